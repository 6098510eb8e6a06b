theorem dc_String_indexOf_1 : decode cd_String_indexOf 1 = .ok (.iload_n 1, 1) := by decide +kernel
theorem dc_String_indexOf_2 : decode cd_String_indexOf 2 = .ok (.iconst 0, 1) := by decide +kernel
theorem dc_String_indexOf_3 : decode cd_String_indexOf 3 = .ok (.invokevirtual 633, 3) := by decide +kernel
theorem dc_String_indexOf_6 : decode cd_String_indexOf 6 = .ok (.ireturn, 1) := by decide +kernel
theorem dc_Clock_where_0 : decode cd_Clock_where 0 = .ok (.aload_n 0, 1) := by decide +kernel
theorem dc_Clock_where_1 : decode cd_Clock_where 1 = .ok (.iload_n 1, 1) := by decide +kernel
theorem dc_Clock_where_2 : decode cd_Clock_where 2 = .ok (.invokevirtual 131, 3) := by decide +kernel
theorem dc_Clock_where_5 : decode cd_Clock_where 5 = .ok (.ifCond .eq 11, 3) := by decide +kernel
theorem dc_Clock_where_8 : decode cd_Clock_where 8 = .ok (.aload_n 0, 1) := by decide +kernel
theorem dc_Clock_where_9 : decode cd_Clock_where 9 = .ok (.iload_n 2, 1) := by decide +kernel
theorem dc_Clock_where_10 : decode cd_Clock_where 10 = .ok (.invokevirtual 158, 3) := by decide +kernel
theorem dc_Clock_where_13 : decode cd_Clock_where 13 = .ok (.ifCond .ne 5, 3) := by decide +kernel
theorem dc_Clock_where_16 : decode cd_Clock_where 16 = .ok (.iconst (-1), 1) := by decide +kernel
theorem dc_Clock_where_17 : decode cd_Clock_where 17 = .ok (.ireturn, 1) := by decide +kernel
theorem dc_Clock_where_18 : decode cd_Clock_where 18 = .ok (.aload_n 0, 1) := by decide +kernel
theorem dc_Clock_where_19 : decode cd_Clock_where 19 = .ok (.getfield 67, 3) := by decide +kernel
theorem dc_Clock_where_22 : decode cd_Clock_where 22 = .ok (.aload_n 0, 1) := by decide +kernel
theorem dc_Clock_where_23 : decode cd_Clock_where 23 = .ok (.getfield 28, 3) := by decide +kernel
theorem dc_Clock_where_26 : decode cd_Clock_where 26 = .ok (.aload_n 0, 1) := by decide +kernel
theorem dc_Clock_where_27 : decode cd_Clock_where 27 = .ok (.getfield 45, 3) := by decide +kernel
theorem dc_Clock_where_30 : decode cd_Clock_where 30 = .ok (.getfield 143, 3) := by decide +kernel
theorem dc_Clock_where_33 : decode cd_Clock_where 33 = .ok (.invokevirtual 161, 3) := by decide +kernel
theorem dc_Clock_where_36 : decode cd_Clock_where 36 = .ok (.aload_n 0, 1) := by decide +kernel
theorem dc_Clock_where_37 : decode cd_Clock_where 37 = .ok (.getfield 67, 3) := by decide +kernel
theorem dc_Clock_where_40 : decode cd_Clock_where 40 = .ok (.iload_n 1, 1) := by decide +kernel
theorem dc_Clock_where_41 : decode cd_Clock_where 41 = .ok (.iload_n 2, 1) := by decide +kernel
theorem dc_Clock_where_42 : decode cd_Clock_where 42 = .ok (.invokevirtual 165, 3) := by decide +kernel
theorem dc_Clock_where_45 : decode cd_Clock_where 45 = .ok (.ireturn, 1) := by decide +kernel
theorem dc_Clock_hour_0 : decode cd_Clock_hour 0 = .ok (.aload_n 0, 1) := by decide +kernel
theorem dc_Clock_hour_1 : decode cd_Clock_hour 1 = .ok (.iload_n 1, 1) := by decide +kernel
theorem dc_Clock_hour_2 : decode cd_Clock_hour 2 = .ok (.invokevirtual 169, 3) := by decide +kernel
theorem dc_Clock_hour_5 : decode cd_Clock_hour 5 = .ok (.ifCond .eq 12, 3) := by decide +kernel
theorem dc_Clock_hour_8 : decode cd_Clock_hour 8 = .ok (.iload_n 2, 1) := by decide +kernel
theorem dc_Clock_hour_9 : decode cd_Clock_hour 9 = .ok (.ifCond .lt 8, 3) := by decide +kernel
theorem dc_Clock_hour_12 : decode cd_Clock_hour 12 = .ok (.iload_n 2, 1) := by decide +kernel
theorem dc_Clock_hour_13 : decode cd_Clock_hour 13 = .ok (.iconst 5, 1) := by decide +kernel
theorem dc_Clock_hour_14 : decode cd_Clock_hour 14 = .ok (.if_icmp .le 6, 3) := by decide +kernel
theorem dc_Clock_hour_17 : decode cd_Clock_hour 17 = .ok (.bipush (-2), 2) := by decide +kernel
theorem dc_Clock_hour_19 : decode cd_Clock_hour 19 = .ok (.ireturn, 1) := by decide +kernel
theorem dc_Clock_hour_20 : decode cd_Clock_hour 20 = .ok (.iload_n 2, 1) := by decide +kernel
theorem dc_Clock_hour_21 : decode cd_Clock_hour 21 = .ok (.tableswitch 60 0 2 #[27, 40, 50], 27) := by decide +kernel
theorem dc_Clock_hour_48 : decode cd_Clock_hour 48 = .ok (.aload_n 0, 1) := by decide +kernel
theorem dc_Clock_hour_49 : decode cd_Clock_hour 49 = .ok (.getfield 45, 3) := by decide +kernel
theorem dc_Clock_hour_52 : decode cd_Clock_hour 52 = .ok (.getfield 143, 3) := by decide +kernel
theorem dc_Clock_hour_55 : decode cd_Clock_hour 55 = .ok (.getfield 172, 3) := by decide +kernel
theorem dc_Clock_hour_58 : decode cd_Clock_hour 58 = .ok (.iload_n 1, 1) := by decide +kernel
theorem dc_Clock_hour_59 : decode cd_Clock_hour 59 = .ok (.iaload, 1) := by decide +kernel
theorem dc_Clock_hour_60 : decode cd_Clock_hour 60 = .ok (.ireturn, 1) := by decide +kernel
theorem dc_Clock_hour_61 : decode cd_Clock_hour 61 = .ok (.aload_n 0, 1) := by decide +kernel
theorem dc_Clock_hour_62 : decode cd_Clock_hour 62 = .ok (.getfield 28, 3) := by decide +kernel
theorem dc_Clock_hour_65 : decode cd_Clock_hour 65 = .ok (.getfield 175, 3) := by decide +kernel
theorem dc_Clock_hour_68 : decode cd_Clock_hour 68 = .ok (.iload_n 1, 1) := by decide +kernel
theorem dc_Clock_hour_69 : decode cd_Clock_hour 69 = .ok (.iaload, 1) := by decide +kernel
theorem dc_Clock_hour_70 : decode cd_Clock_hour 70 = .ok (.ireturn, 1) := by decide +kernel
theorem dc_Clock_hour_71 : decode cd_Clock_hour 71 = .ok (.aload_n 0, 1) := by decide +kernel
theorem dc_Clock_hour_72 : decode cd_Clock_hour 72 = .ok (.getfield 28, 3) := by decide +kernel
theorem dc_Clock_hour_75 : decode cd_Clock_hour 75 = .ok (.getfield 178, 3) := by decide +kernel
theorem dc_Clock_hour_78 : decode cd_Clock_hour 78 = .ok (.iload_n 1, 1) := by decide +kernel
theorem dc_Clock_hour_79 : decode cd_Clock_hour 79 = .ok (.iaload, 1) := by decide +kernel
theorem dc_Clock_hour_80 : decode cd_Clock_hour 80 = .ok (.ireturn, 1) := by decide +kernel
theorem dc_Clock_hour_81 : decode cd_Clock_hour 81 = .ok (.aload_n 0, 1) := by decide +kernel
theorem dc_Clock_hour_82 : decode cd_Clock_hour 82 = .ok (.getfield 67, 3) := by decide +kernel
theorem dc_Clock_hour_85 : decode cd_Clock_hour 85 = .ok (.aload_n 0, 1) := by decide +kernel
theorem dc_Clock_hour_86 : decode cd_Clock_hour 86 = .ok (.getfield 28, 3) := by decide +kernel
theorem dc_Clock_hour_89 : decode cd_Clock_hour 89 = .ok (.aload_n 0, 1) := by decide +kernel
theorem dc_Clock_hour_90 : decode cd_Clock_hour 90 = .ok (.getfield 45, 3) := by decide +kernel
theorem dc_Clock_hour_93 : decode cd_Clock_hour 93 = .ok (.getfield 143, 3) := by decide +kernel
theorem dc_Clock_hour_96 : decode cd_Clock_hour 96 = .ok (.invokevirtual 161, 3) := by decide +kernel
theorem dc_Clock_hour_99 : decode cd_Clock_hour 99 = .ok (.iload_n 2, 1) := by decide +kernel
theorem dc_Clock_hour_100 : decode cd_Clock_hour 100 = .ok (.iconst 3, 1) := by decide +kernel
theorem dc_Clock_hour_101 : decode cd_Clock_hour 101 = .ok (.if_icmp .ne 12, 3) := by decide +kernel
theorem dc_Clock_hour_104 : decode cd_Clock_hour 104 = .ok (.aload_n 0, 1) := by decide +kernel
theorem dc_Clock_hour_105 : decode cd_Clock_hour 105 = .ok (.getfield 67, 3) := by decide +kernel
theorem dc_Clock_hour_108 : decode cd_Clock_hour 108 = .ok (.iload_n 1, 1) := by decide +kernel
theorem dc_Clock_hour_109 : decode cd_Clock_hour 109 = .ok (.invokevirtual 181, 3) := by decide +kernel
theorem dc_Clock_hour_112 : decode cd_Clock_hour 112 = .ok (.ireturn, 1) := by decide +kernel
theorem dc_Clock_hour_113 : decode cd_Clock_hour 113 = .ok (.iload_n 2, 1) := by decide +kernel
theorem dc_Clock_hour_114 : decode cd_Clock_hour 114 = .ok (.iconst 4, 1) := by decide +kernel
theorem dc_Clock_hour_115 : decode cd_Clock_hour 115 = .ok (.if_icmp .ne 14, 3) := by decide +kernel
theorem dc_Clock_hour_118 : decode cd_Clock_hour 118 = .ok (.aload_n 0, 1) := by decide +kernel
theorem dc_Clock_hour_119 : decode cd_Clock_hour 119 = .ok (.getfield 67, 3) := by decide +kernel
theorem dc_Clock_hour_122 : decode cd_Clock_hour 122 = .ok (.iload_n 1, 1) := by decide +kernel
theorem dc_Clock_hour_123 : decode cd_Clock_hour 123 = .ok (.invokevirtual 185, 3) := by decide +kernel
theorem dc_Clock_hour_126 : decode cd_Clock_hour 126 = .ok (.goto 11, 3) := by decide +kernel
theorem dc_Clock_hour_129 : decode cd_Clock_hour 129 = .ok (.aload_n 0, 1) := by decide +kernel
theorem dc_Clock_hour_130 : decode cd_Clock_hour 130 = .ok (.getfield 67, 3) := by decide +kernel
theorem dc_Clock_hour_133 : decode cd_Clock_hour 133 = .ok (.iload_n 1, 1) := by decide +kernel
theorem dc_Clock_hour_134 : decode cd_Clock_hour 134 = .ok (.invokevirtual 188, 3) := by decide +kernel
theorem dc_Clock_hour_137 : decode cd_Clock_hour 137 = .ok (.ireturn, 1) := by decide +kernel
theorem dc_Clock_meet_0 : decode cd_Clock_meet 0 = .ok (.aload_n 0, 1) := by decide +kernel
theorem dc_Clock_meet_1 : decode cd_Clock_meet 1 = .ok (.iload_n 1, 1) := by decide +kernel
theorem dc_Clock_meet_2 : decode cd_Clock_meet 2 = .ok (.iload_n 2, 1) := by decide +kernel
theorem dc_Clock_meet_3 : decode cd_Clock_meet 3 = .ok (.invokevirtual 191, 3) := by decide +kernel
theorem dc_Clock_meet_6 : decode cd_Clock_meet 6 = .ok (.ifCond .eq 12, 3) := by decide +kernel
theorem dc_Clock_meet_9 : decode cd_Clock_meet 9 = .ok (.iload_n 3, 1) := by decide +kernel
theorem dc_Clock_meet_10 : decode cd_Clock_meet 10 = .ok (.ifCond .lt 8, 3) := by decide +kernel
theorem dc_Clock_meet_13 : decode cd_Clock_meet 13 = .ok (.iload_n 3, 1) := by decide +kernel
theorem dc_Clock_meet_14 : decode cd_Clock_meet 14 = .ok (.iconst 1, 1) := by decide +kernel
theorem dc_Clock_meet_15 : decode cd_Clock_meet 15 = .ok (.if_icmp .le 6, 3) := by decide +kernel
theorem dc_Clock_meet_18 : decode cd_Clock_meet 18 = .ok (.bipush (-2), 2) := by decide +kernel
theorem dc_Clock_meet_20 : decode cd_Clock_meet 20 = .ok (.ireturn, 1) := by decide +kernel
theorem dc_Clock_meet_21 : decode cd_Clock_meet 21 = .ok (.aload_n 0, 1) := by decide +kernel
theorem dc_Clock_meet_22 : decode cd_Clock_meet 22 = .ok (.getfield 67, 3) := by decide +kernel
theorem dc_Clock_meet_25 : decode cd_Clock_meet 25 = .ok (.aload_n 0, 1) := by decide +kernel
theorem dc_Clock_meet_26 : decode cd_Clock_meet 26 = .ok (.getfield 28, 3) := by decide +kernel
theorem dc_Clock_meet_29 : decode cd_Clock_meet 29 = .ok (.aload_n 0, 1) := by decide +kernel
theorem dc_Clock_meet_30 : decode cd_Clock_meet 30 = .ok (.getfield 45, 3) := by decide +kernel
theorem dc_Clock_meet_33 : decode cd_Clock_meet 33 = .ok (.getfield 143, 3) := by decide +kernel
theorem dc_Clock_meet_36 : decode cd_Clock_meet 36 = .ok (.invokevirtual 161, 3) := by decide +kernel
theorem dc_Clock_meet_39 : decode cd_Clock_meet 39 = .ok (.aload_n 0, 1) := by decide +kernel
theorem dc_Clock_meet_40 : decode cd_Clock_meet 40 = .ok (.getfield 67, 3) := by decide +kernel
theorem dc_Clock_meet_43 : decode cd_Clock_meet 43 = .ok (.iload_n 1, 1) := by decide +kernel
theorem dc_Clock_meet_44 : decode cd_Clock_meet 44 = .ok (.iload_n 2, 1) := by decide +kernel
theorem dc_Clock_meet_45 : decode cd_Clock_meet 45 = .ok (.invokevirtual 195, 3) := by decide +kernel
theorem dc_Clock_meet_48 : decode cd_Clock_meet 48 = .ok (.istore 4, 2) := by decide +kernel
theorem dc_Clock_meet_50 : decode cd_Clock_meet 50 = .ok (.iload_n 3, 1) := by decide +kernel
theorem dc_Clock_meet_51 : decode cd_Clock_meet 51 = .ok (.ifCond .eq 9, 3) := by decide +kernel
theorem dc_Clock_meet_54 : decode cd_Clock_meet 54 = .ok (.iload 4, 2) := by decide +kernel
theorem dc_Clock_meet_56 : decode cd_Clock_meet 56 = .ok (.iconst (-1), 1) := by decide +kernel
theorem dc_Clock_meet_57 : decode cd_Clock_meet 57 = .ok (.if_icmp .ne 8, 3) := by decide +kernel
theorem dc_Clock_meet_60 : decode cd_Clock_meet 60 = .ok (.iload 4, 2) := by decide +kernel
theorem dc_Clock_meet_62 : decode cd_Clock_meet 62 = .ok (.goto 13, 3) := by decide +kernel
theorem dc_Clock_meet_65 : decode cd_Clock_meet 65 = .ok (.aload_n 0, 1) := by decide +kernel
theorem dc_Clock_meet_66 : decode cd_Clock_meet 66 = .ok (.getfield 67, 3) := by decide +kernel
theorem dc_Clock_meet_69 : decode cd_Clock_meet 69 = .ok (.iload_n 1, 1) := by decide +kernel
theorem dc_Clock_meet_70 : decode cd_Clock_meet 70 = .ok (.iload 4, 2) := by decide +kernel
theorem dc_Clock_meet_72 : decode cd_Clock_meet 72 = .ok (.invokevirtual 165, 3) := by decide +kernel
theorem dc_Clock_meet_75 : decode cd_Clock_meet 75 = .ok (.ireturn, 1) := by decide +kernel
theorem dc_Clock_sure_0 : decode cd_Clock_sure 0 = .ok (.aload_n 0, 1) := by decide +kernel
theorem dc_Clock_sure_1 : decode cd_Clock_sure 1 = .ok (.iload_n 1, 1) := by decide +kernel
theorem dc_Clock_sure_2 : decode cd_Clock_sure 2 = .ok (.iload_n 2, 1) := by decide +kernel
theorem dc_Clock_sure_3 : decode cd_Clock_sure 3 = .ok (.invokevirtual 191, 3) := by decide +kernel
theorem dc_Clock_sure_6 : decode cd_Clock_sure 6 = .ok (.ifCond .eq 12, 3) := by decide +kernel
theorem dc_Clock_sure_9 : decode cd_Clock_sure 9 = .ok (.iload_n 3, 1) := by decide +kernel
theorem dc_Clock_sure_10 : decode cd_Clock_sure 10 = .ok (.ifCond .lt 8, 3) := by decide +kernel
theorem dc_Clock_sure_13 : decode cd_Clock_sure 13 = .ok (.iload_n 3, 1) := by decide +kernel
theorem dc_Clock_sure_14 : decode cd_Clock_sure 14 = .ok (.iconst 1, 1) := by decide +kernel
theorem dc_Clock_sure_15 : decode cd_Clock_sure 15 = .ok (.if_icmp .le 5, 3) := by decide +kernel
theorem dc_Clock_sure_18 : decode cd_Clock_sure 18 = .ok (.iconst (-1), 1) := by decide +kernel
theorem dc_Clock_sure_19 : decode cd_Clock_sure 19 = .ok (.ireturn, 1) := by decide +kernel
theorem dc_Clock_sure_20 : decode cd_Clock_sure 20 = .ok (.aload_n 0, 1) := by decide +kernel
theorem dc_Clock_sure_21 : decode cd_Clock_sure 21 = .ok (.getfield 60, 3) := by decide +kernel
theorem dc_Clock_sure_24 : decode cd_Clock_sure 24 = .ok (.aload_n 0, 1) := by decide +kernel
theorem dc_Clock_sure_25 : decode cd_Clock_sure 25 = .ok (.getfield 45, 3) := by decide +kernel
theorem dc_Clock_sure_28 : decode cd_Clock_sure 28 = .ok (.getfield 143, 3) := by decide +kernel
theorem dc_Clock_sure_31 : decode cd_Clock_sure 31 = .ok (.invokevirtual 222, 3) := by decide +kernel
theorem dc_Clock_sure_34 : decode cd_Clock_sure 34 = .ok (.aload_n 0, 1) := by decide +kernel
theorem dc_Clock_sure_35 : decode cd_Clock_sure 35 = .ok (.getfield 60, 3) := by decide +kernel
theorem dc_Clock_sure_38 : decode cd_Clock_sure 38 = .ok (.iconst 0, 1) := by decide +kernel
theorem dc_Clock_sure_39 : decode cd_Clock_sure 39 = .ok (.putfield 209, 3) := by decide +kernel
theorem dc_Clock_sure_42 : decode cd_Clock_sure 42 = .ok (.aload_n 0, 1) := by decide +kernel
theorem dc_Clock_sure_43 : decode cd_Clock_sure 43 = .ok (.getfield 67, 3) := by decide +kernel
theorem dc_Clock_sure_46 : decode cd_Clock_sure 46 = .ok (.aload_n 0, 1) := by decide +kernel
theorem dc_Clock_sure_47 : decode cd_Clock_sure 47 = .ok (.getfield 28, 3) := by decide +kernel
theorem dc_Clock_sure_50 : decode cd_Clock_sure 50 = .ok (.aload_n 0, 1) := by decide +kernel
theorem dc_Clock_sure_51 : decode cd_Clock_sure 51 = .ok (.getfield 60, 3) := by decide +kernel
theorem dc_Clock_sure_54 : decode cd_Clock_sure 54 = .ok (.invokevirtual 161, 3) := by decide +kernel
theorem dc_Clock_sure_57 : decode cd_Clock_sure 57 = .ok (.iconst 0, 1) := by decide +kernel
theorem dc_Clock_sure_58 : decode cd_Clock_sure 58 = .ok (.istore 4, 2) := by decide +kernel
theorem dc_Clock_sure_60 : decode cd_Clock_sure 60 = .ok (.iload 4, 2) := by decide +kernel
theorem dc_Clock_sure_62 : decode cd_Clock_sure 62 = .ok (.aload_n 0, 1) := by decide +kernel
theorem dc_Clock_sure_63 : decode cd_Clock_sure 63 = .ok (.getfield 28, 3) := by decide +kernel
theorem dc_Clock_sure_66 : decode cd_Clock_sure 66 = .ok (.getfield 257, 3) := by decide +kernel
theorem dc_Clock_sure_69 : decode cd_Clock_sure 69 = .ok (.if_icmp .ge 27, 3) := by decide +kernel
theorem dc_Clock_sure_72 : decode cd_Clock_sure 72 = .ok (.aload_n 0, 1) := by decide +kernel
theorem dc_Clock_sure_73 : decode cd_Clock_sure 73 = .ok (.getfield 82, 3) := by decide +kernel
theorem dc_Clock_sure_76 : decode cd_Clock_sure 76 = .ok (.iload 4, 2) := by decide +kernel
theorem dc_Clock_sure_78 : decode cd_Clock_sure 78 = .ok (.aload_n 0, 1) := by decide +kernel
theorem dc_Clock_sure_79 : decode cd_Clock_sure 79 = .ok (.getfield 67, 3) := by decide +kernel
theorem dc_Clock_sure_82 : decode cd_Clock_sure 82 = .ok (.iload_n 1, 1) := by decide +kernel
theorem dc_Clock_sure_83 : decode cd_Clock_sure 83 = .ok (.iload_n 2, 1) := by decide +kernel
theorem dc_Clock_sure_84 : decode cd_Clock_sure 84 = .ok (.iload 4, 2) := by decide +kernel
theorem dc_Clock_sure_86 : decode cd_Clock_sure 86 = .ok (.invokevirtual 273, 3) := by decide +kernel
theorem dc_Clock_sure_89 : decode cd_Clock_sure 89 = .ok (.iastore, 1) := by decide +kernel
theorem dc_Clock_sure_90 : decode cd_Clock_sure 90 = .ok (.iinc 4 1, 3) := by decide +kernel
theorem dc_Clock_sure_93 : decode cd_Clock_sure 93 = .ok (.goto (-33), 3) := by decide +kernel
theorem dc_Clock_sure_96 : decode cd_Clock_sure 96 = .ok (.aload_n 0, 1) := by decide +kernel
theorem dc_Clock_sure_97 : decode cd_Clock_sure 97 = .ok (.getfield 60, 3) := by decide +kernel
theorem dc_Clock_sure_100 : decode cd_Clock_sure 100 = .ok (.iconst 1, 1) := by decide +kernel
theorem dc_Clock_sure_101 : decode cd_Clock_sure 101 = .ok (.putfield 209, 3) := by decide +kernel
theorem dc_Clock_sure_104 : decode cd_Clock_sure 104 = .ok (.aload_n 0, 1) := by decide +kernel
theorem dc_Clock_sure_105 : decode cd_Clock_sure 105 = .ok (.getfield 67, 3) := by decide +kernel
theorem dc_Clock_sure_108 : decode cd_Clock_sure 108 = .ok (.aload_n 0, 1) := by decide +kernel
theorem dc_Clock_sure_109 : decode cd_Clock_sure 109 = .ok (.getfield 28, 3) := by decide +kernel
theorem dc_Clock_sure_112 : decode cd_Clock_sure 112 = .ok (.aload_n 0, 1) := by decide +kernel
theorem dc_Clock_sure_113 : decode cd_Clock_sure 113 = .ok (.getfield 60, 3) := by decide +kernel
theorem dc_Clock_sure_116 : decode cd_Clock_sure 116 = .ok (.invokevirtual 161, 3) := by decide +kernel
theorem dc_Clock_sure_119 : decode cd_Clock_sure 119 = .ok (.iconst (-1), 1) := by decide +kernel
theorem dc_Clock_sure_120 : decode cd_Clock_sure 120 = .ok (.istore 4, 2) := by decide +kernel
theorem dc_Clock_sure_122 : decode cd_Clock_sure 122 = .ok (.sipush 240, 3) := by decide +kernel
theorem dc_Clock_sure_125 : decode cd_Clock_sure 125 = .ok (.istore 5, 2) := by decide +kernel
theorem dc_Clock_sure_127 : decode cd_Clock_sure 127 = .ok (.iconst 0, 1) := by decide +kernel
theorem dc_Clock_sure_128 : decode cd_Clock_sure 128 = .ok (.istore 6, 2) := by decide +kernel
theorem dc_Clock_sure_130 : decode cd_Clock_sure 130 = .ok (.iload 6, 2) := by decide +kernel
theorem dc_Clock_sure_132 : decode cd_Clock_sure 132 = .ok (.aload_n 0, 1) := by decide +kernel
theorem dc_Clock_sure_133 : decode cd_Clock_sure 133 = .ok (.getfield 28, 3) := by decide +kernel
theorem dc_Clock_sure_136 : decode cd_Clock_sure 136 = .ok (.getfield 257, 3) := by decide +kernel
theorem dc_Clock_sure_139 : decode cd_Clock_sure 139 = .ok (.if_icmp .ge 68, 3) := by decide +kernel
theorem dc_Clock_sure_142 : decode cd_Clock_sure 142 = .ok (.aload_n 0, 1) := by decide +kernel
theorem dc_Clock_sure_143 : decode cd_Clock_sure 143 = .ok (.getfield 67, 3) := by decide +kernel
theorem dc_Clock_sure_146 : decode cd_Clock_sure 146 = .ok (.iload_n 1, 1) := by decide +kernel
theorem dc_Clock_sure_147 : decode cd_Clock_sure 147 = .ok (.iload_n 2, 1) := by decide +kernel
theorem dc_Clock_sure_148 : decode cd_Clock_sure 148 = .ok (.iload 6, 2) := by decide +kernel
theorem dc_Clock_sure_150 : decode cd_Clock_sure 150 = .ok (.invokevirtual 273, 3) := by decide +kernel
theorem dc_Clock_sure_153 : decode cd_Clock_sure 153 = .ok (.istore 7, 2) := by decide +kernel
theorem dc_Clock_sure_155 : decode cd_Clock_sure 155 = .ok (.iload 7, 2) := by decide +kernel
theorem dc_Clock_sure_157 : decode cd_Clock_sure 157 = .ok (.aload_n 0, 1) := by decide +kernel
theorem dc_Clock_sure_158 : decode cd_Clock_sure 158 = .ok (.getfield 82, 3) := by decide +kernel
theorem dc_Clock_sure_161 : decode cd_Clock_sure 161 = .ok (.iload 6, 2) := by decide +kernel
theorem dc_Clock_sure_163 : decode cd_Clock_sure 163 = .ok (.iaload, 1) := by decide +kernel
theorem dc_Clock_sure_164 : decode cd_Clock_sure 164 = .ok (.invokestatic 277, 3) := by decide +kernel
theorem dc_Clock_sure_167 : decode cd_Clock_sure 167 = .ok (.istore 8, 2) := by decide +kernel
theorem dc_Clock_sure_169 : decode cd_Clock_sure 169 = .ok (.iload 7, 2) := by decide +kernel
theorem dc_Clock_sure_171 : decode cd_Clock_sure 171 = .ok (.iconst (-1), 1) := by decide +kernel
theorem dc_Clock_sure_172 : decode cd_Clock_sure 172 = .ok (.if_icmp .eq 29, 3) := by decide +kernel
theorem dc_Clock_sure_175 : decode cd_Clock_sure 175 = .ok (.aload_n 0, 1) := by decide +kernel
theorem dc_Clock_sure_176 : decode cd_Clock_sure 176 = .ok (.getfield 82, 3) := by decide +kernel
theorem dc_Clock_sure_179 : decode cd_Clock_sure 179 = .ok (.iload 6, 2) := by decide +kernel
theorem dc_Clock_sure_181 : decode cd_Clock_sure 181 = .ok (.iaload, 1) := by decide +kernel
theorem dc_Clock_sure_182 : decode cd_Clock_sure 182 = .ok (.iconst (-1), 1) := by decide +kernel
theorem dc_Clock_sure_183 : decode cd_Clock_sure 183 = .ok (.if_icmp .eq 18, 3) := by decide +kernel
theorem dc_Clock_sure_186 : decode cd_Clock_sure 186 = .ok (.iload 8, 2) := by decide +kernel
theorem dc_Clock_sure_188 : decode cd_Clock_sure 188 = .ok (.iload 5, 2) := by decide +kernel
theorem dc_Clock_sure_190 : decode cd_Clock_sure 190 = .ok (.if_icmp .ge 11, 3) := by decide +kernel
theorem dc_Clock_sure_193 : decode cd_Clock_sure 193 = .ok (.iload 8, 2) := by decide +kernel
theorem dc_Clock_sure_195 : decode cd_Clock_sure 195 = .ok (.istore 5, 2) := by decide +kernel
theorem dc_Clock_sure_197 : decode cd_Clock_sure 197 = .ok (.iload 6, 2) := by decide +kernel
theorem dc_Clock_sure_199 : decode cd_Clock_sure 199 = .ok (.istore 4, 2) := by decide +kernel
theorem dc_Clock_sure_201 : decode cd_Clock_sure 201 = .ok (.iinc 6 1, 3) := by decide +kernel
theorem dc_Clock_sure_204 : decode cd_Clock_sure 204 = .ok (.goto (-74), 3) := by decide +kernel
theorem dc_Clock_sure_207 : decode cd_Clock_sure 207 = .ok (.iload_n 3, 1) := by decide +kernel
theorem dc_Clock_sure_208 : decode cd_Clock_sure 208 = .ok (.ifCond .eq 9, 3) := by decide +kernel
theorem dc_Clock_sure_211 : decode cd_Clock_sure 211 = .ok (.iload 4, 2) := by decide +kernel
theorem dc_Clock_sure_213 : decode cd_Clock_sure 213 = .ok (.iconst (-1), 1) := by decide +kernel
theorem dc_Clock_sure_214 : decode cd_Clock_sure 214 = .ok (.if_icmp .ne 8, 3) := by decide +kernel
theorem dc_Clock_sure_217 : decode cd_Clock_sure 217 = .ok (.iload 4, 2) := by decide +kernel
theorem dc_Clock_sure_219 : decode cd_Clock_sure 219 = .ok (.goto 5, 3) := by decide +kernel
theorem dc_Clock_sure_222 : decode cd_Clock_sure 222 = .ok (.iload 5, 2) := by decide +kernel
theorem dc_Clock_sure_224 : decode cd_Clock_sure 224 = .ok (.ireturn, 1) := by decide +kernel
theorem dc_Clock_sets_0 : decode cd_Clock_sets 0 = .ok (.iload_n 1, 1) := by decide +kernel
theorem dc_Clock_sets_1 : decode cd_Clock_sets 1 = .ok (.iconst 1, 1) := by decide +kernel
theorem dc_Clock_sets_2 : decode cd_Clock_sets 2 = .ok (.if_icmp .lt 18, 3) := by decide +kernel
theorem dc_Clock_sets_5 : decode cd_Clock_sets 5 = .ok (.iload_n 1, 1) := by decide +kernel
theorem dc_Clock_sets_6 : decode cd_Clock_sets 6 = .ok (.bipush 60, 2) := by decide +kernel
theorem dc_Clock_sets_8 : decode cd_Clock_sets 8 = .ok (.if_icmp .gt 12, 3) := by decide +kernel
theorem dc_Clock_sets_11 : decode cd_Clock_sets 11 = .ok (.iload_n 2, 1) := by decide +kernel
theorem dc_Clock_sets_12 : decode cd_Clock_sets 12 = .ok (.ifCond .lt 8, 3) := by decide +kernel
theorem dc_Clock_sets_15 : decode cd_Clock_sets 15 = .ok (.iload_n 2, 1) := by decide +kernel
theorem dc_Clock_sets_16 : decode cd_Clock_sets 16 = .ok (.iconst 3, 1) := by decide +kernel
theorem dc_Clock_sets_17 : decode cd_Clock_sets 17 = .ok (.if_icmp .le 5, 3) := by decide +kernel
theorem dc_Clock_sets_20 : decode cd_Clock_sets 20 = .ok (.iconst (-1), 1) := by decide +kernel
theorem dc_Clock_sets_21 : decode cd_Clock_sets 21 = .ok (.ireturn, 1) := by decide +kernel
theorem dc_Clock_sets_22 : decode cd_Clock_sets 22 = .ok (.iconst 0, 1) := by decide +kernel
theorem dc_Clock_sets_23 : decode cd_Clock_sets 23 = .ok (.istore_n 3, 1) := by decide +kernel
theorem dc_Clock_sets_24 : decode cd_Clock_sets 24 = .ok (.iconst 1, 1) := by decide +kernel
theorem dc_Clock_sets_25 : decode cd_Clock_sets 25 = .ok (.aload_n 0, 1) := by decide +kernel
theorem dc_Clock_sets_26 : decode cd_Clock_sets 26 = .ok (.getfield 28, 3) := by decide +kernel
theorem dc_Clock_sets_29 : decode cd_Clock_sets 29 = .ok (.getfield 282, 3) := by decide +kernel
theorem dc_Clock_sets_32 : decode cd_Clock_sets 32 = .ok (.ishl, 1) := by decide +kernel
theorem dc_Clock_sets_33 : decode cd_Clock_sets 33 = .ok (.iconst 1, 1) := by decide +kernel
theorem dc_Clock_sets_34 : decode cd_Clock_sets 34 = .ok (.isub, 1) := by decide +kernel
theorem dc_Clock_sets_35 : decode cd_Clock_sets 35 = .ok (.istore 4, 2) := by decide +kernel
theorem dc_Clock_sets_37 : decode cd_Clock_sets 37 = .ok (.iconst 0, 1) := by decide +kernel
theorem dc_Clock_sets_38 : decode cd_Clock_sets 38 = .ok (.istore 5, 2) := by decide +kernel
theorem dc_Clock_sets_40 : decode cd_Clock_sets 40 = .ok (.iconst (-1), 1) := by decide +kernel
theorem dc_Clock_sets_41 : decode cd_Clock_sets 41 = .ok (.istore 6, 2) := by decide +kernel
theorem dc_Clock_sets_43 : decode cd_Clock_sets 43 = .ok (.iconst 0, 1) := by decide +kernel
theorem dc_Clock_sets_44 : decode cd_Clock_sets 44 = .ok (.istore 7, 2) := by decide +kernel
theorem dc_Clock_sets_46 : decode cd_Clock_sets 46 = .ok (.iload 7, 2) := by decide +kernel
theorem dc_Clock_sets_48 : decode cd_Clock_sets 48 = .ok (.iconst 1, 1) := by decide +kernel
theorem dc_Clock_sets_49 : decode cd_Clock_sets 49 = .ok (.aload_n 0, 1) := by decide +kernel
theorem dc_Clock_sets_50 : decode cd_Clock_sets 50 = .ok (.getfield 28, 3) := by decide +kernel
theorem dc_Clock_sets_53 : decode cd_Clock_sets 53 = .ok (.getfield 282, 3) := by decide +kernel
theorem dc_Clock_sets_56 : decode cd_Clock_sets 56 = .ok (.ishl, 1) := by decide +kernel
theorem dc_Clock_sets_57 : decode cd_Clock_sets 57 = .ok (.if_icmp .ge 106, 3) := by decide +kernel
theorem dc_Clock_sets_60 : decode cd_Clock_sets 60 = .ok (.aload_n 0, 1) := by decide +kernel
theorem dc_Clock_sets_61 : decode cd_Clock_sets 61 = .ok (.getfield 60, 3) := by decide +kernel
theorem dc_Clock_sets_64 : decode cd_Clock_sets 64 = .ok (.aload_n 0, 1) := by decide +kernel
theorem dc_Clock_sets_65 : decode cd_Clock_sets 65 = .ok (.getfield 45, 3) := by decide +kernel
theorem dc_Clock_sets_68 : decode cd_Clock_sets 68 = .ok (.getfield 143, 3) := by decide +kernel
theorem dc_Clock_sets_71 : decode cd_Clock_sets 71 = .ok (.invokevirtual 222, 3) := by decide +kernel
theorem dc_Clock_sets_74 : decode cd_Clock_sets 74 = .ok (.aload_n 0, 1) := by decide +kernel
theorem dc_Clock_sets_75 : decode cd_Clock_sets 75 = .ok (.getfield 60, 3) := by decide +kernel
theorem dc_Clock_sets_78 : decode cd_Clock_sets 78 = .ok (.iload 7, 2) := by decide +kernel
theorem dc_Clock_sets_80 : decode cd_Clock_sets 80 = .ok (.iload_n 1, 1) := by decide +kernel
theorem dc_Clock_sets_81 : decode cd_Clock_sets 81 = .ok (.invokevirtual 295, 3) := by decide +kernel
theorem dc_Clock_sets_84 : decode cd_Clock_sets 84 = .ok (.aload_n 0, 1) := by decide +kernel
theorem dc_Clock_sets_85 : decode cd_Clock_sets 85 = .ok (.getfield 67, 3) := by decide +kernel
theorem dc_Clock_sets_88 : decode cd_Clock_sets 88 = .ok (.aload_n 0, 1) := by decide +kernel
theorem dc_Clock_sets_89 : decode cd_Clock_sets 89 = .ok (.getfield 28, 3) := by decide +kernel
theorem dc_Clock_sets_92 : decode cd_Clock_sets 92 = .ok (.aload_n 0, 1) := by decide +kernel
theorem dc_Clock_sets_93 : decode cd_Clock_sets 93 = .ok (.getfield 60, 3) := by decide +kernel
theorem dc_Clock_sets_96 : decode cd_Clock_sets 96 = .ok (.invokevirtual 161, 3) := by decide +kernel
theorem dc_Clock_sets_99 : decode cd_Clock_sets 99 = .ok (.aload_n 0, 1) := by decide +kernel
theorem dc_Clock_sets_100 : decode cd_Clock_sets 100 = .ok (.getfield 45, 3) := by decide +kernel
theorem dc_Clock_sets_103 : decode cd_Clock_sets 103 = .ok (.aload_n 0, 1) := by decide +kernel
theorem dc_Clock_sets_104 : decode cd_Clock_sets 104 = .ok (.getfield 28, 3) := by decide +kernel
theorem dc_Clock_sets_107 : decode cd_Clock_sets 107 = .ok (.aload_n 0, 1) := by decide +kernel
theorem dc_Clock_sets_108 : decode cd_Clock_sets 108 = .ok (.getfield 67, 3) := by decide +kernel
theorem dc_Clock_sets_111 : decode cd_Clock_sets 111 = .ok (.invokevirtual 299, 3) := by decide +kernel
theorem dc_Clock_sets_114 : decode cd_Clock_sets 114 = .ok (.ifCond .eq 43, 3) := by decide +kernel
theorem dc_Clock_sets_117 : decode cd_Clock_sets 117 = .ok (.iinc 3 1, 3) := by decide +kernel
theorem dc_Clock_sets_120 : decode cd_Clock_sets 120 = .ok (.iload 4, 2) := by decide +kernel
theorem dc_Clock_sets_122 : decode cd_Clock_sets 122 = .ok (.iload 7, 2) := by decide +kernel
theorem dc_Clock_sets_124 : decode cd_Clock_sets 124 = .ok (.iand, 1) := by decide +kernel
theorem dc_Clock_sets_125 : decode cd_Clock_sets 125 = .ok (.istore 4, 2) := by decide +kernel
theorem dc_Clock_sets_127 : decode cd_Clock_sets 127 = .ok (.iload 5, 2) := by decide +kernel
theorem dc_Clock_sets_129 : decode cd_Clock_sets 129 = .ok (.iload 7, 2) := by decide +kernel
theorem dc_Clock_sets_131 : decode cd_Clock_sets 131 = .ok (.ior, 1) := by decide +kernel
theorem dc_Clock_sets_132 : decode cd_Clock_sets 132 = .ok (.istore 5, 2) := by decide +kernel
theorem dc_Clock_sets_134 : decode cd_Clock_sets 134 = .ok (.iload 6, 2) := by decide +kernel
theorem dc_Clock_sets_136 : decode cd_Clock_sets 136 = .ok (.iconst (-1), 1) := by decide +kernel
theorem dc_Clock_sets_137 : decode cd_Clock_sets 137 = .ok (.if_icmp .eq 16, 3) := by decide +kernel
theorem dc_Clock_sets_140 : decode cd_Clock_sets 140 = .ok (.iload 7, 2) := by decide +kernel
theorem dc_Clock_sets_142 : decode cd_Clock_sets 142 = .ok (.invokestatic 303, 3) := by decide +kernel
theorem dc_Clock_sets_145 : decode cd_Clock_sets 145 = .ok (.iload 6, 2) := by decide +kernel
theorem dc_Clock_sets_147 : decode cd_Clock_sets 147 = .ok (.invokestatic 303, 3) := by decide +kernel
theorem dc_Clock_sets_150 : decode cd_Clock_sets 150 = .ok (.if_icmp .ge 7, 3) := by decide +kernel
theorem dc_Clock_sets_153 : decode cd_Clock_sets 153 = .ok (.iload 7, 2) := by decide +kernel
theorem dc_Clock_sets_155 : decode cd_Clock_sets 155 = .ok (.istore 6, 2) := by decide +kernel
theorem dc_Clock_sets_157 : decode cd_Clock_sets 157 = .ok (.iinc 7 1, 3) := by decide +kernel
theorem dc_Clock_sets_160 : decode cd_Clock_sets 160 = .ok (.goto (-114), 3) := by decide +kernel
theorem dc_Clock_sets_163 : decode cd_Clock_sets 163 = .ok (.iload_n 2, 1) := by decide +kernel
theorem dc_Clock_sets_164 : decode cd_Clock_sets 164 = .ok (.ifCond .eq 7, 3) := by decide +kernel
theorem dc_Clock_sets_167 : decode cd_Clock_sets 167 = .ok (.iload_n 3, 1) := by decide +kernel
theorem dc_Clock_sets_168 : decode cd_Clock_sets 168 = .ok (.ifCond .ne 13, 3) := by decide +kernel
theorem dc_Clock_sets_171 : decode cd_Clock_sets 171 = .ok (.iload_n 2, 1) := by decide +kernel
theorem dc_Clock_sets_172 : decode cd_Clock_sets 172 = .ok (.ifCond .ne 7, 3) := by decide +kernel
theorem dc_Clock_sets_175 : decode cd_Clock_sets 175 = .ok (.iload_n 3, 1) := by decide +kernel
theorem dc_Clock_sets_176 : decode cd_Clock_sets 176 = .ok (.goto 4, 3) := by decide +kernel
theorem dc_Clock_sets_179 : decode cd_Clock_sets 179 = .ok (.iconst (-1), 1) := by decide +kernel
theorem dc_Clock_sets_180 : decode cd_Clock_sets 180 = .ok (.ireturn, 1) := by decide +kernel
theorem dc_Clock_sets_181 : decode cd_Clock_sets 181 = .ok (.iload_n 2, 1) := by decide +kernel
theorem dc_Clock_sets_182 : decode cd_Clock_sets 182 = .ok (.iconst 3, 1) := by decide +kernel
theorem dc_Clock_sets_183 : decode cd_Clock_sets 183 = .ok (.if_icmp .ne 6, 3) := by decide +kernel
theorem dc_Clock_sets_186 : decode cd_Clock_sets 186 = .ok (.iload 6, 2) := by decide +kernel
theorem dc_Clock_sets_188 : decode cd_Clock_sets 188 = .ok (.ireturn, 1) := by decide +kernel
theorem dc_Clock_sets_189 : decode cd_Clock_sets 189 = .ok (.iload_n 2, 1) := by decide +kernel
theorem dc_Clock_sets_190 : decode cd_Clock_sets 190 = .ok (.iconst 1, 1) := by decide +kernel
theorem dc_Clock_sets_191 : decode cd_Clock_sets 191 = .ok (.if_icmp .ne 8, 3) := by decide +kernel
theorem dc_Clock_sets_194 : decode cd_Clock_sets 194 = .ok (.iload 4, 2) := by decide +kernel
theorem dc_Clock_sets_196 : decode cd_Clock_sets 196 = .ok (.goto 5, 3) := by decide +kernel
theorem dc_Clock_sets_199 : decode cd_Clock_sets 199 = .ok (.iload 5, 2) := by decide +kernel
theorem dc_Clock_sets_201 : decode cd_Clock_sets 201 = .ok (.ireturn, 1) := by decide +kernel
theorem dc_Clock_lookRound_0 : decode cd_Clock_lookRound 0 = .ok (.aload_n 0, 1) := by decide +kernel
theorem dc_Clock_lookRound_1 : decode cd_Clock_lookRound 1 = .ok (.getfield 67, 3) := by decide +kernel
theorem dc_Clock_lookRound_4 : decode cd_Clock_lookRound 4 = .ok (.aload_n 0, 1) := by decide +kernel
theorem dc_Clock_lookRound_5 : decode cd_Clock_lookRound 5 = .ok (.getfield 28, 3) := by decide +kernel
theorem dc_Clock_lookRound_8 : decode cd_Clock_lookRound 8 = .ok (.aload_n 0, 1) := by decide +kernel
theorem dc_Clock_lookRound_9 : decode cd_Clock_lookRound 9 = .ok (.getfield 45, 3) := by decide +kernel
theorem dc_Clock_lookRound_12 : decode cd_Clock_lookRound 12 = .ok (.getfield 143, 3) := by decide +kernel
theorem dc_Clock_lookRound_15 : decode cd_Clock_lookRound 15 = .ok (.invokevirtual 161, 3) := by decide +kernel
theorem dc_Clock_lookRound_18 : decode cd_Clock_lookRound 18 = .ok (.aload_n 0, 1) := by decide +kernel
theorem dc_Clock_lookRound_19 : decode cd_Clock_lookRound 19 = .ok (.getfield 74, 3) := by decide +kernel
theorem dc_Clock_lookRound_22 : decode cd_Clock_lookRound 22 = .ok (.aload_n 0, 1) := by decide +kernel
theorem dc_Clock_lookRound_23 : decode cd_Clock_lookRound 23 = .ok (.getfield 67, 3) := by decide +kernel
theorem dc_Clock_lookRound_26 : decode cd_Clock_lookRound 26 = .ok (.aload_n 0, 1) := by decide +kernel
theorem dc_Clock_lookRound_27 : decode cd_Clock_lookRound 27 = .ok (.getfield 28, 3) := by decide +kernel
theorem dc_Clock_lookRound_30 : decode cd_Clock_lookRound 30 = .ok (.getfield 282, 3) := by decide +kernel
theorem dc_Clock_lookRound_33 : decode cd_Clock_lookRound 33 = .ok (.invokevirtual 346, 3) := by decide +kernel
theorem dc_Clock_lookRound_36 : decode cd_Clock_lookRound 36 = .ok (.return_, 1) := by decide +kernel
theorem dc_Tape_step_0 : decode cd_Tape_step 0 = .ok (.aload_n 0, 1) := by decide +kernel
theorem dc_Tape_step_1 : decode cd_Tape_step 1 = .ok (.aload_n 0, 1) := by decide +kernel
theorem dc_Tape_step_2 : decode cd_Tape_step 2 = .ok (.getfield 28, 3) := by decide +kernel
theorem dc_Tape_step_5 : decode cd_Tape_step 5 = .ok (.putfield 34, 3) := by decide +kernel
theorem dc_Tape_step_8 : decode cd_Tape_step 8 = .ok (.aload_n 0, 1) := by decide +kernel
theorem dc_Tape_step_9 : decode cd_Tape_step 9 = .ok (.getfield 34, 3) := by decide +kernel
theorem dc_Tape_step_12 : decode cd_Tape_step 12 = .ok (.aload_n 0, 1) := by decide +kernel
theorem dc_Tape_step_13 : decode cd_Tape_step 13 = .ok (.getfield 21, 3) := by decide +kernel
theorem dc_Tape_step_16 : decode cd_Tape_step 16 = .ok (.if_icmp .ge 31, 3) := by decide +kernel
theorem dc_Tape_step_19 : decode cd_Tape_step 19 = .ok (.aload_n 0, 1) := by decide +kernel
theorem dc_Tape_step_20 : decode cd_Tape_step 20 = .ok (.getfield 9, 3) := by decide +kernel
theorem dc_Tape_step_23 : decode cd_Tape_step 23 = .ok (.aload_n 0, 1) := by decide +kernel
theorem dc_Tape_step_24 : decode cd_Tape_step 24 = .ok (.getfield 34, 3) := by decide +kernel
theorem dc_Tape_step_27 : decode cd_Tape_step 27 = .ok (.caload, 1) := by decide +kernel
theorem dc_Tape_step_28 : decode cd_Tape_step 28 = .ok (.invokestatic 17, 3) := by decide +kernel
theorem dc_Tape_step_31 : decode cd_Tape_step 31 = .ok (.ifCond .eq 16, 3) := by decide +kernel
theorem dc_Tape_step_34 : decode cd_Tape_step 34 = .ok (.aload_n 0, 1) := by decide +kernel
theorem dc_Tape_step_35 : decode cd_Tape_step 35 = .ok (.dup, 1) := by decide +kernel
theorem dc_Tape_step_36 : decode cd_Tape_step 36 = .ok (.getfield 34, 3) := by decide +kernel
theorem dc_Tape_step_39 : decode cd_Tape_step 39 = .ok (.iconst 1, 1) := by decide +kernel
theorem dc_Tape_step_40 : decode cd_Tape_step 40 = .ok (.iadd, 1) := by decide +kernel
theorem dc_Tape_step_41 : decode cd_Tape_step 41 = .ok (.putfield 34, 3) := by decide +kernel
theorem dc_Tape_step_44 : decode cd_Tape_step 44 = .ok (.goto (-36), 3) := by decide +kernel
theorem dc_Tape_step_47 : decode cd_Tape_step 47 = .ok (.aload_n 0, 1) := by decide +kernel
theorem dc_Tape_step_48 : decode cd_Tape_step 48 = .ok (.aload_n 0, 1) := by decide +kernel
theorem dc_Tape_step_49 : decode cd_Tape_step 49 = .ok (.getfield 34, 3) := by decide +kernel
theorem dc_Tape_step_52 : decode cd_Tape_step 52 = .ok (.putfield 28, 3) := by decide +kernel
theorem dc_Tape_step_55 : decode cd_Tape_step 55 = .ok (.aload_n 0, 1) := by decide +kernel
theorem dc_Tape_step_56 : decode cd_Tape_step 56 = .ok (.aconst_null, 1) := by decide +kernel
theorem dc_Tape_step_57 : decode cd_Tape_step 57 = .ok (.putfield 37, 3) := by decide +kernel
theorem dc_Tape_step_60 : decode cd_Tape_step 60 = .ok (.aload_n 0, 1) := by decide +kernel
theorem dc_Tape_step_61 : decode cd_Tape_step 61 = .ok (.getfield 34, 3) := by decide +kernel
theorem dc_Tape_step_64 : decode cd_Tape_step 64 = .ok (.aload_n 0, 1) := by decide +kernel
theorem dc_Tape_step_65 : decode cd_Tape_step 65 = .ok (.getfield 21, 3) := by decide +kernel
theorem dc_Tape_step_68 : decode cd_Tape_step 68 = .ok (.if_icmp .lt 11, 3) := by decide +kernel
theorem dc_Tape_step_71 : decode cd_Tape_step 71 = .ok (.aload_n 0, 1) := by decide +kernel
theorem dc_Tape_step_72 : decode cd_Tape_step 72 = .ok (.iconst 1, 1) := by decide +kernel
theorem dc_Tape_step_73 : decode cd_Tape_step 73 = .ok (.putfield 41, 3) := by decide +kernel
theorem dc_Tape_step_76 : decode cd_Tape_step 76 = .ok (.goto 83, 3) := by decide +kernel
theorem dc_Tape_step_79 : decode cd_Tape_step 79 = .ok (.aload_n 0, 1) := by decide +kernel
theorem dc_Tape_step_80 : decode cd_Tape_step 80 = .ok (.getfield 9, 3) := by decide +kernel
theorem dc_Tape_step_83 : decode cd_Tape_step 83 = .ok (.aload_n 0, 1) := by decide +kernel
theorem dc_Tape_step_84 : decode cd_Tape_step 84 = .ok (.getfield 34, 3) := by decide +kernel
theorem dc_Tape_step_87 : decode cd_Tape_step 87 = .ok (.caload, 1) := by decide +kernel
theorem dc_Tape_step_88 : decode cd_Tape_step 88 = .ok (.invokestatic 44, 3) := by decide +kernel
theorem dc_Tape_step_91 : decode cd_Tape_step 91 = .ok (.ifCond .eq 10, 3) := by decide +kernel
theorem dc_Tape_step_94 : decode cd_Tape_step 94 = .ok (.aload_n 0, 1) := by decide +kernel
theorem dc_Tape_step_95 : decode cd_Tape_step 95 = .ok (.invokevirtual 47, 3) := by decide +kernel
theorem dc_Tape_step_98 : decode cd_Tape_step 98 = .ok (.goto 61, 3) := by decide +kernel
theorem dc_Tape_step_101 : decode cd_Tape_step 101 = .ok (.aload_n 0, 1) := by decide +kernel
theorem dc_Tape_step_102 : decode cd_Tape_step 102 = .ok (.getfield 9, 3) := by decide +kernel
theorem dc_Tape_step_105 : decode cd_Tape_step 105 = .ok (.aload_n 0, 1) := by decide +kernel
theorem dc_Tape_step_106 : decode cd_Tape_step 106 = .ok (.getfield 34, 3) := by decide +kernel
theorem dc_Tape_step_109 : decode cd_Tape_step 109 = .ok (.caload, 1) := by decide +kernel
theorem dc_Tape_step_110 : decode cd_Tape_step 110 = .ok (.invokestatic 50, 3) := by decide +kernel
theorem dc_Tape_step_113 : decode cd_Tape_step 113 = .ok (.ifCond .eq 10, 3) := by decide +kernel
theorem dc_Tape_step_116 : decode cd_Tape_step 116 = .ok (.aload_n 0, 1) := by decide +kernel
theorem dc_Tape_step_117 : decode cd_Tape_step 117 = .ok (.invokevirtual 53, 3) := by decide +kernel
theorem dc_Tape_step_120 : decode cd_Tape_step 120 = .ok (.goto 39, 3) := by decide +kernel
theorem dc_Tape_step_123 : decode cd_Tape_step 123 = .ok (.aload_n 0, 1) := by decide +kernel
theorem dc_Tape_step_124 : decode cd_Tape_step 124 = .ok (.aload_n 0, 1) := by decide +kernel
theorem dc_Tape_step_125 : decode cd_Tape_step 125 = .ok (.getfield 34, 3) := by decide +kernel
theorem dc_Tape_step_128 : decode cd_Tape_step 128 = .ok (.iconst 1, 1) := by decide +kernel
theorem dc_Tape_step_129 : decode cd_Tape_step 129 = .ok (.iadd, 1) := by decide +kernel
theorem dc_Tape_step_130 : decode cd_Tape_step 130 = .ok (.putfield 28, 3) := by decide +kernel
theorem dc_Tape_step_133 : decode cd_Tape_step 133 = .ok (.aload_n 0, 1) := by decide +kernel
theorem dc_Tape_step_134 : decode cd_Tape_step 134 = .ok (.ldc 56, 2) := by decide +kernel
theorem dc_Tape_step_136 : decode cd_Tape_step 136 = .ok (.aload_n 0, 1) := by decide +kernel
theorem dc_Tape_step_137 : decode cd_Tape_step 137 = .ok (.getfield 9, 3) := by decide +kernel
theorem dc_Tape_step_140 : decode cd_Tape_step 140 = .ok (.aload_n 0, 1) := by decide +kernel
theorem dc_Tape_step_141 : decode cd_Tape_step 141 = .ok (.getfield 34, 3) := by decide +kernel
theorem dc_Tape_step_144 : decode cd_Tape_step 144 = .ok (.caload, 1) := by decide +kernel
theorem dc_Tape_step_145 : decode cd_Tape_step 145 = .ok (.invokevirtual 58, 3) := by decide +kernel
theorem dc_Tape_step_148 : decode cd_Tape_step 148 = .ok (.ifCond .lt 7, 3) := by decide +kernel
theorem dc_Tape_step_151 : decode cd_Tape_step 151 = .ok (.iconst 4, 1) := by decide +kernel
theorem dc_Tape_step_152 : decode cd_Tape_step 152 = .ok (.goto 4, 3) := by decide +kernel
theorem dc_Tape_step_155 : decode cd_Tape_step 155 = .ok (.iconst 0, 1) := by decide +kernel
theorem dc_Tape_step_156 : decode cd_Tape_step 156 = .ok (.putfield 41, 3) := by decide +kernel
theorem dc_Tape_step_159 : decode cd_Tape_step 159 = .ok (.return_, 1) := by decide +kernel
theorem dc_Walk_costs_0 : decode cd_Walk_costs 0 = .ok (.iconst 0, 1) := by decide +kernel
theorem dc_Walk_costs_1 : decode cd_Walk_costs 1 = .ok (.istore_n 1, 1) := by decide +kernel
theorem dc_Walk_costs_2 : decode cd_Walk_costs 2 = .ok (.iconst 0, 1) := by decide +kernel
theorem dc_Walk_costs_3 : decode cd_Walk_costs 3 = .ok (.istore_n 2, 1) := by decide +kernel
theorem dc_Walk_costs_4 : decode cd_Walk_costs 4 = .ok (.iload_n 2, 1) := by decide +kernel
theorem dc_Walk_costs_5 : decode cd_Walk_costs 5 = .ok (.aload_n 0, 1) := by decide +kernel
theorem dc_Walk_costs_6 : decode cd_Walk_costs 6 = .ok (.getfield 27, 3) := by decide +kernel
theorem dc_Walk_costs_9 : decode cd_Walk_costs 9 = .ok (.getfield 170, 3) := by decide +kernel
theorem dc_Walk_costs_12 : decode cd_Walk_costs 12 = .ok (.if_icmp .ge 17, 3) := by decide +kernel
theorem dc_Walk_costs_15 : decode cd_Walk_costs 15 = .ok (.iload_n 1, 1) := by decide +kernel
theorem dc_Walk_costs_16 : decode cd_Walk_costs 16 = .ok (.aload_n 0, 1) := by decide +kernel
theorem dc_Walk_costs_17 : decode cd_Walk_costs 17 = .ok (.iload_n 2, 1) := by decide +kernel
theorem dc_Walk_costs_18 : decode cd_Walk_costs 18 = .ok (.invokevirtual 173, 3) := by decide +kernel
theorem dc_Walk_costs_21 : decode cd_Walk_costs 21 = .ok (.iadd, 1) := by decide +kernel
theorem dc_Walk_costs_22 : decode cd_Walk_costs 22 = .ok (.istore_n 1, 1) := by decide +kernel
theorem dc_Walk_costs_23 : decode cd_Walk_costs 23 = .ok (.iinc 2 1, 3) := by decide +kernel
theorem dc_Walk_costs_26 : decode cd_Walk_costs 26 = .ok (.goto (-22), 3) := by decide +kernel
theorem dc_Walk_costs_29 : decode cd_Walk_costs 29 = .ok (.iload_n 1, 1) := by decide +kernel
theorem dc_Walk_costs_30 : decode cd_Walk_costs 30 = .ok (.ireturn, 1) := by decide +kernel
theorem dc_Clock_day_0 : decode cd_Clock_day 0 = .ok (.aload_n 0, 1) := by decide +kernel
theorem dc_Clock_day_1 : decode cd_Clock_day 1 = .ok (.invokevirtual 198, 3) := by decide +kernel
theorem dc_Clock_day_4 : decode cd_Clock_day 4 = .ok (.aload_n 0, 1) := by decide +kernel
theorem dc_Clock_day_5 : decode cd_Clock_day 5 = .ok (.getfield 67, 3) := by decide +kernel
theorem dc_Clock_day_8 : decode cd_Clock_day 8 = .ok (.aload_n 0, 1) := by decide +kernel
theorem dc_Clock_day_9 : decode cd_Clock_day 9 = .ok (.getfield 28, 3) := by decide +kernel
theorem dc_Clock_day_12 : decode cd_Clock_day 12 = .ok (.aload_n 0, 1) := by decide +kernel
theorem dc_Clock_day_13 : decode cd_Clock_day 13 = .ok (.getfield 45, 3) := by decide +kernel
theorem dc_Clock_day_16 : decode cd_Clock_day 16 = .ok (.getfield 143, 3) := by decide +kernel
theorem dc_Clock_day_19 : decode cd_Clock_day 19 = .ok (.invokevirtual 161, 3) := by decide +kernel
theorem dc_Clock_day_22 : decode cd_Clock_day 22 = .ok (.aload_n 0, 1) := by decide +kernel
theorem dc_Clock_day_23 : decode cd_Clock_day 23 = .ok (.getfield 67, 3) := by decide +kernel
theorem dc_Clock_day_26 : decode cd_Clock_day 26 = .ok (.invokevirtual 212, 3) := by decide +kernel
theorem dc_Clock_day_29 : decode cd_Clock_day 29 = .ok (.istore_n 1, 1) := by decide +kernel
theorem dc_Clock_day_30 : decode cd_Clock_day 30 = .ok (.aload_n 0, 1) := by decide +kernel
theorem dc_Clock_day_31 : decode cd_Clock_day 31 = .ok (.getfield 45, 3) := by decide +kernel
theorem dc_Clock_day_34 : decode cd_Clock_day 34 = .ok (.getfield 143, 3) := by decide +kernel
theorem dc_Clock_day_37 : decode cd_Clock_day 37 = .ok (.iload_n 1, 1) := by decide +kernel
theorem dc_Clock_day_38 : decode cd_Clock_day 38 = .ok (.invokevirtual 216, 3) := by decide +kernel
theorem dc_Clock_day_41 : decode cd_Clock_day 41 = .ok (.iload_n 1, 1) := by decide +kernel
theorem dc_Clock_day_42 : decode cd_Clock_day 42 = .ok (.ireturn, 1) := by decide +kernel
theorem dc_Clock_judged_0 : decode cd_Clock_judged 0 = .ok (.iload_n 1, 1) := by decide +kernel
theorem dc_Clock_judged_1 : decode cd_Clock_judged 1 = .ok (.ifCond .lt 8, 3) := by decide +kernel
theorem dc_Clock_judged_4 : decode cd_Clock_judged 4 = .ok (.iload_n 1, 1) := by decide +kernel
theorem dc_Clock_judged_5 : decode cd_Clock_judged 5 = .ok (.iconst 2, 1) := by decide +kernel
theorem dc_Clock_judged_6 : decode cd_Clock_judged 6 = .ok (.if_icmp .le 6, 3) := by decide +kernel
theorem dc_Clock_judged_9 : decode cd_Clock_judged 9 = .ok (.bipush (-2), 2) := by decide +kernel
theorem dc_Clock_judged_11 : decode cd_Clock_judged 11 = .ok (.ireturn, 1) := by decide +kernel
theorem dc_Clock_judged_12 : decode cd_Clock_judged 12 = .ok (.aload_n 0, 1) := by decide +kernel
theorem dc_Clock_judged_13 : decode cd_Clock_judged 13 = .ok (.getfield 45, 3) := by decide +kernel
theorem dc_Clock_judged_16 : decode cd_Clock_judged 16 = .ok (.getfield 117, 3) := by decide +kernel
theorem dc_Clock_judged_19 : decode cd_Clock_judged 19 = .ok (.astore_n 2, 1) := by decide +kernel
theorem dc_Clock_judged_20 : decode cd_Clock_judged 20 = .ok (.iconst (-1), 1) := by decide +kernel
theorem dc_Clock_judged_21 : decode cd_Clock_judged 21 = .ok (.istore_n 3, 1) := by decide +kernel
theorem dc_Clock_judged_22 : decode cd_Clock_judged 22 = .ok (.iconst (-1), 1) := by decide +kernel
theorem dc_Clock_judged_23 : decode cd_Clock_judged 23 = .ok (.istore 4, 2) := by decide +kernel
theorem dc_Clock_judged_25 : decode cd_Clock_judged 25 = .ok (.aload_n 0, 1) := by decide +kernel
theorem dc_Clock_judged_26 : decode cd_Clock_judged 26 = .ok (.getfield 60, 3) := by decide +kernel
theorem dc_Clock_judged_29 : decode cd_Clock_judged 29 = .ok (.aload_n 0, 1) := by decide +kernel
theorem dc_Clock_judged_30 : decode cd_Clock_judged 30 = .ok (.getfield 28, 3) := by decide +kernel
theorem dc_Clock_judged_33 : decode cd_Clock_judged 33 = .ok (.invokevirtual 225, 3) := by decide +kernel
theorem dc_Clock_judged_36 : decode cd_Clock_judged 36 = .ok (.iconst 0, 1) := by decide +kernel
theorem dc_Clock_judged_37 : decode cd_Clock_judged 37 = .ok (.istore 5, 2) := by decide +kernel
theorem dc_Clock_judged_39 : decode cd_Clock_judged 39 = .ok (.iload 5, 2) := by decide +kernel
theorem dc_Clock_judged_41 : decode cd_Clock_judged 41 = .ok (.aload_n 2, 1) := by decide +kernel
theorem dc_Clock_judged_42 : decode cd_Clock_judged 42 = .ok (.getfield 226, 3) := by decide +kernel
theorem dc_Clock_judged_45 : decode cd_Clock_judged 45 = .ok (.if_icmp .ge 117, 3) := by decide +kernel
theorem dc_Clock_judged_48 : decode cd_Clock_judged 48 = .ok (.aload_n 2, 1) := by decide +kernel
theorem dc_Clock_judged_49 : decode cd_Clock_judged 49 = .ok (.iload 5, 2) := by decide +kernel
theorem dc_Clock_judged_51 : decode cd_Clock_judged 51 = .ok (.aload_n 0, 1) := by decide +kernel
theorem dc_Clock_judged_52 : decode cd_Clock_judged 52 = .ok (.getfield 28, 3) := by decide +kernel
theorem dc_Clock_judged_55 : decode cd_Clock_judged 55 = .ok (.aload_n 0, 1) := by decide +kernel
theorem dc_Clock_judged_56 : decode cd_Clock_judged 56 = .ok (.getfield 60, 3) := by decide +kernel
theorem dc_Clock_judged_59 : decode cd_Clock_judged 59 = .ok (.invokevirtual 229, 3) := by decide +kernel
theorem dc_Clock_judged_62 : decode cd_Clock_judged 62 = .ok (.ifCond .ne 18, 3) := by decide +kernel
theorem dc_Clock_judged_65 : decode cd_Clock_judged 65 = .ok (.iload_n 3, 1) := by decide +kernel
theorem dc_Clock_judged_66 : decode cd_Clock_judged 66 = .ok (.iconst (-1), 1) := by decide +kernel
theorem dc_Clock_judged_67 : decode cd_Clock_judged 67 = .ok (.if_icmp .ne 8, 3) := by decide +kernel
theorem dc_Clock_judged_70 : decode cd_Clock_judged 70 = .ok (.iload 5, 2) := by decide +kernel
theorem dc_Clock_judged_72 : decode cd_Clock_judged 72 = .ok (.goto 4, 3) := by decide +kernel
theorem dc_Clock_judged_75 : decode cd_Clock_judged 75 = .ok (.iload_n 3, 1) := by decide +kernel
theorem dc_Clock_judged_76 : decode cd_Clock_judged 76 = .ok (.istore_n 3, 1) := by decide +kernel
theorem dc_Clock_judged_77 : decode cd_Clock_judged 77 = .ok (.goto 79, 3) := by decide +kernel
theorem dc_Clock_judged_80 : decode cd_Clock_judged 80 = .ok (.aload_n 2, 1) := by decide +kernel
theorem dc_Clock_judged_81 : decode cd_Clock_judged 81 = .ok (.iload 5, 2) := by decide +kernel
theorem dc_Clock_judged_83 : decode cd_Clock_judged 83 = .ok (.invokevirtual 233, 3) := by decide +kernel
theorem dc_Clock_judged_86 : decode cd_Clock_judged 86 = .ok (.ifCond .eq 60, 3) := by decide +kernel
theorem dc_Clock_judged_89 : decode cd_Clock_judged 89 = .ok (.aload_n 0, 1) := by decide +kernel
theorem dc_Clock_judged_90 : decode cd_Clock_judged 90 = .ok (.getfield 67, 3) := by decide +kernel
theorem dc_Clock_judged_93 : decode cd_Clock_judged 93 = .ok (.aload_n 0, 1) := by decide +kernel
theorem dc_Clock_judged_94 : decode cd_Clock_judged 94 = .ok (.getfield 28, 3) := by decide +kernel
theorem dc_Clock_judged_97 : decode cd_Clock_judged 97 = .ok (.aload_n 0, 1) := by decide +kernel
theorem dc_Clock_judged_98 : decode cd_Clock_judged 98 = .ok (.getfield 60, 3) := by decide +kernel
theorem dc_Clock_judged_101 : decode cd_Clock_judged 101 = .ok (.invokevirtual 161, 3) := by decide +kernel
theorem dc_Clock_judged_104 : decode cd_Clock_judged 104 = .ok (.iload 4, 2) := by decide +kernel
theorem dc_Clock_judged_106 : decode cd_Clock_judged 106 = .ok (.iconst (-1), 1) := by decide +kernel
theorem dc_Clock_judged_107 : decode cd_Clock_judged 107 = .ok (.if_icmp .ne 18, 3) := by decide +kernel
theorem dc_Clock_judged_110 : decode cd_Clock_judged 110 = .ok (.aload_n 0, 1) := by decide +kernel
theorem dc_Clock_judged_111 : decode cd_Clock_judged 111 = .ok (.getfield 67, 3) := by decide +kernel
theorem dc_Clock_judged_114 : decode cd_Clock_judged 114 = .ok (.invokevirtual 236, 3) := by decide +kernel
theorem dc_Clock_judged_117 : decode cd_Clock_judged 117 = .ok (.ifCond .le 8, 3) := by decide +kernel
theorem dc_Clock_judged_120 : decode cd_Clock_judged 120 = .ok (.iload 5, 2) := by decide +kernel
theorem dc_Clock_judged_122 : decode cd_Clock_judged 122 = .ok (.goto 5, 3) := by decide +kernel
theorem dc_Clock_judged_125 : decode cd_Clock_judged 125 = .ok (.iload 4, 2) := by decide +kernel
theorem dc_Clock_judged_127 : decode cd_Clock_judged 127 = .ok (.istore 4, 2) := by decide +kernel
theorem dc_Clock_judged_129 : decode cd_Clock_judged 129 = .ok (.aload_n 0, 1) := by decide +kernel
theorem dc_Clock_judged_130 : decode cd_Clock_judged 130 = .ok (.getfield 60, 3) := by decide +kernel
theorem dc_Clock_judged_133 : decode cd_Clock_judged 133 = .ok (.aload_n 0, 1) := by decide +kernel
theorem dc_Clock_judged_134 : decode cd_Clock_judged 134 = .ok (.getfield 67, 3) := by decide +kernel
theorem dc_Clock_judged_137 : decode cd_Clock_judged 137 = .ok (.invokevirtual 212, 3) := by decide +kernel
theorem dc_Clock_judged_140 : decode cd_Clock_judged 140 = .ok (.invokevirtual 216, 3) := by decide +kernel
theorem dc_Clock_judged_143 : decode cd_Clock_judged 143 = .ok (.goto 13, 3) := by decide +kernel
theorem dc_Clock_judged_146 : decode cd_Clock_judged 146 = .ok (.aload_n 2, 1) := by decide +kernel
theorem dc_Clock_judged_147 : decode cd_Clock_judged 147 = .ok (.iload 5, 2) := by decide +kernel
theorem dc_Clock_judged_149 : decode cd_Clock_judged 149 = .ok (.aload_n 0, 1) := by decide +kernel
theorem dc_Clock_judged_150 : decode cd_Clock_judged 150 = .ok (.getfield 60, 3) := by decide +kernel
theorem dc_Clock_judged_153 : decode cd_Clock_judged 153 = .ok (.invokevirtual 239, 3) := by decide +kernel
theorem dc_Clock_judged_156 : decode cd_Clock_judged 156 = .ok (.iinc 5 1, 3) := by decide +kernel
theorem dc_Clock_judged_159 : decode cd_Clock_judged 159 = .ok (.goto (-120), 3) := by decide +kernel
theorem dc_Clock_judged_162 : decode cd_Clock_judged 162 = .ok (.iload_n 1, 1) := by decide +kernel
theorem dc_Clock_judged_163 : decode cd_Clock_judged 163 = .ok (.iconst 2, 1) := by decide +kernel
theorem dc_Clock_judged_164 : decode cd_Clock_judged 164 = .ok (.if_icmp .ne 11, 3) := by decide +kernel
theorem dc_Clock_judged_167 : decode cd_Clock_judged 167 = .ok (.aload_n 0, 1) := by decide +kernel
theorem dc_Clock_judged_168 : decode cd_Clock_judged 168 = .ok (.getfield 60, 3) := by decide +kernel
theorem dc_Clock_judged_171 : decode cd_Clock_judged 171 = .ok (.getfield 243, 3) := by decide +kernel
theorem dc_Clock_judged_174 : decode cd_Clock_judged 174 = .ok (.ireturn, 1) := by decide +kernel
theorem dc_Clock_judged_175 : decode cd_Clock_judged 175 = .ok (.iload_n 1, 1) := by decide +kernel
theorem dc_Clock_judged_176 : decode cd_Clock_judged 176 = .ok (.ifCond .ne 7, 3) := by decide +kernel
theorem dc_Clock_judged_179 : decode cd_Clock_judged 179 = .ok (.iload_n 3, 1) := by decide +kernel
theorem dc_Clock_judged_180 : decode cd_Clock_judged 180 = .ok (.goto 5, 3) := by decide +kernel
theorem dc_Clock_judged_183 : decode cd_Clock_judged 183 = .ok (.iload 4, 2) := by decide +kernel
theorem dc_Clock_judged_185 : decode cd_Clock_judged 185 = .ok (.ireturn, 1) := by decide +kernel
theorem dc_Clock_times_0 : decode cd_Clock_times 0 = .ok (.iload_n 1, 1) := by decide +kernel
theorem dc_Clock_times_1 : decode cd_Clock_times 1 = .ok (.ifCond .lt 8, 3) := by decide +kernel
theorem dc_Clock_times_4 : decode cd_Clock_times 4 = .ok (.iload_n 1, 1) := by decide +kernel
theorem dc_Clock_times_5 : decode cd_Clock_times 5 = .ok (.iconst 2, 1) := by decide +kernel
theorem dc_Clock_times_6 : decode cd_Clock_times 6 = .ok (.if_icmp .le 5, 3) := by decide +kernel
theorem dc_Clock_times_9 : decode cd_Clock_times 9 = .ok (.iconst (-1), 1) := by decide +kernel
theorem dc_Clock_times_10 : decode cd_Clock_times 10 = .ok (.ireturn, 1) := by decide +kernel
theorem dc_Clock_times_11 : decode cd_Clock_times 11 = .ok (.aload_n 0, 1) := by decide +kernel
theorem dc_Clock_times_12 : decode cd_Clock_times 12 = .ok (.invokevirtual 250, 3) := by decide +kernel
theorem dc_Clock_times_15 : decode cd_Clock_times 15 = .ok (.iconst 0, 1) := by decide +kernel
theorem dc_Clock_times_16 : decode cd_Clock_times 16 = .ok (.istore_n 2, 1) := by decide +kernel
theorem dc_Clock_times_17 : decode cd_Clock_times 17 = .ok (.iconst (-1), 1) := by decide +kernel
theorem dc_Clock_times_18 : decode cd_Clock_times 18 = .ok (.istore_n 3, 1) := by decide +kernel
theorem dc_Clock_times_19 : decode cd_Clock_times 19 = .ok (.iconst (-1), 1) := by decide +kernel
theorem dc_Clock_times_20 : decode cd_Clock_times 20 = .ok (.istore 4, 2) := by decide +kernel
theorem dc_Clock_times_22 : decode cd_Clock_times 22 = .ok (.iconst 0, 1) := by decide +kernel
theorem dc_Clock_times_23 : decode cd_Clock_times 23 = .ok (.istore 5, 2) := by decide +kernel
theorem dc_Clock_times_25 : decode cd_Clock_times 25 = .ok (.iload 5, 2) := by decide +kernel
theorem dc_Clock_times_27 : decode cd_Clock_times 27 = .ok (.sipush 240, 3) := by decide +kernel
theorem dc_Clock_times_30 : decode cd_Clock_times 30 = .ok (.if_icmp .ge 44, 3) := by decide +kernel
theorem dc_Clock_times_33 : decode cd_Clock_times 33 = .ok (.aload_n 0, 1) := by decide +kernel
theorem dc_Clock_times_34 : decode cd_Clock_times 34 = .ok (.getfield 45, 3) := by decide +kernel
theorem dc_Clock_times_37 : decode cd_Clock_times 37 = .ok (.aload_n 0, 1) := by decide +kernel
theorem dc_Clock_times_38 : decode cd_Clock_times 38 = .ok (.getfield 74, 3) := by decide +kernel
theorem dc_Clock_times_41 : decode cd_Clock_times 41 = .ok (.iload 5, 2) := by decide +kernel
theorem dc_Clock_times_43 : decode cd_Clock_times 43 = .ok (.invokevirtual 253, 3) := by decide +kernel
theorem dc_Clock_times_46 : decode cd_Clock_times 46 = .ok (.ifCond .eq 22, 3) := by decide +kernel
theorem dc_Clock_times_49 : decode cd_Clock_times 49 = .ok (.iinc 2 1, 3) := by decide +kernel
theorem dc_Clock_times_52 : decode cd_Clock_times 52 = .ok (.iload_n 3, 1) := by decide +kernel
theorem dc_Clock_times_53 : decode cd_Clock_times 53 = .ok (.iconst (-1), 1) := by decide +kernel
theorem dc_Clock_times_54 : decode cd_Clock_times 54 = .ok (.if_icmp .ne 8, 3) := by decide +kernel
theorem dc_Clock_times_57 : decode cd_Clock_times 57 = .ok (.iload 5, 2) := by decide +kernel
theorem dc_Clock_times_59 : decode cd_Clock_times 59 = .ok (.goto 4, 3) := by decide +kernel
theorem dc_Clock_times_62 : decode cd_Clock_times 62 = .ok (.iload_n 3, 1) := by decide +kernel
theorem dc_Clock_times_63 : decode cd_Clock_times 63 = .ok (.istore_n 3, 1) := by decide +kernel
theorem dc_Clock_times_64 : decode cd_Clock_times 64 = .ok (.iload 5, 2) := by decide +kernel
theorem dc_Clock_times_66 : decode cd_Clock_times 66 = .ok (.istore 4, 2) := by decide +kernel
theorem dc_Clock_times_68 : decode cd_Clock_times 68 = .ok (.iinc 5 1, 3) := by decide +kernel
theorem dc_Clock_times_71 : decode cd_Clock_times 71 = .ok (.goto (-46), 3) := by decide +kernel
theorem dc_Clock_times_74 : decode cd_Clock_times 74 = .ok (.iload_n 1, 1) := by decide +kernel
theorem dc_Clock_times_75 : decode cd_Clock_times 75 = .ok (.ifCond .ne 5, 3) := by decide +kernel
theorem dc_Clock_times_78 : decode cd_Clock_times 78 = .ok (.iload_n 2, 1) := by decide +kernel
theorem dc_Clock_times_79 : decode cd_Clock_times 79 = .ok (.ireturn, 1) := by decide +kernel
theorem dc_Clock_times_80 : decode cd_Clock_times 80 = .ok (.iload_n 1, 1) := by decide +kernel
theorem dc_Clock_times_81 : decode cd_Clock_times 81 = .ok (.iconst 1, 1) := by decide +kernel
theorem dc_Clock_times_82 : decode cd_Clock_times 82 = .ok (.if_icmp .ne 7, 3) := by decide +kernel
theorem dc_Clock_times_85 : decode cd_Clock_times 85 = .ok (.iload_n 3, 1) := by decide +kernel
theorem dc_Clock_times_86 : decode cd_Clock_times 86 = .ok (.goto 5, 3) := by decide +kernel
theorem dc_Clock_times_89 : decode cd_Clock_times 89 = .ok (.iload 4, 2) := by decide +kernel
theorem dc_Clock_times_91 : decode cd_Clock_times 91 = .ok (.ireturn, 1) := by decide +kernel
theorem dc_Clock_look_0 : decode cd_Clock_look 0 = .ok (.aload_n 0, 1) := by decide +kernel
theorem dc_Clock_look_1 : decode cd_Clock_look 1 = .ok (.invokevirtual 250, 3) := by decide +kernel
theorem dc_Clock_look_4 : decode cd_Clock_look 4 = .ok (.iconst (-1), 1) := by decide +kernel
theorem dc_Clock_look_5 : decode cd_Clock_look 5 = .ok (.istore_n 1, 1) := by decide +kernel
theorem dc_Clock_look_6 : decode cd_Clock_look 6 = .ok (.iconst 0, 1) := by decide +kernel
theorem dc_Clock_look_7 : decode cd_Clock_look 7 = .ok (.istore_n 2, 1) := by decide +kernel
theorem dc_Clock_look_8 : decode cd_Clock_look 8 = .ok (.iconst 0, 1) := by decide +kernel
theorem dc_Clock_look_9 : decode cd_Clock_look 9 = .ok (.istore_n 3, 1) := by decide +kernel
theorem dc_Clock_look_10 : decode cd_Clock_look 10 = .ok (.iload_n 3, 1) := by decide +kernel
theorem dc_Clock_look_11 : decode cd_Clock_look 11 = .ok (.sipush 240, 3) := by decide +kernel
theorem dc_Clock_look_14 : decode cd_Clock_look 14 = .ok (.if_icmp .ge 27, 3) := by decide +kernel
theorem dc_Clock_look_17 : decode cd_Clock_look 17 = .ok (.aload_n 0, 1) := by decide +kernel
theorem dc_Clock_look_18 : decode cd_Clock_look 18 = .ok (.getfield 45, 3) := by decide +kernel
theorem dc_Clock_look_21 : decode cd_Clock_look 21 = .ok (.aload_n 0, 1) := by decide +kernel
theorem dc_Clock_look_22 : decode cd_Clock_look 22 = .ok (.getfield 74, 3) := by decide +kernel
theorem dc_Clock_look_25 : decode cd_Clock_look 25 = .ok (.iload_n 3, 1) := by decide +kernel
theorem dc_Clock_look_26 : decode cd_Clock_look 26 = .ok (.invokevirtual 253, 3) := by decide +kernel
theorem dc_Clock_look_29 : decode cd_Clock_look 29 = .ok (.ifCond .eq 6, 3) := by decide +kernel
theorem dc_Clock_look_32 : decode cd_Clock_look 32 = .ok (.iinc 2 1, 3) := by decide +kernel
theorem dc_Clock_look_35 : decode cd_Clock_look 35 = .ok (.iinc 3 1, 3) := by decide +kernel
theorem dc_Clock_look_38 : decode cd_Clock_look 38 = .ok (.goto (-28), 3) := by decide +kernel
theorem dc_Clock_look_41 : decode cd_Clock_look 41 = .ok (.iconst 0, 1) := by decide +kernel
theorem dc_Clock_look_42 : decode cd_Clock_look 42 = .ok (.istore_n 3, 1) := by decide +kernel
theorem dc_Clock_look_43 : decode cd_Clock_look 43 = .ok (.iload_n 3, 1) := by decide +kernel
theorem dc_Clock_look_44 : decode cd_Clock_look 44 = .ok (.aload_n 0, 1) := by decide +kernel
theorem dc_Clock_look_45 : decode cd_Clock_look 45 = .ok (.getfield 28, 3) := by decide +kernel
theorem dc_Clock_look_48 : decode cd_Clock_look 48 = .ok (.getfield 257, 3) := by decide +kernel
theorem dc_Clock_look_51 : decode cd_Clock_look 51 = .ok (.if_icmp .ge 27, 3) := by decide +kernel
theorem dc_Clock_look_54 : decode cd_Clock_look 54 = .ok (.aload_n 0, 1) := by decide +kernel
theorem dc_Clock_look_55 : decode cd_Clock_look 55 = .ok (.iload_n 3, 1) := by decide +kernel
theorem dc_Clock_look_56 : decode cd_Clock_look 56 = .ok (.invokevirtual 260, 3) := by decide +kernel
theorem dc_Clock_look_59 : decode cd_Clock_look 59 = .ok (.istore 4, 2) := by decide +kernel
theorem dc_Clock_look_61 : decode cd_Clock_look 61 = .ok (.iload 4, 2) := by decide +kernel
theorem dc_Clock_look_63 : decode cd_Clock_look 63 = .ok (.iload_n 2, 1) := by decide +kernel
theorem dc_Clock_look_64 : decode cd_Clock_look 64 = .ok (.if_icmp .ge 8, 3) := by decide +kernel
theorem dc_Clock_look_67 : decode cd_Clock_look 67 = .ok (.iload 4, 2) := by decide +kernel
theorem dc_Clock_look_69 : decode cd_Clock_look 69 = .ok (.istore_n 2, 1) := by decide +kernel
theorem dc_Clock_look_70 : decode cd_Clock_look 70 = .ok (.iload_n 3, 1) := by decide +kernel
theorem dc_Clock_look_71 : decode cd_Clock_look 71 = .ok (.istore_n 1, 1) := by decide +kernel
theorem dc_Clock_look_72 : decode cd_Clock_look 72 = .ok (.iinc 3 1, 3) := by decide +kernel
theorem dc_Clock_look_75 : decode cd_Clock_look 75 = .ok (.goto (-32), 3) := by decide +kernel
theorem dc_Clock_look_78 : decode cd_Clock_look 78 = .ok (.iload_n 1, 1) := by decide +kernel
theorem dc_Clock_look_79 : decode cd_Clock_look 79 = .ok (.ireturn, 1) := by decide +kernel
theorem dc_Clock_soonest_0 : decode cd_Clock_soonest 0 = .ok (.aload_n 0, 1) := by decide +kernel
theorem dc_Clock_soonest_1 : decode cd_Clock_soonest 1 = .ok (.iload_n 1, 1) := by decide +kernel
theorem dc_Clock_soonest_2 : decode cd_Clock_soonest 2 = .ok (.invokevirtual 124, 3) := by decide +kernel
theorem dc_Clock_soonest_5 : decode cd_Clock_soonest 5 = .ok (.ifCond .eq 28, 3) := by decide +kernel
theorem dc_Clock_soonest_8 : decode cd_Clock_soonest 8 = .ok (.aload_n 0, 1) := by decide +kernel
theorem dc_Clock_soonest_9 : decode cd_Clock_soonest 9 = .ok (.iload_n 2, 1) := by decide +kernel
theorem dc_Clock_soonest_10 : decode cd_Clock_soonest 10 = .ok (.invokevirtual 158, 3) := by decide +kernel
theorem dc_Clock_soonest_13 : decode cd_Clock_soonest 13 = .ok (.ifCond .eq 20, 3) := by decide +kernel
theorem dc_Clock_soonest_16 : decode cd_Clock_soonest 16 = .ok (.iload_n 3, 1) := by decide +kernel
theorem dc_Clock_soonest_17 : decode cd_Clock_soonest 17 = .ok (.ifCond .lt 16, 3) := by decide +kernel
theorem dc_Clock_soonest_20 : decode cd_Clock_soonest 20 = .ok (.iload_n 3, 1) := by decide +kernel
theorem dc_Clock_soonest_21 : decode cd_Clock_soonest 21 = .ok (.iconst 1, 1) := by decide +kernel
theorem dc_Clock_soonest_22 : decode cd_Clock_soonest 22 = .ok (.aload_n 0, 1) := by decide +kernel
theorem dc_Clock_soonest_23 : decode cd_Clock_soonest 23 = .ok (.getfield 28, 3) := by decide +kernel
theorem dc_Clock_soonest_26 : decode cd_Clock_soonest 26 = .ok (.getfield 282, 3) := by decide +kernel
theorem dc_Clock_soonest_29 : decode cd_Clock_soonest 29 = .ok (.ishl, 1) := by decide +kernel
theorem dc_Clock_soonest_30 : decode cd_Clock_soonest 30 = .ok (.if_icmp .lt 5, 3) := by decide +kernel
theorem dc_Clock_soonest_33 : decode cd_Clock_soonest 33 = .ok (.iconst (-1), 1) := by decide +kernel
theorem dc_Clock_soonest_34 : decode cd_Clock_soonest 34 = .ok (.ireturn, 1) := by decide +kernel
theorem dc_Clock_soonest_35 : decode cd_Clock_soonest 35 = .ok (.aload_n 0, 1) := by decide +kernel
theorem dc_Clock_soonest_36 : decode cd_Clock_soonest 36 = .ok (.invokevirtual 250, 3) := by decide +kernel
theorem dc_Clock_soonest_39 : decode cd_Clock_soonest 39 = .ok (.aload_n 0, 1) := by decide +kernel
theorem dc_Clock_soonest_40 : decode cd_Clock_soonest 40 = .ok (.getfield 74, 3) := by decide +kernel
theorem dc_Clock_soonest_43 : decode cd_Clock_soonest 43 = .ok (.aload_n 0, 1) := by decide +kernel
theorem dc_Clock_soonest_44 : decode cd_Clock_soonest 44 = .ok (.getfield 28, 3) := by decide +kernel
theorem dc_Clock_soonest_47 : decode cd_Clock_soonest 47 = .ok (.aload_n 0, 1) := by decide +kernel
theorem dc_Clock_soonest_48 : decode cd_Clock_soonest 48 = .ok (.getfield 45, 3) := by decide +kernel
theorem dc_Clock_soonest_51 : decode cd_Clock_soonest 51 = .ok (.getfield 143, 3) := by decide +kernel
theorem dc_Clock_soonest_54 : decode cd_Clock_soonest 54 = .ok (.getfield 209, 3) := by decide +kernel
theorem dc_Clock_soonest_57 : decode cd_Clock_soonest 57 = .ok (.iload_n 1, 1) := by decide +kernel
theorem dc_Clock_soonest_58 : decode cd_Clock_soonest 58 = .ok (.iload_n 2, 1) := by decide +kernel
theorem dc_Clock_soonest_59 : decode cd_Clock_soonest 59 = .ok (.iload_n 3, 1) := by decide +kernel
theorem dc_Clock_soonest_60 : decode cd_Clock_soonest 60 = .ok (.invokevirtual 285, 3) := by decide +kernel
theorem dc_Clock_soonest_63 : decode cd_Clock_soonest 63 = .ok (.ireturn, 1) := by decide +kernel
theorem dc_Clock_lonely_0 : decode cd_Clock_lonely 0 = .ok (.iload_n 1, 1) := by decide +kernel
theorem dc_Clock_lonely_1 : decode cd_Clock_lonely 1 = .ok (.ifCond .lt 8, 3) := by decide +kernel
theorem dc_Clock_lonely_4 : decode cd_Clock_lonely 4 = .ok (.iload_n 1, 1) := by decide +kernel
theorem dc_Clock_lonely_5 : decode cd_Clock_lonely 5 = .ok (.iconst 1, 1) := by decide +kernel
theorem dc_Clock_lonely_6 : decode cd_Clock_lonely 6 = .ok (.if_icmp .le 5, 3) := by decide +kernel
theorem dc_Clock_lonely_9 : decode cd_Clock_lonely 9 = .ok (.iconst (-1), 1) := by decide +kernel
theorem dc_Clock_lonely_10 : decode cd_Clock_lonely 10 = .ok (.ireturn, 1) := by decide +kernel
theorem dc_Clock_lonely_11 : decode cd_Clock_lonely 11 = .ok (.aload_n 0, 1) := by decide +kernel
theorem dc_Clock_lonely_12 : decode cd_Clock_lonely 12 = .ok (.invokevirtual 250, 3) := by decide +kernel
theorem dc_Clock_lonely_15 : decode cd_Clock_lonely 15 = .ok (.iconst 0, 1) := by decide +kernel
theorem dc_Clock_lonely_16 : decode cd_Clock_lonely 16 = .ok (.istore_n 2, 1) := by decide +kernel
theorem dc_Clock_lonely_17 : decode cd_Clock_lonely 17 = .ok (.iconst (-1), 1) := by decide +kernel
theorem dc_Clock_lonely_18 : decode cd_Clock_lonely 18 = .ok (.istore_n 3, 1) := by decide +kernel
theorem dc_Clock_lonely_19 : decode cd_Clock_lonely 19 = .ok (.iconst 0, 1) := by decide +kernel
theorem dc_Clock_lonely_20 : decode cd_Clock_lonely 20 = .ok (.istore 4, 2) := by decide +kernel
theorem dc_Clock_lonely_22 : decode cd_Clock_lonely 22 = .ok (.iconst 0, 1) := by decide +kernel
theorem dc_Clock_lonely_23 : decode cd_Clock_lonely 23 = .ok (.istore 5, 2) := by decide +kernel
theorem dc_Clock_lonely_25 : decode cd_Clock_lonely 25 = .ok (.iload 5, 2) := by decide +kernel
theorem dc_Clock_lonely_27 : decode cd_Clock_lonely 27 = .ok (.sipush 240, 3) := by decide +kernel
theorem dc_Clock_lonely_30 : decode cd_Clock_lonely 30 = .ok (.if_icmp .ge 48, 3) := by decide +kernel
theorem dc_Clock_lonely_33 : decode cd_Clock_lonely 33 = .ok (.aload_n 0, 1) := by decide +kernel
theorem dc_Clock_lonely_34 : decode cd_Clock_lonely 34 = .ok (.getfield 74, 3) := by decide +kernel
theorem dc_Clock_lonely_37 : decode cd_Clock_lonely 37 = .ok (.iload 5, 2) := by decide +kernel
theorem dc_Clock_lonely_39 : decode cd_Clock_lonely 39 = .ok (.invokevirtual 289, 3) := by decide +kernel
theorem dc_Clock_lonely_42 : decode cd_Clock_lonely 42 = .ok (.ifCond .eq 7, 3) := by decide +kernel
theorem dc_Clock_lonely_45 : decode cd_Clock_lonely 45 = .ok (.iconst 0, 1) := by decide +kernel
theorem dc_Clock_lonely_46 : decode cd_Clock_lonely 46 = .ok (.goto 7, 3) := by decide +kernel
theorem dc_Clock_lonely_49 : decode cd_Clock_lonely 49 = .ok (.iload 4, 2) := by decide +kernel
theorem dc_Clock_lonely_51 : decode cd_Clock_lonely 51 = .ok (.iconst 1, 1) := by decide +kernel
theorem dc_Clock_lonely_52 : decode cd_Clock_lonely 52 = .ok (.iadd, 1) := by decide +kernel
theorem dc_Clock_lonely_53 : decode cd_Clock_lonely 53 = .ok (.istore 4, 2) := by decide +kernel
theorem dc_Clock_lonely_55 : decode cd_Clock_lonely 55 = .ok (.iload 4, 2) := by decide +kernel
theorem dc_Clock_lonely_57 : decode cd_Clock_lonely 57 = .ok (.iload_n 2, 1) := by decide +kernel
theorem dc_Clock_lonely_58 : decode cd_Clock_lonely 58 = .ok (.if_icmp .le 14, 3) := by decide +kernel
theorem dc_Clock_lonely_61 : decode cd_Clock_lonely 61 = .ok (.iload 4, 2) := by decide +kernel
theorem dc_Clock_lonely_63 : decode cd_Clock_lonely 63 = .ok (.istore_n 2, 1) := by decide +kernel
theorem dc_Clock_lonely_64 : decode cd_Clock_lonely 64 = .ok (.iload 5, 2) := by decide +kernel
theorem dc_Clock_lonely_66 : decode cd_Clock_lonely 66 = .ok (.iload 4, 2) := by decide +kernel
theorem dc_Clock_lonely_68 : decode cd_Clock_lonely 68 = .ok (.isub, 1) := by decide +kernel
theorem dc_Clock_lonely_69 : decode cd_Clock_lonely 69 = .ok (.iconst 1, 1) := by decide +kernel
theorem dc_Clock_lonely_70 : decode cd_Clock_lonely 70 = .ok (.iadd, 1) := by decide +kernel
theorem dc_Clock_lonely_71 : decode cd_Clock_lonely 71 = .ok (.istore_n 3, 1) := by decide +kernel
theorem dc_Clock_lonely_72 : decode cd_Clock_lonely 72 = .ok (.iinc 5 1, 3) := by decide +kernel
theorem dc_Clock_lonely_75 : decode cd_Clock_lonely 75 = .ok (.goto (-50), 3) := by decide +kernel
theorem dc_Clock_lonely_78 : decode cd_Clock_lonely 78 = .ok (.iload_n 1, 1) := by decide +kernel
theorem dc_Clock_lonely_79 : decode cd_Clock_lonely 79 = .ok (.ifCond .ne 11, 3) := by decide +kernel
theorem dc_Clock_lonely_82 : decode cd_Clock_lonely 82 = .ok (.iload_n 2, 1) := by decide +kernel
theorem dc_Clock_lonely_83 : decode cd_Clock_lonely 83 = .ok (.ifCond .le 7, 3) := by decide +kernel
theorem dc_Clock_lonely_86 : decode cd_Clock_lonely 86 = .ok (.iload_n 2, 1) := by decide +kernel
theorem dc_Clock_lonely_87 : decode cd_Clock_lonely 87 = .ok (.goto 4, 3) := by decide +kernel
theorem dc_Clock_lonely_90 : decode cd_Clock_lonely 90 = .ok (.iload_n 3, 1) := by decide +kernel
theorem dc_Clock_lonely_91 : decode cd_Clock_lonely 91 = .ok (.ireturn, 1) := by decide +kernel
theorem dc_Clock_years_0 : decode cd_Clock_years 0 = .ok (.iload_n 1, 1) := by decide +kernel
theorem dc_Clock_years_1 : decode cd_Clock_years 1 = .ok (.ifCond .lt 30, 3) := by decide +kernel
theorem dc_Clock_years_4 : decode cd_Clock_years 4 = .ok (.iload_n 1, 1) := by decide +kernel
theorem dc_Clock_years_5 : decode cd_Clock_years 5 = .ok (.sipush 9999, 3) := by decide +kernel
theorem dc_Clock_years_8 : decode cd_Clock_years 8 = .ok (.if_icmp .gt 23, 3) := by decide +kernel
theorem dc_Clock_years_11 : decode cd_Clock_years 11 = .ok (.iload_n 2, 1) := by decide +kernel
theorem dc_Clock_years_12 : decode cd_Clock_years 12 = .ok (.iconst 1, 1) := by decide +kernel
theorem dc_Clock_years_13 : decode cd_Clock_years 13 = .ok (.if_icmp .lt 18, 3) := by decide +kernel
theorem dc_Clock_years_16 : decode cd_Clock_years 16 = .ok (.iload_n 2, 1) := by decide +kernel
theorem dc_Clock_years_17 : decode cd_Clock_years 17 = .ok (.bipush 20, 2) := by decide +kernel
theorem dc_Clock_years_19 : decode cd_Clock_years 19 = .ok (.if_icmp .gt 12, 3) := by decide +kernel
theorem dc_Clock_years_22 : decode cd_Clock_years 22 = .ok (.iload_n 3, 1) := by decide +kernel
theorem dc_Clock_years_23 : decode cd_Clock_years 23 = .ok (.ifCond .lt 8, 3) := by decide +kernel
theorem dc_Clock_years_26 : decode cd_Clock_years 26 = .ok (.iload_n 3, 1) := by decide +kernel
theorem dc_Clock_years_27 : decode cd_Clock_years 27 = .ok (.iconst 2, 1) := by decide +kernel
theorem dc_Clock_years_28 : decode cd_Clock_years 28 = .ok (.if_icmp .le 5, 3) := by decide +kernel
theorem dc_Clock_years_31 : decode cd_Clock_years 31 = .ok (.iconst (-1), 1) := by decide +kernel
theorem dc_Clock_years_32 : decode cd_Clock_years 32 = .ok (.ireturn, 1) := by decide +kernel
theorem dc_Clock_years_33 : decode cd_Clock_years 33 = .ok (.iconst 0, 1) := by decide +kernel
theorem dc_Clock_years_34 : decode cd_Clock_years 34 = .ok (.istore 4, 2) := by decide +kernel
theorem dc_Clock_years_36 : decode cd_Clock_years 36 = .ok (.aload_n 0, 1) := by decide +kernel
theorem dc_Clock_years_37 : decode cd_Clock_years 37 = .ok (.iload_n 1, 1) := by decide +kernel
theorem dc_Clock_years_38 : decode cd_Clock_years 38 = .ok (.i2l, 1) := by decide +kernel
theorem dc_Clock_years_39 : decode cd_Clock_years 39 = .ok (.putfield 315, 3) := by decide +kernel
theorem dc_Clock_years_42 : decode cd_Clock_years 42 = .ok (.aload_n 0, 1) := by decide +kernel
theorem dc_Clock_years_43 : decode cd_Clock_years 43 = .ok (.getfield 60, 3) := by decide +kernel
theorem dc_Clock_years_46 : decode cd_Clock_years 46 = .ok (.aload_n 0, 1) := by decide +kernel
theorem dc_Clock_years_47 : decode cd_Clock_years 47 = .ok (.getfield 45, 3) := by decide +kernel
theorem dc_Clock_years_50 : decode cd_Clock_years 50 = .ok (.getfield 143, 3) := by decide +kernel
theorem dc_Clock_years_53 : decode cd_Clock_years 53 = .ok (.invokevirtual 222, 3) := by decide +kernel
theorem dc_Clock_years_56 : decode cd_Clock_years 56 = .ok (.iconst 0, 1) := by decide +kernel
theorem dc_Clock_years_57 : decode cd_Clock_years 57 = .ok (.istore 5, 2) := by decide +kernel
theorem dc_Clock_years_59 : decode cd_Clock_years 59 = .ok (.iload 5, 2) := by decide +kernel
theorem dc_Clock_years_61 : decode cd_Clock_years 61 = .ok (.iload_n 2, 1) := by decide +kernel
theorem dc_Clock_years_62 : decode cd_Clock_years 62 = .ok (.if_icmp .ge 87, 3) := by decide +kernel
theorem dc_Clock_years_65 : decode cd_Clock_years 65 = .ok (.aload_n 0, 1) := by decide +kernel
theorem dc_Clock_years_66 : decode cd_Clock_years 66 = .ok (.invokevirtual 319, 3) := by decide +kernel
theorem dc_Clock_years_69 : decode cd_Clock_years 69 = .ok (.aload_n 0, 1) := by decide +kernel
theorem dc_Clock_years_70 : decode cd_Clock_years 70 = .ok (.getfield 67, 3) := by decide +kernel
theorem dc_Clock_years_73 : decode cd_Clock_years 73 = .ok (.aload_n 0, 1) := by decide +kernel
theorem dc_Clock_years_74 : decode cd_Clock_years 74 = .ok (.getfield 28, 3) := by decide +kernel
theorem dc_Clock_years_77 : decode cd_Clock_years 77 = .ok (.aload_n 0, 1) := by decide +kernel
theorem dc_Clock_years_78 : decode cd_Clock_years 78 = .ok (.getfield 60, 3) := by decide +kernel
theorem dc_Clock_years_81 : decode cd_Clock_years 81 = .ok (.invokevirtual 161, 3) := by decide +kernel
theorem dc_Clock_years_84 : decode cd_Clock_years 84 = .ok (.aload_n 0, 1) := by decide +kernel
theorem dc_Clock_years_85 : decode cd_Clock_years 85 = .ok (.getfield 67, 3) := by decide +kernel
theorem dc_Clock_years_88 : decode cd_Clock_years 88 = .ok (.invokevirtual 212, 3) := by decide +kernel
theorem dc_Clock_years_91 : decode cd_Clock_years 91 = .ok (.istore 6, 2) := by decide +kernel
theorem dc_Clock_years_93 : decode cd_Clock_years 93 = .ok (.iload_n 3, 1) := by decide +kernel
theorem dc_Clock_years_94 : decode cd_Clock_years 94 = .ok (.ifCond .ne 13, 3) := by decide +kernel
theorem dc_Clock_years_97 : decode cd_Clock_years 97 = .ok (.iload 4, 2) := by decide +kernel
theorem dc_Clock_years_99 : decode cd_Clock_years 99 = .ok (.iload 6, 2) := by decide +kernel
theorem dc_Clock_years_101 : decode cd_Clock_years 101 = .ok (.iadd, 1) := by decide +kernel
theorem dc_Clock_years_102 : decode cd_Clock_years 102 = .ok (.istore 4, 2) := by decide +kernel
theorem dc_Clock_years_104 : decode cd_Clock_years 104 = .ok (.goto 30, 3) := by decide +kernel
theorem dc_Clock_years_107 : decode cd_Clock_years 107 = .ok (.iload 4, 2) := by decide +kernel
theorem dc_Clock_years_109 : decode cd_Clock_years 109 = .ok (.iload_n 3, 1) := by decide +kernel
theorem dc_Clock_years_110 : decode cd_Clock_years 110 = .ok (.iconst 1, 1) := by decide +kernel
theorem dc_Clock_years_111 : decode cd_Clock_years 111 = .ok (.if_icmp .ne 13, 3) := by decide +kernel
theorem dc_Clock_years_114 : decode cd_Clock_years 114 = .ok (.aload_n 0, 1) := by decide +kernel
theorem dc_Clock_years_115 : decode cd_Clock_years 115 = .ok (.getfield 67, 3) := by decide +kernel
theorem dc_Clock_years_118 : decode cd_Clock_years 118 = .ok (.invokevirtual 236, 3) := by decide +kernel
theorem dc_Clock_years_121 : decode cd_Clock_years 121 = .ok (.goto 10, 3) := by decide +kernel
theorem dc_Clock_years_124 : decode cd_Clock_years 124 = .ok (.aload_n 0, 1) := by decide +kernel
theorem dc_Clock_years_125 : decode cd_Clock_years 125 = .ok (.getfield 67, 3) := by decide +kernel
theorem dc_Clock_years_128 : decode cd_Clock_years 128 = .ok (.invokevirtual 322, 3) := by decide +kernel
theorem dc_Clock_years_131 : decode cd_Clock_years 131 = .ok (.iadd, 1) := by decide +kernel
theorem dc_Clock_years_132 : decode cd_Clock_years 132 = .ok (.istore 4, 2) := by decide +kernel
theorem dc_Clock_years_134 : decode cd_Clock_years 134 = .ok (.aload_n 0, 1) := by decide +kernel
theorem dc_Clock_years_135 : decode cd_Clock_years 135 = .ok (.getfield 60, 3) := by decide +kernel
theorem dc_Clock_years_138 : decode cd_Clock_years 138 = .ok (.iload 6, 2) := by decide +kernel
theorem dc_Clock_years_140 : decode cd_Clock_years 140 = .ok (.invokevirtual 216, 3) := by decide +kernel
theorem dc_Clock_years_143 : decode cd_Clock_years 143 = .ok (.iinc 5 1, 3) := by decide +kernel
theorem dc_Clock_years_146 : decode cd_Clock_years 146 = .ok (.goto (-87), 3) := by decide +kernel
theorem dc_Clock_years_149 : decode cd_Clock_years 149 = .ok (.iload 4, 2) := by decide +kernel
theorem dc_Clock_years_151 : decode cd_Clock_years 151 = .ok (.ireturn, 1) := by decide +kernel
theorem dc_HillsReader_canBegin_0 : decode cd_HillsReader_canBegin 0 = .ok (.iload_n 1, 1) := by decide +kernel
theorem dc_HillsReader_canBegin_1 : decode cd_HillsReader_canBegin 1 = .ok (.bipush 6, 2) := by decide +kernel
theorem dc_HillsReader_canBegin_3 : decode cd_HillsReader_canBegin 3 = .ok (.if_icmp .lt 12, 3) := by decide +kernel
theorem dc_HillsReader_canBegin_6 : decode cd_HillsReader_canBegin 6 = .ok (.aload_n 0, 1) := by decide +kernel
theorem dc_HillsReader_canBegin_7 : decode cd_HillsReader_canBegin 7 = .ok (.getfield 9, 3) := by decide +kernel
theorem dc_HillsReader_canBegin_10 : decode cd_HillsReader_canBegin 10 = .ok (.iconst 5, 1) := by decide +kernel
theorem dc_HillsReader_canBegin_11 : decode cd_HillsReader_canBegin 11 = .ok (.invokevirtual 100, 3) := by decide +kernel
theorem dc_HillsReader_canBegin_14 : decode cd_HillsReader_canBegin 14 = .ok (.ireturn, 1) := by decide +kernel
theorem dc_HillsReader_canBegin_15 : decode cd_HillsReader_canBegin 15 = .ok (.aload_n 0, 1) := by decide +kernel
theorem dc_HillsReader_canBegin_16 : decode cd_HillsReader_canBegin 16 = .ok (.getfield 9, 3) := by decide +kernel
theorem dc_HillsReader_canBegin_19 : decode cd_HillsReader_canBegin 19 = .ok (.invokevirtual 110, 3) := by decide +kernel
theorem dc_HillsReader_canBegin_22 : decode cd_HillsReader_canBegin 22 = .ok (.iconst 1, 1) := by decide +kernel
theorem dc_HillsReader_canBegin_23 : decode cd_HillsReader_canBegin 23 = .ok (.ireturn, 1) := by decide +kernel
theorem dc_HillsReader_readNewName_0 : decode cd_HillsReader_readNewName 0 = .ok (.aload_n 0, 1) := by decide +kernel
theorem dc_HillsReader_readNewName_1 : decode cd_HillsReader_readNewName 1 = .ok (.getfield 9, 3) := by decide +kernel
theorem dc_HillsReader_readNewName_4 : decode cd_HillsReader_readNewName 4 = .ok (.invokevirtual 113, 3) := by decide +kernel
theorem dc_HillsReader_readNewName_7 : decode cd_HillsReader_readNewName 7 = .ok (.ifCond .ne 12, 3) := by decide +kernel
theorem dc_HillsReader_readNewName_10 : decode cd_HillsReader_readNewName 10 = .ok (.aload_n 0, 1) := by decide +kernel
theorem dc_HillsReader_readNewName_11 : decode cd_HillsReader_readNewName 11 = .ok (.getfield 9, 3) := by decide +kernel
theorem dc_HillsReader_readNewName_14 : decode cd_HillsReader_readNewName 14 = .ok (.iconst 1, 1) := by decide +kernel
theorem dc_HillsReader_readNewName_15 : decode cd_HillsReader_readNewName 15 = .ok (.invokevirtual 100, 3) := by decide +kernel
theorem dc_HillsReader_readNewName_18 : decode cd_HillsReader_readNewName 18 = .ok (.ireturn, 1) := by decide +kernel
theorem dc_HillsReader_readNewName_19 : decode cd_HillsReader_readNewName 19 = .ok (.aload_n 0, 1) := by decide +kernel
theorem dc_HillsReader_readNewName_20 : decode cd_HillsReader_readNewName 20 = .ok (.getfield 15, 3) := by decide +kernel
theorem dc_HillsReader_readNewName_23 : decode cd_HillsReader_readNewName 23 = .ok (.aload_n 0, 1) := by decide +kernel
theorem dc_HillsReader_readNewName_24 : decode cd_HillsReader_readNewName 24 = .ok (.getfield 9, 3) := by decide +kernel
theorem dc_HillsReader_readNewName_27 : decode cd_HillsReader_readNewName 27 = .ok (.getfield 116, 3) := by decide +kernel
theorem dc_HillsReader_readNewName_30 : decode cd_HillsReader_readNewName 30 = .ok (.invokevirtual 120, 3) := by decide +kernel
theorem dc_HillsReader_readNewName_33 : decode cd_HillsReader_readNewName 33 = .ok (.ifCond .eq 12, 3) := by decide +kernel
theorem dc_HillsReader_readNewName_36 : decode cd_HillsReader_readNewName 36 = .ok (.aload_n 0, 1) := by decide +kernel
theorem dc_HillsReader_readNewName_37 : decode cd_HillsReader_readNewName 37 = .ok (.getfield 9, 3) := by decide +kernel
theorem dc_HillsReader_readNewName_40 : decode cd_HillsReader_readNewName 40 = .ok (.iconst 3, 1) := by decide +kernel
theorem dc_HillsReader_readNewName_41 : decode cd_HillsReader_readNewName 41 = .ok (.invokevirtual 100, 3) := by decide +kernel
theorem dc_HillsReader_readNewName_44 : decode cd_HillsReader_readNewName 44 = .ok (.ireturn, 1) := by decide +kernel
theorem dc_HillsReader_readNewName_45 : decode cd_HillsReader_readNewName 45 = .ok (.aload_n 1, 1) := by decide +kernel
theorem dc_HillsReader_readNewName_46 : decode cd_HillsReader_readNewName 46 = .ok (.iload_n 2, 1) := by decide +kernel
theorem dc_HillsReader_readNewName_47 : decode cd_HillsReader_readNewName 47 = .ok (.aload_n 0, 1) := by decide +kernel
theorem dc_HillsReader_readNewName_48 : decode cd_HillsReader_readNewName 48 = .ok (.getfield 9, 3) := by decide +kernel
theorem dc_HillsReader_readNewName_51 : decode cd_HillsReader_readNewName 51 = .ok (.getfield 116, 3) := by decide +kernel
theorem dc_HillsReader_readNewName_54 : decode cd_HillsReader_readNewName 54 = .ok (.lastore, 1) := by decide +kernel
theorem dc_HillsReader_readNewName_55 : decode cd_HillsReader_readNewName 55 = .ok (.aload_n 0, 1) := by decide +kernel
theorem dc_HillsReader_readNewName_56 : decode cd_HillsReader_readNewName 56 = .ok (.getfield 9, 3) := by decide +kernel
theorem dc_HillsReader_readNewName_59 : decode cd_HillsReader_readNewName 59 = .ok (.invokevirtual 110, 3) := by decide +kernel
theorem dc_HillsReader_readNewName_62 : decode cd_HillsReader_readNewName 62 = .ok (.iconst 1, 1) := by decide +kernel
theorem dc_HillsReader_readNewName_63 : decode cd_HillsReader_readNewName 63 = .ok (.ireturn, 1) := by decide +kernel
theorem dc_HillsReader_takeKind_0 : decode cd_HillsReader_takeKind 0 = .ok (.aload_n 0, 1) := by decide +kernel
theorem dc_HillsReader_takeKind_1 : decode cd_HillsReader_takeKind 1 = .ok (.getfield 9, 3) := by decide +kernel
theorem dc_HillsReader_takeKind_4 : decode cd_HillsReader_takeKind 4 = .ok (.getfield 37, 3) := by decide +kernel
theorem dc_HillsReader_takeKind_7 : decode cd_HillsReader_takeKind 7 = .ok (.astore_n 1, 1) := by decide +kernel
theorem dc_HillsReader_takeKind_8 : decode cd_HillsReader_takeKind 8 = .ok (.aload_n 1, 1) := by decide +kernel
theorem dc_HillsReader_takeKind_9 : decode cd_HillsReader_takeKind 9 = .ok (.getstatic 201, 3) := by decide +kernel
theorem dc_HillsReader_takeKind_12 : decode cd_HillsReader_takeKind 12 = .ok (.if_acmp .ne 7, 3) := by decide +kernel
theorem dc_HillsReader_takeKind_15 : decode cd_HillsReader_takeKind 15 = .ok (.iconst 0, 1) := by decide +kernel
theorem dc_HillsReader_takeKind_16 : decode cd_HillsReader_takeKind 16 = .ok (.goto 37, 3) := by decide +kernel
theorem dc_HillsReader_takeKind_19 : decode cd_HillsReader_takeKind 19 = .ok (.aload_n 1, 1) := by decide +kernel
theorem dc_HillsReader_takeKind_20 : decode cd_HillsReader_takeKind 20 = .ok (.getstatic 204, 3) := by decide +kernel
theorem dc_HillsReader_takeKind_23 : decode cd_HillsReader_takeKind 23 = .ok (.if_acmp .ne 7, 3) := by decide +kernel
theorem dc_HillsReader_takeKind_26 : decode cd_HillsReader_takeKind 26 = .ok (.iconst 1, 1) := by decide +kernel
theorem dc_HillsReader_takeKind_27 : decode cd_HillsReader_takeKind 27 = .ok (.goto 26, 3) := by decide +kernel
theorem dc_HillsReader_takeKind_30 : decode cd_HillsReader_takeKind 30 = .ok (.aload_n 1, 1) := by decide +kernel
theorem dc_HillsReader_takeKind_31 : decode cd_HillsReader_takeKind 31 = .ok (.getstatic 207, 3) := by decide +kernel
theorem dc_HillsReader_takeKind_34 : decode cd_HillsReader_takeKind 34 = .ok (.if_acmp .ne 7, 3) := by decide +kernel
theorem dc_HillsReader_takeKind_37 : decode cd_HillsReader_takeKind 37 = .ok (.iconst 2, 1) := by decide +kernel
theorem dc_HillsReader_takeKind_38 : decode cd_HillsReader_takeKind 38 = .ok (.goto 15, 3) := by decide +kernel
theorem dc_HillsReader_takeKind_41 : decode cd_HillsReader_takeKind 41 = .ok (.aload_n 1, 1) := by decide +kernel
theorem dc_HillsReader_takeKind_42 : decode cd_HillsReader_takeKind 42 = .ok (.getstatic 210, 3) := by decide +kernel
theorem dc_HillsReader_takeKind_45 : decode cd_HillsReader_takeKind 45 = .ok (.if_acmp .ne 7, 3) := by decide +kernel
theorem dc_HillsReader_takeKind_48 : decode cd_HillsReader_takeKind 48 = .ok (.iconst 3, 1) := by decide +kernel
theorem dc_HillsReader_takeKind_49 : decode cd_HillsReader_takeKind 49 = .ok (.goto 4, 3) := by decide +kernel
theorem dc_HillsReader_takeKind_52 : decode cd_HillsReader_takeKind 52 = .ok (.iconst (-1), 1) := by decide +kernel
theorem dc_HillsReader_takeKind_53 : decode cd_HillsReader_takeKind 53 = .ok (.istore_n 2, 1) := by decide +kernel
theorem dc_HillsReader_takeKind_54 : decode cd_HillsReader_takeKind 54 = .ok (.iload_n 2, 1) := by decide +kernel
theorem dc_HillsReader_takeKind_55 : decode cd_HillsReader_takeKind 55 = .ok (.iconst (-1), 1) := by decide +kernel
theorem dc_HillsReader_takeKind_56 : decode cd_HillsReader_takeKind 56 = .ok (.if_icmp .ne 15, 3) := by decide +kernel
theorem dc_HillsReader_takeKind_59 : decode cd_HillsReader_takeKind 59 = .ok (.aload_n 0, 1) := by decide +kernel
theorem dc_HillsReader_takeKind_60 : decode cd_HillsReader_takeKind 60 = .ok (.getfield 9, 3) := by decide +kernel
theorem dc_HillsReader_takeKind_63 : decode cd_HillsReader_takeKind 63 = .ok (.iconst 1, 1) := by decide +kernel
theorem dc_HillsReader_takeKind_64 : decode cd_HillsReader_takeKind 64 = .ok (.invokevirtual 100, 3) := by decide +kernel
theorem dc_HillsReader_takeKind_67 : decode cd_HillsReader_takeKind 67 = .ok (.pop, 1) := by decide +kernel
theorem dc_HillsReader_takeKind_68 : decode cd_HillsReader_takeKind 68 = .ok (.goto 10, 3) := by decide +kernel
theorem dc_HillsReader_takeKind_71 : decode cd_HillsReader_takeKind 71 = .ok (.aload_n 0, 1) := by decide +kernel
theorem dc_HillsReader_takeKind_72 : decode cd_HillsReader_takeKind 72 = .ok (.getfield 9, 3) := by decide +kernel
theorem dc_HillsReader_takeKind_75 : decode cd_HillsReader_takeKind 75 = .ok (.invokevirtual 110, 3) := by decide +kernel
theorem dc_HillsReader_takeKind_78 : decode cd_HillsReader_takeKind 78 = .ok (.iload_n 2, 1) := by decide +kernel
theorem dc_HillsReader_takeKind_79 : decode cd_HillsReader_takeKind 79 = .ok (.ireturn, 1) := by decide +kernel
theorem dc_HillsReader_readRound_0 : decode cd_HillsReader_readRound 0 = .ok (.iconst 0, 1) := by decide +kernel
theorem dc_HillsReader_readRound_1 : decode cd_HillsReader_readRound 1 = .ok (.istore_n 2, 1) := by decide +kernel
theorem dc_HillsReader_readRound_2 : decode cd_HillsReader_readRound 2 = .ok (.iload_n 2, 1) := by decide +kernel
theorem dc_HillsReader_readRound_3 : decode cd_HillsReader_readRound 3 = .ok (.iconst 4, 1) := by decide +kernel
theorem dc_HillsReader_readRound_4 : decode cd_HillsReader_readRound 4 = .ok (.if_icmp .gt 103, 3) := by decide +kernel
theorem dc_HillsReader_readRound_7 : decode cd_HillsReader_readRound 7 = .ok (.iload_n 2, 1) := by decide +kernel
theorem dc_HillsReader_readRound_8 : decode cd_HillsReader_readRound 8 = .ok (.iconst 2, 1) := by decide +kernel
theorem dc_HillsReader_readRound_9 : decode cd_HillsReader_readRound 9 = .ok (.if_icmp .lt 17, 3) := by decide +kernel
theorem dc_HillsReader_readRound_12 : decode cd_HillsReader_readRound 12 = .ok (.aload_n 0, 1) := by decide +kernel
theorem dc_HillsReader_readRound_13 : decode cd_HillsReader_readRound 13 = .ok (.getfield 9, 3) := by decide +kernel
theorem dc_HillsReader_readRound_16 : decode cd_HillsReader_readRound 16 = .ok (.bipush 59, 2) := by decide +kernel
theorem dc_HillsReader_readRound_18 : decode cd_HillsReader_readRound 18 = .ok (.invokevirtual 213, 3) := by decide +kernel
theorem dc_HillsReader_readRound_21 : decode cd_HillsReader_readRound 21 = .ok (.ifCond .eq 5, 3) := by decide +kernel
theorem dc_HillsReader_readRound_24 : decode cd_HillsReader_readRound 24 = .ok (.iconst 1, 1) := by decide +kernel
theorem dc_HillsReader_readRound_25 : decode cd_HillsReader_readRound 25 = .ok (.ireturn, 1) := by decide +kernel
theorem dc_HillsReader_readRound_26 : decode cd_HillsReader_readRound 26 = .ok (.aload_n 0, 1) := by decide +kernel
theorem dc_HillsReader_readRound_27 : decode cd_HillsReader_readRound 27 = .ok (.invokevirtual 149, 3) := by decide +kernel
theorem dc_HillsReader_readRound_30 : decode cd_HillsReader_readRound 30 = .ok (.istore_n 3, 1) := by decide +kernel
theorem dc_HillsReader_readRound_31 : decode cd_HillsReader_readRound 31 = .ok (.iload_n 3, 1) := by decide +kernel
theorem dc_HillsReader_readRound_32 : decode cd_HillsReader_readRound 32 = .ok (.iconst (-1), 1) := by decide +kernel
theorem dc_HillsReader_readRound_33 : decode cd_HillsReader_readRound 33 = .ok (.if_icmp .ne 5, 3) := by decide +kernel
theorem dc_HillsReader_readRound_36 : decode cd_HillsReader_readRound 36 = .ok (.iconst 0, 1) := by decide +kernel
theorem dc_HillsReader_readRound_37 : decode cd_HillsReader_readRound 37 = .ok (.ireturn, 1) := by decide +kernel
theorem dc_HillsReader_readRound_38 : decode cd_HillsReader_readRound 38 = .ok (.iload_n 2, 1) := by decide +kernel
theorem dc_HillsReader_readRound_39 : decode cd_HillsReader_readRound 39 = .ok (.ifCond .le 24, 3) := by decide +kernel
theorem dc_HillsReader_readRound_42 : decode cd_HillsReader_readRound 42 = .ok (.aload_n 1, 1) := by decide +kernel
theorem dc_HillsReader_readRound_43 : decode cd_HillsReader_readRound 43 = .ok (.getfield 216, 3) := by decide +kernel
theorem dc_HillsReader_readRound_46 : decode cd_HillsReader_readRound 46 = .ok (.iload_n 2, 1) := by decide +kernel
theorem dc_HillsReader_readRound_47 : decode cd_HillsReader_readRound 47 = .ok (.iconst 1, 1) := by decide +kernel
theorem dc_HillsReader_readRound_48 : decode cd_HillsReader_readRound 48 = .ok (.isub, 1) := by decide +kernel
theorem dc_HillsReader_readRound_49 : decode cd_HillsReader_readRound 49 = .ok (.iaload, 1) := by decide +kernel
theorem dc_HillsReader_readRound_50 : decode cd_HillsReader_readRound 50 = .ok (.iload_n 3, 1) := by decide +kernel
theorem dc_HillsReader_readRound_51 : decode cd_HillsReader_readRound 51 = .ok (.if_icmp .ne 12, 3) := by decide +kernel
theorem dc_HillsReader_readRound_54 : decode cd_HillsReader_readRound 54 = .ok (.aload_n 0, 1) := by decide +kernel
theorem dc_HillsReader_readRound_55 : decode cd_HillsReader_readRound 55 = .ok (.getfield 9, 3) := by decide +kernel
theorem dc_HillsReader_readRound_58 : decode cd_HillsReader_readRound 58 = .ok (.iconst 3, 1) := by decide +kernel
theorem dc_HillsReader_readRound_59 : decode cd_HillsReader_readRound 59 = .ok (.invokevirtual 100, 3) := by decide +kernel
theorem dc_HillsReader_readRound_62 : decode cd_HillsReader_readRound 62 = .ok (.ireturn, 1) := by decide +kernel
theorem dc_HillsReader_readRound_63 : decode cd_HillsReader_readRound 63 = .ok (.iload_n 2, 1) := by decide +kernel
theorem dc_HillsReader_readRound_64 : decode cd_HillsReader_readRound 64 = .ok (.iconst 4, 1) := by decide +kernel
theorem dc_HillsReader_readRound_65 : decode cd_HillsReader_readRound 65 = .ok (.if_icmp .lt 12, 3) := by decide +kernel
theorem dc_HillsReader_readRound_68 : decode cd_HillsReader_readRound 68 = .ok (.aload_n 0, 1) := by decide +kernel
theorem dc_HillsReader_readRound_69 : decode cd_HillsReader_readRound 69 = .ok (.getfield 9, 3) := by decide +kernel
theorem dc_HillsReader_readRound_72 : decode cd_HillsReader_readRound 72 = .ok (.iconst 5, 1) := by decide +kernel
theorem dc_HillsReader_readRound_73 : decode cd_HillsReader_readRound 73 = .ok (.invokevirtual 100, 3) := by decide +kernel
theorem dc_HillsReader_readRound_76 : decode cd_HillsReader_readRound 76 = .ok (.ireturn, 1) := by decide +kernel
theorem dc_HillsReader_readRound_77 : decode cd_HillsReader_readRound 77 = .ok (.aload_n 1, 1) := by decide +kernel
theorem dc_HillsReader_readRound_78 : decode cd_HillsReader_readRound 78 = .ok (.getfield 216, 3) := by decide +kernel
theorem dc_HillsReader_readRound_81 : decode cd_HillsReader_readRound 81 = .ok (.iload_n 2, 1) := by decide +kernel
theorem dc_HillsReader_readRound_82 : decode cd_HillsReader_readRound 82 = .ok (.iload_n 3, 1) := by decide +kernel
theorem dc_HillsReader_readRound_83 : decode cd_HillsReader_readRound 83 = .ok (.iastore, 1) := by decide +kernel
theorem dc_HillsReader_readRound_84 : decode cd_HillsReader_readRound 84 = .ok (.aload_n 1, 1) := by decide +kernel
theorem dc_HillsReader_readRound_85 : decode cd_HillsReader_readRound 85 = .ok (.dup, 1) := by decide +kernel
theorem dc_HillsReader_readRound_86 : decode cd_HillsReader_readRound 86 = .ok (.getfield 219, 3) := by decide +kernel
theorem dc_HillsReader_readRound_89 : decode cd_HillsReader_readRound 89 = .ok (.iconst 1, 1) := by decide +kernel
theorem dc_HillsReader_readRound_90 : decode cd_HillsReader_readRound 90 = .ok (.iadd, 1) := by decide +kernel
theorem dc_HillsReader_readRound_91 : decode cd_HillsReader_readRound 91 = .ok (.putfield 219, 3) := by decide +kernel
theorem dc_HillsReader_readRound_94 : decode cd_HillsReader_readRound 94 = .ok (.aload_n 0, 1) := by decide +kernel
theorem dc_HillsReader_readRound_95 : decode cd_HillsReader_readRound 95 = .ok (.getfield 9, 3) := by decide +kernel
theorem dc_HillsReader_readRound_98 : decode cd_HillsReader_readRound 98 = .ok (.invokevirtual 110, 3) := by decide +kernel
theorem dc_HillsReader_readRound_101 : decode cd_HillsReader_readRound 101 = .ok (.iinc 2 1, 3) := by decide +kernel
theorem dc_HillsReader_readRound_104 : decode cd_HillsReader_readRound 104 = .ok (.goto (-102), 3) := by decide +kernel
theorem dc_HillsReader_readRound_107 : decode cd_HillsReader_readRound 107 = .ok (.iconst 1, 1) := by decide +kernel
theorem dc_HillsReader_readRound_108 : decode cd_HillsReader_readRound 108 = .ok (.ireturn, 1) := by decide +kernel
theorem dc_Tape_open_0 : decode cd_Tape_open 0 = .ok (.aload_n 0, 1) := by decide +kernel
theorem dc_Tape_open_1 : decode cd_Tape_open 1 = .ok (.iconst 0, 1) := by decide +kernel
theorem dc_Tape_open_2 : decode cd_Tape_open 2 = .ok (.putfield 25, 3) := by decide +kernel
theorem dc_Tape_open_5 : decode cd_Tape_open 5 = .ok (.aload_n 0, 1) := by decide +kernel
theorem dc_Tape_open_6 : decode cd_Tape_open 6 = .ok (.iconst 0, 1) := by decide +kernel
theorem dc_Tape_open_7 : decode cd_Tape_open 7 = .ok (.putfield 28, 3) := by decide +kernel
theorem dc_Tape_open_10 : decode cd_Tape_open 10 = .ok (.aload_n 0, 1) := by decide +kernel
theorem dc_Tape_open_11 : decode cd_Tape_open 11 = .ok (.invokevirtual 31, 3) := by decide +kernel
theorem dc_Tape_open_14 : decode cd_Tape_open 14 = .ok (.return_, 1) := by decide +kernel
theorem dc_Tape_take_0 : decode cd_Tape_take 0 = .ok (.aload_n 0, 1) := by decide +kernel
theorem dc_Tape_take_1 : decode cd_Tape_take 1 = .ok (.getfield 37, 3) := by decide +kernel
theorem dc_Tape_take_4 : decode cd_Tape_take 4 = .ok (.aload_n 1, 1) := by decide +kernel
theorem dc_Tape_take_5 : decode cd_Tape_take 5 = .ok (.if_acmp .eq 9, 3) := by decide +kernel
theorem dc_Tape_take_8 : decode cd_Tape_take 8 = .ok (.aload_n 0, 1) := by decide +kernel
theorem dc_Tape_take_9 : decode cd_Tape_take 9 = .ok (.iconst 1, 1) := by decide +kernel
theorem dc_Tape_take_10 : decode cd_Tape_take 10 = .ok (.invokevirtual 84, 3) := by decide +kernel
theorem dc_Tape_take_13 : decode cd_Tape_take 13 = .ok (.ireturn, 1) := by decide +kernel
theorem dc_Tape_take_14 : decode cd_Tape_take 14 = .ok (.aload_n 0, 1) := by decide +kernel
theorem dc_Tape_take_15 : decode cd_Tape_take 15 = .ok (.invokevirtual 31, 3) := by decide +kernel
theorem dc_Tape_take_18 : decode cd_Tape_take 18 = .ok (.iconst 1, 1) := by decide +kernel
theorem dc_Tape_take_19 : decode cd_Tape_take 19 = .ok (.ireturn, 1) := by decide +kernel
theorem dc_Tape_takeSign_0 : decode cd_Tape_takeSign 0 = .ok (.aload_n 0, 1) := by decide +kernel
theorem dc_Tape_takeSign_1 : decode cd_Tape_takeSign 1 = .ok (.iload_n 1, 1) := by decide +kernel
theorem dc_Tape_takeSign_2 : decode cd_Tape_takeSign 2 = .ok (.invokevirtual 88, 3) := by decide +kernel
theorem dc_Tape_takeSign_5 : decode cd_Tape_takeSign 5 = .ok (.ifCond .ne 9, 3) := by decide +kernel
theorem dc_Tape_takeSign_8 : decode cd_Tape_takeSign 8 = .ok (.aload_n 0, 1) := by decide +kernel
theorem dc_Tape_takeSign_9 : decode cd_Tape_takeSign 9 = .ok (.iconst 1, 1) := by decide +kernel
theorem dc_Tape_takeSign_10 : decode cd_Tape_takeSign 10 = .ok (.invokevirtual 84, 3) := by decide +kernel
theorem dc_Tape_takeSign_13 : decode cd_Tape_takeSign 13 = .ok (.ireturn, 1) := by decide +kernel
theorem dc_Tape_takeSign_14 : decode cd_Tape_takeSign 14 = .ok (.aload_n 0, 1) := by decide +kernel
theorem dc_Tape_takeSign_15 : decode cd_Tape_takeSign 15 = .ok (.invokevirtual 31, 3) := by decide +kernel
theorem dc_Tape_takeSign_18 : decode cd_Tape_takeSign 18 = .ok (.iconst 1, 1) := by decide +kernel
theorem dc_Tape_takeSign_19 : decode cd_Tape_takeSign 19 = .ok (.ireturn, 1) := by decide +kernel
theorem dc_Tape_takeNumber_0 : decode cd_Tape_takeNumber 0 = .ok (.aload_n 0, 1) := by decide +kernel
theorem dc_Tape_takeNumber_1 : decode cd_Tape_takeNumber 1 = .ok (.invokevirtual 91, 3) := by decide +kernel
theorem dc_Tape_takeNumber_4 : decode cd_Tape_takeNumber 4 = .ok (.ifCond .eq 19, 3) := by decide +kernel
theorem dc_Tape_takeNumber_7 : decode cd_Tape_takeNumber 7 = .ok (.aload_n 0, 1) := by decide +kernel
theorem dc_Tape_takeNumber_8 : decode cd_Tape_takeNumber 8 = .ok (.getfield 77, 3) := by decide +kernel
theorem dc_Tape_takeNumber_11 : decode cd_Tape_takeNumber 11 = .ok (.iload_n 1, 1) := by decide +kernel
theorem dc_Tape_takeNumber_12 : decode cd_Tape_takeNumber 12 = .ok (.if_icmp .lt 11, 3) := by decide +kernel
theorem dc_Tape_takeNumber_15 : decode cd_Tape_takeNumber 15 = .ok (.aload_n 0, 1) := by decide +kernel
theorem dc_Tape_takeNumber_16 : decode cd_Tape_takeNumber 16 = .ok (.getfield 77, 3) := by decide +kernel
theorem dc_Tape_takeNumber_19 : decode cd_Tape_takeNumber 19 = .ok (.iload_n 2, 1) := by decide +kernel
theorem dc_Tape_takeNumber_20 : decode cd_Tape_takeNumber 20 = .ok (.if_icmp .le 22, 3) := by decide +kernel
theorem dc_Tape_takeNumber_23 : decode cd_Tape_takeNumber 23 = .ok (.aload_n 0, 1) := by decide +kernel
theorem dc_Tape_takeNumber_24 : decode cd_Tape_takeNumber 24 = .ok (.aload_n 0, 1) := by decide +kernel
theorem dc_Tape_takeNumber_25 : decode cd_Tape_takeNumber 25 = .ok (.invokevirtual 91, 3) := by decide +kernel
theorem dc_Tape_takeNumber_28 : decode cd_Tape_takeNumber 28 = .ok (.ifCond .eq 7, 3) := by decide +kernel
theorem dc_Tape_takeNumber_31 : decode cd_Tape_takeNumber 31 = .ok (.iconst 4, 1) := by decide +kernel
theorem dc_Tape_takeNumber_32 : decode cd_Tape_takeNumber 32 = .ok (.goto 4, 3) := by decide +kernel
theorem dc_Tape_takeNumber_35 : decode cd_Tape_takeNumber 35 = .ok (.iconst 1, 1) := by decide +kernel
theorem dc_Tape_takeNumber_36 : decode cd_Tape_takeNumber 36 = .ok (.invokevirtual 84, 3) := by decide +kernel
theorem dc_Tape_takeNumber_39 : decode cd_Tape_takeNumber 39 = .ok (.pop, 1) := by decide +kernel
theorem dc_Tape_takeNumber_40 : decode cd_Tape_takeNumber 40 = .ok (.iconst (-1), 1) := by decide +kernel
theorem dc_Tape_takeNumber_41 : decode cd_Tape_takeNumber 41 = .ok (.ireturn, 1) := by decide +kernel
theorem dc_Tape_takeNumber_42 : decode cd_Tape_takeNumber 42 = .ok (.aload_n 0, 1) := by decide +kernel
theorem dc_Tape_takeNumber_43 : decode cd_Tape_takeNumber 43 = .ok (.getfield 77, 3) := by decide +kernel
theorem dc_Tape_takeNumber_46 : decode cd_Tape_takeNumber 46 = .ok (.istore_n 3, 1) := by decide +kernel
theorem dc_Tape_takeNumber_47 : decode cd_Tape_takeNumber 47 = .ok (.aload_n 0, 1) := by decide +kernel
theorem dc_Tape_takeNumber_48 : decode cd_Tape_takeNumber 48 = .ok (.invokevirtual 31, 3) := by decide +kernel
theorem dc_Tape_takeNumber_51 : decode cd_Tape_takeNumber 51 = .ok (.iload_n 3, 1) := by decide +kernel
theorem dc_Tape_takeNumber_52 : decode cd_Tape_takeNumber 52 = .ok (.ireturn, 1) := by decide +kernel
theorem dc_HillsReader_takeWalkerAt_0 : decode cd_HillsReader_takeWalkerAt 0 = .ok (.aload_n 0, 1) := by decide +kernel
theorem dc_HillsReader_takeWalkerAt_1 : decode cd_HillsReader_takeWalkerAt 1 = .ok (.invokevirtual 135, 3) := by decide +kernel
theorem dc_HillsReader_takeWalkerAt_4 : decode cd_HillsReader_takeWalkerAt 4 = .ok (.istore_n 1, 1) := by decide +kernel
theorem dc_HillsReader_takeWalkerAt_5 : decode cd_HillsReader_takeWalkerAt 5 = .ok (.iload_n 1, 1) := by decide +kernel
theorem dc_HillsReader_takeWalkerAt_6 : decode cd_HillsReader_takeWalkerAt 6 = .ok (.iconst (-1), 1) := by decide +kernel
theorem dc_HillsReader_takeWalkerAt_7 : decode cd_HillsReader_takeWalkerAt 7 = .ok (.if_icmp .ne 5, 3) := by decide +kernel
theorem dc_HillsReader_takeWalkerAt_10 : decode cd_HillsReader_takeWalkerAt 10 = .ok (.iconst (-1), 1) := by decide +kernel
theorem dc_HillsReader_takeWalkerAt_11 : decode cd_HillsReader_takeWalkerAt 11 = .ok (.ireturn, 1) := by decide +kernel
theorem dc_HillsReader_takeWalkerAt_12 : decode cd_HillsReader_takeWalkerAt 12 = .ok (.aload_n 0, 1) := by decide +kernel
theorem dc_HillsReader_takeWalkerAt_13 : decode cd_HillsReader_takeWalkerAt 13 = .ok (.getfield 9, 3) := by decide +kernel
theorem dc_HillsReader_takeWalkerAt_16 : decode cd_HillsReader_takeWalkerAt 16 = .ok (.invokevirtual 110, 3) := by decide +kernel
theorem dc_HillsReader_takeWalkerAt_19 : decode cd_HillsReader_takeWalkerAt 19 = .ok (.aload_n 0, 1) := by decide +kernel
theorem dc_HillsReader_takeWalkerAt_20 : decode cd_HillsReader_takeWalkerAt 20 = .ok (.getfield 9, 3) := by decide +kernel
theorem dc_HillsReader_takeWalkerAt_23 : decode cd_HillsReader_takeWalkerAt 23 = .ok (.getstatic 138, 3) := by decide +kernel
theorem dc_HillsReader_takeWalkerAt_26 : decode cd_HillsReader_takeWalkerAt 26 = .ok (.invokevirtual 60, 3) := by decide +kernel
theorem dc_HillsReader_takeWalkerAt_29 : decode cd_HillsReader_takeWalkerAt 29 = .ok (.ifCond .eq 7, 3) := by decide +kernel
theorem dc_HillsReader_takeWalkerAt_32 : decode cd_HillsReader_takeWalkerAt 32 = .ok (.iload_n 1, 1) := by decide +kernel
theorem dc_HillsReader_takeWalkerAt_33 : decode cd_HillsReader_takeWalkerAt 33 = .ok (.goto 4, 3) := by decide +kernel
theorem dc_HillsReader_takeWalkerAt_36 : decode cd_HillsReader_takeWalkerAt 36 = .ok (.iconst (-1), 1) := by decide +kernel
theorem dc_HillsReader_takeWalkerAt_37 : decode cd_HillsReader_takeWalkerAt 37 = .ok (.ireturn, 1) := by decide +kernel
theorem dc_HillsReader_readPlace_0 : decode cd_HillsReader_readPlace 0 = .ok (.aload_n 0, 1) := by decide +kernel
theorem dc_HillsReader_readPlace_1 : decode cd_HillsReader_readPlace 1 = .ok (.aload_n 0, 1) := by decide +kernel
theorem dc_HillsReader_readPlace_2 : decode cd_HillsReader_readPlace 2 = .ok (.getfield 15, 3) := by decide +kernel
theorem dc_HillsReader_readPlace_5 : decode cd_HillsReader_readPlace 5 = .ok (.getfield 124, 3) := by decide +kernel
theorem dc_HillsReader_readPlace_8 : decode cd_HillsReader_readPlace 8 = .ok (.aload_n 0, 1) := by decide +kernel
theorem dc_HillsReader_readPlace_9 : decode cd_HillsReader_readPlace 9 = .ok (.getfield 15, 3) := by decide +kernel
theorem dc_HillsReader_readPlace_12 : decode cd_HillsReader_readPlace 12 = .ok (.getfield 46, 3) := by decide +kernel
theorem dc_HillsReader_readPlace_15 : decode cd_HillsReader_readPlace 15 = .ok (.invokevirtual 141, 3) := by decide +kernel
theorem dc_HillsReader_readPlace_18 : decode cd_HillsReader_readPlace 18 = .ok (.ifCond .ne 5, 3) := by decide +kernel
theorem dc_HillsReader_readPlace_21 : decode cd_HillsReader_readPlace 21 = .ok (.iconst 0, 1) := by decide +kernel
theorem dc_HillsReader_readPlace_22 : decode cd_HillsReader_readPlace 22 = .ok (.ireturn, 1) := by decide +kernel
theorem dc_HillsReader_readPlace_23 : decode cd_HillsReader_readPlace 23 = .ok (.aload_n 0, 1) := by decide +kernel
theorem dc_HillsReader_readPlace_24 : decode cd_HillsReader_readPlace 24 = .ok (.getfield 15, 3) := by decide +kernel
theorem dc_HillsReader_readPlace_27 : decode cd_HillsReader_readPlace 27 = .ok (.dup, 1) := by decide +kernel
theorem dc_HillsReader_readPlace_28 : decode cd_HillsReader_readPlace 28 = .ok (.getfield 46, 3) := by decide +kernel
theorem dc_HillsReader_readPlace_31 : decode cd_HillsReader_readPlace 31 = .ok (.iconst 1, 1) := by decide +kernel
theorem dc_HillsReader_readPlace_32 : decode cd_HillsReader_readPlace 32 = .ok (.iadd, 1) := by decide +kernel
theorem dc_HillsReader_readPlace_33 : decode cd_HillsReader_readPlace 33 = .ok (.putfield 46, 3) := by decide +kernel
theorem dc_HillsReader_readPlace_36 : decode cd_HillsReader_readPlace 36 = .ok (.aload_n 0, 1) := by decide +kernel
theorem dc_HillsReader_readPlace_37 : decode cd_HillsReader_readPlace 37 = .ok (.getfield 9, 3) := by decide +kernel
theorem dc_HillsReader_readPlace_40 : decode cd_HillsReader_readPlace 40 = .ok (.bipush 59, 2) := by decide +kernel
theorem dc_HillsReader_readPlace_42 : decode cd_HillsReader_readPlace 42 = .ok (.invokevirtual 145, 3) := by decide +kernel
theorem dc_HillsReader_readPlace_45 : decode cd_HillsReader_readPlace 45 = .ok (.ireturn, 1) := by decide +kernel
theorem dc_HillsReader_readPath_0 : decode cd_HillsReader_readPath 0 = .ok (.aload_n 0, 1) := by decide +kernel
theorem dc_HillsReader_readPath_1 : decode cd_HillsReader_readPath 1 = .ok (.invokevirtual 149, 3) := by decide +kernel
theorem dc_HillsReader_readPath_4 : decode cd_HillsReader_readPath 4 = .ok (.istore_n 1, 1) := by decide +kernel
theorem dc_HillsReader_readPath_5 : decode cd_HillsReader_readPath 5 = .ok (.iload_n 1, 1) := by decide +kernel
theorem dc_HillsReader_readPath_6 : decode cd_HillsReader_readPath 6 = .ok (.iconst (-1), 1) := by decide +kernel
theorem dc_HillsReader_readPath_7 : decode cd_HillsReader_readPath 7 = .ok (.if_icmp .ne 5, 3) := by decide +kernel
theorem dc_HillsReader_readPath_10 : decode cd_HillsReader_readPath 10 = .ok (.iconst 0, 1) := by decide +kernel
theorem dc_HillsReader_readPath_11 : decode cd_HillsReader_readPath 11 = .ok (.ireturn, 1) := by decide +kernel
theorem dc_HillsReader_readPath_12 : decode cd_HillsReader_readPath 12 = .ok (.aload_n 0, 1) := by decide +kernel
theorem dc_HillsReader_readPath_13 : decode cd_HillsReader_readPath 13 = .ok (.getfield 9, 3) := by decide +kernel
theorem dc_HillsReader_readPath_16 : decode cd_HillsReader_readPath 16 = .ok (.invokevirtual 110, 3) := by decide +kernel
theorem dc_HillsReader_readPath_19 : decode cd_HillsReader_readPath 19 = .ok (.aload_n 0, 1) := by decide +kernel
theorem dc_HillsReader_readPath_20 : decode cd_HillsReader_readPath 20 = .ok (.invokevirtual 149, 3) := by decide +kernel
theorem dc_HillsReader_readPath_23 : decode cd_HillsReader_readPath 23 = .ok (.istore_n 2, 1) := by decide +kernel
theorem dc_HillsReader_readPath_24 : decode cd_HillsReader_readPath 24 = .ok (.iload_n 2, 1) := by decide +kernel
theorem dc_HillsReader_readPath_25 : decode cd_HillsReader_readPath 25 = .ok (.iconst (-1), 1) := by decide +kernel
theorem dc_HillsReader_readPath_26 : decode cd_HillsReader_readPath 26 = .ok (.if_icmp .ne 5, 3) := by decide +kernel
theorem dc_HillsReader_readPath_29 : decode cd_HillsReader_readPath 29 = .ok (.iconst 0, 1) := by decide +kernel
theorem dc_HillsReader_readPath_30 : decode cd_HillsReader_readPath 30 = .ok (.ireturn, 1) := by decide +kernel
theorem dc_HillsReader_readPath_31 : decode cd_HillsReader_readPath 31 = .ok (.iload_n 2, 1) := by decide +kernel
theorem dc_HillsReader_readPath_32 : decode cd_HillsReader_readPath 32 = .ok (.iload_n 1, 1) := by decide +kernel
theorem dc_HillsReader_readPath_33 : decode cd_HillsReader_readPath 33 = .ok (.if_icmp .eq 20, 3) := by decide +kernel
theorem dc_HillsReader_readPath_36 : decode cd_HillsReader_readPath 36 = .ok (.aload_n 0, 1) := by decide +kernel
theorem dc_HillsReader_readPath_37 : decode cd_HillsReader_readPath 37 = .ok (.getfield 15, 3) := by decide +kernel
theorem dc_HillsReader_readPath_40 : decode cd_HillsReader_readPath 40 = .ok (.getfield 152, 3) := by decide +kernel
theorem dc_HillsReader_readPath_43 : decode cd_HillsReader_readPath 43 = .ok (.iload_n 1, 1) := by decide +kernel
theorem dc_HillsReader_readPath_44 : decode cd_HillsReader_readPath 44 = .ok (.bipush 6, 2) := by decide +kernel
theorem dc_HillsReader_readPath_46 : decode cd_HillsReader_readPath 46 = .ok (.imul, 1) := by decide +kernel
theorem dc_HillsReader_readPath_47 : decode cd_HillsReader_readPath 47 = .ok (.iload_n 2, 1) := by decide +kernel
theorem dc_HillsReader_readPath_48 : decode cd_HillsReader_readPath 48 = .ok (.iadd, 1) := by decide +kernel
theorem dc_HillsReader_readPath_49 : decode cd_HillsReader_readPath 49 = .ok (.iaload, 1) := by decide +kernel
theorem dc_HillsReader_readPath_50 : decode cd_HillsReader_readPath 50 = .ok (.ifCond .le 12, 3) := by decide +kernel
theorem dc_HillsReader_readPath_53 : decode cd_HillsReader_readPath 53 = .ok (.aload_n 0, 1) := by decide +kernel
theorem dc_HillsReader_readPath_54 : decode cd_HillsReader_readPath 54 = .ok (.getfield 9, 3) := by decide +kernel
theorem dc_HillsReader_readPath_57 : decode cd_HillsReader_readPath 57 = .ok (.iconst 3, 1) := by decide +kernel
theorem dc_HillsReader_readPath_58 : decode cd_HillsReader_readPath 58 = .ok (.invokevirtual 100, 3) := by decide +kernel
theorem dc_HillsReader_readPath_61 : decode cd_HillsReader_readPath 61 = .ok (.ireturn, 1) := by decide +kernel
theorem dc_HillsReader_readPath_62 : decode cd_HillsReader_readPath 62 = .ok (.aload_n 0, 1) := by decide +kernel
theorem dc_HillsReader_readPath_63 : decode cd_HillsReader_readPath 63 = .ok (.getfield 9, 3) := by decide +kernel
theorem dc_HillsReader_readPath_66 : decode cd_HillsReader_readPath 66 = .ok (.invokevirtual 110, 3) := by decide +kernel
theorem dc_HillsReader_readPath_69 : decode cd_HillsReader_readPath 69 = .ok (.aload_n 0, 1) := by decide +kernel
theorem dc_HillsReader_readPath_70 : decode cd_HillsReader_readPath 70 = .ok (.getfield 9, 3) := by decide +kernel
theorem dc_HillsReader_readPath_73 : decode cd_HillsReader_readPath 73 = .ok (.iconst 1, 1) := by decide +kernel
theorem dc_HillsReader_readPath_74 : decode cd_HillsReader_readPath 74 = .ok (.bipush 30, 2) := by decide +kernel
theorem dc_HillsReader_readPath_76 : decode cd_HillsReader_readPath 76 = .ok (.invokevirtual 156, 3) := by decide +kernel
theorem dc_HillsReader_readPath_79 : decode cd_HillsReader_readPath 79 = .ok (.istore_n 3, 1) := by decide +kernel
theorem dc_HillsReader_readPath_80 : decode cd_HillsReader_readPath 80 = .ok (.iload_n 3, 1) := by decide +kernel
theorem dc_HillsReader_readPath_81 : decode cd_HillsReader_readPath 81 = .ok (.iconst (-1), 1) := by decide +kernel
theorem dc_HillsReader_readPath_82 : decode cd_HillsReader_readPath 82 = .ok (.if_icmp .ne 5, 3) := by decide +kernel
theorem dc_HillsReader_readPath_85 : decode cd_HillsReader_readPath 85 = .ok (.iconst 0, 1) := by decide +kernel
theorem dc_HillsReader_readPath_86 : decode cd_HillsReader_readPath 86 = .ok (.ireturn, 1) := by decide +kernel
theorem dc_HillsReader_readPath_87 : decode cd_HillsReader_readPath 87 = .ok (.aload_n 0, 1) := by decide +kernel
theorem dc_HillsReader_readPath_88 : decode cd_HillsReader_readPath 88 = .ok (.getfield 15, 3) := by decide +kernel
theorem dc_HillsReader_readPath_91 : decode cd_HillsReader_readPath 91 = .ok (.getfield 152, 3) := by decide +kernel
theorem dc_HillsReader_readPath_94 : decode cd_HillsReader_readPath 94 = .ok (.iload_n 1, 1) := by decide +kernel
theorem dc_HillsReader_readPath_95 : decode cd_HillsReader_readPath 95 = .ok (.bipush 6, 2) := by decide +kernel
theorem dc_HillsReader_readPath_97 : decode cd_HillsReader_readPath 97 = .ok (.imul, 1) := by decide +kernel
theorem dc_HillsReader_readPath_98 : decode cd_HillsReader_readPath 98 = .ok (.iload_n 2, 1) := by decide +kernel
theorem dc_HillsReader_readPath_99 : decode cd_HillsReader_readPath 99 = .ok (.iadd, 1) := by decide +kernel
theorem dc_HillsReader_readPath_100 : decode cd_HillsReader_readPath 100 = .ok (.iload_n 3, 1) := by decide +kernel
theorem dc_HillsReader_readPath_101 : decode cd_HillsReader_readPath 101 = .ok (.iastore, 1) := by decide +kernel
theorem dc_HillsReader_readPath_102 : decode cd_HillsReader_readPath 102 = .ok (.aload_n 0, 1) := by decide +kernel
theorem dc_HillsReader_readPath_103 : decode cd_HillsReader_readPath 103 = .ok (.getfield 15, 3) := by decide +kernel
theorem dc_HillsReader_readPath_106 : decode cd_HillsReader_readPath 106 = .ok (.getfield 152, 3) := by decide +kernel
theorem dc_HillsReader_readPath_109 : decode cd_HillsReader_readPath 109 = .ok (.iload_n 2, 1) := by decide +kernel
theorem dc_HillsReader_readPath_110 : decode cd_HillsReader_readPath 110 = .ok (.bipush 6, 2) := by decide +kernel
theorem dc_HillsReader_readPath_112 : decode cd_HillsReader_readPath 112 = .ok (.imul, 1) := by decide +kernel
theorem dc_HillsReader_readPath_113 : decode cd_HillsReader_readPath 113 = .ok (.iload_n 1, 1) := by decide +kernel
theorem dc_HillsReader_readPath_114 : decode cd_HillsReader_readPath 114 = .ok (.iadd, 1) := by decide +kernel
theorem dc_HillsReader_readPath_115 : decode cd_HillsReader_readPath 115 = .ok (.iload_n 3, 1) := by decide +kernel
theorem dc_HillsReader_readPath_116 : decode cd_HillsReader_readPath 116 = .ok (.iastore, 1) := by decide +kernel
theorem dc_HillsReader_readPath_117 : decode cd_HillsReader_readPath 117 = .ok (.aload_n 0, 1) := by decide +kernel
theorem dc_HillsReader_readPath_118 : decode cd_HillsReader_readPath 118 = .ok (.getfield 15, 3) := by decide +kernel
theorem dc_HillsReader_readPath_121 : decode cd_HillsReader_readPath 121 = .ok (.dup, 1) := by decide +kernel
theorem dc_HillsReader_readPath_122 : decode cd_HillsReader_readPath 122 = .ok (.getfield 160, 3) := by decide +kernel
theorem dc_HillsReader_readPath_125 : decode cd_HillsReader_readPath 125 = .ok (.iconst 1, 1) := by decide +kernel
theorem dc_HillsReader_readPath_126 : decode cd_HillsReader_readPath 126 = .ok (.iadd, 1) := by decide +kernel
theorem dc_HillsReader_readPath_127 : decode cd_HillsReader_readPath 127 = .ok (.putfield 160, 3) := by decide +kernel
theorem dc_HillsReader_readPath_130 : decode cd_HillsReader_readPath 130 = .ok (.aload_n 0, 1) := by decide +kernel
theorem dc_HillsReader_readPath_131 : decode cd_HillsReader_readPath 131 = .ok (.getfield 9, 3) := by decide +kernel
theorem dc_HillsReader_readPath_134 : decode cd_HillsReader_readPath 134 = .ok (.bipush 59, 2) := by decide +kernel
theorem dc_HillsReader_readPath_136 : decode cd_HillsReader_readPath 136 = .ok (.invokevirtual 145, 3) := by decide +kernel
theorem dc_HillsReader_readPath_139 : decode cd_HillsReader_readPath 139 = .ok (.ireturn, 1) := by decide +kernel
theorem dc_HillsReader_readWalker_0 : decode cd_HillsReader_readWalker 0 = .ok (.aload_n 0, 1) := by decide +kernel
theorem dc_HillsReader_readWalker_1 : decode cd_HillsReader_readWalker 1 = .ok (.aload_n 0, 1) := by decide +kernel
theorem dc_HillsReader_readWalker_2 : decode cd_HillsReader_readWalker 2 = .ok (.getfield 15, 3) := by decide +kernel
theorem dc_HillsReader_readWalker_5 : decode cd_HillsReader_readWalker 5 = .ok (.getfield 132, 3) := by decide +kernel
theorem dc_HillsReader_readWalker_8 : decode cd_HillsReader_readWalker 8 = .ok (.aload_n 0, 1) := by decide +kernel
theorem dc_HillsReader_readWalker_9 : decode cd_HillsReader_readWalker 9 = .ok (.getfield 15, 3) := by decide +kernel
theorem dc_HillsReader_readWalker_12 : decode cd_HillsReader_readWalker 12 = .ok (.getfield 70, 3) := by decide +kernel
theorem dc_HillsReader_readWalker_15 : decode cd_HillsReader_readWalker 15 = .ok (.invokevirtual 141, 3) := by decide +kernel
theorem dc_HillsReader_readWalker_18 : decode cd_HillsReader_readWalker 18 = .ok (.ifCond .ne 5, 3) := by decide +kernel
theorem dc_HillsReader_readWalker_21 : decode cd_HillsReader_readWalker 21 = .ok (.iconst 0, 1) := by decide +kernel
theorem dc_HillsReader_readWalker_22 : decode cd_HillsReader_readWalker 22 = .ok (.ireturn, 1) := by decide +kernel
theorem dc_HillsReader_readWalker_23 : decode cd_HillsReader_readWalker 23 = .ok (.aload_n 0, 1) := by decide +kernel
theorem dc_HillsReader_readWalker_24 : decode cd_HillsReader_readWalker 24 = .ok (.getfield 15, 3) := by decide +kernel
theorem dc_HillsReader_readWalker_27 : decode cd_HillsReader_readWalker 27 = .ok (.getfield 163, 3) := by decide +kernel
theorem dc_HillsReader_readWalker_30 : decode cd_HillsReader_readWalker 30 = .ok (.aload_n 0, 1) := by decide +kernel
theorem dc_HillsReader_readWalker_31 : decode cd_HillsReader_readWalker 31 = .ok (.getfield 15, 3) := by decide +kernel
theorem dc_HillsReader_readWalker_34 : decode cd_HillsReader_readWalker 34 = .ok (.getfield 70, 3) := by decide +kernel
theorem dc_HillsReader_readWalker_37 : decode cd_HillsReader_readWalker 37 = .ok (.aaload, 1) := by decide +kernel
theorem dc_HillsReader_readWalker_38 : decode cd_HillsReader_readWalker 38 = .ok (.astore_n 1, 1) := by decide +kernel
theorem dc_HillsReader_readWalker_39 : decode cd_HillsReader_readWalker 39 = .ok (.aload_n 1, 1) := by decide +kernel
theorem dc_HillsReader_readWalker_40 : decode cd_HillsReader_readWalker 40 = .ok (.invokevirtual 167, 3) := by decide +kernel
theorem dc_HillsReader_readWalker_43 : decode cd_HillsReader_readWalker 43 = .ok (.aload_n 1, 1) := by decide +kernel
theorem dc_HillsReader_readWalker_44 : decode cd_HillsReader_readWalker 44 = .ok (.aload_n 0, 1) := by decide +kernel
theorem dc_HillsReader_readWalker_45 : decode cd_HillsReader_readWalker 45 = .ok (.invokevirtual 170, 3) := by decide +kernel
theorem dc_HillsReader_readWalker_48 : decode cd_HillsReader_readWalker 48 = .ok (.putfield 173, 3) := by decide +kernel
theorem dc_HillsReader_readWalker_51 : decode cd_HillsReader_readWalker 51 = .ok (.aload_n 1, 1) := by decide +kernel
theorem dc_HillsReader_readWalker_52 : decode cd_HillsReader_readWalker 52 = .ok (.getfield 173, 3) := by decide +kernel
theorem dc_HillsReader_readWalker_55 : decode cd_HillsReader_readWalker 55 = .ok (.iconst (-1), 1) := by decide +kernel
theorem dc_HillsReader_readWalker_56 : decode cd_HillsReader_readWalker 56 = .ok (.if_icmp .eq 16, 3) := by decide +kernel
theorem dc_HillsReader_readWalker_59 : decode cd_HillsReader_readWalker 59 = .ok (.aload_n 0, 1) := by decide +kernel
theorem dc_HillsReader_readWalker_60 : decode cd_HillsReader_readWalker 60 = .ok (.getfield 9, 3) := by decide +kernel
theorem dc_HillsReader_readWalker_63 : decode cd_HillsReader_readWalker 63 = .ok (.getstatic 176, 3) := by decide +kernel
theorem dc_HillsReader_readWalker_66 : decode cd_HillsReader_readWalker 66 = .ok (.invokevirtual 60, 3) := by decide +kernel
theorem dc_HillsReader_readWalker_69 : decode cd_HillsReader_readWalker 69 = .ok (.ifCond .ne 5, 3) := by decide +kernel
theorem dc_HillsReader_readWalker_72 : decode cd_HillsReader_readWalker 72 = .ok (.iconst 0, 1) := by decide +kernel
theorem dc_HillsReader_readWalker_73 : decode cd_HillsReader_readWalker 73 = .ok (.ireturn, 1) := by decide +kernel
theorem dc_HillsReader_readWalker_74 : decode cd_HillsReader_readWalker 74 = .ok (.aload_n 1, 1) := by decide +kernel
theorem dc_HillsReader_readWalker_75 : decode cd_HillsReader_readWalker 75 = .ok (.aload_n 0, 1) := by decide +kernel
theorem dc_HillsReader_readWalker_76 : decode cd_HillsReader_readWalker 76 = .ok (.getfield 9, 3) := by decide +kernel
theorem dc_HillsReader_readWalker_79 : decode cd_HillsReader_readWalker 79 = .ok (.iconst 0, 1) := by decide +kernel
theorem dc_HillsReader_readWalker_80 : decode cd_HillsReader_readWalker 80 = .ok (.sipush 239, 3) := by decide +kernel
theorem dc_HillsReader_readWalker_83 : decode cd_HillsReader_readWalker 83 = .ok (.invokevirtual 156, 3) := by decide +kernel
theorem dc_HillsReader_readWalker_86 : decode cd_HillsReader_readWalker 86 = .ok (.putfield 179, 3) := by decide +kernel
theorem dc_HillsReader_readWalker_89 : decode cd_HillsReader_readWalker 89 = .ok (.aload_n 1, 1) := by decide +kernel
theorem dc_HillsReader_readWalker_90 : decode cd_HillsReader_readWalker 90 = .ok (.getfield 179, 3) := by decide +kernel
theorem dc_HillsReader_readWalker_93 : decode cd_HillsReader_readWalker 93 = .ok (.iconst (-1), 1) := by decide +kernel
theorem dc_HillsReader_readWalker_94 : decode cd_HillsReader_readWalker 94 = .ok (.if_icmp .eq 16, 3) := by decide +kernel
theorem dc_HillsReader_readWalker_97 : decode cd_HillsReader_readWalker 97 = .ok (.aload_n 0, 1) := by decide +kernel
theorem dc_HillsReader_readWalker_98 : decode cd_HillsReader_readWalker 98 = .ok (.getfield 9, 3) := by decide +kernel
theorem dc_HillsReader_readWalker_101 : decode cd_HillsReader_readWalker 101 = .ok (.getstatic 182, 3) := by decide +kernel
theorem dc_HillsReader_readWalker_104 : decode cd_HillsReader_readWalker 104 = .ok (.invokevirtual 60, 3) := by decide +kernel
theorem dc_HillsReader_readWalker_107 : decode cd_HillsReader_readWalker 107 = .ok (.ifCond .ne 5, 3) := by decide +kernel
theorem dc_HillsReader_readWalker_110 : decode cd_HillsReader_readWalker 110 = .ok (.iconst 0, 1) := by decide +kernel
theorem dc_HillsReader_readWalker_111 : decode cd_HillsReader_readWalker 111 = .ok (.ireturn, 1) := by decide +kernel
theorem dc_HillsReader_readWalker_112 : decode cd_HillsReader_readWalker 112 = .ok (.aload_n 1, 1) := by decide +kernel
theorem dc_HillsReader_readWalker_113 : decode cd_HillsReader_readWalker 113 = .ok (.aload_n 0, 1) := by decide +kernel
theorem dc_HillsReader_readWalker_114 : decode cd_HillsReader_readWalker 114 = .ok (.getfield 9, 3) := by decide +kernel
theorem dc_HillsReader_readWalker_117 : decode cd_HillsReader_readWalker 117 = .ok (.iconst 1, 1) := by decide +kernel
theorem dc_HillsReader_readWalker_118 : decode cd_HillsReader_readWalker 118 = .ok (.iconst 5, 1) := by decide +kernel
theorem dc_HillsReader_readWalker_119 : decode cd_HillsReader_readWalker 119 = .ok (.invokevirtual 156, 3) := by decide +kernel
theorem dc_HillsReader_readWalker_122 : decode cd_HillsReader_readWalker 122 = .ok (.putfield 185, 3) := by decide +kernel
theorem dc_HillsReader_readWalker_125 : decode cd_HillsReader_readWalker 125 = .ok (.aload_n 1, 1) := by decide +kernel
theorem dc_HillsReader_readWalker_126 : decode cd_HillsReader_readWalker 126 = .ok (.getfield 185, 3) := by decide +kernel
theorem dc_HillsReader_readWalker_129 : decode cd_HillsReader_readWalker 129 = .ok (.iconst (-1), 1) := by decide +kernel
theorem dc_HillsReader_readWalker_130 : decode cd_HillsReader_readWalker 130 = .ok (.if_icmp .eq 16, 3) := by decide +kernel
theorem dc_HillsReader_readWalker_133 : decode cd_HillsReader_readWalker 133 = .ok (.aload_n 0, 1) := by decide +kernel
theorem dc_HillsReader_readWalker_134 : decode cd_HillsReader_readWalker 134 = .ok (.getfield 9, 3) := by decide +kernel
theorem dc_HillsReader_readWalker_137 : decode cd_HillsReader_readWalker 137 = .ok (.getstatic 188, 3) := by decide +kernel
theorem dc_HillsReader_readWalker_140 : decode cd_HillsReader_readWalker 140 = .ok (.invokevirtual 60, 3) := by decide +kernel
theorem dc_HillsReader_readWalker_143 : decode cd_HillsReader_readWalker 143 = .ok (.ifCond .ne 5, 3) := by decide +kernel
theorem dc_HillsReader_readWalker_146 : decode cd_HillsReader_readWalker 146 = .ok (.iconst 0, 1) := by decide +kernel
theorem dc_HillsReader_readWalker_147 : decode cd_HillsReader_readWalker 147 = .ok (.ireturn, 1) := by decide +kernel
theorem dc_HillsReader_readWalker_148 : decode cd_HillsReader_readWalker 148 = .ok (.aload_n 1, 1) := by decide +kernel
theorem dc_HillsReader_readWalker_149 : decode cd_HillsReader_readWalker 149 = .ok (.aload_n 0, 1) := by decide +kernel
theorem dc_HillsReader_readWalker_150 : decode cd_HillsReader_readWalker 150 = .ok (.getfield 9, 3) := by decide +kernel
theorem dc_HillsReader_readWalker_153 : decode cd_HillsReader_readWalker 153 = .ok (.iconst 0, 1) := by decide +kernel
theorem dc_HillsReader_readWalker_154 : decode cd_HillsReader_readWalker 154 = .ok (.bipush 30, 2) := by decide +kernel
theorem dc_HillsReader_readWalker_156 : decode cd_HillsReader_readWalker 156 = .ok (.invokevirtual 156, 3) := by decide +kernel
theorem dc_HillsReader_readWalker_159 : decode cd_HillsReader_readWalker 159 = .ok (.putfield 191, 3) := by decide +kernel
theorem dc_HillsReader_readWalker_162 : decode cd_HillsReader_readWalker 162 = .ok (.aload_n 1, 1) := by decide +kernel
theorem dc_HillsReader_readWalker_163 : decode cd_HillsReader_readWalker 163 = .ok (.getfield 191, 3) := by decide +kernel
theorem dc_HillsReader_readWalker_166 : decode cd_HillsReader_readWalker 166 = .ok (.iconst (-1), 1) := by decide +kernel
theorem dc_HillsReader_readWalker_167 : decode cd_HillsReader_readWalker 167 = .ok (.if_icmp .eq 24, 3) := by decide +kernel
theorem dc_HillsReader_readWalker_170 : decode cd_HillsReader_readWalker 170 = .ok (.aload_n 0, 1) := by decide +kernel
theorem dc_HillsReader_readWalker_171 : decode cd_HillsReader_readWalker 171 = .ok (.getfield 9, 3) := by decide +kernel
theorem dc_HillsReader_readWalker_174 : decode cd_HillsReader_readWalker 174 = .ok (.getstatic 194, 3) := by decide +kernel
theorem dc_HillsReader_readWalker_177 : decode cd_HillsReader_readWalker 177 = .ok (.invokevirtual 60, 3) := by decide +kernel
theorem dc_HillsReader_readWalker_180 : decode cd_HillsReader_readWalker 180 = .ok (.ifCond .eq 11, 3) := by decide +kernel
theorem dc_HillsReader_readWalker_183 : decode cd_HillsReader_readWalker 183 = .ok (.aload_n 0, 1) := by decide +kernel
theorem dc_HillsReader_readWalker_184 : decode cd_HillsReader_readWalker 184 = .ok (.aload_n 1, 1) := by decide +kernel
theorem dc_HillsReader_readWalker_185 : decode cd_HillsReader_readWalker 185 = .ok (.invokevirtual 197, 3) := by decide +kernel
theorem dc_HillsReader_readWalker_188 : decode cd_HillsReader_readWalker 188 = .ok (.ifCond .ne 5, 3) := by decide +kernel
theorem dc_HillsReader_readWalker_191 : decode cd_HillsReader_readWalker 191 = .ok (.iconst 0, 1) := by decide +kernel
theorem dc_HillsReader_readWalker_192 : decode cd_HillsReader_readWalker 192 = .ok (.ireturn, 1) := by decide +kernel
theorem dc_HillsReader_readWalker_193 : decode cd_HillsReader_readWalker 193 = .ok (.aload_n 0, 1) := by decide +kernel
theorem dc_HillsReader_readWalker_194 : decode cd_HillsReader_readWalker 194 = .ok (.getfield 15, 3) := by decide +kernel
theorem dc_HillsReader_readWalker_197 : decode cd_HillsReader_readWalker 197 = .ok (.dup, 1) := by decide +kernel
theorem dc_HillsReader_readWalker_198 : decode cd_HillsReader_readWalker 198 = .ok (.getfield 70, 3) := by decide +kernel
theorem dc_HillsReader_readWalker_201 : decode cd_HillsReader_readWalker 201 = .ok (.iconst 1, 1) := by decide +kernel
theorem dc_HillsReader_readWalker_202 : decode cd_HillsReader_readWalker 202 = .ok (.iadd, 1) := by decide +kernel
theorem dc_HillsReader_readWalker_203 : decode cd_HillsReader_readWalker 203 = .ok (.putfield 70, 3) := by decide +kernel
theorem dc_HillsReader_readWalker_206 : decode cd_HillsReader_readWalker 206 = .ok (.aload_n 0, 1) := by decide +kernel
theorem dc_HillsReader_readWalker_207 : decode cd_HillsReader_readWalker 207 = .ok (.getfield 9, 3) := by decide +kernel
theorem dc_HillsReader_readWalker_210 : decode cd_HillsReader_readWalker 210 = .ok (.bipush 59, 2) := by decide +kernel
theorem dc_HillsReader_readWalker_212 : decode cd_HillsReader_readWalker 212 = .ok (.invokevirtual 145, 3) := by decide +kernel
theorem dc_HillsReader_readWalker_215 : decode cd_HillsReader_readWalker 215 = .ok (.ireturn, 1) := by decide +kernel
theorem dc_Lines_readLine_0 : decode cd_Lines_readLine 0 = .ok (.aload_n 1, 1) := by decide +kernel
theorem dc_Lines_readLine_1 : decode cd_Lines_readLine 1 = .ok (.getfield 48, 3) := by decide +kernel
theorem dc_Lines_readLine_4 : decode cd_Lines_readLine 4 = .ok (.invokestatic 52, 3) := by decide +kernel
theorem dc_Lines_readLine_7 : decode cd_Lines_readLine 7 = .ok (.istore_n 3, 1) := by decide +kernel
theorem dc_Lines_readLine_8 : decode cd_Lines_readLine 8 = .ok (.iload_n 3, 1) := by decide +kernel
theorem dc_Lines_readLine_9 : decode cd_Lines_readLine 9 = .ok (.iconst (-1), 1) := by decide +kernel
theorem dc_Lines_readLine_10 : decode cd_Lines_readLine 10 = .ok (.if_icmp .ne 9, 3) := by decide +kernel
theorem dc_Lines_readLine_13 : decode cd_Lines_readLine 13 = .ok (.aload_n 1, 1) := by decide +kernel
theorem dc_Lines_readLine_14 : decode cd_Lines_readLine 14 = .ok (.iconst 1, 1) := by decide +kernel
theorem dc_Lines_readLine_15 : decode cd_Lines_readLine 15 = .ok (.invokevirtual 56, 3) := by decide +kernel
theorem dc_Lines_readLine_18 : decode cd_Lines_readLine 18 = .ok (.ireturn, 1) := by decide +kernel
theorem dc_Lines_readLine_19 : decode cd_Lines_readLine 19 = .ok (.aload_n 0, 1) := by decide +kernel
theorem dc_Lines_readLine_20 : decode cd_Lines_readLine 20 = .ok (.getfield 21, 3) := by decide +kernel
theorem dc_Lines_readLine_23 : decode cd_Lines_readLine 23 = .ok (.bipush 30, 2) := by decide +kernel
theorem dc_Lines_readLine_25 : decode cd_Lines_readLine 25 = .ok (.if_icmp .lt 9, 3) := by decide +kernel
theorem dc_Lines_readLine_28 : decode cd_Lines_readLine 28 = .ok (.aload_n 1, 1) := by decide +kernel
theorem dc_Lines_readLine_29 : decode cd_Lines_readLine 29 = .ok (.iconst 5, 1) := by decide +kernel
theorem dc_Lines_readLine_30 : decode cd_Lines_readLine 30 = .ok (.invokevirtual 56, 3) := by decide +kernel
theorem dc_Lines_readLine_33 : decode cd_Lines_readLine 33 = .ok (.ireturn, 1) := by decide +kernel
theorem dc_Lines_readLine_34 : decode cd_Lines_readLine 34 = .ok (.aload_n 1, 1) := by decide +kernel
theorem dc_Lines_readLine_35 : decode cd_Lines_readLine 35 = .ok (.invokevirtual 60, 3) := by decide +kernel
theorem dc_Lines_readLine_38 : decode cd_Lines_readLine 38 = .ok (.aload_n 0, 1) := by decide +kernel
theorem dc_Lines_readLine_39 : decode cd_Lines_readLine 39 = .ok (.getfield 9, 3) := by decide +kernel
theorem dc_Lines_readLine_42 : decode cd_Lines_readLine 42 = .ok (.aload_n 0, 1) := by decide +kernel
theorem dc_Lines_readLine_43 : decode cd_Lines_readLine 43 = .ok (.getfield 21, 3) := by decide +kernel
theorem dc_Lines_readLine_46 : decode cd_Lines_readLine 46 = .ok (.iload_n 3, 1) := by decide +kernel
theorem dc_Lines_readLine_47 : decode cd_Lines_readLine 47 = .ok (.iastore, 1) := by decide +kernel
theorem dc_Lines_readLine_48 : decode cd_Lines_readLine 48 = .ok (.aload_n 0, 1) := by decide +kernel
theorem dc_Lines_readLine_49 : decode cd_Lines_readLine 49 = .ok (.getfield 15, 3) := by decide +kernel
theorem dc_Lines_readLine_52 : decode cd_Lines_readLine 52 = .ok (.aload_n 0, 1) := by decide +kernel
theorem dc_Lines_readLine_53 : decode cd_Lines_readLine 53 = .ok (.getfield 21, 3) := by decide +kernel
theorem dc_Lines_readLine_56 : decode cd_Lines_readLine 56 = .ok (.iconst (-1), 1) := by decide +kernel
theorem dc_Lines_readLine_57 : decode cd_Lines_readLine 57 = .ok (.iastore, 1) := by decide +kernel
theorem dc_Lines_readLine_58 : decode cd_Lines_readLine 58 = .ok (.aload_n 0, 1) := by decide +kernel
theorem dc_Lines_readLine_59 : decode cd_Lines_readLine 59 = .ok (.getfield 18, 3) := by decide +kernel
theorem dc_Lines_readLine_62 : decode cd_Lines_readLine 62 = .ok (.aload_n 0, 1) := by decide +kernel
theorem dc_Lines_readLine_63 : decode cd_Lines_readLine 63 = .ok (.getfield 21, 3) := by decide +kernel
theorem dc_Lines_readLine_66 : decode cd_Lines_readLine 66 = .ok (.iconst (-1), 1) := by decide +kernel
theorem dc_Lines_readLine_67 : decode cd_Lines_readLine 67 = .ok (.iastore, 1) := by decide +kernel
theorem dc_Lines_readLine_68 : decode cd_Lines_readLine 68 = .ok (.iload_n 3, 1) := by decide +kernel
theorem dc_Lines_readLine_69 : decode cd_Lines_readLine 69 = .ok (.iconst 2, 1) := by decide +kernel
theorem dc_Lines_readLine_70 : decode cd_Lines_readLine 70 = .ok (.if_icmp .ne 43, 3) := by decide +kernel
theorem dc_Lines_readLine_73 : decode cd_Lines_readLine 73 = .ok (.aload_n 0, 1) := by decide +kernel
theorem dc_Lines_readLine_74 : decode cd_Lines_readLine 74 = .ok (.getfield 18, 3) := by decide +kernel
theorem dc_Lines_readLine_77 : decode cd_Lines_readLine 77 = .ok (.aload_n 0, 1) := by decide +kernel
theorem dc_Lines_readLine_78 : decode cd_Lines_readLine 78 = .ok (.getfield 21, 3) := by decide +kernel
theorem dc_Lines_readLine_81 : decode cd_Lines_readLine 81 = .ok (.aload_n 1, 1) := by decide +kernel
theorem dc_Lines_readLine_82 : decode cd_Lines_readLine 82 = .ok (.aload_n 2, 1) := by decide +kernel
theorem dc_Lines_readLine_83 : decode cd_Lines_readLine 83 = .ok (.getfield 63, 3) := by decide +kernel
theorem dc_Lines_readLine_86 : decode cd_Lines_readLine 86 = .ok (.aload_n 2, 1) := by decide +kernel
theorem dc_Lines_readLine_87 : decode cd_Lines_readLine 87 = .ok (.getfield 69, 3) := by decide +kernel
theorem dc_Lines_readLine_90 : decode cd_Lines_readLine 90 = .ok (.invokevirtual 72, 3) := by decide +kernel
theorem dc_Lines_readLine_93 : decode cd_Lines_readLine 93 = .ok (.iastore, 1) := by decide +kernel
theorem dc_Lines_readLine_94 : decode cd_Lines_readLine 94 = .ok (.aload_n 0, 1) := by decide +kernel
theorem dc_Lines_readLine_95 : decode cd_Lines_readLine 95 = .ok (.getfield 18, 3) := by decide +kernel
theorem dc_Lines_readLine_98 : decode cd_Lines_readLine 98 = .ok (.aload_n 0, 1) := by decide +kernel
theorem dc_Lines_readLine_99 : decode cd_Lines_readLine 99 = .ok (.getfield 21, 3) := by decide +kernel
theorem dc_Lines_readLine_102 : decode cd_Lines_readLine 102 = .ok (.iaload, 1) := by decide +kernel
theorem dc_Lines_readLine_103 : decode cd_Lines_readLine 103 = .ok (.iconst (-1), 1) := by decide +kernel
theorem dc_Lines_readLine_104 : decode cd_Lines_readLine 104 = .ok (.if_icmp .ne 5, 3) := by decide +kernel
theorem dc_Lines_readLine_107 : decode cd_Lines_readLine 107 = .ok (.iconst 0, 1) := by decide +kernel
theorem dc_Lines_readLine_108 : decode cd_Lines_readLine 108 = .ok (.ireturn, 1) := by decide +kernel
theorem dc_Lines_readLine_109 : decode cd_Lines_readLine 109 = .ok (.aload_n 1, 1) := by decide +kernel
theorem dc_Lines_readLine_110 : decode cd_Lines_readLine 110 = .ok (.invokevirtual 60, 3) := by decide +kernel
theorem dc_Lines_readLine_113 : decode cd_Lines_readLine 113 = .ok (.iload_n 3, 1) := by decide +kernel
theorem dc_Lines_readLine_114 : decode cd_Lines_readLine 114 = .ok (.ifCond .eq 13, 3) := by decide +kernel
theorem dc_Lines_readLine_117 : decode cd_Lines_readLine 117 = .ok (.iload_n 3, 1) := by decide +kernel
theorem dc_Lines_readLine_118 : decode cd_Lines_readLine 118 = .ok (.iconst 1, 1) := by decide +kernel
theorem dc_Lines_readLine_119 : decode cd_Lines_readLine 119 = .ok (.if_icmp .eq 8, 3) := by decide +kernel
theorem dc_Lines_readLine_122 : decode cd_Lines_readLine 122 = .ok (.iload_n 3, 1) := by decide +kernel
theorem dc_Lines_readLine_123 : decode cd_Lines_readLine 123 = .ok (.iconst 2, 1) := by decide +kernel
theorem dc_Lines_readLine_124 : decode cd_Lines_readLine 124 = .ok (.if_icmp .ne 43, 3) := by decide +kernel
theorem dc_Lines_readLine_127 : decode cd_Lines_readLine 127 = .ok (.aload_n 0, 1) := by decide +kernel
theorem dc_Lines_readLine_128 : decode cd_Lines_readLine 128 = .ok (.getfield 15, 3) := by decide +kernel
theorem dc_Lines_readLine_131 : decode cd_Lines_readLine 131 = .ok (.aload_n 0, 1) := by decide +kernel
theorem dc_Lines_readLine_132 : decode cd_Lines_readLine 132 = .ok (.getfield 21, 3) := by decide +kernel
theorem dc_Lines_readLine_135 : decode cd_Lines_readLine 135 = .ok (.aload_n 1, 1) := by decide +kernel
theorem dc_Lines_readLine_136 : decode cd_Lines_readLine 136 = .ok (.aload_n 2, 1) := by decide +kernel
theorem dc_Lines_readLine_137 : decode cd_Lines_readLine 137 = .ok (.getfield 76, 3) := by decide +kernel
theorem dc_Lines_readLine_140 : decode cd_Lines_readLine 140 = .ok (.aload_n 2, 1) := by decide +kernel
theorem dc_Lines_readLine_141 : decode cd_Lines_readLine 141 = .ok (.getfield 79, 3) := by decide +kernel
theorem dc_Lines_readLine_144 : decode cd_Lines_readLine 144 = .ok (.invokevirtual 72, 3) := by decide +kernel
theorem dc_Lines_readLine_147 : decode cd_Lines_readLine 147 = .ok (.iastore, 1) := by decide +kernel
theorem dc_Lines_readLine_148 : decode cd_Lines_readLine 148 = .ok (.aload_n 0, 1) := by decide +kernel
theorem dc_Lines_readLine_149 : decode cd_Lines_readLine 149 = .ok (.getfield 15, 3) := by decide +kernel
theorem dc_Lines_readLine_152 : decode cd_Lines_readLine 152 = .ok (.aload_n 0, 1) := by decide +kernel
theorem dc_Lines_readLine_153 : decode cd_Lines_readLine 153 = .ok (.getfield 21, 3) := by decide +kernel
theorem dc_Lines_readLine_156 : decode cd_Lines_readLine 156 = .ok (.iaload, 1) := by decide +kernel
theorem dc_Lines_readLine_157 : decode cd_Lines_readLine 157 = .ok (.iconst (-1), 1) := by decide +kernel
theorem dc_Lines_readLine_158 : decode cd_Lines_readLine 158 = .ok (.if_icmp .ne 5, 3) := by decide +kernel
theorem dc_Lines_readLine_161 : decode cd_Lines_readLine 161 = .ok (.iconst 0, 1) := by decide +kernel
theorem dc_Lines_readLine_162 : decode cd_Lines_readLine 162 = .ok (.ireturn, 1) := by decide +kernel
theorem dc_Lines_readLine_163 : decode cd_Lines_readLine 163 = .ok (.aload_n 1, 1) := by decide +kernel
theorem dc_Lines_readLine_164 : decode cd_Lines_readLine 164 = .ok (.invokevirtual 60, 3) := by decide +kernel
theorem dc_Lines_readLine_167 : decode cd_Lines_readLine 167 = .ok (.iload_n 3, 1) := by decide +kernel
theorem dc_Lines_readLine_168 : decode cd_Lines_readLine 168 = .ok (.ifCond .ne 34, 3) := by decide +kernel
theorem dc_Lines_readLine_171 : decode cd_Lines_readLine 171 = .ok (.aload_n 0, 1) := by decide +kernel
theorem dc_Lines_readLine_172 : decode cd_Lines_readLine 172 = .ok (.getfield 18, 3) := by decide +kernel
theorem dc_Lines_readLine_175 : decode cd_Lines_readLine 175 = .ok (.aload_n 0, 1) := by decide +kernel
theorem dc_Lines_readLine_176 : decode cd_Lines_readLine 176 = .ok (.getfield 21, 3) := by decide +kernel
theorem dc_Lines_readLine_179 : decode cd_Lines_readLine 179 = .ok (.aload_n 1, 1) := by decide +kernel
theorem dc_Lines_readLine_180 : decode cd_Lines_readLine 180 = .ok (.iconst 0, 1) := by decide +kernel
theorem dc_Lines_readLine_181 : decode cd_Lines_readLine 181 = .ok (.bipush 60, 2) := by decide +kernel
theorem dc_Lines_readLine_183 : decode cd_Lines_readLine 183 = .ok (.invokevirtual 82, 3) := by decide +kernel
theorem dc_Lines_readLine_186 : decode cd_Lines_readLine 186 = .ok (.iastore, 1) := by decide +kernel
theorem dc_Lines_readLine_187 : decode cd_Lines_readLine 187 = .ok (.aload_n 0, 1) := by decide +kernel
theorem dc_Lines_readLine_188 : decode cd_Lines_readLine 188 = .ok (.getfield 18, 3) := by decide +kernel
theorem dc_Lines_readLine_191 : decode cd_Lines_readLine 191 = .ok (.aload_n 0, 1) := by decide +kernel
theorem dc_Lines_readLine_192 : decode cd_Lines_readLine 192 = .ok (.getfield 21, 3) := by decide +kernel
theorem dc_Lines_readLine_195 : decode cd_Lines_readLine 195 = .ok (.iaload, 1) := by decide +kernel
theorem dc_Lines_readLine_196 : decode cd_Lines_readLine 196 = .ok (.iconst (-1), 1) := by decide +kernel
theorem dc_Lines_readLine_197 : decode cd_Lines_readLine 197 = .ok (.if_icmp .ne 5, 3) := by decide +kernel
theorem dc_Lines_readLine_200 : decode cd_Lines_readLine 200 = .ok (.iconst 0, 1) := by decide +kernel
theorem dc_Lines_readLine_201 : decode cd_Lines_readLine 201 = .ok (.ireturn, 1) := by decide +kernel
theorem dc_Lines_readLine_202 : decode cd_Lines_readLine 202 = .ok (.aload_n 0, 1) := by decide +kernel
theorem dc_Lines_readLine_203 : decode cd_Lines_readLine 203 = .ok (.dup, 1) := by decide +kernel
theorem dc_Lines_readLine_204 : decode cd_Lines_readLine 204 = .ok (.getfield 21, 3) := by decide +kernel
theorem dc_Lines_readLine_207 : decode cd_Lines_readLine 207 = .ok (.iconst 1, 1) := by decide +kernel
theorem dc_Lines_readLine_208 : decode cd_Lines_readLine 208 = .ok (.iadd, 1) := by decide +kernel
theorem dc_Lines_readLine_209 : decode cd_Lines_readLine 209 = .ok (.putfield 21, 3) := by decide +kernel
theorem dc_Lines_readLine_212 : decode cd_Lines_readLine 212 = .ok (.aload_n 1, 1) := by decide +kernel
theorem dc_Lines_readLine_213 : decode cd_Lines_readLine 213 = .ok (.bipush 59, 2) := by decide +kernel
theorem dc_Lines_readLine_215 : decode cd_Lines_readLine 215 = .ok (.invokevirtual 86, 3) := by decide +kernel
theorem dc_Lines_readLine_218 : decode cd_Lines_readLine 218 = .ok (.ireturn, 1) := by decide +kernel
theorem dc_HillsReader_readWaits_0 : decode cd_HillsReader_readWaits 0 = .ok (.aload_n 0, 1) := by decide +kernel
theorem dc_HillsReader_readWaits_1 : decode cd_HillsReader_readWaits 1 = .ok (.invokevirtual 222, 3) := by decide +kernel
theorem dc_HillsReader_readWaits_4 : decode cd_HillsReader_readWaits 4 = .ok (.istore_n 1, 1) := by decide +kernel
theorem dc_HillsReader_readWaits_5 : decode cd_HillsReader_readWaits 5 = .ok (.iload_n 1, 1) := by decide +kernel
theorem dc_HillsReader_readWaits_6 : decode cd_HillsReader_readWaits 6 = .ok (.iconst (-1), 1) := by decide +kernel
theorem dc_HillsReader_readWaits_7 : decode cd_HillsReader_readWaits 7 = .ok (.if_icmp .ne 7, 3) := by decide +kernel
theorem dc_HillsReader_readWaits_10 : decode cd_HillsReader_readWaits 10 = .ok (.iconst (-1), 1) := by decide +kernel
theorem dc_HillsReader_readWaits_11 : decode cd_HillsReader_readWaits 11 = .ok (.goto 7, 3) := by decide +kernel
theorem dc_HillsReader_readWaits_14 : decode cd_HillsReader_readWaits 14 = .ok (.aload_n 0, 1) := by decide +kernel
theorem dc_HillsReader_readWaits_15 : decode cd_HillsReader_readWaits 15 = .ok (.invokevirtual 149, 3) := by decide +kernel
theorem dc_HillsReader_readWaits_18 : decode cd_HillsReader_readWaits 18 = .ok (.istore_n 2, 1) := by decide +kernel
theorem dc_HillsReader_readWaits_19 : decode cd_HillsReader_readWaits 19 = .ok (.iload_n 2, 1) := by decide +kernel
theorem dc_HillsReader_readWaits_20 : decode cd_HillsReader_readWaits 20 = .ok (.iconst (-1), 1) := by decide +kernel
theorem dc_HillsReader_readWaits_21 : decode cd_HillsReader_readWaits 21 = .ok (.if_icmp .ne 5, 3) := by decide +kernel
theorem dc_HillsReader_readWaits_24 : decode cd_HillsReader_readWaits 24 = .ok (.iconst 0, 1) := by decide +kernel
theorem dc_HillsReader_readWaits_25 : decode cd_HillsReader_readWaits 25 = .ok (.ireturn, 1) := by decide +kernel
theorem dc_HillsReader_readWaits_26 : decode cd_HillsReader_readWaits 26 = .ok (.aload_n 0, 1) := by decide +kernel
theorem dc_HillsReader_readWaits_27 : decode cd_HillsReader_readWaits 27 = .ok (.getfield 15, 3) := by decide +kernel
theorem dc_HillsReader_readWaits_30 : decode cd_HillsReader_readWaits 30 = .ok (.getfield 163, 3) := by decide +kernel
theorem dc_HillsReader_readWaits_33 : decode cd_HillsReader_readWaits 33 = .ok (.iload_n 1, 1) := by decide +kernel
theorem dc_HillsReader_readWaits_34 : decode cd_HillsReader_readWaits 34 = .ok (.aaload, 1) := by decide +kernel
theorem dc_HillsReader_readWaits_35 : decode cd_HillsReader_readWaits 35 = .ok (.astore_n 3, 1) := by decide +kernel
theorem dc_HillsReader_readWaits_36 : decode cd_HillsReader_readWaits 36 = .ok (.aload_n 3, 1) := by decide +kernel
theorem dc_HillsReader_readWaits_37 : decode cd_HillsReader_readWaits 37 = .ok (.getfield 225, 3) := by decide +kernel
theorem dc_HillsReader_readWaits_40 : decode cd_HillsReader_readWaits 40 = .ok (.iload_n 2, 1) := by decide +kernel
theorem dc_HillsReader_readWaits_41 : decode cd_HillsReader_readWaits 41 = .ok (.iaload, 1) := by decide +kernel
theorem dc_HillsReader_readWaits_42 : decode cd_HillsReader_readWaits 42 = .ok (.iconst (-1), 1) := by decide +kernel
theorem dc_HillsReader_readWaits_43 : decode cd_HillsReader_readWaits 43 = .ok (.if_icmp .eq 12, 3) := by decide +kernel
theorem dc_HillsReader_readWaits_46 : decode cd_HillsReader_readWaits 46 = .ok (.aload_n 0, 1) := by decide +kernel
theorem dc_HillsReader_readWaits_47 : decode cd_HillsReader_readWaits 47 = .ok (.getfield 9, 3) := by decide +kernel
theorem dc_HillsReader_readWaits_50 : decode cd_HillsReader_readWaits 50 = .ok (.iconst 3, 1) := by decide +kernel
theorem dc_HillsReader_readWaits_51 : decode cd_HillsReader_readWaits 51 = .ok (.invokevirtual 100, 3) := by decide +kernel
theorem dc_HillsReader_readWaits_54 : decode cd_HillsReader_readWaits 54 = .ok (.ireturn, 1) := by decide +kernel
theorem dc_HillsReader_readWaits_55 : decode cd_HillsReader_readWaits 55 = .ok (.aload_n 0, 1) := by decide +kernel
theorem dc_HillsReader_readWaits_56 : decode cd_HillsReader_readWaits 56 = .ok (.getfield 9, 3) := by decide +kernel
theorem dc_HillsReader_readWaits_59 : decode cd_HillsReader_readWaits 59 = .ok (.invokevirtual 110, 3) := by decide +kernel
theorem dc_HillsReader_readWaits_62 : decode cd_HillsReader_readWaits 62 = .ok (.aload_n 0, 1) := by decide +kernel
theorem dc_HillsReader_readWaits_63 : decode cd_HillsReader_readWaits 63 = .ok (.getfield 9, 3) := by decide +kernel
theorem dc_HillsReader_readWaits_66 : decode cd_HillsReader_readWaits 66 = .ok (.getstatic 228, 3) := by decide +kernel
theorem dc_HillsReader_readWaits_69 : decode cd_HillsReader_readWaits 69 = .ok (.invokevirtual 60, 3) := by decide +kernel
theorem dc_HillsReader_readWaits_72 : decode cd_HillsReader_readWaits 72 = .ok (.ifCond .eq 10, 3) := by decide +kernel
theorem dc_HillsReader_readWaits_75 : decode cd_HillsReader_readWaits 75 = .ok (.aload_n 0, 1) := by decide +kernel
theorem dc_HillsReader_readWaits_76 : decode cd_HillsReader_readWaits 76 = .ok (.invokevirtual 135, 3) := by decide +kernel
theorem dc_HillsReader_readWaits_79 : decode cd_HillsReader_readWaits 79 = .ok (.goto 4, 3) := by decide +kernel
theorem dc_HillsReader_readWaits_82 : decode cd_HillsReader_readWaits 82 = .ok (.iconst (-1), 1) := by decide +kernel
theorem dc_HillsReader_readWaits_83 : decode cd_HillsReader_readWaits 83 = .ok (.istore 4, 2) := by decide +kernel
theorem dc_HillsReader_readWaits_85 : decode cd_HillsReader_readWaits 85 = .ok (.iload 4, 2) := by decide +kernel
theorem dc_HillsReader_readWaits_87 : decode cd_HillsReader_readWaits 87 = .ok (.iconst (-1), 1) := by decide +kernel
theorem dc_HillsReader_readWaits_88 : decode cd_HillsReader_readWaits 88 = .ok (.if_icmp .ne 5, 3) := by decide +kernel
theorem dc_HillsReader_readWaits_91 : decode cd_HillsReader_readWaits 91 = .ok (.iconst 0, 1) := by decide +kernel
theorem dc_HillsReader_readWaits_92 : decode cd_HillsReader_readWaits 92 = .ok (.ireturn, 1) := by decide +kernel
theorem dc_HillsReader_readWaits_93 : decode cd_HillsReader_readWaits 93 = .ok (.iload 4, 2) := by decide +kernel
theorem dc_HillsReader_readWaits_95 : decode cd_HillsReader_readWaits 95 = .ok (.iload_n 1, 1) := by decide +kernel
theorem dc_HillsReader_readWaits_96 : decode cd_HillsReader_readWaits 96 = .ok (.if_icmp .ne 12, 3) := by decide +kernel
theorem dc_HillsReader_readWaits_99 : decode cd_HillsReader_readWaits 99 = .ok (.aload_n 0, 1) := by decide +kernel
theorem dc_HillsReader_readWaits_100 : decode cd_HillsReader_readWaits 100 = .ok (.getfield 9, 3) := by decide +kernel
theorem dc_HillsReader_readWaits_103 : decode cd_HillsReader_readWaits 103 = .ok (.iconst 3, 1) := by decide +kernel
theorem dc_HillsReader_readWaits_104 : decode cd_HillsReader_readWaits 104 = .ok (.invokevirtual 100, 3) := by decide +kernel
theorem dc_HillsReader_readWaits_107 : decode cd_HillsReader_readWaits 107 = .ok (.ireturn, 1) := by decide +kernel
theorem dc_HillsReader_readWaits_108 : decode cd_HillsReader_readWaits 108 = .ok (.aload_n 0, 1) := by decide +kernel
theorem dc_HillsReader_readWaits_109 : decode cd_HillsReader_readWaits 109 = .ok (.getfield 9, 3) := by decide +kernel
theorem dc_HillsReader_readWaits_112 : decode cd_HillsReader_readWaits 112 = .ok (.invokevirtual 110, 3) := by decide +kernel
theorem dc_HillsReader_readWaits_115 : decode cd_HillsReader_readWaits 115 = .ok (.aload_n 0, 1) := by decide +kernel
theorem dc_HillsReader_readWaits_116 : decode cd_HillsReader_readWaits 116 = .ok (.getfield 9, 3) := by decide +kernel
theorem dc_HillsReader_readWaits_119 : decode cd_HillsReader_readWaits 119 = .ok (.iconst 1, 1) := by decide +kernel
theorem dc_HillsReader_readWaits_120 : decode cd_HillsReader_readWaits 120 = .ok (.bipush 60, 2) := by decide +kernel
theorem dc_HillsReader_readWaits_122 : decode cd_HillsReader_readWaits 122 = .ok (.invokevirtual 156, 3) := by decide +kernel
theorem dc_HillsReader_readWaits_125 : decode cd_HillsReader_readWaits 125 = .ok (.istore 5, 2) := by decide +kernel
theorem dc_HillsReader_readWaits_127 : decode cd_HillsReader_readWaits 127 = .ok (.iload 5, 2) := by decide +kernel
theorem dc_HillsReader_readWaits_129 : decode cd_HillsReader_readWaits 129 = .ok (.iconst (-1), 1) := by decide +kernel
theorem dc_HillsReader_readWaits_130 : decode cd_HillsReader_readWaits 130 = .ok (.if_icmp .ne 5, 3) := by decide +kernel
theorem dc_HillsReader_readWaits_133 : decode cd_HillsReader_readWaits 133 = .ok (.iconst 0, 1) := by decide +kernel
theorem dc_HillsReader_readWaits_134 : decode cd_HillsReader_readWaits 134 = .ok (.ireturn, 1) := by decide +kernel
theorem dc_HillsReader_readWaits_135 : decode cd_HillsReader_readWaits 135 = .ok (.aload_n 3, 1) := by decide +kernel
theorem dc_HillsReader_readWaits_136 : decode cd_HillsReader_readWaits 136 = .ok (.getfield 225, 3) := by decide +kernel
theorem dc_HillsReader_readWaits_139 : decode cd_HillsReader_readWaits 139 = .ok (.iload_n 2, 1) := by decide +kernel
theorem dc_HillsReader_readWaits_140 : decode cd_HillsReader_readWaits 140 = .ok (.iload 4, 2) := by decide +kernel
theorem dc_HillsReader_readWaits_142 : decode cd_HillsReader_readWaits 142 = .ok (.iastore, 1) := by decide +kernel
theorem dc_HillsReader_readWaits_143 : decode cd_HillsReader_readWaits 143 = .ok (.aload_n 3, 1) := by decide +kernel
theorem dc_HillsReader_readWaits_144 : decode cd_HillsReader_readWaits 144 = .ok (.getfield 231, 3) := by decide +kernel
theorem dc_HillsReader_readWaits_147 : decode cd_HillsReader_readWaits 147 = .ok (.iload_n 2, 1) := by decide +kernel
theorem dc_HillsReader_readWaits_148 : decode cd_HillsReader_readWaits 148 = .ok (.iload 5, 2) := by decide +kernel
theorem dc_HillsReader_readWaits_150 : decode cd_HillsReader_readWaits 150 = .ok (.iastore, 1) := by decide +kernel
theorem dc_HillsReader_readWaits_151 : decode cd_HillsReader_readWaits 151 = .ok (.aload_n 0, 1) := by decide +kernel
theorem dc_HillsReader_readWaits_152 : decode cd_HillsReader_readWaits 152 = .ok (.getfield 15, 3) := by decide +kernel
theorem dc_HillsReader_readWaits_155 : decode cd_HillsReader_readWaits 155 = .ok (.dup, 1) := by decide +kernel
theorem dc_HillsReader_readWaits_156 : decode cd_HillsReader_readWaits 156 = .ok (.getfield 79, 3) := by decide +kernel
theorem dc_HillsReader_readWaits_159 : decode cd_HillsReader_readWaits 159 = .ok (.iconst 1, 1) := by decide +kernel
theorem dc_HillsReader_readWaits_160 : decode cd_HillsReader_readWaits 160 = .ok (.iadd, 1) := by decide +kernel
theorem dc_HillsReader_readWaits_161 : decode cd_HillsReader_readWaits 161 = .ok (.putfield 79, 3) := by decide +kernel
theorem dc_HillsReader_readWaits_164 : decode cd_HillsReader_readWaits 164 = .ok (.aload_n 0, 1) := by decide +kernel
theorem dc_HillsReader_readWaits_165 : decode cd_HillsReader_readWaits 165 = .ok (.getfield 9, 3) := by decide +kernel
theorem dc_HillsReader_readWaits_168 : decode cd_HillsReader_readWaits 168 = .ok (.bipush 59, 2) := by decide +kernel
theorem dc_HillsReader_readWaits_170 : decode cd_HillsReader_readWaits 170 = .ok (.invokevirtual 145, 3) := by decide +kernel
theorem dc_HillsReader_readWaits_173 : decode cd_HillsReader_readWaits 173 = .ok (.ireturn, 1) := by decide +kernel
theorem dc_HillsReader_readHour_0 : decode cd_HillsReader_readHour 0 = .ok (.aload_n 0, 1) := by decide +kernel
theorem dc_HillsReader_readHour_1 : decode cd_HillsReader_readHour 1 = .ok (.getfield 15, 3) := by decide +kernel
theorem dc_HillsReader_readHour_4 : decode cd_HillsReader_readHour 4 = .ok (.getfield 88, 3) := by decide +kernel
theorem dc_HillsReader_readHour_7 : decode cd_HillsReader_readHour 7 = .ok (.istore_n 1, 1) := by decide +kernel
theorem dc_HillsReader_readHour_8 : decode cd_HillsReader_readHour 8 = .ok (.aload_n 0, 1) := by decide +kernel
theorem dc_HillsReader_readHour_9 : decode cd_HillsReader_readHour 9 = .ok (.aload_n 0, 1) := by decide +kernel
theorem dc_HillsReader_readHour_10 : decode cd_HillsReader_readHour 10 = .ok (.getfield 15, 3) := by decide +kernel
theorem dc_HillsReader_readHour_13 : decode cd_HillsReader_readHour 13 = .ok (.getfield 234, 3) := by decide +kernel
theorem dc_HillsReader_readHour_16 : decode cd_HillsReader_readHour 16 = .ok (.iload_n 1, 1) := by decide +kernel
theorem dc_HillsReader_readHour_17 : decode cd_HillsReader_readHour 17 = .ok (.invokevirtual 141, 3) := by decide +kernel
theorem dc_HillsReader_readHour_20 : decode cd_HillsReader_readHour 20 = .ok (.ifCond .eq 16, 3) := by decide +kernel
theorem dc_HillsReader_readHour_23 : decode cd_HillsReader_readHour 23 = .ok (.aload_n 0, 1) := by decide +kernel
