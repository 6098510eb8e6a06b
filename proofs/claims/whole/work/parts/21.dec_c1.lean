theorem dc_Law_operatorOf_71 : decode cd_Law_operatorOf 71 = .ok (.goto 18, 3) := by decide +kernel
theorem dc_Law_operatorOf_74 : decode cd_Law_operatorOf 74 = .ok (.aload_n 0, 1) := by decide +kernel
theorem dc_Law_operatorOf_75 : decode cd_Law_operatorOf 75 = .ok (.bipush 61, 2) := by decide +kernel
theorem dc_Law_operatorOf_77 : decode cd_Law_operatorOf 77 = .ok (.invokevirtual 55, 3) := by decide +kernel
theorem dc_Law_operatorOf_80 : decode cd_Law_operatorOf 80 = .ok (.ifCond .eq 8, 3) := by decide +kernel
theorem dc_Law_operatorOf_83 : decode cd_Law_operatorOf 83 = .ok (.bipush (-9), 2) := by decide +kernel
theorem dc_Law_operatorOf_85 : decode cd_Law_operatorOf 85 = .ok (.goto 4, 3) := by decide +kernel
theorem dc_Law_operatorOf_88 : decode cd_Law_operatorOf 88 = .ok (.iconst (-1), 1) := by decide +kernel
theorem dc_Law_operatorOf_89 : decode cd_Law_operatorOf 89 = .ok (.ireturn, 1) := by decide +kernel
theorem dc_Law_operatorOf_90 : decode cd_Law_operatorOf 90 = .ok (.aload_n 0, 1) := by decide +kernel
theorem dc_Law_operatorOf_91 : decode cd_Law_operatorOf 91 = .ok (.bipush 43, 2) := by decide +kernel
theorem dc_Law_operatorOf_93 : decode cd_Law_operatorOf 93 = .ok (.invokevirtual 55, 3) := by decide +kernel
theorem dc_Law_operatorOf_96 : decode cd_Law_operatorOf 96 = .ok (.ifCond .eq 8, 3) := by decide +kernel
theorem dc_Law_operatorOf_99 : decode cd_Law_operatorOf 99 = .ok (.bipush (-10), 2) := by decide +kernel
theorem dc_Law_operatorOf_101 : decode cd_Law_operatorOf 101 = .ok (.goto 18, 3) := by decide +kernel
theorem dc_Law_operatorOf_104 : decode cd_Law_operatorOf 104 = .ok (.aload_n 0, 1) := by decide +kernel
theorem dc_Law_operatorOf_105 : decode cd_Law_operatorOf 105 = .ok (.bipush 45, 2) := by decide +kernel
theorem dc_Law_operatorOf_107 : decode cd_Law_operatorOf 107 = .ok (.invokevirtual 55, 3) := by decide +kernel
theorem dc_Law_operatorOf_110 : decode cd_Law_operatorOf 110 = .ok (.ifCond .eq 8, 3) := by decide +kernel
theorem dc_Law_operatorOf_113 : decode cd_Law_operatorOf 113 = .ok (.bipush (-11), 2) := by decide +kernel
theorem dc_Law_operatorOf_115 : decode cd_Law_operatorOf 115 = .ok (.goto 4, 3) := by decide +kernel
theorem dc_Law_operatorOf_118 : decode cd_Law_operatorOf 118 = .ok (.iconst (-1), 1) := by decide +kernel
theorem dc_Law_operatorOf_119 : decode cd_Law_operatorOf 119 = .ok (.ireturn, 1) := by decide +kernel
theorem dc_Law_operatorOf_120 : decode cd_Law_operatorOf 120 = .ok (.aload_n 0, 1) := by decide +kernel
theorem dc_Law_operatorOf_121 : decode cd_Law_operatorOf 121 = .ok (.bipush 42, 2) := by decide +kernel
theorem dc_Law_operatorOf_123 : decode cd_Law_operatorOf 123 = .ok (.invokevirtual 55, 3) := by decide +kernel
theorem dc_Law_operatorOf_126 : decode cd_Law_operatorOf 126 = .ok (.ifCond .eq 8, 3) := by decide +kernel
theorem dc_Law_operatorOf_129 : decode cd_Law_operatorOf 129 = .ok (.bipush (-12), 2) := by decide +kernel
theorem dc_Law_operatorOf_131 : decode cd_Law_operatorOf 131 = .ok (.goto 4, 3) := by decide +kernel
theorem dc_Law_operatorOf_134 : decode cd_Law_operatorOf 134 = .ok (.iconst (-1), 1) := by decide +kernel
theorem dc_Law_operatorOf_135 : decode cd_Law_operatorOf 135 = .ok (.ireturn, 1) := by decide +kernel
theorem dc_Law_leafOf_0 : decode cd_Law_leafOf 0 = .ok (.aload_n 0, 1) := by decide +kernel
theorem dc_Law_leafOf_1 : decode cd_Law_leafOf 1 = .ok (.invokevirtual 73, 3) := by decide +kernel
theorem dc_Law_leafOf_4 : decode cd_Law_leafOf 4 = .ok (.ifCond .eq 8, 3) := by decide +kernel
theorem dc_Law_leafOf_7 : decode cd_Law_leafOf 7 = .ok (.aload_n 0, 1) := by decide +kernel
theorem dc_Law_leafOf_8 : decode cd_Law_leafOf 8 = .ok (.getfield 77, 3) := by decide +kernel
theorem dc_Law_leafOf_11 : decode cd_Law_leafOf 11 = .ok (.ireturn, 1) := by decide +kernel
theorem dc_Law_leafOf_12 : decode cd_Law_leafOf 12 = .ok (.aload_n 0, 1) := by decide +kernel
theorem dc_Law_leafOf_13 : decode cd_Law_leafOf 13 = .ok (.getfield 43, 3) := by decide +kernel
theorem dc_Law_leafOf_16 : decode cd_Law_leafOf 16 = .ok (.getstatic 80, 3) := by decide +kernel
theorem dc_Law_leafOf_19 : decode cd_Law_leafOf 19 = .ok (.if_acmp .ne 6, 3) := by decide +kernel
theorem dc_Law_leafOf_22 : decode cd_Law_leafOf 22 = .ok (.bipush (-2), 2) := by decide +kernel
theorem dc_Law_leafOf_24 : decode cd_Law_leafOf 24 = .ok (.ireturn, 1) := by decide +kernel
theorem dc_Law_leafOf_25 : decode cd_Law_leafOf 25 = .ok (.aload_n 0, 1) := by decide +kernel
theorem dc_Law_leafOf_26 : decode cd_Law_leafOf 26 = .ok (.getfield 43, 3) := by decide +kernel
theorem dc_Law_leafOf_29 : decode cd_Law_leafOf 29 = .ok (.getstatic 83, 3) := by decide +kernel
theorem dc_Law_leafOf_32 : decode cd_Law_leafOf 32 = .ok (.if_acmp .ne 6, 3) := by decide +kernel
theorem dc_Law_leafOf_35 : decode cd_Law_leafOf 35 = .ok (.bipush (-3), 2) := by decide +kernel
theorem dc_Law_leafOf_37 : decode cd_Law_leafOf 37 = .ok (.ireturn, 1) := by decide +kernel
theorem dc_Law_leafOf_38 : decode cd_Law_leafOf 38 = .ok (.aload_n 0, 1) := by decide +kernel
theorem dc_Law_leafOf_39 : decode cd_Law_leafOf 39 = .ok (.getfield 43, 3) := by decide +kernel
theorem dc_Law_leafOf_42 : decode cd_Law_leafOf 42 = .ok (.getstatic 86, 3) := by decide +kernel
theorem dc_Law_leafOf_45 : decode cd_Law_leafOf 45 = .ok (.if_acmp .ne 8, 3) := by decide +kernel
theorem dc_Law_leafOf_48 : decode cd_Law_leafOf 48 = .ok (.bipush (-4), 2) := by decide +kernel
theorem dc_Law_leafOf_50 : decode cd_Law_leafOf 50 = .ok (.goto 4, 3) := by decide +kernel
theorem dc_Law_leafOf_53 : decode cd_Law_leafOf 53 = .ok (.iconst (-1), 1) := by decide +kernel
theorem dc_Law_leafOf_54 : decode cd_Law_leafOf 54 = .ok (.ireturn, 1) := by decide +kernel
theorem dc_Law_cost_0 : decode cd_Law_cost 0 = .ok (.aload_n 0, 1) := by decide +kernel
theorem dc_Law_cost_1 : decode cd_Law_cost 1 = .ok (.iconst 0, 1) := by decide +kernel
theorem dc_Law_cost_2 : decode cd_Law_cost 2 = .ok (.putfield 89, 3) := by decide +kernel
theorem dc_Law_cost_5 : decode cd_Law_cost 5 = .ok (.iconst 0, 1) := by decide +kernel
theorem dc_Law_cost_6 : decode cd_Law_cost 6 = .ok (.istore 4, 2) := by decide +kernel
theorem dc_Law_cost_8 : decode cd_Law_cost 8 = .ok (.iload 4, 2) := by decide +kernel
theorem dc_Law_cost_10 : decode cd_Law_cost 10 = .ok (.aload_n 0, 1) := by decide +kernel
theorem dc_Law_cost_11 : decode cd_Law_cost 11 = .ok (.getfield 18, 3) := by decide +kernel
theorem dc_Law_cost_14 : decode cd_Law_cost 14 = .ok (.if_icmp .ge 132, 3) := by decide +kernel
theorem dc_Law_cost_17 : decode cd_Law_cost 17 = .ok (.aload_n 0, 1) := by decide +kernel
theorem dc_Law_cost_18 : decode cd_Law_cost 18 = .ok (.getfield 9, 3) := by decide +kernel
theorem dc_Law_cost_21 : decode cd_Law_cost 21 = .ok (.iload 4, 2) := by decide +kernel
theorem dc_Law_cost_23 : decode cd_Law_cost 23 = .ok (.iaload, 1) := by decide +kernel
theorem dc_Law_cost_24 : decode cd_Law_cost 24 = .ok (.istore 5, 2) := by decide +kernel
theorem dc_Law_cost_26 : decode cd_Law_cost 26 = .ok (.iload 5, 2) := by decide +kernel
theorem dc_Law_cost_28 : decode cd_Law_cost 28 = .ok (.ifCond .lt 12, 3) := by decide +kernel
theorem dc_Law_cost_31 : decode cd_Law_cost 31 = .ok (.aload_n 0, 1) := by decide +kernel
theorem dc_Law_cost_32 : decode cd_Law_cost 32 = .ok (.iload 5, 2) := by decide +kernel
theorem dc_Law_cost_34 : decode cd_Law_cost 34 = .ok (.invokevirtual 92, 3) := by decide +kernel
theorem dc_Law_cost_37 : decode cd_Law_cost 37 = .ok (.goto 103, 3) := by decide +kernel
theorem dc_Law_cost_40 : decode cd_Law_cost 40 = .ok (.iload 5, 2) := by decide +kernel
theorem dc_Law_cost_42 : decode cd_Law_cost 42 = .ok (.bipush (-2), 2) := by decide +kernel
theorem dc_Law_cost_44 : decode cd_Law_cost 44 = .ok (.if_icmp .ne 11, 3) := by decide +kernel
theorem dc_Law_cost_47 : decode cd_Law_cost 47 = .ok (.aload_n 0, 1) := by decide +kernel
theorem dc_Law_cost_48 : decode cd_Law_cost 48 = .ok (.iload_n 1, 1) := by decide +kernel
theorem dc_Law_cost_49 : decode cd_Law_cost 49 = .ok (.invokevirtual 92, 3) := by decide +kernel
theorem dc_Law_cost_52 : decode cd_Law_cost 52 = .ok (.goto 88, 3) := by decide +kernel
theorem dc_Law_cost_55 : decode cd_Law_cost 55 = .ok (.iload 5, 2) := by decide +kernel
theorem dc_Law_cost_57 : decode cd_Law_cost 57 = .ok (.bipush (-3), 2) := by decide +kernel
theorem dc_Law_cost_59 : decode cd_Law_cost 59 = .ok (.if_icmp .ne 19, 3) := by decide +kernel
theorem dc_Law_cost_62 : decode cd_Law_cost 62 = .ok (.aload_n 0, 1) := by decide +kernel
theorem dc_Law_cost_63 : decode cd_Law_cost 63 = .ok (.iload_n 2, 1) := by decide +kernel
theorem dc_Law_cost_64 : decode cd_Law_cost 64 = .ok (.ifCond .eq 7, 3) := by decide +kernel
theorem dc_Law_cost_67 : decode cd_Law_cost 67 = .ok (.iconst 1, 1) := by decide +kernel
theorem dc_Law_cost_68 : decode cd_Law_cost 68 = .ok (.goto 4, 3) := by decide +kernel
theorem dc_Law_cost_71 : decode cd_Law_cost 71 = .ok (.iconst 0, 1) := by decide +kernel
theorem dc_Law_cost_72 : decode cd_Law_cost 72 = .ok (.invokevirtual 92, 3) := by decide +kernel
theorem dc_Law_cost_75 : decode cd_Law_cost 75 = .ok (.goto 65, 3) := by decide +kernel
theorem dc_Law_cost_78 : decode cd_Law_cost 78 = .ok (.iload 5, 2) := by decide +kernel
theorem dc_Law_cost_80 : decode cd_Law_cost 80 = .ok (.bipush (-4), 2) := by decide +kernel
theorem dc_Law_cost_82 : decode cd_Law_cost 82 = .ok (.if_icmp .ne 11, 3) := by decide +kernel
theorem dc_Law_cost_85 : decode cd_Law_cost 85 = .ok (.aload_n 0, 1) := by decide +kernel
theorem dc_Law_cost_86 : decode cd_Law_cost 86 = .ok (.iload_n 3, 1) := by decide +kernel
theorem dc_Law_cost_87 : decode cd_Law_cost 87 = .ok (.invokevirtual 92, 3) := by decide +kernel
theorem dc_Law_cost_90 : decode cd_Law_cost 90 = .ok (.goto 50, 3) := by decide +kernel
theorem dc_Law_cost_93 : decode cd_Law_cost 93 = .ok (.iload 5, 2) := by decide +kernel
theorem dc_Law_cost_95 : decode cd_Law_cost 95 = .ok (.bipush (-5), 2) := by decide +kernel
theorem dc_Law_cost_97 : decode cd_Law_cost 97 = .ok (.if_icmp .ne 22, 3) := by decide +kernel
theorem dc_Law_cost_100 : decode cd_Law_cost 100 = .ok (.aload_n 0, 1) := by decide +kernel
theorem dc_Law_cost_101 : decode cd_Law_cost 101 = .ok (.aload_n 0, 1) := by decide +kernel
theorem dc_Law_cost_102 : decode cd_Law_cost 102 = .ok (.invokevirtual 95, 3) := by decide +kernel
theorem dc_Law_cost_105 : decode cd_Law_cost 105 = .ok (.ifCond .ne 7, 3) := by decide +kernel
theorem dc_Law_cost_108 : decode cd_Law_cost 108 = .ok (.iconst 1, 1) := by decide +kernel
theorem dc_Law_cost_109 : decode cd_Law_cost 109 = .ok (.goto 4, 3) := by decide +kernel
theorem dc_Law_cost_112 : decode cd_Law_cost 112 = .ok (.iconst 0, 1) := by decide +kernel
theorem dc_Law_cost_113 : decode cd_Law_cost 113 = .ok (.invokevirtual 92, 3) := by decide +kernel
theorem dc_Law_cost_116 : decode cd_Law_cost 116 = .ok (.goto 24, 3) := by decide +kernel
theorem dc_Law_cost_119 : decode cd_Law_cost 119 = .ok (.aload_n 0, 1) := by decide +kernel
theorem dc_Law_cost_120 : decode cd_Law_cost 120 = .ok (.invokevirtual 95, 3) := by decide +kernel
theorem dc_Law_cost_123 : decode cd_Law_cost 123 = .ok (.istore 6, 2) := by decide +kernel
theorem dc_Law_cost_125 : decode cd_Law_cost 125 = .ok (.aload_n 0, 1) := by decide +kernel
theorem dc_Law_cost_126 : decode cd_Law_cost 126 = .ok (.iload 5, 2) := by decide +kernel
theorem dc_Law_cost_128 : decode cd_Law_cost 128 = .ok (.aload_n 0, 1) := by decide +kernel
theorem dc_Law_cost_129 : decode cd_Law_cost 129 = .ok (.invokevirtual 95, 3) := by decide +kernel
theorem dc_Law_cost_132 : decode cd_Law_cost 132 = .ok (.iload 6, 2) := by decide +kernel
theorem dc_Law_cost_134 : decode cd_Law_cost 134 = .ok (.invokestatic 99, 3) := by decide +kernel
theorem dc_Law_cost_137 : decode cd_Law_cost 137 = .ok (.invokevirtual 92, 3) := by decide +kernel
theorem dc_Law_cost_140 : decode cd_Law_cost 140 = .ok (.iinc 4 1, 3) := by decide +kernel
theorem dc_Law_cost_143 : decode cd_Law_cost 143 = .ok (.goto (-135), 3) := by decide +kernel
theorem dc_Law_cost_146 : decode cd_Law_cost 146 = .ok (.iconst 0, 1) := by decide +kernel
theorem dc_Law_cost_147 : decode cd_Law_cost 147 = .ok (.sipush 999, 3) := by decide +kernel
theorem dc_Law_cost_150 : decode cd_Law_cost 150 = .ok (.aload_n 0, 1) := by decide +kernel
theorem dc_Law_cost_151 : decode cd_Law_cost 151 = .ok (.invokevirtual 95, 3) := by decide +kernel
theorem dc_Law_cost_154 : decode cd_Law_cost 154 = .ok (.invokestatic 103, 3) := by decide +kernel
theorem dc_Law_cost_157 : decode cd_Law_cost 157 = .ok (.invokestatic 109, 3) := by decide +kernel
theorem dc_Law_cost_160 : decode cd_Law_cost 160 = .ok (.ireturn, 1) := by decide +kernel
theorem dc_Lines_happen_0 : decode cd_Lines_happen 0 = .ok (.aload_n 0, 1) := by decide +kernel
theorem dc_Lines_happen_1 : decode cd_Lines_happen 1 = .ok (.getfield 9, 3) := by decide +kernel
theorem dc_Lines_happen_4 : decode cd_Lines_happen 4 = .ok (.iload_n 1, 1) := by decide +kernel
theorem dc_Lines_happen_5 : decode cd_Lines_happen 5 = .ok (.iaload, 1) := by decide +kernel
theorem dc_Lines_happen_6 : decode cd_Lines_happen 6 = .ok (.tableswitch 91 0 3 #[30, 50, 63, 83], 30) := by decide +kernel
theorem dc_Lines_happen_36 : decode cd_Lines_happen 36 = .ok (.aload_n 2, 1) := by decide +kernel
theorem dc_Lines_happen_37 : decode cd_Lines_happen 37 = .ok (.getfield 120, 3) := by decide +kernel
theorem dc_Lines_happen_40 : decode cd_Lines_happen 40 = .ok (.aload_n 0, 1) := by decide +kernel
theorem dc_Lines_happen_41 : decode cd_Lines_happen 41 = .ok (.getfield 15, 3) := by decide +kernel
theorem dc_Lines_happen_44 : decode cd_Lines_happen 44 = .ok (.iload_n 1, 1) := by decide +kernel
theorem dc_Lines_happen_45 : decode cd_Lines_happen 45 = .ok (.iaload, 1) := by decide +kernel
theorem dc_Lines_happen_46 : decode cd_Lines_happen 46 = .ok (.aload_n 0, 1) := by decide +kernel
theorem dc_Lines_happen_47 : decode cd_Lines_happen 47 = .ok (.getfield 18, 3) := by decide +kernel
theorem dc_Lines_happen_50 : decode cd_Lines_happen 50 = .ok (.iload_n 1, 1) := by decide +kernel
theorem dc_Lines_happen_51 : decode cd_Lines_happen 51 = .ok (.iaload, 1) := by decide +kernel
theorem dc_Lines_happen_52 : decode cd_Lines_happen 52 = .ok (.iastore, 1) := by decide +kernel
theorem dc_Lines_happen_53 : decode cd_Lines_happen 53 = .ok (.goto 44, 3) := by decide +kernel
theorem dc_Lines_happen_56 : decode cd_Lines_happen 56 = .ok (.aload_n 2, 1) := by decide +kernel
theorem dc_Lines_happen_57 : decode cd_Lines_happen 57 = .ok (.aload_n 0, 1) := by decide +kernel
theorem dc_Lines_happen_58 : decode cd_Lines_happen 58 = .ok (.getfield 15, 3) := by decide +kernel
theorem dc_Lines_happen_61 : decode cd_Lines_happen 61 = .ok (.iload_n 1, 1) := by decide +kernel
theorem dc_Lines_happen_62 : decode cd_Lines_happen 62 = .ok (.iaload, 1) := by decide +kernel
theorem dc_Lines_happen_63 : decode cd_Lines_happen 63 = .ok (.invokevirtual 123, 3) := by decide +kernel
theorem dc_Lines_happen_66 : decode cd_Lines_happen 66 = .ok (.goto 31, 3) := by decide +kernel
theorem dc_Lines_happen_69 : decode cd_Lines_happen 69 = .ok (.aload_n 2, 1) := by decide +kernel
theorem dc_Lines_happen_70 : decode cd_Lines_happen 70 = .ok (.getfield 127, 3) := by decide +kernel
theorem dc_Lines_happen_73 : decode cd_Lines_happen 73 = .ok (.aload_n 0, 1) := by decide +kernel
theorem dc_Lines_happen_74 : decode cd_Lines_happen 74 = .ok (.getfield 18, 3) := by decide +kernel
theorem dc_Lines_happen_77 : decode cd_Lines_happen 77 = .ok (.iload_n 1, 1) := by decide +kernel
theorem dc_Lines_happen_78 : decode cd_Lines_happen 78 = .ok (.iaload, 1) := by decide +kernel
theorem dc_Lines_happen_79 : decode cd_Lines_happen 79 = .ok (.aload_n 0, 1) := by decide +kernel
theorem dc_Lines_happen_80 : decode cd_Lines_happen 80 = .ok (.getfield 15, 3) := by decide +kernel
theorem dc_Lines_happen_83 : decode cd_Lines_happen 83 = .ok (.iload_n 1, 1) := by decide +kernel
theorem dc_Lines_happen_84 : decode cd_Lines_happen 84 = .ok (.iaload, 1) := by decide +kernel
theorem dc_Lines_happen_85 : decode cd_Lines_happen 85 = .ok (.iastore, 1) := by decide +kernel
theorem dc_Lines_happen_86 : decode cd_Lines_happen 86 = .ok (.goto 11, 3) := by decide +kernel
theorem dc_Lines_happen_89 : decode cd_Lines_happen 89 = .ok (.aload_n 2, 1) := by decide +kernel
theorem dc_Lines_happen_90 : decode cd_Lines_happen 90 = .ok (.iconst 1, 1) := by decide +kernel
theorem dc_Lines_happen_91 : decode cd_Lines_happen 91 = .ok (.putfield 116, 3) := by decide +kernel
theorem dc_Lines_happen_94 : decode cd_Lines_happen 94 = .ok (.goto 3, 3) := by decide +kernel
theorem dc_Lines_happen_97 : decode cd_Lines_happen 97 = .ok (.return_, 1) := by decide +kernel
theorem dc_Sight_take_0 : decode cd_Sight_take 0 = .ok (.aload_n 0, 1) := by decide +kernel
theorem dc_Sight_take_1 : decode cd_Sight_take 1 = .ok (.getfield 9, 3) := by decide +kernel
theorem dc_Sight_take_4 : decode cd_Sight_take 4 = .ok (.iconst 0, 1) := by decide +kernel
theorem dc_Sight_take_5 : decode cd_Sight_take 5 = .ok (.invokestatic 19, 3) := by decide +kernel
theorem dc_Sight_take_8 : decode cd_Sight_take 8 = .ok (.iconst 0, 1) := by decide +kernel
theorem dc_Sight_take_9 : decode cd_Sight_take 9 = .ok (.istore_n 3, 1) := by decide +kernel
theorem dc_Sight_take_10 : decode cd_Sight_take 10 = .ok (.iload_n 3, 1) := by decide +kernel
theorem dc_Sight_take_11 : decode cd_Sight_take 11 = .ok (.iload_n 2, 1) := by decide +kernel
theorem dc_Sight_take_12 : decode cd_Sight_take 12 = .ok (.if_icmp .ge 87, 3) := by decide +kernel
theorem dc_Sight_take_15 : decode cd_Sight_take 15 = .ok (.iload_n 3, 1) := by decide +kernel
theorem dc_Sight_take_16 : decode cd_Sight_take 16 = .ok (.iconst 4, 1) := by decide +kernel
theorem dc_Sight_take_17 : decode cd_Sight_take 17 = .ok (.imul, 1) := by decide +kernel
theorem dc_Sight_take_18 : decode cd_Sight_take 18 = .ok (.istore 4, 2) := by decide +kernel
theorem dc_Sight_take_20 : decode cd_Sight_take 20 = .ok (.iload 4, 2) := by decide +kernel
theorem dc_Sight_take_22 : decode cd_Sight_take 22 = .ok (.iload_n 3, 1) := by decide +kernel
theorem dc_Sight_take_23 : decode cd_Sight_take 23 = .ok (.iconst 4, 1) := by decide +kernel
theorem dc_Sight_take_24 : decode cd_Sight_take 24 = .ok (.imul, 1) := by decide +kernel
theorem dc_Sight_take_25 : decode cd_Sight_take 25 = .ok (.aload_n 1, 1) := by decide +kernel
theorem dc_Sight_take_26 : decode cd_Sight_take 26 = .ok (.getfield 25, 3) := by decide +kernel
theorem dc_Sight_take_29 : decode cd_Sight_take 29 = .ok (.iload_n 3, 1) := by decide +kernel
theorem dc_Sight_take_30 : decode cd_Sight_take 30 = .ok (.iaload, 1) := by decide +kernel
theorem dc_Sight_take_31 : decode cd_Sight_take 31 = .ok (.iadd, 1) := by decide +kernel
theorem dc_Sight_take_32 : decode cd_Sight_take 32 = .ok (.if_icmp .ge 61, 3) := by decide +kernel
theorem dc_Sight_take_35 : decode cd_Sight_take 35 = .ok (.aload_n 1, 1) := by decide +kernel
theorem dc_Sight_take_36 : decode cd_Sight_take 36 = .ok (.getfield 30, 3) := by decide +kernel
theorem dc_Sight_take_39 : decode cd_Sight_take 39 = .ok (.iload 4, 2) := by decide +kernel
theorem dc_Sight_take_41 : decode cd_Sight_take 41 = .ok (.iaload, 1) := by decide +kernel
theorem dc_Sight_take_42 : decode cd_Sight_take 42 = .ok (.istore 5, 2) := by decide +kernel
theorem dc_Sight_take_44 : decode cd_Sight_take 44 = .ok (.iload 5, 2) := by decide +kernel
theorem dc_Sight_take_46 : decode cd_Sight_take 46 = .ok (.aload_n 1, 1) := by decide +kernel
theorem dc_Sight_take_47 : decode cd_Sight_take 47 = .ok (.getfield 33, 3) := by decide +kernel
theorem dc_Sight_take_50 : decode cd_Sight_take 50 = .ok (.iload 4, 2) := by decide +kernel
theorem dc_Sight_take_52 : decode cd_Sight_take 52 = .ok (.iaload, 1) := by decide +kernel
theorem dc_Sight_take_53 : decode cd_Sight_take 53 = .ok (.if_icmp .gt 34, 3) := by decide +kernel
theorem dc_Sight_take_56 : decode cd_Sight_take 56 = .ok (.aload_n 0, 1) := by decide +kernel
theorem dc_Sight_take_57 : decode cd_Sight_take 57 = .ok (.getfield 9, 3) := by decide +kernel
theorem dc_Sight_take_60 : decode cd_Sight_take 60 = .ok (.aload_n 1, 1) := by decide +kernel
theorem dc_Sight_take_61 : decode cd_Sight_take 61 = .ok (.getfield 36, 3) := by decide +kernel
theorem dc_Sight_take_64 : decode cd_Sight_take 64 = .ok (.iload 4, 2) := by decide +kernel
theorem dc_Sight_take_66 : decode cd_Sight_take 66 = .ok (.iaload, 1) := by decide +kernel
theorem dc_Sight_take_67 : decode cd_Sight_take 67 = .ok (.sipush 240, 3) := by decide +kernel
theorem dc_Sight_take_70 : decode cd_Sight_take 70 = .ok (.imul, 1) := by decide +kernel
theorem dc_Sight_take_71 : decode cd_Sight_take 71 = .ok (.iload 5, 2) := by decide +kernel
theorem dc_Sight_take_73 : decode cd_Sight_take 73 = .ok (.iadd, 1) := by decide +kernel
theorem dc_Sight_take_74 : decode cd_Sight_take 74 = .ok (.dup2, 1) := by decide +kernel
theorem dc_Sight_take_75 : decode cd_Sight_take 75 = .ok (.iaload, 1) := by decide +kernel
theorem dc_Sight_take_76 : decode cd_Sight_take 76 = .ok (.iconst 1, 1) := by decide +kernel
theorem dc_Sight_take_77 : decode cd_Sight_take 77 = .ok (.iload_n 3, 1) := by decide +kernel
theorem dc_Sight_take_78 : decode cd_Sight_take 78 = .ok (.ishl, 1) := by decide +kernel
theorem dc_Sight_take_79 : decode cd_Sight_take 79 = .ok (.ior, 1) := by decide +kernel
theorem dc_Sight_take_80 : decode cd_Sight_take 80 = .ok (.iastore, 1) := by decide +kernel
theorem dc_Sight_take_81 : decode cd_Sight_take 81 = .ok (.iinc 5 1, 3) := by decide +kernel
theorem dc_Sight_take_84 : decode cd_Sight_take 84 = .ok (.goto (-40), 3) := by decide +kernel
theorem dc_Sight_take_87 : decode cd_Sight_take 87 = .ok (.iinc 4 1, 3) := by decide +kernel
theorem dc_Sight_take_90 : decode cd_Sight_take 90 = .ok (.goto (-70), 3) := by decide +kernel
theorem dc_Sight_take_93 : decode cd_Sight_take 93 = .ok (.iinc 3 1, 3) := by decide +kernel
theorem dc_Sight_take_96 : decode cd_Sight_take 96 = .ok (.goto (-86), 3) := by decide +kernel
theorem dc_Sight_take_99 : decode cd_Sight_take 99 = .ok (.return_, 1) := by decide +kernel
theorem dc_Sight_isMeeting_0 : decode cd_Sight_isMeeting 0 = .ok (.iconst 0, 1) := by decide +kernel
theorem dc_Sight_isMeeting_1 : decode cd_Sight_isMeeting 1 = .ok (.istore_n 2, 1) := by decide +kernel
theorem dc_Sight_isMeeting_2 : decode cd_Sight_isMeeting 2 = .ok (.iload_n 2, 1) := by decide +kernel
theorem dc_Sight_isMeeting_3 : decode cd_Sight_isMeeting 3 = .ok (.bipush 6, 2) := by decide +kernel
theorem dc_Sight_isMeeting_5 : decode cd_Sight_isMeeting 5 = .ok (.if_icmp .ge 24, 3) := by decide +kernel
theorem dc_Sight_isMeeting_8 : decode cd_Sight_isMeeting 8 = .ok (.aload_n 0, 1) := by decide +kernel
theorem dc_Sight_isMeeting_9 : decode cd_Sight_isMeeting 9 = .ok (.iload_n 2, 1) := by decide +kernel
theorem dc_Sight_isMeeting_10 : decode cd_Sight_isMeeting 10 = .ok (.iload_n 1, 1) := by decide +kernel
theorem dc_Sight_isMeeting_11 : decode cd_Sight_isMeeting 11 = .ok (.invokevirtual 39, 3) := by decide +kernel
theorem dc_Sight_isMeeting_14 : decode cd_Sight_isMeeting 14 = .ok (.invokestatic 43, 3) := by decide +kernel
theorem dc_Sight_isMeeting_17 : decode cd_Sight_isMeeting 17 = .ok (.iconst 1, 1) := by decide +kernel
theorem dc_Sight_isMeeting_18 : decode cd_Sight_isMeeting 18 = .ok (.if_icmp .le 5, 3) := by decide +kernel
theorem dc_Sight_isMeeting_21 : decode cd_Sight_isMeeting 21 = .ok (.iconst 1, 1) := by decide +kernel
theorem dc_Sight_isMeeting_22 : decode cd_Sight_isMeeting 22 = .ok (.ireturn, 1) := by decide +kernel
theorem dc_Sight_isMeeting_23 : decode cd_Sight_isMeeting 23 = .ok (.iinc 2 1, 3) := by decide +kernel
theorem dc_Sight_isMeeting_26 : decode cd_Sight_isMeeting 26 = .ok (.goto (-24), 3) := by decide +kernel
theorem dc_Sight_isMeeting_29 : decode cd_Sight_isMeeting 29 = .ok (.iconst 0, 1) := by decide +kernel
theorem dc_Sight_isMeeting_30 : decode cd_Sight_isMeeting 30 = .ok (.ireturn, 1) := by decide +kernel
theorem dc_Sight_firstToHaveMet_0 : decode cd_Sight_firstToHaveMet 0 = .ok (.aload_n 0, 1) := by decide +kernel
theorem dc_Sight_firstToHaveMet_1 : decode cd_Sight_firstToHaveMet 1 = .ok (.getfield 15, 3) := by decide +kernel
theorem dc_Sight_firstToHaveMet_4 : decode cd_Sight_firstToHaveMet 4 = .ok (.lconst 0, 1) := by decide +kernel
theorem dc_Sight_firstToHaveMet_5 : decode cd_Sight_firstToHaveMet 5 = .ok (.invokestatic 49, 3) := by decide +kernel
theorem dc_Sight_firstToHaveMet_8 : decode cd_Sight_firstToHaveMet 8 = .ok (.aload_n 0, 1) := by decide +kernel
theorem dc_Sight_firstToHaveMet_9 : decode cd_Sight_firstToHaveMet 9 = .ok (.getfield 15, 3) := by decide +kernel
theorem dc_Sight_firstToHaveMet_12 : decode cd_Sight_firstToHaveMet 12 = .ok (.iload_n 3, 1) := by decide +kernel
theorem dc_Sight_firstToHaveMet_13 : decode cd_Sight_firstToHaveMet 13 = .ok (.sipush 240, 3) := by decide +kernel
theorem dc_Sight_firstToHaveMet_16 : decode cd_Sight_firstToHaveMet 16 = .ok (.imul, 1) := by decide +kernel
theorem dc_Sight_firstToHaveMet_17 : decode cd_Sight_firstToHaveMet 17 = .ok (.iload 4, 2) := by decide +kernel
theorem dc_Sight_firstToHaveMet_19 : decode cd_Sight_firstToHaveMet 19 = .ok (.iadd, 1) := by decide +kernel
theorem dc_Sight_firstToHaveMet_20 : decode cd_Sight_firstToHaveMet 20 = .ok (.lconst 1, 1) := by decide +kernel
theorem dc_Sight_firstToHaveMet_21 : decode cd_Sight_firstToHaveMet 21 = .ok (.lastore, 1) := by decide +kernel
theorem dc_Sight_firstToHaveMet_22 : decode cd_Sight_firstToHaveMet 22 = .ok (.iload 4, 2) := by decide +kernel
theorem dc_Sight_firstToHaveMet_24 : decode cd_Sight_firstToHaveMet 24 = .ok (.istore 6, 2) := by decide +kernel
theorem dc_Sight_firstToHaveMet_26 : decode cd_Sight_firstToHaveMet 26 = .ok (.iload 6, 2) := by decide +kernel
theorem dc_Sight_firstToHaveMet_28 : decode cd_Sight_firstToHaveMet 28 = .ok (.sipush 240, 3) := by decide +kernel
theorem dc_Sight_firstToHaveMet_31 : decode cd_Sight_firstToHaveMet 31 = .ok (.if_icmp .ge 91, 3) := by decide +kernel
theorem dc_Sight_firstToHaveMet_34 : decode cd_Sight_firstToHaveMet 34 = .ok (.iconst 0, 1) := by decide +kernel
theorem dc_Sight_firstToHaveMet_35 : decode cd_Sight_firstToHaveMet 35 = .ok (.istore 7, 2) := by decide +kernel
theorem dc_Sight_firstToHaveMet_37 : decode cd_Sight_firstToHaveMet 37 = .ok (.iload 7, 2) := by decide +kernel
theorem dc_Sight_firstToHaveMet_39 : decode cd_Sight_firstToHaveMet 39 = .ok (.aload_n 1, 1) := by decide +kernel
theorem dc_Sight_firstToHaveMet_40 : decode cd_Sight_firstToHaveMet 40 = .ok (.getfield 52, 3) := by decide +kernel
theorem dc_Sight_firstToHaveMet_43 : decode cd_Sight_firstToHaveMet 43 = .ok (.if_icmp .ge 73, 3) := by decide +kernel
theorem dc_Sight_firstToHaveMet_46 : decode cd_Sight_firstToHaveMet 46 = .ok (.aload_n 0, 1) := by decide +kernel
theorem dc_Sight_firstToHaveMet_47 : decode cd_Sight_firstToHaveMet 47 = .ok (.getfield 15, 3) := by decide +kernel
theorem dc_Sight_firstToHaveMet_50 : decode cd_Sight_firstToHaveMet 50 = .ok (.iload 7, 2) := by decide +kernel
theorem dc_Sight_firstToHaveMet_52 : decode cd_Sight_firstToHaveMet 52 = .ok (.sipush 240, 3) := by decide +kernel
theorem dc_Sight_firstToHaveMet_55 : decode cd_Sight_firstToHaveMet 55 = .ok (.imul, 1) := by decide +kernel
theorem dc_Sight_firstToHaveMet_56 : decode cd_Sight_firstToHaveMet 56 = .ok (.iload 6, 2) := by decide +kernel
theorem dc_Sight_firstToHaveMet_58 : decode cd_Sight_firstToHaveMet 58 = .ok (.iadd, 1) := by decide +kernel
theorem dc_Sight_firstToHaveMet_59 : decode cd_Sight_firstToHaveMet 59 = .ok (.laload, 1) := by decide +kernel
theorem dc_Sight_firstToHaveMet_60 : decode cd_Sight_firstToHaveMet 60 = .ok (.aload_n 0, 1) := by decide +kernel
theorem dc_Sight_firstToHaveMet_61 : decode cd_Sight_firstToHaveMet 61 = .ok (.iload 7, 2) := by decide +kernel
theorem dc_Sight_firstToHaveMet_63 : decode cd_Sight_firstToHaveMet 63 = .ok (.iload 6, 2) := by decide +kernel
theorem dc_Sight_firstToHaveMet_65 : decode cd_Sight_firstToHaveMet 65 = .ok (.invokevirtual 39, 3) := by decide +kernel
theorem dc_Sight_firstToHaveMet_68 : decode cd_Sight_firstToHaveMet 68 = .ok (.iload 5, 2) := by decide +kernel
theorem dc_Sight_firstToHaveMet_70 : decode cd_Sight_firstToHaveMet 70 = .ok (.iand, 1) := by decide +kernel
theorem dc_Sight_firstToHaveMet_71 : decode cd_Sight_firstToHaveMet 71 = .ok (.invokestatic 58, 3) := by decide +kernel
theorem dc_Sight_firstToHaveMet_74 : decode cd_Sight_firstToHaveMet 74 = .ok (.lstore 8, 2) := by decide +kernel
theorem dc_Sight_firstToHaveMet_76 : decode cd_Sight_firstToHaveMet 76 = .ok (.lload 8, 2) := by decide +kernel
theorem dc_Sight_firstToHaveMet_78 : decode cd_Sight_firstToHaveMet 78 = .ok (.iload 5, 2) := by decide +kernel
theorem dc_Sight_firstToHaveMet_80 : decode cd_Sight_firstToHaveMet 80 = .ok (.lushr, 1) := by decide +kernel
theorem dc_Sight_firstToHaveMet_81 : decode cd_Sight_firstToHaveMet 81 = .ok (.lconst 1, 1) := by decide +kernel
theorem dc_Sight_firstToHaveMet_82 : decode cd_Sight_firstToHaveMet 82 = .ok (.land, 1) := by decide +kernel
theorem dc_Sight_firstToHaveMet_83 : decode cd_Sight_firstToHaveMet 83 = .ok (.lconst 0, 1) := by decide +kernel
theorem dc_Sight_firstToHaveMet_84 : decode cd_Sight_firstToHaveMet 84 = .ok (.lcmp, 1) := by decide +kernel
theorem dc_Sight_firstToHaveMet_85 : decode cd_Sight_firstToHaveMet 85 = .ok (.ifCond .eq 6, 3) := by decide +kernel
theorem dc_Sight_firstToHaveMet_88 : decode cd_Sight_firstToHaveMet 88 = .ok (.iload 6, 2) := by decide +kernel
theorem dc_Sight_firstToHaveMet_90 : decode cd_Sight_firstToHaveMet 90 = .ok (.ireturn, 1) := by decide +kernel
theorem dc_Sight_firstToHaveMet_91 : decode cd_Sight_firstToHaveMet 91 = .ok (.lload 8, 2) := by decide +kernel
theorem dc_Sight_firstToHaveMet_93 : decode cd_Sight_firstToHaveMet 93 = .ok (.lconst 0, 1) := by decide +kernel
theorem dc_Sight_firstToHaveMet_94 : decode cd_Sight_firstToHaveMet 94 = .ok (.lcmp, 1) := by decide +kernel
theorem dc_Sight_firstToHaveMet_95 : decode cd_Sight_firstToHaveMet 95 = .ok (.ifCond .eq 15, 3) := by decide +kernel
theorem dc_Sight_firstToHaveMet_98 : decode cd_Sight_firstToHaveMet 98 = .ok (.aload_n 0, 1) := by decide +kernel
theorem dc_Sight_firstToHaveMet_99 : decode cd_Sight_firstToHaveMet 99 = .ok (.aload_n 1, 1) := by decide +kernel
theorem dc_Sight_firstToHaveMet_100 : decode cd_Sight_firstToHaveMet 100 = .ok (.iload_n 2, 1) := by decide +kernel
theorem dc_Sight_firstToHaveMet_101 : decode cd_Sight_firstToHaveMet 101 = .ok (.iload 7, 2) := by decide +kernel
theorem dc_Sight_firstToHaveMet_103 : decode cd_Sight_firstToHaveMet 103 = .ok (.iload 6, 2) := by decide +kernel
theorem dc_Sight_firstToHaveMet_105 : decode cd_Sight_firstToHaveMet 105 = .ok (.lload 8, 2) := by decide +kernel
theorem dc_Sight_firstToHaveMet_107 : decode cd_Sight_firstToHaveMet 107 = .ok (.invokevirtual 62, 3) := by decide +kernel
theorem dc_Sight_firstToHaveMet_110 : decode cd_Sight_firstToHaveMet 110 = .ok (.iinc 7 1, 3) := by decide +kernel
theorem dc_Sight_firstToHaveMet_113 : decode cd_Sight_firstToHaveMet 113 = .ok (.goto (-76), 3) := by decide +kernel
theorem dc_Sight_firstToHaveMet_116 : decode cd_Sight_firstToHaveMet 116 = .ok (.iinc 6 1, 3) := by decide +kernel
theorem dc_Sight_firstToHaveMet_119 : decode cd_Sight_firstToHaveMet 119 = .ok (.goto (-93), 3) := by decide +kernel
theorem dc_Sight_firstToHaveMet_122 : decode cd_Sight_firstToHaveMet 122 = .ok (.iconst (-1), 1) := by decide +kernel
theorem dc_Sight_firstToHaveMet_123 : decode cd_Sight_firstToHaveMet 123 = .ok (.ireturn, 1) := by decide +kernel
theorem dc_Standing_copy_0 : decode cd_Standing_copy 0 = .ok (.aload_n 0, 1) := by decide +kernel
theorem dc_Standing_copy_1 : decode cd_Standing_copy 1 = .ok (.getfield 12, 3) := by decide +kernel
theorem dc_Standing_copy_4 : decode cd_Standing_copy 4 = .ok (.aload_n 1, 1) := by decide +kernel
theorem dc_Standing_copy_5 : decode cd_Standing_copy 5 = .ok (.getfield 12, 3) := by decide +kernel
theorem dc_Standing_copy_8 : decode cd_Standing_copy 8 = .ok (.invokevirtual 52, 3) := by decide +kernel
theorem dc_Standing_copy_11 : decode cd_Standing_copy 11 = .ok (.aload_n 0, 1) := by decide +kernel
theorem dc_Standing_copy_12 : decode cd_Standing_copy 12 = .ok (.getfield 21, 3) := by decide +kernel
theorem dc_Standing_copy_15 : decode cd_Standing_copy 15 = .ok (.aload_n 1, 1) := by decide +kernel
theorem dc_Standing_copy_16 : decode cd_Standing_copy 16 = .ok (.getfield 21, 3) := by decide +kernel
theorem dc_Standing_copy_19 : decode cd_Standing_copy 19 = .ok (.invokevirtual 56, 3) := by decide +kernel
theorem dc_Standing_copy_22 : decode cd_Standing_copy 22 = .ok (.aload_n 0, 1) := by decide +kernel
theorem dc_Standing_copy_23 : decode cd_Standing_copy 23 = .ok (.aload_n 1, 1) := by decide +kernel
theorem dc_Standing_copy_24 : decode cd_Standing_copy 24 = .ok (.getfield 43, 3) := by decide +kernel
theorem dc_Standing_copy_27 : decode cd_Standing_copy 27 = .ok (.putfield 43, 3) := by decide +kernel
theorem dc_Standing_copy_30 : decode cd_Standing_copy 30 = .ok (.aload_n 1, 1) := by decide +kernel
theorem dc_Standing_copy_31 : decode cd_Standing_copy 31 = .ok (.getfield 25, 3) := by decide +kernel
theorem dc_Standing_copy_34 : decode cd_Standing_copy 34 = .ok (.iconst 0, 1) := by decide +kernel
theorem dc_Standing_copy_35 : decode cd_Standing_copy 35 = .ok (.aload_n 0, 1) := by decide +kernel
theorem dc_Standing_copy_36 : decode cd_Standing_copy 36 = .ok (.getfield 25, 3) := by decide +kernel
theorem dc_Standing_copy_39 : decode cd_Standing_copy 39 = .ok (.iconst 0, 1) := by decide +kernel
theorem dc_Standing_copy_40 : decode cd_Standing_copy 40 = .ok (.bipush 8, 2) := by decide +kernel
theorem dc_Standing_copy_42 : decode cd_Standing_copy 42 = .ok (.invokestatic 59, 3) := by decide +kernel
theorem dc_Standing_copy_45 : decode cd_Standing_copy 45 = .ok (.aload_n 1, 1) := by decide +kernel
theorem dc_Standing_copy_46 : decode cd_Standing_copy 46 = .ok (.getfield 29, 3) := by decide +kernel
theorem dc_Standing_copy_49 : decode cd_Standing_copy 49 = .ok (.iconst 0, 1) := by decide +kernel
theorem dc_Standing_copy_50 : decode cd_Standing_copy 50 = .ok (.aload_n 0, 1) := by decide +kernel
theorem dc_Standing_copy_51 : decode cd_Standing_copy 51 = .ok (.getfield 29, 3) := by decide +kernel
theorem dc_Standing_copy_54 : decode cd_Standing_copy 54 = .ok (.iconst 0, 1) := by decide +kernel
theorem dc_Standing_copy_55 : decode cd_Standing_copy 55 = .ok (.bipush 8, 2) := by decide +kernel
theorem dc_Standing_copy_57 : decode cd_Standing_copy 57 = .ok (.invokestatic 59, 3) := by decide +kernel
theorem dc_Standing_copy_60 : decode cd_Standing_copy 60 = .ok (.aload_n 0, 1) := by decide +kernel
theorem dc_Standing_copy_61 : decode cd_Standing_copy 61 = .ok (.aload_n 1, 1) := by decide +kernel
theorem dc_Standing_copy_62 : decode cd_Standing_copy 62 = .ok (.getfield 65, 3) := by decide +kernel
theorem dc_Standing_copy_65 : decode cd_Standing_copy 65 = .ok (.putfield 65, 3) := by decide +kernel
theorem dc_Standing_copy_68 : decode cd_Standing_copy 68 = .ok (.aload_n 1, 1) := by decide +kernel
theorem dc_Standing_copy_69 : decode cd_Standing_copy 69 = .ok (.getfield 32, 3) := by decide +kernel
theorem dc_Standing_copy_72 : decode cd_Standing_copy 72 = .ok (.iconst 0, 1) := by decide +kernel
theorem dc_Standing_copy_73 : decode cd_Standing_copy 73 = .ok (.aload_n 0, 1) := by decide +kernel
theorem dc_Standing_copy_74 : decode cd_Standing_copy 74 = .ok (.getfield 32, 3) := by decide +kernel
theorem dc_Standing_copy_77 : decode cd_Standing_copy 77 = .ok (.iconst 0, 1) := by decide +kernel
theorem dc_Standing_copy_78 : decode cd_Standing_copy 78 = .ok (.bipush 6, 2) := by decide +kernel
theorem dc_Standing_copy_80 : decode cd_Standing_copy 80 = .ok (.invokestatic 59, 3) := by decide +kernel
theorem dc_Standing_copy_83 : decode cd_Standing_copy 83 = .ok (.return_, 1) := by decide +kernel
theorem dc_Standing_canBe_0 : decode cd_Standing_canBe 0 = .ok (.iconst 0, 1) := by decide +kernel
theorem dc_Standing_canBe_1 : decode cd_Standing_canBe 1 = .ok (.istore_n 3, 1) := by decide +kernel
theorem dc_Standing_canBe_2 : decode cd_Standing_canBe 2 = .ok (.iload_n 3, 1) := by decide +kernel
theorem dc_Standing_canBe_3 : decode cd_Standing_canBe 3 = .ok (.aload_n 0, 1) := by decide +kernel
theorem dc_Standing_canBe_4 : decode cd_Standing_canBe 4 = .ok (.getfield 43, 3) := by decide +kernel
theorem dc_Standing_canBe_7 : decode cd_Standing_canBe 7 = .ok (.if_icmp .ge 46, 3) := by decide +kernel
theorem dc_Standing_canBe_10 : decode cd_Standing_canBe 10 = .ok (.aload_n 1, 1) := by decide +kernel
theorem dc_Standing_canBe_11 : decode cd_Standing_canBe 11 = .ok (.aload_n 0, 1) := by decide +kernel
theorem dc_Standing_canBe_12 : decode cd_Standing_canBe 12 = .ok (.getfield 29, 3) := by decide +kernel
theorem dc_Standing_canBe_15 : decode cd_Standing_canBe 15 = .ok (.iload_n 3, 1) := by decide +kernel
theorem dc_Standing_canBe_16 : decode cd_Standing_canBe 16 = .ok (.iaload, 1) := by decide +kernel
theorem dc_Standing_canBe_17 : decode cd_Standing_canBe 17 = .ok (.iload_n 2, 1) := by decide +kernel
theorem dc_Standing_canBe_18 : decode cd_Standing_canBe 18 = .ok (.invokevirtual 68, 3) := by decide +kernel
theorem dc_Standing_canBe_21 : decode cd_Standing_canBe 21 = .ok (.aload_n 0, 1) := by decide +kernel
theorem dc_Standing_canBe_22 : decode cd_Standing_canBe 22 = .ok (.getfield 25, 3) := by decide +kernel
theorem dc_Standing_canBe_25 : decode cd_Standing_canBe 25 = .ok (.iload_n 3, 1) := by decide +kernel
theorem dc_Standing_canBe_26 : decode cd_Standing_canBe 26 = .ok (.iaload, 1) := by decide +kernel
theorem dc_Standing_canBe_27 : decode cd_Standing_canBe 27 = .ok (.ishr, 1) := by decide +kernel
theorem dc_Standing_canBe_28 : decode cd_Standing_canBe 28 = .ok (.iconst 1, 1) := by decide +kernel
theorem dc_Standing_canBe_29 : decode cd_Standing_canBe 29 = .ok (.iand, 1) := by decide +kernel
theorem dc_Standing_canBe_30 : decode cd_Standing_canBe 30 = .ok (.istore 4, 2) := by decide +kernel
theorem dc_Standing_canBe_32 : decode cd_Standing_canBe 32 = .ok (.iload 4, 2) := by decide +kernel
theorem dc_Standing_canBe_34 : decode cd_Standing_canBe 34 = .ok (.aload_n 0, 1) := by decide +kernel
theorem dc_Standing_canBe_35 : decode cd_Standing_canBe 35 = .ok (.getfield 65, 3) := by decide +kernel
theorem dc_Standing_canBe_38 : decode cd_Standing_canBe 38 = .ok (.iload_n 3, 1) := by decide +kernel
theorem dc_Standing_canBe_39 : decode cd_Standing_canBe 39 = .ok (.ishr, 1) := by decide +kernel
theorem dc_Standing_canBe_40 : decode cd_Standing_canBe 40 = .ok (.iconst 1, 1) := by decide +kernel
theorem dc_Standing_canBe_41 : decode cd_Standing_canBe 41 = .ok (.iand, 1) := by decide +kernel
theorem dc_Standing_canBe_42 : decode cd_Standing_canBe 42 = .ok (.if_icmp .eq 5, 3) := by decide +kernel
theorem dc_Standing_canBe_45 : decode cd_Standing_canBe 45 = .ok (.iconst 0, 1) := by decide +kernel
theorem dc_Standing_canBe_46 : decode cd_Standing_canBe 46 = .ok (.ireturn, 1) := by decide +kernel
theorem dc_Standing_canBe_47 : decode cd_Standing_canBe 47 = .ok (.iinc 3 1, 3) := by decide +kernel
theorem dc_Standing_canBe_50 : decode cd_Standing_canBe 50 = .ok (.goto (-48), 3) := by decide +kernel
theorem dc_Standing_canBe_53 : decode cd_Standing_canBe 53 = .ok (.iconst 1, 1) := by decide +kernel
theorem dc_Standing_canBe_54 : decode cd_Standing_canBe 54 = .ok (.ireturn, 1) := by decide +kernel
theorem dc_State_begin_0 : decode cd_State_begin 0 = .ok (.aload_n 0, 1) := by decide +kernel
theorem dc_State_begin_1 : decode cd_State_begin 1 = .ok (.iconst 0, 1) := by decide +kernel
theorem dc_State_begin_2 : decode cd_State_begin 2 = .ok (.putfield 18, 3) := by decide +kernel
theorem dc_State_begin_5 : decode cd_State_begin 5 = .ok (.aload_n 0, 1) := by decide +kernel
theorem dc_State_begin_6 : decode cd_State_begin 6 = .ok (.iconst 0, 1) := by decide +kernel
theorem dc_State_begin_7 : decode cd_State_begin 7 = .ok (.putfield 22, 3) := by decide +kernel
theorem dc_State_begin_10 : decode cd_State_begin 10 = .ok (.aload_n 0, 1) := by decide +kernel
theorem dc_State_begin_11 : decode cd_State_begin 11 = .ok (.iconst 1, 1) := by decide +kernel
theorem dc_State_begin_12 : decode cd_State_begin 12 = .ok (.aload_n 1, 1) := by decide +kernel
theorem dc_State_begin_13 : decode cd_State_begin 13 = .ok (.getfield 25, 3) := by decide +kernel
theorem dc_State_begin_16 : decode cd_State_begin 16 = .ok (.ishl, 1) := by decide +kernel
theorem dc_State_begin_17 : decode cd_State_begin 17 = .ok (.iconst 1, 1) := by decide +kernel
theorem dc_State_begin_18 : decode cd_State_begin 18 = .ok (.isub, 1) := by decide +kernel
theorem dc_State_begin_19 : decode cd_State_begin 19 = .ok (.putfield 30, 3) := by decide +kernel
theorem dc_State_begin_22 : decode cd_State_begin 22 = .ok (.aload_n 0, 1) := by decide +kernel
theorem dc_State_begin_23 : decode cd_State_begin 23 = .ok (.iconst 0, 1) := by decide +kernel
theorem dc_State_begin_24 : decode cd_State_begin 24 = .ok (.putfield 33, 3) := by decide +kernel
theorem dc_State_begin_27 : decode cd_State_begin 27 = .ok (.aload_n 0, 1) := by decide +kernel
theorem dc_State_begin_28 : decode cd_State_begin 28 = .ok (.getfield 9, 3) := by decide +kernel
theorem dc_State_begin_31 : decode cd_State_begin 31 = .ok (.iconst 0, 1) := by decide +kernel
theorem dc_State_begin_32 : decode cd_State_begin 32 = .ok (.invokestatic 37, 3) := by decide +kernel
theorem dc_State_begin_35 : decode cd_State_begin 35 = .ok (.aload_n 1, 1) := by decide +kernel
theorem dc_State_begin_36 : decode cd_State_begin 36 = .ok (.getfield 43, 3) := by decide +kernel
theorem dc_State_begin_39 : decode cd_State_begin 39 = .ok (.iconst 0, 1) := by decide +kernel
theorem dc_State_begin_40 : decode cd_State_begin 40 = .ok (.aload_n 0, 1) := by decide +kernel
theorem dc_State_begin_41 : decode cd_State_begin 41 = .ok (.getfield 15, 3) := by decide +kernel
theorem dc_State_begin_44 : decode cd_State_begin 44 = .ok (.iconst 0, 1) := by decide +kernel
theorem dc_State_begin_45 : decode cd_State_begin 45 = .ok (.bipush 6, 2) := by decide +kernel
theorem dc_State_begin_47 : decode cd_State_begin 47 = .ok (.invokestatic 46, 3) := by decide +kernel
theorem dc_State_begin_50 : decode cd_State_begin 50 = .ok (.return_, 1) := by decide +kernel
theorem dc_State_canDepute_0 : decode cd_State_canDepute 0 = .ok (.aload_n 0, 1) := by decide +kernel
theorem dc_State_canDepute_1 : decode cd_State_canDepute 1 = .ok (.iload_n 3, 1) := by decide +kernel
theorem dc_State_canDepute_2 : decode cd_State_canDepute 2 = .ok (.invokevirtual 52, 3) := by decide +kernel
theorem dc_State_canDepute_5 : decode cd_State_canDepute 5 = .ok (.ifCond .eq 35, 3) := by decide +kernel
theorem dc_State_canDepute_8 : decode cd_State_canDepute 8 = .ok (.aload_n 0, 1) := by decide +kernel
theorem dc_State_canDepute_9 : decode cd_State_canDepute 9 = .ok (.getfield 15, 3) := by decide +kernel
theorem dc_State_canDepute_12 : decode cd_State_canDepute 12 = .ok (.iload_n 2, 1) := by decide +kernel
theorem dc_State_canDepute_13 : decode cd_State_canDepute 13 = .ok (.iaload, 1) := by decide +kernel
theorem dc_State_canDepute_14 : decode cd_State_canDepute 14 = .ok (.iload_n 3, 1) := by decide +kernel
theorem dc_State_canDepute_15 : decode cd_State_canDepute 15 = .ok (.if_icmp .eq 25, 3) := by decide +kernel
theorem dc_State_canDepute_18 : decode cd_State_canDepute 18 = .ok (.aload_n 1, 1) := by decide +kernel
theorem dc_State_canDepute_19 : decode cd_State_canDepute 19 = .ok (.getfield 56, 3) := by decide +kernel
theorem dc_State_canDepute_22 : decode cd_State_canDepute 22 = .ok (.iload_n 3, 1) := by decide +kernel
theorem dc_State_canDepute_23 : decode cd_State_canDepute 23 = .ok (.aaload, 1) := by decide +kernel
theorem dc_State_canDepute_24 : decode cd_State_canDepute 24 = .ok (.aload_n 1, 1) := by decide +kernel
theorem dc_State_canDepute_25 : decode cd_State_canDepute 25 = .ok (.getfield 60, 3) := by decide +kernel
theorem dc_State_canDepute_28 : decode cd_State_canDepute 28 = .ok (.iload_n 2, 1) := by decide +kernel
theorem dc_State_canDepute_29 : decode cd_State_canDepute 29 = .ok (.iaload, 1) := by decide +kernel
theorem dc_State_canDepute_30 : decode cd_State_canDepute 30 = .ok (.invokevirtual 63, 3) := by decide +kernel
theorem dc_State_canDepute_33 : decode cd_State_canDepute 33 = .ok (.ifCond .eq 7, 3) := by decide +kernel
theorem dc_State_canDepute_36 : decode cd_State_canDepute 36 = .ok (.iconst 1, 1) := by decide +kernel
theorem dc_State_canDepute_37 : decode cd_State_canDepute 37 = .ok (.goto 4, 3) := by decide +kernel
theorem dc_State_canDepute_40 : decode cd_State_canDepute 40 = .ok (.iconst 0, 1) := by decide +kernel
theorem dc_State_canDepute_41 : decode cd_State_canDepute 41 = .ok (.ireturn, 1) := by decide +kernel
theorem dc_State_pass_0 : decode cd_State_pass 0 = .ok (.aload_n 0, 1) := by decide +kernel
theorem dc_State_pass_1 : decode cd_State_pass 1 = .ok (.dup, 1) := by decide +kernel
theorem dc_State_pass_2 : decode cd_State_pass 2 = .ok (.getfield 22, 3) := by decide +kernel
theorem dc_State_pass_5 : decode cd_State_pass 5 = .ok (.iload_n 1, 1) := by decide +kernel
theorem dc_State_pass_6 : decode cd_State_pass 6 = .ok (.iadd, 1) := by decide +kernel
theorem dc_State_pass_7 : decode cd_State_pass 7 = .ok (.putfield 22, 3) := by decide +kernel
theorem dc_State_pass_10 : decode cd_State_pass 10 = .ok (.aload_n 0, 1) := by decide +kernel
theorem dc_State_pass_11 : decode cd_State_pass 11 = .ok (.dup, 1) := by decide +kernel
theorem dc_State_pass_12 : decode cd_State_pass 12 = .ok (.getfield 18, 3) := by decide +kernel
theorem dc_State_pass_15 : decode cd_State_pass 15 = .ok (.iconst 1, 1) := by decide +kernel
theorem dc_State_pass_16 : decode cd_State_pass 16 = .ok (.iadd, 1) := by decide +kernel
theorem dc_State_pass_17 : decode cd_State_pass 17 = .ok (.putfield 18, 3) := by decide +kernel
theorem dc_State_pass_20 : decode cd_State_pass 20 = .ok (.aload_n 0, 1) := by decide +kernel
theorem dc_State_pass_21 : decode cd_State_pass 21 = .ok (.iconst 0, 1) := by decide +kernel
theorem dc_State_pass_22 : decode cd_State_pass 22 = .ok (.putfield 33, 3) := by decide +kernel
theorem dc_State_pass_25 : decode cd_State_pass 25 = .ok (.aload_n 0, 1) := by decide +kernel
theorem dc_State_pass_26 : decode cd_State_pass 26 = .ok (.getfield 9, 3) := by decide +kernel
theorem dc_State_pass_29 : decode cd_State_pass 29 = .ok (.iconst 0, 1) := by decide +kernel
theorem dc_State_pass_30 : decode cd_State_pass 30 = .ok (.invokestatic 37, 3) := by decide +kernel
theorem dc_State_pass_33 : decode cd_State_pass 33 = .ok (.return_, 1) := by decide +kernel
theorem dc_Tape_append_0 : decode cd_Tape_append 0 = .ok (.bipush 56, 2) := by decide +kernel
theorem dc_Tape_append_2 : decode cd_Tape_append 2 = .ok (.istore_n 3, 1) := by decide +kernel
theorem dc_Tape_append_3 : decode cd_Tape_append 3 = .ok (.iload_n 3, 1) := by decide +kernel
theorem dc_Tape_append_4 : decode cd_Tape_append 4 = .ok (.ifCond .lt 73, 3) := by decide +kernel
theorem dc_Tape_append_7 : decode cd_Tape_append 7 = .ok (.lload_n 1, 1) := by decide +kernel
theorem dc_Tape_append_8 : decode cd_Tape_append 8 = .ok (.iload_n 3, 1) := by decide +kernel
theorem dc_Tape_append_9 : decode cd_Tape_append 9 = .ok (.lushr, 1) := by decide +kernel
theorem dc_Tape_append_10 : decode cd_Tape_append 10 = .ok (.ldc2_w 15, 3) := by decide +kernel
theorem dc_Tape_append_13 : decode cd_Tape_append 13 = .ok (.land, 1) := by decide +kernel
theorem dc_Tape_append_14 : decode cd_Tape_append 14 = .ok (.l2i, 1) := by decide +kernel
theorem dc_Tape_append_15 : decode cd_Tape_append 15 = .ok (.i2c, 1) := by decide +kernel
theorem dc_Tape_append_16 : decode cd_Tape_append 16 = .ok (.istore 4, 2) := by decide +kernel
theorem dc_Tape_append_18 : decode cd_Tape_append 18 = .ok (.iload 4, 2) := by decide +kernel
theorem dc_Tape_append_20 : decode cd_Tape_append 20 = .ok (.invokestatic 17, 3) := by decide +kernel
theorem dc_Tape_append_23 : decode cd_Tape_append 23 = .ok (.ifCond .ne 17, 3) := by decide +kernel
theorem dc_Tape_append_26 : decode cd_Tape_append 26 = .ok (.iload 4, 2) := by decide +kernel
theorem dc_Tape_append_28 : decode cd_Tape_append 28 = .ok (.bipush 32, 2) := by decide +kernel
theorem dc_Tape_append_30 : decode cd_Tape_append 30 = .ok (.if_icmp .le 41, 3) := by decide +kernel
theorem dc_Tape_append_33 : decode cd_Tape_append 33 = .ok (.iload 4, 2) := by decide +kernel
theorem dc_Tape_append_35 : decode cd_Tape_append 35 = .ok (.bipush 127, 2) := by decide +kernel
theorem dc_Tape_append_37 : decode cd_Tape_append 37 = .ok (.if_icmp .ge 34, 3) := by decide +kernel
theorem dc_Tape_append_40 : decode cd_Tape_append 40 = .ok (.aload_n 0, 1) := by decide +kernel
theorem dc_Tape_append_41 : decode cd_Tape_append 41 = .ok (.getfield 21, 3) := by decide +kernel
theorem dc_Tape_append_44 : decode cd_Tape_append 44 = .ok (.sipush 1000, 3) := by decide +kernel
theorem dc_Tape_append_47 : decode cd_Tape_append 47 = .ok (.if_icmp .ge 24, 3) := by decide +kernel
theorem dc_Tape_append_50 : decode cd_Tape_append 50 = .ok (.aload_n 0, 1) := by decide +kernel
theorem dc_Tape_append_51 : decode cd_Tape_append 51 = .ok (.getfield 9, 3) := by decide +kernel
theorem dc_Tape_append_54 : decode cd_Tape_append 54 = .ok (.aload_n 0, 1) := by decide +kernel
theorem dc_Tape_append_55 : decode cd_Tape_append 55 = .ok (.getfield 21, 3) := by decide +kernel
theorem dc_Tape_append_58 : decode cd_Tape_append 58 = .ok (.iload 4, 2) := by decide +kernel
theorem dc_Tape_append_60 : decode cd_Tape_append 60 = .ok (.castore, 1) := by decide +kernel
theorem dc_Tape_append_61 : decode cd_Tape_append 61 = .ok (.aload_n 0, 1) := by decide +kernel
theorem dc_Tape_append_62 : decode cd_Tape_append 62 = .ok (.dup, 1) := by decide +kernel
theorem dc_Tape_append_63 : decode cd_Tape_append 63 = .ok (.getfield 21, 3) := by decide +kernel
theorem dc_Tape_append_66 : decode cd_Tape_append 66 = .ok (.iconst 1, 1) := by decide +kernel
theorem dc_Tape_append_67 : decode cd_Tape_append 67 = .ok (.iadd, 1) := by decide +kernel
theorem dc_Tape_append_68 : decode cd_Tape_append 68 = .ok (.putfield 21, 3) := by decide +kernel
theorem dc_Tape_append_71 : decode cd_Tape_append 71 = .ok (.iinc 3 (-8), 3) := by decide +kernel
theorem dc_Tape_append_74 : decode cd_Tape_append 74 = .ok (.goto (-71), 3) := by decide +kernel
theorem dc_Tape_append_77 : decode cd_Tape_append 77 = .ok (.return_, 1) := by decide +kernel
theorem dc_Tape_stepOverWord_0 : decode cd_Tape_stepOverWord 0 = .ok (.aload_n 0, 1) := by decide +kernel
theorem dc_Tape_stepOverWord_1 : decode cd_Tape_stepOverWord 1 = .ok (.lconst 0, 1) := by decide +kernel
theorem dc_Tape_stepOverWord_2 : decode cd_Tape_stepOverWord 2 = .ok (.putfield 64, 3) := by decide +kernel
theorem dc_Tape_stepOverWord_5 : decode cd_Tape_stepOverWord 5 = .ok (.aload_n 0, 1) := by decide +kernel
theorem dc_Tape_stepOverWord_6 : decode cd_Tape_stepOverWord 6 = .ok (.getfield 28, 3) := by decide +kernel
theorem dc_Tape_stepOverWord_9 : decode cd_Tape_stepOverWord 9 = .ok (.aload_n 0, 1) := by decide +kernel
theorem dc_Tape_stepOverWord_10 : decode cd_Tape_stepOverWord 10 = .ok (.getfield 21, 3) := by decide +kernel
theorem dc_Tape_stepOverWord_13 : decode cd_Tape_stepOverWord 13 = .ok (.if_icmp .ge 57, 3) := by decide +kernel
theorem dc_Tape_stepOverWord_16 : decode cd_Tape_stepOverWord 16 = .ok (.aload_n 0, 1) := by decide +kernel
theorem dc_Tape_stepOverWord_17 : decode cd_Tape_stepOverWord 17 = .ok (.getfield 9, 3) := by decide +kernel
theorem dc_Tape_stepOverWord_20 : decode cd_Tape_stepOverWord 20 = .ok (.aload_n 0, 1) := by decide +kernel
theorem dc_Tape_stepOverWord_21 : decode cd_Tape_stepOverWord 21 = .ok (.getfield 28, 3) := by decide +kernel
theorem dc_Tape_stepOverWord_24 : decode cd_Tape_stepOverWord 24 = .ok (.caload, 1) := by decide +kernel
theorem dc_Tape_stepOverWord_25 : decode cd_Tape_stepOverWord 25 = .ok (.invokestatic 44, 3) := by decide +kernel
theorem dc_Tape_stepOverWord_28 : decode cd_Tape_stepOverWord 28 = .ok (.ifCond .eq 42, 3) := by decide +kernel
theorem dc_Tape_stepOverWord_31 : decode cd_Tape_stepOverWord 31 = .ok (.aload_n 0, 1) := by decide +kernel
theorem dc_Tape_stepOverWord_32 : decode cd_Tape_stepOverWord 32 = .ok (.aload_n 0, 1) := by decide +kernel
theorem dc_Tape_stepOverWord_33 : decode cd_Tape_stepOverWord 33 = .ok (.getfield 64, 3) := by decide +kernel
theorem dc_Tape_stepOverWord_36 : decode cd_Tape_stepOverWord 36 = .ok (.iconst 5, 1) := by decide +kernel
theorem dc_Tape_stepOverWord_37 : decode cd_Tape_stepOverWord 37 = .ok (.lshl, 1) := by decide +kernel
theorem dc_Tape_stepOverWord_38 : decode cd_Tape_stepOverWord 38 = .ok (.aload_n 0, 1) := by decide +kernel
theorem dc_Tape_stepOverWord_39 : decode cd_Tape_stepOverWord 39 = .ok (.getfield 9, 3) := by decide +kernel
theorem dc_Tape_stepOverWord_42 : decode cd_Tape_stepOverWord 42 = .ok (.aload_n 0, 1) := by decide +kernel
theorem dc_Tape_stepOverWord_43 : decode cd_Tape_stepOverWord 43 = .ok (.getfield 28, 3) := by decide +kernel
theorem dc_Tape_stepOverWord_46 : decode cd_Tape_stepOverWord 46 = .ok (.caload, 1) := by decide +kernel
theorem dc_Tape_stepOverWord_47 : decode cd_Tape_stepOverWord 47 = .ok (.bipush 97, 2) := by decide +kernel
theorem dc_Tape_stepOverWord_49 : decode cd_Tape_stepOverWord 49 = .ok (.isub, 1) := by decide +kernel
theorem dc_Tape_stepOverWord_50 : decode cd_Tape_stepOverWord 50 = .ok (.iconst 1, 1) := by decide +kernel
theorem dc_Tape_stepOverWord_51 : decode cd_Tape_stepOverWord 51 = .ok (.iadd, 1) := by decide +kernel
theorem dc_Tape_stepOverWord_52 : decode cd_Tape_stepOverWord 52 = .ok (.i2l, 1) := by decide +kernel
theorem dc_Tape_stepOverWord_53 : decode cd_Tape_stepOverWord 53 = .ok (.lor, 1) := by decide +kernel
theorem dc_Tape_stepOverWord_54 : decode cd_Tape_stepOverWord 54 = .ok (.putfield 64, 3) := by decide +kernel
theorem dc_Tape_stepOverWord_57 : decode cd_Tape_stepOverWord 57 = .ok (.aload_n 0, 1) := by decide +kernel
theorem dc_Tape_stepOverWord_58 : decode cd_Tape_stepOverWord 58 = .ok (.dup, 1) := by decide +kernel
theorem dc_Tape_stepOverWord_59 : decode cd_Tape_stepOverWord 59 = .ok (.getfield 28, 3) := by decide +kernel
theorem dc_Tape_stepOverWord_62 : decode cd_Tape_stepOverWord 62 = .ok (.iconst 1, 1) := by decide +kernel
theorem dc_Tape_stepOverWord_63 : decode cd_Tape_stepOverWord 63 = .ok (.iadd, 1) := by decide +kernel
theorem dc_Tape_stepOverWord_64 : decode cd_Tape_stepOverWord 64 = .ok (.putfield 28, 3) := by decide +kernel
theorem dc_Tape_stepOverWord_67 : decode cd_Tape_stepOverWord 67 = .ok (.goto (-62), 3) := by decide +kernel
theorem dc_Tape_stepOverWord_70 : decode cd_Tape_stepOverWord 70 = .ok (.aload_n 0, 1) := by decide +kernel
theorem dc_Tape_stepOverWord_71 : decode cd_Tape_stepOverWord 71 = .ok (.aload_n 0, 1) := by decide +kernel
theorem dc_Tape_stepOverWord_72 : decode cd_Tape_stepOverWord 72 = .ok (.getfield 28, 3) := by decide +kernel
theorem dc_Tape_stepOverWord_75 : decode cd_Tape_stepOverWord 75 = .ok (.aload_n 0, 1) := by decide +kernel
theorem dc_Tape_stepOverWord_76 : decode cd_Tape_stepOverWord 76 = .ok (.getfield 34, 3) := by decide +kernel
theorem dc_Tape_stepOverWord_79 : decode cd_Tape_stepOverWord 79 = .ok (.isub, 1) := by decide +kernel
theorem dc_Tape_stepOverWord_80 : decode cd_Tape_stepOverWord 80 = .ok (.bipush 8, 2) := by decide +kernel
theorem dc_Tape_stepOverWord_82 : decode cd_Tape_stepOverWord 82 = .ok (.if_icmp .gt 7, 3) := by decide +kernel
theorem dc_Tape_stepOverWord_85 : decode cd_Tape_stepOverWord 85 = .ok (.iconst 2, 1) := by decide +kernel
theorem dc_Tape_stepOverWord_86 : decode cd_Tape_stepOverWord 86 = .ok (.goto 4, 3) := by decide +kernel
theorem dc_Tape_stepOverWord_89 : decode cd_Tape_stepOverWord 89 = .ok (.iconst 0, 1) := by decide +kernel
theorem dc_Tape_stepOverWord_90 : decode cd_Tape_stepOverWord 90 = .ok (.putfield 41, 3) := by decide +kernel
theorem dc_Tape_stepOverWord_93 : decode cd_Tape_stepOverWord 93 = .ok (.iconst 0, 1) := by decide +kernel
theorem dc_Tape_stepOverWord_94 : decode cd_Tape_stepOverWord 94 = .ok (.istore_n 1, 1) := by decide +kernel
theorem dc_Tape_stepOverWord_95 : decode cd_Tape_stepOverWord 95 = .ok (.iload_n 1, 1) := by decide +kernel
theorem dc_Tape_stepOverWord_96 : decode cd_Tape_stepOverWord 96 = .ok (.getstatic 68, 3) := by decide +kernel
theorem dc_Tape_stepOverWord_99 : decode cd_Tape_stepOverWord 99 = .ok (.arraylength, 1) := by decide +kernel
theorem dc_Tape_stepOverWord_100 : decode cd_Tape_stepOverWord 100 = .ok (.if_icmp .ge 42, 3) := by decide +kernel
theorem dc_Tape_stepOverWord_103 : decode cd_Tape_stepOverWord 103 = .ok (.aload_n 0, 1) := by decide +kernel
theorem dc_Tape_stepOverWord_104 : decode cd_Tape_stepOverWord 104 = .ok (.getfield 41, 3) := by decide +kernel
theorem dc_Tape_stepOverWord_107 : decode cd_Tape_stepOverWord 107 = .ok (.iconst 2, 1) := by decide +kernel
theorem dc_Tape_stepOverWord_108 : decode cd_Tape_stepOverWord 108 = .ok (.if_icmp .ne 34, 3) := by decide +kernel
theorem dc_Tape_stepOverWord_111 : decode cd_Tape_stepOverWord 111 = .ok (.getstatic 68, 3) := by decide +kernel
theorem dc_Tape_stepOverWord_114 : decode cd_Tape_stepOverWord 114 = .ok (.iload_n 1, 1) := by decide +kernel
theorem dc_Tape_stepOverWord_115 : decode cd_Tape_stepOverWord 115 = .ok (.aaload, 1) := by decide +kernel
theorem dc_Tape_stepOverWord_116 : decode cd_Tape_stepOverWord 116 = .ok (.getfield 74, 3) := by decide +kernel
theorem dc_Tape_stepOverWord_119 : decode cd_Tape_stepOverWord 119 = .ok (.aload_n 0, 1) := by decide +kernel
theorem dc_Tape_stepOverWord_120 : decode cd_Tape_stepOverWord 120 = .ok (.getfield 64, 3) := by decide +kernel
theorem dc_Tape_stepOverWord_123 : decode cd_Tape_stepOverWord 123 = .ok (.lcmp, 1) := by decide +kernel
theorem dc_Tape_stepOverWord_124 : decode cd_Tape_stepOverWord 124 = .ok (.ifCond .ne 12, 3) := by decide +kernel
theorem dc_Tape_stepOverWord_127 : decode cd_Tape_stepOverWord 127 = .ok (.aload_n 0, 1) := by decide +kernel
theorem dc_Tape_stepOverWord_128 : decode cd_Tape_stepOverWord 128 = .ok (.getstatic 68, 3) := by decide +kernel
theorem dc_Tape_stepOverWord_131 : decode cd_Tape_stepOverWord 131 = .ok (.iload_n 1, 1) := by decide +kernel
theorem dc_Tape_stepOverWord_132 : decode cd_Tape_stepOverWord 132 = .ok (.aaload, 1) := by decide +kernel
theorem dc_Tape_stepOverWord_133 : decode cd_Tape_stepOverWord 133 = .ok (.putfield 37, 3) := by decide +kernel
theorem dc_Tape_stepOverWord_136 : decode cd_Tape_stepOverWord 136 = .ok (.iinc 1 1, 3) := by decide +kernel
theorem dc_Tape_stepOverWord_139 : decode cd_Tape_stepOverWord 139 = .ok (.goto (-44), 3) := by decide +kernel
theorem dc_Tape_stepOverWord_142 : decode cd_Tape_stepOverWord 142 = .ok (.return_, 1) := by decide +kernel
theorem dc_Tape_stepOverNumber_0 : decode cd_Tape_stepOverNumber 0 = .ok (.aload_n 0, 1) := by decide +kernel
theorem dc_Tape_stepOverNumber_1 : decode cd_Tape_stepOverNumber 1 = .ok (.iconst 0, 1) := by decide +kernel
theorem dc_Tape_stepOverNumber_2 : decode cd_Tape_stepOverNumber 2 = .ok (.putfield 77, 3) := by decide +kernel
theorem dc_Tape_stepOverNumber_5 : decode cd_Tape_stepOverNumber 5 = .ok (.aload_n 0, 1) := by decide +kernel
theorem dc_Tape_stepOverNumber_6 : decode cd_Tape_stepOverNumber 6 = .ok (.getfield 28, 3) := by decide +kernel
theorem dc_Tape_stepOverNumber_9 : decode cd_Tape_stepOverNumber 9 = .ok (.aload_n 0, 1) := by decide +kernel
theorem dc_Tape_stepOverNumber_10 : decode cd_Tape_stepOverNumber 10 = .ok (.getfield 21, 3) := by decide +kernel
theorem dc_Tape_stepOverNumber_13 : decode cd_Tape_stepOverNumber 13 = .ok (.if_icmp .ge 55, 3) := by decide +kernel
theorem dc_Tape_stepOverNumber_16 : decode cd_Tape_stepOverNumber 16 = .ok (.aload_n 0, 1) := by decide +kernel
theorem dc_Tape_stepOverNumber_17 : decode cd_Tape_stepOverNumber 17 = .ok (.getfield 9, 3) := by decide +kernel
theorem dc_Tape_stepOverNumber_20 : decode cd_Tape_stepOverNumber 20 = .ok (.aload_n 0, 1) := by decide +kernel
theorem dc_Tape_stepOverNumber_21 : decode cd_Tape_stepOverNumber 21 = .ok (.getfield 28, 3) := by decide +kernel
theorem dc_Tape_stepOverNumber_24 : decode cd_Tape_stepOverNumber 24 = .ok (.caload, 1) := by decide +kernel
theorem dc_Tape_stepOverNumber_25 : decode cd_Tape_stepOverNumber 25 = .ok (.invokestatic 50, 3) := by decide +kernel
theorem dc_Tape_stepOverNumber_28 : decode cd_Tape_stepOverNumber 28 = .ok (.ifCond .eq 40, 3) := by decide +kernel
theorem dc_Tape_stepOverNumber_31 : decode cd_Tape_stepOverNumber 31 = .ok (.aload_n 0, 1) := by decide +kernel
theorem dc_Tape_stepOverNumber_32 : decode cd_Tape_stepOverNumber 32 = .ok (.aload_n 0, 1) := by decide +kernel
theorem dc_Tape_stepOverNumber_33 : decode cd_Tape_stepOverNumber 33 = .ok (.getfield 77, 3) := by decide +kernel
theorem dc_Tape_stepOverNumber_36 : decode cd_Tape_stepOverNumber 36 = .ok (.bipush 10, 2) := by decide +kernel
theorem dc_Tape_stepOverNumber_38 : decode cd_Tape_stepOverNumber 38 = .ok (.imul, 1) := by decide +kernel
theorem dc_Tape_stepOverNumber_39 : decode cd_Tape_stepOverNumber 39 = .ok (.aload_n 0, 1) := by decide +kernel
theorem dc_Tape_stepOverNumber_40 : decode cd_Tape_stepOverNumber 40 = .ok (.getfield 9, 3) := by decide +kernel
theorem dc_Tape_stepOverNumber_43 : decode cd_Tape_stepOverNumber 43 = .ok (.aload_n 0, 1) := by decide +kernel
theorem dc_Tape_stepOverNumber_44 : decode cd_Tape_stepOverNumber 44 = .ok (.getfield 28, 3) := by decide +kernel
theorem dc_Tape_stepOverNumber_47 : decode cd_Tape_stepOverNumber 47 = .ok (.caload, 1) := by decide +kernel
theorem dc_Tape_stepOverNumber_48 : decode cd_Tape_stepOverNumber 48 = .ok (.iadd, 1) := by decide +kernel
theorem dc_Tape_stepOverNumber_49 : decode cd_Tape_stepOverNumber 49 = .ok (.bipush 48, 2) := by decide +kernel
theorem dc_Tape_stepOverNumber_51 : decode cd_Tape_stepOverNumber 51 = .ok (.isub, 1) := by decide +kernel
theorem dc_Tape_stepOverNumber_52 : decode cd_Tape_stepOverNumber 52 = .ok (.putfield 77, 3) := by decide +kernel
theorem dc_Tape_stepOverNumber_55 : decode cd_Tape_stepOverNumber 55 = .ok (.aload_n 0, 1) := by decide +kernel
theorem dc_Tape_stepOverNumber_56 : decode cd_Tape_stepOverNumber 56 = .ok (.dup, 1) := by decide +kernel
theorem dc_Tape_stepOverNumber_57 : decode cd_Tape_stepOverNumber 57 = .ok (.getfield 28, 3) := by decide +kernel
theorem dc_Tape_stepOverNumber_60 : decode cd_Tape_stepOverNumber 60 = .ok (.iconst 1, 1) := by decide +kernel
theorem dc_Tape_stepOverNumber_61 : decode cd_Tape_stepOverNumber 61 = .ok (.iadd, 1) := by decide +kernel
theorem dc_Tape_stepOverNumber_62 : decode cd_Tape_stepOverNumber 62 = .ok (.putfield 28, 3) := by decide +kernel
theorem dc_Tape_stepOverNumber_65 : decode cd_Tape_stepOverNumber 65 = .ok (.goto (-60), 3) := by decide +kernel
theorem dc_Tape_stepOverNumber_68 : decode cd_Tape_stepOverNumber 68 = .ok (.aload_n 0, 1) := by decide +kernel
theorem dc_Tape_stepOverNumber_69 : decode cd_Tape_stepOverNumber 69 = .ok (.aload_n 0, 1) := by decide +kernel
theorem dc_Tape_stepOverNumber_70 : decode cd_Tape_stepOverNumber 70 = .ok (.getfield 28, 3) := by decide +kernel
theorem dc_Tape_stepOverNumber_73 : decode cd_Tape_stepOverNumber 73 = .ok (.aload_n 0, 1) := by decide +kernel
theorem dc_Tape_stepOverNumber_74 : decode cd_Tape_stepOverNumber 74 = .ok (.getfield 34, 3) := by decide +kernel
theorem dc_Tape_stepOverNumber_77 : decode cd_Tape_stepOverNumber 77 = .ok (.isub, 1) := by decide +kernel
theorem dc_Tape_stepOverNumber_78 : decode cd_Tape_stepOverNumber 78 = .ok (.iconst 4, 1) := by decide +kernel
theorem dc_Tape_stepOverNumber_79 : decode cd_Tape_stepOverNumber 79 = .ok (.if_icmp .gt 7, 3) := by decide +kernel
theorem dc_Tape_stepOverNumber_82 : decode cd_Tape_stepOverNumber 82 = .ok (.iconst 3, 1) := by decide +kernel
theorem dc_Tape_stepOverNumber_83 : decode cd_Tape_stepOverNumber 83 = .ok (.goto 4, 3) := by decide +kernel
theorem dc_Tape_stepOverNumber_86 : decode cd_Tape_stepOverNumber 86 = .ok (.iconst 0, 1) := by decide +kernel
theorem dc_Tape_stepOverNumber_87 : decode cd_Tape_stepOverNumber 87 = .ok (.putfield 41, 3) := by decide +kernel
theorem dc_Tape_stepOverNumber_90 : decode cd_Tape_stepOverNumber 90 = .ok (.return_, 1) := by decide +kernel
theorem dc_Tape_isName_0 : decode cd_Tape_isName 0 = .ok (.aload_n 0, 1) := by decide +kernel
theorem dc_Tape_isName_1 : decode cd_Tape_isName 1 = .ok (.getfield 41, 3) := by decide +kernel
theorem dc_Tape_isName_4 : decode cd_Tape_isName 4 = .ok (.iconst 2, 1) := by decide +kernel
theorem dc_Tape_isName_5 : decode cd_Tape_isName 5 = .ok (.if_icmp .ne 24, 3) := by decide +kernel
theorem dc_Tape_isName_8 : decode cd_Tape_isName 8 = .ok (.aload_n 0, 1) := by decide +kernel
theorem dc_Tape_isName_9 : decode cd_Tape_isName 9 = .ok (.getfield 37, 3) := by decide +kernel
theorem dc_Tape_isName_12 : decode cd_Tape_isName 12 = .ok (.ifnull 13, 3) := by decide +kernel
theorem dc_Tape_isName_15 : decode cd_Tape_isName 15 = .ok (.aload_n 0, 1) := by decide +kernel
theorem dc_Tape_isName_16 : decode cd_Tape_isName 16 = .ok (.getfield 37, 3) := by decide +kernel
theorem dc_Tape_isName_19 : decode cd_Tape_isName 19 = .ok (.invokevirtual 80, 3) := by decide +kernel
theorem dc_Tape_isName_22 : decode cd_Tape_isName 22 = .ok (.ifCond .eq 7, 3) := by decide +kernel
theorem dc_Tape_isName_25 : decode cd_Tape_isName 25 = .ok (.iconst 1, 1) := by decide +kernel
theorem dc_Tape_isName_26 : decode cd_Tape_isName 26 = .ok (.goto 4, 3) := by decide +kernel
theorem dc_Tape_isName_29 : decode cd_Tape_isName 29 = .ok (.iconst 0, 1) := by decide +kernel
theorem dc_Tape_isName_30 : decode cd_Tape_isName 30 = .ok (.ireturn, 1) := by decide +kernel
theorem dc_Walk_longestStay_0 : decode cd_Walk_longestStay 0 = .ok (.aload_n 0, 1) := by decide +kernel
theorem dc_Walk_longestStay_1 : decode cd_Walk_longestStay 1 = .ok (.getfield 103, 3) := by decide +kernel
theorem dc_Walk_longestStay_4 : decode cd_Walk_longestStay 4 = .ok (.iload_n 1, 1) := by decide +kernel
theorem dc_Walk_longestStay_5 : decode cd_Walk_longestStay 5 = .ok (.iaload, 1) := by decide +kernel
theorem dc_Walk_longestStay_6 : decode cd_Walk_longestStay 6 = .ok (.iconst (-1), 1) := by decide +kernel
theorem dc_Walk_longestStay_7 : decode cd_Walk_longestStay 7 = .ok (.if_icmp .ne 10, 3) := by decide +kernel
theorem dc_Walk_longestStay_10 : decode cd_Walk_longestStay 10 = .ok (.aload_n 0, 1) := by decide +kernel
theorem dc_Walk_longestStay_11 : decode cd_Walk_longestStay 11 = .ok (.invokevirtual 106, 3) := by decide +kernel
theorem dc_Walk_longestStay_14 : decode cd_Walk_longestStay 14 = .ok (.goto 16, 3) := by decide +kernel
theorem dc_Walk_longestStay_17 : decode cd_Walk_longestStay 17 = .ok (.aload_n 0, 1) := by decide +kernel
theorem dc_Walk_longestStay_18 : decode cd_Walk_longestStay 18 = .ok (.invokevirtual 106, 3) := by decide +kernel
theorem dc_Walk_longestStay_21 : decode cd_Walk_longestStay 21 = .ok (.aload_n 0, 1) := by decide +kernel
theorem dc_Walk_longestStay_22 : decode cd_Walk_longestStay 22 = .ok (.getfield 109, 3) := by decide +kernel
theorem dc_Walk_longestStay_25 : decode cd_Walk_longestStay 25 = .ok (.iload_n 1, 1) := by decide +kernel
theorem dc_Walk_longestStay_26 : decode cd_Walk_longestStay 26 = .ok (.iaload, 1) := by decide +kernel
theorem dc_Walk_longestStay_27 : decode cd_Walk_longestStay 27 = .ok (.invokestatic 112, 3) := by decide +kernel
theorem dc_Walk_longestStay_30 : decode cd_Walk_longestStay 30 = .ok (.ireturn, 1) := by decide +kernel
theorem dc_Walk_greetAll_0 : decode cd_Walk_greetAll 0 = .ok (.iconst 0, 1) := by decide +kernel
theorem dc_Walk_greetAll_1 : decode cd_Walk_greetAll 1 = .ok (.istore_n 2, 1) := by decide +kernel
theorem dc_Walk_greetAll_2 : decode cd_Walk_greetAll 2 = .ok (.iload_n 2, 1) := by decide +kernel
theorem dc_Walk_greetAll_3 : decode cd_Walk_greetAll 3 = .ok (.aload_n 0, 1) := by decide +kernel
theorem dc_Walk_greetAll_4 : decode cd_Walk_greetAll 4 = .ok (.getfield 27, 3) := by decide +kernel
theorem dc_Walk_greetAll_7 : decode cd_Walk_greetAll 7 = .ok (.getfield 39, 3) := by decide +kernel
theorem dc_Walk_greetAll_10 : decode cd_Walk_greetAll 10 = .ok (.if_icmp .ge 130, 3) := by decide +kernel
theorem dc_Walk_greetAll_13 : decode cd_Walk_greetAll 13 = .ok (.aload_n 0, 1) := by decide +kernel
theorem dc_Walk_greetAll_14 : decode cd_Walk_greetAll 14 = .ok (.iload_n 2, 1) := by decide +kernel
theorem dc_Walk_greetAll_15 : decode cd_Walk_greetAll 15 = .ok (.invokevirtual 83, 3) := by decide +kernel
theorem dc_Walk_greetAll_18 : decode cd_Walk_greetAll 18 = .ok (.ifCond .eq 116, 3) := by decide +kernel
theorem dc_Walk_greetAll_21 : decode cd_Walk_greetAll 21 = .ok (.aload_n 0, 1) := by decide +kernel
theorem dc_Walk_greetAll_22 : decode cd_Walk_greetAll 22 = .ok (.getfield 24, 3) := by decide +kernel
theorem dc_Walk_greetAll_25 : decode cd_Walk_greetAll 25 = .ok (.iload_n 2, 1) := by decide +kernel
theorem dc_Walk_greetAll_26 : decode cd_Walk_greetAll 26 = .ok (.iaload, 1) := by decide +kernel
theorem dc_Walk_greetAll_27 : decode cd_Walk_greetAll 27 = .ok (.ldc 62, 2) := by decide +kernel
theorem dc_Walk_greetAll_29 : decode cd_Walk_greetAll 29 = .ok (.if_icmp .eq 105, 3) := by decide +kernel
theorem dc_Walk_greetAll_32 : decode cd_Walk_greetAll 32 = .ok (.aload_n 0, 1) := by decide +kernel
theorem dc_Walk_greetAll_33 : decode cd_Walk_greetAll 33 = .ok (.getfield 27, 3) := by decide +kernel
theorem dc_Walk_greetAll_36 : decode cd_Walk_greetAll 36 = .ok (.getfield 50, 3) := by decide +kernel
theorem dc_Walk_greetAll_39 : decode cd_Walk_greetAll 39 = .ok (.iload_n 2, 1) := by decide +kernel
theorem dc_Walk_greetAll_40 : decode cd_Walk_greetAll 40 = .ok (.aaload, 1) := by decide +kernel
theorem dc_Walk_greetAll_41 : decode cd_Walk_greetAll 41 = .ok (.astore_n 3, 1) := by decide +kernel
theorem dc_Walk_greetAll_42 : decode cd_Walk_greetAll 42 = .ok (.aload_n 0, 1) := by decide +kernel
theorem dc_Walk_greetAll_43 : decode cd_Walk_greetAll 43 = .ok (.iload_n 2, 1) := by decide +kernel
theorem dc_Walk_greetAll_44 : decode cd_Walk_greetAll 44 = .ok (.invokevirtual 115, 3) := by decide +kernel
theorem dc_Walk_greetAll_47 : decode cd_Walk_greetAll 47 = .ok (.istore 4, 2) := by decide +kernel
theorem dc_Walk_greetAll_49 : decode cd_Walk_greetAll 49 = .ok (.aload_n 3, 1) := by decide +kernel
theorem dc_Walk_greetAll_50 : decode cd_Walk_greetAll 50 = .ok (.getfield 103, 3) := by decide +kernel
theorem dc_Walk_greetAll_53 : decode cd_Walk_greetAll 53 = .ok (.aload_n 0, 1) := by decide +kernel
theorem dc_Walk_greetAll_54 : decode cd_Walk_greetAll 54 = .ok (.getfield 15, 3) := by decide +kernel
theorem dc_Walk_greetAll_57 : decode cd_Walk_greetAll 57 = .ok (.iload 4, 2) := by decide +kernel
theorem dc_Walk_greetAll_59 : decode cd_Walk_greetAll 59 = .ok (.iaload, 1) := by decide +kernel
theorem dc_Walk_greetAll_60 : decode cd_Walk_greetAll 60 = .ok (.iaload, 1) := by decide +kernel
theorem dc_Walk_greetAll_61 : decode cd_Walk_greetAll 61 = .ok (.istore 5, 2) := by decide +kernel
theorem dc_Walk_greetAll_63 : decode cd_Walk_greetAll 63 = .ok (.iload 5, 2) := by decide +kernel
theorem dc_Walk_greetAll_65 : decode cd_Walk_greetAll 65 = .ok (.iconst (-1), 1) := by decide +kernel
theorem dc_Walk_greetAll_66 : decode cd_Walk_greetAll 66 = .ok (.if_icmp .eq 68, 3) := by decide +kernel
theorem dc_Walk_greetAll_69 : decode cd_Walk_greetAll 69 = .ok (.aload_n 0, 1) := by decide +kernel
theorem dc_Walk_greetAll_70 : decode cd_Walk_greetAll 70 = .ok (.iload 5, 2) := by decide +kernel
theorem dc_Walk_greetAll_72 : decode cd_Walk_greetAll 72 = .ok (.invokevirtual 83, 3) := by decide +kernel
theorem dc_Walk_greetAll_75 : decode cd_Walk_greetAll 75 = .ok (.ifCond .eq 59, 3) := by decide +kernel
theorem dc_Walk_greetAll_78 : decode cd_Walk_greetAll 78 = .ok (.aload_n 0, 1) := by decide +kernel
theorem dc_Walk_greetAll_79 : decode cd_Walk_greetAll 79 = .ok (.getfield 15, 3) := by decide +kernel
theorem dc_Walk_greetAll_82 : decode cd_Walk_greetAll 82 = .ok (.aload_n 0, 1) := by decide +kernel
theorem dc_Walk_greetAll_83 : decode cd_Walk_greetAll 83 = .ok (.iload 5, 2) := by decide +kernel
theorem dc_Walk_greetAll_85 : decode cd_Walk_greetAll 85 = .ok (.invokevirtual 115, 3) := by decide +kernel
theorem dc_Walk_greetAll_88 : decode cd_Walk_greetAll 88 = .ok (.iaload, 1) := by decide +kernel
theorem dc_Walk_greetAll_89 : decode cd_Walk_greetAll 89 = .ok (.aload_n 0, 1) := by decide +kernel
theorem dc_Walk_greetAll_90 : decode cd_Walk_greetAll 90 = .ok (.getfield 15, 3) := by decide +kernel
theorem dc_Walk_greetAll_93 : decode cd_Walk_greetAll 93 = .ok (.iload 4, 2) := by decide +kernel
theorem dc_Walk_greetAll_95 : decode cd_Walk_greetAll 95 = .ok (.iaload, 1) := by decide +kernel
theorem dc_Walk_greetAll_96 : decode cd_Walk_greetAll 96 = .ok (.if_icmp .ne 38, 3) := by decide +kernel
theorem dc_Walk_greetAll_99 : decode cd_Walk_greetAll 99 = .ok (.iload_n 1, 1) := by decide +kernel
theorem dc_Walk_greetAll_100 : decode cd_Walk_greetAll 100 = .ok (.aload_n 0, 1) := by decide +kernel
theorem dc_Walk_greetAll_101 : decode cd_Walk_greetAll 101 = .ok (.getfield 18, 3) := by decide +kernel
theorem dc_Walk_greetAll_104 : decode cd_Walk_greetAll 104 = .ok (.iload 4, 2) := by decide +kernel
theorem dc_Walk_greetAll_106 : decode cd_Walk_greetAll 106 = .ok (.iaload, 1) := by decide +kernel
theorem dc_Walk_greetAll_107 : decode cd_Walk_greetAll 107 = .ok (.aload_n 3, 1) := by decide +kernel
theorem dc_Walk_greetAll_108 : decode cd_Walk_greetAll 108 = .ok (.invokevirtual 106, 3) := by decide +kernel
theorem dc_Walk_greetAll_111 : decode cd_Walk_greetAll 111 = .ok (.iadd, 1) := by decide +kernel
theorem dc_Walk_greetAll_112 : decode cd_Walk_greetAll 112 = .ok (.invokestatic 112, 3) := by decide +kernel
theorem dc_Walk_greetAll_115 : decode cd_Walk_greetAll 115 = .ok (.istore 6, 2) := by decide +kernel
theorem dc_Walk_greetAll_117 : decode cd_Walk_greetAll 117 = .ok (.aload_n 0, 1) := by decide +kernel
theorem dc_Walk_greetAll_118 : decode cd_Walk_greetAll 118 = .ok (.getfield 24, 3) := by decide +kernel
theorem dc_Walk_greetAll_121 : decode cd_Walk_greetAll 121 = .ok (.iload_n 2, 1) := by decide +kernel
theorem dc_Walk_greetAll_122 : decode cd_Walk_greetAll 122 = .ok (.aload_n 0, 1) := by decide +kernel
theorem dc_Walk_greetAll_123 : decode cd_Walk_greetAll 123 = .ok (.getfield 24, 3) := by decide +kernel
theorem dc_Walk_greetAll_126 : decode cd_Walk_greetAll 126 = .ok (.iload_n 2, 1) := by decide +kernel
theorem dc_Walk_greetAll_127 : decode cd_Walk_greetAll 127 = .ok (.iaload, 1) := by decide +kernel
theorem dc_Walk_greetAll_128 : decode cd_Walk_greetAll 128 = .ok (.iload 6, 2) := by decide +kernel
theorem dc_Walk_greetAll_130 : decode cd_Walk_greetAll 130 = .ok (.invokestatic 77, 3) := by decide +kernel
theorem dc_Walk_greetAll_133 : decode cd_Walk_greetAll 133 = .ok (.iastore, 1) := by decide +kernel
theorem dc_Walk_greetAll_134 : decode cd_Walk_greetAll 134 = .ok (.iinc 2 1, 3) := by decide +kernel
theorem dc_Walk_greetAll_137 : decode cd_Walk_greetAll 137 = .ok (.goto (-135), 3) := by decide +kernel
theorem dc_Walk_greetAll_140 : decode cd_Walk_greetAll 140 = .ok (.return_, 1) := by decide +kernel
theorem dc_Walk_leaveAll_0 : decode cd_Walk_leaveAll 0 = .ok (.iconst 0, 1) := by decide +kernel
theorem dc_Walk_leaveAll_1 : decode cd_Walk_leaveAll 1 = .ok (.istore_n 2, 1) := by decide +kernel
theorem dc_Walk_leaveAll_2 : decode cd_Walk_leaveAll 2 = .ok (.iload_n 2, 1) := by decide +kernel
theorem dc_Walk_leaveAll_3 : decode cd_Walk_leaveAll 3 = .ok (.aload_n 0, 1) := by decide +kernel
theorem dc_Walk_leaveAll_4 : decode cd_Walk_leaveAll 4 = .ok (.getfield 27, 3) := by decide +kernel
theorem dc_Walk_leaveAll_7 : decode cd_Walk_leaveAll 7 = .ok (.getfield 39, 3) := by decide +kernel
theorem dc_Walk_leaveAll_10 : decode cd_Walk_leaveAll 10 = .ok (.if_icmp .ge 84, 3) := by decide +kernel
theorem dc_Walk_leaveAll_13 : decode cd_Walk_leaveAll 13 = .ok (.aload_n 0, 1) := by decide +kernel
theorem dc_Walk_leaveAll_14 : decode cd_Walk_leaveAll 14 = .ok (.iload_n 2, 1) := by decide +kernel
theorem dc_Walk_leaveAll_15 : decode cd_Walk_leaveAll 15 = .ok (.invokevirtual 83, 3) := by decide +kernel
theorem dc_Walk_leaveAll_18 : decode cd_Walk_leaveAll 18 = .ok (.ifCond .eq 70, 3) := by decide +kernel
theorem dc_Walk_leaveAll_21 : decode cd_Walk_leaveAll 21 = .ok (.aload_n 0, 1) := by decide +kernel
theorem dc_Walk_leaveAll_22 : decode cd_Walk_leaveAll 22 = .ok (.getfield 24, 3) := by decide +kernel
theorem dc_Walk_leaveAll_25 : decode cd_Walk_leaveAll 25 = .ok (.iload_n 2, 1) := by decide +kernel
theorem dc_Walk_leaveAll_26 : decode cd_Walk_leaveAll 26 = .ok (.iaload, 1) := by decide +kernel
theorem dc_Walk_leaveAll_27 : decode cd_Walk_leaveAll 27 = .ok (.iload_n 1, 1) := by decide +kernel
theorem dc_Walk_leaveAll_28 : decode cd_Walk_leaveAll 28 = .ok (.if_icmp .ne 60, 3) := by decide +kernel
theorem dc_Walk_leaveAll_31 : decode cd_Walk_leaveAll 31 = .ok (.aload_n 0, 1) := by decide +kernel
theorem dc_Walk_leaveAll_32 : decode cd_Walk_leaveAll 32 = .ok (.getfield 21, 3) := by decide +kernel
theorem dc_Walk_leaveAll_35 : decode cd_Walk_leaveAll 35 = .ok (.aload_n 0, 1) := by decide +kernel
theorem dc_Walk_leaveAll_36 : decode cd_Walk_leaveAll 36 = .ok (.iload_n 2, 1) := by decide +kernel
theorem dc_Walk_leaveAll_37 : decode cd_Walk_leaveAll 37 = .ok (.invokevirtual 115, 3) := by decide +kernel
theorem dc_Walk_leaveAll_40 : decode cd_Walk_leaveAll 40 = .ok (.iload_n 1, 1) := by decide +kernel
theorem dc_Walk_leaveAll_41 : decode cd_Walk_leaveAll 41 = .ok (.iastore, 1) := by decide +kernel
theorem dc_Walk_leaveAll_42 : decode cd_Walk_leaveAll 42 = .ok (.aload_n 0, 1) := by decide +kernel
theorem dc_Walk_leaveAll_43 : decode cd_Walk_leaveAll 43 = .ok (.dup, 1) := by decide +kernel
theorem dc_Walk_leaveAll_44 : decode cd_Walk_leaveAll 44 = .ok (.getfield 35, 3) := by decide +kernel
theorem dc_Walk_leaveAll_47 : decode cd_Walk_leaveAll 47 = .ok (.iconst 1, 1) := by decide +kernel
theorem dc_Walk_leaveAll_48 : decode cd_Walk_leaveAll 48 = .ok (.iload_n 2, 1) := by decide +kernel
theorem dc_Walk_leaveAll_49 : decode cd_Walk_leaveAll 49 = .ok (.ishl, 1) := by decide +kernel
theorem dc_Walk_leaveAll_50 : decode cd_Walk_leaveAll 50 = .ok (.iconst (-1), 1) := by decide +kernel
theorem dc_Walk_leaveAll_51 : decode cd_Walk_leaveAll 51 = .ok (.ixor, 1) := by decide +kernel
theorem dc_Walk_leaveAll_52 : decode cd_Walk_leaveAll 52 = .ok (.iand, 1) := by decide +kernel
theorem dc_Walk_leaveAll_53 : decode cd_Walk_leaveAll 53 = .ok (.putfield 35, 3) := by decide +kernel
theorem dc_Walk_leaveAll_56 : decode cd_Walk_leaveAll 56 = .ok (.aload_n 0, 1) := by decide +kernel
theorem dc_Walk_leaveAll_57 : decode cd_Walk_leaveAll 57 = .ok (.getfield 24, 3) := by decide +kernel
theorem dc_Walk_leaveAll_60 : decode cd_Walk_leaveAll 60 = .ok (.iload_n 2, 1) := by decide +kernel
theorem dc_Walk_leaveAll_61 : decode cd_Walk_leaveAll 61 = .ok (.iload_n 1, 1) := by decide +kernel
theorem dc_Walk_leaveAll_62 : decode cd_Walk_leaveAll 62 = .ok (.aload_n 0, 1) := by decide +kernel
theorem dc_Walk_leaveAll_63 : decode cd_Walk_leaveAll 63 = .ok (.getfield 27, 3) := by decide +kernel
theorem dc_Walk_leaveAll_66 : decode cd_Walk_leaveAll 66 = .ok (.getfield 50, 3) := by decide +kernel
theorem dc_Walk_leaveAll_69 : decode cd_Walk_leaveAll 69 = .ok (.iload_n 2, 1) := by decide +kernel
theorem dc_Walk_leaveAll_70 : decode cd_Walk_leaveAll 70 = .ok (.aaload, 1) := by decide +kernel
theorem dc_Walk_leaveAll_71 : decode cd_Walk_leaveAll 71 = .ok (.aload_n 0, 1) := by decide +kernel
theorem dc_Walk_leaveAll_72 : decode cd_Walk_leaveAll 72 = .ok (.iload_n 2, 1) := by decide +kernel
theorem dc_Walk_leaveAll_73 : decode cd_Walk_leaveAll 73 = .ok (.invokevirtual 89, 3) := by decide +kernel
theorem dc_Walk_leaveAll_76 : decode cd_Walk_leaveAll 76 = .ok (.aload_n 0, 1) := by decide +kernel
theorem dc_Walk_leaveAll_77 : decode cd_Walk_leaveAll 77 = .ok (.getfield 31, 3) := by decide +kernel
theorem dc_Walk_leaveAll_80 : decode cd_Walk_leaveAll 80 = .ok (.getfield 118, 3) := by decide +kernel
theorem dc_Walk_leaveAll_83 : decode cd_Walk_leaveAll 83 = .ok (.invokevirtual 122, 3) := by decide +kernel
theorem dc_Walk_leaveAll_86 : decode cd_Walk_leaveAll 86 = .ok (.iadd, 1) := by decide +kernel
theorem dc_Walk_leaveAll_87 : decode cd_Walk_leaveAll 87 = .ok (.iastore, 1) := by decide +kernel
theorem dc_Walk_leaveAll_88 : decode cd_Walk_leaveAll 88 = .ok (.iinc 2 1, 3) := by decide +kernel
theorem dc_Walk_leaveAll_91 : decode cd_Walk_leaveAll 91 = .ok (.goto (-89), 3) := by decide +kernel
theorem dc_Walk_leaveAll_94 : decode cd_Walk_leaveAll 94 = .ok (.return_, 1) := by decide +kernel
theorem dc_Walk_firstMeeting_0 : decode cd_Walk_firstMeeting 0 = .ok (.iconst (-1), 1) := by decide +kernel
theorem dc_Walk_firstMeeting_1 : decode cd_Walk_firstMeeting 1 = .ok (.istore_n 3, 1) := by decide +kernel
theorem dc_Walk_firstMeeting_2 : decode cd_Walk_firstMeeting 2 = .ok (.iconst 0, 1) := by decide +kernel
theorem dc_Walk_firstMeeting_3 : decode cd_Walk_firstMeeting 3 = .ok (.istore 4, 2) := by decide +kernel
theorem dc_Walk_firstMeeting_5 : decode cd_Walk_firstMeeting 5 = .ok (.iload 4, 2) := by decide +kernel
theorem dc_Walk_firstMeeting_7 : decode cd_Walk_firstMeeting 7 = .ok (.aload_n 0, 1) := by decide +kernel
theorem dc_Walk_firstMeeting_8 : decode cd_Walk_firstMeeting 8 = .ok (.getfield 27, 3) := by decide +kernel
theorem dc_Walk_firstMeeting_11 : decode cd_Walk_firstMeeting 11 = .ok (.getfield 126, 3) := by decide +kernel
theorem dc_Walk_firstMeeting_14 : decode cd_Walk_firstMeeting 14 = .ok (.if_icmp .ge 39, 3) := by decide +kernel
theorem dc_Walk_firstMeeting_17 : decode cd_Walk_firstMeeting 17 = .ok (.aload_n 0, 1) := by decide +kernel
theorem dc_Walk_firstMeeting_18 : decode cd_Walk_firstMeeting 18 = .ok (.iload_n 1, 1) := by decide +kernel
theorem dc_Walk_firstMeeting_19 : decode cd_Walk_firstMeeting 19 = .ok (.iload_n 2, 1) := by decide +kernel
theorem dc_Walk_firstMeeting_20 : decode cd_Walk_firstMeeting 20 = .ok (.iload 4, 2) := by decide +kernel
theorem dc_Walk_firstMeeting_22 : decode cd_Walk_firstMeeting 22 = .ok (.invokevirtual 129, 3) := by decide +kernel
theorem dc_Walk_firstMeeting_25 : decode cd_Walk_firstMeeting 25 = .ok (.istore 5, 2) := by decide +kernel
theorem dc_Walk_firstMeeting_27 : decode cd_Walk_firstMeeting 27 = .ok (.iload 5, 2) := by decide +kernel
theorem dc_Walk_firstMeeting_29 : decode cd_Walk_firstMeeting 29 = .ok (.iconst (-1), 1) := by decide +kernel
theorem dc_Walk_firstMeeting_30 : decode cd_Walk_firstMeeting 30 = .ok (.if_icmp .eq 17, 3) := by decide +kernel
theorem dc_Walk_firstMeeting_33 : decode cd_Walk_firstMeeting 33 = .ok (.iload_n 3, 1) := by decide +kernel
theorem dc_Walk_firstMeeting_34 : decode cd_Walk_firstMeeting 34 = .ok (.iconst (-1), 1) := by decide +kernel
theorem dc_Walk_firstMeeting_35 : decode cd_Walk_firstMeeting 35 = .ok (.if_icmp .eq 9, 3) := by decide +kernel
theorem dc_Walk_firstMeeting_38 : decode cd_Walk_firstMeeting 38 = .ok (.iload 5, 2) := by decide +kernel
theorem dc_Walk_firstMeeting_40 : decode cd_Walk_firstMeeting 40 = .ok (.iload_n 3, 1) := by decide +kernel
theorem dc_Walk_firstMeeting_41 : decode cd_Walk_firstMeeting 41 = .ok (.if_icmp .ge 6, 3) := by decide +kernel
theorem dc_Walk_firstMeeting_44 : decode cd_Walk_firstMeeting 44 = .ok (.iload 5, 2) := by decide +kernel
theorem dc_Walk_firstMeeting_46 : decode cd_Walk_firstMeeting 46 = .ok (.istore_n 3, 1) := by decide +kernel
theorem dc_Walk_firstMeeting_47 : decode cd_Walk_firstMeeting 47 = .ok (.iinc 4 1, 3) := by decide +kernel
theorem dc_Walk_firstMeeting_50 : decode cd_Walk_firstMeeting 50 = .ok (.goto (-45), 3) := by decide +kernel
theorem dc_Walk_firstMeeting_53 : decode cd_Walk_firstMeeting 53 = .ok (.iload_n 3, 1) := by decide +kernel
theorem dc_Walk_firstMeeting_54 : decode cd_Walk_firstMeeting 54 = .ok (.ireturn, 1) := by decide +kernel
theorem dc_Walk_minuteOf_0 : decode cd_Walk_minuteOf 0 = .ok (.aload_n 0, 1) := by decide +kernel
theorem dc_Walk_minuteOf_1 : decode cd_Walk_minuteOf 1 = .ok (.aload_n 0, 1) := by decide +kernel
theorem dc_Walk_minuteOf_2 : decode cd_Walk_minuteOf 2 = .ok (.getfield 31, 3) := by decide +kernel
theorem dc_Walk_minuteOf_5 : decode cd_Walk_minuteOf 5 = .ok (.getfield 133, 3) := by decide +kernel
theorem dc_Walk_minuteOf_8 : decode cd_Walk_minuteOf 8 = .ok (.iload_n 1, 1) := by decide +kernel
theorem dc_Walk_minuteOf_9 : decode cd_Walk_minuteOf 9 = .ok (.iaload, 1) := by decide +kernel
theorem dc_Walk_minuteOf_10 : decode cd_Walk_minuteOf 10 = .ok (.aload_n 0, 1) := by decide +kernel
theorem dc_Walk_minuteOf_11 : decode cd_Walk_minuteOf 11 = .ok (.getfield 27, 3) := by decide +kernel
theorem dc_Walk_minuteOf_14 : decode cd_Walk_minuteOf 14 = .ok (.getfield 136, 3) := by decide +kernel
theorem dc_Walk_minuteOf_17 : decode cd_Walk_minuteOf 17 = .ok (.iload_n 1, 1) := by decide +kernel
theorem dc_Walk_minuteOf_18 : decode cd_Walk_minuteOf 18 = .ok (.iaload, 1) := by decide +kernel
theorem dc_Walk_minuteOf_19 : decode cd_Walk_minuteOf 19 = .ok (.invokevirtual 139, 3) := by decide +kernel
theorem dc_Walk_minuteOf_22 : decode cd_Walk_minuteOf 22 = .ok (.ireturn, 1) := by decide +kernel
theorem dc_Walk_offBy_0 : decode cd_Walk_offBy 0 = .ok (.aload_n 0, 1) := by decide +kernel
theorem dc_Walk_offBy_1 : decode cd_Walk_offBy 1 = .ok (.iload_n 2, 1) := by decide +kernel
theorem dc_Walk_offBy_2 : decode cd_Walk_offBy 2 = .ok (.aload_n 0, 1) := by decide +kernel
theorem dc_Walk_offBy_3 : decode cd_Walk_offBy 3 = .ok (.getfield 27, 3) := by decide +kernel
theorem dc_Walk_offBy_6 : decode cd_Walk_offBy 6 = .ok (.getfield 136, 3) := by decide +kernel
theorem dc_Walk_offBy_9 : decode cd_Walk_offBy 9 = .ok (.iload_n 1, 1) := by decide +kernel
theorem dc_Walk_offBy_10 : decode cd_Walk_offBy 10 = .ok (.iaload, 1) := by decide +kernel
theorem dc_Walk_offBy_11 : decode cd_Walk_offBy 11 = .ok (.invokevirtual 139, 3) := by decide +kernel
theorem dc_Walk_offBy_14 : decode cd_Walk_offBy 14 = .ok (.istore_n 3, 1) := by decide +kernel
theorem dc_Walk_offBy_15 : decode cd_Walk_offBy 15 = .ok (.iload_n 3, 1) := by decide +kernel
theorem dc_Walk_offBy_16 : decode cd_Walk_offBy 16 = .ok (.iconst (-1), 1) := by decide +kernel
theorem dc_Walk_offBy_17 : decode cd_Walk_offBy 17 = .ok (.if_icmp .ne 9, 3) := by decide +kernel
theorem dc_Walk_offBy_20 : decode cd_Walk_offBy 20 = .ok (.sipush 240, 3) := by decide +kernel
theorem dc_Walk_offBy_23 : decode cd_Walk_offBy 23 = .ok (.goto 17, 3) := by decide +kernel
theorem dc_Walk_offBy_26 : decode cd_Walk_offBy 26 = .ok (.iload_n 3, 1) := by decide +kernel
theorem dc_Walk_offBy_27 : decode cd_Walk_offBy 27 = .ok (.aload_n 0, 1) := by decide +kernel
theorem dc_Walk_offBy_28 : decode cd_Walk_offBy 28 = .ok (.getfield 27, 3) := by decide +kernel
theorem dc_Walk_offBy_31 : decode cd_Walk_offBy 31 = .ok (.getfield 145, 3) := by decide +kernel
theorem dc_Walk_offBy_34 : decode cd_Walk_offBy 34 = .ok (.iload_n 1, 1) := by decide +kernel
theorem dc_Walk_offBy_35 : decode cd_Walk_offBy 35 = .ok (.iaload, 1) := by decide +kernel
theorem dc_Walk_offBy_36 : decode cd_Walk_offBy 36 = .ok (.isub, 1) := by decide +kernel
theorem dc_Walk_offBy_37 : decode cd_Walk_offBy 37 = .ok (.invokestatic 148, 3) := by decide +kernel
theorem dc_Walk_offBy_40 : decode cd_Walk_offBy 40 = .ok (.ireturn, 1) := by decide +kernel
theorem dc_Walker_begin_0 : decode cd_Walker_begin 0 = .ok (.aload_n 0, 1) := by decide +kernel
theorem dc_Walker_begin_1 : decode cd_Walker_begin 1 = .ok (.iconst 0, 1) := by decide +kernel
theorem dc_Walker_begin_2 : decode cd_Walker_begin 2 = .ok (.putfield 21, 3) := by decide +kernel
theorem dc_Walker_begin_5 : decode cd_Walker_begin 5 = .ok (.aload_n 0, 1) := by decide +kernel
theorem dc_Walker_begin_6 : decode cd_Walker_begin 6 = .ok (.getfield 15, 3) := by decide +kernel
theorem dc_Walker_begin_9 : decode cd_Walker_begin 9 = .ok (.iconst (-1), 1) := by decide +kernel
theorem dc_Walker_begin_10 : decode cd_Walker_begin 10 = .ok (.invokestatic 25, 3) := by decide +kernel
theorem dc_Walker_begin_13 : decode cd_Walker_begin 13 = .ok (.return_, 1) := by decide +kernel
theorem dc_String_length_0 : decode cd_String_length 0 = .ok (.aload_n 0, 1) := by decide +kernel
theorem dc_String_length_1 : decode cd_String_length 1 = .ok (.getfield 9, 3) := by decide +kernel
theorem dc_String_length_4 : decode cd_String_length 4 = .ok (.arraylength, 1) := by decide +kernel
theorem dc_String_length_5 : decode cd_String_length 5 = .ok (.aload_n 0, 1) := by decide +kernel
theorem dc_String_length_6 : decode cd_String_length 6 = .ok (.invokevirtual 335, 3) := by decide +kernel
theorem dc_String_length_9 : decode cd_String_length 9 = .ok (.ishr, 1) := by decide +kernel
theorem dc_String_length_10 : decode cd_String_length 10 = .ok (.ireturn, 1) := by decide +kernel
theorem dc_StringLatin1_indexOf_0 : decode cd_StringLatin1_indexOf 0 = .ok (.iload_n 1, 1) := by decide +kernel
theorem dc_StringLatin1_indexOf_1 : decode cd_StringLatin1_indexOf 1 = .ok (.invokestatic 88, 3) := by decide +kernel
theorem dc_StringLatin1_indexOf_4 : decode cd_StringLatin1_indexOf 4 = .ok (.ifCond .ne 5, 3) := by decide +kernel
theorem dc_StringLatin1_indexOf_7 : decode cd_StringLatin1_indexOf 7 = .ok (.iconst (-1), 1) := by decide +kernel
theorem dc_StringLatin1_indexOf_8 : decode cd_StringLatin1_indexOf 8 = .ok (.ireturn, 1) := by decide +kernel
theorem dc_StringLatin1_indexOf_9 : decode cd_StringLatin1_indexOf 9 = .ok (.iload_n 2, 1) := by decide +kernel
theorem dc_StringLatin1_indexOf_10 : decode cd_StringLatin1_indexOf 10 = .ok (.iconst 0, 1) := by decide +kernel
theorem dc_StringLatin1_indexOf_11 : decode cd_StringLatin1_indexOf 11 = .ok (.invokestatic 92, 3) := by decide +kernel
theorem dc_StringLatin1_indexOf_14 : decode cd_StringLatin1_indexOf 14 = .ok (.istore_n 2, 1) := by decide +kernel
theorem dc_StringLatin1_indexOf_15 : decode cd_StringLatin1_indexOf 15 = .ok (.iload_n 3, 1) := by decide +kernel
theorem dc_StringLatin1_indexOf_16 : decode cd_StringLatin1_indexOf 16 = .ok (.aload_n 0, 1) := by decide +kernel
theorem dc_StringLatin1_indexOf_17 : decode cd_StringLatin1_indexOf 17 = .ok (.arraylength, 1) := by decide +kernel
theorem dc_StringLatin1_indexOf_18 : decode cd_StringLatin1_indexOf 18 = .ok (.invokestatic 38, 3) := by decide +kernel
theorem dc_StringLatin1_indexOf_21 : decode cd_StringLatin1_indexOf 21 = .ok (.istore_n 3, 1) := by decide +kernel
theorem dc_StringLatin1_indexOf_22 : decode cd_StringLatin1_indexOf 22 = .ok (.iload_n 2, 1) := by decide +kernel
theorem dc_StringLatin1_indexOf_23 : decode cd_StringLatin1_indexOf 23 = .ok (.iload_n 3, 1) := by decide +kernel
theorem dc_StringLatin1_indexOf_24 : decode cd_StringLatin1_indexOf 24 = .ok (.if_icmp .lt 5, 3) := by decide +kernel
theorem dc_StringLatin1_indexOf_27 : decode cd_StringLatin1_indexOf 27 = .ok (.iconst (-1), 1) := by decide +kernel
theorem dc_StringLatin1_indexOf_28 : decode cd_StringLatin1_indexOf 28 = .ok (.ireturn, 1) := by decide +kernel
theorem dc_StringLatin1_indexOf_29 : decode cd_StringLatin1_indexOf 29 = .ok (.aload_n 0, 1) := by decide +kernel
theorem dc_StringLatin1_indexOf_30 : decode cd_StringLatin1_indexOf 30 = .ok (.iload_n 1, 1) := by decide +kernel
theorem dc_StringLatin1_indexOf_31 : decode cd_StringLatin1_indexOf 31 = .ok (.iload_n 2, 1) := by decide +kernel
theorem dc_StringLatin1_indexOf_32 : decode cd_StringLatin1_indexOf 32 = .ok (.iload_n 3, 1) := by decide +kernel
theorem dc_StringLatin1_indexOf_33 : decode cd_StringLatin1_indexOf 33 = .ok (.invokestatic 95, 3) := by decide +kernel
theorem dc_StringLatin1_indexOf_36 : decode cd_StringLatin1_indexOf 36 = .ok (.ireturn, 1) := by decide +kernel
theorem dc_Clock_feed_0 : decode cd_Clock_feed 0 = .ok (.aload_n 0, 1) := by decide +kernel
theorem dc_Clock_feed_1 : decode cd_Clock_feed 1 = .ok (.getfield 10, 3) := by decide +kernel
theorem dc_Clock_feed_4 : decode cd_Clock_feed 4 = .ok (.lload_n 1, 1) := by decide +kernel
theorem dc_Clock_feed_5 : decode cd_Clock_feed 5 = .ok (.invokevirtual 91, 3) := by decide +kernel
theorem dc_Clock_feed_8 : decode cd_Clock_feed 8 = .ok (.aload_n 0, 1) := by decide +kernel
theorem dc_Clock_feed_9 : decode cd_Clock_feed 9 = .ok (.getfield 10, 3) := by decide +kernel
theorem dc_Clock_feed_12 : decode cd_Clock_feed 12 = .ok (.lload_n 3, 1) := by decide +kernel
theorem dc_Clock_feed_13 : decode cd_Clock_feed 13 = .ok (.invokevirtual 91, 3) := by decide +kernel
theorem dc_Clock_feed_16 : decode cd_Clock_feed 16 = .ok (.aload_n 0, 1) := by decide +kernel
theorem dc_Clock_feed_17 : decode cd_Clock_feed 17 = .ok (.getfield 10, 3) := by decide +kernel
theorem dc_Clock_feed_20 : decode cd_Clock_feed 20 = .ok (.lload 5, 2) := by decide +kernel
theorem dc_Clock_feed_22 : decode cd_Clock_feed 22 = .ok (.invokevirtual 91, 3) := by decide +kernel
theorem dc_Clock_feed_25 : decode cd_Clock_feed 25 = .ok (.aload_n 0, 1) := by decide +kernel
theorem dc_Clock_feed_26 : decode cd_Clock_feed 26 = .ok (.getfield 10, 3) := by decide +kernel
theorem dc_Clock_feed_29 : decode cd_Clock_feed 29 = .ok (.getfield 95, 3) := by decide +kernel
theorem dc_Clock_feed_32 : decode cd_Clock_feed 32 = .ok (.ireturn, 1) := by decide +kernel
theorem dc_Clock_late_0 : decode cd_Clock_late 0 = .ok (.aload_n 0, 1) := by decide +kernel
theorem dc_Clock_late_1 : decode cd_Clock_late 1 = .ok (.iload_n 1, 1) := by decide +kernel
theorem dc_Clock_late_2 : decode cd_Clock_late 2 = .ok (.invokevirtual 131, 3) := by decide +kernel
theorem dc_Clock_late_5 : decode cd_Clock_late 5 = .ok (.ifCond .eq 13, 3) := by decide +kernel
theorem dc_Clock_late_8 : decode cd_Clock_late 8 = .ok (.iload_n 2, 1) := by decide +kernel
theorem dc_Clock_late_9 : decode cd_Clock_late 9 = .ok (.ifCond .lt 9, 3) := by decide +kernel
theorem dc_Clock_late_12 : decode cd_Clock_late 12 = .ok (.iload_n 2, 1) := by decide +kernel
theorem dc_Clock_late_13 : decode cd_Clock_late 13 = .ok (.bipush 60, 2) := by decide +kernel
theorem dc_Clock_late_15 : decode cd_Clock_late 15 = .ok (.if_icmp .le 5, 3) := by decide +kernel
theorem dc_Clock_late_18 : decode cd_Clock_late 18 = .ok (.iconst 0, 1) := by decide +kernel
theorem dc_Clock_late_19 : decode cd_Clock_late 19 = .ok (.ireturn, 1) := by decide +kernel
theorem dc_Clock_late_20 : decode cd_Clock_late 20 = .ok (.aload_n 0, 1) := by decide +kernel
theorem dc_Clock_late_21 : decode cd_Clock_late 21 = .ok (.invokevirtual 198, 3) := by decide +kernel
theorem dc_Clock_late_24 : decode cd_Clock_late 24 = .ok (.aload_n 0, 1) := by decide +kernel
theorem dc_Clock_late_25 : decode cd_Clock_late 25 = .ok (.getfield 45, 3) := by decide +kernel
theorem dc_Clock_late_28 : decode cd_Clock_late 28 = .ok (.getfield 143, 3) := by decide +kernel
theorem dc_Clock_late_31 : decode cd_Clock_late 31 = .ok (.getfield 149, 3) := by decide +kernel
theorem dc_Clock_late_34 : decode cd_Clock_late 34 = .ok (.iload_n 1, 1) := by decide +kernel
theorem dc_Clock_late_35 : decode cd_Clock_late 35 = .ok (.iload_n 2, 1) := by decide +kernel
theorem dc_Clock_late_36 : decode cd_Clock_late 36 = .ok (.iastore, 1) := by decide +kernel
theorem dc_Clock_late_37 : decode cd_Clock_late 37 = .ok (.iconst 1, 1) := by decide +kernel
theorem dc_Clock_late_38 : decode cd_Clock_late 38 = .ok (.ireturn, 1) := by decide +kernel
theorem dc_Clock_dies_0 : decode cd_Clock_dies 0 = .ok (.aload_n 0, 1) := by decide +kernel
theorem dc_Clock_dies_1 : decode cd_Clock_dies 1 = .ok (.iload_n 1, 1) := by decide +kernel
theorem dc_Clock_dies_2 : decode cd_Clock_dies 2 = .ok (.invokevirtual 131, 3) := by decide +kernel
theorem dc_Clock_dies_5 : decode cd_Clock_dies 5 = .ok (.ifCond .eq 17, 3) := by decide +kernel
theorem dc_Clock_dies_8 : decode cd_Clock_dies 8 = .ok (.aload_n 0, 1) := by decide +kernel
theorem dc_Clock_dies_9 : decode cd_Clock_dies 9 = .ok (.getfield 45, 3) := by decide +kernel
theorem dc_Clock_dies_12 : decode cd_Clock_dies 12 = .ok (.getfield 143, 3) := by decide +kernel
theorem dc_Clock_dies_15 : decode cd_Clock_dies 15 = .ok (.iload_n 1, 1) := by decide +kernel
theorem dc_Clock_dies_16 : decode cd_Clock_dies 16 = .ok (.invokevirtual 146, 3) := by decide +kernel
theorem dc_Clock_dies_19 : decode cd_Clock_dies 19 = .ok (.ifCond .ne 5, 3) := by decide +kernel
theorem dc_Clock_dies_22 : decode cd_Clock_dies 22 = .ok (.iconst 0, 1) := by decide +kernel
theorem dc_Clock_dies_23 : decode cd_Clock_dies 23 = .ok (.ireturn, 1) := by decide +kernel
theorem dc_Clock_dies_24 : decode cd_Clock_dies 24 = .ok (.aload_n 0, 1) := by decide +kernel
theorem dc_Clock_dies_25 : decode cd_Clock_dies 25 = .ok (.invokevirtual 198, 3) := by decide +kernel
theorem dc_Clock_dies_28 : decode cd_Clock_dies 28 = .ok (.aload_n 0, 1) := by decide +kernel
theorem dc_Clock_dies_29 : decode cd_Clock_dies 29 = .ok (.getfield 45, 3) := by decide +kernel
theorem dc_Clock_dies_32 : decode cd_Clock_dies 32 = .ok (.getfield 143, 3) := by decide +kernel
theorem dc_Clock_dies_35 : decode cd_Clock_dies 35 = .ok (.iload_n 1, 1) := by decide +kernel
theorem dc_Clock_dies_36 : decode cd_Clock_dies 36 = .ok (.invokevirtual 201, 3) := by decide +kernel
theorem dc_Clock_dies_39 : decode cd_Clock_dies 39 = .ok (.iconst 1, 1) := by decide +kernel
theorem dc_Clock_dies_40 : decode cd_Clock_dies 40 = .ok (.ireturn, 1) := by decide +kernel
theorem dc_Clock_deputy_0 : decode cd_Clock_deputy 0 = .ok (.aload_n 0, 1) := by decide +kernel
theorem dc_Clock_deputy_1 : decode cd_Clock_deputy 1 = .ok (.iload_n 1, 1) := by decide +kernel
theorem dc_Clock_deputy_2 : decode cd_Clock_deputy 2 = .ok (.invokevirtual 169, 3) := by decide +kernel
theorem dc_Clock_deputy_5 : decode cd_Clock_deputy 5 = .ok (.ifCond .eq 30, 3) := by decide +kernel
theorem dc_Clock_deputy_8 : decode cd_Clock_deputy 8 = .ok (.aload_n 0, 1) := by decide +kernel
theorem dc_Clock_deputy_9 : decode cd_Clock_deputy 9 = .ok (.iload_n 2, 1) := by decide +kernel
theorem dc_Clock_deputy_10 : decode cd_Clock_deputy 10 = .ok (.invokevirtual 131, 3) := by decide +kernel
theorem dc_Clock_deputy_13 : decode cd_Clock_deputy 13 = .ok (.ifCond .eq 22, 3) := by decide +kernel
theorem dc_Clock_deputy_16 : decode cd_Clock_deputy 16 = .ok (.aload_n 0, 1) := by decide +kernel
theorem dc_Clock_deputy_17 : decode cd_Clock_deputy 17 = .ok (.getfield 45, 3) := by decide +kernel
theorem dc_Clock_deputy_20 : decode cd_Clock_deputy 20 = .ok (.getfield 143, 3) := by decide +kernel
theorem dc_Clock_deputy_23 : decode cd_Clock_deputy 23 = .ok (.aload_n 0, 1) := by decide +kernel
theorem dc_Clock_deputy_24 : decode cd_Clock_deputy 24 = .ok (.getfield 28, 3) := by decide +kernel
theorem dc_Clock_deputy_27 : decode cd_Clock_deputy 27 = .ok (.iload_n 1, 1) := by decide +kernel
theorem dc_Clock_deputy_28 : decode cd_Clock_deputy 28 = .ok (.iload_n 2, 1) := by decide +kernel
theorem dc_Clock_deputy_29 : decode cd_Clock_deputy 29 = .ok (.invokevirtual 205, 3) := by decide +kernel
theorem dc_Clock_deputy_32 : decode cd_Clock_deputy 32 = .ok (.ifCond .ne 5, 3) := by decide +kernel
theorem dc_Clock_deputy_35 : decode cd_Clock_deputy 35 = .ok (.iconst 0, 1) := by decide +kernel
theorem dc_Clock_deputy_36 : decode cd_Clock_deputy 36 = .ok (.ireturn, 1) := by decide +kernel
theorem dc_Clock_deputy_37 : decode cd_Clock_deputy 37 = .ok (.aload_n 0, 1) := by decide +kernel
theorem dc_Clock_deputy_38 : decode cd_Clock_deputy 38 = .ok (.invokevirtual 198, 3) := by decide +kernel
theorem dc_Clock_deputy_41 : decode cd_Clock_deputy 41 = .ok (.aload_n 0, 1) := by decide +kernel
theorem dc_Clock_deputy_42 : decode cd_Clock_deputy 42 = .ok (.getfield 45, 3) := by decide +kernel
theorem dc_Clock_deputy_45 : decode cd_Clock_deputy 45 = .ok (.getfield 143, 3) := by decide +kernel
theorem dc_Clock_deputy_48 : decode cd_Clock_deputy 48 = .ok (.getfield 172, 3) := by decide +kernel
theorem dc_Clock_deputy_51 : decode cd_Clock_deputy 51 = .ok (.iload_n 1, 1) := by decide +kernel
theorem dc_Clock_deputy_52 : decode cd_Clock_deputy 52 = .ok (.iload_n 2, 1) := by decide +kernel
theorem dc_Clock_deputy_53 : decode cd_Clock_deputy 53 = .ok (.iastore, 1) := by decide +kernel
theorem dc_Clock_deputy_54 : decode cd_Clock_deputy 54 = .ok (.iconst 1, 1) := by decide +kernel
theorem dc_Clock_deputy_55 : decode cd_Clock_deputy 55 = .ok (.ireturn, 1) := by decide +kernel
theorem dc_Clock_snow_0 : decode cd_Clock_snow 0 = .ok (.aload_n 0, 1) := by decide +kernel
theorem dc_Clock_snow_1 : decode cd_Clock_snow 1 = .ok (.getfield 45, 3) := by decide +kernel
theorem dc_Clock_snow_4 : decode cd_Clock_snow 4 = .ok (.getfield 143, 3) := by decide +kernel
theorem dc_Clock_snow_7 : decode cd_Clock_snow 7 = .ok (.getfield 209, 3) := by decide +kernel
theorem dc_Clock_snow_10 : decode cd_Clock_snow 10 = .ok (.ifCond .eq 5, 3) := by decide +kernel
theorem dc_Clock_snow_13 : decode cd_Clock_snow 13 = .ok (.iconst 0, 1) := by decide +kernel
theorem dc_Clock_snow_14 : decode cd_Clock_snow 14 = .ok (.ireturn, 1) := by decide +kernel
theorem dc_Clock_snow_15 : decode cd_Clock_snow 15 = .ok (.aload_n 0, 1) := by decide +kernel
theorem dc_Clock_snow_16 : decode cd_Clock_snow 16 = .ok (.invokevirtual 198, 3) := by decide +kernel
theorem dc_Clock_snow_19 : decode cd_Clock_snow 19 = .ok (.aload_n 0, 1) := by decide +kernel
theorem dc_Clock_snow_20 : decode cd_Clock_snow 20 = .ok (.getfield 45, 3) := by decide +kernel
theorem dc_Clock_snow_23 : decode cd_Clock_snow 23 = .ok (.getfield 143, 3) := by decide +kernel
theorem dc_Clock_snow_26 : decode cd_Clock_snow 26 = .ok (.iconst 1, 1) := by decide +kernel
theorem dc_Clock_snow_27 : decode cd_Clock_snow 27 = .ok (.putfield 209, 3) := by decide +kernel
theorem dc_Clock_snow_30 : decode cd_Clock_snow 30 = .ok (.iconst 1, 1) := by decide +kernel
theorem dc_Clock_snow_31 : decode cd_Clock_snow 31 = .ok (.ireturn, 1) := by decide +kernel
theorem dc_Clock_mark_0 : decode cd_Clock_mark 0 = .ok (.iload_n 1, 1) := by decide +kernel
theorem dc_Clock_mark_1 : decode cd_Clock_mark 1 = .ok (.ifCond .lt 24, 3) := by decide +kernel
theorem dc_Clock_mark_4 : decode cd_Clock_mark 4 = .ok (.iload_n 1, 1) := by decide +kernel
theorem dc_Clock_mark_5 : decode cd_Clock_mark 5 = .ok (.iconst 4, 1) := by decide +kernel
theorem dc_Clock_mark_6 : decode cd_Clock_mark 6 = .ok (.if_icmp .ge 19, 3) := by decide +kernel
theorem dc_Clock_mark_9 : decode cd_Clock_mark 9 = .ok (.iload_n 2, 1) := by decide +kernel
theorem dc_Clock_mark_10 : decode cd_Clock_mark 10 = .ok (.ifCond .eq 17, 3) := by decide +kernel
theorem dc_Clock_mark_13 : decode cd_Clock_mark 13 = .ok (.aload_n 0, 1) := by decide +kernel
theorem dc_Clock_mark_14 : decode cd_Clock_mark 14 = .ok (.getfield 49, 3) := by decide +kernel
theorem dc_Clock_mark_17 : decode cd_Clock_mark 17 = .ok (.iload_n 1, 1) := by decide +kernel
theorem dc_Clock_mark_18 : decode cd_Clock_mark 18 = .ok (.aaload, 1) := by decide +kernel
theorem dc_Clock_mark_19 : decode cd_Clock_mark 19 = .ok (.getfield 110, 3) := by decide +kernel
theorem dc_Clock_mark_22 : decode cd_Clock_mark 22 = .ok (.ifCond .ne 5, 3) := by decide +kernel
theorem dc_Clock_mark_25 : decode cd_Clock_mark 25 = .ok (.iconst 0, 1) := by decide +kernel
theorem dc_Clock_mark_26 : decode cd_Clock_mark 26 = .ok (.ireturn, 1) := by decide +kernel
theorem dc_Clock_mark_27 : decode cd_Clock_mark 27 = .ok (.iload_n 2, 1) := by decide +kernel
theorem dc_Clock_mark_28 : decode cd_Clock_mark 28 = .ok (.ifCond .eq 24, 3) := by decide +kernel
theorem dc_Clock_mark_31 : decode cd_Clock_mark 31 = .ok (.aload_n 0, 1) := by decide +kernel
theorem dc_Clock_mark_32 : decode cd_Clock_mark 32 = .ok (.getfield 45, 3) := by decide +kernel
theorem dc_Clock_mark_35 : decode cd_Clock_mark 35 = .ok (.aload_n 0, 1) := by decide +kernel
theorem dc_Clock_mark_36 : decode cd_Clock_mark 36 = .ok (.getfield 49, 3) := by decide +kernel
theorem dc_Clock_mark_39 : decode cd_Clock_mark 39 = .ok (.iload_n 1, 1) := by decide +kernel
theorem dc_Clock_mark_40 : decode cd_Clock_mark 40 = .ok (.aaload, 1) := by decide +kernel
theorem dc_Clock_mark_41 : decode cd_Clock_mark 41 = .ok (.invokevirtual 325, 3) := by decide +kernel
theorem dc_Clock_mark_44 : decode cd_Clock_mark 44 = .ok (.aload_n 0, 1) := by decide +kernel
theorem dc_Clock_mark_45 : decode cd_Clock_mark 45 = .ok (.iconst 0, 1) := by decide +kernel
theorem dc_Clock_mark_46 : decode cd_Clock_mark 46 = .ok (.putfield 107, 3) := by decide +kernel
theorem dc_Clock_mark_49 : decode cd_Clock_mark 49 = .ok (.goto 26, 3) := by decide +kernel
theorem dc_Clock_mark_52 : decode cd_Clock_mark 52 = .ok (.aload_n 0, 1) := by decide +kernel
theorem dc_Clock_mark_53 : decode cd_Clock_mark 53 = .ok (.getfield 49, 3) := by decide +kernel
theorem dc_Clock_mark_56 : decode cd_Clock_mark 56 = .ok (.iload_n 1, 1) := by decide +kernel
theorem dc_Clock_mark_57 : decode cd_Clock_mark 57 = .ok (.aaload, 1) := by decide +kernel
theorem dc_Clock_mark_58 : decode cd_Clock_mark 58 = .ok (.aload_n 0, 1) := by decide +kernel
theorem dc_Clock_mark_59 : decode cd_Clock_mark 59 = .ok (.getfield 45, 3) := by decide +kernel
theorem dc_Clock_mark_62 : decode cd_Clock_mark 62 = .ok (.invokevirtual 325, 3) := by decide +kernel
theorem dc_Clock_mark_65 : decode cd_Clock_mark 65 = .ok (.aload_n 0, 1) := by decide +kernel
theorem dc_Clock_mark_66 : decode cd_Clock_mark 66 = .ok (.getfield 49, 3) := by decide +kernel
theorem dc_Clock_mark_69 : decode cd_Clock_mark 69 = .ok (.iload_n 1, 1) := by decide +kernel
theorem dc_Clock_mark_70 : decode cd_Clock_mark 70 = .ok (.aaload, 1) := by decide +kernel
theorem dc_Clock_mark_71 : decode cd_Clock_mark 71 = .ok (.iconst 1, 1) := by decide +kernel
theorem dc_Clock_mark_72 : decode cd_Clock_mark 72 = .ok (.putfield 110, 3) := by decide +kernel
theorem dc_Clock_mark_75 : decode cd_Clock_mark 75 = .ok (.iconst 1, 1) := by decide +kernel
theorem dc_Clock_mark_76 : decode cd_Clock_mark 76 = .ok (.ireturn, 1) := by decide +kernel
theorem dc_Clock_mostAlike_0 : decode cd_Clock_mostAlike 0 = .ok (.iconst 0, 1) := by decide +kernel
theorem dc_Clock_mostAlike_1 : decode cd_Clock_mostAlike 1 = .ok (.istore_n 2, 1) := by decide +kernel
theorem dc_Clock_mostAlike_2 : decode cd_Clock_mostAlike 2 = .ok (.aload_n 0, 1) := by decide +kernel
theorem dc_Clock_mostAlike_3 : decode cd_Clock_mostAlike 3 = .ok (.getfield 78, 3) := by decide +kernel
theorem dc_Clock_mostAlike_6 : decode cd_Clock_mostAlike 6 = .ok (.iconst 0, 1) := by decide +kernel
theorem dc_Clock_mostAlike_7 : decode cd_Clock_mostAlike 7 = .ok (.invokestatic 350, 3) := by decide +kernel
theorem dc_Clock_mostAlike_10 : decode cd_Clock_mostAlike 10 = .ok (.iconst 0, 1) := by decide +kernel
theorem dc_Clock_mostAlike_11 : decode cd_Clock_mostAlike 11 = .ok (.istore_n 3, 1) := by decide +kernel
theorem dc_Clock_mostAlike_12 : decode cd_Clock_mostAlike 12 = .ok (.iload_n 3, 1) := by decide +kernel
theorem dc_Clock_mostAlike_13 : decode cd_Clock_mostAlike 13 = .ok (.sipush 240, 3) := by decide +kernel
theorem dc_Clock_mostAlike_16 : decode cd_Clock_mostAlike 16 = .ok (.if_icmp .ge 58, 3) := by decide +kernel
theorem dc_Clock_mostAlike_19 : decode cd_Clock_mostAlike 19 = .ok (.aload_n 0, 1) := by decide +kernel
theorem dc_Clock_mostAlike_20 : decode cd_Clock_mostAlike 20 = .ok (.getfield 45, 3) := by decide +kernel
theorem dc_Clock_mostAlike_23 : decode cd_Clock_mostAlike 23 = .ok (.aload_n 0, 1) := by decide +kernel
theorem dc_Clock_mostAlike_24 : decode cd_Clock_mostAlike 24 = .ok (.getfield 74, 3) := by decide +kernel
theorem dc_Clock_mostAlike_27 : decode cd_Clock_mostAlike 27 = .ok (.iload_n 3, 1) := by decide +kernel
theorem dc_Clock_mostAlike_28 : decode cd_Clock_mostAlike 28 = .ok (.invokevirtual 253, 3) := by decide +kernel
theorem dc_Clock_mostAlike_31 : decode cd_Clock_mostAlike 31 = .ok (.ifCond .eq 37, 3) := by decide +kernel
theorem dc_Clock_mostAlike_34 : decode cd_Clock_mostAlike 34 = .ok (.aload_n 0, 1) := by decide +kernel
theorem dc_Clock_mostAlike_35 : decode cd_Clock_mostAlike 35 = .ok (.getfield 74, 3) := by decide +kernel
theorem dc_Clock_mostAlike_38 : decode cd_Clock_mostAlike 38 = .ok (.iload_n 1, 1) := by decide +kernel
theorem dc_Clock_mostAlike_39 : decode cd_Clock_mostAlike 39 = .ok (.iload_n 3, 1) := by decide +kernel
theorem dc_Clock_mostAlike_40 : decode cd_Clock_mostAlike 40 = .ok (.invokevirtual 356, 3) := by decide +kernel
theorem dc_Clock_mostAlike_43 : decode cd_Clock_mostAlike 43 = .ok (.istore 4, 2) := by decide +kernel
theorem dc_Clock_mostAlike_45 : decode cd_Clock_mostAlike 45 = .ok (.aload_n 0, 1) := by decide +kernel
theorem dc_Clock_mostAlike_46 : decode cd_Clock_mostAlike 46 = .ok (.getfield 78, 3) := by decide +kernel
theorem dc_Clock_mostAlike_49 : decode cd_Clock_mostAlike 49 = .ok (.iload 4, 2) := by decide +kernel
theorem dc_Clock_mostAlike_51 : decode cd_Clock_mostAlike 51 = .ok (.dup2, 1) := by decide +kernel
theorem dc_Clock_mostAlike_52 : decode cd_Clock_mostAlike 52 = .ok (.iaload, 1) := by decide +kernel
theorem dc_Clock_mostAlike_53 : decode cd_Clock_mostAlike 53 = .ok (.iconst 1, 1) := by decide +kernel
theorem dc_Clock_mostAlike_54 : decode cd_Clock_mostAlike 54 = .ok (.iadd, 1) := by decide +kernel
theorem dc_Clock_mostAlike_55 : decode cd_Clock_mostAlike 55 = .ok (.iastore, 1) := by decide +kernel
theorem dc_Clock_mostAlike_56 : decode cd_Clock_mostAlike 56 = .ok (.iload_n 2, 1) := by decide +kernel
theorem dc_Clock_mostAlike_57 : decode cd_Clock_mostAlike 57 = .ok (.aload_n 0, 1) := by decide +kernel
theorem dc_Clock_mostAlike_58 : decode cd_Clock_mostAlike 58 = .ok (.getfield 78, 3) := by decide +kernel
theorem dc_Clock_mostAlike_61 : decode cd_Clock_mostAlike 61 = .ok (.iload 4, 2) := by decide +kernel
theorem dc_Clock_mostAlike_63 : decode cd_Clock_mostAlike 63 = .ok (.iaload, 1) := by decide +kernel
theorem dc_Clock_mostAlike_64 : decode cd_Clock_mostAlike 64 = .ok (.invokestatic 277, 3) := by decide +kernel
theorem dc_Clock_mostAlike_67 : decode cd_Clock_mostAlike 67 = .ok (.istore_n 2, 1) := by decide +kernel
theorem dc_Clock_mostAlike_68 : decode cd_Clock_mostAlike 68 = .ok (.iinc 3 1, 3) := by decide +kernel
theorem dc_Clock_mostAlike_71 : decode cd_Clock_mostAlike 71 = .ok (.goto (-59), 3) := by decide +kernel
theorem dc_Clock_mostAlike_74 : decode cd_Clock_mostAlike 74 = .ok (.iload_n 2, 1) := by decide +kernel
theorem dc_Clock_mostAlike_75 : decode cd_Clock_mostAlike 75 = .ok (.ireturn, 1) := by decide +kernel
theorem dc_Hills_begin_0 : decode cd_Hills_begin 0 = .ok (.aload_n 0, 1) := by decide +kernel
theorem dc_Hills_begin_1 : decode cd_Hills_begin 1 = .ok (.iconst 0, 1) := by decide +kernel
theorem dc_Hills_begin_2 : decode cd_Hills_begin 2 = .ok (.putfield 54, 3) := by decide +kernel
theorem dc_Hills_begin_5 : decode cd_Hills_begin 5 = .ok (.aload_n 0, 1) := by decide +kernel
theorem dc_Hills_begin_6 : decode cd_Hills_begin 6 = .ok (.iconst 0, 1) := by decide +kernel
theorem dc_Hills_begin_7 : decode cd_Hills_begin 7 = .ok (.putfield 58, 3) := by decide +kernel
theorem dc_Hills_begin_10 : decode cd_Hills_begin 10 = .ok (.aload_n 0, 1) := by decide +kernel
theorem dc_Hills_begin_11 : decode cd_Hills_begin 11 = .ok (.iconst 0, 1) := by decide +kernel
theorem dc_Hills_begin_12 : decode cd_Hills_begin 12 = .ok (.putfield 61, 3) := by decide +kernel
theorem dc_Hills_begin_15 : decode cd_Hills_begin 15 = .ok (.aload_n 0, 1) := by decide +kernel
theorem dc_Hills_begin_16 : decode cd_Hills_begin 16 = .ok (.iconst 0, 1) := by decide +kernel
theorem dc_Hills_begin_17 : decode cd_Hills_begin 17 = .ok (.putfield 64, 3) := by decide +kernel
theorem dc_Hills_begin_20 : decode cd_Hills_begin 20 = .ok (.aload_n 0, 1) := by decide +kernel
theorem dc_Hills_begin_21 : decode cd_Hills_begin 21 = .ok (.iconst 0, 1) := by decide +kernel
theorem dc_Hills_begin_22 : decode cd_Hills_begin 22 = .ok (.putfield 67, 3) := by decide +kernel
theorem dc_Hills_begin_25 : decode cd_Hills_begin 25 = .ok (.aload_n 0, 1) := by decide +kernel
theorem dc_Hills_begin_26 : decode cd_Hills_begin 26 = .ok (.getfield 21, 3) := by decide +kernel
theorem dc_Hills_begin_29 : decode cd_Hills_begin 29 = .ok (.iconst 0, 1) := by decide +kernel
theorem dc_Hills_begin_30 : decode cd_Hills_begin 30 = .ok (.invokestatic 70, 3) := by decide +kernel
theorem dc_Hills_begin_33 : decode cd_Hills_begin 33 = .ok (.aload_n 0, 1) := by decide +kernel
theorem dc_Hills_begin_34 : decode cd_Hills_begin 34 = .ok (.getfield 46, 3) := by decide +kernel
theorem dc_Hills_begin_37 : decode cd_Hills_begin 37 = .ok (.invokevirtual 76, 3) := by decide +kernel
theorem dc_Hills_begin_40 : decode cd_Hills_begin 40 = .ok (.return_, 1) := by decide +kernel
theorem dc_Lines_can_0 : decode cd_Lines_can 0 = .ok (.aload_n 0, 1) := by decide +kernel
theorem dc_Lines_can_1 : decode cd_Lines_can 1 = .ok (.getfield 9, 3) := by decide +kernel
theorem dc_Lines_can_4 : decode cd_Lines_can 4 = .ok (.iload_n 1, 1) := by decide +kernel
theorem dc_Lines_can_5 : decode cd_Lines_can 5 = .ok (.iaload, 1) := by decide +kernel
theorem dc_Lines_can_6 : decode cd_Lines_can 6 = .ok (.tableswitch 68 1 3 #[26, 37, 55], 26) := by decide +kernel
theorem dc_Lines_can_32 : decode cd_Lines_can 32 = .ok (.aload_n 3, 1) := by decide +kernel
theorem dc_Lines_can_33 : decode cd_Lines_can 33 = .ok (.aload_n 0, 1) := by decide +kernel
theorem dc_Lines_can_34 : decode cd_Lines_can 34 = .ok (.getfield 15, 3) := by decide +kernel
theorem dc_Lines_can_37 : decode cd_Lines_can 37 = .ok (.iload_n 1, 1) := by decide +kernel
theorem dc_Lines_can_38 : decode cd_Lines_can 38 = .ok (.iaload, 1) := by decide +kernel
theorem dc_Lines_can_39 : decode cd_Lines_can 39 = .ok (.invokevirtual 107, 3) := by decide +kernel
theorem dc_Lines_can_42 : decode cd_Lines_can 42 = .ok (.ireturn, 1) := by decide +kernel
theorem dc_Lines_can_43 : decode cd_Lines_can 43 = .ok (.aload_n 3, 1) := by decide +kernel
theorem dc_Lines_can_44 : decode cd_Lines_can 44 = .ok (.aload_n 2, 1) := by decide +kernel
theorem dc_Lines_can_45 : decode cd_Lines_can 45 = .ok (.aload_n 0, 1) := by decide +kernel
theorem dc_Lines_can_46 : decode cd_Lines_can 46 = .ok (.getfield 18, 3) := by decide +kernel
theorem dc_Lines_can_49 : decode cd_Lines_can 49 = .ok (.iload_n 1, 1) := by decide +kernel
theorem dc_Lines_can_50 : decode cd_Lines_can 50 = .ok (.iaload, 1) := by decide +kernel
theorem dc_Lines_can_51 : decode cd_Lines_can 51 = .ok (.aload_n 0, 1) := by decide +kernel
theorem dc_Lines_can_52 : decode cd_Lines_can 52 = .ok (.getfield 15, 3) := by decide +kernel
theorem dc_Lines_can_55 : decode cd_Lines_can 55 = .ok (.iload_n 1, 1) := by decide +kernel
theorem dc_Lines_can_56 : decode cd_Lines_can 56 = .ok (.iaload, 1) := by decide +kernel
theorem dc_Lines_can_57 : decode cd_Lines_can 57 = .ok (.invokevirtual 112, 3) := by decide +kernel
theorem dc_Lines_can_60 : decode cd_Lines_can 60 = .ok (.ireturn, 1) := by decide +kernel
theorem dc_Lines_can_61 : decode cd_Lines_can 61 = .ok (.aload_n 3, 1) := by decide +kernel
theorem dc_Lines_can_62 : decode cd_Lines_can 62 = .ok (.getfield 116, 3) := by decide +kernel
theorem dc_Lines_can_65 : decode cd_Lines_can 65 = .ok (.ifCond .ne 7, 3) := by decide +kernel
theorem dc_Lines_can_68 : decode cd_Lines_can 68 = .ok (.iconst 1, 1) := by decide +kernel
theorem dc_Lines_can_69 : decode cd_Lines_can 69 = .ok (.goto 4, 3) := by decide +kernel
theorem dc_Lines_can_72 : decode cd_Lines_can 72 = .ok (.iconst 0, 1) := by decide +kernel
theorem dc_Lines_can_73 : decode cd_Lines_can 73 = .ok (.ireturn, 1) := by decide +kernel
theorem dc_Lines_can_74 : decode cd_Lines_can 74 = .ok (.iconst 1, 1) := by decide +kernel
theorem dc_Lines_can_75 : decode cd_Lines_can 75 = .ok (.ireturn, 1) := by decide +kernel
theorem dc_Standing_begin_0 : decode cd_Standing_begin 0 = .ok (.aload_n 0, 1) := by decide +kernel
theorem dc_Standing_begin_1 : decode cd_Standing_begin 1 = .ok (.getfield 12, 3) := by decide +kernel
theorem dc_Standing_begin_4 : decode cd_Standing_begin 4 = .ok (.aload_n 1, 1) := by decide +kernel
theorem dc_Standing_begin_5 : decode cd_Standing_begin 5 = .ok (.invokevirtual 35, 3) := by decide +kernel
theorem dc_Standing_begin_8 : decode cd_Standing_begin 8 = .ok (.aload_n 0, 1) := by decide +kernel
theorem dc_Standing_begin_9 : decode cd_Standing_begin 9 = .ok (.getfield 21, 3) := by decide +kernel
theorem dc_Standing_begin_12 : decode cd_Standing_begin 12 = .ok (.iconst 0, 1) := by decide +kernel
theorem dc_Standing_begin_13 : decode cd_Standing_begin 13 = .ok (.putfield 39, 3) := by decide +kernel
theorem dc_Standing_begin_16 : decode cd_Standing_begin 16 = .ok (.aload_n 0, 1) := by decide +kernel
theorem dc_Standing_begin_17 : decode cd_Standing_begin 17 = .ok (.iconst 0, 1) := by decide +kernel
theorem dc_Standing_begin_18 : decode cd_Standing_begin 18 = .ok (.putfield 43, 3) := by decide +kernel
theorem dc_Standing_begin_21 : decode cd_Standing_begin 21 = .ok (.aload_n 0, 1) := by decide +kernel
theorem dc_Standing_begin_22 : decode cd_Standing_begin 22 = .ok (.getfield 32, 3) := by decide +kernel
theorem dc_Standing_begin_25 : decode cd_Standing_begin 25 = .ok (.bipush (-2), 2) := by decide +kernel
theorem dc_Standing_begin_27 : decode cd_Standing_begin 27 = .ok (.invokestatic 46, 3) := by decide +kernel
theorem dc_Standing_begin_30 : decode cd_Standing_begin 30 = .ok (.return_, 1) := by decide +kernel
theorem dc_Standing_isAsTold_0 : decode cd_Standing_isAsTold 0 = .ok (.iconst 0, 1) := by decide +kernel
theorem dc_Standing_isAsTold_1 : decode cd_Standing_isAsTold 1 = .ok (.istore_n 3, 1) := by decide +kernel
theorem dc_Standing_isAsTold_2 : decode cd_Standing_isAsTold 2 = .ok (.iload_n 3, 1) := by decide +kernel
theorem dc_Standing_isAsTold_3 : decode cd_Standing_isAsTold 3 = .ok (.aload_n 1, 1) := by decide +kernel
theorem dc_Standing_isAsTold_4 : decode cd_Standing_isAsTold 4 = .ok (.getfield 74, 3) := by decide +kernel
theorem dc_Standing_isAsTold_7 : decode cd_Standing_isAsTold 7 = .ok (.if_icmp .ge 36, 3) := by decide +kernel
theorem dc_Standing_isAsTold_10 : decode cd_Standing_isAsTold 10 = .ok (.aload_n 0, 1) := by decide +kernel
theorem dc_Standing_isAsTold_11 : decode cd_Standing_isAsTold 11 = .ok (.getfield 32, 3) := by decide +kernel
theorem dc_Standing_isAsTold_14 : decode cd_Standing_isAsTold 14 = .ok (.iload_n 3, 1) := by decide +kernel
theorem dc_Standing_isAsTold_15 : decode cd_Standing_isAsTold 15 = .ok (.iaload, 1) := by decide +kernel
theorem dc_Standing_isAsTold_16 : decode cd_Standing_isAsTold 16 = .ok (.bipush (-2), 2) := by decide +kernel
theorem dc_Standing_isAsTold_18 : decode cd_Standing_isAsTold 18 = .ok (.if_icmp .eq 19, 3) := by decide +kernel
theorem dc_Standing_isAsTold_21 : decode cd_Standing_isAsTold 21 = .ok (.aload_n 0, 1) := by decide +kernel
theorem dc_Standing_isAsTold_22 : decode cd_Standing_isAsTold 22 = .ok (.getfield 32, 3) := by decide +kernel
theorem dc_Standing_isAsTold_25 : decode cd_Standing_isAsTold 25 = .ok (.iload_n 3, 1) := by decide +kernel
theorem dc_Standing_isAsTold_26 : decode cd_Standing_isAsTold 26 = .ok (.iaload, 1) := by decide +kernel
theorem dc_Standing_isAsTold_27 : decode cd_Standing_isAsTold 27 = .ok (.aload_n 2, 1) := by decide +kernel
theorem dc_Standing_isAsTold_28 : decode cd_Standing_isAsTold 28 = .ok (.iload_n 3, 1) := by decide +kernel
theorem dc_Standing_isAsTold_29 : decode cd_Standing_isAsTold 29 = .ok (.invokevirtual 79, 3) := by decide +kernel
theorem dc_Standing_isAsTold_32 : decode cd_Standing_isAsTold 32 = .ok (.if_icmp .eq 5, 3) := by decide +kernel
theorem dc_Standing_isAsTold_35 : decode cd_Standing_isAsTold 35 = .ok (.iconst 0, 1) := by decide +kernel
theorem dc_Standing_isAsTold_36 : decode cd_Standing_isAsTold 36 = .ok (.ireturn, 1) := by decide +kernel
theorem dc_Standing_isAsTold_37 : decode cd_Standing_isAsTold 37 = .ok (.iinc 3 1, 3) := by decide +kernel
theorem dc_Standing_isAsTold_40 : decode cd_Standing_isAsTold 40 = .ok (.goto (-38), 3) := by decide +kernel
theorem dc_Standing_isAsTold_43 : decode cd_Standing_isAsTold 43 = .ok (.iconst 1, 1) := by decide +kernel
theorem dc_Standing_isAsTold_44 : decode cd_Standing_isAsTold 44 = .ok (.ireturn, 1) := by decide +kernel
theorem dc_Tape_which_0 : decode cd_Tape_which 0 = .ok (.aload_n 0, 1) := by decide +kernel
theorem dc_Tape_which_1 : decode cd_Tape_which 1 = .ok (.invokevirtual 94, 3) := by decide +kernel
theorem dc_Tape_which_4 : decode cd_Tape_which 4 = .ok (.ifCond .ne 11, 3) := by decide +kernel
theorem dc_Tape_which_7 : decode cd_Tape_which 7 = .ok (.aload_n 0, 1) := by decide +kernel
theorem dc_Tape_which_8 : decode cd_Tape_which 8 = .ok (.iconst 1, 1) := by decide +kernel
theorem dc_Tape_which_9 : decode cd_Tape_which 9 = .ok (.invokevirtual 84, 3) := by decide +kernel
theorem dc_Tape_which_12 : decode cd_Tape_which 12 = .ok (.pop, 1) := by decide +kernel
theorem dc_Tape_which_13 : decode cd_Tape_which 13 = .ok (.iconst (-1), 1) := by decide +kernel
theorem dc_Tape_which_14 : decode cd_Tape_which 14 = .ok (.ireturn, 1) := by decide +kernel
theorem dc_Tape_which_15 : decode cd_Tape_which 15 = .ok (.aload_n 1, 1) := by decide +kernel
theorem dc_Tape_which_16 : decode cd_Tape_which 16 = .ok (.iload_n 2, 1) := by decide +kernel
theorem dc_Tape_which_17 : decode cd_Tape_which 17 = .ok (.aload_n 0, 1) := by decide +kernel
theorem dc_Tape_which_18 : decode cd_Tape_which 18 = .ok (.getfield 64, 3) := by decide +kernel
theorem dc_Tape_which_21 : decode cd_Tape_which 21 = .ok (.invokestatic 97, 3) := by decide +kernel
theorem dc_Tape_which_24 : decode cd_Tape_which 24 = .ok (.istore_n 3, 1) := by decide +kernel
theorem dc_Tape_which_25 : decode cd_Tape_which 25 = .ok (.iload_n 3, 1) := by decide +kernel
theorem dc_Tape_which_26 : decode cd_Tape_which 26 = .ok (.iconst (-1), 1) := by decide +kernel
theorem dc_Tape_which_27 : decode cd_Tape_which 27 = .ok (.if_icmp .ne 9, 3) := by decide +kernel
theorem dc_Tape_which_30 : decode cd_Tape_which 30 = .ok (.aload_n 0, 1) := by decide +kernel
theorem dc_Tape_which_31 : decode cd_Tape_which 31 = .ok (.iconst 2, 1) := by decide +kernel
theorem dc_Tape_which_32 : decode cd_Tape_which 32 = .ok (.invokevirtual 84, 3) := by decide +kernel
theorem dc_Tape_which_35 : decode cd_Tape_which 35 = .ok (.pop, 1) := by decide +kernel
theorem dc_Tape_which_36 : decode cd_Tape_which 36 = .ok (.iload_n 3, 1) := by decide +kernel
theorem dc_Tape_which_37 : decode cd_Tape_which 37 = .ok (.ireturn, 1) := by decide +kernel
theorem dc_Walk_comeAll_0 : decode cd_Walk_comeAll 0 = .ok (.iconst 0, 1) := by decide +kernel
theorem dc_Walk_comeAll_1 : decode cd_Walk_comeAll 1 = .ok (.istore_n 2, 1) := by decide +kernel
theorem dc_Walk_comeAll_2 : decode cd_Walk_comeAll 2 = .ok (.iload_n 2, 1) := by decide +kernel
theorem dc_Walk_comeAll_3 : decode cd_Walk_comeAll 3 = .ok (.aload_n 0, 1) := by decide +kernel
theorem dc_Walk_comeAll_4 : decode cd_Walk_comeAll 4 = .ok (.getfield 27, 3) := by decide +kernel
theorem dc_Walk_comeAll_7 : decode cd_Walk_comeAll 7 = .ok (.getfield 39, 3) := by decide +kernel
theorem dc_Walk_comeAll_10 : decode cd_Walk_comeAll 10 = .ok (.if_icmp .ge 150, 3) := by decide +kernel
theorem dc_Walk_comeAll_13 : decode cd_Walk_comeAll 13 = .ok (.aload_n 0, 1) := by decide +kernel
theorem dc_Walk_comeAll_14 : decode cd_Walk_comeAll 14 = .ok (.getfield 24, 3) := by decide +kernel
theorem dc_Walk_comeAll_17 : decode cd_Walk_comeAll 17 = .ok (.iload_n 2, 1) := by decide +kernel
theorem dc_Walk_comeAll_18 : decode cd_Walk_comeAll 18 = .ok (.iaload, 1) := by decide +kernel
theorem dc_Walk_comeAll_19 : decode cd_Walk_comeAll 19 = .ok (.iload_n 1, 1) := by decide +kernel
theorem dc_Walk_comeAll_20 : decode cd_Walk_comeAll 20 = .ok (.if_icmp .ne 134, 3) := by decide +kernel
theorem dc_Walk_comeAll_23 : decode cd_Walk_comeAll 23 = .ok (.aload_n 0, 1) := by decide +kernel
theorem dc_Walk_comeAll_24 : decode cd_Walk_comeAll 24 = .ok (.iload_n 2, 1) := by decide +kernel
theorem dc_Walk_comeAll_25 : decode cd_Walk_comeAll 25 = .ok (.invokevirtual 83, 3) := by decide +kernel
theorem dc_Walk_comeAll_28 : decode cd_Walk_comeAll 28 = .ok (.ifCond .ne 126, 3) := by decide +kernel
theorem dc_Walk_comeAll_31 : decode cd_Walk_comeAll 31 = .ok (.aload_n 0, 1) := by decide +kernel
theorem dc_Walk_comeAll_32 : decode cd_Walk_comeAll 32 = .ok (.getfield 9, 3) := by decide +kernel
theorem dc_Walk_comeAll_35 : decode cd_Walk_comeAll 35 = .ok (.iload_n 2, 1) := by decide +kernel
theorem dc_Walk_comeAll_36 : decode cd_Walk_comeAll 36 = .ok (.iaload, 1) := by decide +kernel
theorem dc_Walk_comeAll_37 : decode cd_Walk_comeAll 37 = .ok (.iconst 4, 1) := by decide +kernel
theorem dc_Walk_comeAll_38 : decode cd_Walk_comeAll 38 = .ok (.if_icmp .ge 116, 3) := by decide +kernel
theorem dc_Walk_comeAll_41 : decode cd_Walk_comeAll 41 = .ok (.aload_n 0, 1) := by decide +kernel
theorem dc_Walk_comeAll_42 : decode cd_Walk_comeAll 42 = .ok (.getfield 27, 3) := by decide +kernel
theorem dc_Walk_comeAll_45 : decode cd_Walk_comeAll 45 = .ok (.getfield 50, 3) := by decide +kernel
theorem dc_Walk_comeAll_48 : decode cd_Walk_comeAll 48 = .ok (.iload_n 2, 1) := by decide +kernel
theorem dc_Walk_comeAll_49 : decode cd_Walk_comeAll 49 = .ok (.aaload, 1) := by decide +kernel
theorem dc_Walk_comeAll_50 : decode cd_Walk_comeAll 50 = .ok (.astore_n 3, 1) := by decide +kernel
theorem dc_Walk_comeAll_51 : decode cd_Walk_comeAll 51 = .ok (.iload_n 2, 1) := by decide +kernel
theorem dc_Walk_comeAll_52 : decode cd_Walk_comeAll 52 = .ok (.iconst 4, 1) := by decide +kernel
theorem dc_Walk_comeAll_53 : decode cd_Walk_comeAll 53 = .ok (.imul, 1) := by decide +kernel
theorem dc_Walk_comeAll_54 : decode cd_Walk_comeAll 54 = .ok (.aload_n 0, 1) := by decide +kernel
theorem dc_Walk_comeAll_55 : decode cd_Walk_comeAll 55 = .ok (.getfield 9, 3) := by decide +kernel
theorem dc_Walk_comeAll_58 : decode cd_Walk_comeAll 58 = .ok (.iload_n 2, 1) := by decide +kernel
theorem dc_Walk_comeAll_59 : decode cd_Walk_comeAll 59 = .ok (.iaload, 1) := by decide +kernel
theorem dc_Walk_comeAll_60 : decode cd_Walk_comeAll 60 = .ok (.iadd, 1) := by decide +kernel
theorem dc_Walk_comeAll_61 : decode cd_Walk_comeAll 61 = .ok (.istore 4, 2) := by decide +kernel
theorem dc_Walk_comeAll_63 : decode cd_Walk_comeAll 63 = .ok (.aload_n 0, 1) := by decide +kernel
theorem dc_Walk_comeAll_64 : decode cd_Walk_comeAll 64 = .ok (.getfield 15, 3) := by decide +kernel
theorem dc_Walk_comeAll_67 : decode cd_Walk_comeAll 67 = .ok (.iload 4, 2) := by decide +kernel
theorem dc_Walk_comeAll_69 : decode cd_Walk_comeAll 69 = .ok (.aload_n 3, 1) := by decide +kernel
theorem dc_Walk_comeAll_70 : decode cd_Walk_comeAll 70 = .ok (.getfield 86, 3) := by decide +kernel
theorem dc_Walk_comeAll_73 : decode cd_Walk_comeAll 73 = .ok (.aload_n 0, 1) := by decide +kernel
theorem dc_Walk_comeAll_74 : decode cd_Walk_comeAll 74 = .ok (.getfield 9, 3) := by decide +kernel
theorem dc_Walk_comeAll_77 : decode cd_Walk_comeAll 77 = .ok (.iload_n 2, 1) := by decide +kernel
theorem dc_Walk_comeAll_78 : decode cd_Walk_comeAll 78 = .ok (.iaload, 1) := by decide +kernel
theorem dc_Walk_comeAll_79 : decode cd_Walk_comeAll 79 = .ok (.iaload, 1) := by decide +kernel
theorem dc_Walk_comeAll_80 : decode cd_Walk_comeAll 80 = .ok (.iastore, 1) := by decide +kernel
theorem dc_Walk_comeAll_81 : decode cd_Walk_comeAll 81 = .ok (.aload_n 0, 1) := by decide +kernel
theorem dc_Walk_comeAll_82 : decode cd_Walk_comeAll 82 = .ok (.getfield 18, 3) := by decide +kernel
theorem dc_Walk_comeAll_85 : decode cd_Walk_comeAll 85 = .ok (.iload 4, 2) := by decide +kernel
theorem dc_Walk_comeAll_87 : decode cd_Walk_comeAll 87 = .ok (.iload_n 1, 1) := by decide +kernel
theorem dc_Walk_comeAll_88 : decode cd_Walk_comeAll 88 = .ok (.iastore, 1) := by decide +kernel
theorem dc_Walk_comeAll_89 : decode cd_Walk_comeAll 89 = .ok (.aload_n 0, 1) := by decide +kernel
theorem dc_Walk_comeAll_90 : decode cd_Walk_comeAll 90 = .ok (.getfield 21, 3) := by decide +kernel
theorem dc_Walk_comeAll_93 : decode cd_Walk_comeAll 93 = .ok (.iload 4, 2) := by decide +kernel
theorem dc_Walk_comeAll_95 : decode cd_Walk_comeAll 95 = .ok (.sipush 239, 3) := by decide +kernel
theorem dc_Walk_comeAll_98 : decode cd_Walk_comeAll 98 = .ok (.iastore, 1) := by decide +kernel
theorem dc_Walk_comeAll_99 : decode cd_Walk_comeAll 99 = .ok (.aload_n 0, 1) := by decide +kernel
theorem dc_Walk_comeAll_100 : decode cd_Walk_comeAll 100 = .ok (.getfield 9, 3) := by decide +kernel
theorem dc_Walk_comeAll_103 : decode cd_Walk_comeAll 103 = .ok (.iload_n 2, 1) := by decide +kernel
theorem dc_Walk_comeAll_104 : decode cd_Walk_comeAll 104 = .ok (.dup2, 1) := by decide +kernel
theorem dc_Walk_comeAll_105 : decode cd_Walk_comeAll 105 = .ok (.iaload, 1) := by decide +kernel
theorem dc_Walk_comeAll_106 : decode cd_Walk_comeAll 106 = .ok (.iconst 1, 1) := by decide +kernel
theorem dc_Walk_comeAll_107 : decode cd_Walk_comeAll 107 = .ok (.iadd, 1) := by decide +kernel
theorem dc_Walk_comeAll_108 : decode cd_Walk_comeAll 108 = .ok (.iastore, 1) := by decide +kernel
theorem dc_Walk_comeAll_109 : decode cd_Walk_comeAll 109 = .ok (.aload_n 0, 1) := by decide +kernel
theorem dc_Walk_comeAll_110 : decode cd_Walk_comeAll 110 = .ok (.dup, 1) := by decide +kernel
theorem dc_Walk_comeAll_111 : decode cd_Walk_comeAll 111 = .ok (.getfield 35, 3) := by decide +kernel
theorem dc_Walk_comeAll_114 : decode cd_Walk_comeAll 114 = .ok (.iconst 1, 1) := by decide +kernel
theorem dc_Walk_comeAll_115 : decode cd_Walk_comeAll 115 = .ok (.iload_n 2, 1) := by decide +kernel
theorem dc_Walk_comeAll_116 : decode cd_Walk_comeAll 116 = .ok (.ishl, 1) := by decide +kernel
theorem dc_Walk_comeAll_117 : decode cd_Walk_comeAll 117 = .ok (.ior, 1) := by decide +kernel
theorem dc_Walk_comeAll_118 : decode cd_Walk_comeAll 118 = .ok (.putfield 35, 3) := by decide +kernel
theorem dc_Walk_comeAll_121 : decode cd_Walk_comeAll 121 = .ok (.aload_n 0, 1) := by decide +kernel
theorem dc_Walk_comeAll_122 : decode cd_Walk_comeAll 122 = .ok (.getfield 24, 3) := by decide +kernel
theorem dc_Walk_comeAll_125 : decode cd_Walk_comeAll 125 = .ok (.iload_n 2, 1) := by decide +kernel
theorem dc_Walk_comeAll_126 : decode cd_Walk_comeAll 126 = .ok (.aload_n 0, 1) := by decide +kernel
theorem dc_Walk_comeAll_127 : decode cd_Walk_comeAll 127 = .ok (.iload_n 2, 1) := by decide +kernel
theorem dc_Walk_comeAll_128 : decode cd_Walk_comeAll 128 = .ok (.invokevirtual 89, 3) := by decide +kernel
theorem dc_Walk_comeAll_131 : decode cd_Walk_comeAll 131 = .ok (.iconst (-1), 1) := by decide +kernel
theorem dc_Walk_comeAll_132 : decode cd_Walk_comeAll 132 = .ok (.if_icmp .ne 8, 3) := by decide +kernel
theorem dc_Walk_comeAll_135 : decode cd_Walk_comeAll 135 = .ok (.ldc 62, 2) := by decide +kernel
theorem dc_Walk_comeAll_137 : decode cd_Walk_comeAll 137 = .ok (.goto 16, 3) := by decide +kernel
theorem dc_Walk_comeAll_140 : decode cd_Walk_comeAll 140 = .ok (.iload_n 1, 1) := by decide +kernel
theorem dc_Walk_comeAll_141 : decode cd_Walk_comeAll 141 = .ok (.aload_n 3, 1) := by decide +kernel
theorem dc_Walk_comeAll_142 : decode cd_Walk_comeAll 142 = .ok (.aload_n 0, 1) := by decide +kernel
theorem dc_Walk_comeAll_143 : decode cd_Walk_comeAll 143 = .ok (.getfield 15, 3) := by decide +kernel
theorem dc_Walk_comeAll_146 : decode cd_Walk_comeAll 146 = .ok (.iload 4, 2) := by decide +kernel
theorem dc_Walk_comeAll_148 : decode cd_Walk_comeAll 148 = .ok (.iaload, 1) := by decide +kernel
theorem dc_Walk_comeAll_149 : decode cd_Walk_comeAll 149 = .ok (.invokestatic 93, 3) := by decide +kernel
theorem dc_Walk_comeAll_152 : decode cd_Walk_comeAll 152 = .ok (.iadd, 1) := by decide +kernel
theorem dc_Walk_comeAll_153 : decode cd_Walk_comeAll 153 = .ok (.iastore, 1) := by decide +kernel
theorem dc_Walk_comeAll_154 : decode cd_Walk_comeAll 154 = .ok (.iinc 2 1, 3) := by decide +kernel
theorem dc_Walk_comeAll_157 : decode cd_Walk_comeAll 157 = .ok (.goto (-155), 3) := by decide +kernel
theorem dc_Walk_comeAll_160 : decode cd_Walk_comeAll 160 = .ok (.return_, 1) := by decide +kernel
theorem dc_Walk_off_0 : decode cd_Walk_off 0 = .ok (.aload_n 0, 1) := by decide +kernel
theorem dc_Walk_off_1 : decode cd_Walk_off 1 = .ok (.iload_n 1, 1) := by decide +kernel
theorem dc_Walk_off_2 : decode cd_Walk_off 2 = .ok (.aload_n 0, 1) := by decide +kernel
theorem dc_Walk_off_3 : decode cd_Walk_off 3 = .ok (.getfield 31, 3) := by decide +kernel
theorem dc_Walk_off_6 : decode cd_Walk_off 6 = .ok (.getfield 133, 3) := by decide +kernel
theorem dc_Walk_off_9 : decode cd_Walk_off 9 = .ok (.iload_n 1, 1) := by decide +kernel
theorem dc_Walk_off_10 : decode cd_Walk_off 10 = .ok (.iaload, 1) := by decide +kernel
theorem dc_Walk_off_11 : decode cd_Walk_off 11 = .ok (.invokevirtual 142, 3) := by decide +kernel
theorem dc_Walk_off_14 : decode cd_Walk_off 14 = .ok (.ireturn, 1) := by decide +kernel
theorem dc_Walk_missing_0 : decode cd_Walk_missing 0 = .ok (.iconst 0, 1) := by decide +kernel
theorem dc_Walk_missing_1 : decode cd_Walk_missing 1 = .ok (.istore_n 1, 1) := by decide +kernel
theorem dc_Walk_missing_2 : decode cd_Walk_missing 2 = .ok (.iconst 0, 1) := by decide +kernel
theorem dc_Walk_missing_3 : decode cd_Walk_missing 3 = .ok (.istore_n 2, 1) := by decide +kernel
theorem dc_Walk_missing_4 : decode cd_Walk_missing 4 = .ok (.iload_n 2, 1) := by decide +kernel
theorem dc_Walk_missing_5 : decode cd_Walk_missing 5 = .ok (.aload_n 0, 1) := by decide +kernel
theorem dc_Walk_missing_6 : decode cd_Walk_missing 6 = .ok (.getfield 27, 3) := by decide +kernel
theorem dc_Walk_missing_9 : decode cd_Walk_missing 9 = .ok (.getfield 170, 3) := by decide +kernel
theorem dc_Walk_missing_12 : decode cd_Walk_missing 12 = .ok (.if_icmp .ge 21, 3) := by decide +kernel
theorem dc_Walk_missing_15 : decode cd_Walk_missing 15 = .ok (.aload_n 0, 1) := by decide +kernel
theorem dc_Walk_missing_16 : decode cd_Walk_missing 16 = .ok (.iload_n 2, 1) := by decide +kernel
theorem dc_Walk_missing_17 : decode cd_Walk_missing 17 = .ok (.invokevirtual 158, 3) := by decide +kernel
theorem dc_Walk_missing_20 : decode cd_Walk_missing 20 = .ok (.iconst (-1), 1) := by decide +kernel
theorem dc_Walk_missing_21 : decode cd_Walk_missing 21 = .ok (.if_icmp .ne 6, 3) := by decide +kernel
theorem dc_Walk_missing_24 : decode cd_Walk_missing 24 = .ok (.iinc 1 1, 3) := by decide +kernel
theorem dc_Walk_missing_27 : decode cd_Walk_missing 27 = .ok (.iinc 2 1, 3) := by decide +kernel
theorem dc_Walk_missing_30 : decode cd_Walk_missing 30 = .ok (.goto (-26), 3) := by decide +kernel
theorem dc_Walk_missing_33 : decode cd_Walk_missing 33 = .ok (.iload_n 1, 1) := by decide +kernel
theorem dc_Walk_missing_34 : decode cd_Walk_missing 34 = .ok (.ireturn, 1) := by decide +kernel
theorem dc_Walk_meetings_0 : decode cd_Walk_meetings 0 = .ok (.iconst 0, 1) := by decide +kernel
theorem dc_Walk_meetings_1 : decode cd_Walk_meetings 1 = .ok (.istore_n 1, 1) := by decide +kernel
theorem dc_Walk_meetings_2 : decode cd_Walk_meetings 2 = .ok (.iconst 0, 1) := by decide +kernel
theorem dc_Walk_meetings_3 : decode cd_Walk_meetings 3 = .ok (.istore_n 2, 1) := by decide +kernel
theorem dc_Walk_meetings_4 : decode cd_Walk_meetings 4 = .ok (.iload_n 2, 1) := by decide +kernel
theorem dc_Walk_meetings_5 : decode cd_Walk_meetings 5 = .ok (.aload_n 0, 1) := by decide +kernel
theorem dc_Walk_meetings_6 : decode cd_Walk_meetings 6 = .ok (.getfield 27, 3) := by decide +kernel
theorem dc_Walk_meetings_9 : decode cd_Walk_meetings 9 = .ok (.getfield 39, 3) := by decide +kernel
theorem dc_Walk_meetings_12 : decode cd_Walk_meetings 12 = .ok (.if_icmp .ge 43, 3) := by decide +kernel
theorem dc_Walk_meetings_15 : decode cd_Walk_meetings 15 = .ok (.iload_n 2, 1) := by decide +kernel
theorem dc_Walk_meetings_16 : decode cd_Walk_meetings 16 = .ok (.iconst 1, 1) := by decide +kernel
theorem dc_Walk_meetings_17 : decode cd_Walk_meetings 17 = .ok (.iadd, 1) := by decide +kernel
theorem dc_Walk_meetings_18 : decode cd_Walk_meetings 18 = .ok (.istore_n 3, 1) := by decide +kernel
theorem dc_Walk_meetings_19 : decode cd_Walk_meetings 19 = .ok (.iload_n 3, 1) := by decide +kernel
theorem dc_Walk_meetings_20 : decode cd_Walk_meetings 20 = .ok (.aload_n 0, 1) := by decide +kernel
theorem dc_Walk_meetings_21 : decode cd_Walk_meetings 21 = .ok (.getfield 27, 3) := by decide +kernel
theorem dc_Walk_meetings_24 : decode cd_Walk_meetings 24 = .ok (.getfield 39, 3) := by decide +kernel
theorem dc_Walk_meetings_27 : decode cd_Walk_meetings 27 = .ok (.if_icmp .ge 22, 3) := by decide +kernel
theorem dc_Walk_meetings_30 : decode cd_Walk_meetings 30 = .ok (.aload_n 0, 1) := by decide +kernel
theorem dc_Walk_meetings_31 : decode cd_Walk_meetings 31 = .ok (.iload_n 2, 1) := by decide +kernel
theorem dc_Walk_meetings_32 : decode cd_Walk_meetings 32 = .ok (.iload_n 3, 1) := by decide +kernel
theorem dc_Walk_meetings_33 : decode cd_Walk_meetings 33 = .ok (.invokevirtual 175, 3) := by decide +kernel
theorem dc_Walk_meetings_36 : decode cd_Walk_meetings 36 = .ok (.iconst (-1), 1) := by decide +kernel
theorem dc_Walk_meetings_37 : decode cd_Walk_meetings 37 = .ok (.if_icmp .eq 6, 3) := by decide +kernel
theorem dc_Walk_meetings_40 : decode cd_Walk_meetings 40 = .ok (.iinc 1 1, 3) := by decide +kernel
theorem dc_Walk_meetings_43 : decode cd_Walk_meetings 43 = .ok (.iinc 3 1, 3) := by decide +kernel
theorem dc_Walk_meetings_46 : decode cd_Walk_meetings 46 = .ok (.goto (-27), 3) := by decide +kernel
theorem dc_Walk_meetings_49 : decode cd_Walk_meetings 49 = .ok (.iinc 2 1, 3) := by decide +kernel
theorem dc_Walk_meetings_52 : decode cd_Walk_meetings 52 = .ok (.goto (-48), 3) := by decide +kernel
theorem dc_Walk_meetings_55 : decode cd_Walk_meetings 55 = .ok (.iload_n 1, 1) := by decide +kernel
theorem dc_Walk_meetings_56 : decode cd_Walk_meetings 56 = .ok (.ireturn, 1) := by decide +kernel
theorem dc_String_indexOf2_0 : decode cd_String_indexOf2 0 = .ok (.aload_n 0, 1) := by decide +kernel
theorem dc_String_indexOf2_1 : decode cd_String_indexOf2 1 = .ok (.invokevirtual 492, 3) := by decide +kernel
theorem dc_String_indexOf2_4 : decode cd_String_indexOf2 4 = .ok (.ifCond .eq 19, 3) := by decide +kernel
theorem dc_String_indexOf2_7 : decode cd_String_indexOf2 7 = .ok (.aload_n 0, 1) := by decide +kernel
theorem dc_String_indexOf2_8 : decode cd_String_indexOf2 8 = .ok (.getfield 9, 3) := by decide +kernel
theorem dc_String_indexOf2_11 : decode cd_String_indexOf2 11 = .ok (.iload_n 1, 1) := by decide +kernel
theorem dc_String_indexOf2_12 : decode cd_String_indexOf2 12 = .ok (.iload_n 2, 1) := by decide +kernel
theorem dc_String_indexOf2_13 : decode cd_String_indexOf2 13 = .ok (.aload_n 0, 1) := by decide +kernel
theorem dc_String_indexOf2_14 : decode cd_String_indexOf2 14 = .ok (.invokevirtual 505, 3) := by decide +kernel
theorem dc_String_indexOf2_17 : decode cd_String_indexOf2 17 = .ok (.invokestatic 637, 3) := by decide +kernel
theorem dc_String_indexOf2_20 : decode cd_String_indexOf2 20 = .ok (.goto 16, 3) := by decide +kernel
theorem dc_String_indexOf2_23 : decode cd_String_indexOf2 23 = .ok (.aload_n 0, 1) := by decide +kernel
theorem dc_String_indexOf2_24 : decode cd_String_indexOf2 24 = .ok (.getfield 9, 3) := by decide +kernel
theorem dc_String_indexOf2_27 : decode cd_String_indexOf2 27 = .ok (.iload_n 1, 1) := by decide +kernel
theorem dc_String_indexOf2_28 : decode cd_String_indexOf2 28 = .ok (.iload_n 2, 1) := by decide +kernel
theorem dc_String_indexOf2_29 : decode cd_String_indexOf2 29 = .ok (.aload_n 0, 1) := by decide +kernel
theorem dc_String_indexOf2_30 : decode cd_String_indexOf2 30 = .ok (.invokevirtual 505, 3) := by decide +kernel
theorem dc_String_indexOf2_33 : decode cd_String_indexOf2 33 = .ok (.invokestatic 640, 3) := by decide +kernel
theorem dc_String_indexOf2_36 : decode cd_String_indexOf2 36 = .ok (.ireturn, 1) := by decide +kernel
theorem dc_HillsReader_whichPlace_0 : decode cd_HillsReader_whichPlace 0 = .ok (.aload_n 0, 1) := by decide +kernel
theorem dc_HillsReader_whichPlace_1 : decode cd_HillsReader_whichPlace 1 = .ok (.getfield 9, 3) := by decide +kernel
theorem dc_HillsReader_whichPlace_4 : decode cd_HillsReader_whichPlace 4 = .ok (.aload_n 0, 1) := by decide +kernel
theorem dc_HillsReader_whichPlace_5 : decode cd_HillsReader_whichPlace 5 = .ok (.getfield 15, 3) := by decide +kernel
theorem dc_HillsReader_whichPlace_8 : decode cd_HillsReader_whichPlace 8 = .ok (.getfield 124, 3) := by decide +kernel
theorem dc_HillsReader_whichPlace_11 : decode cd_HillsReader_whichPlace 11 = .ok (.aload_n 0, 1) := by decide +kernel
theorem dc_HillsReader_whichPlace_12 : decode cd_HillsReader_whichPlace 12 = .ok (.getfield 15, 3) := by decide +kernel
theorem dc_HillsReader_whichPlace_15 : decode cd_HillsReader_whichPlace 15 = .ok (.getfield 46, 3) := by decide +kernel
theorem dc_HillsReader_whichPlace_18 : decode cd_HillsReader_whichPlace 18 = .ok (.invokevirtual 128, 3) := by decide +kernel
theorem dc_HillsReader_whichPlace_21 : decode cd_HillsReader_whichPlace 21 = .ok (.ireturn, 1) := by decide +kernel
theorem dc_HillsReader_whichWalker_0 : decode cd_HillsReader_whichWalker 0 = .ok (.aload_n 0, 1) := by decide +kernel
theorem dc_HillsReader_whichWalker_1 : decode cd_HillsReader_whichWalker 1 = .ok (.getfield 9, 3) := by decide +kernel
theorem dc_HillsReader_whichWalker_4 : decode cd_HillsReader_whichWalker 4 = .ok (.aload_n 0, 1) := by decide +kernel
theorem dc_HillsReader_whichWalker_5 : decode cd_HillsReader_whichWalker 5 = .ok (.getfield 15, 3) := by decide +kernel
theorem dc_HillsReader_whichWalker_8 : decode cd_HillsReader_whichWalker 8 = .ok (.getfield 132, 3) := by decide +kernel
theorem dc_HillsReader_whichWalker_11 : decode cd_HillsReader_whichWalker 11 = .ok (.aload_n 0, 1) := by decide +kernel
theorem dc_HillsReader_whichWalker_12 : decode cd_HillsReader_whichWalker 12 = .ok (.getfield 15, 3) := by decide +kernel
theorem dc_HillsReader_whichWalker_15 : decode cd_HillsReader_whichWalker 15 = .ok (.getfield 70, 3) := by decide +kernel
theorem dc_HillsReader_whichWalker_18 : decode cd_HillsReader_whichWalker 18 = .ok (.invokevirtual 128, 3) := by decide +kernel
theorem dc_HillsReader_whichWalker_21 : decode cd_HillsReader_whichWalker 21 = .ok (.ireturn, 1) := by decide +kernel
theorem dc_Walk_go_0 : decode cd_Walk_go 0 = .ok (.aload_n 0, 1) := by decide +kernel
theorem dc_Walk_go_1 : decode cd_Walk_go 1 = .ok (.aload_n 1, 1) := by decide +kernel
theorem dc_Walk_go_2 : decode cd_Walk_go 2 = .ok (.putfield 27, 3) := by decide +kernel
theorem dc_Walk_go_5 : decode cd_Walk_go 5 = .ok (.aload_n 0, 1) := by decide +kernel
theorem dc_Walk_go_6 : decode cd_Walk_go 6 = .ok (.aload_n 2, 1) := by decide +kernel
theorem dc_Walk_go_7 : decode cd_Walk_go 7 = .ok (.putfield 31, 3) := by decide +kernel
theorem dc_Walk_go_10 : decode cd_Walk_go 10 = .ok (.aload_n 0, 1) := by decide +kernel
theorem dc_Walk_go_11 : decode cd_Walk_go 11 = .ok (.iconst 0, 1) := by decide +kernel
theorem dc_Walk_go_12 : decode cd_Walk_go 12 = .ok (.putfield 35, 3) := by decide +kernel
theorem dc_Walk_go_15 : decode cd_Walk_go 15 = .ok (.iconst 0, 1) := by decide +kernel
theorem dc_Walk_go_16 : decode cd_Walk_go 16 = .ok (.istore_n 3, 1) := by decide +kernel
theorem dc_Walk_go_17 : decode cd_Walk_go 17 = .ok (.iload_n 3, 1) := by decide +kernel
theorem dc_Walk_go_18 : decode cd_Walk_go 18 = .ok (.aload_n 1, 1) := by decide +kernel
theorem dc_Walk_go_19 : decode cd_Walk_go 19 = .ok (.getfield 39, 3) := by decide +kernel
theorem dc_Walk_go_22 : decode cd_Walk_go 22 = .ok (.if_icmp .ge 51, 3) := by decide +kernel
theorem dc_Walk_go_25 : decode cd_Walk_go 25 = .ok (.aload_n 0, 1) := by decide +kernel
theorem dc_Walk_go_26 : decode cd_Walk_go 26 = .ok (.getfield 9, 3) := by decide +kernel
theorem dc_Walk_go_29 : decode cd_Walk_go 29 = .ok (.iload_n 3, 1) := by decide +kernel
theorem dc_Walk_go_30 : decode cd_Walk_go 30 = .ok (.iconst 0, 1) := by decide +kernel
theorem dc_Walk_go_31 : decode cd_Walk_go 31 = .ok (.iastore, 1) := by decide +kernel
theorem dc_Walk_go_32 : decode cd_Walk_go 32 = .ok (.aload_n 0, 1) := by decide +kernel
theorem dc_Walk_go_33 : decode cd_Walk_go 33 = .ok (.getfield 24, 3) := by decide +kernel
theorem dc_Walk_go_36 : decode cd_Walk_go 36 = .ok (.iload_n 3, 1) := by decide +kernel
theorem dc_Walk_go_37 : decode cd_Walk_go 37 = .ok (.aload_n 2, 1) := by decide +kernel
theorem dc_Walk_go_38 : decode cd_Walk_go 38 = .ok (.iload_n 3, 1) := by decide +kernel
theorem dc_Walk_go_39 : decode cd_Walk_go 39 = .ok (.invokevirtual 44, 3) := by decide +kernel
theorem dc_Walk_go_42 : decode cd_Walk_go 42 = .ok (.ifCond .eq 22, 3) := by decide +kernel
theorem dc_Walk_go_45 : decode cd_Walk_go 45 = .ok (.aload_n 1, 1) := by decide +kernel
theorem dc_Walk_go_46 : decode cd_Walk_go 46 = .ok (.getfield 50, 3) := by decide +kernel
theorem dc_Walk_go_49 : decode cd_Walk_go 49 = .ok (.iload_n 3, 1) := by decide +kernel
theorem dc_Walk_go_50 : decode cd_Walk_go 50 = .ok (.aaload, 1) := by decide +kernel
theorem dc_Walk_go_51 : decode cd_Walk_go 51 = .ok (.getfield 54, 3) := by decide +kernel
theorem dc_Walk_go_54 : decode cd_Walk_go 54 = .ok (.aload_n 2, 1) := by decide +kernel
theorem dc_Walk_go_55 : decode cd_Walk_go 55 = .ok (.getfield 59, 3) := by decide +kernel
theorem dc_Walk_go_58 : decode cd_Walk_go 58 = .ok (.iload_n 3, 1) := by decide +kernel
theorem dc_Walk_go_59 : decode cd_Walk_go 59 = .ok (.iaload, 1) := by decide +kernel
theorem dc_Walk_go_60 : decode cd_Walk_go 60 = .ok (.iadd, 1) := by decide +kernel
theorem dc_Walk_go_61 : decode cd_Walk_go 61 = .ok (.goto 5, 3) := by decide +kernel
theorem dc_Walk_go_64 : decode cd_Walk_go 64 = .ok (.ldc 62, 2) := by decide +kernel
theorem dc_Walk_go_66 : decode cd_Walk_go 66 = .ok (.iastore, 1) := by decide +kernel
theorem dc_Walk_go_67 : decode cd_Walk_go 67 = .ok (.iinc 3 1, 3) := by decide +kernel
theorem dc_Walk_go_70 : decode cd_Walk_go 70 = .ok (.goto (-53), 3) := by decide +kernel
theorem dc_Walk_go_73 : decode cd_Walk_go 73 = .ok (.aload_n 0, 1) := by decide +kernel
theorem dc_Walk_go_74 : decode cd_Walk_go 74 = .ok (.invokevirtual 63, 3) := by decide +kernel
theorem dc_Walk_go_77 : decode cd_Walk_go 77 = .ok (.istore_n 3, 1) := by decide +kernel
theorem dc_Walk_go_78 : decode cd_Walk_go 78 = .ok (.iconst 0, 1) := by decide +kernel
theorem dc_Walk_go_79 : decode cd_Walk_go 79 = .ok (.istore 4, 2) := by decide +kernel
theorem dc_Walk_go_81 : decode cd_Walk_go 81 = .ok (.iload 4, 2) := by decide +kernel
theorem dc_Walk_go_83 : decode cd_Walk_go 83 = .ok (.sipush 240, 3) := by decide +kernel
theorem dc_Walk_go_86 : decode cd_Walk_go 86 = .ok (.if_icmp .ge 36, 3) := by decide +kernel
theorem dc_Walk_go_89 : decode cd_Walk_go 89 = .ok (.iload_n 3, 1) := by decide +kernel
theorem dc_Walk_go_90 : decode cd_Walk_go 90 = .ok (.sipush 240, 3) := by decide +kernel
theorem dc_Walk_go_93 : decode cd_Walk_go 93 = .ok (.if_icmp .ge 29, 3) := by decide +kernel
theorem dc_Walk_go_96 : decode cd_Walk_go 96 = .ok (.aload_n 0, 1) := by decide +kernel
theorem dc_Walk_go_97 : decode cd_Walk_go 97 = .ok (.iload_n 3, 1) := by decide +kernel
theorem dc_Walk_go_98 : decode cd_Walk_go 98 = .ok (.invokevirtual 67, 3) := by decide +kernel
theorem dc_Walk_go_101 : decode cd_Walk_go 101 = .ok (.aload_n 0, 1) := by decide +kernel
theorem dc_Walk_go_102 : decode cd_Walk_go 102 = .ok (.iload_n 3, 1) := by decide +kernel
theorem dc_Walk_go_103 : decode cd_Walk_go 103 = .ok (.invokevirtual 71, 3) := by decide +kernel
theorem dc_Walk_go_106 : decode cd_Walk_go 106 = .ok (.aload_n 0, 1) := by decide +kernel
theorem dc_Walk_go_107 : decode cd_Walk_go 107 = .ok (.iload_n 3, 1) := by decide +kernel
theorem dc_Walk_go_108 : decode cd_Walk_go 108 = .ok (.invokevirtual 74, 3) := by decide +kernel
theorem dc_Walk_go_111 : decode cd_Walk_go 111 = .ok (.aload_n 0, 1) := by decide +kernel
theorem dc_Walk_go_112 : decode cd_Walk_go 112 = .ok (.invokevirtual 63, 3) := by decide +kernel
theorem dc_Walk_go_115 : decode cd_Walk_go 115 = .ok (.istore_n 3, 1) := by decide +kernel
theorem dc_Walk_go_116 : decode cd_Walk_go 116 = .ok (.iinc 4 1, 3) := by decide +kernel
theorem dc_Walk_go_119 : decode cd_Walk_go 119 = .ok (.goto (-38), 3) := by decide +kernel
theorem dc_Walk_go_122 : decode cd_Walk_go 122 = .ok (.return_, 1) := by decide +kernel
theorem dc_Walk_cost_0 : decode cd_Walk_cost 0 = .ok (.aload_n 0, 1) := by decide +kernel
theorem dc_Walk_cost_1 : decode cd_Walk_cost 1 = .ok (.getfield 27, 3) := by decide +kernel
theorem dc_Walk_cost_4 : decode cd_Walk_cost 4 = .ok (.getfield 151, 3) := by decide +kernel
theorem dc_Walk_cost_7 : decode cd_Walk_cost 7 = .ok (.aload_n 0, 1) := by decide +kernel
theorem dc_Walk_cost_8 : decode cd_Walk_cost 8 = .ok (.iload_n 1, 1) := by decide +kernel
theorem dc_Walk_cost_9 : decode cd_Walk_cost 9 = .ok (.invokevirtual 155, 3) := by decide +kernel
theorem dc_Walk_cost_12 : decode cd_Walk_cost 12 = .ok (.aload_n 0, 1) := by decide +kernel
theorem dc_Walk_cost_13 : decode cd_Walk_cost 13 = .ok (.iload_n 1, 1) := by decide +kernel
theorem dc_Walk_cost_14 : decode cd_Walk_cost 14 = .ok (.invokevirtual 158, 3) := by decide +kernel
theorem dc_Walk_cost_17 : decode cd_Walk_cost 17 = .ok (.iconst (-1), 1) := by decide +kernel
theorem dc_Walk_cost_18 : decode cd_Walk_cost 18 = .ok (.if_icmp .ne 7, 3) := by decide +kernel
theorem dc_Walk_cost_21 : decode cd_Walk_cost 21 = .ok (.iconst 1, 1) := by decide +kernel
theorem dc_Walk_cost_22 : decode cd_Walk_cost 22 = .ok (.goto 4, 3) := by decide +kernel
theorem dc_Walk_cost_25 : decode cd_Walk_cost 25 = .ok (.iconst 0, 1) := by decide +kernel
theorem dc_Walk_cost_26 : decode cd_Walk_cost 26 = .ok (.aload_n 0, 1) := by decide +kernel
theorem dc_Walk_cost_27 : decode cd_Walk_cost 27 = .ok (.getfield 31, 3) := by decide +kernel
theorem dc_Walk_cost_30 : decode cd_Walk_cost 30 = .ok (.getfield 161, 3) := by decide +kernel
theorem dc_Walk_cost_33 : decode cd_Walk_cost 33 = .ok (.invokevirtual 164, 3) := by decide +kernel
theorem dc_Walk_cost_36 : decode cd_Walk_cost 36 = .ok (.ireturn, 1) := by decide +kernel
theorem dc_String_indexOf_0 : decode cd_String_indexOf 0 = .ok (.aload_n 0, 1) := by decide +kernel
