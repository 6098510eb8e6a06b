theorem dc_Model_readsPath_14 : decode cd_Model_readsPath 14 = .ok (.aload_n 0, 1) := by decide +kernel
theorem dc_Model_readsPath_15 : decode cd_Model_readsPath 15 = .ok (.getfield 322, 3) := by decide +kernel
theorem dc_Model_readsPath_18 : decode cd_Model_readsPath 18 = .ok (.istore_n 1, 1) := by decide +kernel
theorem dc_Model_readsPath_19 : decode cd_Model_readsPath 19 = .ok (.aload_n 0, 1) := by decide +kernel
theorem dc_Model_readsPath_20 : decode cd_Model_readsPath 20 = .ok (.invokevirtual 252, 3) := by decide +kernel
theorem dc_Model_readsPath_23 : decode cd_Model_readsPath 23 = .ok (.aload_n 0, 1) := by decide +kernel
theorem dc_Model_readsPath_24 : decode cd_Model_readsPath 24 = .ok (.iconst 1, 1) := by decide +kernel
theorem dc_Model_readsPath_25 : decode cd_Model_readsPath 25 = .ok (.invokevirtual 354, 3) := by decide +kernel
theorem dc_Model_readsPath_28 : decode cd_Model_readsPath 28 = .ok (.ifCond .ne 5, 3) := by decide +kernel
theorem dc_Model_readsPath_31 : decode cd_Model_readsPath 31 = .ok (.iconst 0, 1) := by decide +kernel
theorem dc_Model_readsPath_32 : decode cd_Model_readsPath 32 = .ok (.ireturn, 1) := by decide +kernel
theorem dc_Model_readsPath_33 : decode cd_Model_readsPath 33 = .ok (.aload_n 0, 1) := by decide +kernel
theorem dc_Model_readsPath_34 : decode cd_Model_readsPath 34 = .ok (.getfield 322, 3) := by decide +kernel
theorem dc_Model_readsPath_37 : decode cd_Model_readsPath 37 = .ok (.istore_n 2, 1) := by decide +kernel
theorem dc_Model_readsPath_38 : decode cd_Model_readsPath 38 = .ok (.iload_n 1, 1) := by decide +kernel
theorem dc_Model_readsPath_39 : decode cd_Model_readsPath 39 = .ok (.iload_n 2, 1) := by decide +kernel
theorem dc_Model_readsPath_40 : decode cd_Model_readsPath 40 = .ok (.if_icmp .eq 20, 3) := by decide +kernel
theorem dc_Model_readsPath_43 : decode cd_Model_readsPath 43 = .ok (.aload_n 0, 1) := by decide +kernel
theorem dc_Model_readsPath_44 : decode cd_Model_readsPath 44 = .ok (.getfield 26, 3) := by decide +kernel
theorem dc_Model_readsPath_47 : decode cd_Model_readsPath 47 = .ok (.bipush 36, 2) := by decide +kernel
theorem dc_Model_readsPath_49 : decode cd_Model_readsPath 49 = .ok (.bipush 6, 2) := by decide +kernel
theorem dc_Model_readsPath_51 : decode cd_Model_readsPath 51 = .ok (.iload_n 1, 1) := by decide +kernel
theorem dc_Model_readsPath_52 : decode cd_Model_readsPath 52 = .ok (.imul, 1) := by decide +kernel
theorem dc_Model_readsPath_53 : decode cd_Model_readsPath 53 = .ok (.iadd, 1) := by decide +kernel
theorem dc_Model_readsPath_54 : decode cd_Model_readsPath 54 = .ok (.iload_n 2, 1) := by decide +kernel
theorem dc_Model_readsPath_55 : decode cd_Model_readsPath 55 = .ok (.iadd, 1) := by decide +kernel
theorem dc_Model_readsPath_56 : decode cd_Model_readsPath 56 = .ok (.iaload, 1) := by decide +kernel
theorem dc_Model_readsPath_57 : decode cd_Model_readsPath 57 = .ok (.ifCond .le 9, 3) := by decide +kernel
theorem dc_Model_readsPath_60 : decode cd_Model_readsPath 60 = .ok (.aload_n 0, 1) := by decide +kernel
theorem dc_Model_readsPath_61 : decode cd_Model_readsPath 61 = .ok (.iconst 3, 1) := by decide +kernel
theorem dc_Model_readsPath_62 : decode cd_Model_readsPath 62 = .ok (.invokevirtual 245, 3) := by decide +kernel
theorem dc_Model_readsPath_65 : decode cd_Model_readsPath 65 = .ok (.ireturn, 1) := by decide +kernel
theorem dc_Model_readsPath_66 : decode cd_Model_readsPath 66 = .ok (.aload_n 0, 1) := by decide +kernel
theorem dc_Model_readsPath_67 : decode cd_Model_readsPath 67 = .ok (.invokevirtual 252, 3) := by decide +kernel
theorem dc_Model_readsPath_70 : decode cd_Model_readsPath 70 = .ok (.aload_n 0, 1) := by decide +kernel
theorem dc_Model_readsPath_71 : decode cd_Model_readsPath 71 = .ok (.iconst 1, 1) := by decide +kernel
theorem dc_Model_readsPath_72 : decode cd_Model_readsPath 72 = .ok (.bipush 30, 2) := by decide +kernel
theorem dc_Model_readsPath_74 : decode cd_Model_readsPath 74 = .ok (.invokevirtual 328, 3) := by decide +kernel
theorem dc_Model_readsPath_77 : decode cd_Model_readsPath 77 = .ok (.ifCond .ne 5, 3) := by decide +kernel
theorem dc_Model_readsPath_80 : decode cd_Model_readsPath 80 = .ok (.iconst 0, 1) := by decide +kernel
theorem dc_Model_readsPath_81 : decode cd_Model_readsPath 81 = .ok (.ireturn, 1) := by decide +kernel
theorem dc_Model_readsPath_82 : decode cd_Model_readsPath 82 = .ok (.aload_n 0, 1) := by decide +kernel
theorem dc_Model_readsPath_83 : decode cd_Model_readsPath 83 = .ok (.getfield 26, 3) := by decide +kernel
theorem dc_Model_readsPath_86 : decode cd_Model_readsPath 86 = .ok (.bipush 36, 2) := by decide +kernel
theorem dc_Model_readsPath_88 : decode cd_Model_readsPath 88 = .ok (.bipush 6, 2) := by decide +kernel
theorem dc_Model_readsPath_90 : decode cd_Model_readsPath 90 = .ok (.iload_n 1, 1) := by decide +kernel
theorem dc_Model_readsPath_91 : decode cd_Model_readsPath 91 = .ok (.imul, 1) := by decide +kernel
theorem dc_Model_readsPath_92 : decode cd_Model_readsPath 92 = .ok (.iadd, 1) := by decide +kernel
theorem dc_Model_readsPath_93 : decode cd_Model_readsPath 93 = .ok (.iload_n 2, 1) := by decide +kernel
theorem dc_Model_readsPath_94 : decode cd_Model_readsPath 94 = .ok (.iadd, 1) := by decide +kernel
theorem dc_Model_readsPath_95 : decode cd_Model_readsPath 95 = .ok (.aload_n 0, 1) := by decide +kernel
theorem dc_Model_readsPath_96 : decode cd_Model_readsPath 96 = .ok (.getfield 322, 3) := by decide +kernel
theorem dc_Model_readsPath_99 : decode cd_Model_readsPath 99 = .ok (.iastore, 1) := by decide +kernel
theorem dc_Model_readsPath_100 : decode cd_Model_readsPath 100 = .ok (.aload_n 0, 1) := by decide +kernel
theorem dc_Model_readsPath_101 : decode cd_Model_readsPath 101 = .ok (.getfield 26, 3) := by decide +kernel
theorem dc_Model_readsPath_104 : decode cd_Model_readsPath 104 = .ok (.bipush 36, 2) := by decide +kernel
theorem dc_Model_readsPath_106 : decode cd_Model_readsPath 106 = .ok (.bipush 6, 2) := by decide +kernel
theorem dc_Model_readsPath_108 : decode cd_Model_readsPath 108 = .ok (.iload_n 2, 1) := by decide +kernel
theorem dc_Model_readsPath_109 : decode cd_Model_readsPath 109 = .ok (.imul, 1) := by decide +kernel
theorem dc_Model_readsPath_110 : decode cd_Model_readsPath 110 = .ok (.iadd, 1) := by decide +kernel
theorem dc_Model_readsPath_111 : decode cd_Model_readsPath 111 = .ok (.iload_n 1, 1) := by decide +kernel
theorem dc_Model_readsPath_112 : decode cd_Model_readsPath 112 = .ok (.iadd, 1) := by decide +kernel
theorem dc_Model_readsPath_113 : decode cd_Model_readsPath 113 = .ok (.aload_n 0, 1) := by decide +kernel
theorem dc_Model_readsPath_114 : decode cd_Model_readsPath 114 = .ok (.getfield 322, 3) := by decide +kernel
theorem dc_Model_readsPath_117 : decode cd_Model_readsPath 117 = .ok (.iastore, 1) := by decide +kernel
theorem dc_Model_readsPath_118 : decode cd_Model_readsPath 118 = .ok (.aload_n 0, 1) := by decide +kernel
theorem dc_Model_readsPath_119 : decode cd_Model_readsPath 119 = .ok (.getfield 13, 3) := by decide +kernel
theorem dc_Model_readsPath_122 : decode cd_Model_readsPath 122 = .ok (.bipush 8, 2) := by decide +kernel
theorem dc_Model_readsPath_124 : decode cd_Model_readsPath 124 = .ok (.dup2, 1) := by decide +kernel
theorem dc_Model_readsPath_125 : decode cd_Model_readsPath 125 = .ok (.iaload, 1) := by decide +kernel
theorem dc_Model_readsPath_126 : decode cd_Model_readsPath 126 = .ok (.iconst 1, 1) := by decide +kernel
theorem dc_Model_readsPath_127 : decode cd_Model_readsPath 127 = .ok (.iadd, 1) := by decide +kernel
theorem dc_Model_readsPath_128 : decode cd_Model_readsPath 128 = .ok (.iastore, 1) := by decide +kernel
theorem dc_Model_readsPath_129 : decode cd_Model_readsPath 129 = .ok (.aload_n 0, 1) := by decide +kernel
theorem dc_Model_readsPath_130 : decode cd_Model_readsPath 130 = .ok (.invokevirtual 351, 3) := by decide +kernel
theorem dc_Model_readsPath_133 : decode cd_Model_readsPath 133 = .ok (.ireturn, 1) := by decide +kernel
theorem dc_Model_readsRound_0 : decode cd_Model_readsRound 0 = .ok (.aload_n 0, 1) := by decide +kernel
theorem dc_Model_readsRound_1 : decode cd_Model_readsRound 1 = .ok (.getfield 44, 3) := by decide +kernel
theorem dc_Model_readsRound_4 : decode cd_Model_readsRound 4 = .ok (.iload_n 1, 1) := by decide +kernel
theorem dc_Model_readsRound_5 : decode cd_Model_readsRound 5 = .ok (.iconst 0, 1) := by decide +kernel
theorem dc_Model_readsRound_6 : decode cd_Model_readsRound 6 = .ok (.iastore, 1) := by decide +kernel
theorem dc_Model_readsRound_7 : decode cd_Model_readsRound 7 = .ok (.iconst (-1), 1) := by decide +kernel
theorem dc_Model_readsRound_8 : decode cd_Model_readsRound 8 = .ok (.istore_n 2, 1) := by decide +kernel
theorem dc_Model_readsRound_9 : decode cd_Model_readsRound 9 = .ok (.aload_n 0, 1) := by decide +kernel
theorem dc_Model_readsRound_10 : decode cd_Model_readsRound 10 = .ok (.getfield 44, 3) := by decide +kernel
theorem dc_Model_readsRound_13 : decode cd_Model_readsRound 13 = .ok (.iload_n 1, 1) := by decide +kernel
theorem dc_Model_readsRound_14 : decode cd_Model_readsRound 14 = .ok (.iaload, 1) := by decide +kernel
theorem dc_Model_readsRound_15 : decode cd_Model_readsRound 15 = .ok (.iconst 2, 1) := by decide +kernel
theorem dc_Model_readsRound_16 : decode cd_Model_readsRound 16 = .ok (.if_icmp .lt 12, 3) := by decide +kernel
theorem dc_Model_readsRound_19 : decode cd_Model_readsRound 19 = .ok (.aload_n 0, 1) := by decide +kernel
theorem dc_Model_readsRound_20 : decode cd_Model_readsRound 20 = .ok (.bipush 59, 2) := by decide +kernel
theorem dc_Model_readsRound_22 : decode cd_Model_readsRound 22 = .ok (.invokevirtual 241, 3) := by decide +kernel
theorem dc_Model_readsRound_25 : decode cd_Model_readsRound 25 = .ok (.ifCond .ne 84, 3) := by decide +kernel
theorem dc_Model_readsRound_28 : decode cd_Model_readsRound 28 = .ok (.aload_n 0, 1) := by decide +kernel
theorem dc_Model_readsRound_29 : decode cd_Model_readsRound 29 = .ok (.iconst 1, 1) := by decide +kernel
theorem dc_Model_readsRound_30 : decode cd_Model_readsRound 30 = .ok (.invokevirtual 354, 3) := by decide +kernel
theorem dc_Model_readsRound_33 : decode cd_Model_readsRound 33 = .ok (.ifCond .ne 5, 3) := by decide +kernel
theorem dc_Model_readsRound_36 : decode cd_Model_readsRound 36 = .ok (.iconst 0, 1) := by decide +kernel
theorem dc_Model_readsRound_37 : decode cd_Model_readsRound 37 = .ok (.ireturn, 1) := by decide +kernel
theorem dc_Model_readsRound_38 : decode cd_Model_readsRound 38 = .ok (.aload_n 0, 1) := by decide +kernel
theorem dc_Model_readsRound_39 : decode cd_Model_readsRound 39 = .ok (.getfield 322, 3) := by decide +kernel
theorem dc_Model_readsRound_42 : decode cd_Model_readsRound 42 = .ok (.iload_n 2, 1) := by decide +kernel
theorem dc_Model_readsRound_43 : decode cd_Model_readsRound 43 = .ok (.if_icmp .ne 9, 3) := by decide +kernel
theorem dc_Model_readsRound_46 : decode cd_Model_readsRound 46 = .ok (.aload_n 0, 1) := by decide +kernel
theorem dc_Model_readsRound_47 : decode cd_Model_readsRound 47 = .ok (.iconst 3, 1) := by decide +kernel
theorem dc_Model_readsRound_48 : decode cd_Model_readsRound 48 = .ok (.invokevirtual 245, 3) := by decide +kernel
theorem dc_Model_readsRound_51 : decode cd_Model_readsRound 51 = .ok (.ireturn, 1) := by decide +kernel
theorem dc_Model_readsRound_52 : decode cd_Model_readsRound 52 = .ok (.aload_n 0, 1) := by decide +kernel
theorem dc_Model_readsRound_53 : decode cd_Model_readsRound 53 = .ok (.getfield 44, 3) := by decide +kernel
theorem dc_Model_readsRound_56 : decode cd_Model_readsRound 56 = .ok (.iload_n 1, 1) := by decide +kernel
theorem dc_Model_readsRound_57 : decode cd_Model_readsRound 57 = .ok (.iaload, 1) := by decide +kernel
theorem dc_Model_readsRound_58 : decode cd_Model_readsRound 58 = .ok (.iconst 4, 1) := by decide +kernel
theorem dc_Model_readsRound_59 : decode cd_Model_readsRound 59 = .ok (.if_icmp .ne 9, 3) := by decide +kernel
theorem dc_Model_readsRound_62 : decode cd_Model_readsRound 62 = .ok (.aload_n 0, 1) := by decide +kernel
theorem dc_Model_readsRound_63 : decode cd_Model_readsRound 63 = .ok (.iconst 5, 1) := by decide +kernel
theorem dc_Model_readsRound_64 : decode cd_Model_readsRound 64 = .ok (.invokevirtual 245, 3) := by decide +kernel
theorem dc_Model_readsRound_67 : decode cd_Model_readsRound 67 = .ok (.ireturn, 1) := by decide +kernel
theorem dc_Model_readsRound_68 : decode cd_Model_readsRound 68 = .ok (.aload_n 0, 1) := by decide +kernel
theorem dc_Model_readsRound_69 : decode cd_Model_readsRound 69 = .ok (.getfield 322, 3) := by decide +kernel
theorem dc_Model_readsRound_72 : decode cd_Model_readsRound 72 = .ok (.istore_n 2, 1) := by decide +kernel
theorem dc_Model_readsRound_73 : decode cd_Model_readsRound 73 = .ok (.aload_n 0, 1) := by decide +kernel
theorem dc_Model_readsRound_74 : decode cd_Model_readsRound 74 = .ok (.getfield 41, 3) := by decide +kernel
theorem dc_Model_readsRound_77 : decode cd_Model_readsRound 77 = .ok (.iconst 4, 1) := by decide +kernel
theorem dc_Model_readsRound_78 : decode cd_Model_readsRound 78 = .ok (.iload_n 1, 1) := by decide +kernel
theorem dc_Model_readsRound_79 : decode cd_Model_readsRound 79 = .ok (.imul, 1) := by decide +kernel
theorem dc_Model_readsRound_80 : decode cd_Model_readsRound 80 = .ok (.aload_n 0, 1) := by decide +kernel
theorem dc_Model_readsRound_81 : decode cd_Model_readsRound 81 = .ok (.getfield 44, 3) := by decide +kernel
theorem dc_Model_readsRound_84 : decode cd_Model_readsRound 84 = .ok (.iload_n 1, 1) := by decide +kernel
theorem dc_Model_readsRound_85 : decode cd_Model_readsRound 85 = .ok (.iaload, 1) := by decide +kernel
theorem dc_Model_readsRound_86 : decode cd_Model_readsRound 86 = .ok (.iadd, 1) := by decide +kernel
theorem dc_Model_readsRound_87 : decode cd_Model_readsRound 87 = .ok (.aload_n 0, 1) := by decide +kernel
theorem dc_Model_readsRound_88 : decode cd_Model_readsRound 88 = .ok (.getfield 322, 3) := by decide +kernel
theorem dc_Model_readsRound_91 : decode cd_Model_readsRound 91 = .ok (.iastore, 1) := by decide +kernel
theorem dc_Model_readsRound_92 : decode cd_Model_readsRound 92 = .ok (.aload_n 0, 1) := by decide +kernel
theorem dc_Model_readsRound_93 : decode cd_Model_readsRound 93 = .ok (.getfield 44, 3) := by decide +kernel
theorem dc_Model_readsRound_96 : decode cd_Model_readsRound 96 = .ok (.iload_n 1, 1) := by decide +kernel
theorem dc_Model_readsRound_97 : decode cd_Model_readsRound 97 = .ok (.dup2, 1) := by decide +kernel
theorem dc_Model_readsRound_98 : decode cd_Model_readsRound 98 = .ok (.iaload, 1) := by decide +kernel
theorem dc_Model_readsRound_99 : decode cd_Model_readsRound 99 = .ok (.iconst 1, 1) := by decide +kernel
theorem dc_Model_readsRound_100 : decode cd_Model_readsRound 100 = .ok (.iadd, 1) := by decide +kernel
theorem dc_Model_readsRound_101 : decode cd_Model_readsRound 101 = .ok (.iastore, 1) := by decide +kernel
theorem dc_Model_readsRound_102 : decode cd_Model_readsRound 102 = .ok (.aload_n 0, 1) := by decide +kernel
theorem dc_Model_readsRound_103 : decode cd_Model_readsRound 103 = .ok (.invokevirtual 252, 3) := by decide +kernel
theorem dc_Model_readsRound_106 : decode cd_Model_readsRound 106 = .ok (.goto (-97), 3) := by decide +kernel
theorem dc_Model_readsRound_109 : decode cd_Model_readsRound 109 = .ok (.iconst 1, 1) := by decide +kernel
theorem dc_Model_readsRound_110 : decode cd_Model_readsRound 110 = .ok (.ireturn, 1) := by decide +kernel
theorem dc_Model_readsWaits_0 : decode cd_Model_readsWaits 0 = .ok (.aload_n 0, 1) := by decide +kernel
theorem dc_Model_readsWaits_1 : decode cd_Model_readsWaits 1 = .ok (.getfield 13, 3) := by decide +kernel
theorem dc_Model_readsWaits_4 : decode cd_Model_readsWaits 4 = .ok (.bipush 9, 2) := by decide +kernel
theorem dc_Model_readsWaits_6 : decode cd_Model_readsWaits 6 = .ok (.iaload, 1) := by decide +kernel
theorem dc_Model_readsWaits_7 : decode cd_Model_readsWaits 7 = .ok (.bipush 6, 2) := by decide +kernel
theorem dc_Model_readsWaits_9 : decode cd_Model_readsWaits 9 = .ok (.if_icmp .ne 9, 3) := by decide +kernel
theorem dc_Model_readsWaits_12 : decode cd_Model_readsWaits 12 = .ok (.aload_n 0, 1) := by decide +kernel
theorem dc_Model_readsWaits_13 : decode cd_Model_readsWaits 13 = .ok (.iconst 5, 1) := by decide +kernel
theorem dc_Model_readsWaits_14 : decode cd_Model_readsWaits 14 = .ok (.invokevirtual 245, 3) := by decide +kernel
theorem dc_Model_readsWaits_17 : decode cd_Model_readsWaits 17 = .ok (.ireturn, 1) := by decide +kernel
theorem dc_Model_readsWaits_18 : decode cd_Model_readsWaits 18 = .ok (.aload_n 0, 1) := by decide +kernel
theorem dc_Model_readsWaits_19 : decode cd_Model_readsWaits 19 = .ok (.invokevirtual 252, 3) := by decide +kernel
theorem dc_Model_readsWaits_22 : decode cd_Model_readsWaits 22 = .ok (.aload_n 0, 1) := by decide +kernel
theorem dc_Model_readsWaits_23 : decode cd_Model_readsWaits 23 = .ok (.iconst 1, 1) := by decide +kernel
theorem dc_Model_readsWaits_24 : decode cd_Model_readsWaits 24 = .ok (.invokevirtual 364, 3) := by decide +kernel
theorem dc_Model_readsWaits_27 : decode cd_Model_readsWaits 27 = .ok (.ifCond .ne 5, 3) := by decide +kernel
theorem dc_Model_readsWaits_30 : decode cd_Model_readsWaits 30 = .ok (.iconst 0, 1) := by decide +kernel
theorem dc_Model_readsWaits_31 : decode cd_Model_readsWaits 31 = .ok (.ireturn, 1) := by decide +kernel
theorem dc_Model_readsWaits_32 : decode cd_Model_readsWaits 32 = .ok (.aload_n 0, 1) := by decide +kernel
theorem dc_Model_readsWaits_33 : decode cd_Model_readsWaits 33 = .ok (.getfield 322, 3) := by decide +kernel
theorem dc_Model_readsWaits_36 : decode cd_Model_readsWaits 36 = .ok (.istore_n 1, 1) := by decide +kernel
theorem dc_Model_readsWaits_37 : decode cd_Model_readsWaits 37 = .ok (.aload_n 0, 1) := by decide +kernel
theorem dc_Model_readsWaits_38 : decode cd_Model_readsWaits 38 = .ok (.invokevirtual 252, 3) := by decide +kernel
theorem dc_Model_readsWaits_41 : decode cd_Model_readsWaits 41 = .ok (.aload_n 0, 1) := by decide +kernel
theorem dc_Model_readsWaits_42 : decode cd_Model_readsWaits 42 = .ok (.ldc2_w 284, 3) := by decide +kernel
theorem dc_Model_readsWaits_45 : decode cd_Model_readsWaits 45 = .ok (.invokevirtual 325, 3) := by decide +kernel
theorem dc_Model_readsWaits_48 : decode cd_Model_readsWaits 48 = .ok (.ifCond .eq 11, 3) := by decide +kernel
theorem dc_Model_readsWaits_51 : decode cd_Model_readsWaits 51 = .ok (.aload_n 0, 1) := by decide +kernel
theorem dc_Model_readsWaits_52 : decode cd_Model_readsWaits 52 = .ok (.iconst 1, 1) := by decide +kernel
theorem dc_Model_readsWaits_53 : decode cd_Model_readsWaits 53 = .ok (.invokevirtual 354, 3) := by decide +kernel
theorem dc_Model_readsWaits_56 : decode cd_Model_readsWaits 56 = .ok (.ifCond .ne 5, 3) := by decide +kernel
theorem dc_Model_readsWaits_59 : decode cd_Model_readsWaits 59 = .ok (.iconst 0, 1) := by decide +kernel
theorem dc_Model_readsWaits_60 : decode cd_Model_readsWaits 60 = .ok (.ireturn, 1) := by decide +kernel
theorem dc_Model_readsWaits_61 : decode cd_Model_readsWaits 61 = .ok (.bipush 36, 2) := by decide +kernel
theorem dc_Model_readsWaits_63 : decode cd_Model_readsWaits 63 = .ok (.bipush 6, 2) := by decide +kernel
theorem dc_Model_readsWaits_65 : decode cd_Model_readsWaits 65 = .ok (.iload_n 1, 1) := by decide +kernel
theorem dc_Model_readsWaits_66 : decode cd_Model_readsWaits 66 = .ok (.imul, 1) := by decide +kernel
theorem dc_Model_readsWaits_67 : decode cd_Model_readsWaits 67 = .ok (.iadd, 1) := by decide +kernel
theorem dc_Model_readsWaits_68 : decode cd_Model_readsWaits 68 = .ok (.aload_n 0, 1) := by decide +kernel
theorem dc_Model_readsWaits_69 : decode cd_Model_readsWaits 69 = .ok (.getfield 322, 3) := by decide +kernel
theorem dc_Model_readsWaits_72 : decode cd_Model_readsWaits 72 = .ok (.iadd, 1) := by decide +kernel
theorem dc_Model_readsWaits_73 : decode cd_Model_readsWaits 73 = .ok (.istore_n 2, 1) := by decide +kernel
theorem dc_Model_readsWaits_74 : decode cd_Model_readsWaits 74 = .ok (.aload_n 0, 1) := by decide +kernel
theorem dc_Model_readsWaits_75 : decode cd_Model_readsWaits 75 = .ok (.getfield 47, 3) := by decide +kernel
theorem dc_Model_readsWaits_78 : decode cd_Model_readsWaits 78 = .ok (.iload_n 2, 1) := by decide +kernel
theorem dc_Model_readsWaits_79 : decode cd_Model_readsWaits 79 = .ok (.iaload, 1) := by decide +kernel
theorem dc_Model_readsWaits_80 : decode cd_Model_readsWaits 80 = .ok (.ifCond .le 9, 3) := by decide +kernel
theorem dc_Model_readsWaits_83 : decode cd_Model_readsWaits 83 = .ok (.aload_n 0, 1) := by decide +kernel
theorem dc_Model_readsWaits_84 : decode cd_Model_readsWaits 84 = .ok (.iconst 3, 1) := by decide +kernel
theorem dc_Model_readsWaits_85 : decode cd_Model_readsWaits 85 = .ok (.invokevirtual 245, 3) := by decide +kernel
theorem dc_Model_readsWaits_88 : decode cd_Model_readsWaits 88 = .ok (.ireturn, 1) := by decide +kernel
theorem dc_Model_readsWaits_89 : decode cd_Model_readsWaits 89 = .ok (.aload_n 0, 1) := by decide +kernel
theorem dc_Model_readsWaits_90 : decode cd_Model_readsWaits 90 = .ok (.invokevirtual 252, 3) := by decide +kernel
theorem dc_Model_readsWaits_93 : decode cd_Model_readsWaits 93 = .ok (.aload_n 0, 1) := by decide +kernel
theorem dc_Model_readsWaits_94 : decode cd_Model_readsWaits 94 = .ok (.ldc2_w 286, 3) := by decide +kernel
theorem dc_Model_readsWaits_97 : decode cd_Model_readsWaits 97 = .ok (.invokevirtual 325, 3) := by decide +kernel
theorem dc_Model_readsWaits_100 : decode cd_Model_readsWaits 100 = .ok (.ifCond .eq 11, 3) := by decide +kernel
theorem dc_Model_readsWaits_103 : decode cd_Model_readsWaits 103 = .ok (.aload_n 0, 1) := by decide +kernel
theorem dc_Model_readsWaits_104 : decode cd_Model_readsWaits 104 = .ok (.iconst 1, 1) := by decide +kernel
theorem dc_Model_readsWaits_105 : decode cd_Model_readsWaits 105 = .ok (.invokevirtual 364, 3) := by decide +kernel
theorem dc_Model_readsWaits_108 : decode cd_Model_readsWaits 108 = .ok (.ifCond .ne 5, 3) := by decide +kernel
theorem dc_Model_readsWaits_111 : decode cd_Model_readsWaits 111 = .ok (.iconst 0, 1) := by decide +kernel
theorem dc_Model_readsWaits_112 : decode cd_Model_readsWaits 112 = .ok (.ireturn, 1) := by decide +kernel
theorem dc_Model_readsWaits_113 : decode cd_Model_readsWaits 113 = .ok (.aload_n 0, 1) := by decide +kernel
theorem dc_Model_readsWaits_114 : decode cd_Model_readsWaits 114 = .ok (.getfield 322, 3) := by decide +kernel
theorem dc_Model_readsWaits_117 : decode cd_Model_readsWaits 117 = .ok (.istore_n 3, 1) := by decide +kernel
theorem dc_Model_readsWaits_118 : decode cd_Model_readsWaits 118 = .ok (.iload_n 3, 1) := by decide +kernel
theorem dc_Model_readsWaits_119 : decode cd_Model_readsWaits 119 = .ok (.iload_n 1, 1) := by decide +kernel
theorem dc_Model_readsWaits_120 : decode cd_Model_readsWaits 120 = .ok (.if_icmp .ne 9, 3) := by decide +kernel
theorem dc_Model_readsWaits_123 : decode cd_Model_readsWaits 123 = .ok (.aload_n 0, 1) := by decide +kernel
theorem dc_Model_readsWaits_124 : decode cd_Model_readsWaits 124 = .ok (.iconst 3, 1) := by decide +kernel
theorem dc_Model_readsWaits_125 : decode cd_Model_readsWaits 125 = .ok (.invokevirtual 245, 3) := by decide +kernel
theorem dc_Model_readsWaits_128 : decode cd_Model_readsWaits 128 = .ok (.ireturn, 1) := by decide +kernel
theorem dc_Model_readsWaits_129 : decode cd_Model_readsWaits 129 = .ok (.aload_n 0, 1) := by decide +kernel
theorem dc_Model_readsWaits_130 : decode cd_Model_readsWaits 130 = .ok (.invokevirtual 252, 3) := by decide +kernel
theorem dc_Model_readsWaits_133 : decode cd_Model_readsWaits 133 = .ok (.aload_n 0, 1) := by decide +kernel
theorem dc_Model_readsWaits_134 : decode cd_Model_readsWaits 134 = .ok (.iconst 1, 1) := by decide +kernel
theorem dc_Model_readsWaits_135 : decode cd_Model_readsWaits 135 = .ok (.bipush 60, 2) := by decide +kernel
theorem dc_Model_readsWaits_137 : decode cd_Model_readsWaits 137 = .ok (.invokevirtual 328, 3) := by decide +kernel
theorem dc_Model_readsWaits_140 : decode cd_Model_readsWaits 140 = .ok (.ifCond .ne 5, 3) := by decide +kernel
theorem dc_Model_readsWaits_143 : decode cd_Model_readsWaits 143 = .ok (.iconst 0, 1) := by decide +kernel
theorem dc_Model_readsWaits_144 : decode cd_Model_readsWaits 144 = .ok (.ireturn, 1) := by decide +kernel
theorem dc_Model_readsWaits_145 : decode cd_Model_readsWaits 145 = .ok (.aload_n 0, 1) := by decide +kernel
theorem dc_Model_readsWaits_146 : decode cd_Model_readsWaits 146 = .ok (.getfield 47, 3) := by decide +kernel
theorem dc_Model_readsWaits_149 : decode cd_Model_readsWaits 149 = .ok (.iload_n 2, 1) := by decide +kernel
theorem dc_Model_readsWaits_150 : decode cd_Model_readsWaits 150 = .ok (.iconst 1, 1) := by decide +kernel
theorem dc_Model_readsWaits_151 : decode cd_Model_readsWaits 151 = .ok (.iload_n 3, 1) := by decide +kernel
theorem dc_Model_readsWaits_152 : decode cd_Model_readsWaits 152 = .ok (.iadd, 1) := by decide +kernel
theorem dc_Model_readsWaits_153 : decode cd_Model_readsWaits 153 = .ok (.iastore, 1) := by decide +kernel
theorem dc_Model_readsWaits_154 : decode cd_Model_readsWaits 154 = .ok (.aload_n 0, 1) := by decide +kernel
theorem dc_Model_readsWaits_155 : decode cd_Model_readsWaits 155 = .ok (.getfield 50, 3) := by decide +kernel
theorem dc_Model_readsWaits_158 : decode cd_Model_readsWaits 158 = .ok (.iload_n 2, 1) := by decide +kernel
theorem dc_Model_readsWaits_159 : decode cd_Model_readsWaits 159 = .ok (.aload_n 0, 1) := by decide +kernel
theorem dc_Model_readsWaits_160 : decode cd_Model_readsWaits 160 = .ok (.getfield 322, 3) := by decide +kernel
theorem dc_Model_readsWaits_163 : decode cd_Model_readsWaits 163 = .ok (.iastore, 1) := by decide +kernel
theorem dc_Model_readsWaits_164 : decode cd_Model_readsWaits 164 = .ok (.aload_n 0, 1) := by decide +kernel
theorem dc_Model_readsWaits_165 : decode cd_Model_readsWaits 165 = .ok (.getfield 13, 3) := by decide +kernel
theorem dc_Model_readsWaits_168 : decode cd_Model_readsWaits 168 = .ok (.bipush 9, 2) := by decide +kernel
theorem dc_Model_readsWaits_170 : decode cd_Model_readsWaits 170 = .ok (.dup2, 1) := by decide +kernel
theorem dc_Model_readsWaits_171 : decode cd_Model_readsWaits 171 = .ok (.iaload, 1) := by decide +kernel
theorem dc_Model_readsWaits_172 : decode cd_Model_readsWaits 172 = .ok (.iconst 1, 1) := by decide +kernel
theorem dc_Model_readsWaits_173 : decode cd_Model_readsWaits 173 = .ok (.iadd, 1) := by decide +kernel
theorem dc_Model_readsWaits_174 : decode cd_Model_readsWaits 174 = .ok (.iastore, 1) := by decide +kernel
theorem dc_Model_readsWaits_175 : decode cd_Model_readsWaits 175 = .ok (.aload_n 0, 1) := by decide +kernel
theorem dc_Model_readsWaits_176 : decode cd_Model_readsWaits 176 = .ok (.invokevirtual 351, 3) := by decide +kernel
theorem dc_Model_readsWaits_179 : decode cd_Model_readsWaits 179 = .ok (.ireturn, 1) := by decide +kernel
theorem dc_Model_readsMissed_0 : decode cd_Model_readsMissed 0 = .ok (.aload_n 0, 1) := by decide +kernel
theorem dc_Model_readsMissed_1 : decode cd_Model_readsMissed 1 = .ok (.getfield 65, 3) := by decide +kernel
theorem dc_Model_readsMissed_4 : decode cd_Model_readsMissed 4 = .ok (.iconst 1, 1) := by decide +kernel
theorem dc_Model_readsMissed_5 : decode cd_Model_readsMissed 5 = .ok (.iaload, 1) := by decide +kernel
theorem dc_Model_readsMissed_6 : decode cd_Model_readsMissed 6 = .ok (.aload_n 0, 1) := by decide +kernel
theorem dc_Model_readsMissed_7 : decode cd_Model_readsMissed 7 = .ok (.getfield 62, 3) := by decide +kernel
theorem dc_Model_readsMissed_10 : decode cd_Model_readsMissed 10 = .ok (.iconst 1, 1) := by decide +kernel
theorem dc_Model_readsMissed_11 : decode cd_Model_readsMissed 11 = .ok (.iaload, 1) := by decide +kernel
theorem dc_Model_readsMissed_12 : decode cd_Model_readsMissed 12 = .ok (.if_icmp .le 9, 3) := by decide +kernel
theorem dc_Model_readsMissed_15 : decode cd_Model_readsMissed 15 = .ok (.aload_n 0, 1) := by decide +kernel
theorem dc_Model_readsMissed_16 : decode cd_Model_readsMissed 16 = .ok (.iconst 3, 1) := by decide +kernel
theorem dc_Model_readsMissed_17 : decode cd_Model_readsMissed 17 = .ok (.invokevirtual 245, 3) := by decide +kernel
theorem dc_Model_readsMissed_20 : decode cd_Model_readsMissed 20 = .ok (.ireturn, 1) := by decide +kernel
theorem dc_Model_readsMissed_21 : decode cd_Model_readsMissed 21 = .ok (.aload_n 0, 1) := by decide +kernel
theorem dc_Model_readsMissed_22 : decode cd_Model_readsMissed 22 = .ok (.invokevirtual 252, 3) := by decide +kernel
theorem dc_Model_readsMissed_25 : decode cd_Model_readsMissed 25 = .ok (.aload_n 0, 1) := by decide +kernel
theorem dc_Model_readsMissed_26 : decode cd_Model_readsMissed 26 = .ok (.getfield 62, 3) := by decide +kernel
theorem dc_Model_readsMissed_29 : decode cd_Model_readsMissed 29 = .ok (.iconst 1, 1) := by decide +kernel
theorem dc_Model_readsMissed_30 : decode cd_Model_readsMissed 30 = .ok (.aload_n 0, 1) := by decide +kernel
theorem dc_Model_readsMissed_31 : decode cd_Model_readsMissed 31 = .ok (.getfield 222, 3) := by decide +kernel
theorem dc_Model_readsMissed_34 : decode cd_Model_readsMissed 34 = .ok (.iastore, 1) := by decide +kernel
theorem dc_Model_readsMissed_35 : decode cd_Model_readsMissed 35 = .ok (.aload_n 0, 1) := by decide +kernel
theorem dc_Model_readsMissed_36 : decode cd_Model_readsMissed 36 = .ok (.invokevirtual 370, 3) := by decide +kernel
theorem dc_Model_readsMissed_39 : decode cd_Model_readsMissed 39 = .ok (.ifCond .ne 5, 3) := by decide +kernel
theorem dc_Model_readsMissed_42 : decode cd_Model_readsMissed 42 = .ok (.iconst 0, 1) := by decide +kernel
theorem dc_Model_readsMissed_43 : decode cd_Model_readsMissed 43 = .ok (.ireturn, 1) := by decide +kernel
theorem dc_Model_readsMissed_44 : decode cd_Model_readsMissed 44 = .ok (.aload_n 0, 1) := by decide +kernel
theorem dc_Model_readsMissed_45 : decode cd_Model_readsMissed 45 = .ok (.getfield 65, 3) := by decide +kernel
theorem dc_Model_readsMissed_48 : decode cd_Model_readsMissed 48 = .ok (.iconst 1, 1) := by decide +kernel
theorem dc_Model_readsMissed_49 : decode cd_Model_readsMissed 49 = .ok (.aload_n 0, 1) := by decide +kernel
theorem dc_Model_readsMissed_50 : decode cd_Model_readsMissed 50 = .ok (.getfield 222, 3) := by decide +kernel
theorem dc_Model_readsMissed_53 : decode cd_Model_readsMissed 53 = .ok (.iastore, 1) := by decide +kernel
theorem dc_Model_readsMissed_54 : decode cd_Model_readsMissed 54 = .ok (.iconst 1, 1) := by decide +kernel
theorem dc_Model_readsMissed_55 : decode cd_Model_readsMissed 55 = .ok (.ireturn, 1) := by decide +kernel
theorem dc_Model_readsLine_0 : decode cd_Model_readsLine 0 = .ok (.aload_n 0, 1) := by decide +kernel
theorem dc_Model_readsLine_1 : decode cd_Model_readsLine 1 = .ok (.ldc2_w 296, 3) := by decide +kernel
theorem dc_Model_readsLine_4 : decode cd_Model_readsLine 4 = .ok (.invokevirtual 237, 3) := by decide +kernel
theorem dc_Model_readsLine_7 : decode cd_Model_readsLine 7 = .ok (.ifCond .eq 7, 3) := by decide +kernel
theorem dc_Model_readsLine_10 : decode cd_Model_readsLine 10 = .ok (.iconst 0, 1) := by decide +kernel
theorem dc_Model_readsLine_11 : decode cd_Model_readsLine 11 = .ok (.goto 60, 3) := by decide +kernel
theorem dc_Model_readsLine_14 : decode cd_Model_readsLine 14 = .ok (.aload_n 0, 1) := by decide +kernel
theorem dc_Model_readsLine_15 : decode cd_Model_readsLine 15 = .ok (.ldc2_w 298, 3) := by decide +kernel
theorem dc_Model_readsLine_18 : decode cd_Model_readsLine 18 = .ok (.invokevirtual 237, 3) := by decide +kernel
theorem dc_Model_readsLine_21 : decode cd_Model_readsLine 21 = .ok (.ifCond .eq 7, 3) := by decide +kernel
theorem dc_Model_readsLine_24 : decode cd_Model_readsLine 24 = .ok (.iconst 1, 1) := by decide +kernel
theorem dc_Model_readsLine_25 : decode cd_Model_readsLine 25 = .ok (.goto 46, 3) := by decide +kernel
theorem dc_Model_readsLine_28 : decode cd_Model_readsLine 28 = .ok (.aload_n 0, 1) := by decide +kernel
theorem dc_Model_readsLine_29 : decode cd_Model_readsLine 29 = .ok (.ldc2_w 300, 3) := by decide +kernel
theorem dc_Model_readsLine_32 : decode cd_Model_readsLine 32 = .ok (.invokevirtual 237, 3) := by decide +kernel
theorem dc_Model_readsLine_35 : decode cd_Model_readsLine 35 = .ok (.ifCond .eq 7, 3) := by decide +kernel
theorem dc_Model_readsLine_38 : decode cd_Model_readsLine 38 = .ok (.iconst 2, 1) := by decide +kernel
theorem dc_Model_readsLine_39 : decode cd_Model_readsLine 39 = .ok (.goto 32, 3) := by decide +kernel
theorem dc_Model_readsLine_42 : decode cd_Model_readsLine 42 = .ok (.aload_n 0, 1) := by decide +kernel
theorem dc_Model_readsLine_43 : decode cd_Model_readsLine 43 = .ok (.ldc2_w 302, 3) := by decide +kernel
theorem dc_Model_readsLine_46 : decode cd_Model_readsLine 46 = .ok (.invokevirtual 237, 3) := by decide +kernel
theorem dc_Model_readsLine_49 : decode cd_Model_readsLine 49 = .ok (.ifCond .eq 7, 3) := by decide +kernel
theorem dc_Model_readsLine_52 : decode cd_Model_readsLine 52 = .ok (.iconst 3, 1) := by decide +kernel
theorem dc_Model_readsLine_53 : decode cd_Model_readsLine 53 = .ok (.goto 18, 3) := by decide +kernel
theorem dc_Model_readsLine_56 : decode cd_Model_readsLine 56 = .ok (.aload_n 0, 1) := by decide +kernel
theorem dc_Model_readsLine_57 : decode cd_Model_readsLine 57 = .ok (.ldc2_w 304, 3) := by decide +kernel
theorem dc_Model_readsLine_60 : decode cd_Model_readsLine 60 = .ok (.invokevirtual 237, 3) := by decide +kernel
theorem dc_Model_readsLine_63 : decode cd_Model_readsLine 63 = .ok (.ifCond .eq 7, 3) := by decide +kernel
theorem dc_Model_readsLine_66 : decode cd_Model_readsLine 66 = .ok (.iconst 4, 1) := by decide +kernel
theorem dc_Model_readsLine_67 : decode cd_Model_readsLine 67 = .ok (.goto 4, 3) := by decide +kernel
theorem dc_Model_readsLine_70 : decode cd_Model_readsLine 70 = .ok (.iconst (-1), 1) := by decide +kernel
theorem dc_Model_readsLine_71 : decode cd_Model_readsLine 71 = .ok (.istore_n 1, 1) := by decide +kernel
theorem dc_Model_readsLine_72 : decode cd_Model_readsLine 72 = .ok (.iload_n 1, 1) := by decide +kernel
theorem dc_Model_readsLine_73 : decode cd_Model_readsLine 73 = .ok (.ifCond .ge 9, 3) := by decide +kernel
theorem dc_Model_readsLine_76 : decode cd_Model_readsLine 76 = .ok (.aload_n 0, 1) := by decide +kernel
theorem dc_Model_readsLine_77 : decode cd_Model_readsLine 77 = .ok (.iconst 1, 1) := by decide +kernel
theorem dc_Model_readsLine_78 : decode cd_Model_readsLine 78 = .ok (.invokevirtual 245, 3) := by decide +kernel
theorem dc_Model_readsLine_81 : decode cd_Model_readsLine 81 = .ok (.ireturn, 1) := by decide +kernel
theorem dc_Model_readsLine_82 : decode cd_Model_readsLine 82 = .ok (.aload_n 0, 1) := by decide +kernel
theorem dc_Model_readsLine_83 : decode cd_Model_readsLine 83 = .ok (.getfield 108, 3) := by decide +kernel
theorem dc_Model_readsLine_86 : decode cd_Model_readsLine 86 = .ok (.iconst 5, 1) := by decide +kernel
theorem dc_Model_readsLine_87 : decode cd_Model_readsLine 87 = .ok (.iaload, 1) := by decide +kernel
theorem dc_Model_readsLine_88 : decode cd_Model_readsLine 88 = .ok (.bipush 30, 2) := by decide +kernel
theorem dc_Model_readsLine_90 : decode cd_Model_readsLine 90 = .ok (.if_icmp .ne 9, 3) := by decide +kernel
theorem dc_Model_readsLine_93 : decode cd_Model_readsLine 93 = .ok (.aload_n 0, 1) := by decide +kernel
theorem dc_Model_readsLine_94 : decode cd_Model_readsLine 94 = .ok (.iconst 5, 1) := by decide +kernel
theorem dc_Model_readsLine_95 : decode cd_Model_readsLine 95 = .ok (.invokevirtual 245, 3) := by decide +kernel
theorem dc_Model_readsLine_98 : decode cd_Model_readsLine 98 = .ok (.ireturn, 1) := by decide +kernel
theorem dc_Model_readsLine_99 : decode cd_Model_readsLine 99 = .ok (.aload_n 0, 1) := by decide +kernel
theorem dc_Model_readsLine_100 : decode cd_Model_readsLine 100 = .ok (.invokevirtual 252, 3) := by decide +kernel
theorem dc_Model_readsLine_103 : decode cd_Model_readsLine 103 = .ok (.sipush 150, 3) := by decide +kernel
theorem dc_Model_readsLine_106 : decode cd_Model_readsLine 106 = .ok (.aload_n 0, 1) := by decide +kernel
theorem dc_Model_readsLine_107 : decode cd_Model_readsLine 107 = .ok (.getfield 108, 3) := by decide +kernel
theorem dc_Model_readsLine_110 : decode cd_Model_readsLine 110 = .ok (.iconst 5, 1) := by decide +kernel
theorem dc_Model_readsLine_111 : decode cd_Model_readsLine 111 = .ok (.iaload, 1) := by decide +kernel
theorem dc_Model_readsLine_112 : decode cd_Model_readsLine 112 = .ok (.iadd, 1) := by decide +kernel
theorem dc_Model_readsLine_113 : decode cd_Model_readsLine 113 = .ok (.istore_n 2, 1) := by decide +kernel
theorem dc_Model_readsLine_114 : decode cd_Model_readsLine 114 = .ok (.aload_n 0, 1) := by decide +kernel
theorem dc_Model_readsLine_115 : decode cd_Model_readsLine 115 = .ok (.getfield 111, 3) := by decide +kernel
theorem dc_Model_readsLine_118 : decode cd_Model_readsLine 118 = .ok (.iload_n 2, 1) := by decide +kernel
theorem dc_Model_readsLine_119 : decode cd_Model_readsLine 119 = .ok (.iload_n 1, 1) := by decide +kernel
theorem dc_Model_readsLine_120 : decode cd_Model_readsLine 120 = .ok (.iastore, 1) := by decide +kernel
theorem dc_Model_readsLine_121 : decode cd_Model_readsLine 121 = .ok (.iload_n 1, 1) := by decide +kernel
theorem dc_Model_readsLine_122 : decode cd_Model_readsLine 122 = .ok (.iconst 1, 1) := by decide +kernel
theorem dc_Model_readsLine_123 : decode cd_Model_readsLine 123 = .ok (.if_icmp .gt 27, 3) := by decide +kernel
theorem dc_Model_readsLine_126 : decode cd_Model_readsLine 126 = .ok (.aload_n 0, 1) := by decide +kernel
theorem dc_Model_readsLine_127 : decode cd_Model_readsLine 127 = .ok (.iconst 0, 1) := by decide +kernel
theorem dc_Model_readsLine_128 : decode cd_Model_readsLine 128 = .ok (.invokevirtual 364, 3) := by decide +kernel
theorem dc_Model_readsLine_131 : decode cd_Model_readsLine 131 = .ok (.ifCond .ne 5, 3) := by decide +kernel
theorem dc_Model_readsLine_134 : decode cd_Model_readsLine 134 = .ok (.iconst 0, 1) := by decide +kernel
theorem dc_Model_readsLine_135 : decode cd_Model_readsLine 135 = .ok (.ireturn, 1) := by decide +kernel
theorem dc_Model_readsLine_136 : decode cd_Model_readsLine 136 = .ok (.aload_n 0, 1) := by decide +kernel
theorem dc_Model_readsLine_137 : decode cd_Model_readsLine 137 = .ok (.getfield 114, 3) := by decide +kernel
theorem dc_Model_readsLine_140 : decode cd_Model_readsLine 140 = .ok (.iload_n 2, 1) := by decide +kernel
theorem dc_Model_readsLine_141 : decode cd_Model_readsLine 141 = .ok (.aload_n 0, 1) := by decide +kernel
theorem dc_Model_readsLine_142 : decode cd_Model_readsLine 142 = .ok (.getfield 322, 3) := by decide +kernel
theorem dc_Model_readsLine_145 : decode cd_Model_readsLine 145 = .ok (.iastore, 1) := by decide +kernel
theorem dc_Model_readsLine_146 : decode cd_Model_readsLine 146 = .ok (.aload_n 0, 1) := by decide +kernel
theorem dc_Model_readsLine_147 : decode cd_Model_readsLine 147 = .ok (.invokevirtual 252, 3) := by decide +kernel
theorem dc_Model_readsLine_150 : decode cd_Model_readsLine 150 = .ok (.iload_n 1, 1) := by decide +kernel
theorem dc_Model_readsLine_151 : decode cd_Model_readsLine 151 = .ok (.ifCond .ne 28, 3) := by decide +kernel
theorem dc_Model_readsLine_154 : decode cd_Model_readsLine 154 = .ok (.aload_n 0, 1) := by decide +kernel
theorem dc_Model_readsLine_155 : decode cd_Model_readsLine 155 = .ok (.iconst 0, 1) := by decide +kernel
theorem dc_Model_readsLine_156 : decode cd_Model_readsLine 156 = .ok (.bipush 60, 2) := by decide +kernel
theorem dc_Model_readsLine_158 : decode cd_Model_readsLine 158 = .ok (.invokevirtual 328, 3) := by decide +kernel
theorem dc_Model_readsLine_161 : decode cd_Model_readsLine 161 = .ok (.ifCond .ne 5, 3) := by decide +kernel
theorem dc_Model_readsLine_164 : decode cd_Model_readsLine 164 = .ok (.iconst 0, 1) := by decide +kernel
theorem dc_Model_readsLine_165 : decode cd_Model_readsLine 165 = .ok (.ireturn, 1) := by decide +kernel
theorem dc_Model_readsLine_166 : decode cd_Model_readsLine 166 = .ok (.aload_n 0, 1) := by decide +kernel
theorem dc_Model_readsLine_167 : decode cd_Model_readsLine 167 = .ok (.getfield 117, 3) := by decide +kernel
theorem dc_Model_readsLine_170 : decode cd_Model_readsLine 170 = .ok (.iload_n 2, 1) := by decide +kernel
theorem dc_Model_readsLine_171 : decode cd_Model_readsLine 171 = .ok (.aload_n 0, 1) := by decide +kernel
theorem dc_Model_readsLine_172 : decode cd_Model_readsLine 172 = .ok (.getfield 322, 3) := by decide +kernel
theorem dc_Model_readsLine_175 : decode cd_Model_readsLine 175 = .ok (.iastore, 1) := by decide +kernel
theorem dc_Model_readsLine_176 : decode cd_Model_readsLine 176 = .ok (.goto 75, 3) := by decide +kernel
theorem dc_Model_readsLine_179 : decode cd_Model_readsLine 179 = .ok (.iload_n 1, 1) := by decide +kernel
theorem dc_Model_readsLine_180 : decode cd_Model_readsLine 180 = .ok (.iconst 2, 1) := by decide +kernel
theorem dc_Model_readsLine_181 : decode cd_Model_readsLine 181 = .ok (.if_icmp .ne 70, 3) := by decide +kernel
theorem dc_Model_readsLine_184 : decode cd_Model_readsLine 184 = .ok (.aload_n 0, 1) := by decide +kernel
theorem dc_Model_readsLine_185 : decode cd_Model_readsLine 185 = .ok (.invokevirtual 332, 3) := by decide +kernel
theorem dc_Model_readsLine_188 : decode cd_Model_readsLine 188 = .ok (.ifCond .eq 9, 3) := by decide +kernel
theorem dc_Model_readsLine_191 : decode cd_Model_readsLine 191 = .ok (.aload_n 0, 1) := by decide +kernel
theorem dc_Model_readsLine_192 : decode cd_Model_readsLine 192 = .ok (.iconst 1, 1) := by decide +kernel
theorem dc_Model_readsLine_193 : decode cd_Model_readsLine 193 = .ok (.invokevirtual 245, 3) := by decide +kernel
theorem dc_Model_readsLine_196 : decode cd_Model_readsLine 196 = .ok (.ireturn, 1) := by decide +kernel
theorem dc_Model_readsLine_197 : decode cd_Model_readsLine 197 = .ok (.aload_n 0, 1) := by decide +kernel
theorem dc_Model_readsLine_198 : decode cd_Model_readsLine 198 = .ok (.getfield 114, 3) := by decide +kernel
theorem dc_Model_readsLine_201 : decode cd_Model_readsLine 201 = .ok (.iload_n 2, 1) := by decide +kernel
theorem dc_Model_readsLine_202 : decode cd_Model_readsLine 202 = .ok (.aload_n 0, 1) := by decide +kernel
theorem dc_Model_readsLine_203 : decode cd_Model_readsLine 203 = .ok (.iconst 0, 1) := by decide +kernel
theorem dc_Model_readsLine_204 : decode cd_Model_readsLine 204 = .ok (.invokevirtual 342, 3) := by decide +kernel
theorem dc_Model_readsLine_207 : decode cd_Model_readsLine 207 = .ok (.iastore, 1) := by decide +kernel
theorem dc_Model_readsLine_208 : decode cd_Model_readsLine 208 = .ok (.aload_n 0, 1) := by decide +kernel
theorem dc_Model_readsLine_209 : decode cd_Model_readsLine 209 = .ok (.getfield 114, 3) := by decide +kernel
theorem dc_Model_readsLine_212 : decode cd_Model_readsLine 212 = .ok (.iload_n 2, 1) := by decide +kernel
theorem dc_Model_readsLine_213 : decode cd_Model_readsLine 213 = .ok (.iaload, 1) := by decide +kernel
theorem dc_Model_readsLine_214 : decode cd_Model_readsLine 214 = .ok (.ifCond .ge 9, 3) := by decide +kernel
theorem dc_Model_readsLine_217 : decode cd_Model_readsLine 217 = .ok (.aload_n 0, 1) := by decide +kernel
theorem dc_Model_readsLine_218 : decode cd_Model_readsLine 218 = .ok (.iconst 2, 1) := by decide +kernel
theorem dc_Model_readsLine_219 : decode cd_Model_readsLine 219 = .ok (.invokevirtual 245, 3) := by decide +kernel
theorem dc_Model_readsLine_222 : decode cd_Model_readsLine 222 = .ok (.ireturn, 1) := by decide +kernel
theorem dc_Model_readsLine_223 : decode cd_Model_readsLine 223 = .ok (.aload_n 0, 1) := by decide +kernel
theorem dc_Model_readsLine_224 : decode cd_Model_readsLine 224 = .ok (.invokevirtual 252, 3) := by decide +kernel
theorem dc_Model_readsLine_227 : decode cd_Model_readsLine 227 = .ok (.aload_n 0, 1) := by decide +kernel
theorem dc_Model_readsLine_228 : decode cd_Model_readsLine 228 = .ok (.iconst 0, 1) := by decide +kernel
theorem dc_Model_readsLine_229 : decode cd_Model_readsLine 229 = .ok (.invokevirtual 364, 3) := by decide +kernel
theorem dc_Model_readsLine_232 : decode cd_Model_readsLine 232 = .ok (.ifCond .ne 5, 3) := by decide +kernel
theorem dc_Model_readsLine_235 : decode cd_Model_readsLine 235 = .ok (.iconst 0, 1) := by decide +kernel
theorem dc_Model_readsLine_236 : decode cd_Model_readsLine 236 = .ok (.ireturn, 1) := by decide +kernel
theorem dc_Model_readsLine_237 : decode cd_Model_readsLine 237 = .ok (.aload_n 0, 1) := by decide +kernel
theorem dc_Model_readsLine_238 : decode cd_Model_readsLine 238 = .ok (.getfield 117, 3) := by decide +kernel
theorem dc_Model_readsLine_241 : decode cd_Model_readsLine 241 = .ok (.iload_n 2, 1) := by decide +kernel
theorem dc_Model_readsLine_242 : decode cd_Model_readsLine 242 = .ok (.aload_n 0, 1) := by decide +kernel
theorem dc_Model_readsLine_243 : decode cd_Model_readsLine 243 = .ok (.getfield 322, 3) := by decide +kernel
theorem dc_Model_readsLine_246 : decode cd_Model_readsLine 246 = .ok (.iastore, 1) := by decide +kernel
theorem dc_Model_readsLine_247 : decode cd_Model_readsLine 247 = .ok (.aload_n 0, 1) := by decide +kernel
theorem dc_Model_readsLine_248 : decode cd_Model_readsLine 248 = .ok (.invokevirtual 252, 3) := by decide +kernel
theorem dc_Model_readsLine_251 : decode cd_Model_readsLine 251 = .ok (.aload_n 0, 1) := by decide +kernel
theorem dc_Model_readsLine_252 : decode cd_Model_readsLine 252 = .ok (.getfield 108, 3) := by decide +kernel
theorem dc_Model_readsLine_255 : decode cd_Model_readsLine 255 = .ok (.iconst 5, 1) := by decide +kernel
theorem dc_Model_readsLine_256 : decode cd_Model_readsLine 256 = .ok (.dup2, 1) := by decide +kernel
theorem dc_Model_readsLine_257 : decode cd_Model_readsLine 257 = .ok (.iaload, 1) := by decide +kernel
theorem dc_Model_readsLine_258 : decode cd_Model_readsLine 258 = .ok (.iconst 1, 1) := by decide +kernel
theorem dc_Model_readsLine_259 : decode cd_Model_readsLine 259 = .ok (.iadd, 1) := by decide +kernel
theorem dc_Model_readsLine_260 : decode cd_Model_readsLine 260 = .ok (.iastore, 1) := by decide +kernel
theorem dc_Model_readsLine_261 : decode cd_Model_readsLine 261 = .ok (.aload_n 0, 1) := by decide +kernel
theorem dc_Model_readsLine_262 : decode cd_Model_readsLine 262 = .ok (.invokevirtual 351, 3) := by decide +kernel
theorem dc_Model_readsLine_265 : decode cd_Model_readsLine 265 = .ok (.ireturn, 1) := by decide +kernel
theorem dc_Model_laysDay_0 : decode cd_Model_laysDay 0 = .ok (.iconst 0, 1) := by decide +kernel
theorem dc_Model_laysDay_1 : decode cd_Model_laysDay 1 = .ok (.istore_n 1, 1) := by decide +kernel
theorem dc_Model_laysDay_2 : decode cd_Model_laysDay 2 = .ok (.iload_n 1, 1) := by decide +kernel
theorem dc_Model_laysDay_3 : decode cd_Model_laysDay 3 = .ok (.aload_n 0, 1) := by decide +kernel
theorem dc_Model_laysDay_4 : decode cd_Model_laysDay 4 = .ok (.getfield 13, 3) := by decide +kernel
theorem dc_Model_laysDay_7 : decode cd_Model_laysDay 7 = .ok (.iconst 1, 1) := by decide +kernel
theorem dc_Model_laysDay_8 : decode cd_Model_laysDay 8 = .ok (.iaload, 1) := by decide +kernel
theorem dc_Model_laysDay_9 : decode cd_Model_laysDay 9 = .ok (.if_icmp .ge 64, 3) := by decide +kernel
theorem dc_Model_laysDay_12 : decode cd_Model_laysDay 12 = .ok (.aload_n 0, 1) := by decide +kernel
theorem dc_Model_laysDay_13 : decode cd_Model_laysDay 13 = .ok (.getfield 156, 3) := by decide +kernel
theorem dc_Model_laysDay_16 : decode cd_Model_laysDay 16 = .ok (.iload_n 1, 1) := by decide +kernel
theorem dc_Model_laysDay_17 : decode cd_Model_laysDay 17 = .ok (.iconst 0, 1) := by decide +kernel
theorem dc_Model_laysDay_18 : decode cd_Model_laysDay 18 = .ok (.iastore, 1) := by decide +kernel
theorem dc_Model_laysDay_19 : decode cd_Model_laysDay 19 = .ok (.aload_n 0, 1) := by decide +kernel
theorem dc_Model_laysDay_20 : decode cd_Model_laysDay 20 = .ok (.getfield 159, 3) := by decide +kernel
theorem dc_Model_laysDay_23 : decode cd_Model_laysDay 23 = .ok (.iload_n 1, 1) := by decide +kernel
theorem dc_Model_laysDay_24 : decode cd_Model_laysDay 24 = .ok (.aload_n 0, 1) := by decide +kernel
theorem dc_Model_laysDay_25 : decode cd_Model_laysDay 25 = .ok (.getfield 135, 3) := by decide +kernel
theorem dc_Model_laysDay_28 : decode cd_Model_laysDay 28 = .ok (.iconst 2, 1) := by decide +kernel
theorem dc_Model_laysDay_29 : decode cd_Model_laysDay 29 = .ok (.iaload, 1) := by decide +kernel
theorem dc_Model_laysDay_30 : decode cd_Model_laysDay 30 = .ok (.iload_n 1, 1) := by decide +kernel
theorem dc_Model_laysDay_31 : decode cd_Model_laysDay 31 = .ok (.ishr, 1) := by decide +kernel
theorem dc_Model_laysDay_32 : decode cd_Model_laysDay 32 = .ok (.iconst 1, 1) := by decide +kernel
theorem dc_Model_laysDay_33 : decode cd_Model_laysDay 33 = .ok (.iand, 1) := by decide +kernel
theorem dc_Model_laysDay_34 : decode cd_Model_laysDay 34 = .ok (.iconst 1, 1) := by decide +kernel
theorem dc_Model_laysDay_35 : decode cd_Model_laysDay 35 = .ok (.if_icmp .ne 21, 3) := by decide +kernel
theorem dc_Model_laysDay_38 : decode cd_Model_laysDay 38 = .ok (.aload_n 0, 1) := by decide +kernel
theorem dc_Model_laysDay_39 : decode cd_Model_laysDay 39 = .ok (.getfield 32, 3) := by decide +kernel
theorem dc_Model_laysDay_42 : decode cd_Model_laysDay 42 = .ok (.iload_n 1, 1) := by decide +kernel
theorem dc_Model_laysDay_43 : decode cd_Model_laysDay 43 = .ok (.iaload, 1) := by decide +kernel
theorem dc_Model_laysDay_44 : decode cd_Model_laysDay 44 = .ok (.aload_n 0, 1) := by decide +kernel
theorem dc_Model_laysDay_45 : decode cd_Model_laysDay 45 = .ok (.getfield 135, 3) := by decide +kernel
theorem dc_Model_laysDay_48 : decode cd_Model_laysDay 48 = .ok (.iconst 4, 1) := by decide +kernel
theorem dc_Model_laysDay_49 : decode cd_Model_laysDay 49 = .ok (.iload_n 1, 1) := by decide +kernel
theorem dc_Model_laysDay_50 : decode cd_Model_laysDay 50 = .ok (.iadd, 1) := by decide +kernel
theorem dc_Model_laysDay_51 : decode cd_Model_laysDay 51 = .ok (.iaload, 1) := by decide +kernel
theorem dc_Model_laysDay_52 : decode cd_Model_laysDay 52 = .ok (.iadd, 1) := by decide +kernel
theorem dc_Model_laysDay_53 : decode cd_Model_laysDay 53 = .ok (.goto 6, 3) := by decide +kernel
theorem dc_Model_laysDay_56 : decode cd_Model_laysDay 56 = .ok (.ldc_w 426, 3) := by decide +kernel
theorem dc_Model_laysDay_59 : decode cd_Model_laysDay 59 = .ok (.iastore, 1) := by decide +kernel
theorem dc_Model_laysDay_60 : decode cd_Model_laysDay 60 = .ok (.aload_n 0, 1) := by decide +kernel
theorem dc_Model_laysDay_61 : decode cd_Model_laysDay 61 = .ok (.getfield 162, 3) := by decide +kernel
theorem dc_Model_laysDay_64 : decode cd_Model_laysDay 64 = .ok (.iload_n 1, 1) := by decide +kernel
theorem dc_Model_laysDay_65 : decode cd_Model_laysDay 65 = .ok (.iconst 0, 1) := by decide +kernel
theorem dc_Model_laysDay_66 : decode cd_Model_laysDay 66 = .ok (.bastore, 1) := by decide +kernel
theorem dc_Model_laysDay_67 : decode cd_Model_laysDay 67 = .ok (.iinc 1 1, 3) := by decide +kernel
theorem dc_Model_laysDay_70 : decode cd_Model_laysDay 70 = .ok (.goto (-68), 3) := by decide +kernel
theorem dc_Model_laysDay_73 : decode cd_Model_laysDay 73 = .ok (.iconst 0, 1) := by decide +kernel
theorem dc_Model_laysDay_74 : decode cd_Model_laysDay 74 = .ok (.istore_n 1, 1) := by decide +kernel
theorem dc_Model_laysDay_75 : decode cd_Model_laysDay 75 = .ok (.iload_n 1, 1) := by decide +kernel
theorem dc_Model_laysDay_76 : decode cd_Model_laysDay 76 = .ok (.sipush 240, 3) := by decide +kernel
theorem dc_Model_laysDay_79 : decode cd_Model_laysDay 79 = .ok (.if_icmp .ge 206, 3) := by decide +kernel
theorem dc_Model_laysDay_82 : decode cd_Model_laysDay 82 = .ok (.iconst 0, 1) := by decide +kernel
theorem dc_Model_laysDay_83 : decode cd_Model_laysDay 83 = .ok (.istore_n 2, 1) := by decide +kernel
theorem dc_Model_laysDay_84 : decode cd_Model_laysDay 84 = .ok (.iload_n 2, 1) := by decide +kernel
theorem dc_Model_laysDay_85 : decode cd_Model_laysDay 85 = .ok (.aload_n 0, 1) := by decide +kernel
theorem dc_Model_laysDay_86 : decode cd_Model_laysDay 86 = .ok (.getfield 13, 3) := by decide +kernel
theorem dc_Model_laysDay_89 : decode cd_Model_laysDay 89 = .ok (.iconst 1, 1) := by decide +kernel
theorem dc_Model_laysDay_90 : decode cd_Model_laysDay 90 = .ok (.iaload, 1) := by decide +kernel
theorem dc_Model_laysDay_91 : decode cd_Model_laysDay 91 = .ok (.if_icmp .ge 40, 3) := by decide +kernel
theorem dc_Model_laysDay_94 : decode cd_Model_laysDay 94 = .ok (.aload_n 0, 1) := by decide +kernel
theorem dc_Model_laysDay_95 : decode cd_Model_laysDay 95 = .ok (.getfield 153, 3) := by decide +kernel
theorem dc_Model_laysDay_98 : decode cd_Model_laysDay 98 = .ok (.sipush 240, 3) := by decide +kernel
theorem dc_Model_laysDay_101 : decode cd_Model_laysDay 101 = .ok (.iload_n 2, 1) := by decide +kernel
theorem dc_Model_laysDay_102 : decode cd_Model_laysDay 102 = .ok (.imul, 1) := by decide +kernel
theorem dc_Model_laysDay_103 : decode cd_Model_laysDay 103 = .ok (.iload_n 1, 1) := by decide +kernel
theorem dc_Model_laysDay_104 : decode cd_Model_laysDay 104 = .ok (.iadd, 1) := by decide +kernel
theorem dc_Model_laysDay_105 : decode cd_Model_laysDay 105 = .ok (.aload_n 0, 1) := by decide +kernel
theorem dc_Model_laysDay_106 : decode cd_Model_laysDay 106 = .ok (.getfield 159, 3) := by decide +kernel
theorem dc_Model_laysDay_109 : decode cd_Model_laysDay 109 = .ok (.iload_n 2, 1) := by decide +kernel
theorem dc_Model_laysDay_110 : decode cd_Model_laysDay 110 = .ok (.iaload, 1) := by decide +kernel
theorem dc_Model_laysDay_111 : decode cd_Model_laysDay 111 = .ok (.iload_n 1, 1) := by decide +kernel
theorem dc_Model_laysDay_112 : decode cd_Model_laysDay 112 = .ok (.if_icmp .gt 11, 3) := by decide +kernel
theorem dc_Model_laysDay_115 : decode cd_Model_laysDay 115 = .ok (.aload_n 0, 1) := by decide +kernel
theorem dc_Model_laysDay_116 : decode cd_Model_laysDay 116 = .ok (.iload_n 2, 1) := by decide +kernel
theorem dc_Model_laysDay_117 : decode cd_Model_laysDay 117 = .ok (.invokevirtual 436, 3) := by decide +kernel
theorem dc_Model_laysDay_120 : decode cd_Model_laysDay 120 = .ok (.goto 4, 3) := by decide +kernel
theorem dc_Model_laysDay_123 : decode cd_Model_laysDay 123 = .ok (.iconst (-1), 1) := by decide +kernel
theorem dc_Model_laysDay_124 : decode cd_Model_laysDay 124 = .ok (.iastore, 1) := by decide +kernel
theorem dc_Model_laysDay_125 : decode cd_Model_laysDay 125 = .ok (.iinc 2 1, 3) := by decide +kernel
theorem dc_Model_laysDay_128 : decode cd_Model_laysDay 128 = .ok (.goto (-44), 3) := by decide +kernel
theorem dc_Model_laysDay_131 : decode cd_Model_laysDay 131 = .ok (.iconst 0, 1) := by decide +kernel
theorem dc_Model_laysDay_132 : decode cd_Model_laysDay 132 = .ok (.istore_n 2, 1) := by decide +kernel
theorem dc_Model_laysDay_133 : decode cd_Model_laysDay 133 = .ok (.iload_n 2, 1) := by decide +kernel
theorem dc_Model_laysDay_134 : decode cd_Model_laysDay 134 = .ok (.aload_n 0, 1) := by decide +kernel
theorem dc_Model_laysDay_135 : decode cd_Model_laysDay 135 = .ok (.getfield 13, 3) := by decide +kernel
theorem dc_Model_laysDay_138 : decode cd_Model_laysDay 138 = .ok (.iconst 1, 1) := by decide +kernel
theorem dc_Model_laysDay_139 : decode cd_Model_laysDay 139 = .ok (.iaload, 1) := by decide +kernel
theorem dc_Model_laysDay_140 : decode cd_Model_laysDay 140 = .ok (.if_icmp .ge 91, 3) := by decide +kernel
theorem dc_Model_laysDay_143 : decode cd_Model_laysDay 143 = .ok (.aload_n 0, 1) := by decide +kernel
theorem dc_Model_laysDay_144 : decode cd_Model_laysDay 144 = .ok (.getfield 153, 3) := by decide +kernel
theorem dc_Model_laysDay_147 : decode cd_Model_laysDay 147 = .ok (.sipush 240, 3) := by decide +kernel
theorem dc_Model_laysDay_150 : decode cd_Model_laysDay 150 = .ok (.iload_n 2, 1) := by decide +kernel
theorem dc_Model_laysDay_151 : decode cd_Model_laysDay 151 = .ok (.imul, 1) := by decide +kernel
theorem dc_Model_laysDay_152 : decode cd_Model_laysDay 152 = .ok (.iload_n 1, 1) := by decide +kernel
theorem dc_Model_laysDay_153 : decode cd_Model_laysDay 153 = .ok (.iadd, 1) := by decide +kernel
theorem dc_Model_laysDay_154 : decode cd_Model_laysDay 154 = .ok (.iaload, 1) := by decide +kernel
theorem dc_Model_laysDay_155 : decode cd_Model_laysDay 155 = .ok (.istore_n 3, 1) := by decide +kernel
theorem dc_Model_laysDay_156 : decode cd_Model_laysDay 156 = .ok (.iload_n 3, 1) := by decide +kernel
theorem dc_Model_laysDay_157 : decode cd_Model_laysDay 157 = .ok (.ifCond .lt 68, 3) := by decide +kernel
theorem dc_Model_laysDay_160 : decode cd_Model_laysDay 160 = .ok (.aload_n 0, 1) := by decide +kernel
theorem dc_Model_laysDay_161 : decode cd_Model_laysDay 161 = .ok (.getfield 47, 3) := by decide +kernel
theorem dc_Model_laysDay_164 : decode cd_Model_laysDay 164 = .ok (.bipush 6, 2) := by decide +kernel
theorem dc_Model_laysDay_166 : decode cd_Model_laysDay 166 = .ok (.iload_n 2, 1) := by decide +kernel
theorem dc_Model_laysDay_167 : decode cd_Model_laysDay 167 = .ok (.imul, 1) := by decide +kernel
theorem dc_Model_laysDay_168 : decode cd_Model_laysDay 168 = .ok (.iload_n 3, 1) := by decide +kernel
theorem dc_Model_laysDay_169 : decode cd_Model_laysDay 169 = .ok (.iadd, 1) := by decide +kernel
theorem dc_Model_laysDay_170 : decode cd_Model_laysDay 170 = .ok (.iaload, 1) := by decide +kernel
theorem dc_Model_laysDay_171 : decode cd_Model_laysDay 171 = .ok (.ifCond .ne 6, 3) := by decide +kernel
theorem dc_Model_laysDay_174 : decode cd_Model_laysDay 174 = .ok (.goto 51, 3) := by decide +kernel
theorem dc_Model_laysDay_177 : decode cd_Model_laysDay 177 = .ok (.aload_n 0, 1) := by decide +kernel
theorem dc_Model_laysDay_178 : decode cd_Model_laysDay 178 = .ok (.getfield 162, 3) := by decide +kernel
theorem dc_Model_laysDay_181 : decode cd_Model_laysDay 181 = .ok (.iload_n 2, 1) := by decide +kernel
theorem dc_Model_laysDay_182 : decode cd_Model_laysDay 182 = .ok (.aload_n 0, 1) := by decide +kernel
theorem dc_Model_laysDay_183 : decode cd_Model_laysDay 183 = .ok (.getfield 162, 3) := by decide +kernel
theorem dc_Model_laysDay_186 : decode cd_Model_laysDay 186 = .ok (.iload_n 2, 1) := by decide +kernel
theorem dc_Model_laysDay_187 : decode cd_Model_laysDay 187 = .ok (.baload, 1) := by decide +kernel
theorem dc_Model_laysDay_188 : decode cd_Model_laysDay 188 = .ok (.ifCond .ne 31, 3) := by decide +kernel
theorem dc_Model_laysDay_191 : decode cd_Model_laysDay 191 = .ok (.aload_n 0, 1) := by decide +kernel
theorem dc_Model_laysDay_192 : decode cd_Model_laysDay 192 = .ok (.getfield 153, 3) := by decide +kernel
theorem dc_Model_laysDay_195 : decode cd_Model_laysDay 195 = .ok (.sipush 240, 3) := by decide +kernel
theorem dc_Model_laysDay_198 : decode cd_Model_laysDay 198 = .ok (.aload_n 0, 1) := by decide +kernel
theorem dc_Model_laysDay_199 : decode cd_Model_laysDay 199 = .ok (.getfield 47, 3) := by decide +kernel
theorem dc_Model_laysDay_202 : decode cd_Model_laysDay 202 = .ok (.bipush 6, 2) := by decide +kernel
theorem dc_Model_laysDay_204 : decode cd_Model_laysDay 204 = .ok (.iload_n 2, 1) := by decide +kernel
theorem dc_Model_laysDay_205 : decode cd_Model_laysDay 205 = .ok (.imul, 1) := by decide +kernel
theorem dc_Model_laysDay_206 : decode cd_Model_laysDay 206 = .ok (.iload_n 3, 1) := by decide +kernel
theorem dc_Model_laysDay_207 : decode cd_Model_laysDay 207 = .ok (.iadd, 1) := by decide +kernel
theorem dc_Model_laysDay_208 : decode cd_Model_laysDay 208 = .ok (.iaload, 1) := by decide +kernel
theorem dc_Model_laysDay_209 : decode cd_Model_laysDay 209 = .ok (.iconst 1, 1) := by decide +kernel
theorem dc_Model_laysDay_210 : decode cd_Model_laysDay 210 = .ok (.isub, 1) := by decide +kernel
theorem dc_Model_laysDay_211 : decode cd_Model_laysDay 211 = .ok (.imul, 1) := by decide +kernel
theorem dc_Model_laysDay_212 : decode cd_Model_laysDay 212 = .ok (.iload_n 1, 1) := by decide +kernel
theorem dc_Model_laysDay_213 : decode cd_Model_laysDay 213 = .ok (.iadd, 1) := by decide +kernel
theorem dc_Model_laysDay_214 : decode cd_Model_laysDay 214 = .ok (.iaload, 1) := by decide +kernel
theorem dc_Model_laysDay_215 : decode cd_Model_laysDay 215 = .ok (.iload_n 3, 1) := by decide +kernel
theorem dc_Model_laysDay_216 : decode cd_Model_laysDay 216 = .ok (.if_icmp .ne 7, 3) := by decide +kernel
theorem dc_Model_laysDay_219 : decode cd_Model_laysDay 219 = .ok (.iconst 1, 1) := by decide +kernel
theorem dc_Model_laysDay_220 : decode cd_Model_laysDay 220 = .ok (.goto 4, 3) := by decide +kernel
theorem dc_Model_laysDay_223 : decode cd_Model_laysDay 223 = .ok (.iconst 0, 1) := by decide +kernel
theorem dc_Model_laysDay_224 : decode cd_Model_laysDay 224 = .ok (.bastore, 1) := by decide +kernel
theorem dc_Model_laysDay_225 : decode cd_Model_laysDay 225 = .ok (.iinc 2 1, 3) := by decide +kernel
theorem dc_Model_laysDay_228 : decode cd_Model_laysDay 228 = .ok (.goto (-95), 3) := by decide +kernel
theorem dc_Model_laysDay_231 : decode cd_Model_laysDay 231 = .ok (.iconst 0, 1) := by decide +kernel
theorem dc_Model_laysDay_232 : decode cd_Model_laysDay 232 = .ok (.istore_n 2, 1) := by decide +kernel
theorem dc_Model_laysDay_233 : decode cd_Model_laysDay 233 = .ok (.iload_n 2, 1) := by decide +kernel
theorem dc_Model_laysDay_234 : decode cd_Model_laysDay 234 = .ok (.aload_n 0, 1) := by decide +kernel
theorem dc_Model_laysDay_235 : decode cd_Model_laysDay 235 = .ok (.getfield 13, 3) := by decide +kernel
theorem dc_Model_laysDay_238 : decode cd_Model_laysDay 238 = .ok (.iconst 1, 1) := by decide +kernel
theorem dc_Model_laysDay_239 : decode cd_Model_laysDay 239 = .ok (.iaload, 1) := by decide +kernel
theorem dc_Model_laysDay_240 : decode cd_Model_laysDay 240 = .ok (.if_icmp .ge 39, 3) := by decide +kernel
theorem dc_Model_laysDay_243 : decode cd_Model_laysDay 243 = .ok (.aload_n 0, 1) := by decide +kernel
theorem dc_Model_laysDay_244 : decode cd_Model_laysDay 244 = .ok (.getfield 153, 3) := by decide +kernel
theorem dc_Model_laysDay_247 : decode cd_Model_laysDay 247 = .ok (.sipush 240, 3) := by decide +kernel
theorem dc_Model_laysDay_250 : decode cd_Model_laysDay 250 = .ok (.iload_n 2, 1) := by decide +kernel
theorem dc_Model_laysDay_251 : decode cd_Model_laysDay 251 = .ok (.imul, 1) := by decide +kernel
theorem dc_Model_laysDay_252 : decode cd_Model_laysDay 252 = .ok (.iload_n 1, 1) := by decide +kernel
theorem dc_Model_laysDay_253 : decode cd_Model_laysDay 253 = .ok (.iadd, 1) := by decide +kernel
theorem dc_Model_laysDay_254 : decode cd_Model_laysDay 254 = .ok (.iaload, 1) := by decide +kernel
theorem dc_Model_laysDay_255 : decode cd_Model_laysDay 255 = .ok (.ifCond .lt 18, 3) := by decide +kernel
theorem dc_Model_laysDay_258 : decode cd_Model_laysDay 258 = .ok (.aload_n 0, 1) := by decide +kernel
theorem dc_Model_laysDay_259 : decode cd_Model_laysDay 259 = .ok (.iload_n 2, 1) := by decide +kernel
theorem dc_Model_laysDay_260 : decode cd_Model_laysDay 260 = .ok (.iload_n 1, 1) := by decide +kernel
theorem dc_Model_laysDay_261 : decode cd_Model_laysDay 261 = .ok (.invokevirtual 442, 3) := by decide +kernel
theorem dc_Model_laysDay_264 : decode cd_Model_laysDay 264 = .ok (.ifCond .eq 9, 3) := by decide +kernel
theorem dc_Model_laysDay_267 : decode cd_Model_laysDay 267 = .ok (.aload_n 0, 1) := by decide +kernel
theorem dc_Model_laysDay_268 : decode cd_Model_laysDay 268 = .ok (.iload_n 2, 1) := by decide +kernel
theorem dc_Model_laysDay_269 : decode cd_Model_laysDay 269 = .ok (.iload_n 1, 1) := by decide +kernel
theorem dc_Model_laysDay_270 : decode cd_Model_laysDay 270 = .ok (.invokevirtual 445, 3) := by decide +kernel
theorem dc_Model_laysDay_273 : decode cd_Model_laysDay 273 = .ok (.iinc 2 1, 3) := by decide +kernel
theorem dc_Model_laysDay_276 : decode cd_Model_laysDay 276 = .ok (.goto (-43), 3) := by decide +kernel
theorem dc_Model_laysDay_279 : decode cd_Model_laysDay 279 = .ok (.iinc 1 1, 3) := by decide +kernel
theorem dc_Model_laysDay_282 : decode cd_Model_laysDay 282 = .ok (.goto (-207), 3) := by decide +kernel
theorem dc_Model_laysDay_285 : decode cd_Model_laysDay 285 = .ok (.return_, 1) := by decide +kernel
theorem dc_Model_costOf_0 : decode cd_Model_costOf 0 = .ok (.aload_n 0, 1) := by decide +kernel
theorem dc_Model_costOf_1 : decode cd_Model_costOf 1 = .ok (.iload_n 1, 1) := by decide +kernel
theorem dc_Model_costOf_2 : decode cd_Model_costOf 2 = .ok (.invokevirtual 454, 3) := by decide +kernel
theorem dc_Model_costOf_5 : decode cd_Model_costOf 5 = .ok (.istore_n 2, 1) := by decide +kernel
theorem dc_Model_costOf_6 : decode cd_Model_costOf 6 = .ok (.aload_n 0, 1) := by decide +kernel
theorem dc_Model_costOf_7 : decode cd_Model_costOf 7 = .ok (.iload_n 1, 1) := by decide +kernel
theorem dc_Model_costOf_8 : decode cd_Model_costOf 8 = .ok (.iload_n 2, 1) := by decide +kernel
theorem dc_Model_costOf_9 : decode cd_Model_costOf 9 = .ok (.invokevirtual 457, 3) := by decide +kernel
theorem dc_Model_costOf_12 : decode cd_Model_costOf 12 = .ok (.istore_n 3, 1) := by decide +kernel
theorem dc_Model_costOf_13 : decode cd_Model_costOf 13 = .ok (.iload_n 3, 1) := by decide +kernel
theorem dc_Model_costOf_14 : decode cd_Model_costOf 14 = .ok (.istore 4, 2) := by decide +kernel
theorem dc_Model_costOf_16 : decode cd_Model_costOf 16 = .ok (.aload_n 0, 1) := by decide +kernel
theorem dc_Model_costOf_17 : decode cd_Model_costOf 17 = .ok (.getfield 65, 3) := by decide +kernel
theorem dc_Model_costOf_20 : decode cd_Model_costOf 20 = .ok (.iconst 0, 1) := by decide +kernel
theorem dc_Model_costOf_21 : decode cd_Model_costOf 21 = .ok (.iaload, 1) := by decide +kernel
theorem dc_Model_costOf_22 : decode cd_Model_costOf 22 = .ok (.aload_n 0, 1) := by decide +kernel
theorem dc_Model_costOf_23 : decode cd_Model_costOf 23 = .ok (.getfield 62, 3) := by decide +kernel
theorem dc_Model_costOf_26 : decode cd_Model_costOf 26 = .ok (.iconst 0, 1) := by decide +kernel
theorem dc_Model_costOf_27 : decode cd_Model_costOf 27 = .ok (.iaload, 1) := by decide +kernel
theorem dc_Model_costOf_28 : decode cd_Model_costOf 28 = .ok (.if_icmp .le 44, 3) := by decide +kernel
theorem dc_Model_costOf_31 : decode cd_Model_costOf 31 = .ok (.aload_n 0, 1) := by decide +kernel
theorem dc_Model_costOf_32 : decode cd_Model_costOf 32 = .ok (.getfield 105, 3) := by decide +kernel
theorem dc_Model_costOf_35 : decode cd_Model_costOf 35 = .ok (.iconst 1, 1) := by decide +kernel
theorem dc_Model_costOf_36 : decode cd_Model_costOf 36 = .ok (.iload_n 3, 1) := by decide +kernel
theorem dc_Model_costOf_37 : decode cd_Model_costOf 37 = .ok (.iastore, 1) := by decide +kernel
theorem dc_Model_costOf_38 : decode cd_Model_costOf 38 = .ok (.aload_n 0, 1) := by decide +kernel
theorem dc_Model_costOf_39 : decode cd_Model_costOf 39 = .ok (.getfield 105, 3) := by decide +kernel
theorem dc_Model_costOf_42 : decode cd_Model_costOf 42 = .ok (.iconst 2, 1) := by decide +kernel
theorem dc_Model_costOf_43 : decode cd_Model_costOf 43 = .ok (.iload_n 2, 1) := by decide +kernel
theorem dc_Model_costOf_44 : decode cd_Model_costOf 44 = .ok (.ifCond .ge 7, 3) := by decide +kernel
theorem dc_Model_costOf_47 : decode cd_Model_costOf 47 = .ok (.iconst 1, 1) := by decide +kernel
theorem dc_Model_costOf_48 : decode cd_Model_costOf 48 = .ok (.goto 4, 3) := by decide +kernel
theorem dc_Model_costOf_51 : decode cd_Model_costOf 51 = .ok (.iconst 0, 1) := by decide +kernel
theorem dc_Model_costOf_52 : decode cd_Model_costOf 52 = .ok (.iastore, 1) := by decide +kernel
theorem dc_Model_costOf_53 : decode cd_Model_costOf 53 = .ok (.aload_n 0, 1) := by decide +kernel
theorem dc_Model_costOf_54 : decode cd_Model_costOf 54 = .ok (.getfield 105, 3) := by decide +kernel
theorem dc_Model_costOf_57 : decode cd_Model_costOf 57 = .ok (.iconst 3, 1) := by decide +kernel
theorem dc_Model_costOf_58 : decode cd_Model_costOf 58 = .ok (.aload_n 0, 1) := by decide +kernel
theorem dc_Model_costOf_59 : decode cd_Model_costOf 59 = .ok (.getfield 135, 3) := by decide +kernel
theorem dc_Model_costOf_62 : decode cd_Model_costOf 62 = .ok (.iconst 0, 1) := by decide +kernel
theorem dc_Model_costOf_63 : decode cd_Model_costOf 63 = .ok (.iaload, 1) := by decide +kernel
theorem dc_Model_costOf_64 : decode cd_Model_costOf 64 = .ok (.iastore, 1) := by decide +kernel
theorem dc_Model_costOf_65 : decode cd_Model_costOf 65 = .ok (.aload_n 0, 1) := by decide +kernel
theorem dc_Model_costOf_66 : decode cd_Model_costOf 66 = .ok (.iconst 0, 1) := by decide +kernel
theorem dc_Model_costOf_67 : decode cd_Model_costOf 67 = .ok (.invokevirtual 460, 3) := by decide +kernel
theorem dc_Model_costOf_70 : decode cd_Model_costOf 70 = .ok (.istore 4, 2) := by decide +kernel
theorem dc_Model_costOf_72 : decode cd_Model_costOf 72 = .ok (.iload 4, 2) := by decide +kernel
theorem dc_Model_costOf_74 : decode cd_Model_costOf 74 = .ok (.iconst 0, 1) := by decide +kernel
theorem dc_Model_costOf_75 : decode cd_Model_costOf 75 = .ok (.sipush 999, 3) := by decide +kernel
theorem dc_Model_costOf_78 : decode cd_Model_costOf 78 = .ok (.invokestatic 463, 3) := by decide +kernel
theorem dc_Model_costOf_81 : decode cd_Model_costOf 81 = .ok (.ireturn, 1) := by decide +kernel
theorem dc_Model_late_0 : decode cd_Model_late 0 = .ok (.aload_n 0, 1) := by decide +kernel
theorem dc_Model_late_1 : decode cd_Model_late 1 = .ok (.iconst 0, 1) := by decide +kernel
theorem dc_Model_late_2 : decode cd_Model_late 2 = .ok (.putfield 183, 3) := by decide +kernel
theorem dc_Model_late_5 : decode cd_Model_late 5 = .ok (.aload_n 0, 1) := by decide +kernel
theorem dc_Model_late_6 : decode cd_Model_late 6 = .ok (.iload_n 1, 1) := by decide +kernel
theorem dc_Model_late_7 : decode cd_Model_late 7 = .ok (.invokevirtual 467, 3) := by decide +kernel
theorem dc_Model_late_10 : decode cd_Model_late 10 = .ok (.ifCond .eq 28, 3) := by decide +kernel
theorem dc_Model_late_13 : decode cd_Model_late 13 = .ok (.iload_n 2, 1) := by decide +kernel
theorem dc_Model_late_14 : decode cd_Model_late 14 = .ok (.iconst 0, 1) := by decide +kernel
theorem dc_Model_late_15 : decode cd_Model_late 15 = .ok (.bipush 60, 2) := by decide +kernel
theorem dc_Model_late_17 : decode cd_Model_late 17 = .ok (.invokestatic 318, 3) := by decide +kernel
theorem dc_Model_late_20 : decode cd_Model_late 20 = .ok (.ifCond .eq 18, 3) := by decide +kernel
theorem dc_Model_late_23 : decode cd_Model_late 23 = .ok (.aload_n 0, 1) := by decide +kernel
theorem dc_Model_late_24 : decode cd_Model_late 24 = .ok (.iconst 4, 1) := by decide +kernel
theorem dc_Model_late_25 : decode cd_Model_late 25 = .ok (.iload_n 1, 1) := by decide +kernel
theorem dc_Model_late_26 : decode cd_Model_late 26 = .ok (.iadd, 1) := by decide +kernel
theorem dc_Model_late_27 : decode cd_Model_late 27 = .ok (.iload_n 2, 1) := by decide +kernel
theorem dc_Model_late_28 : decode cd_Model_late 28 = .ok (.invokevirtual 492, 3) := by decide +kernel
theorem dc_Model_late_31 : decode cd_Model_late 31 = .ok (.ifCond .eq 7, 3) := by decide +kernel
theorem dc_Model_late_34 : decode cd_Model_late 34 = .ok (.iconst 1, 1) := by decide +kernel
theorem dc_Model_late_35 : decode cd_Model_late 35 = .ok (.goto 4, 3) := by decide +kernel
theorem dc_Model_late_38 : decode cd_Model_late 38 = .ok (.iconst 0, 1) := by decide +kernel
theorem dc_Model_late_39 : decode cd_Model_late 39 = .ok (.ireturn, 1) := by decide +kernel
theorem dc_Model_dies_0 : decode cd_Model_dies 0 = .ok (.aload_n 0, 1) := by decide +kernel
theorem dc_Model_dies_1 : decode cd_Model_dies 1 = .ok (.iconst 0, 1) := by decide +kernel
theorem dc_Model_dies_2 : decode cd_Model_dies 2 = .ok (.putfield 183, 3) := by decide +kernel
theorem dc_Model_dies_5 : decode cd_Model_dies 5 = .ok (.aload_n 0, 1) := by decide +kernel
theorem dc_Model_dies_6 : decode cd_Model_dies 6 = .ok (.iload_n 1, 1) := by decide +kernel
theorem dc_Model_dies_7 : decode cd_Model_dies 7 = .ok (.invokevirtual 467, 3) := by decide +kernel
theorem dc_Model_dies_10 : decode cd_Model_dies 10 = .ok (.ifCond .eq 35, 3) := by decide +kernel
theorem dc_Model_dies_13 : decode cd_Model_dies 13 = .ok (.aload_n 0, 1) := by decide +kernel
theorem dc_Model_dies_14 : decode cd_Model_dies 14 = .ok (.iload_n 1, 1) := by decide +kernel
theorem dc_Model_dies_15 : decode cd_Model_dies 15 = .ok (.invokevirtual 489, 3) := by decide +kernel
theorem dc_Model_dies_18 : decode cd_Model_dies 18 = .ok (.ifCond .eq 27, 3) := by decide +kernel
theorem dc_Model_dies_21 : decode cd_Model_dies 21 = .ok (.aload_n 0, 1) := by decide +kernel
theorem dc_Model_dies_22 : decode cd_Model_dies 22 = .ok (.iconst 2, 1) := by decide +kernel
theorem dc_Model_dies_23 : decode cd_Model_dies 23 = .ok (.aload_n 0, 1) := by decide +kernel
theorem dc_Model_dies_24 : decode cd_Model_dies 24 = .ok (.getfield 135, 3) := by decide +kernel
theorem dc_Model_dies_27 : decode cd_Model_dies 27 = .ok (.iconst 2, 1) := by decide +kernel
theorem dc_Model_dies_28 : decode cd_Model_dies 28 = .ok (.iaload, 1) := by decide +kernel
theorem dc_Model_dies_29 : decode cd_Model_dies 29 = .ok (.iconst 1, 1) := by decide +kernel
theorem dc_Model_dies_30 : decode cd_Model_dies 30 = .ok (.iload_n 1, 1) := by decide +kernel
theorem dc_Model_dies_31 : decode cd_Model_dies 31 = .ok (.ishl, 1) := by decide +kernel
theorem dc_Model_dies_32 : decode cd_Model_dies 32 = .ok (.iconst (-1), 1) := by decide +kernel
theorem dc_Model_dies_33 : decode cd_Model_dies 33 = .ok (.ixor, 1) := by decide +kernel
theorem dc_Model_dies_34 : decode cd_Model_dies 34 = .ok (.iand, 1) := by decide +kernel
theorem dc_Model_dies_35 : decode cd_Model_dies 35 = .ok (.invokevirtual 492, 3) := by decide +kernel
theorem dc_Model_dies_38 : decode cd_Model_dies 38 = .ok (.ifCond .eq 7, 3) := by decide +kernel
theorem dc_Model_dies_41 : decode cd_Model_dies 41 = .ok (.iconst 1, 1) := by decide +kernel
theorem dc_Model_dies_42 : decode cd_Model_dies 42 = .ok (.goto 4, 3) := by decide +kernel
theorem dc_Model_dies_45 : decode cd_Model_dies 45 = .ok (.iconst 0, 1) := by decide +kernel
theorem dc_Model_dies_46 : decode cd_Model_dies 46 = .ok (.ireturn, 1) := by decide +kernel
theorem dc_Model_deputy_0 : decode cd_Model_deputy 0 = .ok (.aload_n 0, 1) := by decide +kernel
theorem dc_Model_deputy_1 : decode cd_Model_deputy 1 = .ok (.iconst 0, 1) := by decide +kernel
theorem dc_Model_deputy_2 : decode cd_Model_deputy 2 = .ok (.putfield 183, 3) := by decide +kernel
theorem dc_Model_deputy_5 : decode cd_Model_deputy 5 = .ok (.aload_n 0, 1) := by decide +kernel
theorem dc_Model_deputy_6 : decode cd_Model_deputy 6 = .ok (.iload_n 1, 1) := by decide +kernel
theorem dc_Model_deputy_7 : decode cd_Model_deputy 7 = .ok (.invokevirtual 473, 3) := by decide +kernel
theorem dc_Model_deputy_10 : decode cd_Model_deputy 10 = .ok (.ifCond .eq 49, 3) := by decide +kernel
theorem dc_Model_deputy_13 : decode cd_Model_deputy 13 = .ok (.aload_n 0, 1) := by decide +kernel
theorem dc_Model_deputy_14 : decode cd_Model_deputy 14 = .ok (.iload_n 2, 1) := by decide +kernel
theorem dc_Model_deputy_15 : decode cd_Model_deputy 15 = .ok (.invokevirtual 467, 3) := by decide +kernel
theorem dc_Model_deputy_18 : decode cd_Model_deputy 18 = .ok (.ifCond .eq 41, 3) := by decide +kernel
theorem dc_Model_deputy_21 : decode cd_Model_deputy 21 = .ok (.aload_n 0, 1) := by decide +kernel
theorem dc_Model_deputy_22 : decode cd_Model_deputy 22 = .ok (.getfield 135, 3) := by decide +kernel
theorem dc_Model_deputy_25 : decode cd_Model_deputy 25 = .ok (.bipush 10, 2) := by decide +kernel
theorem dc_Model_deputy_27 : decode cd_Model_deputy 27 = .ok (.iload_n 1, 1) := by decide +kernel
theorem dc_Model_deputy_28 : decode cd_Model_deputy 28 = .ok (.iadd, 1) := by decide +kernel
theorem dc_Model_deputy_29 : decode cd_Model_deputy 29 = .ok (.iaload, 1) := by decide +kernel
theorem dc_Model_deputy_30 : decode cd_Model_deputy 30 = .ok (.iload_n 2, 1) := by decide +kernel
theorem dc_Model_deputy_31 : decode cd_Model_deputy 31 = .ok (.if_icmp .eq 28, 3) := by decide +kernel
theorem dc_Model_deputy_34 : decode cd_Model_deputy 34 = .ok (.aload_n 0, 1) := by decide +kernel
theorem dc_Model_deputy_35 : decode cd_Model_deputy 35 = .ok (.iload_n 1, 1) := by decide +kernel
theorem dc_Model_deputy_36 : decode cd_Model_deputy 36 = .ok (.iload_n 2, 1) := by decide +kernel
theorem dc_Model_deputy_37 : decode cd_Model_deputy 37 = .ok (.invokevirtual 495, 3) := by decide +kernel
theorem dc_Model_deputy_40 : decode cd_Model_deputy 40 = .ok (.ifCond .eq 19, 3) := by decide +kernel
theorem dc_Model_deputy_43 : decode cd_Model_deputy 43 = .ok (.aload_n 0, 1) := by decide +kernel
theorem dc_Model_deputy_44 : decode cd_Model_deputy 44 = .ok (.bipush 10, 2) := by decide +kernel
theorem dc_Model_deputy_46 : decode cd_Model_deputy 46 = .ok (.iload_n 1, 1) := by decide +kernel
theorem dc_Model_deputy_47 : decode cd_Model_deputy 47 = .ok (.iadd, 1) := by decide +kernel
theorem dc_Model_deputy_48 : decode cd_Model_deputy 48 = .ok (.iload_n 2, 1) := by decide +kernel
theorem dc_Model_deputy_49 : decode cd_Model_deputy 49 = .ok (.invokevirtual 492, 3) := by decide +kernel
theorem dc_Model_deputy_52 : decode cd_Model_deputy 52 = .ok (.ifCond .eq 7, 3) := by decide +kernel
theorem dc_Model_deputy_55 : decode cd_Model_deputy 55 = .ok (.iconst 1, 1) := by decide +kernel
theorem dc_Model_deputy_56 : decode cd_Model_deputy 56 = .ok (.goto 4, 3) := by decide +kernel
theorem dc_Model_deputy_59 : decode cd_Model_deputy 59 = .ok (.iconst 0, 1) := by decide +kernel
theorem dc_Model_deputy_60 : decode cd_Model_deputy 60 = .ok (.ireturn, 1) := by decide +kernel
theorem dc_Model_snow_0 : decode cd_Model_snow 0 = .ok (.aload_n 0, 1) := by decide +kernel
theorem dc_Model_snow_1 : decode cd_Model_snow 1 = .ok (.iconst 0, 1) := by decide +kernel
theorem dc_Model_snow_2 : decode cd_Model_snow 2 = .ok (.putfield 183, 3) := by decide +kernel
theorem dc_Model_snow_5 : decode cd_Model_snow 5 = .ok (.aload_n 0, 1) := by decide +kernel
theorem dc_Model_snow_6 : decode cd_Model_snow 6 = .ok (.getfield 135, 3) := by decide +kernel
theorem dc_Model_snow_9 : decode cd_Model_snow 9 = .ok (.iconst 3, 1) := by decide +kernel
theorem dc_Model_snow_10 : decode cd_Model_snow 10 = .ok (.iaload, 1) := by decide +kernel
theorem dc_Model_snow_11 : decode cd_Model_snow 11 = .ok (.ifCond .ne 16, 3) := by decide +kernel
theorem dc_Model_snow_14 : decode cd_Model_snow 14 = .ok (.aload_n 0, 1) := by decide +kernel
theorem dc_Model_snow_15 : decode cd_Model_snow 15 = .ok (.iconst 3, 1) := by decide +kernel
theorem dc_Model_snow_16 : decode cd_Model_snow 16 = .ok (.iconst 1, 1) := by decide +kernel
theorem dc_Model_snow_17 : decode cd_Model_snow 17 = .ok (.invokevirtual 492, 3) := by decide +kernel
theorem dc_Model_snow_20 : decode cd_Model_snow 20 = .ok (.ifCond .eq 7, 3) := by decide +kernel
theorem dc_Model_snow_23 : decode cd_Model_snow 23 = .ok (.iconst 1, 1) := by decide +kernel
theorem dc_Model_snow_24 : decode cd_Model_snow 24 = .ok (.goto 4, 3) := by decide +kernel
theorem dc_Model_snow_27 : decode cd_Model_snow 27 = .ok (.iconst 0, 1) := by decide +kernel
theorem dc_Model_snow_28 : decode cd_Model_snow 28 = .ok (.ireturn, 1) := by decide +kernel
theorem dc_Model_readsWalker_0 : decode cd_Model_readsWalker 0 = .ok (.bipush 6, 2) := by decide +kernel
theorem dc_Model_readsWalker_2 : decode cd_Model_readsWalker 2 = .ok (.aload_n 0, 1) := by decide +kernel
theorem dc_Model_readsWalker_3 : decode cd_Model_readsWalker 3 = .ok (.getfield 13, 3) := by decide +kernel
theorem dc_Model_readsWalker_6 : decode cd_Model_readsWalker 6 = .ok (.bipush 6, 2) := by decide +kernel
theorem dc_Model_readsWalker_8 : decode cd_Model_readsWalker 8 = .ok (.iaload, 1) := by decide +kernel
theorem dc_Model_readsWalker_9 : decode cd_Model_readsWalker 9 = .ok (.iadd, 1) := by decide +kernel
theorem dc_Model_readsWalker_10 : decode cd_Model_readsWalker 10 = .ok (.istore_n 1, 1) := by decide +kernel
theorem dc_Model_readsWalker_11 : decode cd_Model_readsWalker 11 = .ok (.iload_n 1, 1) := by decide +kernel
theorem dc_Model_readsWalker_12 : decode cd_Model_readsWalker 12 = .ok (.bipush 12, 2) := by decide +kernel
theorem dc_Model_readsWalker_14 : decode cd_Model_readsWalker 14 = .ok (.if_icmp .ne 9, 3) := by decide +kernel
theorem dc_Model_readsWalker_17 : decode cd_Model_readsWalker 17 = .ok (.aload_n 0, 1) := by decide +kernel
theorem dc_Model_readsWalker_18 : decode cd_Model_readsWalker 18 = .ok (.iconst 5, 1) := by decide +kernel
theorem dc_Model_readsWalker_19 : decode cd_Model_readsWalker 19 = .ok (.invokevirtual 245, 3) := by decide +kernel
theorem dc_Model_readsWalker_22 : decode cd_Model_readsWalker 22 = .ok (.ireturn, 1) := by decide +kernel
theorem dc_Model_readsWalker_23 : decode cd_Model_readsWalker 23 = .ok (.aload_n 0, 1) := by decide +kernel
theorem dc_Model_readsWalker_24 : decode cd_Model_readsWalker 24 = .ok (.invokevirtual 252, 3) := by decide +kernel
theorem dc_Model_readsWalker_27 : decode cd_Model_readsWalker 27 = .ok (.aload_n 0, 1) := by decide +kernel
theorem dc_Model_readsWalker_28 : decode cd_Model_readsWalker 28 = .ok (.invokevirtual 348, 3) := by decide +kernel
theorem dc_Model_readsWalker_31 : decode cd_Model_readsWalker 31 = .ok (.ifCond .ne 5, 3) := by decide +kernel
theorem dc_Model_readsWalker_34 : decode cd_Model_readsWalker 34 = .ok (.iconst 0, 1) := by decide +kernel
theorem dc_Model_readsWalker_35 : decode cd_Model_readsWalker 35 = .ok (.ireturn, 1) := by decide +kernel
theorem dc_Model_readsWalker_36 : decode cd_Model_readsWalker 36 = .ok (.aload_n 0, 1) := by decide +kernel
theorem dc_Model_readsWalker_37 : decode cd_Model_readsWalker 37 = .ok (.getfield 345, 3) := by decide +kernel
theorem dc_Model_readsWalker_40 : decode cd_Model_readsWalker 40 = .ok (.lstore_n 2, 1) := by decide +kernel
theorem dc_Model_readsWalker_41 : decode cd_Model_readsWalker 41 = .ok (.aload_n 0, 1) := by decide +kernel
theorem dc_Model_readsWalker_42 : decode cd_Model_readsWalker 42 = .ok (.getfield 29, 3) := by decide +kernel
theorem dc_Model_readsWalker_45 : decode cd_Model_readsWalker 45 = .ok (.iload_n 1, 1) := by decide +kernel
theorem dc_Model_readsWalker_46 : decode cd_Model_readsWalker 46 = .ok (.aload_n 0, 1) := by decide +kernel
theorem dc_Model_readsWalker_47 : decode cd_Model_readsWalker 47 = .ok (.ldc2_w 306, 3) := by decide +kernel
theorem dc_Model_readsWalker_50 : decode cd_Model_readsWalker 50 = .ok (.invokevirtual 237, 3) := by decide +kernel
theorem dc_Model_readsWalker_53 : decode cd_Model_readsWalker 53 = .ok (.ifCond .eq 7, 3) := by decide +kernel
theorem dc_Model_readsWalker_56 : decode cd_Model_readsWalker 56 = .ok (.iconst 0, 1) := by decide +kernel
theorem dc_Model_readsWalker_57 : decode cd_Model_readsWalker 57 = .ok (.goto 46, 3) := by decide +kernel
theorem dc_Model_readsWalker_60 : decode cd_Model_readsWalker 60 = .ok (.aload_n 0, 1) := by decide +kernel
theorem dc_Model_readsWalker_61 : decode cd_Model_readsWalker 61 = .ok (.ldc2_w 308, 3) := by decide +kernel
theorem dc_Model_readsWalker_64 : decode cd_Model_readsWalker 64 = .ok (.invokevirtual 237, 3) := by decide +kernel
theorem dc_Model_readsWalker_67 : decode cd_Model_readsWalker 67 = .ok (.ifCond .eq 7, 3) := by decide +kernel
theorem dc_Model_readsWalker_70 : decode cd_Model_readsWalker 70 = .ok (.iconst 1, 1) := by decide +kernel
theorem dc_Model_readsWalker_71 : decode cd_Model_readsWalker 71 = .ok (.goto 32, 3) := by decide +kernel
theorem dc_Model_readsWalker_74 : decode cd_Model_readsWalker 74 = .ok (.aload_n 0, 1) := by decide +kernel
theorem dc_Model_readsWalker_75 : decode cd_Model_readsWalker 75 = .ok (.ldc2_w 310, 3) := by decide +kernel
theorem dc_Model_readsWalker_78 : decode cd_Model_readsWalker 78 = .ok (.invokevirtual 237, 3) := by decide +kernel
theorem dc_Model_readsWalker_81 : decode cd_Model_readsWalker 81 = .ok (.ifCond .eq 7, 3) := by decide +kernel
theorem dc_Model_readsWalker_84 : decode cd_Model_readsWalker 84 = .ok (.iconst 2, 1) := by decide +kernel
theorem dc_Model_readsWalker_85 : decode cd_Model_readsWalker 85 = .ok (.goto 18, 3) := by decide +kernel
theorem dc_Model_readsWalker_88 : decode cd_Model_readsWalker 88 = .ok (.aload_n 0, 1) := by decide +kernel
theorem dc_Model_readsWalker_89 : decode cd_Model_readsWalker 89 = .ok (.ldc2_w 312, 3) := by decide +kernel
theorem dc_Model_readsWalker_92 : decode cd_Model_readsWalker 92 = .ok (.invokevirtual 237, 3) := by decide +kernel
theorem dc_Model_readsWalker_95 : decode cd_Model_readsWalker 95 = .ok (.ifCond .eq 7, 3) := by decide +kernel
theorem dc_Model_readsWalker_98 : decode cd_Model_readsWalker 98 = .ok (.iconst 3, 1) := by decide +kernel
theorem dc_Model_readsWalker_99 : decode cd_Model_readsWalker 99 = .ok (.goto 4, 3) := by decide +kernel
theorem dc_Model_readsWalker_102 : decode cd_Model_readsWalker 102 = .ok (.iconst (-1), 1) := by decide +kernel
theorem dc_Model_readsWalker_103 : decode cd_Model_readsWalker 103 = .ok (.iastore, 1) := by decide +kernel
theorem dc_Model_readsWalker_104 : decode cd_Model_readsWalker 104 = .ok (.aload_n 0, 1) := by decide +kernel
theorem dc_Model_readsWalker_105 : decode cd_Model_readsWalker 105 = .ok (.getfield 29, 3) := by decide +kernel
theorem dc_Model_readsWalker_108 : decode cd_Model_readsWalker 108 = .ok (.iload_n 1, 1) := by decide +kernel
theorem dc_Model_readsWalker_109 : decode cd_Model_readsWalker 109 = .ok (.iaload, 1) := by decide +kernel
theorem dc_Model_readsWalker_110 : decode cd_Model_readsWalker 110 = .ok (.ifCond .ge 9, 3) := by decide +kernel
theorem dc_Model_readsWalker_113 : decode cd_Model_readsWalker 113 = .ok (.aload_n 0, 1) := by decide +kernel
theorem dc_Model_readsWalker_114 : decode cd_Model_readsWalker 114 = .ok (.iconst 1, 1) := by decide +kernel
theorem dc_Model_readsWalker_115 : decode cd_Model_readsWalker 115 = .ok (.invokevirtual 245, 3) := by decide +kernel
theorem dc_Model_readsWalker_118 : decode cd_Model_readsWalker 118 = .ok (.ireturn, 1) := by decide +kernel
theorem dc_Model_readsWalker_119 : decode cd_Model_readsWalker 119 = .ok (.aload_n 0, 1) := by decide +kernel
theorem dc_Model_readsWalker_120 : decode cd_Model_readsWalker 120 = .ok (.invokevirtual 252, 3) := by decide +kernel
theorem dc_Model_readsWalker_123 : decode cd_Model_readsWalker 123 = .ok (.aload_n 0, 1) := by decide +kernel
theorem dc_Model_readsWalker_124 : decode cd_Model_readsWalker 124 = .ok (.ldc2_w 274, 3) := by decide +kernel
theorem dc_Model_readsWalker_127 : decode cd_Model_readsWalker 127 = .ok (.iconst 0, 1) := by decide +kernel
theorem dc_Model_readsWalker_128 : decode cd_Model_readsWalker 128 = .ok (.sipush 239, 3) := by decide +kernel
theorem dc_Model_readsWalker_131 : decode cd_Model_readsWalker 131 = .ok (.invokevirtual 357, 3) := by decide +kernel
theorem dc_Model_readsWalker_134 : decode cd_Model_readsWalker 134 = .ok (.ifCond .ne 5, 3) := by decide +kernel
theorem dc_Model_readsWalker_137 : decode cd_Model_readsWalker 137 = .ok (.iconst 0, 1) := by decide +kernel
theorem dc_Model_readsWalker_138 : decode cd_Model_readsWalker 138 = .ok (.ireturn, 1) := by decide +kernel
theorem dc_Model_readsWalker_139 : decode cd_Model_readsWalker 139 = .ok (.aload_n 0, 1) := by decide +kernel
theorem dc_Model_readsWalker_140 : decode cd_Model_readsWalker 140 = .ok (.getfield 32, 3) := by decide +kernel
theorem dc_Model_readsWalker_143 : decode cd_Model_readsWalker 143 = .ok (.iload_n 1, 1) := by decide +kernel
theorem dc_Model_readsWalker_144 : decode cd_Model_readsWalker 144 = .ok (.aload_n 0, 1) := by decide +kernel
theorem dc_Model_readsWalker_145 : decode cd_Model_readsWalker 145 = .ok (.getfield 322, 3) := by decide +kernel
theorem dc_Model_readsWalker_148 : decode cd_Model_readsWalker 148 = .ok (.iastore, 1) := by decide +kernel
theorem dc_Model_readsWalker_149 : decode cd_Model_readsWalker 149 = .ok (.aload_n 0, 1) := by decide +kernel
theorem dc_Model_readsWalker_150 : decode cd_Model_readsWalker 150 = .ok (.ldc2_w 276, 3) := by decide +kernel
theorem dc_Model_readsWalker_153 : decode cd_Model_readsWalker 153 = .ok (.iconst 1, 1) := by decide +kernel
theorem dc_Model_readsWalker_154 : decode cd_Model_readsWalker 154 = .ok (.iconst 5, 1) := by decide +kernel
theorem dc_Model_readsWalker_155 : decode cd_Model_readsWalker 155 = .ok (.invokevirtual 357, 3) := by decide +kernel
theorem dc_Model_readsWalker_158 : decode cd_Model_readsWalker 158 = .ok (.ifCond .ne 5, 3) := by decide +kernel
theorem dc_Model_readsWalker_161 : decode cd_Model_readsWalker 161 = .ok (.iconst 0, 1) := by decide +kernel
theorem dc_Model_readsWalker_162 : decode cd_Model_readsWalker 162 = .ok (.ireturn, 1) := by decide +kernel
theorem dc_Model_readsWalker_163 : decode cd_Model_readsWalker 163 = .ok (.aload_n 0, 1) := by decide +kernel
theorem dc_Model_readsWalker_164 : decode cd_Model_readsWalker 164 = .ok (.getfield 35, 3) := by decide +kernel
theorem dc_Model_readsWalker_167 : decode cd_Model_readsWalker 167 = .ok (.iload_n 1, 1) := by decide +kernel
theorem dc_Model_readsWalker_168 : decode cd_Model_readsWalker 168 = .ok (.aload_n 0, 1) := by decide +kernel
theorem dc_Model_readsWalker_169 : decode cd_Model_readsWalker 169 = .ok (.getfield 322, 3) := by decide +kernel
theorem dc_Model_readsWalker_172 : decode cd_Model_readsWalker 172 = .ok (.iastore, 1) := by decide +kernel
theorem dc_Model_readsWalker_173 : decode cd_Model_readsWalker 173 = .ok (.aload_n 0, 1) := by decide +kernel
theorem dc_Model_readsWalker_174 : decode cd_Model_readsWalker 174 = .ok (.ldc2_w 278, 3) := by decide +kernel
theorem dc_Model_readsWalker_177 : decode cd_Model_readsWalker 177 = .ok (.iconst 0, 1) := by decide +kernel
theorem dc_Model_readsWalker_178 : decode cd_Model_readsWalker 178 = .ok (.bipush 30, 2) := by decide +kernel
theorem dc_Model_readsWalker_180 : decode cd_Model_readsWalker 180 = .ok (.invokevirtual 357, 3) := by decide +kernel
theorem dc_Model_readsWalker_183 : decode cd_Model_readsWalker 183 = .ok (.ifCond .ne 5, 3) := by decide +kernel
theorem dc_Model_readsWalker_186 : decode cd_Model_readsWalker 186 = .ok (.iconst 0, 1) := by decide +kernel
theorem dc_Model_readsWalker_187 : decode cd_Model_readsWalker 187 = .ok (.ireturn, 1) := by decide +kernel
theorem dc_Model_readsWalker_188 : decode cd_Model_readsWalker 188 = .ok (.aload_n 0, 1) := by decide +kernel
theorem dc_Model_readsWalker_189 : decode cd_Model_readsWalker 189 = .ok (.getfield 38, 3) := by decide +kernel
theorem dc_Model_readsWalker_192 : decode cd_Model_readsWalker 192 = .ok (.iload_n 1, 1) := by decide +kernel
theorem dc_Model_readsWalker_193 : decode cd_Model_readsWalker 193 = .ok (.aload_n 0, 1) := by decide +kernel
theorem dc_Model_readsWalker_194 : decode cd_Model_readsWalker 194 = .ok (.getfield 322, 3) := by decide +kernel
theorem dc_Model_readsWalker_197 : decode cd_Model_readsWalker 197 = .ok (.iastore, 1) := by decide +kernel
theorem dc_Model_readsWalker_198 : decode cd_Model_readsWalker 198 = .ok (.aload_n 0, 1) := by decide +kernel
theorem dc_Model_readsWalker_199 : decode cd_Model_readsWalker 199 = .ok (.ldc2_w 280, 3) := by decide +kernel
theorem dc_Model_readsWalker_202 : decode cd_Model_readsWalker 202 = .ok (.invokevirtual 325, 3) := by decide +kernel
theorem dc_Model_readsWalker_205 : decode cd_Model_readsWalker 205 = .ok (.ifCond .eq 11, 3) := by decide +kernel
theorem dc_Model_readsWalker_208 : decode cd_Model_readsWalker 208 = .ok (.aload_n 0, 1) := by decide +kernel
theorem dc_Model_readsWalker_209 : decode cd_Model_readsWalker 209 = .ok (.iload_n 1, 1) := by decide +kernel
theorem dc_Model_readsWalker_210 : decode cd_Model_readsWalker 210 = .ok (.invokevirtual 361, 3) := by decide +kernel
theorem dc_Model_readsWalker_213 : decode cd_Model_readsWalker 213 = .ok (.ifCond .ne 5, 3) := by decide +kernel
theorem dc_Model_readsWalker_216 : decode cd_Model_readsWalker 216 = .ok (.iconst 0, 1) := by decide +kernel
theorem dc_Model_readsWalker_217 : decode cd_Model_readsWalker 217 = .ok (.ireturn, 1) := by decide +kernel
theorem dc_Model_readsWalker_218 : decode cd_Model_readsWalker 218 = .ok (.iconst 0, 1) := by decide +kernel
theorem dc_Model_readsWalker_219 : decode cd_Model_readsWalker 219 = .ok (.istore 4, 2) := by decide +kernel
theorem dc_Model_readsWalker_221 : decode cd_Model_readsWalker 221 = .ok (.iload 4, 2) := by decide +kernel
theorem dc_Model_readsWalker_223 : decode cd_Model_readsWalker 223 = .ok (.bipush 6, 2) := by decide +kernel
theorem dc_Model_readsWalker_225 : decode cd_Model_readsWalker 225 = .ok (.if_icmp .ge 22, 3) := by decide +kernel
theorem dc_Model_readsWalker_228 : decode cd_Model_readsWalker 228 = .ok (.aload_n 0, 1) := by decide +kernel
theorem dc_Model_readsWalker_229 : decode cd_Model_readsWalker 229 = .ok (.getfield 47, 3) := by decide +kernel
theorem dc_Model_readsWalker_232 : decode cd_Model_readsWalker 232 = .ok (.bipush 6, 2) := by decide +kernel
theorem dc_Model_readsWalker_234 : decode cd_Model_readsWalker 234 = .ok (.iload_n 1, 1) := by decide +kernel
theorem dc_Model_readsWalker_235 : decode cd_Model_readsWalker 235 = .ok (.imul, 1) := by decide +kernel
theorem dc_Model_readsWalker_236 : decode cd_Model_readsWalker 236 = .ok (.iload 4, 2) := by decide +kernel
theorem dc_Model_readsWalker_238 : decode cd_Model_readsWalker 238 = .ok (.iadd, 1) := by decide +kernel
theorem dc_Model_readsWalker_239 : decode cd_Model_readsWalker 239 = .ok (.iconst 0, 1) := by decide +kernel
theorem dc_Model_readsWalker_240 : decode cd_Model_readsWalker 240 = .ok (.iastore, 1) := by decide +kernel
theorem dc_Model_readsWalker_241 : decode cd_Model_readsWalker 241 = .ok (.iinc 4 1, 3) := by decide +kernel
theorem dc_Model_readsWalker_244 : decode cd_Model_readsWalker 244 = .ok (.goto (-23), 3) := by decide +kernel
theorem dc_Model_readsWalker_247 : decode cd_Model_readsWalker 247 = .ok (.aload_n 0, 1) := by decide +kernel
theorem dc_Model_readsWalker_248 : decode cd_Model_readsWalker 248 = .ok (.getfield 20, 3) := by decide +kernel
theorem dc_Model_readsWalker_251 : decode cd_Model_readsWalker 251 = .ok (.iload_n 1, 1) := by decide +kernel
theorem dc_Model_readsWalker_252 : decode cd_Model_readsWalker 252 = .ok (.lload_n 2, 1) := by decide +kernel
theorem dc_Model_readsWalker_253 : decode cd_Model_readsWalker 253 = .ok (.lastore, 1) := by decide +kernel
theorem dc_Model_readsWalker_254 : decode cd_Model_readsWalker 254 = .ok (.aload_n 0, 1) := by decide +kernel
theorem dc_Model_readsWalker_255 : decode cd_Model_readsWalker 255 = .ok (.getfield 13, 3) := by decide +kernel
theorem dc_Model_readsWalker_258 : decode cd_Model_readsWalker 258 = .ok (.bipush 6, 2) := by decide +kernel
theorem dc_Model_readsWalker_260 : decode cd_Model_readsWalker 260 = .ok (.dup2, 1) := by decide +kernel
theorem dc_Model_readsWalker_261 : decode cd_Model_readsWalker 261 = .ok (.iaload, 1) := by decide +kernel
theorem dc_Model_readsWalker_262 : decode cd_Model_readsWalker 262 = .ok (.iconst 1, 1) := by decide +kernel
theorem dc_Model_readsWalker_263 : decode cd_Model_readsWalker 263 = .ok (.iadd, 1) := by decide +kernel
theorem dc_Model_readsWalker_264 : decode cd_Model_readsWalker 264 = .ok (.iastore, 1) := by decide +kernel
theorem dc_Model_readsWalker_265 : decode cd_Model_readsWalker 265 = .ok (.aload_n 0, 1) := by decide +kernel
theorem dc_Model_readsWalker_266 : decode cd_Model_readsWalker 266 = .ok (.invokevirtual 351, 3) := by decide +kernel
theorem dc_Model_readsWalker_269 : decode cd_Model_readsWalker 269 = .ok (.ireturn, 1) := by decide +kernel
theorem dc_Model_readsHour_0 : decode cd_Model_readsHour 0 = .ok (.bipush 6, 2) := by decide +kernel
theorem dc_Model_readsHour_2 : decode cd_Model_readsHour 2 = .ok (.aload_n 0, 1) := by decide +kernel
theorem dc_Model_readsHour_3 : decode cd_Model_readsHour 3 = .ok (.getfield 13, 3) := by decide +kernel
theorem dc_Model_readsHour_6 : decode cd_Model_readsHour 6 = .ok (.bipush 7, 2) := by decide +kernel
theorem dc_Model_readsHour_8 : decode cd_Model_readsHour 8 = .ok (.iaload, 1) := by decide +kernel
theorem dc_Model_readsHour_9 : decode cd_Model_readsHour 9 = .ok (.iadd, 1) := by decide +kernel
theorem dc_Model_readsHour_10 : decode cd_Model_readsHour 10 = .ok (.istore_n 1, 1) := by decide +kernel
theorem dc_Model_readsHour_11 : decode cd_Model_readsHour 11 = .ok (.iload_n 1, 1) := by decide +kernel
theorem dc_Model_readsHour_12 : decode cd_Model_readsHour 12 = .ok (.bipush 12, 2) := by decide +kernel
theorem dc_Model_readsHour_14 : decode cd_Model_readsHour 14 = .ok (.if_icmp .ne 9, 3) := by decide +kernel
theorem dc_Model_readsHour_17 : decode cd_Model_readsHour 17 = .ok (.aload_n 0, 1) := by decide +kernel
theorem dc_Model_readsHour_18 : decode cd_Model_readsHour 18 = .ok (.iconst 5, 1) := by decide +kernel
theorem dc_Model_readsHour_19 : decode cd_Model_readsHour 19 = .ok (.invokevirtual 245, 3) := by decide +kernel
theorem dc_Model_readsHour_22 : decode cd_Model_readsHour 22 = .ok (.ireturn, 1) := by decide +kernel
theorem dc_Model_readsHour_23 : decode cd_Model_readsHour 23 = .ok (.aload_n 0, 1) := by decide +kernel
theorem dc_Model_readsHour_24 : decode cd_Model_readsHour 24 = .ok (.invokevirtual 252, 3) := by decide +kernel
theorem dc_Model_readsHour_27 : decode cd_Model_readsHour 27 = .ok (.aload_n 0, 1) := by decide +kernel
theorem dc_Model_readsHour_28 : decode cd_Model_readsHour 28 = .ok (.invokevirtual 348, 3) := by decide +kernel
theorem dc_Model_readsHour_31 : decode cd_Model_readsHour 31 = .ok (.ifCond .ne 5, 3) := by decide +kernel
theorem dc_Model_readsHour_34 : decode cd_Model_readsHour 34 = .ok (.iconst 0, 1) := by decide +kernel
theorem dc_Model_readsHour_35 : decode cd_Model_readsHour 35 = .ok (.ireturn, 1) := by decide +kernel
theorem dc_Model_readsHour_36 : decode cd_Model_readsHour 36 = .ok (.aload_n 0, 1) := by decide +kernel
theorem dc_Model_readsHour_37 : decode cd_Model_readsHour 37 = .ok (.getfield 345, 3) := by decide +kernel
theorem dc_Model_readsHour_40 : decode cd_Model_readsHour 40 = .ok (.lstore_n 2, 1) := by decide +kernel
theorem dc_Model_readsHour_41 : decode cd_Model_readsHour 41 = .ok (.aload_n 0, 1) := by decide +kernel
theorem dc_Model_readsHour_42 : decode cd_Model_readsHour 42 = .ok (.ldc2_w 290, 3) := by decide +kernel
theorem dc_Model_readsHour_45 : decode cd_Model_readsHour 45 = .ok (.invokevirtual 325, 3) := by decide +kernel
theorem dc_Model_readsHour_48 : decode cd_Model_readsHour 48 = .ok (.ifCond .eq 11, 3) := by decide +kernel
theorem dc_Model_readsHour_51 : decode cd_Model_readsHour 51 = .ok (.aload_n 0, 1) := by decide +kernel
theorem dc_Model_readsHour_52 : decode cd_Model_readsHour 52 = .ok (.iconst 1, 1) := by decide +kernel
theorem dc_Model_readsHour_53 : decode cd_Model_readsHour 53 = .ok (.invokevirtual 364, 3) := by decide +kernel
theorem dc_Model_readsHour_56 : decode cd_Model_readsHour 56 = .ok (.ifCond .ne 5, 3) := by decide +kernel
theorem dc_Model_readsHour_59 : decode cd_Model_readsHour 59 = .ok (.iconst 0, 1) := by decide +kernel
theorem dc_Model_readsHour_60 : decode cd_Model_readsHour 60 = .ok (.ireturn, 1) := by decide +kernel
theorem dc_Model_readsHour_61 : decode cd_Model_readsHour 61 = .ok (.aload_n 0, 1) := by decide +kernel
theorem dc_Model_readsHour_62 : decode cd_Model_readsHour 62 = .ok (.getfield 53, 3) := by decide +kernel
theorem dc_Model_readsHour_65 : decode cd_Model_readsHour 65 = .ok (.iload_n 1, 1) := by decide +kernel
theorem dc_Model_readsHour_66 : decode cd_Model_readsHour 66 = .ok (.aload_n 0, 1) := by decide +kernel
theorem dc_Model_readsHour_67 : decode cd_Model_readsHour 67 = .ok (.getfield 322, 3) := by decide +kernel
theorem dc_Model_readsHour_70 : decode cd_Model_readsHour 70 = .ok (.iastore, 1) := by decide +kernel
theorem dc_Model_readsHour_71 : decode cd_Model_readsHour 71 = .ok (.aload_n 0, 1) := by decide +kernel
theorem dc_Model_readsHour_72 : decode cd_Model_readsHour 72 = .ok (.invokevirtual 252, 3) := by decide +kernel
theorem dc_Model_readsHour_75 : decode cd_Model_readsHour 75 = .ok (.aload_n 0, 1) := by decide +kernel
theorem dc_Model_readsHour_76 : decode cd_Model_readsHour 76 = .ok (.ldc2_w 284, 3) := by decide +kernel
theorem dc_Model_readsHour_79 : decode cd_Model_readsHour 79 = .ok (.invokevirtual 325, 3) := by decide +kernel
theorem dc_Model_readsHour_82 : decode cd_Model_readsHour 82 = .ok (.ifCond .eq 11, 3) := by decide +kernel
theorem dc_Model_readsHour_85 : decode cd_Model_readsHour 85 = .ok (.aload_n 0, 1) := by decide +kernel
theorem dc_Model_readsHour_86 : decode cd_Model_readsHour 86 = .ok (.iconst 1, 1) := by decide +kernel
theorem dc_Model_readsHour_87 : decode cd_Model_readsHour 87 = .ok (.invokevirtual 354, 3) := by decide +kernel
theorem dc_Model_readsHour_90 : decode cd_Model_readsHour 90 = .ok (.ifCond .ne 5, 3) := by decide +kernel
theorem dc_Model_readsHour_93 : decode cd_Model_readsHour 93 = .ok (.iconst 0, 1) := by decide +kernel
theorem dc_Model_readsHour_94 : decode cd_Model_readsHour 94 = .ok (.ireturn, 1) := by decide +kernel
theorem dc_Model_readsHour_95 : decode cd_Model_readsHour 95 = .ok (.aload_n 0, 1) := by decide +kernel
theorem dc_Model_readsHour_96 : decode cd_Model_readsHour 96 = .ok (.iconst 1, 1) := by decide +kernel
theorem dc_Model_readsHour_97 : decode cd_Model_readsHour 97 = .ok (.aload_n 0, 1) := by decide +kernel
theorem dc_Model_readsHour_98 : decode cd_Model_readsHour 98 = .ok (.getfield 53, 3) := by decide +kernel
theorem dc_Model_readsHour_101 : decode cd_Model_readsHour 101 = .ok (.iload_n 1, 1) := by decide +kernel
theorem dc_Model_readsHour_102 : decode cd_Model_readsHour 102 = .ok (.iaload, 1) := by decide +kernel
theorem dc_Model_readsHour_103 : decode cd_Model_readsHour 103 = .ok (.aload_n 0, 1) := by decide +kernel
theorem dc_Model_readsHour_104 : decode cd_Model_readsHour 104 = .ok (.getfield 322, 3) := by decide +kernel
theorem dc_Model_readsHour_107 : decode cd_Model_readsHour 107 = .ok (.invokevirtual 367, 3) := by decide +kernel
theorem dc_Model_readsHour_110 : decode cd_Model_readsHour 110 = .ok (.ifCond .ne 9, 3) := by decide +kernel
theorem dc_Model_readsHour_113 : decode cd_Model_readsHour 113 = .ok (.aload_n 0, 1) := by decide +kernel
theorem dc_Model_readsHour_114 : decode cd_Model_readsHour 114 = .ok (.iconst 4, 1) := by decide +kernel
theorem dc_Model_readsHour_115 : decode cd_Model_readsHour 115 = .ok (.invokevirtual 245, 3) := by decide +kernel
theorem dc_Model_readsHour_118 : decode cd_Model_readsHour 118 = .ok (.ireturn, 1) := by decide +kernel
theorem dc_Model_readsHour_119 : decode cd_Model_readsHour 119 = .ok (.aload_n 0, 1) := by decide +kernel
theorem dc_Model_readsHour_120 : decode cd_Model_readsHour 120 = .ok (.getfield 56, 3) := by decide +kernel
theorem dc_Model_readsHour_123 : decode cd_Model_readsHour 123 = .ok (.iload_n 1, 1) := by decide +kernel
theorem dc_Model_readsHour_124 : decode cd_Model_readsHour 124 = .ok (.aload_n 0, 1) := by decide +kernel
theorem dc_Model_readsHour_125 : decode cd_Model_readsHour 125 = .ok (.getfield 322, 3) := by decide +kernel
theorem dc_Model_readsHour_128 : decode cd_Model_readsHour 128 = .ok (.iastore, 1) := by decide +kernel
theorem dc_Model_readsHour_129 : decode cd_Model_readsHour 129 = .ok (.aload_n 0, 1) := by decide +kernel
theorem dc_Model_readsHour_130 : decode cd_Model_readsHour 130 = .ok (.invokevirtual 252, 3) := by decide +kernel
theorem dc_Model_readsHour_133 : decode cd_Model_readsHour 133 = .ok (.aload_n 0, 1) := by decide +kernel
theorem dc_Model_readsHour_134 : decode cd_Model_readsHour 134 = .ok (.ldc2_w 292, 3) := by decide +kernel
theorem dc_Model_readsHour_137 : decode cd_Model_readsHour 137 = .ok (.iconst 0, 1) := by decide +kernel
theorem dc_Model_readsHour_138 : decode cd_Model_readsHour 138 = .ok (.sipush 239, 3) := by decide +kernel
theorem dc_Model_readsHour_141 : decode cd_Model_readsHour 141 = .ok (.invokevirtual 357, 3) := by decide +kernel
theorem dc_Model_readsHour_144 : decode cd_Model_readsHour 144 = .ok (.ifCond .ne 5, 3) := by decide +kernel
theorem dc_Model_readsHour_147 : decode cd_Model_readsHour 147 = .ok (.iconst 0, 1) := by decide +kernel
theorem dc_Model_readsHour_148 : decode cd_Model_readsHour 148 = .ok (.ireturn, 1) := by decide +kernel
theorem dc_Model_readsHour_149 : decode cd_Model_readsHour 149 = .ok (.aload_n 0, 1) := by decide +kernel
theorem dc_Model_readsHour_150 : decode cd_Model_readsHour 150 = .ok (.getfield 59, 3) := by decide +kernel
theorem dc_Model_readsHour_153 : decode cd_Model_readsHour 153 = .ok (.iload_n 1, 1) := by decide +kernel
theorem dc_Model_readsHour_154 : decode cd_Model_readsHour 154 = .ok (.aload_n 0, 1) := by decide +kernel
theorem dc_Model_readsHour_155 : decode cd_Model_readsHour 155 = .ok (.getfield 322, 3) := by decide +kernel
theorem dc_Model_readsHour_158 : decode cd_Model_readsHour 158 = .ok (.iastore, 1) := by decide +kernel
theorem dc_Model_readsHour_159 : decode cd_Model_readsHour 159 = .ok (.aload_n 0, 1) := by decide +kernel
theorem dc_Model_readsHour_160 : decode cd_Model_readsHour 160 = .ok (.getfield 23, 3) := by decide +kernel
theorem dc_Model_readsHour_163 : decode cd_Model_readsHour 163 = .ok (.iload_n 1, 1) := by decide +kernel
theorem dc_Model_readsHour_164 : decode cd_Model_readsHour 164 = .ok (.lload_n 2, 1) := by decide +kernel
theorem dc_Model_readsHour_165 : decode cd_Model_readsHour 165 = .ok (.lastore, 1) := by decide +kernel
theorem dc_Model_readsHour_166 : decode cd_Model_readsHour 166 = .ok (.aload_n 0, 1) := by decide +kernel
theorem dc_Model_readsHour_167 : decode cd_Model_readsHour 167 = .ok (.getfield 13, 3) := by decide +kernel
theorem dc_Model_readsHour_170 : decode cd_Model_readsHour 170 = .ok (.bipush 7, 2) := by decide +kernel
theorem dc_Model_readsHour_172 : decode cd_Model_readsHour 172 = .ok (.dup2, 1) := by decide +kernel
theorem dc_Model_readsHour_173 : decode cd_Model_readsHour 173 = .ok (.iaload, 1) := by decide +kernel
theorem dc_Model_readsHour_174 : decode cd_Model_readsHour 174 = .ok (.iconst 1, 1) := by decide +kernel
theorem dc_Model_readsHour_175 : decode cd_Model_readsHour 175 = .ok (.iadd, 1) := by decide +kernel
theorem dc_Model_readsHour_176 : decode cd_Model_readsHour 176 = .ok (.iastore, 1) := by decide +kernel
theorem dc_Model_readsHour_177 : decode cd_Model_readsHour 177 = .ok (.aload_n 0, 1) := by decide +kernel
theorem dc_Model_readsHour_178 : decode cd_Model_readsHour 178 = .ok (.invokevirtual 351, 3) := by decide +kernel
theorem dc_Model_readsHour_181 : decode cd_Model_readsHour 181 = .ok (.ireturn, 1) := by decide +kernel
theorem dc_Model_days_0 : decode cd_Model_days 0 = .ok (.aload_n 0, 1) := by decide +kernel
theorem dc_Model_days_1 : decode cd_Model_days 1 = .ok (.iconst 0, 1) := by decide +kernel
theorem dc_Model_days_2 : decode cd_Model_days 2 = .ok (.putfield 183, 3) := by decide +kernel
theorem dc_Model_days_5 : decode cd_Model_days 5 = .ok (.aload_n 0, 1) := by decide +kernel
theorem dc_Model_days_6 : decode cd_Model_days 6 = .ok (.getfield 108, 3) := by decide +kernel
theorem dc_Model_days_9 : decode cd_Model_days 9 = .ok (.iconst 5, 1) := by decide +kernel
theorem dc_Model_days_10 : decode cd_Model_days 10 = .ok (.iconst 0, 1) := by decide +kernel
theorem dc_Model_days_11 : decode cd_Model_days 11 = .ok (.iastore, 1) := by decide +kernel
theorem dc_Model_days_12 : decode cd_Model_days 12 = .ok (.aload_n 0, 1) := by decide +kernel
theorem dc_Model_days_13 : decode cd_Model_days 13 = .ok (.invokevirtual 373, 3) := by decide +kernel
theorem dc_Model_days_16 : decode cd_Model_days 16 = .ok (.aload_n 0, 1) := by decide +kernel
theorem dc_Model_days_17 : decode cd_Model_days 17 = .ok (.getfield 208, 3) := by decide +kernel
theorem dc_Model_days_20 : decode cd_Model_days 20 = .ok (.ifCond .eq 15, 3) := by decide +kernel
theorem dc_Model_days_23 : decode cd_Model_days 23 = .ok (.aload_n 0, 1) := by decide +kernel
theorem dc_Model_days_24 : decode cd_Model_days 24 = .ok (.invokevirtual 419, 3) := by decide +kernel
theorem dc_Model_days_27 : decode cd_Model_days 27 = .ok (.ifCond .ne (-11), 3) := by decide +kernel
theorem dc_Model_days_30 : decode cd_Model_days 30 = .ok (.aload_n 0, 1) := by decide +kernel
theorem dc_Model_days_31 : decode cd_Model_days 31 = .ok (.getfield 219, 3) := by decide +kernel
theorem dc_Model_days_34 : decode cd_Model_days 34 = .ok (.ireturn, 1) := by decide +kernel
theorem dc_Model_days_35 : decode cd_Model_days 35 = .ok (.aload_n 0, 1) := by decide +kernel
theorem dc_Model_days_36 : decode cd_Model_days 36 = .ok (.iconst 5, 1) := by decide +kernel
theorem dc_Model_days_37 : decode cd_Model_days 37 = .ok (.iconst 0, 1) := by decide +kernel
theorem dc_Model_days_38 : decode cd_Model_days 38 = .ok (.invokevirtual 422, 3) := by decide +kernel
theorem dc_Model_days_41 : decode cd_Model_days 41 = .ok (.iconst 0, 1) := by decide +kernel
theorem dc_Model_days_42 : decode cd_Model_days 42 = .ok (.ireturn, 1) := by decide +kernel
theorem dc_Model_where_0 : decode cd_Model_where 0 = .ok (.aload_n 0, 1) := by decide +kernel
theorem dc_Model_where_1 : decode cd_Model_where 1 = .ok (.iconst 0, 1) := by decide +kernel
theorem dc_Model_where_2 : decode cd_Model_where 2 = .ok (.putfield 183, 3) := by decide +kernel
theorem dc_Model_where_5 : decode cd_Model_where 5 = .ok (.aload_n 0, 1) := by decide +kernel
theorem dc_Model_where_6 : decode cd_Model_where 6 = .ok (.iload_n 1, 1) := by decide +kernel
theorem dc_Model_where_7 : decode cd_Model_where 7 = .ok (.invokevirtual 467, 3) := by decide +kernel
theorem dc_Model_where_10 : decode cd_Model_where 10 = .ok (.ifCond .eq 14, 3) := by decide +kernel
theorem dc_Model_where_13 : decode cd_Model_where 13 = .ok (.iload_n 2, 1) := by decide +kernel
theorem dc_Model_where_14 : decode cd_Model_where 14 = .ok (.iconst 0, 1) := by decide +kernel
theorem dc_Model_where_15 : decode cd_Model_where 15 = .ok (.sipush 239, 3) := by decide +kernel
theorem dc_Model_where_18 : decode cd_Model_where 18 = .ok (.invokestatic 318, 3) := by decide +kernel
theorem dc_Model_where_21 : decode cd_Model_where 21 = .ok (.ifCond .ne 5, 3) := by decide +kernel
theorem dc_Model_where_24 : decode cd_Model_where 24 = .ok (.iconst (-1), 1) := by decide +kernel
theorem dc_Model_where_25 : decode cd_Model_where 25 = .ok (.ireturn, 1) := by decide +kernel
theorem dc_Model_where_26 : decode cd_Model_where 26 = .ok (.aload_n 0, 1) := by decide +kernel
theorem dc_Model_where_27 : decode cd_Model_where 27 = .ok (.invokevirtual 470, 3) := by decide +kernel
theorem dc_Model_where_30 : decode cd_Model_where 30 = .ok (.aload_n 0, 1) := by decide +kernel
theorem dc_Model_where_31 : decode cd_Model_where 31 = .ok (.getfield 153, 3) := by decide +kernel
theorem dc_Model_where_34 : decode cd_Model_where 34 = .ok (.sipush 240, 3) := by decide +kernel
theorem dc_Model_where_37 : decode cd_Model_where 37 = .ok (.iload_n 1, 1) := by decide +kernel
theorem dc_Model_where_38 : decode cd_Model_where 38 = .ok (.imul, 1) := by decide +kernel
theorem dc_Model_where_39 : decode cd_Model_where 39 = .ok (.iload_n 2, 1) := by decide +kernel
theorem dc_Model_where_40 : decode cd_Model_where 40 = .ok (.iadd, 1) := by decide +kernel
theorem dc_Model_where_41 : decode cd_Model_where 41 = .ok (.iaload, 1) := by decide +kernel
theorem dc_Model_where_42 : decode cd_Model_where 42 = .ok (.ireturn, 1) := by decide +kernel
theorem dc_Model_hour_0 : decode cd_Model_hour 0 = .ok (.aload_n 0, 1) := by decide +kernel
theorem dc_Model_hour_1 : decode cd_Model_hour 1 = .ok (.iconst 0, 1) := by decide +kernel
theorem dc_Model_hour_2 : decode cd_Model_hour 2 = .ok (.putfield 183, 3) := by decide +kernel
theorem dc_Model_hour_5 : decode cd_Model_hour 5 = .ok (.aload_n 0, 1) := by decide +kernel
theorem dc_Model_hour_6 : decode cd_Model_hour 6 = .ok (.iload_n 1, 1) := by decide +kernel
theorem dc_Model_hour_7 : decode cd_Model_hour 7 = .ok (.invokevirtual 473, 3) := by decide +kernel
theorem dc_Model_hour_10 : decode cd_Model_hour 10 = .ok (.ifCond .eq 12, 3) := by decide +kernel
theorem dc_Model_hour_13 : decode cd_Model_hour 13 = .ok (.iload_n 2, 1) := by decide +kernel
theorem dc_Model_hour_14 : decode cd_Model_hour 14 = .ok (.iconst 0, 1) := by decide +kernel
theorem dc_Model_hour_15 : decode cd_Model_hour 15 = .ok (.iconst 5, 1) := by decide +kernel
theorem dc_Model_hour_16 : decode cd_Model_hour 16 = .ok (.invokestatic 318, 3) := by decide +kernel
theorem dc_Model_hour_19 : decode cd_Model_hour 19 = .ok (.ifCond .ne 6, 3) := by decide +kernel
theorem dc_Model_hour_22 : decode cd_Model_hour 22 = .ok (.bipush (-2), 2) := by decide +kernel
theorem dc_Model_hour_24 : decode cd_Model_hour 24 = .ok (.ireturn, 1) := by decide +kernel
theorem dc_Model_hour_25 : decode cd_Model_hour 25 = .ok (.iload_n 2, 1) := by decide +kernel
theorem dc_Model_hour_26 : decode cd_Model_hour 26 = .ok (.iconst 3, 1) := by decide +kernel
theorem dc_Model_hour_27 : decode cd_Model_hour 27 = .ok (.if_icmp .ge 40, 3) := by decide +kernel
theorem dc_Model_hour_30 : decode cd_Model_hour 30 = .ok (.iload_n 2, 1) := by decide +kernel
theorem dc_Model_hour_31 : decode cd_Model_hour 31 = .ok (.ifCond .ne 15, 3) := by decide +kernel
theorem dc_Model_hour_34 : decode cd_Model_hour 34 = .ok (.aload_n 0, 1) := by decide +kernel
theorem dc_Model_hour_35 : decode cd_Model_hour 35 = .ok (.getfield 135, 3) := by decide +kernel
theorem dc_Model_hour_38 : decode cd_Model_hour 38 = .ok (.bipush 10, 2) := by decide +kernel
theorem dc_Model_hour_40 : decode cd_Model_hour 40 = .ok (.iload_n 1, 1) := by decide +kernel
theorem dc_Model_hour_41 : decode cd_Model_hour 41 = .ok (.iadd, 1) := by decide +kernel
theorem dc_Model_hour_42 : decode cd_Model_hour 42 = .ok (.iaload, 1) := by decide +kernel
theorem dc_Model_hour_43 : decode cd_Model_hour 43 = .ok (.goto 23, 3) := by decide +kernel
theorem dc_Model_hour_46 : decode cd_Model_hour 46 = .ok (.iload_n 2, 1) := by decide +kernel
theorem dc_Model_hour_47 : decode cd_Model_hour 47 = .ok (.iconst 1, 1) := by decide +kernel
theorem dc_Model_hour_48 : decode cd_Model_hour 48 = .ok (.if_icmp .ne 12, 3) := by decide +kernel
theorem dc_Model_hour_51 : decode cd_Model_hour 51 = .ok (.aload_n 0, 1) := by decide +kernel
theorem dc_Model_hour_52 : decode cd_Model_hour 52 = .ok (.getfield 56, 3) := by decide +kernel
theorem dc_Model_hour_55 : decode cd_Model_hour 55 = .ok (.iload_n 1, 1) := by decide +kernel
theorem dc_Model_hour_56 : decode cd_Model_hour 56 = .ok (.iaload, 1) := by decide +kernel
theorem dc_Model_hour_57 : decode cd_Model_hour 57 = .ok (.goto 9, 3) := by decide +kernel
theorem dc_Model_hour_60 : decode cd_Model_hour 60 = .ok (.aload_n 0, 1) := by decide +kernel
theorem dc_Model_hour_61 : decode cd_Model_hour 61 = .ok (.getfield 59, 3) := by decide +kernel
theorem dc_Model_hour_64 : decode cd_Model_hour 64 = .ok (.iload_n 1, 1) := by decide +kernel
theorem dc_Model_hour_65 : decode cd_Model_hour 65 = .ok (.iaload, 1) := by decide +kernel
theorem dc_Model_hour_66 : decode cd_Model_hour 66 = .ok (.ireturn, 1) := by decide +kernel
theorem dc_Model_hour_67 : decode cd_Model_hour 67 = .ok (.aload_n 0, 1) := by decide +kernel
theorem dc_Model_hour_68 : decode cd_Model_hour 68 = .ok (.invokevirtual 470, 3) := by decide +kernel
theorem dc_Model_hour_71 : decode cd_Model_hour 71 = .ok (.iload_n 2, 1) := by decide +kernel
theorem dc_Model_hour_72 : decode cd_Model_hour 72 = .ok (.iconst 3, 1) := by decide +kernel
theorem dc_Model_hour_73 : decode cd_Model_hour 73 = .ok (.if_icmp .ne 11, 3) := by decide +kernel
theorem dc_Model_hour_76 : decode cd_Model_hour 76 = .ok (.aload_n 0, 1) := by decide +kernel
theorem dc_Model_hour_77 : decode cd_Model_hour 77 = .ok (.iload_n 1, 1) := by decide +kernel
theorem dc_Model_hour_78 : decode cd_Model_hour 78 = .ok (.invokevirtual 454, 3) := by decide +kernel
theorem dc_Model_hour_81 : decode cd_Model_hour 81 = .ok (.goto 26, 3) := by decide +kernel
theorem dc_Model_hour_84 : decode cd_Model_hour 84 = .ok (.iload_n 2, 1) := by decide +kernel
theorem dc_Model_hour_85 : decode cd_Model_hour 85 = .ok (.iconst 4, 1) := by decide +kernel
theorem dc_Model_hour_86 : decode cd_Model_hour 86 = .ok (.if_icmp .ne 16, 3) := by decide +kernel
theorem dc_Model_hour_89 : decode cd_Model_hour 89 = .ok (.aload_n 0, 1) := by decide +kernel
theorem dc_Model_hour_90 : decode cd_Model_hour 90 = .ok (.iload_n 1, 1) := by decide +kernel
theorem dc_Model_hour_91 : decode cd_Model_hour 91 = .ok (.aload_n 0, 1) := by decide +kernel
theorem dc_Model_hour_92 : decode cd_Model_hour 92 = .ok (.iload_n 1, 1) := by decide +kernel
theorem dc_Model_hour_93 : decode cd_Model_hour 93 = .ok (.invokevirtual 454, 3) := by decide +kernel
theorem dc_Model_hour_96 : decode cd_Model_hour 96 = .ok (.invokevirtual 457, 3) := by decide +kernel
theorem dc_Model_hour_99 : decode cd_Model_hour 99 = .ok (.goto 8, 3) := by decide +kernel
theorem dc_Model_hour_102 : decode cd_Model_hour 102 = .ok (.aload_n 0, 1) := by decide +kernel
theorem dc_Model_hour_103 : decode cd_Model_hour 103 = .ok (.iload_n 1, 1) := by decide +kernel
theorem dc_Model_hour_104 : decode cd_Model_hour 104 = .ok (.invokevirtual 476, 3) := by decide +kernel
theorem dc_Model_hour_107 : decode cd_Model_hour 107 = .ok (.ireturn, 1) := by decide +kernel
theorem dc_Model_meet_0 : decode cd_Model_meet 0 = .ok (.aload_n 0, 1) := by decide +kernel
theorem dc_Model_meet_1 : decode cd_Model_meet 1 = .ok (.iconst 0, 1) := by decide +kernel
theorem dc_Model_meet_2 : decode cd_Model_meet 2 = .ok (.putfield 183, 3) := by decide +kernel
theorem dc_Model_meet_5 : decode cd_Model_meet 5 = .ok (.aload_n 0, 1) := by decide +kernel
theorem dc_Model_meet_6 : decode cd_Model_meet 6 = .ok (.iload_n 1, 1) := by decide +kernel
theorem dc_Model_meet_7 : decode cd_Model_meet 7 = .ok (.invokevirtual 467, 3) := by decide +kernel
theorem dc_Model_meet_10 : decode cd_Model_meet 10 = .ok (.ifCond .eq 25, 3) := by decide +kernel
theorem dc_Model_meet_13 : decode cd_Model_meet 13 = .ok (.aload_n 0, 1) := by decide +kernel
theorem dc_Model_meet_14 : decode cd_Model_meet 14 = .ok (.iload_n 2, 1) := by decide +kernel
theorem dc_Model_meet_15 : decode cd_Model_meet 15 = .ok (.invokevirtual 467, 3) := by decide +kernel
theorem dc_Model_meet_18 : decode cd_Model_meet 18 = .ok (.ifCond .eq 17, 3) := by decide +kernel
theorem dc_Model_meet_21 : decode cd_Model_meet 21 = .ok (.iload_n 1, 1) := by decide +kernel
theorem dc_Model_meet_22 : decode cd_Model_meet 22 = .ok (.iload_n 2, 1) := by decide +kernel
theorem dc_Model_meet_23 : decode cd_Model_meet 23 = .ok (.if_icmp .eq 12, 3) := by decide +kernel
theorem dc_Model_meet_26 : decode cd_Model_meet 26 = .ok (.iload_n 3, 1) := by decide +kernel
theorem dc_Model_meet_27 : decode cd_Model_meet 27 = .ok (.iconst 0, 1) := by decide +kernel
theorem dc_Model_meet_28 : decode cd_Model_meet 28 = .ok (.iconst 1, 1) := by decide +kernel
theorem dc_Model_meet_29 : decode cd_Model_meet 29 = .ok (.invokestatic 318, 3) := by decide +kernel
theorem dc_Model_meet_32 : decode cd_Model_meet 32 = .ok (.ifCond .ne 6, 3) := by decide +kernel
theorem dc_Model_meet_35 : decode cd_Model_meet 35 = .ok (.bipush (-2), 2) := by decide +kernel
theorem dc_Model_meet_37 : decode cd_Model_meet 37 = .ok (.ireturn, 1) := by decide +kernel
theorem dc_Model_meet_38 : decode cd_Model_meet 38 = .ok (.aload_n 0, 1) := by decide +kernel
theorem dc_Model_meet_39 : decode cd_Model_meet 39 = .ok (.invokevirtual 470, 3) := by decide +kernel
theorem dc_Model_meet_42 : decode cd_Model_meet 42 = .ok (.aload_n 0, 1) := by decide +kernel
theorem dc_Model_meet_43 : decode cd_Model_meet 43 = .ok (.iload_n 1, 1) := by decide +kernel
theorem dc_Model_meet_44 : decode cd_Model_meet 44 = .ok (.iload_n 2, 1) := by decide +kernel
theorem dc_Model_meet_45 : decode cd_Model_meet 45 = .ok (.invokevirtual 479, 3) := by decide +kernel
theorem dc_Model_meet_48 : decode cd_Model_meet 48 = .ok (.istore 4, 2) := by decide +kernel
theorem dc_Model_meet_50 : decode cd_Model_meet 50 = .ok (.iload 4, 2) := by decide +kernel
theorem dc_Model_meet_52 : decode cd_Model_meet 52 = .ok (.ifCond .lt 7, 3) := by decide +kernel
theorem dc_Model_meet_55 : decode cd_Model_meet 55 = .ok (.iload_n 3, 1) := by decide +kernel
theorem dc_Model_meet_56 : decode cd_Model_meet 56 = .ok (.ifCond .ne 8, 3) := by decide +kernel
theorem dc_Model_meet_59 : decode cd_Model_meet 59 = .ok (.iload 4, 2) := by decide +kernel
theorem dc_Model_meet_61 : decode cd_Model_meet 61 = .ok (.goto 16, 3) := by decide +kernel
theorem dc_Model_meet_64 : decode cd_Model_meet 64 = .ok (.aload_n 0, 1) := by decide +kernel
theorem dc_Model_meet_65 : decode cd_Model_meet 65 = .ok (.getfield 153, 3) := by decide +kernel
theorem dc_Model_meet_68 : decode cd_Model_meet 68 = .ok (.sipush 240, 3) := by decide +kernel
theorem dc_Model_meet_71 : decode cd_Model_meet 71 = .ok (.iload_n 1, 1) := by decide +kernel
theorem dc_Model_meet_72 : decode cd_Model_meet 72 = .ok (.imul, 1) := by decide +kernel
theorem dc_Model_meet_73 : decode cd_Model_meet 73 = .ok (.iload 4, 2) := by decide +kernel
theorem dc_Model_meet_75 : decode cd_Model_meet 75 = .ok (.iadd, 1) := by decide +kernel
theorem dc_Model_meet_76 : decode cd_Model_meet 76 = .ok (.iaload, 1) := by decide +kernel
theorem dc_Model_meet_77 : decode cd_Model_meet 77 = .ok (.ireturn, 1) := by decide +kernel
theorem dc_Model_passes_0 : decode cd_Model_passes 0 = .ok (.aload_n 0, 1) := by decide +kernel
theorem dc_Model_passes_1 : decode cd_Model_passes 1 = .ok (.invokevirtual 470, 3) := by decide +kernel
theorem dc_Model_passes_4 : decode cd_Model_passes 4 = .ok (.iconst 0, 1) := by decide +kernel
theorem dc_Model_passes_5 : decode cd_Model_passes 5 = .ok (.istore_n 1, 1) := by decide +kernel
theorem dc_Model_passes_6 : decode cd_Model_passes 6 = .ok (.aload_n 0, 1) := by decide +kernel
theorem dc_Model_passes_7 : decode cd_Model_passes 7 = .ok (.iconst 0, 1) := by decide +kernel
theorem dc_Model_passes_8 : decode cd_Model_passes 8 = .ok (.putfield 498, 3) := by decide +kernel
theorem dc_Model_passes_11 : decode cd_Model_passes 11 = .ok (.iconst 0, 1) := by decide +kernel
theorem dc_Model_passes_12 : decode cd_Model_passes 12 = .ok (.istore_n 2, 1) := by decide +kernel
theorem dc_Model_passes_13 : decode cd_Model_passes 13 = .ok (.iload_n 2, 1) := by decide +kernel
theorem dc_Model_passes_14 : decode cd_Model_passes 14 = .ok (.aload_n 0, 1) := by decide +kernel
theorem dc_Model_passes_15 : decode cd_Model_passes 15 = .ok (.getfield 13, 3) := by decide +kernel
theorem dc_Model_passes_18 : decode cd_Model_passes 18 = .ok (.iconst 2, 1) := by decide +kernel
theorem dc_Model_passes_19 : decode cd_Model_passes 19 = .ok (.iaload, 1) := by decide +kernel
theorem dc_Model_passes_20 : decode cd_Model_passes 20 = .ok (.if_icmp .ge 39, 3) := by decide +kernel
theorem dc_Model_passes_23 : decode cd_Model_passes 23 = .ok (.iload_n 1, 1) := by decide +kernel
theorem dc_Model_passes_24 : decode cd_Model_passes 24 = .ok (.aload_n 0, 1) := by decide +kernel
theorem dc_Model_passes_25 : decode cd_Model_passes 25 = .ok (.iload_n 2, 1) := by decide +kernel
theorem dc_Model_passes_26 : decode cd_Model_passes 26 = .ok (.invokevirtual 476, 3) := by decide +kernel
theorem dc_Model_passes_29 : decode cd_Model_passes 29 = .ok (.iadd, 1) := by decide +kernel
theorem dc_Model_passes_30 : decode cd_Model_passes 30 = .ok (.istore_n 1, 1) := by decide +kernel
theorem dc_Model_passes_31 : decode cd_Model_passes 31 = .ok (.aload_n 0, 1) := by decide +kernel
theorem dc_Model_passes_32 : decode cd_Model_passes 32 = .ok (.dup, 1) := by decide +kernel
theorem dc_Model_passes_33 : decode cd_Model_passes 33 = .ok (.getfield 498, 3) := by decide +kernel
theorem dc_Model_passes_36 : decode cd_Model_passes 36 = .ok (.aload_n 0, 1) := by decide +kernel
theorem dc_Model_passes_37 : decode cd_Model_passes 37 = .ok (.iload_n 2, 1) := by decide +kernel
theorem dc_Model_passes_38 : decode cd_Model_passes 38 = .ok (.invokevirtual 454, 3) := by decide +kernel
theorem dc_Model_passes_41 : decode cd_Model_passes 41 = .ok (.ifCond .ge 7, 3) := by decide +kernel
theorem dc_Model_passes_44 : decode cd_Model_passes 44 = .ok (.iconst 1, 1) := by decide +kernel
theorem dc_Model_passes_45 : decode cd_Model_passes 45 = .ok (.goto 4, 3) := by decide +kernel
theorem dc_Model_passes_48 : decode cd_Model_passes 48 = .ok (.iconst 0, 1) := by decide +kernel
theorem dc_Model_passes_49 : decode cd_Model_passes 49 = .ok (.iadd, 1) := by decide +kernel
theorem dc_Model_passes_50 : decode cd_Model_passes 50 = .ok (.putfield 498, 3) := by decide +kernel
theorem dc_Model_passes_53 : decode cd_Model_passes 53 = .ok (.iinc 2 1, 3) := by decide +kernel
theorem dc_Model_passes_56 : decode cd_Model_passes 56 = .ok (.goto (-43), 3) := by decide +kernel
theorem dc_Model_passes_59 : decode cd_Model_passes 59 = .ok (.aload_n 0, 1) := by decide +kernel
theorem dc_Model_passes_60 : decode cd_Model_passes 60 = .ok (.getfield 135, 3) := by decide +kernel
theorem dc_Model_passes_63 : decode cd_Model_passes 63 = .ok (.iconst 1, 1) := by decide +kernel
theorem dc_Model_passes_64 : decode cd_Model_passes 64 = .ok (.dup2, 1) := by decide +kernel
theorem dc_Model_passes_65 : decode cd_Model_passes 65 = .ok (.iaload, 1) := by decide +kernel
theorem dc_Model_passes_66 : decode cd_Model_passes 66 = .ok (.iload_n 1, 1) := by decide +kernel
theorem dc_Model_passes_67 : decode cd_Model_passes 67 = .ok (.iadd, 1) := by decide +kernel
theorem dc_Model_passes_68 : decode cd_Model_passes 68 = .ok (.iastore, 1) := by decide +kernel
theorem dc_Model_passes_69 : decode cd_Model_passes 69 = .ok (.iconst 0, 1) := by decide +kernel
theorem dc_Model_passes_70 : decode cd_Model_passes 70 = .ok (.istore_n 2, 1) := by decide +kernel
theorem dc_Model_passes_71 : decode cd_Model_passes 71 = .ok (.iload_n 2, 1) := by decide +kernel
theorem dc_Model_passes_72 : decode cd_Model_passes 72 = .ok (.bipush 6, 2) := by decide +kernel
theorem dc_Model_passes_74 : decode cd_Model_passes 74 = .ok (.if_icmp .ge 18, 3) := by decide +kernel
theorem dc_Model_passes_77 : decode cd_Model_passes 77 = .ok (.aload_n 0, 1) := by decide +kernel
theorem dc_Model_passes_78 : decode cd_Model_passes 78 = .ok (.getfield 135, 3) := by decide +kernel
theorem dc_Model_passes_81 : decode cd_Model_passes 81 = .ok (.iconst 4, 1) := by decide +kernel
theorem dc_Model_passes_82 : decode cd_Model_passes 82 = .ok (.iload_n 2, 1) := by decide +kernel
theorem dc_Model_passes_83 : decode cd_Model_passes 83 = .ok (.iadd, 1) := by decide +kernel
theorem dc_Model_passes_84 : decode cd_Model_passes 84 = .ok (.iconst 0, 1) := by decide +kernel
theorem dc_Model_passes_85 : decode cd_Model_passes 85 = .ok (.iastore, 1) := by decide +kernel
theorem dc_Model_passes_86 : decode cd_Model_passes 86 = .ok (.iinc 2 1, 3) := by decide +kernel
theorem dc_Model_passes_89 : decode cd_Model_passes 89 = .ok (.goto (-18), 3) := by decide +kernel
theorem dc_Model_passes_92 : decode cd_Model_passes 92 = .ok (.aload_n 0, 1) := by decide +kernel
theorem dc_Model_passes_93 : decode cd_Model_passes 93 = .ok (.getfield 135, 3) := by decide +kernel
theorem dc_Model_passes_96 : decode cd_Model_passes 96 = .ok (.iconst 3, 1) := by decide +kernel
theorem dc_Model_passes_97 : decode cd_Model_passes 97 = .ok (.iconst 0, 1) := by decide +kernel
theorem dc_Model_passes_98 : decode cd_Model_passes 98 = .ok (.iastore, 1) := by decide +kernel
theorem dc_Model_passes_99 : decode cd_Model_passes 99 = .ok (.aload_n 0, 1) := by decide +kernel
theorem dc_Model_passes_100 : decode cd_Model_passes 100 = .ok (.getfield 135, 3) := by decide +kernel
theorem dc_Model_passes_103 : decode cd_Model_passes 103 = .ok (.iconst 0, 1) := by decide +kernel
theorem dc_Model_passes_104 : decode cd_Model_passes 104 = .ok (.dup2, 1) := by decide +kernel
theorem dc_Model_passes_105 : decode cd_Model_passes 105 = .ok (.iaload, 1) := by decide +kernel
theorem dc_Model_passes_106 : decode cd_Model_passes 106 = .ok (.iconst 1, 1) := by decide +kernel
theorem dc_Model_passes_107 : decode cd_Model_passes 107 = .ok (.iadd, 1) := by decide +kernel
theorem dc_Model_passes_108 : decode cd_Model_passes 108 = .ok (.iastore, 1) := by decide +kernel
theorem dc_Model_passes_109 : decode cd_Model_passes 109 = .ok (.iload_n 1, 1) := by decide +kernel
theorem dc_Model_passes_110 : decode cd_Model_passes 110 = .ok (.ireturn, 1) := by decide +kernel
theorem dc_Model_times_0 : decode cd_Model_times 0 = .ok (.aload_n 0, 1) := by decide +kernel
theorem dc_Model_times_1 : decode cd_Model_times 1 = .ok (.iconst 0, 1) := by decide +kernel
theorem dc_Model_times_2 : decode cd_Model_times 2 = .ok (.putfield 183, 3) := by decide +kernel
theorem dc_Model_times_5 : decode cd_Model_times 5 = .ok (.iload_n 1, 1) := by decide +kernel
theorem dc_Model_times_6 : decode cd_Model_times 6 = .ok (.iconst 0, 1) := by decide +kernel
theorem dc_Model_times_7 : decode cd_Model_times 7 = .ok (.iconst 2, 1) := by decide +kernel
theorem dc_Model_times_8 : decode cd_Model_times 8 = .ok (.invokestatic 318, 3) := by decide +kernel
theorem dc_Model_times_11 : decode cd_Model_times 11 = .ok (.ifCond .ne 5, 3) := by decide +kernel
theorem dc_Model_times_14 : decode cd_Model_times 14 = .ok (.iconst (-1), 1) := by decide +kernel
theorem dc_Model_times_15 : decode cd_Model_times 15 = .ok (.ireturn, 1) := by decide +kernel
theorem dc_Model_times_16 : decode cd_Model_times 16 = .ok (.aload_n 0, 1) := by decide +kernel
theorem dc_Model_times_17 : decode cd_Model_times 17 = .ok (.invokevirtual 470, 3) := by decide +kernel
theorem dc_Model_times_20 : decode cd_Model_times 20 = .ok (.iconst 0, 1) := by decide +kernel
theorem dc_Model_times_21 : decode cd_Model_times 21 = .ok (.istore_n 2, 1) := by decide +kernel
theorem dc_Model_times_22 : decode cd_Model_times 22 = .ok (.iconst (-1), 1) := by decide +kernel
theorem dc_Model_times_23 : decode cd_Model_times 23 = .ok (.istore_n 3, 1) := by decide +kernel
theorem dc_Model_times_24 : decode cd_Model_times 24 = .ok (.iconst (-1), 1) := by decide +kernel
theorem dc_Model_times_25 : decode cd_Model_times 25 = .ok (.istore 4, 2) := by decide +kernel
theorem dc_Model_times_27 : decode cd_Model_times 27 = .ok (.iconst 0, 1) := by decide +kernel
theorem dc_Model_times_28 : decode cd_Model_times 28 = .ok (.istore 5, 2) := by decide +kernel
theorem dc_Model_times_30 : decode cd_Model_times 30 = .ok (.iload 5, 2) := by decide +kernel
theorem dc_Model_times_32 : decode cd_Model_times 32 = .ok (.sipush 240, 3) := by decide +kernel
theorem dc_Model_times_35 : decode cd_Model_times 35 = .ok (.if_icmp .ge 35, 3) := by decide +kernel
theorem dc_Model_times_38 : decode cd_Model_times 38 = .ok (.aload_n 0, 1) := by decide +kernel
theorem dc_Model_times_39 : decode cd_Model_times 39 = .ok (.iload 5, 2) := by decide +kernel
theorem dc_Model_times_41 : decode cd_Model_times 41 = .ok (.invokevirtual 507, 3) := by decide +kernel
theorem dc_Model_times_44 : decode cd_Model_times 44 = .ok (.ifCond .ne 6, 3) := by decide +kernel
theorem dc_Model_times_47 : decode cd_Model_times 47 = .ok (.goto 17, 3) := by decide +kernel
theorem dc_Model_times_50 : decode cd_Model_times 50 = .ok (.iinc 2 1, 3) := by decide +kernel
theorem dc_Model_times_53 : decode cd_Model_times 53 = .ok (.iload_n 3, 1) := by decide +kernel
theorem dc_Model_times_54 : decode cd_Model_times 54 = .ok (.ifCond .ge 6, 3) := by decide +kernel
theorem dc_Model_times_57 : decode cd_Model_times 57 = .ok (.iload 5, 2) := by decide +kernel
theorem dc_Model_times_59 : decode cd_Model_times 59 = .ok (.istore_n 3, 1) := by decide +kernel
theorem dc_Model_times_60 : decode cd_Model_times 60 = .ok (.iload 5, 2) := by decide +kernel
theorem dc_Model_times_62 : decode cd_Model_times 62 = .ok (.istore 4, 2) := by decide +kernel
theorem dc_Model_times_64 : decode cd_Model_times 64 = .ok (.iinc 5 1, 3) := by decide +kernel
theorem dc_Model_times_67 : decode cd_Model_times 67 = .ok (.goto (-37), 3) := by decide +kernel
theorem dc_Model_times_70 : decode cd_Model_times 70 = .ok (.iload_n 1, 1) := by decide +kernel
theorem dc_Model_times_71 : decode cd_Model_times 71 = .ok (.ifCond .ne 7, 3) := by decide +kernel
theorem dc_Model_times_74 : decode cd_Model_times 74 = .ok (.iload_n 2, 1) := by decide +kernel
theorem dc_Model_times_75 : decode cd_Model_times 75 = .ok (.goto 14, 3) := by decide +kernel
theorem dc_Model_times_78 : decode cd_Model_times 78 = .ok (.iload_n 1, 1) := by decide +kernel
theorem dc_Model_times_79 : decode cd_Model_times 79 = .ok (.iconst 1, 1) := by decide +kernel
theorem dc_Model_times_80 : decode cd_Model_times 80 = .ok (.if_icmp .ne 7, 3) := by decide +kernel
theorem dc_Model_times_83 : decode cd_Model_times 83 = .ok (.iload_n 3, 1) := by decide +kernel
theorem dc_Model_times_84 : decode cd_Model_times 84 = .ok (.goto 5, 3) := by decide +kernel
theorem dc_Model_times_87 : decode cd_Model_times 87 = .ok (.iload 4, 2) := by decide +kernel
theorem dc_Model_times_89 : decode cd_Model_times 89 = .ok (.ireturn, 1) := by decide +kernel
theorem dc_Model_sure_0 : decode cd_Model_sure 0 = .ok (.aload_n 0, 1) := by decide +kernel
theorem dc_Model_sure_1 : decode cd_Model_sure 1 = .ok (.iconst 0, 1) := by decide +kernel
theorem dc_Model_sure_2 : decode cd_Model_sure 2 = .ok (.putfield 183, 3) := by decide +kernel
theorem dc_Model_sure_5 : decode cd_Model_sure 5 = .ok (.aload_n 0, 1) := by decide +kernel
theorem dc_Model_sure_6 : decode cd_Model_sure 6 = .ok (.iload_n 1, 1) := by decide +kernel
theorem dc_Model_sure_7 : decode cd_Model_sure 7 = .ok (.invokevirtual 467, 3) := by decide +kernel
theorem dc_Model_sure_10 : decode cd_Model_sure 10 = .ok (.ifCond .eq 25, 3) := by decide +kernel
theorem dc_Model_sure_13 : decode cd_Model_sure 13 = .ok (.aload_n 0, 1) := by decide +kernel
theorem dc_Model_sure_14 : decode cd_Model_sure 14 = .ok (.iload_n 2, 1) := by decide +kernel
theorem dc_Model_sure_15 : decode cd_Model_sure 15 = .ok (.invokevirtual 467, 3) := by decide +kernel
theorem dc_Model_sure_18 : decode cd_Model_sure 18 = .ok (.ifCond .eq 17, 3) := by decide +kernel
theorem dc_Model_sure_21 : decode cd_Model_sure 21 = .ok (.iload_n 1, 1) := by decide +kernel
theorem dc_Model_sure_22 : decode cd_Model_sure 22 = .ok (.iload_n 2, 1) := by decide +kernel
theorem dc_Model_sure_23 : decode cd_Model_sure 23 = .ok (.if_icmp .eq 12, 3) := by decide +kernel
theorem dc_Model_sure_26 : decode cd_Model_sure 26 = .ok (.iload_n 3, 1) := by decide +kernel
theorem dc_Model_sure_27 : decode cd_Model_sure 27 = .ok (.iconst 0, 1) := by decide +kernel
theorem dc_Model_sure_28 : decode cd_Model_sure 28 = .ok (.iconst 1, 1) := by decide +kernel
theorem dc_Model_sure_29 : decode cd_Model_sure 29 = .ok (.invokestatic 318, 3) := by decide +kernel
theorem dc_Model_sure_32 : decode cd_Model_sure 32 = .ok (.ifCond .ne 5, 3) := by decide +kernel
theorem dc_Model_sure_35 : decode cd_Model_sure 35 = .ok (.iconst (-1), 1) := by decide +kernel
theorem dc_Model_sure_36 : decode cd_Model_sure 36 = .ok (.ireturn, 1) := by decide +kernel
theorem dc_Model_sure_37 : decode cd_Model_sure 37 = .ok (.aload_n 0, 1) := by decide +kernel
theorem dc_Model_sure_38 : decode cd_Model_sure 38 = .ok (.getfield 135, 3) := by decide +kernel
theorem dc_Model_sure_41 : decode cd_Model_sure 41 = .ok (.iconst 3, 1) := by decide +kernel
theorem dc_Model_sure_42 : decode cd_Model_sure 42 = .ok (.iaload, 1) := by decide +kernel
theorem dc_Model_sure_43 : decode cd_Model_sure 43 = .ok (.istore 4, 2) := by decide +kernel
theorem dc_Model_sure_45 : decode cd_Model_sure 45 = .ok (.aload_n 0, 1) := by decide +kernel
theorem dc_Model_sure_46 : decode cd_Model_sure 46 = .ok (.getfield 135, 3) := by decide +kernel
theorem dc_Model_sure_49 : decode cd_Model_sure 49 = .ok (.iconst 3, 1) := by decide +kernel
theorem dc_Model_sure_50 : decode cd_Model_sure 50 = .ok (.iconst 0, 1) := by decide +kernel
theorem dc_Model_sure_51 : decode cd_Model_sure 51 = .ok (.iastore, 1) := by decide +kernel
theorem dc_Model_sure_52 : decode cd_Model_sure 52 = .ok (.aload_n 0, 1) := by decide +kernel
theorem dc_Model_sure_53 : decode cd_Model_sure 53 = .ok (.invokevirtual 470, 3) := by decide +kernel
theorem dc_Model_sure_56 : decode cd_Model_sure 56 = .ok (.iconst 0, 1) := by decide +kernel
theorem dc_Model_sure_57 : decode cd_Model_sure 57 = .ok (.istore 5, 2) := by decide +kernel
theorem dc_Model_sure_59 : decode cd_Model_sure 59 = .ok (.iload 5, 2) := by decide +kernel
theorem dc_Model_sure_61 : decode cd_Model_sure 61 = .ok (.bipush 6, 2) := by decide +kernel
theorem dc_Model_sure_63 : decode cd_Model_sure 63 = .ok (.if_icmp .ge 24, 3) := by decide +kernel
theorem dc_Model_sure_66 : decode cd_Model_sure 66 = .ok (.aload_n 0, 1) := by decide +kernel
theorem dc_Model_sure_67 : decode cd_Model_sure 67 = .ok (.getfield 174, 3) := by decide +kernel
theorem dc_Model_sure_70 : decode cd_Model_sure 70 = .ok (.iload 5, 2) := by decide +kernel
theorem dc_Model_sure_72 : decode cd_Model_sure 72 = .ok (.aload_n 0, 1) := by decide +kernel
theorem dc_Model_sure_73 : decode cd_Model_sure 73 = .ok (.iload_n 1, 1) := by decide +kernel
theorem dc_Model_sure_74 : decode cd_Model_sure 74 = .ok (.iload_n 2, 1) := by decide +kernel
theorem dc_Model_sure_75 : decode cd_Model_sure 75 = .ok (.iload 5, 2) := by decide +kernel
theorem dc_Model_sure_77 : decode cd_Model_sure 77 = .ok (.invokevirtual 529, 3) := by decide +kernel
theorem dc_Model_sure_80 : decode cd_Model_sure 80 = .ok (.iastore, 1) := by decide +kernel
theorem dc_Model_sure_81 : decode cd_Model_sure 81 = .ok (.iinc 5 1, 3) := by decide +kernel
theorem dc_Model_sure_84 : decode cd_Model_sure 84 = .ok (.goto (-25), 3) := by decide +kernel
theorem dc_Model_sure_87 : decode cd_Model_sure 87 = .ok (.aload_n 0, 1) := by decide +kernel
theorem dc_Model_sure_88 : decode cd_Model_sure 88 = .ok (.getfield 135, 3) := by decide +kernel
theorem dc_Model_sure_91 : decode cd_Model_sure 91 = .ok (.iconst 3, 1) := by decide +kernel
theorem dc_Model_sure_92 : decode cd_Model_sure 92 = .ok (.iconst 1, 1) := by decide +kernel
theorem dc_Model_sure_93 : decode cd_Model_sure 93 = .ok (.iastore, 1) := by decide +kernel
theorem dc_Model_sure_94 : decode cd_Model_sure 94 = .ok (.aload_n 0, 1) := by decide +kernel
theorem dc_Model_sure_95 : decode cd_Model_sure 95 = .ok (.invokevirtual 470, 3) := by decide +kernel
theorem dc_Model_sure_98 : decode cd_Model_sure 98 = .ok (.aload_n 0, 1) := by decide +kernel
theorem dc_Model_sure_99 : decode cd_Model_sure 99 = .ok (.getfield 135, 3) := by decide +kernel
theorem dc_Model_sure_102 : decode cd_Model_sure 102 = .ok (.iconst 3, 1) := by decide +kernel
theorem dc_Model_sure_103 : decode cd_Model_sure 103 = .ok (.iload 4, 2) := by decide +kernel
theorem dc_Model_sure_105 : decode cd_Model_sure 105 = .ok (.iastore, 1) := by decide +kernel
theorem dc_Model_sure_106 : decode cd_Model_sure 106 = .ok (.iconst (-1), 1) := by decide +kernel
theorem dc_Model_sure_107 : decode cd_Model_sure 107 = .ok (.istore 5, 2) := by decide +kernel
theorem dc_Model_sure_109 : decode cd_Model_sure 109 = .ok (.iconst 0, 1) := by decide +kernel
theorem dc_Model_sure_110 : decode cd_Model_sure 110 = .ok (.istore 6, 2) := by decide +kernel
theorem dc_Model_sure_112 : decode cd_Model_sure 112 = .ok (.iconst 0, 1) := by decide +kernel
theorem dc_Model_sure_113 : decode cd_Model_sure 113 = .ok (.istore 7, 2) := by decide +kernel
theorem dc_Model_sure_115 : decode cd_Model_sure 115 = .ok (.iload 7, 2) := by decide +kernel
theorem dc_Model_sure_117 : decode cd_Model_sure 117 = .ok (.aload_n 0, 1) := by decide +kernel
theorem dc_Model_sure_118 : decode cd_Model_sure 118 = .ok (.getfield 13, 3) := by decide +kernel
theorem dc_Model_sure_121 : decode cd_Model_sure 121 = .ok (.iconst 0, 1) := by decide +kernel
theorem dc_Model_sure_122 : decode cd_Model_sure 122 = .ok (.iaload, 1) := by decide +kernel
theorem dc_Model_sure_123 : decode cd_Model_sure 123 = .ok (.if_icmp .ge 74, 3) := by decide +kernel
theorem dc_Model_sure_126 : decode cd_Model_sure 126 = .ok (.aload_n 0, 1) := by decide +kernel
theorem dc_Model_sure_127 : decode cd_Model_sure 127 = .ok (.iload_n 1, 1) := by decide +kernel
theorem dc_Model_sure_128 : decode cd_Model_sure 128 = .ok (.iload_n 2, 1) := by decide +kernel
theorem dc_Model_sure_129 : decode cd_Model_sure 129 = .ok (.iload 7, 2) := by decide +kernel
theorem dc_Model_sure_131 : decode cd_Model_sure 131 = .ok (.invokevirtual 529, 3) := by decide +kernel
theorem dc_Model_sure_134 : decode cd_Model_sure 134 = .ok (.istore 8, 2) := by decide +kernel
theorem dc_Model_sure_136 : decode cd_Model_sure 136 = .ok (.iload 8, 2) := by decide +kernel
theorem dc_Model_sure_138 : decode cd_Model_sure 138 = .ok (.ifCond .lt 53, 3) := by decide +kernel
theorem dc_Model_sure_141 : decode cd_Model_sure 141 = .ok (.aload_n 0, 1) := by decide +kernel
theorem dc_Model_sure_142 : decode cd_Model_sure 142 = .ok (.getfield 174, 3) := by decide +kernel
theorem dc_Model_sure_145 : decode cd_Model_sure 145 = .ok (.iload 7, 2) := by decide +kernel
theorem dc_Model_sure_147 : decode cd_Model_sure 147 = .ok (.iaload, 1) := by decide +kernel
theorem dc_Model_sure_148 : decode cd_Model_sure 148 = .ok (.ifCond .ge 6, 3) := by decide +kernel
theorem dc_Model_sure_151 : decode cd_Model_sure 151 = .ok (.goto 40, 3) := by decide +kernel
theorem dc_Model_sure_154 : decode cd_Model_sure 154 = .ok (.iload 8, 2) := by decide +kernel
theorem dc_Model_sure_156 : decode cd_Model_sure 156 = .ok (.aload_n 0, 1) := by decide +kernel
theorem dc_Model_sure_157 : decode cd_Model_sure 157 = .ok (.getfield 174, 3) := by decide +kernel
theorem dc_Model_sure_160 : decode cd_Model_sure 160 = .ok (.iload 7, 2) := by decide +kernel
theorem dc_Model_sure_162 : decode cd_Model_sure 162 = .ok (.iaload, 1) := by decide +kernel
theorem dc_Model_sure_163 : decode cd_Model_sure 163 = .ok (.invokestatic 513, 3) := by decide +kernel
theorem dc_Model_sure_166 : decode cd_Model_sure 166 = .ok (.istore 9, 2) := by decide +kernel
theorem dc_Model_sure_168 : decode cd_Model_sure 168 = .ok (.iload 5, 2) := by decide +kernel
theorem dc_Model_sure_170 : decode cd_Model_sure 170 = .ok (.ifCond .lt 13, 3) := by decide +kernel
theorem dc_Model_sure_173 : decode cd_Model_sure 173 = .ok (.iload 9, 2) := by decide +kernel
theorem dc_Model_sure_175 : decode cd_Model_sure 175 = .ok (.iload 6, 2) := by decide +kernel
theorem dc_Model_sure_177 : decode cd_Model_sure 177 = .ok (.if_icmp .lt 6, 3) := by decide +kernel
theorem dc_Model_sure_180 : decode cd_Model_sure 180 = .ok (.goto 11, 3) := by decide +kernel
theorem dc_Model_sure_183 : decode cd_Model_sure 183 = .ok (.iload 7, 2) := by decide +kernel
theorem dc_Model_sure_185 : decode cd_Model_sure 185 = .ok (.istore 5, 2) := by decide +kernel
theorem dc_Model_sure_187 : decode cd_Model_sure 187 = .ok (.iload 9, 2) := by decide +kernel
theorem dc_Model_sure_189 : decode cd_Model_sure 189 = .ok (.istore 6, 2) := by decide +kernel
theorem dc_Model_sure_191 : decode cd_Model_sure 191 = .ok (.iinc 7 1, 3) := by decide +kernel
theorem dc_Model_sure_194 : decode cd_Model_sure 194 = .ok (.goto (-79), 3) := by decide +kernel
theorem dc_Model_sure_197 : decode cd_Model_sure 197 = .ok (.iload 5, 2) := by decide +kernel
theorem dc_Model_sure_199 : decode cd_Model_sure 199 = .ok (.ifCond .lt 7, 3) := by decide +kernel
theorem dc_Model_sure_202 : decode cd_Model_sure 202 = .ok (.iload_n 3, 1) := by decide +kernel
theorem dc_Model_sure_203 : decode cd_Model_sure 203 = .ok (.ifCond .ne 8, 3) := by decide +kernel
theorem dc_Model_sure_206 : decode cd_Model_sure 206 = .ok (.iload 5, 2) := by decide +kernel
theorem dc_Model_sure_208 : decode cd_Model_sure 208 = .ok (.goto 5, 3) := by decide +kernel
theorem dc_Model_sure_211 : decode cd_Model_sure 211 = .ok (.iload 6, 2) := by decide +kernel
theorem dc_Model_sure_213 : decode cd_Model_sure 213 = .ok (.ireturn, 1) := by decide +kernel
theorem dc_Model_soonest_0 : decode cd_Model_soonest 0 = .ok (.aload_n 0, 1) := by decide +kernel
theorem dc_Model_soonest_1 : decode cd_Model_soonest 1 = .ok (.iconst 0, 1) := by decide +kernel
theorem dc_Model_soonest_2 : decode cd_Model_soonest 2 = .ok (.putfield 183, 3) := by decide +kernel
theorem dc_Model_soonest_5 : decode cd_Model_soonest 5 = .ok (.aload_n 0, 1) := by decide +kernel
theorem dc_Model_soonest_6 : decode cd_Model_soonest 6 = .ok (.iload_n 1, 1) := by decide +kernel
theorem dc_Model_soonest_7 : decode cd_Model_soonest 7 = .ok (.invokevirtual 433, 3) := by decide +kernel
theorem dc_Model_soonest_10 : decode cd_Model_soonest 10 = .ok (.ifCond .eq 26, 3) := by decide +kernel
theorem dc_Model_soonest_13 : decode cd_Model_soonest 13 = .ok (.iload_n 2, 1) := by decide +kernel
theorem dc_Model_soonest_14 : decode cd_Model_soonest 14 = .ok (.iconst 0, 1) := by decide +kernel
theorem dc_Model_soonest_15 : decode cd_Model_soonest 15 = .ok (.sipush 239, 3) := by decide +kernel
theorem dc_Model_soonest_18 : decode cd_Model_soonest 18 = .ok (.invokestatic 318, 3) := by decide +kernel
theorem dc_Model_soonest_21 : decode cd_Model_soonest 21 = .ok (.ifCond .eq 15, 3) := by decide +kernel
theorem dc_Model_soonest_24 : decode cd_Model_soonest 24 = .ok (.iload_n 3, 1) := by decide +kernel
theorem dc_Model_soonest_25 : decode cd_Model_soonest 25 = .ok (.ifCond .lt 11, 3) := by decide +kernel
theorem dc_Model_soonest_28 : decode cd_Model_soonest 28 = .ok (.iload_n 3, 1) := by decide +kernel
theorem dc_Model_soonest_29 : decode cd_Model_soonest 29 = .ok (.aload_n 0, 1) := by decide +kernel
theorem dc_Model_soonest_30 : decode cd_Model_soonest 30 = .ok (.invokevirtual 402, 3) := by decide +kernel
theorem dc_Model_soonest_33 : decode cd_Model_soonest 33 = .ok (.if_icmp .le 5, 3) := by decide +kernel
theorem dc_Model_soonest_36 : decode cd_Model_soonest 36 = .ok (.iconst (-1), 1) := by decide +kernel
theorem dc_Model_soonest_37 : decode cd_Model_soonest 37 = .ok (.ireturn, 1) := by decide +kernel
theorem dc_Model_soonest_38 : decode cd_Model_soonest 38 = .ok (.aload_n 0, 1) := by decide +kernel
theorem dc_Model_soonest_39 : decode cd_Model_soonest 39 = .ok (.invokevirtual 470, 3) := by decide +kernel
theorem dc_Model_soonest_42 : decode cd_Model_soonest 42 = .ok (.aload_n 0, 1) := by decide +kernel
theorem dc_Model_soonest_43 : decode cd_Model_soonest 43 = .ok (.getfield 135, 3) := by decide +kernel
theorem dc_Model_soonest_46 : decode cd_Model_soonest 46 = .ok (.iconst 3, 1) := by decide +kernel
theorem dc_Model_soonest_47 : decode cd_Model_soonest 47 = .ok (.iaload, 1) := by decide +kernel
theorem dc_Model_soonest_48 : decode cd_Model_soonest 48 = .ok (.iconst 1, 1) := by decide +kernel
theorem dc_Model_soonest_49 : decode cd_Model_soonest 49 = .ok (.if_icmp .ne 7, 3) := by decide +kernel
theorem dc_Model_soonest_52 : decode cd_Model_soonest 52 = .ok (.iconst 2, 1) := by decide +kernel
theorem dc_Model_soonest_53 : decode cd_Model_soonest 53 = .ok (.goto 4, 3) := by decide +kernel
theorem dc_Model_soonest_56 : decode cd_Model_soonest 56 = .ok (.iconst 1, 1) := by decide +kernel
theorem dc_Model_soonest_57 : decode cd_Model_soonest 57 = .ok (.istore 4, 2) := by decide +kernel
theorem dc_Model_soonest_59 : decode cd_Model_soonest 59 = .ok (.iconst 0, 1) := by decide +kernel
theorem dc_Model_soonest_60 : decode cd_Model_soonest 60 = .ok (.istore 5, 2) := by decide +kernel
theorem dc_Model_soonest_62 : decode cd_Model_soonest 62 = .ok (.iload 5, 2) := by decide +kernel
theorem dc_Model_soonest_64 : decode cd_Model_soonest 64 = .ok (.sipush 1440, 3) := by decide +kernel
theorem dc_Model_soonest_67 : decode cd_Model_soonest 67 = .ok (.if_icmp .ge 17, 3) := by decide +kernel
theorem dc_Model_soonest_70 : decode cd_Model_soonest 70 = .ok (.aload_n 0, 1) := by decide +kernel
theorem dc_Model_soonest_71 : decode cd_Model_soonest 71 = .ok (.getfield 177, 3) := by decide +kernel
theorem dc_Model_soonest_74 : decode cd_Model_soonest 74 = .ok (.iload 5, 2) := by decide +kernel
theorem dc_Model_soonest_76 : decode cd_Model_soonest 76 = .ok (.lconst 0, 1) := by decide +kernel
theorem dc_Model_soonest_77 : decode cd_Model_soonest 77 = .ok (.lastore, 1) := by decide +kernel
theorem dc_Model_soonest_78 : decode cd_Model_soonest 78 = .ok (.iinc 5 1, 3) := by decide +kernel
theorem dc_Model_soonest_81 : decode cd_Model_soonest 81 = .ok (.goto (-19), 3) := by decide +kernel
theorem dc_Model_soonest_84 : decode cd_Model_soonest 84 = .ok (.aload_n 0, 1) := by decide +kernel
theorem dc_Model_soonest_85 : decode cd_Model_soonest 85 = .ok (.getfield 177, 3) := by decide +kernel
theorem dc_Model_soonest_88 : decode cd_Model_soonest 88 = .ok (.bipush 6, 2) := by decide +kernel
theorem dc_Model_soonest_90 : decode cd_Model_soonest 90 = .ok (.iload_n 2, 1) := by decide +kernel
theorem dc_Model_soonest_91 : decode cd_Model_soonest 91 = .ok (.imul, 1) := by decide +kernel
theorem dc_Model_soonest_92 : decode cd_Model_soonest 92 = .ok (.iload_n 1, 1) := by decide +kernel
theorem dc_Model_soonest_93 : decode cd_Model_soonest 93 = .ok (.iadd, 1) := by decide +kernel
theorem dc_Model_soonest_94 : decode cd_Model_soonest 94 = .ok (.lconst 1, 1) := by decide +kernel
theorem dc_Model_soonest_95 : decode cd_Model_soonest 95 = .ok (.lastore, 1) := by decide +kernel
theorem dc_Model_soonest_96 : decode cd_Model_soonest 96 = .ok (.iload_n 2, 1) := by decide +kernel
theorem dc_Model_soonest_97 : decode cd_Model_soonest 97 = .ok (.istore 5, 2) := by decide +kernel
theorem dc_Model_soonest_99 : decode cd_Model_soonest 99 = .ok (.iload 5, 2) := by decide +kernel
theorem dc_Model_soonest_101 : decode cd_Model_soonest 101 = .ok (.sipush 240, 3) := by decide +kernel
theorem dc_Model_soonest_104 : decode cd_Model_soonest 104 = .ok (.if_icmp .ge 205, 3) := by decide +kernel
theorem dc_Model_soonest_107 : decode cd_Model_soonest 107 = .ok (.iconst 0, 1) := by decide +kernel
theorem dc_Model_soonest_108 : decode cd_Model_soonest 108 = .ok (.istore 6, 2) := by decide +kernel
theorem dc_Model_soonest_110 : decode cd_Model_soonest 110 = .ok (.iload 6, 2) := by decide +kernel
theorem dc_Model_soonest_112 : decode cd_Model_soonest 112 = .ok (.aload_n 0, 1) := by decide +kernel
theorem dc_Model_soonest_113 : decode cd_Model_soonest 113 = .ok (.getfield 13, 3) := by decide +kernel
theorem dc_Model_soonest_116 : decode cd_Model_soonest 116 = .ok (.iconst 0, 1) := by decide +kernel
theorem dc_Model_soonest_117 : decode cd_Model_soonest 117 = .ok (.iaload, 1) := by decide +kernel
theorem dc_Model_soonest_118 : decode cd_Model_soonest 118 = .ok (.if_icmp .ge 185, 3) := by decide +kernel
theorem dc_Model_soonest_121 : decode cd_Model_soonest 121 = .ok (.aload_n 0, 1) := by decide +kernel
theorem dc_Model_soonest_122 : decode cd_Model_soonest 122 = .ok (.getfield 177, 3) := by decide +kernel
theorem dc_Model_soonest_125 : decode cd_Model_soonest 125 = .ok (.bipush 6, 2) := by decide +kernel
theorem dc_Model_soonest_127 : decode cd_Model_soonest 127 = .ok (.iload 5, 2) := by decide +kernel
theorem dc_Model_soonest_129 : decode cd_Model_soonest 129 = .ok (.imul, 1) := by decide +kernel
theorem dc_Model_soonest_130 : decode cd_Model_soonest 130 = .ok (.iload 6, 2) := by decide +kernel
theorem dc_Model_soonest_132 : decode cd_Model_soonest 132 = .ok (.iadd, 1) := by decide +kernel
theorem dc_Model_soonest_133 : decode cd_Model_soonest 133 = .ok (.laload, 1) := by decide +kernel
theorem dc_Model_soonest_134 : decode cd_Model_soonest 134 = .ok (.lconst 0, 1) := by decide +kernel
theorem dc_Model_soonest_135 : decode cd_Model_soonest 135 = .ok (.lcmp, 1) := by decide +kernel
theorem dc_Model_soonest_136 : decode cd_Model_soonest 136 = .ok (.ifCond .ne 6, 3) := by decide +kernel
theorem dc_Model_soonest_139 : decode cd_Model_soonest 139 = .ok (.goto 158, 3) := by decide +kernel
theorem dc_Model_soonest_142 : decode cd_Model_soonest 142 = .ok (.aload_n 0, 1) := by decide +kernel
theorem dc_Model_soonest_143 : decode cd_Model_soonest 143 = .ok (.getfield 177, 3) := by decide +kernel
theorem dc_Model_soonest_146 : decode cd_Model_soonest 146 = .ok (.bipush 6, 2) := by decide +kernel
theorem dc_Model_soonest_148 : decode cd_Model_soonest 148 = .ok (.iload 5, 2) := by decide +kernel
theorem dc_Model_soonest_150 : decode cd_Model_soonest 150 = .ok (.imul, 1) := by decide +kernel
theorem dc_Model_soonest_151 : decode cd_Model_soonest 151 = .ok (.iload 6, 2) := by decide +kernel
theorem dc_Model_soonest_153 : decode cd_Model_soonest 153 = .ok (.iadd, 1) := by decide +kernel
theorem dc_Model_soonest_154 : decode cd_Model_soonest 154 = .ok (.laload, 1) := by decide +kernel
theorem dc_Model_soonest_155 : decode cd_Model_soonest 155 = .ok (.aload_n 0, 1) := by decide +kernel
theorem dc_Model_soonest_156 : decode cd_Model_soonest 156 = .ok (.iload 6, 2) := by decide +kernel
theorem dc_Model_soonest_158 : decode cd_Model_soonest 158 = .ok (.iload 5, 2) := by decide +kernel
theorem dc_Model_soonest_160 : decode cd_Model_soonest 160 = .ok (.invokevirtual 510, 3) := by decide +kernel
theorem dc_Model_soonest_163 : decode cd_Model_soonest 163 = .ok (.iload_n 3, 1) := by decide +kernel
theorem dc_Model_soonest_164 : decode cd_Model_soonest 164 = .ok (.iand, 1) := by decide +kernel
theorem dc_Model_soonest_165 : decode cd_Model_soonest 165 = .ok (.invokestatic 532, 3) := by decide +kernel
theorem dc_Model_soonest_168 : decode cd_Model_soonest 168 = .ok (.lstore 7, 2) := by decide +kernel
theorem dc_Model_soonest_170 : decode cd_Model_soonest 170 = .ok (.lload 7, 2) := by decide +kernel
theorem dc_Model_soonest_172 : decode cd_Model_soonest 172 = .ok (.iload_n 3, 1) := by decide +kernel
