theorem dc_Clock_isPlace_0 : decode cd_Clock_isPlace 0 = .ok (.iload_n 1, 1) := by decide +kernel
theorem dc_Clock_isPlace_1 : decode cd_Clock_isPlace 1 = .ok (.ifCond .lt 18, 3) := by decide +kernel
theorem dc_Clock_isPlace_4 : decode cd_Clock_isPlace 4 = .ok (.iload_n 1, 1) := by decide +kernel
theorem dc_Clock_isPlace_5 : decode cd_Clock_isPlace 5 = .ok (.aload_n 0, 1) := by decide +kernel
theorem dc_Clock_isPlace_6 : decode cd_Clock_isPlace 6 = .ok (.getfield 28, 3) := by decide +kernel
theorem dc_Clock_isPlace_9 : decode cd_Clock_isPlace 9 = .ok (.getfield 257, 3) := by decide +kernel
theorem dc_Clock_isPlace_12 : decode cd_Clock_isPlace 12 = .ok (.if_icmp .ge 7, 3) := by decide +kernel
theorem dc_Clock_isPlace_15 : decode cd_Clock_isPlace 15 = .ok (.iconst 1, 1) := by decide +kernel
theorem dc_Clock_isPlace_16 : decode cd_Clock_isPlace 16 = .ok (.goto 4, 3) := by decide +kernel
theorem dc_Clock_isPlace_19 : decode cd_Clock_isPlace 19 = .ok (.iconst 0, 1) := by decide +kernel
theorem dc_Clock_isPlace_20 : decode cd_Clock_isPlace 20 = .ok (.ireturn, 1) := by decide +kernel
theorem dc_Clock_isWalker_0 : decode cd_Clock_isWalker 0 = .ok (.iload_n 1, 1) := by decide +kernel
theorem dc_Clock_isWalker_1 : decode cd_Clock_isWalker 1 = .ok (.ifCond .lt 18, 3) := by decide +kernel
theorem dc_Clock_isWalker_4 : decode cd_Clock_isWalker 4 = .ok (.iload_n 1, 1) := by decide +kernel
theorem dc_Clock_isWalker_5 : decode cd_Clock_isWalker 5 = .ok (.aload_n 0, 1) := by decide +kernel
theorem dc_Clock_isWalker_6 : decode cd_Clock_isWalker 6 = .ok (.getfield 28, 3) := by decide +kernel
theorem dc_Clock_isWalker_9 : decode cd_Clock_isWalker 9 = .ok (.getfield 282, 3) := by decide +kernel
theorem dc_Clock_isWalker_12 : decode cd_Clock_isWalker 12 = .ok (.if_icmp .ge 7, 3) := by decide +kernel
theorem dc_Clock_isWalker_15 : decode cd_Clock_isWalker 15 = .ok (.iconst 1, 1) := by decide +kernel
theorem dc_Clock_isWalker_16 : decode cd_Clock_isWalker 16 = .ok (.goto 4, 3) := by decide +kernel
theorem dc_Clock_isWalker_19 : decode cd_Clock_isWalker 19 = .ok (.iconst 0, 1) := by decide +kernel
theorem dc_Clock_isWalker_20 : decode cd_Clock_isWalker 20 = .ok (.ireturn, 1) := by decide +kernel
theorem dc_Clock_isHour_0 : decode cd_Clock_isHour 0 = .ok (.iload_n 1, 1) := by decide +kernel
theorem dc_Clock_isHour_1 : decode cd_Clock_isHour 1 = .ok (.ifCond .lt 18, 3) := by decide +kernel
theorem dc_Clock_isHour_4 : decode cd_Clock_isHour 4 = .ok (.iload_n 1, 1) := by decide +kernel
theorem dc_Clock_isHour_5 : decode cd_Clock_isHour 5 = .ok (.aload_n 0, 1) := by decide +kernel
theorem dc_Clock_isHour_6 : decode cd_Clock_isHour 6 = .ok (.getfield 28, 3) := by decide +kernel
theorem dc_Clock_isHour_9 : decode cd_Clock_isHour 9 = .ok (.getfield 263, 3) := by decide +kernel
theorem dc_Clock_isHour_12 : decode cd_Clock_isHour 12 = .ok (.if_icmp .ge 7, 3) := by decide +kernel
theorem dc_Clock_isHour_15 : decode cd_Clock_isHour 15 = .ok (.iconst 1, 1) := by decide +kernel
theorem dc_Clock_isHour_16 : decode cd_Clock_isHour 16 = .ok (.goto 4, 3) := by decide +kernel
theorem dc_Clock_isHour_19 : decode cd_Clock_isHour 19 = .ok (.iconst 0, 1) := by decide +kernel
theorem dc_Clock_isHour_20 : decode cd_Clock_isHour 20 = .ok (.ireturn, 1) := by decide +kernel
theorem dc_Clock_isMinute_0 : decode cd_Clock_isMinute 0 = .ok (.iload_n 1, 1) := by decide +kernel
theorem dc_Clock_isMinute_1 : decode cd_Clock_isMinute 1 = .ok (.ifCond .lt 14, 3) := by decide +kernel
theorem dc_Clock_isMinute_4 : decode cd_Clock_isMinute 4 = .ok (.iload_n 1, 1) := by decide +kernel
theorem dc_Clock_isMinute_5 : decode cd_Clock_isMinute 5 = .ok (.sipush 240, 3) := by decide +kernel
theorem dc_Clock_isMinute_8 : decode cd_Clock_isMinute 8 = .ok (.if_icmp .ge 7, 3) := by decide +kernel
theorem dc_Clock_isMinute_11 : decode cd_Clock_isMinute 11 = .ok (.iconst 1, 1) := by decide +kernel
theorem dc_Clock_isMinute_12 : decode cd_Clock_isMinute 12 = .ok (.goto 4, 3) := by decide +kernel
theorem dc_Clock_isMinute_15 : decode cd_Clock_isMinute 15 = .ok (.iconst 0, 1) := by decide +kernel
theorem dc_Clock_isMinute_16 : decode cd_Clock_isMinute 16 = .ok (.ireturn, 1) := by decide +kernel
theorem dc_Clock_gain_0 : decode cd_Clock_gain 0 = .ok (.iload_n 0, 1) := by decide +kernel
theorem dc_Clock_gain_1 : decode cd_Clock_gain 1 = .ok (.ifCond .lt 14, 3) := by decide +kernel
theorem dc_Clock_gain_4 : decode cd_Clock_gain 4 = .ok (.iload_n 0, 1) := by decide +kernel
theorem dc_Clock_gain_5 : decode cd_Clock_gain 5 = .ok (.iload_n 3, 1) := by decide +kernel
theorem dc_Clock_gain_6 : decode cd_Clock_gain 6 = .ok (.if_icmp .gt 7, 3) := by decide +kernel
theorem dc_Clock_gain_9 : decode cd_Clock_gain 9 = .ok (.iload_n 1, 1) := by decide +kernel
theorem dc_Clock_gain_10 : decode cd_Clock_gain 10 = .ok (.goto 4, 3) := by decide +kernel
theorem dc_Clock_gain_13 : decode cd_Clock_gain 13 = .ok (.iconst 0, 1) := by decide +kernel
theorem dc_Clock_gain_14 : decode cd_Clock_gain 14 = .ok (.ireturn, 1) := by decide +kernel
theorem dc_Clock_gain_15 : decode cd_Clock_gain 15 = .ok (.iload_n 0, 1) := by decide +kernel
theorem dc_Clock_gain_16 : decode cd_Clock_gain 16 = .ok (.ineg, 1) := by decide +kernel
theorem dc_Clock_gain_17 : decode cd_Clock_gain 17 = .ok (.iload_n 2, 1) := by decide +kernel
theorem dc_Clock_gain_18 : decode cd_Clock_gain 18 = .ok (.if_icmp .gt 9, 3) := by decide +kernel
theorem dc_Clock_gain_21 : decode cd_Clock_gain 21 = .ok (.iload_n 1, 1) := by decide +kernel
theorem dc_Clock_gain_22 : decode cd_Clock_gain 22 = .ok (.iload_n 0, 1) := by decide +kernel
theorem dc_Clock_gain_23 : decode cd_Clock_gain 23 = .ok (.iadd, 1) := by decide +kernel
theorem dc_Clock_gain_24 : decode cd_Clock_gain 24 = .ok (.goto 5, 3) := by decide +kernel
theorem dc_Clock_gain_27 : decode cd_Clock_gain 27 = .ok (.iload_n 2, 1) := by decide +kernel
theorem dc_Clock_gain_28 : decode cd_Clock_gain 28 = .ok (.ineg, 1) := by decide +kernel
theorem dc_Clock_gain_29 : decode cd_Clock_gain 29 = .ok (.ireturn, 1) := by decide +kernel
theorem dc_Clock_draw_0 : decode cd_Clock_draw 0 = .ok (.aload_n 0, 1) := by decide +kernel
theorem dc_Clock_draw_1 : decode cd_Clock_draw 1 = .ok (.aload_n 0, 1) := by decide +kernel
theorem dc_Clock_draw_2 : decode cd_Clock_draw 2 = .ok (.getfield 315, 3) := by decide +kernel
theorem dc_Clock_draw_5 : decode cd_Clock_draw 5 = .ok (.ldc2_w 375, 3) := by decide +kernel
theorem dc_Clock_draw_8 : decode cd_Clock_draw 8 = .ok (.lmul, 1) := by decide +kernel
theorem dc_Clock_draw_9 : decode cd_Clock_draw 9 = .ok (.ldc2_w 377, 3) := by decide +kernel
theorem dc_Clock_draw_12 : decode cd_Clock_draw 12 = .ok (.ladd, 1) := by decide +kernel
theorem dc_Clock_draw_13 : decode cd_Clock_draw 13 = .ok (.ldc2_w 379, 3) := by decide +kernel
theorem dc_Clock_draw_16 : decode cd_Clock_draw 16 = .ok (.lrem, 1) := by decide +kernel
theorem dc_Clock_draw_17 : decode cd_Clock_draw 17 = .ok (.putfield 315, 3) := by decide +kernel
theorem dc_Clock_draw_20 : decode cd_Clock_draw 20 = .ok (.iload_n 1, 1) := by decide +kernel
theorem dc_Clock_draw_21 : decode cd_Clock_draw 21 = .ok (.ifCond .le 18, 3) := by decide +kernel
theorem dc_Clock_draw_24 : decode cd_Clock_draw 24 = .ok (.aload_n 0, 1) := by decide +kernel
theorem dc_Clock_draw_25 : decode cd_Clock_draw 25 = .ok (.getfield 315, 3) := by decide +kernel
theorem dc_Clock_draw_28 : decode cd_Clock_draw 28 = .ok (.ldc2_w 381, 3) := by decide +kernel
theorem dc_Clock_draw_31 : decode cd_Clock_draw 31 = .ok (.ldiv, 1) := by decide +kernel
theorem dc_Clock_draw_32 : decode cd_Clock_draw 32 = .ok (.iload_n 1, 1) := by decide +kernel
theorem dc_Clock_draw_33 : decode cd_Clock_draw 33 = .ok (.i2l, 1) := by decide +kernel
theorem dc_Clock_draw_34 : decode cd_Clock_draw 34 = .ok (.lrem, 1) := by decide +kernel
theorem dc_Clock_draw_35 : decode cd_Clock_draw 35 = .ok (.l2i, 1) := by decide +kernel
theorem dc_Clock_draw_36 : decode cd_Clock_draw 36 = .ok (.goto 4, 3) := by decide +kernel
theorem dc_Clock_draw_39 : decode cd_Clock_draw 39 = .ok (.iconst 0, 1) := by decide +kernel
theorem dc_Clock_draw_40 : decode cd_Clock_draw 40 = .ok (.ireturn, 1) := by decide +kernel
theorem dc_Hills_shorten_0 : decode cd_Hills_shorten 0 = .ok (.aload_n 0, 1) := by decide +kernel
theorem dc_Hills_shorten_1 : decode cd_Hills_shorten 1 = .ok (.getfield 25, 3) := by decide +kernel
theorem dc_Hills_shorten_4 : decode cd_Hills_shorten 4 = .ok (.iload_n 1, 1) := by decide +kernel
theorem dc_Hills_shorten_5 : decode cd_Hills_shorten 5 = .ok (.bipush 6, 2) := by decide +kernel
theorem dc_Hills_shorten_7 : decode cd_Hills_shorten 7 = .ok (.imul, 1) := by decide +kernel
theorem dc_Hills_shorten_8 : decode cd_Hills_shorten 8 = .ok (.iload_n 2, 1) := by decide +kernel
theorem dc_Hills_shorten_9 : decode cd_Hills_shorten 9 = .ok (.iadd, 1) := by decide +kernel
theorem dc_Hills_shorten_10 : decode cd_Hills_shorten 10 = .ok (.iaload, 1) := by decide +kernel
theorem dc_Hills_shorten_11 : decode cd_Hills_shorten 11 = .ok (.istore 4, 2) := by decide +kernel
theorem dc_Hills_shorten_13 : decode cd_Hills_shorten 13 = .ok (.aload_n 0, 1) := by decide +kernel
theorem dc_Hills_shorten_14 : decode cd_Hills_shorten 14 = .ok (.getfield 25, 3) := by decide +kernel
theorem dc_Hills_shorten_17 : decode cd_Hills_shorten 17 = .ok (.iload_n 2, 1) := by decide +kernel
theorem dc_Hills_shorten_18 : decode cd_Hills_shorten 18 = .ok (.bipush 6, 2) := by decide +kernel
theorem dc_Hills_shorten_20 : decode cd_Hills_shorten 20 = .ok (.imul, 1) := by decide +kernel
theorem dc_Hills_shorten_21 : decode cd_Hills_shorten 21 = .ok (.iload_n 3, 1) := by decide +kernel
theorem dc_Hills_shorten_22 : decode cd_Hills_shorten 22 = .ok (.iadd, 1) := by decide +kernel
theorem dc_Hills_shorten_23 : decode cd_Hills_shorten 23 = .ok (.iaload, 1) := by decide +kernel
theorem dc_Hills_shorten_24 : decode cd_Hills_shorten 24 = .ok (.istore 5, 2) := by decide +kernel
theorem dc_Hills_shorten_26 : decode cd_Hills_shorten 26 = .ok (.aload_n 0, 1) := by decide +kernel
theorem dc_Hills_shorten_27 : decode cd_Hills_shorten 27 = .ok (.getfield 25, 3) := by decide +kernel
theorem dc_Hills_shorten_30 : decode cd_Hills_shorten 30 = .ok (.iload_n 1, 1) := by decide +kernel
theorem dc_Hills_shorten_31 : decode cd_Hills_shorten 31 = .ok (.bipush 6, 2) := by decide +kernel
theorem dc_Hills_shorten_33 : decode cd_Hills_shorten 33 = .ok (.imul, 1) := by decide +kernel
theorem dc_Hills_shorten_34 : decode cd_Hills_shorten 34 = .ok (.iload_n 3, 1) := by decide +kernel
theorem dc_Hills_shorten_35 : decode cd_Hills_shorten 35 = .ok (.iadd, 1) := by decide +kernel
theorem dc_Hills_shorten_36 : decode cd_Hills_shorten 36 = .ok (.iaload, 1) := by decide +kernel
theorem dc_Hills_shorten_37 : decode cd_Hills_shorten 37 = .ok (.istore 6, 2) := by decide +kernel
theorem dc_Hills_shorten_39 : decode cd_Hills_shorten 39 = .ok (.iload 4, 2) := by decide +kernel
theorem dc_Hills_shorten_41 : decode cd_Hills_shorten 41 = .ok (.iconst (-1), 1) := by decide +kernel
theorem dc_Hills_shorten_42 : decode cd_Hills_shorten 42 = .ok (.if_icmp .eq 41, 3) := by decide +kernel
theorem dc_Hills_shorten_45 : decode cd_Hills_shorten 45 = .ok (.iload 5, 2) := by decide +kernel
theorem dc_Hills_shorten_47 : decode cd_Hills_shorten 47 = .ok (.iconst (-1), 1) := by decide +kernel
theorem dc_Hills_shorten_48 : decode cd_Hills_shorten 48 = .ok (.if_icmp .eq 35, 3) := by decide +kernel
theorem dc_Hills_shorten_51 : decode cd_Hills_shorten 51 = .ok (.iload 6, 2) := by decide +kernel
theorem dc_Hills_shorten_53 : decode cd_Hills_shorten 53 = .ok (.iconst (-1), 1) := by decide +kernel
theorem dc_Hills_shorten_54 : decode cd_Hills_shorten 54 = .ok (.if_icmp .eq 13, 3) := by decide +kernel
theorem dc_Hills_shorten_57 : decode cd_Hills_shorten 57 = .ok (.iload 4, 2) := by decide +kernel
theorem dc_Hills_shorten_59 : decode cd_Hills_shorten 59 = .ok (.iload 5, 2) := by decide +kernel
theorem dc_Hills_shorten_61 : decode cd_Hills_shorten 61 = .ok (.iadd, 1) := by decide +kernel
theorem dc_Hills_shorten_62 : decode cd_Hills_shorten 62 = .ok (.iload 6, 2) := by decide +kernel
theorem dc_Hills_shorten_64 : decode cd_Hills_shorten 64 = .ok (.if_icmp .ge 19, 3) := by decide +kernel
theorem dc_Hills_shorten_67 : decode cd_Hills_shorten 67 = .ok (.aload_n 0, 1) := by decide +kernel
theorem dc_Hills_shorten_68 : decode cd_Hills_shorten 68 = .ok (.getfield 25, 3) := by decide +kernel
theorem dc_Hills_shorten_71 : decode cd_Hills_shorten 71 = .ok (.iload_n 1, 1) := by decide +kernel
theorem dc_Hills_shorten_72 : decode cd_Hills_shorten 72 = .ok (.bipush 6, 2) := by decide +kernel
theorem dc_Hills_shorten_74 : decode cd_Hills_shorten 74 = .ok (.imul, 1) := by decide +kernel
theorem dc_Hills_shorten_75 : decode cd_Hills_shorten 75 = .ok (.iload_n 3, 1) := by decide +kernel
theorem dc_Hills_shorten_76 : decode cd_Hills_shorten 76 = .ok (.iadd, 1) := by decide +kernel
theorem dc_Hills_shorten_77 : decode cd_Hills_shorten 77 = .ok (.iload 4, 2) := by decide +kernel
theorem dc_Hills_shorten_79 : decode cd_Hills_shorten 79 = .ok (.iload 5, 2) := by decide +kernel
theorem dc_Hills_shorten_81 : decode cd_Hills_shorten 81 = .ok (.iadd, 1) := by decide +kernel
theorem dc_Hills_shorten_82 : decode cd_Hills_shorten 82 = .ok (.iastore, 1) := by decide +kernel
theorem dc_Hills_shorten_83 : decode cd_Hills_shorten 83 = .ok (.return_, 1) := by decide +kernel
theorem dc_Law_clear_0 : decode cd_Law_clear 0 = .ok (.aload_n 0, 1) := by decide +kernel
theorem dc_Law_clear_1 : decode cd_Law_clear 1 = .ok (.iconst 0, 1) := by decide +kernel
theorem dc_Law_clear_2 : decode cd_Law_clear 2 = .ok (.putfield 18, 3) := by decide +kernel
theorem dc_Law_clear_5 : decode cd_Law_clear 5 = .ok (.return_, 1) := by decide +kernel
theorem dc_Law_put_0 : decode cd_Law_put 0 = .ok (.aload_n 0, 1) := by decide +kernel
theorem dc_Law_put_1 : decode cd_Law_put 1 = .ok (.getfield 18, 3) := by decide +kernel
theorem dc_Law_put_4 : decode cd_Law_put 4 = .ok (.aload_n 0, 1) := by decide +kernel
theorem dc_Law_put_5 : decode cd_Law_put 5 = .ok (.getfield 9, 3) := by decide +kernel
theorem dc_Law_put_8 : decode cd_Law_put 8 = .ok (.arraylength, 1) := by decide +kernel
theorem dc_Law_put_9 : decode cd_Law_put 9 = .ok (.if_icmp .ge 23, 3) := by decide +kernel
theorem dc_Law_put_12 : decode cd_Law_put 12 = .ok (.aload_n 0, 1) := by decide +kernel
theorem dc_Law_put_13 : decode cd_Law_put 13 = .ok (.getfield 9, 3) := by decide +kernel
theorem dc_Law_put_16 : decode cd_Law_put 16 = .ok (.aload_n 0, 1) := by decide +kernel
theorem dc_Law_put_17 : decode cd_Law_put 17 = .ok (.getfield 18, 3) := by decide +kernel
theorem dc_Law_put_20 : decode cd_Law_put 20 = .ok (.iload_n 1, 1) := by decide +kernel
theorem dc_Law_put_21 : decode cd_Law_put 21 = .ok (.iastore, 1) := by decide +kernel
theorem dc_Law_put_22 : decode cd_Law_put 22 = .ok (.aload_n 0, 1) := by decide +kernel
theorem dc_Law_put_23 : decode cd_Law_put 23 = .ok (.dup, 1) := by decide +kernel
theorem dc_Law_put_24 : decode cd_Law_put 24 = .ok (.getfield 18, 3) := by decide +kernel
theorem dc_Law_put_27 : decode cd_Law_put 27 = .ok (.iconst 1, 1) := by decide +kernel
theorem dc_Law_put_28 : decode cd_Law_put 28 = .ok (.iadd, 1) := by decide +kernel
theorem dc_Law_put_29 : decode cd_Law_put 29 = .ok (.putfield 18, 3) := by decide +kernel
theorem dc_Law_put_32 : decode cd_Law_put 32 = .ok (.return_, 1) := by decide +kernel
theorem dc_Law_worth_0 : decode cd_Law_worth 0 = .ok (.iload_n 0, 1) := by decide +kernel
theorem dc_Law_worth_1 : decode cd_Law_worth 1 = .ok (.tableswitch 97 (-11) (-6) #[93, 89, 78, 67, 53, 39], 39) := by decide +kernel
theorem dc_Law_worth_40 : decode cd_Law_worth 40 = .ok (.iload_n 1, 1) := by decide +kernel
theorem dc_Law_worth_41 : decode cd_Law_worth 41 = .ok (.ifCond .eq 11, 3) := by decide +kernel
theorem dc_Law_worth_44 : decode cd_Law_worth 44 = .ok (.iload_n 2, 1) := by decide +kernel
theorem dc_Law_worth_45 : decode cd_Law_worth 45 = .ok (.ifCond .eq 7, 3) := by decide +kernel
theorem dc_Law_worth_48 : decode cd_Law_worth 48 = .ok (.iconst 1, 1) := by decide +kernel
theorem dc_Law_worth_49 : decode cd_Law_worth 49 = .ok (.goto 4, 3) := by decide +kernel
theorem dc_Law_worth_52 : decode cd_Law_worth 52 = .ok (.iconst 0, 1) := by decide +kernel
theorem dc_Law_worth_53 : decode cd_Law_worth 53 = .ok (.ireturn, 1) := by decide +kernel
theorem dc_Law_worth_54 : decode cd_Law_worth 54 = .ok (.iload_n 1, 1) := by decide +kernel
theorem dc_Law_worth_55 : decode cd_Law_worth 55 = .ok (.ifCond .ne 7, 3) := by decide +kernel
theorem dc_Law_worth_58 : decode cd_Law_worth 58 = .ok (.iload_n 2, 1) := by decide +kernel
theorem dc_Law_worth_59 : decode cd_Law_worth 59 = .ok (.ifCond .eq 7, 3) := by decide +kernel
theorem dc_Law_worth_62 : decode cd_Law_worth 62 = .ok (.iconst 1, 1) := by decide +kernel
theorem dc_Law_worth_63 : decode cd_Law_worth 63 = .ok (.goto 4, 3) := by decide +kernel
theorem dc_Law_worth_66 : decode cd_Law_worth 66 = .ok (.iconst 0, 1) := by decide +kernel
theorem dc_Law_worth_67 : decode cd_Law_worth 67 = .ok (.ireturn, 1) := by decide +kernel
theorem dc_Law_worth_68 : decode cd_Law_worth 68 = .ok (.iload_n 1, 1) := by decide +kernel
theorem dc_Law_worth_69 : decode cd_Law_worth 69 = .ok (.iload_n 2, 1) := by decide +kernel
theorem dc_Law_worth_70 : decode cd_Law_worth 70 = .ok (.if_icmp .ge 7, 3) := by decide +kernel
theorem dc_Law_worth_73 : decode cd_Law_worth 73 = .ok (.iconst 1, 1) := by decide +kernel
theorem dc_Law_worth_74 : decode cd_Law_worth 74 = .ok (.goto 4, 3) := by decide +kernel
theorem dc_Law_worth_77 : decode cd_Law_worth 77 = .ok (.iconst 0, 1) := by decide +kernel
theorem dc_Law_worth_78 : decode cd_Law_worth 78 = .ok (.ireturn, 1) := by decide +kernel
theorem dc_Law_worth_79 : decode cd_Law_worth 79 = .ok (.iload_n 1, 1) := by decide +kernel
theorem dc_Law_worth_80 : decode cd_Law_worth 80 = .ok (.iload_n 2, 1) := by decide +kernel
theorem dc_Law_worth_81 : decode cd_Law_worth 81 = .ok (.if_icmp .ne 7, 3) := by decide +kernel
theorem dc_Law_worth_84 : decode cd_Law_worth 84 = .ok (.iconst 1, 1) := by decide +kernel
theorem dc_Law_worth_85 : decode cd_Law_worth 85 = .ok (.goto 4, 3) := by decide +kernel
theorem dc_Law_worth_88 : decode cd_Law_worth 88 = .ok (.iconst 0, 1) := by decide +kernel
theorem dc_Law_worth_89 : decode cd_Law_worth 89 = .ok (.ireturn, 1) := by decide +kernel
theorem dc_Law_worth_90 : decode cd_Law_worth 90 = .ok (.iload_n 1, 1) := by decide +kernel
theorem dc_Law_worth_91 : decode cd_Law_worth 91 = .ok (.iload_n 2, 1) := by decide +kernel
theorem dc_Law_worth_92 : decode cd_Law_worth 92 = .ok (.iadd, 1) := by decide +kernel
theorem dc_Law_worth_93 : decode cd_Law_worth 93 = .ok (.ireturn, 1) := by decide +kernel
theorem dc_Law_worth_94 : decode cd_Law_worth 94 = .ok (.iload_n 1, 1) := by decide +kernel
theorem dc_Law_worth_95 : decode cd_Law_worth 95 = .ok (.iload_n 2, 1) := by decide +kernel
theorem dc_Law_worth_96 : decode cd_Law_worth 96 = .ok (.isub, 1) := by decide +kernel
theorem dc_Law_worth_97 : decode cd_Law_worth 97 = .ok (.ireturn, 1) := by decide +kernel
theorem dc_Law_worth_98 : decode cd_Law_worth 98 = .ok (.iload_n 1, 1) := by decide +kernel
theorem dc_Law_worth_99 : decode cd_Law_worth 99 = .ok (.iload_n 2, 1) := by decide +kernel
theorem dc_Law_worth_100 : decode cd_Law_worth 100 = .ok (.imul, 1) := by decide +kernel
theorem dc_Law_worth_101 : decode cd_Law_worth 101 = .ok (.ireturn, 1) := by decide +kernel
theorem dc_Law_push_0 : decode cd_Law_push 0 = .ok (.aload_n 0, 1) := by decide +kernel
theorem dc_Law_push_1 : decode cd_Law_push 1 = .ok (.getfield 89, 3) := by decide +kernel
theorem dc_Law_push_4 : decode cd_Law_push 4 = .ok (.aload_n 0, 1) := by decide +kernel
theorem dc_Law_push_5 : decode cd_Law_push 5 = .ok (.getfield 15, 3) := by decide +kernel
theorem dc_Law_push_8 : decode cd_Law_push 8 = .ok (.arraylength, 1) := by decide +kernel
theorem dc_Law_push_9 : decode cd_Law_push 9 = .ok (.if_icmp .ge 23, 3) := by decide +kernel
theorem dc_Law_push_12 : decode cd_Law_push 12 = .ok (.aload_n 0, 1) := by decide +kernel
theorem dc_Law_push_13 : decode cd_Law_push 13 = .ok (.getfield 15, 3) := by decide +kernel
theorem dc_Law_push_16 : decode cd_Law_push 16 = .ok (.aload_n 0, 1) := by decide +kernel
theorem dc_Law_push_17 : decode cd_Law_push 17 = .ok (.getfield 89, 3) := by decide +kernel
theorem dc_Law_push_20 : decode cd_Law_push 20 = .ok (.iload_n 1, 1) := by decide +kernel
theorem dc_Law_push_21 : decode cd_Law_push 21 = .ok (.iastore, 1) := by decide +kernel
theorem dc_Law_push_22 : decode cd_Law_push 22 = .ok (.aload_n 0, 1) := by decide +kernel
theorem dc_Law_push_23 : decode cd_Law_push 23 = .ok (.dup, 1) := by decide +kernel
theorem dc_Law_push_24 : decode cd_Law_push 24 = .ok (.getfield 89, 3) := by decide +kernel
theorem dc_Law_push_27 : decode cd_Law_push 27 = .ok (.iconst 1, 1) := by decide +kernel
theorem dc_Law_push_28 : decode cd_Law_push 28 = .ok (.iadd, 1) := by decide +kernel
theorem dc_Law_push_29 : decode cd_Law_push 29 = .ok (.putfield 89, 3) := by decide +kernel
theorem dc_Law_push_32 : decode cd_Law_push 32 = .ok (.return_, 1) := by decide +kernel
theorem dc_Law_pop_0 : decode cd_Law_pop 0 = .ok (.aload_n 0, 1) := by decide +kernel
theorem dc_Law_pop_1 : decode cd_Law_pop 1 = .ok (.getfield 89, 3) := by decide +kernel
theorem dc_Law_pop_4 : decode cd_Law_pop 4 = .ok (.ifCond .gt 5, 3) := by decide +kernel
theorem dc_Law_pop_7 : decode cd_Law_pop 7 = .ok (.iconst 0, 1) := by decide +kernel
theorem dc_Law_pop_8 : decode cd_Law_pop 8 = .ok (.ireturn, 1) := by decide +kernel
theorem dc_Law_pop_9 : decode cd_Law_pop 9 = .ok (.aload_n 0, 1) := by decide +kernel
theorem dc_Law_pop_10 : decode cd_Law_pop 10 = .ok (.dup, 1) := by decide +kernel
theorem dc_Law_pop_11 : decode cd_Law_pop 11 = .ok (.getfield 89, 3) := by decide +kernel
theorem dc_Law_pop_14 : decode cd_Law_pop 14 = .ok (.iconst 1, 1) := by decide +kernel
theorem dc_Law_pop_15 : decode cd_Law_pop 15 = .ok (.isub, 1) := by decide +kernel
theorem dc_Law_pop_16 : decode cd_Law_pop 16 = .ok (.putfield 89, 3) := by decide +kernel
theorem dc_Law_pop_19 : decode cd_Law_pop 19 = .ok (.aload_n 0, 1) := by decide +kernel
theorem dc_Law_pop_20 : decode cd_Law_pop 20 = .ok (.getfield 15, 3) := by decide +kernel
theorem dc_Law_pop_23 : decode cd_Law_pop 23 = .ok (.aload_n 0, 1) := by decide +kernel
theorem dc_Law_pop_24 : decode cd_Law_pop 24 = .ok (.getfield 89, 3) := by decide +kernel
theorem dc_Law_pop_27 : decode cd_Law_pop 27 = .ok (.iaload, 1) := by decide +kernel
theorem dc_Law_pop_28 : decode cd_Law_pop 28 = .ok (.ireturn, 1) := by decide +kernel
theorem dc_Lines_copy_0 : decode cd_Lines_copy 0 = .ok (.aload_n 0, 1) := by decide +kernel
theorem dc_Lines_copy_1 : decode cd_Lines_copy 1 = .ok (.aload_n 1, 1) := by decide +kernel
theorem dc_Lines_copy_2 : decode cd_Lines_copy 2 = .ok (.getfield 21, 3) := by decide +kernel
theorem dc_Lines_copy_5 : decode cd_Lines_copy 5 = .ok (.putfield 21, 3) := by decide +kernel
theorem dc_Lines_copy_8 : decode cd_Lines_copy 8 = .ok (.aload_n 1, 1) := by decide +kernel
theorem dc_Lines_copy_9 : decode cd_Lines_copy 9 = .ok (.getfield 9, 3) := by decide +kernel
theorem dc_Lines_copy_12 : decode cd_Lines_copy 12 = .ok (.iconst 0, 1) := by decide +kernel
theorem dc_Lines_copy_13 : decode cd_Lines_copy 13 = .ok (.aload_n 0, 1) := by decide +kernel
theorem dc_Lines_copy_14 : decode cd_Lines_copy 14 = .ok (.getfield 9, 3) := by decide +kernel
theorem dc_Lines_copy_17 : decode cd_Lines_copy 17 = .ok (.iconst 0, 1) := by decide +kernel
theorem dc_Lines_copy_18 : decode cd_Lines_copy 18 = .ok (.bipush 30, 2) := by decide +kernel
theorem dc_Lines_copy_20 : decode cd_Lines_copy 20 = .ok (.invokestatic 25, 3) := by decide +kernel
theorem dc_Lines_copy_23 : decode cd_Lines_copy 23 = .ok (.aload_n 1, 1) := by decide +kernel
theorem dc_Lines_copy_24 : decode cd_Lines_copy 24 = .ok (.getfield 15, 3) := by decide +kernel
theorem dc_Lines_copy_27 : decode cd_Lines_copy 27 = .ok (.iconst 0, 1) := by decide +kernel
theorem dc_Lines_copy_28 : decode cd_Lines_copy 28 = .ok (.aload_n 0, 1) := by decide +kernel
theorem dc_Lines_copy_29 : decode cd_Lines_copy 29 = .ok (.getfield 15, 3) := by decide +kernel
theorem dc_Lines_copy_32 : decode cd_Lines_copy 32 = .ok (.iconst 0, 1) := by decide +kernel
theorem dc_Lines_copy_33 : decode cd_Lines_copy 33 = .ok (.bipush 30, 2) := by decide +kernel
theorem dc_Lines_copy_35 : decode cd_Lines_copy 35 = .ok (.invokestatic 25, 3) := by decide +kernel
theorem dc_Lines_copy_38 : decode cd_Lines_copy 38 = .ok (.aload_n 1, 1) := by decide +kernel
theorem dc_Lines_copy_39 : decode cd_Lines_copy 39 = .ok (.getfield 18, 3) := by decide +kernel
theorem dc_Lines_copy_42 : decode cd_Lines_copy 42 = .ok (.iconst 0, 1) := by decide +kernel
theorem dc_Lines_copy_43 : decode cd_Lines_copy 43 = .ok (.aload_n 0, 1) := by decide +kernel
theorem dc_Lines_copy_44 : decode cd_Lines_copy 44 = .ok (.getfield 18, 3) := by decide +kernel
theorem dc_Lines_copy_47 : decode cd_Lines_copy 47 = .ok (.iconst 0, 1) := by decide +kernel
theorem dc_Lines_copy_48 : decode cd_Lines_copy 48 = .ok (.bipush 30, 2) := by decide +kernel
theorem dc_Lines_copy_50 : decode cd_Lines_copy 50 = .ok (.invokestatic 25, 3) := by decide +kernel
theorem dc_Lines_copy_53 : decode cd_Lines_copy 53 = .ok (.return_, 1) := by decide +kernel
theorem dc_Lines_kindOf_0 : decode cd_Lines_kindOf 0 = .ok (.aload_n 0, 1) := by decide +kernel
theorem dc_Lines_kindOf_1 : decode cd_Lines_kindOf 1 = .ok (.getstatic 90, 3) := by decide +kernel
theorem dc_Lines_kindOf_4 : decode cd_Lines_kindOf 4 = .ok (.if_acmp .ne 5, 3) := by decide +kernel
theorem dc_Lines_kindOf_7 : decode cd_Lines_kindOf 7 = .ok (.iconst 0, 1) := by decide +kernel
theorem dc_Lines_kindOf_8 : decode cd_Lines_kindOf 8 = .ok (.ireturn, 1) := by decide +kernel
theorem dc_Lines_kindOf_9 : decode cd_Lines_kindOf 9 = .ok (.aload_n 0, 1) := by decide +kernel
theorem dc_Lines_kindOf_10 : decode cd_Lines_kindOf 10 = .ok (.getstatic 95, 3) := by decide +kernel
theorem dc_Lines_kindOf_13 : decode cd_Lines_kindOf 13 = .ok (.if_acmp .ne 5, 3) := by decide +kernel
theorem dc_Lines_kindOf_16 : decode cd_Lines_kindOf 16 = .ok (.iconst 1, 1) := by decide +kernel
theorem dc_Lines_kindOf_17 : decode cd_Lines_kindOf 17 = .ok (.ireturn, 1) := by decide +kernel
theorem dc_Lines_kindOf_18 : decode cd_Lines_kindOf 18 = .ok (.aload_n 0, 1) := by decide +kernel
theorem dc_Lines_kindOf_19 : decode cd_Lines_kindOf 19 = .ok (.getstatic 98, 3) := by decide +kernel
theorem dc_Lines_kindOf_22 : decode cd_Lines_kindOf 22 = .ok (.if_acmp .ne 5, 3) := by decide +kernel
theorem dc_Lines_kindOf_25 : decode cd_Lines_kindOf 25 = .ok (.iconst 2, 1) := by decide +kernel
theorem dc_Lines_kindOf_26 : decode cd_Lines_kindOf 26 = .ok (.ireturn, 1) := by decide +kernel
theorem dc_Lines_kindOf_27 : decode cd_Lines_kindOf 27 = .ok (.aload_n 0, 1) := by decide +kernel
theorem dc_Lines_kindOf_28 : decode cd_Lines_kindOf 28 = .ok (.getstatic 101, 3) := by decide +kernel
theorem dc_Lines_kindOf_31 : decode cd_Lines_kindOf 31 = .ok (.if_acmp .ne 5, 3) := by decide +kernel
theorem dc_Lines_kindOf_34 : decode cd_Lines_kindOf 34 = .ok (.iconst 3, 1) := by decide +kernel
theorem dc_Lines_kindOf_35 : decode cd_Lines_kindOf 35 = .ok (.ireturn, 1) := by decide +kernel
theorem dc_Lines_kindOf_36 : decode cd_Lines_kindOf 36 = .ok (.aload_n 0, 1) := by decide +kernel
theorem dc_Lines_kindOf_37 : decode cd_Lines_kindOf 37 = .ok (.getstatic 104, 3) := by decide +kernel
theorem dc_Lines_kindOf_40 : decode cd_Lines_kindOf 40 = .ok (.if_acmp .ne 7, 3) := by decide +kernel
theorem dc_Lines_kindOf_43 : decode cd_Lines_kindOf 43 = .ok (.iconst 4, 1) := by decide +kernel
theorem dc_Lines_kindOf_44 : decode cd_Lines_kindOf 44 = .ok (.goto 4, 3) := by decide +kernel
theorem dc_Lines_kindOf_47 : decode cd_Lines_kindOf 47 = .ok (.iconst (-1), 1) := by decide +kernel
theorem dc_Lines_kindOf_48 : decode cd_Lines_kindOf 48 = .ok (.ireturn, 1) := by decide +kernel
theorem dc_Lines_isDay_0 : decode cd_Lines_isDay 0 = .ok (.aload_n 0, 1) := by decide +kernel
theorem dc_Lines_isDay_1 : decode cd_Lines_isDay 1 = .ok (.getfield 9, 3) := by decide +kernel
theorem dc_Lines_isDay_4 : decode cd_Lines_isDay 4 = .ok (.iload_n 1, 1) := by decide +kernel
theorem dc_Lines_isDay_5 : decode cd_Lines_isDay 5 = .ok (.iaload, 1) := by decide +kernel
theorem dc_Lines_isDay_6 : decode cd_Lines_isDay 6 = .ok (.iconst 4, 1) := by decide +kernel
theorem dc_Lines_isDay_7 : decode cd_Lines_isDay 7 = .ok (.if_icmp .ne 7, 3) := by decide +kernel
theorem dc_Lines_isDay_10 : decode cd_Lines_isDay 10 = .ok (.iconst 1, 1) := by decide +kernel
theorem dc_Lines_isDay_11 : decode cd_Lines_isDay 11 = .ok (.goto 4, 3) := by decide +kernel
theorem dc_Lines_isDay_14 : decode cd_Lines_isDay 14 = .ok (.iconst 0, 1) := by decide +kernel
theorem dc_Lines_isDay_15 : decode cd_Lines_isDay 15 = .ok (.ireturn, 1) := by decide +kernel
theorem dc_Sight_at_0 : decode cd_Sight_at 0 = .ok (.aload_n 0, 1) := by decide +kernel
theorem dc_Sight_at_1 : decode cd_Sight_at 1 = .ok (.getfield 9, 3) := by decide +kernel
theorem dc_Sight_at_4 : decode cd_Sight_at 4 = .ok (.iload_n 1, 1) := by decide +kernel
theorem dc_Sight_at_5 : decode cd_Sight_at 5 = .ok (.sipush 240, 3) := by decide +kernel
theorem dc_Sight_at_8 : decode cd_Sight_at 8 = .ok (.imul, 1) := by decide +kernel
theorem dc_Sight_at_9 : decode cd_Sight_at 9 = .ok (.iload_n 2, 1) := by decide +kernel
theorem dc_Sight_at_10 : decode cd_Sight_at 10 = .ok (.iadd, 1) := by decide +kernel
theorem dc_Sight_at_11 : decode cd_Sight_at 11 = .ok (.iaload, 1) := by decide +kernel
theorem dc_Sight_at_12 : decode cd_Sight_at 12 = .ok (.ireturn, 1) := by decide +kernel
theorem dc_Sight_join_0 : decode cd_Sight_join 0 = .ok (.lload_n 0, 1) := by decide +kernel
theorem dc_Sight_join_1 : decode cd_Sight_join 1 = .ok (.lconst 0, 1) := by decide +kernel
theorem dc_Sight_join_2 : decode cd_Sight_join 2 = .ok (.lcmp, 1) := by decide +kernel
theorem dc_Sight_join_3 : decode cd_Sight_join 3 = .ok (.ifCond .eq 7, 3) := by decide +kernel
theorem dc_Sight_join_6 : decode cd_Sight_join 6 = .ok (.iload_n 2, 1) := by decide +kernel
theorem dc_Sight_join_7 : decode cd_Sight_join 7 = .ok (.ifCond .ne 5, 3) := by decide +kernel
theorem dc_Sight_join_10 : decode cd_Sight_join 10 = .ok (.lload_n 0, 1) := by decide +kernel
theorem dc_Sight_join_11 : decode cd_Sight_join 11 = .ok (.lreturn, 1) := by decide +kernel
theorem dc_Sight_join_12 : decode cd_Sight_join 12 = .ok (.lconst 0, 1) := by decide +kernel
theorem dc_Sight_join_13 : decode cd_Sight_join 13 = .ok (.lstore_n 3, 1) := by decide +kernel
theorem dc_Sight_join_14 : decode cd_Sight_join 14 = .ok (.iconst 0, 1) := by decide +kernel
theorem dc_Sight_join_15 : decode cd_Sight_join 15 = .ok (.istore 5, 2) := by decide +kernel
theorem dc_Sight_join_17 : decode cd_Sight_join 17 = .ok (.iload 5, 2) := by decide +kernel
theorem dc_Sight_join_19 : decode cd_Sight_join 19 = .ok (.bipush 64, 2) := by decide +kernel
theorem dc_Sight_join_21 : decode cd_Sight_join 21 = .ok (.if_icmp .ge 29, 3) := by decide +kernel
theorem dc_Sight_join_24 : decode cd_Sight_join 24 = .ok (.lload_n 0, 1) := by decide +kernel
theorem dc_Sight_join_25 : decode cd_Sight_join 25 = .ok (.iload 5, 2) := by decide +kernel
theorem dc_Sight_join_27 : decode cd_Sight_join 27 = .ok (.lushr, 1) := by decide +kernel
theorem dc_Sight_join_28 : decode cd_Sight_join 28 = .ok (.lconst 1, 1) := by decide +kernel
theorem dc_Sight_join_29 : decode cd_Sight_join 29 = .ok (.land, 1) := by decide +kernel
theorem dc_Sight_join_30 : decode cd_Sight_join 30 = .ok (.lconst 0, 1) := by decide +kernel
theorem dc_Sight_join_31 : decode cd_Sight_join 31 = .ok (.lcmp, 1) := by decide +kernel
theorem dc_Sight_join_32 : decode cd_Sight_join 32 = .ok (.ifCond .eq 12, 3) := by decide +kernel
theorem dc_Sight_join_35 : decode cd_Sight_join 35 = .ok (.lload_n 3, 1) := by decide +kernel
theorem dc_Sight_join_36 : decode cd_Sight_join 36 = .ok (.lconst 1, 1) := by decide +kernel
theorem dc_Sight_join_37 : decode cd_Sight_join 37 = .ok (.iload 5, 2) := by decide +kernel
theorem dc_Sight_join_39 : decode cd_Sight_join 39 = .ok (.iload_n 2, 1) := by decide +kernel
theorem dc_Sight_join_40 : decode cd_Sight_join 40 = .ok (.ior, 1) := by decide +kernel
theorem dc_Sight_join_41 : decode cd_Sight_join 41 = .ok (.lshl, 1) := by decide +kernel
theorem dc_Sight_join_42 : decode cd_Sight_join 42 = .ok (.lor, 1) := by decide +kernel
theorem dc_Sight_join_43 : decode cd_Sight_join 43 = .ok (.lstore_n 3, 1) := by decide +kernel
theorem dc_Sight_join_44 : decode cd_Sight_join 44 = .ok (.iinc 5 1, 3) := by decide +kernel
theorem dc_Sight_join_47 : decode cd_Sight_join 47 = .ok (.goto (-30), 3) := by decide +kernel
theorem dc_Sight_join_50 : decode cd_Sight_join 50 = .ok (.lload_n 3, 1) := by decide +kernel
theorem dc_Sight_join_51 : decode cd_Sight_join 51 = .ok (.lreturn, 1) := by decide +kernel
theorem dc_Sight_spread_0 : decode cd_Sight_spread 0 = .ok (.iconst 0, 1) := by decide +kernel
theorem dc_Sight_spread_1 : decode cd_Sight_spread 1 = .ok (.istore 7, 2) := by decide +kernel
theorem dc_Sight_spread_3 : decode cd_Sight_spread 3 = .ok (.iload 7, 2) := by decide +kernel
theorem dc_Sight_spread_5 : decode cd_Sight_spread 5 = .ok (.aload_n 1, 1) := by decide +kernel
theorem dc_Sight_spread_6 : decode cd_Sight_spread 6 = .ok (.getfield 52, 3) := by decide +kernel
theorem dc_Sight_spread_9 : decode cd_Sight_spread 9 = .ok (.if_icmp .ge 86, 3) := by decide +kernel
theorem dc_Sight_spread_12 : decode cd_Sight_spread 12 = .ok (.aload_n 1, 1) := by decide +kernel
theorem dc_Sight_spread_13 : decode cd_Sight_spread 13 = .ok (.getfield 66, 3) := by decide +kernel
theorem dc_Sight_spread_16 : decode cd_Sight_spread 16 = .ok (.iload_n 3, 1) := by decide +kernel
theorem dc_Sight_spread_17 : decode cd_Sight_spread 17 = .ok (.bipush 6, 2) := by decide +kernel
theorem dc_Sight_spread_19 : decode cd_Sight_spread 19 = .ok (.imul, 1) := by decide +kernel
theorem dc_Sight_spread_20 : decode cd_Sight_spread 20 = .ok (.iload 7, 2) := by decide +kernel
theorem dc_Sight_spread_22 : decode cd_Sight_spread 22 = .ok (.iadd, 1) := by decide +kernel
theorem dc_Sight_spread_23 : decode cd_Sight_spread 23 = .ok (.iaload, 1) := by decide +kernel
theorem dc_Sight_spread_24 : decode cd_Sight_spread 24 = .ok (.istore 8, 2) := by decide +kernel
theorem dc_Sight_spread_26 : decode cd_Sight_spread 26 = .ok (.iload 7, 2) := by decide +kernel
theorem dc_Sight_spread_28 : decode cd_Sight_spread 28 = .ok (.iload_n 3, 1) := by decide +kernel
theorem dc_Sight_spread_29 : decode cd_Sight_spread 29 = .ok (.if_icmp .ne 7, 3) := by decide +kernel
theorem dc_Sight_spread_32 : decode cd_Sight_spread 32 = .ok (.iconst 1, 1) := by decide +kernel
theorem dc_Sight_spread_33 : decode cd_Sight_spread 33 = .ok (.goto 16, 3) := by decide +kernel
theorem dc_Sight_spread_36 : decode cd_Sight_spread 36 = .ok (.iload_n 2, 1) := by decide +kernel
theorem dc_Sight_spread_37 : decode cd_Sight_spread 37 = .ok (.ifCond .eq 10, 3) := by decide +kernel
theorem dc_Sight_spread_40 : decode cd_Sight_spread 40 = .ok (.iconst 2, 1) := by decide +kernel
theorem dc_Sight_spread_41 : decode cd_Sight_spread 41 = .ok (.iload 8, 2) := by decide +kernel
theorem dc_Sight_spread_43 : decode cd_Sight_spread 43 = .ok (.imul, 1) := by decide +kernel
theorem dc_Sight_spread_44 : decode cd_Sight_spread 44 = .ok (.goto 5, 3) := by decide +kernel
theorem dc_Sight_spread_47 : decode cd_Sight_spread 47 = .ok (.iload 8, 2) := by decide +kernel
theorem dc_Sight_spread_49 : decode cd_Sight_spread 49 = .ok (.istore 9, 2) := by decide +kernel
theorem dc_Sight_spread_51 : decode cd_Sight_spread 51 = .ok (.iload 9, 2) := by decide +kernel
theorem dc_Sight_spread_53 : decode cd_Sight_spread 53 = .ok (.ifCond .le 36, 3) := by decide +kernel
theorem dc_Sight_spread_56 : decode cd_Sight_spread 56 = .ok (.iload 4, 2) := by decide +kernel
theorem dc_Sight_spread_58 : decode cd_Sight_spread 58 = .ok (.iload 9, 2) := by decide +kernel
theorem dc_Sight_spread_60 : decode cd_Sight_spread 60 = .ok (.iadd, 1) := by decide +kernel
theorem dc_Sight_spread_61 : decode cd_Sight_spread 61 = .ok (.sipush 240, 3) := by decide +kernel
theorem dc_Sight_spread_64 : decode cd_Sight_spread 64 = .ok (.if_icmp .ge 25, 3) := by decide +kernel
theorem dc_Sight_spread_67 : decode cd_Sight_spread 67 = .ok (.aload_n 0, 1) := by decide +kernel
theorem dc_Sight_spread_68 : decode cd_Sight_spread 68 = .ok (.getfield 15, 3) := by decide +kernel
theorem dc_Sight_spread_71 : decode cd_Sight_spread 71 = .ok (.iload 7, 2) := by decide +kernel
theorem dc_Sight_spread_73 : decode cd_Sight_spread 73 = .ok (.sipush 240, 3) := by decide +kernel
theorem dc_Sight_spread_76 : decode cd_Sight_spread 76 = .ok (.imul, 1) := by decide +kernel
theorem dc_Sight_spread_77 : decode cd_Sight_spread 77 = .ok (.iload 4, 2) := by decide +kernel
theorem dc_Sight_spread_79 : decode cd_Sight_spread 79 = .ok (.iadd, 1) := by decide +kernel
theorem dc_Sight_spread_80 : decode cd_Sight_spread 80 = .ok (.iload 9, 2) := by decide +kernel
theorem dc_Sight_spread_82 : decode cd_Sight_spread 82 = .ok (.iadd, 1) := by decide +kernel
theorem dc_Sight_spread_83 : decode cd_Sight_spread 83 = .ok (.dup2, 1) := by decide +kernel
theorem dc_Sight_spread_84 : decode cd_Sight_spread 84 = .ok (.laload, 1) := by decide +kernel
theorem dc_Sight_spread_85 : decode cd_Sight_spread 85 = .ok (.lload 5, 2) := by decide +kernel
theorem dc_Sight_spread_87 : decode cd_Sight_spread 87 = .ok (.lor, 1) := by decide +kernel
theorem dc_Sight_spread_88 : decode cd_Sight_spread 88 = .ok (.lastore, 1) := by decide +kernel
theorem dc_Sight_spread_89 : decode cd_Sight_spread 89 = .ok (.iinc 7 1, 3) := by decide +kernel
theorem dc_Sight_spread_92 : decode cd_Sight_spread 92 = .ok (.goto (-89), 3) := by decide +kernel
theorem dc_Sight_spread_95 : decode cd_Sight_spread 95 = .ok (.return_, 1) := by decide +kernel
theorem dc_Standing_addSeen_0 : decode cd_Standing_addSeen 0 = .ok (.aload_n 0, 1) := by decide +kernel
theorem dc_Standing_addSeen_1 : decode cd_Standing_addSeen 1 = .ok (.getfield 43, 3) := by decide +kernel
theorem dc_Standing_addSeen_4 : decode cd_Standing_addSeen 4 = .ok (.bipush 8, 2) := by decide +kernel
theorem dc_Standing_addSeen_6 : decode cd_Standing_addSeen 6 = .ok (.if_icmp .lt 5, 3) := by decide +kernel
theorem dc_Standing_addSeen_9 : decode cd_Standing_addSeen 9 = .ok (.iconst 0, 1) := by decide +kernel
theorem dc_Standing_addSeen_10 : decode cd_Standing_addSeen 10 = .ok (.ireturn, 1) := by decide +kernel
theorem dc_Standing_addSeen_11 : decode cd_Standing_addSeen 11 = .ok (.aload_n 0, 1) := by decide +kernel
theorem dc_Standing_addSeen_12 : decode cd_Standing_addSeen 12 = .ok (.getfield 25, 3) := by decide +kernel
theorem dc_Standing_addSeen_15 : decode cd_Standing_addSeen 15 = .ok (.aload_n 0, 1) := by decide +kernel
theorem dc_Standing_addSeen_16 : decode cd_Standing_addSeen 16 = .ok (.getfield 43, 3) := by decide +kernel
theorem dc_Standing_addSeen_19 : decode cd_Standing_addSeen 19 = .ok (.iload_n 1, 1) := by decide +kernel
theorem dc_Standing_addSeen_20 : decode cd_Standing_addSeen 20 = .ok (.iastore, 1) := by decide +kernel
theorem dc_Standing_addSeen_21 : decode cd_Standing_addSeen 21 = .ok (.aload_n 0, 1) := by decide +kernel
theorem dc_Standing_addSeen_22 : decode cd_Standing_addSeen 22 = .ok (.getfield 29, 3) := by decide +kernel
theorem dc_Standing_addSeen_25 : decode cd_Standing_addSeen 25 = .ok (.aload_n 0, 1) := by decide +kernel
theorem dc_Standing_addSeen_26 : decode cd_Standing_addSeen 26 = .ok (.getfield 43, 3) := by decide +kernel
theorem dc_Standing_addSeen_29 : decode cd_Standing_addSeen 29 = .ok (.iload_n 2, 1) := by decide +kernel
theorem dc_Standing_addSeen_30 : decode cd_Standing_addSeen 30 = .ok (.iastore, 1) := by decide +kernel
theorem dc_Standing_addSeen_31 : decode cd_Standing_addSeen 31 = .ok (.aload_n 0, 1) := by decide +kernel
theorem dc_Standing_addSeen_32 : decode cd_Standing_addSeen 32 = .ok (.iload_n 3, 1) := by decide +kernel
theorem dc_Standing_addSeen_33 : decode cd_Standing_addSeen 33 = .ok (.ifCond .eq 17, 3) := by decide +kernel
theorem dc_Standing_addSeen_36 : decode cd_Standing_addSeen 36 = .ok (.aload_n 0, 1) := by decide +kernel
theorem dc_Standing_addSeen_37 : decode cd_Standing_addSeen 37 = .ok (.getfield 65, 3) := by decide +kernel
theorem dc_Standing_addSeen_40 : decode cd_Standing_addSeen 40 = .ok (.iconst 1, 1) := by decide +kernel
theorem dc_Standing_addSeen_41 : decode cd_Standing_addSeen 41 = .ok (.aload_n 0, 1) := by decide +kernel
theorem dc_Standing_addSeen_42 : decode cd_Standing_addSeen 42 = .ok (.getfield 43, 3) := by decide +kernel
theorem dc_Standing_addSeen_45 : decode cd_Standing_addSeen 45 = .ok (.ishl, 1) := by decide +kernel
theorem dc_Standing_addSeen_46 : decode cd_Standing_addSeen 46 = .ok (.ior, 1) := by decide +kernel
theorem dc_Standing_addSeen_47 : decode cd_Standing_addSeen 47 = .ok (.goto 16, 3) := by decide +kernel
theorem dc_Standing_addSeen_50 : decode cd_Standing_addSeen 50 = .ok (.aload_n 0, 1) := by decide +kernel
theorem dc_Standing_addSeen_51 : decode cd_Standing_addSeen 51 = .ok (.getfield 65, 3) := by decide +kernel
theorem dc_Standing_addSeen_54 : decode cd_Standing_addSeen 54 = .ok (.iconst 1, 1) := by decide +kernel
theorem dc_Standing_addSeen_55 : decode cd_Standing_addSeen 55 = .ok (.aload_n 0, 1) := by decide +kernel
theorem dc_Standing_addSeen_56 : decode cd_Standing_addSeen 56 = .ok (.getfield 43, 3) := by decide +kernel
theorem dc_Standing_addSeen_59 : decode cd_Standing_addSeen 59 = .ok (.ishl, 1) := by decide +kernel
theorem dc_Standing_addSeen_60 : decode cd_Standing_addSeen 60 = .ok (.iconst (-1), 1) := by decide +kernel
theorem dc_Standing_addSeen_61 : decode cd_Standing_addSeen 61 = .ok (.ixor, 1) := by decide +kernel
theorem dc_Standing_addSeen_62 : decode cd_Standing_addSeen 62 = .ok (.iand, 1) := by decide +kernel
theorem dc_Standing_addSeen_63 : decode cd_Standing_addSeen 63 = .ok (.putfield 65, 3) := by decide +kernel
theorem dc_Standing_addSeen_66 : decode cd_Standing_addSeen 66 = .ok (.aload_n 0, 1) := by decide +kernel
theorem dc_Standing_addSeen_67 : decode cd_Standing_addSeen 67 = .ok (.dup, 1) := by decide +kernel
theorem dc_Standing_addSeen_68 : decode cd_Standing_addSeen 68 = .ok (.getfield 43, 3) := by decide +kernel
theorem dc_Standing_addSeen_71 : decode cd_Standing_addSeen 71 = .ok (.iconst 1, 1) := by decide +kernel
theorem dc_Standing_addSeen_72 : decode cd_Standing_addSeen 72 = .ok (.iadd, 1) := by decide +kernel
theorem dc_Standing_addSeen_73 : decode cd_Standing_addSeen 73 = .ok (.putfield 43, 3) := by decide +kernel
theorem dc_Standing_addSeen_76 : decode cd_Standing_addSeen 76 = .ok (.iconst 1, 1) := by decide +kernel
theorem dc_Standing_addSeen_77 : decode cd_Standing_addSeen 77 = .ok (.ireturn, 1) := by decide +kernel
theorem dc_Standing_hoursTold_0 : decode cd_Standing_hoursTold 0 = .ok (.iconst 0, 1) := by decide +kernel
theorem dc_Standing_hoursTold_1 : decode cd_Standing_hoursTold 1 = .ok (.istore_n 2, 1) := by decide +kernel
theorem dc_Standing_hoursTold_2 : decode cd_Standing_hoursTold 2 = .ok (.iconst 0, 1) := by decide +kernel
theorem dc_Standing_hoursTold_3 : decode cd_Standing_hoursTold 3 = .ok (.istore_n 3, 1) := by decide +kernel
theorem dc_Standing_hoursTold_4 : decode cd_Standing_hoursTold 4 = .ok (.iload_n 3, 1) := by decide +kernel
theorem dc_Standing_hoursTold_5 : decode cd_Standing_hoursTold 5 = .ok (.aload_n 1, 1) := by decide +kernel
theorem dc_Standing_hoursTold_6 : decode cd_Standing_hoursTold 6 = .ok (.getfield 74, 3) := by decide +kernel
theorem dc_Standing_hoursTold_9 : decode cd_Standing_hoursTold 9 = .ok (.if_icmp .ge 23, 3) := by decide +kernel
theorem dc_Standing_hoursTold_12 : decode cd_Standing_hoursTold 12 = .ok (.aload_n 0, 1) := by decide +kernel
theorem dc_Standing_hoursTold_13 : decode cd_Standing_hoursTold 13 = .ok (.getfield 32, 3) := by decide +kernel
theorem dc_Standing_hoursTold_16 : decode cd_Standing_hoursTold 16 = .ok (.iload_n 3, 1) := by decide +kernel
theorem dc_Standing_hoursTold_17 : decode cd_Standing_hoursTold 17 = .ok (.iaload, 1) := by decide +kernel
theorem dc_Standing_hoursTold_18 : decode cd_Standing_hoursTold 18 = .ok (.bipush (-2), 2) := by decide +kernel
theorem dc_Standing_hoursTold_20 : decode cd_Standing_hoursTold 20 = .ok (.if_icmp .eq 6, 3) := by decide +kernel
theorem dc_Standing_hoursTold_23 : decode cd_Standing_hoursTold 23 = .ok (.iinc 2 1, 3) := by decide +kernel
theorem dc_Standing_hoursTold_26 : decode cd_Standing_hoursTold 26 = .ok (.iinc 3 1, 3) := by decide +kernel
theorem dc_Standing_hoursTold_29 : decode cd_Standing_hoursTold 29 = .ok (.goto (-25), 3) := by decide +kernel
theorem dc_Standing_hoursTold_32 : decode cd_Standing_hoursTold 32 = .ok (.iload_n 2, 1) := by decide +kernel
theorem dc_Standing_hoursTold_33 : decode cd_Standing_hoursTold 33 = .ok (.ireturn, 1) := by decide +kernel
theorem dc_State_copy_0 : decode cd_State_copy 0 = .ok (.aload_n 0, 1) := by decide +kernel
theorem dc_State_copy_1 : decode cd_State_copy 1 = .ok (.aload_n 1, 1) := by decide +kernel
theorem dc_State_copy_2 : decode cd_State_copy 2 = .ok (.getfield 18, 3) := by decide +kernel
theorem dc_State_copy_5 : decode cd_State_copy 5 = .ok (.putfield 18, 3) := by decide +kernel
theorem dc_State_copy_8 : decode cd_State_copy 8 = .ok (.aload_n 0, 1) := by decide +kernel
theorem dc_State_copy_9 : decode cd_State_copy 9 = .ok (.aload_n 1, 1) := by decide +kernel
theorem dc_State_copy_10 : decode cd_State_copy 10 = .ok (.getfield 22, 3) := by decide +kernel
theorem dc_State_copy_13 : decode cd_State_copy 13 = .ok (.putfield 22, 3) := by decide +kernel
theorem dc_State_copy_16 : decode cd_State_copy 16 = .ok (.aload_n 0, 1) := by decide +kernel
theorem dc_State_copy_17 : decode cd_State_copy 17 = .ok (.aload_n 1, 1) := by decide +kernel
theorem dc_State_copy_18 : decode cd_State_copy 18 = .ok (.getfield 30, 3) := by decide +kernel
theorem dc_State_copy_21 : decode cd_State_copy 21 = .ok (.putfield 30, 3) := by decide +kernel
theorem dc_State_copy_24 : decode cd_State_copy 24 = .ok (.aload_n 0, 1) := by decide +kernel
theorem dc_State_copy_25 : decode cd_State_copy 25 = .ok (.aload_n 1, 1) := by decide +kernel
theorem dc_State_copy_26 : decode cd_State_copy 26 = .ok (.getfield 33, 3) := by decide +kernel
theorem dc_State_copy_29 : decode cd_State_copy 29 = .ok (.putfield 33, 3) := by decide +kernel
theorem dc_State_copy_32 : decode cd_State_copy 32 = .ok (.aload_n 1, 1) := by decide +kernel
theorem dc_State_copy_33 : decode cd_State_copy 33 = .ok (.getfield 9, 3) := by decide +kernel
theorem dc_State_copy_36 : decode cd_State_copy 36 = .ok (.iconst 0, 1) := by decide +kernel
theorem dc_State_copy_37 : decode cd_State_copy 37 = .ok (.aload_n 0, 1) := by decide +kernel
theorem dc_State_copy_38 : decode cd_State_copy 38 = .ok (.getfield 9, 3) := by decide +kernel
theorem dc_State_copy_41 : decode cd_State_copy 41 = .ok (.iconst 0, 1) := by decide +kernel
theorem dc_State_copy_42 : decode cd_State_copy 42 = .ok (.bipush 6, 2) := by decide +kernel
theorem dc_State_copy_44 : decode cd_State_copy 44 = .ok (.invokestatic 46, 3) := by decide +kernel
theorem dc_State_copy_47 : decode cd_State_copy 47 = .ok (.aload_n 1, 1) := by decide +kernel
theorem dc_State_copy_48 : decode cd_State_copy 48 = .ok (.getfield 15, 3) := by decide +kernel
theorem dc_State_copy_51 : decode cd_State_copy 51 = .ok (.iconst 0, 1) := by decide +kernel
theorem dc_State_copy_52 : decode cd_State_copy 52 = .ok (.aload_n 0, 1) := by decide +kernel
theorem dc_State_copy_53 : decode cd_State_copy 53 = .ok (.getfield 15, 3) := by decide +kernel
theorem dc_State_copy_56 : decode cd_State_copy 56 = .ok (.iconst 0, 1) := by decide +kernel
theorem dc_State_copy_57 : decode cd_State_copy 57 = .ok (.bipush 6, 2) := by decide +kernel
theorem dc_State_copy_59 : decode cd_State_copy 59 = .ok (.invokestatic 46, 3) := by decide +kernel
theorem dc_State_copy_62 : decode cd_State_copy 62 = .ok (.return_, 1) := by decide +kernel
theorem dc_State_lives_0 : decode cd_State_lives 0 = .ok (.aload_n 0, 1) := by decide +kernel
theorem dc_State_lives_1 : decode cd_State_lives 1 = .ok (.getfield 30, 3) := by decide +kernel
theorem dc_State_lives_4 : decode cd_State_lives 4 = .ok (.iload_n 1, 1) := by decide +kernel
theorem dc_State_lives_5 : decode cd_State_lives 5 = .ok (.ishr, 1) := by decide +kernel
theorem dc_State_lives_6 : decode cd_State_lives 6 = .ok (.iconst 1, 1) := by decide +kernel
theorem dc_State_lives_7 : decode cd_State_lives 7 = .ok (.iand, 1) := by decide +kernel
theorem dc_State_lives_8 : decode cd_State_lives 8 = .ok (.ifCond .eq 7, 3) := by decide +kernel
theorem dc_State_lives_11 : decode cd_State_lives 11 = .ok (.iconst 1, 1) := by decide +kernel
theorem dc_State_lives_12 : decode cd_State_lives 12 = .ok (.goto 4, 3) := by decide +kernel
theorem dc_State_lives_15 : decode cd_State_lives 15 = .ok (.iconst 0, 1) := by decide +kernel
theorem dc_State_lives_16 : decode cd_State_lives 16 = .ok (.ireturn, 1) := by decide +kernel
theorem dc_State_bury_0 : decode cd_State_bury 0 = .ok (.aload_n 0, 1) := by decide +kernel
theorem dc_State_bury_1 : decode cd_State_bury 1 = .ok (.dup, 1) := by decide +kernel
theorem dc_State_bury_2 : decode cd_State_bury 2 = .ok (.getfield 30, 3) := by decide +kernel
theorem dc_State_bury_5 : decode cd_State_bury 5 = .ok (.iconst 1, 1) := by decide +kernel
theorem dc_State_bury_6 : decode cd_State_bury 6 = .ok (.iload_n 1, 1) := by decide +kernel
theorem dc_State_bury_7 : decode cd_State_bury 7 = .ok (.ishl, 1) := by decide +kernel
theorem dc_State_bury_8 : decode cd_State_bury 8 = .ok (.iconst (-1), 1) := by decide +kernel
theorem dc_State_bury_9 : decode cd_State_bury 9 = .ok (.ixor, 1) := by decide +kernel
theorem dc_State_bury_10 : decode cd_State_bury 10 = .ok (.iand, 1) := by decide +kernel
theorem dc_State_bury_11 : decode cd_State_bury 11 = .ok (.putfield 30, 3) := by decide +kernel
theorem dc_State_bury_14 : decode cd_State_bury 14 = .ok (.return_, 1) := by decide +kernel
theorem dc_State_delay_0 : decode cd_State_delay 0 = .ok (.iconst 0, 1) := by decide +kernel
theorem dc_State_delay_1 : decode cd_State_delay 1 = .ok (.istore_n 3, 1) := by decide +kernel
theorem dc_State_delay_2 : decode cd_State_delay 2 = .ok (.iload_n 3, 1) := by decide +kernel
theorem dc_State_delay_3 : decode cd_State_delay 3 = .ok (.bipush 6, 2) := by decide +kernel
theorem dc_State_delay_5 : decode cd_State_delay 5 = .ok (.if_icmp .ge 27, 3) := by decide +kernel
theorem dc_State_delay_8 : decode cd_State_delay 8 = .ok (.iload_n 1, 1) := by decide +kernel
theorem dc_State_delay_9 : decode cd_State_delay 9 = .ok (.iload_n 3, 1) := by decide +kernel
theorem dc_State_delay_10 : decode cd_State_delay 10 = .ok (.ishr, 1) := by decide +kernel
theorem dc_State_delay_11 : decode cd_State_delay 11 = .ok (.iconst 1, 1) := by decide +kernel
theorem dc_State_delay_12 : decode cd_State_delay 12 = .ok (.iand, 1) := by decide +kernel
theorem dc_State_delay_13 : decode cd_State_delay 13 = .ok (.ifCond .eq 13, 3) := by decide +kernel
theorem dc_State_delay_16 : decode cd_State_delay 16 = .ok (.aload_n 0, 1) := by decide +kernel
theorem dc_State_delay_17 : decode cd_State_delay 17 = .ok (.getfield 9, 3) := by decide +kernel
theorem dc_State_delay_20 : decode cd_State_delay 20 = .ok (.iload_n 3, 1) := by decide +kernel
theorem dc_State_delay_21 : decode cd_State_delay 21 = .ok (.dup2, 1) := by decide +kernel
theorem dc_State_delay_22 : decode cd_State_delay 22 = .ok (.iaload, 1) := by decide +kernel
theorem dc_State_delay_23 : decode cd_State_delay 23 = .ok (.iload_n 2, 1) := by decide +kernel
theorem dc_State_delay_24 : decode cd_State_delay 24 = .ok (.iadd, 1) := by decide +kernel
theorem dc_State_delay_25 : decode cd_State_delay 25 = .ok (.iastore, 1) := by decide +kernel
theorem dc_State_delay_26 : decode cd_State_delay 26 = .ok (.iinc 3 1, 3) := by decide +kernel
theorem dc_State_delay_29 : decode cd_State_delay 29 = .ok (.goto (-27), 3) := by decide +kernel
theorem dc_State_delay_32 : decode cd_State_delay 32 = .ok (.return_, 1) := by decide +kernel
theorem dc_Tape_close_0 : decode cd_Tape_close 0 = .ok (.aload_n 0, 1) := by decide +kernel
theorem dc_Tape_close_1 : decode cd_Tape_close 1 = .ok (.iconst 0, 1) := by decide +kernel
theorem dc_Tape_close_2 : decode cd_Tape_close 2 = .ok (.putfield 21, 3) := by decide +kernel
theorem dc_Tape_close_5 : decode cd_Tape_close 5 = .ok (.aload_n 0, 1) := by decide +kernel
theorem dc_Tape_close_6 : decode cd_Tape_close 6 = .ok (.getfield 25, 3) := by decide +kernel
theorem dc_Tape_close_9 : decode cd_Tape_close 9 = .ok (.ireturn, 1) := by decide +kernel
theorem dc_Tape_isEnd_0 : decode cd_Tape_isEnd 0 = .ok (.aload_n 0, 1) := by decide +kernel
theorem dc_Tape_isEnd_1 : decode cd_Tape_isEnd 1 = .ok (.getfield 41, 3) := by decide +kernel
theorem dc_Tape_isEnd_4 : decode cd_Tape_isEnd 4 = .ok (.iconst 1, 1) := by decide +kernel
theorem dc_Tape_isEnd_5 : decode cd_Tape_isEnd 5 = .ok (.if_icmp .ne 7, 3) := by decide +kernel
theorem dc_Tape_isEnd_8 : decode cd_Tape_isEnd 8 = .ok (.iconst 1, 1) := by decide +kernel
theorem dc_Tape_isEnd_9 : decode cd_Tape_isEnd 9 = .ok (.goto 4, 3) := by decide +kernel
theorem dc_Tape_isEnd_12 : decode cd_Tape_isEnd 12 = .ok (.iconst 0, 1) := by decide +kernel
theorem dc_Tape_isEnd_13 : decode cd_Tape_isEnd 13 = .ok (.ireturn, 1) := by decide +kernel
theorem dc_Tape_isNumber_0 : decode cd_Tape_isNumber 0 = .ok (.aload_n 0, 1) := by decide +kernel
theorem dc_Tape_isNumber_1 : decode cd_Tape_isNumber 1 = .ok (.getfield 41, 3) := by decide +kernel
theorem dc_Tape_isNumber_4 : decode cd_Tape_isNumber 4 = .ok (.iconst 3, 1) := by decide +kernel
theorem dc_Tape_isNumber_5 : decode cd_Tape_isNumber 5 = .ok (.if_icmp .ne 7, 3) := by decide +kernel
theorem dc_Tape_isNumber_8 : decode cd_Tape_isNumber 8 = .ok (.iconst 1, 1) := by decide +kernel
theorem dc_Tape_isNumber_9 : decode cd_Tape_isNumber 9 = .ok (.goto 4, 3) := by decide +kernel
theorem dc_Tape_isNumber_12 : decode cd_Tape_isNumber 12 = .ok (.iconst 0, 1) := by decide +kernel
theorem dc_Tape_isNumber_13 : decode cd_Tape_isNumber 13 = .ok (.ireturn, 1) := by decide +kernel
theorem dc_Tape_isSign_0 : decode cd_Tape_isSign 0 = .ok (.aload_n 0, 1) := by decide +kernel
theorem dc_Tape_isSign_1 : decode cd_Tape_isSign 1 = .ok (.getfield 41, 3) := by decide +kernel
theorem dc_Tape_isSign_4 : decode cd_Tape_isSign 4 = .ok (.iconst 4, 1) := by decide +kernel
theorem dc_Tape_isSign_5 : decode cd_Tape_isSign 5 = .ok (.if_icmp .ne 20, 3) := by decide +kernel
theorem dc_Tape_isSign_8 : decode cd_Tape_isSign 8 = .ok (.aload_n 0, 1) := by decide +kernel
theorem dc_Tape_isSign_9 : decode cd_Tape_isSign 9 = .ok (.getfield 9, 3) := by decide +kernel
theorem dc_Tape_isSign_12 : decode cd_Tape_isSign 12 = .ok (.aload_n 0, 1) := by decide +kernel
theorem dc_Tape_isSign_13 : decode cd_Tape_isSign 13 = .ok (.getfield 34, 3) := by decide +kernel
theorem dc_Tape_isSign_16 : decode cd_Tape_isSign 16 = .ok (.caload, 1) := by decide +kernel
theorem dc_Tape_isSign_17 : decode cd_Tape_isSign 17 = .ok (.iload_n 1, 1) := by decide +kernel
theorem dc_Tape_isSign_18 : decode cd_Tape_isSign 18 = .ok (.if_icmp .ne 7, 3) := by decide +kernel
theorem dc_Tape_isSign_21 : decode cd_Tape_isSign 21 = .ok (.iconst 1, 1) := by decide +kernel
theorem dc_Tape_isSign_22 : decode cd_Tape_isSign 22 = .ok (.goto 4, 3) := by decide +kernel
theorem dc_Tape_isSign_25 : decode cd_Tape_isSign 25 = .ok (.iconst 0, 1) := by decide +kernel
theorem dc_Tape_isSign_26 : decode cd_Tape_isSign 26 = .ok (.ireturn, 1) := by decide +kernel
theorem dc_Tape_wrong_0 : decode cd_Tape_wrong 0 = .ok (.aload_n 0, 1) := by decide +kernel
theorem dc_Tape_wrong_1 : decode cd_Tape_wrong 1 = .ok (.iload_n 1, 1) := by decide +kernel
theorem dc_Tape_wrong_2 : decode cd_Tape_wrong 2 = .ok (.bipush 16, 2) := by decide +kernel
theorem dc_Tape_wrong_4 : decode cd_Tape_wrong 4 = .ok (.aload_n 0, 1) := by decide +kernel
theorem dc_Tape_wrong_5 : decode cd_Tape_wrong 5 = .ok (.getfield 34, 3) := by decide +kernel
theorem dc_Tape_wrong_8 : decode cd_Tape_wrong 8 = .ok (.imul, 1) := by decide +kernel
theorem dc_Tape_wrong_9 : decode cd_Tape_wrong 9 = .ok (.iadd, 1) := by decide +kernel
theorem dc_Tape_wrong_10 : decode cd_Tape_wrong 10 = .ok (.putfield 25, 3) := by decide +kernel
theorem dc_Tape_wrong_13 : decode cd_Tape_wrong 13 = .ok (.iconst 0, 1) := by decide +kernel
theorem dc_Tape_wrong_14 : decode cd_Tape_wrong 14 = .ok (.ireturn, 1) := by decide +kernel
theorem dc_Tape_find_0 : decode cd_Tape_find 0 = .ok (.iconst 0, 1) := by decide +kernel
theorem dc_Tape_find_1 : decode cd_Tape_find 1 = .ok (.istore 4, 2) := by decide +kernel
theorem dc_Tape_find_3 : decode cd_Tape_find 3 = .ok (.iload 4, 2) := by decide +kernel
theorem dc_Tape_find_5 : decode cd_Tape_find 5 = .ok (.iload_n 1, 1) := by decide +kernel
theorem dc_Tape_find_6 : decode cd_Tape_find 6 = .ok (.if_icmp .ge 28, 3) := by decide +kernel
theorem dc_Tape_find_9 : decode cd_Tape_find 9 = .ok (.iload 4, 2) := by decide +kernel
theorem dc_Tape_find_11 : decode cd_Tape_find 11 = .ok (.aload_n 0, 1) := by decide +kernel
theorem dc_Tape_find_12 : decode cd_Tape_find 12 = .ok (.arraylength, 1) := by decide +kernel
theorem dc_Tape_find_13 : decode cd_Tape_find 13 = .ok (.if_icmp .ge 21, 3) := by decide +kernel
theorem dc_Tape_find_16 : decode cd_Tape_find 16 = .ok (.aload_n 0, 1) := by decide +kernel
theorem dc_Tape_find_17 : decode cd_Tape_find 17 = .ok (.iload 4, 2) := by decide +kernel
theorem dc_Tape_find_19 : decode cd_Tape_find 19 = .ok (.laload, 1) := by decide +kernel
theorem dc_Tape_find_20 : decode cd_Tape_find 20 = .ok (.lload_n 2, 1) := by decide +kernel
theorem dc_Tape_find_21 : decode cd_Tape_find 21 = .ok (.lcmp, 1) := by decide +kernel
theorem dc_Tape_find_22 : decode cd_Tape_find 22 = .ok (.ifCond .ne 6, 3) := by decide +kernel
theorem dc_Tape_find_25 : decode cd_Tape_find 25 = .ok (.iload 4, 2) := by decide +kernel
theorem dc_Tape_find_27 : decode cd_Tape_find 27 = .ok (.ireturn, 1) := by decide +kernel
theorem dc_Tape_find_28 : decode cd_Tape_find 28 = .ok (.iinc 4 1, 3) := by decide +kernel
theorem dc_Tape_find_31 : decode cd_Tape_find 31 = .ok (.goto (-28), 3) := by decide +kernel
theorem dc_Tape_find_34 : decode cd_Tape_find 34 = .ok (.iconst (-1), 1) := by decide +kernel
theorem dc_Tape_find_35 : decode cd_Tape_find 35 = .ok (.ireturn, 1) := by decide +kernel
theorem dc_Tape_isBlank_0 : decode cd_Tape_isBlank 0 = .ok (.iload_n 0, 1) := by decide +kernel
theorem dc_Tape_isBlank_1 : decode cd_Tape_isBlank 1 = .ok (.bipush 10, 2) := by decide +kernel
theorem dc_Tape_isBlank_3 : decode cd_Tape_isBlank 3 = .ok (.if_icmp .eq 9, 3) := by decide +kernel
theorem dc_Tape_isBlank_6 : decode cd_Tape_isBlank 6 = .ok (.iload_n 0, 1) := by decide +kernel
theorem dc_Tape_isBlank_7 : decode cd_Tape_isBlank 7 = .ok (.bipush 32, 2) := by decide +kernel
theorem dc_Tape_isBlank_9 : decode cd_Tape_isBlank 9 = .ok (.if_icmp .ne 7, 3) := by decide +kernel
theorem dc_Tape_isBlank_12 : decode cd_Tape_isBlank 12 = .ok (.iconst 1, 1) := by decide +kernel
theorem dc_Tape_isBlank_13 : decode cd_Tape_isBlank 13 = .ok (.goto 4, 3) := by decide +kernel
theorem dc_Tape_isBlank_16 : decode cd_Tape_isBlank 16 = .ok (.iconst 0, 1) := by decide +kernel
theorem dc_Tape_isBlank_17 : decode cd_Tape_isBlank 17 = .ok (.ireturn, 1) := by decide +kernel
theorem dc_Tape_isLetter_0 : decode cd_Tape_isLetter 0 = .ok (.iload_n 0, 1) := by decide +kernel
theorem dc_Tape_isLetter_1 : decode cd_Tape_isLetter 1 = .ok (.bipush 97, 2) := by decide +kernel
theorem dc_Tape_isLetter_3 : decode cd_Tape_isLetter 3 = .ok (.if_icmp .lt 13, 3) := by decide +kernel
theorem dc_Tape_isLetter_6 : decode cd_Tape_isLetter 6 = .ok (.iload_n 0, 1) := by decide +kernel
theorem dc_Tape_isLetter_7 : decode cd_Tape_isLetter 7 = .ok (.bipush 122, 2) := by decide +kernel
theorem dc_Tape_isLetter_9 : decode cd_Tape_isLetter 9 = .ok (.if_icmp .gt 7, 3) := by decide +kernel
theorem dc_Tape_isLetter_12 : decode cd_Tape_isLetter 12 = .ok (.iconst 1, 1) := by decide +kernel
theorem dc_Tape_isLetter_13 : decode cd_Tape_isLetter 13 = .ok (.goto 4, 3) := by decide +kernel
theorem dc_Tape_isLetter_16 : decode cd_Tape_isLetter 16 = .ok (.iconst 0, 1) := by decide +kernel
theorem dc_Tape_isLetter_17 : decode cd_Tape_isLetter 17 = .ok (.ireturn, 1) := by decide +kernel
theorem dc_Tape_isDigit_0 : decode cd_Tape_isDigit 0 = .ok (.iload_n 0, 1) := by decide +kernel
theorem dc_Tape_isDigit_1 : decode cd_Tape_isDigit 1 = .ok (.bipush 48, 2) := by decide +kernel
theorem dc_Tape_isDigit_3 : decode cd_Tape_isDigit 3 = .ok (.if_icmp .lt 13, 3) := by decide +kernel
theorem dc_Tape_isDigit_6 : decode cd_Tape_isDigit 6 = .ok (.iload_n 0, 1) := by decide +kernel
theorem dc_Tape_isDigit_7 : decode cd_Tape_isDigit 7 = .ok (.bipush 57, 2) := by decide +kernel
theorem dc_Tape_isDigit_9 : decode cd_Tape_isDigit 9 = .ok (.if_icmp .gt 7, 3) := by decide +kernel
theorem dc_Tape_isDigit_12 : decode cd_Tape_isDigit 12 = .ok (.iconst 1, 1) := by decide +kernel
theorem dc_Tape_isDigit_13 : decode cd_Tape_isDigit 13 = .ok (.goto 4, 3) := by decide +kernel
theorem dc_Tape_isDigit_16 : decode cd_Tape_isDigit 16 = .ok (.iconst 0, 1) := by decide +kernel
theorem dc_Tape_isDigit_17 : decode cd_Tape_isDigit 17 = .ok (.ireturn, 1) := by decide +kernel
theorem dc_Walk_nextMinute_0 : decode cd_Walk_nextMinute 0 = .ok (.ldc 62, 2) := by decide +kernel
theorem dc_Walk_nextMinute_2 : decode cd_Walk_nextMinute 2 = .ok (.istore_n 1, 1) := by decide +kernel
theorem dc_Walk_nextMinute_3 : decode cd_Walk_nextMinute 3 = .ok (.iconst 0, 1) := by decide +kernel
theorem dc_Walk_nextMinute_4 : decode cd_Walk_nextMinute 4 = .ok (.istore_n 2, 1) := by decide +kernel
theorem dc_Walk_nextMinute_5 : decode cd_Walk_nextMinute 5 = .ok (.iload_n 2, 1) := by decide +kernel
theorem dc_Walk_nextMinute_6 : decode cd_Walk_nextMinute 6 = .ok (.aload_n 0, 1) := by decide +kernel
theorem dc_Walk_nextMinute_7 : decode cd_Walk_nextMinute 7 = .ok (.getfield 27, 3) := by decide +kernel
theorem dc_Walk_nextMinute_10 : decode cd_Walk_nextMinute 10 = .ok (.getfield 39, 3) := by decide +kernel
theorem dc_Walk_nextMinute_13 : decode cd_Walk_nextMinute 13 = .ok (.if_icmp .ge 20, 3) := by decide +kernel
theorem dc_Walk_nextMinute_16 : decode cd_Walk_nextMinute 16 = .ok (.iload_n 1, 1) := by decide +kernel
theorem dc_Walk_nextMinute_17 : decode cd_Walk_nextMinute 17 = .ok (.aload_n 0, 1) := by decide +kernel
theorem dc_Walk_nextMinute_18 : decode cd_Walk_nextMinute 18 = .ok (.getfield 24, 3) := by decide +kernel
theorem dc_Walk_nextMinute_21 : decode cd_Walk_nextMinute 21 = .ok (.iload_n 2, 1) := by decide +kernel
theorem dc_Walk_nextMinute_22 : decode cd_Walk_nextMinute 22 = .ok (.iaload, 1) := by decide +kernel
theorem dc_Walk_nextMinute_23 : decode cd_Walk_nextMinute 23 = .ok (.invokestatic 77, 3) := by decide +kernel
theorem dc_Walk_nextMinute_26 : decode cd_Walk_nextMinute 26 = .ok (.istore_n 1, 1) := by decide +kernel
theorem dc_Walk_nextMinute_27 : decode cd_Walk_nextMinute 27 = .ok (.iinc 2 1, 3) := by decide +kernel
theorem dc_Walk_nextMinute_30 : decode cd_Walk_nextMinute 30 = .ok (.goto (-25), 3) := by decide +kernel
theorem dc_Walk_nextMinute_33 : decode cd_Walk_nextMinute 33 = .ok (.iload_n 1, 1) := by decide +kernel
theorem dc_Walk_nextMinute_34 : decode cd_Walk_nextMinute 34 = .ok (.ireturn, 1) := by decide +kernel
theorem dc_Walk_isThere_0 : decode cd_Walk_isThere 0 = .ok (.aload_n 0, 1) := by decide +kernel
theorem dc_Walk_isThere_1 : decode cd_Walk_isThere 1 = .ok (.getfield 35, 3) := by decide +kernel
theorem dc_Walk_isThere_4 : decode cd_Walk_isThere 4 = .ok (.iload_n 1, 1) := by decide +kernel
theorem dc_Walk_isThere_5 : decode cd_Walk_isThere 5 = .ok (.ishr, 1) := by decide +kernel
theorem dc_Walk_isThere_6 : decode cd_Walk_isThere 6 = .ok (.iconst 1, 1) := by decide +kernel
theorem dc_Walk_isThere_7 : decode cd_Walk_isThere 7 = .ok (.iand, 1) := by decide +kernel
theorem dc_Walk_isThere_8 : decode cd_Walk_isThere 8 = .ok (.ifCond .eq 7, 3) := by decide +kernel
theorem dc_Walk_isThere_11 : decode cd_Walk_isThere 11 = .ok (.iconst 1, 1) := by decide +kernel
theorem dc_Walk_isThere_12 : decode cd_Walk_isThere 12 = .ok (.goto 4, 3) := by decide +kernel
theorem dc_Walk_isThere_15 : decode cd_Walk_isThere 15 = .ok (.iconst 0, 1) := by decide +kernel
theorem dc_Walk_isThere_16 : decode cd_Walk_isThere 16 = .ok (.ireturn, 1) := by decide +kernel
theorem dc_Walk_visitOf_0 : decode cd_Walk_visitOf 0 = .ok (.iload_n 1, 1) := by decide +kernel
theorem dc_Walk_visitOf_1 : decode cd_Walk_visitOf 1 = .ok (.iconst 4, 1) := by decide +kernel
theorem dc_Walk_visitOf_2 : decode cd_Walk_visitOf 2 = .ok (.imul, 1) := by decide +kernel
theorem dc_Walk_visitOf_3 : decode cd_Walk_visitOf 3 = .ok (.aload_n 0, 1) := by decide +kernel
theorem dc_Walk_visitOf_4 : decode cd_Walk_visitOf 4 = .ok (.getfield 9, 3) := by decide +kernel
theorem dc_Walk_visitOf_7 : decode cd_Walk_visitOf 7 = .ok (.iload_n 1, 1) := by decide +kernel
theorem dc_Walk_visitOf_8 : decode cd_Walk_visitOf 8 = .ok (.iaload, 1) := by decide +kernel
theorem dc_Walk_visitOf_9 : decode cd_Walk_visitOf 9 = .ok (.iadd, 1) := by decide +kernel
theorem dc_Walk_visitOf_10 : decode cd_Walk_visitOf 10 = .ok (.iconst 1, 1) := by decide +kernel
theorem dc_Walk_visitOf_11 : decode cd_Walk_visitOf 11 = .ok (.isub, 1) := by decide +kernel
theorem dc_Walk_visitOf_12 : decode cd_Walk_visitOf 12 = .ok (.ireturn, 1) := by decide +kernel
theorem dc_Walk_nextWay_0 : decode cd_Walk_nextWay 0 = .ok (.aload_n 0, 1) := by decide +kernel
theorem dc_Walk_nextWay_1 : decode cd_Walk_nextWay 1 = .ok (.getfield 27, 3) := by decide +kernel
theorem dc_Walk_nextWay_4 : decode cd_Walk_nextWay 4 = .ok (.getfield 50, 3) := by decide +kernel
theorem dc_Walk_nextWay_7 : decode cd_Walk_nextWay 7 = .ok (.iload_n 1, 1) := by decide +kernel
theorem dc_Walk_nextWay_8 : decode cd_Walk_nextWay 8 = .ok (.aaload, 1) := by decide +kernel
theorem dc_Walk_nextWay_9 : decode cd_Walk_nextWay 9 = .ok (.astore_n 2, 1) := by decide +kernel
theorem dc_Walk_nextWay_10 : decode cd_Walk_nextWay 10 = .ok (.aload_n 0, 1) := by decide +kernel
theorem dc_Walk_nextWay_11 : decode cd_Walk_nextWay 11 = .ok (.getfield 9, 3) := by decide +kernel
theorem dc_Walk_nextWay_14 : decode cd_Walk_nextWay 14 = .ok (.iload_n 1, 1) := by decide +kernel
theorem dc_Walk_nextWay_15 : decode cd_Walk_nextWay 15 = .ok (.iaload, 1) := by decide +kernel
theorem dc_Walk_nextWay_16 : decode cd_Walk_nextWay 16 = .ok (.istore_n 3, 1) := by decide +kernel
theorem dc_Walk_nextWay_17 : decode cd_Walk_nextWay 17 = .ok (.iload_n 3, 1) := by decide +kernel
theorem dc_Walk_nextWay_18 : decode cd_Walk_nextWay 18 = .ok (.ifCond .le 40, 3) := by decide +kernel
theorem dc_Walk_nextWay_21 : decode cd_Walk_nextWay 21 = .ok (.iload_n 3, 1) := by decide +kernel
theorem dc_Walk_nextWay_22 : decode cd_Walk_nextWay 22 = .ok (.aload_n 2, 1) := by decide +kernel
theorem dc_Walk_nextWay_23 : decode cd_Walk_nextWay 23 = .ok (.getfield 97, 3) := by decide +kernel
theorem dc_Walk_nextWay_26 : decode cd_Walk_nextWay 26 = .ok (.if_icmp .ge 32, 3) := by decide +kernel
theorem dc_Walk_nextWay_29 : decode cd_Walk_nextWay 29 = .ok (.aload_n 0, 1) := by decide +kernel
theorem dc_Walk_nextWay_30 : decode cd_Walk_nextWay 30 = .ok (.getfield 27, 3) := by decide +kernel
theorem dc_Walk_nextWay_33 : decode cd_Walk_nextWay 33 = .ok (.getfield 100, 3) := by decide +kernel
theorem dc_Walk_nextWay_36 : decode cd_Walk_nextWay 36 = .ok (.aload_n 2, 1) := by decide +kernel
theorem dc_Walk_nextWay_37 : decode cd_Walk_nextWay 37 = .ok (.getfield 86, 3) := by decide +kernel
theorem dc_Walk_nextWay_40 : decode cd_Walk_nextWay 40 = .ok (.iload_n 3, 1) := by decide +kernel
theorem dc_Walk_nextWay_41 : decode cd_Walk_nextWay 41 = .ok (.iconst 1, 1) := by decide +kernel
theorem dc_Walk_nextWay_42 : decode cd_Walk_nextWay 42 = .ok (.isub, 1) := by decide +kernel
theorem dc_Walk_nextWay_43 : decode cd_Walk_nextWay 43 = .ok (.iaload, 1) := by decide +kernel
theorem dc_Walk_nextWay_44 : decode cd_Walk_nextWay 44 = .ok (.bipush 6, 2) := by decide +kernel
theorem dc_Walk_nextWay_46 : decode cd_Walk_nextWay 46 = .ok (.imul, 1) := by decide +kernel
theorem dc_Walk_nextWay_47 : decode cd_Walk_nextWay 47 = .ok (.aload_n 2, 1) := by decide +kernel
theorem dc_Walk_nextWay_48 : decode cd_Walk_nextWay 48 = .ok (.getfield 86, 3) := by decide +kernel
theorem dc_Walk_nextWay_51 : decode cd_Walk_nextWay 51 = .ok (.iload_n 3, 1) := by decide +kernel
theorem dc_Walk_nextWay_52 : decode cd_Walk_nextWay 52 = .ok (.iaload, 1) := by decide +kernel
theorem dc_Walk_nextWay_53 : decode cd_Walk_nextWay 53 = .ok (.iadd, 1) := by decide +kernel
theorem dc_Walk_nextWay_54 : decode cd_Walk_nextWay 54 = .ok (.iaload, 1) := by decide +kernel
theorem dc_Walk_nextWay_55 : decode cd_Walk_nextWay 55 = .ok (.goto 4, 3) := by decide +kernel
theorem dc_Walk_nextWay_58 : decode cd_Walk_nextWay 58 = .ok (.iconst (-1), 1) := by decide +kernel
theorem dc_Walk_nextWay_59 : decode cd_Walk_nextWay 59 = .ok (.ireturn, 1) := by decide +kernel
theorem dc_Walk_placeOf_0 : decode cd_Walk_placeOf 0 = .ok (.iload_n 1, 1) := by decide +kernel
theorem dc_Walk_placeOf_1 : decode cd_Walk_placeOf 1 = .ok (.iconst 4, 1) := by decide +kernel
theorem dc_Walk_placeOf_2 : decode cd_Walk_placeOf 2 = .ok (.imul, 1) := by decide +kernel
theorem dc_Walk_placeOf_3 : decode cd_Walk_placeOf 3 = .ok (.istore_n 3, 1) := by decide +kernel
theorem dc_Walk_placeOf_4 : decode cd_Walk_placeOf 4 = .ok (.iload_n 3, 1) := by decide +kernel
theorem dc_Walk_placeOf_5 : decode cd_Walk_placeOf 5 = .ok (.iload_n 1, 1) := by decide +kernel
theorem dc_Walk_placeOf_6 : decode cd_Walk_placeOf 6 = .ok (.iconst 4, 1) := by decide +kernel
theorem dc_Walk_placeOf_7 : decode cd_Walk_placeOf 7 = .ok (.imul, 1) := by decide +kernel
theorem dc_Walk_placeOf_8 : decode cd_Walk_placeOf 8 = .ok (.aload_n 0, 1) := by decide +kernel
theorem dc_Walk_placeOf_9 : decode cd_Walk_placeOf 9 = .ok (.getfield 9, 3) := by decide +kernel
theorem dc_Walk_placeOf_12 : decode cd_Walk_placeOf 12 = .ok (.iload_n 1, 1) := by decide +kernel
theorem dc_Walk_placeOf_13 : decode cd_Walk_placeOf 13 = .ok (.iaload, 1) := by decide +kernel
theorem dc_Walk_placeOf_14 : decode cd_Walk_placeOf 14 = .ok (.iadd, 1) := by decide +kernel
theorem dc_Walk_placeOf_15 : decode cd_Walk_placeOf 15 = .ok (.if_icmp .ge 36, 3) := by decide +kernel
theorem dc_Walk_placeOf_18 : decode cd_Walk_placeOf 18 = .ok (.aload_n 0, 1) := by decide +kernel
theorem dc_Walk_placeOf_19 : decode cd_Walk_placeOf 19 = .ok (.getfield 18, 3) := by decide +kernel
theorem dc_Walk_placeOf_22 : decode cd_Walk_placeOf 22 = .ok (.iload_n 3, 1) := by decide +kernel
theorem dc_Walk_placeOf_23 : decode cd_Walk_placeOf 23 = .ok (.iaload, 1) := by decide +kernel
theorem dc_Walk_placeOf_24 : decode cd_Walk_placeOf 24 = .ok (.iload_n 2, 1) := by decide +kernel
theorem dc_Walk_placeOf_25 : decode cd_Walk_placeOf 25 = .ok (.if_icmp .gt 20, 3) := by decide +kernel
theorem dc_Walk_placeOf_28 : decode cd_Walk_placeOf 28 = .ok (.iload_n 2, 1) := by decide +kernel
theorem dc_Walk_placeOf_29 : decode cd_Walk_placeOf 29 = .ok (.aload_n 0, 1) := by decide +kernel
theorem dc_Walk_placeOf_30 : decode cd_Walk_placeOf 30 = .ok (.getfield 21, 3) := by decide +kernel
theorem dc_Walk_placeOf_33 : decode cd_Walk_placeOf 33 = .ok (.iload_n 3, 1) := by decide +kernel
theorem dc_Walk_placeOf_34 : decode cd_Walk_placeOf 34 = .ok (.iaload, 1) := by decide +kernel
theorem dc_Walk_placeOf_35 : decode cd_Walk_placeOf 35 = .ok (.if_icmp .gt 10, 3) := by decide +kernel
theorem dc_Walk_placeOf_38 : decode cd_Walk_placeOf 38 = .ok (.aload_n 0, 1) := by decide +kernel
theorem dc_Walk_placeOf_39 : decode cd_Walk_placeOf 39 = .ok (.getfield 15, 3) := by decide +kernel
theorem dc_Walk_placeOf_42 : decode cd_Walk_placeOf 42 = .ok (.iload_n 3, 1) := by decide +kernel
theorem dc_Walk_placeOf_43 : decode cd_Walk_placeOf 43 = .ok (.iaload, 1) := by decide +kernel
theorem dc_Walk_placeOf_44 : decode cd_Walk_placeOf 44 = .ok (.ireturn, 1) := by decide +kernel
theorem dc_Walk_placeOf_45 : decode cd_Walk_placeOf 45 = .ok (.iinc 3 1, 3) := by decide +kernel
theorem dc_Walk_placeOf_48 : decode cd_Walk_placeOf 48 = .ok (.goto (-44), 3) := by decide +kernel
theorem dc_Walk_placeOf_51 : decode cd_Walk_placeOf 51 = .ok (.iconst (-1), 1) := by decide +kernel
theorem dc_Walk_placeOf_52 : decode cd_Walk_placeOf 52 = .ok (.ireturn, 1) := by decide +kernel
theorem dc_Walk_firstAt_0 : decode cd_Walk_firstAt 0 = .ok (.iload_n 1, 1) := by decide +kernel
theorem dc_Walk_firstAt_1 : decode cd_Walk_firstAt 1 = .ok (.iconst 4, 1) := by decide +kernel
theorem dc_Walk_firstAt_2 : decode cd_Walk_firstAt 2 = .ok (.imul, 1) := by decide +kernel
theorem dc_Walk_firstAt_3 : decode cd_Walk_firstAt 3 = .ok (.istore_n 3, 1) := by decide +kernel
theorem dc_Walk_firstAt_4 : decode cd_Walk_firstAt 4 = .ok (.iload_n 3, 1) := by decide +kernel
theorem dc_Walk_firstAt_5 : decode cd_Walk_firstAt 5 = .ok (.iload_n 1, 1) := by decide +kernel
theorem dc_Walk_firstAt_6 : decode cd_Walk_firstAt 6 = .ok (.iconst 4, 1) := by decide +kernel
theorem dc_Walk_firstAt_7 : decode cd_Walk_firstAt 7 = .ok (.imul, 1) := by decide +kernel
theorem dc_Walk_firstAt_8 : decode cd_Walk_firstAt 8 = .ok (.aload_n 0, 1) := by decide +kernel
theorem dc_Walk_firstAt_9 : decode cd_Walk_firstAt 9 = .ok (.getfield 9, 3) := by decide +kernel
theorem dc_Walk_firstAt_12 : decode cd_Walk_firstAt 12 = .ok (.iload_n 1, 1) := by decide +kernel
theorem dc_Walk_firstAt_13 : decode cd_Walk_firstAt 13 = .ok (.iaload, 1) := by decide +kernel
theorem dc_Walk_firstAt_14 : decode cd_Walk_firstAt 14 = .ok (.iadd, 1) := by decide +kernel
theorem dc_Walk_firstAt_15 : decode cd_Walk_firstAt 15 = .ok (.if_icmp .ge 26, 3) := by decide +kernel
theorem dc_Walk_firstAt_18 : decode cd_Walk_firstAt 18 = .ok (.aload_n 0, 1) := by decide +kernel
theorem dc_Walk_firstAt_19 : decode cd_Walk_firstAt 19 = .ok (.getfield 15, 3) := by decide +kernel
theorem dc_Walk_firstAt_22 : decode cd_Walk_firstAt 22 = .ok (.iload_n 3, 1) := by decide +kernel
theorem dc_Walk_firstAt_23 : decode cd_Walk_firstAt 23 = .ok (.iaload, 1) := by decide +kernel
theorem dc_Walk_firstAt_24 : decode cd_Walk_firstAt 24 = .ok (.iload_n 2, 1) := by decide +kernel
theorem dc_Walk_firstAt_25 : decode cd_Walk_firstAt 25 = .ok (.if_icmp .ne 10, 3) := by decide +kernel
theorem dc_Walk_firstAt_28 : decode cd_Walk_firstAt 28 = .ok (.aload_n 0, 1) := by decide +kernel
theorem dc_Walk_firstAt_29 : decode cd_Walk_firstAt 29 = .ok (.getfield 18, 3) := by decide +kernel
theorem dc_Walk_firstAt_32 : decode cd_Walk_firstAt 32 = .ok (.iload_n 3, 1) := by decide +kernel
theorem dc_Walk_firstAt_33 : decode cd_Walk_firstAt 33 = .ok (.iaload, 1) := by decide +kernel
theorem dc_Walk_firstAt_34 : decode cd_Walk_firstAt 34 = .ok (.ireturn, 1) := by decide +kernel
theorem dc_Walk_firstAt_35 : decode cd_Walk_firstAt 35 = .ok (.iinc 3 1, 3) := by decide +kernel
theorem dc_Walk_firstAt_38 : decode cd_Walk_firstAt 38 = .ok (.goto (-34), 3) := by decide +kernel
theorem dc_Walk_firstAt_41 : decode cd_Walk_firstAt 41 = .ok (.iconst (-1), 1) := by decide +kernel
theorem dc_Walk_firstAt_42 : decode cd_Walk_firstAt 42 = .ok (.ireturn, 1) := by decide +kernel
theorem dc_Walk_firstMeetingAt_0 : decode cd_Walk_firstMeetingAt 0 = .ok (.iconst (-1), 1) := by decide +kernel
theorem dc_Walk_firstMeetingAt_1 : decode cd_Walk_firstMeetingAt 1 = .ok (.istore 4, 2) := by decide +kernel
theorem dc_Walk_firstMeetingAt_3 : decode cd_Walk_firstMeetingAt 3 = .ok (.iload_n 1, 1) := by decide +kernel
theorem dc_Walk_firstMeetingAt_4 : decode cd_Walk_firstMeetingAt 4 = .ok (.iconst 4, 1) := by decide +kernel
theorem dc_Walk_firstMeetingAt_5 : decode cd_Walk_firstMeetingAt 5 = .ok (.imul, 1) := by decide +kernel
theorem dc_Walk_firstMeetingAt_6 : decode cd_Walk_firstMeetingAt 6 = .ok (.istore 5, 2) := by decide +kernel
theorem dc_Walk_firstMeetingAt_8 : decode cd_Walk_firstMeetingAt 8 = .ok (.iload 5, 2) := by decide +kernel
theorem dc_Walk_firstMeetingAt_10 : decode cd_Walk_firstMeetingAt 10 = .ok (.iload_n 1, 1) := by decide +kernel
theorem dc_Walk_firstMeetingAt_11 : decode cd_Walk_firstMeetingAt 11 = .ok (.iconst 4, 1) := by decide +kernel
theorem dc_Walk_firstMeetingAt_12 : decode cd_Walk_firstMeetingAt 12 = .ok (.imul, 1) := by decide +kernel
theorem dc_Walk_firstMeetingAt_13 : decode cd_Walk_firstMeetingAt 13 = .ok (.aload_n 0, 1) := by decide +kernel
theorem dc_Walk_firstMeetingAt_14 : decode cd_Walk_firstMeetingAt 14 = .ok (.getfield 9, 3) := by decide +kernel
theorem dc_Walk_firstMeetingAt_17 : decode cd_Walk_firstMeetingAt 17 = .ok (.iload_n 1, 1) := by decide +kernel
theorem dc_Walk_firstMeetingAt_18 : decode cd_Walk_firstMeetingAt 18 = .ok (.iaload, 1) := by decide +kernel
theorem dc_Walk_firstMeetingAt_19 : decode cd_Walk_firstMeetingAt 19 = .ok (.iadd, 1) := by decide +kernel
theorem dc_Walk_firstMeetingAt_20 : decode cd_Walk_firstMeetingAt 20 = .ok (.if_icmp .ge 127, 3) := by decide +kernel
theorem dc_Walk_firstMeetingAt_23 : decode cd_Walk_firstMeetingAt 23 = .ok (.iload_n 2, 1) := by decide +kernel
theorem dc_Walk_firstMeetingAt_24 : decode cd_Walk_firstMeetingAt 24 = .ok (.iconst 4, 1) := by decide +kernel
theorem dc_Walk_firstMeetingAt_25 : decode cd_Walk_firstMeetingAt 25 = .ok (.imul, 1) := by decide +kernel
theorem dc_Walk_firstMeetingAt_26 : decode cd_Walk_firstMeetingAt 26 = .ok (.istore 6, 2) := by decide +kernel
theorem dc_Walk_firstMeetingAt_28 : decode cd_Walk_firstMeetingAt 28 = .ok (.iload 6, 2) := by decide +kernel
theorem dc_Walk_firstMeetingAt_30 : decode cd_Walk_firstMeetingAt 30 = .ok (.iload_n 2, 1) := by decide +kernel
theorem dc_Walk_firstMeetingAt_31 : decode cd_Walk_firstMeetingAt 31 = .ok (.iconst 4, 1) := by decide +kernel
theorem dc_Walk_firstMeetingAt_32 : decode cd_Walk_firstMeetingAt 32 = .ok (.imul, 1) := by decide +kernel
theorem dc_Walk_firstMeetingAt_33 : decode cd_Walk_firstMeetingAt 33 = .ok (.aload_n 0, 1) := by decide +kernel
theorem dc_Walk_firstMeetingAt_34 : decode cd_Walk_firstMeetingAt 34 = .ok (.getfield 9, 3) := by decide +kernel
theorem dc_Walk_firstMeetingAt_37 : decode cd_Walk_firstMeetingAt 37 = .ok (.iload_n 2, 1) := by decide +kernel
theorem dc_Walk_firstMeetingAt_38 : decode cd_Walk_firstMeetingAt 38 = .ok (.iaload, 1) := by decide +kernel
theorem dc_Walk_firstMeetingAt_39 : decode cd_Walk_firstMeetingAt 39 = .ok (.iadd, 1) := by decide +kernel
theorem dc_Walk_firstMeetingAt_40 : decode cd_Walk_firstMeetingAt 40 = .ok (.if_icmp .ge 101, 3) := by decide +kernel
theorem dc_Walk_firstMeetingAt_43 : decode cd_Walk_firstMeetingAt 43 = .ok (.aload_n 0, 1) := by decide +kernel
theorem dc_Walk_firstMeetingAt_44 : decode cd_Walk_firstMeetingAt 44 = .ok (.getfield 18, 3) := by decide +kernel
theorem dc_Walk_firstMeetingAt_47 : decode cd_Walk_firstMeetingAt 47 = .ok (.iload 5, 2) := by decide +kernel
theorem dc_Walk_firstMeetingAt_49 : decode cd_Walk_firstMeetingAt 49 = .ok (.iaload, 1) := by decide +kernel
theorem dc_Walk_firstMeetingAt_50 : decode cd_Walk_firstMeetingAt 50 = .ok (.aload_n 0, 1) := by decide +kernel
theorem dc_Walk_firstMeetingAt_51 : decode cd_Walk_firstMeetingAt 51 = .ok (.getfield 18, 3) := by decide +kernel
theorem dc_Walk_firstMeetingAt_54 : decode cd_Walk_firstMeetingAt 54 = .ok (.iload 6, 2) := by decide +kernel
theorem dc_Walk_firstMeetingAt_56 : decode cd_Walk_firstMeetingAt 56 = .ok (.iaload, 1) := by decide +kernel
theorem dc_Walk_firstMeetingAt_57 : decode cd_Walk_firstMeetingAt 57 = .ok (.invokestatic 112, 3) := by decide +kernel
theorem dc_Walk_firstMeetingAt_60 : decode cd_Walk_firstMeetingAt 60 = .ok (.istore 7, 2) := by decide +kernel
theorem dc_Walk_firstMeetingAt_62 : decode cd_Walk_firstMeetingAt 62 = .ok (.aload_n 0, 1) := by decide +kernel
theorem dc_Walk_firstMeetingAt_63 : decode cd_Walk_firstMeetingAt 63 = .ok (.getfield 15, 3) := by decide +kernel
theorem dc_Walk_firstMeetingAt_66 : decode cd_Walk_firstMeetingAt 66 = .ok (.iload 5, 2) := by decide +kernel
theorem dc_Walk_firstMeetingAt_68 : decode cd_Walk_firstMeetingAt 68 = .ok (.iaload, 1) := by decide +kernel
theorem dc_Walk_firstMeetingAt_69 : decode cd_Walk_firstMeetingAt 69 = .ok (.iload_n 3, 1) := by decide +kernel
theorem dc_Walk_firstMeetingAt_70 : decode cd_Walk_firstMeetingAt 70 = .ok (.if_icmp .ne 40, 3) := by decide +kernel
theorem dc_Walk_firstMeetingAt_73 : decode cd_Walk_firstMeetingAt 73 = .ok (.aload_n 0, 1) := by decide +kernel
theorem dc_Walk_firstMeetingAt_74 : decode cd_Walk_firstMeetingAt 74 = .ok (.getfield 15, 3) := by decide +kernel
theorem dc_Walk_firstMeetingAt_77 : decode cd_Walk_firstMeetingAt 77 = .ok (.iload 6, 2) := by decide +kernel
theorem dc_Walk_firstMeetingAt_79 : decode cd_Walk_firstMeetingAt 79 = .ok (.iaload, 1) := by decide +kernel
theorem dc_Walk_firstMeetingAt_80 : decode cd_Walk_firstMeetingAt 80 = .ok (.iload_n 3, 1) := by decide +kernel
theorem dc_Walk_firstMeetingAt_81 : decode cd_Walk_firstMeetingAt 81 = .ok (.if_icmp .ne 29, 3) := by decide +kernel
theorem dc_Walk_firstMeetingAt_84 : decode cd_Walk_firstMeetingAt 84 = .ok (.iload 7, 2) := by decide +kernel
theorem dc_Walk_firstMeetingAt_86 : decode cd_Walk_firstMeetingAt 86 = .ok (.aload_n 0, 1) := by decide +kernel
theorem dc_Walk_firstMeetingAt_87 : decode cd_Walk_firstMeetingAt 87 = .ok (.getfield 21, 3) := by decide +kernel
theorem dc_Walk_firstMeetingAt_90 : decode cd_Walk_firstMeetingAt 90 = .ok (.iload 5, 2) := by decide +kernel
theorem dc_Walk_firstMeetingAt_92 : decode cd_Walk_firstMeetingAt 92 = .ok (.iaload, 1) := by decide +kernel
theorem dc_Walk_firstMeetingAt_93 : decode cd_Walk_firstMeetingAt 93 = .ok (.aload_n 0, 1) := by decide +kernel
theorem dc_Walk_firstMeetingAt_94 : decode cd_Walk_firstMeetingAt 94 = .ok (.getfield 21, 3) := by decide +kernel
theorem dc_Walk_firstMeetingAt_97 : decode cd_Walk_firstMeetingAt 97 = .ok (.iload 6, 2) := by decide +kernel
theorem dc_Walk_firstMeetingAt_99 : decode cd_Walk_firstMeetingAt 99 = .ok (.iaload, 1) := by decide +kernel
theorem dc_Walk_firstMeetingAt_100 : decode cd_Walk_firstMeetingAt 100 = .ok (.invokestatic 77, 3) := by decide +kernel
theorem dc_Walk_firstMeetingAt_103 : decode cd_Walk_firstMeetingAt 103 = .ok (.if_icmp .gt 7, 3) := by decide +kernel
theorem dc_Walk_firstMeetingAt_106 : decode cd_Walk_firstMeetingAt 106 = .ok (.iconst 1, 1) := by decide +kernel
theorem dc_Walk_firstMeetingAt_107 : decode cd_Walk_firstMeetingAt 107 = .ok (.goto 4, 3) := by decide +kernel
theorem dc_Walk_firstMeetingAt_110 : decode cd_Walk_firstMeetingAt 110 = .ok (.iconst 0, 1) := by decide +kernel
theorem dc_Walk_firstMeetingAt_111 : decode cd_Walk_firstMeetingAt 111 = .ok (.istore 8, 2) := by decide +kernel
theorem dc_Walk_firstMeetingAt_113 : decode cd_Walk_firstMeetingAt 113 = .ok (.iload 8, 2) := by decide +kernel
theorem dc_Walk_firstMeetingAt_115 : decode cd_Walk_firstMeetingAt 115 = .ok (.ifCond .eq 20, 3) := by decide +kernel
theorem dc_Walk_firstMeetingAt_118 : decode cd_Walk_firstMeetingAt 118 = .ok (.iload 4, 2) := by decide +kernel
theorem dc_Walk_firstMeetingAt_120 : decode cd_Walk_firstMeetingAt 120 = .ok (.iconst (-1), 1) := by decide +kernel
theorem dc_Walk_firstMeetingAt_121 : decode cd_Walk_firstMeetingAt 121 = .ok (.if_icmp .eq 10, 3) := by decide +kernel
theorem dc_Walk_firstMeetingAt_124 : decode cd_Walk_firstMeetingAt 124 = .ok (.iload 7, 2) := by decide +kernel
theorem dc_Walk_firstMeetingAt_126 : decode cd_Walk_firstMeetingAt 126 = .ok (.iload 4, 2) := by decide +kernel
theorem dc_Walk_firstMeetingAt_128 : decode cd_Walk_firstMeetingAt 128 = .ok (.if_icmp .ge 7, 3) := by decide +kernel
theorem dc_Walk_firstMeetingAt_131 : decode cd_Walk_firstMeetingAt 131 = .ok (.iload 7, 2) := by decide +kernel
theorem dc_Walk_firstMeetingAt_133 : decode cd_Walk_firstMeetingAt 133 = .ok (.istore 4, 2) := by decide +kernel
theorem dc_Walk_firstMeetingAt_135 : decode cd_Walk_firstMeetingAt 135 = .ok (.iinc 6 1, 3) := by decide +kernel
theorem dc_Walk_firstMeetingAt_138 : decode cd_Walk_firstMeetingAt 138 = .ok (.goto (-110), 3) := by decide +kernel
theorem dc_Walk_firstMeetingAt_141 : decode cd_Walk_firstMeetingAt 141 = .ok (.iinc 5 1, 3) := by decide +kernel
theorem dc_Walk_firstMeetingAt_144 : decode cd_Walk_firstMeetingAt 144 = .ok (.goto (-136), 3) := by decide +kernel
theorem dc_Walk_firstMeetingAt_147 : decode cd_Walk_firstMeetingAt 147 = .ok (.iload 4, 2) := by decide +kernel
theorem dc_Walk_firstMeetingAt_149 : decode cd_Walk_firstMeetingAt 149 = .ok (.ireturn, 1) := by decide +kernel
theorem dc_Walker_passes_0 : decode cd_Walker_passes 0 = .ok (.iconst 0, 1) := by decide +kernel
theorem dc_Walker_passes_1 : decode cd_Walker_passes 1 = .ok (.istore_n 2, 1) := by decide +kernel
theorem dc_Walker_passes_2 : decode cd_Walker_passes 2 = .ok (.iload_n 2, 1) := by decide +kernel
theorem dc_Walker_passes_3 : decode cd_Walker_passes 3 = .ok (.aload_n 0, 1) := by decide +kernel
theorem dc_Walker_passes_4 : decode cd_Walker_passes 4 = .ok (.getfield 21, 3) := by decide +kernel
theorem dc_Walker_passes_7 : decode cd_Walker_passes 7 = .ok (.if_icmp .ge 21, 3) := by decide +kernel
theorem dc_Walker_passes_10 : decode cd_Walker_passes 10 = .ok (.aload_n 0, 1) := by decide +kernel
theorem dc_Walker_passes_11 : decode cd_Walker_passes 11 = .ok (.getfield 9, 3) := by decide +kernel
theorem dc_Walker_passes_14 : decode cd_Walker_passes 14 = .ok (.iload_n 2, 1) := by decide +kernel
theorem dc_Walker_passes_15 : decode cd_Walker_passes 15 = .ok (.iaload, 1) := by decide +kernel
theorem dc_Walker_passes_16 : decode cd_Walker_passes 16 = .ok (.iload_n 1, 1) := by decide +kernel
theorem dc_Walker_passes_17 : decode cd_Walker_passes 17 = .ok (.if_icmp .ne 5, 3) := by decide +kernel
theorem dc_Walker_passes_20 : decode cd_Walker_passes 20 = .ok (.iconst 1, 1) := by decide +kernel
theorem dc_Walker_passes_21 : decode cd_Walker_passes 21 = .ok (.ireturn, 1) := by decide +kernel
theorem dc_Walker_passes_22 : decode cd_Walker_passes 22 = .ok (.iinc 2 1, 3) := by decide +kernel
theorem dc_Walker_passes_25 : decode cd_Walker_passes 25 = .ok (.goto (-23), 3) := by decide +kernel
theorem dc_Walker_passes_28 : decode cd_Walker_passes 28 = .ok (.iconst 0, 1) := by decide +kernel
theorem dc_Walker_passes_29 : decode cd_Walker_passes 29 = .ok (.ireturn, 1) := by decide +kernel
theorem dc_Walker_rest_0 : decode cd_Walker_rest 0 = .ok (.aload_n 0, 1) := by decide +kernel
theorem dc_Walker_rest_1 : decode cd_Walker_rest 1 = .ok (.getfield 31, 3) := by decide +kernel
theorem dc_Walker_rest_4 : decode cd_Walker_rest 4 = .ok (.iconst 2, 1) := by decide +kernel
theorem dc_Walker_rest_5 : decode cd_Walker_rest 5 = .ok (.if_icmp .ne 12, 3) := by decide +kernel
theorem dc_Walker_rest_8 : decode cd_Walker_rest 8 = .ok (.iconst 2, 1) := by decide +kernel
theorem dc_Walker_rest_9 : decode cd_Walker_rest 9 = .ok (.aload_n 0, 1) := by decide +kernel
theorem dc_Walker_rest_10 : decode cd_Walker_rest 10 = .ok (.getfield 34, 3) := by decide +kernel
theorem dc_Walker_rest_13 : decode cd_Walker_rest 13 = .ok (.imul, 1) := by decide +kernel
theorem dc_Walker_rest_14 : decode cd_Walker_rest 14 = .ok (.goto 7, 3) := by decide +kernel
theorem dc_Walker_rest_17 : decode cd_Walker_rest 17 = .ok (.aload_n 0, 1) := by decide +kernel
theorem dc_Walker_rest_18 : decode cd_Walker_rest 18 = .ok (.getfield 34, 3) := by decide +kernel
theorem dc_Walker_rest_21 : decode cd_Walker_rest 21 = .ok (.ireturn, 1) := by decide +kernel
theorem dc_Walker_minutesFor_0 : decode cd_Walker_minutesFor 0 = .ok (.iload_n 1, 1) := by decide +kernel
theorem dc_Walker_minutesFor_1 : decode cd_Walker_minutesFor 1 = .ok (.aload_n 0, 1) := by decide +kernel
theorem dc_Walker_minutesFor_2 : decode cd_Walker_minutesFor 2 = .ok (.getfield 31, 3) := by decide +kernel
theorem dc_Walker_minutesFor_5 : decode cd_Walker_minutesFor 5 = .ok (.iconst 1, 1) := by decide +kernel
theorem dc_Walker_minutesFor_6 : decode cd_Walker_minutesFor 6 = .ok (.if_icmp .ne 12, 3) := by decide +kernel
theorem dc_Walker_minutesFor_9 : decode cd_Walker_minutesFor 9 = .ok (.aload_n 0, 1) := by decide +kernel
theorem dc_Walker_minutesFor_10 : decode cd_Walker_minutesFor 10 = .ok (.getfield 37, 3) := by decide +kernel
theorem dc_Walker_minutesFor_13 : decode cd_Walker_minutesFor 13 = .ok (.iconst 1, 1) := by decide +kernel
theorem dc_Walker_minutesFor_14 : decode cd_Walker_minutesFor 14 = .ok (.iadd, 1) := by decide +kernel
theorem dc_Walker_minutesFor_15 : decode cd_Walker_minutesFor 15 = .ok (.goto 7, 3) := by decide +kernel
theorem dc_Walker_minutesFor_18 : decode cd_Walker_minutesFor 18 = .ok (.aload_n 0, 1) := by decide +kernel
theorem dc_Walker_minutesFor_19 : decode cd_Walker_minutesFor 19 = .ok (.getfield 37, 3) := by decide +kernel
theorem dc_Walker_minutesFor_22 : decode cd_Walker_minutesFor 22 = .ok (.imul, 1) := by decide +kernel
theorem dc_Walker_minutesFor_23 : decode cd_Walker_minutesFor 23 = .ok (.istore_n 3, 1) := by decide +kernel
theorem dc_Walker_minutesFor_24 : decode cd_Walker_minutesFor 24 = .ok (.iload_n 2, 1) := by decide +kernel
theorem dc_Walker_minutesFor_25 : decode cd_Walker_minutesFor 25 = .ok (.ifCond .eq 17, 3) := by decide +kernel
theorem dc_Walker_minutesFor_28 : decode cd_Walker_minutesFor 28 = .ok (.aload_n 0, 1) := by decide +kernel
theorem dc_Walker_minutesFor_29 : decode cd_Walker_minutesFor 29 = .ok (.getfield 31, 3) := by decide +kernel
theorem dc_Walker_minutesFor_32 : decode cd_Walker_minutesFor 32 = .ok (.iconst 3, 1) := by decide +kernel
theorem dc_Walker_minutesFor_33 : decode cd_Walker_minutesFor 33 = .ok (.if_icmp .eq 9, 3) := by decide +kernel
theorem dc_Walker_minutesFor_36 : decode cd_Walker_minutesFor 36 = .ok (.iconst 2, 1) := by decide +kernel
theorem dc_Walker_minutesFor_37 : decode cd_Walker_minutesFor 37 = .ok (.iload_n 3, 1) := by decide +kernel
theorem dc_Walker_minutesFor_38 : decode cd_Walker_minutesFor 38 = .ok (.imul, 1) := by decide +kernel
theorem dc_Walker_minutesFor_39 : decode cd_Walker_minutesFor 39 = .ok (.goto 4, 3) := by decide +kernel
theorem dc_Walker_minutesFor_42 : decode cd_Walker_minutesFor 42 = .ok (.iload_n 3, 1) := by decide +kernel
theorem dc_Walker_minutesFor_43 : decode cd_Walker_minutesFor 43 = .ok (.ireturn, 1) := by decide +kernel
theorem dc_Word_isFact_0 : decode cd_Word_isFact 0 = .ok (.aload_n 0, 1) := by decide +kernel
theorem dc_Word_isFact_1 : decode cd_Word_isFact 1 = .ok (.getstatic 82, 3) := by decide +kernel
theorem dc_Word_isFact_4 : decode cd_Word_isFact 4 = .ok (.if_acmp .eq 17, 3) := by decide +kernel
theorem dc_Word_isFact_7 : decode cd_Word_isFact 7 = .ok (.aload_n 0, 1) := by decide +kernel
theorem dc_Word_isFact_8 : decode cd_Word_isFact 8 = .ok (.getstatic 85, 3) := by decide +kernel
theorem dc_Word_isFact_11 : decode cd_Word_isFact 11 = .ok (.if_acmp .eq 10, 3) := by decide +kernel
theorem dc_Word_isFact_14 : decode cd_Word_isFact 14 = .ok (.aload_n 0, 1) := by decide +kernel
theorem dc_Word_isFact_15 : decode cd_Word_isFact 15 = .ok (.getstatic 88, 3) := by decide +kernel
theorem dc_Word_isFact_18 : decode cd_Word_isFact 18 = .ok (.if_acmp .ne 7, 3) := by decide +kernel
theorem dc_Word_isFact_21 : decode cd_Word_isFact 21 = .ok (.iconst 1, 1) := by decide +kernel
theorem dc_Word_isFact_22 : decode cd_Word_isFact 22 = .ok (.goto 4, 3) := by decide +kernel
theorem dc_Word_isFact_25 : decode cd_Word_isFact 25 = .ok (.iconst 0, 1) := by decide +kernel
theorem dc_Word_isFact_26 : decode cd_Word_isFact 26 = .ok (.ireturn, 1) := by decide +kernel
theorem dc_Arrays_fillI_0 : decode cd_Arrays_fillI 0 = .ok (.iconst 0, 1) := by decide +kernel
theorem dc_Arrays_fillI_1 : decode cd_Arrays_fillI 1 = .ok (.istore_n 2, 1) := by decide +kernel
theorem dc_Arrays_fillI_2 : decode cd_Arrays_fillI 2 = .ok (.aload_n 0, 1) := by decide +kernel
theorem dc_Arrays_fillI_3 : decode cd_Arrays_fillI 3 = .ok (.arraylength, 1) := by decide +kernel
theorem dc_Arrays_fillI_4 : decode cd_Arrays_fillI 4 = .ok (.istore_n 3, 1) := by decide +kernel
theorem dc_Arrays_fillI_5 : decode cd_Arrays_fillI 5 = .ok (.iload_n 2, 1) := by decide +kernel
theorem dc_Arrays_fillI_6 : decode cd_Arrays_fillI 6 = .ok (.iload_n 3, 1) := by decide +kernel
theorem dc_Arrays_fillI_7 : decode cd_Arrays_fillI 7 = .ok (.if_icmp .ge 13, 3) := by decide +kernel
theorem dc_Arrays_fillI_10 : decode cd_Arrays_fillI 10 = .ok (.aload_n 0, 1) := by decide +kernel
theorem dc_Arrays_fillI_11 : decode cd_Arrays_fillI 11 = .ok (.iload_n 2, 1) := by decide +kernel
theorem dc_Arrays_fillI_12 : decode cd_Arrays_fillI 12 = .ok (.iload_n 1, 1) := by decide +kernel
theorem dc_Arrays_fillI_13 : decode cd_Arrays_fillI 13 = .ok (.iastore, 1) := by decide +kernel
theorem dc_Arrays_fillI_14 : decode cd_Arrays_fillI 14 = .ok (.iinc 2 1, 3) := by decide +kernel
theorem dc_Arrays_fillI_17 : decode cd_Arrays_fillI 17 = .ok (.goto (-12), 3) := by decide +kernel
theorem dc_Arrays_fillI_20 : decode cd_Arrays_fillI 20 = .ok (.return_, 1) := by decide +kernel
theorem dc_Arrays_fillJ_0 : decode cd_Arrays_fillJ 0 = .ok (.iconst 0, 1) := by decide +kernel
theorem dc_Arrays_fillJ_1 : decode cd_Arrays_fillJ 1 = .ok (.istore_n 3, 1) := by decide +kernel
theorem dc_Arrays_fillJ_2 : decode cd_Arrays_fillJ 2 = .ok (.aload_n 0, 1) := by decide +kernel
theorem dc_Arrays_fillJ_3 : decode cd_Arrays_fillJ 3 = .ok (.arraylength, 1) := by decide +kernel
theorem dc_Arrays_fillJ_4 : decode cd_Arrays_fillJ 4 = .ok (.istore 4, 2) := by decide +kernel
theorem dc_Arrays_fillJ_6 : decode cd_Arrays_fillJ 6 = .ok (.iload_n 3, 1) := by decide +kernel
theorem dc_Arrays_fillJ_7 : decode cd_Arrays_fillJ 7 = .ok (.iload 4, 2) := by decide +kernel
theorem dc_Arrays_fillJ_9 : decode cd_Arrays_fillJ 9 = .ok (.if_icmp .ge 13, 3) := by decide +kernel
theorem dc_Arrays_fillJ_12 : decode cd_Arrays_fillJ 12 = .ok (.aload_n 0, 1) := by decide +kernel
theorem dc_Arrays_fillJ_13 : decode cd_Arrays_fillJ 13 = .ok (.iload_n 3, 1) := by decide +kernel
theorem dc_Arrays_fillJ_14 : decode cd_Arrays_fillJ 14 = .ok (.lload_n 1, 1) := by decide +kernel
theorem dc_Arrays_fillJ_15 : decode cd_Arrays_fillJ 15 = .ok (.lastore, 1) := by decide +kernel
theorem dc_Arrays_fillJ_16 : decode cd_Arrays_fillJ 16 = .ok (.iinc 3 1, 3) := by decide +kernel
theorem dc_Arrays_fillJ_19 : decode cd_Arrays_fillJ 19 = .ok (.goto (-13), 3) := by decide +kernel
theorem dc_Arrays_fillJ_22 : decode cd_Arrays_fillJ 22 = .ok (.return_, 1) := by decide +kernel
theorem dc_Integer_bitCount_0 : decode cd_Integer_bitCount 0 = .ok (.iload_n 0, 1) := by decide +kernel
theorem dc_Integer_bitCount_1 : decode cd_Integer_bitCount 1 = .ok (.iload_n 0, 1) := by decide +kernel
theorem dc_Integer_bitCount_2 : decode cd_Integer_bitCount 2 = .ok (.iconst 1, 1) := by decide +kernel
theorem dc_Integer_bitCount_3 : decode cd_Integer_bitCount 3 = .ok (.iushr, 1) := by decide +kernel
theorem dc_Integer_bitCount_4 : decode cd_Integer_bitCount 4 = .ok (.ldc_w 265, 3) := by decide +kernel
theorem dc_Integer_bitCount_7 : decode cd_Integer_bitCount 7 = .ok (.iand, 1) := by decide +kernel
theorem dc_Integer_bitCount_8 : decode cd_Integer_bitCount 8 = .ok (.isub, 1) := by decide +kernel
theorem dc_Integer_bitCount_9 : decode cd_Integer_bitCount 9 = .ok (.istore_n 0, 1) := by decide +kernel
theorem dc_Integer_bitCount_10 : decode cd_Integer_bitCount 10 = .ok (.iload_n 0, 1) := by decide +kernel
theorem dc_Integer_bitCount_11 : decode cd_Integer_bitCount 11 = .ok (.ldc_w 266, 3) := by decide +kernel
theorem dc_Integer_bitCount_14 : decode cd_Integer_bitCount 14 = .ok (.iand, 1) := by decide +kernel
theorem dc_Integer_bitCount_15 : decode cd_Integer_bitCount 15 = .ok (.iload_n 0, 1) := by decide +kernel
theorem dc_Integer_bitCount_16 : decode cd_Integer_bitCount 16 = .ok (.iconst 2, 1) := by decide +kernel
theorem dc_Integer_bitCount_17 : decode cd_Integer_bitCount 17 = .ok (.iushr, 1) := by decide +kernel
theorem dc_Integer_bitCount_18 : decode cd_Integer_bitCount 18 = .ok (.ldc_w 266, 3) := by decide +kernel
theorem dc_Integer_bitCount_21 : decode cd_Integer_bitCount 21 = .ok (.iand, 1) := by decide +kernel
theorem dc_Integer_bitCount_22 : decode cd_Integer_bitCount 22 = .ok (.iadd, 1) := by decide +kernel
theorem dc_Integer_bitCount_23 : decode cd_Integer_bitCount 23 = .ok (.istore_n 0, 1) := by decide +kernel
theorem dc_Integer_bitCount_24 : decode cd_Integer_bitCount 24 = .ok (.iload_n 0, 1) := by decide +kernel
theorem dc_Integer_bitCount_25 : decode cd_Integer_bitCount 25 = .ok (.iload_n 0, 1) := by decide +kernel
theorem dc_Integer_bitCount_26 : decode cd_Integer_bitCount 26 = .ok (.iconst 4, 1) := by decide +kernel
theorem dc_Integer_bitCount_27 : decode cd_Integer_bitCount 27 = .ok (.iushr, 1) := by decide +kernel
theorem dc_Integer_bitCount_28 : decode cd_Integer_bitCount 28 = .ok (.iadd, 1) := by decide +kernel
theorem dc_Integer_bitCount_29 : decode cd_Integer_bitCount 29 = .ok (.ldc_w 267, 3) := by decide +kernel
theorem dc_Integer_bitCount_32 : decode cd_Integer_bitCount 32 = .ok (.iand, 1) := by decide +kernel
theorem dc_Integer_bitCount_33 : decode cd_Integer_bitCount 33 = .ok (.istore_n 0, 1) := by decide +kernel
theorem dc_Integer_bitCount_34 : decode cd_Integer_bitCount 34 = .ok (.iload_n 0, 1) := by decide +kernel
theorem dc_Integer_bitCount_35 : decode cd_Integer_bitCount 35 = .ok (.iload_n 0, 1) := by decide +kernel
theorem dc_Integer_bitCount_36 : decode cd_Integer_bitCount 36 = .ok (.bipush 8, 2) := by decide +kernel
theorem dc_Integer_bitCount_38 : decode cd_Integer_bitCount 38 = .ok (.iushr, 1) := by decide +kernel
theorem dc_Integer_bitCount_39 : decode cd_Integer_bitCount 39 = .ok (.iadd, 1) := by decide +kernel
theorem dc_Integer_bitCount_40 : decode cd_Integer_bitCount 40 = .ok (.istore_n 0, 1) := by decide +kernel
theorem dc_Integer_bitCount_41 : decode cd_Integer_bitCount 41 = .ok (.iload_n 0, 1) := by decide +kernel
theorem dc_Integer_bitCount_42 : decode cd_Integer_bitCount 42 = .ok (.iload_n 0, 1) := by decide +kernel
theorem dc_Integer_bitCount_43 : decode cd_Integer_bitCount 43 = .ok (.bipush 16, 2) := by decide +kernel
theorem dc_Integer_bitCount_45 : decode cd_Integer_bitCount 45 = .ok (.iushr, 1) := by decide +kernel
theorem dc_Integer_bitCount_46 : decode cd_Integer_bitCount 46 = .ok (.iadd, 1) := by decide +kernel
theorem dc_Integer_bitCount_47 : decode cd_Integer_bitCount 47 = .ok (.istore_n 0, 1) := by decide +kernel
theorem dc_Integer_bitCount_48 : decode cd_Integer_bitCount 48 = .ok (.iload_n 0, 1) := by decide +kernel
theorem dc_Integer_bitCount_49 : decode cd_Integer_bitCount 49 = .ok (.bipush 63, 2) := by decide +kernel
theorem dc_Integer_bitCount_51 : decode cd_Integer_bitCount 51 = .ok (.iand, 1) := by decide +kernel
theorem dc_Integer_bitCount_52 : decode cd_Integer_bitCount 52 = .ok (.ireturn, 1) := by decide +kernel
theorem dc_String_isLatin1_0 : decode cd_String_isLatin1 0 = .ok (.getstatic 38, 3) := by decide +kernel
theorem dc_String_isLatin1_3 : decode cd_String_isLatin1 3 = .ok (.ifCond .eq 14, 3) := by decide +kernel
theorem dc_String_isLatin1_6 : decode cd_String_isLatin1 6 = .ok (.aload_n 0, 1) := by decide +kernel
theorem dc_String_isLatin1_7 : decode cd_String_isLatin1 7 = .ok (.getfield 15, 3) := by decide +kernel
theorem dc_String_isLatin1_10 : decode cd_String_isLatin1 10 = .ok (.ifCond .ne 7, 3) := by decide +kernel
theorem dc_String_isLatin1_13 : decode cd_String_isLatin1 13 = .ok (.iconst 1, 1) := by decide +kernel
theorem dc_String_isLatin1_14 : decode cd_String_isLatin1 14 = .ok (.goto 4, 3) := by decide +kernel
theorem dc_String_isLatin1_17 : decode cd_String_isLatin1 17 = .ok (.iconst 0, 1) := by decide +kernel
theorem dc_String_isLatin1_18 : decode cd_String_isLatin1 18 = .ok (.ireturn, 1) := by decide +kernel
theorem dc_String_coder_0 : decode cd_String_coder 0 = .ok (.getstatic 38, 3) := by decide +kernel
theorem dc_String_coder_3 : decode cd_String_coder 3 = .ok (.ifCond .eq 10, 3) := by decide +kernel
theorem dc_String_coder_6 : decode cd_String_coder 6 = .ok (.aload_n 0, 1) := by decide +kernel
theorem dc_String_coder_7 : decode cd_String_coder 7 = .ok (.getfield 15, 3) := by decide +kernel
theorem dc_String_coder_10 : decode cd_String_coder 10 = .ok (.goto 4, 3) := by decide +kernel
theorem dc_String_coder_13 : decode cd_String_coder 13 = .ok (.iconst 1, 1) := by decide +kernel
theorem dc_String_coder_14 : decode cd_String_coder 14 = .ok (.ireturn, 1) := by decide +kernel
theorem dc_StringLatin1_canEncode_0 : decode cd_StringLatin1_canEncode 0 = .ok (.iload_n 0, 1) := by decide +kernel
theorem dc_StringLatin1_canEncode_1 : decode cd_StringLatin1_canEncode 1 = .ok (.ifCond .lt 14, 3) := by decide +kernel
theorem dc_StringLatin1_canEncode_4 : decode cd_StringLatin1_canEncode 4 = .ok (.iload_n 0, 1) := by decide +kernel
theorem dc_StringLatin1_canEncode_5 : decode cd_StringLatin1_canEncode 5 = .ok (.sipush 255, 3) := by decide +kernel
theorem dc_StringLatin1_canEncode_8 : decode cd_StringLatin1_canEncode 8 = .ok (.if_icmp .gt 7, 3) := by decide +kernel
theorem dc_StringLatin1_canEncode_11 : decode cd_StringLatin1_canEncode 11 = .ok (.iconst 1, 1) := by decide +kernel
theorem dc_StringLatin1_canEncode_12 : decode cd_StringLatin1_canEncode 12 = .ok (.goto 4, 3) := by decide +kernel
theorem dc_StringLatin1_canEncode_15 : decode cd_StringLatin1_canEncode 15 = .ok (.iconst 0, 1) := by decide +kernel
theorem dc_StringLatin1_canEncode_16 : decode cd_StringLatin1_canEncode 16 = .ok (.ireturn, 1) := by decide +kernel
theorem dc_StringLatin1_indexOfChar_0 : decode cd_StringLatin1_indexOfChar 0 = .ok (.iload_n 1, 1) := by decide +kernel
theorem dc_StringLatin1_indexOfChar_1 : decode cd_StringLatin1_indexOfChar 1 = .ok (.i2b, 1) := by decide +kernel
theorem dc_StringLatin1_indexOfChar_2 : decode cd_StringLatin1_indexOfChar 2 = .ok (.istore 4, 2) := by decide +kernel
theorem dc_StringLatin1_indexOfChar_4 : decode cd_StringLatin1_indexOfChar 4 = .ok (.iload_n 2, 1) := by decide +kernel
theorem dc_StringLatin1_indexOfChar_5 : decode cd_StringLatin1_indexOfChar 5 = .ok (.istore 5, 2) := by decide +kernel
theorem dc_StringLatin1_indexOfChar_7 : decode cd_StringLatin1_indexOfChar 7 = .ok (.iload 5, 2) := by decide +kernel
theorem dc_StringLatin1_indexOfChar_9 : decode cd_StringLatin1_indexOfChar 9 = .ok (.iload_n 3, 1) := by decide +kernel
theorem dc_StringLatin1_indexOfChar_10 : decode cd_StringLatin1_indexOfChar 10 = .ok (.if_icmp .ge 21, 3) := by decide +kernel
theorem dc_StringLatin1_indexOfChar_13 : decode cd_StringLatin1_indexOfChar 13 = .ok (.aload_n 0, 1) := by decide +kernel
theorem dc_StringLatin1_indexOfChar_14 : decode cd_StringLatin1_indexOfChar 14 = .ok (.iload 5, 2) := by decide +kernel
theorem dc_StringLatin1_indexOfChar_16 : decode cd_StringLatin1_indexOfChar 16 = .ok (.baload, 1) := by decide +kernel
theorem dc_StringLatin1_indexOfChar_17 : decode cd_StringLatin1_indexOfChar 17 = .ok (.iload 4, 2) := by decide +kernel
theorem dc_StringLatin1_indexOfChar_19 : decode cd_StringLatin1_indexOfChar 19 = .ok (.if_icmp .ne 6, 3) := by decide +kernel
theorem dc_StringLatin1_indexOfChar_22 : decode cd_StringLatin1_indexOfChar 22 = .ok (.iload 5, 2) := by decide +kernel
theorem dc_StringLatin1_indexOfChar_24 : decode cd_StringLatin1_indexOfChar 24 = .ok (.ireturn, 1) := by decide +kernel
theorem dc_StringLatin1_indexOfChar_25 : decode cd_StringLatin1_indexOfChar 25 = .ok (.iinc 5 1, 3) := by decide +kernel
theorem dc_StringLatin1_indexOfChar_28 : decode cd_StringLatin1_indexOfChar 28 = .ok (.goto (-21), 3) := by decide +kernel
theorem dc_StringLatin1_indexOfChar_31 : decode cd_StringLatin1_indexOfChar 31 = .ok (.iconst (-1), 1) := by decide +kernel
theorem dc_StringLatin1_indexOfChar_32 : decode cd_StringLatin1_indexOfChar 32 = .ok (.ireturn, 1) := by decide +kernel
theorem dc_Clock_way_0 : decode cd_Clock_way 0 = .ok (.aload_n 0, 1) := by decide +kernel
theorem dc_Clock_way_1 : decode cd_Clock_way 1 = .ok (.iload_n 1, 1) := by decide +kernel
theorem dc_Clock_way_2 : decode cd_Clock_way 2 = .ok (.invokevirtual 124, 3) := by decide +kernel
theorem dc_Clock_way_5 : decode cd_Clock_way 5 = .ok (.ifCond .eq 28, 3) := by decide +kernel
theorem dc_Clock_way_8 : decode cd_Clock_way 8 = .ok (.aload_n 0, 1) := by decide +kernel
theorem dc_Clock_way_9 : decode cd_Clock_way 9 = .ok (.iload_n 2, 1) := by decide +kernel
theorem dc_Clock_way_10 : decode cd_Clock_way 10 = .ok (.invokevirtual 124, 3) := by decide +kernel
theorem dc_Clock_way_13 : decode cd_Clock_way 13 = .ok (.ifCond .eq 20, 3) := by decide +kernel
theorem dc_Clock_way_16 : decode cd_Clock_way 16 = .ok (.aload_n 0, 1) := by decide +kernel
theorem dc_Clock_way_17 : decode cd_Clock_way 17 = .ok (.getfield 28, 3) := by decide +kernel
theorem dc_Clock_way_20 : decode cd_Clock_way 20 = .ok (.getfield 128, 3) := by decide +kernel
theorem dc_Clock_way_23 : decode cd_Clock_way 23 = .ok (.iload_n 1, 1) := by decide +kernel
theorem dc_Clock_way_24 : decode cd_Clock_way 24 = .ok (.bipush 6, 2) := by decide +kernel
theorem dc_Clock_way_26 : decode cd_Clock_way 26 = .ok (.imul, 1) := by decide +kernel
theorem dc_Clock_way_27 : decode cd_Clock_way 27 = .ok (.iload_n 2, 1) := by decide +kernel
theorem dc_Clock_way_28 : decode cd_Clock_way 28 = .ok (.iadd, 1) := by decide +kernel
theorem dc_Clock_way_29 : decode cd_Clock_way 29 = .ok (.iaload, 1) := by decide +kernel
theorem dc_Clock_way_30 : decode cd_Clock_way 30 = .ok (.goto 4, 3) := by decide +kernel
theorem dc_Clock_way_33 : decode cd_Clock_way 33 = .ok (.iconst (-1), 1) := by decide +kernel
theorem dc_Clock_way_34 : decode cd_Clock_way 34 = .ok (.ireturn, 1) := by decide +kernel
theorem dc_Clock_walker_0 : decode cd_Clock_walker 0 = .ok (.aload_n 0, 1) := by decide +kernel
theorem dc_Clock_walker_1 : decode cd_Clock_walker 1 = .ok (.iload_n 1, 1) := by decide +kernel
theorem dc_Clock_walker_2 : decode cd_Clock_walker 2 = .ok (.invokevirtual 131, 3) := by decide +kernel
theorem dc_Clock_walker_5 : decode cd_Clock_walker 5 = .ok (.ifCond .eq 7, 3) := by decide +kernel
theorem dc_Clock_walker_8 : decode cd_Clock_walker 8 = .ok (.iload_n 2, 1) := by decide +kernel
theorem dc_Clock_walker_9 : decode cd_Clock_walker 9 = .ok (.ifCond .ge 5, 3) := by decide +kernel
theorem dc_Clock_walker_12 : decode cd_Clock_walker 12 = .ok (.iconst (-1), 1) := by decide +kernel
theorem dc_Clock_walker_13 : decode cd_Clock_walker 13 = .ok (.ireturn, 1) := by decide +kernel
theorem dc_Clock_walker_14 : decode cd_Clock_walker 14 = .ok (.aload_n 0, 1) := by decide +kernel
theorem dc_Clock_walker_15 : decode cd_Clock_walker 15 = .ok (.getfield 28, 3) := by decide +kernel
theorem dc_Clock_walker_18 : decode cd_Clock_walker 18 = .ok (.getfield 134, 3) := by decide +kernel
theorem dc_Clock_walker_21 : decode cd_Clock_walker 21 = .ok (.iload_n 1, 1) := by decide +kernel
theorem dc_Clock_walker_22 : decode cd_Clock_walker 22 = .ok (.aaload, 1) := by decide +kernel
theorem dc_Clock_walker_23 : decode cd_Clock_walker 23 = .ok (.astore_n 3, 1) := by decide +kernel
theorem dc_Clock_walker_24 : decode cd_Clock_walker 24 = .ok (.iload_n 2, 1) := by decide +kernel
theorem dc_Clock_walker_25 : decode cd_Clock_walker 25 = .ok (.tableswitch 65 0 2 #[27, 32, 52], 27) := by decide +kernel
theorem dc_Clock_walker_52 : decode cd_Clock_walker 52 = .ok (.aload_n 3, 1) := by decide +kernel
theorem dc_Clock_walker_53 : decode cd_Clock_walker 53 = .ok (.getfield 138, 3) := by decide +kernel
theorem dc_Clock_walker_56 : decode cd_Clock_walker 56 = .ok (.ireturn, 1) := by decide +kernel
theorem dc_Clock_walker_57 : decode cd_Clock_walker 57 = .ok (.aload_n 0, 1) := by decide +kernel
theorem dc_Clock_walker_58 : decode cd_Clock_walker 58 = .ok (.getfield 45, 3) := by decide +kernel
theorem dc_Clock_walker_61 : decode cd_Clock_walker 61 = .ok (.getfield 143, 3) := by decide +kernel
theorem dc_Clock_walker_64 : decode cd_Clock_walker 64 = .ok (.iload_n 1, 1) := by decide +kernel
theorem dc_Clock_walker_65 : decode cd_Clock_walker 65 = .ok (.invokevirtual 146, 3) := by decide +kernel
theorem dc_Clock_walker_68 : decode cd_Clock_walker 68 = .ok (.ifCond .eq 7, 3) := by decide +kernel
theorem dc_Clock_walker_71 : decode cd_Clock_walker 71 = .ok (.iconst 1, 1) := by decide +kernel
theorem dc_Clock_walker_72 : decode cd_Clock_walker 72 = .ok (.goto 4, 3) := by decide +kernel
theorem dc_Clock_walker_75 : decode cd_Clock_walker 75 = .ok (.iconst 0, 1) := by decide +kernel
theorem dc_Clock_walker_76 : decode cd_Clock_walker 76 = .ok (.ireturn, 1) := by decide +kernel
theorem dc_Clock_walker_77 : decode cd_Clock_walker 77 = .ok (.aload_n 0, 1) := by decide +kernel
theorem dc_Clock_walker_78 : decode cd_Clock_walker 78 = .ok (.getfield 45, 3) := by decide +kernel
theorem dc_Clock_walker_81 : decode cd_Clock_walker 81 = .ok (.getfield 143, 3) := by decide +kernel
theorem dc_Clock_walker_84 : decode cd_Clock_walker 84 = .ok (.getfield 149, 3) := by decide +kernel
theorem dc_Clock_walker_87 : decode cd_Clock_walker 87 = .ok (.iload_n 1, 1) := by decide +kernel
theorem dc_Clock_walker_88 : decode cd_Clock_walker 88 = .ok (.iaload, 1) := by decide +kernel
theorem dc_Clock_walker_89 : decode cd_Clock_walker 89 = .ok (.ireturn, 1) := by decide +kernel
theorem dc_Clock_walker_90 : decode cd_Clock_walker 90 = .ok (.iload_n 2, 1) := by decide +kernel
theorem dc_Clock_walker_91 : decode cd_Clock_walker 91 = .ok (.iconst 3, 1) := by decide +kernel
theorem dc_Clock_walker_92 : decode cd_Clock_walker 92 = .ok (.isub, 1) := by decide +kernel
theorem dc_Clock_walker_93 : decode cd_Clock_walker 93 = .ok (.aload_n 3, 1) := by decide +kernel
theorem dc_Clock_walker_94 : decode cd_Clock_walker 94 = .ok (.getfield 152, 3) := by decide +kernel
theorem dc_Clock_walker_97 : decode cd_Clock_walker 97 = .ok (.if_icmp .ge 14, 3) := by decide +kernel
theorem dc_Clock_walker_100 : decode cd_Clock_walker 100 = .ok (.aload_n 3, 1) := by decide +kernel
theorem dc_Clock_walker_101 : decode cd_Clock_walker 101 = .ok (.getfield 155, 3) := by decide +kernel
theorem dc_Clock_walker_104 : decode cd_Clock_walker 104 = .ok (.iload_n 2, 1) := by decide +kernel
theorem dc_Clock_walker_105 : decode cd_Clock_walker 105 = .ok (.iconst 3, 1) := by decide +kernel
theorem dc_Clock_walker_106 : decode cd_Clock_walker 106 = .ok (.isub, 1) := by decide +kernel
theorem dc_Clock_walker_107 : decode cd_Clock_walker 107 = .ok (.iaload, 1) := by decide +kernel
theorem dc_Clock_walker_108 : decode cd_Clock_walker 108 = .ok (.goto 4, 3) := by decide +kernel
theorem dc_Clock_walker_111 : decode cd_Clock_walker 111 = .ok (.iconst (-1), 1) := by decide +kernel
theorem dc_Clock_walker_112 : decode cd_Clock_walker 112 = .ok (.ireturn, 1) := by decide +kernel
theorem dc_Clock_undo_0 : decode cd_Clock_undo 0 = .ok (.aload_n 0, 1) := by decide +kernel
theorem dc_Clock_undo_1 : decode cd_Clock_undo 1 = .ok (.getfield 107, 3) := by decide +kernel
theorem dc_Clock_undo_4 : decode cd_Clock_undo 4 = .ok (.ifCond .ne 5, 3) := by decide +kernel
theorem dc_Clock_undo_7 : decode cd_Clock_undo 7 = .ok (.iconst 0, 1) := by decide +kernel
theorem dc_Clock_undo_8 : decode cd_Clock_undo 8 = .ok (.ireturn, 1) := by decide +kernel
theorem dc_Clock_undo_9 : decode cd_Clock_undo 9 = .ok (.aload_n 0, 1) := by decide +kernel
theorem dc_Clock_undo_10 : decode cd_Clock_undo 10 = .ok (.dup, 1) := by decide +kernel
theorem dc_Clock_undo_11 : decode cd_Clock_undo 11 = .ok (.getfield 107, 3) := by decide +kernel
theorem dc_Clock_undo_14 : decode cd_Clock_undo 14 = .ok (.iconst 1, 1) := by decide +kernel
theorem dc_Clock_undo_15 : decode cd_Clock_undo 15 = .ok (.isub, 1) := by decide +kernel
theorem dc_Clock_undo_16 : decode cd_Clock_undo 16 = .ok (.putfield 107, 3) := by decide +kernel
theorem dc_Clock_undo_19 : decode cd_Clock_undo 19 = .ok (.aload_n 0, 1) := by decide +kernel
theorem dc_Clock_undo_20 : decode cd_Clock_undo 20 = .ok (.getfield 45, 3) := by decide +kernel
theorem dc_Clock_undo_23 : decode cd_Clock_undo 23 = .ok (.getfield 143, 3) := by decide +kernel
theorem dc_Clock_undo_26 : decode cd_Clock_undo 26 = .ok (.aload_n 0, 1) := by decide +kernel
theorem dc_Clock_undo_27 : decode cd_Clock_undo 27 = .ok (.getfield 55, 3) := by decide +kernel
theorem dc_Clock_undo_30 : decode cd_Clock_undo 30 = .ok (.aload_n 0, 1) := by decide +kernel
theorem dc_Clock_undo_31 : decode cd_Clock_undo 31 = .ok (.getfield 219, 3) := by decide +kernel
theorem dc_Clock_undo_34 : decode cd_Clock_undo 34 = .ok (.aload_n 0, 1) := by decide +kernel
theorem dc_Clock_undo_35 : decode cd_Clock_undo 35 = .ok (.getfield 107, 3) := by decide +kernel
theorem dc_Clock_undo_38 : decode cd_Clock_undo 38 = .ok (.iadd, 1) := by decide +kernel
theorem dc_Clock_undo_39 : decode cd_Clock_undo 39 = .ok (.bipush 16, 2) := by decide +kernel
theorem dc_Clock_undo_41 : decode cd_Clock_undo 41 = .ok (.irem, 1) := by decide +kernel
theorem dc_Clock_undo_42 : decode cd_Clock_undo 42 = .ok (.aaload, 1) := by decide +kernel
theorem dc_Clock_undo_43 : decode cd_Clock_undo 43 = .ok (.invokevirtual 222, 3) := by decide +kernel
theorem dc_Clock_undo_46 : decode cd_Clock_undo 46 = .ok (.iconst 1, 1) := by decide +kernel
theorem dc_Clock_undo_47 : decode cd_Clock_undo 47 = .ok (.ireturn, 1) := by decide +kernel
theorem dc_Clock_see_0 : decode cd_Clock_see 0 = .ok (.aload_n 0, 1) := by decide +kernel
theorem dc_Clock_see_1 : decode cd_Clock_see 1 = .ok (.iload_n 1, 1) := by decide +kernel
theorem dc_Clock_see_2 : decode cd_Clock_see 2 = .ok (.invokevirtual 131, 3) := by decide +kernel
theorem dc_Clock_see_5 : decode cd_Clock_see 5 = .ok (.ifCond .eq 28, 3) := by decide +kernel
theorem dc_Clock_see_8 : decode cd_Clock_see 8 = .ok (.aload_n 0, 1) := by decide +kernel
theorem dc_Clock_see_9 : decode cd_Clock_see 9 = .ok (.iload_n 2, 1) := by decide +kernel
theorem dc_Clock_see_10 : decode cd_Clock_see 10 = .ok (.invokevirtual 124, 3) := by decide +kernel
theorem dc_Clock_see_13 : decode cd_Clock_see 13 = .ok (.ifCond .eq 20, 3) := by decide +kernel
theorem dc_Clock_see_16 : decode cd_Clock_see 16 = .ok (.aload_n 0, 1) := by decide +kernel
theorem dc_Clock_see_17 : decode cd_Clock_see 17 = .ok (.getfield 45, 3) := by decide +kernel
theorem dc_Clock_see_20 : decode cd_Clock_see 20 = .ok (.iload_n 1, 1) := by decide +kernel
theorem dc_Clock_see_21 : decode cd_Clock_see 21 = .ok (.iload_n 2, 1) := by decide +kernel
theorem dc_Clock_see_22 : decode cd_Clock_see 22 = .ok (.iload_n 3, 1) := by decide +kernel
theorem dc_Clock_see_23 : decode cd_Clock_see 23 = .ok (.invokevirtual 246, 3) := by decide +kernel
theorem dc_Clock_see_26 : decode cd_Clock_see 26 = .ok (.ifCond .eq 7, 3) := by decide +kernel
theorem dc_Clock_see_29 : decode cd_Clock_see 29 = .ok (.iconst 1, 1) := by decide +kernel
theorem dc_Clock_see_30 : decode cd_Clock_see 30 = .ok (.goto 4, 3) := by decide +kernel
theorem dc_Clock_see_33 : decode cd_Clock_see 33 = .ok (.iconst 0, 1) := by decide +kernel
theorem dc_Clock_see_34 : decode cd_Clock_see 34 = .ok (.ireturn, 1) := by decide +kernel
theorem dc_Clock_tell_0 : decode cd_Clock_tell 0 = .ok (.aload_n 0, 1) := by decide +kernel
theorem dc_Clock_tell_1 : decode cd_Clock_tell 1 = .ok (.iload_n 1, 1) := by decide +kernel
theorem dc_Clock_tell_2 : decode cd_Clock_tell 2 = .ok (.invokevirtual 169, 3) := by decide +kernel
theorem dc_Clock_tell_5 : decode cd_Clock_tell 5 = .ok (.ifCond .eq 16, 3) := by decide +kernel
theorem dc_Clock_tell_8 : decode cd_Clock_tell 8 = .ok (.iload_n 2, 1) := by decide +kernel
theorem dc_Clock_tell_9 : decode cd_Clock_tell 9 = .ok (.iconst (-1), 1) := by decide +kernel
theorem dc_Clock_tell_10 : decode cd_Clock_tell 10 = .ok (.if_icmp .eq 13, 3) := by decide +kernel
theorem dc_Clock_tell_13 : decode cd_Clock_tell 13 = .ok (.aload_n 0, 1) := by decide +kernel
theorem dc_Clock_tell_14 : decode cd_Clock_tell 14 = .ok (.iload_n 2, 1) := by decide +kernel
theorem dc_Clock_tell_15 : decode cd_Clock_tell 15 = .ok (.invokevirtual 158, 3) := by decide +kernel
theorem dc_Clock_tell_18 : decode cd_Clock_tell 18 = .ok (.ifCond .ne 5, 3) := by decide +kernel
theorem dc_Clock_tell_21 : decode cd_Clock_tell 21 = .ok (.iconst 0, 1) := by decide +kernel
theorem dc_Clock_tell_22 : decode cd_Clock_tell 22 = .ok (.ireturn, 1) := by decide +kernel
theorem dc_Clock_tell_23 : decode cd_Clock_tell 23 = .ok (.aload_n 0, 1) := by decide +kernel
theorem dc_Clock_tell_24 : decode cd_Clock_tell 24 = .ok (.getfield 45, 3) := by decide +kernel
theorem dc_Clock_tell_27 : decode cd_Clock_tell 27 = .ok (.getfield 292, 3) := by decide +kernel
theorem dc_Clock_tell_30 : decode cd_Clock_tell 30 = .ok (.iload_n 1, 1) := by decide +kernel
theorem dc_Clock_tell_31 : decode cd_Clock_tell 31 = .ok (.iload_n 2, 1) := by decide +kernel
theorem dc_Clock_tell_32 : decode cd_Clock_tell 32 = .ok (.iastore, 1) := by decide +kernel
theorem dc_Clock_tell_33 : decode cd_Clock_tell 33 = .ok (.iconst 1, 1) := by decide +kernel
theorem dc_Clock_tell_34 : decode cd_Clock_tell 34 = .ok (.ireturn, 1) := by decide +kernel
theorem dc_Clock_count_0 : decode cd_Clock_count 0 = .ok (.iload_n 1, 1) := by decide +kernel
theorem dc_Clock_count_1 : decode cd_Clock_count 1 = .ok (.tableswitch 207 0 13 #[71, 79, 87, 95, 103, 111, 122, 133, 144, 163, 174, 182, 194, 199], 71) := by decide +kernel
theorem dc_Clock_count_72 : decode cd_Clock_count 72 = .ok (.aload_n 0, 1) := by decide +kernel
theorem dc_Clock_count_73 : decode cd_Clock_count 73 = .ok (.getfield 28, 3) := by decide +kernel
theorem dc_Clock_count_76 : decode cd_Clock_count 76 = .ok (.getfield 257, 3) := by decide +kernel
theorem dc_Clock_count_79 : decode cd_Clock_count 79 = .ok (.ireturn, 1) := by decide +kernel
theorem dc_Clock_count_80 : decode cd_Clock_count 80 = .ok (.aload_n 0, 1) := by decide +kernel
theorem dc_Clock_count_81 : decode cd_Clock_count 81 = .ok (.getfield 28, 3) := by decide +kernel
theorem dc_Clock_count_84 : decode cd_Clock_count 84 = .ok (.getfield 282, 3) := by decide +kernel
theorem dc_Clock_count_87 : decode cd_Clock_count 87 = .ok (.ireturn, 1) := by decide +kernel
theorem dc_Clock_count_88 : decode cd_Clock_count 88 = .ok (.aload_n 0, 1) := by decide +kernel
theorem dc_Clock_count_89 : decode cd_Clock_count 89 = .ok (.getfield 28, 3) := by decide +kernel
theorem dc_Clock_count_92 : decode cd_Clock_count 92 = .ok (.getfield 263, 3) := by decide +kernel
theorem dc_Clock_count_95 : decode cd_Clock_count 95 = .ok (.ireturn, 1) := by decide +kernel
theorem dc_Clock_count_96 : decode cd_Clock_count 96 = .ok (.aload_n 0, 1) := by decide +kernel
theorem dc_Clock_count_97 : decode cd_Clock_count 97 = .ok (.getfield 28, 3) := by decide +kernel
theorem dc_Clock_count_100 : decode cd_Clock_count 100 = .ok (.getfield 328, 3) := by decide +kernel
theorem dc_Clock_count_103 : decode cd_Clock_count 103 = .ok (.ireturn, 1) := by decide +kernel
theorem dc_Clock_count_104 : decode cd_Clock_count 104 = .ok (.aload_n 0, 1) := by decide +kernel
theorem dc_Clock_count_105 : decode cd_Clock_count 105 = .ok (.getfield 28, 3) := by decide +kernel
theorem dc_Clock_count_108 : decode cd_Clock_count 108 = .ok (.getfield 331, 3) := by decide +kernel
theorem dc_Clock_count_111 : decode cd_Clock_count 111 = .ok (.ireturn, 1) := by decide +kernel
theorem dc_Clock_count_112 : decode cd_Clock_count 112 = .ok (.aload_n 0, 1) := by decide +kernel
theorem dc_Clock_count_113 : decode cd_Clock_count 113 = .ok (.getfield 45, 3) := by decide +kernel
theorem dc_Clock_count_116 : decode cd_Clock_count 116 = .ok (.getfield 143, 3) := by decide +kernel
theorem dc_Clock_count_119 : decode cd_Clock_count 119 = .ok (.getfield 334, 3) := by decide +kernel
theorem dc_Clock_count_122 : decode cd_Clock_count 122 = .ok (.ireturn, 1) := by decide +kernel
theorem dc_Clock_count_123 : decode cd_Clock_count 123 = .ok (.aload_n 0, 1) := by decide +kernel
theorem dc_Clock_count_124 : decode cd_Clock_count 124 = .ok (.getfield 45, 3) := by decide +kernel
theorem dc_Clock_count_127 : decode cd_Clock_count 127 = .ok (.getfield 143, 3) := by decide +kernel
theorem dc_Clock_count_130 : decode cd_Clock_count 130 = .ok (.getfield 243, 3) := by decide +kernel
theorem dc_Clock_count_133 : decode cd_Clock_count 133 = .ok (.ireturn, 1) := by decide +kernel
theorem dc_Clock_count_134 : decode cd_Clock_count 134 = .ok (.aload_n 0, 1) := by decide +kernel
theorem dc_Clock_count_135 : decode cd_Clock_count 135 = .ok (.getfield 45, 3) := by decide +kernel
theorem dc_Clock_count_138 : decode cd_Clock_count 138 = .ok (.getfield 143, 3) := by decide +kernel
theorem dc_Clock_count_141 : decode cd_Clock_count 141 = .ok (.getfield 337, 3) := by decide +kernel
theorem dc_Clock_count_144 : decode cd_Clock_count 144 = .ok (.ireturn, 1) := by decide +kernel
theorem dc_Clock_count_145 : decode cd_Clock_count 145 = .ok (.aload_n 0, 1) := by decide +kernel
theorem dc_Clock_count_146 : decode cd_Clock_count 146 = .ok (.getfield 45, 3) := by decide +kernel
theorem dc_Clock_count_149 : decode cd_Clock_count 149 = .ok (.getfield 143, 3) := by decide +kernel
theorem dc_Clock_count_152 : decode cd_Clock_count 152 = .ok (.getfield 209, 3) := by decide +kernel
theorem dc_Clock_count_155 : decode cd_Clock_count 155 = .ok (.ifCond .eq 7, 3) := by decide +kernel
theorem dc_Clock_count_158 : decode cd_Clock_count 158 = .ok (.iconst 1, 1) := by decide +kernel
theorem dc_Clock_count_159 : decode cd_Clock_count 159 = .ok (.goto 4, 3) := by decide +kernel
theorem dc_Clock_count_162 : decode cd_Clock_count 162 = .ok (.iconst 0, 1) := by decide +kernel
theorem dc_Clock_count_163 : decode cd_Clock_count 163 = .ok (.ireturn, 1) := by decide +kernel
theorem dc_Clock_count_164 : decode cd_Clock_count 164 = .ok (.aload_n 0, 1) := by decide +kernel
theorem dc_Clock_count_165 : decode cd_Clock_count 165 = .ok (.getfield 45, 3) := by decide +kernel
theorem dc_Clock_count_168 : decode cd_Clock_count 168 = .ok (.getfield 117, 3) := by decide +kernel
theorem dc_Clock_count_171 : decode cd_Clock_count 171 = .ok (.getfield 226, 3) := by decide +kernel
theorem dc_Clock_count_174 : decode cd_Clock_count 174 = .ok (.ireturn, 1) := by decide +kernel
theorem dc_Clock_count_175 : decode cd_Clock_count 175 = .ok (.aload_n 0, 1) := by decide +kernel
theorem dc_Clock_count_176 : decode cd_Clock_count 176 = .ok (.getfield 45, 3) := by decide +kernel
theorem dc_Clock_count_179 : decode cd_Clock_count 179 = .ok (.getfield 340, 3) := by decide +kernel
theorem dc_Clock_count_182 : decode cd_Clock_count 182 = .ok (.ireturn, 1) := by decide +kernel
theorem dc_Clock_count_183 : decode cd_Clock_count 183 = .ok (.aload_n 0, 1) := by decide +kernel
theorem dc_Clock_count_184 : decode cd_Clock_count 184 = .ok (.getfield 45, 3) := by decide +kernel
theorem dc_Clock_count_187 : decode cd_Clock_count 187 = .ok (.aload_n 0, 1) := by decide +kernel
theorem dc_Clock_count_188 : decode cd_Clock_count 188 = .ok (.getfield 28, 3) := by decide +kernel
theorem dc_Clock_count_191 : decode cd_Clock_count 191 = .ok (.invokevirtual 343, 3) := by decide +kernel
theorem dc_Clock_count_194 : decode cd_Clock_count 194 = .ok (.ireturn, 1) := by decide +kernel
theorem dc_Clock_count_195 : decode cd_Clock_count 195 = .ok (.aload_n 0, 1) := by decide +kernel
theorem dc_Clock_count_196 : decode cd_Clock_count 196 = .ok (.getfield 107, 3) := by decide +kernel
theorem dc_Clock_count_199 : decode cd_Clock_count 199 = .ok (.ireturn, 1) := by decide +kernel
theorem dc_Clock_count_200 : decode cd_Clock_count 200 = .ok (.aload_n 0, 1) := by decide +kernel
theorem dc_Clock_count_201 : decode cd_Clock_count 201 = .ok (.getfield 10, 3) := by decide +kernel
theorem dc_Clock_count_204 : decode cd_Clock_count 204 = .ok (.getfield 95, 3) := by decide +kernel
theorem dc_Clock_count_207 : decode cd_Clock_count 207 = .ok (.ireturn, 1) := by decide +kernel
theorem dc_Clock_count_208 : decode cd_Clock_count 208 = .ok (.iconst (-1), 1) := by decide +kernel
theorem dc_Clock_count_209 : decode cd_Clock_count 209 = .ok (.ireturn, 1) := by decide +kernel
theorem dc_Clock_areTwo_0 : decode cd_Clock_areTwo 0 = .ok (.aload_n 0, 1) := by decide +kernel
theorem dc_Clock_areTwo_1 : decode cd_Clock_areTwo 1 = .ok (.iload_n 1, 1) := by decide +kernel
theorem dc_Clock_areTwo_2 : decode cd_Clock_areTwo 2 = .ok (.invokevirtual 131, 3) := by decide +kernel
theorem dc_Clock_areTwo_5 : decode cd_Clock_areTwo 5 = .ok (.ifCond .eq 20, 3) := by decide +kernel
theorem dc_Clock_areTwo_8 : decode cd_Clock_areTwo 8 = .ok (.aload_n 0, 1) := by decide +kernel
theorem dc_Clock_areTwo_9 : decode cd_Clock_areTwo 9 = .ok (.iload_n 2, 1) := by decide +kernel
theorem dc_Clock_areTwo_10 : decode cd_Clock_areTwo 10 = .ok (.invokevirtual 131, 3) := by decide +kernel
theorem dc_Clock_areTwo_13 : decode cd_Clock_areTwo 13 = .ok (.ifCond .eq 12, 3) := by decide +kernel
theorem dc_Clock_areTwo_16 : decode cd_Clock_areTwo 16 = .ok (.iload_n 1, 1) := by decide +kernel
theorem dc_Clock_areTwo_17 : decode cd_Clock_areTwo 17 = .ok (.iload_n 2, 1) := by decide +kernel
theorem dc_Clock_areTwo_18 : decode cd_Clock_areTwo 18 = .ok (.if_icmp .eq 7, 3) := by decide +kernel
theorem dc_Clock_areTwo_21 : decode cd_Clock_areTwo 21 = .ok (.iconst 1, 1) := by decide +kernel
theorem dc_Clock_areTwo_22 : decode cd_Clock_areTwo 22 = .ok (.goto 4, 3) := by decide +kernel
theorem dc_Clock_areTwo_25 : decode cd_Clock_areTwo 25 = .ok (.iconst 0, 1) := by decide +kernel
theorem dc_Clock_areTwo_26 : decode cd_Clock_areTwo 26 = .ok (.ireturn, 1) := by decide +kernel
theorem dc_Clock_remember_0 : decode cd_Clock_remember 0 = .ok (.aload_n 0, 1) := by decide +kernel
theorem dc_Clock_remember_1 : decode cd_Clock_remember 1 = .ok (.getfield 107, 3) := by decide +kernel
theorem dc_Clock_remember_4 : decode cd_Clock_remember 4 = .ok (.bipush 16, 2) := by decide +kernel
theorem dc_Clock_remember_6 : decode cd_Clock_remember 6 = .ok (.if_icmp .ne 26, 3) := by decide +kernel
theorem dc_Clock_remember_9 : decode cd_Clock_remember 9 = .ok (.aload_n 0, 1) := by decide +kernel
theorem dc_Clock_remember_10 : decode cd_Clock_remember 10 = .ok (.aload_n 0, 1) := by decide +kernel
theorem dc_Clock_remember_11 : decode cd_Clock_remember 11 = .ok (.getfield 219, 3) := by decide +kernel
theorem dc_Clock_remember_14 : decode cd_Clock_remember 14 = .ok (.iconst 1, 1) := by decide +kernel
theorem dc_Clock_remember_15 : decode cd_Clock_remember 15 = .ok (.iadd, 1) := by decide +kernel
theorem dc_Clock_remember_16 : decode cd_Clock_remember 16 = .ok (.bipush 16, 2) := by decide +kernel
theorem dc_Clock_remember_18 : decode cd_Clock_remember 18 = .ok (.irem, 1) := by decide +kernel
theorem dc_Clock_remember_19 : decode cd_Clock_remember 19 = .ok (.putfield 219, 3) := by decide +kernel
theorem dc_Clock_remember_22 : decode cd_Clock_remember 22 = .ok (.aload_n 0, 1) := by decide +kernel
theorem dc_Clock_remember_23 : decode cd_Clock_remember 23 = .ok (.dup, 1) := by decide +kernel
theorem dc_Clock_remember_24 : decode cd_Clock_remember 24 = .ok (.getfield 107, 3) := by decide +kernel
theorem dc_Clock_remember_27 : decode cd_Clock_remember 27 = .ok (.iconst 1, 1) := by decide +kernel
theorem dc_Clock_remember_28 : decode cd_Clock_remember 28 = .ok (.isub, 1) := by decide +kernel
theorem dc_Clock_remember_29 : decode cd_Clock_remember 29 = .ok (.putfield 107, 3) := by decide +kernel
theorem dc_Clock_remember_32 : decode cd_Clock_remember 32 = .ok (.aload_n 0, 1) := by decide +kernel
theorem dc_Clock_remember_33 : decode cd_Clock_remember 33 = .ok (.getfield 55, 3) := by decide +kernel
theorem dc_Clock_remember_36 : decode cd_Clock_remember 36 = .ok (.aload_n 0, 1) := by decide +kernel
theorem dc_Clock_remember_37 : decode cd_Clock_remember 37 = .ok (.getfield 219, 3) := by decide +kernel
theorem dc_Clock_remember_40 : decode cd_Clock_remember 40 = .ok (.aload_n 0, 1) := by decide +kernel
theorem dc_Clock_remember_41 : decode cd_Clock_remember 41 = .ok (.getfield 107, 3) := by decide +kernel
theorem dc_Clock_remember_44 : decode cd_Clock_remember 44 = .ok (.iadd, 1) := by decide +kernel
theorem dc_Clock_remember_45 : decode cd_Clock_remember 45 = .ok (.bipush 16, 2) := by decide +kernel
theorem dc_Clock_remember_47 : decode cd_Clock_remember 47 = .ok (.irem, 1) := by decide +kernel
theorem dc_Clock_remember_48 : decode cd_Clock_remember 48 = .ok (.aaload, 1) := by decide +kernel
theorem dc_Clock_remember_49 : decode cd_Clock_remember 49 = .ok (.aload_n 0, 1) := by decide +kernel
theorem dc_Clock_remember_50 : decode cd_Clock_remember 50 = .ok (.getfield 45, 3) := by decide +kernel
theorem dc_Clock_remember_53 : decode cd_Clock_remember 53 = .ok (.getfield 143, 3) := by decide +kernel
theorem dc_Clock_remember_56 : decode cd_Clock_remember 56 = .ok (.invokevirtual 222, 3) := by decide +kernel
theorem dc_Clock_remember_59 : decode cd_Clock_remember 59 = .ok (.aload_n 0, 1) := by decide +kernel
theorem dc_Clock_remember_60 : decode cd_Clock_remember 60 = .ok (.dup, 1) := by decide +kernel
theorem dc_Clock_remember_61 : decode cd_Clock_remember 61 = .ok (.getfield 107, 3) := by decide +kernel
theorem dc_Clock_remember_64 : decode cd_Clock_remember 64 = .ok (.iconst 1, 1) := by decide +kernel
theorem dc_Clock_remember_65 : decode cd_Clock_remember 65 = .ok (.iadd, 1) := by decide +kernel
theorem dc_Clock_remember_66 : decode cd_Clock_remember 66 = .ok (.putfield 107, 3) := by decide +kernel
theorem dc_Clock_remember_69 : decode cd_Clock_remember 69 = .ok (.return_, 1) := by decide +kernel
theorem dc_Clock_isRest_0 : decode cd_Clock_isRest 0 = .ok (.iload_n 0, 1) := by decide +kernel
theorem dc_Clock_isRest_1 : decode cd_Clock_isRest 1 = .ok (.iload_n 1, 1) := by decide +kernel
theorem dc_Clock_isRest_2 : decode cd_Clock_isRest 2 = .ok (.iload_n 2, 1) := by decide +kernel
theorem dc_Clock_isRest_3 : decode cd_Clock_isRest 3 = .ok (.iload_n 3, 1) := by decide +kernel
theorem dc_Clock_isRest_4 : decode cd_Clock_isRest 4 = .ok (.invokestatic 368, 3) := by decide +kernel
theorem dc_Clock_isRest_7 : decode cd_Clock_isRest 7 = .ok (.istore 4, 2) := by decide +kernel
theorem dc_Clock_isRest_9 : decode cd_Clock_isRest 9 = .ok (.iconst 0, 1) := by decide +kernel
theorem dc_Clock_isRest_10 : decode cd_Clock_isRest 10 = .ok (.istore 5, 2) := by decide +kernel
theorem dc_Clock_isRest_12 : decode cd_Clock_isRest 12 = .ok (.iload 5, 2) := by decide +kernel
theorem dc_Clock_isRest_14 : decode cd_Clock_isRest 14 = .ok (.bipush 9, 2) := by decide +kernel
theorem dc_Clock_isRest_16 : decode cd_Clock_isRest 16 = .ok (.if_icmp .gt 24, 3) := by decide +kernel
theorem dc_Clock_isRest_19 : decode cd_Clock_isRest 19 = .ok (.iload_n 0, 1) := by decide +kernel
theorem dc_Clock_isRest_20 : decode cd_Clock_isRest 20 = .ok (.iload_n 1, 1) := by decide +kernel
theorem dc_Clock_isRest_21 : decode cd_Clock_isRest 21 = .ok (.iload 5, 2) := by decide +kernel
theorem dc_Clock_isRest_23 : decode cd_Clock_isRest 23 = .ok (.iload_n 3, 1) := by decide +kernel
theorem dc_Clock_isRest_24 : decode cd_Clock_isRest 24 = .ok (.invokestatic 368, 3) := by decide +kernel
theorem dc_Clock_isRest_27 : decode cd_Clock_isRest 27 = .ok (.iload 4, 2) := by decide +kernel
theorem dc_Clock_isRest_29 : decode cd_Clock_isRest 29 = .ok (.if_icmp .le 5, 3) := by decide +kernel
theorem dc_Clock_isRest_32 : decode cd_Clock_isRest 32 = .ok (.iconst 0, 1) := by decide +kernel
theorem dc_Clock_isRest_33 : decode cd_Clock_isRest 33 = .ok (.ireturn, 1) := by decide +kernel
theorem dc_Clock_isRest_34 : decode cd_Clock_isRest 34 = .ok (.iinc 5 1, 3) := by decide +kernel
theorem dc_Clock_isRest_37 : decode cd_Clock_isRest 37 = .ok (.goto (-25), 3) := by decide +kernel
theorem dc_Clock_isRest_40 : decode cd_Clock_isRest 40 = .ok (.iconst 1, 1) := by decide +kernel
theorem dc_Clock_isRest_41 : decode cd_Clock_isRest 41 = .ok (.ireturn, 1) := by decide +kernel
theorem dc_Clock_drawDay_0 : decode cd_Clock_drawDay 0 = .ok (.aload_n 0, 1) := by decide +kernel
theorem dc_Clock_drawDay_1 : decode cd_Clock_drawDay 1 = .ok (.bipush 8, 2) := by decide +kernel
theorem dc_Clock_drawDay_3 : decode cd_Clock_drawDay 3 = .ok (.invokevirtual 372, 3) := by decide +kernel
theorem dc_Clock_drawDay_6 : decode cd_Clock_drawDay 6 = .ok (.ifCond .ne 11, 3) := by decide +kernel
theorem dc_Clock_drawDay_9 : decode cd_Clock_drawDay 9 = .ok (.aload_n 0, 1) := by decide +kernel
theorem dc_Clock_drawDay_10 : decode cd_Clock_drawDay 10 = .ok (.getfield 60, 3) := by decide +kernel
theorem dc_Clock_drawDay_13 : decode cd_Clock_drawDay 13 = .ok (.iconst 1, 1) := by decide +kernel
theorem dc_Clock_drawDay_14 : decode cd_Clock_drawDay 14 = .ok (.putfield 209, 3) := by decide +kernel
theorem dc_Clock_drawDay_17 : decode cd_Clock_drawDay 17 = .ok (.iconst 0, 1) := by decide +kernel
theorem dc_Clock_drawDay_18 : decode cd_Clock_drawDay 18 = .ok (.istore_n 1, 1) := by decide +kernel
theorem dc_Clock_drawDay_19 : decode cd_Clock_drawDay 19 = .ok (.iload_n 1, 1) := by decide +kernel
theorem dc_Clock_drawDay_20 : decode cd_Clock_drawDay 20 = .ok (.aload_n 0, 1) := by decide +kernel
theorem dc_Clock_drawDay_21 : decode cd_Clock_drawDay 21 = .ok (.getfield 28, 3) := by decide +kernel
theorem dc_Clock_drawDay_24 : decode cd_Clock_drawDay 24 = .ok (.getfield 282, 3) := by decide +kernel
theorem dc_Clock_drawDay_27 : decode cd_Clock_drawDay 27 = .ok (.if_icmp .ge 32, 3) := by decide +kernel
theorem dc_Clock_drawDay_30 : decode cd_Clock_drawDay 30 = .ok (.aload_n 0, 1) := by decide +kernel
theorem dc_Clock_drawDay_31 : decode cd_Clock_drawDay 31 = .ok (.iconst 4, 1) := by decide +kernel
theorem dc_Clock_drawDay_32 : decode cd_Clock_drawDay 32 = .ok (.invokevirtual 372, 3) := by decide +kernel
theorem dc_Clock_drawDay_35 : decode cd_Clock_drawDay 35 = .ok (.ifCond .ne 18, 3) := by decide +kernel
theorem dc_Clock_drawDay_38 : decode cd_Clock_drawDay 38 = .ok (.aload_n 0, 1) := by decide +kernel
theorem dc_Clock_drawDay_39 : decode cd_Clock_drawDay 39 = .ok (.getfield 60, 3) := by decide +kernel
theorem dc_Clock_drawDay_42 : decode cd_Clock_drawDay 42 = .ok (.getfield 149, 3) := by decide +kernel
theorem dc_Clock_drawDay_45 : decode cd_Clock_drawDay 45 = .ok (.iload_n 1, 1) := by decide +kernel
theorem dc_Clock_drawDay_46 : decode cd_Clock_drawDay 46 = .ok (.aload_n 0, 1) := by decide +kernel
theorem dc_Clock_drawDay_47 : decode cd_Clock_drawDay 47 = .ok (.bipush 30, 2) := by decide +kernel
theorem dc_Clock_drawDay_49 : decode cd_Clock_drawDay 49 = .ok (.invokevirtual 372, 3) := by decide +kernel
theorem dc_Clock_drawDay_52 : decode cd_Clock_drawDay 52 = .ok (.iastore, 1) := by decide +kernel
theorem dc_Clock_drawDay_53 : decode cd_Clock_drawDay 53 = .ok (.iinc 1 1, 3) := by decide +kernel
theorem dc_Clock_drawDay_56 : decode cd_Clock_drawDay 56 = .ok (.goto (-37), 3) := by decide +kernel
theorem dc_Clock_drawDay_59 : decode cd_Clock_drawDay 59 = .ok (.return_, 1) := by decide +kernel
theorem dc_Hills_isTold_0 : decode cd_Hills_isTold 0 = .ok (.aload_n 0, 1) := by decide +kernel
theorem dc_Hills_isTold_1 : decode cd_Hills_isTold 1 = .ok (.getfield 9, 3) := by decide +kernel
theorem dc_Hills_isTold_4 : decode cd_Hills_isTold 4 = .ok (.aload_n 0, 1) := by decide +kernel
theorem dc_Hills_isTold_5 : decode cd_Hills_isTold 5 = .ok (.getfield 54, 3) := by decide +kernel
theorem dc_Hills_isTold_8 : decode cd_Hills_isTold 8 = .ok (.lload_n 1, 1) := by decide +kernel
theorem dc_Hills_isTold_9 : decode cd_Hills_isTold 9 = .ok (.invokestatic 77, 3) := by decide +kernel
theorem dc_Hills_isTold_12 : decode cd_Hills_isTold 12 = .ok (.iconst (-1), 1) := by decide +kernel
theorem dc_Hills_isTold_13 : decode cd_Hills_isTold 13 = .ok (.if_icmp .ne 35, 3) := by decide +kernel
theorem dc_Hills_isTold_16 : decode cd_Hills_isTold 16 = .ok (.aload_n 0, 1) := by decide +kernel
theorem dc_Hills_isTold_17 : decode cd_Hills_isTold 17 = .ok (.getfield 15, 3) := by decide +kernel
theorem dc_Hills_isTold_20 : decode cd_Hills_isTold 20 = .ok (.aload_n 0, 1) := by decide +kernel
theorem dc_Hills_isTold_21 : decode cd_Hills_isTold 21 = .ok (.getfield 58, 3) := by decide +kernel
theorem dc_Hills_isTold_24 : decode cd_Hills_isTold 24 = .ok (.lload_n 1, 1) := by decide +kernel
theorem dc_Hills_isTold_25 : decode cd_Hills_isTold 25 = .ok (.invokestatic 77, 3) := by decide +kernel
theorem dc_Hills_isTold_28 : decode cd_Hills_isTold 28 = .ok (.iconst (-1), 1) := by decide +kernel
theorem dc_Hills_isTold_29 : decode cd_Hills_isTold 29 = .ok (.if_icmp .ne 19, 3) := by decide +kernel
theorem dc_Hills_isTold_32 : decode cd_Hills_isTold 32 = .ok (.aload_n 0, 1) := by decide +kernel
theorem dc_Hills_isTold_33 : decode cd_Hills_isTold 33 = .ok (.getfield 18, 3) := by decide +kernel
theorem dc_Hills_isTold_36 : decode cd_Hills_isTold 36 = .ok (.aload_n 0, 1) := by decide +kernel
theorem dc_Hills_isTold_37 : decode cd_Hills_isTold 37 = .ok (.getfield 61, 3) := by decide +kernel
theorem dc_Hills_isTold_40 : decode cd_Hills_isTold 40 = .ok (.lload_n 1, 1) := by decide +kernel
theorem dc_Hills_isTold_41 : decode cd_Hills_isTold 41 = .ok (.invokestatic 77, 3) := by decide +kernel
theorem dc_Hills_isTold_44 : decode cd_Hills_isTold 44 = .ok (.iconst (-1), 1) := by decide +kernel
theorem dc_Hills_isTold_45 : decode cd_Hills_isTold 45 = .ok (.if_icmp .eq 7, 3) := by decide +kernel
theorem dc_Hills_isTold_48 : decode cd_Hills_isTold 48 = .ok (.iconst 1, 1) := by decide +kernel
theorem dc_Hills_isTold_49 : decode cd_Hills_isTold 49 = .ok (.goto 4, 3) := by decide +kernel
theorem dc_Hills_isTold_52 : decode cd_Hills_isTold 52 = .ok (.iconst 0, 1) := by decide +kernel
theorem dc_Hills_isTold_53 : decode cd_Hills_isTold 53 = .ok (.ireturn, 1) := by decide +kernel
theorem dc_Hills_findWays_0 : decode cd_Hills_findWays 0 = .ok (.iconst 0, 1) := by decide +kernel
theorem dc_Hills_findWays_1 : decode cd_Hills_findWays 1 = .ok (.istore_n 1, 1) := by decide +kernel
theorem dc_Hills_findWays_2 : decode cd_Hills_findWays 2 = .ok (.iload_n 1, 1) := by decide +kernel
theorem dc_Hills_findWays_3 : decode cd_Hills_findWays 3 = .ok (.aload_n 0, 1) := by decide +kernel
theorem dc_Hills_findWays_4 : decode cd_Hills_findWays 4 = .ok (.getfield 54, 3) := by decide +kernel
theorem dc_Hills_findWays_7 : decode cd_Hills_findWays 7 = .ok (.if_icmp .ge 66, 3) := by decide +kernel
theorem dc_Hills_findWays_10 : decode cd_Hills_findWays 10 = .ok (.iconst 0, 1) := by decide +kernel
theorem dc_Hills_findWays_11 : decode cd_Hills_findWays 11 = .ok (.istore_n 2, 1) := by decide +kernel
theorem dc_Hills_findWays_12 : decode cd_Hills_findWays 12 = .ok (.iload_n 2, 1) := by decide +kernel
theorem dc_Hills_findWays_13 : decode cd_Hills_findWays 13 = .ok (.aload_n 0, 1) := by decide +kernel
theorem dc_Hills_findWays_14 : decode cd_Hills_findWays 14 = .ok (.getfield 54, 3) := by decide +kernel
theorem dc_Hills_findWays_17 : decode cd_Hills_findWays 17 = .ok (.if_icmp .ge 50, 3) := by decide +kernel
theorem dc_Hills_findWays_20 : decode cd_Hills_findWays 20 = .ok (.aload_n 0, 1) := by decide +kernel
theorem dc_Hills_findWays_21 : decode cd_Hills_findWays 21 = .ok (.getfield 21, 3) := by decide +kernel
theorem dc_Hills_findWays_24 : decode cd_Hills_findWays 24 = .ok (.iload_n 1, 1) := by decide +kernel
theorem dc_Hills_findWays_25 : decode cd_Hills_findWays 25 = .ok (.bipush 6, 2) := by decide +kernel
theorem dc_Hills_findWays_27 : decode cd_Hills_findWays 27 = .ok (.imul, 1) := by decide +kernel
theorem dc_Hills_findWays_28 : decode cd_Hills_findWays 28 = .ok (.iload_n 2, 1) := by decide +kernel
theorem dc_Hills_findWays_29 : decode cd_Hills_findWays 29 = .ok (.iadd, 1) := by decide +kernel
theorem dc_Hills_findWays_30 : decode cd_Hills_findWays 30 = .ok (.iaload, 1) := by decide +kernel
theorem dc_Hills_findWays_31 : decode cd_Hills_findWays 31 = .ok (.istore_n 3, 1) := by decide +kernel
theorem dc_Hills_findWays_32 : decode cd_Hills_findWays 32 = .ok (.aload_n 0, 1) := by decide +kernel
theorem dc_Hills_findWays_33 : decode cd_Hills_findWays 33 = .ok (.getfield 25, 3) := by decide +kernel
theorem dc_Hills_findWays_36 : decode cd_Hills_findWays 36 = .ok (.iload_n 1, 1) := by decide +kernel
theorem dc_Hills_findWays_37 : decode cd_Hills_findWays 37 = .ok (.bipush 6, 2) := by decide +kernel
theorem dc_Hills_findWays_39 : decode cd_Hills_findWays 39 = .ok (.imul, 1) := by decide +kernel
theorem dc_Hills_findWays_40 : decode cd_Hills_findWays 40 = .ok (.iload_n 2, 1) := by decide +kernel
theorem dc_Hills_findWays_41 : decode cd_Hills_findWays 41 = .ok (.iadd, 1) := by decide +kernel
theorem dc_Hills_findWays_42 : decode cd_Hills_findWays 42 = .ok (.iload_n 1, 1) := by decide +kernel
theorem dc_Hills_findWays_43 : decode cd_Hills_findWays 43 = .ok (.iload_n 2, 1) := by decide +kernel
theorem dc_Hills_findWays_44 : decode cd_Hills_findWays 44 = .ok (.if_icmp .ne 7, 3) := by decide +kernel
theorem dc_Hills_findWays_47 : decode cd_Hills_findWays 47 = .ok (.iconst 0, 1) := by decide +kernel
theorem dc_Hills_findWays_48 : decode cd_Hills_findWays 48 = .ok (.goto 12, 3) := by decide +kernel
theorem dc_Hills_findWays_51 : decode cd_Hills_findWays 51 = .ok (.iload_n 3, 1) := by decide +kernel
theorem dc_Hills_findWays_52 : decode cd_Hills_findWays 52 = .ok (.ifCond .le 7, 3) := by decide +kernel
theorem dc_Hills_findWays_55 : decode cd_Hills_findWays 55 = .ok (.iload_n 3, 1) := by decide +kernel
theorem dc_Hills_findWays_56 : decode cd_Hills_findWays 56 = .ok (.goto 4, 3) := by decide +kernel
theorem dc_Hills_findWays_59 : decode cd_Hills_findWays 59 = .ok (.iconst (-1), 1) := by decide +kernel
theorem dc_Hills_findWays_60 : decode cd_Hills_findWays 60 = .ok (.iastore, 1) := by decide +kernel
theorem dc_Hills_findWays_61 : decode cd_Hills_findWays 61 = .ok (.iinc 2 1, 3) := by decide +kernel
theorem dc_Hills_findWays_64 : decode cd_Hills_findWays 64 = .ok (.goto (-52), 3) := by decide +kernel
theorem dc_Hills_findWays_67 : decode cd_Hills_findWays 67 = .ok (.iinc 1 1, 3) := by decide +kernel
theorem dc_Hills_findWays_70 : decode cd_Hills_findWays 70 = .ok (.goto (-68), 3) := by decide +kernel
theorem dc_Hills_findWays_73 : decode cd_Hills_findWays 73 = .ok (.iconst 0, 1) := by decide +kernel
theorem dc_Hills_findWays_74 : decode cd_Hills_findWays 74 = .ok (.istore_n 1, 1) := by decide +kernel
theorem dc_Hills_findWays_75 : decode cd_Hills_findWays 75 = .ok (.iload_n 1, 1) := by decide +kernel
theorem dc_Hills_findWays_76 : decode cd_Hills_findWays 76 = .ok (.aload_n 0, 1) := by decide +kernel
theorem dc_Hills_findWays_77 : decode cd_Hills_findWays 77 = .ok (.getfield 54, 3) := by decide +kernel
theorem dc_Hills_findWays_80 : decode cd_Hills_findWays 80 = .ok (.if_icmp .ge 48, 3) := by decide +kernel
theorem dc_Hills_findWays_83 : decode cd_Hills_findWays 83 = .ok (.iconst 0, 1) := by decide +kernel
theorem dc_Hills_findWays_84 : decode cd_Hills_findWays 84 = .ok (.istore_n 2, 1) := by decide +kernel
theorem dc_Hills_findWays_85 : decode cd_Hills_findWays 85 = .ok (.iload_n 2, 1) := by decide +kernel
theorem dc_Hills_findWays_86 : decode cd_Hills_findWays 86 = .ok (.aload_n 0, 1) := by decide +kernel
theorem dc_Hills_findWays_87 : decode cd_Hills_findWays 87 = .ok (.getfield 54, 3) := by decide +kernel
theorem dc_Hills_findWays_90 : decode cd_Hills_findWays 90 = .ok (.if_icmp .ge 32, 3) := by decide +kernel
theorem dc_Hills_findWays_93 : decode cd_Hills_findWays 93 = .ok (.iconst 0, 1) := by decide +kernel
theorem dc_Hills_findWays_94 : decode cd_Hills_findWays 94 = .ok (.istore_n 3, 1) := by decide +kernel
theorem dc_Hills_findWays_95 : decode cd_Hills_findWays 95 = .ok (.iload_n 3, 1) := by decide +kernel
theorem dc_Hills_findWays_96 : decode cd_Hills_findWays 96 = .ok (.aload_n 0, 1) := by decide +kernel
theorem dc_Hills_findWays_97 : decode cd_Hills_findWays 97 = .ok (.getfield 54, 3) := by decide +kernel
theorem dc_Hills_findWays_100 : decode cd_Hills_findWays 100 = .ok (.if_icmp .ge 16, 3) := by decide +kernel
theorem dc_Hills_findWays_103 : decode cd_Hills_findWays 103 = .ok (.aload_n 0, 1) := by decide +kernel
theorem dc_Hills_findWays_104 : decode cd_Hills_findWays 104 = .ok (.iload_n 2, 1) := by decide +kernel
theorem dc_Hills_findWays_105 : decode cd_Hills_findWays 105 = .ok (.iload_n 1, 1) := by decide +kernel
theorem dc_Hills_findWays_106 : decode cd_Hills_findWays 106 = .ok (.iload_n 3, 1) := by decide +kernel
theorem dc_Hills_findWays_107 : decode cd_Hills_findWays 107 = .ok (.invokevirtual 83, 3) := by decide +kernel
theorem dc_Hills_findWays_110 : decode cd_Hills_findWays 110 = .ok (.iinc 3 1, 3) := by decide +kernel
theorem dc_Hills_findWays_113 : decode cd_Hills_findWays 113 = .ok (.goto (-18), 3) := by decide +kernel
theorem dc_Hills_findWays_116 : decode cd_Hills_findWays 116 = .ok (.iinc 2 1, 3) := by decide +kernel
theorem dc_Hills_findWays_119 : decode cd_Hills_findWays 119 = .ok (.goto (-34), 3) := by decide +kernel
theorem dc_Hills_findWays_122 : decode cd_Hills_findWays 122 = .ok (.iinc 1 1, 3) := by decide +kernel
theorem dc_Hills_findWays_125 : decode cd_Hills_findWays 125 = .ok (.goto (-50), 3) := by decide +kernel
theorem dc_Hills_findWays_128 : decode cd_Hills_findWays 128 = .ok (.return_, 1) := by decide +kernel
theorem dc_Law_begin_0 : decode cd_Law_begin 0 = .ok (.aload_n 0, 1) := by decide +kernel
theorem dc_Law_begin_1 : decode cd_Law_begin 1 = .ok (.iconst 0, 1) := by decide +kernel
theorem dc_Law_begin_2 : decode cd_Law_begin 2 = .ok (.putfield 18, 3) := by decide +kernel
theorem dc_Law_begin_5 : decode cd_Law_begin 5 = .ok (.aload_n 0, 1) := by decide +kernel
theorem dc_Law_begin_6 : decode cd_Law_begin 6 = .ok (.bipush (-2), 2) := by decide +kernel
theorem dc_Law_begin_8 : decode cd_Law_begin 8 = .ok (.invokevirtual 22, 3) := by decide +kernel
theorem dc_Law_begin_11 : decode cd_Law_begin 11 = .ok (.return_, 1) := by decide +kernel
theorem dc_Law_operatorOf_0 : decode cd_Law_operatorOf 0 = .ok (.iload_n 1, 1) := by decide +kernel
theorem dc_Law_operatorOf_1 : decode cd_Law_operatorOf 1 = .ok (.tableswitch 119 0 2 #[27, 59, 89], 27) := by decide +kernel
theorem dc_Law_operatorOf_28 : decode cd_Law_operatorOf 28 = .ok (.aload_n 0, 1) := by decide +kernel
theorem dc_Law_operatorOf_29 : decode cd_Law_operatorOf 29 = .ok (.getfield 43, 3) := by decide +kernel
theorem dc_Law_operatorOf_32 : decode cd_Law_operatorOf 32 = .ok (.getstatic 47, 3) := by decide +kernel
theorem dc_Law_operatorOf_35 : decode cd_Law_operatorOf 35 = .ok (.if_acmp .ne 8, 3) := by decide +kernel
theorem dc_Law_operatorOf_38 : decode cd_Law_operatorOf 38 = .ok (.bipush (-6), 2) := by decide +kernel
theorem dc_Law_operatorOf_40 : decode cd_Law_operatorOf 40 = .ok (.goto 19, 3) := by decide +kernel
theorem dc_Law_operatorOf_43 : decode cd_Law_operatorOf 43 = .ok (.aload_n 0, 1) := by decide +kernel
theorem dc_Law_operatorOf_44 : decode cd_Law_operatorOf 44 = .ok (.getfield 43, 3) := by decide +kernel
theorem dc_Law_operatorOf_47 : decode cd_Law_operatorOf 47 = .ok (.getstatic 52, 3) := by decide +kernel
theorem dc_Law_operatorOf_50 : decode cd_Law_operatorOf 50 = .ok (.if_acmp .ne 8, 3) := by decide +kernel
theorem dc_Law_operatorOf_53 : decode cd_Law_operatorOf 53 = .ok (.bipush (-7), 2) := by decide +kernel
theorem dc_Law_operatorOf_55 : decode cd_Law_operatorOf 55 = .ok (.goto 4, 3) := by decide +kernel
theorem dc_Law_operatorOf_58 : decode cd_Law_operatorOf 58 = .ok (.iconst (-1), 1) := by decide +kernel
theorem dc_Law_operatorOf_59 : decode cd_Law_operatorOf 59 = .ok (.ireturn, 1) := by decide +kernel
theorem dc_Law_operatorOf_60 : decode cd_Law_operatorOf 60 = .ok (.aload_n 0, 1) := by decide +kernel
theorem dc_Law_operatorOf_61 : decode cd_Law_operatorOf 61 = .ok (.bipush 60, 2) := by decide +kernel
theorem dc_Law_operatorOf_63 : decode cd_Law_operatorOf 63 = .ok (.invokevirtual 55, 3) := by decide +kernel
theorem dc_Law_operatorOf_66 : decode cd_Law_operatorOf 66 = .ok (.ifCond .eq 8, 3) := by decide +kernel
theorem dc_Law_operatorOf_69 : decode cd_Law_operatorOf 69 = .ok (.bipush (-8), 2) := by decide +kernel
