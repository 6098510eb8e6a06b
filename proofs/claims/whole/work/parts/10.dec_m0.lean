theorem dc_Model_thrown_0 : decode cd_Model_thrown 0 = .ok (.aload_n 0, 1) := by decide +kernel
theorem dc_Model_thrown_1 : decode cd_Model_thrown 1 = .ok (.getfield 183, 3) := by decide +kernel
theorem dc_Model_thrown_4 : decode cd_Model_thrown 4 = .ok (.ireturn, 1) := by decide +kernel
theorem dc_Model_within_0 : decode cd_Model_within 0 = .ok (.iload_n 0, 1) := by decide +kernel
theorem dc_Model_within_1 : decode cd_Model_within 1 = .ok (.iload_n 1, 1) := by decide +kernel
theorem dc_Model_within_2 : decode cd_Model_within 2 = .ok (.if_icmp .lt 12, 3) := by decide +kernel
theorem dc_Model_within_5 : decode cd_Model_within 5 = .ok (.iload_n 0, 1) := by decide +kernel
theorem dc_Model_within_6 : decode cd_Model_within 6 = .ok (.iload_n 2, 1) := by decide +kernel
theorem dc_Model_within_7 : decode cd_Model_within 7 = .ok (.if_icmp .gt 7, 3) := by decide +kernel
theorem dc_Model_within_10 : decode cd_Model_within 10 = .ok (.iconst 1, 1) := by decide +kernel
theorem dc_Model_within_11 : decode cd_Model_within 11 = .ok (.goto 4, 3) := by decide +kernel
theorem dc_Model_within_14 : decode cd_Model_within 14 = .ok (.iconst 0, 1) := by decide +kernel
theorem dc_Model_within_15 : decode cd_Model_within 15 = .ok (.ireturn, 1) := by decide +kernel
theorem dc_Model_between_0 : decode cd_Model_between 0 = .ok (.iload_n 0, 1) := by decide +kernel
theorem dc_Model_between_1 : decode cd_Model_between 1 = .ok (.iload_n 1, 1) := by decide +kernel
theorem dc_Model_between_2 : decode cd_Model_between 2 = .ok (.if_icmp .ge 7, 3) := by decide +kernel
theorem dc_Model_between_5 : decode cd_Model_between 5 = .ok (.iload_n 1, 1) := by decide +kernel
theorem dc_Model_between_6 : decode cd_Model_between 6 = .ok (.goto 13, 3) := by decide +kernel
theorem dc_Model_between_9 : decode cd_Model_between 9 = .ok (.iload_n 0, 1) := by decide +kernel
theorem dc_Model_between_10 : decode cd_Model_between 10 = .ok (.iload_n 2, 1) := by decide +kernel
theorem dc_Model_between_11 : decode cd_Model_between 11 = .ok (.if_icmp .le 7, 3) := by decide +kernel
theorem dc_Model_between_14 : decode cd_Model_between 14 = .ok (.iload_n 2, 1) := by decide +kernel
theorem dc_Model_between_15 : decode cd_Model_between 15 = .ok (.goto 4, 3) := by decide +kernel
theorem dc_Model_between_18 : decode cd_Model_between 18 = .ok (.iload_n 0, 1) := by decide +kernel
theorem dc_Model_between_19 : decode cd_Model_between 19 = .ok (.ireturn, 1) := by decide +kernel
theorem dc_Model_away_0 : decode cd_Model_away 0 = .ok (.iload_n 0, 1) := by decide +kernel
theorem dc_Model_away_1 : decode cd_Model_away 1 = .ok (.iload_n 1, 1) := by decide +kernel
theorem dc_Model_away_2 : decode cd_Model_away 2 = .ok (.if_icmp .ge 9, 3) := by decide +kernel
theorem dc_Model_away_5 : decode cd_Model_away 5 = .ok (.iload_n 1, 1) := by decide +kernel
theorem dc_Model_away_6 : decode cd_Model_away 6 = .ok (.iload_n 0, 1) := by decide +kernel
theorem dc_Model_away_7 : decode cd_Model_away 7 = .ok (.isub, 1) := by decide +kernel
theorem dc_Model_away_8 : decode cd_Model_away 8 = .ok (.goto 6, 3) := by decide +kernel
theorem dc_Model_away_11 : decode cd_Model_away 11 = .ok (.iload_n 0, 1) := by decide +kernel
theorem dc_Model_away_12 : decode cd_Model_away 12 = .ok (.iload_n 1, 1) := by decide +kernel
theorem dc_Model_away_13 : decode cd_Model_away 13 = .ok (.isub, 1) := by decide +kernel
theorem dc_Model_away_14 : decode cd_Model_away 14 = .ok (.ireturn, 1) := by decide +kernel
theorem dc_Model_bits_0 : decode cd_Model_bits 0 = .ok (.iconst 0, 1) := by decide +kernel
theorem dc_Model_bits_1 : decode cd_Model_bits 1 = .ok (.istore_n 1, 1) := by decide +kernel
theorem dc_Model_bits_2 : decode cd_Model_bits 2 = .ok (.iconst 0, 1) := by decide +kernel
theorem dc_Model_bits_3 : decode cd_Model_bits 3 = .ok (.istore_n 2, 1) := by decide +kernel
theorem dc_Model_bits_4 : decode cd_Model_bits 4 = .ok (.iload_n 2, 1) := by decide +kernel
theorem dc_Model_bits_5 : decode cd_Model_bits 5 = .ok (.bipush 6, 2) := by decide +kernel
theorem dc_Model_bits_7 : decode cd_Model_bits 7 = .ok (.if_icmp .ge 17, 3) := by decide +kernel
theorem dc_Model_bits_10 : decode cd_Model_bits 10 = .ok (.iload_n 1, 1) := by decide +kernel
theorem dc_Model_bits_11 : decode cd_Model_bits 11 = .ok (.iload_n 0, 1) := by decide +kernel
theorem dc_Model_bits_12 : decode cd_Model_bits 12 = .ok (.iload_n 2, 1) := by decide +kernel
theorem dc_Model_bits_13 : decode cd_Model_bits 13 = .ok (.ishr, 1) := by decide +kernel
theorem dc_Model_bits_14 : decode cd_Model_bits 14 = .ok (.iconst 1, 1) := by decide +kernel
theorem dc_Model_bits_15 : decode cd_Model_bits 15 = .ok (.iand, 1) := by decide +kernel
theorem dc_Model_bits_16 : decode cd_Model_bits 16 = .ok (.iadd, 1) := by decide +kernel
theorem dc_Model_bits_17 : decode cd_Model_bits 17 = .ok (.istore_n 1, 1) := by decide +kernel
theorem dc_Model_bits_18 : decode cd_Model_bits 18 = .ok (.iinc 2 1, 3) := by decide +kernel
theorem dc_Model_bits_21 : decode cd_Model_bits 21 = .ok (.goto (-17), 3) := by decide +kernel
theorem dc_Model_bits_24 : decode cd_Model_bits 24 = .ok (.iload_n 1, 1) := by decide +kernel
theorem dc_Model_bits_25 : decode cd_Model_bits 25 = .ok (.ireturn, 1) := by decide +kernel
theorem dc_Model_feed_0 : decode cd_Model_feed 0 = .ok (.aload_n 0, 1) := by decide +kernel
theorem dc_Model_feed_1 : decode cd_Model_feed 1 = .ok (.iconst 0, 1) := by decide +kernel
theorem dc_Model_feed_2 : decode cd_Model_feed 2 = .ok (.putfield 183, 3) := by decide +kernel
theorem dc_Model_feed_5 : decode cd_Model_feed 5 = .ok (.iconst 0, 1) := by decide +kernel
theorem dc_Model_feed_6 : decode cd_Model_feed 6 = .ok (.istore 7, 2) := by decide +kernel
theorem dc_Model_feed_8 : decode cd_Model_feed 8 = .ok (.iload 7, 2) := by decide +kernel
theorem dc_Model_feed_10 : decode cd_Model_feed 10 = .ok (.bipush 24, 2) := by decide +kernel
theorem dc_Model_feed_12 : decode cd_Model_feed 12 = .ok (.if_icmp .ge 108, 3) := by decide +kernel
theorem dc_Model_feed_15 : decode cd_Model_feed 15 = .ok (.iload 7, 2) := by decide +kernel
theorem dc_Model_feed_17 : decode cd_Model_feed 17 = .ok (.bipush 8, 2) := by decide +kernel
theorem dc_Model_feed_19 : decode cd_Model_feed 19 = .ok (.if_icmp .ge 7, 3) := by decide +kernel
theorem dc_Model_feed_22 : decode cd_Model_feed 22 = .ok (.lload_n 1, 1) := by decide +kernel
theorem dc_Model_feed_23 : decode cd_Model_feed 23 = .ok (.goto 16, 3) := by decide +kernel
theorem dc_Model_feed_26 : decode cd_Model_feed 26 = .ok (.iload 7, 2) := by decide +kernel
theorem dc_Model_feed_28 : decode cd_Model_feed 28 = .ok (.bipush 16, 2) := by decide +kernel
theorem dc_Model_feed_30 : decode cd_Model_feed 30 = .ok (.if_icmp .ge 7, 3) := by decide +kernel
theorem dc_Model_feed_33 : decode cd_Model_feed 33 = .ok (.lload_n 3, 1) := by decide +kernel
theorem dc_Model_feed_34 : decode cd_Model_feed 34 = .ok (.goto 5, 3) := by decide +kernel
theorem dc_Model_feed_37 : decode cd_Model_feed 37 = .ok (.lload 5, 2) := by decide +kernel
theorem dc_Model_feed_39 : decode cd_Model_feed 39 = .ok (.lstore 8, 2) := by decide +kernel
theorem dc_Model_feed_41 : decode cd_Model_feed 41 = .ok (.lload 8, 2) := by decide +kernel
theorem dc_Model_feed_43 : decode cd_Model_feed 43 = .ok (.bipush 56, 2) := by decide +kernel
theorem dc_Model_feed_45 : decode cd_Model_feed 45 = .ok (.bipush 8, 2) := by decide +kernel
theorem dc_Model_feed_47 : decode cd_Model_feed 47 = .ok (.iload 7, 2) := by decide +kernel
theorem dc_Model_feed_49 : decode cd_Model_feed 49 = .ok (.bipush 7, 2) := by decide +kernel
theorem dc_Model_feed_51 : decode cd_Model_feed 51 = .ok (.iand, 1) := by decide +kernel
theorem dc_Model_feed_52 : decode cd_Model_feed 52 = .ok (.imul, 1) := by decide +kernel
theorem dc_Model_feed_53 : decode cd_Model_feed 53 = .ok (.isub, 1) := by decide +kernel
theorem dc_Model_feed_54 : decode cd_Model_feed 54 = .ok (.lushr, 1) := by decide +kernel
theorem dc_Model_feed_55 : decode cd_Model_feed 55 = .ok (.ldc2_w 187, 3) := by decide +kernel
theorem dc_Model_feed_58 : decode cd_Model_feed 58 = .ok (.land, 1) := by decide +kernel
theorem dc_Model_feed_59 : decode cd_Model_feed 59 = .ok (.l2i, 1) := by decide +kernel
theorem dc_Model_feed_60 : decode cd_Model_feed 60 = .ok (.istore 10, 2) := by decide +kernel
theorem dc_Model_feed_62 : decode cd_Model_feed 62 = .ok (.aload_n 0, 1) := by decide +kernel
theorem dc_Model_feed_63 : decode cd_Model_feed 63 = .ok (.getfield 189, 3) := by decide +kernel
theorem dc_Model_feed_66 : decode cd_Model_feed 66 = .ok (.sipush 1000, 3) := by decide +kernel
theorem dc_Model_feed_69 : decode cd_Model_feed 69 = .ok (.if_icmp .ge 45, 3) := by decide +kernel
theorem dc_Model_feed_72 : decode cd_Model_feed 72 = .ok (.iload 10, 2) := by decide +kernel
theorem dc_Model_feed_74 : decode cd_Model_feed 74 = .ok (.bipush 10, 2) := by decide +kernel
theorem dc_Model_feed_76 : decode cd_Model_feed 76 = .ok (.if_icmp .eq 17, 3) := by decide +kernel
theorem dc_Model_feed_79 : decode cd_Model_feed 79 = .ok (.iload 10, 2) := by decide +kernel
theorem dc_Model_feed_81 : decode cd_Model_feed 81 = .ok (.bipush 32, 2) := by decide +kernel
theorem dc_Model_feed_83 : decode cd_Model_feed 83 = .ok (.if_icmp .lt 31, 3) := by decide +kernel
theorem dc_Model_feed_86 : decode cd_Model_feed 86 = .ok (.iload 10, 2) := by decide +kernel
theorem dc_Model_feed_88 : decode cd_Model_feed 88 = .ok (.bipush 126, 2) := by decide +kernel
theorem dc_Model_feed_90 : decode cd_Model_feed 90 = .ok (.if_icmp .gt 24, 3) := by decide +kernel
theorem dc_Model_feed_93 : decode cd_Model_feed 93 = .ok (.aload_n 0, 1) := by decide +kernel
theorem dc_Model_feed_94 : decode cd_Model_feed 94 = .ok (.getfield 7, 3) := by decide +kernel
theorem dc_Model_feed_97 : decode cd_Model_feed 97 = .ok (.aload_n 0, 1) := by decide +kernel
theorem dc_Model_feed_98 : decode cd_Model_feed 98 = .ok (.getfield 189, 3) := by decide +kernel
theorem dc_Model_feed_101 : decode cd_Model_feed 101 = .ok (.iload 10, 2) := by decide +kernel
theorem dc_Model_feed_103 : decode cd_Model_feed 103 = .ok (.iastore, 1) := by decide +kernel
theorem dc_Model_feed_104 : decode cd_Model_feed 104 = .ok (.aload_n 0, 1) := by decide +kernel
theorem dc_Model_feed_105 : decode cd_Model_feed 105 = .ok (.dup, 1) := by decide +kernel
theorem dc_Model_feed_106 : decode cd_Model_feed 106 = .ok (.getfield 189, 3) := by decide +kernel
theorem dc_Model_feed_109 : decode cd_Model_feed 109 = .ok (.iconst 1, 1) := by decide +kernel
theorem dc_Model_feed_110 : decode cd_Model_feed 110 = .ok (.iadd, 1) := by decide +kernel
theorem dc_Model_feed_111 : decode cd_Model_feed 111 = .ok (.putfield 189, 3) := by decide +kernel
theorem dc_Model_feed_114 : decode cd_Model_feed 114 = .ok (.iinc 7 1, 3) := by decide +kernel
theorem dc_Model_feed_117 : decode cd_Model_feed 117 = .ok (.goto (-109), 3) := by decide +kernel
theorem dc_Model_feed_120 : decode cd_Model_feed 120 = .ok (.aload_n 0, 1) := by decide +kernel
theorem dc_Model_feed_121 : decode cd_Model_feed 121 = .ok (.getfield 189, 3) := by decide +kernel
theorem dc_Model_feed_124 : decode cd_Model_feed 124 = .ok (.ireturn, 1) := by decide +kernel
theorem dc_Model_signAt_0 : decode cd_Model_signAt 0 = .ok (.iload_n 1, 1) := by decide +kernel
theorem dc_Model_signAt_1 : decode cd_Model_signAt 1 = .ok (.aload_n 0, 1) := by decide +kernel
theorem dc_Model_signAt_2 : decode cd_Model_signAt 2 = .ok (.getfield 192, 3) := by decide +kernel
theorem dc_Model_signAt_5 : decode cd_Model_signAt 5 = .ok (.if_icmp .ge 12, 3) := by decide +kernel
theorem dc_Model_signAt_8 : decode cd_Model_signAt 8 = .ok (.aload_n 0, 1) := by decide +kernel
theorem dc_Model_signAt_9 : decode cd_Model_signAt 9 = .ok (.getfield 7, 3) := by decide +kernel
theorem dc_Model_signAt_12 : decode cd_Model_signAt 12 = .ok (.iload_n 1, 1) := by decide +kernel
theorem dc_Model_signAt_13 : decode cd_Model_signAt 13 = .ok (.iaload, 1) := by decide +kernel
theorem dc_Model_signAt_14 : decode cd_Model_signAt 14 = .ok (.goto 4, 3) := by decide +kernel
theorem dc_Model_signAt_17 : decode cd_Model_signAt 17 = .ok (.iconst 0, 1) := by decide +kernel
theorem dc_Model_signAt_18 : decode cd_Model_signAt 18 = .ok (.ireturn, 1) := by decide +kernel
theorem dc_Model_isWord_0 : decode cd_Model_isWord 0 = .ok (.aload_n 0, 1) := by decide +kernel
theorem dc_Model_isWord_1 : decode cd_Model_isWord 1 = .ok (.getfield 208, 3) := by decide +kernel
theorem dc_Model_isWord_4 : decode cd_Model_isWord 4 = .ok (.iconst 1, 1) := by decide +kernel
theorem dc_Model_isWord_5 : decode cd_Model_isWord 5 = .ok (.if_icmp .ne 16, 3) := by decide +kernel
theorem dc_Model_isWord_8 : decode cd_Model_isWord 8 = .ok (.aload_n 0, 1) := by decide +kernel
theorem dc_Model_isWord_9 : decode cd_Model_isWord 9 = .ok (.getfield 201, 3) := by decide +kernel
theorem dc_Model_isWord_12 : decode cd_Model_isWord 12 = .ok (.lload_n 1, 1) := by decide +kernel
theorem dc_Model_isWord_13 : decode cd_Model_isWord 13 = .ok (.lcmp, 1) := by decide +kernel
theorem dc_Model_isWord_14 : decode cd_Model_isWord 14 = .ok (.ifCond .ne 7, 3) := by decide +kernel
theorem dc_Model_isWord_17 : decode cd_Model_isWord 17 = .ok (.iconst 1, 1) := by decide +kernel
theorem dc_Model_isWord_18 : decode cd_Model_isWord 18 = .ok (.goto 4, 3) := by decide +kernel
theorem dc_Model_isWord_21 : decode cd_Model_isWord 21 = .ok (.iconst 0, 1) := by decide +kernel
theorem dc_Model_isWord_22 : decode cd_Model_isWord 22 = .ok (.ireturn, 1) := by decide +kernel
theorem dc_Model_isSign_0 : decode cd_Model_isSign 0 = .ok (.aload_n 0, 1) := by decide +kernel
theorem dc_Model_isSign_1 : decode cd_Model_isSign 1 = .ok (.getfield 208, 3) := by decide +kernel
theorem dc_Model_isSign_4 : decode cd_Model_isSign 4 = .ok (.iconst 3, 1) := by decide +kernel
theorem dc_Model_isSign_5 : decode cd_Model_isSign 5 = .ok (.if_icmp .ne 20, 3) := by decide +kernel
theorem dc_Model_isSign_8 : decode cd_Model_isSign 8 = .ok (.aload_n 0, 1) := by decide +kernel
theorem dc_Model_isSign_9 : decode cd_Model_isSign 9 = .ok (.getfield 7, 3) := by decide +kernel
theorem dc_Model_isSign_12 : decode cd_Model_isSign 12 = .ok (.aload_n 0, 1) := by decide +kernel
theorem dc_Model_isSign_13 : decode cd_Model_isSign 13 = .ok (.getfield 198, 3) := by decide +kernel
theorem dc_Model_isSign_16 : decode cd_Model_isSign 16 = .ok (.iaload, 1) := by decide +kernel
theorem dc_Model_isSign_17 : decode cd_Model_isSign 17 = .ok (.iload_n 1, 1) := by decide +kernel
theorem dc_Model_isSign_18 : decode cd_Model_isSign 18 = .ok (.if_icmp .ne 7, 3) := by decide +kernel
theorem dc_Model_isSign_21 : decode cd_Model_isSign 21 = .ok (.iconst 1, 1) := by decide +kernel
theorem dc_Model_isSign_22 : decode cd_Model_isSign 22 = .ok (.goto 4, 3) := by decide +kernel
theorem dc_Model_isSign_25 : decode cd_Model_isSign 25 = .ok (.iconst 0, 1) := by decide +kernel
theorem dc_Model_isSign_26 : decode cd_Model_isSign 26 = .ok (.ireturn, 1) := by decide +kernel
theorem dc_Model_fails_0 : decode cd_Model_fails 0 = .ok (.aload_n 0, 1) := by decide +kernel
theorem dc_Model_fails_1 : decode cd_Model_fails 1 = .ok (.iload_n 1, 1) := by decide +kernel
theorem dc_Model_fails_2 : decode cd_Model_fails 2 = .ok (.bipush 16, 2) := by decide +kernel
theorem dc_Model_fails_4 : decode cd_Model_fails 4 = .ok (.aload_n 0, 1) := by decide +kernel
theorem dc_Model_fails_5 : decode cd_Model_fails 5 = .ok (.getfield 198, 3) := by decide +kernel
theorem dc_Model_fails_8 : decode cd_Model_fails 8 = .ok (.imul, 1) := by decide +kernel
theorem dc_Model_fails_9 : decode cd_Model_fails 9 = .ok (.iadd, 1) := by decide +kernel
theorem dc_Model_fails_10 : decode cd_Model_fails 10 = .ok (.putfield 219, 3) := by decide +kernel
theorem dc_Model_fails_13 : decode cd_Model_fails 13 = .ok (.iconst 0, 1) := by decide +kernel
theorem dc_Model_fails_14 : decode cd_Model_fails 14 = .ok (.ireturn, 1) := by decide +kernel
theorem dc_Model_puts_0 : decode cd_Model_puts 0 = .ok (.aload_n 0, 1) := by decide +kernel
theorem dc_Model_puts_1 : decode cd_Model_puts 1 = .ok (.getfield 68, 3) := by decide +kernel
theorem dc_Model_puts_4 : decode cd_Model_puts 4 = .ok (.aload_n 0, 1) := by decide +kernel
theorem dc_Model_puts_5 : decode cd_Model_puts 5 = .ok (.getfield 222, 3) := by decide +kernel
theorem dc_Model_puts_8 : decode cd_Model_puts 8 = .ok (.iload_n 1, 1) := by decide +kernel
theorem dc_Model_puts_9 : decode cd_Model_puts 9 = .ok (.iastore, 1) := by decide +kernel
theorem dc_Model_puts_10 : decode cd_Model_puts 10 = .ok (.aload_n 0, 1) := by decide +kernel
theorem dc_Model_puts_11 : decode cd_Model_puts 11 = .ok (.dup, 1) := by decide +kernel
theorem dc_Model_puts_12 : decode cd_Model_puts 12 = .ok (.getfield 222, 3) := by decide +kernel
theorem dc_Model_puts_15 : decode cd_Model_puts 15 = .ok (.iconst 1, 1) := by decide +kernel
theorem dc_Model_puts_16 : decode cd_Model_puts 16 = .ok (.iadd, 1) := by decide +kernel
theorem dc_Model_puts_17 : decode cd_Model_puts 17 = .ok (.putfield 222, 3) := by decide +kernel
theorem dc_Model_puts_20 : decode cd_Model_puts 20 = .ok (.return_, 1) := by decide +kernel
theorem dc_Model_fact_0 : decode cd_Model_fact 0 = .ok (.aload_n 0, 1) := by decide +kernel
theorem dc_Model_fact_1 : decode cd_Model_fact 1 = .ok (.getfield 208, 3) := by decide +kernel
theorem dc_Model_fact_4 : decode cd_Model_fact 4 = .ok (.iconst 1, 1) := by decide +kernel
theorem dc_Model_fact_5 : decode cd_Model_fact 5 = .ok (.if_icmp .eq 5, 3) := by decide +kernel
theorem dc_Model_fact_8 : decode cd_Model_fact 8 = .ok (.iconst 0, 1) := by decide +kernel
theorem dc_Model_fact_9 : decode cd_Model_fact 9 = .ok (.ireturn, 1) := by decide +kernel
theorem dc_Model_fact_10 : decode cd_Model_fact 10 = .ok (.aload_n 0, 1) := by decide +kernel
theorem dc_Model_fact_11 : decode cd_Model_fact 11 = .ok (.getfield 201, 3) := by decide +kernel
theorem dc_Model_fact_14 : decode cd_Model_fact 14 = .ok (.ldc2_w 225, 3) := by decide +kernel
theorem dc_Model_fact_17 : decode cd_Model_fact 17 = .ok (.lcmp, 1) := by decide +kernel
theorem dc_Model_fact_18 : decode cd_Model_fact 18 = .ok (.ifCond .ne 7, 3) := by decide +kernel
theorem dc_Model_fact_21 : decode cd_Model_fact 21 = .ok (.iconst 1, 1) := by decide +kernel
theorem dc_Model_fact_22 : decode cd_Model_fact 22 = .ok (.goto 34, 3) := by decide +kernel
theorem dc_Model_fact_25 : decode cd_Model_fact 25 = .ok (.aload_n 0, 1) := by decide +kernel
theorem dc_Model_fact_26 : decode cd_Model_fact 26 = .ok (.getfield 201, 3) := by decide +kernel
theorem dc_Model_fact_29 : decode cd_Model_fact 29 = .ok (.ldc2_w 227, 3) := by decide +kernel
theorem dc_Model_fact_32 : decode cd_Model_fact 32 = .ok (.lcmp, 1) := by decide +kernel
theorem dc_Model_fact_33 : decode cd_Model_fact 33 = .ok (.ifCond .ne 7, 3) := by decide +kernel
theorem dc_Model_fact_36 : decode cd_Model_fact 36 = .ok (.iconst 2, 1) := by decide +kernel
theorem dc_Model_fact_37 : decode cd_Model_fact 37 = .ok (.goto 19, 3) := by decide +kernel
theorem dc_Model_fact_40 : decode cd_Model_fact 40 = .ok (.aload_n 0, 1) := by decide +kernel
theorem dc_Model_fact_41 : decode cd_Model_fact 41 = .ok (.getfield 201, 3) := by decide +kernel
theorem dc_Model_fact_44 : decode cd_Model_fact 44 = .ok (.ldc2_w 229, 3) := by decide +kernel
theorem dc_Model_fact_47 : decode cd_Model_fact 47 = .ok (.lcmp, 1) := by decide +kernel
theorem dc_Model_fact_48 : decode cd_Model_fact 48 = .ok (.ifCond .ne 7, 3) := by decide +kernel
theorem dc_Model_fact_51 : decode cd_Model_fact 51 = .ok (.iconst 3, 1) := by decide +kernel
theorem dc_Model_fact_52 : decode cd_Model_fact 52 = .ok (.goto 4, 3) := by decide +kernel
theorem dc_Model_fact_55 : decode cd_Model_fact 55 = .ok (.iconst 0, 1) := by decide +kernel
theorem dc_Model_fact_56 : decode cd_Model_fact 56 = .ok (.ireturn, 1) := by decide +kernel
theorem dc_Model_opens_0 : decode cd_Model_opens 0 = .ok (.aload_n 0, 1) := by decide +kernel
theorem dc_Model_opens_1 : decode cd_Model_opens 1 = .ok (.getfield 81, 3) := by decide +kernel
theorem dc_Model_opens_4 : decode cd_Model_opens 4 = .ok (.iload_n 1, 1) := by decide +kernel
theorem dc_Model_opens_5 : decode cd_Model_opens 5 = .ok (.iconst 0, 1) := by decide +kernel
theorem dc_Model_opens_6 : decode cd_Model_opens 6 = .ok (.iastore, 1) := by decide +kernel
theorem dc_Model_opens_7 : decode cd_Model_opens 7 = .ok (.aload_n 0, 1) := by decide +kernel
theorem dc_Model_opens_8 : decode cd_Model_opens 8 = .ok (.getfield 87, 3) := by decide +kernel
theorem dc_Model_opens_11 : decode cd_Model_opens 11 = .ok (.iload_n 1, 1) := by decide +kernel
theorem dc_Model_opens_12 : decode cd_Model_opens 12 = .ok (.iconst 0, 1) := by decide +kernel
theorem dc_Model_opens_13 : decode cd_Model_opens 13 = .ok (.iastore, 1) := by decide +kernel
theorem dc_Model_opens_14 : decode cd_Model_opens 14 = .ok (.aload_n 0, 1) := by decide +kernel
theorem dc_Model_opens_15 : decode cd_Model_opens 15 = .ok (.getfield 90, 3) := by decide +kernel
theorem dc_Model_opens_18 : decode cd_Model_opens 18 = .ok (.iload_n 1, 1) := by decide +kernel
theorem dc_Model_opens_19 : decode cd_Model_opens 19 = .ok (.iconst 0, 1) := by decide +kernel
theorem dc_Model_opens_20 : decode cd_Model_opens 20 = .ok (.iastore, 1) := by decide +kernel
theorem dc_Model_opens_21 : decode cd_Model_opens 21 = .ok (.aload_n 0, 1) := by decide +kernel
theorem dc_Model_opens_22 : decode cd_Model_opens 22 = .ok (.getfield 93, 3) := by decide +kernel
theorem dc_Model_opens_25 : decode cd_Model_opens 25 = .ok (.iload_n 1, 1) := by decide +kernel
theorem dc_Model_opens_26 : decode cd_Model_opens 26 = .ok (.bipush 20, 2) := by decide +kernel
theorem dc_Model_opens_28 : decode cd_Model_opens 28 = .ok (.iastore, 1) := by decide +kernel
theorem dc_Model_opens_29 : decode cd_Model_opens 29 = .ok (.aload_n 0, 1) := by decide +kernel
theorem dc_Model_opens_30 : decode cd_Model_opens 30 = .ok (.getfield 99, 3) := by decide +kernel
theorem dc_Model_opens_33 : decode cd_Model_opens 33 = .ok (.iload_n 1, 1) := by decide +kernel
theorem dc_Model_opens_34 : decode cd_Model_opens 34 = .ok (.iconst 0, 1) := by decide +kernel
theorem dc_Model_opens_35 : decode cd_Model_opens 35 = .ok (.iastore, 1) := by decide +kernel
theorem dc_Model_opens_36 : decode cd_Model_opens 36 = .ok (.return_, 1) := by decide +kernel
theorem dc_Model_sums_0 : decode cd_Model_sums 0 = .ok (.aload_n 0, 1) := by decide +kernel
theorem dc_Model_sums_1 : decode cd_Model_sums 1 = .ok (.getfield 90, 3) := by decide +kernel
theorem dc_Model_sums_4 : decode cd_Model_sums 4 = .ok (.iload_n 1, 1) := by decide +kernel
theorem dc_Model_sums_5 : decode cd_Model_sums 5 = .ok (.aload_n 0, 1) := by decide +kernel
theorem dc_Model_sums_6 : decode cd_Model_sums 6 = .ok (.getfield 93, 3) := by decide +kernel
theorem dc_Model_sums_9 : decode cd_Model_sums 9 = .ok (.iload_n 1, 1) := by decide +kernel
theorem dc_Model_sums_10 : decode cd_Model_sums 10 = .ok (.iaload, 1) := by decide +kernel
theorem dc_Model_sums_11 : decode cd_Model_sums 11 = .ok (.bipush 21, 2) := by decide +kernel
theorem dc_Model_sums_13 : decode cd_Model_sums 13 = .ok (.if_icmp .ne 19, 3) := by decide +kernel
theorem dc_Model_sums_16 : decode cd_Model_sums 16 = .ok (.aload_n 0, 1) := by decide +kernel
theorem dc_Model_sums_17 : decode cd_Model_sums 17 = .ok (.getfield 90, 3) := by decide +kernel
theorem dc_Model_sums_20 : decode cd_Model_sums 20 = .ok (.iload_n 1, 1) := by decide +kernel
theorem dc_Model_sums_21 : decode cd_Model_sums 21 = .ok (.iaload, 1) := by decide +kernel
theorem dc_Model_sums_22 : decode cd_Model_sums 22 = .ok (.aload_n 0, 1) := by decide +kernel
theorem dc_Model_sums_23 : decode cd_Model_sums 23 = .ok (.getfield 96, 3) := by decide +kernel
theorem dc_Model_sums_26 : decode cd_Model_sums 26 = .ok (.iload_n 1, 1) := by decide +kernel
theorem dc_Model_sums_27 : decode cd_Model_sums 27 = .ok (.iaload, 1) := by decide +kernel
theorem dc_Model_sums_28 : decode cd_Model_sums 28 = .ok (.isub, 1) := by decide +kernel
theorem dc_Model_sums_29 : decode cd_Model_sums 29 = .ok (.goto 16, 3) := by decide +kernel
theorem dc_Model_sums_32 : decode cd_Model_sums 32 = .ok (.aload_n 0, 1) := by decide +kernel
theorem dc_Model_sums_33 : decode cd_Model_sums 33 = .ok (.getfield 90, 3) := by decide +kernel
theorem dc_Model_sums_36 : decode cd_Model_sums 36 = .ok (.iload_n 1, 1) := by decide +kernel
theorem dc_Model_sums_37 : decode cd_Model_sums 37 = .ok (.iaload, 1) := by decide +kernel
theorem dc_Model_sums_38 : decode cd_Model_sums 38 = .ok (.aload_n 0, 1) := by decide +kernel
theorem dc_Model_sums_39 : decode cd_Model_sums 39 = .ok (.getfield 96, 3) := by decide +kernel
theorem dc_Model_sums_42 : decode cd_Model_sums 42 = .ok (.iload_n 1, 1) := by decide +kernel
theorem dc_Model_sums_43 : decode cd_Model_sums 43 = .ok (.iaload, 1) := by decide +kernel
theorem dc_Model_sums_44 : decode cd_Model_sums 44 = .ok (.iadd, 1) := by decide +kernel
theorem dc_Model_sums_45 : decode cd_Model_sums 45 = .ok (.iastore, 1) := by decide +kernel
theorem dc_Model_sums_46 : decode cd_Model_sums 46 = .ok (.aload_n 0, 1) := by decide +kernel
theorem dc_Model_sums_47 : decode cd_Model_sums 47 = .ok (.getfield 99, 3) := by decide +kernel
theorem dc_Model_sums_50 : decode cd_Model_sums 50 = .ok (.iload_n 1, 1) := by decide +kernel
theorem dc_Model_sums_51 : decode cd_Model_sums 51 = .ok (.iconst 0, 1) := by decide +kernel
theorem dc_Model_sums_52 : decode cd_Model_sums 52 = .ok (.iastore, 1) := by decide +kernel
theorem dc_Model_sums_53 : decode cd_Model_sums 53 = .ok (.return_, 1) := by decide +kernel
theorem dc_Model_isKept_0 : decode cd_Model_isKept 0 = .ok (.aload_n 0, 1) := by decide +kernel
theorem dc_Model_isKept_1 : decode cd_Model_isKept 1 = .ok (.getfield 208, 3) := by decide +kernel
theorem dc_Model_isKept_4 : decode cd_Model_isKept 4 = .ok (.iconst 1, 1) := by decide +kernel
theorem dc_Model_isKept_5 : decode cd_Model_isKept 5 = .ok (.if_icmp .eq 5, 3) := by decide +kernel
theorem dc_Model_isKept_8 : decode cd_Model_isKept 8 = .ok (.iconst 1, 1) := by decide +kernel
theorem dc_Model_isKept_9 : decode cd_Model_isKept 9 = .ok (.ireturn, 1) := by decide +kernel
theorem dc_Model_isKept_10 : decode cd_Model_isKept 10 = .ok (.aload_n 0, 1) := by decide +kernel
theorem dc_Model_isKept_11 : decode cd_Model_isKept 11 = .ok (.getfield 201, 3) := by decide +kernel
theorem dc_Model_isKept_14 : decode cd_Model_isKept 14 = .ok (.ldc2_w 268, 3) := by decide +kernel
theorem dc_Model_isKept_17 : decode cd_Model_isKept 17 = .ok (.lcmp, 1) := by decide +kernel
theorem dc_Model_isKept_18 : decode cd_Model_isKept 18 = .ok (.ifCond .eq 278, 3) := by decide +kernel
theorem dc_Model_isKept_21 : decode cd_Model_isKept 21 = .ok (.aload_n 0, 1) := by decide +kernel
theorem dc_Model_isKept_22 : decode cd_Model_isKept 22 = .ok (.getfield 201, 3) := by decide +kernel
theorem dc_Model_isKept_25 : decode cd_Model_isKept 25 = .ok (.ldc2_w 270, 3) := by decide +kernel
theorem dc_Model_isKept_28 : decode cd_Model_isKept 28 = .ok (.lcmp, 1) := by decide +kernel
theorem dc_Model_isKept_29 : decode cd_Model_isKept 29 = .ok (.ifCond .eq 267, 3) := by decide +kernel
theorem dc_Model_isKept_32 : decode cd_Model_isKept 32 = .ok (.aload_n 0, 1) := by decide +kernel
theorem dc_Model_isKept_33 : decode cd_Model_isKept 33 = .ok (.getfield 201, 3) := by decide +kernel
theorem dc_Model_isKept_36 : decode cd_Model_isKept 36 = .ok (.ldc2_w 272, 3) := by decide +kernel
theorem dc_Model_isKept_39 : decode cd_Model_isKept 39 = .ok (.lcmp, 1) := by decide +kernel
theorem dc_Model_isKept_40 : decode cd_Model_isKept 40 = .ok (.ifCond .eq 256, 3) := by decide +kernel
theorem dc_Model_isKept_43 : decode cd_Model_isKept 43 = .ok (.aload_n 0, 1) := by decide +kernel
theorem dc_Model_isKept_44 : decode cd_Model_isKept 44 = .ok (.getfield 201, 3) := by decide +kernel
theorem dc_Model_isKept_47 : decode cd_Model_isKept 47 = .ok (.ldc2_w 274, 3) := by decide +kernel
theorem dc_Model_isKept_50 : decode cd_Model_isKept 50 = .ok (.lcmp, 1) := by decide +kernel
theorem dc_Model_isKept_51 : decode cd_Model_isKept 51 = .ok (.ifCond .eq 245, 3) := by decide +kernel
theorem dc_Model_isKept_54 : decode cd_Model_isKept 54 = .ok (.aload_n 0, 1) := by decide +kernel
theorem dc_Model_isKept_55 : decode cd_Model_isKept 55 = .ok (.getfield 201, 3) := by decide +kernel
theorem dc_Model_isKept_58 : decode cd_Model_isKept 58 = .ok (.ldc2_w 276, 3) := by decide +kernel
theorem dc_Model_isKept_61 : decode cd_Model_isKept 61 = .ok (.lcmp, 1) := by decide +kernel
theorem dc_Model_isKept_62 : decode cd_Model_isKept 62 = .ok (.ifCond .eq 234, 3) := by decide +kernel
theorem dc_Model_isKept_65 : decode cd_Model_isKept 65 = .ok (.aload_n 0, 1) := by decide +kernel
theorem dc_Model_isKept_66 : decode cd_Model_isKept 66 = .ok (.getfield 201, 3) := by decide +kernel
theorem dc_Model_isKept_69 : decode cd_Model_isKept 69 = .ok (.ldc2_w 278, 3) := by decide +kernel
theorem dc_Model_isKept_72 : decode cd_Model_isKept 72 = .ok (.lcmp, 1) := by decide +kernel
theorem dc_Model_isKept_73 : decode cd_Model_isKept 73 = .ok (.ifCond .eq 223, 3) := by decide +kernel
theorem dc_Model_isKept_76 : decode cd_Model_isKept 76 = .ok (.aload_n 0, 1) := by decide +kernel
theorem dc_Model_isKept_77 : decode cd_Model_isKept 77 = .ok (.getfield 201, 3) := by decide +kernel
theorem dc_Model_isKept_80 : decode cd_Model_isKept 80 = .ok (.ldc2_w 280, 3) := by decide +kernel
theorem dc_Model_isKept_83 : decode cd_Model_isKept 83 = .ok (.lcmp, 1) := by decide +kernel
theorem dc_Model_isKept_84 : decode cd_Model_isKept 84 = .ok (.ifCond .eq 212, 3) := by decide +kernel
theorem dc_Model_isKept_87 : decode cd_Model_isKept 87 = .ok (.aload_n 0, 1) := by decide +kernel
theorem dc_Model_isKept_88 : decode cd_Model_isKept 88 = .ok (.getfield 201, 3) := by decide +kernel
theorem dc_Model_isKept_91 : decode cd_Model_isKept 91 = .ok (.ldc2_w 282, 3) := by decide +kernel
theorem dc_Model_isKept_94 : decode cd_Model_isKept 94 = .ok (.lcmp, 1) := by decide +kernel
theorem dc_Model_isKept_95 : decode cd_Model_isKept 95 = .ok (.ifCond .eq 201, 3) := by decide +kernel
theorem dc_Model_isKept_98 : decode cd_Model_isKept 98 = .ok (.aload_n 0, 1) := by decide +kernel
theorem dc_Model_isKept_99 : decode cd_Model_isKept 99 = .ok (.getfield 201, 3) := by decide +kernel
theorem dc_Model_isKept_102 : decode cd_Model_isKept 102 = .ok (.ldc2_w 284, 3) := by decide +kernel
theorem dc_Model_isKept_105 : decode cd_Model_isKept 105 = .ok (.lcmp, 1) := by decide +kernel
theorem dc_Model_isKept_106 : decode cd_Model_isKept 106 = .ok (.ifCond .eq 190, 3) := by decide +kernel
theorem dc_Model_isKept_109 : decode cd_Model_isKept 109 = .ok (.aload_n 0, 1) := by decide +kernel
theorem dc_Model_isKept_110 : decode cd_Model_isKept 110 = .ok (.getfield 201, 3) := by decide +kernel
theorem dc_Model_isKept_113 : decode cd_Model_isKept 113 = .ok (.ldc2_w 286, 3) := by decide +kernel
theorem dc_Model_isKept_116 : decode cd_Model_isKept 116 = .ok (.lcmp, 1) := by decide +kernel
theorem dc_Model_isKept_117 : decode cd_Model_isKept 117 = .ok (.ifCond .eq 179, 3) := by decide +kernel
theorem dc_Model_isKept_120 : decode cd_Model_isKept 120 = .ok (.aload_n 0, 1) := by decide +kernel
theorem dc_Model_isKept_121 : decode cd_Model_isKept 121 = .ok (.getfield 201, 3) := by decide +kernel
theorem dc_Model_isKept_124 : decode cd_Model_isKept 124 = .ok (.ldc2_w 288, 3) := by decide +kernel
theorem dc_Model_isKept_127 : decode cd_Model_isKept 127 = .ok (.lcmp, 1) := by decide +kernel
theorem dc_Model_isKept_128 : decode cd_Model_isKept 128 = .ok (.ifCond .eq 168, 3) := by decide +kernel
theorem dc_Model_isKept_131 : decode cd_Model_isKept 131 = .ok (.aload_n 0, 1) := by decide +kernel
theorem dc_Model_isKept_132 : decode cd_Model_isKept 132 = .ok (.getfield 201, 3) := by decide +kernel
theorem dc_Model_isKept_135 : decode cd_Model_isKept 135 = .ok (.ldc2_w 290, 3) := by decide +kernel
theorem dc_Model_isKept_138 : decode cd_Model_isKept 138 = .ok (.lcmp, 1) := by decide +kernel
theorem dc_Model_isKept_139 : decode cd_Model_isKept 139 = .ok (.ifCond .eq 157, 3) := by decide +kernel
theorem dc_Model_isKept_142 : decode cd_Model_isKept 142 = .ok (.aload_n 0, 1) := by decide +kernel
theorem dc_Model_isKept_143 : decode cd_Model_isKept 143 = .ok (.getfield 201, 3) := by decide +kernel
theorem dc_Model_isKept_146 : decode cd_Model_isKept 146 = .ok (.ldc2_w 292, 3) := by decide +kernel
theorem dc_Model_isKept_149 : decode cd_Model_isKept 149 = .ok (.lcmp, 1) := by decide +kernel
theorem dc_Model_isKept_150 : decode cd_Model_isKept 150 = .ok (.ifCond .eq 146, 3) := by decide +kernel
theorem dc_Model_isKept_153 : decode cd_Model_isKept 153 = .ok (.aload_n 0, 1) := by decide +kernel
theorem dc_Model_isKept_154 : decode cd_Model_isKept 154 = .ok (.getfield 201, 3) := by decide +kernel
theorem dc_Model_isKept_157 : decode cd_Model_isKept 157 = .ok (.ldc2_w 294, 3) := by decide +kernel
theorem dc_Model_isKept_160 : decode cd_Model_isKept 160 = .ok (.lcmp, 1) := by decide +kernel
theorem dc_Model_isKept_161 : decode cd_Model_isKept 161 = .ok (.ifCond .eq 135, 3) := by decide +kernel
theorem dc_Model_isKept_164 : decode cd_Model_isKept 164 = .ok (.aload_n 0, 1) := by decide +kernel
theorem dc_Model_isKept_165 : decode cd_Model_isKept 165 = .ok (.getfield 201, 3) := by decide +kernel
theorem dc_Model_isKept_168 : decode cd_Model_isKept 168 = .ok (.ldc2_w 296, 3) := by decide +kernel
theorem dc_Model_isKept_171 : decode cd_Model_isKept 171 = .ok (.lcmp, 1) := by decide +kernel
theorem dc_Model_isKept_172 : decode cd_Model_isKept 172 = .ok (.ifCond .eq 124, 3) := by decide +kernel
theorem dc_Model_isKept_175 : decode cd_Model_isKept 175 = .ok (.aload_n 0, 1) := by decide +kernel
theorem dc_Model_isKept_176 : decode cd_Model_isKept 176 = .ok (.getfield 201, 3) := by decide +kernel
theorem dc_Model_isKept_179 : decode cd_Model_isKept 179 = .ok (.ldc2_w 298, 3) := by decide +kernel
theorem dc_Model_isKept_182 : decode cd_Model_isKept 182 = .ok (.lcmp, 1) := by decide +kernel
theorem dc_Model_isKept_183 : decode cd_Model_isKept 183 = .ok (.ifCond .eq 113, 3) := by decide +kernel
theorem dc_Model_isKept_186 : decode cd_Model_isKept 186 = .ok (.aload_n 0, 1) := by decide +kernel
theorem dc_Model_isKept_187 : decode cd_Model_isKept 187 = .ok (.getfield 201, 3) := by decide +kernel
theorem dc_Model_isKept_190 : decode cd_Model_isKept 190 = .ok (.ldc2_w 300, 3) := by decide +kernel
theorem dc_Model_isKept_193 : decode cd_Model_isKept 193 = .ok (.lcmp, 1) := by decide +kernel
theorem dc_Model_isKept_194 : decode cd_Model_isKept 194 = .ok (.ifCond .eq 102, 3) := by decide +kernel
theorem dc_Model_isKept_197 : decode cd_Model_isKept 197 = .ok (.aload_n 0, 1) := by decide +kernel
theorem dc_Model_isKept_198 : decode cd_Model_isKept 198 = .ok (.getfield 201, 3) := by decide +kernel
theorem dc_Model_isKept_201 : decode cd_Model_isKept 201 = .ok (.ldc2_w 302, 3) := by decide +kernel
theorem dc_Model_isKept_204 : decode cd_Model_isKept 204 = .ok (.lcmp, 1) := by decide +kernel
theorem dc_Model_isKept_205 : decode cd_Model_isKept 205 = .ok (.ifCond .eq 91, 3) := by decide +kernel
theorem dc_Model_isKept_208 : decode cd_Model_isKept 208 = .ok (.aload_n 0, 1) := by decide +kernel
theorem dc_Model_isKept_209 : decode cd_Model_isKept 209 = .ok (.getfield 201, 3) := by decide +kernel
theorem dc_Model_isKept_212 : decode cd_Model_isKept 212 = .ok (.ldc2_w 304, 3) := by decide +kernel
theorem dc_Model_isKept_215 : decode cd_Model_isKept 215 = .ok (.lcmp, 1) := by decide +kernel
theorem dc_Model_isKept_216 : decode cd_Model_isKept 216 = .ok (.ifCond .eq 80, 3) := by decide +kernel
theorem dc_Model_isKept_219 : decode cd_Model_isKept 219 = .ok (.aload_n 0, 1) := by decide +kernel
theorem dc_Model_isKept_220 : decode cd_Model_isKept 220 = .ok (.getfield 201, 3) := by decide +kernel
theorem dc_Model_isKept_223 : decode cd_Model_isKept 223 = .ok (.ldc2_w 306, 3) := by decide +kernel
theorem dc_Model_isKept_226 : decode cd_Model_isKept 226 = .ok (.lcmp, 1) := by decide +kernel
theorem dc_Model_isKept_227 : decode cd_Model_isKept 227 = .ok (.ifCond .eq 69, 3) := by decide +kernel
theorem dc_Model_isKept_230 : decode cd_Model_isKept 230 = .ok (.aload_n 0, 1) := by decide +kernel
theorem dc_Model_isKept_231 : decode cd_Model_isKept 231 = .ok (.getfield 201, 3) := by decide +kernel
theorem dc_Model_isKept_234 : decode cd_Model_isKept 234 = .ok (.ldc2_w 308, 3) := by decide +kernel
theorem dc_Model_isKept_237 : decode cd_Model_isKept 237 = .ok (.lcmp, 1) := by decide +kernel
theorem dc_Model_isKept_238 : decode cd_Model_isKept 238 = .ok (.ifCond .eq 58, 3) := by decide +kernel
theorem dc_Model_isKept_241 : decode cd_Model_isKept 241 = .ok (.aload_n 0, 1) := by decide +kernel
theorem dc_Model_isKept_242 : decode cd_Model_isKept 242 = .ok (.getfield 201, 3) := by decide +kernel
theorem dc_Model_isKept_245 : decode cd_Model_isKept 245 = .ok (.ldc2_w 310, 3) := by decide +kernel
theorem dc_Model_isKept_248 : decode cd_Model_isKept 248 = .ok (.lcmp, 1) := by decide +kernel
theorem dc_Model_isKept_249 : decode cd_Model_isKept 249 = .ok (.ifCond .eq 47, 3) := by decide +kernel
theorem dc_Model_isKept_252 : decode cd_Model_isKept 252 = .ok (.aload_n 0, 1) := by decide +kernel
theorem dc_Model_isKept_253 : decode cd_Model_isKept 253 = .ok (.getfield 201, 3) := by decide +kernel
theorem dc_Model_isKept_256 : decode cd_Model_isKept 256 = .ok (.ldc2_w 312, 3) := by decide +kernel
theorem dc_Model_isKept_259 : decode cd_Model_isKept 259 = .ok (.lcmp, 1) := by decide +kernel
theorem dc_Model_isKept_260 : decode cd_Model_isKept 260 = .ok (.ifCond .eq 36, 3) := by decide +kernel
theorem dc_Model_isKept_263 : decode cd_Model_isKept 263 = .ok (.aload_n 0, 1) := by decide +kernel
theorem dc_Model_isKept_264 : decode cd_Model_isKept 264 = .ok (.getfield 201, 3) := by decide +kernel
theorem dc_Model_isKept_267 : decode cd_Model_isKept 267 = .ok (.ldc2_w 235, 3) := by decide +kernel
theorem dc_Model_isKept_270 : decode cd_Model_isKept 270 = .ok (.lcmp, 1) := by decide +kernel
theorem dc_Model_isKept_271 : decode cd_Model_isKept 271 = .ok (.ifCond .eq 25, 3) := by decide +kernel
theorem dc_Model_isKept_274 : decode cd_Model_isKept 274 = .ok (.aload_n 0, 1) := by decide +kernel
theorem dc_Model_isKept_275 : decode cd_Model_isKept 275 = .ok (.getfield 201, 3) := by decide +kernel
theorem dc_Model_isKept_278 : decode cd_Model_isKept 278 = .ok (.ldc2_w 255, 3) := by decide +kernel
theorem dc_Model_isKept_281 : decode cd_Model_isKept 281 = .ok (.lcmp, 1) := by decide +kernel
theorem dc_Model_isKept_282 : decode cd_Model_isKept 282 = .ok (.ifCond .eq 14, 3) := by decide +kernel
theorem dc_Model_isKept_285 : decode cd_Model_isKept 285 = .ok (.aload_n 0, 1) := by decide +kernel
theorem dc_Model_isKept_286 : decode cd_Model_isKept 286 = .ok (.getfield 201, 3) := by decide +kernel
theorem dc_Model_isKept_289 : decode cd_Model_isKept 289 = .ok (.ldc2_w 257, 3) := by decide +kernel
theorem dc_Model_isKept_292 : decode cd_Model_isKept 292 = .ok (.lcmp, 1) := by decide +kernel
theorem dc_Model_isKept_293 : decode cd_Model_isKept 293 = .ok (.ifCond .ne 7, 3) := by decide +kernel
theorem dc_Model_isKept_296 : decode cd_Model_isKept 296 = .ok (.iconst 1, 1) := by decide +kernel
theorem dc_Model_isKept_297 : decode cd_Model_isKept 297 = .ok (.goto 4, 3) := by decide +kernel
theorem dc_Model_isKept_300 : decode cd_Model_isKept 300 = .ok (.iconst 0, 1) := by decide +kernel
theorem dc_Model_isKept_301 : decode cd_Model_isKept 301 = .ok (.ireturn, 1) := by decide +kernel
theorem dc_Model_named_0 : decode cd_Model_named 0 = .ok (.iload_n 1, 1) := by decide +kernel
theorem dc_Model_named_1 : decode cd_Model_named 1 = .ok (.istore 5, 2) := by decide +kernel
theorem dc_Model_named_3 : decode cd_Model_named 3 = .ok (.iload 5, 2) := by decide +kernel
theorem dc_Model_named_5 : decode cd_Model_named 5 = .ok (.iload_n 1, 1) := by decide +kernel
theorem dc_Model_named_6 : decode cd_Model_named 6 = .ok (.iload_n 2, 1) := by decide +kernel
theorem dc_Model_named_7 : decode cd_Model_named 7 = .ok (.iadd, 1) := by decide +kernel
theorem dc_Model_named_8 : decode cd_Model_named 8 = .ok (.if_icmp .ge 23, 3) := by decide +kernel
theorem dc_Model_named_11 : decode cd_Model_named 11 = .ok (.aload_n 0, 1) := by decide +kernel
theorem dc_Model_named_12 : decode cd_Model_named 12 = .ok (.iload 5, 2) := by decide +kernel
theorem dc_Model_named_14 : decode cd_Model_named 14 = .ok (.laload, 1) := by decide +kernel
theorem dc_Model_named_15 : decode cd_Model_named 15 = .ok (.lload_n 3, 1) := by decide +kernel
theorem dc_Model_named_16 : decode cd_Model_named 16 = .ok (.lcmp, 1) := by decide +kernel
theorem dc_Model_named_17 : decode cd_Model_named 17 = .ok (.ifCond .ne 8, 3) := by decide +kernel
theorem dc_Model_named_20 : decode cd_Model_named 20 = .ok (.iload 5, 2) := by decide +kernel
theorem dc_Model_named_22 : decode cd_Model_named 22 = .ok (.iload_n 1, 1) := by decide +kernel
theorem dc_Model_named_23 : decode cd_Model_named 23 = .ok (.isub, 1) := by decide +kernel
theorem dc_Model_named_24 : decode cd_Model_named 24 = .ok (.ireturn, 1) := by decide +kernel
theorem dc_Model_named_25 : decode cd_Model_named 25 = .ok (.iinc 5 1, 3) := by decide +kernel
theorem dc_Model_named_28 : decode cd_Model_named 28 = .ok (.goto (-25), 3) := by decide +kernel
theorem dc_Model_named_31 : decode cd_Model_named 31 = .ok (.iconst (-1), 1) := by decide +kernel
theorem dc_Model_named_32 : decode cd_Model_named 32 = .ok (.ireturn, 1) := by decide +kernel
theorem dc_Model_isOf_0 : decode cd_Model_isOf 0 = .ok (.iconst 0, 1) := by decide +kernel
theorem dc_Model_isOf_1 : decode cd_Model_isOf 1 = .ok (.istore 4, 2) := by decide +kernel
theorem dc_Model_isOf_3 : decode cd_Model_isOf 3 = .ok (.iload 4, 2) := by decide +kernel
theorem dc_Model_isOf_5 : decode cd_Model_isOf 5 = .ok (.aload_n 0, 1) := by decide +kernel
theorem dc_Model_isOf_6 : decode cd_Model_isOf 6 = .ok (.getfield 44, 3) := by decide +kernel
theorem dc_Model_isOf_9 : decode cd_Model_isOf 9 = .ok (.bipush 6, 2) := by decide +kernel
theorem dc_Model_isOf_11 : decode cd_Model_isOf 11 = .ok (.iload_n 1, 1) := by decide +kernel
theorem dc_Model_isOf_12 : decode cd_Model_isOf 12 = .ok (.imul, 1) := by decide +kernel
theorem dc_Model_isOf_13 : decode cd_Model_isOf 13 = .ok (.iload_n 2, 1) := by decide +kernel
theorem dc_Model_isOf_14 : decode cd_Model_isOf 14 = .ok (.iadd, 1) := by decide +kernel
theorem dc_Model_isOf_15 : decode cd_Model_isOf 15 = .ok (.iaload, 1) := by decide +kernel
theorem dc_Model_isOf_16 : decode cd_Model_isOf 16 = .ok (.if_icmp .ge 31, 3) := by decide +kernel
theorem dc_Model_isOf_19 : decode cd_Model_isOf 19 = .ok (.aload_n 0, 1) := by decide +kernel
theorem dc_Model_isOf_20 : decode cd_Model_isOf 20 = .ok (.getfield 41, 3) := by decide +kernel
theorem dc_Model_isOf_23 : decode cd_Model_isOf 23 = .ok (.bipush 24, 2) := by decide +kernel
theorem dc_Model_isOf_25 : decode cd_Model_isOf 25 = .ok (.iload_n 1, 1) := by decide +kernel
theorem dc_Model_isOf_26 : decode cd_Model_isOf 26 = .ok (.imul, 1) := by decide +kernel
theorem dc_Model_isOf_27 : decode cd_Model_isOf 27 = .ok (.iconst 4, 1) := by decide +kernel
theorem dc_Model_isOf_28 : decode cd_Model_isOf 28 = .ok (.iload_n 2, 1) := by decide +kernel
theorem dc_Model_isOf_29 : decode cd_Model_isOf 29 = .ok (.imul, 1) := by decide +kernel
theorem dc_Model_isOf_30 : decode cd_Model_isOf 30 = .ok (.iadd, 1) := by decide +kernel
theorem dc_Model_isOf_31 : decode cd_Model_isOf 31 = .ok (.iload 4, 2) := by decide +kernel
theorem dc_Model_isOf_33 : decode cd_Model_isOf 33 = .ok (.iadd, 1) := by decide +kernel
theorem dc_Model_isOf_34 : decode cd_Model_isOf 34 = .ok (.iaload, 1) := by decide +kernel
theorem dc_Model_isOf_35 : decode cd_Model_isOf 35 = .ok (.iload_n 3, 1) := by decide +kernel
theorem dc_Model_isOf_36 : decode cd_Model_isOf 36 = .ok (.if_icmp .ne 5, 3) := by decide +kernel
theorem dc_Model_isOf_39 : decode cd_Model_isOf 39 = .ok (.iconst 1, 1) := by decide +kernel
theorem dc_Model_isOf_40 : decode cd_Model_isOf 40 = .ok (.ireturn, 1) := by decide +kernel
theorem dc_Model_isOf_41 : decode cd_Model_isOf 41 = .ok (.iinc 4 1, 3) := by decide +kernel
theorem dc_Model_isOf_44 : decode cd_Model_isOf 44 = .ok (.goto (-41), 3) := by decide +kernel
theorem dc_Model_isOf_47 : decode cd_Model_isOf 47 = .ok (.iconst 0, 1) := by decide +kernel
theorem dc_Model_isOf_48 : decode cd_Model_isOf 48 = .ok (.ireturn, 1) := by decide +kernel
theorem dc_Model_shifts_0 : decode cd_Model_shifts 0 = .ok (.iconst 0, 1) := by decide +kernel
theorem dc_Model_shifts_1 : decode cd_Model_shifts 1 = .ok (.istore_n 2, 1) := by decide +kernel
theorem dc_Model_shifts_2 : decode cd_Model_shifts 2 = .ok (.iload_n 2, 1) := by decide +kernel
theorem dc_Model_shifts_3 : decode cd_Model_shifts 3 = .ok (.iload_n 1, 1) := by decide +kernel
theorem dc_Model_shifts_4 : decode cd_Model_shifts 4 = .ok (.if_icmp .ge 17, 3) := by decide +kernel
theorem dc_Model_shifts_7 : decode cd_Model_shifts 7 = .ok (.aload_n 0, 1) := by decide +kernel
theorem dc_Model_shifts_8 : decode cd_Model_shifts 8 = .ok (.iload_n 2, 1) := by decide +kernel
theorem dc_Model_shifts_9 : decode cd_Model_shifts 9 = .ok (.aload_n 0, 1) := by decide +kernel
theorem dc_Model_shifts_10 : decode cd_Model_shifts 10 = .ok (.iload_n 1, 1) := by decide +kernel
theorem dc_Model_shifts_11 : decode cd_Model_shifts 11 = .ok (.iload_n 2, 1) := by decide +kernel
theorem dc_Model_shifts_12 : decode cd_Model_shifts 12 = .ok (.iadd, 1) := by decide +kernel
theorem dc_Model_shifts_13 : decode cd_Model_shifts 13 = .ok (.iaload, 1) := by decide +kernel
theorem dc_Model_shifts_14 : decode cd_Model_shifts 14 = .ok (.iastore, 1) := by decide +kernel
theorem dc_Model_shifts_15 : decode cd_Model_shifts 15 = .ok (.iinc 2 1, 3) := by decide +kernel
theorem dc_Model_shifts_18 : decode cd_Model_shifts 18 = .ok (.goto (-16), 3) := by decide +kernel
theorem dc_Model_shifts_21 : decode cd_Model_shifts 21 = .ok (.return_, 1) := by decide +kernel
theorem dc_Model_shiftsNames_0 : decode cd_Model_shiftsNames 0 = .ok (.iconst 0, 1) := by decide +kernel
theorem dc_Model_shiftsNames_1 : decode cd_Model_shiftsNames 1 = .ok (.istore_n 2, 1) := by decide +kernel
theorem dc_Model_shiftsNames_2 : decode cd_Model_shiftsNames 2 = .ok (.iload_n 2, 1) := by decide +kernel
theorem dc_Model_shiftsNames_3 : decode cd_Model_shiftsNames 3 = .ok (.iload_n 1, 1) := by decide +kernel
theorem dc_Model_shiftsNames_4 : decode cd_Model_shiftsNames 4 = .ok (.if_icmp .ge 17, 3) := by decide +kernel
theorem dc_Model_shiftsNames_7 : decode cd_Model_shiftsNames 7 = .ok (.aload_n 0, 1) := by decide +kernel
theorem dc_Model_shiftsNames_8 : decode cd_Model_shiftsNames 8 = .ok (.iload_n 2, 1) := by decide +kernel
theorem dc_Model_shiftsNames_9 : decode cd_Model_shiftsNames 9 = .ok (.aload_n 0, 1) := by decide +kernel
theorem dc_Model_shiftsNames_10 : decode cd_Model_shiftsNames 10 = .ok (.iload_n 1, 1) := by decide +kernel
theorem dc_Model_shiftsNames_11 : decode cd_Model_shiftsNames 11 = .ok (.iload_n 2, 1) := by decide +kernel
theorem dc_Model_shiftsNames_12 : decode cd_Model_shiftsNames 12 = .ok (.iadd, 1) := by decide +kernel
theorem dc_Model_shiftsNames_13 : decode cd_Model_shiftsNames 13 = .ok (.laload, 1) := by decide +kernel
theorem dc_Model_shiftsNames_14 : decode cd_Model_shiftsNames 14 = .ok (.lastore, 1) := by decide +kernel
theorem dc_Model_shiftsNames_15 : decode cd_Model_shiftsNames 15 = .ok (.iinc 2 1, 3) := by decide +kernel
theorem dc_Model_shiftsNames_18 : decode cd_Model_shiftsNames 18 = .ok (.goto (-16), 3) := by decide +kernel
theorem dc_Model_shiftsNames_21 : decode cd_Model_shiftsNames 21 = .ok (.return_, 1) := by decide +kernel
theorem dc_Model_copies_0 : decode cd_Model_copies 0 = .ok (.iconst 0, 1) := by decide +kernel
theorem dc_Model_copies_1 : decode cd_Model_copies 1 = .ok (.istore 4, 2) := by decide +kernel
theorem dc_Model_copies_3 : decode cd_Model_copies 3 = .ok (.iload 4, 2) := by decide +kernel
theorem dc_Model_copies_5 : decode cd_Model_copies 5 = .ok (.bipush 16, 2) := by decide +kernel
theorem dc_Model_copies_7 : decode cd_Model_copies 7 = .ok (.if_icmp .ge 21, 3) := by decide +kernel
theorem dc_Model_copies_10 : decode cd_Model_copies 10 = .ok (.aload_n 2, 1) := by decide +kernel
theorem dc_Model_copies_11 : decode cd_Model_copies 11 = .ok (.iload_n 3, 1) := by decide +kernel
theorem dc_Model_copies_12 : decode cd_Model_copies 12 = .ok (.iload 4, 2) := by decide +kernel
theorem dc_Model_copies_14 : decode cd_Model_copies 14 = .ok (.iadd, 1) := by decide +kernel
theorem dc_Model_copies_15 : decode cd_Model_copies 15 = .ok (.aload_n 0, 1) := by decide +kernel
theorem dc_Model_copies_16 : decode cd_Model_copies 16 = .ok (.iload_n 1, 1) := by decide +kernel
theorem dc_Model_copies_17 : decode cd_Model_copies 17 = .ok (.iload 4, 2) := by decide +kernel
theorem dc_Model_copies_19 : decode cd_Model_copies 19 = .ok (.iadd, 1) := by decide +kernel
theorem dc_Model_copies_20 : decode cd_Model_copies 20 = .ok (.iaload, 1) := by decide +kernel
theorem dc_Model_copies_21 : decode cd_Model_copies 21 = .ok (.iastore, 1) := by decide +kernel
theorem dc_Model_copies_22 : decode cd_Model_copies 22 = .ok (.iinc 4 1, 3) := by decide +kernel
theorem dc_Model_copies_25 : decode cd_Model_copies 25 = .ok (.goto (-22), 3) := by decide +kernel
theorem dc_Model_copies_28 : decode cd_Model_copies 28 = .ok (.return_, 1) := by decide +kernel
theorem dc_Model_laysLines_0 : decode cd_Model_laysLines 0 = .ok (.aload_n 0, 1) := by decide +kernel
theorem dc_Model_laysLines_1 : decode cd_Model_laysLines 1 = .ok (.getfield 108, 3) := by decide +kernel
theorem dc_Model_laysLines_4 : decode cd_Model_laysLines 4 = .ok (.iload_n 2, 1) := by decide +kernel
theorem dc_Model_laysLines_5 : decode cd_Model_laysLines 5 = .ok (.aload_n 0, 1) := by decide +kernel
theorem dc_Model_laysLines_6 : decode cd_Model_laysLines 6 = .ok (.getfield 108, 3) := by decide +kernel
theorem dc_Model_laysLines_9 : decode cd_Model_laysLines 9 = .ok (.iload_n 1, 1) := by decide +kernel
theorem dc_Model_laysLines_10 : decode cd_Model_laysLines 10 = .ok (.iaload, 1) := by decide +kernel
theorem dc_Model_laysLines_11 : decode cd_Model_laysLines 11 = .ok (.iastore, 1) := by decide +kernel
theorem dc_Model_laysLines_12 : decode cd_Model_laysLines 12 = .ok (.iconst 0, 1) := by decide +kernel
theorem dc_Model_laysLines_13 : decode cd_Model_laysLines 13 = .ok (.istore_n 3, 1) := by decide +kernel
theorem dc_Model_laysLines_14 : decode cd_Model_laysLines 14 = .ok (.iload_n 3, 1) := by decide +kernel
theorem dc_Model_laysLines_15 : decode cd_Model_laysLines 15 = .ok (.bipush 30, 2) := by decide +kernel
theorem dc_Model_laysLines_17 : decode cd_Model_laysLines 17 = .ok (.if_icmp .ge 75, 3) := by decide +kernel
theorem dc_Model_laysLines_20 : decode cd_Model_laysLines 20 = .ok (.aload_n 0, 1) := by decide +kernel
theorem dc_Model_laysLines_21 : decode cd_Model_laysLines 21 = .ok (.getfield 111, 3) := by decide +kernel
theorem dc_Model_laysLines_24 : decode cd_Model_laysLines 24 = .ok (.bipush 30, 2) := by decide +kernel
theorem dc_Model_laysLines_26 : decode cd_Model_laysLines 26 = .ok (.iload_n 2, 1) := by decide +kernel
theorem dc_Model_laysLines_27 : decode cd_Model_laysLines 27 = .ok (.imul, 1) := by decide +kernel
theorem dc_Model_laysLines_28 : decode cd_Model_laysLines 28 = .ok (.iload_n 3, 1) := by decide +kernel
theorem dc_Model_laysLines_29 : decode cd_Model_laysLines 29 = .ok (.iadd, 1) := by decide +kernel
theorem dc_Model_laysLines_30 : decode cd_Model_laysLines 30 = .ok (.aload_n 0, 1) := by decide +kernel
theorem dc_Model_laysLines_31 : decode cd_Model_laysLines 31 = .ok (.getfield 111, 3) := by decide +kernel
theorem dc_Model_laysLines_34 : decode cd_Model_laysLines 34 = .ok (.bipush 30, 2) := by decide +kernel
theorem dc_Model_laysLines_36 : decode cd_Model_laysLines 36 = .ok (.iload_n 1, 1) := by decide +kernel
theorem dc_Model_laysLines_37 : decode cd_Model_laysLines 37 = .ok (.imul, 1) := by decide +kernel
theorem dc_Model_laysLines_38 : decode cd_Model_laysLines 38 = .ok (.iload_n 3, 1) := by decide +kernel
theorem dc_Model_laysLines_39 : decode cd_Model_laysLines 39 = .ok (.iadd, 1) := by decide +kernel
theorem dc_Model_laysLines_40 : decode cd_Model_laysLines 40 = .ok (.iaload, 1) := by decide +kernel
theorem dc_Model_laysLines_41 : decode cd_Model_laysLines 41 = .ok (.iastore, 1) := by decide +kernel
theorem dc_Model_laysLines_42 : decode cd_Model_laysLines 42 = .ok (.aload_n 0, 1) := by decide +kernel
theorem dc_Model_laysLines_43 : decode cd_Model_laysLines 43 = .ok (.getfield 114, 3) := by decide +kernel
theorem dc_Model_laysLines_46 : decode cd_Model_laysLines 46 = .ok (.bipush 30, 2) := by decide +kernel
theorem dc_Model_laysLines_48 : decode cd_Model_laysLines 48 = .ok (.iload_n 2, 1) := by decide +kernel
theorem dc_Model_laysLines_49 : decode cd_Model_laysLines 49 = .ok (.imul, 1) := by decide +kernel
theorem dc_Model_laysLines_50 : decode cd_Model_laysLines 50 = .ok (.iload_n 3, 1) := by decide +kernel
theorem dc_Model_laysLines_51 : decode cd_Model_laysLines 51 = .ok (.iadd, 1) := by decide +kernel
theorem dc_Model_laysLines_52 : decode cd_Model_laysLines 52 = .ok (.aload_n 0, 1) := by decide +kernel
theorem dc_Model_laysLines_53 : decode cd_Model_laysLines 53 = .ok (.getfield 114, 3) := by decide +kernel
theorem dc_Model_laysLines_56 : decode cd_Model_laysLines 56 = .ok (.bipush 30, 2) := by decide +kernel
theorem dc_Model_laysLines_58 : decode cd_Model_laysLines 58 = .ok (.iload_n 1, 1) := by decide +kernel
theorem dc_Model_laysLines_59 : decode cd_Model_laysLines 59 = .ok (.imul, 1) := by decide +kernel
theorem dc_Model_laysLines_60 : decode cd_Model_laysLines 60 = .ok (.iload_n 3, 1) := by decide +kernel
theorem dc_Model_laysLines_61 : decode cd_Model_laysLines 61 = .ok (.iadd, 1) := by decide +kernel
theorem dc_Model_laysLines_62 : decode cd_Model_laysLines 62 = .ok (.iaload, 1) := by decide +kernel
theorem dc_Model_laysLines_63 : decode cd_Model_laysLines 63 = .ok (.iastore, 1) := by decide +kernel
theorem dc_Model_laysLines_64 : decode cd_Model_laysLines 64 = .ok (.aload_n 0, 1) := by decide +kernel
theorem dc_Model_laysLines_65 : decode cd_Model_laysLines 65 = .ok (.getfield 117, 3) := by decide +kernel
theorem dc_Model_laysLines_68 : decode cd_Model_laysLines 68 = .ok (.bipush 30, 2) := by decide +kernel
theorem dc_Model_laysLines_70 : decode cd_Model_laysLines 70 = .ok (.iload_n 2, 1) := by decide +kernel
theorem dc_Model_laysLines_71 : decode cd_Model_laysLines 71 = .ok (.imul, 1) := by decide +kernel
theorem dc_Model_laysLines_72 : decode cd_Model_laysLines 72 = .ok (.iload_n 3, 1) := by decide +kernel
theorem dc_Model_laysLines_73 : decode cd_Model_laysLines 73 = .ok (.iadd, 1) := by decide +kernel
theorem dc_Model_laysLines_74 : decode cd_Model_laysLines 74 = .ok (.aload_n 0, 1) := by decide +kernel
theorem dc_Model_laysLines_75 : decode cd_Model_laysLines 75 = .ok (.getfield 117, 3) := by decide +kernel
theorem dc_Model_laysLines_78 : decode cd_Model_laysLines 78 = .ok (.bipush 30, 2) := by decide +kernel
theorem dc_Model_laysLines_80 : decode cd_Model_laysLines 80 = .ok (.iload_n 1, 1) := by decide +kernel
theorem dc_Model_laysLines_81 : decode cd_Model_laysLines 81 = .ok (.imul, 1) := by decide +kernel
theorem dc_Model_laysLines_82 : decode cd_Model_laysLines 82 = .ok (.iload_n 3, 1) := by decide +kernel
theorem dc_Model_laysLines_83 : decode cd_Model_laysLines 83 = .ok (.iadd, 1) := by decide +kernel
theorem dc_Model_laysLines_84 : decode cd_Model_laysLines 84 = .ok (.iaload, 1) := by decide +kernel
theorem dc_Model_laysLines_85 : decode cd_Model_laysLines 85 = .ok (.iastore, 1) := by decide +kernel
theorem dc_Model_laysLines_86 : decode cd_Model_laysLines 86 = .ok (.iinc 3 1, 3) := by decide +kernel
theorem dc_Model_laysLines_89 : decode cd_Model_laysLines 89 = .ok (.goto (-75), 3) := by decide +kernel
theorem dc_Model_laysLines_92 : decode cd_Model_laysLines 92 = .ok (.return_, 1) := by decide +kernel
theorem dc_Model_laysTold_0 : decode cd_Model_laysTold 0 = .ok (.aload_n 0, 1) := by decide +kernel
theorem dc_Model_laysTold_1 : decode cd_Model_laysTold 1 = .ok (.getfield 120, 3) := by decide +kernel
theorem dc_Model_laysTold_4 : decode cd_Model_laysTold 4 = .ok (.iload_n 2, 1) := by decide +kernel
theorem dc_Model_laysTold_5 : decode cd_Model_laysTold 5 = .ok (.aload_n 0, 1) := by decide +kernel
theorem dc_Model_laysTold_6 : decode cd_Model_laysTold 6 = .ok (.getfield 120, 3) := by decide +kernel
theorem dc_Model_laysTold_9 : decode cd_Model_laysTold 9 = .ok (.iload_n 1, 1) := by decide +kernel
theorem dc_Model_laysTold_10 : decode cd_Model_laysTold 10 = .ok (.iaload, 1) := by decide +kernel
theorem dc_Model_laysTold_11 : decode cd_Model_laysTold 11 = .ok (.iastore, 1) := by decide +kernel
theorem dc_Model_laysTold_12 : decode cd_Model_laysTold 12 = .ok (.iconst 0, 1) := by decide +kernel
theorem dc_Model_laysTold_13 : decode cd_Model_laysTold 13 = .ok (.istore_n 3, 1) := by decide +kernel
theorem dc_Model_laysTold_14 : decode cd_Model_laysTold 14 = .ok (.iload_n 3, 1) := by decide +kernel
theorem dc_Model_laysTold_15 : decode cd_Model_laysTold 15 = .ok (.bipush 8, 2) := by decide +kernel
theorem dc_Model_laysTold_17 : decode cd_Model_laysTold 17 = .ok (.if_icmp .ge 75, 3) := by decide +kernel
theorem dc_Model_laysTold_20 : decode cd_Model_laysTold 20 = .ok (.aload_n 0, 1) := by decide +kernel
theorem dc_Model_laysTold_21 : decode cd_Model_laysTold 21 = .ok (.getfield 123, 3) := by decide +kernel
theorem dc_Model_laysTold_24 : decode cd_Model_laysTold 24 = .ok (.bipush 8, 2) := by decide +kernel
theorem dc_Model_laysTold_26 : decode cd_Model_laysTold 26 = .ok (.iload_n 2, 1) := by decide +kernel
theorem dc_Model_laysTold_27 : decode cd_Model_laysTold 27 = .ok (.imul, 1) := by decide +kernel
theorem dc_Model_laysTold_28 : decode cd_Model_laysTold 28 = .ok (.iload_n 3, 1) := by decide +kernel
theorem dc_Model_laysTold_29 : decode cd_Model_laysTold 29 = .ok (.iadd, 1) := by decide +kernel
theorem dc_Model_laysTold_30 : decode cd_Model_laysTold 30 = .ok (.aload_n 0, 1) := by decide +kernel
theorem dc_Model_laysTold_31 : decode cd_Model_laysTold 31 = .ok (.getfield 123, 3) := by decide +kernel
theorem dc_Model_laysTold_34 : decode cd_Model_laysTold 34 = .ok (.bipush 8, 2) := by decide +kernel
theorem dc_Model_laysTold_36 : decode cd_Model_laysTold 36 = .ok (.iload_n 1, 1) := by decide +kernel
theorem dc_Model_laysTold_37 : decode cd_Model_laysTold 37 = .ok (.imul, 1) := by decide +kernel
theorem dc_Model_laysTold_38 : decode cd_Model_laysTold 38 = .ok (.iload_n 3, 1) := by decide +kernel
theorem dc_Model_laysTold_39 : decode cd_Model_laysTold 39 = .ok (.iadd, 1) := by decide +kernel
theorem dc_Model_laysTold_40 : decode cd_Model_laysTold 40 = .ok (.iaload, 1) := by decide +kernel
theorem dc_Model_laysTold_41 : decode cd_Model_laysTold 41 = .ok (.iastore, 1) := by decide +kernel
theorem dc_Model_laysTold_42 : decode cd_Model_laysTold 42 = .ok (.aload_n 0, 1) := by decide +kernel
theorem dc_Model_laysTold_43 : decode cd_Model_laysTold 43 = .ok (.getfield 126, 3) := by decide +kernel
theorem dc_Model_laysTold_46 : decode cd_Model_laysTold 46 = .ok (.bipush 8, 2) := by decide +kernel
theorem dc_Model_laysTold_48 : decode cd_Model_laysTold 48 = .ok (.iload_n 2, 1) := by decide +kernel
theorem dc_Model_laysTold_49 : decode cd_Model_laysTold 49 = .ok (.imul, 1) := by decide +kernel
theorem dc_Model_laysTold_50 : decode cd_Model_laysTold 50 = .ok (.iload_n 3, 1) := by decide +kernel
theorem dc_Model_laysTold_51 : decode cd_Model_laysTold 51 = .ok (.iadd, 1) := by decide +kernel
theorem dc_Model_laysTold_52 : decode cd_Model_laysTold 52 = .ok (.aload_n 0, 1) := by decide +kernel
theorem dc_Model_laysTold_53 : decode cd_Model_laysTold 53 = .ok (.getfield 126, 3) := by decide +kernel
theorem dc_Model_laysTold_56 : decode cd_Model_laysTold 56 = .ok (.bipush 8, 2) := by decide +kernel
theorem dc_Model_laysTold_58 : decode cd_Model_laysTold 58 = .ok (.iload_n 1, 1) := by decide +kernel
theorem dc_Model_laysTold_59 : decode cd_Model_laysTold 59 = .ok (.imul, 1) := by decide +kernel
theorem dc_Model_laysTold_60 : decode cd_Model_laysTold 60 = .ok (.iload_n 3, 1) := by decide +kernel
theorem dc_Model_laysTold_61 : decode cd_Model_laysTold 61 = .ok (.iadd, 1) := by decide +kernel
theorem dc_Model_laysTold_62 : decode cd_Model_laysTold 62 = .ok (.iaload, 1) := by decide +kernel
theorem dc_Model_laysTold_63 : decode cd_Model_laysTold 63 = .ok (.iastore, 1) := by decide +kernel
theorem dc_Model_laysTold_64 : decode cd_Model_laysTold 64 = .ok (.aload_n 0, 1) := by decide +kernel
theorem dc_Model_laysTold_65 : decode cd_Model_laysTold 65 = .ok (.getfield 129, 3) := by decide +kernel
theorem dc_Model_laysTold_68 : decode cd_Model_laysTold 68 = .ok (.bipush 8, 2) := by decide +kernel
theorem dc_Model_laysTold_70 : decode cd_Model_laysTold 70 = .ok (.iload_n 2, 1) := by decide +kernel
theorem dc_Model_laysTold_71 : decode cd_Model_laysTold 71 = .ok (.imul, 1) := by decide +kernel
theorem dc_Model_laysTold_72 : decode cd_Model_laysTold 72 = .ok (.iload_n 3, 1) := by decide +kernel
theorem dc_Model_laysTold_73 : decode cd_Model_laysTold 73 = .ok (.iadd, 1) := by decide +kernel
theorem dc_Model_laysTold_74 : decode cd_Model_laysTold 74 = .ok (.aload_n 0, 1) := by decide +kernel
theorem dc_Model_laysTold_75 : decode cd_Model_laysTold 75 = .ok (.getfield 129, 3) := by decide +kernel
theorem dc_Model_laysTold_78 : decode cd_Model_laysTold 78 = .ok (.bipush 8, 2) := by decide +kernel
theorem dc_Model_laysTold_80 : decode cd_Model_laysTold 80 = .ok (.iload_n 1, 1) := by decide +kernel
theorem dc_Model_laysTold_81 : decode cd_Model_laysTold 81 = .ok (.imul, 1) := by decide +kernel
theorem dc_Model_laysTold_82 : decode cd_Model_laysTold 82 = .ok (.iload_n 3, 1) := by decide +kernel
theorem dc_Model_laysTold_83 : decode cd_Model_laysTold 83 = .ok (.iadd, 1) := by decide +kernel
theorem dc_Model_laysTold_84 : decode cd_Model_laysTold 84 = .ok (.baload, 1) := by decide +kernel
theorem dc_Model_laysTold_85 : decode cd_Model_laysTold 85 = .ok (.bastore, 1) := by decide +kernel
theorem dc_Model_laysTold_86 : decode cd_Model_laysTold 86 = .ok (.iinc 3 1, 3) := by decide +kernel
theorem dc_Model_laysTold_89 : decode cd_Model_laysTold 89 = .ok (.goto (-75), 3) := by decide +kernel
theorem dc_Model_laysTold_92 : decode cd_Model_laysTold 92 = .ok (.iconst 0, 1) := by decide +kernel
theorem dc_Model_laysTold_93 : decode cd_Model_laysTold 93 = .ok (.istore_n 3, 1) := by decide +kernel
theorem dc_Model_laysTold_94 : decode cd_Model_laysTold 94 = .ok (.iload_n 3, 1) := by decide +kernel
theorem dc_Model_laysTold_95 : decode cd_Model_laysTold 95 = .ok (.bipush 6, 2) := by decide +kernel
theorem dc_Model_laysTold_97 : decode cd_Model_laysTold 97 = .ok (.if_icmp .ge 31, 3) := by decide +kernel
theorem dc_Model_laysTold_100 : decode cd_Model_laysTold 100 = .ok (.aload_n 0, 1) := by decide +kernel
theorem dc_Model_laysTold_101 : decode cd_Model_laysTold 101 = .ok (.getfield 132, 3) := by decide +kernel
theorem dc_Model_laysTold_104 : decode cd_Model_laysTold 104 = .ok (.bipush 6, 2) := by decide +kernel
theorem dc_Model_laysTold_106 : decode cd_Model_laysTold 106 = .ok (.iload_n 2, 1) := by decide +kernel
theorem dc_Model_laysTold_107 : decode cd_Model_laysTold 107 = .ok (.imul, 1) := by decide +kernel
theorem dc_Model_laysTold_108 : decode cd_Model_laysTold 108 = .ok (.iload_n 3, 1) := by decide +kernel
theorem dc_Model_laysTold_109 : decode cd_Model_laysTold 109 = .ok (.iadd, 1) := by decide +kernel
theorem dc_Model_laysTold_110 : decode cd_Model_laysTold 110 = .ok (.aload_n 0, 1) := by decide +kernel
theorem dc_Model_laysTold_111 : decode cd_Model_laysTold 111 = .ok (.getfield 132, 3) := by decide +kernel
theorem dc_Model_laysTold_114 : decode cd_Model_laysTold 114 = .ok (.bipush 6, 2) := by decide +kernel
theorem dc_Model_laysTold_116 : decode cd_Model_laysTold 116 = .ok (.iload_n 1, 1) := by decide +kernel
theorem dc_Model_laysTold_117 : decode cd_Model_laysTold 117 = .ok (.imul, 1) := by decide +kernel
theorem dc_Model_laysTold_118 : decode cd_Model_laysTold 118 = .ok (.iload_n 3, 1) := by decide +kernel
theorem dc_Model_laysTold_119 : decode cd_Model_laysTold 119 = .ok (.iadd, 1) := by decide +kernel
theorem dc_Model_laysTold_120 : decode cd_Model_laysTold 120 = .ok (.iaload, 1) := by decide +kernel
theorem dc_Model_laysTold_121 : decode cd_Model_laysTold 121 = .ok (.iastore, 1) := by decide +kernel
theorem dc_Model_laysTold_122 : decode cd_Model_laysTold 122 = .ok (.iinc 3 1, 3) := by decide +kernel
theorem dc_Model_laysTold_125 : decode cd_Model_laysTold 125 = .ok (.goto (-31), 3) := by decide +kernel
theorem dc_Model_laysTold_128 : decode cd_Model_laysTold 128 = .ok (.return_, 1) := by decide +kernel
theorem dc_Model_allWalkers_0 : decode cd_Model_allWalkers 0 = .ok (.iconst 1, 1) := by decide +kernel
theorem dc_Model_allWalkers_1 : decode cd_Model_allWalkers 1 = .ok (.aload_n 0, 1) := by decide +kernel
theorem dc_Model_allWalkers_2 : decode cd_Model_allWalkers 2 = .ok (.getfield 13, 3) := by decide +kernel
theorem dc_Model_allWalkers_5 : decode cd_Model_allWalkers 5 = .ok (.iconst 1, 1) := by decide +kernel
theorem dc_Model_allWalkers_6 : decode cd_Model_allWalkers 6 = .ok (.iaload, 1) := by decide +kernel
theorem dc_Model_allWalkers_7 : decode cd_Model_allWalkers 7 = .ok (.ishl, 1) := by decide +kernel
theorem dc_Model_allWalkers_8 : decode cd_Model_allWalkers 8 = .ok (.iconst 1, 1) := by decide +kernel
theorem dc_Model_allWalkers_9 : decode cd_Model_allWalkers 9 = .ok (.isub, 1) := by decide +kernel
theorem dc_Model_allWalkers_10 : decode cd_Model_allWalkers 10 = .ok (.ireturn, 1) := by decide +kernel
theorem dc_Model_forgets_0 : decode cd_Model_forgets 0 = .ok (.aload_n 0, 1) := by decide +kernel
theorem dc_Model_forgets_1 : decode cd_Model_forgets 1 = .ok (.getfield 120, 3) := by decide +kernel
theorem dc_Model_forgets_4 : decode cd_Model_forgets 4 = .ok (.iconst 0, 1) := by decide +kernel
theorem dc_Model_forgets_5 : decode cd_Model_forgets 5 = .ok (.iconst 0, 1) := by decide +kernel
theorem dc_Model_forgets_6 : decode cd_Model_forgets 6 = .ok (.iastore, 1) := by decide +kernel
theorem dc_Model_forgets_7 : decode cd_Model_forgets 7 = .ok (.iconst 0, 1) := by decide +kernel
theorem dc_Model_forgets_8 : decode cd_Model_forgets 8 = .ok (.istore_n 1, 1) := by decide +kernel
theorem dc_Model_forgets_9 : decode cd_Model_forgets 9 = .ok (.iload_n 1, 1) := by decide +kernel
theorem dc_Model_forgets_10 : decode cd_Model_forgets 10 = .ok (.bipush 6, 2) := by decide +kernel
theorem dc_Model_forgets_12 : decode cd_Model_forgets 12 = .ok (.if_icmp .ge 17, 3) := by decide +kernel
theorem dc_Model_forgets_15 : decode cd_Model_forgets 15 = .ok (.aload_n 0, 1) := by decide +kernel
theorem dc_Model_forgets_16 : decode cd_Model_forgets 16 = .ok (.getfield 132, 3) := by decide +kernel
theorem dc_Model_forgets_19 : decode cd_Model_forgets 19 = .ok (.iload_n 1, 1) := by decide +kernel
theorem dc_Model_forgets_20 : decode cd_Model_forgets 20 = .ok (.bipush (-2), 2) := by decide +kernel
theorem dc_Model_forgets_22 : decode cd_Model_forgets 22 = .ok (.iastore, 1) := by decide +kernel
theorem dc_Model_forgets_23 : decode cd_Model_forgets 23 = .ok (.iinc 1 1, 3) := by decide +kernel
theorem dc_Model_forgets_26 : decode cd_Model_forgets 26 = .ok (.goto (-17), 3) := by decide +kernel
theorem dc_Model_forgets_29 : decode cd_Model_forgets 29 = .ok (.return_, 1) := by decide +kernel
theorem dc_Model_isPlace_0 : decode cd_Model_isPlace 0 = .ok (.iload_n 1, 1) := by decide +kernel
theorem dc_Model_isPlace_1 : decode cd_Model_isPlace 1 = .ok (.ifCond .lt 17, 3) := by decide +kernel
theorem dc_Model_isPlace_4 : decode cd_Model_isPlace 4 = .ok (.iload_n 1, 1) := by decide +kernel
theorem dc_Model_isPlace_5 : decode cd_Model_isPlace 5 = .ok (.aload_n 0, 1) := by decide +kernel
theorem dc_Model_isPlace_6 : decode cd_Model_isPlace 6 = .ok (.getfield 13, 3) := by decide +kernel
theorem dc_Model_isPlace_9 : decode cd_Model_isPlace 9 = .ok (.iconst 0, 1) := by decide +kernel
theorem dc_Model_isPlace_10 : decode cd_Model_isPlace 10 = .ok (.iaload, 1) := by decide +kernel
theorem dc_Model_isPlace_11 : decode cd_Model_isPlace 11 = .ok (.if_icmp .ge 7, 3) := by decide +kernel
theorem dc_Model_isPlace_14 : decode cd_Model_isPlace 14 = .ok (.iconst 1, 1) := by decide +kernel
theorem dc_Model_isPlace_15 : decode cd_Model_isPlace 15 = .ok (.goto 4, 3) := by decide +kernel
theorem dc_Model_isPlace_18 : decode cd_Model_isPlace 18 = .ok (.iconst 0, 1) := by decide +kernel
theorem dc_Model_isPlace_19 : decode cd_Model_isPlace 19 = .ok (.ireturn, 1) := by decide +kernel
theorem dc_Model_isWalker_0 : decode cd_Model_isWalker 0 = .ok (.iload_n 1, 1) := by decide +kernel
theorem dc_Model_isWalker_1 : decode cd_Model_isWalker 1 = .ok (.ifCond .lt 17, 3) := by decide +kernel
theorem dc_Model_isWalker_4 : decode cd_Model_isWalker 4 = .ok (.iload_n 1, 1) := by decide +kernel
theorem dc_Model_isWalker_5 : decode cd_Model_isWalker 5 = .ok (.aload_n 0, 1) := by decide +kernel
theorem dc_Model_isWalker_6 : decode cd_Model_isWalker 6 = .ok (.getfield 13, 3) := by decide +kernel
theorem dc_Model_isWalker_9 : decode cd_Model_isWalker 9 = .ok (.iconst 1, 1) := by decide +kernel
theorem dc_Model_isWalker_10 : decode cd_Model_isWalker 10 = .ok (.iaload, 1) := by decide +kernel
theorem dc_Model_isWalker_11 : decode cd_Model_isWalker 11 = .ok (.if_icmp .ge 7, 3) := by decide +kernel
theorem dc_Model_isWalker_14 : decode cd_Model_isWalker 14 = .ok (.iconst 1, 1) := by decide +kernel
theorem dc_Model_isWalker_15 : decode cd_Model_isWalker 15 = .ok (.goto 4, 3) := by decide +kernel
theorem dc_Model_isWalker_18 : decode cd_Model_isWalker 18 = .ok (.iconst 0, 1) := by decide +kernel
theorem dc_Model_isWalker_19 : decode cd_Model_isWalker 19 = .ok (.ireturn, 1) := by decide +kernel
theorem dc_Model_isHour_0 : decode cd_Model_isHour 0 = .ok (.iload_n 1, 1) := by decide +kernel
theorem dc_Model_isHour_1 : decode cd_Model_isHour 1 = .ok (.ifCond .lt 17, 3) := by decide +kernel
theorem dc_Model_isHour_4 : decode cd_Model_isHour 4 = .ok (.iload_n 1, 1) := by decide +kernel
theorem dc_Model_isHour_5 : decode cd_Model_isHour 5 = .ok (.aload_n 0, 1) := by decide +kernel
theorem dc_Model_isHour_6 : decode cd_Model_isHour 6 = .ok (.getfield 13, 3) := by decide +kernel
theorem dc_Model_isHour_9 : decode cd_Model_isHour 9 = .ok (.iconst 2, 1) := by decide +kernel
theorem dc_Model_isHour_10 : decode cd_Model_isHour 10 = .ok (.iaload, 1) := by decide +kernel
theorem dc_Model_isHour_11 : decode cd_Model_isHour 11 = .ok (.if_icmp .ge 7, 3) := by decide +kernel
theorem dc_Model_isHour_14 : decode cd_Model_isHour 14 = .ok (.iconst 1, 1) := by decide +kernel
theorem dc_Model_isHour_15 : decode cd_Model_isHour 15 = .ok (.goto 4, 3) := by decide +kernel
theorem dc_Model_isHour_18 : decode cd_Model_isHour 18 = .ok (.iconst 0, 1) := by decide +kernel
theorem dc_Model_isHour_19 : decode cd_Model_isHour 19 = .ok (.ireturn, 1) := by decide +kernel
theorem dc_Model_laysWays_0 : decode cd_Model_laysWays 0 = .ok (.iconst 0, 1) := by decide +kernel
theorem dc_Model_laysWays_1 : decode cd_Model_laysWays 1 = .ok (.istore_n 1, 1) := by decide +kernel
theorem dc_Model_laysWays_2 : decode cd_Model_laysWays 2 = .ok (.iload_n 1, 1) := by decide +kernel
theorem dc_Model_laysWays_3 : decode cd_Model_laysWays 3 = .ok (.bipush 36, 2) := by decide +kernel
theorem dc_Model_laysWays_5 : decode cd_Model_laysWays 5 = .ok (.if_icmp .ge 51, 3) := by decide +kernel
theorem dc_Model_laysWays_8 : decode cd_Model_laysWays 8 = .ok (.aload_n 0, 1) := by decide +kernel
theorem dc_Model_laysWays_9 : decode cd_Model_laysWays 9 = .ok (.getfield 150, 3) := by decide +kernel
theorem dc_Model_laysWays_12 : decode cd_Model_laysWays 12 = .ok (.iload_n 1, 1) := by decide +kernel
theorem dc_Model_laysWays_13 : decode cd_Model_laysWays 13 = .ok (.iload_n 1, 1) := by decide +kernel
theorem dc_Model_laysWays_14 : decode cd_Model_laysWays 14 = .ok (.bipush 6, 2) := by decide +kernel
theorem dc_Model_laysWays_16 : decode cd_Model_laysWays 16 = .ok (.idiv, 1) := by decide +kernel
theorem dc_Model_laysWays_17 : decode cd_Model_laysWays 17 = .ok (.iload_n 1, 1) := by decide +kernel
theorem dc_Model_laysWays_18 : decode cd_Model_laysWays 18 = .ok (.bipush 6, 2) := by decide +kernel
theorem dc_Model_laysWays_20 : decode cd_Model_laysWays 20 = .ok (.irem, 1) := by decide +kernel
theorem dc_Model_laysWays_21 : decode cd_Model_laysWays 21 = .ok (.if_icmp .ne 7, 3) := by decide +kernel
theorem dc_Model_laysWays_24 : decode cd_Model_laysWays 24 = .ok (.iconst 0, 1) := by decide +kernel
theorem dc_Model_laysWays_25 : decode cd_Model_laysWays 25 = .ok (.goto 24, 3) := by decide +kernel
theorem dc_Model_laysWays_28 : decode cd_Model_laysWays 28 = .ok (.aload_n 0, 1) := by decide +kernel
theorem dc_Model_laysWays_29 : decode cd_Model_laysWays 29 = .ok (.getfield 26, 3) := by decide +kernel
theorem dc_Model_laysWays_32 : decode cd_Model_laysWays 32 = .ok (.iload_n 1, 1) := by decide +kernel
theorem dc_Model_laysWays_33 : decode cd_Model_laysWays 33 = .ok (.iaload, 1) := by decide +kernel
theorem dc_Model_laysWays_34 : decode cd_Model_laysWays 34 = .ok (.ifCond .le 12, 3) := by decide +kernel
theorem dc_Model_laysWays_37 : decode cd_Model_laysWays 37 = .ok (.aload_n 0, 1) := by decide +kernel
theorem dc_Model_laysWays_38 : decode cd_Model_laysWays 38 = .ok (.getfield 26, 3) := by decide +kernel
theorem dc_Model_laysWays_41 : decode cd_Model_laysWays 41 = .ok (.iload_n 1, 1) := by decide +kernel
theorem dc_Model_laysWays_42 : decode cd_Model_laysWays 42 = .ok (.iaload, 1) := by decide +kernel
theorem dc_Model_laysWays_43 : decode cd_Model_laysWays 43 = .ok (.goto 6, 3) := by decide +kernel
theorem dc_Model_laysWays_46 : decode cd_Model_laysWays 46 = .ok (.ldc_w 426, 3) := by decide +kernel
theorem dc_Model_laysWays_49 : decode cd_Model_laysWays 49 = .ok (.iastore, 1) := by decide +kernel
theorem dc_Model_laysWays_50 : decode cd_Model_laysWays 50 = .ok (.iinc 1 1, 3) := by decide +kernel
theorem dc_Model_laysWays_53 : decode cd_Model_laysWays 53 = .ok (.goto (-51), 3) := by decide +kernel
theorem dc_Model_laysWays_56 : decode cd_Model_laysWays 56 = .ok (.iconst 0, 1) := by decide +kernel
theorem dc_Model_laysWays_57 : decode cd_Model_laysWays 57 = .ok (.istore_n 1, 1) := by decide +kernel
theorem dc_Model_laysWays_58 : decode cd_Model_laysWays 58 = .ok (.iload_n 1, 1) := by decide +kernel
theorem dc_Model_laysWays_59 : decode cd_Model_laysWays 59 = .ok (.bipush 6, 2) := by decide +kernel
theorem dc_Model_laysWays_61 : decode cd_Model_laysWays 61 = .ok (.if_icmp .ge 67, 3) := by decide +kernel
theorem dc_Model_laysWays_64 : decode cd_Model_laysWays 64 = .ok (.iconst 0, 1) := by decide +kernel
theorem dc_Model_laysWays_65 : decode cd_Model_laysWays 65 = .ok (.istore_n 2, 1) := by decide +kernel
theorem dc_Model_laysWays_66 : decode cd_Model_laysWays 66 = .ok (.iload_n 2, 1) := by decide +kernel
theorem dc_Model_laysWays_67 : decode cd_Model_laysWays 67 = .ok (.bipush 36, 2) := by decide +kernel
theorem dc_Model_laysWays_69 : decode cd_Model_laysWays 69 = .ok (.if_icmp .ge 53, 3) := by decide +kernel
theorem dc_Model_laysWays_72 : decode cd_Model_laysWays 72 = .ok (.aload_n 0, 1) := by decide +kernel
theorem dc_Model_laysWays_73 : decode cd_Model_laysWays 73 = .ok (.getfield 150, 3) := by decide +kernel
theorem dc_Model_laysWays_76 : decode cd_Model_laysWays 76 = .ok (.iload_n 2, 1) := by decide +kernel
theorem dc_Model_laysWays_77 : decode cd_Model_laysWays 77 = .ok (.aload_n 0, 1) := by decide +kernel
theorem dc_Model_laysWays_78 : decode cd_Model_laysWays 78 = .ok (.getfield 150, 3) := by decide +kernel
theorem dc_Model_laysWays_81 : decode cd_Model_laysWays 81 = .ok (.iload_n 2, 1) := by decide +kernel
theorem dc_Model_laysWays_82 : decode cd_Model_laysWays 82 = .ok (.iaload, 1) := by decide +kernel
theorem dc_Model_laysWays_83 : decode cd_Model_laysWays 83 = .ok (.aload_n 0, 1) := by decide +kernel
theorem dc_Model_laysWays_84 : decode cd_Model_laysWays 84 = .ok (.getfield 150, 3) := by decide +kernel
theorem dc_Model_laysWays_87 : decode cd_Model_laysWays 87 = .ok (.iload_n 2, 1) := by decide +kernel
theorem dc_Model_laysWays_88 : decode cd_Model_laysWays 88 = .ok (.bipush 6, 2) := by decide +kernel
theorem dc_Model_laysWays_90 : decode cd_Model_laysWays 90 = .ok (.idiv, 1) := by decide +kernel
theorem dc_Model_laysWays_91 : decode cd_Model_laysWays 91 = .ok (.bipush 6, 2) := by decide +kernel
theorem dc_Model_laysWays_93 : decode cd_Model_laysWays 93 = .ok (.imul, 1) := by decide +kernel
theorem dc_Model_laysWays_94 : decode cd_Model_laysWays 94 = .ok (.iload_n 1, 1) := by decide +kernel
theorem dc_Model_laysWays_95 : decode cd_Model_laysWays 95 = .ok (.iadd, 1) := by decide +kernel
theorem dc_Model_laysWays_96 : decode cd_Model_laysWays 96 = .ok (.iaload, 1) := by decide +kernel
theorem dc_Model_laysWays_97 : decode cd_Model_laysWays 97 = .ok (.aload_n 0, 1) := by decide +kernel
theorem dc_Model_laysWays_98 : decode cd_Model_laysWays 98 = .ok (.getfield 150, 3) := by decide +kernel
theorem dc_Model_laysWays_101 : decode cd_Model_laysWays 101 = .ok (.iload_n 1, 1) := by decide +kernel
theorem dc_Model_laysWays_102 : decode cd_Model_laysWays 102 = .ok (.bipush 6, 2) := by decide +kernel
theorem dc_Model_laysWays_104 : decode cd_Model_laysWays 104 = .ok (.imul, 1) := by decide +kernel
theorem dc_Model_laysWays_105 : decode cd_Model_laysWays 105 = .ok (.iload_n 2, 1) := by decide +kernel
theorem dc_Model_laysWays_106 : decode cd_Model_laysWays 106 = .ok (.bipush 6, 2) := by decide +kernel
theorem dc_Model_laysWays_108 : decode cd_Model_laysWays 108 = .ok (.irem, 1) := by decide +kernel
theorem dc_Model_laysWays_109 : decode cd_Model_laysWays 109 = .ok (.iadd, 1) := by decide +kernel
theorem dc_Model_laysWays_110 : decode cd_Model_laysWays 110 = .ok (.iaload, 1) := by decide +kernel
theorem dc_Model_laysWays_111 : decode cd_Model_laysWays 111 = .ok (.iadd, 1) := by decide +kernel
theorem dc_Model_laysWays_112 : decode cd_Model_laysWays 112 = .ok (.invokestatic 427, 3) := by decide +kernel
theorem dc_Model_laysWays_115 : decode cd_Model_laysWays 115 = .ok (.iastore, 1) := by decide +kernel
theorem dc_Model_laysWays_116 : decode cd_Model_laysWays 116 = .ok (.iinc 2 1, 3) := by decide +kernel
theorem dc_Model_laysWays_119 : decode cd_Model_laysWays 119 = .ok (.goto (-53), 3) := by decide +kernel
theorem dc_Model_laysWays_122 : decode cd_Model_laysWays 122 = .ok (.iinc 1 1, 3) := by decide +kernel
theorem dc_Model_laysWays_125 : decode cd_Model_laysWays 125 = .ok (.goto (-67), 3) := by decide +kernel
theorem dc_Model_laysWays_128 : decode cd_Model_laysWays 128 = .ok (.return_, 1) := by decide +kernel
theorem dc_Model_placeIn_0 : decode cd_Model_placeIn 0 = .ok (.aload_n 0, 1) := by decide +kernel
theorem dc_Model_placeIn_1 : decode cd_Model_placeIn 1 = .ok (.getfield 41, 3) := by decide +kernel
theorem dc_Model_placeIn_4 : decode cd_Model_placeIn 4 = .ok (.iconst 4, 1) := by decide +kernel
theorem dc_Model_placeIn_5 : decode cd_Model_placeIn 5 = .ok (.iload_n 1, 1) := by decide +kernel
theorem dc_Model_placeIn_6 : decode cd_Model_placeIn 6 = .ok (.imul, 1) := by decide +kernel
theorem dc_Model_placeIn_7 : decode cd_Model_placeIn 7 = .ok (.aload_n 0, 1) := by decide +kernel
theorem dc_Model_placeIn_8 : decode cd_Model_placeIn 8 = .ok (.getfield 156, 3) := by decide +kernel
theorem dc_Model_placeIn_11 : decode cd_Model_placeIn 11 = .ok (.iload_n 1, 1) := by decide +kernel
theorem dc_Model_placeIn_12 : decode cd_Model_placeIn 12 = .ok (.iaload, 1) := by decide +kernel
theorem dc_Model_placeIn_13 : decode cd_Model_placeIn 13 = .ok (.iadd, 1) := by decide +kernel
theorem dc_Model_placeIn_14 : decode cd_Model_placeIn 14 = .ok (.iaload, 1) := by decide +kernel
theorem dc_Model_placeIn_15 : decode cd_Model_placeIn 15 = .ok (.ireturn, 1) := by decide +kernel
theorem dc_Model_firstAt_0 : decode cd_Model_firstAt 0 = .ok (.iconst 0, 1) := by decide +kernel
theorem dc_Model_firstAt_1 : decode cd_Model_firstAt 1 = .ok (.istore_n 3, 1) := by decide +kernel
theorem dc_Model_firstAt_2 : decode cd_Model_firstAt 2 = .ok (.iload_n 3, 1) := by decide +kernel
theorem dc_Model_firstAt_3 : decode cd_Model_firstAt 3 = .ok (.sipush 240, 3) := by decide +kernel
theorem dc_Model_firstAt_6 : decode cd_Model_firstAt 6 = .ok (.if_icmp .ge 27, 3) := by decide +kernel
theorem dc_Model_firstAt_9 : decode cd_Model_firstAt 9 = .ok (.aload_n 0, 1) := by decide +kernel
theorem dc_Model_firstAt_10 : decode cd_Model_firstAt 10 = .ok (.getfield 153, 3) := by decide +kernel
theorem dc_Model_firstAt_13 : decode cd_Model_firstAt 13 = .ok (.sipush 240, 3) := by decide +kernel
theorem dc_Model_firstAt_16 : decode cd_Model_firstAt 16 = .ok (.iload_n 1, 1) := by decide +kernel
theorem dc_Model_firstAt_17 : decode cd_Model_firstAt 17 = .ok (.imul, 1) := by decide +kernel
theorem dc_Model_firstAt_18 : decode cd_Model_firstAt 18 = .ok (.iload_n 3, 1) := by decide +kernel
theorem dc_Model_firstAt_19 : decode cd_Model_firstAt 19 = .ok (.iadd, 1) := by decide +kernel
theorem dc_Model_firstAt_20 : decode cd_Model_firstAt 20 = .ok (.iaload, 1) := by decide +kernel
theorem dc_Model_firstAt_21 : decode cd_Model_firstAt 21 = .ok (.iload_n 2, 1) := by decide +kernel
theorem dc_Model_firstAt_22 : decode cd_Model_firstAt 22 = .ok (.if_icmp .ne 5, 3) := by decide +kernel
theorem dc_Model_firstAt_25 : decode cd_Model_firstAt 25 = .ok (.iload_n 3, 1) := by decide +kernel
theorem dc_Model_firstAt_26 : decode cd_Model_firstAt 26 = .ok (.ireturn, 1) := by decide +kernel
theorem dc_Model_firstAt_27 : decode cd_Model_firstAt 27 = .ok (.iinc 3 1, 3) := by decide +kernel
theorem dc_Model_firstAt_30 : decode cd_Model_firstAt 30 = .ok (.goto (-28), 3) := by decide +kernel
theorem dc_Model_firstAt_33 : decode cd_Model_firstAt 33 = .ok (.iconst (-1), 1) := by decide +kernel
theorem dc_Model_firstAt_34 : decode cd_Model_firstAt 34 = .ok (.ireturn, 1) := by decide +kernel
theorem dc_Model_firstMeeting_0 : decode cd_Model_firstMeeting 0 = .ok (.iconst 0, 1) := by decide +kernel
theorem dc_Model_firstMeeting_1 : decode cd_Model_firstMeeting 1 = .ok (.istore_n 3, 1) := by decide +kernel
theorem dc_Model_firstMeeting_2 : decode cd_Model_firstMeeting 2 = .ok (.iload_n 3, 1) := by decide +kernel
theorem dc_Model_firstMeeting_3 : decode cd_Model_firstMeeting 3 = .ok (.sipush 240, 3) := by decide +kernel
theorem dc_Model_firstMeeting_6 : decode cd_Model_firstMeeting 6 = .ok (.if_icmp .ge 53, 3) := by decide +kernel
theorem dc_Model_firstMeeting_9 : decode cd_Model_firstMeeting 9 = .ok (.aload_n 0, 1) := by decide +kernel
theorem dc_Model_firstMeeting_10 : decode cd_Model_firstMeeting 10 = .ok (.getfield 153, 3) := by decide +kernel
theorem dc_Model_firstMeeting_13 : decode cd_Model_firstMeeting 13 = .ok (.sipush 240, 3) := by decide +kernel
theorem dc_Model_firstMeeting_16 : decode cd_Model_firstMeeting 16 = .ok (.iload_n 1, 1) := by decide +kernel
theorem dc_Model_firstMeeting_17 : decode cd_Model_firstMeeting 17 = .ok (.imul, 1) := by decide +kernel
theorem dc_Model_firstMeeting_18 : decode cd_Model_firstMeeting 18 = .ok (.iload_n 3, 1) := by decide +kernel
theorem dc_Model_firstMeeting_19 : decode cd_Model_firstMeeting 19 = .ok (.iadd, 1) := by decide +kernel
theorem dc_Model_firstMeeting_20 : decode cd_Model_firstMeeting 20 = .ok (.iaload, 1) := by decide +kernel
theorem dc_Model_firstMeeting_21 : decode cd_Model_firstMeeting 21 = .ok (.ifCond .lt 32, 3) := by decide +kernel
theorem dc_Model_firstMeeting_24 : decode cd_Model_firstMeeting 24 = .ok (.aload_n 0, 1) := by decide +kernel
theorem dc_Model_firstMeeting_25 : decode cd_Model_firstMeeting 25 = .ok (.getfield 153, 3) := by decide +kernel
theorem dc_Model_firstMeeting_28 : decode cd_Model_firstMeeting 28 = .ok (.sipush 240, 3) := by decide +kernel
theorem dc_Model_firstMeeting_31 : decode cd_Model_firstMeeting 31 = .ok (.iload_n 1, 1) := by decide +kernel
theorem dc_Model_firstMeeting_32 : decode cd_Model_firstMeeting 32 = .ok (.imul, 1) := by decide +kernel
theorem dc_Model_firstMeeting_33 : decode cd_Model_firstMeeting 33 = .ok (.iload_n 3, 1) := by decide +kernel
theorem dc_Model_firstMeeting_34 : decode cd_Model_firstMeeting 34 = .ok (.iadd, 1) := by decide +kernel
theorem dc_Model_firstMeeting_35 : decode cd_Model_firstMeeting 35 = .ok (.iaload, 1) := by decide +kernel
theorem dc_Model_firstMeeting_36 : decode cd_Model_firstMeeting 36 = .ok (.aload_n 0, 1) := by decide +kernel
theorem dc_Model_firstMeeting_37 : decode cd_Model_firstMeeting 37 = .ok (.getfield 153, 3) := by decide +kernel
theorem dc_Model_firstMeeting_40 : decode cd_Model_firstMeeting 40 = .ok (.sipush 240, 3) := by decide +kernel
theorem dc_Model_firstMeeting_43 : decode cd_Model_firstMeeting 43 = .ok (.iload_n 2, 1) := by decide +kernel
theorem dc_Model_firstMeeting_44 : decode cd_Model_firstMeeting 44 = .ok (.imul, 1) := by decide +kernel
theorem dc_Model_firstMeeting_45 : decode cd_Model_firstMeeting 45 = .ok (.iload_n 3, 1) := by decide +kernel
theorem dc_Model_firstMeeting_46 : decode cd_Model_firstMeeting 46 = .ok (.iadd, 1) := by decide +kernel
theorem dc_Model_firstMeeting_47 : decode cd_Model_firstMeeting 47 = .ok (.iaload, 1) := by decide +kernel
theorem dc_Model_firstMeeting_48 : decode cd_Model_firstMeeting 48 = .ok (.if_icmp .ne 5, 3) := by decide +kernel
theorem dc_Model_firstMeeting_51 : decode cd_Model_firstMeeting 51 = .ok (.iload_n 3, 1) := by decide +kernel
theorem dc_Model_firstMeeting_52 : decode cd_Model_firstMeeting 52 = .ok (.ireturn, 1) := by decide +kernel
theorem dc_Model_firstMeeting_53 : decode cd_Model_firstMeeting 53 = .ok (.iinc 3 1, 3) := by decide +kernel
theorem dc_Model_firstMeeting_56 : decode cd_Model_firstMeeting 56 = .ok (.goto (-54), 3) := by decide +kernel
theorem dc_Model_firstMeeting_59 : decode cd_Model_firstMeeting 59 = .ok (.iconst (-1), 1) := by decide +kernel
theorem dc_Model_firstMeeting_60 : decode cd_Model_firstMeeting 60 = .ok (.ireturn, 1) := by decide +kernel
theorem dc_Model_isAlive_0 : decode cd_Model_isAlive 0 = .ok (.aload_n 0, 1) := by decide +kernel
theorem dc_Model_isAlive_1 : decode cd_Model_isAlive 1 = .ok (.getfield 135, 3) := by decide +kernel
theorem dc_Model_isAlive_4 : decode cd_Model_isAlive 4 = .ok (.iconst 2, 1) := by decide +kernel
theorem dc_Model_isAlive_5 : decode cd_Model_isAlive 5 = .ok (.iaload, 1) := by decide +kernel
theorem dc_Model_isAlive_6 : decode cd_Model_isAlive 6 = .ok (.iload_n 1, 1) := by decide +kernel
theorem dc_Model_isAlive_7 : decode cd_Model_isAlive 7 = .ok (.ishr, 1) := by decide +kernel
theorem dc_Model_isAlive_8 : decode cd_Model_isAlive 8 = .ok (.iconst 1, 1) := by decide +kernel
theorem dc_Model_isAlive_9 : decode cd_Model_isAlive 9 = .ok (.iand, 1) := by decide +kernel
theorem dc_Model_isAlive_10 : decode cd_Model_isAlive 10 = .ok (.iconst 1, 1) := by decide +kernel
theorem dc_Model_isAlive_11 : decode cd_Model_isAlive 11 = .ok (.if_icmp .ne 7, 3) := by decide +kernel
theorem dc_Model_isAlive_14 : decode cd_Model_isAlive 14 = .ok (.iconst 1, 1) := by decide +kernel
theorem dc_Model_isAlive_15 : decode cd_Model_isAlive 15 = .ok (.goto 4, 3) := by decide +kernel
theorem dc_Model_isAlive_18 : decode cd_Model_isAlive 18 = .ok (.iconst 0, 1) := by decide +kernel
theorem dc_Model_isAlive_19 : decode cd_Model_isAlive 19 = .ok (.ireturn, 1) := by decide +kernel
theorem dc_Model_isAsSeen_0 : decode cd_Model_isAsSeen 0 = .ok (.iconst 0, 1) := by decide +kernel
theorem dc_Model_isAsSeen_1 : decode cd_Model_isAsSeen 1 = .ok (.istore_n 2, 1) := by decide +kernel
theorem dc_Model_isAsSeen_2 : decode cd_Model_isAsSeen 2 = .ok (.iload_n 2, 1) := by decide +kernel
theorem dc_Model_isAsSeen_3 : decode cd_Model_isAsSeen 3 = .ok (.aload_n 0, 1) := by decide +kernel
theorem dc_Model_isAsSeen_4 : decode cd_Model_isAsSeen 4 = .ok (.getfield 120, 3) := by decide +kernel
theorem dc_Model_isAsSeen_7 : decode cd_Model_isAsSeen 7 = .ok (.iconst 0, 1) := by decide +kernel
theorem dc_Model_isAsSeen_8 : decode cd_Model_isAsSeen 8 = .ok (.iaload, 1) := by decide +kernel
theorem dc_Model_isAsSeen_9 : decode cd_Model_isAsSeen 9 = .ok (.if_icmp .ge 51, 3) := by decide +kernel
theorem dc_Model_isAsSeen_12 : decode cd_Model_isAsSeen 12 = .ok (.aload_n 0, 1) := by decide +kernel
theorem dc_Model_isAsSeen_13 : decode cd_Model_isAsSeen 13 = .ok (.getfield 153, 3) := by decide +kernel
theorem dc_Model_isAsSeen_16 : decode cd_Model_isAsSeen 16 = .ok (.sipush 240, 3) := by decide +kernel
theorem dc_Model_isAsSeen_19 : decode cd_Model_isAsSeen 19 = .ok (.aload_n 0, 1) := by decide +kernel
theorem dc_Model_isAsSeen_20 : decode cd_Model_isAsSeen 20 = .ok (.getfield 123, 3) := by decide +kernel
theorem dc_Model_isAsSeen_23 : decode cd_Model_isAsSeen 23 = .ok (.iload_n 2, 1) := by decide +kernel
theorem dc_Model_isAsSeen_24 : decode cd_Model_isAsSeen 24 = .ok (.iaload, 1) := by decide +kernel
theorem dc_Model_isAsSeen_25 : decode cd_Model_isAsSeen 25 = .ok (.imul, 1) := by decide +kernel
theorem dc_Model_isAsSeen_26 : decode cd_Model_isAsSeen 26 = .ok (.iload_n 1, 1) := by decide +kernel
theorem dc_Model_isAsSeen_27 : decode cd_Model_isAsSeen 27 = .ok (.iadd, 1) := by decide +kernel
theorem dc_Model_isAsSeen_28 : decode cd_Model_isAsSeen 28 = .ok (.iaload, 1) := by decide +kernel
theorem dc_Model_isAsSeen_29 : decode cd_Model_isAsSeen 29 = .ok (.aload_n 0, 1) := by decide +kernel
theorem dc_Model_isAsSeen_30 : decode cd_Model_isAsSeen 30 = .ok (.getfield 126, 3) := by decide +kernel
theorem dc_Model_isAsSeen_33 : decode cd_Model_isAsSeen 33 = .ok (.iload_n 2, 1) := by decide +kernel
theorem dc_Model_isAsSeen_34 : decode cd_Model_isAsSeen 34 = .ok (.iaload, 1) := by decide +kernel
theorem dc_Model_isAsSeen_35 : decode cd_Model_isAsSeen 35 = .ok (.if_icmp .ne 7, 3) := by decide +kernel
theorem dc_Model_isAsSeen_38 : decode cd_Model_isAsSeen 38 = .ok (.iconst 1, 1) := by decide +kernel
theorem dc_Model_isAsSeen_39 : decode cd_Model_isAsSeen 39 = .ok (.goto 4, 3) := by decide +kernel
theorem dc_Model_isAsSeen_42 : decode cd_Model_isAsSeen 42 = .ok (.iconst 0, 1) := by decide +kernel
theorem dc_Model_isAsSeen_43 : decode cd_Model_isAsSeen 43 = .ok (.aload_n 0, 1) := by decide +kernel
theorem dc_Model_isAsSeen_44 : decode cd_Model_isAsSeen 44 = .ok (.getfield 129, 3) := by decide +kernel
theorem dc_Model_isAsSeen_47 : decode cd_Model_isAsSeen 47 = .ok (.iload_n 2, 1) := by decide +kernel
theorem dc_Model_isAsSeen_48 : decode cd_Model_isAsSeen 48 = .ok (.baload, 1) := by decide +kernel
theorem dc_Model_isAsSeen_49 : decode cd_Model_isAsSeen 49 = .ok (.if_icmp .eq 5, 3) := by decide +kernel
theorem dc_Model_isAsSeen_52 : decode cd_Model_isAsSeen 52 = .ok (.iconst 0, 1) := by decide +kernel
theorem dc_Model_isAsSeen_53 : decode cd_Model_isAsSeen 53 = .ok (.ireturn, 1) := by decide +kernel
theorem dc_Model_isAsSeen_54 : decode cd_Model_isAsSeen 54 = .ok (.iinc 2 1, 3) := by decide +kernel
theorem dc_Model_isAsSeen_57 : decode cd_Model_isAsSeen 57 = .ok (.goto (-55), 3) := by decide +kernel
theorem dc_Model_isAsSeen_60 : decode cd_Model_isAsSeen 60 = .ok (.iconst 1, 1) := by decide +kernel
theorem dc_Model_isAsSeen_61 : decode cd_Model_isAsSeen 61 = .ok (.ireturn, 1) := by decide +kernel
theorem dc_Model_thereAt_0 : decode cd_Model_thereAt 0 = .ok (.iconst 0, 1) := by decide +kernel
theorem dc_Model_thereAt_1 : decode cd_Model_thereAt 1 = .ok (.istore_n 3, 1) := by decide +kernel
theorem dc_Model_thereAt_2 : decode cd_Model_thereAt 2 = .ok (.iconst 0, 1) := by decide +kernel
theorem dc_Model_thereAt_3 : decode cd_Model_thereAt 3 = .ok (.istore 4, 2) := by decide +kernel
theorem dc_Model_thereAt_5 : decode cd_Model_thereAt 5 = .ok (.iload 4, 2) := by decide +kernel
theorem dc_Model_thereAt_7 : decode cd_Model_thereAt 7 = .ok (.aload_n 0, 1) := by decide +kernel
theorem dc_Model_thereAt_8 : decode cd_Model_thereAt 8 = .ok (.getfield 13, 3) := by decide +kernel
theorem dc_Model_thereAt_11 : decode cd_Model_thereAt 11 = .ok (.iconst 1, 1) := by decide +kernel
theorem dc_Model_thereAt_12 : decode cd_Model_thereAt 12 = .ok (.iaload, 1) := by decide +kernel
theorem dc_Model_thereAt_13 : decode cd_Model_thereAt 13 = .ok (.if_icmp .ge 37, 3) := by decide +kernel
theorem dc_Model_thereAt_16 : decode cd_Model_thereAt 16 = .ok (.iload_n 3, 1) := by decide +kernel
theorem dc_Model_thereAt_17 : decode cd_Model_thereAt 17 = .ok (.aload_n 0, 1) := by decide +kernel
theorem dc_Model_thereAt_18 : decode cd_Model_thereAt 18 = .ok (.getfield 153, 3) := by decide +kernel
theorem dc_Model_thereAt_21 : decode cd_Model_thereAt 21 = .ok (.sipush 240, 3) := by decide +kernel
theorem dc_Model_thereAt_24 : decode cd_Model_thereAt 24 = .ok (.iload 4, 2) := by decide +kernel
theorem dc_Model_thereAt_26 : decode cd_Model_thereAt 26 = .ok (.imul, 1) := by decide +kernel
theorem dc_Model_thereAt_27 : decode cd_Model_thereAt 27 = .ok (.iload_n 2, 1) := by decide +kernel
theorem dc_Model_thereAt_28 : decode cd_Model_thereAt 28 = .ok (.iadd, 1) := by decide +kernel
theorem dc_Model_thereAt_29 : decode cd_Model_thereAt 29 = .ok (.iaload, 1) := by decide +kernel
theorem dc_Model_thereAt_30 : decode cd_Model_thereAt 30 = .ok (.iload_n 1, 1) := by decide +kernel
theorem dc_Model_thereAt_31 : decode cd_Model_thereAt 31 = .ok (.if_icmp .ne 10, 3) := by decide +kernel
theorem dc_Model_thereAt_34 : decode cd_Model_thereAt 34 = .ok (.iconst 1, 1) := by decide +kernel
theorem dc_Model_thereAt_35 : decode cd_Model_thereAt 35 = .ok (.iload 4, 2) := by decide +kernel
theorem dc_Model_thereAt_37 : decode cd_Model_thereAt 37 = .ok (.ishl, 1) := by decide +kernel
theorem dc_Model_thereAt_38 : decode cd_Model_thereAt 38 = .ok (.goto 4, 3) := by decide +kernel
theorem dc_Model_thereAt_41 : decode cd_Model_thereAt 41 = .ok (.iconst 0, 1) := by decide +kernel
theorem dc_Model_thereAt_42 : decode cd_Model_thereAt 42 = .ok (.ior, 1) := by decide +kernel
theorem dc_Model_thereAt_43 : decode cd_Model_thereAt 43 = .ok (.istore_n 3, 1) := by decide +kernel
theorem dc_Model_thereAt_44 : decode cd_Model_thereAt 44 = .ok (.iinc 4 1, 3) := by decide +kernel
theorem dc_Model_thereAt_47 : decode cd_Model_thereAt 47 = .ok (.goto (-42), 3) := by decide +kernel
theorem dc_Model_thereAt_50 : decode cd_Model_thereAt 50 = .ok (.iload_n 3, 1) := by decide +kernel
theorem dc_Model_thereAt_51 : decode cd_Model_thereAt 51 = .ok (.ireturn, 1) := by decide +kernel
theorem dc_Model_firstMeetingAt_0 : decode cd_Model_firstMeetingAt 0 = .ok (.iconst 0, 1) := by decide +kernel
theorem dc_Model_firstMeetingAt_1 : decode cd_Model_firstMeetingAt 1 = .ok (.istore 4, 2) := by decide +kernel
theorem dc_Model_firstMeetingAt_3 : decode cd_Model_firstMeetingAt 3 = .ok (.iload 4, 2) := by decide +kernel
theorem dc_Model_firstMeetingAt_5 : decode cd_Model_firstMeetingAt 5 = .ok (.sipush 240, 3) := by decide +kernel
theorem dc_Model_firstMeetingAt_8 : decode cd_Model_firstMeetingAt 8 = .ok (.if_icmp .ge 46, 3) := by decide +kernel
theorem dc_Model_firstMeetingAt_11 : decode cd_Model_firstMeetingAt 11 = .ok (.aload_n 0, 1) := by decide +kernel
theorem dc_Model_firstMeetingAt_12 : decode cd_Model_firstMeetingAt 12 = .ok (.getfield 153, 3) := by decide +kernel
theorem dc_Model_firstMeetingAt_15 : decode cd_Model_firstMeetingAt 15 = .ok (.sipush 240, 3) := by decide +kernel
theorem dc_Model_firstMeetingAt_18 : decode cd_Model_firstMeetingAt 18 = .ok (.iload_n 1, 1) := by decide +kernel
theorem dc_Model_firstMeetingAt_19 : decode cd_Model_firstMeetingAt 19 = .ok (.imul, 1) := by decide +kernel
theorem dc_Model_firstMeetingAt_20 : decode cd_Model_firstMeetingAt 20 = .ok (.iload 4, 2) := by decide +kernel
theorem dc_Model_firstMeetingAt_22 : decode cd_Model_firstMeetingAt 22 = .ok (.iadd, 1) := by decide +kernel
theorem dc_Model_firstMeetingAt_23 : decode cd_Model_firstMeetingAt 23 = .ok (.iaload, 1) := by decide +kernel
theorem dc_Model_firstMeetingAt_24 : decode cd_Model_firstMeetingAt 24 = .ok (.iload_n 3, 1) := by decide +kernel
theorem dc_Model_firstMeetingAt_25 : decode cd_Model_firstMeetingAt 25 = .ok (.if_icmp .ne 23, 3) := by decide +kernel
theorem dc_Model_firstMeetingAt_28 : decode cd_Model_firstMeetingAt 28 = .ok (.aload_n 0, 1) := by decide +kernel
theorem dc_Model_firstMeetingAt_29 : decode cd_Model_firstMeetingAt 29 = .ok (.getfield 153, 3) := by decide +kernel
theorem dc_Model_firstMeetingAt_32 : decode cd_Model_firstMeetingAt 32 = .ok (.sipush 240, 3) := by decide +kernel
theorem dc_Model_firstMeetingAt_35 : decode cd_Model_firstMeetingAt 35 = .ok (.iload_n 2, 1) := by decide +kernel
theorem dc_Model_firstMeetingAt_36 : decode cd_Model_firstMeetingAt 36 = .ok (.imul, 1) := by decide +kernel
theorem dc_Model_firstMeetingAt_37 : decode cd_Model_firstMeetingAt 37 = .ok (.iload 4, 2) := by decide +kernel
theorem dc_Model_firstMeetingAt_39 : decode cd_Model_firstMeetingAt 39 = .ok (.iadd, 1) := by decide +kernel
theorem dc_Model_firstMeetingAt_40 : decode cd_Model_firstMeetingAt 40 = .ok (.iaload, 1) := by decide +kernel
theorem dc_Model_firstMeetingAt_41 : decode cd_Model_firstMeetingAt 41 = .ok (.iload_n 3, 1) := by decide +kernel
theorem dc_Model_firstMeetingAt_42 : decode cd_Model_firstMeetingAt 42 = .ok (.if_icmp .ne 6, 3) := by decide +kernel
theorem dc_Model_firstMeetingAt_45 : decode cd_Model_firstMeetingAt 45 = .ok (.iload 4, 2) := by decide +kernel
theorem dc_Model_firstMeetingAt_47 : decode cd_Model_firstMeetingAt 47 = .ok (.ireturn, 1) := by decide +kernel
theorem dc_Model_firstMeetingAt_48 : decode cd_Model_firstMeetingAt 48 = .ok (.iinc 4 1, 3) := by decide +kernel
theorem dc_Model_firstMeetingAt_51 : decode cd_Model_firstMeetingAt 51 = .ok (.goto (-48), 3) := by decide +kernel
theorem dc_Model_firstMeetingAt_54 : decode cd_Model_firstMeetingAt 54 = .ok (.iconst (-1), 1) := by decide +kernel
theorem dc_Model_firstMeetingAt_55 : decode cd_Model_firstMeetingAt 55 = .ok (.ireturn, 1) := by decide +kernel
theorem dc_Model_grown_0 : decode cd_Model_grown 0 = .ok (.lconst 0, 1) := by decide +kernel
theorem dc_Model_grown_1 : decode cd_Model_grown 1 = .ok (.lstore_n 3, 1) := by decide +kernel
theorem dc_Model_grown_2 : decode cd_Model_grown 2 = .ok (.iconst 0, 1) := by decide +kernel
theorem dc_Model_grown_3 : decode cd_Model_grown 3 = .ok (.istore 5, 2) := by decide +kernel
theorem dc_Model_grown_5 : decode cd_Model_grown 5 = .ok (.iload 5, 2) := by decide +kernel
theorem dc_Model_grown_7 : decode cd_Model_grown 7 = .ok (.bipush 64, 2) := by decide +kernel
theorem dc_Model_grown_9 : decode cd_Model_grown 9 = .ok (.if_icmp .ge 29, 3) := by decide +kernel
theorem dc_Model_grown_12 : decode cd_Model_grown 12 = .ok (.lload_n 0, 1) := by decide +kernel
theorem dc_Model_grown_13 : decode cd_Model_grown 13 = .ok (.iload 5, 2) := by decide +kernel
theorem dc_Model_grown_15 : decode cd_Model_grown 15 = .ok (.lshr, 1) := by decide +kernel
theorem dc_Model_grown_16 : decode cd_Model_grown 16 = .ok (.lconst 1, 1) := by decide +kernel
theorem dc_Model_grown_17 : decode cd_Model_grown 17 = .ok (.land, 1) := by decide +kernel
theorem dc_Model_grown_18 : decode cd_Model_grown 18 = .ok (.lconst 1, 1) := by decide +kernel
theorem dc_Model_grown_19 : decode cd_Model_grown 19 = .ok (.lcmp, 1) := by decide +kernel
theorem dc_Model_grown_20 : decode cd_Model_grown 20 = .ok (.ifCond .ne 12, 3) := by decide +kernel
theorem dc_Model_grown_23 : decode cd_Model_grown 23 = .ok (.lload_n 3, 1) := by decide +kernel
theorem dc_Model_grown_24 : decode cd_Model_grown 24 = .ok (.lconst 1, 1) := by decide +kernel
theorem dc_Model_grown_25 : decode cd_Model_grown 25 = .ok (.iload 5, 2) := by decide +kernel
theorem dc_Model_grown_27 : decode cd_Model_grown 27 = .ok (.iload_n 2, 1) := by decide +kernel
theorem dc_Model_grown_28 : decode cd_Model_grown 28 = .ok (.ior, 1) := by decide +kernel
theorem dc_Model_grown_29 : decode cd_Model_grown 29 = .ok (.lshl, 1) := by decide +kernel
theorem dc_Model_grown_30 : decode cd_Model_grown 30 = .ok (.lor, 1) := by decide +kernel
theorem dc_Model_grown_31 : decode cd_Model_grown 31 = .ok (.lstore_n 3, 1) := by decide +kernel
theorem dc_Model_grown_32 : decode cd_Model_grown 32 = .ok (.iinc 5 1, 3) := by decide +kernel
theorem dc_Model_grown_35 : decode cd_Model_grown 35 = .ok (.goto (-30), 3) := by decide +kernel
theorem dc_Model_grown_38 : decode cd_Model_grown 38 = .ok (.lload_n 3, 1) := by decide +kernel
theorem dc_Model_grown_39 : decode cd_Model_grown 39 = .ok (.lreturn, 1) := by decide +kernel
theorem dc_Model_isMeeting_0 : decode cd_Model_isMeeting 0 = .ok (.iconst 0, 1) := by decide +kernel
theorem dc_Model_isMeeting_1 : decode cd_Model_isMeeting 1 = .ok (.istore_n 2, 1) := by decide +kernel
theorem dc_Model_isMeeting_2 : decode cd_Model_isMeeting 2 = .ok (.iload_n 2, 1) := by decide +kernel
theorem dc_Model_isMeeting_3 : decode cd_Model_isMeeting 3 = .ok (.aload_n 0, 1) := by decide +kernel
theorem dc_Model_isMeeting_4 : decode cd_Model_isMeeting 4 = .ok (.getfield 13, 3) := by decide +kernel
theorem dc_Model_isMeeting_7 : decode cd_Model_isMeeting 7 = .ok (.iconst 1, 1) := by decide +kernel
theorem dc_Model_isMeeting_8 : decode cd_Model_isMeeting 8 = .ok (.iaload, 1) := by decide +kernel
theorem dc_Model_isMeeting_9 : decode cd_Model_isMeeting 9 = .ok (.if_icmp .ge 66, 3) := by decide +kernel
theorem dc_Model_isMeeting_12 : decode cd_Model_isMeeting 12 = .ok (.iconst 0, 1) := by decide +kernel
theorem dc_Model_isMeeting_13 : decode cd_Model_isMeeting 13 = .ok (.istore_n 3, 1) := by decide +kernel
theorem dc_Model_isMeeting_14 : decode cd_Model_isMeeting 14 = .ok (.iload_n 3, 1) := by decide +kernel
theorem dc_Model_isMeeting_15 : decode cd_Model_isMeeting 15 = .ok (.iload_n 2, 1) := by decide +kernel
theorem dc_Model_isMeeting_16 : decode cd_Model_isMeeting 16 = .ok (.if_icmp .ge 53, 3) := by decide +kernel
theorem dc_Model_isMeeting_19 : decode cd_Model_isMeeting 19 = .ok (.aload_n 0, 1) := by decide +kernel
theorem dc_Model_isMeeting_20 : decode cd_Model_isMeeting 20 = .ok (.getfield 153, 3) := by decide +kernel
theorem dc_Model_isMeeting_23 : decode cd_Model_isMeeting 23 = .ok (.sipush 240, 3) := by decide +kernel
theorem dc_Model_isMeeting_26 : decode cd_Model_isMeeting 26 = .ok (.iload_n 2, 1) := by decide +kernel
theorem dc_Model_isMeeting_27 : decode cd_Model_isMeeting 27 = .ok (.imul, 1) := by decide +kernel
theorem dc_Model_isMeeting_28 : decode cd_Model_isMeeting 28 = .ok (.iload_n 1, 1) := by decide +kernel
theorem dc_Model_isMeeting_29 : decode cd_Model_isMeeting 29 = .ok (.iadd, 1) := by decide +kernel
theorem dc_Model_isMeeting_30 : decode cd_Model_isMeeting 30 = .ok (.iaload, 1) := by decide +kernel
theorem dc_Model_isMeeting_31 : decode cd_Model_isMeeting 31 = .ok (.ifCond .lt 32, 3) := by decide +kernel
theorem dc_Model_isMeeting_34 : decode cd_Model_isMeeting 34 = .ok (.aload_n 0, 1) := by decide +kernel
theorem dc_Model_isMeeting_35 : decode cd_Model_isMeeting 35 = .ok (.getfield 153, 3) := by decide +kernel
theorem dc_Model_isMeeting_38 : decode cd_Model_isMeeting 38 = .ok (.sipush 240, 3) := by decide +kernel
theorem dc_Model_isMeeting_41 : decode cd_Model_isMeeting 41 = .ok (.iload_n 2, 1) := by decide +kernel
theorem dc_Model_isMeeting_42 : decode cd_Model_isMeeting 42 = .ok (.imul, 1) := by decide +kernel
theorem dc_Model_isMeeting_43 : decode cd_Model_isMeeting 43 = .ok (.iload_n 1, 1) := by decide +kernel
theorem dc_Model_isMeeting_44 : decode cd_Model_isMeeting 44 = .ok (.iadd, 1) := by decide +kernel
theorem dc_Model_isMeeting_45 : decode cd_Model_isMeeting 45 = .ok (.iaload, 1) := by decide +kernel
theorem dc_Model_isMeeting_46 : decode cd_Model_isMeeting 46 = .ok (.aload_n 0, 1) := by decide +kernel
theorem dc_Model_isMeeting_47 : decode cd_Model_isMeeting 47 = .ok (.getfield 153, 3) := by decide +kernel
theorem dc_Model_isMeeting_50 : decode cd_Model_isMeeting 50 = .ok (.sipush 240, 3) := by decide +kernel
theorem dc_Model_isMeeting_53 : decode cd_Model_isMeeting 53 = .ok (.iload_n 3, 1) := by decide +kernel
theorem dc_Model_isMeeting_54 : decode cd_Model_isMeeting 54 = .ok (.imul, 1) := by decide +kernel
theorem dc_Model_isMeeting_55 : decode cd_Model_isMeeting 55 = .ok (.iload_n 1, 1) := by decide +kernel
theorem dc_Model_isMeeting_56 : decode cd_Model_isMeeting 56 = .ok (.iadd, 1) := by decide +kernel
theorem dc_Model_isMeeting_57 : decode cd_Model_isMeeting 57 = .ok (.iaload, 1) := by decide +kernel
theorem dc_Model_isMeeting_58 : decode cd_Model_isMeeting 58 = .ok (.if_icmp .ne 5, 3) := by decide +kernel
theorem dc_Model_isMeeting_61 : decode cd_Model_isMeeting 61 = .ok (.iconst 1, 1) := by decide +kernel
theorem dc_Model_isMeeting_62 : decode cd_Model_isMeeting 62 = .ok (.ireturn, 1) := by decide +kernel
theorem dc_Model_isMeeting_63 : decode cd_Model_isMeeting 63 = .ok (.iinc 3 1, 3) := by decide +kernel
theorem dc_Model_isMeeting_66 : decode cd_Model_isMeeting 66 = .ok (.goto (-52), 3) := by decide +kernel
theorem dc_Model_isMeeting_69 : decode cd_Model_isMeeting 69 = .ok (.iinc 2 1, 3) := by decide +kernel
theorem dc_Model_isMeeting_72 : decode cd_Model_isMeeting 72 = .ok (.goto (-70), 3) := by decide +kernel
theorem dc_Model_isMeeting_75 : decode cd_Model_isMeeting 75 = .ok (.iconst 0, 1) := by decide +kernel
theorem dc_Model_isMeeting_76 : decode cd_Model_isMeeting 76 = .ok (.ireturn, 1) := by decide +kernel
theorem dc_Model_getsBy_0 : decode cd_Model_getsBy 0 = .ok (.iload_n 0, 1) := by decide +kernel
theorem dc_Model_getsBy_1 : decode cd_Model_getsBy 1 = .ok (.iload_n 1, 1) := by decide +kernel
theorem dc_Model_getsBy_2 : decode cd_Model_getsBy 2 = .ok (.if_icmp .ne 5, 3) := by decide +kernel
theorem dc_Model_getsBy_5 : decode cd_Model_getsBy 5 = .ok (.iload_n 2, 1) := by decide +kernel
theorem dc_Model_getsBy_6 : decode cd_Model_getsBy 6 = .ok (.ireturn, 1) := by decide +kernel
theorem dc_Model_getsBy_7 : decode cd_Model_getsBy 7 = .ok (.iload_n 0, 1) := by decide +kernel
theorem dc_Model_getsBy_8 : decode cd_Model_getsBy 8 = .ok (.iload_n 1, 1) := by decide +kernel
theorem dc_Model_getsBy_9 : decode cd_Model_getsBy 9 = .ok (.if_icmp .ge 21, 3) := by decide +kernel
theorem dc_Model_getsBy_12 : decode cd_Model_getsBy 12 = .ok (.iload_n 1, 1) := by decide +kernel
theorem dc_Model_getsBy_13 : decode cd_Model_getsBy 13 = .ok (.iload_n 0, 1) := by decide +kernel
theorem dc_Model_getsBy_14 : decode cd_Model_getsBy 14 = .ok (.isub, 1) := by decide +kernel
theorem dc_Model_getsBy_15 : decode cd_Model_getsBy 15 = .ok (.iload_n 3, 1) := by decide +kernel
theorem dc_Model_getsBy_16 : decode cd_Model_getsBy 16 = .ok (.if_icmp .gt 11, 3) := by decide +kernel
theorem dc_Model_getsBy_19 : decode cd_Model_getsBy 19 = .ok (.iload_n 2, 1) := by decide +kernel
theorem dc_Model_getsBy_20 : decode cd_Model_getsBy 20 = .ok (.iload_n 1, 1) := by decide +kernel
theorem dc_Model_getsBy_21 : decode cd_Model_getsBy 21 = .ok (.iload_n 0, 1) := by decide +kernel
theorem dc_Model_getsBy_22 : decode cd_Model_getsBy 22 = .ok (.isub, 1) := by decide +kernel
theorem dc_Model_getsBy_23 : decode cd_Model_getsBy 23 = .ok (.isub, 1) := by decide +kernel
theorem dc_Model_getsBy_24 : decode cd_Model_getsBy 24 = .ok (.goto 5, 3) := by decide +kernel
theorem dc_Model_getsBy_27 : decode cd_Model_getsBy 27 = .ok (.iload_n 3, 1) := by decide +kernel
theorem dc_Model_getsBy_28 : decode cd_Model_getsBy 28 = .ok (.ineg, 1) := by decide +kernel
theorem dc_Model_getsBy_29 : decode cd_Model_getsBy 29 = .ok (.ireturn, 1) := by decide +kernel
theorem dc_Model_getsBy_30 : decode cd_Model_getsBy 30 = .ok (.iload_n 0, 1) := by decide +kernel
theorem dc_Model_getsBy_31 : decode cd_Model_getsBy 31 = .ok (.iload_n 1, 1) := by decide +kernel
theorem dc_Model_getsBy_32 : decode cd_Model_getsBy 32 = .ok (.isub, 1) := by decide +kernel
theorem dc_Model_getsBy_33 : decode cd_Model_getsBy 33 = .ok (.iload 4, 2) := by decide +kernel
theorem dc_Model_getsBy_35 : decode cd_Model_getsBy 35 = .ok (.if_icmp .gt 7, 3) := by decide +kernel
theorem dc_Model_getsBy_38 : decode cd_Model_getsBy 38 = .ok (.iload_n 2, 1) := by decide +kernel
theorem dc_Model_getsBy_39 : decode cd_Model_getsBy 39 = .ok (.goto 4, 3) := by decide +kernel
theorem dc_Model_getsBy_42 : decode cd_Model_getsBy 42 = .ok (.iconst 0, 1) := by decide +kernel
theorem dc_Model_getsBy_43 : decode cd_Model_getsBy 43 = .ok (.ireturn, 1) := by decide +kernel
theorem dc_Model_draws_0 : decode cd_Model_draws 0 = .ok (.aload_n 0, 1) := by decide +kernel
theorem dc_Model_draws_1 : decode cd_Model_draws 1 = .ok (.aload_n 0, 1) := by decide +kernel
theorem dc_Model_draws_2 : decode cd_Model_draws 2 = .ok (.getfield 553, 3) := by decide +kernel
theorem dc_Model_draws_5 : decode cd_Model_draws 5 = .ok (.ldc2_w 556, 3) := by decide +kernel
theorem dc_Model_draws_8 : decode cd_Model_draws 8 = .ok (.lmul, 1) := by decide +kernel
theorem dc_Model_draws_9 : decode cd_Model_draws 9 = .ok (.ldc2_w 558, 3) := by decide +kernel
theorem dc_Model_draws_12 : decode cd_Model_draws 12 = .ok (.ladd, 1) := by decide +kernel
theorem dc_Model_draws_13 : decode cd_Model_draws 13 = .ok (.ldc2_w 560, 3) := by decide +kernel
theorem dc_Model_draws_16 : decode cd_Model_draws 16 = .ok (.lrem, 1) := by decide +kernel
theorem dc_Model_draws_17 : decode cd_Model_draws 17 = .ok (.putfield 553, 3) := by decide +kernel
theorem dc_Model_draws_20 : decode cd_Model_draws 20 = .ok (.aload_n 0, 1) := by decide +kernel
theorem dc_Model_draws_21 : decode cd_Model_draws 21 = .ok (.getfield 553, 3) := by decide +kernel
theorem dc_Model_draws_24 : decode cd_Model_draws 24 = .ok (.ldc2_w 562, 3) := by decide +kernel
theorem dc_Model_draws_27 : decode cd_Model_draws 27 = .ok (.ldiv, 1) := by decide +kernel
theorem dc_Model_draws_28 : decode cd_Model_draws 28 = .ok (.iload_n 1, 1) := by decide +kernel
theorem dc_Model_draws_29 : decode cd_Model_draws 29 = .ok (.i2l, 1) := by decide +kernel
theorem dc_Model_draws_30 : decode cd_Model_draws 30 = .ok (.lrem, 1) := by decide +kernel
theorem dc_Model_draws_31 : decode cd_Model_draws 31 = .ok (.l2i, 1) := by decide +kernel
theorem dc_Model_draws_32 : decode cd_Model_draws 32 = .ok (.ireturn, 1) := by decide +kernel
theorem dc_Model_toldMany_0 : decode cd_Model_toldMany 0 = .ok (.iconst 0, 1) := by decide +kernel
theorem dc_Model_toldMany_1 : decode cd_Model_toldMany 1 = .ok (.istore_n 1, 1) := by decide +kernel
theorem dc_Model_toldMany_2 : decode cd_Model_toldMany 2 = .ok (.iconst 0, 1) := by decide +kernel
theorem dc_Model_toldMany_3 : decode cd_Model_toldMany 3 = .ok (.istore_n 2, 1) := by decide +kernel
theorem dc_Model_toldMany_4 : decode cd_Model_toldMany 4 = .ok (.iload_n 2, 1) := by decide +kernel
theorem dc_Model_toldMany_5 : decode cd_Model_toldMany 5 = .ok (.aload_n 0, 1) := by decide +kernel
theorem dc_Model_toldMany_6 : decode cd_Model_toldMany 6 = .ok (.getfield 13, 3) := by decide +kernel
theorem dc_Model_toldMany_9 : decode cd_Model_toldMany 9 = .ok (.iconst 2, 1) := by decide +kernel
theorem dc_Model_toldMany_10 : decode cd_Model_toldMany 10 = .ok (.iaload, 1) := by decide +kernel
theorem dc_Model_toldMany_11 : decode cd_Model_toldMany 11 = .ok (.if_icmp .ge 28, 3) := by decide +kernel
theorem dc_Model_toldMany_14 : decode cd_Model_toldMany 14 = .ok (.iload_n 1, 1) := by decide +kernel
theorem dc_Model_toldMany_15 : decode cd_Model_toldMany 15 = .ok (.aload_n 0, 1) := by decide +kernel
theorem dc_Model_toldMany_16 : decode cd_Model_toldMany 16 = .ok (.getfield 132, 3) := by decide +kernel
theorem dc_Model_toldMany_19 : decode cd_Model_toldMany 19 = .ok (.iload_n 2, 1) := by decide +kernel
theorem dc_Model_toldMany_20 : decode cd_Model_toldMany 20 = .ok (.iaload, 1) := by decide +kernel
theorem dc_Model_toldMany_21 : decode cd_Model_toldMany 21 = .ok (.bipush (-2), 2) := by decide +kernel
theorem dc_Model_toldMany_23 : decode cd_Model_toldMany 23 = .ok (.if_icmp .eq 7, 3) := by decide +kernel
theorem dc_Model_toldMany_26 : decode cd_Model_toldMany 26 = .ok (.iconst 1, 1) := by decide +kernel
theorem dc_Model_toldMany_27 : decode cd_Model_toldMany 27 = .ok (.goto 4, 3) := by decide +kernel
theorem dc_Model_toldMany_30 : decode cd_Model_toldMany 30 = .ok (.iconst 0, 1) := by decide +kernel
theorem dc_Model_toldMany_31 : decode cd_Model_toldMany 31 = .ok (.iadd, 1) := by decide +kernel
theorem dc_Model_toldMany_32 : decode cd_Model_toldMany 32 = .ok (.istore_n 1, 1) := by decide +kernel
theorem dc_Model_toldMany_33 : decode cd_Model_toldMany 33 = .ok (.iinc 2 1, 3) := by decide +kernel
theorem dc_Model_toldMany_36 : decode cd_Model_toldMany 36 = .ok (.goto (-32), 3) := by decide +kernel
theorem dc_Model_toldMany_39 : decode cd_Model_toldMany 39 = .ok (.iload_n 1, 1) := by decide +kernel
theorem dc_Model_toldMany_40 : decode cd_Model_toldMany 40 = .ok (.ireturn, 1) := by decide +kernel
theorem dc_Model_nextToken_0 : decode cd_Model_nextToken 0 = .ok (.aload_n 0, 1) := by decide +kernel
theorem dc_Model_nextToken_1 : decode cd_Model_nextToken 1 = .ok (.getfield 195, 3) := by decide +kernel
theorem dc_Model_nextToken_4 : decode cd_Model_nextToken 4 = .ok (.aload_n 0, 1) := by decide +kernel
theorem dc_Model_nextToken_5 : decode cd_Model_nextToken 5 = .ok (.getfield 192, 3) := by decide +kernel
theorem dc_Model_nextToken_8 : decode cd_Model_nextToken 8 = .ok (.if_icmp .ge 44, 3) := by decide +kernel
theorem dc_Model_nextToken_11 : decode cd_Model_nextToken 11 = .ok (.aload_n 0, 1) := by decide +kernel
theorem dc_Model_nextToken_12 : decode cd_Model_nextToken 12 = .ok (.getfield 7, 3) := by decide +kernel
theorem dc_Model_nextToken_15 : decode cd_Model_nextToken 15 = .ok (.aload_n 0, 1) := by decide +kernel
theorem dc_Model_nextToken_16 : decode cd_Model_nextToken 16 = .ok (.getfield 195, 3) := by decide +kernel
theorem dc_Model_nextToken_19 : decode cd_Model_nextToken 19 = .ok (.iaload, 1) := by decide +kernel
theorem dc_Model_nextToken_20 : decode cd_Model_nextToken 20 = .ok (.bipush 32, 2) := by decide +kernel
theorem dc_Model_nextToken_22 : decode cd_Model_nextToken 22 = .ok (.if_icmp .eq 17, 3) := by decide +kernel
theorem dc_Model_nextToken_25 : decode cd_Model_nextToken 25 = .ok (.aload_n 0, 1) := by decide +kernel
theorem dc_Model_nextToken_26 : decode cd_Model_nextToken 26 = .ok (.getfield 7, 3) := by decide +kernel
theorem dc_Model_nextToken_29 : decode cd_Model_nextToken 29 = .ok (.aload_n 0, 1) := by decide +kernel
theorem dc_Model_nextToken_30 : decode cd_Model_nextToken 30 = .ok (.getfield 195, 3) := by decide +kernel
theorem dc_Model_nextToken_33 : decode cd_Model_nextToken 33 = .ok (.iaload, 1) := by decide +kernel
theorem dc_Model_nextToken_34 : decode cd_Model_nextToken 34 = .ok (.bipush 10, 2) := by decide +kernel
theorem dc_Model_nextToken_36 : decode cd_Model_nextToken 36 = .ok (.if_icmp .ne 16, 3) := by decide +kernel
theorem dc_Model_nextToken_39 : decode cd_Model_nextToken 39 = .ok (.aload_n 0, 1) := by decide +kernel
theorem dc_Model_nextToken_40 : decode cd_Model_nextToken 40 = .ok (.dup, 1) := by decide +kernel
theorem dc_Model_nextToken_41 : decode cd_Model_nextToken 41 = .ok (.getfield 195, 3) := by decide +kernel
theorem dc_Model_nextToken_44 : decode cd_Model_nextToken 44 = .ok (.iconst 1, 1) := by decide +kernel
theorem dc_Model_nextToken_45 : decode cd_Model_nextToken 45 = .ok (.iadd, 1) := by decide +kernel
theorem dc_Model_nextToken_46 : decode cd_Model_nextToken 46 = .ok (.putfield 195, 3) := by decide +kernel
theorem dc_Model_nextToken_49 : decode cd_Model_nextToken 49 = .ok (.goto (-49), 3) := by decide +kernel
theorem dc_Model_nextToken_52 : decode cd_Model_nextToken 52 = .ok (.aload_n 0, 1) := by decide +kernel
theorem dc_Model_nextToken_53 : decode cd_Model_nextToken 53 = .ok (.aload_n 0, 1) := by decide +kernel
theorem dc_Model_nextToken_54 : decode cd_Model_nextToken 54 = .ok (.getfield 195, 3) := by decide +kernel
theorem dc_Model_nextToken_57 : decode cd_Model_nextToken 57 = .ok (.putfield 198, 3) := by decide +kernel
theorem dc_Model_nextToken_60 : decode cd_Model_nextToken 60 = .ok (.aload_n 0, 1) := by decide +kernel
theorem dc_Model_nextToken_61 : decode cd_Model_nextToken 61 = .ok (.lconst 0, 1) := by decide +kernel
theorem dc_Model_nextToken_62 : decode cd_Model_nextToken 62 = .ok (.putfield 201, 3) := by decide +kernel
theorem dc_Model_nextToken_65 : decode cd_Model_nextToken 65 = .ok (.aload_n 0, 1) := by decide +kernel
theorem dc_Model_nextToken_66 : decode cd_Model_nextToken 66 = .ok (.iconst 0, 1) := by decide +kernel
theorem dc_Model_nextToken_67 : decode cd_Model_nextToken 67 = .ok (.putfield 205, 3) := by decide +kernel
theorem dc_Model_nextToken_70 : decode cd_Model_nextToken 70 = .ok (.aload_n 0, 1) := by decide +kernel
theorem dc_Model_nextToken_71 : decode cd_Model_nextToken 71 = .ok (.getfield 195, 3) := by decide +kernel
theorem dc_Model_nextToken_74 : decode cd_Model_nextToken 74 = .ok (.aload_n 0, 1) := by decide +kernel
theorem dc_Model_nextToken_75 : decode cd_Model_nextToken 75 = .ok (.getfield 192, 3) := by decide +kernel
theorem dc_Model_nextToken_78 : decode cd_Model_nextToken 78 = .ok (.if_icmp .ne 9, 3) := by decide +kernel
theorem dc_Model_nextToken_81 : decode cd_Model_nextToken 81 = .ok (.aload_n 0, 1) := by decide +kernel
theorem dc_Model_nextToken_82 : decode cd_Model_nextToken 82 = .ok (.iconst 0, 1) := by decide +kernel
theorem dc_Model_nextToken_83 : decode cd_Model_nextToken 83 = .ok (.putfield 208, 3) := by decide +kernel
theorem dc_Model_nextToken_86 : decode cd_Model_nextToken 86 = .ok (.return_, 1) := by decide +kernel
theorem dc_Model_nextToken_87 : decode cd_Model_nextToken 87 = .ok (.aload_n 0, 1) := by decide +kernel
theorem dc_Model_nextToken_88 : decode cd_Model_nextToken 88 = .ok (.getfield 7, 3) := by decide +kernel
theorem dc_Model_nextToken_91 : decode cd_Model_nextToken 91 = .ok (.aload_n 0, 1) := by decide +kernel
theorem dc_Model_nextToken_92 : decode cd_Model_nextToken 92 = .ok (.getfield 195, 3) := by decide +kernel
theorem dc_Model_nextToken_95 : decode cd_Model_nextToken 95 = .ok (.iaload, 1) := by decide +kernel
theorem dc_Model_nextToken_96 : decode cd_Model_nextToken 96 = .ok (.istore_n 1, 1) := by decide +kernel
theorem dc_Model_nextToken_97 : decode cd_Model_nextToken 97 = .ok (.iload_n 1, 1) := by decide +kernel
theorem dc_Model_nextToken_98 : decode cd_Model_nextToken 98 = .ok (.bipush 97, 2) := by decide +kernel
theorem dc_Model_nextToken_100 : decode cd_Model_nextToken 100 = .ok (.if_icmp .lt 112, 3) := by decide +kernel
theorem dc_Model_nextToken_103 : decode cd_Model_nextToken 103 = .ok (.iload_n 1, 1) := by decide +kernel
theorem dc_Model_nextToken_104 : decode cd_Model_nextToken 104 = .ok (.bipush 122, 2) := by decide +kernel
theorem dc_Model_nextToken_106 : decode cd_Model_nextToken 106 = .ok (.if_icmp .gt 106, 3) := by decide +kernel
theorem dc_Model_nextToken_109 : decode cd_Model_nextToken 109 = .ok (.aload_n 0, 1) := by decide +kernel
theorem dc_Model_nextToken_110 : decode cd_Model_nextToken 110 = .ok (.aload_n 0, 1) := by decide +kernel
theorem dc_Model_nextToken_111 : decode cd_Model_nextToken 111 = .ok (.getfield 195, 3) := by decide +kernel
theorem dc_Model_nextToken_114 : decode cd_Model_nextToken 114 = .ok (.invokevirtual 211, 3) := by decide +kernel
theorem dc_Model_nextToken_117 : decode cd_Model_nextToken 117 = .ok (.bipush 97, 2) := by decide +kernel
theorem dc_Model_nextToken_119 : decode cd_Model_nextToken 119 = .ok (.if_icmp .lt 69, 3) := by decide +kernel
theorem dc_Model_nextToken_122 : decode cd_Model_nextToken 122 = .ok (.aload_n 0, 1) := by decide +kernel
theorem dc_Model_nextToken_123 : decode cd_Model_nextToken 123 = .ok (.aload_n 0, 1) := by decide +kernel
theorem dc_Model_nextToken_124 : decode cd_Model_nextToken 124 = .ok (.getfield 195, 3) := by decide +kernel
theorem dc_Model_nextToken_127 : decode cd_Model_nextToken 127 = .ok (.invokevirtual 211, 3) := by decide +kernel
theorem dc_Model_nextToken_130 : decode cd_Model_nextToken 130 = .ok (.bipush 122, 2) := by decide +kernel
theorem dc_Model_nextToken_132 : decode cd_Model_nextToken 132 = .ok (.if_icmp .gt 56, 3) := by decide +kernel
theorem dc_Model_nextToken_135 : decode cd_Model_nextToken 135 = .ok (.aload_n 0, 1) := by decide +kernel
theorem dc_Model_nextToken_136 : decode cd_Model_nextToken 136 = .ok (.getfield 195, 3) := by decide +kernel
theorem dc_Model_nextToken_139 : decode cd_Model_nextToken 139 = .ok (.aload_n 0, 1) := by decide +kernel
theorem dc_Model_nextToken_140 : decode cd_Model_nextToken 140 = .ok (.getfield 198, 3) := by decide +kernel
theorem dc_Model_nextToken_143 : decode cd_Model_nextToken 143 = .ok (.isub, 1) := by decide +kernel
theorem dc_Model_nextToken_144 : decode cd_Model_nextToken 144 = .ok (.bipush 8, 2) := by decide +kernel
theorem dc_Model_nextToken_146 : decode cd_Model_nextToken 146 = .ok (.if_icmp .ge 29, 3) := by decide +kernel
theorem dc_Model_nextToken_149 : decode cd_Model_nextToken 149 = .ok (.aload_n 0, 1) := by decide +kernel
theorem dc_Model_nextToken_150 : decode cd_Model_nextToken 150 = .ok (.aload_n 0, 1) := by decide +kernel
theorem dc_Model_nextToken_151 : decode cd_Model_nextToken 151 = .ok (.getfield 201, 3) := by decide +kernel
theorem dc_Model_nextToken_154 : decode cd_Model_nextToken 154 = .ok (.ldc2_w 215, 3) := by decide +kernel
theorem dc_Model_nextToken_157 : decode cd_Model_nextToken 157 = .ok (.lmul, 1) := by decide +kernel
theorem dc_Model_nextToken_158 : decode cd_Model_nextToken 158 = .ok (.aload_n 0, 1) := by decide +kernel
theorem dc_Model_nextToken_159 : decode cd_Model_nextToken 159 = .ok (.aload_n 0, 1) := by decide +kernel
theorem dc_Model_nextToken_160 : decode cd_Model_nextToken 160 = .ok (.getfield 195, 3) := by decide +kernel
theorem dc_Model_nextToken_163 : decode cd_Model_nextToken 163 = .ok (.invokevirtual 211, 3) := by decide +kernel
theorem dc_Model_nextToken_166 : decode cd_Model_nextToken 166 = .ok (.i2l, 1) := by decide +kernel
theorem dc_Model_nextToken_167 : decode cd_Model_nextToken 167 = .ok (.ladd, 1) := by decide +kernel
theorem dc_Model_nextToken_168 : decode cd_Model_nextToken 168 = .ok (.ldc2_w 217, 3) := by decide +kernel
theorem dc_Model_nextToken_171 : decode cd_Model_nextToken 171 = .ok (.lsub, 1) := by decide +kernel
theorem dc_Model_nextToken_172 : decode cd_Model_nextToken 172 = .ok (.putfield 201, 3) := by decide +kernel
theorem dc_Model_nextToken_175 : decode cd_Model_nextToken 175 = .ok (.aload_n 0, 1) := by decide +kernel
theorem dc_Model_nextToken_176 : decode cd_Model_nextToken 176 = .ok (.dup, 1) := by decide +kernel
theorem dc_Model_nextToken_177 : decode cd_Model_nextToken 177 = .ok (.getfield 195, 3) := by decide +kernel
theorem dc_Model_nextToken_180 : decode cd_Model_nextToken 180 = .ok (.iconst 1, 1) := by decide +kernel
theorem dc_Model_nextToken_181 : decode cd_Model_nextToken 181 = .ok (.iadd, 1) := by decide +kernel
theorem dc_Model_nextToken_182 : decode cd_Model_nextToken 182 = .ok (.putfield 195, 3) := by decide +kernel
theorem dc_Model_nextToken_185 : decode cd_Model_nextToken 185 = .ok (.goto (-76), 3) := by decide +kernel
theorem dc_Model_nextToken_188 : decode cd_Model_nextToken 188 = .ok (.aload_n 0, 1) := by decide +kernel
theorem dc_Model_nextToken_189 : decode cd_Model_nextToken 189 = .ok (.aload_n 0, 1) := by decide +kernel
theorem dc_Model_nextToken_190 : decode cd_Model_nextToken 190 = .ok (.getfield 195, 3) := by decide +kernel
theorem dc_Model_nextToken_193 : decode cd_Model_nextToken 193 = .ok (.aload_n 0, 1) := by decide +kernel
theorem dc_Model_nextToken_194 : decode cd_Model_nextToken 194 = .ok (.getfield 198, 3) := by decide +kernel
theorem dc_Model_nextToken_197 : decode cd_Model_nextToken 197 = .ok (.isub, 1) := by decide +kernel
theorem dc_Model_nextToken_198 : decode cd_Model_nextToken 198 = .ok (.bipush 8, 2) := by decide +kernel
theorem dc_Model_nextToken_200 : decode cd_Model_nextToken 200 = .ok (.if_icmp .le 7, 3) := by decide +kernel
theorem dc_Model_nextToken_203 : decode cd_Model_nextToken 203 = .ok (.iconst 4, 1) := by decide +kernel
theorem dc_Model_nextToken_204 : decode cd_Model_nextToken 204 = .ok (.goto 4, 3) := by decide +kernel
theorem dc_Model_nextToken_207 : decode cd_Model_nextToken 207 = .ok (.iconst 1, 1) := by decide +kernel
theorem dc_Model_nextToken_208 : decode cd_Model_nextToken 208 = .ok (.putfield 208, 3) := by decide +kernel
theorem dc_Model_nextToken_211 : decode cd_Model_nextToken 211 = .ok (.return_, 1) := by decide +kernel
theorem dc_Model_nextToken_212 : decode cd_Model_nextToken 212 = .ok (.iload_n 1, 1) := by decide +kernel
theorem dc_Model_nextToken_213 : decode cd_Model_nextToken 213 = .ok (.bipush 48, 2) := by decide +kernel
theorem dc_Model_nextToken_215 : decode cd_Model_nextToken 215 = .ok (.if_icmp .lt 107, 3) := by decide +kernel
theorem dc_Model_nextToken_218 : decode cd_Model_nextToken 218 = .ok (.iload_n 1, 1) := by decide +kernel
theorem dc_Model_nextToken_219 : decode cd_Model_nextToken 219 = .ok (.bipush 57, 2) := by decide +kernel
theorem dc_Model_nextToken_221 : decode cd_Model_nextToken 221 = .ok (.if_icmp .gt 101, 3) := by decide +kernel
theorem dc_Model_nextToken_224 : decode cd_Model_nextToken 224 = .ok (.aload_n 0, 1) := by decide +kernel
theorem dc_Model_nextToken_225 : decode cd_Model_nextToken 225 = .ok (.aload_n 0, 1) := by decide +kernel
theorem dc_Model_nextToken_226 : decode cd_Model_nextToken 226 = .ok (.getfield 195, 3) := by decide +kernel
theorem dc_Model_nextToken_229 : decode cd_Model_nextToken 229 = .ok (.invokevirtual 211, 3) := by decide +kernel
theorem dc_Model_nextToken_232 : decode cd_Model_nextToken 232 = .ok (.bipush 48, 2) := by decide +kernel
theorem dc_Model_nextToken_234 : decode cd_Model_nextToken 234 = .ok (.if_icmp .lt 65, 3) := by decide +kernel
theorem dc_Model_nextToken_237 : decode cd_Model_nextToken 237 = .ok (.aload_n 0, 1) := by decide +kernel
theorem dc_Model_nextToken_238 : decode cd_Model_nextToken 238 = .ok (.aload_n 0, 1) := by decide +kernel
theorem dc_Model_nextToken_239 : decode cd_Model_nextToken 239 = .ok (.getfield 195, 3) := by decide +kernel
theorem dc_Model_nextToken_242 : decode cd_Model_nextToken 242 = .ok (.invokevirtual 211, 3) := by decide +kernel
theorem dc_Model_nextToken_245 : decode cd_Model_nextToken 245 = .ok (.bipush 57, 2) := by decide +kernel
theorem dc_Model_nextToken_247 : decode cd_Model_nextToken 247 = .ok (.if_icmp .gt 52, 3) := by decide +kernel
theorem dc_Model_nextToken_250 : decode cd_Model_nextToken 250 = .ok (.aload_n 0, 1) := by decide +kernel
theorem dc_Model_nextToken_251 : decode cd_Model_nextToken 251 = .ok (.getfield 195, 3) := by decide +kernel
theorem dc_Model_nextToken_254 : decode cd_Model_nextToken 254 = .ok (.aload_n 0, 1) := by decide +kernel
theorem dc_Model_nextToken_255 : decode cd_Model_nextToken 255 = .ok (.getfield 198, 3) := by decide +kernel
theorem dc_Model_nextToken_258 : decode cd_Model_nextToken 258 = .ok (.isub, 1) := by decide +kernel
theorem dc_Model_nextToken_259 : decode cd_Model_nextToken 259 = .ok (.iconst 4, 1) := by decide +kernel
theorem dc_Model_nextToken_260 : decode cd_Model_nextToken 260 = .ok (.if_icmp .ge 26, 3) := by decide +kernel
theorem dc_Model_nextToken_263 : decode cd_Model_nextToken 263 = .ok (.aload_n 0, 1) := by decide +kernel
theorem dc_Model_nextToken_264 : decode cd_Model_nextToken 264 = .ok (.aload_n 0, 1) := by decide +kernel
theorem dc_Model_nextToken_265 : decode cd_Model_nextToken 265 = .ok (.getfield 205, 3) := by decide +kernel
theorem dc_Model_nextToken_268 : decode cd_Model_nextToken 268 = .ok (.bipush 10, 2) := by decide +kernel
theorem dc_Model_nextToken_270 : decode cd_Model_nextToken 270 = .ok (.imul, 1) := by decide +kernel
theorem dc_Model_nextToken_271 : decode cd_Model_nextToken 271 = .ok (.aload_n 0, 1) := by decide +kernel
theorem dc_Model_nextToken_272 : decode cd_Model_nextToken 272 = .ok (.aload_n 0, 1) := by decide +kernel
theorem dc_Model_nextToken_273 : decode cd_Model_nextToken 273 = .ok (.getfield 195, 3) := by decide +kernel
theorem dc_Model_nextToken_276 : decode cd_Model_nextToken 276 = .ok (.invokevirtual 211, 3) := by decide +kernel
theorem dc_Model_nextToken_279 : decode cd_Model_nextToken 279 = .ok (.iadd, 1) := by decide +kernel
theorem dc_Model_nextToken_280 : decode cd_Model_nextToken 280 = .ok (.bipush 48, 2) := by decide +kernel
theorem dc_Model_nextToken_282 : decode cd_Model_nextToken 282 = .ok (.isub, 1) := by decide +kernel
theorem dc_Model_nextToken_283 : decode cd_Model_nextToken 283 = .ok (.putfield 205, 3) := by decide +kernel
theorem dc_Model_nextToken_286 : decode cd_Model_nextToken 286 = .ok (.aload_n 0, 1) := by decide +kernel
theorem dc_Model_nextToken_287 : decode cd_Model_nextToken 287 = .ok (.dup, 1) := by decide +kernel
theorem dc_Model_nextToken_288 : decode cd_Model_nextToken 288 = .ok (.getfield 195, 3) := by decide +kernel
theorem dc_Model_nextToken_291 : decode cd_Model_nextToken 291 = .ok (.iconst 1, 1) := by decide +kernel
theorem dc_Model_nextToken_292 : decode cd_Model_nextToken 292 = .ok (.iadd, 1) := by decide +kernel
theorem dc_Model_nextToken_293 : decode cd_Model_nextToken 293 = .ok (.putfield 195, 3) := by decide +kernel
theorem dc_Model_nextToken_296 : decode cd_Model_nextToken 296 = .ok (.goto (-72), 3) := by decide +kernel
theorem dc_Model_nextToken_299 : decode cd_Model_nextToken 299 = .ok (.aload_n 0, 1) := by decide +kernel
theorem dc_Model_nextToken_300 : decode cd_Model_nextToken 300 = .ok (.aload_n 0, 1) := by decide +kernel
theorem dc_Model_nextToken_301 : decode cd_Model_nextToken 301 = .ok (.getfield 195, 3) := by decide +kernel
theorem dc_Model_nextToken_304 : decode cd_Model_nextToken 304 = .ok (.aload_n 0, 1) := by decide +kernel
theorem dc_Model_nextToken_305 : decode cd_Model_nextToken 305 = .ok (.getfield 198, 3) := by decide +kernel
theorem dc_Model_nextToken_308 : decode cd_Model_nextToken 308 = .ok (.isub, 1) := by decide +kernel
theorem dc_Model_nextToken_309 : decode cd_Model_nextToken 309 = .ok (.iconst 4, 1) := by decide +kernel
theorem dc_Model_nextToken_310 : decode cd_Model_nextToken 310 = .ok (.if_icmp .le 7, 3) := by decide +kernel
theorem dc_Model_nextToken_313 : decode cd_Model_nextToken 313 = .ok (.iconst 4, 1) := by decide +kernel
theorem dc_Model_nextToken_314 : decode cd_Model_nextToken 314 = .ok (.goto 4, 3) := by decide +kernel
theorem dc_Model_nextToken_317 : decode cd_Model_nextToken 317 = .ok (.iconst 2, 1) := by decide +kernel
theorem dc_Model_nextToken_318 : decode cd_Model_nextToken 318 = .ok (.putfield 208, 3) := by decide +kernel
theorem dc_Model_nextToken_321 : decode cd_Model_nextToken 321 = .ok (.return_, 1) := by decide +kernel
theorem dc_Model_nextToken_322 : decode cd_Model_nextToken 322 = .ok (.aload_n 0, 1) := by decide +kernel
theorem dc_Model_nextToken_323 : decode cd_Model_nextToken 323 = .ok (.dup, 1) := by decide +kernel
theorem dc_Model_nextToken_324 : decode cd_Model_nextToken 324 = .ok (.getfield 195, 3) := by decide +kernel
theorem dc_Model_nextToken_327 : decode cd_Model_nextToken 327 = .ok (.iconst 1, 1) := by decide +kernel
theorem dc_Model_nextToken_328 : decode cd_Model_nextToken 328 = .ok (.iadd, 1) := by decide +kernel
theorem dc_Model_nextToken_329 : decode cd_Model_nextToken 329 = .ok (.putfield 195, 3) := by decide +kernel
theorem dc_Model_nextToken_332 : decode cd_Model_nextToken 332 = .ok (.aload_n 0, 1) := by decide +kernel
theorem dc_Model_nextToken_333 : decode cd_Model_nextToken 333 = .ok (.iload_n 1, 1) := by decide +kernel
theorem dc_Model_nextToken_334 : decode cd_Model_nextToken 334 = .ok (.bipush 40, 2) := by decide +kernel
theorem dc_Model_nextToken_336 : decode cd_Model_nextToken 336 = .ok (.if_icmp .lt 9, 3) := by decide +kernel
theorem dc_Model_nextToken_339 : decode cd_Model_nextToken 339 = .ok (.iload_n 1, 1) := by decide +kernel
theorem dc_Model_nextToken_340 : decode cd_Model_nextToken 340 = .ok (.bipush 43, 2) := by decide +kernel
theorem dc_Model_nextToken_342 : decode cd_Model_nextToken 342 = .ok (.if_icmp .le 21, 3) := by decide +kernel
theorem dc_Model_nextToken_345 : decode cd_Model_nextToken 345 = .ok (.iload_n 1, 1) := by decide +kernel
theorem dc_Model_nextToken_346 : decode cd_Model_nextToken 346 = .ok (.bipush 45, 2) := by decide +kernel
theorem dc_Model_nextToken_348 : decode cd_Model_nextToken 348 = .ok (.if_icmp .eq 15, 3) := by decide +kernel
theorem dc_Model_nextToken_351 : decode cd_Model_nextToken 351 = .ok (.iload_n 1, 1) := by decide +kernel
theorem dc_Model_nextToken_352 : decode cd_Model_nextToken 352 = .ok (.bipush 59, 2) := by decide +kernel
theorem dc_Model_nextToken_354 : decode cd_Model_nextToken 354 = .ok (.if_icmp .lt 13, 3) := by decide +kernel
theorem dc_Model_nextToken_357 : decode cd_Model_nextToken 357 = .ok (.iload_n 1, 1) := by decide +kernel
theorem dc_Model_nextToken_358 : decode cd_Model_nextToken 358 = .ok (.bipush 61, 2) := by decide +kernel
theorem dc_Model_nextToken_360 : decode cd_Model_nextToken 360 = .ok (.if_icmp .gt 7, 3) := by decide +kernel
theorem dc_Model_nextToken_363 : decode cd_Model_nextToken 363 = .ok (.iconst 3, 1) := by decide +kernel
theorem dc_Model_nextToken_364 : decode cd_Model_nextToken 364 = .ok (.goto 4, 3) := by decide +kernel
theorem dc_Model_nextToken_367 : decode cd_Model_nextToken 367 = .ok (.iconst 4, 1) := by decide +kernel
theorem dc_Model_nextToken_368 : decode cd_Model_nextToken 368 = .ok (.putfield 208, 3) := by decide +kernel
theorem dc_Model_nextToken_371 : decode cd_Model_nextToken 371 = .ok (.return_, 1) := by decide +kernel
theorem dc_Model_tests_0 : decode cd_Model_tests 0 = .ok (.aload_n 0, 1) := by decide +kernel
theorem dc_Model_tests_1 : decode cd_Model_tests 1 = .ok (.iload_n 1, 1) := by decide +kernel
theorem dc_Model_tests_2 : decode cd_Model_tests 2 = .ok (.invokevirtual 259, 3) := by decide +kernel
theorem dc_Model_tests_5 : decode cd_Model_tests 5 = .ok (.aload_n 0, 1) := by decide +kernel
theorem dc_Model_tests_6 : decode cd_Model_tests 6 = .ok (.getfield 90, 3) := by decide +kernel
theorem dc_Model_tests_9 : decode cd_Model_tests 9 = .ok (.iload_n 1, 1) := by decide +kernel
theorem dc_Model_tests_10 : decode cd_Model_tests 10 = .ok (.iaload, 1) := by decide +kernel
theorem dc_Model_tests_11 : decode cd_Model_tests 11 = .ok (.istore_n 2, 1) := by decide +kernel
theorem dc_Model_tests_12 : decode cd_Model_tests 12 = .ok (.aload_n 0, 1) := by decide +kernel
theorem dc_Model_tests_13 : decode cd_Model_tests 13 = .ok (.getfield 87, 3) := by decide +kernel
theorem dc_Model_tests_16 : decode cd_Model_tests 16 = .ok (.iload_n 1, 1) := by decide +kernel
theorem dc_Model_tests_17 : decode cd_Model_tests 17 = .ok (.iaload, 1) := by decide +kernel
theorem dc_Model_tests_18 : decode cd_Model_tests 18 = .ok (.bipush 24, 2) := by decide +kernel
theorem dc_Model_tests_20 : decode cd_Model_tests 20 = .ok (.if_icmp .ne 24, 3) := by decide +kernel
theorem dc_Model_tests_23 : decode cd_Model_tests 23 = .ok (.aload_n 0, 1) := by decide +kernel
theorem dc_Model_tests_24 : decode cd_Model_tests 24 = .ok (.getfield 84, 3) := by decide +kernel
theorem dc_Model_tests_27 : decode cd_Model_tests 27 = .ok (.iload_n 1, 1) := by decide +kernel
theorem dc_Model_tests_28 : decode cd_Model_tests 28 = .ok (.iaload, 1) := by decide +kernel
theorem dc_Model_tests_29 : decode cd_Model_tests 29 = .ok (.aload_n 0, 1) := by decide +kernel
theorem dc_Model_tests_30 : decode cd_Model_tests 30 = .ok (.getfield 90, 3) := by decide +kernel
theorem dc_Model_tests_33 : decode cd_Model_tests 33 = .ok (.iload_n 1, 1) := by decide +kernel
theorem dc_Model_tests_34 : decode cd_Model_tests 34 = .ok (.iaload, 1) := by decide +kernel
theorem dc_Model_tests_35 : decode cd_Model_tests 35 = .ok (.if_icmp .ge 7, 3) := by decide +kernel
theorem dc_Model_tests_38 : decode cd_Model_tests 38 = .ok (.iconst 1, 1) := by decide +kernel
theorem dc_Model_tests_39 : decode cd_Model_tests 39 = .ok (.goto 4, 3) := by decide +kernel
theorem dc_Model_tests_42 : decode cd_Model_tests 42 = .ok (.iconst 0, 1) := by decide +kernel
theorem dc_Model_tests_43 : decode cd_Model_tests 43 = .ok (.istore_n 2, 1) := by decide +kernel
theorem dc_Model_tests_44 : decode cd_Model_tests 44 = .ok (.aload_n 0, 1) := by decide +kernel
theorem dc_Model_tests_45 : decode cd_Model_tests 45 = .ok (.getfield 87, 3) := by decide +kernel
theorem dc_Model_tests_48 : decode cd_Model_tests 48 = .ok (.iload_n 1, 1) := by decide +kernel
theorem dc_Model_tests_49 : decode cd_Model_tests 49 = .ok (.iaload, 1) := by decide +kernel
theorem dc_Model_tests_50 : decode cd_Model_tests 50 = .ok (.bipush 25, 2) := by decide +kernel
theorem dc_Model_tests_52 : decode cd_Model_tests 52 = .ok (.if_icmp .ne 24, 3) := by decide +kernel
theorem dc_Model_tests_55 : decode cd_Model_tests 55 = .ok (.aload_n 0, 1) := by decide +kernel
theorem dc_Model_tests_56 : decode cd_Model_tests 56 = .ok (.getfield 84, 3) := by decide +kernel
theorem dc_Model_tests_59 : decode cd_Model_tests 59 = .ok (.iload_n 1, 1) := by decide +kernel
theorem dc_Model_tests_60 : decode cd_Model_tests 60 = .ok (.iaload, 1) := by decide +kernel
theorem dc_Model_tests_61 : decode cd_Model_tests 61 = .ok (.aload_n 0, 1) := by decide +kernel
theorem dc_Model_tests_62 : decode cd_Model_tests 62 = .ok (.getfield 90, 3) := by decide +kernel
theorem dc_Model_tests_65 : decode cd_Model_tests 65 = .ok (.iload_n 1, 1) := by decide +kernel
theorem dc_Model_tests_66 : decode cd_Model_tests 66 = .ok (.iaload, 1) := by decide +kernel
theorem dc_Model_tests_67 : decode cd_Model_tests 67 = .ok (.if_icmp .ne 7, 3) := by decide +kernel
theorem dc_Model_tests_70 : decode cd_Model_tests 70 = .ok (.iconst 1, 1) := by decide +kernel
theorem dc_Model_tests_71 : decode cd_Model_tests 71 = .ok (.goto 4, 3) := by decide +kernel
theorem dc_Model_tests_74 : decode cd_Model_tests 74 = .ok (.iconst 0, 1) := by decide +kernel
theorem dc_Model_tests_75 : decode cd_Model_tests 75 = .ok (.istore_n 2, 1) := by decide +kernel
theorem dc_Model_tests_76 : decode cd_Model_tests 76 = .ok (.aload_n 0, 1) := by decide +kernel
theorem dc_Model_tests_77 : decode cd_Model_tests 77 = .ok (.getfield 81, 3) := by decide +kernel
theorem dc_Model_tests_80 : decode cd_Model_tests 80 = .ok (.iload_n 1, 1) := by decide +kernel
theorem dc_Model_tests_81 : decode cd_Model_tests 81 = .ok (.iaload, 1) := by decide +kernel
theorem dc_Model_tests_82 : decode cd_Model_tests 82 = .ok (.bipush 26, 2) := by decide +kernel
theorem dc_Model_tests_84 : decode cd_Model_tests 84 = .ok (.if_icmp .ne 22, 3) := by decide +kernel
theorem dc_Model_tests_87 : decode cd_Model_tests 87 = .ok (.aload_n 0, 1) := by decide +kernel
theorem dc_Model_tests_88 : decode cd_Model_tests 88 = .ok (.getfield 78, 3) := by decide +kernel
theorem dc_Model_tests_91 : decode cd_Model_tests 91 = .ok (.iload_n 1, 1) := by decide +kernel
theorem dc_Model_tests_92 : decode cd_Model_tests 92 = .ok (.iaload, 1) := by decide +kernel
theorem dc_Model_tests_93 : decode cd_Model_tests 93 = .ok (.ifCond .eq 11, 3) := by decide +kernel
theorem dc_Model_tests_96 : decode cd_Model_tests 96 = .ok (.iload_n 2, 1) := by decide +kernel
theorem dc_Model_tests_97 : decode cd_Model_tests 97 = .ok (.ifCond .eq 7, 3) := by decide +kernel
theorem dc_Model_tests_100 : decode cd_Model_tests 100 = .ok (.iconst 1, 1) := by decide +kernel
theorem dc_Model_tests_101 : decode cd_Model_tests 101 = .ok (.goto 4, 3) := by decide +kernel
theorem dc_Model_tests_104 : decode cd_Model_tests 104 = .ok (.iconst 0, 1) := by decide +kernel
theorem dc_Model_tests_105 : decode cd_Model_tests 105 = .ok (.istore_n 2, 1) := by decide +kernel
theorem dc_Model_tests_106 : decode cd_Model_tests 106 = .ok (.aload_n 0, 1) := by decide +kernel
theorem dc_Model_tests_107 : decode cd_Model_tests 107 = .ok (.getfield 81, 3) := by decide +kernel
theorem dc_Model_tests_110 : decode cd_Model_tests 110 = .ok (.iload_n 1, 1) := by decide +kernel
theorem dc_Model_tests_111 : decode cd_Model_tests 111 = .ok (.iaload, 1) := by decide +kernel
theorem dc_Model_tests_112 : decode cd_Model_tests 112 = .ok (.bipush 27, 2) := by decide +kernel
theorem dc_Model_tests_114 : decode cd_Model_tests 114 = .ok (.if_icmp .ne 22, 3) := by decide +kernel
theorem dc_Model_tests_117 : decode cd_Model_tests 117 = .ok (.aload_n 0, 1) := by decide +kernel
theorem dc_Model_tests_118 : decode cd_Model_tests 118 = .ok (.getfield 78, 3) := by decide +kernel
theorem dc_Model_tests_121 : decode cd_Model_tests 121 = .ok (.iload_n 1, 1) := by decide +kernel
theorem dc_Model_tests_122 : decode cd_Model_tests 122 = .ok (.iaload, 1) := by decide +kernel
theorem dc_Model_tests_123 : decode cd_Model_tests 123 = .ok (.ifCond .ne 7, 3) := by decide +kernel
theorem dc_Model_tests_126 : decode cd_Model_tests 126 = .ok (.iload_n 2, 1) := by decide +kernel
theorem dc_Model_tests_127 : decode cd_Model_tests 127 = .ok (.ifCond .eq 7, 3) := by decide +kernel
theorem dc_Model_tests_130 : decode cd_Model_tests 130 = .ok (.iconst 1, 1) := by decide +kernel
theorem dc_Model_tests_131 : decode cd_Model_tests 131 = .ok (.goto 4, 3) := by decide +kernel
theorem dc_Model_tests_134 : decode cd_Model_tests 134 = .ok (.iconst 0, 1) := by decide +kernel
theorem dc_Model_tests_135 : decode cd_Model_tests 135 = .ok (.istore_n 2, 1) := by decide +kernel
theorem dc_Model_tests_136 : decode cd_Model_tests 136 = .ok (.aload_n 0, 1) := by decide +kernel
theorem dc_Model_tests_137 : decode cd_Model_tests 137 = .ok (.getfield 78, 3) := by decide +kernel
theorem dc_Model_tests_140 : decode cd_Model_tests 140 = .ok (.iload_n 1, 1) := by decide +kernel
theorem dc_Model_tests_141 : decode cd_Model_tests 141 = .ok (.iload_n 2, 1) := by decide +kernel
theorem dc_Model_tests_142 : decode cd_Model_tests 142 = .ok (.iastore, 1) := by decide +kernel
theorem dc_Model_tests_143 : decode cd_Model_tests 143 = .ok (.aload_n 0, 1) := by decide +kernel
theorem dc_Model_tests_144 : decode cd_Model_tests 144 = .ok (.getfield 87, 3) := by decide +kernel
theorem dc_Model_tests_147 : decode cd_Model_tests 147 = .ok (.iload_n 1, 1) := by decide +kernel
theorem dc_Model_tests_148 : decode cd_Model_tests 148 = .ok (.iconst 0, 1) := by decide +kernel
theorem dc_Model_tests_149 : decode cd_Model_tests 149 = .ok (.iastore, 1) := by decide +kernel
theorem dc_Model_tests_150 : decode cd_Model_tests 150 = .ok (.aload_n 0, 1) := by decide +kernel
theorem dc_Model_tests_151 : decode cd_Model_tests 151 = .ok (.getfield 90, 3) := by decide +kernel
theorem dc_Model_tests_154 : decode cd_Model_tests 154 = .ok (.iload_n 1, 1) := by decide +kernel
theorem dc_Model_tests_155 : decode cd_Model_tests 155 = .ok (.iconst 0, 1) := by decide +kernel
theorem dc_Model_tests_156 : decode cd_Model_tests 156 = .ok (.iastore, 1) := by decide +kernel
theorem dc_Model_tests_157 : decode cd_Model_tests 157 = .ok (.aload_n 0, 1) := by decide +kernel
theorem dc_Model_tests_158 : decode cd_Model_tests 158 = .ok (.getfield 93, 3) := by decide +kernel
theorem dc_Model_tests_161 : decode cd_Model_tests 161 = .ok (.iload_n 1, 1) := by decide +kernel
theorem dc_Model_tests_162 : decode cd_Model_tests 162 = .ok (.bipush 20, 2) := by decide +kernel
theorem dc_Model_tests_164 : decode cd_Model_tests 164 = .ok (.iastore, 1) := by decide +kernel
theorem dc_Model_tests_165 : decode cd_Model_tests 165 = .ok (.return_, 1) := by decide +kernel
theorem dc_Model_placeNamed_0 : decode cd_Model_placeNamed 0 = .ok (.aload_n 0, 1) := by decide +kernel
theorem dc_Model_placeNamed_1 : decode cd_Model_placeNamed 1 = .ok (.getfield 16, 3) := by decide +kernel
theorem dc_Model_placeNamed_4 : decode cd_Model_placeNamed 4 = .ok (.bipush 6, 2) := by decide +kernel
theorem dc_Model_placeNamed_6 : decode cd_Model_placeNamed 6 = .ok (.iload_n 1, 1) := by decide +kernel
theorem dc_Model_placeNamed_7 : decode cd_Model_placeNamed 7 = .ok (.imul, 1) := by decide +kernel
theorem dc_Model_placeNamed_8 : decode cd_Model_placeNamed 8 = .ok (.aload_n 0, 1) := by decide +kernel
theorem dc_Model_placeNamed_9 : decode cd_Model_placeNamed 9 = .ok (.getfield 13, 3) := by decide +kernel
theorem dc_Model_placeNamed_12 : decode cd_Model_placeNamed 12 = .ok (.iconst 5, 1) := by decide +kernel
theorem dc_Model_placeNamed_13 : decode cd_Model_placeNamed 13 = .ok (.iload_n 1, 1) := by decide +kernel
theorem dc_Model_placeNamed_14 : decode cd_Model_placeNamed 14 = .ok (.imul, 1) := by decide +kernel
theorem dc_Model_placeNamed_15 : decode cd_Model_placeNamed 15 = .ok (.iconst 0, 1) := by decide +kernel
theorem dc_Model_placeNamed_16 : decode cd_Model_placeNamed 16 = .ok (.iadd, 1) := by decide +kernel
theorem dc_Model_placeNamed_17 : decode cd_Model_placeNamed 17 = .ok (.iaload, 1) := by decide +kernel
theorem dc_Model_placeNamed_18 : decode cd_Model_placeNamed 18 = .ok (.aload_n 0, 1) := by decide +kernel
theorem dc_Model_placeNamed_19 : decode cd_Model_placeNamed 19 = .ok (.getfield 201, 3) := by decide +kernel
theorem dc_Model_placeNamed_22 : decode cd_Model_placeNamed 22 = .ok (.invokestatic 314, 3) := by decide +kernel
theorem dc_Model_placeNamed_25 : decode cd_Model_placeNamed 25 = .ok (.ireturn, 1) := by decide +kernel
theorem dc_Model_walkerNamed_0 : decode cd_Model_walkerNamed 0 = .ok (.aload_n 0, 1) := by decide +kernel
theorem dc_Model_walkerNamed_1 : decode cd_Model_walkerNamed 1 = .ok (.getfield 20, 3) := by decide +kernel
theorem dc_Model_walkerNamed_4 : decode cd_Model_walkerNamed 4 = .ok (.bipush 6, 2) := by decide +kernel
theorem dc_Model_walkerNamed_6 : decode cd_Model_walkerNamed 6 = .ok (.iload_n 1, 1) := by decide +kernel
theorem dc_Model_walkerNamed_7 : decode cd_Model_walkerNamed 7 = .ok (.imul, 1) := by decide +kernel
theorem dc_Model_walkerNamed_8 : decode cd_Model_walkerNamed 8 = .ok (.aload_n 0, 1) := by decide +kernel
theorem dc_Model_walkerNamed_9 : decode cd_Model_walkerNamed 9 = .ok (.getfield 13, 3) := by decide +kernel
theorem dc_Model_walkerNamed_12 : decode cd_Model_walkerNamed 12 = .ok (.iconst 5, 1) := by decide +kernel
theorem dc_Model_walkerNamed_13 : decode cd_Model_walkerNamed 13 = .ok (.iload_n 1, 1) := by decide +kernel
theorem dc_Model_walkerNamed_14 : decode cd_Model_walkerNamed 14 = .ok (.imul, 1) := by decide +kernel
theorem dc_Model_walkerNamed_15 : decode cd_Model_walkerNamed 15 = .ok (.iconst 1, 1) := by decide +kernel
theorem dc_Model_walkerNamed_16 : decode cd_Model_walkerNamed 16 = .ok (.iadd, 1) := by decide +kernel
theorem dc_Model_walkerNamed_17 : decode cd_Model_walkerNamed 17 = .ok (.iaload, 1) := by decide +kernel
theorem dc_Model_walkerNamed_18 : decode cd_Model_walkerNamed 18 = .ok (.aload_n 0, 1) := by decide +kernel
theorem dc_Model_walkerNamed_19 : decode cd_Model_walkerNamed 19 = .ok (.getfield 201, 3) := by decide +kernel
theorem dc_Model_walkerNamed_22 : decode cd_Model_walkerNamed 22 = .ok (.invokestatic 314, 3) := by decide +kernel
theorem dc_Model_walkerNamed_25 : decode cd_Model_walkerNamed 25 = .ok (.ireturn, 1) := by decide +kernel
theorem dc_Model_hourNamed_0 : decode cd_Model_hourNamed 0 = .ok (.aload_n 0, 1) := by decide +kernel
theorem dc_Model_hourNamed_1 : decode cd_Model_hourNamed 1 = .ok (.getfield 23, 3) := by decide +kernel
theorem dc_Model_hourNamed_4 : decode cd_Model_hourNamed 4 = .ok (.bipush 6, 2) := by decide +kernel
theorem dc_Model_hourNamed_6 : decode cd_Model_hourNamed 6 = .ok (.iload_n 1, 1) := by decide +kernel
theorem dc_Model_hourNamed_7 : decode cd_Model_hourNamed 7 = .ok (.imul, 1) := by decide +kernel
theorem dc_Model_hourNamed_8 : decode cd_Model_hourNamed 8 = .ok (.aload_n 0, 1) := by decide +kernel
theorem dc_Model_hourNamed_9 : decode cd_Model_hourNamed 9 = .ok (.getfield 13, 3) := by decide +kernel
theorem dc_Model_hourNamed_12 : decode cd_Model_hourNamed 12 = .ok (.iconst 5, 1) := by decide +kernel
theorem dc_Model_hourNamed_13 : decode cd_Model_hourNamed 13 = .ok (.iload_n 1, 1) := by decide +kernel
theorem dc_Model_hourNamed_14 : decode cd_Model_hourNamed 14 = .ok (.imul, 1) := by decide +kernel
theorem dc_Model_hourNamed_15 : decode cd_Model_hourNamed 15 = .ok (.iconst 2, 1) := by decide +kernel
theorem dc_Model_hourNamed_16 : decode cd_Model_hourNamed 16 = .ok (.iadd, 1) := by decide +kernel
theorem dc_Model_hourNamed_17 : decode cd_Model_hourNamed 17 = .ok (.iaload, 1) := by decide +kernel
theorem dc_Model_hourNamed_18 : decode cd_Model_hourNamed 18 = .ok (.aload_n 0, 1) := by decide +kernel
theorem dc_Model_hourNamed_19 : decode cd_Model_hourNamed 19 = .ok (.getfield 201, 3) := by decide +kernel
theorem dc_Model_hourNamed_22 : decode cd_Model_hourNamed 22 = .ok (.invokestatic 314, 3) := by decide +kernel
theorem dc_Model_hourNamed_25 : decode cd_Model_hourNamed 25 = .ok (.ireturn, 1) := by decide +kernel
theorem dc_Model_lays_0 : decode cd_Model_lays 0 = .ok (.aload_n 0, 1) := by decide +kernel
theorem dc_Model_lays_1 : decode cd_Model_lays 1 = .ok (.getfield 13, 3) := by decide +kernel
theorem dc_Model_lays_4 : decode cd_Model_lays 4 = .ok (.iconst 5, 1) := by decide +kernel
theorem dc_Model_lays_5 : decode cd_Model_lays 5 = .ok (.invokestatic 394, 3) := by decide +kernel
theorem dc_Model_lays_8 : decode cd_Model_lays 8 = .ok (.aload_n 0, 1) := by decide +kernel
theorem dc_Model_lays_9 : decode cd_Model_lays 9 = .ok (.getfield 16, 3) := by decide +kernel
theorem dc_Model_lays_12 : decode cd_Model_lays 12 = .ok (.bipush 6, 2) := by decide +kernel
theorem dc_Model_lays_14 : decode cd_Model_lays 14 = .ok (.invokestatic 398, 3) := by decide +kernel
theorem dc_Model_lays_17 : decode cd_Model_lays 17 = .ok (.aload_n 0, 1) := by decide +kernel
theorem dc_Model_lays_18 : decode cd_Model_lays 18 = .ok (.getfield 20, 3) := by decide +kernel
theorem dc_Model_lays_21 : decode cd_Model_lays 21 = .ok (.bipush 6, 2) := by decide +kernel
theorem dc_Model_lays_23 : decode cd_Model_lays 23 = .ok (.invokestatic 398, 3) := by decide +kernel
theorem dc_Model_lays_26 : decode cd_Model_lays 26 = .ok (.aload_n 0, 1) := by decide +kernel
theorem dc_Model_lays_27 : decode cd_Model_lays 27 = .ok (.getfield 23, 3) := by decide +kernel
theorem dc_Model_lays_30 : decode cd_Model_lays 30 = .ok (.bipush 6, 2) := by decide +kernel
