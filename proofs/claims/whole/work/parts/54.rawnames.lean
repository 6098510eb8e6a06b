def yn_Tape_init : MethodName := ⟨"HillClock$Tape", "<init>", "()V"⟩
abbrev cd_Tape_init : ByteArray := prog_9_method_1_code
theorem dc_Tape_init_0 : decode cd_Tape_init 0 = .ok (.aload_n 0, 1) := by decide +kernel
theorem dc_Tape_init_1 : decode cd_Tape_init 1 = .ok (.invokespecial 3, 3) := by decide +kernel
theorem dc_Tape_init_4 : decode cd_Tape_init 4 = .ok (.aload_n 0, 1) := by decide +kernel
theorem dc_Tape_init_5 : decode cd_Tape_init 5 = .ok (.sipush 1000, 3) := by decide +kernel
theorem dc_Tape_init_8 : decode cd_Tape_init 8 = .ok (.newarray .char, 2) := by decide +kernel
theorem dc_Tape_init_10 : decode cd_Tape_init 10 = .ok (.putfield 9, 3) := by decide +kernel
theorem dc_Tape_init_13 : decode cd_Tape_init 13 = .ok (.return_, 1) := by decide +kernel
abbrev mt_R_Tape_init : MT := ("HillClock$Tape", cd_Tape_init, 1, none, 1)
def yn_HillsReader_init : MethodName := ⟨"HillClock$HillsReader", "<init>", "(LHillClock$Tape;)V"⟩
abbrev cd_HillsReader_init : ByteArray := prog_3_method_1_code
theorem dc_HillsReader_init_0 : decode cd_HillsReader_init 0 = .ok (.aload_n 0, 1) := by decide +kernel
theorem dc_HillsReader_init_1 : decode cd_HillsReader_init 1 = .ok (.invokespecial 3, 3) := by decide +kernel
theorem dc_HillsReader_init_4 : decode cd_HillsReader_init 4 = .ok (.aload_n 0, 1) := by decide +kernel
theorem dc_HillsReader_init_5 : decode cd_HillsReader_init 5 = .ok (.aload_n 1, 1) := by decide +kernel
theorem dc_HillsReader_init_6 : decode cd_HillsReader_init 6 = .ok (.putfield 9, 3) := by decide +kernel
theorem dc_HillsReader_init_9 : decode cd_HillsReader_init 9 = .ok (.return_, 1) := by decide +kernel
abbrev mt_R_HillsReader_init : MT := ("HillClock$HillsReader", cd_HillsReader_init, 2, none, 1)
def yn_Law_init : MethodName := ⟨"HillClock$Law", "<init>", "()V"⟩
abbrev cd_Law_init : ByteArray := prog_4_method_1_code
theorem dc_Law_init_0 : decode cd_Law_init 0 = .ok (.aload_n 0, 1) := by decide +kernel
theorem dc_Law_init_1 : decode cd_Law_init 1 = .ok (.invokespecial 3, 3) := by decide +kernel
theorem dc_Law_init_4 : decode cd_Law_init 4 = .ok (.aload_n 0, 1) := by decide +kernel
theorem dc_Law_init_5 : decode cd_Law_init 5 = .ok (.sipush 1000, 3) := by decide +kernel
theorem dc_Law_init_8 : decode cd_Law_init 8 = .ok (.newarray .int, 2) := by decide +kernel
theorem dc_Law_init_10 : decode cd_Law_init 10 = .ok (.putfield 9, 3) := by decide +kernel
theorem dc_Law_init_13 : decode cd_Law_init 13 = .ok (.aload_n 0, 1) := by decide +kernel
theorem dc_Law_init_14 : decode cd_Law_init 14 = .ok (.bipush 64, 2) := by decide +kernel
theorem dc_Law_init_16 : decode cd_Law_init 16 = .ok (.newarray .int, 2) := by decide +kernel
theorem dc_Law_init_18 : decode cd_Law_init 18 = .ok (.putfield 15, 3) := by decide +kernel
theorem dc_Law_init_21 : decode cd_Law_init 21 = .ok (.return_, 1) := by decide +kernel
abbrev mt_R_Law_init : MT := ("HillClock$Law", cd_Law_init, 1, none, 1)
def yn_Walker_init : MethodName := ⟨"HillClock$Walker", "<init>", "()V"⟩
abbrev cd_Walker_init : ByteArray := prog_11_method_1_code
theorem dc_Walker_init_0 : decode cd_Walker_init 0 = .ok (.aload_n 0, 1) := by decide +kernel
theorem dc_Walker_init_1 : decode cd_Walker_init 1 = .ok (.invokespecial 3, 3) := by decide +kernel
theorem dc_Walker_init_4 : decode cd_Walker_init 4 = .ok (.aload_n 0, 1) := by decide +kernel
theorem dc_Walker_init_5 : decode cd_Walker_init 5 = .ok (.iconst 4, 1) := by decide +kernel
theorem dc_Walker_init_6 : decode cd_Walker_init 6 = .ok (.newarray .int, 2) := by decide +kernel
theorem dc_Walker_init_8 : decode cd_Walker_init 8 = .ok (.putfield 9, 3) := by decide +kernel
theorem dc_Walker_init_11 : decode cd_Walker_init 11 = .ok (.aload_n 0, 1) := by decide +kernel
theorem dc_Walker_init_12 : decode cd_Walker_init 12 = .ok (.bipush 6, 2) := by decide +kernel
theorem dc_Walker_init_14 : decode cd_Walker_init 14 = .ok (.newarray .int, 2) := by decide +kernel
theorem dc_Walker_init_16 : decode cd_Walker_init 16 = .ok (.putfield 15, 3) := by decide +kernel
theorem dc_Walker_init_19 : decode cd_Walker_init 19 = .ok (.aload_n 0, 1) := by decide +kernel
theorem dc_Walker_init_20 : decode cd_Walker_init 20 = .ok (.bipush 6, 2) := by decide +kernel
theorem dc_Walker_init_22 : decode cd_Walker_init 22 = .ok (.newarray .int, 2) := by decide +kernel
theorem dc_Walker_init_24 : decode cd_Walker_init 24 = .ok (.putfield 18, 3) := by decide +kernel
theorem dc_Walker_init_27 : decode cd_Walker_init 27 = .ok (.return_, 1) := by decide +kernel
abbrev mt_R_Walker_init : MT := ("HillClock$Walker", cd_Walker_init, 1, none, 1)
def yn_Lines_init : MethodName := ⟨"HillClock$Lines", "<init>", "()V"⟩
abbrev cd_Lines_init : ByteArray := prog_5_method_1_code
theorem dc_Lines_init_0 : decode cd_Lines_init 0 = .ok (.aload_n 0, 1) := by decide +kernel
theorem dc_Lines_init_1 : decode cd_Lines_init 1 = .ok (.invokespecial 3, 3) := by decide +kernel
theorem dc_Lines_init_4 : decode cd_Lines_init 4 = .ok (.aload_n 0, 1) := by decide +kernel
theorem dc_Lines_init_5 : decode cd_Lines_init 5 = .ok (.bipush 30, 2) := by decide +kernel
theorem dc_Lines_init_7 : decode cd_Lines_init 7 = .ok (.newarray .int, 2) := by decide +kernel
theorem dc_Lines_init_9 : decode cd_Lines_init 9 = .ok (.putfield 9, 3) := by decide +kernel
theorem dc_Lines_init_12 : decode cd_Lines_init 12 = .ok (.aload_n 0, 1) := by decide +kernel
theorem dc_Lines_init_13 : decode cd_Lines_init 13 = .ok (.bipush 30, 2) := by decide +kernel
theorem dc_Lines_init_15 : decode cd_Lines_init 15 = .ok (.newarray .int, 2) := by decide +kernel
theorem dc_Lines_init_17 : decode cd_Lines_init 17 = .ok (.putfield 15, 3) := by decide +kernel
theorem dc_Lines_init_20 : decode cd_Lines_init 20 = .ok (.aload_n 0, 1) := by decide +kernel
theorem dc_Lines_init_21 : decode cd_Lines_init 21 = .ok (.bipush 30, 2) := by decide +kernel
theorem dc_Lines_init_23 : decode cd_Lines_init 23 = .ok (.newarray .int, 2) := by decide +kernel
theorem dc_Lines_init_25 : decode cd_Lines_init 25 = .ok (.putfield 18, 3) := by decide +kernel
theorem dc_Lines_init_28 : decode cd_Lines_init 28 = .ok (.return_, 1) := by decide +kernel
abbrev mt_R_Lines_init : MT := ("HillClock$Lines", cd_Lines_init, 1, none, 1)
def yn_State_init : MethodName := ⟨"HillClock$State", "<init>", "()V"⟩
abbrev cd_State_init : ByteArray := prog_8_method_1_code
theorem dc_State_init_0 : decode cd_State_init 0 = .ok (.aload_n 0, 1) := by decide +kernel
theorem dc_State_init_1 : decode cd_State_init 1 = .ok (.invokespecial 3, 3) := by decide +kernel
theorem dc_State_init_4 : decode cd_State_init 4 = .ok (.aload_n 0, 1) := by decide +kernel
theorem dc_State_init_5 : decode cd_State_init 5 = .ok (.bipush 6, 2) := by decide +kernel
theorem dc_State_init_7 : decode cd_State_init 7 = .ok (.newarray .int, 2) := by decide +kernel
theorem dc_State_init_9 : decode cd_State_init 9 = .ok (.putfield 9, 3) := by decide +kernel
theorem dc_State_init_12 : decode cd_State_init 12 = .ok (.aload_n 0, 1) := by decide +kernel
theorem dc_State_init_13 : decode cd_State_init 13 = .ok (.bipush 6, 2) := by decide +kernel
theorem dc_State_init_15 : decode cd_State_init 15 = .ok (.newarray .int, 2) := by decide +kernel
theorem dc_State_init_17 : decode cd_State_init 17 = .ok (.putfield 15, 3) := by decide +kernel
theorem dc_State_init_20 : decode cd_State_init 20 = .ok (.return_, 1) := by decide +kernel
abbrev mt_R_State_init : MT := ("HillClock$State", cd_State_init, 1, none, 1)
def yn_Walk_init : MethodName := ⟨"HillClock$Walk", "<init>", "()V"⟩
abbrev cd_Walk_init : ByteArray := prog_10_method_1_code
theorem dc_Walk_init_0 : decode cd_Walk_init 0 = .ok (.aload_n 0, 1) := by decide +kernel
theorem dc_Walk_init_1 : decode cd_Walk_init 1 = .ok (.invokespecial 3, 3) := by decide +kernel
theorem dc_Walk_init_4 : decode cd_Walk_init 4 = .ok (.aload_n 0, 1) := by decide +kernel
theorem dc_Walk_init_5 : decode cd_Walk_init 5 = .ok (.bipush 6, 2) := by decide +kernel
theorem dc_Walk_init_7 : decode cd_Walk_init 7 = .ok (.newarray .int, 2) := by decide +kernel
theorem dc_Walk_init_9 : decode cd_Walk_init 9 = .ok (.putfield 9, 3) := by decide +kernel
theorem dc_Walk_init_12 : decode cd_Walk_init 12 = .ok (.aload_n 0, 1) := by decide +kernel
theorem dc_Walk_init_13 : decode cd_Walk_init 13 = .ok (.bipush 24, 2) := by decide +kernel
theorem dc_Walk_init_15 : decode cd_Walk_init 15 = .ok (.newarray .int, 2) := by decide +kernel
theorem dc_Walk_init_17 : decode cd_Walk_init 17 = .ok (.putfield 15, 3) := by decide +kernel
theorem dc_Walk_init_20 : decode cd_Walk_init 20 = .ok (.aload_n 0, 1) := by decide +kernel
theorem dc_Walk_init_21 : decode cd_Walk_init 21 = .ok (.bipush 24, 2) := by decide +kernel
theorem dc_Walk_init_23 : decode cd_Walk_init 23 = .ok (.newarray .int, 2) := by decide +kernel
theorem dc_Walk_init_25 : decode cd_Walk_init 25 = .ok (.putfield 18, 3) := by decide +kernel
theorem dc_Walk_init_28 : decode cd_Walk_init 28 = .ok (.aload_n 0, 1) := by decide +kernel
theorem dc_Walk_init_29 : decode cd_Walk_init 29 = .ok (.bipush 24, 2) := by decide +kernel
theorem dc_Walk_init_31 : decode cd_Walk_init 31 = .ok (.newarray .int, 2) := by decide +kernel
theorem dc_Walk_init_33 : decode cd_Walk_init 33 = .ok (.putfield 21, 3) := by decide +kernel
theorem dc_Walk_init_36 : decode cd_Walk_init 36 = .ok (.aload_n 0, 1) := by decide +kernel
theorem dc_Walk_init_37 : decode cd_Walk_init 37 = .ok (.bipush 6, 2) := by decide +kernel
theorem dc_Walk_init_39 : decode cd_Walk_init 39 = .ok (.newarray .int, 2) := by decide +kernel
theorem dc_Walk_init_41 : decode cd_Walk_init 41 = .ok (.putfield 24, 3) := by decide +kernel
theorem dc_Walk_init_44 : decode cd_Walk_init 44 = .ok (.return_, 1) := by decide +kernel
abbrev mt_R_Walk_init : MT := ("HillClock$Walk", cd_Walk_init, 1, none, 1)
def yn_Sight_init : MethodName := ⟨"HillClock$Sight", "<init>", "()V"⟩
abbrev cd_Sight_init : ByteArray := prog_6_method_1_code
theorem dc_Sight_init_0 : decode cd_Sight_init 0 = .ok (.aload_n 0, 1) := by decide +kernel
theorem dc_Sight_init_1 : decode cd_Sight_init 1 = .ok (.invokespecial 3, 3) := by decide +kernel
theorem dc_Sight_init_4 : decode cd_Sight_init 4 = .ok (.aload_n 0, 1) := by decide +kernel
theorem dc_Sight_init_5 : decode cd_Sight_init 5 = .ok (.sipush 1440, 3) := by decide +kernel
theorem dc_Sight_init_8 : decode cd_Sight_init 8 = .ok (.newarray .int, 2) := by decide +kernel
theorem dc_Sight_init_10 : decode cd_Sight_init 10 = .ok (.putfield 9, 3) := by decide +kernel
theorem dc_Sight_init_13 : decode cd_Sight_init 13 = .ok (.aload_n 0, 1) := by decide +kernel
theorem dc_Sight_init_14 : decode cd_Sight_init 14 = .ok (.sipush 1440, 3) := by decide +kernel
theorem dc_Sight_init_17 : decode cd_Sight_init 17 = .ok (.newarray .long, 2) := by decide +kernel
theorem dc_Sight_init_19 : decode cd_Sight_init 19 = .ok (.putfield 15, 3) := by decide +kernel
theorem dc_Sight_init_22 : decode cd_Sight_init 22 = .ok (.return_, 1) := by decide +kernel
abbrev mt_R_Sight_init : MT := ("HillClock$Sight", cd_Sight_init, 1, none, 1)
abbrev mt_R_Arrays_fillI : MT := ("java/util/Arrays", cd_Arrays_fillI, 4, none, 1)
abbrev mt_R_Law_put : MT := ("HillClock$Law", cd_Law_put, 2, none, 1)
abbrev mt_R_Law_begin : MT := ("HillClock$Law", cd_Law_begin, 1, none, 2)
abbrev mt_R_Hills_begin : MT := ("HillClock$Hills", cd_Hills_begin, 1, none, 3)
def yn_Hills_init : MethodName := ⟨"HillClock$Hills", "<init>", "()V"⟩
abbrev cd_Hills_init : ByteArray := prog_2_method_1_code
theorem dc_Hills_init_0 : decode cd_Hills_init 0 = .ok (.aload_n 0, 1) := by decide +kernel
theorem dc_Hills_init_1 : decode cd_Hills_init 1 = .ok (.invokespecial 3, 3) := by decide +kernel
theorem dc_Hills_init_4 : decode cd_Hills_init 4 = .ok (.aload_n 0, 1) := by decide +kernel
theorem dc_Hills_init_5 : decode cd_Hills_init 5 = .ok (.bipush 6, 2) := by decide +kernel
theorem dc_Hills_init_7 : decode cd_Hills_init 7 = .ok (.newarray .long, 2) := by decide +kernel
theorem dc_Hills_init_9 : decode cd_Hills_init 9 = .ok (.putfield 9, 3) := by decide +kernel
theorem dc_Hills_init_12 : decode cd_Hills_init 12 = .ok (.aload_n 0, 1) := by decide +kernel
theorem dc_Hills_init_13 : decode cd_Hills_init 13 = .ok (.bipush 6, 2) := by decide +kernel
theorem dc_Hills_init_15 : decode cd_Hills_init 15 = .ok (.newarray .long, 2) := by decide +kernel
theorem dc_Hills_init_17 : decode cd_Hills_init 17 = .ok (.putfield 15, 3) := by decide +kernel
theorem dc_Hills_init_20 : decode cd_Hills_init 20 = .ok (.aload_n 0, 1) := by decide +kernel
theorem dc_Hills_init_21 : decode cd_Hills_init 21 = .ok (.bipush 6, 2) := by decide +kernel
theorem dc_Hills_init_23 : decode cd_Hills_init 23 = .ok (.newarray .long, 2) := by decide +kernel
theorem dc_Hills_init_25 : decode cd_Hills_init 25 = .ok (.putfield 18, 3) := by decide +kernel
theorem dc_Hills_init_28 : decode cd_Hills_init 28 = .ok (.aload_n 0, 1) := by decide +kernel
theorem dc_Hills_init_29 : decode cd_Hills_init 29 = .ok (.bipush 36, 2) := by decide +kernel
theorem dc_Hills_init_31 : decode cd_Hills_init 31 = .ok (.newarray .int, 2) := by decide +kernel
theorem dc_Hills_init_33 : decode cd_Hills_init 33 = .ok (.putfield 21, 3) := by decide +kernel
theorem dc_Hills_init_36 : decode cd_Hills_init 36 = .ok (.aload_n 0, 1) := by decide +kernel
theorem dc_Hills_init_37 : decode cd_Hills_init 37 = .ok (.bipush 36, 2) := by decide +kernel
theorem dc_Hills_init_39 : decode cd_Hills_init 39 = .ok (.newarray .int, 2) := by decide +kernel
theorem dc_Hills_init_41 : decode cd_Hills_init 41 = .ok (.putfield 25, 3) := by decide +kernel
theorem dc_Hills_init_44 : decode cd_Hills_init 44 = .ok (.aload_n 0, 1) := by decide +kernel
theorem dc_Hills_init_45 : decode cd_Hills_init 45 = .ok (.bipush 6, 2) := by decide +kernel
theorem dc_Hills_init_47 : decode cd_Hills_init 47 = .ok (.anewarray 28, 3) := by decide +kernel
theorem dc_Hills_init_50 : decode cd_Hills_init 50 = .ok (.putfield 30, 3) := by decide +kernel
theorem dc_Hills_init_53 : decode cd_Hills_init 53 = .ok (.aload_n 0, 1) := by decide +kernel
theorem dc_Hills_init_54 : decode cd_Hills_init 54 = .ok (.bipush 6, 2) := by decide +kernel
theorem dc_Hills_init_56 : decode cd_Hills_init 56 = .ok (.newarray .int, 2) := by decide +kernel
theorem dc_Hills_init_58 : decode cd_Hills_init 58 = .ok (.putfield 34, 3) := by decide +kernel
theorem dc_Hills_init_61 : decode cd_Hills_init 61 = .ok (.aload_n 0, 1) := by decide +kernel
theorem dc_Hills_init_62 : decode cd_Hills_init 62 = .ok (.bipush 6, 2) := by decide +kernel
theorem dc_Hills_init_64 : decode cd_Hills_init 64 = .ok (.newarray .int, 2) := by decide +kernel
theorem dc_Hills_init_66 : decode cd_Hills_init 66 = .ok (.putfield 37, 3) := by decide +kernel
theorem dc_Hills_init_69 : decode cd_Hills_init 69 = .ok (.aload_n 0, 1) := by decide +kernel
theorem dc_Hills_init_70 : decode cd_Hills_init 70 = .ok (.bipush 6, 2) := by decide +kernel
theorem dc_Hills_init_72 : decode cd_Hills_init 72 = .ok (.newarray .int, 2) := by decide +kernel
theorem dc_Hills_init_74 : decode cd_Hills_init 74 = .ok (.putfield 40, 3) := by decide +kernel
theorem dc_Hills_init_77 : decode cd_Hills_init 77 = .ok (.aload_n 0, 1) := by decide +kernel
theorem dc_Hills_init_78 : decode cd_Hills_init 78 = .ok (.new 43, 3) := by decide +kernel
theorem dc_Hills_init_81 : decode cd_Hills_init 81 = .ok (.dup, 1) := by decide +kernel
theorem dc_Hills_init_82 : decode cd_Hills_init 82 = .ok (.invokespecial 45, 3) := by decide +kernel
theorem dc_Hills_init_85 : decode cd_Hills_init 85 = .ok (.putfield 46, 3) := by decide +kernel
theorem dc_Hills_init_88 : decode cd_Hills_init 88 = .ok (.iconst 0, 1) := by decide +kernel
theorem dc_Hills_init_89 : decode cd_Hills_init 89 = .ok (.istore_n 1, 1) := by decide +kernel
theorem dc_Hills_init_90 : decode cd_Hills_init 90 = .ok (.iload_n 1, 1) := by decide +kernel
theorem dc_Hills_init_91 : decode cd_Hills_init 91 = .ok (.bipush 6, 2) := by decide +kernel
theorem dc_Hills_init_93 : decode cd_Hills_init 93 = .ok (.if_icmp .ge 22, 3) := by decide +kernel
theorem dc_Hills_init_96 : decode cd_Hills_init 96 = .ok (.aload_n 0, 1) := by decide +kernel
theorem dc_Hills_init_97 : decode cd_Hills_init 97 = .ok (.getfield 30, 3) := by decide +kernel
theorem dc_Hills_init_100 : decode cd_Hills_init 100 = .ok (.iload_n 1, 1) := by decide +kernel
theorem dc_Hills_init_101 : decode cd_Hills_init 101 = .ok (.new 28, 3) := by decide +kernel
theorem dc_Hills_init_104 : decode cd_Hills_init 104 = .ok (.dup, 1) := by decide +kernel
theorem dc_Hills_init_105 : decode cd_Hills_init 105 = .ok (.invokespecial 50, 3) := by decide +kernel
theorem dc_Hills_init_108 : decode cd_Hills_init 108 = .ok (.aastore, 1) := by decide +kernel
theorem dc_Hills_init_109 : decode cd_Hills_init 109 = .ok (.iinc 1 1, 3) := by decide +kernel
theorem dc_Hills_init_112 : decode cd_Hills_init 112 = .ok (.goto (-22), 3) := by decide +kernel
theorem dc_Hills_init_115 : decode cd_Hills_init 115 = .ok (.aload_n 0, 1) := by decide +kernel
theorem dc_Hills_init_116 : decode cd_Hills_init 116 = .ok (.invokevirtual 51, 3) := by decide +kernel
theorem dc_Hills_init_119 : decode cd_Hills_init 119 = .ok (.return_, 1) := by decide +kernel
abbrev mt_R_Hills_init : MT := ("HillClock$Hills", cd_Hills_init, 2, none, 4)
def yn_Standing_init : MethodName := ⟨"HillClock$Standing", "<init>", "()V"⟩
abbrev cd_Standing_init : ByteArray := prog_7_method_1_code
theorem dc_Standing_init_0 : decode cd_Standing_init 0 = .ok (.aload_n 0, 1) := by decide +kernel
theorem dc_Standing_init_1 : decode cd_Standing_init 1 = .ok (.invokespecial 3, 3) := by decide +kernel
theorem dc_Standing_init_4 : decode cd_Standing_init 4 = .ok (.aload_n 0, 1) := by decide +kernel
theorem dc_Standing_init_5 : decode cd_Standing_init 5 = .ok (.new 9, 3) := by decide +kernel
theorem dc_Standing_init_8 : decode cd_Standing_init 8 = .ok (.dup, 1) := by decide +kernel
theorem dc_Standing_init_9 : decode cd_Standing_init 9 = .ok (.invokespecial 11, 3) := by decide +kernel
theorem dc_Standing_init_12 : decode cd_Standing_init 12 = .ok (.putfield 12, 3) := by decide +kernel
theorem dc_Standing_init_15 : decode cd_Standing_init 15 = .ok (.aload_n 0, 1) := by decide +kernel
theorem dc_Standing_init_16 : decode cd_Standing_init 16 = .ok (.new 18, 3) := by decide +kernel
theorem dc_Standing_init_19 : decode cd_Standing_init 19 = .ok (.dup, 1) := by decide +kernel
theorem dc_Standing_init_20 : decode cd_Standing_init 20 = .ok (.invokespecial 20, 3) := by decide +kernel
theorem dc_Standing_init_23 : decode cd_Standing_init 23 = .ok (.putfield 21, 3) := by decide +kernel
theorem dc_Standing_init_26 : decode cd_Standing_init 26 = .ok (.aload_n 0, 1) := by decide +kernel
theorem dc_Standing_init_27 : decode cd_Standing_init 27 = .ok (.bipush 8, 2) := by decide +kernel
theorem dc_Standing_init_29 : decode cd_Standing_init 29 = .ok (.newarray .int, 2) := by decide +kernel
theorem dc_Standing_init_31 : decode cd_Standing_init 31 = .ok (.putfield 25, 3) := by decide +kernel
theorem dc_Standing_init_34 : decode cd_Standing_init 34 = .ok (.aload_n 0, 1) := by decide +kernel
theorem dc_Standing_init_35 : decode cd_Standing_init 35 = .ok (.bipush 8, 2) := by decide +kernel
theorem dc_Standing_init_37 : decode cd_Standing_init 37 = .ok (.newarray .int, 2) := by decide +kernel
theorem dc_Standing_init_39 : decode cd_Standing_init 39 = .ok (.putfield 29, 3) := by decide +kernel
theorem dc_Standing_init_42 : decode cd_Standing_init 42 = .ok (.aload_n 0, 1) := by decide +kernel
theorem dc_Standing_init_43 : decode cd_Standing_init 43 = .ok (.bipush 6, 2) := by decide +kernel
theorem dc_Standing_init_45 : decode cd_Standing_init 45 = .ok (.newarray .int, 2) := by decide +kernel
theorem dc_Standing_init_47 : decode cd_Standing_init 47 = .ok (.putfield 32, 3) := by decide +kernel
theorem dc_Standing_init_50 : decode cd_Standing_init 50 = .ok (.return_, 1) := by decide +kernel
abbrev mt_R_Standing_init : MT := ("HillClock$Standing", cd_Standing_init, 1, none, 2)
def yn_Clock_init : MethodName := ⟨"HillClock", "<init>", "()V"⟩
abbrev cd_Clock_init : ByteArray := prog_1_method_1_code
theorem dc_Clock_init_0 : decode cd_Clock_init 0 = .ok (.aload_n 0, 1) := by decide +kernel
theorem dc_Clock_init_1 : decode cd_Clock_init 1 = .ok (.invokespecial 1, 3) := by decide +kernel
theorem dc_Clock_init_4 : decode cd_Clock_init 4 = .ok (.aload_n 0, 1) := by decide +kernel
theorem dc_Clock_init_5 : decode cd_Clock_init 5 = .ok (.new 7, 3) := by decide +kernel
theorem dc_Clock_init_8 : decode cd_Clock_init 8 = .ok (.dup, 1) := by decide +kernel
theorem dc_Clock_init_9 : decode cd_Clock_init 9 = .ok (.invokespecial 9, 3) := by decide +kernel
theorem dc_Clock_init_12 : decode cd_Clock_init 12 = .ok (.putfield 10, 3) := by decide +kernel
theorem dc_Clock_init_15 : decode cd_Clock_init 15 = .ok (.aload_n 0, 1) := by decide +kernel
theorem dc_Clock_init_16 : decode cd_Clock_init 16 = .ok (.new 16, 3) := by decide +kernel
theorem dc_Clock_init_19 : decode cd_Clock_init 19 = .ok (.dup, 1) := by decide +kernel
theorem dc_Clock_init_20 : decode cd_Clock_init 20 = .ok (.aload_n 0, 1) := by decide +kernel
theorem dc_Clock_init_21 : decode cd_Clock_init 21 = .ok (.getfield 10, 3) := by decide +kernel
theorem dc_Clock_init_24 : decode cd_Clock_init 24 = .ok (.invokespecial 18, 3) := by decide +kernel
theorem dc_Clock_init_27 : decode cd_Clock_init 27 = .ok (.putfield 21, 3) := by decide +kernel
theorem dc_Clock_init_30 : decode cd_Clock_init 30 = .ok (.aload_n 0, 1) := by decide +kernel
theorem dc_Clock_init_31 : decode cd_Clock_init 31 = .ok (.new 25, 3) := by decide +kernel
theorem dc_Clock_init_34 : decode cd_Clock_init 34 = .ok (.dup, 1) := by decide +kernel
theorem dc_Clock_init_35 : decode cd_Clock_init 35 = .ok (.invokespecial 27, 3) := by decide +kernel
theorem dc_Clock_init_38 : decode cd_Clock_init 38 = .ok (.putfield 28, 3) := by decide +kernel
theorem dc_Clock_init_41 : decode cd_Clock_init 41 = .ok (.aload_n 0, 1) := by decide +kernel
theorem dc_Clock_init_42 : decode cd_Clock_init 42 = .ok (.new 25, 3) := by decide +kernel
theorem dc_Clock_init_45 : decode cd_Clock_init 45 = .ok (.dup, 1) := by decide +kernel
theorem dc_Clock_init_46 : decode cd_Clock_init 46 = .ok (.invokespecial 27, 3) := by decide +kernel
theorem dc_Clock_init_49 : decode cd_Clock_init 49 = .ok (.putfield 32, 3) := by decide +kernel
theorem dc_Clock_init_52 : decode cd_Clock_init 52 = .ok (.aload_n 0, 1) := by decide +kernel
theorem dc_Clock_init_53 : decode cd_Clock_init 53 = .ok (.new 35, 3) := by decide +kernel
theorem dc_Clock_init_56 : decode cd_Clock_init 56 = .ok (.dup, 1) := by decide +kernel
theorem dc_Clock_init_57 : decode cd_Clock_init 57 = .ok (.invokespecial 37, 3) := by decide +kernel
theorem dc_Clock_init_60 : decode cd_Clock_init 60 = .ok (.putfield 38, 3) := by decide +kernel
theorem dc_Clock_init_63 : decode cd_Clock_init 63 = .ok (.aload_n 0, 1) := by decide +kernel
theorem dc_Clock_init_64 : decode cd_Clock_init 64 = .ok (.new 42, 3) := by decide +kernel
theorem dc_Clock_init_67 : decode cd_Clock_init 67 = .ok (.dup, 1) := by decide +kernel
theorem dc_Clock_init_68 : decode cd_Clock_init 68 = .ok (.invokespecial 44, 3) := by decide +kernel
theorem dc_Clock_init_71 : decode cd_Clock_init 71 = .ok (.putfield 45, 3) := by decide +kernel
theorem dc_Clock_init_74 : decode cd_Clock_init 74 = .ok (.aload_n 0, 1) := by decide +kernel
theorem dc_Clock_init_75 : decode cd_Clock_init 75 = .ok (.iconst 4, 1) := by decide +kernel
theorem dc_Clock_init_76 : decode cd_Clock_init 76 = .ok (.anewarray 42, 3) := by decide +kernel
theorem dc_Clock_init_79 : decode cd_Clock_init 79 = .ok (.putfield 49, 3) := by decide +kernel
theorem dc_Clock_init_82 : decode cd_Clock_init 82 = .ok (.aload_n 0, 1) := by decide +kernel
theorem dc_Clock_init_83 : decode cd_Clock_init 83 = .ok (.bipush 16, 2) := by decide +kernel
theorem dc_Clock_init_85 : decode cd_Clock_init 85 = .ok (.anewarray 53, 3) := by decide +kernel
theorem dc_Clock_init_88 : decode cd_Clock_init 88 = .ok (.putfield 55, 3) := by decide +kernel
theorem dc_Clock_init_91 : decode cd_Clock_init 91 = .ok (.aload_n 0, 1) := by decide +kernel
theorem dc_Clock_init_92 : decode cd_Clock_init 92 = .ok (.new 53, 3) := by decide +kernel
theorem dc_Clock_init_95 : decode cd_Clock_init 95 = .ok (.dup, 1) := by decide +kernel
theorem dc_Clock_init_96 : decode cd_Clock_init 96 = .ok (.invokespecial 59, 3) := by decide +kernel
theorem dc_Clock_init_99 : decode cd_Clock_init 99 = .ok (.putfield 60, 3) := by decide +kernel
theorem dc_Clock_init_102 : decode cd_Clock_init 102 = .ok (.aload_n 0, 1) := by decide +kernel
theorem dc_Clock_init_103 : decode cd_Clock_init 103 = .ok (.new 64, 3) := by decide +kernel
theorem dc_Clock_init_106 : decode cd_Clock_init 106 = .ok (.dup, 1) := by decide +kernel
theorem dc_Clock_init_107 : decode cd_Clock_init 107 = .ok (.invokespecial 66, 3) := by decide +kernel
theorem dc_Clock_init_110 : decode cd_Clock_init 110 = .ok (.putfield 67, 3) := by decide +kernel
theorem dc_Clock_init_113 : decode cd_Clock_init 113 = .ok (.aload_n 0, 1) := by decide +kernel
theorem dc_Clock_init_114 : decode cd_Clock_init 114 = .ok (.new 71, 3) := by decide +kernel
theorem dc_Clock_init_117 : decode cd_Clock_init 117 = .ok (.dup, 1) := by decide +kernel
theorem dc_Clock_init_118 : decode cd_Clock_init 118 = .ok (.invokespecial 73, 3) := by decide +kernel
theorem dc_Clock_init_121 : decode cd_Clock_init 121 = .ok (.putfield 74, 3) := by decide +kernel
theorem dc_Clock_init_124 : decode cd_Clock_init 124 = .ok (.aload_n 0, 1) := by decide +kernel
theorem dc_Clock_init_125 : decode cd_Clock_init 125 = .ok (.bipush 64, 2) := by decide +kernel
theorem dc_Clock_init_127 : decode cd_Clock_init 127 = .ok (.newarray .int, 2) := by decide +kernel
theorem dc_Clock_init_129 : decode cd_Clock_init 129 = .ok (.putfield 78, 3) := by decide +kernel
theorem dc_Clock_init_132 : decode cd_Clock_init 132 = .ok (.aload_n 0, 1) := by decide +kernel
theorem dc_Clock_init_133 : decode cd_Clock_init 133 = .ok (.bipush 6, 2) := by decide +kernel
theorem dc_Clock_init_135 : decode cd_Clock_init 135 = .ok (.newarray .int, 2) := by decide +kernel
theorem dc_Clock_init_137 : decode cd_Clock_init 137 = .ok (.putfield 82, 3) := by decide +kernel
theorem dc_Clock_init_140 : decode cd_Clock_init 140 = .ok (.aload_n 0, 1) := by decide +kernel
theorem dc_Clock_init_141 : decode cd_Clock_init 141 = .ok (.bipush 6, 2) := by decide +kernel
theorem dc_Clock_init_143 : decode cd_Clock_init 143 = .ok (.newarray .int, 2) := by decide +kernel
theorem dc_Clock_init_145 : decode cd_Clock_init 145 = .ok (.putfield 85, 3) := by decide +kernel
theorem dc_Clock_init_148 : decode cd_Clock_init 148 = .ok (.aload_n 0, 1) := by decide +kernel
theorem dc_Clock_init_149 : decode cd_Clock_init 149 = .ok (.bipush 6, 2) := by decide +kernel
theorem dc_Clock_init_151 : decode cd_Clock_init 151 = .ok (.newarray .int, 2) := by decide +kernel
theorem dc_Clock_init_153 : decode cd_Clock_init 153 = .ok (.putfield 88, 3) := by decide +kernel
theorem dc_Clock_init_156 : decode cd_Clock_init 156 = .ok (.iconst 0, 1) := by decide +kernel
theorem dc_Clock_init_157 : decode cd_Clock_init 157 = .ok (.istore_n 1, 1) := by decide +kernel
theorem dc_Clock_init_158 : decode cd_Clock_init 158 = .ok (.iload_n 1, 1) := by decide +kernel
theorem dc_Clock_init_159 : decode cd_Clock_init 159 = .ok (.iconst 4, 1) := by decide +kernel
theorem dc_Clock_init_160 : decode cd_Clock_init 160 = .ok (.if_icmp .ge 22, 3) := by decide +kernel
theorem dc_Clock_init_163 : decode cd_Clock_init 163 = .ok (.aload_n 0, 1) := by decide +kernel
theorem dc_Clock_init_164 : decode cd_Clock_init 164 = .ok (.getfield 49, 3) := by decide +kernel
theorem dc_Clock_init_167 : decode cd_Clock_init 167 = .ok (.iload_n 1, 1) := by decide +kernel
theorem dc_Clock_init_168 : decode cd_Clock_init 168 = .ok (.new 42, 3) := by decide +kernel
theorem dc_Clock_init_171 : decode cd_Clock_init 171 = .ok (.dup, 1) := by decide +kernel
theorem dc_Clock_init_172 : decode cd_Clock_init 172 = .ok (.invokespecial 44, 3) := by decide +kernel
theorem dc_Clock_init_175 : decode cd_Clock_init 175 = .ok (.aastore, 1) := by decide +kernel
theorem dc_Clock_init_176 : decode cd_Clock_init 176 = .ok (.iinc 1 1, 3) := by decide +kernel
theorem dc_Clock_init_179 : decode cd_Clock_init 179 = .ok (.goto (-21), 3) := by decide +kernel
theorem dc_Clock_init_182 : decode cd_Clock_init 182 = .ok (.iconst 0, 1) := by decide +kernel
theorem dc_Clock_init_183 : decode cd_Clock_init 183 = .ok (.istore_n 1, 1) := by decide +kernel
theorem dc_Clock_init_184 : decode cd_Clock_init 184 = .ok (.iload_n 1, 1) := by decide +kernel
theorem dc_Clock_init_185 : decode cd_Clock_init 185 = .ok (.bipush 16, 2) := by decide +kernel
theorem dc_Clock_init_187 : decode cd_Clock_init 187 = .ok (.if_icmp .ge 22, 3) := by decide +kernel
theorem dc_Clock_init_190 : decode cd_Clock_init 190 = .ok (.aload_n 0, 1) := by decide +kernel
theorem dc_Clock_init_191 : decode cd_Clock_init 191 = .ok (.getfield 55, 3) := by decide +kernel
theorem dc_Clock_init_194 : decode cd_Clock_init 194 = .ok (.iload_n 1, 1) := by decide +kernel
theorem dc_Clock_init_195 : decode cd_Clock_init 195 = .ok (.new 53, 3) := by decide +kernel
theorem dc_Clock_init_198 : decode cd_Clock_init 198 = .ok (.dup, 1) := by decide +kernel
theorem dc_Clock_init_199 : decode cd_Clock_init 199 = .ok (.invokespecial 59, 3) := by decide +kernel
theorem dc_Clock_init_202 : decode cd_Clock_init 202 = .ok (.aastore, 1) := by decide +kernel
theorem dc_Clock_init_203 : decode cd_Clock_init 203 = .ok (.iinc 1 1, 3) := by decide +kernel
theorem dc_Clock_init_206 : decode cd_Clock_init 206 = .ok (.goto (-22), 3) := by decide +kernel
theorem dc_Clock_init_209 : decode cd_Clock_init 209 = .ok (.return_, 1) := by decide +kernel
abbrev mt_R_Clock_init : MT := ("HillClock", cd_Clock_init, 2, none, 5)
abbrev mt_R_Model_forgets : MT := ("HillClockModel", cd_Model_forgets, 2, none, 1)
def yn_Model_init : MethodName := ⟨"HillClockModel", "<init>", "()V"⟩
abbrev cd_Model_init : ByteArray := prog_14_method_1_code
theorem dc_Model_init_0 : decode cd_Model_init 0 = .ok (.aload_n 0, 1) := by decide +kernel
theorem dc_Model_init_1 : decode cd_Model_init 1 = .ok (.invokespecial 1, 3) := by decide +kernel
theorem dc_Model_init_4 : decode cd_Model_init 4 = .ok (.aload_n 0, 1) := by decide +kernel
theorem dc_Model_init_5 : decode cd_Model_init 5 = .ok (.sipush 1000, 3) := by decide +kernel
theorem dc_Model_init_8 : decode cd_Model_init 8 = .ok (.newarray .int, 2) := by decide +kernel
theorem dc_Model_init_10 : decode cd_Model_init 10 = .ok (.putfield 7, 3) := by decide +kernel
theorem dc_Model_init_13 : decode cd_Model_init 13 = .ok (.aload_n 0, 1) := by decide +kernel
theorem dc_Model_init_14 : decode cd_Model_init 14 = .ok (.bipush 10, 2) := by decide +kernel
theorem dc_Model_init_16 : decode cd_Model_init 16 = .ok (.newarray .int, 2) := by decide +kernel
theorem dc_Model_init_18 : decode cd_Model_init 18 = .ok (.putfield 13, 3) := by decide +kernel
theorem dc_Model_init_21 : decode cd_Model_init 21 = .ok (.aload_n 0, 1) := by decide +kernel
theorem dc_Model_init_22 : decode cd_Model_init 22 = .ok (.bipush 12, 2) := by decide +kernel
theorem dc_Model_init_24 : decode cd_Model_init 24 = .ok (.newarray .long, 2) := by decide +kernel
theorem dc_Model_init_26 : decode cd_Model_init 26 = .ok (.putfield 16, 3) := by decide +kernel
theorem dc_Model_init_29 : decode cd_Model_init 29 = .ok (.aload_n 0, 1) := by decide +kernel
theorem dc_Model_init_30 : decode cd_Model_init 30 = .ok (.bipush 12, 2) := by decide +kernel
theorem dc_Model_init_32 : decode cd_Model_init 32 = .ok (.newarray .long, 2) := by decide +kernel
theorem dc_Model_init_34 : decode cd_Model_init 34 = .ok (.putfield 20, 3) := by decide +kernel
theorem dc_Model_init_37 : decode cd_Model_init 37 = .ok (.aload_n 0, 1) := by decide +kernel
theorem dc_Model_init_38 : decode cd_Model_init 38 = .ok (.bipush 12, 2) := by decide +kernel
theorem dc_Model_init_40 : decode cd_Model_init 40 = .ok (.newarray .long, 2) := by decide +kernel
theorem dc_Model_init_42 : decode cd_Model_init 42 = .ok (.putfield 23, 3) := by decide +kernel
theorem dc_Model_init_45 : decode cd_Model_init 45 = .ok (.aload_n 0, 1) := by decide +kernel
theorem dc_Model_init_46 : decode cd_Model_init 46 = .ok (.bipush 72, 2) := by decide +kernel
theorem dc_Model_init_48 : decode cd_Model_init 48 = .ok (.newarray .int, 2) := by decide +kernel
theorem dc_Model_init_50 : decode cd_Model_init 50 = .ok (.putfield 26, 3) := by decide +kernel
theorem dc_Model_init_53 : decode cd_Model_init 53 = .ok (.aload_n 0, 1) := by decide +kernel
theorem dc_Model_init_54 : decode cd_Model_init 54 = .ok (.bipush 12, 2) := by decide +kernel
theorem dc_Model_init_56 : decode cd_Model_init 56 = .ok (.newarray .int, 2) := by decide +kernel
theorem dc_Model_init_58 : decode cd_Model_init 58 = .ok (.putfield 29, 3) := by decide +kernel
theorem dc_Model_init_61 : decode cd_Model_init 61 = .ok (.aload_n 0, 1) := by decide +kernel
theorem dc_Model_init_62 : decode cd_Model_init 62 = .ok (.bipush 12, 2) := by decide +kernel
theorem dc_Model_init_64 : decode cd_Model_init 64 = .ok (.newarray .int, 2) := by decide +kernel
theorem dc_Model_init_66 : decode cd_Model_init 66 = .ok (.putfield 32, 3) := by decide +kernel
theorem dc_Model_init_69 : decode cd_Model_init 69 = .ok (.aload_n 0, 1) := by decide +kernel
theorem dc_Model_init_70 : decode cd_Model_init 70 = .ok (.bipush 12, 2) := by decide +kernel
theorem dc_Model_init_72 : decode cd_Model_init 72 = .ok (.newarray .int, 2) := by decide +kernel
theorem dc_Model_init_74 : decode cd_Model_init 74 = .ok (.putfield 35, 3) := by decide +kernel
theorem dc_Model_init_77 : decode cd_Model_init 77 = .ok (.aload_n 0, 1) := by decide +kernel
theorem dc_Model_init_78 : decode cd_Model_init 78 = .ok (.bipush 12, 2) := by decide +kernel
theorem dc_Model_init_80 : decode cd_Model_init 80 = .ok (.newarray .int, 2) := by decide +kernel
theorem dc_Model_init_82 : decode cd_Model_init 82 = .ok (.putfield 38, 3) := by decide +kernel
theorem dc_Model_init_85 : decode cd_Model_init 85 = .ok (.aload_n 0, 1) := by decide +kernel
theorem dc_Model_init_86 : decode cd_Model_init 86 = .ok (.bipush 48, 2) := by decide +kernel
theorem dc_Model_init_88 : decode cd_Model_init 88 = .ok (.newarray .int, 2) := by decide +kernel
theorem dc_Model_init_90 : decode cd_Model_init 90 = .ok (.putfield 41, 3) := by decide +kernel
theorem dc_Model_init_93 : decode cd_Model_init 93 = .ok (.aload_n 0, 1) := by decide +kernel
theorem dc_Model_init_94 : decode cd_Model_init 94 = .ok (.bipush 12, 2) := by decide +kernel
theorem dc_Model_init_96 : decode cd_Model_init 96 = .ok (.newarray .int, 2) := by decide +kernel
theorem dc_Model_init_98 : decode cd_Model_init 98 = .ok (.putfield 44, 3) := by decide +kernel
theorem dc_Model_init_101 : decode cd_Model_init 101 = .ok (.aload_n 0, 1) := by decide +kernel
theorem dc_Model_init_102 : decode cd_Model_init 102 = .ok (.bipush 72, 2) := by decide +kernel
theorem dc_Model_init_104 : decode cd_Model_init 104 = .ok (.newarray .int, 2) := by decide +kernel
theorem dc_Model_init_106 : decode cd_Model_init 106 = .ok (.putfield 47, 3) := by decide +kernel
theorem dc_Model_init_109 : decode cd_Model_init 109 = .ok (.aload_n 0, 1) := by decide +kernel
theorem dc_Model_init_110 : decode cd_Model_init 110 = .ok (.bipush 72, 2) := by decide +kernel
theorem dc_Model_init_112 : decode cd_Model_init 112 = .ok (.newarray .int, 2) := by decide +kernel
theorem dc_Model_init_114 : decode cd_Model_init 114 = .ok (.putfield 50, 3) := by decide +kernel
theorem dc_Model_init_117 : decode cd_Model_init 117 = .ok (.aload_n 0, 1) := by decide +kernel
theorem dc_Model_init_118 : decode cd_Model_init 118 = .ok (.bipush 12, 2) := by decide +kernel
theorem dc_Model_init_120 : decode cd_Model_init 120 = .ok (.newarray .int, 2) := by decide +kernel
theorem dc_Model_init_122 : decode cd_Model_init 122 = .ok (.putfield 53, 3) := by decide +kernel
theorem dc_Model_init_125 : decode cd_Model_init 125 = .ok (.aload_n 0, 1) := by decide +kernel
theorem dc_Model_init_126 : decode cd_Model_init 126 = .ok (.bipush 12, 2) := by decide +kernel
theorem dc_Model_init_128 : decode cd_Model_init 128 = .ok (.newarray .int, 2) := by decide +kernel
theorem dc_Model_init_130 : decode cd_Model_init 130 = .ok (.putfield 56, 3) := by decide +kernel
theorem dc_Model_init_133 : decode cd_Model_init 133 = .ok (.aload_n 0, 1) := by decide +kernel
theorem dc_Model_init_134 : decode cd_Model_init 134 = .ok (.bipush 12, 2) := by decide +kernel
theorem dc_Model_init_136 : decode cd_Model_init 136 = .ok (.newarray .int, 2) := by decide +kernel
theorem dc_Model_init_138 : decode cd_Model_init 138 = .ok (.putfield 59, 3) := by decide +kernel
theorem dc_Model_init_141 : decode cd_Model_init 141 = .ok (.aload_n 0, 1) := by decide +kernel
theorem dc_Model_init_142 : decode cd_Model_init 142 = .ok (.iconst 2, 1) := by decide +kernel
theorem dc_Model_init_143 : decode cd_Model_init 143 = .ok (.newarray .int, 2) := by decide +kernel
theorem dc_Model_init_145 : decode cd_Model_init 145 = .ok (.putfield 62, 3) := by decide +kernel
theorem dc_Model_init_148 : decode cd_Model_init 148 = .ok (.aload_n 0, 1) := by decide +kernel
theorem dc_Model_init_149 : decode cd_Model_init 149 = .ok (.iconst 2, 1) := by decide +kernel
theorem dc_Model_init_150 : decode cd_Model_init 150 = .ok (.newarray .int, 2) := by decide +kernel
theorem dc_Model_init_152 : decode cd_Model_init 152 = .ok (.putfield 65, 3) := by decide +kernel
theorem dc_Model_init_155 : decode cd_Model_init 155 = .ok (.aload_n 0, 1) := by decide +kernel
theorem dc_Model_init_156 : decode cd_Model_init 156 = .ok (.sipush 2000, 3) := by decide +kernel
theorem dc_Model_init_159 : decode cd_Model_init 159 = .ok (.newarray .int, 2) := by decide +kernel
theorem dc_Model_init_161 : decode cd_Model_init 161 = .ok (.putfield 68, 3) := by decide +kernel
theorem dc_Model_init_164 : decode cd_Model_init 164 = .ok (.aload_n 0, 1) := by decide +kernel
theorem dc_Model_init_165 : decode cd_Model_init 165 = .ok (.bipush 7, 2) := by decide +kernel
theorem dc_Model_init_167 : decode cd_Model_init 167 = .ok (.newarray .int, 2) := by decide +kernel
theorem dc_Model_init_169 : decode cd_Model_init 169 = .ok (.putfield 71, 3) := by decide +kernel
theorem dc_Model_init_172 : decode cd_Model_init 172 = .ok (.aload_n 0, 1) := by decide +kernel
theorem dc_Model_init_173 : decode cd_Model_init 173 = .ok (.bipush 7, 2) := by decide +kernel
theorem dc_Model_init_175 : decode cd_Model_init 175 = .ok (.newarray .boolean, 2) := by decide +kernel
theorem dc_Model_init_177 : decode cd_Model_init 177 = .ok (.putfield 74, 3) := by decide +kernel
theorem dc_Model_init_180 : decode cd_Model_init 180 = .ok (.aload_n 0, 1) := by decide +kernel
theorem dc_Model_init_181 : decode cd_Model_init 181 = .ok (.bipush 7, 2) := by decide +kernel
theorem dc_Model_init_183 : decode cd_Model_init 183 = .ok (.newarray .int, 2) := by decide +kernel
theorem dc_Model_init_185 : decode cd_Model_init 185 = .ok (.putfield 78, 3) := by decide +kernel
theorem dc_Model_init_188 : decode cd_Model_init 188 = .ok (.aload_n 0, 1) := by decide +kernel
theorem dc_Model_init_189 : decode cd_Model_init 189 = .ok (.bipush 7, 2) := by decide +kernel
theorem dc_Model_init_191 : decode cd_Model_init 191 = .ok (.newarray .int, 2) := by decide +kernel
theorem dc_Model_init_193 : decode cd_Model_init 193 = .ok (.putfield 81, 3) := by decide +kernel
theorem dc_Model_init_196 : decode cd_Model_init 196 = .ok (.aload_n 0, 1) := by decide +kernel
theorem dc_Model_init_197 : decode cd_Model_init 197 = .ok (.bipush 7, 2) := by decide +kernel
theorem dc_Model_init_199 : decode cd_Model_init 199 = .ok (.newarray .int, 2) := by decide +kernel
theorem dc_Model_init_201 : decode cd_Model_init 201 = .ok (.putfield 84, 3) := by decide +kernel
theorem dc_Model_init_204 : decode cd_Model_init 204 = .ok (.aload_n 0, 1) := by decide +kernel
theorem dc_Model_init_205 : decode cd_Model_init 205 = .ok (.bipush 7, 2) := by decide +kernel
theorem dc_Model_init_207 : decode cd_Model_init 207 = .ok (.newarray .int, 2) := by decide +kernel
theorem dc_Model_init_209 : decode cd_Model_init 209 = .ok (.putfield 87, 3) := by decide +kernel
theorem dc_Model_init_212 : decode cd_Model_init 212 = .ok (.aload_n 0, 1) := by decide +kernel
theorem dc_Model_init_213 : decode cd_Model_init 213 = .ok (.bipush 7, 2) := by decide +kernel
theorem dc_Model_init_215 : decode cd_Model_init 215 = .ok (.newarray .int, 2) := by decide +kernel
theorem dc_Model_init_217 : decode cd_Model_init 217 = .ok (.putfield 90, 3) := by decide +kernel
theorem dc_Model_init_220 : decode cd_Model_init 220 = .ok (.aload_n 0, 1) := by decide +kernel
theorem dc_Model_init_221 : decode cd_Model_init 221 = .ok (.bipush 7, 2) := by decide +kernel
theorem dc_Model_init_223 : decode cd_Model_init 223 = .ok (.newarray .int, 2) := by decide +kernel
theorem dc_Model_init_225 : decode cd_Model_init 225 = .ok (.putfield 93, 3) := by decide +kernel
theorem dc_Model_init_228 : decode cd_Model_init 228 = .ok (.aload_n 0, 1) := by decide +kernel
theorem dc_Model_init_229 : decode cd_Model_init 229 = .ok (.bipush 7, 2) := by decide +kernel
theorem dc_Model_init_231 : decode cd_Model_init 231 = .ok (.newarray .int, 2) := by decide +kernel
theorem dc_Model_init_233 : decode cd_Model_init 233 = .ok (.putfield 96, 3) := by decide +kernel
theorem dc_Model_init_236 : decode cd_Model_init 236 = .ok (.aload_n 0, 1) := by decide +kernel
theorem dc_Model_init_237 : decode cd_Model_init 237 = .ok (.bipush 7, 2) := by decide +kernel
theorem dc_Model_init_239 : decode cd_Model_init 239 = .ok (.newarray .int, 2) := by decide +kernel
theorem dc_Model_init_241 : decode cd_Model_init 241 = .ok (.putfield 99, 3) := by decide +kernel
theorem dc_Model_init_244 : decode cd_Model_init 244 = .ok (.aload_n 0, 1) := by decide +kernel
theorem dc_Model_init_245 : decode cd_Model_init 245 = .ok (.bipush 7, 2) := by decide +kernel
theorem dc_Model_init_247 : decode cd_Model_init 247 = .ok (.newarray .int, 2) := by decide +kernel
theorem dc_Model_init_249 : decode cd_Model_init 249 = .ok (.putfield 102, 3) := by decide +kernel
theorem dc_Model_init_252 : decode cd_Model_init 252 = .ok (.aload_n 0, 1) := by decide +kernel
theorem dc_Model_init_253 : decode cd_Model_init 253 = .ok (.bipush 20, 2) := by decide +kernel
theorem dc_Model_init_255 : decode cd_Model_init 255 = .ok (.newarray .int, 2) := by decide +kernel
theorem dc_Model_init_257 : decode cd_Model_init 257 = .ok (.putfield 105, 3) := by decide +kernel
theorem dc_Model_init_260 : decode cd_Model_init 260 = .ok (.aload_n 0, 1) := by decide +kernel
theorem dc_Model_init_261 : decode cd_Model_init 261 = .ok (.bipush 6, 2) := by decide +kernel
theorem dc_Model_init_263 : decode cd_Model_init 263 = .ok (.newarray .int, 2) := by decide +kernel
theorem dc_Model_init_265 : decode cd_Model_init 265 = .ok (.putfield 108, 3) := by decide +kernel
theorem dc_Model_init_268 : decode cd_Model_init 268 = .ok (.aload_n 0, 1) := by decide +kernel
theorem dc_Model_init_269 : decode cd_Model_init 269 = .ok (.sipush 180, 3) := by decide +kernel
theorem dc_Model_init_272 : decode cd_Model_init 272 = .ok (.newarray .int, 2) := by decide +kernel
theorem dc_Model_init_274 : decode cd_Model_init 274 = .ok (.putfield 111, 3) := by decide +kernel
theorem dc_Model_init_277 : decode cd_Model_init 277 = .ok (.aload_n 0, 1) := by decide +kernel
theorem dc_Model_init_278 : decode cd_Model_init 278 = .ok (.sipush 180, 3) := by decide +kernel
theorem dc_Model_init_281 : decode cd_Model_init 281 = .ok (.newarray .int, 2) := by decide +kernel
theorem dc_Model_init_283 : decode cd_Model_init 283 = .ok (.putfield 114, 3) := by decide +kernel
theorem dc_Model_init_286 : decode cd_Model_init 286 = .ok (.aload_n 0, 1) := by decide +kernel
theorem dc_Model_init_287 : decode cd_Model_init 287 = .ok (.sipush 180, 3) := by decide +kernel
theorem dc_Model_init_290 : decode cd_Model_init 290 = .ok (.newarray .int, 2) := by decide +kernel
theorem dc_Model_init_292 : decode cd_Model_init 292 = .ok (.putfield 117, 3) := by decide +kernel
theorem dc_Model_init_295 : decode cd_Model_init 295 = .ok (.aload_n 0, 1) := by decide +kernel
theorem dc_Model_init_296 : decode cd_Model_init 296 = .ok (.iconst 5, 1) := by decide +kernel
theorem dc_Model_init_297 : decode cd_Model_init 297 = .ok (.newarray .int, 2) := by decide +kernel
theorem dc_Model_init_299 : decode cd_Model_init 299 = .ok (.putfield 120, 3) := by decide +kernel
theorem dc_Model_init_302 : decode cd_Model_init 302 = .ok (.aload_n 0, 1) := by decide +kernel
theorem dc_Model_init_303 : decode cd_Model_init 303 = .ok (.bipush 40, 2) := by decide +kernel
theorem dc_Model_init_305 : decode cd_Model_init 305 = .ok (.newarray .int, 2) := by decide +kernel
theorem dc_Model_init_307 : decode cd_Model_init 307 = .ok (.putfield 123, 3) := by decide +kernel
theorem dc_Model_init_310 : decode cd_Model_init 310 = .ok (.aload_n 0, 1) := by decide +kernel
theorem dc_Model_init_311 : decode cd_Model_init 311 = .ok (.bipush 40, 2) := by decide +kernel
theorem dc_Model_init_313 : decode cd_Model_init 313 = .ok (.newarray .int, 2) := by decide +kernel
theorem dc_Model_init_315 : decode cd_Model_init 315 = .ok (.putfield 126, 3) := by decide +kernel
theorem dc_Model_init_318 : decode cd_Model_init 318 = .ok (.aload_n 0, 1) := by decide +kernel
theorem dc_Model_init_319 : decode cd_Model_init 319 = .ok (.bipush 40, 2) := by decide +kernel
theorem dc_Model_init_321 : decode cd_Model_init 321 = .ok (.newarray .boolean, 2) := by decide +kernel
theorem dc_Model_init_323 : decode cd_Model_init 323 = .ok (.putfield 129, 3) := by decide +kernel
theorem dc_Model_init_326 : decode cd_Model_init 326 = .ok (.aload_n 0, 1) := by decide +kernel
theorem dc_Model_init_327 : decode cd_Model_init 327 = .ok (.bipush 30, 2) := by decide +kernel
theorem dc_Model_init_329 : decode cd_Model_init 329 = .ok (.newarray .int, 2) := by decide +kernel
theorem dc_Model_init_331 : decode cd_Model_init 331 = .ok (.putfield 132, 3) := by decide +kernel
theorem dc_Model_init_334 : decode cd_Model_init 334 = .ok (.aload_n 0, 1) := by decide +kernel
theorem dc_Model_init_335 : decode cd_Model_init 335 = .ok (.bipush 16, 2) := by decide +kernel
theorem dc_Model_init_337 : decode cd_Model_init 337 = .ok (.newarray .int, 2) := by decide +kernel
theorem dc_Model_init_339 : decode cd_Model_init 339 = .ok (.putfield 135, 3) := by decide +kernel
theorem dc_Model_init_342 : decode cd_Model_init 342 = .ok (.aload_n 0, 1) := by decide +kernel
theorem dc_Model_init_343 : decode cd_Model_init 343 = .ok (.bipush 16, 2) := by decide +kernel
theorem dc_Model_init_345 : decode cd_Model_init 345 = .ok (.newarray .int, 2) := by decide +kernel
theorem dc_Model_init_347 : decode cd_Model_init 347 = .ok (.putfield 138, 3) := by decide +kernel
theorem dc_Model_init_350 : decode cd_Model_init 350 = .ok (.aload_n 0, 1) := by decide +kernel
theorem dc_Model_init_351 : decode cd_Model_init 351 = .ok (.bipush 64, 2) := by decide +kernel
theorem dc_Model_init_353 : decode cd_Model_init 353 = .ok (.newarray .int, 2) := by decide +kernel
theorem dc_Model_init_355 : decode cd_Model_init 355 = .ok (.putfield 141, 3) := by decide +kernel
theorem dc_Model_init_358 : decode cd_Model_init 358 = .ok (.aload_n 0, 1) := by decide +kernel
theorem dc_Model_init_359 : decode cd_Model_init 359 = .ok (.sipush 256, 3) := by decide +kernel
theorem dc_Model_init_362 : decode cd_Model_init 362 = .ok (.newarray .int, 2) := by decide +kernel
theorem dc_Model_init_364 : decode cd_Model_init 364 = .ok (.putfield 144, 3) := by decide +kernel
theorem dc_Model_init_367 : decode cd_Model_init 367 = .ok (.aload_n 0, 1) := by decide +kernel
theorem dc_Model_init_368 : decode cd_Model_init 368 = .ok (.iconst 4, 1) := by decide +kernel
theorem dc_Model_init_369 : decode cd_Model_init 369 = .ok (.newarray .boolean, 2) := by decide +kernel
theorem dc_Model_init_371 : decode cd_Model_init 371 = .ok (.putfield 147, 3) := by decide +kernel
theorem dc_Model_init_374 : decode cd_Model_init 374 = .ok (.aload_n 0, 1) := by decide +kernel
theorem dc_Model_init_375 : decode cd_Model_init 375 = .ok (.bipush 36, 2) := by decide +kernel
theorem dc_Model_init_377 : decode cd_Model_init 377 = .ok (.newarray .int, 2) := by decide +kernel
theorem dc_Model_init_379 : decode cd_Model_init 379 = .ok (.putfield 150, 3) := by decide +kernel
theorem dc_Model_init_382 : decode cd_Model_init 382 = .ok (.aload_n 0, 1) := by decide +kernel
theorem dc_Model_init_383 : decode cd_Model_init 383 = .ok (.sipush 1440, 3) := by decide +kernel
theorem dc_Model_init_386 : decode cd_Model_init 386 = .ok (.newarray .int, 2) := by decide +kernel
theorem dc_Model_init_388 : decode cd_Model_init 388 = .ok (.putfield 153, 3) := by decide +kernel
theorem dc_Model_init_391 : decode cd_Model_init 391 = .ok (.aload_n 0, 1) := by decide +kernel
theorem dc_Model_init_392 : decode cd_Model_init 392 = .ok (.bipush 6, 2) := by decide +kernel
theorem dc_Model_init_394 : decode cd_Model_init 394 = .ok (.newarray .int, 2) := by decide +kernel
theorem dc_Model_init_396 : decode cd_Model_init 396 = .ok (.putfield 156, 3) := by decide +kernel
theorem dc_Model_init_399 : decode cd_Model_init 399 = .ok (.aload_n 0, 1) := by decide +kernel
theorem dc_Model_init_400 : decode cd_Model_init 400 = .ok (.bipush 6, 2) := by decide +kernel
theorem dc_Model_init_402 : decode cd_Model_init 402 = .ok (.newarray .int, 2) := by decide +kernel
theorem dc_Model_init_404 : decode cd_Model_init 404 = .ok (.putfield 159, 3) := by decide +kernel
theorem dc_Model_init_407 : decode cd_Model_init 407 = .ok (.aload_n 0, 1) := by decide +kernel
theorem dc_Model_init_408 : decode cd_Model_init 408 = .ok (.bipush 6, 2) := by decide +kernel
theorem dc_Model_init_410 : decode cd_Model_init 410 = .ok (.newarray .boolean, 2) := by decide +kernel
theorem dc_Model_init_412 : decode cd_Model_init 412 = .ok (.putfield 162, 3) := by decide +kernel
theorem dc_Model_init_415 : decode cd_Model_init 415 = .ok (.aload_n 0, 1) := by decide +kernel
theorem dc_Model_init_416 : decode cd_Model_init 416 = .ok (.bipush 64, 2) := by decide +kernel
theorem dc_Model_init_418 : decode cd_Model_init 418 = .ok (.newarray .int, 2) := by decide +kernel
theorem dc_Model_init_420 : decode cd_Model_init 420 = .ok (.putfield 165, 3) := by decide +kernel
theorem dc_Model_init_423 : decode cd_Model_init 423 = .ok (.aload_n 0, 1) := by decide +kernel
theorem dc_Model_init_424 : decode cd_Model_init 424 = .ok (.bipush 6, 2) := by decide +kernel
theorem dc_Model_init_426 : decode cd_Model_init 426 = .ok (.newarray .int, 2) := by decide +kernel
theorem dc_Model_init_428 : decode cd_Model_init 428 = .ok (.putfield 168, 3) := by decide +kernel
theorem dc_Model_init_431 : decode cd_Model_init 431 = .ok (.aload_n 0, 1) := by decide +kernel
theorem dc_Model_init_432 : decode cd_Model_init 432 = .ok (.bipush 6, 2) := by decide +kernel
theorem dc_Model_init_434 : decode cd_Model_init 434 = .ok (.newarray .int, 2) := by decide +kernel
theorem dc_Model_init_436 : decode cd_Model_init 436 = .ok (.putfield 171, 3) := by decide +kernel
theorem dc_Model_init_439 : decode cd_Model_init 439 = .ok (.aload_n 0, 1) := by decide +kernel
theorem dc_Model_init_440 : decode cd_Model_init 440 = .ok (.bipush 6, 2) := by decide +kernel
theorem dc_Model_init_442 : decode cd_Model_init 442 = .ok (.newarray .int, 2) := by decide +kernel
theorem dc_Model_init_444 : decode cd_Model_init 444 = .ok (.putfield 174, 3) := by decide +kernel
theorem dc_Model_init_447 : decode cd_Model_init 447 = .ok (.aload_n 0, 1) := by decide +kernel
theorem dc_Model_init_448 : decode cd_Model_init 448 = .ok (.sipush 1440, 3) := by decide +kernel
theorem dc_Model_init_451 : decode cd_Model_init 451 = .ok (.newarray .long, 2) := by decide +kernel
theorem dc_Model_init_453 : decode cd_Model_init 453 = .ok (.putfield 177, 3) := by decide +kernel
theorem dc_Model_init_456 : decode cd_Model_init 456 = .ok (.aload_n 0, 1) := by decide +kernel
theorem dc_Model_init_457 : decode cd_Model_init 457 = .ok (.invokevirtual 180, 3) := by decide +kernel
theorem dc_Model_init_460 : decode cd_Model_init 460 = .ok (.return_, 1) := by decide +kernel
abbrev mt_R_Model_init : MT := ("HillClockModel", cd_Model_init, 1, none, 2)
theorem xcl_Clock_7 : Cond.classLink "HillClock" 7 "HillClock$Tape" ∈ TBL := tb_i1 36 (by decide +kernel) (by decide +kernel)
theorem xcl_Clock_16 : Cond.classLink "HillClock" 16 "HillClock$HillsReader" ∈ TBL := tb_i1 77 (by decide +kernel) (by decide +kernel)
theorem xcl_Clock_25 : Cond.classLink "HillClock" 25 "HillClock$Hills" ∈ TBL := tb_i1 93 (by decide +kernel) (by decide +kernel)
theorem xcl_Clock_35 : Cond.classLink "HillClock" 35 "HillClock$Lines" ∈ TBL := tb_i2 30 (by decide +kernel) (by decide +kernel)
theorem xcl_Clock_42 : Cond.classLink "HillClock" 42 "HillClock$Standing" ∈ TBL := tb_i2 51 (by decide +kernel) (by decide +kernel)
theorem xcl_Clock_53 : Cond.classLink "HillClock" 53 "HillClock$State" ∈ TBL := tb_i2 127 (by decide +kernel) (by decide +kernel)
theorem xcl_Clock_64 : Cond.classLink "HillClock" 64 "HillClock$Walk" ∈ TBL := tb_i2 130 (by decide +kernel) (by decide +kernel)
theorem xcl_Clock_71 : Cond.classLink "HillClock" 71 "HillClock$Sight" ∈ TBL := tb_i2 165 (by decide +kernel) (by decide +kernel)
theorem xcl_Hills_28 : Cond.classLink "HillClock$Hills" 28 "HillClock$Walker" ∈ TBL := tb_i1 99 (by decide +kernel) (by decide +kernel)
theorem xcl_Hills_43 : Cond.classLink "HillClock$Hills" 43 "HillClock$Law" ∈ TBL := tb_i1 101 (by decide +kernel) (by decide +kernel)
theorem xcl_Standing_9 : Cond.classLink "HillClock$Standing" 9 "HillClock$State" ∈ TBL := tb_i2 57 (by decide +kernel) (by decide +kernel)
theorem xcl_Standing_18 : Cond.classLink "HillClock$Standing" 18 "HillClock$Lines" ∈ TBL := tb_i2 95 (by decide +kernel) (by decide +kernel)
theorem xin_Hills : Cond.instantiable "HillClock$Hills" 15 ∈ TBL := tb_i1 94 (by decide +kernel) (by decide +kernel)
theorem xit_Hills : Cond.initialized "HillClock$Hills" ∈ TBL := tb_i1 4 (by decide +kernel) (by decide +kernel)
theorem xin_HillsReader : Cond.instantiable "HillClock$HillsReader" 3 ∈ TBL := tb_i1 78 (by decide +kernel) (by decide +kernel)
theorem xit_HillsReader : Cond.initialized "HillClock$HillsReader" ∈ TBL := tb_i1 3 (by decide +kernel) (by decide +kernel)
theorem xin_Law : Cond.instantiable "HillClock$Law" 4 ∈ TBL := tb_i1 102 (by decide +kernel) (by decide +kernel)
theorem xit_Law : Cond.initialized "HillClock$Law" ∈ TBL := tb_i1 5 (by decide +kernel) (by decide +kernel)
theorem xin_Lines : Cond.instantiable "HillClock$Lines" 4 ∈ TBL := tb_i2 31 (by decide +kernel) (by decide +kernel)
theorem xit_Lines : Cond.initialized "HillClock$Lines" ∈ TBL := tb_i1 8 (by decide +kernel) (by decide +kernel)
theorem xin_Sight : Cond.instantiable "HillClock$Sight" 2 ∈ TBL := tb_i2 166 (by decide +kernel) (by decide +kernel)
theorem xit_Sight : Cond.initialized "HillClock$Sight" ∈ TBL := tb_i1 12 (by decide +kernel) (by decide +kernel)
theorem xin_Standing : Cond.instantiable "HillClock$Standing" 8 ∈ TBL := tb_i2 52 (by decide +kernel) (by decide +kernel)
theorem xit_Standing : Cond.initialized "HillClock$Standing" ∈ TBL := tb_i1 9 (by decide +kernel) (by decide +kernel)
theorem xin_State : Cond.instantiable "HillClock$State" 6 ∈ TBL := tb_i2 58 (by decide +kernel) (by decide +kernel)
theorem xit_State : Cond.initialized "HillClock$State" ∈ TBL := tb_i1 10 (by decide +kernel) (by decide +kernel)
theorem xin_Tape : Cond.instantiable "HillClock$Tape" 9 ∈ TBL := tb_i1 37 (by decide +kernel) (by decide +kernel)
theorem xit_Tape : Cond.initialized "HillClock$Tape" ∈ TBL := tb_i1 2 (by decide +kernel) (by decide +kernel)
theorem xin_Walk : Cond.instantiable "HillClock$Walk" 8 ∈ TBL := tb_i2 131 (by decide +kernel) (by decide +kernel)
theorem xit_Walk : Cond.initialized "HillClock$Walk" ∈ TBL := tb_i1 11 (by decide +kernel) (by decide +kernel)
theorem xin_Walker : Cond.instantiable "HillClock$Walker" 8 ∈ TBL := tb_i1 122 (by decide +kernel) (by decide +kernel)
theorem xit_Walker : Cond.initialized "HillClock$Walker" ∈ TBL := tb_i1 6 (by decide +kernel) (by decide +kernel)
theorem xar_I : Cond.arrayClass .int ∈ TBL := tb_i1 121 (by decide +kernel) (by decide +kernel)
theorem xar_J : Cond.arrayClass .long ∈ TBL := tb_i1 120 (by decide +kernel) (by decide +kernel)
theorem xar_C : Cond.arrayClass .char ∈ TBL := tb_i1 76 (by decide +kernel) (by decide +kernel)
theorem xar_Z : Cond.arrayClass .boolean ∈ TBL := tb_i7 88 (by decide +kernel) (by decide +kernel)
theorem xoi_Clock_1 : Cond.methodLink "HillClock" 1 Lib.objectInit ∈ TBL := tb_i1 33 (by decide +kernel) (by decide +kernel)
theorem xoi_Hills_3 : Cond.methodLink "HillClock$Hills" 3 Lib.objectInit ∈ TBL := tb_i1 98 (by decide +kernel) (by decide +kernel)
theorem xoi_HillsReader_3 : Cond.methodLink "HillClock$HillsReader" 3 Lib.objectInit ∈ TBL := tb_i1 82 (by decide +kernel) (by decide +kernel)
theorem xoi_Law_3 : Cond.methodLink "HillClock$Law" 3 Lib.objectInit ∈ TBL := tb_i1 106 (by decide +kernel) (by decide +kernel)
theorem xoi_Lines_3 : Cond.methodLink "HillClock$Lines" 3 Lib.objectInit ∈ TBL := tb_i2 35 (by decide +kernel) (by decide +kernel)
theorem xoi_Sight_3 : Cond.methodLink "HillClock$Sight" 3 Lib.objectInit ∈ TBL := tb_i2 170 (by decide +kernel) (by decide +kernel)
theorem xoi_Standing_3 : Cond.methodLink "HillClock$Standing" 3 Lib.objectInit ∈ TBL := tb_i2 56 (by decide +kernel) (by decide +kernel)
theorem xoi_State_3 : Cond.methodLink "HillClock$State" 3 Lib.objectInit ∈ TBL := tb_i2 62 (by decide +kernel) (by decide +kernel)
theorem xoi_Tape_3 : Cond.methodLink "HillClock$Tape" 3 Lib.objectInit ∈ TBL := tb_i1 41 (by decide +kernel) (by decide +kernel)
theorem xoi_Walk_3 : Cond.methodLink "HillClock$Walk" 3 Lib.objectInit ∈ TBL := tb_i2 135 (by decide +kernel) (by decide +kernel)
theorem xoi_Walker_3 : Cond.methodLink "HillClock$Walker" 3 Lib.objectInit ∈ TBL := tb_i1 126 (by decide +kernel) (by decide +kernel)
theorem xoi_Model_1 : Cond.methodLink "HillClockModel" 1 Lib.objectInit ∈ TBL := tb_i6 106 (by decide +kernel) (by decide +kernel)
theorem xoi1 : Cond.instanceMethod Lib.objectInit ∈ TBL := tb_i1 34 (by decide +kernel) (by decide +kernel)
theorem xoi2 : Cond.code Lib.objectInit ⟨#[0xb1]⟩ 1 none ∈ TBL := tb_i1 35 (by decide +kernel) (by decide +kernel)
theorem gf_Hills_30 : GF "HillClock$Hills" 30 0 10 (5, 6) := ⟨tb_i1 219 (by decide +kernel) (by decide +kernel), by decide, rfl⟩
theorem gf_Hills_34 : GF "HillClock$Hills" 34 0 11 (5, 7) := ⟨tb_i1 224 (by decide +kernel) (by decide +kernel), by decide, rfl⟩
theorem gf_Hills_37 : GF "HillClock$Hills" 37 0 12 (5, 8) := ⟨tb_i1 227 (by decide +kernel) (by decide +kernel), by decide, rfl⟩
theorem gf_Hills_40 : GF "HillClock$Hills" 40 0 13 (5, 9) := ⟨tb_i1 232 (by decide +kernel) (by decide +kernel), by decide, rfl⟩
theorem gf_Hills_64 : GF "HillClock$Hills" 64 0 3 (0, 0) := ⟨tb_i1 199 (by decide +kernel) (by decide +kernel), by decide, rfl⟩
theorem gf_Hills_67 : GF "HillClock$Hills" 67 0 4 (0, 0) := ⟨tb_i1 202 (by decide +kernel) (by decide +kernel), by decide, rfl⟩
theorem gf_Walker_18 : GF "HillClock$Walker" 18 9 7 (5, 3) := ⟨tb_i1 147 (by decide +kernel) (by decide +kernel), by decide, rfl⟩
theorem ymn_Clock_9 : Cond.methodLinkNest "HillClock" 9 yn_Tape_init "HillClock" ∈ nsW := by decide +kernel
theorem ymn_Clock_37 : Cond.methodLinkNest "HillClock" 37 yn_Lines_init "HillClock" ∈ nsW := by decide +kernel
theorem ymn_Clock_44 : Cond.methodLinkNest "HillClock" 44 yn_Standing_init "HillClock" ∈ nsW := by decide +kernel
theorem ymn_Clock_59 : Cond.methodLinkNest "HillClock" 59 yn_State_init "HillClock" ∈ nsW := by decide +kernel
theorem ymn_Clock_66 : Cond.methodLinkNest "HillClock" 66 yn_Walk_init "HillClock" ∈ nsW := by decide +kernel
theorem ymn_Clock_73 : Cond.methodLinkNest "HillClock" 73 yn_Sight_init "HillClock" ∈ nsW := by decide +kernel
theorem ymn_Hills_45 : Cond.methodLinkNest "HillClock$Hills" 45 yn_Law_init "HillClock" ∈ nsW := by decide +kernel
theorem ymn_Hills_50 : Cond.methodLinkNest "HillClock$Hills" 50 yn_Walker_init "HillClock" ∈ nsW := by decide +kernel
theorem ymn_Standing_11 : Cond.methodLinkNest "HillClock$Standing" 11 yn_State_init "HillClock" ∈ nsW := by decide +kernel
theorem ymn_Standing_20 : Cond.methodLinkNest "HillClock$Standing" 20 yn_Lines_init "HillClock" ∈ nsW := by decide +kernel
theorem yml_Clock_18 : Cond.methodLink "HillClock" 18 yn_HillsReader_init ∈ TBL := tb_i1 79 (by decide +kernel) (by decide +kernel)
theorem yml_Clock_27 : Cond.methodLink "HillClock" 27 yn_Hills_init ∈ TBL := tb_i1 95 (by decide +kernel) (by decide +kernel)
theorem yml_Hills_51 : Cond.methodLink "HillClock$Hills" 51 yn_Hills_begin ∈ TBL := tb_i1 167 (by decide +kernel) (by decide +kernel)
theorem yml_Hills_70 : Cond.methodLink "HillClock$Hills" 70 yn_Arrays_fillI ∈ TBL := tb_i1 171 (by decide +kernel) (by decide +kernel)
theorem yml_Hills_76 : Cond.methodLink "HillClock$Hills" 76 yn_Law_begin ∈ TBL := tb_i1 174 (by decide +kernel) (by decide +kernel)
theorem yml_Law_22 : Cond.methodLink "HillClock$Law" 22 yn_Law_put ∈ TBL := tb_i1 178 (by decide +kernel) (by decide +kernel)
theorem yml_Model_180 : Cond.methodLink "HillClockModel" 180 yn_Model_forgets ∈ TBL := tb_i6 107 (by decide +kernel) (by decide +kernel)
theorem ymi_Hills_init : MI yn_Hills_init cd_Hills_init 2 none 0 := ⟨tb_i1 97 (by decide +kernel) (by decide +kernel), tb_i1 4 (by decide +kernel) (by decide +kernel), by decide +kernel, by decide +kernel, by decide +kernel, by decide⟩
theorem ymi_Hills_begin : MI yn_Hills_begin cd_Hills_begin 1 none 0 := ⟨tb_i1 170 (by decide +kernel) (by decide +kernel), tb_i1 4 (by decide +kernel) (by decide +kernel), by decide +kernel, by decide +kernel, by decide +kernel, by decide⟩
theorem ymi_HillsReader_init : MI yn_HillsReader_init cd_HillsReader_init 2 none 1 := ⟨tb_i1 81 (by decide +kernel) (by decide +kernel), tb_i1 3 (by decide +kernel) (by decide +kernel), by decide +kernel, by decide +kernel, by decide +kernel, by decide⟩
theorem ymi_Law_init : MI yn_Law_init cd_Law_init 1 none 0 := ⟨tb_i1 105 (by decide +kernel) (by decide +kernel), tb_i1 5 (by decide +kernel) (by decide +kernel), by decide +kernel, by decide +kernel, by decide +kernel, by decide⟩
theorem ymi_Law_begin : MI yn_Law_begin cd_Law_begin 1 none 0 := ⟨tb_i1 177 (by decide +kernel) (by decide +kernel), tb_i1 5 (by decide +kernel) (by decide +kernel), by decide +kernel, by decide +kernel, by decide +kernel, by decide⟩
theorem ymi_Law_put : MI yn_Law_put cd_Law_put 2 none 1 := ⟨tb_i1 181 (by decide +kernel) (by decide +kernel), tb_i1 5 (by decide +kernel) (by decide +kernel), by decide +kernel, by decide +kernel, by decide +kernel, by decide⟩
theorem ymi_Lines_init : MI yn_Lines_init cd_Lines_init 1 none 0 := ⟨tb_i2 34 (by decide +kernel) (by decide +kernel), tb_i1 8 (by decide +kernel) (by decide +kernel), by decide +kernel, by decide +kernel, by decide +kernel, by decide⟩
theorem ymi_Sight_init : MI yn_Sight_init cd_Sight_init 1 none 0 := ⟨tb_i2 169 (by decide +kernel) (by decide +kernel), tb_i1 12 (by decide +kernel) (by decide +kernel), by decide +kernel, by decide +kernel, by decide +kernel, by decide⟩
theorem ymi_Standing_init : MI yn_Standing_init cd_Standing_init 1 none 0 := ⟨tb_i2 55 (by decide +kernel) (by decide +kernel), tb_i1 9 (by decide +kernel) (by decide +kernel), by decide +kernel, by decide +kernel, by decide +kernel, by decide⟩
theorem ymi_State_init : MI yn_State_init cd_State_init 1 none 0 := ⟨tb_i2 61 (by decide +kernel) (by decide +kernel), tb_i1 10 (by decide +kernel) (by decide +kernel), by decide +kernel, by decide +kernel, by decide +kernel, by decide⟩
theorem ymi_Tape_init : MI yn_Tape_init cd_Tape_init 1 none 0 := ⟨tb_i1 40 (by decide +kernel) (by decide +kernel), tb_i1 2 (by decide +kernel) (by decide +kernel), by decide +kernel, by decide +kernel, by decide +kernel, by decide⟩
theorem ymi_Walk_init : MI yn_Walk_init cd_Walk_init 1 none 0 := ⟨tb_i2 134 (by decide +kernel) (by decide +kernel), tb_i1 11 (by decide +kernel) (by decide +kernel), by decide +kernel, by decide +kernel, by decide +kernel, by decide⟩
theorem ymi_Walker_init : MI yn_Walker_init cd_Walker_init 1 none 0 := ⟨tb_i1 125 (by decide +kernel) (by decide +kernel), tb_i1 6 (by decide +kernel) (by decide +kernel), by decide +kernel, by decide +kernel, by decide +kernel, by decide⟩
theorem ymi_Model_forgets : MI yn_Model_forgets cd_Model_forgets 2 none 0 := ⟨tb_i6 110 (by decide +kernel) (by decide +kernel), tb_i1 13 (by decide +kernel) (by decide +kernel), by decide +kernel, by decide +kernel, by decide +kernel, by decide⟩
theorem ymi_Arrays_fillI : MI yn_Arrays_fillI cd_Arrays_fillI 4 none 2 := ⟨tb_i1 173 (by decide +kernel) (by decide +kernel), tb_i1 7 (by decide +kernel) (by decide +kernel), by decide +kernel, by decide +kernel, by decide +kernel, by decide⟩
theorem yin_Hills_init : Cond.instanceMethod yn_Hills_init ∈ TBL ∧ yn_Hills_init.name = "<init>" := ⟨tb_i1 96 (by decide +kernel) (by decide +kernel), rfl⟩
theorem yin_HillsReader_init : Cond.instanceMethod yn_HillsReader_init ∈ TBL ∧ yn_HillsReader_init.name = "<init>" := ⟨tb_i1 80 (by decide +kernel) (by decide +kernel), rfl⟩
theorem yin_Law_init : Cond.instanceMethod yn_Law_init ∈ TBL ∧ yn_Law_init.name = "<init>" := ⟨tb_i1 104 (by decide +kernel) (by decide +kernel), rfl⟩
theorem yin_Lines_init : Cond.instanceMethod yn_Lines_init ∈ TBL ∧ yn_Lines_init.name = "<init>" := ⟨tb_i2 33 (by decide +kernel) (by decide +kernel), rfl⟩
theorem yin_Sight_init : Cond.instanceMethod yn_Sight_init ∈ TBL ∧ yn_Sight_init.name = "<init>" := ⟨tb_i2 168 (by decide +kernel) (by decide +kernel), rfl⟩
theorem yin_Standing_init : Cond.instanceMethod yn_Standing_init ∈ TBL ∧ yn_Standing_init.name = "<init>" := ⟨tb_i2 54 (by decide +kernel) (by decide +kernel), rfl⟩
theorem yin_State_init : Cond.instanceMethod yn_State_init ∈ TBL ∧ yn_State_init.name = "<init>" := ⟨tb_i2 60 (by decide +kernel) (by decide +kernel), rfl⟩
theorem yin_Tape_init : Cond.instanceMethod yn_Tape_init ∈ TBL ∧ yn_Tape_init.name = "<init>" := ⟨tb_i1 39 (by decide +kernel) (by decide +kernel), rfl⟩
theorem yin_Walk_init : Cond.instanceMethod yn_Walk_init ∈ TBL ∧ yn_Walk_init.name = "<init>" := ⟨tb_i2 133 (by decide +kernel) (by decide +kernel), rfl⟩
theorem yin_Walker_init : Cond.instanceMethod yn_Walker_init ∈ TBL ∧ yn_Walker_init.name = "<init>" := ⟨tb_i1 124 (by decide +kernel) (by decide +kernel), rfl⟩
