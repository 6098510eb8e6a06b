/-! Names, words by their places, kinds of cells: printed by emit.py. -/
theorem nt0 (x : Int) : (vi x).1 ≠ 1 := by show (0 : Nat) ≠ 1; decide
theorem nt2 (a : Nat) : (rf a).1 ≠ 1 := by show (2 : Nat) ≠ 1; decide
theorem nt3 (x : Int) : (vw x).1 ≠ 1 := by show (3 : Nat) ≠ 1; decide
def yn_Clock_isPlace : MethodName := ⟨"HillClock", "isPlace", "(I)Z"⟩
abbrev cd_Clock_isPlace : ByteArray := prog_1_method_30_code
abbrev mt_Clock_isPlace : MT := ("HillClock", cd_Clock_isPlace, 2, (some .boolean), 1)
def yn_Clock_isWalker : MethodName := ⟨"HillClock", "isWalker", "(I)Z"⟩
abbrev cd_Clock_isWalker : ByteArray := prog_1_method_31_code
abbrev mt_Clock_isWalker : MT := ("HillClock", cd_Clock_isWalker, 2, (some .boolean), 1)
def yn_Clock_isHour : MethodName := ⟨"HillClock", "isHour", "(I)Z"⟩
abbrev cd_Clock_isHour : ByteArray := prog_1_method_33_code
abbrev mt_Clock_isHour : MT := ("HillClock", cd_Clock_isHour, 2, (some .boolean), 1)
def yn_Clock_isMinute : MethodName := ⟨"HillClock", "isMinute", "(I)Z"⟩
abbrev cd_Clock_isMinute : ByteArray := prog_1_method_34_code
abbrev mt_Clock_isMinute : MT := ("HillClock", cd_Clock_isMinute, 2, (some .boolean), 1)
def yn_Clock_gain : MethodName := ⟨"HillClock", "gain", "(IIII)I"⟩
abbrev cd_Clock_gain : ByteArray := prog_1_method_40_code
abbrev mt_Clock_gain : MT := ("HillClock", cd_Clock_gain, 4, (some .int), 1)
def yn_Clock_draw : MethodName := ⟨"HillClock", "draw", "(I)I"⟩
abbrev cd_Clock_draw : ByteArray := prog_1_method_42_code
abbrev mt_Clock_draw : MT := ("HillClock", cd_Clock_draw, 2, (some .int), 1)
def yn_Model_thrown : MethodName := ⟨"HillClockModel", "thrown", "()I"⟩
abbrev cd_Model_thrown : ByteArray := prog_14_method_2_code
abbrev mt_Model_thrown : MT := ("HillClockModel", cd_Model_thrown, 1, (some .int), 1)
def yn_Model_within : MethodName := ⟨"HillClockModel", "within", "(III)Z"⟩
abbrev cd_Model_within : ByteArray := prog_14_method_3_code
abbrev mt_Model_within : MT := ("HillClockModel", cd_Model_within, 3, (some .boolean), 1)
def yn_Model_between : MethodName := ⟨"HillClockModel", "between", "(III)I"⟩
abbrev cd_Model_between : ByteArray := prog_14_method_4_code
abbrev mt_Model_between : MT := ("HillClockModel", cd_Model_between, 3, (some .int), 1)
def yn_Model_away : MethodName := ⟨"HillClockModel", "away", "(II)I"⟩
abbrev cd_Model_away : ByteArray := prog_14_method_5_code
abbrev mt_Model_away : MT := ("HillClockModel", cd_Model_away, 2, (some .int), 1)
def yn_Model_bits : MethodName := ⟨"HillClockModel", "bits", "(I)I"⟩
abbrev cd_Model_bits : ByteArray := prog_14_method_6_code
abbrev mt_Model_bits : MT := ("HillClockModel", cd_Model_bits, 3, (some .int), 1)
def yn_Model_feed : MethodName := ⟨"HillClockModel", "feed", "(JJJ)I"⟩
abbrev cd_Model_feed : ByteArray := prog_14_method_7_code
abbrev mt_Model_feed : MT := ("HillClockModel", cd_Model_feed, 11, (some .int), 1)
def yn_Model_signAt : MethodName := ⟨"HillClockModel", "signAt", "(I)I"⟩
abbrev cd_Model_signAt : ByteArray := prog_14_method_8_code
abbrev mt_Model_signAt : MT := ("HillClockModel", cd_Model_signAt, 2, (some .int), 1)
def yn_Model_isWord : MethodName := ⟨"HillClockModel", "isWord", "(J)Z"⟩
abbrev cd_Model_isWord : ByteArray := prog_14_method_10_code
abbrev mt_Model_isWord : MT := ("HillClockModel", cd_Model_isWord, 3, (some .boolean), 1)
def yn_Model_isSign : MethodName := ⟨"HillClockModel", "isSign", "(I)Z"⟩
abbrev cd_Model_isSign : ByteArray := prog_14_method_11_code
abbrev mt_Model_isSign : MT := ("HillClockModel", cd_Model_isSign, 2, (some .boolean), 1)
def yn_Model_fails : MethodName := ⟨"HillClockModel", "fails", "(I)Z"⟩
abbrev cd_Model_fails : ByteArray := prog_14_method_12_code
abbrev mt_Model_fails : MT := ("HillClockModel", cd_Model_fails, 2, (some .boolean), 1)
def yn_Model_puts : MethodName := ⟨"HillClockModel", "puts", "(I)V"⟩
abbrev cd_Model_puts : ByteArray := prog_14_method_13_code
abbrev mt_Model_puts : MT := ("HillClockModel", cd_Model_puts, 2, none, 1)
def yn_Model_fact : MethodName := ⟨"HillClockModel", "fact", "()I"⟩
abbrev cd_Model_fact : ByteArray := prog_14_method_14_code
abbrev mt_Model_fact : MT := ("HillClockModel", cd_Model_fact, 1, (some .int), 1)
def yn_Model_opens : MethodName := ⟨"HillClockModel", "opens", "(I)V"⟩
abbrev cd_Model_opens : ByteArray := prog_14_method_16_code
abbrev mt_Model_opens : MT := ("HillClockModel", cd_Model_opens, 2, none, 1)
def yn_Model_sums : MethodName := ⟨"HillClockModel", "sums", "(I)V"⟩
abbrev cd_Model_sums : ByteArray := prog_14_method_17_code
abbrev mt_Model_sums : MT := ("HillClockModel", cd_Model_sums, 2, none, 1)
def yn_Model_isKept : MethodName := ⟨"HillClockModel", "isKept", "()Z"⟩
abbrev cd_Model_isKept : ByteArray := prog_14_method_20_code
abbrev mt_Model_isKept : MT := ("HillClockModel", cd_Model_isKept, 1, (some .boolean), 1)
def yn_Model_named : MethodName := ⟨"HillClockModel", "named", "([JIIJ)I"⟩
abbrev cd_Model_named : ByteArray := prog_14_method_21_code
abbrev mt_Model_named : MT := ("HillClockModel", cd_Model_named, 6, (some .int), 1)
def yn_Model_isOf : MethodName := ⟨"HillClockModel", "isOf", "(III)Z"⟩
abbrev cd_Model_isOf : ByteArray := prog_14_method_32_code
abbrev mt_Model_isOf : MT := ("HillClockModel", cd_Model_isOf, 5, (some .boolean), 1)
def yn_Model_shifts : MethodName := ⟨"HillClockModel", "shifts", "([II)V"⟩
abbrev cd_Model_shifts : ByteArray := prog_14_method_42_code
abbrev mt_Model_shifts : MT := ("HillClockModel", cd_Model_shifts, 3, none, 1)
def yn_Model_shiftsNames : MethodName := ⟨"HillClockModel", "shiftsNames", "([JI)V"⟩
abbrev cd_Model_shiftsNames : ByteArray := prog_14_method_43_code
abbrev mt_Model_shiftsNames : MT := ("HillClockModel", cd_Model_shiftsNames, 3, none, 1)
def yn_Model_copies : MethodName := ⟨"HillClockModel", "copies", "([II[II)V"⟩
abbrev cd_Model_copies : ByteArray := prog_14_method_45_code
abbrev mt_Model_copies : MT := ("HillClockModel", cd_Model_copies, 5, none, 1)
def yn_Model_laysLines : MethodName := ⟨"HillClockModel", "laysLines", "(II)V"⟩
abbrev cd_Model_laysLines : ByteArray := prog_14_method_47_code
abbrev mt_Model_laysLines : MT := ("HillClockModel", cd_Model_laysLines, 4, none, 1)
def yn_Model_laysTold : MethodName := ⟨"HillClockModel", "laysTold", "(II)V"⟩
abbrev cd_Model_laysTold : ByteArray := prog_14_method_48_code
abbrev mt_Model_laysTold : MT := ("HillClockModel", cd_Model_laysTold, 4, none, 1)
def yn_Model_allWalkers : MethodName := ⟨"HillClockModel", "allWalkers", "()I"⟩
abbrev cd_Model_allWalkers : ByteArray := prog_14_method_49_code
abbrev mt_Model_allWalkers : MT := ("HillClockModel", cd_Model_allWalkers, 1, (some .int), 1)
def yn_Model_forgets : MethodName := ⟨"HillClockModel", "forgets", "()V"⟩
abbrev cd_Model_forgets : ByteArray := prog_14_method_51_code
abbrev mt_Model_forgets : MT := ("HillClockModel", cd_Model_forgets, 2, none, 1)
def yn_Model_isPlace : MethodName := ⟨"HillClockModel", "isPlace", "(I)Z"⟩
abbrev cd_Model_isPlace : ByteArray := prog_14_method_54_code
abbrev mt_Model_isPlace : MT := ("HillClockModel", cd_Model_isPlace, 2, (some .boolean), 1)
def yn_Model_isWalker : MethodName := ⟨"HillClockModel", "isWalker", "(I)Z"⟩
abbrev cd_Model_isWalker : ByteArray := prog_14_method_55_code
abbrev mt_Model_isWalker : MT := ("HillClockModel", cd_Model_isWalker, 2, (some .boolean), 1)
def yn_Model_isHour : MethodName := ⟨"HillClockModel", "isHour", "(I)Z"⟩
abbrev cd_Model_isHour : ByteArray := prog_14_method_56_code
abbrev mt_Model_isHour : MT := ("HillClockModel", cd_Model_isHour, 2, (some .boolean), 1)
def yn_Model_laysWays : MethodName := ⟨"HillClockModel", "laysWays", "()V"⟩
abbrev cd_Model_laysWays : ByteArray := prog_14_method_57_code
abbrev mt_Model_laysWays : MT := ("HillClockModel", cd_Model_laysWays, 3, none, 1)
def yn_Model_placeIn : MethodName := ⟨"HillClockModel", "placeIn", "(I)I"⟩
abbrev cd_Model_placeIn : ByteArray := prog_14_method_59_code
abbrev mt_Model_placeIn : MT := ("HillClockModel", cd_Model_placeIn, 2, (some .int), 1)
def yn_Model_firstAt : MethodName := ⟨"HillClockModel", "firstAt", "(II)I"⟩
abbrev cd_Model_firstAt : ByteArray := prog_14_method_64_code
abbrev mt_Model_firstAt : MT := ("HillClockModel", cd_Model_firstAt, 4, (some .int), 1)
def yn_Model_firstMeeting : MethodName := ⟨"HillClockModel", "firstMeeting", "(II)I"⟩
abbrev cd_Model_firstMeeting : ByteArray := prog_14_method_68_code
abbrev mt_Model_firstMeeting : MT := ("HillClockModel", cd_Model_firstMeeting, 4, (some .int), 1)
def yn_Model_isAlive : MethodName := ⟨"HillClockModel", "isAlive", "(I)Z"⟩
abbrev cd_Model_isAlive : ByteArray := prog_14_method_75_code
abbrev mt_Model_isAlive : MT := ("HillClockModel", cd_Model_isAlive, 2, (some .boolean), 1)
def yn_Model_isAsSeen : MethodName := ⟨"HillClockModel", "isAsSeen", "(I)Z"⟩
abbrev cd_Model_isAsSeen : ByteArray := prog_14_method_87_code
abbrev mt_Model_isAsSeen : MT := ("HillClockModel", cd_Model_isAsSeen, 3, (some .boolean), 1)
def yn_Model_thereAt : MethodName := ⟨"HillClockModel", "thereAt", "(II)I"⟩
abbrev cd_Model_thereAt : ByteArray := prog_14_method_89_code
abbrev mt_Model_thereAt : MT := ("HillClockModel", cd_Model_thereAt, 5, (some .int), 1)
def yn_Model_firstMeetingAt : MethodName := ⟨"HillClockModel", "firstMeetingAt", "(III)I"⟩
abbrev cd_Model_firstMeetingAt : ByteArray := prog_14_method_94_code
abbrev mt_Model_firstMeetingAt : MT := ("HillClockModel", cd_Model_firstMeetingAt, 5, (some .int), 1)
def yn_Model_grown : MethodName := ⟨"HillClockModel", "grown", "(JI)J"⟩
abbrev cd_Model_grown : ByteArray := prog_14_method_96_code
abbrev mt_Model_grown : MT := ("HillClockModel", cd_Model_grown, 6, (some .long), 1)
def yn_Model_isMeeting : MethodName := ⟨"HillClockModel", "isMeeting", "(I)Z"⟩
abbrev cd_Model_isMeeting : ByteArray := prog_14_method_98_code
abbrev mt_Model_isMeeting : MT := ("HillClockModel", cd_Model_isMeeting, 4, (some .boolean), 1)
def yn_Model_getsBy : MethodName := ⟨"HillClockModel", "getsBy", "(IIIII)I"⟩
abbrev cd_Model_getsBy : ByteArray := prog_14_method_103_code
abbrev mt_Model_getsBy : MT := ("HillClockModel", cd_Model_getsBy, 5, (some .int), 1)
def yn_Model_draws : MethodName := ⟨"HillClockModel", "draws", "(I)I"⟩
abbrev cd_Model_draws : ByteArray := prog_14_method_106_code
abbrev mt_Model_draws : MT := ("HillClockModel", cd_Model_draws, 2, (some .int), 1)
def yn_Model_toldMany : MethodName := ⟨"HillClockModel", "toldMany", "()I"⟩
abbrev cd_Model_toldMany : ByteArray := prog_14_method_110_code
abbrev mt_Model_toldMany : MT := ("HillClockModel", cd_Model_toldMany, 3, (some .int), 1)
def yn_Hills_shorten : MethodName := ⟨"HillClock$Hills", "shorten", "(III)V"⟩
abbrev cd_Hills_shorten : ByteArray := prog_2_method_5_code
abbrev mt_Hills_shorten : MT := ("HillClock$Hills", cd_Hills_shorten, 7, none, 1)
def yn_Law_clear : MethodName := ⟨"HillClock$Law", "clear", "()V"⟩
abbrev cd_Law_clear : ByteArray := prog_4_method_3_code
abbrev mt_Law_clear : MT := ("HillClock$Law", cd_Law_clear, 1, none, 1)
def yn_Law_put : MethodName := ⟨"HillClock$Law", "put", "(I)V"⟩
abbrev cd_Law_put : ByteArray := prog_4_method_4_code
abbrev mt_Law_put : MT := ("HillClock$Law", cd_Law_put, 2, none, 1)
def yn_Law_worth : MethodName := ⟨"HillClock$Law", "worth", "(III)I"⟩
abbrev cd_Law_worth : ByteArray := prog_4_method_10_code
abbrev mt_Law_worth : MT := ("HillClock$Law", cd_Law_worth, 3, (some .int), 1)
def yn_Law_push : MethodName := ⟨"HillClock$Law", "push", "(I)V"⟩
abbrev cd_Law_push : ByteArray := prog_4_method_11_code
abbrev mt_Law_push : MT := ("HillClock$Law", cd_Law_push, 2, none, 1)
def yn_Law_pop : MethodName := ⟨"HillClock$Law", "pop", "()I"⟩
abbrev cd_Law_pop : ByteArray := prog_4_method_12_code
abbrev mt_Law_pop : MT := ("HillClock$Law", cd_Law_pop, 1, (some .int), 1)
def yn_Lines_copy : MethodName := ⟨"HillClock$Lines", "copy", "(LHillClock$Lines;)V"⟩
abbrev cd_Lines_copy : ByteArray := prog_5_method_2_code
abbrev mt_Lines_copy : MT := ("HillClock$Lines", cd_Lines_copy, 2, none, 1)
def yn_Lines_kindOf : MethodName := ⟨"HillClock$Lines", "kindOf", "(LHillClock$Word;)I"⟩
abbrev cd_Lines_kindOf : ByteArray := prog_5_method_5_code
abbrev mt_Lines_kindOf : MT := ("HillClock$Lines", cd_Lines_kindOf, 1, (some .int), 1)
def yn_Lines_isDay : MethodName := ⟨"HillClock$Lines", "isDay", "(I)Z"⟩
abbrev cd_Lines_isDay : ByteArray := prog_5_method_6_code
abbrev mt_Lines_isDay : MT := ("HillClock$Lines", cd_Lines_isDay, 2, (some .boolean), 1)
def yn_Sight_at : MethodName := ⟨"HillClock$Sight", "at", "(II)I"⟩
abbrev cd_Sight_at : ByteArray := prog_6_method_3_code
abbrev mt_Sight_at : MT := ("HillClock$Sight", cd_Sight_at, 3, (some .int), 1)
def yn_Sight_join : MethodName := ⟨"HillClock$Sight", "join", "(JI)J"⟩
abbrev cd_Sight_join : ByteArray := prog_6_method_6_code
abbrev mt_Sight_join : MT := ("HillClock$Sight", cd_Sight_join, 6, (some .long), 1)
def yn_Sight_spread : MethodName := ⟨"HillClock$Sight", "spread", "(LHillClock$Hills;ZIIJ)V"⟩
abbrev cd_Sight_spread : ByteArray := prog_6_method_7_code
abbrev mt_Sight_spread : MT := ("HillClock$Sight", cd_Sight_spread, 10, none, 1)
def yn_Standing_addSeen : MethodName := ⟨"HillClock$Standing", "addSeen", "(IIZ)Z"⟩
abbrev cd_Standing_addSeen : ByteArray := prog_7_method_4_code
abbrev mt_Standing_addSeen : MT := ("HillClock$Standing", cd_Standing_addSeen, 4, (some .boolean), 1)
def yn_Standing_hoursTold : MethodName := ⟨"HillClock$Standing", "hoursTold", "(LHillClock$Hills;)I"⟩
abbrev cd_Standing_hoursTold : ByteArray := prog_7_method_6_code
abbrev mt_Standing_hoursTold : MT := ("HillClock$Standing", cd_Standing_hoursTold, 4, (some .int), 1)
def yn_State_copy : MethodName := ⟨"HillClock$State", "copy", "(LHillClock$State;)V"⟩
abbrev cd_State_copy : ByteArray := prog_8_method_3_code
abbrev mt_State_copy : MT := ("HillClock$State", cd_State_copy, 2, none, 1)
def yn_State_lives : MethodName := ⟨"HillClock$State", "lives", "(I)Z"⟩
abbrev cd_State_lives : ByteArray := prog_8_method_4_code
abbrev mt_State_lives : MT := ("HillClock$State", cd_State_lives, 2, (some .boolean), 1)
def yn_State_bury : MethodName := ⟨"HillClock$State", "bury", "(I)V"⟩
abbrev cd_State_bury : ByteArray := prog_8_method_5_code
abbrev mt_State_bury : MT := ("HillClock$State", cd_State_bury, 2, none, 1)
def yn_State_delay : MethodName := ⟨"HillClock$State", "delay", "(II)V"⟩
abbrev cd_State_delay : ByteArray := prog_8_method_7_code
abbrev mt_State_delay : MT := ("HillClock$State", cd_State_delay, 4, none, 1)
def yn_Tape_close : MethodName := ⟨"HillClock$Tape", "close", "()I"⟩
abbrev cd_Tape_close : ByteArray := prog_9_method_4_code
abbrev mt_Tape_close : MT := ("HillClock$Tape", cd_Tape_close, 1, (some .int), 1)
def yn_Tape_isEnd : MethodName := ⟨"HillClock$Tape", "isEnd", "()Z"⟩
abbrev cd_Tape_isEnd : ByteArray := prog_9_method_8_code
abbrev mt_Tape_isEnd : MT := ("HillClock$Tape", cd_Tape_isEnd, 1, (some .boolean), 1)
def yn_Tape_isNumber : MethodName := ⟨"HillClock$Tape", "isNumber", "()Z"⟩
abbrev cd_Tape_isNumber : ByteArray := prog_9_method_10_code
abbrev mt_Tape_isNumber : MT := ("HillClock$Tape", cd_Tape_isNumber, 1, (some .boolean), 1)
def yn_Tape_isSign : MethodName := ⟨"HillClock$Tape", "isSign", "(C)Z"⟩
abbrev cd_Tape_isSign : ByteArray := prog_9_method_11_code
abbrev mt_Tape_isSign : MT := ("HillClock$Tape", cd_Tape_isSign, 2, (some .boolean), 1)
def yn_Tape_wrong : MethodName := ⟨"HillClock$Tape", "wrong", "(I)Z"⟩
abbrev cd_Tape_wrong : ByteArray := prog_9_method_12_code
abbrev mt_Tape_wrong : MT := ("HillClock$Tape", cd_Tape_wrong, 2, (some .boolean), 1)
def yn_Tape_find : MethodName := ⟨"HillClock$Tape", "find", "([JIJ)I"⟩
abbrev cd_Tape_find : ByteArray := prog_9_method_17_code
abbrev mt_Tape_find : MT := ("HillClock$Tape", cd_Tape_find, 5, (some .int), 1)
def yn_Tape_isBlank : MethodName := ⟨"HillClock$Tape", "isBlank", "(C)Z"⟩
abbrev cd_Tape_isBlank : ByteArray := prog_9_method_18_code
abbrev mt_Tape_isBlank : MT := ("HillClock$Tape", cd_Tape_isBlank, 1, (some .boolean), 1)
def yn_Tape_isLetter : MethodName := ⟨"HillClock$Tape", "isLetter", "(C)Z"⟩
abbrev cd_Tape_isLetter : ByteArray := prog_9_method_19_code
abbrev mt_Tape_isLetter : MT := ("HillClock$Tape", cd_Tape_isLetter, 1, (some .boolean), 1)
def yn_Tape_isDigit : MethodName := ⟨"HillClock$Tape", "isDigit", "(C)Z"⟩
abbrev cd_Tape_isDigit : ByteArray := prog_9_method_20_code
abbrev mt_Tape_isDigit : MT := ("HillClock$Tape", cd_Tape_isDigit, 1, (some .boolean), 1)
def yn_Walk_nextMinute : MethodName := ⟨"HillClock$Walk", "nextMinute", "()I"⟩
abbrev cd_Walk_nextMinute : ByteArray := prog_10_method_3_code
abbrev mt_Walk_nextMinute : MT := ("HillClock$Walk", cd_Walk_nextMinute, 3, (some .int), 1)
def yn_Walk_isThere : MethodName := ⟨"HillClock$Walk", "isThere", "(I)Z"⟩
abbrev cd_Walk_isThere : ByteArray := prog_10_method_4_code
abbrev mt_Walk_isThere : MT := ("HillClock$Walk", cd_Walk_isThere, 2, (some .boolean), 1)
def yn_Walk_visitOf : MethodName := ⟨"HillClock$Walk", "visitOf", "(I)I"⟩
abbrev cd_Walk_visitOf : ByteArray := prog_10_method_5_code
abbrev mt_Walk_visitOf : MT := ("HillClock$Walk", cd_Walk_visitOf, 2, (some .int), 1)
def yn_Walk_nextWay : MethodName := ⟨"HillClock$Walk", "nextWay", "(I)I"⟩
abbrev cd_Walk_nextWay : ByteArray := prog_10_method_7_code
abbrev mt_Walk_nextWay : MT := ("HillClock$Walk", cd_Walk_nextWay, 4, (some .int), 1)
def yn_Walk_placeOf : MethodName := ⟨"HillClock$Walk", "placeOf", "(II)I"⟩
abbrev cd_Walk_placeOf : ByteArray := prog_10_method_11_code
abbrev mt_Walk_placeOf : MT := ("HillClock$Walk", cd_Walk_placeOf, 4, (some .int), 1)
def yn_Walk_firstAt : MethodName := ⟨"HillClock$Walk", "firstAt", "(II)I"⟩
abbrev cd_Walk_firstAt : ByteArray := prog_10_method_12_code
abbrev mt_Walk_firstAt : MT := ("HillClock$Walk", cd_Walk_firstAt, 4, (some .int), 1)
def yn_Walk_firstMeetingAt : MethodName := ⟨"HillClock$Walk", "firstMeetingAt", "(III)I"⟩
abbrev cd_Walk_firstMeetingAt : ByteArray := prog_10_method_14_code
abbrev mt_Walk_firstMeetingAt : MT := ("HillClock$Walk", cd_Walk_firstMeetingAt, 9, (some .int), 1)
def yn_Walker_passes : MethodName := ⟨"HillClock$Walker", "passes", "(I)Z"⟩
abbrev cd_Walker_passes : ByteArray := prog_11_method_3_code
abbrev mt_Walker_passes : MT := ("HillClock$Walker", cd_Walker_passes, 3, (some .boolean), 1)
def yn_Walker_rest : MethodName := ⟨"HillClock$Walker", "rest", "()I"⟩
abbrev cd_Walker_rest : ByteArray := prog_11_method_4_code
abbrev mt_Walker_rest : MT := ("HillClock$Walker", cd_Walker_rest, 1, (some .int), 1)
def yn_Walker_minutesFor : MethodName := ⟨"HillClock$Walker", "minutesFor", "(IZ)I"⟩
abbrev cd_Walker_minutesFor : ByteArray := prog_11_method_5_code
abbrev mt_Walker_minutesFor : MT := ("HillClock$Walker", cd_Walker_minutesFor, 4, (some .int), 1)
def yn_Word_isFact : MethodName := ⟨"HillClock$Word", "isFact", "()Z"⟩
abbrev cd_Word_isFact : ByteArray := prog_12_method_4_code
abbrev mt_Word_isFact : MT := ("HillClock$Word", cd_Word_isFact, 1, (some .boolean), 1)
def yn_Arrays_fillI : MethodName := ⟨"java/util/Arrays", "fill", "([II)V"⟩
abbrev cd_Arrays_fillI : ByteArray := prog_31_method_103_code
abbrev mt_Arrays_fillI : MT := ("java/util/Arrays", cd_Arrays_fillI, 4, none, 1)
def yn_Arrays_fillJ : MethodName := ⟨"java/util/Arrays", "fill", "([JJ)V"⟩
abbrev cd_Arrays_fillJ : ByteArray := prog_31_method_101_code
abbrev mt_Arrays_fillJ : MT := ("java/util/Arrays", cd_Arrays_fillJ, 5, none, 1)
def yn_Integer_bitCount : MethodName := ⟨"java/lang/Integer", "bitCount", "(I)I"⟩
abbrev cd_Integer_bitCount : ByteArray := prog_21_method_49_code
abbrev mt_Integer_bitCount : MT := ("java/lang/Integer", cd_Integer_bitCount, 1, (some .int), 1)
def yn_String_isLatin1 : MethodName := ⟨"java/lang/String", "isLatin1", "()Z"⟩
abbrev cd_String_isLatin1 : ByteArray := prog_24_method_154_code
abbrev mt_String_isLatin1 : MT := ("java/lang/String", cd_String_isLatin1, 1, (some .boolean), 1)
def yn_String_coder : MethodName := ⟨"java/lang/String", "coder", "()B"⟩
abbrev cd_String_coder : ByteArray := prog_24_method_152_code
abbrev mt_String_coder : MT := ("java/lang/String", cd_String_coder, 1, (some .byte), 1)
def yn_StringLatin1_canEncode : MethodName := ⟨"java/lang/StringLatin1", "canEncode", "(I)Z"⟩
abbrev cd_StringLatin1_canEncode : ByteArray := prog_25_method_4_code
abbrev mt_StringLatin1_canEncode : MT := ("java/lang/StringLatin1", cd_StringLatin1_canEncode, 1, (some .boolean), 1)
def yn_StringLatin1_indexOfChar : MethodName := ⟨"java/lang/StringLatin1", "indexOfChar", "([BIII)I"⟩
abbrev cd_StringLatin1_indexOfChar : ByteArray := prog_25_method_23_code
abbrev mt_StringLatin1_indexOfChar : MT := ("java/lang/StringLatin1", cd_StringLatin1_indexOfChar, 6, (some .int), 1)
def yn_Clock_way : MethodName := ⟨"HillClock", "way", "(II)I"⟩
abbrev cd_Clock_way : ByteArray := prog_1_method_5_code
abbrev mt_Clock_way : MT := ("HillClock", cd_Clock_way, 3, (some .int), 2)
def yn_Clock_walker : MethodName := ⟨"HillClock", "walker", "(II)I"⟩
abbrev cd_Clock_walker : ByteArray := prog_1_method_6_code
abbrev mt_Clock_walker : MT := ("HillClock", cd_Clock_walker, 4, (some .int), 2)
def yn_Clock_undo : MethodName := ⟨"HillClock", "undo", "()Z"⟩
abbrev cd_Clock_undo : ByteArray := prog_1_method_15_code
abbrev mt_Clock_undo : MT := ("HillClock", cd_Clock_undo, 1, (some .boolean), 2)
def yn_Clock_see : MethodName := ⟨"HillClock", "see", "(IIZ)Z"⟩
abbrev cd_Clock_see : ByteArray := prog_1_method_17_code
abbrev mt_Clock_see : MT := ("HillClock", cd_Clock_see, 4, (some .boolean), 2)
def yn_Clock_tell : MethodName := ⟨"HillClock", "tell", "(II)Z"⟩
abbrev cd_Clock_tell : ByteArray := prog_1_method_24_code
abbrev mt_Clock_tell : MT := ("HillClock", cd_Clock_tell, 3, (some .boolean), 2)
def yn_Clock_count : MethodName := ⟨"HillClock", "count", "(I)I"⟩
abbrev cd_Clock_count : ByteArray := prog_1_method_29_code
abbrev mt_Clock_count : MT := ("HillClock", cd_Clock_count, 2, (some .int), 2)
def yn_Clock_areTwo : MethodName := ⟨"HillClock", "areTwo", "(II)Z"⟩
abbrev cd_Clock_areTwo : ByteArray := prog_1_method_32_code
abbrev mt_Clock_areTwo : MT := ("HillClock", cd_Clock_areTwo, 3, (some .boolean), 2)
def yn_Clock_remember : MethodName := ⟨"HillClock", "remember", "()V"⟩
abbrev cd_Clock_remember : ByteArray := prog_1_method_35_code
abbrev mt_Clock_remember : MT := ("HillClock", cd_Clock_remember, 1, none, 2)
def yn_Clock_isRest : MethodName := ⟨"HillClock", "isRest", "(IIII)Z"⟩
abbrev cd_Clock_isRest : ByteArray := prog_1_method_39_code
abbrev mt_Clock_isRest : MT := ("HillClock", cd_Clock_isRest, 6, (some .boolean), 2)
def yn_Clock_drawDay : MethodName := ⟨"HillClock", "drawDay", "()V"⟩
abbrev cd_Clock_drawDay : ByteArray := prog_1_method_41_code
abbrev mt_Clock_drawDay : MT := ("HillClock", cd_Clock_drawDay, 2, none, 2)
def yn_Model_nextToken : MethodName := ⟨"HillClockModel", "nextToken", "()V"⟩
abbrev cd_Model_nextToken : ByteArray := prog_14_method_9_code
abbrev mt_Model_nextToken : MT := ("HillClockModel", cd_Model_nextToken, 2, none, 2)
def yn_Model_tests : MethodName := ⟨"HillClockModel", "tests", "(I)V"⟩
abbrev cd_Model_tests : ByteArray := prog_14_method_18_code
abbrev mt_Model_tests : MT := ("HillClockModel", cd_Model_tests, 3, none, 2)
def yn_Model_placeNamed : MethodName := ⟨"HillClockModel", "placeNamed", "(I)I"⟩
abbrev cd_Model_placeNamed : ByteArray := prog_14_method_22_code
abbrev mt_Model_placeNamed : MT := ("HillClockModel", cd_Model_placeNamed, 2, (some .int), 2)
def yn_Model_walkerNamed : MethodName := ⟨"HillClockModel", "walkerNamed", "(I)I"⟩
abbrev cd_Model_walkerNamed : ByteArray := prog_14_method_23_code
abbrev mt_Model_walkerNamed : MT := ("HillClockModel", cd_Model_walkerNamed, 2, (some .int), 2)
def yn_Model_hourNamed : MethodName := ⟨"HillClockModel", "hourNamed", "(I)I"⟩
abbrev cd_Model_hourNamed : ByteArray := prog_14_method_24_code
abbrev mt_Model_hourNamed : MT := ("HillClockModel", cd_Model_hourNamed, 2, (some .int), 2)
def yn_Model_lays : MethodName := ⟨"HillClockModel", "lays", "()V"⟩
abbrev cd_Model_lays : ByteArray := prog_14_method_44_code
abbrev mt_Model_lays : MT := ("HillClockModel", cd_Model_lays, 1, none, 2)
def yn_Model_fresh : MethodName := ⟨"HillClockModel", "fresh", "()V"⟩
abbrev cd_Model_fresh : ByteArray := prog_14_method_50_code
abbrev mt_Model_fresh : MT := ("HillClockModel", cd_Model_fresh, 2, none, 2)
def yn_Model_way : MethodName := ⟨"HillClockModel", "way", "(II)I"⟩
abbrev cd_Model_way : ByteArray := prog_14_method_58_code
abbrev mt_Model_way : MT := ("HillClockModel", cd_Model_way, 3, (some .int), 2)
def yn_Model_minutesTo : MethodName := ⟨"HillClockModel", "minutesTo", "(II)I"⟩
abbrev cd_Model_minutesTo : ByteArray := prog_14_method_60_code
abbrev mt_Model_minutesTo : MT := ("HillClockModel", cd_Model_minutesTo, 4, (some .int), 2)
def yn_Model_isFree : MethodName := ⟨"HillClockModel", "isFree", "(II)Z"⟩
abbrev cd_Model_isFree : ByteArray := prog_14_method_61_code
abbrev mt_Model_isFree : MT := ("HillClockModel", cd_Model_isFree, 5, (some .boolean), 2)
def yn_Model_isWhen : MethodName := ⟨"HillClockModel", "isWhen", "(I)I"⟩
abbrev cd_Model_isWhen : ByteArray := prog_14_method_65_code
abbrev mt_Model_isWhen : MT := ("HillClockModel", cd_Model_isWhen, 2, (some .int), 2)
def yn_Model_offBy : MethodName := ⟨"HillClockModel", "offBy", "(II)I"⟩
abbrev cd_Model_offBy : ByteArray := prog_14_method_66_code
abbrev mt_Model_offBy : MT := ("HillClockModel", cd_Model_offBy, 3, (some .int), 2)
def yn_Model_walker : MethodName := ⟨"HillClockModel", "walker", "(II)I"⟩
abbrev cd_Model_walker : ByteArray := prog_14_method_69_code
abbrev mt_Model_walker : MT := ("HillClockModel", cd_Model_walker, 3, (some .int), 2)
def yn_Model_keeps : MethodName := ⟨"HillClockModel", "keeps", "()V"⟩
abbrev cd_Model_keeps : ByteArray := prog_14_method_73_code
abbrev mt_Model_keeps : MT := ("HillClockModel", cd_Model_keeps, 2, none, 2)
def yn_Model_canStand : MethodName := ⟨"HillClockModel", "canStand", "(II)Z"⟩
abbrev cd_Model_canStand : ByteArray := prog_14_method_76_code
abbrev mt_Model_canStand : MT := ("HillClockModel", cd_Model_canStand, 3, (some .boolean), 2)
def yn_Model_undo : MethodName := ⟨"HillClockModel", "undo", "()Z"⟩
abbrev cd_Model_undo : ByteArray := prog_14_method_83_code
abbrev mt_Model_undo : MT := ("HillClockModel", cd_Model_undo, 1, (some .boolean), 2)
def yn_Model_see : MethodName := ⟨"HillClockModel", "see", "(IIZ)Z"⟩
abbrev cd_Model_see : ByteArray := prog_14_method_86_code
abbrev mt_Model_see : MT := ("HillClockModel", cd_Model_see, 4, (some .boolean), 2)
def yn_Model_mostAlike : MethodName := ⟨"HillClockModel", "mostAlike", "(I)I"⟩
abbrev cd_Model_mostAlike : ByteArray := prog_14_method_90_code
abbrev mt_Model_mostAlike : MT := ("HillClockModel", cd_Model_mostAlike, 5, (some .int), 2)
def yn_Model_tell : MethodName := ⟨"HillClockModel", "tell", "(II)Z"⟩
abbrev cd_Model_tell : ByteArray := prog_14_method_100_code
abbrev mt_Model_tell : MT := ("HillClockModel", cd_Model_tell, 3, (some .boolean), 2)
def yn_Model_isRest : MethodName := ⟨"HillClockModel", "isRest", "(IIIII)Z"⟩
abbrev cd_Model_isRest : ByteArray := prog_14_method_104_code
abbrev mt_Model_isRest : MT := ("HillClockModel", cd_Model_isRest, 6, (some .boolean), 2)
def yn_Model_meetings : MethodName := ⟨"HillClockModel", "meetings", "()I"⟩
abbrev cd_Model_meetings : ByteArray := prog_14_method_107_code
abbrev mt_Model_meetings : MT := ("HillClockModel", cd_Model_meetings, 4, (some .int), 2)
def yn_Model_mark : MethodName := ⟨"HillClockModel", "mark", "(IZ)Z"⟩
abbrev cd_Model_mark : ByteArray := prog_14_method_109_code
abbrev mt_Model_mark : MT := ("HillClockModel", cd_Model_mark, 5, (some .boolean), 2)
def yn_Model_count : MethodName := ⟨"HillClockModel", "count", "(I)I"⟩
abbrev cd_Model_count : ByteArray := prog_14_method_111_code
abbrev mt_Model_count : MT := ("HillClockModel", cd_Model_count, 2, (some .int), 2)
def yn_Hills_isTold : MethodName := ⟨"HillClock$Hills", "isTold", "(J)Z"⟩
abbrev cd_Hills_isTold : ByteArray := prog_2_method_3_code
abbrev mt_Hills_isTold : MT := ("HillClock$Hills", cd_Hills_isTold, 3, (some .boolean), 2)
def yn_Hills_findWays : MethodName := ⟨"HillClock$Hills", "findWays", "()V"⟩
abbrev cd_Hills_findWays : ByteArray := prog_2_method_4_code
abbrev mt_Hills_findWays : MT := ("HillClock$Hills", cd_Hills_findWays, 4, none, 2)
def yn_Law_begin : MethodName := ⟨"HillClock$Law", "begin", "()V"⟩
abbrev cd_Law_begin : ByteArray := prog_4_method_2_code
abbrev mt_Law_begin : MT := ("HillClock$Law", cd_Law_begin, 1, none, 2)
def yn_Law_operatorOf : MethodName := ⟨"HillClock$Law", "operatorOf", "(LHillClock$Tape;I)I"⟩
abbrev cd_Law_operatorOf : ByteArray := prog_4_method_6_code
abbrev mt_Law_operatorOf : MT := ("HillClock$Law", cd_Law_operatorOf, 2, (some .int), 2)
def yn_Law_leafOf : MethodName := ⟨"HillClock$Law", "leafOf", "(LHillClock$Tape;)I"⟩
abbrev cd_Law_leafOf : ByteArray := prog_4_method_8_code
abbrev mt_Law_leafOf : MT := ("HillClock$Law", cd_Law_leafOf, 1, (some .int), 2)
def yn_Law_cost : MethodName := ⟨"HillClock$Law", "cost", "(IZI)I"⟩
abbrev cd_Law_cost : ByteArray := prog_4_method_9_code
abbrev mt_Law_cost : MT := ("HillClock$Law", cd_Law_cost, 7, (some .int), 2)
def yn_Lines_happen : MethodName := ⟨"HillClock$Lines", "happen", "(ILHillClock$State;)V"⟩
abbrev cd_Lines_happen : ByteArray := prog_5_method_8_code
abbrev mt_Lines_happen : MT := ("HillClock$Lines", cd_Lines_happen, 3, none, 2)
def yn_Sight_take : MethodName := ⟨"HillClock$Sight", "take", "(LHillClock$Walk;I)V"⟩
abbrev cd_Sight_take : ByteArray := prog_6_method_2_code
abbrev mt_Sight_take : MT := ("HillClock$Sight", cd_Sight_take, 6, none, 2)
def yn_Sight_isMeeting : MethodName := ⟨"HillClock$Sight", "isMeeting", "(I)Z"⟩
abbrev cd_Sight_isMeeting : ByteArray := prog_6_method_4_code
abbrev mt_Sight_isMeeting : MT := ("HillClock$Sight", cd_Sight_isMeeting, 3, (some .boolean), 2)
def yn_Sight_firstToHaveMet : MethodName := ⟨"HillClock$Sight", "firstToHaveMet", "(LHillClock$Hills;ZIII)I"⟩
abbrev cd_Sight_firstToHaveMet : ByteArray := prog_6_method_5_code
abbrev mt_Sight_firstToHaveMet : MT := ("HillClock$Sight", cd_Sight_firstToHaveMet, 10, (some .int), 2)
def yn_Standing_copy : MethodName := ⟨"HillClock$Standing", "copy", "(LHillClock$Standing;)V"⟩
abbrev cd_Standing_copy : ByteArray := prog_7_method_3_code
abbrev mt_Standing_copy : MT := ("HillClock$Standing", cd_Standing_copy, 2, none, 2)
def yn_Standing_canBe : MethodName := ⟨"HillClock$Standing", "canBe", "(LHillClock$Sight;I)Z"⟩
abbrev cd_Standing_canBe : ByteArray := prog_7_method_5_code
abbrev mt_Standing_canBe : MT := ("HillClock$Standing", cd_Standing_canBe, 5, (some .boolean), 2)
def yn_State_begin : MethodName := ⟨"HillClock$State", "begin", "(LHillClock$Hills;)V"⟩
abbrev cd_State_begin : ByteArray := prog_8_method_2_code
abbrev mt_State_begin : MT := ("HillClock$State", cd_State_begin, 2, none, 2)
def yn_State_canDepute : MethodName := ⟨"HillClock$State", "canDepute", "(LHillClock$Hills;II)Z"⟩
abbrev cd_State_canDepute : ByteArray := prog_8_method_6_code
abbrev mt_State_canDepute : MT := ("HillClock$State", cd_State_canDepute, 4, (some .boolean), 2)
def yn_State_pass : MethodName := ⟨"HillClock$State", "pass", "(I)V"⟩
abbrev cd_State_pass : ByteArray := prog_8_method_8_code
abbrev mt_State_pass : MT := ("HillClock$State", cd_State_pass, 2, none, 2)
def yn_Tape_append : MethodName := ⟨"HillClock$Tape", "append", "(J)V"⟩
abbrev cd_Tape_append : ByteArray := prog_9_method_2_code
abbrev mt_Tape_append : MT := ("HillClock$Tape", cd_Tape_append, 5, none, 2)
def yn_Tape_stepOverWord : MethodName := ⟨"HillClock$Tape", "stepOverWord", "()V"⟩
abbrev cd_Tape_stepOverWord : ByteArray := prog_9_method_6_code
abbrev mt_Tape_stepOverWord : MT := ("HillClock$Tape", cd_Tape_stepOverWord, 2, none, 2)
def yn_Tape_stepOverNumber : MethodName := ⟨"HillClock$Tape", "stepOverNumber", "()V"⟩
abbrev cd_Tape_stepOverNumber : ByteArray := prog_9_method_7_code
abbrev mt_Tape_stepOverNumber : MT := ("HillClock$Tape", cd_Tape_stepOverNumber, 1, none, 2)
def yn_Tape_isName : MethodName := ⟨"HillClock$Tape", "isName", "()Z"⟩
abbrev cd_Tape_isName : ByteArray := prog_9_method_9_code
abbrev mt_Tape_isName : MT := ("HillClock$Tape", cd_Tape_isName, 1, (some .boolean), 2)
def yn_Walk_longestStay : MethodName := ⟨"HillClock$Walk", "longestStay", "(LHillClock$Walker;I)I"⟩
abbrev cd_Walk_longestStay : ByteArray := prog_10_method_8_code
abbrev mt_Walk_longestStay : MT := ("HillClock$Walk", cd_Walk_longestStay, 2, (some .int), 2)
def yn_Walk_greetAll : MethodName := ⟨"HillClock$Walk", "greetAll", "(I)V"⟩
abbrev cd_Walk_greetAll : ByteArray := prog_10_method_9_code
abbrev mt_Walk_greetAll : MT := ("HillClock$Walk", cd_Walk_greetAll, 7, none, 2)
def yn_Walk_leaveAll : MethodName := ⟨"HillClock$Walk", "leaveAll", "(I)V"⟩
abbrev cd_Walk_leaveAll : ByteArray := prog_10_method_10_code
abbrev mt_Walk_leaveAll : MT := ("HillClock$Walk", cd_Walk_leaveAll, 3, none, 2)
def yn_Walk_firstMeeting : MethodName := ⟨"HillClock$Walk", "firstMeeting", "(II)I"⟩
abbrev cd_Walk_firstMeeting : ByteArray := prog_10_method_13_code
abbrev mt_Walk_firstMeeting : MT := ("HillClock$Walk", cd_Walk_firstMeeting, 6, (some .int), 2)
def yn_Walk_minuteOf : MethodName := ⟨"HillClock$Walk", "minuteOf", "(I)I"⟩
abbrev cd_Walk_minuteOf : ByteArray := prog_10_method_15_code
abbrev mt_Walk_minuteOf : MT := ("HillClock$Walk", cd_Walk_minuteOf, 2, (some .int), 2)
def yn_Walk_offBy : MethodName := ⟨"HillClock$Walk", "offBy", "(II)I"⟩
abbrev cd_Walk_offBy : ByteArray := prog_10_method_17_code
abbrev mt_Walk_offBy : MT := ("HillClock$Walk", cd_Walk_offBy, 4, (some .int), 2)
def yn_Walker_begin : MethodName := ⟨"HillClock$Walker", "begin", "()V"⟩
abbrev cd_Walker_begin : ByteArray := prog_11_method_2_code
abbrev mt_Walker_begin : MT := ("HillClock$Walker", cd_Walker_begin, 1, none, 2)
def yn_String_length : MethodName := ⟨"java/lang/String", "length", "()I"⟩
abbrev cd_String_length : ByteArray := prog_24_method_54_code
abbrev mt_String_length : MT := ("java/lang/String", cd_String_length, 1, (some .int), 2)
def yn_StringLatin1_indexOf : MethodName := ⟨"java/lang/StringLatin1", "indexOf", "([BIII)I"⟩
abbrev cd_StringLatin1_indexOf : ByteArray := prog_25_method_22_code
abbrev mt_StringLatin1_indexOf : MT := ("java/lang/StringLatin1", cd_StringLatin1_indexOf, 4, (some .int), 2)
def yn_Clock_feed : MethodName := ⟨"HillClock", "feed", "(JJJ)I"⟩
abbrev cd_Clock_feed : ByteArray := prog_1_method_2_code
abbrev mt_Clock_feed : MT := ("HillClock", cd_Clock_feed, 7, (some .int), 3)
def yn_Clock_late : MethodName := ⟨"HillClock", "late", "(II)Z"⟩
abbrev cd_Clock_late : ByteArray := prog_1_method_10_code
abbrev mt_Clock_late : MT := ("HillClock", cd_Clock_late, 3, (some .boolean), 3)
def yn_Clock_dies : MethodName := ⟨"HillClock", "dies", "(I)Z"⟩
abbrev cd_Clock_dies : ByteArray := prog_1_method_11_code
abbrev mt_Clock_dies : MT := ("HillClock", cd_Clock_dies, 2, (some .boolean), 3)
def yn_Clock_deputy : MethodName := ⟨"HillClock", "deputy", "(II)Z"⟩
abbrev cd_Clock_deputy : ByteArray := prog_1_method_12_code
abbrev mt_Clock_deputy : MT := ("HillClock", cd_Clock_deputy, 3, (some .boolean), 3)
def yn_Clock_snow : MethodName := ⟨"HillClock", "snow", "()Z"⟩
abbrev cd_Clock_snow : ByteArray := prog_1_method_13_code
abbrev mt_Clock_snow : MT := ("HillClock", cd_Clock_snow, 1, (some .boolean), 3)
def yn_Clock_mark : MethodName := ⟨"HillClock", "mark", "(IZ)Z"⟩
abbrev cd_Clock_mark : ByteArray := prog_1_method_28_code
abbrev mt_Clock_mark : MT := ("HillClock", cd_Clock_mark, 3, (some .boolean), 3)
def yn_Clock_mostAlike : MethodName := ⟨"HillClock", "mostAlike", "(I)I"⟩
abbrev cd_Clock_mostAlike : ByteArray := prog_1_method_37_code
abbrev mt_Clock_mostAlike : MT := ("HillClock", cd_Clock_mostAlike, 5, (some .int), 3)
def yn_Model_reads : MethodName := ⟨"HillClockModel", "reads", "()Z"⟩
abbrev cd_Model_reads : ByteArray := prog_14_method_15_code
abbrev mt_Model_reads : MT := ("HillClockModel", cd_Model_reads, 6, (some .boolean), 3)
def yn_Model_worked : MethodName := ⟨"HillClockModel", "worked", "(I)I"⟩
abbrev cd_Model_worked : ByteArray := prog_14_method_19_code
abbrev mt_Model_worked : MT := ("HillClockModel", cd_Model_worked, 6, (some .int), 3)
def yn_Model_needsNumber : MethodName := ⟨"HillClockModel", "needsNumber", "(II)Z"⟩
abbrev cd_Model_needsNumber : ByteArray := prog_14_method_25_code
abbrev mt_Model_needsNumber : MT := ("HillClockModel", cd_Model_needsNumber, 3, (some .boolean), 3)
def yn_Model_needsWord : MethodName := ⟨"HillClockModel", "needsWord", "(J)Z"⟩
abbrev cd_Model_needsWord : ByteArray := prog_14_method_26_code
abbrev mt_Model_needsWord : MT := ("HillClockModel", cd_Model_needsWord, 3, (some .boolean), 3)
def yn_Model_closes : MethodName := ⟨"HillClockModel", "closes", "()Z"⟩
abbrev cd_Model_closes : ByteArray := prog_14_method_28_code
abbrev mt_Model_closes : MT := ("HillClockModel", cd_Model_closes, 1, (some .boolean), 3)
def yn_Model_needsNew : MethodName := ⟨"HillClockModel", "needsNew", "()Z"⟩
abbrev cd_Model_needsNew : ByteArray := prog_14_method_29_code
abbrev mt_Model_needsNew : MT := ("HillClockModel", cd_Model_needsNew, 1, (some .boolean), 3)
def yn_Model_needsPlace : MethodName := ⟨"HillClockModel", "needsPlace", "(I)Z"⟩
abbrev cd_Model_needsPlace : ByteArray := prog_14_method_30_code
abbrev mt_Model_needsPlace : MT := ("HillClockModel", cd_Model_needsPlace, 2, (some .boolean), 3)
def yn_Model_needsWalker : MethodName := ⟨"HillClockModel", "needsWalker", "(I)Z"⟩
abbrev cd_Model_needsWalker : ByteArray := prog_14_method_31_code
abbrev mt_Model_needsWalker : MT := ("HillClockModel", cd_Model_needsWalker, 2, (some .boolean), 3)
def yn_Model_begins : MethodName := ⟨"HillClockModel", "begins", "()V"⟩
abbrev cd_Model_begins : ByteArray := prog_14_method_40_code
abbrev mt_Model_begins : MT := ("HillClockModel", cd_Model_begins, 1, none, 3)
def yn_Model_goesOn : MethodName := ⟨"HillClockModel", "goesOn", "(II)V"⟩
abbrev cd_Model_goesOn : ByteArray := prog_14_method_62_code
abbrev mt_Model_goesOn : MT := ("HillClockModel", cd_Model_goesOn, 4, none, 3)
def yn_Model_lies : MethodName := ⟨"HillClockModel", "lies", "(II)Z"⟩
abbrev cd_Model_lies : ByteArray := prog_14_method_74_code
abbrev mt_Model_lies : MT := ("HillClockModel", cd_Model_lies, 3, (some .boolean), 3)
def yn_Model_rests : MethodName := ⟨"HillClockModel", "rests", "(IIII)I"⟩
abbrev cd_Model_rests : ByteArray := prog_14_method_105_code
abbrev mt_Model_rests : MT := ("HillClockModel", cd_Model_rests, 7, (some .int), 3)
def yn_Hills_begin : MethodName := ⟨"HillClock$Hills", "begin", "()V"⟩
abbrev cd_Hills_begin : ByteArray := prog_2_method_2_code
abbrev mt_Hills_begin : MT := ("HillClock$Hills", cd_Hills_begin, 1, none, 3)
def yn_Lines_can : MethodName := ⟨"HillClock$Lines", "can", "(ILHillClock$Hills;LHillClock$State;)Z"⟩
abbrev cd_Lines_can : ByteArray := prog_5_method_7_code
abbrev mt_Lines_can : MT := ("HillClock$Lines", cd_Lines_can, 4, (some .boolean), 3)
def yn_Standing_begin : MethodName := ⟨"HillClock$Standing", "begin", "(LHillClock$Hills;)V"⟩
abbrev cd_Standing_begin : ByteArray := prog_7_method_2_code
abbrev mt_Standing_begin : MT := ("HillClock$Standing", cd_Standing_begin, 2, none, 3)
def yn_Standing_isAsTold : MethodName := ⟨"HillClock$Standing", "isAsTold", "(LHillClock$Hills;LHillClock$Walk;)Z"⟩
abbrev cd_Standing_isAsTold : ByteArray := prog_7_method_7_code
abbrev mt_Standing_isAsTold : MT := ("HillClock$Standing", cd_Standing_isAsTold, 4, (some .boolean), 3)
def yn_Tape_which : MethodName := ⟨"HillClock$Tape", "which", "([JI)I"⟩
abbrev cd_Tape_which : ByteArray := prog_9_method_16_code
abbrev mt_Tape_which : MT := ("HillClock$Tape", cd_Tape_which, 4, (some .int), 3)
def yn_Walk_comeAll : MethodName := ⟨"HillClock$Walk", "comeAll", "(I)V"⟩
abbrev cd_Walk_comeAll : ByteArray := prog_10_method_6_code
abbrev mt_Walk_comeAll : MT := ("HillClock$Walk", cd_Walk_comeAll, 5, none, 3)
def yn_Walk_off : MethodName := ⟨"HillClock$Walk", "off", "(I)I"⟩
abbrev cd_Walk_off : ByteArray := prog_10_method_16_code
abbrev mt_Walk_off : MT := ("HillClock$Walk", cd_Walk_off, 2, (some .int), 3)
def yn_Walk_missing : MethodName := ⟨"HillClock$Walk", "missing", "()I"⟩
abbrev cd_Walk_missing : ByteArray := prog_10_method_20_code
abbrev mt_Walk_missing : MT := ("HillClock$Walk", cd_Walk_missing, 3, (some .int), 3)
def yn_Walk_meetings : MethodName := ⟨"HillClock$Walk", "meetings", "()I"⟩
abbrev cd_Walk_meetings : ByteArray := prog_10_method_21_code
abbrev mt_Walk_meetings : MT := ("HillClock$Walk", cd_Walk_meetings, 4, (some .int), 3)
def yn_String_indexOf2 : MethodName := ⟨"java/lang/String", "indexOf", "(II)I"⟩
abbrev cd_String_indexOf2 : ByteArray := prog_24_method_80_code
abbrev mt_String_indexOf2 : MT := ("java/lang/String", cd_String_indexOf2, 3, (some .int), 3)
def yn_Model_needsBoth : MethodName := ⟨"HillClockModel", "needsBoth", "(JII)Z"⟩
abbrev cd_Model_needsBoth : ByteArray := prog_14_method_27_code
abbrev mt_Model_needsBoth : MT := ("HillClockModel", cd_Model_needsBoth, 5, (some .boolean), 4)
def yn_Model_readsPlace : MethodName := ⟨"HillClockModel", "readsPlace", "()Z"⟩
abbrev cd_Model_readsPlace : ByteArray := prog_14_method_33_code
abbrev mt_Model_readsPlace : MT := ("HillClockModel", cd_Model_readsPlace, 2, (some .boolean), 4)
def yn_Model_readsPath : MethodName := ⟨"HillClockModel", "readsPath", "()Z"⟩
abbrev cd_Model_readsPath : ByteArray := prog_14_method_34_code
abbrev mt_Model_readsPath : MT := ("HillClockModel", cd_Model_readsPath, 3, (some .boolean), 4)
def yn_Model_readsRound : MethodName := ⟨"HillClockModel", "readsRound", "(I)Z"⟩
abbrev cd_Model_readsRound : ByteArray := prog_14_method_35_code
abbrev mt_Model_readsRound : MT := ("HillClockModel", cd_Model_readsRound, 3, (some .boolean), 4)
def yn_Model_readsWaits : MethodName := ⟨"HillClockModel", "readsWaits", "()Z"⟩
abbrev cd_Model_readsWaits : ByteArray := prog_14_method_37_code
abbrev mt_Model_readsWaits : MT := ("HillClockModel", cd_Model_readsWaits, 4, (some .boolean), 4)
def yn_Model_readsMissed : MethodName := ⟨"HillClockModel", "readsMissed", "()Z"⟩
abbrev cd_Model_readsMissed : ByteArray := prog_14_method_39_code
abbrev mt_Model_readsMissed : MT := ("HillClockModel", cd_Model_readsMissed, 1, (some .boolean), 4)
def yn_Model_readsLine : MethodName := ⟨"HillClockModel", "readsLine", "()Z"⟩
abbrev cd_Model_readsLine : ByteArray := prog_14_method_46_code
abbrev mt_Model_readsLine : MT := ("HillClockModel", cd_Model_readsLine, 3, (some .boolean), 4)
def yn_Model_laysDay : MethodName := ⟨"HillClockModel", "laysDay", "()V"⟩
abbrev cd_Model_laysDay : ByteArray := prog_14_method_63_code
abbrev mt_Model_laysDay : MT := ("HillClockModel", cd_Model_laysDay, 4, none, 4)
def yn_Model_costOf : MethodName := ⟨"HillClockModel", "costOf", "(I)I"⟩
abbrev cd_Model_costOf : ByteArray := prog_14_method_67_code
abbrev mt_Model_costOf : MT := ("HillClockModel", cd_Model_costOf, 5, (some .int), 4)
def yn_Model_late : MethodName := ⟨"HillClockModel", "late", "(II)Z"⟩
abbrev cd_Model_late : ByteArray := prog_14_method_77_code
abbrev mt_Model_late : MT := ("HillClockModel", cd_Model_late, 3, (some .boolean), 4)
def yn_Model_dies : MethodName := ⟨"HillClockModel", "dies", "(I)Z"⟩
abbrev cd_Model_dies : ByteArray := prog_14_method_78_code
abbrev mt_Model_dies : MT := ("HillClockModel", cd_Model_dies, 2, (some .boolean), 4)
def yn_Model_deputy : MethodName := ⟨"HillClockModel", "deputy", "(II)Z"⟩
abbrev cd_Model_deputy : ByteArray := prog_14_method_79_code
abbrev mt_Model_deputy : MT := ("HillClockModel", cd_Model_deputy, 3, (some .boolean), 4)
def yn_Model_snow : MethodName := ⟨"HillClockModel", "snow", "()Z"⟩
abbrev cd_Model_snow : ByteArray := prog_14_method_80_code
abbrev mt_Model_snow : MT := ("HillClockModel", cd_Model_snow, 1, (some .boolean), 4)
def yn_HillsReader_whichPlace : MethodName := ⟨"HillClock$HillsReader", "whichPlace", "()I"⟩
abbrev cd_HillsReader_whichPlace : ByteArray := prog_3_method_5_code
abbrev mt_HillsReader_whichPlace : MT := ("HillClock$HillsReader", cd_HillsReader_whichPlace, 1, (some .int), 4)
def yn_HillsReader_whichWalker : MethodName := ⟨"HillClock$HillsReader", "whichWalker", "()I"⟩
abbrev cd_HillsReader_whichWalker : ByteArray := prog_3_method_6_code
abbrev mt_HillsReader_whichWalker : MT := ("HillClock$HillsReader", cd_HillsReader_whichWalker, 1, (some .int), 4)
def yn_Walk_go : MethodName := ⟨"HillClock$Walk", "go", "(LHillClock$Hills;LHillClock$State;)V"⟩
abbrev cd_Walk_go : ByteArray := prog_10_method_2_code
abbrev mt_Walk_go : MT := ("HillClock$Walk", cd_Walk_go, 5, none, 4)
def yn_Walk_cost : MethodName := ⟨"HillClock$Walk", "cost", "(I)I"⟩
abbrev cd_Walk_cost : ByteArray := prog_10_method_18_code
abbrev mt_Walk_cost : MT := ("HillClock$Walk", cd_Walk_cost, 2, (some .int), 4)
def yn_String_indexOf : MethodName := ⟨"java/lang/String", "indexOf", "(I)I"⟩
abbrev cd_String_indexOf : ByteArray := prog_24_method_79_code
abbrev mt_String_indexOf : MT := ("java/lang/String", cd_String_indexOf, 2, (some .int), 4)
def yn_Clock_where : MethodName := ⟨"HillClock", "where", "(II)I"⟩
abbrev cd_Clock_where : ByteArray := prog_1_method_7_code
abbrev mt_Clock_where : MT := ("HillClock", cd_Clock_where, 3, (some .int), 5)
def yn_Clock_hour : MethodName := ⟨"HillClock", "hour", "(II)I"⟩
abbrev cd_Clock_hour : ByteArray := prog_1_method_8_code
abbrev mt_Clock_hour : MT := ("HillClock", cd_Clock_hour, 3, (some .int), 5)
def yn_Clock_meet : MethodName := ⟨"HillClock", "meet", "(III)I"⟩
abbrev cd_Clock_meet : ByteArray := prog_1_method_9_code
abbrev mt_Clock_meet : MT := ("HillClock", cd_Clock_meet, 5, (some .int), 5)
def yn_Clock_sure : MethodName := ⟨"HillClock", "sure", "(III)I"⟩
abbrev cd_Clock_sure : ByteArray := prog_1_method_21_code
abbrev mt_Clock_sure : MT := ("HillClock", cd_Clock_sure, 9, (some .int), 5)
def yn_Clock_sets : MethodName := ⟨"HillClock", "sets", "(II)I"⟩
abbrev cd_Clock_sets : ByteArray := prog_1_method_25_code
abbrev mt_Clock_sets : MT := ("HillClock", cd_Clock_sets, 8, (some .int), 5)
def yn_Clock_lookRound : MethodName := ⟨"HillClock", "lookRound", "()V"⟩
abbrev cd_Clock_lookRound : ByteArray := prog_1_method_36_code
abbrev mt_Clock_lookRound : MT := ("HillClock", cd_Clock_lookRound, 1, none, 5)
def yn_Model_readsWalker : MethodName := ⟨"HillClockModel", "readsWalker", "()Z"⟩
abbrev cd_Model_readsWalker : ByteArray := prog_14_method_36_code
abbrev mt_Model_readsWalker : MT := ("HillClockModel", cd_Model_readsWalker, 5, (some .boolean), 5)
def yn_Model_readsHour : MethodName := ⟨"HillClockModel", "readsHour", "()Z"⟩
abbrev cd_Model_readsHour : ByteArray := prog_14_method_38_code
abbrev mt_Model_readsHour : MT := ("HillClockModel", cd_Model_readsHour, 4, (some .boolean), 5)
def yn_Model_days : MethodName := ⟨"HillClockModel", "days", "()I"⟩
abbrev cd_Model_days : ByteArray := prog_14_method_53_code
abbrev mt_Model_days : MT := ("HillClockModel", cd_Model_days, 1, (some .int), 5)
def yn_Model_where : MethodName := ⟨"HillClockModel", "where", "(II)I"⟩
abbrev cd_Model_where : ByteArray := prog_14_method_70_code
abbrev mt_Model_where : MT := ("HillClockModel", cd_Model_where, 3, (some .int), 5)
def yn_Model_hour : MethodName := ⟨"HillClockModel", "hour", "(II)I"⟩
abbrev cd_Model_hour : ByteArray := prog_14_method_71_code
abbrev mt_Model_hour : MT := ("HillClockModel", cd_Model_hour, 3, (some .int), 5)
def yn_Model_meet : MethodName := ⟨"HillClockModel", "meet", "(III)I"⟩
abbrev cd_Model_meet : ByteArray := prog_14_method_72_code
abbrev mt_Model_meet : MT := ("HillClockModel", cd_Model_meet, 5, (some .int), 5)
def yn_Model_passes : MethodName := ⟨"HillClockModel", "passes", "()I"⟩
abbrev cd_Model_passes : ByteArray := prog_14_method_81_code
abbrev mt_Model_passes : MT := ("HillClockModel", cd_Model_passes, 3, (some .int), 5)
def yn_Model_times : MethodName := ⟨"HillClockModel", "times", "(I)I"⟩
abbrev cd_Model_times : ByteArray := prog_14_method_88_code
abbrev mt_Model_times : MT := ("HillClockModel", cd_Model_times, 6, (some .int), 5)
def yn_Model_sure : MethodName := ⟨"HillClockModel", "sure", "(III)I"⟩
abbrev cd_Model_sure : ByteArray := prog_14_method_95_code
abbrev mt_Model_sure : MT := ("HillClockModel", cd_Model_sure, 10, (some .int), 5)
def yn_Model_soonest : MethodName := ⟨"HillClockModel", "soonest", "(III)I"⟩
abbrev cd_Model_soonest : ByteArray := prog_14_method_97_code
abbrev mt_Model_soonest : MT := ("HillClockModel", cd_Model_soonest, 11, (some .int), 5)
def yn_Model_lonely : MethodName := ⟨"HillClockModel", "lonely", "(I)I"⟩
abbrev cd_Model_lonely : ByteArray := prog_14_method_99_code
abbrev mt_Model_lonely : MT := ("HillClockModel", cd_Model_lonely, 6, (some .int), 5)
def yn_Model_isAsTold : MethodName := ⟨"HillClockModel", "isAsTold", "()Z"⟩
abbrev cd_Model_isAsTold : ByteArray := prog_14_method_101_code
abbrev mt_Model_isAsTold : MT := ("HillClockModel", cd_Model_isAsTold, 2, (some .boolean), 5)
def yn_Tape_step : MethodName := ⟨"HillClock$Tape", "step", "()V"⟩
abbrev cd_Tape_step : ByteArray := prog_9_method_5_code
abbrev mt_Tape_step : MT := ("HillClock$Tape", cd_Tape_step, 1, none, 5)
def yn_Walk_costs : MethodName := ⟨"HillClock$Walk", "costs", "()I"⟩
abbrev cd_Walk_costs : ByteArray := prog_10_method_19_code
abbrev mt_Walk_costs : MT := ("HillClock$Walk", cd_Walk_costs, 3, (some .int), 5)
def yn_Clock_day : MethodName := ⟨"HillClock", "day", "()I"⟩
abbrev cd_Clock_day : ByteArray := prog_1_method_14_code
abbrev mt_Clock_day : MT := ("HillClock", cd_Clock_day, 2, (some .int), 6)
def yn_Clock_judged : MethodName := ⟨"HillClock", "judged", "(I)I"⟩
abbrev cd_Clock_judged : ByteArray := prog_1_method_16_code
abbrev mt_Clock_judged : MT := ("HillClock", cd_Clock_judged, 6, (some .int), 6)
def yn_Clock_times : MethodName := ⟨"HillClock", "times", "(I)I"⟩
abbrev cd_Clock_times : ByteArray := prog_1_method_18_code
abbrev mt_Clock_times : MT := ("HillClock", cd_Clock_times, 6, (some .int), 6)
def yn_Clock_look : MethodName := ⟨"HillClock", "look", "()I"⟩
abbrev cd_Clock_look : ByteArray := prog_1_method_19_code
abbrev mt_Clock_look : MT := ("HillClock", cd_Clock_look, 5, (some .int), 6)
def yn_Clock_soonest : MethodName := ⟨"HillClock", "soonest", "(III)I"⟩
abbrev cd_Clock_soonest : ByteArray := prog_1_method_22_code
abbrev mt_Clock_soonest : MT := ("HillClock", cd_Clock_soonest, 4, (some .int), 6)
def yn_Clock_lonely : MethodName := ⟨"HillClock", "lonely", "(I)I"⟩
abbrev cd_Clock_lonely : ByteArray := prog_1_method_23_code
abbrev mt_Clock_lonely : MT := ("HillClock", cd_Clock_lonely, 6, (some .int), 6)
def yn_Clock_years : MethodName := ⟨"HillClock", "years", "(III)I"⟩
abbrev cd_Clock_years : ByteArray := prog_1_method_27_code
abbrev mt_Clock_years : MT := ("HillClock", cd_Clock_years, 7, (some .int), 6)
def yn_Model_readsAll : MethodName := ⟨"HillClockModel", "readsAll", "()Z"⟩
abbrev cd_Model_readsAll : ByteArray := prog_14_method_41_code
abbrev mt_Model_readsAll : MT := ("HillClockModel", cd_Model_readsAll, 2, (some .boolean), 6)
def yn_Model_day : MethodName := ⟨"HillClockModel", "day", "()I"⟩
abbrev cd_Model_day : ByteArray := prog_14_method_82_code
abbrev mt_Model_day : MT := ("HillClockModel", cd_Model_day, 1, (some .int), 6)
def yn_Model_goes : MethodName := ⟨"HillClockModel", "goes", "(I)Z"⟩
abbrev cd_Model_goes : ByteArray := prog_14_method_84_code
abbrev mt_Model_goes : MT := ("HillClockModel", cd_Model_goes, 5, (some .boolean), 6)
def yn_Model_look : MethodName := ⟨"HillClockModel", "look", "()I"⟩
abbrev cd_Model_look : ByteArray := prog_14_method_91_code
abbrev mt_Model_look : MT := ("HillClockModel", cd_Model_look, 5, (some .int), 6)
def yn_Model_sets : MethodName := ⟨"HillClockModel", "sets", "(II)I"⟩
abbrev cd_Model_sets : ByteArray := prog_14_method_102_code
abbrev mt_Model_sets : MT := ("HillClockModel", cd_Model_sets, 9, (some .int), 6)
def yn_Model_years : MethodName := ⟨"HillClockModel", "years", "(III)I"⟩
abbrev cd_Model_years : ByteArray := prog_14_method_108_code
abbrev mt_Model_years : MT := ("HillClockModel", cd_Model_years, 9, (some .int), 6)
def yn_HillsReader_canBegin : MethodName := ⟨"HillClock$HillsReader", "canBegin", "(I)Z"⟩
abbrev cd_HillsReader_canBegin : ByteArray := prog_3_method_3_code
abbrev mt_HillsReader_canBegin : MT := ("HillClock$HillsReader", cd_HillsReader_canBegin, 2, (some .boolean), 6)
def yn_HillsReader_readNewName : MethodName := ⟨"HillClock$HillsReader", "readNewName", "([JI)Z"⟩
abbrev cd_HillsReader_readNewName : ByteArray := prog_3_method_4_code
abbrev mt_HillsReader_readNewName : MT := ("HillClock$HillsReader", cd_HillsReader_readNewName, 3, (some .boolean), 6)
def yn_HillsReader_takeKind : MethodName := ⟨"HillClock$HillsReader", "takeKind", "()I"⟩
abbrev cd_HillsReader_takeKind : ByteArray := prog_3_method_11_code
abbrev mt_HillsReader_takeKind : MT := ("HillClock$HillsReader", cd_HillsReader_takeKind, 3, (some .int), 6)
def yn_HillsReader_readRound : MethodName := ⟨"HillClock$HillsReader", "readRound", "(LHillClock$Walker;)Z"⟩
abbrev cd_HillsReader_readRound : ByteArray := prog_3_method_12_code
abbrev mt_HillsReader_readRound : MT := ("HillClock$HillsReader", cd_HillsReader_readRound, 4, (some .boolean), 6)
def yn_Tape_open : MethodName := ⟨"HillClock$Tape", "open", "()V"⟩
abbrev cd_Tape_open : ByteArray := prog_9_method_3_code
abbrev mt_Tape_open : MT := ("HillClock$Tape", cd_Tape_open, 1, none, 6)
def yn_Tape_take : MethodName := ⟨"HillClock$Tape", "take", "(LHillClock$Word;)Z"⟩
abbrev cd_Tape_take : ByteArray := prog_9_method_13_code
abbrev mt_Tape_take : MT := ("HillClock$Tape", cd_Tape_take, 2, (some .boolean), 6)
def yn_Tape_takeSign : MethodName := ⟨"HillClock$Tape", "takeSign", "(C)Z"⟩
abbrev cd_Tape_takeSign : ByteArray := prog_9_method_14_code
abbrev mt_Tape_takeSign : MT := ("HillClock$Tape", cd_Tape_takeSign, 2, (some .boolean), 6)
def yn_Tape_takeNumber : MethodName := ⟨"HillClock$Tape", "takeNumber", "(II)I"⟩
abbrev cd_Tape_takeNumber : ByteArray := prog_9_method_15_code
abbrev mt_Tape_takeNumber : MT := ("HillClock$Tape", cd_Tape_takeNumber, 4, (some .int), 6)
def yn_Model_hills : MethodName := ⟨"HillClockModel", "hills", "()I"⟩
abbrev cd_Model_hills : ByteArray := prog_14_method_52_code
abbrev mt_Model_hills : MT := ("HillClockModel", cd_Model_hills, 2, (some .int), 7)
def yn_Model_judged : MethodName := ⟨"HillClockModel", "judged", "(I)I"⟩
abbrev cd_Model_judged : ByteArray := prog_14_method_85_code
abbrev mt_Model_judged : MT := ("HillClockModel", cd_Model_judged, 5, (some .int), 7)
def yn_HillsReader_takeWalkerAt : MethodName := ⟨"HillClock$HillsReader", "takeWalkerAt", "()I"⟩
abbrev cd_HillsReader_takeWalkerAt : ByteArray := prog_3_method_7_code
abbrev mt_HillsReader_takeWalkerAt : MT := ("HillClock$HillsReader", cd_HillsReader_takeWalkerAt, 2, (some .int), 7)
def yn_HillsReader_readPlace : MethodName := ⟨"HillClock$HillsReader", "readPlace", "()Z"⟩
abbrev cd_HillsReader_readPlace : ByteArray := prog_3_method_8_code
abbrev mt_HillsReader_readPlace : MT := ("HillClock$HillsReader", cd_HillsReader_readPlace, 1, (some .boolean), 7)
def yn_HillsReader_readPath : MethodName := ⟨"HillClock$HillsReader", "readPath", "()Z"⟩
abbrev cd_HillsReader_readPath : ByteArray := prog_3_method_9_code
abbrev mt_HillsReader_readPath : MT := ("HillClock$HillsReader", cd_HillsReader_readPath, 4, (some .boolean), 7)
def yn_HillsReader_readWalker : MethodName := ⟨"HillClock$HillsReader", "readWalker", "()Z"⟩
abbrev cd_HillsReader_readWalker : ByteArray := prog_3_method_10_code
abbrev mt_HillsReader_readWalker : MT := ("HillClock$HillsReader", cd_HillsReader_readWalker, 2, (some .boolean), 7)
def yn_Lines_readLine : MethodName := ⟨"HillClock$Lines", "readLine", "(LHillClock$Tape;LHillClock$Hills;)Z"⟩
abbrev cd_Lines_readLine : ByteArray := prog_5_method_4_code
abbrev mt_Lines_readLine : MT := ("HillClock$Lines", cd_Lines_readLine, 4, (some .boolean), 7)
def yn_HillsReader_readWaits : MethodName := ⟨"HillClock$HillsReader", "readWaits", "()Z"⟩
abbrev cd_HillsReader_readWaits : ByteArray := prog_3_method_13_code
abbrev mt_HillsReader_readWaits : MT := ("HillClock$HillsReader", cd_HillsReader_readWaits, 6, (some .boolean), 8)
def yn_HillsReader_readHour : MethodName := ⟨"HillClock$HillsReader", "readHour", "()Z"⟩
abbrev cd_HillsReader_readHour : ByteArray := prog_3_method_14_code
abbrev mt_HillsReader_readHour : MT := ("HillClock$HillsReader", cd_HillsReader_readHour, 5, (some .boolean), 8)
def yn_Lines_read : MethodName := ⟨"HillClock$Lines", "read", "(LHillClock$Tape;LHillClock$Hills;)I"⟩
abbrev cd_Lines_read : ByteArray := prog_5_method_3_code
abbrev mt_Lines_read : MT := ("HillClock$Lines", cd_Lines_read, 5, (some .int), 8)
def yn_Clock_days : MethodName := ⟨"HillClock", "days", "()I"⟩
abbrev cd_Clock_days : ByteArray := prog_1_method_4_code
abbrev mt_Clock_days : MT := ("HillClock", cd_Clock_days, 2, (some .int), 9)
def yn_Clock_chooseDeputies : MethodName := ⟨"HillClock", "chooseDeputies", "(III)V"⟩
abbrev cd_Clock_chooseDeputies : ByteArray := prog_1_method_38_code
abbrev mt_Clock_chooseDeputies (d : Nat) : MT := ("HillClock", cd_Clock_chooseDeputies, 6, none, d)
def yn_Model_stands : MethodName := ⟨"HillClockModel", "stands", "(III)V"⟩
abbrev cd_Model_stands : ByteArray := prog_14_method_92_code
abbrev mt_Model_stands (d : Nat) : MT := ("HillClockModel", cd_Model_stands, 5, none, d)
def yn_Clock_deputies : MethodName := ⟨"HillClock", "deputies", "(I)I"⟩
abbrev cd_Clock_deputies : ByteArray := prog_1_method_20_code
abbrev mt_Clock_deputies : MT := ("HillClock", cd_Clock_deputies, 2, (some .int), 11)
def yn_Model_deputies : MethodName := ⟨"HillClockModel", "deputies", "(I)I"⟩
abbrev cd_Model_deputies : ByteArray := prog_14_method_93_code
abbrev mt_Model_deputies : MT := ("HillClockModel", cd_Model_deputies, 2, (some .int), 11)
def yn_Law_readLevel : MethodName := ⟨"HillClock$Law", "readLevel", "(LHillClock$Tape;II)Z"⟩
abbrev cd_Law_readLevel : ByteArray := prog_4_method_5_code
abbrev mt_Law_readLevel (d : Nat) : MT := ("HillClock$Law", cd_Law_readLevel, 6, (some .boolean), d)
def yn_Law_readPart : MethodName := ⟨"HillClock$Law", "readPart", "(LHillClock$Tape;I)Z"⟩
abbrev cd_Law_readPart : ByteArray := prog_4_method_7_code
abbrev mt_Law_readPart (d : Nat) : MT := ("HillClock$Law", cd_Law_readPart, 6, (some .boolean), d)
def yn_HillsReader_readMissed : MethodName := ⟨"HillClock$HillsReader", "readMissed", "()Z"⟩
abbrev cd_HillsReader_readMissed : ByteArray := prog_3_method_15_code
abbrev mt_HillsReader_readMissed : MT := ("HillClock$HillsReader", cd_HillsReader_readMissed, 1, (some .boolean), 47)
def yn_HillsReader_read : MethodName := ⟨"HillClock$HillsReader", "read", "(LHillClock$Hills;)I"⟩
abbrev cd_HillsReader_read : ByteArray := prog_3_method_2_code
abbrev mt_HillsReader_read : MT := ("HillClock$HillsReader", cd_HillsReader_read, 5, (some .int), 48)
def yn_Clock_hills : MethodName := ⟨"HillClock", "hills", "()I"⟩
abbrev cd_Clock_hills : ByteArray := prog_1_method_3_code
abbrev mt_Clock_hills : MT := ("HillClock", cd_Clock_hills, 4, (some .int), 49)
theorem lk_0 : ly_k 0 = (10, 19) := by decide +kernel
theorem lk_1 : ly_k 1 = (7, 9) := by decide +kernel
theorem lk_2 : ly_k 2 = (14, 1000) := by decide +kernel
theorem lk_3 : ly_k 3 = (1, 3) := by decide +kernel
theorem lk_4 : ly_k 4 = (0, 15) := by decide +kernel
theorem lk_5 : ly_k 5 = (13, 6) := by decide +kernel
theorem lk_6 : ly_k 6 = (13, 6) := by decide +kernel
theorem lk_7 : ly_k 7 = (13, 6) := by decide +kernel
theorem lk_8 : ly_k 8 = (12, 36) := by decide +kernel
theorem lk_9 : ly_k 9 = (12, 36) := by decide +kernel
theorem lk_10 : ly_k 10 = (18, 6) := by decide +kernel
theorem lk_11 : ly_k 11 = (12, 6) := by decide +kernel
theorem lk_12 : ly_k 12 = (12, 6) := by decide +kernel
theorem lk_13 : ly_k 13 = (12, 6) := by decide +kernel
theorem lk_14 : ly_k 14 = (2, 4) := by decide +kernel
theorem lk_15 : ly_k 15 = (12, 1000) := by decide +kernel
theorem lk_16 : ly_k 16 = (12, 64) := by decide +kernel
theorem lk_17 : ly_k 17 = (9, 8) := by decide +kernel
theorem lk_18 : ly_k 18 = (12, 4) := by decide +kernel
theorem lk_19 : ly_k 19 = (12, 6) := by decide +kernel
theorem lk_20 : ly_k 20 = (12, 6) := by decide +kernel
theorem lk_21 : ly_k 21 = (9, 8) := by decide +kernel
theorem lk_22 : ly_k 22 = (12, 4) := by decide +kernel
theorem lk_23 : ly_k 23 = (12, 6) := by decide +kernel
theorem lk_24 : ly_k 24 = (12, 6) := by decide +kernel
theorem lk_25 : ly_k 25 = (9, 8) := by decide +kernel
theorem lk_26 : ly_k 26 = (12, 4) := by decide +kernel
theorem lk_27 : ly_k 27 = (12, 6) := by decide +kernel
theorem lk_28 : ly_k 28 = (12, 6) := by decide +kernel
theorem lk_29 : ly_k 29 = (9, 8) := by decide +kernel
theorem lk_30 : ly_k 30 = (12, 4) := by decide +kernel
theorem lk_31 : ly_k 31 = (12, 6) := by decide +kernel
theorem lk_32 : ly_k 32 = (12, 6) := by decide +kernel
theorem lk_33 : ly_k 33 = (9, 8) := by decide +kernel
theorem lk_34 : ly_k 34 = (12, 4) := by decide +kernel
theorem lk_35 : ly_k 35 = (12, 6) := by decide +kernel
theorem lk_36 : ly_k 36 = (12, 6) := by decide +kernel
theorem lk_37 : ly_k 37 = (9, 8) := by decide +kernel
theorem lk_38 : ly_k 38 = (12, 4) := by decide +kernel
theorem lk_39 : ly_k 39 = (12, 6) := by decide +kernel
theorem lk_40 : ly_k 40 = (12, 6) := by decide +kernel
theorem lk_41 : ly_k 41 = (0, 15) := by decide +kernel
theorem lk_42 : ly_k 42 = (13, 6) := by decide +kernel
theorem lk_43 : ly_k 43 = (13, 6) := by decide +kernel
theorem lk_44 : ly_k 44 = (13, 6) := by decide +kernel
theorem lk_45 : ly_k 45 = (12, 36) := by decide +kernel
theorem lk_46 : ly_k 46 = (12, 36) := by decide +kernel
theorem lk_47 : ly_k 47 = (18, 6) := by decide +kernel
theorem lk_48 : ly_k 48 = (12, 6) := by decide +kernel
theorem lk_49 : ly_k 49 = (12, 6) := by decide +kernel
theorem lk_50 : ly_k 50 = (12, 6) := by decide +kernel
theorem lk_51 : ly_k 51 = (2, 4) := by decide +kernel
theorem lk_52 : ly_k 52 = (12, 1000) := by decide +kernel
theorem lk_53 : ly_k 53 = (12, 64) := by decide +kernel
theorem lk_54 : ly_k 54 = (9, 8) := by decide +kernel
theorem lk_55 : ly_k 55 = (12, 4) := by decide +kernel
theorem lk_56 : ly_k 56 = (12, 6) := by decide +kernel
theorem lk_57 : ly_k 57 = (12, 6) := by decide +kernel
theorem lk_58 : ly_k 58 = (9, 8) := by decide +kernel
theorem lk_59 : ly_k 59 = (12, 4) := by decide +kernel
theorem lk_60 : ly_k 60 = (12, 6) := by decide +kernel
theorem lk_61 : ly_k 61 = (12, 6) := by decide +kernel
theorem lk_62 : ly_k 62 = (9, 8) := by decide +kernel
theorem lk_63 : ly_k 63 = (12, 4) := by decide +kernel
theorem lk_64 : ly_k 64 = (12, 6) := by decide +kernel
theorem lk_65 : ly_k 65 = (12, 6) := by decide +kernel
theorem lk_66 : ly_k 66 = (9, 8) := by decide +kernel
theorem lk_67 : ly_k 67 = (12, 4) := by decide +kernel
theorem lk_68 : ly_k 68 = (12, 6) := by decide +kernel
theorem lk_69 : ly_k 69 = (12, 6) := by decide +kernel
theorem lk_70 : ly_k 70 = (9, 8) := by decide +kernel
theorem lk_71 : ly_k 71 = (12, 4) := by decide +kernel
theorem lk_72 : ly_k 72 = (12, 6) := by decide +kernel
theorem lk_73 : ly_k 73 = (12, 6) := by decide +kernel
theorem lk_74 : ly_k 74 = (9, 8) := by decide +kernel
theorem lk_75 : ly_k 75 = (12, 4) := by decide +kernel
theorem lk_76 : ly_k 76 = (12, 6) := by decide +kernel
theorem lk_77 : ly_k 77 = (12, 6) := by decide +kernel
theorem lk_78 : ly_k 78 = (3, 4) := by decide +kernel
theorem lk_79 : ly_k 79 = (12, 30) := by decide +kernel
theorem lk_80 : ly_k 80 = (12, 30) := by decide +kernel
theorem lk_81 : ly_k 81 = (12, 30) := by decide +kernel
theorem lk_82 : ly_k 82 = (5, 8) := by decide +kernel
theorem lk_83 : ly_k 83 = (6, 6) := by decide +kernel
theorem lk_84 : ly_k 84 = (12, 6) := by decide +kernel
theorem lk_85 : ly_k 85 = (12, 6) := by decide +kernel
theorem lk_86 : ly_k 86 = (3, 4) := by decide +kernel
theorem lk_87 : ly_k 87 = (12, 30) := by decide +kernel
theorem lk_88 : ly_k 88 = (12, 30) := by decide +kernel
theorem lk_89 : ly_k 89 = (12, 30) := by decide +kernel
theorem lk_90 : ly_k 90 = (12, 8) := by decide +kernel
theorem lk_91 : ly_k 91 = (12, 8) := by decide +kernel
theorem lk_92 : ly_k 92 = (12, 6) := by decide +kernel
theorem lk_93 : ly_k 93 = (16, 4) := by decide +kernel
theorem lk_94 : ly_k 94 = (17, 16) := by decide +kernel
theorem lk_95 : ly_k 95 = (6, 6) := by decide +kernel
theorem lk_96 : ly_k 96 = (12, 6) := by decide +kernel
theorem lk_97 : ly_k 97 = (12, 6) := by decide +kernel
theorem lk_98 : ly_k 98 = (8, 8) := by decide +kernel
theorem lk_99 : ly_k 99 = (12, 6) := by decide +kernel
theorem lk_100 : ly_k 100 = (12, 24) := by decide +kernel
theorem lk_101 : ly_k 101 = (12, 24) := by decide +kernel
theorem lk_102 : ly_k 102 = (12, 24) := by decide +kernel
theorem lk_103 : ly_k 103 = (12, 6) := by decide +kernel
theorem lk_104 : ly_k 104 = (4, 2) := by decide +kernel
theorem lk_105 : ly_k 105 = (12, 1440) := by decide +kernel
theorem lk_106 : ly_k 106 = (13, 1440) := by decide +kernel
theorem lk_107 : ly_k 107 = (12, 64) := by decide +kernel
theorem lk_108 : ly_k 108 = (12, 6) := by decide +kernel
theorem lk_109 : ly_k 109 = (12, 6) := by decide +kernel
theorem lk_110 : ly_k 110 = (12, 6) := by decide +kernel
theorem lk_111 : ly_k 111 = (5, 8) := by decide +kernel
theorem lk_112 : ly_k 112 = (6, 6) := by decide +kernel
theorem lk_113 : ly_k 113 = (12, 6) := by decide +kernel
theorem lk_114 : ly_k 114 = (12, 6) := by decide +kernel
theorem lk_115 : ly_k 115 = (3, 4) := by decide +kernel
theorem lk_116 : ly_k 116 = (12, 30) := by decide +kernel
theorem lk_117 : ly_k 117 = (12, 30) := by decide +kernel
theorem lk_118 : ly_k 118 = (12, 30) := by decide +kernel
theorem lk_119 : ly_k 119 = (12, 8) := by decide +kernel
theorem lk_120 : ly_k 120 = (12, 8) := by decide +kernel
theorem lk_121 : ly_k 121 = (12, 6) := by decide +kernel
theorem lk_122 : ly_k 122 = (5, 8) := by decide +kernel
theorem lk_123 : ly_k 123 = (6, 6) := by decide +kernel
theorem lk_124 : ly_k 124 = (12, 6) := by decide +kernel
theorem lk_125 : ly_k 125 = (12, 6) := by decide +kernel
theorem lk_126 : ly_k 126 = (3, 4) := by decide +kernel
theorem lk_127 : ly_k 127 = (12, 30) := by decide +kernel
theorem lk_128 : ly_k 128 = (12, 30) := by decide +kernel
theorem lk_129 : ly_k 129 = (12, 30) := by decide +kernel
theorem lk_130 : ly_k 130 = (12, 8) := by decide +kernel
theorem lk_131 : ly_k 131 = (12, 8) := by decide +kernel
theorem lk_132 : ly_k 132 = (12, 6) := by decide +kernel
theorem lk_133 : ly_k 133 = (5, 8) := by decide +kernel
theorem lk_134 : ly_k 134 = (6, 6) := by decide +kernel
theorem lk_135 : ly_k 135 = (12, 6) := by decide +kernel
theorem lk_136 : ly_k 136 = (12, 6) := by decide +kernel
theorem lk_137 : ly_k 137 = (3, 4) := by decide +kernel
theorem lk_138 : ly_k 138 = (12, 30) := by decide +kernel
theorem lk_139 : ly_k 139 = (12, 30) := by decide +kernel
theorem lk_140 : ly_k 140 = (12, 30) := by decide +kernel
theorem lk_141 : ly_k 141 = (12, 8) := by decide +kernel
theorem lk_142 : ly_k 142 = (12, 8) := by decide +kernel
theorem lk_143 : ly_k 143 = (12, 6) := by decide +kernel
theorem lk_144 : ly_k 144 = (5, 8) := by decide +kernel
theorem lk_145 : ly_k 145 = (6, 6) := by decide +kernel
theorem lk_146 : ly_k 146 = (12, 6) := by decide +kernel
theorem lk_147 : ly_k 147 = (12, 6) := by decide +kernel
theorem lk_148 : ly_k 148 = (3, 4) := by decide +kernel
theorem lk_149 : ly_k 149 = (12, 30) := by decide +kernel
theorem lk_150 : ly_k 150 = (12, 30) := by decide +kernel
theorem lk_151 : ly_k 151 = (12, 30) := by decide +kernel
theorem lk_152 : ly_k 152 = (12, 8) := by decide +kernel
theorem lk_153 : ly_k 153 = (12, 8) := by decide +kernel
theorem lk_154 : ly_k 154 = (12, 6) := by decide +kernel
theorem lk_155 : ly_k 155 = (6, 6) := by decide +kernel
theorem lk_156 : ly_k 156 = (12, 6) := by decide +kernel
theorem lk_157 : ly_k 157 = (12, 6) := by decide +kernel
theorem lk_158 : ly_k 158 = (6, 6) := by decide +kernel
theorem lk_159 : ly_k 159 = (12, 6) := by decide +kernel
theorem lk_160 : ly_k 160 = (12, 6) := by decide +kernel
theorem lk_161 : ly_k 161 = (6, 6) := by decide +kernel
theorem lk_162 : ly_k 162 = (12, 6) := by decide +kernel
theorem lk_163 : ly_k 163 = (12, 6) := by decide +kernel
theorem lk_164 : ly_k 164 = (6, 6) := by decide +kernel
theorem lk_165 : ly_k 165 = (12, 6) := by decide +kernel
theorem lk_166 : ly_k 166 = (12, 6) := by decide +kernel
theorem lk_167 : ly_k 167 = (6, 6) := by decide +kernel
theorem lk_168 : ly_k 168 = (12, 6) := by decide +kernel
theorem lk_169 : ly_k 169 = (12, 6) := by decide +kernel
theorem lk_170 : ly_k 170 = (6, 6) := by decide +kernel
theorem lk_171 : ly_k 171 = (12, 6) := by decide +kernel
theorem lk_172 : ly_k 172 = (12, 6) := by decide +kernel
theorem lk_173 : ly_k 173 = (6, 6) := by decide +kernel
theorem lk_174 : ly_k 174 = (12, 6) := by decide +kernel
theorem lk_175 : ly_k 175 = (12, 6) := by decide +kernel
theorem lk_176 : ly_k 176 = (6, 6) := by decide +kernel
theorem lk_177 : ly_k 177 = (12, 6) := by decide +kernel
theorem lk_178 : ly_k 178 = (12, 6) := by decide +kernel
theorem lk_179 : ly_k 179 = (6, 6) := by decide +kernel
theorem lk_180 : ly_k 180 = (12, 6) := by decide +kernel
theorem lk_181 : ly_k 181 = (12, 6) := by decide +kernel
theorem lk_182 : ly_k 182 = (6, 6) := by decide +kernel
theorem lk_183 : ly_k 183 = (12, 6) := by decide +kernel
theorem lk_184 : ly_k 184 = (12, 6) := by decide +kernel
theorem lk_185 : ly_k 185 = (6, 6) := by decide +kernel
theorem lk_186 : ly_k 186 = (12, 6) := by decide +kernel
theorem lk_187 : ly_k 187 = (12, 6) := by decide +kernel
theorem lk_188 : ly_k 188 = (6, 6) := by decide +kernel
theorem lk_189 : ly_k 189 = (12, 6) := by decide +kernel
theorem lk_190 : ly_k 190 = (12, 6) := by decide +kernel
theorem lk_191 : ly_k 191 = (6, 6) := by decide +kernel
theorem lk_192 : ly_k 192 = (12, 6) := by decide +kernel
theorem lk_193 : ly_k 193 = (12, 6) := by decide +kernel
theorem lk_194 : ly_k 194 = (6, 6) := by decide +kernel
theorem lk_195 : ly_k 195 = (12, 6) := by decide +kernel
theorem lk_196 : ly_k 196 = (12, 6) := by decide +kernel
theorem lk_197 : ly_k 197 = (6, 6) := by decide +kernel
theorem lk_198 : ly_k 198 = (12, 6) := by decide +kernel
theorem lk_199 : ly_k 199 = (12, 6) := by decide +kernel
theorem lk_200 : ly_k 200 = (6, 6) := by decide +kernel
theorem lk_201 : ly_k 201 = (12, 6) := by decide +kernel
theorem lk_202 : ly_k 202 = (12, 6) := by decide +kernel
theorem lk_203 : ly_k 203 = (11, 72) := by decide +kernel
theorem lk_204 : ly_k 204 = (12, 1000) := by decide +kernel
theorem lk_205 : ly_k 205 = (12, 10) := by decide +kernel
theorem lk_206 : ly_k 206 = (13, 12) := by decide +kernel
theorem lk_207 : ly_k 207 = (13, 12) := by decide +kernel
theorem lk_208 : ly_k 208 = (13, 12) := by decide +kernel
theorem lk_209 : ly_k 209 = (12, 72) := by decide +kernel
theorem lk_210 : ly_k 210 = (12, 12) := by decide +kernel
theorem lk_211 : ly_k 211 = (12, 12) := by decide +kernel
theorem lk_212 : ly_k 212 = (12, 12) := by decide +kernel
theorem lk_213 : ly_k 213 = (12, 12) := by decide +kernel
theorem lk_214 : ly_k 214 = (12, 48) := by decide +kernel
theorem lk_215 : ly_k 215 = (12, 12) := by decide +kernel
theorem lk_216 : ly_k 216 = (12, 72) := by decide +kernel
theorem lk_217 : ly_k 217 = (12, 72) := by decide +kernel
theorem lk_218 : ly_k 218 = (12, 12) := by decide +kernel
theorem lk_219 : ly_k 219 = (12, 12) := by decide +kernel
theorem lk_220 : ly_k 220 = (12, 12) := by decide +kernel
theorem lk_221 : ly_k 221 = (12, 2) := by decide +kernel
theorem lk_222 : ly_k 222 = (12, 2) := by decide +kernel
theorem lk_223 : ly_k 223 = (12, 2000) := by decide +kernel
theorem lk_224 : ly_k 224 = (12, 7) := by decide +kernel
theorem lk_225 : ly_k 225 = (15, 7) := by decide +kernel
theorem lk_226 : ly_k 226 = (12, 7) := by decide +kernel
theorem lk_227 : ly_k 227 = (12, 7) := by decide +kernel
theorem lk_228 : ly_k 228 = (12, 7) := by decide +kernel
theorem lk_229 : ly_k 229 = (12, 7) := by decide +kernel
theorem lk_230 : ly_k 230 = (12, 7) := by decide +kernel
theorem lk_231 : ly_k 231 = (12, 7) := by decide +kernel
theorem lk_232 : ly_k 232 = (12, 7) := by decide +kernel
theorem lk_233 : ly_k 233 = (12, 7) := by decide +kernel
theorem lk_234 : ly_k 234 = (12, 7) := by decide +kernel
theorem lk_235 : ly_k 235 = (12, 20) := by decide +kernel
theorem lk_236 : ly_k 236 = (12, 6) := by decide +kernel
theorem lk_237 : ly_k 237 = (12, 180) := by decide +kernel
theorem lk_238 : ly_k 238 = (12, 180) := by decide +kernel
theorem lk_239 : ly_k 239 = (12, 180) := by decide +kernel
theorem lk_240 : ly_k 240 = (12, 5) := by decide +kernel
theorem lk_241 : ly_k 241 = (12, 40) := by decide +kernel
theorem lk_242 : ly_k 242 = (12, 40) := by decide +kernel
theorem lk_243 : ly_k 243 = (15, 40) := by decide +kernel
theorem lk_244 : ly_k 244 = (12, 30) := by decide +kernel
theorem lk_245 : ly_k 245 = (12, 16) := by decide +kernel
theorem lk_246 : ly_k 246 = (12, 16) := by decide +kernel
theorem lk_247 : ly_k 247 = (12, 64) := by decide +kernel
theorem lk_248 : ly_k 248 = (12, 256) := by decide +kernel
theorem lk_249 : ly_k 249 = (15, 4) := by decide +kernel
theorem lk_250 : ly_k 250 = (12, 36) := by decide +kernel
theorem lk_251 : ly_k 251 = (12, 1440) := by decide +kernel
theorem lk_252 : ly_k 252 = (12, 6) := by decide +kernel
theorem lk_253 : ly_k 253 = (12, 6) := by decide +kernel
theorem lk_254 : ly_k 254 = (15, 6) := by decide +kernel
theorem lk_255 : ly_k 255 = (12, 64) := by decide +kernel
theorem lk_256 : ly_k 256 = (12, 6) := by decide +kernel
theorem lk_257 : ly_k 257 = (12, 6) := by decide +kernel
theorem lk_258 : ly_k 258 = (12, 6) := by decide +kernel
theorem lk_259 : ly_k 259 = (13, 1440) := by decide +kernel
theorem lk_260 : ly_k 260 = (13, 1) := by decide +kernel
theorem tb_i1 {w : Cond} (i : Nat) (h0 : tables_1_1[i]? = some w) (g : goodWord w = true) : w ∈ TBL := by
  have h : w ∈ tables_1_1 := List.mem_of_getElem? h0
  exact List.mem_filter.mpr ⟨List.mem_append_right _ (show w ∈ tables_1 from List.mem_append_left _ h), g⟩
theorem tb_i2 {w : Cond} (i : Nat) (h0 : tables_1_2[i]? = some w) (g : goodWord w = true) : w ∈ TBL := by
  have h : w ∈ tables_1_2 := List.mem_of_getElem? h0
  exact List.mem_filter.mpr ⟨List.mem_append_right _ (show w ∈ tables_1 from List.mem_append_right _ (List.mem_append_left _ h)), g⟩
theorem tb_i3 {w : Cond} (i : Nat) (h0 : tables_1_3[i]? = some w) (g : goodWord w = true) : w ∈ TBL := by
  have h : w ∈ tables_1_3 := List.mem_of_getElem? h0
  exact List.mem_filter.mpr ⟨List.mem_append_right _ (show w ∈ tables_1 from List.mem_append_right _ (List.mem_append_right _ (List.mem_append_left _ h))), g⟩
theorem tb_i4 {w : Cond} (i : Nat) (h0 : tables_1_4[i]? = some w) (g : goodWord w = true) : w ∈ TBL := by
  have h : w ∈ tables_1_4 := List.mem_of_getElem? h0
  exact List.mem_filter.mpr ⟨List.mem_append_right _ (show w ∈ tables_1 from List.mem_append_right _ (List.mem_append_right _ (List.mem_append_right _ (List.mem_append_left _ h)))), g⟩
theorem tb_i5 {w : Cond} (i : Nat) (h0 : tables_1_5[i]? = some w) (g : goodWord w = true) : w ∈ TBL := by
  have h : w ∈ tables_1_5 := List.mem_of_getElem? h0
  exact List.mem_filter.mpr ⟨List.mem_append_right _ (show w ∈ tables_1 from List.mem_append_right _ (List.mem_append_right _ (List.mem_append_right _ (List.mem_append_right _ (List.mem_append_left _ h))))), g⟩
theorem tb_i6 {w : Cond} (i : Nat) (h0 : tables_1_6[i]? = some w) (g : goodWord w = true) : w ∈ TBL := by
  have h : w ∈ tables_1_6 := List.mem_of_getElem? h0
  exact List.mem_filter.mpr ⟨List.mem_append_right _ (show w ∈ tables_1 from List.mem_append_right _ (List.mem_append_right _ (List.mem_append_right _ (List.mem_append_right _ (List.mem_append_right _ (List.mem_append_left _ h)))))), g⟩
theorem tb_i7 {w : Cond} (i : Nat) (h0 : tables_1_7[i]? = some w) (g : goodWord w = true) : w ∈ TBL := by
  have h : w ∈ tables_1_7 := List.mem_of_getElem? h0
  exact List.mem_filter.mpr ⟨List.mem_append_right _ (show w ∈ tables_1 from List.mem_append_right _ (List.mem_append_right _ (List.mem_append_right _ (List.mem_append_right _ (List.mem_append_right _ (List.mem_append_right _ (List.mem_append_left _ h))))))), g⟩
theorem tb_i8 {w : Cond} (i : Nat) (h0 : tables_1_8[i]? = some w) (g : goodWord w = true) : w ∈ TBL := by
  have h : w ∈ tables_1_8 := List.mem_of_getElem? h0
  exact List.mem_filter.mpr ⟨List.mem_append_right _ (show w ∈ tables_1 from List.mem_append_right _ (List.mem_append_right _ (List.mem_append_right _ (List.mem_append_right _ (List.mem_append_right _ (List.mem_append_right _ (List.mem_append_right _ (List.mem_append_left _ h)))))))), g⟩
theorem tb_i9 {w : Cond} (i : Nat) (h0 : tables_1_9[i]? = some w) (g : goodWord w = true) : w ∈ TBL := by
  have h : w ∈ tables_1_9 := List.mem_of_getElem? h0
  exact List.mem_filter.mpr ⟨List.mem_append_right _ (show w ∈ tables_1 from List.mem_append_right _ (List.mem_append_right _ (List.mem_append_right _ (List.mem_append_right _ (List.mem_append_right _ (List.mem_append_right _ (List.mem_append_right _ (List.mem_append_right _ (h))))))))), g⟩
theorem gf_Clock_10 : GF "HillClock" 10 10 0 (5, 1) := ⟨tb_i2 178 (by decide +kernel) (by decide +kernel), by decide, rfl⟩
theorem gf_Clock_21 : GF "HillClock" 21 10 1 (5, 3) := ⟨tb_i2 179 (by decide +kernel) (by decide +kernel), by decide, rfl⟩
theorem gf_Clock_28 : GF "HillClock" 28 10 2 (2, 0) := ⟨tb_i2 180 (by decide +kernel) (by decide +kernel), by decide, rfl⟩
theorem gf_Clock_32 : GF "HillClock" 32 10 3 (2, 0) := ⟨tb_i2 181 (by decide +kernel) (by decide +kernel), by decide, rfl⟩
theorem gf_Clock_38 : GF "HillClock" 38 10 4 (5, 78) := ⟨tb_i2 182 (by decide +kernel) (by decide +kernel), by decide, rfl⟩
theorem gf_Clock_45 : GF "HillClock" 45 10 5 (5, 82) := ⟨tb_i2 183 (by decide +kernel) (by decide +kernel), by decide, rfl⟩
theorem gf_Clock_49 : GF "HillClock" 49 10 6 (5, 93) := ⟨tb_i2 184 (by decide +kernel) (by decide +kernel), by decide, rfl⟩
theorem gf_Clock_55 : GF "HillClock" 55 10 7 (5, 94) := ⟨tb_i2 185 (by decide +kernel) (by decide +kernel), by decide, rfl⟩
theorem gf_Clock_60 : GF "HillClock" 60 10 10 (5, 95) := ⟨tb_i2 188 (by decide +kernel) (by decide +kernel), by decide, rfl⟩
theorem gf_Clock_67 : GF "HillClock" 67 10 11 (5, 98) := ⟨tb_i2 189 (by decide +kernel) (by decide +kernel), by decide, rfl⟩
theorem gf_Clock_74 : GF "HillClock" 74 10 12 (5, 104) := ⟨tb_i2 190 (by decide +kernel) (by decide +kernel), by decide, rfl⟩
theorem gf_Clock_78 : GF "HillClock" 78 10 13 (5, 107) := ⟨tb_i2 191 (by decide +kernel) (by decide +kernel), by decide, rfl⟩
theorem gf_Clock_82 : GF "HillClock" 82 10 14 (5, 108) := ⟨tb_i2 192 (by decide +kernel) (by decide +kernel), by decide, rfl⟩
theorem gf_Clock_85 : GF "HillClock" 85 10 15 (5, 109) := ⟨tb_i2 193 (by decide +kernel) (by decide +kernel), by decide, rfl⟩
theorem gf_Clock_88 : GF "HillClock" 88 10 16 (5, 110) := ⟨tb_i2 194 (by decide +kernel) (by decide +kernel), by decide, rfl⟩
theorem gf_Clock_95 : GF "HillClock" 95 7 0 (0, 0) := ⟨tb_i1 42 (by decide +kernel) (by decide +kernel), by decide, rfl⟩
theorem gf_Clock_107 : GF "HillClock" 107 10 9 (0, 0) := ⟨tb_i2 187 (by decide +kernel) (by decide +kernel), by decide, rfl⟩
theorem gf_Clock_110 : GF "HillClock" 110 5 0 (4, 0) := ⟨tb_i2 97 (by decide +kernel) (by decide +kernel), by decide, rfl⟩
theorem gf_Clock_117 : GF "HillClock" 117 5 2 (5, 4) := ⟨tb_i2 101 (by decide +kernel) (by decide +kernel), by decide, rfl⟩
theorem gf_Clock_128 : GF "HillClock" 128 0 9 (5, 5) := ⟨tb_i1 217 (by decide +kernel) (by decide +kernel), by decide, rfl⟩
theorem gf_Clock_134 : GF "HillClock" 134 0 10 (5, 6) := ⟨tb_i1 221 (by decide +kernel) (by decide +kernel), by decide, rfl⟩
theorem gf_Clock_138 : GF "HillClock" 138 9 0 (0, 0) := ⟨tb_i1 128 (by decide +kernel) (by decide +kernel), by decide, rfl⟩
theorem gf_Clock_143 : GF "HillClock" 143 5 1 (5, 1) := ⟨tb_i2 99 (by decide +kernel) (by decide +kernel), by decide, rfl⟩
theorem gf_Clock_149 : GF "HillClock" 149 6 4 (5, 1) := ⟨tb_i2 76 (by decide +kernel) (by decide +kernel), by decide, rfl⟩
theorem gf_Clock_152 : GF "HillClock" 152 9 4 (0, 0) := ⟨tb_i1 137 (by decide +kernel) (by decide +kernel), by decide, rfl⟩
theorem gf_Clock_155 : GF "HillClock" 155 9 5 (5, 1) := ⟨tb_i1 142 (by decide +kernel) (by decide +kernel), by decide, rfl⟩
theorem gf_Clock_172 : GF "HillClock" 172 6 5 (5, 2) := ⟨tb_i2 79 (by decide +kernel) (by decide +kernel), by decide, rfl⟩
theorem gf_Clock_175 : GF "HillClock" 175 0 12 (5, 8) := ⟨tb_i1 229 (by decide +kernel) (by decide +kernel), by decide, rfl⟩
theorem gf_Clock_178 : GF "HillClock" 178 0 13 (5, 9) := ⟨tb_i1 233 (by decide +kernel) (by decide +kernel), by decide, rfl⟩
theorem gf_Clock_209 : GF "HillClock" 209 6 3 (4, 0) := ⟨tb_i2 73 (by decide +kernel) (by decide +kernel), by decide, rfl⟩
theorem gf_Clock_219 : GF "HillClock" 219 10 8 (0, 0) := ⟨tb_i2 186 (by decide +kernel) (by decide +kernel), by decide, rfl⟩
theorem gf_Clock_226 : GF "HillClock" 226 3 0 (0, 0) := ⟨tb_i2 38 (by decide +kernel) (by decide +kernel), by decide, rfl⟩
theorem gf_Clock_243 : GF "HillClock" 243 6 1 (0, 0) := ⟨tb_i2 67 (by decide +kernel) (by decide +kernel), by decide, rfl⟩
theorem gf_Clock_257 : GF "HillClock" 257 0 0 (0, 0) := ⟨tb_i1 186 (by decide +kernel) (by decide +kernel), by decide, rfl⟩
theorem gf_Clock_263 : GF "HillClock" 263 0 2 (0, 0) := ⟨tb_i1 198 (by decide +kernel) (by decide +kernel), by decide, rfl⟩
theorem gf_Clock_266 : GF "HillClock" 266 10 17 (0, 0) := ⟨tb_i2 195 (by decide +kernel) (by decide +kernel), by decide, rfl⟩
theorem gf_Clock_282 : GF "HillClock" 282 0 1 (0, 0) := ⟨tb_i1 192 (by decide +kernel) (by decide +kernel), by decide, rfl⟩
theorem gf_Clock_292 : GF "HillClock" 292 5 7 (5, 10) := ⟨tb_i2 108 (by decide +kernel) (by decide +kernel), by decide, rfl⟩
theorem gf_Clock_315 : GF "HillClock" 315 10 18 (1, 0) := ⟨tb_i2 196 (by decide +kernel) (by decide +kernel), by decide, rfl⟩
theorem gf_Clock_328 : GF "HillClock" 328 0 3 (0, 0) := ⟨tb_i1 201 (by decide +kernel) (by decide +kernel), by decide, rfl⟩
theorem gf_Clock_331 : GF "HillClock" 331 0 4 (0, 0) := ⟨tb_i1 204 (by decide +kernel) (by decide +kernel), by decide, rfl⟩
theorem gf_Clock_334 : GF "HillClock" 334 6 0 (0, 0) := ⟨tb_i2 65 (by decide +kernel) (by decide +kernel), by decide, rfl⟩
theorem gf_Clock_337 : GF "HillClock" 337 6 2 (0, 0) := ⟨tb_i2 69 (by decide +kernel) (by decide +kernel), by decide, rfl⟩
theorem gf_Clock_340 : GF "HillClock" 340 5 3 (0, 0) := ⟨tb_i2 103 (by decide +kernel) (by decide +kernel), by decide, rfl⟩
theorem gf_Hills_9 : GF "HillClock$Hills" 9 0 5 (5, 1) := ⟨tb_i1 205 (by decide +kernel) (by decide +kernel), by decide, rfl⟩
theorem gf_Hills_15 : GF "HillClock$Hills" 15 0 6 (5, 2) := ⟨tb_i1 207 (by decide +kernel) (by decide +kernel), by decide, rfl⟩
theorem gf_Hills_18 : GF "HillClock$Hills" 18 0 7 (5, 3) := ⟨tb_i1 210 (by decide +kernel) (by decide +kernel), by decide, rfl⟩
theorem gf_Hills_21 : GF "HillClock$Hills" 21 0 8 (5, 4) := ⟨tb_i1 213 (by decide +kernel) (by decide +kernel), by decide, rfl⟩
theorem gf_Hills_25 : GF "HillClock$Hills" 25 0 9 (5, 5) := ⟨tb_i1 216 (by decide +kernel) (by decide +kernel), by decide, rfl⟩
theorem gf_Hills_46 : GF "HillClock$Hills" 46 0 14 (5, 10) := ⟨tb_i1 236 (by decide +kernel) (by decide +kernel), by decide, rfl⟩
theorem gf_Hills_54 : GF "HillClock$Hills" 54 0 0 (0, 0) := ⟨tb_i1 182 (by decide +kernel) (by decide +kernel), by decide, rfl⟩
theorem gf_Hills_58 : GF "HillClock$Hills" 58 0 1 (0, 0) := ⟨tb_i1 187 (by decide +kernel) (by decide +kernel), by decide, rfl⟩
theorem gf_Hills_61 : GF "HillClock$Hills" 61 0 2 (0, 0) := ⟨tb_i1 193 (by decide +kernel) (by decide +kernel), by decide, rfl⟩
theorem gf_HillsReader_9 : GF "HillClock$HillsReader" 9 1 0 (5, (-2)) := ⟨tb_i1 83 (by decide +kernel) (by decide +kernel), by decide, rfl⟩
theorem gf_HillsReader_15 : GF "HillClock$HillsReader" 15 1 1 (2, 0) := ⟨tb_i1 84 (by decide +kernel) (by decide +kernel), by decide, rfl⟩
theorem gf_HillsReader_24 : GF "HillClock$HillsReader" 24 1 2 (4, 0) := ⟨tb_i1 85 (by decide +kernel) (by decide +kernel), by decide, rfl⟩
theorem gf_HillsReader_37 : GF "HillClock$HillsReader" 37 7 2 (3, 0) := ⟨tb_i1 45 (by decide +kernel) (by decide +kernel), by decide, rfl⟩
theorem gf_HillsReader_46 : GF "HillClock$HillsReader" 46 0 0 (0, 0) := ⟨tb_i1 183 (by decide +kernel) (by decide +kernel), by decide, rfl⟩
theorem gf_HillsReader_70 : GF "HillClock$HillsReader" 70 0 1 (0, 0) := ⟨tb_i1 190 (by decide +kernel) (by decide +kernel), by decide, rfl⟩
theorem gf_HillsReader_79 : GF "HillClock$HillsReader" 79 0 4 (0, 0) := ⟨tb_i1 203 (by decide +kernel) (by decide +kernel), by decide, rfl⟩
theorem gf_HillsReader_88 : GF "HillClock$HillsReader" 88 0 2 (0, 0) := ⟨tb_i1 194 (by decide +kernel) (by decide +kernel), by decide, rfl⟩
theorem gf_HillsReader_116 : GF "HillClock$HillsReader" 116 7 3 (1, 0) := ⟨tb_i1 49 (by decide +kernel) (by decide +kernel), by decide, rfl⟩
theorem gf_HillsReader_124 : GF "HillClock$HillsReader" 124 0 5 (5, 1) := ⟨tb_i1 206 (by decide +kernel) (by decide +kernel), by decide, rfl⟩
theorem gf_HillsReader_132 : GF "HillClock$HillsReader" 132 0 6 (5, 2) := ⟨tb_i1 209 (by decide +kernel) (by decide +kernel), by decide, rfl⟩
theorem gf_HillsReader_152 : GF "HillClock$HillsReader" 152 0 8 (5, 4) := ⟨tb_i1 215 (by decide +kernel) (by decide +kernel), by decide, rfl⟩
theorem gf_HillsReader_160 : GF "HillClock$HillsReader" 160 0 3 (0, 0) := ⟨tb_i1 200 (by decide +kernel) (by decide +kernel), by decide, rfl⟩
theorem gf_HillsReader_163 : GF "HillClock$HillsReader" 163 0 10 (5, 6) := ⟨tb_i1 223 (by decide +kernel) (by decide +kernel), by decide, rfl⟩
theorem gf_HillsReader_173 : GF "HillClock$HillsReader" 173 9 0 (0, 0) := ⟨tb_i1 129 (by decide +kernel) (by decide +kernel), by decide, rfl⟩
theorem gf_HillsReader_179 : GF "HillClock$HillsReader" 179 9 1 (0, 0) := ⟨tb_i1 131 (by decide +kernel) (by decide +kernel), by decide, rfl⟩
theorem gf_HillsReader_185 : GF "HillClock$HillsReader" 185 9 2 (0, 0) := ⟨tb_i1 133 (by decide +kernel) (by decide +kernel), by decide, rfl⟩
theorem gf_HillsReader_191 : GF "HillClock$HillsReader" 191 9 3 (0, 0) := ⟨tb_i1 135 (by decide +kernel) (by decide +kernel), by decide, rfl⟩
theorem gf_HillsReader_216 : GF "HillClock$HillsReader" 216 9 5 (5, 1) := ⟨tb_i1 143 (by decide +kernel) (by decide +kernel), by decide, rfl⟩
theorem gf_HillsReader_219 : GF "HillClock$HillsReader" 219 9 4 (0, 0) := ⟨tb_i1 139 (by decide +kernel) (by decide +kernel), by decide, rfl⟩
theorem gf_HillsReader_225 : GF "HillClock$HillsReader" 225 9 6 (5, 2) := ⟨tb_i1 146 (by decide +kernel) (by decide +kernel), by decide, rfl⟩
theorem gf_HillsReader_231 : GF "HillClock$HillsReader" 231 9 7 (5, 3) := ⟨tb_i1 149 (by decide +kernel) (by decide +kernel), by decide, rfl⟩
theorem gf_HillsReader_234 : GF "HillClock$HillsReader" 234 0 7 (5, 3) := ⟨tb_i1 212 (by decide +kernel) (by decide +kernel), by decide, rfl⟩
theorem gf_HillsReader_246 : GF "HillClock$HillsReader" 246 0 11 (5, 7) := ⟨tb_i1 226 (by decide +kernel) (by decide +kernel), by decide, rfl⟩
theorem gf_HillsReader_249 : GF "HillClock$HillsReader" 249 0 12 (5, 8) := ⟨tb_i1 230 (by decide +kernel) (by decide +kernel), by decide, rfl⟩
theorem gf_HillsReader_252 : GF "HillClock$HillsReader" 252 0 13 (5, 9) := ⟨tb_i1 234 (by decide +kernel) (by decide +kernel), by decide, rfl⟩
theorem gf_HillsReader_255 : GF "HillClock$HillsReader" 255 0 14 (5, 10) := ⟨tb_i1 237 (by decide +kernel) (by decide +kernel), by decide, rfl⟩
theorem gf_Law_9 : GF "HillClock$Law" 9 2 0 (5, 1) := ⟨tb_i1 107 (by decide +kernel) (by decide +kernel), by decide, rfl⟩
theorem gf_Law_15 : GF "HillClock$Law" 15 2 1 (5, 2) := ⟨tb_i1 108 (by decide +kernel) (by decide +kernel), by decide, rfl⟩
theorem gf_Law_18 : GF "HillClock$Law" 18 2 2 (0, 0) := ⟨tb_i1 109 (by decide +kernel) (by decide +kernel), by decide, rfl⟩
theorem gf_Law_43 : GF "HillClock$Law" 43 7 2 (3, 0) := ⟨tb_i1 48 (by decide +kernel) (by decide +kernel), by decide, rfl⟩
theorem gf_Law_77 : GF "HillClock$Law" 77 7 4 (0, 0) := ⟨tb_i1 52 (by decide +kernel) (by decide +kernel), by decide, rfl⟩
theorem gf_Law_89 : GF "HillClock$Law" 89 2 3 (0, 0) := ⟨tb_i1 110 (by decide +kernel) (by decide +kernel), by decide, rfl⟩
theorem gf_Lines_9 : GF "HillClock$Lines" 9 3 1 (5, 1) := ⟨tb_i2 39 (by decide +kernel) (by decide +kernel), by decide, rfl⟩
theorem gf_Lines_15 : GF "HillClock$Lines" 15 3 2 (5, 2) := ⟨tb_i2 40 (by decide +kernel) (by decide +kernel), by decide, rfl⟩
theorem gf_Lines_18 : GF "HillClock$Lines" 18 3 3 (5, 3) := ⟨tb_i2 41 (by decide +kernel) (by decide +kernel), by decide, rfl⟩
theorem gf_Lines_21 : GF "HillClock$Lines" 21 3 0 (0, 0) := ⟨tb_i2 36 (by decide +kernel) (by decide +kernel), by decide, rfl⟩
theorem gf_Lines_48 : GF "HillClock$Lines" 48 7 2 (3, 0) := ⟨tb_i1 46 (by decide +kernel) (by decide +kernel), by decide, rfl⟩
theorem gf_Lines_63 : GF "HillClock$Lines" 63 0 7 (5, 3) := ⟨tb_i1 211 (by decide +kernel) (by decide +kernel), by decide, rfl⟩
theorem gf_Lines_69 : GF "HillClock$Lines" 69 0 2 (0, 0) := ⟨tb_i1 195 (by decide +kernel) (by decide +kernel), by decide, rfl⟩
theorem gf_Lines_76 : GF "HillClock$Lines" 76 0 6 (5, 2) := ⟨tb_i1 208 (by decide +kernel) (by decide +kernel), by decide, rfl⟩
theorem gf_Lines_79 : GF "HillClock$Lines" 79 0 1 (0, 0) := ⟨tb_i1 191 (by decide +kernel) (by decide +kernel), by decide, rfl⟩
theorem gf_Lines_116 : GF "HillClock$Lines" 116 6 3 (4, 0) := ⟨tb_i2 71 (by decide +kernel) (by decide +kernel), by decide, rfl⟩
theorem gf_Lines_120 : GF "HillClock$Lines" 120 6 4 (5, 1) := ⟨tb_i2 77 (by decide +kernel) (by decide +kernel), by decide, rfl⟩
theorem gf_Lines_127 : GF "HillClock$Lines" 127 6 5 (5, 2) := ⟨tb_i2 80 (by decide +kernel) (by decide +kernel), by decide, rfl⟩
theorem gf_Sight_9 : GF "HillClock$Sight" 9 4 0 (5, 1) := ⟨tb_i2 171 (by decide +kernel) (by decide +kernel), by decide, rfl⟩
theorem gf_Sight_15 : GF "HillClock$Sight" 15 4 1 (5, 2) := ⟨tb_i2 172 (by decide +kernel) (by decide +kernel), by decide, rfl⟩
theorem gf_Sight_52 : GF "HillClock$Sight" 52 0 0 (0, 0) := ⟨tb_i1 184 (by decide +kernel) (by decide +kernel), by decide, rfl⟩
theorem gf_Sight_66 : GF "HillClock$Sight" 66 0 8 (5, 4) := ⟨tb_i1 214 (by decide +kernel) (by decide +kernel), by decide, rfl⟩
theorem gf_Standing_12 : GF "HillClock$Standing" 12 5 1 (5, 1) := ⟨tb_i2 98 (by decide +kernel) (by decide +kernel), by decide, rfl⟩
theorem gf_Standing_21 : GF "HillClock$Standing" 21 5 2 (5, 4) := ⟨tb_i2 100 (by decide +kernel) (by decide +kernel), by decide, rfl⟩
theorem gf_Standing_25 : GF "HillClock$Standing" 25 5 4 (5, 8) := ⟨tb_i2 104 (by decide +kernel) (by decide +kernel), by decide, rfl⟩
theorem gf_Standing_29 : GF "HillClock$Standing" 29 5 5 (5, 9) := ⟨tb_i2 105 (by decide +kernel) (by decide +kernel), by decide, rfl⟩
theorem gf_Standing_32 : GF "HillClock$Standing" 32 5 7 (5, 10) := ⟨tb_i2 107 (by decide +kernel) (by decide +kernel), by decide, rfl⟩
theorem gf_Standing_43 : GF "HillClock$Standing" 43 5 3 (0, 0) := ⟨tb_i2 102 (by decide +kernel) (by decide +kernel), by decide, rfl⟩
theorem gf_Standing_65 : GF "HillClock$Standing" 65 5 6 (0, 0) := ⟨tb_i2 106 (by decide +kernel) (by decide +kernel), by decide, rfl⟩
theorem gf_Standing_74 : GF "HillClock$Standing" 74 0 2 (0, 0) := ⟨tb_i1 196 (by decide +kernel) (by decide +kernel), by decide, rfl⟩
theorem gf_State_9 : GF "HillClock$State" 9 6 4 (5, 1) := ⟨tb_i2 74 (by decide +kernel) (by decide +kernel), by decide, rfl⟩
theorem gf_State_15 : GF "HillClock$State" 15 6 5 (5, 2) := ⟨tb_i2 78 (by decide +kernel) (by decide +kernel), by decide, rfl⟩
theorem gf_State_18 : GF "HillClock$State" 18 6 0 (0, 0) := ⟨tb_i2 63 (by decide +kernel) (by decide +kernel), by decide, rfl⟩
theorem gf_State_22 : GF "HillClock$State" 22 6 1 (0, 0) := ⟨tb_i2 66 (by decide +kernel) (by decide +kernel), by decide, rfl⟩
theorem gf_State_25 : GF "HillClock$State" 25 0 1 (0, 0) := ⟨tb_i1 188 (by decide +kernel) (by decide +kernel), by decide, rfl⟩
theorem gf_State_30 : GF "HillClock$State" 30 6 2 (0, 0) := ⟨tb_i2 68 (by decide +kernel) (by decide +kernel), by decide, rfl⟩
theorem gf_State_33 : GF "HillClock$State" 33 6 3 (4, 0) := ⟨tb_i2 70 (by decide +kernel) (by decide +kernel), by decide, rfl⟩
theorem gf_State_43 : GF "HillClock$State" 43 0 11 (5, 7) := ⟨tb_i1 225 (by decide +kernel) (by decide +kernel), by decide, rfl⟩
theorem gf_State_56 : GF "HillClock$State" 56 0 10 (5, 6) := ⟨tb_i1 222 (by decide +kernel) (by decide +kernel), by decide, rfl⟩
theorem gf_State_60 : GF "HillClock$State" 60 0 12 (5, 8) := ⟨tb_i1 228 (by decide +kernel) (by decide +kernel), by decide, rfl⟩
theorem gf_Tape_9 : GF "HillClock$Tape" 9 7 5 (5, 1) := ⟨tb_i1 53 (by decide +kernel) (by decide +kernel), by decide, rfl⟩
theorem gf_Tape_21 : GF "HillClock$Tape" 21 7 0 (0, 0) := ⟨tb_i1 43 (by decide +kernel) (by decide +kernel), by decide, rfl⟩
theorem gf_Tape_25 : GF "HillClock$Tape" 25 7 1 (0, 0) := ⟨tb_i1 44 (by decide +kernel) (by decide +kernel), by decide, rfl⟩
theorem gf_Tape_28 : GF "HillClock$Tape" 28 7 8 (0, 0) := ⟨tb_i1 56 (by decide +kernel) (by decide +kernel), by decide, rfl⟩
theorem gf_Tape_34 : GF "HillClock$Tape" 34 7 7 (0, 0) := ⟨tb_i1 55 (by decide +kernel) (by decide +kernel), by decide, rfl⟩
theorem gf_Tape_37 : GF "HillClock$Tape" 37 7 2 (3, 0) := ⟨tb_i1 47 (by decide +kernel) (by decide +kernel), by decide, rfl⟩
theorem gf_Tape_41 : GF "HillClock$Tape" 41 7 6 (0, 0) := ⟨tb_i1 54 (by decide +kernel) (by decide +kernel), by decide, rfl⟩
theorem gf_Tape_64 : GF "HillClock$Tape" 64 7 3 (1, 0) := ⟨tb_i1 50 (by decide +kernel) (by decide +kernel), by decide, rfl⟩
theorem gf_Tape_77 : GF "HillClock$Tape" 77 7 4 (0, 0) := ⟨tb_i1 51 (by decide +kernel) (by decide +kernel), by decide, rfl⟩
theorem gf_Walk_9 : GF "HillClock$Walk" 9 8 2 (5, 1) := ⟨tb_i2 138 (by decide +kernel) (by decide +kernel), by decide, rfl⟩
theorem gf_Walk_15 : GF "HillClock$Walk" 15 8 3 (5, 2) := ⟨tb_i2 140 (by decide +kernel) (by decide +kernel), by decide, rfl⟩
theorem gf_Walk_18 : GF "HillClock$Walk" 18 8 4 (5, 3) := ⟨tb_i2 142 (by decide +kernel) (by decide +kernel), by decide, rfl⟩
theorem gf_Walk_21 : GF "HillClock$Walk" 21 8 5 (5, 4) := ⟨tb_i2 144 (by decide +kernel) (by decide +kernel), by decide, rfl⟩
theorem gf_Walk_24 : GF "HillClock$Walk" 24 8 6 (5, 5) := ⟨tb_i2 146 (by decide +kernel) (by decide +kernel), by decide, rfl⟩
theorem gf_Walk_27 : GF "HillClock$Walk" 27 8 0 (2, 0) := ⟨tb_i2 136 (by decide +kernel) (by decide +kernel), by decide, rfl⟩
theorem gf_Walk_31 : GF "HillClock$Walk" 31 8 1 (2, 0) := ⟨tb_i2 137 (by decide +kernel) (by decide +kernel), by decide, rfl⟩
theorem gf_Walk_35 : GF "HillClock$Walk" 35 8 7 (0, 0) := ⟨tb_i2 147 (by decide +kernel) (by decide +kernel), by decide, rfl⟩
theorem gf_Walk_39 : GF "HillClock$Walk" 39 0 1 (0, 0) := ⟨tb_i1 189 (by decide +kernel) (by decide +kernel), by decide, rfl⟩
theorem gf_Walk_50 : GF "HillClock$Walk" 50 0 10 (5, 6) := ⟨tb_i1 220 (by decide +kernel) (by decide +kernel), by decide, rfl⟩
theorem gf_Walk_54 : GF "HillClock$Walk" 54 9 1 (0, 0) := ⟨tb_i1 130 (by decide +kernel) (by decide +kernel), by decide, rfl⟩
theorem gf_Walk_59 : GF "HillClock$Walk" 59 6 4 (5, 1) := ⟨tb_i2 75 (by decide +kernel) (by decide +kernel), by decide, rfl⟩
theorem gf_Walk_86 : GF "HillClock$Walk" 86 9 5 (5, 1) := ⟨tb_i1 141 (by decide +kernel) (by decide +kernel), by decide, rfl⟩
theorem gf_Walk_97 : GF "HillClock$Walk" 97 9 4 (0, 0) := ⟨tb_i1 138 (by decide +kernel) (by decide +kernel), by decide, rfl⟩
theorem gf_Walk_100 : GF "HillClock$Walk" 100 0 9 (5, 5) := ⟨tb_i1 218 (by decide +kernel) (by decide +kernel), by decide, rfl⟩
theorem gf_Walk_103 : GF "HillClock$Walk" 103 9 6 (5, 2) := ⟨tb_i1 145 (by decide +kernel) (by decide +kernel), by decide, rfl⟩
theorem gf_Walk_109 : GF "HillClock$Walk" 109 9 7 (5, 3) := ⟨tb_i1 148 (by decide +kernel) (by decide +kernel), by decide, rfl⟩
theorem gf_Walk_118 : GF "HillClock$Walk" 118 6 3 (4, 0) := ⟨tb_i2 72 (by decide +kernel) (by decide +kernel), by decide, rfl⟩
theorem gf_Walk_126 : GF "HillClock$Walk" 126 0 0 (0, 0) := ⟨tb_i1 185 (by decide +kernel) (by decide +kernel), by decide, rfl⟩
theorem gf_Walk_133 : GF "HillClock$Walk" 133 6 5 (5, 2) := ⟨tb_i2 81 (by decide +kernel) (by decide +kernel), by decide, rfl⟩
theorem gf_Walk_136 : GF "HillClock$Walk" 136 0 12 (5, 8) := ⟨tb_i1 231 (by decide +kernel) (by decide +kernel), by decide, rfl⟩
theorem gf_Walk_145 : GF "HillClock$Walk" 145 0 13 (5, 9) := ⟨tb_i1 235 (by decide +kernel) (by decide +kernel), by decide, rfl⟩
theorem gf_Walk_151 : GF "HillClock$Walk" 151 0 14 (5, 10) := ⟨tb_i1 238 (by decide +kernel) (by decide +kernel), by decide, rfl⟩
theorem gf_Walk_161 : GF "HillClock$Walk" 161 6 0 (0, 0) := ⟨tb_i2 64 (by decide +kernel) (by decide +kernel), by decide, rfl⟩
theorem gf_Walk_170 : GF "HillClock$Walk" 170 0 2 (0, 0) := ⟨tb_i1 197 (by decide +kernel) (by decide +kernel), by decide, rfl⟩
theorem gf_Walker_9 : GF "HillClock$Walker" 9 9 5 (5, 1) := ⟨tb_i1 140 (by decide +kernel) (by decide +kernel), by decide, rfl⟩
theorem gf_Walker_15 : GF "HillClock$Walker" 15 9 6 (5, 2) := ⟨tb_i1 144 (by decide +kernel) (by decide +kernel), by decide, rfl⟩
theorem gf_Walker_21 : GF "HillClock$Walker" 21 9 4 (0, 0) := ⟨tb_i1 136 (by decide +kernel) (by decide +kernel), by decide, rfl⟩
theorem gf_Walker_31 : GF "HillClock$Walker" 31 9 0 (0, 0) := ⟨tb_i1 127 (by decide +kernel) (by decide +kernel), by decide, rfl⟩
theorem gf_Walker_34 : GF "HillClock$Walker" 34 9 3 (0, 0) := ⟨tb_i1 134 (by decide +kernel) (by decide +kernel), by decide, rfl⟩
theorem gf_Walker_37 : GF "HillClock$Walker" 37 9 2 (0, 0) := ⟨tb_i1 132 (by decide +kernel) (by decide +kernel), by decide, rfl⟩
theorem gf_Model_7 : GF "HillClockModel" 7 11 2 (5, 1) := ⟨tb_i6 113 (by decide +kernel) (by decide +kernel), by decide, rfl⟩
theorem gf_Model_13 : GF "HillClockModel" 13 11 10 (5, 2) := ⟨tb_i6 121 (by decide +kernel) (by decide +kernel), by decide, rfl⟩
theorem gf_Model_16 : GF "HillClockModel" 16 11 11 (5, 3) := ⟨tb_i6 122 (by decide +kernel) (by decide +kernel), by decide, rfl⟩
theorem gf_Model_20 : GF "HillClockModel" 20 11 12 (5, 4) := ⟨tb_i6 123 (by decide +kernel) (by decide +kernel), by decide, rfl⟩
theorem gf_Model_23 : GF "HillClockModel" 23 11 13 (5, 5) := ⟨tb_i6 124 (by decide +kernel) (by decide +kernel), by decide, rfl⟩
theorem gf_Model_26 : GF "HillClockModel" 26 11 14 (5, 6) := ⟨tb_i6 125 (by decide +kernel) (by decide +kernel), by decide, rfl⟩
theorem gf_Model_29 : GF "HillClockModel" 29 11 15 (5, 7) := ⟨tb_i6 126 (by decide +kernel) (by decide +kernel), by decide, rfl⟩
theorem gf_Model_32 : GF "HillClockModel" 32 11 16 (5, 8) := ⟨tb_i6 127 (by decide +kernel) (by decide +kernel), by decide, rfl⟩
theorem gf_Model_35 : GF "HillClockModel" 35 11 17 (5, 9) := ⟨tb_i6 128 (by decide +kernel) (by decide +kernel), by decide, rfl⟩
theorem gf_Model_38 : GF "HillClockModel" 38 11 18 (5, 10) := ⟨tb_i6 129 (by decide +kernel) (by decide +kernel), by decide, rfl⟩
theorem gf_Model_41 : GF "HillClockModel" 41 11 19 (5, 11) := ⟨tb_i6 130 (by decide +kernel) (by decide +kernel), by decide, rfl⟩
theorem gf_Model_44 : GF "HillClockModel" 44 11 20 (5, 12) := ⟨tb_i6 131 (by decide +kernel) (by decide +kernel), by decide, rfl⟩
theorem gf_Model_47 : GF "HillClockModel" 47 11 21 (5, 13) := ⟨tb_i6 132 (by decide +kernel) (by decide +kernel), by decide, rfl⟩
theorem gf_Model_50 : GF "HillClockModel" 50 11 22 (5, 14) := ⟨tb_i6 133 (by decide +kernel) (by decide +kernel), by decide, rfl⟩
theorem gf_Model_53 : GF "HillClockModel" 53 11 23 (5, 15) := ⟨tb_i6 134 (by decide +kernel) (by decide +kernel), by decide, rfl⟩
theorem gf_Model_56 : GF "HillClockModel" 56 11 24 (5, 16) := ⟨tb_i6 135 (by decide +kernel) (by decide +kernel), by decide, rfl⟩
theorem gf_Model_59 : GF "HillClockModel" 59 11 25 (5, 17) := ⟨tb_i6 136 (by decide +kernel) (by decide +kernel), by decide, rfl⟩
theorem gf_Model_62 : GF "HillClockModel" 62 11 26 (5, 18) := ⟨tb_i6 137 (by decide +kernel) (by decide +kernel), by decide, rfl⟩
theorem gf_Model_65 : GF "HillClockModel" 65 11 27 (5, 19) := ⟨tb_i6 138 (by decide +kernel) (by decide +kernel), by decide, rfl⟩
theorem gf_Model_68 : GF "HillClockModel" 68 11 28 (5, 20) := ⟨tb_i6 139 (by decide +kernel) (by decide +kernel), by decide, rfl⟩
theorem gf_Model_71 : GF "HillClockModel" 71 11 30 (5, 21) := ⟨tb_i6 141 (by decide +kernel) (by decide +kernel), by decide, rfl⟩
theorem gf_Model_74 : GF "HillClockModel" 74 11 31 (5, 22) := ⟨tb_i6 142 (by decide +kernel) (by decide +kernel), by decide, rfl⟩
theorem gf_Model_78 : GF "HillClockModel" 78 11 32 (5, 23) := ⟨tb_i6 143 (by decide +kernel) (by decide +kernel), by decide, rfl⟩
theorem gf_Model_81 : GF "HillClockModel" 81 11 33 (5, 24) := ⟨tb_i6 144 (by decide +kernel) (by decide +kernel), by decide, rfl⟩
theorem gf_Model_84 : GF "HillClockModel" 84 11 34 (5, 25) := ⟨tb_i6 145 (by decide +kernel) (by decide +kernel), by decide, rfl⟩
theorem gf_Model_87 : GF "HillClockModel" 87 11 35 (5, 26) := ⟨tb_i6 146 (by decide +kernel) (by decide +kernel), by decide, rfl⟩
theorem gf_Model_90 : GF "HillClockModel" 90 11 36 (5, 27) := ⟨tb_i6 147 (by decide +kernel) (by decide +kernel), by decide, rfl⟩
theorem gf_Model_93 : GF "HillClockModel" 93 11 37 (5, 28) := ⟨tb_i6 148 (by decide +kernel) (by decide +kernel), by decide, rfl⟩
theorem gf_Model_96 : GF "HillClockModel" 96 11 38 (5, 29) := ⟨tb_i6 149 (by decide +kernel) (by decide +kernel), by decide, rfl⟩
theorem gf_Model_99 : GF "HillClockModel" 99 11 39 (5, 30) := ⟨tb_i6 150 (by decide +kernel) (by decide +kernel), by decide, rfl⟩
theorem gf_Model_102 : GF "HillClockModel" 102 11 40 (5, 31) := ⟨tb_i6 151 (by decide +kernel) (by decide +kernel), by decide, rfl⟩
theorem gf_Model_105 : GF "HillClockModel" 105 11 41 (5, 32) := ⟨tb_i6 152 (by decide +kernel) (by decide +kernel), by decide, rfl⟩
theorem gf_Model_108 : GF "HillClockModel" 108 11 44 (5, 33) := ⟨tb_i6 155 (by decide +kernel) (by decide +kernel), by decide, rfl⟩
theorem gf_Model_111 : GF "HillClockModel" 111 11 45 (5, 34) := ⟨tb_i6 156 (by decide +kernel) (by decide +kernel), by decide, rfl⟩
theorem gf_Model_114 : GF "HillClockModel" 114 11 46 (5, 35) := ⟨tb_i6 157 (by decide +kernel) (by decide +kernel), by decide, rfl⟩
theorem gf_Model_117 : GF "HillClockModel" 117 11 47 (5, 36) := ⟨tb_i6 158 (by decide +kernel) (by decide +kernel), by decide, rfl⟩
theorem gf_Model_120 : GF "HillClockModel" 120 11 48 (5, 37) := ⟨tb_i6 159 (by decide +kernel) (by decide +kernel), by decide, rfl⟩
theorem gf_Model_123 : GF "HillClockModel" 123 11 49 (5, 38) := ⟨tb_i6 160 (by decide +kernel) (by decide +kernel), by decide, rfl⟩
theorem gf_Model_126 : GF "HillClockModel" 126 11 50 (5, 39) := ⟨tb_i6 161 (by decide +kernel) (by decide +kernel), by decide, rfl⟩
theorem gf_Model_129 : GF "HillClockModel" 129 11 51 (5, 40) := ⟨tb_i6 162 (by decide +kernel) (by decide +kernel), by decide, rfl⟩
theorem gf_Model_132 : GF "HillClockModel" 132 11 52 (5, 41) := ⟨tb_i6 163 (by decide +kernel) (by decide +kernel), by decide, rfl⟩
theorem gf_Model_135 : GF "HillClockModel" 135 11 53 (5, 42) := ⟨tb_i6 164 (by decide +kernel) (by decide +kernel), by decide, rfl⟩
theorem gf_Model_138 : GF "HillClockModel" 138 11 54 (5, 43) := ⟨tb_i6 165 (by decide +kernel) (by decide +kernel), by decide, rfl⟩
theorem gf_Model_141 : GF "HillClockModel" 141 11 55 (5, 44) := ⟨tb_i6 166 (by decide +kernel) (by decide +kernel), by decide, rfl⟩
theorem gf_Model_144 : GF "HillClockModel" 144 11 56 (5, 45) := ⟨tb_i6 167 (by decide +kernel) (by decide +kernel), by decide, rfl⟩
theorem gf_Model_147 : GF "HillClockModel" 147 11 57 (5, 46) := ⟨tb_i6 168 (by decide +kernel) (by decide +kernel), by decide, rfl⟩
theorem gf_Model_150 : GF "HillClockModel" 150 11 59 (5, 47) := ⟨tb_i6 170 (by decide +kernel) (by decide +kernel), by decide, rfl⟩
theorem gf_Model_153 : GF "HillClockModel" 153 11 60 (5, 48) := ⟨tb_i6 171 (by decide +kernel) (by decide +kernel), by decide, rfl⟩
theorem gf_Model_156 : GF "HillClockModel" 156 11 61 (5, 49) := ⟨tb_i6 172 (by decide +kernel) (by decide +kernel), by decide, rfl⟩
theorem gf_Model_159 : GF "HillClockModel" 159 11 62 (5, 50) := ⟨tb_i6 173 (by decide +kernel) (by decide +kernel), by decide, rfl⟩
theorem gf_Model_162 : GF "HillClockModel" 162 11 63 (5, 51) := ⟨tb_i6 174 (by decide +kernel) (by decide +kernel), by decide, rfl⟩
theorem gf_Model_165 : GF "HillClockModel" 165 11 65 (5, 52) := ⟨tb_i6 176 (by decide +kernel) (by decide +kernel), by decide, rfl⟩
theorem gf_Model_168 : GF "HillClockModel" 168 11 66 (5, 53) := ⟨tb_i6 177 (by decide +kernel) (by decide +kernel), by decide, rfl⟩
theorem gf_Model_171 : GF "HillClockModel" 171 11 67 (5, 54) := ⟨tb_i6 178 (by decide +kernel) (by decide +kernel), by decide, rfl⟩
theorem gf_Model_174 : GF "HillClockModel" 174 11 69 (5, 55) := ⟨tb_i6 180 (by decide +kernel) (by decide +kernel), by decide, rfl⟩
theorem gf_Model_177 : GF "HillClockModel" 177 11 70 (5, 56) := ⟨tb_i6 181 (by decide +kernel) (by decide +kernel), by decide, rfl⟩
theorem gf_Model_183 : GF "HillClockModel" 183 11 0 (0, 0) := ⟨tb_i6 111 (by decide +kernel) (by decide +kernel), by decide, rfl⟩
theorem gf_Model_189 : GF "HillClockModel" 189 11 1 (0, 0) := ⟨tb_i6 112 (by decide +kernel) (by decide +kernel), by decide, rfl⟩
theorem gf_Model_192 : GF "HillClockModel" 192 11 3 (0, 0) := ⟨tb_i6 114 (by decide +kernel) (by decide +kernel), by decide, rfl⟩
theorem gf_Model_195 : GF "HillClockModel" 195 11 4 (0, 0) := ⟨tb_i6 115 (by decide +kernel) (by decide +kernel), by decide, rfl⟩
theorem gf_Model_198 : GF "HillClockModel" 198 11 5 (0, 0) := ⟨tb_i6 116 (by decide +kernel) (by decide +kernel), by decide, rfl⟩
theorem gf_Model_201 : GF "HillClockModel" 201 11 7 (1, 0) := ⟨tb_i6 118 (by decide +kernel) (by decide +kernel), by decide, rfl⟩
theorem gf_Model_205 : GF "HillClockModel" 205 11 8 (0, 0) := ⟨tb_i6 119 (by decide +kernel) (by decide +kernel), by decide, rfl⟩
theorem gf_Model_208 : GF "HillClockModel" 208 11 6 (0, 0) := ⟨tb_i6 117 (by decide +kernel) (by decide +kernel), by decide, rfl⟩
theorem gf_Model_219 : GF "HillClockModel" 219 11 9 (0, 0) := ⟨tb_i6 120 (by decide +kernel) (by decide +kernel), by decide, rfl⟩
theorem gf_Model_222 : GF "HillClockModel" 222 11 29 (0, 0) := ⟨tb_i6 140 (by decide +kernel) (by decide +kernel), by decide, rfl⟩
theorem gf_Model_322 : GF "HillClockModel" 322 11 42 (0, 0) := ⟨tb_i6 153 (by decide +kernel) (by decide +kernel), by decide, rfl⟩
theorem gf_Model_345 : GF "HillClockModel" 345 11 43 (1, 0) := ⟨tb_i6 154 (by decide +kernel) (by decide +kernel), by decide, rfl⟩
theorem gf_Model_416 : GF "HillClockModel" 416 11 58 (0, 0) := ⟨tb_i6 169 (by decide +kernel) (by decide +kernel), by decide, rfl⟩
theorem gf_Model_498 : GF "HillClockModel" 498 11 64 (0, 0) := ⟨tb_i6 175 (by decide +kernel) (by decide +kernel), by decide, rfl⟩
theorem gf_Model_522 : GF "HillClockModel" 522 11 68 (0, 0) := ⟨tb_i6 179 (by decide +kernel) (by decide +kernel), by decide, rfl⟩
theorem gf_Model_553 : GF "HillClockModel" 553 11 71 (1, 0) := ⟨tb_i6 182 (by decide +kernel) (by decide +kernel), by decide, rfl⟩
theorem gp_Clock_28 : GP "HillClock" 28 10 2 (2, 0) (.object "HillClock$Hills") := ⟨⟨tb_i2 180 (by decide +kernel) (by decide +kernel), by decide, rfl⟩, rfl, rfl⟩
theorem gp_Clock_32 : GP "HillClock" 32 10 3 (2, 0) (.object "HillClock$Hills") := ⟨⟨tb_i2 181 (by decide +kernel) (by decide +kernel), by decide, rfl⟩, rfl, rfl⟩
theorem gp_Clock_107 : GP "HillClock" 107 10 9 (0, 0) .int := ⟨⟨tb_i2 187 (by decide +kernel) (by decide +kernel), by decide, rfl⟩, rfl, rfl⟩
theorem gp_Clock_110 : GP "HillClock" 110 5 0 (4, 0) .boolean := ⟨⟨tb_i2 97 (by decide +kernel) (by decide +kernel), by decide, rfl⟩, rfl, rfl⟩
theorem gp_Clock_209 : GP "HillClock" 209 6 3 (4, 0) .boolean := ⟨⟨tb_i2 73 (by decide +kernel) (by decide +kernel), by decide, rfl⟩, rfl, rfl⟩
theorem gp_Clock_219 : GP "HillClock" 219 10 8 (0, 0) .int := ⟨⟨tb_i2 186 (by decide +kernel) (by decide +kernel), by decide, rfl⟩, rfl, rfl⟩
theorem gp_Clock_266 : GP "HillClock" 266 10 17 (0, 0) .int := ⟨⟨tb_i2 195 (by decide +kernel) (by decide +kernel), by decide, rfl⟩, rfl, rfl⟩
theorem gp_Clock_315 : GP "HillClock" 315 10 18 (1, 0) .long := ⟨⟨tb_i2 196 (by decide +kernel) (by decide +kernel), by decide, rfl⟩, rfl, rfl⟩
theorem gp_Hills_54 : GP "HillClock$Hills" 54 0 0 (0, 0) .int := ⟨⟨tb_i1 182 (by decide +kernel) (by decide +kernel), by decide, rfl⟩, rfl, rfl⟩
theorem gp_Hills_58 : GP "HillClock$Hills" 58 0 1 (0, 0) .int := ⟨⟨tb_i1 187 (by decide +kernel) (by decide +kernel), by decide, rfl⟩, rfl, rfl⟩
theorem gp_Hills_61 : GP "HillClock$Hills" 61 0 2 (0, 0) .int := ⟨⟨tb_i1 193 (by decide +kernel) (by decide +kernel), by decide, rfl⟩, rfl, rfl⟩
theorem gp_Hills_64 : GP "HillClock$Hills" 64 0 3 (0, 0) .int := ⟨⟨tb_i1 199 (by decide +kernel) (by decide +kernel), by decide, rfl⟩, rfl, rfl⟩
theorem gp_Hills_67 : GP "HillClock$Hills" 67 0 4 (0, 0) .int := ⟨⟨tb_i1 202 (by decide +kernel) (by decide +kernel), by decide, rfl⟩, rfl, rfl⟩
theorem gp_HillsReader_15 : GP "HillClock$HillsReader" 15 1 1 (2, 0) (.object "HillClock$Hills") := ⟨⟨tb_i1 84 (by decide +kernel) (by decide +kernel), by decide, rfl⟩, rfl, rfl⟩
theorem gp_HillsReader_24 : GP "HillClock$HillsReader" 24 1 2 (4, 0) .boolean := ⟨⟨tb_i1 85 (by decide +kernel) (by decide +kernel), by decide, rfl⟩, rfl, rfl⟩
theorem gp_HillsReader_46 : GP "HillClock$HillsReader" 46 0 0 (0, 0) .int := ⟨⟨tb_i1 183 (by decide +kernel) (by decide +kernel), by decide, rfl⟩, rfl, rfl⟩
theorem gp_HillsReader_70 : GP "HillClock$HillsReader" 70 0 1 (0, 0) .int := ⟨⟨tb_i1 190 (by decide +kernel) (by decide +kernel), by decide, rfl⟩, rfl, rfl⟩
theorem gp_HillsReader_79 : GP "HillClock$HillsReader" 79 0 4 (0, 0) .int := ⟨⟨tb_i1 203 (by decide +kernel) (by decide +kernel), by decide, rfl⟩, rfl, rfl⟩
theorem gp_HillsReader_88 : GP "HillClock$HillsReader" 88 0 2 (0, 0) .int := ⟨⟨tb_i1 194 (by decide +kernel) (by decide +kernel), by decide, rfl⟩, rfl, rfl⟩
theorem gp_HillsReader_160 : GP "HillClock$HillsReader" 160 0 3 (0, 0) .int := ⟨⟨tb_i1 200 (by decide +kernel) (by decide +kernel), by decide, rfl⟩, rfl, rfl⟩
theorem gp_HillsReader_173 : GP "HillClock$HillsReader" 173 9 0 (0, 0) .int := ⟨⟨tb_i1 129 (by decide +kernel) (by decide +kernel), by decide, rfl⟩, rfl, rfl⟩
theorem gp_HillsReader_179 : GP "HillClock$HillsReader" 179 9 1 (0, 0) .int := ⟨⟨tb_i1 131 (by decide +kernel) (by decide +kernel), by decide, rfl⟩, rfl, rfl⟩
theorem gp_HillsReader_185 : GP "HillClock$HillsReader" 185 9 2 (0, 0) .int := ⟨⟨tb_i1 133 (by decide +kernel) (by decide +kernel), by decide, rfl⟩, rfl, rfl⟩
theorem gp_HillsReader_191 : GP "HillClock$HillsReader" 191 9 3 (0, 0) .int := ⟨⟨tb_i1 135 (by decide +kernel) (by decide +kernel), by decide, rfl⟩, rfl, rfl⟩
theorem gp_HillsReader_219 : GP "HillClock$HillsReader" 219 9 4 (0, 0) .int := ⟨⟨tb_i1 139 (by decide +kernel) (by decide +kernel), by decide, rfl⟩, rfl, rfl⟩
theorem gp_Law_18 : GP "HillClock$Law" 18 2 2 (0, 0) .int := ⟨⟨tb_i1 109 (by decide +kernel) (by decide +kernel), by decide, rfl⟩, rfl, rfl⟩
theorem gp_Law_89 : GP "HillClock$Law" 89 2 3 (0, 0) .int := ⟨⟨tb_i1 110 (by decide +kernel) (by decide +kernel), by decide, rfl⟩, rfl, rfl⟩
theorem gp_Lines_21 : GP "HillClock$Lines" 21 3 0 (0, 0) .int := ⟨⟨tb_i2 36 (by decide +kernel) (by decide +kernel), by decide, rfl⟩, rfl, rfl⟩
theorem gp_Lines_116 : GP "HillClock$Lines" 116 6 3 (4, 0) .boolean := ⟨⟨tb_i2 71 (by decide +kernel) (by decide +kernel), by decide, rfl⟩, rfl, rfl⟩
theorem gp_Standing_39 : GP "HillClock$Standing" 39 3 0 (0, 0) .int := ⟨⟨tb_i2 37 (by decide +kernel) (by decide +kernel), by decide, rfl⟩, rfl, rfl⟩
theorem gp_Standing_43 : GP "HillClock$Standing" 43 5 3 (0, 0) .int := ⟨⟨tb_i2 102 (by decide +kernel) (by decide +kernel), by decide, rfl⟩, rfl, rfl⟩
theorem gp_Standing_65 : GP "HillClock$Standing" 65 5 6 (0, 0) .int := ⟨⟨tb_i2 106 (by decide +kernel) (by decide +kernel), by decide, rfl⟩, rfl, rfl⟩
theorem gp_State_18 : GP "HillClock$State" 18 6 0 (0, 0) .int := ⟨⟨tb_i2 63 (by decide +kernel) (by decide +kernel), by decide, rfl⟩, rfl, rfl⟩
theorem gp_State_22 : GP "HillClock$State" 22 6 1 (0, 0) .int := ⟨⟨tb_i2 66 (by decide +kernel) (by decide +kernel), by decide, rfl⟩, rfl, rfl⟩
theorem gp_State_30 : GP "HillClock$State" 30 6 2 (0, 0) .int := ⟨⟨tb_i2 68 (by decide +kernel) (by decide +kernel), by decide, rfl⟩, rfl, rfl⟩
theorem gp_State_33 : GP "HillClock$State" 33 6 3 (4, 0) .boolean := ⟨⟨tb_i2 70 (by decide +kernel) (by decide +kernel), by decide, rfl⟩, rfl, rfl⟩
theorem gp_Tape_21 : GP "HillClock$Tape" 21 7 0 (0, 0) .int := ⟨⟨tb_i1 43 (by decide +kernel) (by decide +kernel), by decide, rfl⟩, rfl, rfl⟩
theorem gp_Tape_25 : GP "HillClock$Tape" 25 7 1 (0, 0) .int := ⟨⟨tb_i1 44 (by decide +kernel) (by decide +kernel), by decide, rfl⟩, rfl, rfl⟩
theorem gp_Tape_28 : GP "HillClock$Tape" 28 7 8 (0, 0) .int := ⟨⟨tb_i1 56 (by decide +kernel) (by decide +kernel), by decide, rfl⟩, rfl, rfl⟩
theorem gp_Tape_34 : GP "HillClock$Tape" 34 7 7 (0, 0) .int := ⟨⟨tb_i1 55 (by decide +kernel) (by decide +kernel), by decide, rfl⟩, rfl, rfl⟩
theorem gp_Tape_37 : GP "HillClock$Tape" 37 7 2 (3, 0) (.object "HillClock$Word") := ⟨⟨tb_i1 47 (by decide +kernel) (by decide +kernel), by decide, rfl⟩, rfl, rfl⟩
theorem gp_Tape_41 : GP "HillClock$Tape" 41 7 6 (0, 0) .int := ⟨⟨tb_i1 54 (by decide +kernel) (by decide +kernel), by decide, rfl⟩, rfl, rfl⟩
theorem gp_Tape_64 : GP "HillClock$Tape" 64 7 3 (1, 0) .long := ⟨⟨tb_i1 50 (by decide +kernel) (by decide +kernel), by decide, rfl⟩, rfl, rfl⟩
theorem gp_Tape_77 : GP "HillClock$Tape" 77 7 4 (0, 0) .int := ⟨⟨tb_i1 51 (by decide +kernel) (by decide +kernel), by decide, rfl⟩, rfl, rfl⟩
theorem gp_Walk_27 : GP "HillClock$Walk" 27 8 0 (2, 0) (.object "HillClock$Hills") := ⟨⟨tb_i2 136 (by decide +kernel) (by decide +kernel), by decide, rfl⟩, rfl, rfl⟩
theorem gp_Walk_31 : GP "HillClock$Walk" 31 8 1 (2, 0) (.object "HillClock$State") := ⟨⟨tb_i2 137 (by decide +kernel) (by decide +kernel), by decide, rfl⟩, rfl, rfl⟩
theorem gp_Walk_35 : GP "HillClock$Walk" 35 8 7 (0, 0) .int := ⟨⟨tb_i2 147 (by decide +kernel) (by decide +kernel), by decide, rfl⟩, rfl, rfl⟩
theorem gp_Walker_21 : GP "HillClock$Walker" 21 9 4 (0, 0) .int := ⟨⟨tb_i1 136 (by decide +kernel) (by decide +kernel), by decide, rfl⟩, rfl, rfl⟩
theorem gp_Model_183 : GP "HillClockModel" 183 11 0 (0, 0) .int := ⟨⟨tb_i6 111 (by decide +kernel) (by decide +kernel), by decide, rfl⟩, rfl, rfl⟩
theorem gp_Model_189 : GP "HillClockModel" 189 11 1 (0, 0) .int := ⟨⟨tb_i6 112 (by decide +kernel) (by decide +kernel), by decide, rfl⟩, rfl, rfl⟩
theorem gp_Model_192 : GP "HillClockModel" 192 11 3 (0, 0) .int := ⟨⟨tb_i6 114 (by decide +kernel) (by decide +kernel), by decide, rfl⟩, rfl, rfl⟩
theorem gp_Model_195 : GP "HillClockModel" 195 11 4 (0, 0) .int := ⟨⟨tb_i6 115 (by decide +kernel) (by decide +kernel), by decide, rfl⟩, rfl, rfl⟩
theorem gp_Model_198 : GP "HillClockModel" 198 11 5 (0, 0) .int := ⟨⟨tb_i6 116 (by decide +kernel) (by decide +kernel), by decide, rfl⟩, rfl, rfl⟩
theorem gp_Model_201 : GP "HillClockModel" 201 11 7 (1, 0) .long := ⟨⟨tb_i6 118 (by decide +kernel) (by decide +kernel), by decide, rfl⟩, rfl, rfl⟩
theorem gp_Model_205 : GP "HillClockModel" 205 11 8 (0, 0) .int := ⟨⟨tb_i6 119 (by decide +kernel) (by decide +kernel), by decide, rfl⟩, rfl, rfl⟩
theorem gp_Model_208 : GP "HillClockModel" 208 11 6 (0, 0) .int := ⟨⟨tb_i6 117 (by decide +kernel) (by decide +kernel), by decide, rfl⟩, rfl, rfl⟩
theorem gp_Model_219 : GP "HillClockModel" 219 11 9 (0, 0) .int := ⟨⟨tb_i6 120 (by decide +kernel) (by decide +kernel), by decide, rfl⟩, rfl, rfl⟩
theorem gp_Model_222 : GP "HillClockModel" 222 11 29 (0, 0) .int := ⟨⟨tb_i6 140 (by decide +kernel) (by decide +kernel), by decide, rfl⟩, rfl, rfl⟩
theorem gp_Model_322 : GP "HillClockModel" 322 11 42 (0, 0) .int := ⟨⟨tb_i6 153 (by decide +kernel) (by decide +kernel), by decide, rfl⟩, rfl, rfl⟩
theorem gp_Model_345 : GP "HillClockModel" 345 11 43 (1, 0) .long := ⟨⟨tb_i6 154 (by decide +kernel) (by decide +kernel), by decide, rfl⟩, rfl, rfl⟩
theorem gp_Model_416 : GP "HillClockModel" 416 11 58 (0, 0) .int := ⟨⟨tb_i6 169 (by decide +kernel) (by decide +kernel), by decide, rfl⟩, rfl, rfl⟩
theorem gp_Model_498 : GP "HillClockModel" 498 11 64 (0, 0) .int := ⟨⟨tb_i6 175 (by decide +kernel) (by decide +kernel), by decide, rfl⟩, rfl, rfl⟩
theorem gp_Model_522 : GP "HillClockModel" 522 11 68 (0, 0) .int := ⟨⟨tb_i6 179 (by decide +kernel) (by decide +kernel), by decide, rfl⟩, rfl, rfl⟩
theorem gp_Model_553 : GP "HillClockModel" 553 11 71 (1, 0) .long := ⟨⟨tb_i6 182 (by decide +kernel) (by decide +kernel), by decide, rfl⟩, rfl, rfl⟩
theorem ml_Clock_91 : Cond.methodLink "HillClock" 91 ⟨"HillClock$Tape", "append", "(J)V"⟩ ∈ TBL := tb_i3 0 (by decide +kernel) (by decide +kernel)
theorem ml_Clock_99 : Cond.methodLink "HillClock" 99 ⟨"HillClock$HillsReader", "read", "(LHillClock$Hills;)I"⟩ ∈ TBL := tb_i3 12 (by decide +kernel) (by decide +kernel)
theorem ml_Clock_103 : Cond.methodLink "HillClock" 103 ⟨"HillClock$Standing", "begin", "(LHillClock$Hills;)V"⟩ ∈ TBL := tb_i4 88 (by decide +kernel) (by decide +kernel)
theorem ml_Clock_114 : Cond.methodLink "HillClock" 114 ⟨"HillClock$Lines", "read", "(LHillClock$Tape;LHillClock$Hills;)I"⟩ ∈ TBL := tb_i4 106 (by decide +kernel) (by decide +kernel)
theorem ml_Clock_120 : Cond.methodLink "HillClock" 120 ⟨"HillClock$Lines", "copy", "(LHillClock$Lines;)V"⟩ ∈ TBL := tb_i4 135 (by decide +kernel) (by decide +kernel)
theorem ml_Clock_124 : Cond.methodLink "HillClock" 124 ⟨"HillClock", "isPlace", "(I)Z"⟩ ∈ TBL := tb_i4 144 (by decide +kernel) (by decide +kernel)
theorem ml_Clock_131 : Cond.methodLink "HillClock" 131 ⟨"HillClock", "isWalker", "(I)Z"⟩ ∈ TBL := tb_i4 152 (by decide +kernel) (by decide +kernel)
theorem ml_Clock_146 : Cond.methodLink "HillClock" 146 ⟨"HillClock$State", "lives", "(I)Z"⟩ ∈ TBL := tb_i4 156 (by decide +kernel) (by decide +kernel)
theorem ml_Clock_158 : Cond.methodLink "HillClock" 158 ⟨"HillClock", "isMinute", "(I)Z"⟩ ∈ TBL := tb_i4 164 (by decide +kernel) (by decide +kernel)
theorem ml_Clock_161 : Cond.methodLink "HillClock" 161 ⟨"HillClock$Walk", "go", "(LHillClock$Hills;LHillClock$State;)V"⟩ ∈ TBL := tb_i4 168 (by decide +kernel) (by decide +kernel)
theorem ml_Clock_165 : Cond.methodLink "HillClock" 165 ⟨"HillClock$Walk", "placeOf", "(II)I"⟩ ∈ TBL := tb_i4 215 (by decide +kernel) (by decide +kernel)
theorem ml_Clock_169 : Cond.methodLink "HillClock" 169 ⟨"HillClock", "isHour", "(I)Z"⟩ ∈ TBL := tb_i4 223 (by decide +kernel) (by decide +kernel)
theorem ml_Clock_181 : Cond.methodLink "HillClock" 181 ⟨"HillClock$Walk", "minuteOf", "(I)I"⟩ ∈ TBL := tb_i4 227 (by decide +kernel) (by decide +kernel)
theorem ml_Clock_185 : Cond.methodLink "HillClock" 185 ⟨"HillClock$Walk", "off", "(I)I"⟩ ∈ TBL := tb_i4 235 (by decide +kernel) (by decide +kernel)
theorem ml_Clock_188 : Cond.methodLink "HillClock" 188 ⟨"HillClock$Walk", "cost", "(I)I"⟩ ∈ TBL := tb_i5 6 (by decide +kernel) (by decide +kernel)
theorem ml_Clock_191 : Cond.methodLink "HillClock" 191 ⟨"HillClock", "areTwo", "(II)Z"⟩ ∈ TBL := tb_i5 33 (by decide +kernel) (by decide +kernel)
theorem ml_Clock_195 : Cond.methodLink "HillClock" 195 ⟨"HillClock$Walk", "firstMeeting", "(II)I"⟩ ∈ TBL := tb_i5 37 (by decide +kernel) (by decide +kernel)
theorem ml_Clock_198 : Cond.methodLink "HillClock" 198 ⟨"HillClock", "remember", "()V"⟩ ∈ TBL := tb_i5 49 (by decide +kernel) (by decide +kernel)
theorem ml_Clock_201 : Cond.methodLink "HillClock" 201 ⟨"HillClock$State", "bury", "(I)V"⟩ ∈ TBL := tb_i5 61 (by decide +kernel) (by decide +kernel)
theorem ml_Clock_205 : Cond.methodLink "HillClock" 205 ⟨"HillClock$State", "canDepute", "(LHillClock$Hills;II)Z"⟩ ∈ TBL := tb_i5 69 (by decide +kernel) (by decide +kernel)
theorem ml_Clock_212 : Cond.methodLink "HillClock" 212 ⟨"HillClock$Walk", "costs", "()I"⟩ ∈ TBL := tb_i5 83 (by decide +kernel) (by decide +kernel)
theorem ml_Clock_216 : Cond.methodLink "HillClock" 216 ⟨"HillClock$State", "pass", "(I)V"⟩ ∈ TBL := tb_i5 88 (by decide +kernel) (by decide +kernel)
theorem ml_Clock_222 : Cond.methodLink "HillClock" 222 ⟨"HillClock$State", "copy", "(LHillClock$State;)V"⟩ ∈ TBL := tb_i5 53 (by decide +kernel) (by decide +kernel)
theorem ml_Clock_225 : Cond.methodLink "HillClock" 225 ⟨"HillClock$State", "begin", "(LHillClock$Hills;)V"⟩ ∈ TBL := tb_i5 100 (by decide +kernel) (by decide +kernel)
theorem ml_Clock_229 : Cond.methodLink "HillClock" 229 ⟨"HillClock$Lines", "can", "(ILHillClock$Hills;LHillClock$State;)Z"⟩ ∈ TBL := tb_i5 101 (by decide +kernel) (by decide +kernel)
theorem ml_Clock_233 : Cond.methodLink "HillClock" 233 ⟨"HillClock$Lines", "isDay", "(I)Z"⟩ ∈ TBL := tb_i5 107 (by decide +kernel) (by decide +kernel)
theorem ml_Clock_236 : Cond.methodLink "HillClock" 236 ⟨"HillClock$Walk", "missing", "()I"⟩ ∈ TBL := tb_i5 111 (by decide +kernel) (by decide +kernel)
theorem ml_Clock_239 : Cond.methodLink "HillClock" 239 ⟨"HillClock$Lines", "happen", "(ILHillClock$State;)V"⟩ ∈ TBL := tb_i5 115 (by decide +kernel) (by decide +kernel)
theorem ml_Clock_246 : Cond.methodLink "HillClock" 246 ⟨"HillClock$Standing", "addSeen", "(IIZ)Z"⟩ ∈ TBL := tb_i5 124 (by decide +kernel) (by decide +kernel)
theorem ml_Clock_250 : Cond.methodLink "HillClock" 250 ⟨"HillClock", "lookRound", "()V"⟩ ∈ TBL := tb_i5 132 (by decide +kernel) (by decide +kernel)
theorem ml_Clock_253 : Cond.methodLink "HillClock" 253 ⟨"HillClock$Standing", "canBe", "(LHillClock$Sight;I)Z"⟩ ∈ TBL := tb_i5 141 (by decide +kernel) (by decide +kernel)
theorem ml_Clock_260 : Cond.methodLink "HillClock" 260 ⟨"HillClock", "mostAlike", "(I)I"⟩ ∈ TBL := tb_i5 153 (by decide +kernel) (by decide +kernel)
theorem ml_Clock_269 : Cond.methodLink "HillClock" 269 ⟨"HillClock", "chooseDeputies", "(III)V"⟩ ∈ TBL := tb_i5 164 (by decide +kernel) (by decide +kernel)
theorem ml_Clock_273 : Cond.methodLink "HillClock" 273 ⟨"HillClock$Walk", "firstMeetingAt", "(III)I"⟩ ∈ TBL := tb_i5 174 (by decide +kernel) (by decide +kernel)
theorem ml_Clock_277 : Cond.methodLink "HillClock" 277 Lib.Math.max.name ∈ TBL := tb_i5 159 (by decide +kernel) (by decide +kernel)
theorem ml_Clock_285 : Cond.methodLink "HillClock" 285 ⟨"HillClock$Sight", "firstToHaveMet", "(LHillClock$Hills;ZIII)I"⟩ ∈ TBL := tb_i5 179 (by decide +kernel) (by decide +kernel)
theorem ml_Clock_289 : Cond.methodLink "HillClock" 289 ⟨"HillClock$Sight", "isMeeting", "(I)Z"⟩ ∈ TBL := tb_i5 198 (by decide +kernel) (by decide +kernel)
theorem ml_Clock_295 : Cond.methodLink "HillClock" 295 ⟨"HillClock$State", "delay", "(II)V"⟩ ∈ TBL := tb_i5 216 (by decide +kernel) (by decide +kernel)
theorem ml_Clock_299 : Cond.methodLink "HillClock" 299 ⟨"HillClock$Standing", "isAsTold", "(LHillClock$Hills;LHillClock$Walk;)Z"⟩ ∈ TBL := tb_i5 220 (by decide +kernel) (by decide +kernel)
theorem ml_Clock_303 : Cond.methodLink "HillClock" 303 ⟨"java/lang/Integer", "bitCount", "(I)I"⟩ ∈ TBL := tb_i5 225 (by decide +kernel) (by decide +kernel)
theorem ml_Clock_319 : Cond.methodLink "HillClock" 319 ⟨"HillClock", "drawDay", "()V"⟩ ∈ TBL := tb_i5 230 (by decide +kernel) (by decide +kernel)
theorem ml_Clock_322 : Cond.methodLink "HillClock" 322 ⟨"HillClock$Walk", "meetings", "()I"⟩ ∈ TBL := tb_i6 2 (by decide +kernel) (by decide +kernel)
theorem ml_Clock_325 : Cond.methodLink "HillClock" 325 ⟨"HillClock$Standing", "copy", "(LHillClock$Standing;)V"⟩ ∈ TBL := tb_i6 11 (by decide +kernel) (by decide +kernel)
theorem ml_Clock_343 : Cond.methodLink "HillClock" 343 ⟨"HillClock$Standing", "hoursTold", "(LHillClock$Hills;)I"⟩ ∈ TBL := tb_i6 22 (by decide +kernel) (by decide +kernel)
theorem ml_Clock_346 : Cond.methodLink "HillClock" 346 ⟨"HillClock$Sight", "take", "(LHillClock$Walk;I)V"⟩ ∈ TBL := tb_i5 136 (by decide +kernel) (by decide +kernel)
theorem ml_Clock_350 : Cond.methodLink "HillClock" 350 ⟨"java/util/Arrays", "fill", "([II)V"⟩ ∈ TBL := tb_i5 157 (by decide +kernel) (by decide +kernel)
theorem ml_Clock_356 : Cond.methodLink "HillClock" 356 ⟨"HillClock$Sight", "at", "(II)I"⟩ ∈ TBL := tb_i5 158 (by decide +kernel) (by decide +kernel)
theorem ml_Clock_359 : Cond.methodLink "HillClock" 359 arraycopyName ∈ TBL := tb_i5 168 (by decide +kernel) (by decide +kernel)
theorem ml_Clock_365 : Cond.methodLink "HillClock" 365 ⟨"HillClock$Walk", "offBy", "(II)I"⟩ ∈ TBL := tb_i5 169 (by decide +kernel) (by decide +kernel)
theorem ml_Clock_368 : Cond.methodLink "HillClock" 368 ⟨"HillClock", "gain", "(IIII)I"⟩ ∈ TBL := tb_i6 98 (by decide +kernel) (by decide +kernel)
theorem ml_Clock_372 : Cond.methodLink "HillClock" 372 ⟨"HillClock", "draw", "(I)I"⟩ ∈ TBL := tb_i5 234 (by decide +kernel) (by decide +kernel)
theorem ml_Hills_70 : Cond.methodLink "HillClock$Hills" 70 ⟨"java/util/Arrays", "fill", "([II)V"⟩ ∈ TBL := tb_i1 171 (by decide +kernel) (by decide +kernel)
theorem ml_Hills_76 : Cond.methodLink "HillClock$Hills" 76 ⟨"HillClock$Law", "begin", "()V"⟩ ∈ TBL := tb_i1 174 (by decide +kernel) (by decide +kernel)
theorem ml_Hills_77 : Cond.methodLink "HillClock$Hills" 77 ⟨"HillClock$Tape", "find", "([JIJ)I"⟩ ∈ TBL := tb_i3 169 (by decide +kernel) (by decide +kernel)
theorem ml_Hills_83 : Cond.methodLink "HillClock$Hills" 83 ⟨"HillClock$Hills", "shorten", "(III)V"⟩ ∈ TBL := tb_i4 80 (by decide +kernel) (by decide +kernel)
theorem ml_HillsReader_28 : Cond.methodLink "HillClock$HillsReader" 28 ⟨"HillClock$Tape", "open", "()V"⟩ ∈ TBL := tb_i3 17 (by decide +kernel) (by decide +kernel)
theorem ml_HillsReader_33 : Cond.methodLink "HillClock$HillsReader" 33 ⟨"HillClock$Tape", "isEnd", "()Z"⟩ ∈ TBL := tb_i3 128 (by decide +kernel) (by decide +kernel)
theorem ml_HillsReader_50 : Cond.methodLink "HillClock$HillsReader" 50 ⟨"HillClock$HillsReader", "canBegin", "(I)Z"⟩ ∈ TBL := tb_i3 134 (by decide +kernel) (by decide +kernel)
theorem ml_HillsReader_54 : Cond.methodLink "HillClock$HillsReader" 54 ⟨"HillClock$HillsReader", "readPlace", "()Z"⟩ ∈ TBL := tb_i3 143 (by decide +kernel) (by decide +kernel)
theorem ml_HillsReader_60 : Cond.methodLink "HillClock$HillsReader" 60 ⟨"HillClock$Tape", "take", "(LHillClock$Word;)Z"⟩ ∈ TBL := tb_i3 183 (by decide +kernel) (by decide +kernel)
theorem ml_HillsReader_64 : Cond.methodLink "HillClock$HillsReader" 64 ⟨"HillClock$HillsReader", "readPath", "()Z"⟩ ∈ TBL := tb_i3 187 (by decide +kernel) (by decide +kernel)
theorem ml_HillsReader_73 : Cond.methodLink "HillClock$HillsReader" 73 ⟨"HillClock$HillsReader", "readWalker", "()Z"⟩ ∈ TBL := tb_i3 211 (by decide +kernel) (by decide +kernel)
theorem ml_HillsReader_82 : Cond.methodLink "HillClock$HillsReader" 82 ⟨"HillClock$HillsReader", "readWaits", "()Z"⟩ ∈ TBL := tb_i4 7 (by decide +kernel) (by decide +kernel)
theorem ml_HillsReader_91 : Cond.methodLink "HillClock$HillsReader" 91 ⟨"HillClock$HillsReader", "readHour", "()Z"⟩ ∈ TBL := tb_i4 25 (by decide +kernel) (by decide +kernel)
theorem ml_HillsReader_97 : Cond.methodLink "HillClock$HillsReader" 97 ⟨"HillClock$HillsReader", "readMissed", "()Z"⟩ ∈ TBL := tb_i4 39 (by decide +kernel) (by decide +kernel)
theorem ml_HillsReader_100 : Cond.methodLink "HillClock$HillsReader" 100 ⟨"HillClock$Tape", "wrong", "(I)Z"⟩ ∈ TBL := tb_i3 138 (by decide +kernel) (by decide +kernel)
theorem ml_HillsReader_103 : Cond.methodLink "HillClock$HillsReader" 103 ⟨"HillClock$Hills", "findWays", "()V"⟩ ∈ TBL := tb_i4 76 (by decide +kernel) (by decide +kernel)
theorem ml_HillsReader_106 : Cond.methodLink "HillClock$HillsReader" 106 ⟨"HillClock$Tape", "close", "()I"⟩ ∈ TBL := tb_i4 84 (by decide +kernel) (by decide +kernel)
theorem ml_HillsReader_110 : Cond.methodLink "HillClock$HillsReader" 110 ⟨"HillClock$Tape", "step", "()V"⟩ ∈ TBL := tb_i3 142 (by decide +kernel) (by decide +kernel)
theorem ml_HillsReader_113 : Cond.methodLink "HillClock$HillsReader" 113 ⟨"HillClock$Tape", "isName", "()Z"⟩ ∈ TBL := tb_i3 151 (by decide +kernel) (by decide +kernel)
theorem ml_HillsReader_120 : Cond.methodLink "HillClock$HillsReader" 120 ⟨"HillClock$Hills", "isTold", "(J)Z"⟩ ∈ TBL := tb_i3 165 (by decide +kernel) (by decide +kernel)
theorem ml_HillsReader_128 : Cond.methodLink "HillClock$HillsReader" 128 ⟨"HillClock$Tape", "which", "([JI)I"⟩ ∈ TBL := tb_i3 195 (by decide +kernel) (by decide +kernel)
theorem ml_HillsReader_135 : Cond.methodLink "HillClock$HillsReader" 135 ⟨"HillClock$HillsReader", "whichWalker", "()I"⟩ ∈ TBL := tb_i4 15 (by decide +kernel) (by decide +kernel)
theorem ml_HillsReader_141 : Cond.methodLink "HillClock$HillsReader" 141 ⟨"HillClock$HillsReader", "readNewName", "([JI)Z"⟩ ∈ TBL := tb_i3 147 (by decide +kernel) (by decide +kernel)
theorem ml_HillsReader_145 : Cond.methodLink "HillClock$HillsReader" 145 ⟨"HillClock$Tape", "takeSign", "(C)Z"⟩ ∈ TBL := tb_i3 172 (by decide +kernel) (by decide +kernel)
theorem ml_HillsReader_149 : Cond.methodLink "HillClock$HillsReader" 149 ⟨"HillClock$HillsReader", "whichPlace", "()I"⟩ ∈ TBL := tb_i3 191 (by decide +kernel) (by decide +kernel)
theorem ml_HillsReader_156 : Cond.methodLink "HillClock$HillsReader" 156 ⟨"HillClock$Tape", "takeNumber", "(II)I"⟩ ∈ TBL := tb_i3 201 (by decide +kernel) (by decide +kernel)
theorem ml_HillsReader_167 : Cond.methodLink "HillClock$HillsReader" 167 ⟨"HillClock$Walker", "begin", "()V"⟩ ∈ TBL := tb_i3 215 (by decide +kernel) (by decide +kernel)
theorem ml_HillsReader_170 : Cond.methodLink "HillClock$HillsReader" 170 ⟨"HillClock$HillsReader", "takeKind", "()I"⟩ ∈ TBL := tb_i3 220 (by decide +kernel) (by decide +kernel)
theorem ml_HillsReader_197 : Cond.methodLink "HillClock$HillsReader" 197 ⟨"HillClock$HillsReader", "readRound", "(LHillClock$Walker;)Z"⟩ ∈ TBL := tb_i4 0 (by decide +kernel) (by decide +kernel)
theorem ml_HillsReader_213 : Cond.methodLink "HillClock$HillsReader" 213 ⟨"HillClock$Tape", "isSign", "(C)Z"⟩ ∈ TBL := tb_i4 4 (by decide +kernel) (by decide +kernel)
theorem ml_HillsReader_222 : Cond.methodLink "HillClock$HillsReader" 222 ⟨"HillClock$HillsReader", "takeWalkerAt", "()I"⟩ ∈ TBL := tb_i4 11 (by decide +kernel) (by decide +kernel)
theorem ml_HillsReader_240 : Cond.methodLink "HillClock$HillsReader" 240 ⟨"HillClock$Walker", "passes", "(I)Z"⟩ ∈ TBL := tb_i4 31 (by decide +kernel) (by decide +kernel)
theorem ml_HillsReader_259 : Cond.methodLink "HillClock$HillsReader" 259 ⟨"HillClock$Law", "clear", "()V"⟩ ∈ TBL := tb_i4 43 (by decide +kernel) (by decide +kernel)
theorem ml_Law_22 : Cond.methodLink "HillClock$Law" 22 ⟨"HillClock$Law", "put", "(I)V"⟩ ∈ TBL := tb_i1 178 (by decide +kernel) (by decide +kernel)
theorem ml_Law_26 : Cond.methodLink "HillClock$Law" 26 ⟨"HillClock$Law", "readPart", "(LHillClock$Tape;I)Z"⟩ ∈ TBL := tb_i4 51 (by decide +kernel) (by decide +kernel)
theorem ml_Law_30 : Cond.methodLink "HillClock$Law" 30 ⟨"HillClock$Law", "readLevel", "(LHillClock$Tape;II)Z"⟩ ∈ TBL := tb_i4 67 (by decide +kernel) (by decide +kernel)
theorem ml_Law_34 : Cond.methodLink "HillClock$Law" 34 ⟨"HillClock$Law", "operatorOf", "(LHillClock$Tape;I)I"⟩ ∈ TBL := tb_i4 69 (by decide +kernel) (by decide +kernel)
theorem ml_Law_38 : Cond.methodLink "HillClock$Law" 38 ⟨"HillClock$Tape", "step", "()V"⟩ ∈ TBL := tb_i4 66 (by decide +kernel) (by decide +kernel)
theorem ml_Law_55 : Cond.methodLink "HillClock$Law" 55 ⟨"HillClock$Tape", "isSign", "(C)Z"⟩ ∈ TBL := tb_i4 55 (by decide +kernel) (by decide +kernel)
theorem ml_Law_62 : Cond.methodLink "HillClock$Law" 62 ⟨"HillClock$Law", "leafOf", "(LHillClock$Tape;)I"⟩ ∈ TBL := tb_i4 58 (by decide +kernel) (by decide +kernel)
theorem ml_Law_66 : Cond.methodLink "HillClock$Law" 66 ⟨"HillClock$Tape", "wrong", "(I)Z"⟩ ∈ TBL := tb_i4 65 (by decide +kernel) (by decide +kernel)
theorem ml_Law_70 : Cond.methodLink "HillClock$Law" 70 ⟨"HillClock$Tape", "takeSign", "(C)Z"⟩ ∈ TBL := tb_i4 68 (by decide +kernel) (by decide +kernel)
theorem ml_Law_73 : Cond.methodLink "HillClock$Law" 73 ⟨"HillClock$Tape", "isNumber", "()Z"⟩ ∈ TBL := tb_i4 61 (by decide +kernel) (by decide +kernel)
theorem ml_Law_92 : Cond.methodLink "HillClock$Law" 92 ⟨"HillClock$Law", "push", "(I)V"⟩ ∈ TBL := tb_i5 16 (by decide +kernel) (by decide +kernel)
theorem ml_Law_95 : Cond.methodLink "HillClock$Law" 95 ⟨"HillClock$Law", "pop", "()I"⟩ ∈ TBL := tb_i5 20 (by decide +kernel) (by decide +kernel)
theorem ml_Law_99 : Cond.methodLink "HillClock$Law" 99 ⟨"HillClock$Law", "worth", "(III)I"⟩ ∈ TBL := tb_i5 24 (by decide +kernel) (by decide +kernel)
theorem ml_Law_103 : Cond.methodLink "HillClock$Law" 103 Lib.Math.min.name ∈ TBL := tb_i5 27 (by decide +kernel) (by decide +kernel)
theorem ml_Law_109 : Cond.methodLink "HillClock$Law" 109 Lib.Math.max.name ∈ TBL := tb_i5 28 (by decide +kernel) (by decide +kernel)
theorem ml_Lines_25 : Cond.methodLink "HillClock$Lines" 25 arraycopyName ∈ TBL := tb_i4 139 (by decide +kernel) (by decide +kernel)
theorem ml_Lines_31 : Cond.methodLink "HillClock$Lines" 31 ⟨"HillClock$Tape", "open", "()V"⟩ ∈ TBL := tb_i4 110 (by decide +kernel) (by decide +kernel)
theorem ml_Lines_36 : Cond.methodLink "HillClock$Lines" 36 ⟨"HillClock$Tape", "isEnd", "()Z"⟩ ∈ TBL := tb_i4 111 (by decide +kernel) (by decide +kernel)
theorem ml_Lines_40 : Cond.methodLink "HillClock$Lines" 40 ⟨"HillClock$Lines", "readLine", "(LHillClock$Tape;LHillClock$Hills;)Z"⟩ ∈ TBL := tb_i4 112 (by decide +kernel) (by decide +kernel)
theorem ml_Lines_44 : Cond.methodLink "HillClock$Lines" 44 ⟨"HillClock$Tape", "close", "()I"⟩ ∈ TBL := tb_i4 134 (by decide +kernel) (by decide +kernel)
theorem ml_Lines_52 : Cond.methodLink "HillClock$Lines" 52 ⟨"HillClock$Lines", "kindOf", "(LHillClock$Word;)I"⟩ ∈ TBL := tb_i4 116 (by decide +kernel) (by decide +kernel)
theorem ml_Lines_56 : Cond.methodLink "HillClock$Lines" 56 ⟨"HillClock$Tape", "wrong", "(I)Z"⟩ ∈ TBL := tb_i4 129 (by decide +kernel) (by decide +kernel)
theorem ml_Lines_60 : Cond.methodLink "HillClock$Lines" 60 ⟨"HillClock$Tape", "step", "()V"⟩ ∈ TBL := tb_i4 130 (by decide +kernel) (by decide +kernel)
theorem ml_Lines_72 : Cond.methodLink "HillClock$Lines" 72 ⟨"HillClock$Tape", "which", "([JI)I"⟩ ∈ TBL := tb_i4 131 (by decide +kernel) (by decide +kernel)
theorem ml_Lines_82 : Cond.methodLink "HillClock$Lines" 82 ⟨"HillClock$Tape", "takeNumber", "(II)I"⟩ ∈ TBL := tb_i4 132 (by decide +kernel) (by decide +kernel)
theorem ml_Lines_86 : Cond.methodLink "HillClock$Lines" 86 ⟨"HillClock$Tape", "takeSign", "(C)Z"⟩ ∈ TBL := tb_i4 133 (by decide +kernel) (by decide +kernel)
theorem ml_Lines_107 : Cond.methodLink "HillClock$Lines" 107 ⟨"HillClock$State", "lives", "(I)Z"⟩ ∈ TBL := tb_i5 105 (by decide +kernel) (by decide +kernel)
theorem ml_Lines_112 : Cond.methodLink "HillClock$Lines" 112 ⟨"HillClock$State", "canDepute", "(LHillClock$Hills;II)Z"⟩ ∈ TBL := tb_i5 106 (by decide +kernel) (by decide +kernel)
theorem ml_Lines_123 : Cond.methodLink "HillClock$Lines" 123 ⟨"HillClock$State", "bury", "(I)V"⟩ ∈ TBL := tb_i5 119 (by decide +kernel) (by decide +kernel)
theorem ml_Sight_19 : Cond.methodLink "HillClock$Sight" 19 ⟨"java/util/Arrays", "fill", "([II)V"⟩ ∈ TBL := tb_i5 140 (by decide +kernel) (by decide +kernel)
theorem ml_Sight_39 : Cond.methodLink "HillClock$Sight" 39 ⟨"HillClock$Sight", "at", "(II)I"⟩ ∈ TBL := tb_i5 186 (by decide +kernel) (by decide +kernel)
theorem ml_Sight_43 : Cond.methodLink "HillClock$Sight" 43 ⟨"java/lang/Integer", "bitCount", "(I)I"⟩ ∈ TBL := tb_i5 202 (by decide +kernel) (by decide +kernel)
theorem ml_Sight_49 : Cond.methodLink "HillClock$Sight" 49 ⟨"java/util/Arrays", "fill", "([JJ)V"⟩ ∈ TBL := tb_i5 183 (by decide +kernel) (by decide +kernel)
theorem ml_Sight_58 : Cond.methodLink "HillClock$Sight" 58 ⟨"HillClock$Sight", "join", "(JI)J"⟩ ∈ TBL := tb_i5 187 (by decide +kernel) (by decide +kernel)
theorem ml_Sight_62 : Cond.methodLink "HillClock$Sight" 62 ⟨"HillClock$Sight", "spread", "(LHillClock$Hills;ZIIJ)V"⟩ ∈ TBL := tb_i5 190 (by decide +kernel) (by decide +kernel)
theorem ml_Standing_35 : Cond.methodLink "HillClock$Standing" 35 ⟨"HillClock$State", "begin", "(LHillClock$Hills;)V"⟩ ∈ TBL := tb_i4 92 (by decide +kernel) (by decide +kernel)
theorem ml_Standing_46 : Cond.methodLink "HillClock$Standing" 46 ⟨"java/util/Arrays", "fill", "([II)V"⟩ ∈ TBL := tb_i4 100 (by decide +kernel) (by decide +kernel)
theorem ml_Standing_52 : Cond.methodLink "HillClock$Standing" 52 ⟨"HillClock$State", "copy", "(LHillClock$State;)V"⟩ ∈ TBL := tb_i6 15 (by decide +kernel) (by decide +kernel)
theorem ml_Standing_56 : Cond.methodLink "HillClock$Standing" 56 ⟨"HillClock$Lines", "copy", "(LHillClock$Lines;)V"⟩ ∈ TBL := tb_i6 16 (by decide +kernel) (by decide +kernel)
theorem ml_Standing_59 : Cond.methodLink "HillClock$Standing" 59 arraycopyName ∈ TBL := tb_i6 17 (by decide +kernel) (by decide +kernel)
theorem ml_Standing_68 : Cond.methodLink "HillClock$Standing" 68 ⟨"HillClock$Sight", "at", "(II)I"⟩ ∈ TBL := tb_i5 145 (by decide +kernel) (by decide +kernel)
theorem ml_Standing_79 : Cond.methodLink "HillClock$Standing" 79 ⟨"HillClock$Walk", "minuteOf", "(I)I"⟩ ∈ TBL := tb_i5 224 (by decide +kernel) (by decide +kernel)
theorem ml_State_37 : Cond.methodLink "HillClock$State" 37 ⟨"java/util/Arrays", "fill", "([II)V"⟩ ∈ TBL := tb_i4 96 (by decide +kernel) (by decide +kernel)
theorem ml_State_46 : Cond.methodLink "HillClock$State" 46 arraycopyName ∈ TBL := tb_i4 97 (by decide +kernel) (by decide +kernel)
theorem ml_State_52 : Cond.methodLink "HillClock$State" 52 ⟨"HillClock$State", "lives", "(I)Z"⟩ ∈ TBL := tb_i5 73 (by decide +kernel) (by decide +kernel)
theorem ml_State_63 : Cond.methodLink "HillClock$State" 63 ⟨"HillClock$Walker", "passes", "(I)Z"⟩ ∈ TBL := tb_i5 74 (by decide +kernel) (by decide +kernel)
theorem ml_Tape_17 : Cond.methodLink "HillClock$Tape" 17 ⟨"HillClock$Tape", "isBlank", "(C)Z"⟩ ∈ TBL := tb_i3 5 (by decide +kernel) (by decide +kernel)
theorem ml_Tape_31 : Cond.methodLink "HillClock$Tape" 31 ⟨"HillClock$Tape", "step", "()V"⟩ ∈ TBL := tb_i3 21 (by decide +kernel) (by decide +kernel)
theorem ml_Tape_44 : Cond.methodLink "HillClock$Tape" 44 ⟨"HillClock$Tape", "isLetter", "(C)Z"⟩ ∈ TBL := tb_i3 25 (by decide +kernel) (by decide +kernel)
theorem ml_Tape_47 : Cond.methodLink "HillClock$Tape" 47 ⟨"HillClock$Tape", "stepOverWord", "()V"⟩ ∈ TBL := tb_i3 28 (by decide +kernel) (by decide +kernel)
theorem ml_Tape_50 : Cond.methodLink "HillClock$Tape" 50 ⟨"HillClock$Tape", "isDigit", "(C)Z"⟩ ∈ TBL := tb_i3 34 (by decide +kernel) (by decide +kernel)
theorem ml_Tape_53 : Cond.methodLink "HillClock$Tape" 53 ⟨"HillClock$Tape", "stepOverNumber", "()V"⟩ ∈ TBL := tb_i3 37 (by decide +kernel) (by decide +kernel)
theorem ml_Tape_58 : Cond.methodLink "HillClock$Tape" 58 ⟨"java/lang/String", "indexOf", "(I)I"⟩ ∈ TBL := tb_i3 42 (by decide +kernel) (by decide +kernel)
theorem ml_Tape_80 : Cond.methodLink "HillClock$Tape" 80 ⟨"HillClock$Word", "isFact", "()Z"⟩ ∈ TBL := tb_i3 155 (by decide +kernel) (by decide +kernel)
theorem ml_Tape_84 : Cond.methodLink "HillClock$Tape" 84 ⟨"HillClock$Tape", "wrong", "(I)Z"⟩ ∈ TBL := tb_i3 180 (by decide +kernel) (by decide +kernel)
theorem ml_Tape_88 : Cond.methodLink "HillClock$Tape" 88 ⟨"HillClock$Tape", "isSign", "(C)Z"⟩ ∈ TBL := tb_i3 176 (by decide +kernel) (by decide +kernel)
theorem ml_Tape_91 : Cond.methodLink "HillClock$Tape" 91 ⟨"HillClock$Tape", "isNumber", "()Z"⟩ ∈ TBL := tb_i3 205 (by decide +kernel) (by decide +kernel)
theorem ml_Tape_94 : Cond.methodLink "HillClock$Tape" 94 ⟨"HillClock$Tape", "isName", "()Z"⟩ ∈ TBL := tb_i3 199 (by decide +kernel) (by decide +kernel)
theorem ml_Tape_97 : Cond.methodLink "HillClock$Tape" 97 ⟨"HillClock$Tape", "find", "([JIJ)I"⟩ ∈ TBL := tb_i3 200 (by decide +kernel) (by decide +kernel)
theorem ml_Walk_44 : Cond.methodLink "HillClock$Walk" 44 ⟨"HillClock$State", "lives", "(I)Z"⟩ ∈ TBL := tb_i4 172 (by decide +kernel) (by decide +kernel)
theorem ml_Walk_63 : Cond.methodLink "HillClock$Walk" 63 ⟨"HillClock$Walk", "nextMinute", "()I"⟩ ∈ TBL := tb_i4 174 (by decide +kernel) (by decide +kernel)
theorem ml_Walk_67 : Cond.methodLink "HillClock$Walk" 67 ⟨"HillClock$Walk", "comeAll", "(I)V"⟩ ∈ TBL := tb_i4 179 (by decide +kernel) (by decide +kernel)
theorem ml_Walk_71 : Cond.methodLink "HillClock$Walk" 71 ⟨"HillClock$Walk", "greetAll", "(I)V"⟩ ∈ TBL := tb_i4 199 (by decide +kernel) (by decide +kernel)
theorem ml_Walk_74 : Cond.methodLink "HillClock$Walk" 74 ⟨"HillClock$Walk", "leaveAll", "(I)V"⟩ ∈ TBL := tb_i4 207 (by decide +kernel) (by decide +kernel)
theorem ml_Walk_77 : Cond.methodLink "HillClock$Walk" 77 Lib.Math.min.name ∈ TBL := tb_i4 178 (by decide +kernel) (by decide +kernel)
theorem ml_Walk_83 : Cond.methodLink "HillClock$Walk" 83 ⟨"HillClock$Walk", "isThere", "(I)Z"⟩ ∈ TBL := tb_i4 183 (by decide +kernel) (by decide +kernel)
theorem ml_Walk_89 : Cond.methodLink "HillClock$Walk" 89 ⟨"HillClock$Walk", "nextWay", "(I)I"⟩ ∈ TBL := tb_i4 187 (by decide +kernel) (by decide +kernel)
theorem ml_Walk_93 : Cond.methodLink "HillClock$Walk" 93 ⟨"HillClock$Walk", "longestStay", "(LHillClock$Walker;I)I"⟩ ∈ TBL := tb_i4 191 (by decide +kernel) (by decide +kernel)
theorem ml_Walk_106 : Cond.methodLink "HillClock$Walk" 106 ⟨"HillClock$Walker", "rest", "()I"⟩ ∈ TBL := tb_i4 194 (by decide +kernel) (by decide +kernel)
theorem ml_Walk_112 : Cond.methodLink "HillClock$Walk" 112 Lib.Math.max.name ∈ TBL := tb_i4 198 (by decide +kernel) (by decide +kernel)
theorem ml_Walk_115 : Cond.methodLink "HillClock$Walk" 115 ⟨"HillClock$Walk", "visitOf", "(I)I"⟩ ∈ TBL := tb_i4 203 (by decide +kernel) (by decide +kernel)
theorem ml_Walk_122 : Cond.methodLink "HillClock$Walk" 122 ⟨"HillClock$Walker", "minutesFor", "(IZ)I"⟩ ∈ TBL := tb_i4 211 (by decide +kernel) (by decide +kernel)
theorem ml_Walk_129 : Cond.methodLink "HillClock$Walk" 129 ⟨"HillClock$Walk", "firstMeetingAt", "(III)I"⟩ ∈ TBL := tb_i5 41 (by decide +kernel) (by decide +kernel)
theorem ml_Walk_139 : Cond.methodLink "HillClock$Walk" 139 ⟨"HillClock$Walk", "firstAt", "(II)I"⟩ ∈ TBL := tb_i4 231 (by decide +kernel) (by decide +kernel)
theorem ml_Walk_142 : Cond.methodLink "HillClock$Walk" 142 ⟨"HillClock$Walk", "offBy", "(II)I"⟩ ∈ TBL := tb_i4 239 (by decide +kernel) (by decide +kernel)
theorem ml_Walk_148 : Cond.methodLink "HillClock$Walk" 148 Lib.Math.abs.name ∈ TBL := tb_i5 3 (by decide +kernel) (by decide +kernel)
theorem ml_Walk_155 : Cond.methodLink "HillClock$Walk" 155 ⟨"HillClock$Walk", "off", "(I)I"⟩ ∈ TBL := tb_i5 10 (by decide +kernel) (by decide +kernel)
theorem ml_Walk_158 : Cond.methodLink "HillClock$Walk" 158 ⟨"HillClock$Walk", "minuteOf", "(I)I"⟩ ∈ TBL := tb_i5 11 (by decide +kernel) (by decide +kernel)
theorem ml_Walk_164 : Cond.methodLink "HillClock$Walk" 164 ⟨"HillClock$Law", "cost", "(IZI)I"⟩ ∈ TBL := tb_i5 12 (by decide +kernel) (by decide +kernel)
theorem ml_Walk_173 : Cond.methodLink "HillClock$Walk" 173 ⟨"HillClock$Walk", "cost", "(I)I"⟩ ∈ TBL := tb_i5 87 (by decide +kernel) (by decide +kernel)
theorem ml_Walk_175 : Cond.methodLink "HillClock$Walk" 175 ⟨"HillClock$Walk", "firstMeeting", "(II)I"⟩ ∈ TBL := tb_i6 6 (by decide +kernel) (by decide +kernel)
theorem ml_Walker_25 : Cond.methodLink "HillClock$Walker" 25 ⟨"java/util/Arrays", "fill", "([II)V"⟩ ∈ TBL := tb_i3 219 (by decide +kernel) (by decide +kernel)
theorem ml_Model_180 : Cond.methodLink "HillClockModel" 180 ⟨"HillClockModel", "forgets", "()V"⟩ ∈ TBL := tb_i6 107 (by decide +kernel) (by decide +kernel)
theorem ml_Model_211 : Cond.methodLink "HillClockModel" 211 ⟨"HillClockModel", "signAt", "(I)I"⟩ ∈ TBL := tb_i7 114 (by decide +kernel) (by decide +kernel)
theorem ml_Model_231 : Cond.methodLink "HillClockModel" 231 ⟨"HillClockModel", "fact", "()I"⟩ ∈ TBL := tb_i8 4 (by decide +kernel) (by decide +kernel)
theorem ml_Model_237 : Cond.methodLink "HillClockModel" 237 ⟨"HillClockModel", "isWord", "(J)Z"⟩ ∈ TBL := tb_i7 121 (by decide +kernel) (by decide +kernel)
theorem ml_Model_241 : Cond.methodLink "HillClockModel" 241 ⟨"HillClockModel", "isSign", "(I)Z"⟩ ∈ TBL := tb_i7 185 (by decide +kernel) (by decide +kernel)
theorem ml_Model_245 : Cond.methodLink "HillClockModel" 245 ⟨"HillClockModel", "fails", "(I)Z"⟩ ∈ TBL := tb_i7 129 (by decide +kernel) (by decide +kernel)
theorem ml_Model_248 : Cond.methodLink "HillClockModel" 248 ⟨"HillClockModel", "puts", "(I)V"⟩ ∈ TBL := tb_i8 11 (by decide +kernel) (by decide +kernel)
theorem ml_Model_252 : Cond.methodLink "HillClockModel" 252 ⟨"HillClockModel", "nextToken", "()V"⟩ ∈ TBL := tb_i7 110 (by decide +kernel) (by decide +kernel)
theorem ml_Model_259 : Cond.methodLink "HillClockModel" 259 ⟨"HillClockModel", "sums", "(I)V"⟩ ∈ TBL := tb_i8 126 (by decide +kernel) (by decide +kernel)
theorem ml_Model_262 : Cond.methodLink "HillClockModel" 262 ⟨"HillClockModel", "opens", "(I)V"⟩ ∈ TBL := tb_i8 122 (by decide +kernel) (by decide +kernel)
theorem ml_Model_265 : Cond.methodLink "HillClockModel" 265 ⟨"HillClockModel", "tests", "(I)V"⟩ ∈ TBL := tb_i8 130 (by decide +kernel) (by decide +kernel)
theorem ml_Model_314 : Cond.methodLink "HillClockModel" 314 ⟨"HillClockModel", "named", "([JIIJ)I"⟩ ∈ TBL := tb_i7 170 (by decide +kernel) (by decide +kernel)
theorem ml_Model_318 : Cond.methodLink "HillClockModel" 318 ⟨"HillClockModel", "within", "(III)Z"⟩ ∈ TBL := tb_i7 201 (by decide +kernel) (by decide +kernel)
theorem ml_Model_325 : Cond.methodLink "HillClockModel" 325 ⟨"HillClockModel", "needsWord", "(J)Z"⟩ ∈ TBL := tb_i7 212 (by decide +kernel) (by decide +kernel)
theorem ml_Model_328 : Cond.methodLink "HillClockModel" 328 ⟨"HillClockModel", "needsNumber", "(II)Z"⟩ ∈ TBL := tb_i7 197 (by decide +kernel) (by decide +kernel)
theorem ml_Model_332 : Cond.methodLink "HillClockModel" 332 ⟨"HillClockModel", "isKept", "()Z"⟩ ∈ TBL := tb_i7 137 (by decide +kernel) (by decide +kernel)
theorem ml_Model_336 : Cond.methodLink "HillClockModel" 336 ⟨"HillClockModel", "placeNamed", "(I)I"⟩ ∈ TBL := tb_i7 166 (by decide +kernel) (by decide +kernel)
theorem ml_Model_339 : Cond.methodLink "HillClockModel" 339 ⟨"HillClockModel", "walkerNamed", "(I)I"⟩ ∈ TBL := tb_i7 173 (by decide +kernel) (by decide +kernel)
theorem ml_Model_342 : Cond.methodLink "HillClockModel" 342 ⟨"HillClockModel", "hourNamed", "(I)I"⟩ ∈ TBL := tb_i7 177 (by decide +kernel) (by decide +kernel)
theorem ml_Model_348 : Cond.methodLink "HillClockModel" 348 ⟨"HillClockModel", "needsNew", "()Z"⟩ ∈ TBL := tb_i7 133 (by decide +kernel) (by decide +kernel)
theorem ml_Model_351 : Cond.methodLink "HillClockModel" 351 ⟨"HillClockModel", "closes", "()Z"⟩ ∈ TBL := tb_i7 181 (by decide +kernel) (by decide +kernel)
theorem ml_Model_354 : Cond.methodLink "HillClockModel" 354 ⟨"HillClockModel", "needsPlace", "(I)Z"⟩ ∈ TBL := tb_i7 193 (by decide +kernel) (by decide +kernel)
theorem ml_Model_357 : Cond.methodLink "HillClockModel" 357 ⟨"HillClockModel", "needsBoth", "(JII)Z"⟩ ∈ TBL := tb_i7 208 (by decide +kernel) (by decide +kernel)
theorem ml_Model_361 : Cond.methodLink "HillClockModel" 361 ⟨"HillClockModel", "readsRound", "(I)Z"⟩ ∈ TBL := tb_i7 216 (by decide +kernel) (by decide +kernel)
theorem ml_Model_364 : Cond.methodLink "HillClockModel" 364 ⟨"HillClockModel", "needsWalker", "(I)Z"⟩ ∈ TBL := tb_i7 224 (by decide +kernel) (by decide +kernel)
theorem ml_Model_367 : Cond.methodLink "HillClockModel" 367 ⟨"HillClockModel", "isOf", "(III)Z"⟩ ∈ TBL := tb_i7 232 (by decide +kernel) (by decide +kernel)
theorem ml_Model_370 : Cond.methodLink "HillClockModel" 370 ⟨"HillClockModel", "reads", "()Z"⟩ ∈ TBL := tb_i8 0 (by decide +kernel) (by decide +kernel)
theorem ml_Model_373 : Cond.methodLink "HillClockModel" 373 ⟨"HillClockModel", "begins", "()V"⟩ ∈ TBL := tb_i7 106 (by decide +kernel) (by decide +kernel)
theorem ml_Model_376 : Cond.methodLink "HillClockModel" 376 ⟨"HillClockModel", "readsPlace", "()Z"⟩ ∈ TBL := tb_i7 125 (by decide +kernel) (by decide +kernel)
theorem ml_Model_379 : Cond.methodLink "HillClockModel" 379 ⟨"HillClockModel", "readsPath", "()Z"⟩ ∈ TBL := tb_i7 189 (by decide +kernel) (by decide +kernel)
theorem ml_Model_382 : Cond.methodLink "HillClockModel" 382 ⟨"HillClockModel", "readsWalker", "()Z"⟩ ∈ TBL := tb_i7 204 (by decide +kernel) (by decide +kernel)
theorem ml_Model_385 : Cond.methodLink "HillClockModel" 385 ⟨"HillClockModel", "readsWaits", "()Z"⟩ ∈ TBL := tb_i7 220 (by decide +kernel) (by decide +kernel)
theorem ml_Model_388 : Cond.methodLink "HillClockModel" 388 ⟨"HillClockModel", "readsHour", "()Z"⟩ ∈ TBL := tb_i7 228 (by decide +kernel) (by decide +kernel)
theorem ml_Model_391 : Cond.methodLink "HillClockModel" 391 ⟨"HillClockModel", "readsMissed", "()Z"⟩ ∈ TBL := tb_i7 236 (by decide +kernel) (by decide +kernel)
theorem ml_Model_394 : Cond.methodLink "HillClockModel" 394 ⟨"HillClockModel", "shifts", "([II)V"⟩ ∈ TBL := tb_i8 19 (by decide +kernel) (by decide +kernel)
theorem ml_Model_398 : Cond.methodLink "HillClockModel" 398 ⟨"HillClockModel", "shiftsNames", "([JI)V"⟩ ∈ TBL := tb_i8 22 (by decide +kernel) (by decide +kernel)
theorem ml_Model_402 : Cond.methodLink "HillClockModel" 402 ⟨"HillClockModel", "allWalkers", "()I"⟩ ∈ TBL := tb_i8 29 (by decide +kernel) (by decide +kernel)
theorem ml_Model_405 : Cond.methodLink "HillClockModel" 405 ⟨"HillClockModel", "readsAll", "()Z"⟩ ∈ TBL := tb_i7 102 (by decide +kernel) (by decide +kernel)
theorem ml_Model_408 : Cond.methodLink "HillClockModel" 408 ⟨"HillClockModel", "lays", "()V"⟩ ∈ TBL := tb_i8 15 (by decide +kernel) (by decide +kernel)
theorem ml_Model_411 : Cond.methodLink "HillClockModel" 411 ⟨"HillClockModel", "fresh", "()V"⟩ ∈ TBL := tb_i8 25 (by decide +kernel) (by decide +kernel)
theorem ml_Model_413 : Cond.methodLink "HillClockModel" 413 ⟨"HillClockModel", "laysWays", "()V"⟩ ∈ TBL := tb_i8 33 (by decide +kernel) (by decide +kernel)
theorem ml_Model_419 : Cond.methodLink "HillClockModel" 419 ⟨"HillClockModel", "readsLine", "()Z"⟩ ∈ TBL := tb_i8 43 (by decide +kernel) (by decide +kernel)
theorem ml_Model_422 : Cond.methodLink "HillClockModel" 422 ⟨"HillClockModel", "laysLines", "(II)V"⟩ ∈ TBL := tb_i8 47 (by decide +kernel) (by decide +kernel)
theorem ml_Model_427 : Cond.methodLink "HillClockModel" 427 Lib.Math.min.name ∈ TBL := tb_i8 38 (by decide +kernel) (by decide +kernel)
theorem ml_Model_433 : Cond.methodLink "HillClockModel" 433 ⟨"HillClockModel", "isPlace", "(I)Z"⟩ ∈ TBL := tb_i8 55 (by decide +kernel) (by decide +kernel)
theorem ml_Model_436 : Cond.methodLink "HillClockModel" 436 ⟨"HillClockModel", "placeIn", "(I)I"⟩ ∈ TBL := tb_i8 75 (by decide +kernel) (by decide +kernel)
theorem ml_Model_439 : Cond.methodLink "HillClockModel" 439 ⟨"HillClockModel", "minutesTo", "(II)I"⟩ ∈ TBL := tb_i8 87 (by decide +kernel) (by decide +kernel)
theorem ml_Model_442 : Cond.methodLink "HillClockModel" 442 ⟨"HillClockModel", "isFree", "(II)Z"⟩ ∈ TBL := tb_i8 79 (by decide +kernel) (by decide +kernel)
theorem ml_Model_445 : Cond.methodLink "HillClockModel" 445 ⟨"HillClockModel", "goesOn", "(II)V"⟩ ∈ TBL := tb_i8 83 (by decide +kernel) (by decide +kernel)
theorem ml_Model_448 : Cond.methodLink "HillClockModel" 448 ⟨"HillClockModel", "firstAt", "(II)I"⟩ ∈ TBL := tb_i8 103 (by decide +kernel) (by decide +kernel)
theorem ml_Model_451 : Cond.methodLink "HillClockModel" 451 ⟨"HillClockModel", "away", "(II)I"⟩ ∈ TBL := tb_i8 111 (by decide +kernel) (by decide +kernel)
theorem ml_Model_454 : Cond.methodLink "HillClockModel" 454 ⟨"HillClockModel", "isWhen", "(I)I"⟩ ∈ TBL := tb_i8 99 (by decide +kernel) (by decide +kernel)
theorem ml_Model_457 : Cond.methodLink "HillClockModel" 457 ⟨"HillClockModel", "offBy", "(II)I"⟩ ∈ TBL := tb_i8 107 (by decide +kernel) (by decide +kernel)
theorem ml_Model_460 : Cond.methodLink "HillClockModel" 460 ⟨"HillClockModel", "worked", "(I)I"⟩ ∈ TBL := tb_i8 118 (by decide +kernel) (by decide +kernel)
theorem ml_Model_463 : Cond.methodLink "HillClockModel" 463 ⟨"HillClockModel", "between", "(III)I"⟩ ∈ TBL := tb_i8 134 (by decide +kernel) (by decide +kernel)
theorem ml_Model_467 : Cond.methodLink "HillClockModel" 467 ⟨"HillClockModel", "isWalker", "(I)Z"⟩ ∈ TBL := tb_i8 63 (by decide +kernel) (by decide +kernel)
theorem ml_Model_470 : Cond.methodLink "HillClockModel" 470 ⟨"HillClockModel", "laysDay", "()V"⟩ ∈ TBL := tb_i8 71 (by decide +kernel) (by decide +kernel)
theorem ml_Model_473 : Cond.methodLink "HillClockModel" 473 ⟨"HillClockModel", "isHour", "(I)Z"⟩ ∈ TBL := tb_i8 95 (by decide +kernel) (by decide +kernel)
theorem ml_Model_476 : Cond.methodLink "HillClockModel" 476 ⟨"HillClockModel", "costOf", "(I)I"⟩ ∈ TBL := tb_i8 114 (by decide +kernel) (by decide +kernel)
theorem ml_Model_479 : Cond.methodLink "HillClockModel" 479 ⟨"HillClockModel", "firstMeeting", "(II)I"⟩ ∈ TBL := tb_i8 141 (by decide +kernel) (by decide +kernel)
theorem ml_Model_482 : Cond.methodLink "HillClockModel" 482 ⟨"HillClockModel", "copies", "([II[II)V"⟩ ∈ TBL := tb_i8 157 (by decide +kernel) (by decide +kernel)
theorem ml_Model_486 : Cond.methodLink "HillClockModel" 486 ⟨"HillClockModel", "keeps", "()V"⟩ ∈ TBL := tb_i8 153 (by decide +kernel) (by decide +kernel)
theorem ml_Model_489 : Cond.methodLink "HillClockModel" 489 ⟨"HillClockModel", "isAlive", "(I)Z"⟩ ∈ TBL := tb_i8 164 (by decide +kernel) (by decide +kernel)
theorem ml_Model_492 : Cond.methodLink "HillClockModel" 492 ⟨"HillClockModel", "lies", "(II)Z"⟩ ∈ TBL := tb_i8 149 (by decide +kernel) (by decide +kernel)
theorem ml_Model_495 : Cond.methodLink "HillClockModel" 495 ⟨"HillClockModel", "canStand", "(II)Z"⟩ ∈ TBL := tb_i8 172 (by decide +kernel) (by decide +kernel)
theorem ml_Model_501 : Cond.methodLink "HillClockModel" 501 ⟨"HillClockModel", "passes", "()I"⟩ ∈ TBL := tb_i8 184 (by decide +kernel) (by decide +kernel)
theorem ml_Model_504 : Cond.methodLink "HillClockModel" 504 ⟨"HillClockModel", "goes", "(I)Z"⟩ ∈ TBL := tb_i8 196 (by decide +kernel) (by decide +kernel)
theorem ml_Model_507 : Cond.methodLink "HillClockModel" 507 ⟨"HillClockModel", "isAsSeen", "(I)Z"⟩ ∈ TBL := tb_i8 208 (by decide +kernel) (by decide +kernel)
theorem ml_Model_510 : Cond.methodLink "HillClockModel" 510 ⟨"HillClockModel", "thereAt", "(II)I"⟩ ∈ TBL := tb_i8 221 (by decide +kernel) (by decide +kernel)
theorem ml_Model_513 : Cond.methodLink "HillClockModel" 513 Lib.Math.max.name ∈ TBL := tb_i8 225 (by decide +kernel) (by decide +kernel)
theorem ml_Model_516 : Cond.methodLink "HillClockModel" 516 ⟨"HillClockModel", "times", "(I)I"⟩ ∈ TBL := tb_i8 216 (by decide +kernel) (by decide +kernel)
theorem ml_Model_519 : Cond.methodLink "HillClockModel" 519 ⟨"HillClockModel", "mostAlike", "(I)I"⟩ ∈ TBL := tb_i8 217 (by decide +kernel) (by decide +kernel)
theorem ml_Model_525 : Cond.methodLink "HillClockModel" 525 ⟨"HillClockModel", "stands", "(III)V"⟩ ∈ TBL := tb_i8 230 (by decide +kernel) (by decide +kernel)
theorem ml_Model_529 : Cond.methodLink "HillClockModel" 529 ⟨"HillClockModel", "firstMeetingAt", "(III)I"⟩ ∈ TBL := tb_i8 238 (by decide +kernel) (by decide +kernel)
theorem ml_Model_532 : Cond.methodLink "HillClockModel" 532 ⟨"HillClockModel", "grown", "(JI)J"⟩ ∈ TBL := tb_i9 6 (by decide +kernel) (by decide +kernel)
theorem ml_Model_536 : Cond.methodLink "HillClockModel" 536 ⟨"HillClockModel", "isMeeting", "(I)Z"⟩ ∈ TBL := tb_i9 13 (by decide +kernel) (by decide +kernel)
theorem ml_Model_539 : Cond.methodLink "HillClockModel" 539 ⟨"HillClockModel", "isAsTold", "()Z"⟩ ∈ TBL := tb_i9 25 (by decide +kernel) (by decide +kernel)
theorem ml_Model_542 : Cond.methodLink "HillClockModel" 542 ⟨"HillClockModel", "bits", "(I)I"⟩ ∈ TBL := tb_i9 29 (by decide +kernel) (by decide +kernel)
theorem ml_Model_545 : Cond.methodLink "HillClockModel" 545 ⟨"HillClockModel", "getsBy", "(IIIII)I"⟩ ∈ TBL := tb_i9 39 (by decide +kernel) (by decide +kernel)
theorem ml_Model_549 : Cond.methodLink "HillClockModel" 549 ⟨"HillClockModel", "isRest", "(IIIII)Z"⟩ ∈ TBL := tb_i9 36 (by decide +kernel) (by decide +kernel)
theorem ml_Model_564 : Cond.methodLink "HillClockModel" 564 ⟨"HillClockModel", "draws", "(I)I"⟩ ∈ TBL := tb_i9 46 (by decide +kernel) (by decide +kernel)
theorem ml_Model_567 : Cond.methodLink "HillClockModel" 567 ⟨"HillClockModel", "meetings", "()I"⟩ ∈ TBL := tb_i9 54 (by decide +kernel) (by decide +kernel)
theorem ml_Model_570 : Cond.methodLink "HillClockModel" 570 ⟨"HillClockModel", "laysTold", "(II)V"⟩ ∈ TBL := tb_i9 62 (by decide +kernel) (by decide +kernel)
theorem ml_Model_573 : Cond.methodLink "HillClockModel" 573 ⟨"HillClockModel", "toldMany", "()I"⟩ ∈ TBL := tb_i9 70 (by decide +kernel) (by decide +kernel)
theorem ml_String_335 : Cond.methodLink "java/lang/String" 335 ⟨"java/lang/String", "coder", "()B"⟩ ∈ TBL := tb_i3 60 (by decide +kernel) (by decide +kernel)
theorem ml_String_492 : Cond.methodLink "java/lang/String" 492 ⟨"java/lang/String", "isLatin1", "()Z"⟩ ∈ TBL := tb_i3 50 (by decide +kernel) (by decide +kernel)
theorem ml_String_505 : Cond.methodLink "java/lang/String" 505 ⟨"java/lang/String", "length", "()I"⟩ ∈ TBL := tb_i3 56 (by decide +kernel) (by decide +kernel)
theorem ml_String_633 : Cond.methodLink "java/lang/String" 633 ⟨"java/lang/String", "indexOf", "(II)I"⟩ ∈ TBL := tb_i3 46 (by decide +kernel) (by decide +kernel)
theorem ml_String_637 : Cond.methodLink "java/lang/String" 637 ⟨"java/lang/StringLatin1", "indexOf", "([BIII)I"⟩ ∈ TBL := tb_i3 64 (by decide +kernel) (by decide +kernel)
theorem ml_StringLatin1_38 : Cond.methodLink "java/lang/StringLatin1" 38 Lib.Math.min.name ∈ TBL := tb_i3 73 (by decide +kernel) (by decide +kernel)
theorem ml_StringLatin1_88 : Cond.methodLink "java/lang/StringLatin1" 88 ⟨"java/lang/StringLatin1", "canEncode", "(I)Z"⟩ ∈ TBL := tb_i3 67 (by decide +kernel) (by decide +kernel)
theorem ml_StringLatin1_92 : Cond.methodLink "java/lang/StringLatin1" 92 Lib.Math.max.name ∈ TBL := tb_i3 70 (by decide +kernel) (by decide +kernel)
theorem ml_StringLatin1_95 : Cond.methodLink "java/lang/StringLatin1" 95 ⟨"java/lang/StringLatin1", "indexOfChar", "([BIII)I"⟩ ∈ TBL := tb_i3 76 (by decide +kernel) (by decide +kernel)
theorem gs_HillsReader_41 : Cond.fieldLink "HillClock$HillsReader" 41 "HillClock$Word" "PLACE" "LHillClock$Word;" ∈ TBL := tb_i3 132 (by decide +kernel) (by decide +kernel)
theorem gs_HillsReader_57 : Cond.fieldLink "HillClock$HillsReader" 57 "HillClock$Word" "PATH" "LHillClock$Word;" ∈ TBL := tb_i3 181 (by decide +kernel) (by decide +kernel)
theorem gs_HillsReader_67 : Cond.fieldLink "HillClock$HillsReader" 67 "HillClock$Word" "WALKER" "LHillClock$Word;" ∈ TBL := tb_i3 209 (by decide +kernel) (by decide +kernel)
theorem gs_HillsReader_76 : Cond.fieldLink "HillClock$HillsReader" 76 "HillClock$Word" "WAITS" "LHillClock$Word;" ∈ TBL := tb_i4 5 (by decide +kernel) (by decide +kernel)
theorem gs_HillsReader_85 : Cond.fieldLink "HillClock$HillsReader" 85 "HillClock$Word" "HOUR" "LHillClock$Word;" ∈ TBL := tb_i4 23 (by decide +kernel) (by decide +kernel)
theorem gs_HillsReader_94 : Cond.fieldLink "HillClock$HillsReader" 94 "HillClock$Word" "MISSED" "LHillClock$Word;" ∈ TBL := tb_i4 37 (by decide +kernel) (by decide +kernel)
theorem gs_HillsReader_138 : Cond.fieldLink "HillClock$HillsReader" 138 "HillClock$Word" "AT" "LHillClock$Word;" ∈ TBL := tb_i4 19 (by decide +kernel) (by decide +kernel)
theorem gs_HillsReader_176 : Cond.fieldLink "HillClock$HillsReader" 176 "HillClock$Word" "START" "LHillClock$Word;" ∈ TBL := tb_i3 232 (by decide +kernel) (by decide +kernel)
theorem gs_HillsReader_182 : Cond.fieldLink "HillClock$HillsReader" 182 "HillClock$Word" "PACE" "LHillClock$Word;" ∈ TBL := tb_i3 234 (by decide +kernel) (by decide +kernel)
theorem gs_HillsReader_188 : Cond.fieldLink "HillClock$HillsReader" 188 "HillClock$Word" "HALT" "LHillClock$Word;" ∈ TBL := tb_i3 236 (by decide +kernel) (by decide +kernel)
theorem gs_HillsReader_194 : Cond.fieldLink "HillClock$HillsReader" 194 "HillClock$Word" "ROUND" "LHillClock$Word;" ∈ TBL := tb_i3 238 (by decide +kernel) (by decide +kernel)
theorem gs_HillsReader_201 : Cond.fieldLink "HillClock$HillsReader" 201 "HillClock$Word" "PLAIN" "LHillClock$Word;" ∈ TBL := tb_i3 224 (by decide +kernel) (by decide +kernel)
theorem gs_HillsReader_204 : Cond.fieldLink "HillClock$HillsReader" 204 "HillClock$Word" "SLOW" "LHillClock$Word;" ∈ TBL := tb_i3 226 (by decide +kernel) (by decide +kernel)
theorem gs_HillsReader_207 : Cond.fieldLink "HillClock$HillsReader" 207 "HillClock$Word" "IDLE" "LHillClock$Word;" ∈ TBL := tb_i3 228 (by decide +kernel) (by decide +kernel)
theorem gs_HillsReader_210 : Cond.fieldLink "HillClock$HillsReader" 210 "HillClock$Word" "BRISK" "LHillClock$Word;" ∈ TBL := tb_i3 230 (by decide +kernel) (by decide +kernel)
theorem gs_HillsReader_228 : Cond.fieldLink "HillClock$HillsReader" 228 "HillClock$Word" "FOR" "LHillClock$Word;" ∈ TBL := tb_i4 21 (by decide +kernel) (by decide +kernel)
theorem gs_HillsReader_237 : Cond.fieldLink "HillClock$HillsReader" 237 "HillClock$Word" "BY" "LHillClock$Word;" ∈ TBL := tb_i4 29 (by decide +kernel) (by decide +kernel)
theorem gs_HillsReader_243 : Cond.fieldLink "HillClock$HillsReader" 243 "HillClock$Word" "IS" "LHillClock$Word;" ∈ TBL := tb_i4 35 (by decide +kernel) (by decide +kernel)
theorem gs_Law_47 : Cond.fieldLink "HillClock$Law" 47 "HillClock$Word" "AND" "LHillClock$Word;" ∈ TBL := tb_i4 72 (by decide +kernel) (by decide +kernel)
theorem gs_Law_52 : Cond.fieldLink "HillClock$Law" 52 "HillClock$Word" "OR" "LHillClock$Word;" ∈ TBL := tb_i4 74 (by decide +kernel) (by decide +kernel)
theorem gs_Law_59 : Cond.fieldLink "HillClock$Law" 59 "HillClock$Word" "NOT" "LHillClock$Word;" ∈ TBL := tb_i4 56 (by decide +kernel) (by decide +kernel)
theorem gs_Law_80 : Cond.fieldLink "HillClock$Law" 80 "HillClock$Word" "OFF" "LHillClock$Word;" ∈ TBL := tb_i4 62 (by decide +kernel) (by decide +kernel)
theorem gs_Law_83 : Cond.fieldLink "HillClock$Law" 83 "HillClock$Word" "NONE" "LHillClock$Word;" ∈ TBL := tb_i4 63 (by decide +kernel) (by decide +kernel)
theorem gs_Law_86 : Cond.fieldLink "HillClock$Law" 86 "HillClock$Word" "DAYS" "LHillClock$Word;" ∈ TBL := tb_i4 64 (by decide +kernel) (by decide +kernel)
theorem gs_Lines_90 : Cond.fieldLink "HillClock$Lines" 90 "HillClock$Word" "LATE" "LHillClock$Word;" ∈ TBL := tb_i4 119 (by decide +kernel) (by decide +kernel)
theorem gs_Lines_95 : Cond.fieldLink "HillClock$Lines" 95 "HillClock$Word" "DIES" "LHillClock$Word;" ∈ TBL := tb_i4 121 (by decide +kernel) (by decide +kernel)
theorem gs_Lines_98 : Cond.fieldLink "HillClock$Lines" 98 "HillClock$Word" "DEPUTY" "LHillClock$Word;" ∈ TBL := tb_i4 123 (by decide +kernel) (by decide +kernel)
theorem gs_Lines_101 : Cond.fieldLink "HillClock$Lines" 101 "HillClock$Word" "SNOW" "LHillClock$Word;" ∈ TBL := tb_i4 125 (by decide +kernel) (by decide +kernel)
theorem gs_Lines_104 : Cond.fieldLink "HillClock$Lines" 104 "HillClock$Word" "DAY" "LHillClock$Word;" ∈ TBL := tb_i4 127 (by decide +kernel) (by decide +kernel)
theorem gs_Word_82 : Cond.fieldLink "HillClock$Word" 82 "HillClock$Word" "OFF" "LHillClock$Word;" ∈ TBL := tb_i3 159 (by decide +kernel) (by decide +kernel)
theorem gs_Word_85 : Cond.fieldLink "HillClock$Word" 85 "HillClock$Word" "NONE" "LHillClock$Word;" ∈ TBL := tb_i3 161 (by decide +kernel) (by decide +kernel)
theorem gs_Word_88 : Cond.fieldLink "HillClock$Word" 88 "HillClock$Word" "DAYS" "LHillClock$Word;" ∈ TBL := tb_i3 163 (by decide +kernel) (by decide +kernel)
theorem c2_Clock_375 : Cond.constantLong "HillClock" 375 (1103515245 : Int64) ∈ TBL := tb_i5 238 (by decide +kernel) (by decide +kernel)
theorem c2_Clock_377 : Cond.constantLong "HillClock" 377 (12345 : Int64) ∈ TBL := tb_i5 239 (by decide +kernel) (by decide +kernel)
theorem c2_Clock_379 : Cond.constantLong "HillClock" 379 (2147483648 : Int64) ∈ TBL := tb_i6 0 (by decide +kernel) (by decide +kernel)
theorem c2_Clock_381 : Cond.constantLong "HillClock" 381 (65536 : Int64) ∈ TBL := tb_i6 1 (by decide +kernel) (by decide +kernel)
theorem c2_Tape_15 : Cond.constantLong "HillClock$Tape" 15 (255 : Int64) ∈ TBL := tb_i3 4 (by decide +kernel) (by decide +kernel)
theorem c2_Model_187 : Cond.constantLong "HillClockModel" 187 (255 : Int64) ∈ TBL := tb_i7 97 (by decide +kernel) (by decide +kernel)
theorem c2_Model_215 : Cond.constantLong "HillClockModel" 215 (27 : Int64) ∈ TBL := tb_i7 118 (by decide +kernel) (by decide +kernel)
theorem c2_Model_217 : Cond.constantLong "HillClockModel" 217 (96 : Int64) ∈ TBL := tb_i7 119 (by decide +kernel) (by decide +kernel)
theorem c2_Model_225 : Cond.constantLong "HillClockModel" 225 (11103 : Int64) ∈ TBL := tb_i8 8 (by decide +kernel) (by decide +kernel)
theorem c2_Model_227 : Cond.constantLong "HillClockModel" 227 (286880 : Int64) ∈ TBL := tb_i8 9 (by decide +kernel) (by decide +kernel)
theorem c2_Model_229 : Cond.constantLong "HillClockModel" 229 (80155 : Int64) ∈ TBL := tb_i8 10 (by decide +kernel) (by decide +kernel)
theorem c2_Model_235 : Cond.constantLong "HillClockModel" 235 (10631 : Int64) ∈ TBL := tb_i7 163 (by decide +kernel) (by decide +kernel)
theorem c2_Model_255 : Cond.constantLong "HillClockModel" 255 (1111 : Int64) ∈ TBL := tb_i7 164 (by decide +kernel) (by decide +kernel)
theorem c2_Model_257 : Cond.constantLong "HillClockModel" 257 (423 : Int64) ∈ TBL := tb_i7 165 (by decide +kernel) (by decide +kernel)
theorem c2_Model_268 : Cond.constantLong "HillClockModel" 268 (8740067 : Int64) ∈ TBL := tb_i7 120 (by decide +kernel) (by decide +kernel)
theorem c2_Model_270 : Cond.constantLong "HillClockModel" 270 (316205 : Int64) ∈ TBL := tb_i7 141 (by decide +kernel) (by decide +kernel)
theorem c2_Model_272 : Cond.constantLong "HillClockModel" 272 (330800670 : Int64) ∈ TBL := tb_i7 142 (by decide +kernel) (by decide +kernel)
theorem c2_Model_274 : Cond.constantLong "HillClockModel" 274 (10492274 : Int64) ∈ TBL := tb_i7 143 (by decide +kernel) (by decide +kernel)
theorem c2_Model_276 : Cond.constantLong "HillClockModel" 276 (315743 : Int64) ∈ TBL := tb_i7 144 (by decide +kernel) (by decide +kernel)
theorem c2_Model_278 : Cond.constantLong "HillClockModel" 278 (158537 : Int64) ∈ TBL := tb_i7 145 (by decide +kernel) (by decide +kernel)
theorem c2_Model_280 : Cond.constantLong "HillClockModel" 280 (9876874 : Int64) ∈ TBL := tb_i7 146 (by decide +kernel) (by decide +kernel)
theorem c2_Model_282 : Cond.constantLong "HillClockModel" 282 (12249946 : Int64) ∈ TBL := tb_i7 147 (by decide +kernel) (by decide +kernel)
theorem c2_Model_284 : Cond.constantLong "HillClockModel" 284 (47 : Int64) ∈ TBL := tb_i7 148 (by decide +kernel) (by decide +kernel)
theorem c2_Model_286 : Cond.constantLong "HillClockModel" 286 (4797 : Int64) ∈ TBL := tb_i7 149 (by decide +kernel) (by decide +kernel)
theorem c2_Model_288 : Cond.constantLong "HillClockModel" 288 (168984 : Int64) ∈ TBL := tb_i7 150 (by decide +kernel) (by decide +kernel)
theorem c2_Model_290 : Cond.constantLong "HillClockModel" 290 (79 : Int64) ∈ TBL := tb_i7 151 (by decide +kernel) (by decide +kernel)
theorem c2_Model_292 : Cond.constantLong "HillClockModel" 292 (262 : Int64) ∈ TBL := tb_i7 152 (by decide +kernel) (by decide +kernel)
theorem c2_Model_294 : Cond.constantLong "HillClockModel" 294 (191706727 : Int64) ∈ TBL := tb_i7 153 (by decide +kernel) (by decide +kernel)
theorem c2_Model_296 : Cond.constantLong "HillClockModel" 296 (237470 : Int64) ∈ TBL := tb_i7 154 (by decide +kernel) (by decide +kernel)
theorem c2_Model_298 : Cond.constantLong "HillClockModel" 298 (85447 : Int64) ∈ TBL := tb_i7 155 (by decide +kernel) (by decide +kernel)
theorem c2_Model_300 : Cond.constantLong "HillClockModel" 300 (60383635 : Int64) ∈ TBL := tb_i7 156 (by decide +kernel) (by decide +kernel)
theorem c2_Model_302 : Cond.constantLong "HillClockModel" 302 (384611 : Int64) ∈ TBL := tb_i7 157 (by decide +kernel) (by decide +kernel)
theorem c2_Model_304 : Cond.constantLong "HillClockModel" 304 (2968 : Int64) ∈ TBL := tb_i7 158 (by decide +kernel) (by decide +kernel)
theorem c2_Model_306 : Cond.constantLong "HillClockModel" 306 (8740238 : Int64) ∈ TBL := tb_i7 159 (by decide +kernel) (by decide +kernel)
theorem c2_Model_308 : Cond.constantLong "HillClockModel" 308 (383153 : Int64) ∈ TBL := tb_i7 160 (by decide +kernel) (by decide +kernel)
theorem c2_Model_310 : Cond.constantLong "HillClockModel" 310 (180392 : Int64) ∈ TBL := tb_i7 161 (by decide +kernel) (by decide +kernel)
theorem c2_Model_312 : Cond.constantLong "HillClockModel" 312 (1424261 : Int64) ∈ TBL := tb_i7 162 (by decide +kernel) (by decide +kernel)
theorem c2_Model_556 : Cond.constantLong "HillClockModel" 556 (1103515245 : Int64) ∈ TBL := tb_i9 50 (by decide +kernel) (by decide +kernel)
theorem c2_Model_558 : Cond.constantLong "HillClockModel" 558 (12345 : Int64) ∈ TBL := tb_i9 51 (by decide +kernel) (by decide +kernel)
theorem c2_Model_560 : Cond.constantLong "HillClockModel" 560 (2147483648 : Int64) ∈ TBL := tb_i9 52 (by decide +kernel) (by decide +kernel)
theorem c2_Model_562 : Cond.constantLong "HillClockModel" 562 (65536 : Int64) ∈ TBL := tb_i9 53 (by decide +kernel) (by decide +kernel)
theorem c1_Walk_62 : Cond.constant "HillClock$Walk" 62 (1000000 : Int32) ∈ TBL := tb_i4 173 (by decide +kernel) (by decide +kernel)
theorem c1_Model_426 : Cond.constant "HillClockModel" 426 (100000 : Int32) ∈ TBL := tb_i8 37 (by decide +kernel) (by decide +kernel)
theorem c1_Integer_265 : Cond.constant "java/lang/Integer" 265 (1431655765 : Int32) ∈ TBL := tb_i5 205 (by decide +kernel) (by decide +kernel)
theorem c1_Integer_266 : Cond.constant "java/lang/Integer" 266 (858993459 : Int32) ∈ TBL := tb_i5 206 (by decide +kernel) (by decide +kernel)
theorem c1_Integer_267 : Cond.constant "java/lang/Integer" 267 (252645135 : Int32) ∈ TBL := tb_i5 207 (by decide +kernel) (by decide +kernel)
theorem mi_Clock_isPlace : MI yn_Clock_isPlace cd_Clock_isPlace 2 (some .boolean) 1 := ⟨tb_i4 147 (by decide +kernel) (by decide +kernel), tb_i1 1 (by decide +kernel) (by decide +kernel), by decide +kernel, by decide +kernel, by decide +kernel, by decide⟩
theorem mi_Clock_isWalker : MI yn_Clock_isWalker cd_Clock_isWalker 2 (some .boolean) 1 := ⟨tb_i4 155 (by decide +kernel) (by decide +kernel), tb_i1 1 (by decide +kernel) (by decide +kernel), by decide +kernel, by decide +kernel, by decide +kernel, by decide⟩
theorem mi_State_lives : MI yn_State_lives cd_State_lives 2 (some .boolean) 1 := ⟨tb_i4 159 (by decide +kernel) (by decide +kernel), tb_i1 10 (by decide +kernel) (by decide +kernel), by decide +kernel, by decide +kernel, by decide +kernel, by decide⟩
theorem mi_State_copy : MI yn_State_copy cd_State_copy 2 none 1 := ⟨tb_i5 56 (by decide +kernel) (by decide +kernel), tb_i1 10 (by decide +kernel) (by decide +kernel), by decide +kernel, by decide +kernel, by decide +kernel, by decide⟩
theorem mi_Standing_addSeen : MI yn_Standing_addSeen cd_Standing_addSeen 4 (some .boolean) 3 := ⟨tb_i5 127 (by decide +kernel) (by decide +kernel), tb_i1 9 (by decide +kernel) (by decide +kernel), by decide +kernel, by decide +kernel, by decide +kernel, by decide⟩
theorem mi_Clock_isHour : MI yn_Clock_isHour cd_Clock_isHour 2 (some .boolean) 1 := ⟨tb_i4 226 (by decide +kernel) (by decide +kernel), tb_i1 1 (by decide +kernel) (by decide +kernel), by decide +kernel, by decide +kernel, by decide +kernel, by decide⟩
theorem mi_Clock_isMinute : MI yn_Clock_isMinute cd_Clock_isMinute 2 (some .boolean) 1 := ⟨tb_i4 167 (by decide +kernel) (by decide +kernel), tb_i1 1 (by decide +kernel) (by decide +kernel), by decide +kernel, by decide +kernel, by decide +kernel, by decide⟩
theorem mi_Standing_hoursTold : MI yn_Standing_hoursTold cd_Standing_hoursTold 4 (some .int) 1 := ⟨tb_i6 25 (by decide +kernel) (by decide +kernel), tb_i1 9 (by decide +kernel) (by decide +kernel), by decide +kernel, by decide +kernel, by decide +kernel, by decide⟩
theorem mi_Clock_gain : MI yn_Clock_gain cd_Clock_gain 4 (some .int) 4 := ⟨tb_i6 100 (by decide +kernel) (by decide +kernel), tb_i1 1 (by decide +kernel) (by decide +kernel), by decide +kernel, by decide +kernel, by decide +kernel, by decide⟩
theorem mi_Clock_draw : MI yn_Clock_draw cd_Clock_draw 2 (some .int) 1 := ⟨tb_i5 237 (by decide +kernel) (by decide +kernel), tb_i1 1 (by decide +kernel) (by decide +kernel), by decide +kernel, by decide +kernel, by decide +kernel, by decide⟩
theorem mi_Model_signAt : MI yn_Model_signAt cd_Model_signAt 2 (some .int) 1 := ⟨tb_i7 117 (by decide +kernel) (by decide +kernel), tb_i1 13 (by decide +kernel) (by decide +kernel), by decide +kernel, by decide +kernel, by decide +kernel, by decide⟩
theorem mi_Model_sums : MI yn_Model_sums cd_Model_sums 2 none 1 := ⟨tb_i8 129 (by decide +kernel) (by decide +kernel), tb_i1 13 (by decide +kernel) (by decide +kernel), by decide +kernel, by decide +kernel, by decide +kernel, by decide⟩
theorem mi_Model_named : MI yn_Model_named cd_Model_named 6 (some .int) 4 := ⟨tb_i7 172 (by decide +kernel) (by decide +kernel), tb_i1 13 (by decide +kernel) (by decide +kernel), by decide +kernel, by decide +kernel, by decide +kernel, by decide⟩
theorem mi_Model_shifts : MI yn_Model_shifts cd_Model_shifts 3 none 2 := ⟨tb_i8 21 (by decide +kernel) (by decide +kernel), tb_i1 13 (by decide +kernel) (by decide +kernel), by decide +kernel, by decide +kernel, by decide +kernel, by decide⟩
theorem mi_Model_shiftsNames : MI yn_Model_shiftsNames cd_Model_shiftsNames 3 none 2 := ⟨tb_i8 24 (by decide +kernel) (by decide +kernel), tb_i1 13 (by decide +kernel) (by decide +kernel), by decide +kernel, by decide +kernel, by decide +kernel, by decide⟩
theorem mi_Model_allWalkers : MI yn_Model_allWalkers cd_Model_allWalkers 1 (some .int) 0 := ⟨tb_i8 32 (by decide +kernel) (by decide +kernel), tb_i1 13 (by decide +kernel) (by decide +kernel), by decide +kernel, by decide +kernel, by decide +kernel, by decide⟩
theorem mi_Model_isPlace : MI yn_Model_isPlace cd_Model_isPlace 2 (some .boolean) 1 := ⟨tb_i8 58 (by decide +kernel) (by decide +kernel), tb_i1 13 (by decide +kernel) (by decide +kernel), by decide +kernel, by decide +kernel, by decide +kernel, by decide⟩
theorem mi_Model_placeIn : MI yn_Model_placeIn cd_Model_placeIn 2 (some .int) 1 := ⟨tb_i8 78 (by decide +kernel) (by decide +kernel), tb_i1 13 (by decide +kernel) (by decide +kernel), by decide +kernel, by decide +kernel, by decide +kernel, by decide⟩
theorem mi_Model_firstAt : MI yn_Model_firstAt cd_Model_firstAt 4 (some .int) 2 := ⟨tb_i8 106 (by decide +kernel) (by decide +kernel), tb_i1 13 (by decide +kernel) (by decide +kernel), by decide +kernel, by decide +kernel, by decide +kernel, by decide⟩
theorem mi_Model_away : MI yn_Model_away cd_Model_away 2 (some .int) 2 := ⟨tb_i8 113 (by decide +kernel) (by decide +kernel), tb_i1 13 (by decide +kernel) (by decide +kernel), by decide +kernel, by decide +kernel, by decide +kernel, by decide⟩
theorem mi_Model_isWalker : MI yn_Model_isWalker cd_Model_isWalker 2 (some .boolean) 1 := ⟨tb_i8 66 (by decide +kernel) (by decide +kernel), tb_i1 13 (by decide +kernel) (by decide +kernel), by decide +kernel, by decide +kernel, by decide +kernel, by decide⟩
theorem mi_Model_copies : MI yn_Model_copies cd_Model_copies 5 none 4 := ⟨tb_i8 159 (by decide +kernel) (by decide +kernel), tb_i1 13 (by decide +kernel) (by decide +kernel), by decide +kernel, by decide +kernel, by decide +kernel, by decide⟩
theorem mi_Model_isAlive : MI yn_Model_isAlive cd_Model_isAlive 2 (some .boolean) 1 := ⟨tb_i8 167 (by decide +kernel) (by decide +kernel), tb_i1 13 (by decide +kernel) (by decide +kernel), by decide +kernel, by decide +kernel, by decide +kernel, by decide⟩
theorem mi_Model_isOf : MI yn_Model_isOf cd_Model_isOf 5 (some .boolean) 3 := ⟨tb_i7 235 (by decide +kernel) (by decide +kernel), tb_i1 13 (by decide +kernel) (by decide +kernel), by decide +kernel, by decide +kernel, by decide +kernel, by decide⟩
theorem mi_Model_isAsSeen : MI yn_Model_isAsSeen cd_Model_isAsSeen 3 (some .boolean) 1 := ⟨tb_i8 211 (by decide +kernel) (by decide +kernel), tb_i1 13 (by decide +kernel) (by decide +kernel), by decide +kernel, by decide +kernel, by decide +kernel, by decide⟩
theorem mi_Model_thereAt : MI yn_Model_thereAt cd_Model_thereAt 5 (some .int) 2 := ⟨tb_i8 224 (by decide +kernel) (by decide +kernel), tb_i1 13 (by decide +kernel) (by decide +kernel), by decide +kernel, by decide +kernel, by decide +kernel, by decide⟩
theorem mi_Model_isHour : MI yn_Model_isHour cd_Model_isHour 2 (some .boolean) 1 := ⟨tb_i8 98 (by decide +kernel) (by decide +kernel), tb_i1 13 (by decide +kernel) (by decide +kernel), by decide +kernel, by decide +kernel, by decide +kernel, by decide⟩
theorem mi_Model_within : MI yn_Model_within cd_Model_within 3 (some .boolean) 3 := ⟨tb_i7 203 (by decide +kernel) (by decide +kernel), tb_i1 13 (by decide +kernel) (by decide +kernel), by decide +kernel, by decide +kernel, by decide +kernel, by decide⟩
theorem mi_Model_getsBy : MI yn_Model_getsBy cd_Model_getsBy 5 (some .int) 5 := ⟨tb_i9 41 (by decide +kernel) (by decide +kernel), tb_i1 13 (by decide +kernel) (by decide +kernel), by decide +kernel, by decide +kernel, by decide +kernel, by decide⟩
theorem mi_Model_firstMeeting : MI yn_Model_firstMeeting cd_Model_firstMeeting 4 (some .int) 2 := ⟨tb_i8 144 (by decide +kernel) (by decide +kernel), tb_i1 13 (by decide +kernel) (by decide +kernel), by decide +kernel, by decide +kernel, by decide +kernel, by decide⟩
theorem mi_Model_laysLines : MI yn_Model_laysLines cd_Model_laysLines 4 none 2 := ⟨tb_i8 50 (by decide +kernel) (by decide +kernel), tb_i1 13 (by decide +kernel) (by decide +kernel), by decide +kernel, by decide +kernel, by decide +kernel, by decide⟩
theorem mi_Model_laysTold : MI yn_Model_laysTold cd_Model_laysTold 4 none 2 := ⟨tb_i9 65 (by decide +kernel) (by decide +kernel), tb_i1 13 (by decide +kernel) (by decide +kernel), by decide +kernel, by decide +kernel, by decide +kernel, by decide⟩
theorem mi_Model_toldMany : MI yn_Model_toldMany cd_Model_toldMany 3 (some .int) 0 := ⟨tb_i9 73 (by decide +kernel) (by decide +kernel), tb_i1 13 (by decide +kernel) (by decide +kernel), by decide +kernel, by decide +kernel, by decide +kernel, by decide⟩
theorem mi_Tape_find : MI yn_Tape_find cd_Tape_find 5 (some .int) 3 := ⟨tb_i3 171 (by decide +kernel) (by decide +kernel), tb_i1 2 (by decide +kernel) (by decide +kernel), by decide +kernel, by decide +kernel, by decide +kernel, by decide⟩
theorem mi_Hills_shorten : MI yn_Hills_shorten cd_Hills_shorten 7 none 3 := ⟨tb_i4 83 (by decide +kernel) (by decide +kernel), tb_i1 4 (by decide +kernel) (by decide +kernel), by decide +kernel, by decide +kernel, by decide +kernel, by decide⟩
theorem mi_Law_put : MI yn_Law_put cd_Law_put 2 none 1 := ⟨tb_i1 181 (by decide +kernel) (by decide +kernel), tb_i1 5 (by decide +kernel) (by decide +kernel), by decide +kernel, by decide +kernel, by decide +kernel, by decide⟩
theorem mi_Tape_isSign : MI yn_Tape_isSign cd_Tape_isSign 2 (some .boolean) 1 := ⟨tb_i3 179 (by decide +kernel) (by decide +kernel), tb_i1 2 (by decide +kernel) (by decide +kernel), by decide +kernel, by decide +kernel, by decide +kernel, by decide⟩
theorem mi_Tape_isNumber : MI yn_Tape_isNumber cd_Tape_isNumber 1 (some .boolean) 0 := ⟨tb_i3 208 (by decide +kernel) (by decide +kernel), tb_i1 2 (by decide +kernel) (by decide +kernel), by decide +kernel, by decide +kernel, by decide +kernel, by decide⟩
theorem mi_Law_push : MI yn_Law_push cd_Law_push 2 none 1 := ⟨tb_i5 19 (by decide +kernel) (by decide +kernel), tb_i1 5 (by decide +kernel) (by decide +kernel), by decide +kernel, by decide +kernel, by decide +kernel, by decide⟩
theorem mi_Law_pop : MI yn_Law_pop cd_Law_pop 1 (some .int) 0 := ⟨tb_i5 23 (by decide +kernel) (by decide +kernel), tb_i1 5 (by decide +kernel) (by decide +kernel), by decide +kernel, by decide +kernel, by decide +kernel, by decide⟩
theorem mi_Law_worth : MI yn_Law_worth cd_Law_worth 3 (some .int) 3 := ⟨tb_i5 26 (by decide +kernel) (by decide +kernel), tb_i1 5 (by decide +kernel) (by decide +kernel), by decide +kernel, by decide +kernel, by decide +kernel, by decide⟩
theorem mi_State_bury : MI yn_State_bury cd_State_bury 2 none 1 := ⟨tb_i5 64 (by decide +kernel) (by decide +kernel), tb_i1 10 (by decide +kernel) (by decide +kernel), by decide +kernel, by decide +kernel, by decide +kernel, by decide⟩
theorem mi_Arrays_fillI : MI yn_Arrays_fillI cd_Arrays_fillI 4 none 2 := ⟨tb_i1 173 (by decide +kernel) (by decide +kernel), tb_i1 7 (by decide +kernel) (by decide +kernel), by decide +kernel, by decide +kernel, by decide +kernel, by decide⟩
theorem mi_Sight_at : MI yn_Sight_at cd_Sight_at 3 (some .int) 2 := ⟨tb_i5 148 (by decide +kernel) (by decide +kernel), tb_i1 12 (by decide +kernel) (by decide +kernel), by decide +kernel, by decide +kernel, by decide +kernel, by decide⟩
theorem mi_Integer_bitCount : MI yn_Integer_bitCount cd_Integer_bitCount 1 (some .int) 1 := ⟨tb_i5 204 (by decide +kernel) (by decide +kernel), tb_i1 23 (by decide +kernel) (by decide +kernel), by decide +kernel, by decide +kernel, by decide +kernel, by decide⟩
theorem mi_Sight_join : MI yn_Sight_join cd_Sight_join 6 (some .long) 2 := ⟨tb_i5 189 (by decide +kernel) (by decide +kernel), tb_i1 12 (by decide +kernel) (by decide +kernel), by decide +kernel, by decide +kernel, by decide +kernel, by decide⟩
theorem mi_Sight_spread : MI yn_Sight_spread cd_Sight_spread 10 none 5 := ⟨tb_i5 193 (by decide +kernel) (by decide +kernel), tb_i1 12 (by decide +kernel) (by decide +kernel), by decide +kernel, by decide +kernel, by decide +kernel, by decide⟩
theorem mi_Arrays_fillJ : MI yn_Arrays_fillJ cd_Arrays_fillJ 5 none 2 := ⟨tb_i5 185 (by decide +kernel) (by decide +kernel), tb_i1 7 (by decide +kernel) (by decide +kernel), by decide +kernel, by decide +kernel, by decide +kernel, by decide⟩
theorem mi_Lines_copy : MI yn_Lines_copy cd_Lines_copy 2 none 1 := ⟨tb_i4 138 (by decide +kernel) (by decide +kernel), tb_i1 8 (by decide +kernel) (by decide +kernel), by decide +kernel, by decide +kernel, by decide +kernel, by decide⟩
theorem mi_Walker_passes : MI yn_Walker_passes cd_Walker_passes 3 (some .boolean) 1 := ⟨tb_i4 34 (by decide +kernel) (by decide +kernel), tb_i1 6 (by decide +kernel) (by decide +kernel), by decide +kernel, by decide +kernel, by decide +kernel, by decide⟩
theorem mi_Tape_isBlank : MI yn_Tape_isBlank cd_Tape_isBlank 1 (some .boolean) 1 := ⟨tb_i3 7 (by decide +kernel) (by decide +kernel), tb_i1 2 (by decide +kernel) (by decide +kernel), by decide +kernel, by decide +kernel, by decide +kernel, by decide⟩
theorem mi_Tape_isLetter : MI yn_Tape_isLetter cd_Tape_isLetter 1 (some .boolean) 1 := ⟨tb_i3 27 (by decide +kernel) (by decide +kernel), tb_i1 2 (by decide +kernel) (by decide +kernel), by decide +kernel, by decide +kernel, by decide +kernel, by decide⟩
theorem mi_Tape_isDigit : MI yn_Tape_isDigit cd_Tape_isDigit 1 (some .boolean) 1 := ⟨tb_i3 36 (by decide +kernel) (by decide +kernel), tb_i1 2 (by decide +kernel) (by decide +kernel), by decide +kernel, by decide +kernel, by decide +kernel, by decide⟩
theorem mi_Word_isFact : MI yn_Word_isFact cd_Word_isFact 1 (some .boolean) 0 := ⟨tb_i3 158 (by decide +kernel) (by decide +kernel), tb_i1 15 (by decide +kernel) (by decide +kernel), by decide +kernel, by decide +kernel, by decide +kernel, by decide⟩
theorem mi_Walker_rest : MI yn_Walker_rest cd_Walker_rest 1 (some .int) 0 := ⟨tb_i4 197 (by decide +kernel) (by decide +kernel), tb_i1 6 (by decide +kernel) (by decide +kernel), by decide +kernel, by decide +kernel, by decide +kernel, by decide⟩
theorem mi_Walk_isThere : MI yn_Walk_isThere cd_Walk_isThere 2 (some .boolean) 1 := ⟨tb_i4 186 (by decide +kernel) (by decide +kernel), tb_i1 11 (by decide +kernel) (by decide +kernel), by decide +kernel, by decide +kernel, by decide +kernel, by decide⟩
theorem mi_Walk_visitOf : MI yn_Walk_visitOf cd_Walk_visitOf 2 (some .int) 1 := ⟨tb_i4 206 (by decide +kernel) (by decide +kernel), tb_i1 11 (by decide +kernel) (by decide +kernel), by decide +kernel, by decide +kernel, by decide +kernel, by decide⟩
theorem mi_Walk_nextWay : MI yn_Walk_nextWay cd_Walk_nextWay 4 (some .int) 1 := ⟨tb_i4 190 (by decide +kernel) (by decide +kernel), tb_i1 11 (by decide +kernel) (by decide +kernel), by decide +kernel, by decide +kernel, by decide +kernel, by decide⟩
theorem mi_Walker_minutesFor : MI yn_Walker_minutesFor cd_Walker_minutesFor 4 (some .int) 2 := ⟨tb_i4 214 (by decide +kernel) (by decide +kernel), tb_i1 6 (by decide +kernel) (by decide +kernel), by decide +kernel, by decide +kernel, by decide +kernel, by decide⟩
theorem mi_Walk_firstMeetingAt : MI yn_Walk_firstMeetingAt cd_Walk_firstMeetingAt 9 (some .int) 3 := ⟨tb_i5 44 (by decide +kernel) (by decide +kernel), tb_i1 11 (by decide +kernel) (by decide +kernel), by decide +kernel, by decide +kernel, by decide +kernel, by decide⟩
theorem mi_Walk_firstAt : MI yn_Walk_firstAt cd_Walk_firstAt 4 (some .int) 2 := ⟨tb_i4 234 (by decide +kernel) (by decide +kernel), tb_i1 11 (by decide +kernel) (by decide +kernel), by decide +kernel, by decide +kernel, by decide +kernel, by decide⟩
theorem mi_String_coder : MI yn_String_coder cd_String_coder 1 (some .byte) 0 := ⟨tb_i3 63 (by decide +kernel) (by decide +kernel), tb_i1 16 (by decide +kernel) (by decide +kernel), by decide +kernel, by decide +kernel, by decide +kernel, by decide⟩
theorem mi_StringLatin1_canEncode : MI yn_StringLatin1_canEncode cd_StringLatin1_canEncode 1 (some .boolean) 1 := ⟨tb_i3 69 (by decide +kernel) (by decide +kernel), tb_i1 17 (by decide +kernel) (by decide +kernel), by decide +kernel, by decide +kernel, by decide +kernel, by decide⟩
theorem mi_StringLatin1_indexOfChar : MI yn_StringLatin1_indexOfChar cd_StringLatin1_indexOfChar 6 (some .int) 4 := ⟨tb_i3 78 (by decide +kernel) (by decide +kernel), tb_i1 17 (by decide +kernel) (by decide +kernel), by decide +kernel, by decide +kernel, by decide +kernel, by decide⟩
theorem mi_Tape_append : MI yn_Tape_append cd_Tape_append 5 none 1 := ⟨tb_i3 3 (by decide +kernel) (by decide +kernel), tb_i1 2 (by decide +kernel) (by decide +kernel), by decide +kernel, by decide +kernel, by decide +kernel, by decide⟩
theorem mi_Clock_remember : MI yn_Clock_remember cd_Clock_remember 1 none 0 := ⟨tb_i5 52 (by decide +kernel) (by decide +kernel), tb_i1 1 (by decide +kernel) (by decide +kernel), by decide +kernel, by decide +kernel, by decide +kernel, by decide⟩
theorem mi_State_canDepute : MI yn_State_canDepute cd_State_canDepute 4 (some .boolean) 3 := ⟨tb_i5 72 (by decide +kernel) (by decide +kernel), tb_i1 10 (by decide +kernel) (by decide +kernel), by decide +kernel, by decide +kernel, by decide +kernel, by decide⟩
theorem mi_Standing_copy : MI yn_Standing_copy cd_Standing_copy 2 none 1 := ⟨tb_i6 14 (by decide +kernel) (by decide +kernel), tb_i1 9 (by decide +kernel) (by decide +kernel), by decide +kernel, by decide +kernel, by decide +kernel, by decide⟩
theorem mi_Standing_canBe : MI yn_Standing_canBe cd_Standing_canBe 5 (some .boolean) 2 := ⟨tb_i5 144 (by decide +kernel) (by decide +kernel), tb_i1 9 (by decide +kernel) (by decide +kernel), by decide +kernel, by decide +kernel, by decide +kernel, by decide⟩
theorem mi_Model_isSign : MI yn_Model_isSign cd_Model_isSign 2 (some .boolean) 1 := ⟨tb_i7 188 (by decide +kernel) (by decide +kernel), tb_i1 13 (by decide +kernel) (by decide +kernel), by decide +kernel, by decide +kernel, by decide +kernel, by decide⟩
theorem mi_Model_fact : MI yn_Model_fact cd_Model_fact 1 (some .int) 0 := ⟨tb_i8 7 (by decide +kernel) (by decide +kernel), tb_i1 13 (by decide +kernel) (by decide +kernel), by decide +kernel, by decide +kernel, by decide +kernel, by decide⟩
theorem mi_Model_isWord : MI yn_Model_isWord cd_Model_isWord 3 (some .boolean) 1 := ⟨tb_i7 124 (by decide +kernel) (by decide +kernel), tb_i1 13 (by decide +kernel) (by decide +kernel), by decide +kernel, by decide +kernel, by decide +kernel, by decide⟩
theorem mi_Model_nextToken : MI yn_Model_nextToken cd_Model_nextToken 2 none 0 := ⟨tb_i7 113 (by decide +kernel) (by decide +kernel), tb_i1 13 (by decide +kernel) (by decide +kernel), by decide +kernel, by decide +kernel, by decide +kernel, by decide⟩
theorem mi_Model_puts : MI yn_Model_puts cd_Model_puts 2 none 1 := ⟨tb_i8 14 (by decide +kernel) (by decide +kernel), tb_i1 13 (by decide +kernel) (by decide +kernel), by decide +kernel, by decide +kernel, by decide +kernel, by decide⟩
theorem mi_Model_fails : MI yn_Model_fails cd_Model_fails 2 (some .boolean) 1 := ⟨tb_i7 132 (by decide +kernel) (by decide +kernel), tb_i1 13 (by decide +kernel) (by decide +kernel), by decide +kernel, by decide +kernel, by decide +kernel, by decide⟩
theorem mi_Model_opens : MI yn_Model_opens cd_Model_opens 2 none 1 := ⟨tb_i8 125 (by decide +kernel) (by decide +kernel), tb_i1 13 (by decide +kernel) (by decide +kernel), by decide +kernel, by decide +kernel, by decide +kernel, by decide⟩
theorem mi_Model_tests : MI yn_Model_tests cd_Model_tests 3 none 1 := ⟨tb_i8 133 (by decide +kernel) (by decide +kernel), tb_i1 13 (by decide +kernel) (by decide +kernel), by decide +kernel, by decide +kernel, by decide +kernel, by decide⟩
theorem mi_Model_isKept : MI yn_Model_isKept cd_Model_isKept 1 (some .boolean) 0 := ⟨tb_i7 140 (by decide +kernel) (by decide +kernel), tb_i1 13 (by decide +kernel) (by decide +kernel), by decide +kernel, by decide +kernel, by decide +kernel, by decide⟩
theorem mi_Model_placeNamed : MI yn_Model_placeNamed cd_Model_placeNamed 2 (some .int) 1 := ⟨tb_i7 169 (by decide +kernel) (by decide +kernel), tb_i1 13 (by decide +kernel) (by decide +kernel), by decide +kernel, by decide +kernel, by decide +kernel, by decide⟩
theorem mi_Model_walkerNamed : MI yn_Model_walkerNamed cd_Model_walkerNamed 2 (some .int) 1 := ⟨tb_i7 176 (by decide +kernel) (by decide +kernel), tb_i1 13 (by decide +kernel) (by decide +kernel), by decide +kernel, by decide +kernel, by decide +kernel, by decide⟩
theorem mi_Model_hourNamed : MI yn_Model_hourNamed cd_Model_hourNamed 2 (some .int) 1 := ⟨tb_i7 180 (by decide +kernel) (by decide +kernel), tb_i1 13 (by decide +kernel) (by decide +kernel), by decide +kernel, by decide +kernel, by decide +kernel, by decide⟩
theorem mi_Model_minutesTo : MI yn_Model_minutesTo cd_Model_minutesTo 4 (some .int) 2 := ⟨tb_i8 90 (by decide +kernel) (by decide +kernel), tb_i1 13 (by decide +kernel) (by decide +kernel), by decide +kernel, by decide +kernel, by decide +kernel, by decide⟩
theorem mi_Model_keeps : MI yn_Model_keeps cd_Model_keeps 2 none 0 := ⟨tb_i8 156 (by decide +kernel) (by decide +kernel), tb_i1 13 (by decide +kernel) (by decide +kernel), by decide +kernel, by decide +kernel, by decide +kernel, by decide⟩
theorem mi_Model_isRest : MI yn_Model_isRest cd_Model_isRest 6 (some .boolean) 5 := ⟨tb_i9 38 (by decide +kernel) (by decide +kernel), tb_i1 13 (by decide +kernel) (by decide +kernel), by decide +kernel, by decide +kernel, by decide +kernel, by decide⟩
theorem mi_Law_begin : MI yn_Law_begin cd_Law_begin 1 none 0 := ⟨tb_i1 177 (by decide +kernel) (by decide +kernel), tb_i1 5 (by decide +kernel) (by decide +kernel), by decide +kernel, by decide +kernel, by decide +kernel, by decide⟩
theorem mi_State_begin : MI yn_State_begin cd_State_begin 2 none 1 := ⟨tb_i4 95 (by decide +kernel) (by decide +kernel), tb_i1 10 (by decide +kernel) (by decide +kernel), by decide +kernel, by decide +kernel, by decide +kernel, by decide⟩
theorem mi_Walk_minuteOf : MI yn_Walk_minuteOf cd_Walk_minuteOf 2 (some .int) 1 := ⟨tb_i4 230 (by decide +kernel) (by decide +kernel), tb_i1 11 (by decide +kernel) (by decide +kernel), by decide +kernel, by decide +kernel, by decide +kernel, by decide⟩
theorem mi_Tape_isName : MI yn_Tape_isName cd_Tape_isName 1 (some .boolean) 0 := ⟨tb_i3 154 (by decide +kernel) (by decide +kernel), tb_i1 2 (by decide +kernel) (by decide +kernel), by decide +kernel, by decide +kernel, by decide +kernel, by decide⟩
theorem mi_Tape_wrong : MI yn_Tape_wrong cd_Tape_wrong 2 (some .boolean) 1 := ⟨tb_i3 141 (by decide +kernel) (by decide +kernel), tb_i1 2 (by decide +kernel) (by decide +kernel), by decide +kernel, by decide +kernel, by decide +kernel, by decide⟩
theorem mi_Walk_longestStay : MI yn_Walk_longestStay cd_Walk_longestStay 2 (some .int) 2 := ⟨tb_i4 193 (by decide +kernel) (by decide +kernel), tb_i1 11 (by decide +kernel) (by decide +kernel), by decide +kernel, by decide +kernel, by decide +kernel, by decide⟩
theorem mi_Walk_offBy : MI yn_Walk_offBy cd_Walk_offBy 4 (some .int) 2 := ⟨tb_i5 2 (by decide +kernel) (by decide +kernel), tb_i1 11 (by decide +kernel) (by decide +kernel), by decide +kernel, by decide +kernel, by decide +kernel, by decide⟩
theorem mi_Walk_firstMeeting : MI yn_Walk_firstMeeting cd_Walk_firstMeeting 6 (some .int) 2 := ⟨tb_i5 40 (by decide +kernel) (by decide +kernel), tb_i1 11 (by decide +kernel) (by decide +kernel), by decide +kernel, by decide +kernel, by decide +kernel, by decide⟩
theorem mi_String_isLatin1 : MI yn_String_isLatin1 cd_String_isLatin1 1 (some .boolean) 0 := ⟨tb_i3 53 (by decide +kernel) (by decide +kernel), tb_i1 16 (by decide +kernel) (by decide +kernel), by decide +kernel, by decide +kernel, by decide +kernel, by decide⟩
theorem mi_String_length : MI yn_String_length cd_String_length 1 (some .int) 0 := ⟨tb_i3 59 (by decide +kernel) (by decide +kernel), tb_i1 16 (by decide +kernel) (by decide +kernel), by decide +kernel, by decide +kernel, by decide +kernel, by decide⟩
theorem mi_StringLatin1_indexOf : MI yn_StringLatin1_indexOf cd_StringLatin1_indexOf 4 (some .int) 4 := ⟨tb_i3 66 (by decide +kernel) (by decide +kernel), tb_i1 17 (by decide +kernel) (by decide +kernel), by decide +kernel, by decide +kernel, by decide +kernel, by decide⟩
theorem mi_Model_needsWord : MI yn_Model_needsWord cd_Model_needsWord 3 (some .boolean) 1 := ⟨tb_i7 215 (by decide +kernel) (by decide +kernel), tb_i1 13 (by decide +kernel) (by decide +kernel), by decide +kernel, by decide +kernel, by decide +kernel, by decide⟩
theorem mi_Model_needsNumber : MI yn_Model_needsNumber cd_Model_needsNumber 3 (some .boolean) 2 := ⟨tb_i7 200 (by decide +kernel) (by decide +kernel), tb_i1 13 (by decide +kernel) (by decide +kernel), by decide +kernel, by decide +kernel, by decide +kernel, by decide⟩
theorem mi_Model_needsNew : MI yn_Model_needsNew cd_Model_needsNew 1 (some .boolean) 0 := ⟨tb_i7 136 (by decide +kernel) (by decide +kernel), tb_i1 13 (by decide +kernel) (by decide +kernel), by decide +kernel, by decide +kernel, by decide +kernel, by decide⟩
theorem mi_Model_closes : MI yn_Model_closes cd_Model_closes 1 (some .boolean) 0 := ⟨tb_i7 184 (by decide +kernel) (by decide +kernel), tb_i1 13 (by decide +kernel) (by decide +kernel), by decide +kernel, by decide +kernel, by decide +kernel, by decide⟩
theorem mi_Model_needsPlace : MI yn_Model_needsPlace cd_Model_needsPlace 2 (some .boolean) 1 := ⟨tb_i7 196 (by decide +kernel) (by decide +kernel), tb_i1 13 (by decide +kernel) (by decide +kernel), by decide +kernel, by decide +kernel, by decide +kernel, by decide⟩
theorem mi_Model_needsWalker : MI yn_Model_needsWalker cd_Model_needsWalker 2 (some .boolean) 1 := ⟨tb_i7 227 (by decide +kernel) (by decide +kernel), tb_i1 13 (by decide +kernel) (by decide +kernel), by decide +kernel, by decide +kernel, by decide +kernel, by decide⟩
theorem mi_Model_reads : MI yn_Model_reads cd_Model_reads 6 (some .boolean) 0 := ⟨tb_i8 3 (by decide +kernel) (by decide +kernel), tb_i1 13 (by decide +kernel) (by decide +kernel), by decide +kernel, by decide +kernel, by decide +kernel, by decide⟩
theorem mi_Model_isFree : MI yn_Model_isFree cd_Model_isFree 5 (some .boolean) 2 := ⟨tb_i8 82 (by decide +kernel) (by decide +kernel), tb_i1 13 (by decide +kernel) (by decide +kernel), by decide +kernel, by decide +kernel, by decide +kernel, by decide⟩
theorem mi_Model_goesOn : MI yn_Model_goesOn cd_Model_goesOn 4 none 2 := ⟨tb_i8 86 (by decide +kernel) (by decide +kernel), tb_i1 13 (by decide +kernel) (by decide +kernel), by decide +kernel, by decide +kernel, by decide +kernel, by decide⟩
theorem mi_Model_between : MI yn_Model_between cd_Model_between 3 (some .int) 3 := ⟨tb_i8 136 (by decide +kernel) (by decide +kernel), tb_i1 13 (by decide +kernel) (by decide +kernel), by decide +kernel, by decide +kernel, by decide +kernel, by decide⟩
theorem mi_Model_worked : MI yn_Model_worked cd_Model_worked 6 (some .int) 1 := ⟨tb_i8 121 (by decide +kernel) (by decide +kernel), tb_i1 13 (by decide +kernel) (by decide +kernel), by decide +kernel, by decide +kernel, by decide +kernel, by decide⟩
theorem mi_Model_isWhen : MI yn_Model_isWhen cd_Model_isWhen 2 (some .int) 1 := ⟨tb_i8 102 (by decide +kernel) (by decide +kernel), tb_i1 13 (by decide +kernel) (by decide +kernel), by decide +kernel, by decide +kernel, by decide +kernel, by decide⟩
theorem mi_Model_offBy : MI yn_Model_offBy cd_Model_offBy 3 (some .int) 2 := ⟨tb_i8 110 (by decide +kernel) (by decide +kernel), tb_i1 13 (by decide +kernel) (by decide +kernel), by decide +kernel, by decide +kernel, by decide +kernel, by decide⟩
theorem mi_Model_lies : MI yn_Model_lies cd_Model_lies 3 (some .boolean) 2 := ⟨tb_i8 152 (by decide +kernel) (by decide +kernel), tb_i1 13 (by decide +kernel) (by decide +kernel), by decide +kernel, by decide +kernel, by decide +kernel, by decide⟩
theorem mi_Model_canStand : MI yn_Model_canStand cd_Model_canStand 3 (some .boolean) 2 := ⟨tb_i8 175 (by decide +kernel) (by decide +kernel), tb_i1 13 (by decide +kernel) (by decide +kernel), by decide +kernel, by decide +kernel, by decide +kernel, by decide⟩
theorem mi_Tape_which : MI yn_Tape_which cd_Tape_which 4 (some .int) 2 := ⟨tb_i3 198 (by decide +kernel) (by decide +kernel), tb_i1 2 (by decide +kernel) (by decide +kernel), by decide +kernel, by decide +kernel, by decide +kernel, by decide⟩
theorem mi_Walk_comeAll : MI yn_Walk_comeAll cd_Walk_comeAll 5 none 1 := ⟨tb_i4 182 (by decide +kernel) (by decide +kernel), tb_i1 11 (by decide +kernel) (by decide +kernel), by decide +kernel, by decide +kernel, by decide +kernel, by decide⟩
theorem mi_Walk_greetAll : MI yn_Walk_greetAll cd_Walk_greetAll 7 none 1 := ⟨tb_i4 202 (by decide +kernel) (by decide +kernel), tb_i1 11 (by decide +kernel) (by decide +kernel), by decide +kernel, by decide +kernel, by decide +kernel, by decide⟩
theorem mi_Walk_leaveAll : MI yn_Walk_leaveAll cd_Walk_leaveAll 3 none 1 := ⟨tb_i4 210 (by decide +kernel) (by decide +kernel), tb_i1 11 (by decide +kernel) (by decide +kernel), by decide +kernel, by decide +kernel, by decide +kernel, by decide⟩
theorem mi_Walk_nextMinute : MI yn_Walk_nextMinute cd_Walk_nextMinute 3 (some .int) 0 := ⟨tb_i4 177 (by decide +kernel) (by decide +kernel), tb_i1 11 (by decide +kernel) (by decide +kernel), by decide +kernel, by decide +kernel, by decide +kernel, by decide⟩
theorem mi_Law_cost : MI yn_Law_cost cd_Law_cost 7 (some .int) 3 := ⟨tb_i5 15 (by decide +kernel) (by decide +kernel), tb_i1 5 (by decide +kernel) (by decide +kernel), by decide +kernel, by decide +kernel, by decide +kernel, by decide⟩
theorem mi_Walk_off : MI yn_Walk_off cd_Walk_off 2 (some .int) 1 := ⟨tb_i4 238 (by decide +kernel) (by decide +kernel), tb_i1 11 (by decide +kernel) (by decide +kernel), by decide +kernel, by decide +kernel, by decide +kernel, by decide⟩
theorem mi_String_indexOf2 : MI yn_String_indexOf2 cd_String_indexOf2 3 (some .int) 2 := ⟨tb_i3 49 (by decide +kernel) (by decide +kernel), tb_i1 16 (by decide +kernel) (by decide +kernel), by decide +kernel, by decide +kernel, by decide +kernel, by decide⟩
theorem mi_Walk_go : MI yn_Walk_go cd_Walk_go 5 none 2 := ⟨tb_i4 171 (by decide +kernel) (by decide +kernel), tb_i1 11 (by decide +kernel) (by decide +kernel), by decide +kernel, by decide +kernel, by decide +kernel, by decide⟩
theorem mi_Walk_placeOf : MI yn_Walk_placeOf cd_Walk_placeOf 4 (some .int) 2 := ⟨tb_i4 218 (by decide +kernel) (by decide +kernel), tb_i1 11 (by decide +kernel) (by decide +kernel), by decide +kernel, by decide +kernel, by decide +kernel, by decide⟩
theorem mi_Walk_cost : MI yn_Walk_cost cd_Walk_cost 2 (some .int) 1 := ⟨tb_i5 9 (by decide +kernel) (by decide +kernel), tb_i1 11 (by decide +kernel) (by decide +kernel), by decide +kernel, by decide +kernel, by decide +kernel, by decide⟩
theorem mi_Clock_areTwo : MI yn_Clock_areTwo cd_Clock_areTwo 3 (some .boolean) 2 := ⟨tb_i5 36 (by decide +kernel) (by decide +kernel), tb_i1 1 (by decide +kernel) (by decide +kernel), by decide +kernel, by decide +kernel, by decide +kernel, by decide⟩
theorem mi_State_delay : MI yn_State_delay cd_State_delay 4 none 2 := ⟨tb_i5 219 (by decide +kernel) (by decide +kernel), tb_i1 10 (by decide +kernel) (by decide +kernel), by decide +kernel, by decide +kernel, by decide +kernel, by decide⟩
theorem mi_Standing_isAsTold : MI yn_Standing_isAsTold cd_Standing_isAsTold 4 (some .boolean) 2 := ⟨tb_i5 223 (by decide +kernel) (by decide +kernel), tb_i1 9 (by decide +kernel) (by decide +kernel), by decide +kernel, by decide +kernel, by decide +kernel, by decide⟩
theorem mi_Sight_take : MI yn_Sight_take cd_Sight_take 6 none 2 := ⟨tb_i5 139 (by decide +kernel) (by decide +kernel), tb_i1 12 (by decide +kernel) (by decide +kernel), by decide +kernel, by decide +kernel, by decide +kernel, by decide⟩
theorem mi_Model_needsBoth : MI yn_Model_needsBoth cd_Model_needsBoth 5 (some .boolean) 3 := ⟨tb_i7 211 (by decide +kernel) (by decide +kernel), tb_i1 13 (by decide +kernel) (by decide +kernel), by decide +kernel, by decide +kernel, by decide +kernel, by decide⟩
theorem mi_Model_readsRound : MI yn_Model_readsRound cd_Model_readsRound 3 (some .boolean) 1 := ⟨tb_i7 219 (by decide +kernel) (by decide +kernel), tb_i1 13 (by decide +kernel) (by decide +kernel), by decide +kernel, by decide +kernel, by decide +kernel, by decide⟩
theorem mi_Model_readsLine : MI yn_Model_readsLine cd_Model_readsLine 3 (some .boolean) 0 := ⟨tb_i8 46 (by decide +kernel) (by decide +kernel), tb_i1 13 (by decide +kernel) (by decide +kernel), by decide +kernel, by decide +kernel, by decide +kernel, by decide⟩
theorem mi_Model_begins : MI yn_Model_begins cd_Model_begins 1 none 0 := ⟨tb_i7 109 (by decide +kernel) (by decide +kernel), tb_i1 13 (by decide +kernel) (by decide +kernel), by decide +kernel, by decide +kernel, by decide +kernel, by decide⟩
theorem mi_Model_laysDay : MI yn_Model_laysDay cd_Model_laysDay 4 none 0 := ⟨tb_i8 74 (by decide +kernel) (by decide +kernel), tb_i1 13 (by decide +kernel) (by decide +kernel), by decide +kernel, by decide +kernel, by decide +kernel, by decide⟩
theorem mi_Model_costOf : MI yn_Model_costOf cd_Model_costOf 5 (some .int) 1 := ⟨tb_i8 117 (by decide +kernel) (by decide +kernel), tb_i1 13 (by decide +kernel) (by decide +kernel), by decide +kernel, by decide +kernel, by decide +kernel, by decide⟩
theorem mi_Model_firstMeetingAt : MI yn_Model_firstMeetingAt cd_Model_firstMeetingAt 5 (some .int) 3 := ⟨tb_i9 1 (by decide +kernel) (by decide +kernel), tb_i1 13 (by decide +kernel) (by decide +kernel), by decide +kernel, by decide +kernel, by decide +kernel, by decide⟩
theorem mi_Model_grown : MI yn_Model_grown cd_Model_grown 6 (some .long) 2 := ⟨tb_i9 8 (by decide +kernel) (by decide +kernel), tb_i1 13 (by decide +kernel) (by decide +kernel), by decide +kernel, by decide +kernel, by decide +kernel, by decide⟩
theorem mi_Model_isMeeting : MI yn_Model_isMeeting cd_Model_isMeeting 4 (some .boolean) 1 := ⟨tb_i9 16 (by decide +kernel) (by decide +kernel), tb_i1 13 (by decide +kernel) (by decide +kernel), by decide +kernel, by decide +kernel, by decide +kernel, by decide⟩
theorem mi_String_indexOf : MI yn_String_indexOf cd_String_indexOf 2 (some .int) 1 := ⟨tb_i3 45 (by decide +kernel) (by decide +kernel), tb_i1 16 (by decide +kernel) (by decide +kernel), by decide +kernel, by decide +kernel, by decide +kernel, by decide⟩
theorem mi_Tape_stepOverNumber : MI yn_Tape_stepOverNumber cd_Tape_stepOverNumber 1 none 0 := ⟨tb_i3 40 (by decide +kernel) (by decide +kernel), tb_i1 2 (by decide +kernel) (by decide +kernel), by decide +kernel, by decide +kernel, by decide +kernel, by decide⟩
theorem mi_Tape_stepOverWord : MI yn_Tape_stepOverWord cd_Tape_stepOverWord 2 none 0 := ⟨tb_i3 31 (by decide +kernel) (by decide +kernel), tb_i1 2 (by decide +kernel) (by decide +kernel), by decide +kernel, by decide +kernel, by decide +kernel, by decide⟩
theorem mi_Walk_costs : MI yn_Walk_costs cd_Walk_costs 3 (some .int) 0 := ⟨tb_i5 86 (by decide +kernel) (by decide +kernel), tb_i1 11 (by decide +kernel) (by decide +kernel), by decide +kernel, by decide +kernel, by decide +kernel, by decide⟩
theorem mi_State_pass : MI yn_State_pass cd_State_pass 2 none 1 := ⟨tb_i5 91 (by decide +kernel) (by decide +kernel), tb_i1 10 (by decide +kernel) (by decide +kernel), by decide +kernel, by decide +kernel, by decide +kernel, by decide⟩
theorem mi_Lines_can : MI yn_Lines_can cd_Lines_can 4 (some .boolean) 3 := ⟨tb_i5 104 (by decide +kernel) (by decide +kernel), tb_i1 8 (by decide +kernel) (by decide +kernel), by decide +kernel, by decide +kernel, by decide +kernel, by decide⟩
theorem mi_Lines_isDay : MI yn_Lines_isDay cd_Lines_isDay 2 (some .boolean) 1 := ⟨tb_i5 110 (by decide +kernel) (by decide +kernel), tb_i1 8 (by decide +kernel) (by decide +kernel), by decide +kernel, by decide +kernel, by decide +kernel, by decide⟩
theorem mi_Lines_happen : MI yn_Lines_happen cd_Lines_happen 3 none 2 := ⟨tb_i5 118 (by decide +kernel) (by decide +kernel), tb_i1 8 (by decide +kernel) (by decide +kernel), by decide +kernel, by decide +kernel, by decide +kernel, by decide⟩
theorem mi_Walk_missing : MI yn_Walk_missing cd_Walk_missing 3 (some .int) 0 := ⟨tb_i5 114 (by decide +kernel) (by decide +kernel), tb_i1 11 (by decide +kernel) (by decide +kernel), by decide +kernel, by decide +kernel, by decide +kernel, by decide⟩
theorem mi_Clock_lookRound : MI yn_Clock_lookRound cd_Clock_lookRound 1 none 0 := ⟨tb_i5 135 (by decide +kernel) (by decide +kernel), tb_i1 1 (by decide +kernel) (by decide +kernel), by decide +kernel, by decide +kernel, by decide +kernel, by decide⟩
theorem mi_Clock_mostAlike : MI yn_Clock_mostAlike cd_Clock_mostAlike 5 (some .int) 1 := ⟨tb_i5 156 (by decide +kernel) (by decide +kernel), tb_i1 1 (by decide +kernel) (by decide +kernel), by decide +kernel, by decide +kernel, by decide +kernel, by decide⟩
theorem mi_Sight_firstToHaveMet : MI yn_Sight_firstToHaveMet cd_Sight_firstToHaveMet 10 (some .int) 5 := ⟨tb_i5 182 (by decide +kernel) (by decide +kernel), tb_i1 12 (by decide +kernel) (by decide +kernel), by decide +kernel, by decide +kernel, by decide +kernel, by decide⟩
theorem mi_Sight_isMeeting : MI yn_Sight_isMeeting cd_Sight_isMeeting 3 (some .boolean) 1 := ⟨tb_i5 201 (by decide +kernel) (by decide +kernel), tb_i1 12 (by decide +kernel) (by decide +kernel), by decide +kernel, by decide +kernel, by decide +kernel, by decide⟩
theorem mi_Clock_drawDay : MI yn_Clock_drawDay cd_Clock_drawDay 2 none 0 := ⟨tb_i5 233 (by decide +kernel) (by decide +kernel), tb_i1 1 (by decide +kernel) (by decide +kernel), by decide +kernel, by decide +kernel, by decide +kernel, by decide⟩
theorem mi_Walk_meetings : MI yn_Walk_meetings cd_Walk_meetings 4 (some .int) 0 := ⟨tb_i6 5 (by decide +kernel) (by decide +kernel), tb_i1 11 (by decide +kernel) (by decide +kernel), by decide +kernel, by decide +kernel, by decide +kernel, by decide⟩
theorem mi_Model_readsMissed : MI yn_Model_readsMissed cd_Model_readsMissed 1 (some .boolean) 0 := ⟨tb_i7 239 (by decide +kernel) (by decide +kernel), tb_i1 13 (by decide +kernel) (by decide +kernel), by decide +kernel, by decide +kernel, by decide +kernel, by decide⟩
theorem mi_Model_readsHour : MI yn_Model_readsHour cd_Model_readsHour 4 (some .boolean) 0 := ⟨tb_i7 231 (by decide +kernel) (by decide +kernel), tb_i1 13 (by decide +kernel) (by decide +kernel), by decide +kernel, by decide +kernel, by decide +kernel, by decide⟩
theorem mi_Model_readsWaits : MI yn_Model_readsWaits cd_Model_readsWaits 4 (some .boolean) 0 := ⟨tb_i7 223 (by decide +kernel) (by decide +kernel), tb_i1 13 (by decide +kernel) (by decide +kernel), by decide +kernel, by decide +kernel, by decide +kernel, by decide⟩
theorem mi_Model_readsWalker : MI yn_Model_readsWalker cd_Model_readsWalker 5 (some .boolean) 0 := ⟨tb_i7 207 (by decide +kernel) (by decide +kernel), tb_i1 13 (by decide +kernel) (by decide +kernel), by decide +kernel, by decide +kernel, by decide +kernel, by decide⟩
theorem mi_Model_readsPath : MI yn_Model_readsPath cd_Model_readsPath 3 (some .boolean) 0 := ⟨tb_i7 192 (by decide +kernel) (by decide +kernel), tb_i1 13 (by decide +kernel) (by decide +kernel), by decide +kernel, by decide +kernel, by decide +kernel, by decide⟩
theorem mi_Model_readsPlace : MI yn_Model_readsPlace cd_Model_readsPlace 2 (some .boolean) 0 := ⟨tb_i7 128 (by decide +kernel) (by decide +kernel), tb_i1 13 (by decide +kernel) (by decide +kernel), by decide +kernel, by decide +kernel, by decide +kernel, by decide⟩
theorem mi_Model_passes : MI yn_Model_passes cd_Model_passes 3 (some .int) 0 := ⟨tb_i8 187 (by decide +kernel) (by decide +kernel), tb_i1 13 (by decide +kernel) (by decide +kernel), by decide +kernel, by decide +kernel, by decide +kernel, by decide⟩
theorem mi_Model_mostAlike : MI yn_Model_mostAlike cd_Model_mostAlike 5 (some .int) 1 := ⟨tb_i8 220 (by decide +kernel) (by decide +kernel), tb_i1 13 (by decide +kernel) (by decide +kernel), by decide +kernel, by decide +kernel, by decide +kernel, by decide⟩
theorem mi_Model_times : MI yn_Model_times cd_Model_times 6 (some .int) 1 := ⟨tb_i8 207 (by decide +kernel) (by decide +kernel), tb_i1 13 (by decide +kernel) (by decide +kernel), by decide +kernel, by decide +kernel, by decide +kernel, by decide⟩
theorem mi_Model_isAsTold : MI yn_Model_isAsTold cd_Model_isAsTold 2 (some .boolean) 0 := ⟨tb_i9 28 (by decide +kernel) (by decide +kernel), tb_i1 13 (by decide +kernel) (by decide +kernel), by decide +kernel, by decide +kernel, by decide +kernel, by decide⟩
theorem mi_Model_bits : MI yn_Model_bits cd_Model_bits 3 (some .int) 1 := ⟨tb_i9 31 (by decide +kernel) (by decide +kernel), tb_i1 13 (by decide +kernel) (by decide +kernel), by decide +kernel, by decide +kernel, by decide +kernel, by decide⟩
theorem mi_Model_draws : MI yn_Model_draws cd_Model_draws 2 (some .int) 1 := ⟨tb_i9 49 (by decide +kernel) (by decide +kernel), tb_i1 13 (by decide +kernel) (by decide +kernel), by decide +kernel, by decide +kernel, by decide +kernel, by decide⟩
theorem mi_Model_meetings : MI yn_Model_meetings cd_Model_meetings 4 (some .int) 0 := ⟨tb_i9 57 (by decide +kernel) (by decide +kernel), tb_i1 13 (by decide +kernel) (by decide +kernel), by decide +kernel, by decide +kernel, by decide +kernel, by decide⟩
theorem mi_Tape_step : MI yn_Tape_step cd_Tape_step 1 none 0 := ⟨tb_i3 24 (by decide +kernel) (by decide +kernel), tb_i1 2 (by decide +kernel) (by decide +kernel), by decide +kernel, by decide +kernel, by decide +kernel, by decide⟩
theorem mi_Hills_isTold : MI yn_Hills_isTold cd_Hills_isTold 3 (some .boolean) 1 := ⟨tb_i3 168 (by decide +kernel) (by decide +kernel), tb_i1 4 (by decide +kernel) (by decide +kernel), by decide +kernel, by decide +kernel, by decide +kernel, by decide⟩
theorem mi_HillsReader_whichPlace : MI yn_HillsReader_whichPlace cd_HillsReader_whichPlace 1 (some .int) 0 := ⟨tb_i3 194 (by decide +kernel) (by decide +kernel), tb_i1 3 (by decide +kernel) (by decide +kernel), by decide +kernel, by decide +kernel, by decide +kernel, by decide⟩
theorem mi_Model_readsAll : MI yn_Model_readsAll cd_Model_readsAll 2 (some .boolean) 0 := ⟨tb_i7 105 (by decide +kernel) (by decide +kernel), tb_i1 13 (by decide +kernel) (by decide +kernel), by decide +kernel, by decide +kernel, by decide +kernel, by decide⟩
theorem mi_Model_lays : MI yn_Model_lays cd_Model_lays 1 none 0 := ⟨tb_i8 18 (by decide +kernel) (by decide +kernel), tb_i1 13 (by decide +kernel) (by decide +kernel), by decide +kernel, by decide +kernel, by decide +kernel, by decide⟩
theorem mi_Model_fresh : MI yn_Model_fresh cd_Model_fresh 2 none 0 := ⟨tb_i8 28 (by decide +kernel) (by decide +kernel), tb_i1 13 (by decide +kernel) (by decide +kernel), by decide +kernel, by decide +kernel, by decide +kernel, by decide⟩
theorem mi_Model_forgets : MI yn_Model_forgets cd_Model_forgets 2 none 0 := ⟨tb_i6 110 (by decide +kernel) (by decide +kernel), tb_i1 13 (by decide +kernel) (by decide +kernel), by decide +kernel, by decide +kernel, by decide +kernel, by decide⟩
theorem mi_Model_laysWays : MI yn_Model_laysWays cd_Model_laysWays 3 none 0 := ⟨tb_i8 36 (by decide +kernel) (by decide +kernel), tb_i1 13 (by decide +kernel) (by decide +kernel), by decide +kernel, by decide +kernel, by decide +kernel, by decide⟩
theorem mi_Model_goes : MI yn_Model_goes cd_Model_goes 5 (some .boolean) 1 := ⟨tb_i8 199 (by decide +kernel) (by decide +kernel), tb_i1 13 (by decide +kernel) (by decide +kernel), by decide +kernel, by decide +kernel, by decide +kernel, by decide⟩
theorem mi_HillsReader_whichWalker : MI yn_HillsReader_whichWalker cd_HillsReader_whichWalker 1 (some .int) 0 := ⟨tb_i4 18 (by decide +kernel) (by decide +kernel), tb_i1 3 (by decide +kernel) (by decide +kernel), by decide +kernel, by decide +kernel, by decide +kernel, by decide⟩
theorem mi_Tape_take : MI yn_Tape_take cd_Tape_take 2 (some .boolean) 1 := ⟨tb_i3 186 (by decide +kernel) (by decide +kernel), tb_i1 2 (by decide +kernel) (by decide +kernel), by decide +kernel, by decide +kernel, by decide +kernel, by decide⟩
theorem mi_HillsReader_readNewName : MI yn_HillsReader_readNewName cd_HillsReader_readNewName 3 (some .boolean) 2 := ⟨tb_i3 150 (by decide +kernel) (by decide +kernel), tb_i1 3 (by decide +kernel) (by decide +kernel), by decide +kernel, by decide +kernel, by decide +kernel, by decide⟩
theorem mi_Tape_takeSign : MI yn_Tape_takeSign cd_Tape_takeSign 2 (some .boolean) 1 := ⟨tb_i3 175 (by decide +kernel) (by decide +kernel), tb_i1 2 (by decide +kernel) (by decide +kernel), by decide +kernel, by decide +kernel, by decide +kernel, by decide⟩
theorem mi_Tape_takeNumber : MI yn_Tape_takeNumber cd_Tape_takeNumber 4 (some .int) 2 := ⟨tb_i3 204 (by decide +kernel) (by decide +kernel), tb_i1 2 (by decide +kernel) (by decide +kernel), by decide +kernel, by decide +kernel, by decide +kernel, by decide⟩
theorem mi_Walker_begin : MI yn_Walker_begin cd_Walker_begin 1 none 0 := ⟨tb_i3 218 (by decide +kernel) (by decide +kernel), tb_i1 6 (by decide +kernel) (by decide +kernel), by decide +kernel, by decide +kernel, by decide +kernel, by decide⟩
theorem mi_HillsReader_takeKind : MI yn_HillsReader_takeKind cd_HillsReader_takeKind 3 (some .int) 0 := ⟨tb_i3 223 (by decide +kernel) (by decide +kernel), tb_i1 3 (by decide +kernel) (by decide +kernel), by decide +kernel, by decide +kernel, by decide +kernel, by decide⟩
theorem mi_HillsReader_readRound : MI yn_HillsReader_readRound cd_HillsReader_readRound 4 (some .boolean) 1 := ⟨tb_i4 3 (by decide +kernel) (by decide +kernel), tb_i1 3 (by decide +kernel) (by decide +kernel), by decide +kernel, by decide +kernel, by decide +kernel, by decide⟩
theorem mi_Lines_kindOf : MI yn_Lines_kindOf cd_Lines_kindOf 1 (some .int) 1 := ⟨tb_i4 118 (by decide +kernel) (by decide +kernel), tb_i1 8 (by decide +kernel) (by decide +kernel), by decide +kernel, by decide +kernel, by decide +kernel, by decide⟩
theorem mi_HillsReader_takeWalkerAt : MI yn_HillsReader_takeWalkerAt cd_HillsReader_takeWalkerAt 2 (some .int) 0 := ⟨tb_i4 14 (by decide +kernel) (by decide +kernel), tb_i1 3 (by decide +kernel) (by decide +kernel), by decide +kernel, by decide +kernel, by decide +kernel, by decide⟩
theorem mi_Tape_close : MI yn_Tape_close cd_Tape_close 1 (some .int) 0 := ⟨tb_i4 87 (by decide +kernel) (by decide +kernel), tb_i1 2 (by decide +kernel) (by decide +kernel), by decide +kernel, by decide +kernel, by decide +kernel, by decide⟩
theorem mi_Tape_isEnd : MI yn_Tape_isEnd cd_Tape_isEnd 1 (some .boolean) 0 := ⟨tb_i3 131 (by decide +kernel) (by decide +kernel), tb_i1 2 (by decide +kernel) (by decide +kernel), by decide +kernel, by decide +kernel, by decide +kernel, by decide⟩
theorem mi_Lines_readLine : MI yn_Lines_readLine cd_Lines_readLine 4 (some .boolean) 2 := ⟨tb_i4 115 (by decide +kernel) (by decide +kernel), tb_i1 8 (by decide +kernel) (by decide +kernel), by decide +kernel, by decide +kernel, by decide +kernel, by decide⟩
theorem mi_Tape_open : MI yn_Tape_open cd_Tape_open 1 none 0 := ⟨tb_i3 20 (by decide +kernel) (by decide +kernel), tb_i1 2 (by decide +kernel) (by decide +kernel), by decide +kernel, by decide +kernel, by decide +kernel, by decide⟩
theorem mi_Lines_read : MI yn_Lines_read cd_Lines_read 5 (some .int) 2 := ⟨tb_i4 109 (by decide +kernel) (by decide +kernel), tb_i1 8 (by decide +kernel) (by decide +kernel), by decide +kernel, by decide +kernel, by decide +kernel, by decide⟩
theorem mi_Clock_chooseDeputies : MI yn_Clock_chooseDeputies cd_Clock_chooseDeputies 6 none 3 := ⟨tb_i5 167 (by decide +kernel) (by decide +kernel), tb_i1 1 (by decide +kernel) (by decide +kernel), by decide +kernel, by decide +kernel, by decide +kernel, by decide⟩
theorem mi_Model_stands : MI yn_Model_stands cd_Model_stands 5 none 3 := ⟨tb_i8 233 (by decide +kernel) (by decide +kernel), tb_i1 13 (by decide +kernel) (by decide +kernel), by decide +kernel, by decide +kernel, by decide +kernel, by decide⟩
theorem mi_Law_operatorOf : MI yn_Law_operatorOf cd_Law_operatorOf 2 (some .int) 2 := ⟨tb_i4 71 (by decide +kernel) (by decide +kernel), tb_i1 5 (by decide +kernel) (by decide +kernel), by decide +kernel, by decide +kernel, by decide +kernel, by decide⟩
theorem mi_Law_readLevel : MI yn_Law_readLevel cd_Law_readLevel 6 (some .boolean) 3 := ⟨tb_i4 50 (by decide +kernel) (by decide +kernel), tb_i1 5 (by decide +kernel) (by decide +kernel), by decide +kernel, by decide +kernel, by decide +kernel, by decide⟩
theorem mi_Law_readPart : MI yn_Law_readPart cd_Law_readPart 6 (some .boolean) 2 := ⟨tb_i4 54 (by decide +kernel) (by decide +kernel), tb_i1 5 (by decide +kernel) (by decide +kernel), by decide +kernel, by decide +kernel, by decide +kernel, by decide⟩
theorem mi_Law_leafOf : MI yn_Law_leafOf cd_Law_leafOf 1 (some .int) 1 := ⟨tb_i4 60 (by decide +kernel) (by decide +kernel), tb_i1 5 (by decide +kernel) (by decide +kernel), by decide +kernel, by decide +kernel, by decide +kernel, by decide⟩
theorem mi_Law_clear : MI yn_Law_clear cd_Law_clear 1 none 0 := ⟨tb_i4 46 (by decide +kernel) (by decide +kernel), tb_i1 5 (by decide +kernel) (by decide +kernel), by decide +kernel, by decide +kernel, by decide +kernel, by decide⟩
theorem mi_Hills_findWays : MI yn_Hills_findWays cd_Hills_findWays 4 none 0 := ⟨tb_i4 79 (by decide +kernel) (by decide +kernel), tb_i1 4 (by decide +kernel) (by decide +kernel), by decide +kernel, by decide +kernel, by decide +kernel, by decide⟩
theorem mi_HillsReader_canBegin : MI yn_HillsReader_canBegin cd_HillsReader_canBegin 2 (some .boolean) 1 := ⟨tb_i3 137 (by decide +kernel) (by decide +kernel), tb_i1 3 (by decide +kernel) (by decide +kernel), by decide +kernel, by decide +kernel, by decide +kernel, by decide⟩
theorem mi_HillsReader_readPlace : MI yn_HillsReader_readPlace cd_HillsReader_readPlace 1 (some .boolean) 0 := ⟨tb_i3 146 (by decide +kernel) (by decide +kernel), tb_i1 3 (by decide +kernel) (by decide +kernel), by decide +kernel, by decide +kernel, by decide +kernel, by decide⟩
theorem mi_HillsReader_readPath : MI yn_HillsReader_readPath cd_HillsReader_readPath 4 (some .boolean) 0 := ⟨tb_i3 190 (by decide +kernel) (by decide +kernel), tb_i1 3 (by decide +kernel) (by decide +kernel), by decide +kernel, by decide +kernel, by decide +kernel, by decide⟩
theorem mi_HillsReader_readWalker : MI yn_HillsReader_readWalker cd_HillsReader_readWalker 2 (some .boolean) 0 := ⟨tb_i3 214 (by decide +kernel) (by decide +kernel), tb_i1 3 (by decide +kernel) (by decide +kernel), by decide +kernel, by decide +kernel, by decide +kernel, by decide⟩
theorem mi_HillsReader_readWaits : MI yn_HillsReader_readWaits cd_HillsReader_readWaits 6 (some .boolean) 0 := ⟨tb_i4 10 (by decide +kernel) (by decide +kernel), tb_i1 3 (by decide +kernel) (by decide +kernel), by decide +kernel, by decide +kernel, by decide +kernel, by decide⟩
theorem mi_HillsReader_readHour : MI yn_HillsReader_readHour cd_HillsReader_readHour 5 (some .boolean) 0 := ⟨tb_i4 28 (by decide +kernel) (by decide +kernel), tb_i1 3 (by decide +kernel) (by decide +kernel), by decide +kernel, by decide +kernel, by decide +kernel, by decide⟩
theorem mi_HillsReader_readMissed : MI yn_HillsReader_readMissed cd_HillsReader_readMissed 1 (some .boolean) 0 := ⟨tb_i4 42 (by decide +kernel) (by decide +kernel), tb_i1 3 (by decide +kernel) (by decide +kernel), by decide +kernel, by decide +kernel, by decide +kernel, by decide⟩
theorem mi_Hills_begin : MI yn_Hills_begin cd_Hills_begin 1 none 0 := ⟨tb_i1 170 (by decide +kernel) (by decide +kernel), tb_i1 4 (by decide +kernel) (by decide +kernel), by decide +kernel, by decide +kernel, by decide +kernel, by decide⟩
theorem mi_HillsReader_read : MI yn_HillsReader_read cd_HillsReader_read 5 (some .int) 1 := ⟨tb_i3 15 (by decide +kernel) (by decide +kernel), tb_i1 3 (by decide +kernel) (by decide +kernel), by decide +kernel, by decide +kernel, by decide +kernel, by decide⟩
theorem mi_Standing_begin : MI yn_Standing_begin cd_Standing_begin 2 none 1 := ⟨tb_i4 91 (by decide +kernel) (by decide +kernel), tb_i1 9 (by decide +kernel) (by decide +kernel), by decide +kernel, by decide +kernel, by decide +kernel, by decide⟩
theorem mv_Clock_isPlace : MV yn_Clock_isPlace 10 := ⟨tb_i4 146 (by decide +kernel) (by decide +kernel), tb_sel 21 (by decide +kernel) (by decide +kernel), by decide, rfl⟩
theorem mv_Clock_isWalker : MV yn_Clock_isWalker 10 := ⟨tb_i4 154 (by decide +kernel) (by decide +kernel), tb_sel 22 (by decide +kernel) (by decide +kernel), by decide, rfl⟩
theorem mv_State_lives : MV yn_State_lives 6 := ⟨tb_i4 157 (by decide +kernel) (by decide +kernel), tb_i4 158 (by decide +kernel) (by decide +kernel), by decide, rfl⟩
theorem mv_State_copy : MV yn_State_copy 6 := ⟨tb_i5 54 (by decide +kernel) (by decide +kernel), tb_i5 55 (by decide +kernel) (by decide +kernel), by decide, rfl⟩
theorem mv_Standing_addSeen : MV yn_Standing_addSeen 5 := ⟨tb_i5 125 (by decide +kernel) (by decide +kernel), tb_i5 126 (by decide +kernel) (by decide +kernel), by decide, rfl⟩
theorem mv_Clock_isHour : MV yn_Clock_isHour 10 := ⟨tb_i4 225 (by decide +kernel) (by decide +kernel), tb_sel 31 (by decide +kernel) (by decide +kernel), by decide, rfl⟩
theorem mv_Clock_isMinute : MV yn_Clock_isMinute 10 := ⟨tb_i4 166 (by decide +kernel) (by decide +kernel), tb_sel 23 (by decide +kernel) (by decide +kernel), by decide, rfl⟩
theorem mv_Standing_hoursTold : MV yn_Standing_hoursTold 5 := ⟨tb_i6 23 (by decide +kernel) (by decide +kernel), tb_i6 24 (by decide +kernel) (by decide +kernel), by decide, rfl⟩
theorem mv_Clock_draw : MV yn_Clock_draw 10 := ⟨tb_i5 236 (by decide +kernel) (by decide +kernel), tb_sel 42 (by decide +kernel) (by decide +kernel), by decide, rfl⟩
theorem mv_Model_signAt : MV yn_Model_signAt 11 := ⟨tb_i7 116 (by decide +kernel) (by decide +kernel), tb_sel 48 (by decide +kernel) (by decide +kernel), by decide, rfl⟩
theorem mv_Model_sums : MV yn_Model_sums 11 := ⟨tb_i8 128 (by decide +kernel) (by decide +kernel), tb_sel 94 (by decide +kernel) (by decide +kernel), by decide, rfl⟩
theorem mv_Model_allWalkers : MV yn_Model_allWalkers 11 := ⟨tb_i8 31 (by decide +kernel) (by decide +kernel), tb_sel 76 (by decide +kernel) (by decide +kernel), by decide, rfl⟩
theorem mv_Model_isPlace : MV yn_Model_isPlace 11 := ⟨tb_i8 57 (by decide +kernel) (by decide +kernel), tb_sel 80 (by decide +kernel) (by decide +kernel), by decide, rfl⟩
theorem mv_Model_placeIn : MV yn_Model_placeIn 11 := ⟨tb_i8 77 (by decide +kernel) (by decide +kernel), tb_sel 83 (by decide +kernel) (by decide +kernel), by decide, rfl⟩
theorem mv_Model_firstAt : MV yn_Model_firstAt 11 := ⟨tb_i8 105 (by decide +kernel) (by decide +kernel), tb_sel 89 (by decide +kernel) (by decide +kernel), by decide, rfl⟩
theorem mv_Model_isWalker : MV yn_Model_isWalker 11 := ⟨tb_i8 65 (by decide +kernel) (by decide +kernel), tb_sel 81 (by decide +kernel) (by decide +kernel), by decide, rfl⟩
theorem mv_Model_isAlive : MV yn_Model_isAlive 11 := ⟨tb_i8 166 (by decide +kernel) (by decide +kernel), tb_sel 99 (by decide +kernel) (by decide +kernel), by decide, rfl⟩
theorem mv_Model_isOf : MV yn_Model_isOf 11 := ⟨tb_i7 234 (by decide +kernel) (by decide +kernel), tb_sel 69 (by decide +kernel) (by decide +kernel), by decide, rfl⟩
theorem mv_Model_isAsSeen : MV yn_Model_isAsSeen 11 := ⟨tb_i8 210 (by decide +kernel) (by decide +kernel), tb_sel 103 (by decide +kernel) (by decide +kernel), by decide, rfl⟩
theorem mv_Model_thereAt : MV yn_Model_thereAt 11 := ⟨tb_i8 223 (by decide +kernel) (by decide +kernel), tb_sel 105 (by decide +kernel) (by decide +kernel), by decide, rfl⟩
theorem mv_Model_isHour : MV yn_Model_isHour 11 := ⟨tb_i8 97 (by decide +kernel) (by decide +kernel), tb_sel 87 (by decide +kernel) (by decide +kernel), by decide, rfl⟩
theorem mv_Model_firstMeeting : MV yn_Model_firstMeeting 11 := ⟨tb_i8 143 (by decide +kernel) (by decide +kernel), tb_sel 96 (by decide +kernel) (by decide +kernel), by decide, rfl⟩
theorem mv_Model_laysLines : MV yn_Model_laysLines 11 := ⟨tb_i8 49 (by decide +kernel) (by decide +kernel), tb_sel 79 (by decide +kernel) (by decide +kernel), by decide, rfl⟩
theorem mv_Model_laysTold : MV yn_Model_laysTold 11 := ⟨tb_i9 64 (by decide +kernel) (by decide +kernel), tb_sel 112 (by decide +kernel) (by decide +kernel), by decide, rfl⟩
theorem mv_Model_toldMany : MV yn_Model_toldMany 11 := ⟨tb_i9 72 (by decide +kernel) (by decide +kernel), tb_sel 113 (by decide +kernel) (by decide +kernel), by decide, rfl⟩
theorem mv_Hills_shorten : MV yn_Hills_shorten 0 := ⟨tb_i4 82 (by decide +kernel) (by decide +kernel), tb_sel 19 (by decide +kernel) (by decide +kernel), by decide, rfl⟩
theorem mv_Law_put : MV yn_Law_put 2 := ⟨tb_i1 180 (by decide +kernel) (by decide +kernel), tb_sel 1 (by decide +kernel) (by decide +kernel), by decide, rfl⟩
theorem mv_Tape_isSign : MV yn_Tape_isSign 7 := ⟨tb_i3 177 (by decide +kernel) (by decide +kernel), tb_i3 178 (by decide +kernel) (by decide +kernel), by decide, rfl⟩
theorem mv_Tape_isNumber : MV yn_Tape_isNumber 7 := ⟨tb_i3 206 (by decide +kernel) (by decide +kernel), tb_i3 207 (by decide +kernel) (by decide +kernel), by decide, rfl⟩
theorem mv_Law_push : MV yn_Law_push 2 := ⟨tb_i5 18 (by decide +kernel) (by decide +kernel), tb_sel 33 (by decide +kernel) (by decide +kernel), by decide, rfl⟩
theorem mv_Law_pop : MV yn_Law_pop 2 := ⟨tb_i5 22 (by decide +kernel) (by decide +kernel), tb_sel 34 (by decide +kernel) (by decide +kernel), by decide, rfl⟩
theorem mv_State_bury : MV yn_State_bury 6 := ⟨tb_i5 62 (by decide +kernel) (by decide +kernel), tb_i5 63 (by decide +kernel) (by decide +kernel), by decide, rfl⟩
theorem mv_Sight_at : MV yn_Sight_at 4 := ⟨tb_i5 146 (by decide +kernel) (by decide +kernel), tb_i5 147 (by decide +kernel) (by decide +kernel), by decide, rfl⟩
theorem mv_Sight_spread : MV yn_Sight_spread 4 := ⟨tb_i5 192 (by decide +kernel) (by decide +kernel), tb_sel 40 (by decide +kernel) (by decide +kernel), by decide, rfl⟩
theorem mv_Lines_copy : MV yn_Lines_copy 3 := ⟨tb_i4 136 (by decide +kernel) (by decide +kernel), tb_i4 137 (by decide +kernel) (by decide +kernel), by decide, rfl⟩
theorem mv_Walker_passes : MV yn_Walker_passes 9 := ⟨tb_i4 32 (by decide +kernel) (by decide +kernel), tb_i4 33 (by decide +kernel) (by decide +kernel), by decide, rfl⟩
theorem mv_Walker_rest : MV yn_Walker_rest 9 := ⟨tb_i4 195 (by decide +kernel) (by decide +kernel), tb_i4 196 (by decide +kernel) (by decide +kernel), by decide, rfl⟩
theorem mv_Walk_isThere : MV yn_Walk_isThere 8 := ⟨tb_i4 185 (by decide +kernel) (by decide +kernel), tb_sel 26 (by decide +kernel) (by decide +kernel), by decide, rfl⟩
theorem mv_Walk_visitOf : MV yn_Walk_visitOf 8 := ⟨tb_i4 205 (by decide +kernel) (by decide +kernel), tb_sel 29 (by decide +kernel) (by decide +kernel), by decide, rfl⟩
theorem mv_Walk_nextWay : MV yn_Walk_nextWay 8 := ⟨tb_i4 189 (by decide +kernel) (by decide +kernel), tb_sel 27 (by decide +kernel) (by decide +kernel), by decide, rfl⟩
theorem mv_Walker_minutesFor : MV yn_Walker_minutesFor 9 := ⟨tb_i4 212 (by decide +kernel) (by decide +kernel), tb_i4 213 (by decide +kernel) (by decide +kernel), by decide, rfl⟩
theorem mv_Walk_firstMeetingAt : MV yn_Walk_firstMeetingAt 8 := ⟨tb_i5 42 (by decide +kernel) (by decide +kernel), tb_i5 43 (by decide +kernel) (by decide +kernel), by decide, rfl⟩
theorem mv_Walk_firstAt : MV yn_Walk_firstAt 8 := ⟨tb_i4 233 (by decide +kernel) (by decide +kernel), tb_sel 32 (by decide +kernel) (by decide +kernel), by decide, rfl⟩
theorem mv_Tape_append : MV yn_Tape_append 7 := ⟨tb_i3 1 (by decide +kernel) (by decide +kernel), tb_i3 2 (by decide +kernel) (by decide +kernel), by decide, rfl⟩
theorem mv_Clock_remember : MV yn_Clock_remember 10 := ⟨tb_i5 51 (by decide +kernel) (by decide +kernel), tb_sel 36 (by decide +kernel) (by decide +kernel), by decide, rfl⟩
theorem mv_State_canDepute : MV yn_State_canDepute 6 := ⟨tb_i5 70 (by decide +kernel) (by decide +kernel), tb_i5 71 (by decide +kernel) (by decide +kernel), by decide, rfl⟩
theorem mv_Standing_copy : MV yn_Standing_copy 5 := ⟨tb_i6 12 (by decide +kernel) (by decide +kernel), tb_i6 13 (by decide +kernel) (by decide +kernel), by decide, rfl⟩
theorem mv_Standing_canBe : MV yn_Standing_canBe 5 := ⟨tb_i5 142 (by decide +kernel) (by decide +kernel), tb_i5 143 (by decide +kernel) (by decide +kernel), by decide, rfl⟩
theorem mv_Model_isSign : MV yn_Model_isSign 11 := ⟨tb_i7 187 (by decide +kernel) (by decide +kernel), tb_sel 58 (by decide +kernel) (by decide +kernel), by decide, rfl⟩
theorem mv_Model_fact : MV yn_Model_fact 11 := ⟨tb_i8 6 (by decide +kernel) (by decide +kernel), tb_sel 72 (by decide +kernel) (by decide +kernel), by decide, rfl⟩
theorem mv_Model_isWord : MV yn_Model_isWord 11 := ⟨tb_i7 123 (by decide +kernel) (by decide +kernel), tb_sel 49 (by decide +kernel) (by decide +kernel), by decide, rfl⟩
theorem mv_Model_nextToken : MV yn_Model_nextToken 11 := ⟨tb_i7 112 (by decide +kernel) (by decide +kernel), tb_sel 47 (by decide +kernel) (by decide +kernel), by decide, rfl⟩
theorem mv_Model_puts : MV yn_Model_puts 11 := ⟨tb_i8 13 (by decide +kernel) (by decide +kernel), tb_sel 73 (by decide +kernel) (by decide +kernel), by decide, rfl⟩
theorem mv_Model_fails : MV yn_Model_fails 11 := ⟨tb_i7 131 (by decide +kernel) (by decide +kernel), tb_sel 51 (by decide +kernel) (by decide +kernel), by decide, rfl⟩
theorem mv_Model_opens : MV yn_Model_opens 11 := ⟨tb_i8 124 (by decide +kernel) (by decide +kernel), tb_sel 93 (by decide +kernel) (by decide +kernel), by decide, rfl⟩
theorem mv_Model_tests : MV yn_Model_tests 11 := ⟨tb_i8 132 (by decide +kernel) (by decide +kernel), tb_sel 95 (by decide +kernel) (by decide +kernel), by decide, rfl⟩
theorem mv_Model_isKept : MV yn_Model_isKept 11 := ⟨tb_i7 139 (by decide +kernel) (by decide +kernel), tb_sel 53 (by decide +kernel) (by decide +kernel), by decide, rfl⟩
theorem mv_Model_placeNamed : MV yn_Model_placeNamed 11 := ⟨tb_i7 168 (by decide +kernel) (by decide +kernel), tb_sel 54 (by decide +kernel) (by decide +kernel), by decide, rfl⟩
theorem mv_Model_walkerNamed : MV yn_Model_walkerNamed 11 := ⟨tb_i7 175 (by decide +kernel) (by decide +kernel), tb_sel 55 (by decide +kernel) (by decide +kernel), by decide, rfl⟩
theorem mv_Model_hourNamed : MV yn_Model_hourNamed 11 := ⟨tb_i7 179 (by decide +kernel) (by decide +kernel), tb_sel 56 (by decide +kernel) (by decide +kernel), by decide, rfl⟩
theorem mv_Model_minutesTo : MV yn_Model_minutesTo 11 := ⟨tb_i8 89 (by decide +kernel) (by decide +kernel), tb_sel 86 (by decide +kernel) (by decide +kernel), by decide, rfl⟩
theorem mv_Model_keeps : MV yn_Model_keeps 11 := ⟨tb_i8 155 (by decide +kernel) (by decide +kernel), tb_sel 98 (by decide +kernel) (by decide +kernel), by decide, rfl⟩
theorem mv_Law_begin : MV yn_Law_begin 2 := ⟨tb_i1 175 (by decide +kernel) (by decide +kernel), tb_i1 176 (by decide +kernel) (by decide +kernel), by decide, rfl⟩
theorem mv_State_begin : MV yn_State_begin 6 := ⟨tb_i4 93 (by decide +kernel) (by decide +kernel), tb_i4 94 (by decide +kernel) (by decide +kernel), by decide, rfl⟩
theorem mv_Walk_minuteOf : MV yn_Walk_minuteOf 8 := ⟨tb_i4 228 (by decide +kernel) (by decide +kernel), tb_i4 229 (by decide +kernel) (by decide +kernel), by decide, rfl⟩
theorem mv_Tape_isName : MV yn_Tape_isName 7 := ⟨tb_i3 152 (by decide +kernel) (by decide +kernel), tb_i3 153 (by decide +kernel) (by decide +kernel), by decide, rfl⟩
theorem mv_Tape_wrong : MV yn_Tape_wrong 7 := ⟨tb_i3 139 (by decide +kernel) (by decide +kernel), tb_i3 140 (by decide +kernel) (by decide +kernel), by decide, rfl⟩
theorem mv_Walk_offBy : MV yn_Walk_offBy 8 := ⟨tb_i5 0 (by decide +kernel) (by decide +kernel), tb_i5 1 (by decide +kernel) (by decide +kernel), by decide, rfl⟩
theorem mv_Walk_firstMeeting : MV yn_Walk_firstMeeting 8 := ⟨tb_i5 38 (by decide +kernel) (by decide +kernel), tb_i5 39 (by decide +kernel) (by decide +kernel), by decide, rfl⟩
theorem mv_Model_needsWord : MV yn_Model_needsWord 11 := ⟨tb_i7 214 (by decide +kernel) (by decide +kernel), tb_sel 64 (by decide +kernel) (by decide +kernel), by decide, rfl⟩
theorem mv_Model_needsNumber : MV yn_Model_needsNumber 11 := ⟨tb_i7 199 (by decide +kernel) (by decide +kernel), tb_sel 61 (by decide +kernel) (by decide +kernel), by decide, rfl⟩
theorem mv_Model_needsNew : MV yn_Model_needsNew 11 := ⟨tb_i7 135 (by decide +kernel) (by decide +kernel), tb_sel 52 (by decide +kernel) (by decide +kernel), by decide, rfl⟩
theorem mv_Model_closes : MV yn_Model_closes 11 := ⟨tb_i7 183 (by decide +kernel) (by decide +kernel), tb_sel 57 (by decide +kernel) (by decide +kernel), by decide, rfl⟩
theorem mv_Model_needsPlace : MV yn_Model_needsPlace 11 := ⟨tb_i7 195 (by decide +kernel) (by decide +kernel), tb_sel 60 (by decide +kernel) (by decide +kernel), by decide, rfl⟩
theorem mv_Model_needsWalker : MV yn_Model_needsWalker 11 := ⟨tb_i7 226 (by decide +kernel) (by decide +kernel), tb_sel 67 (by decide +kernel) (by decide +kernel), by decide, rfl⟩
theorem mv_Model_reads : MV yn_Model_reads 11 := ⟨tb_i8 2 (by decide +kernel) (by decide +kernel), tb_sel 71 (by decide +kernel) (by decide +kernel), by decide, rfl⟩
theorem mv_Model_isFree : MV yn_Model_isFree 11 := ⟨tb_i8 81 (by decide +kernel) (by decide +kernel), tb_sel 84 (by decide +kernel) (by decide +kernel), by decide, rfl⟩
theorem mv_Model_goesOn : MV yn_Model_goesOn 11 := ⟨tb_i8 85 (by decide +kernel) (by decide +kernel), tb_sel 85 (by decide +kernel) (by decide +kernel), by decide, rfl⟩
theorem mv_Model_worked : MV yn_Model_worked 11 := ⟨tb_i8 120 (by decide +kernel) (by decide +kernel), tb_sel 92 (by decide +kernel) (by decide +kernel), by decide, rfl⟩
theorem mv_Model_isWhen : MV yn_Model_isWhen 11 := ⟨tb_i8 101 (by decide +kernel) (by decide +kernel), tb_sel 88 (by decide +kernel) (by decide +kernel), by decide, rfl⟩
theorem mv_Model_offBy : MV yn_Model_offBy 11 := ⟨tb_i8 109 (by decide +kernel) (by decide +kernel), tb_sel 90 (by decide +kernel) (by decide +kernel), by decide, rfl⟩
theorem mv_Model_lies : MV yn_Model_lies 11 := ⟨tb_i8 151 (by decide +kernel) (by decide +kernel), tb_sel 97 (by decide +kernel) (by decide +kernel), by decide, rfl⟩
theorem mv_Model_canStand : MV yn_Model_canStand 11 := ⟨tb_i8 174 (by decide +kernel) (by decide +kernel), tb_sel 100 (by decide +kernel) (by decide +kernel), by decide, rfl⟩
theorem mv_Tape_which : MV yn_Tape_which 7 := ⟨tb_i3 196 (by decide +kernel) (by decide +kernel), tb_i3 197 (by decide +kernel) (by decide +kernel), by decide, rfl⟩
theorem mv_Walk_comeAll : MV yn_Walk_comeAll 8 := ⟨tb_i4 181 (by decide +kernel) (by decide +kernel), tb_sel 25 (by decide +kernel) (by decide +kernel), by decide, rfl⟩
theorem mv_Walk_greetAll : MV yn_Walk_greetAll 8 := ⟨tb_i4 201 (by decide +kernel) (by decide +kernel), tb_sel 28 (by decide +kernel) (by decide +kernel), by decide, rfl⟩
theorem mv_Walk_leaveAll : MV yn_Walk_leaveAll 8 := ⟨tb_i4 209 (by decide +kernel) (by decide +kernel), tb_sel 30 (by decide +kernel) (by decide +kernel), by decide, rfl⟩
theorem mv_Walk_nextMinute : MV yn_Walk_nextMinute 8 := ⟨tb_i4 176 (by decide +kernel) (by decide +kernel), tb_sel 24 (by decide +kernel) (by decide +kernel), by decide, rfl⟩
theorem mv_Law_cost : MV yn_Law_cost 2 := ⟨tb_i5 13 (by decide +kernel) (by decide +kernel), tb_i5 14 (by decide +kernel) (by decide +kernel), by decide, rfl⟩
theorem mv_Walk_off : MV yn_Walk_off 8 := ⟨tb_i4 236 (by decide +kernel) (by decide +kernel), tb_i4 237 (by decide +kernel) (by decide +kernel), by decide, rfl⟩
theorem mv_Walk_go : MV yn_Walk_go 8 := ⟨tb_i4 169 (by decide +kernel) (by decide +kernel), tb_i4 170 (by decide +kernel) (by decide +kernel), by decide, rfl⟩
theorem mv_Walk_placeOf : MV yn_Walk_placeOf 8 := ⟨tb_i4 216 (by decide +kernel) (by decide +kernel), tb_i4 217 (by decide +kernel) (by decide +kernel), by decide, rfl⟩
theorem mv_Walk_cost : MV yn_Walk_cost 8 := ⟨tb_i5 7 (by decide +kernel) (by decide +kernel), tb_i5 8 (by decide +kernel) (by decide +kernel), by decide, rfl⟩
theorem mv_Clock_areTwo : MV yn_Clock_areTwo 10 := ⟨tb_i5 35 (by decide +kernel) (by decide +kernel), tb_sel 35 (by decide +kernel) (by decide +kernel), by decide, rfl⟩
theorem mv_State_delay : MV yn_State_delay 6 := ⟨tb_i5 217 (by decide +kernel) (by decide +kernel), tb_i5 218 (by decide +kernel) (by decide +kernel), by decide, rfl⟩
theorem mv_Standing_isAsTold : MV yn_Standing_isAsTold 5 := ⟨tb_i5 221 (by decide +kernel) (by decide +kernel), tb_i5 222 (by decide +kernel) (by decide +kernel), by decide, rfl⟩
theorem mv_Sight_take : MV yn_Sight_take 4 := ⟨tb_i5 137 (by decide +kernel) (by decide +kernel), tb_i5 138 (by decide +kernel) (by decide +kernel), by decide, rfl⟩
theorem mv_Model_needsBoth : MV yn_Model_needsBoth 11 := ⟨tb_i7 210 (by decide +kernel) (by decide +kernel), tb_sel 63 (by decide +kernel) (by decide +kernel), by decide, rfl⟩
theorem mv_Model_readsRound : MV yn_Model_readsRound 11 := ⟨tb_i7 218 (by decide +kernel) (by decide +kernel), tb_sel 65 (by decide +kernel) (by decide +kernel), by decide, rfl⟩
theorem mv_Model_readsLine : MV yn_Model_readsLine 11 := ⟨tb_i8 45 (by decide +kernel) (by decide +kernel), tb_sel 78 (by decide +kernel) (by decide +kernel), by decide, rfl⟩
theorem mv_Model_begins : MV yn_Model_begins 11 := ⟨tb_i7 108 (by decide +kernel) (by decide +kernel), tb_sel 46 (by decide +kernel) (by decide +kernel), by decide, rfl⟩
theorem mv_Model_laysDay : MV yn_Model_laysDay 11 := ⟨tb_i8 73 (by decide +kernel) (by decide +kernel), tb_sel 82 (by decide +kernel) (by decide +kernel), by decide, rfl⟩
theorem mv_Model_costOf : MV yn_Model_costOf 11 := ⟨tb_i8 116 (by decide +kernel) (by decide +kernel), tb_sel 91 (by decide +kernel) (by decide +kernel), by decide, rfl⟩
theorem mv_Model_firstMeetingAt : MV yn_Model_firstMeetingAt 11 := ⟨tb_i9 0 (by decide +kernel) (by decide +kernel), tb_sel 107 (by decide +kernel) (by decide +kernel), by decide, rfl⟩
theorem mv_Model_isMeeting : MV yn_Model_isMeeting 11 := ⟨tb_i9 15 (by decide +kernel) (by decide +kernel), tb_sel 108 (by decide +kernel) (by decide +kernel), by decide, rfl⟩
theorem mv_Tape_stepOverNumber : MV yn_Tape_stepOverNumber 7 := ⟨tb_i3 39 (by decide +kernel) (by decide +kernel), tb_sel 3 (by decide +kernel) (by decide +kernel), by decide, rfl⟩
theorem mv_Tape_stepOverWord : MV yn_Tape_stepOverWord 7 := ⟨tb_i3 30 (by decide +kernel) (by decide +kernel), tb_sel 2 (by decide +kernel) (by decide +kernel), by decide, rfl⟩
theorem mv_Walk_costs : MV yn_Walk_costs 8 := ⟨tb_i5 84 (by decide +kernel) (by decide +kernel), tb_i5 85 (by decide +kernel) (by decide +kernel), by decide, rfl⟩
theorem mv_State_pass : MV yn_State_pass 6 := ⟨tb_i5 89 (by decide +kernel) (by decide +kernel), tb_i5 90 (by decide +kernel) (by decide +kernel), by decide, rfl⟩
theorem mv_Lines_can : MV yn_Lines_can 3 := ⟨tb_i5 102 (by decide +kernel) (by decide +kernel), tb_i5 103 (by decide +kernel) (by decide +kernel), by decide, rfl⟩
theorem mv_Lines_isDay : MV yn_Lines_isDay 3 := ⟨tb_i5 108 (by decide +kernel) (by decide +kernel), tb_i5 109 (by decide +kernel) (by decide +kernel), by decide, rfl⟩
theorem mv_Lines_happen : MV yn_Lines_happen 3 := ⟨tb_i5 116 (by decide +kernel) (by decide +kernel), tb_i5 117 (by decide +kernel) (by decide +kernel), by decide, rfl⟩
theorem mv_Walk_missing : MV yn_Walk_missing 8 := ⟨tb_i5 112 (by decide +kernel) (by decide +kernel), tb_i5 113 (by decide +kernel) (by decide +kernel), by decide, rfl⟩
theorem mv_Clock_lookRound : MV yn_Clock_lookRound 10 := ⟨tb_i5 134 (by decide +kernel) (by decide +kernel), tb_sel 37 (by decide +kernel) (by decide +kernel), by decide, rfl⟩
theorem mv_Clock_mostAlike : MV yn_Clock_mostAlike 10 := ⟨tb_i5 155 (by decide +kernel) (by decide +kernel), tb_sel 38 (by decide +kernel) (by decide +kernel), by decide, rfl⟩
theorem mv_Sight_firstToHaveMet : MV yn_Sight_firstToHaveMet 4 := ⟨tb_i5 180 (by decide +kernel) (by decide +kernel), tb_i5 181 (by decide +kernel) (by decide +kernel), by decide, rfl⟩
theorem mv_Sight_isMeeting : MV yn_Sight_isMeeting 4 := ⟨tb_i5 199 (by decide +kernel) (by decide +kernel), tb_i5 200 (by decide +kernel) (by decide +kernel), by decide, rfl⟩
theorem mv_Clock_drawDay : MV yn_Clock_drawDay 10 := ⟨tb_i5 232 (by decide +kernel) (by decide +kernel), tb_sel 41 (by decide +kernel) (by decide +kernel), by decide, rfl⟩
theorem mv_Walk_meetings : MV yn_Walk_meetings 8 := ⟨tb_i6 3 (by decide +kernel) (by decide +kernel), tb_i6 4 (by decide +kernel) (by decide +kernel), by decide, rfl⟩
theorem mv_Model_readsMissed : MV yn_Model_readsMissed 11 := ⟨tb_i7 238 (by decide +kernel) (by decide +kernel), tb_sel 70 (by decide +kernel) (by decide +kernel), by decide, rfl⟩
theorem mv_Model_readsHour : MV yn_Model_readsHour 11 := ⟨tb_i7 230 (by decide +kernel) (by decide +kernel), tb_sel 68 (by decide +kernel) (by decide +kernel), by decide, rfl⟩
theorem mv_Model_readsWaits : MV yn_Model_readsWaits 11 := ⟨tb_i7 222 (by decide +kernel) (by decide +kernel), tb_sel 66 (by decide +kernel) (by decide +kernel), by decide, rfl⟩
theorem mv_Model_readsWalker : MV yn_Model_readsWalker 11 := ⟨tb_i7 206 (by decide +kernel) (by decide +kernel), tb_sel 62 (by decide +kernel) (by decide +kernel), by decide, rfl⟩
theorem mv_Model_readsPath : MV yn_Model_readsPath 11 := ⟨tb_i7 191 (by decide +kernel) (by decide +kernel), tb_sel 59 (by decide +kernel) (by decide +kernel), by decide, rfl⟩
theorem mv_Model_readsPlace : MV yn_Model_readsPlace 11 := ⟨tb_i7 127 (by decide +kernel) (by decide +kernel), tb_sel 50 (by decide +kernel) (by decide +kernel), by decide, rfl⟩
theorem mv_Model_passes : MV yn_Model_passes 11 := ⟨tb_i8 186 (by decide +kernel) (by decide +kernel), tb_sel 101 (by decide +kernel) (by decide +kernel), by decide, rfl⟩
theorem mv_Model_mostAlike : MV yn_Model_mostAlike 11 := ⟨tb_i8 219 (by decide +kernel) (by decide +kernel), tb_sel 104 (by decide +kernel) (by decide +kernel), by decide, rfl⟩
theorem mv_Model_times : MV yn_Model_times 11 := ⟨tb_i8 205 (by decide +kernel) (by decide +kernel), tb_i8 206 (by decide +kernel) (by decide +kernel), by decide, rfl⟩
theorem mv_Model_isAsTold : MV yn_Model_isAsTold 11 := ⟨tb_i9 27 (by decide +kernel) (by decide +kernel), tb_sel 109 (by decide +kernel) (by decide +kernel), by decide, rfl⟩
theorem mv_Model_draws : MV yn_Model_draws 11 := ⟨tb_i9 48 (by decide +kernel) (by decide +kernel), tb_sel 110 (by decide +kernel) (by decide +kernel), by decide, rfl⟩
theorem mv_Model_meetings : MV yn_Model_meetings 11 := ⟨tb_i9 56 (by decide +kernel) (by decide +kernel), tb_sel 111 (by decide +kernel) (by decide +kernel), by decide, rfl⟩
theorem mv_Tape_step : MV yn_Tape_step 7 := ⟨tb_i3 22 (by decide +kernel) (by decide +kernel), tb_i3 23 (by decide +kernel) (by decide +kernel), by decide, rfl⟩
theorem mv_Hills_isTold : MV yn_Hills_isTold 0 := ⟨tb_i3 166 (by decide +kernel) (by decide +kernel), tb_i3 167 (by decide +kernel) (by decide +kernel), by decide, rfl⟩
theorem mv_HillsReader_whichPlace : MV yn_HillsReader_whichPlace 1 := ⟨tb_i3 193 (by decide +kernel) (by decide +kernel), tb_sel 8 (by decide +kernel) (by decide +kernel), by decide, rfl⟩
theorem mv_Model_readsAll : MV yn_Model_readsAll 11 := ⟨tb_i7 104 (by decide +kernel) (by decide +kernel), tb_sel 45 (by decide +kernel) (by decide +kernel), by decide, rfl⟩
theorem mv_Model_lays : MV yn_Model_lays 11 := ⟨tb_i8 17 (by decide +kernel) (by decide +kernel), tb_sel 74 (by decide +kernel) (by decide +kernel), by decide, rfl⟩
theorem mv_Model_fresh : MV yn_Model_fresh 11 := ⟨tb_i8 27 (by decide +kernel) (by decide +kernel), tb_sel 75 (by decide +kernel) (by decide +kernel), by decide, rfl⟩
theorem mv_Model_forgets : MV yn_Model_forgets 11 := ⟨tb_i6 109 (by decide +kernel) (by decide +kernel), tb_sel 44 (by decide +kernel) (by decide +kernel), by decide, rfl⟩
theorem mv_Model_laysWays : MV yn_Model_laysWays 11 := ⟨tb_i8 35 (by decide +kernel) (by decide +kernel), tb_sel 77 (by decide +kernel) (by decide +kernel), by decide, rfl⟩
theorem mv_Model_goes : MV yn_Model_goes 11 := ⟨tb_i8 198 (by decide +kernel) (by decide +kernel), tb_sel 102 (by decide +kernel) (by decide +kernel), by decide, rfl⟩
theorem mv_HillsReader_whichWalker : MV yn_HillsReader_whichWalker 1 := ⟨tb_i4 17 (by decide +kernel) (by decide +kernel), tb_sel 14 (by decide +kernel) (by decide +kernel), by decide, rfl⟩
theorem mv_Tape_take : MV yn_Tape_take 7 := ⟨tb_i3 184 (by decide +kernel) (by decide +kernel), tb_i3 185 (by decide +kernel) (by decide +kernel), by decide, rfl⟩
theorem mv_HillsReader_readNewName : MV yn_HillsReader_readNewName 1 := ⟨tb_i3 149 (by decide +kernel) (by decide +kernel), tb_sel 6 (by decide +kernel) (by decide +kernel), by decide, rfl⟩
theorem mv_Tape_takeSign : MV yn_Tape_takeSign 7 := ⟨tb_i3 173 (by decide +kernel) (by decide +kernel), tb_i3 174 (by decide +kernel) (by decide +kernel), by decide, rfl⟩
theorem mv_Tape_takeNumber : MV yn_Tape_takeNumber 7 := ⟨tb_i3 202 (by decide +kernel) (by decide +kernel), tb_i3 203 (by decide +kernel) (by decide +kernel), by decide, rfl⟩
theorem mv_Walker_begin : MV yn_Walker_begin 9 := ⟨tb_i3 216 (by decide +kernel) (by decide +kernel), tb_i3 217 (by decide +kernel) (by decide +kernel), by decide, rfl⟩
theorem mv_HillsReader_takeKind : MV yn_HillsReader_takeKind 1 := ⟨tb_i3 222 (by decide +kernel) (by decide +kernel), tb_sel 10 (by decide +kernel) (by decide +kernel), by decide, rfl⟩
theorem mv_HillsReader_readRound : MV yn_HillsReader_readRound 1 := ⟨tb_i4 2 (by decide +kernel) (by decide +kernel), tb_sel 11 (by decide +kernel) (by decide +kernel), by decide, rfl⟩
theorem mv_HillsReader_takeWalkerAt : MV yn_HillsReader_takeWalkerAt 1 := ⟨tb_i4 13 (by decide +kernel) (by decide +kernel), tb_sel 13 (by decide +kernel) (by decide +kernel), by decide, rfl⟩
theorem mv_Tape_close : MV yn_Tape_close 7 := ⟨tb_i4 85 (by decide +kernel) (by decide +kernel), tb_i4 86 (by decide +kernel) (by decide +kernel), by decide, rfl⟩
theorem mv_Tape_isEnd : MV yn_Tape_isEnd 7 := ⟨tb_i3 129 (by decide +kernel) (by decide +kernel), tb_i3 130 (by decide +kernel) (by decide +kernel), by decide, rfl⟩
theorem mv_Lines_readLine : MV yn_Lines_readLine 3 := ⟨tb_i4 114 (by decide +kernel) (by decide +kernel), tb_sel 20 (by decide +kernel) (by decide +kernel), by decide, rfl⟩
theorem mv_Tape_open : MV yn_Tape_open 7 := ⟨tb_i3 18 (by decide +kernel) (by decide +kernel), tb_i3 19 (by decide +kernel) (by decide +kernel), by decide, rfl⟩
theorem mv_Lines_read : MV yn_Lines_read 3 := ⟨tb_i4 107 (by decide +kernel) (by decide +kernel), tb_i4 108 (by decide +kernel) (by decide +kernel), by decide, rfl⟩
theorem mv_Clock_chooseDeputies : MV yn_Clock_chooseDeputies 10 := ⟨tb_i5 166 (by decide +kernel) (by decide +kernel), tb_sel 39 (by decide +kernel) (by decide +kernel), by decide, rfl⟩
theorem mv_Model_stands : MV yn_Model_stands 11 := ⟨tb_i8 232 (by decide +kernel) (by decide +kernel), tb_sel 106 (by decide +kernel) (by decide +kernel), by decide, rfl⟩
theorem mv_Law_readLevel : MV yn_Law_readLevel 2 := ⟨tb_i4 49 (by decide +kernel) (by decide +kernel), tb_sel 17 (by decide +kernel) (by decide +kernel), by decide, rfl⟩
theorem mv_Law_readPart : MV yn_Law_readPart 2 := ⟨tb_i4 53 (by decide +kernel) (by decide +kernel), tb_sel 18 (by decide +kernel) (by decide +kernel), by decide, rfl⟩
theorem mv_Law_clear : MV yn_Law_clear 2 := ⟨tb_i4 44 (by decide +kernel) (by decide +kernel), tb_i4 45 (by decide +kernel) (by decide +kernel), by decide, rfl⟩
theorem mv_Hills_findWays : MV yn_Hills_findWays 0 := ⟨tb_i4 77 (by decide +kernel) (by decide +kernel), tb_i4 78 (by decide +kernel) (by decide +kernel), by decide, rfl⟩
theorem mv_HillsReader_canBegin : MV yn_HillsReader_canBegin 1 := ⟨tb_i3 136 (by decide +kernel) (by decide +kernel), tb_sel 4 (by decide +kernel) (by decide +kernel), by decide, rfl⟩
theorem mv_HillsReader_readPlace : MV yn_HillsReader_readPlace 1 := ⟨tb_i3 145 (by decide +kernel) (by decide +kernel), tb_sel 5 (by decide +kernel) (by decide +kernel), by decide, rfl⟩
theorem mv_HillsReader_readPath : MV yn_HillsReader_readPath 1 := ⟨tb_i3 189 (by decide +kernel) (by decide +kernel), tb_sel 7 (by decide +kernel) (by decide +kernel), by decide, rfl⟩
theorem mv_HillsReader_readWalker : MV yn_HillsReader_readWalker 1 := ⟨tb_i3 213 (by decide +kernel) (by decide +kernel), tb_sel 9 (by decide +kernel) (by decide +kernel), by decide, rfl⟩
theorem mv_HillsReader_readWaits : MV yn_HillsReader_readWaits 1 := ⟨tb_i4 9 (by decide +kernel) (by decide +kernel), tb_sel 12 (by decide +kernel) (by decide +kernel), by decide, rfl⟩
theorem mv_HillsReader_readHour : MV yn_HillsReader_readHour 1 := ⟨tb_i4 27 (by decide +kernel) (by decide +kernel), tb_sel 15 (by decide +kernel) (by decide +kernel), by decide, rfl⟩
theorem mv_HillsReader_readMissed : MV yn_HillsReader_readMissed 1 := ⟨tb_i4 41 (by decide +kernel) (by decide +kernel), tb_sel 16 (by decide +kernel) (by decide +kernel), by decide, rfl⟩
theorem mv_Hills_begin : MV yn_Hills_begin 0 := ⟨tb_i1 169 (by decide +kernel) (by decide +kernel), tb_sel 0 (by decide +kernel) (by decide +kernel), by decide, rfl⟩
theorem mv_HillsReader_read : MV yn_HillsReader_read 1 := ⟨tb_i3 13 (by decide +kernel) (by decide +kernel), tb_i3 14 (by decide +kernel) (by decide +kernel), by decide, rfl⟩
theorem mv_Standing_begin : MV yn_Standing_begin 5 := ⟨tb_i4 89 (by decide +kernel) (by decide +kernel), tb_i4 90 (by decide +kernel) (by decide +kernel), by decide, rfl⟩
theorem ms_Clock_gain : Cond.static yn_Clock_gain ∈ TBL := tb_i6 99 (by decide +kernel) (by decide +kernel)
theorem ms_Model_named : Cond.static yn_Model_named ∈ TBL := tb_i7 171 (by decide +kernel) (by decide +kernel)
theorem ms_Model_shifts : Cond.static yn_Model_shifts ∈ TBL := tb_i8 20 (by decide +kernel) (by decide +kernel)
theorem ms_Model_shiftsNames : Cond.static yn_Model_shiftsNames ∈ TBL := tb_i8 23 (by decide +kernel) (by decide +kernel)
theorem ms_Model_away : Cond.static yn_Model_away ∈ TBL := tb_i8 112 (by decide +kernel) (by decide +kernel)
theorem ms_Model_copies : Cond.static yn_Model_copies ∈ TBL := tb_i8 158 (by decide +kernel) (by decide +kernel)
theorem ms_Model_within : Cond.static yn_Model_within ∈ TBL := tb_i7 202 (by decide +kernel) (by decide +kernel)
theorem ms_Model_getsBy : Cond.static yn_Model_getsBy ∈ TBL := tb_i9 40 (by decide +kernel) (by decide +kernel)
theorem ms_Tape_find : Cond.static yn_Tape_find ∈ TBL := tb_i3 170 (by decide +kernel) (by decide +kernel)
theorem ms_Law_worth : Cond.static yn_Law_worth ∈ TBL := tb_i5 25 (by decide +kernel) (by decide +kernel)
theorem ms_Arrays_fillI : Cond.static yn_Arrays_fillI ∈ TBL := tb_i1 172 (by decide +kernel) (by decide +kernel)
theorem ms_Integer_bitCount : Cond.static yn_Integer_bitCount ∈ TBL := tb_i5 203 (by decide +kernel) (by decide +kernel)
theorem ms_Sight_join : Cond.static yn_Sight_join ∈ TBL := tb_i5 188 (by decide +kernel) (by decide +kernel)
theorem ms_Arrays_fillJ : Cond.static yn_Arrays_fillJ ∈ TBL := tb_i5 184 (by decide +kernel) (by decide +kernel)
theorem ms_Tape_isBlank : Cond.static yn_Tape_isBlank ∈ TBL := tb_i3 6 (by decide +kernel) (by decide +kernel)
theorem ms_Tape_isLetter : Cond.static yn_Tape_isLetter ∈ TBL := tb_i3 26 (by decide +kernel) (by decide +kernel)
theorem ms_Tape_isDigit : Cond.static yn_Tape_isDigit ∈ TBL := tb_i3 35 (by decide +kernel) (by decide +kernel)
theorem ms_StringLatin1_canEncode : Cond.static yn_StringLatin1_canEncode ∈ TBL := tb_i3 68 (by decide +kernel) (by decide +kernel)
theorem ms_StringLatin1_indexOfChar : Cond.static yn_StringLatin1_indexOfChar ∈ TBL := tb_i3 77 (by decide +kernel) (by decide +kernel)
theorem ms_Model_isRest : Cond.static yn_Model_isRest ∈ TBL := tb_i9 37 (by decide +kernel) (by decide +kernel)
theorem ms_Walk_longestStay : Cond.static yn_Walk_longestStay ∈ TBL := tb_i4 192 (by decide +kernel) (by decide +kernel)
theorem ms_StringLatin1_indexOf : Cond.static yn_StringLatin1_indexOf ∈ TBL := tb_i3 65 (by decide +kernel) (by decide +kernel)
theorem ms_Model_between : Cond.static yn_Model_between ∈ TBL := tb_i8 135 (by decide +kernel) (by decide +kernel)
theorem ms_Model_grown : Cond.static yn_Model_grown ∈ TBL := tb_i9 7 (by decide +kernel) (by decide +kernel)
theorem ms_Model_bits : Cond.static yn_Model_bits ∈ TBL := tb_i9 30 (by decide +kernel) (by decide +kernel)
theorem ms_Lines_kindOf : Cond.static yn_Lines_kindOf ∈ TBL := tb_i4 117 (by decide +kernel) (by decide +kernel)
theorem ms_Law_operatorOf : Cond.static yn_Law_operatorOf ∈ TBL := tb_i4 70 (by decide +kernel) (by decide +kernel)
theorem ms_Law_leafOf : Cond.static yn_Law_leafOf ∈ TBL := tb_i4 59 (by decide +kernel) (by decide +kernel)
def chkK (ci : Nat) (lst : List Nat) : List (Nat × Nat) → Nat → Bool
  | [], _ => true
  | t :: ts, i => (!(Nat.beq t.1 ci) || lst.any (fun z => Nat.beq z i)) && chkK ci lst ts (i + 1)
theorem chkK_in {ci : Nat} {lst : List Nat} : ∀ (l : List (Nat × Nat)) (i : Nat), chkK ci lst l i = true → ∀ (a n : Nat), l[a]? = some (ci, n) → (i + a) ∈ lst
  | [], i, _, a, n, h => by simp at h
  | t :: ts, i, hc, a, n, h => by
    simp only [chkK, Bool.and_eq_true] at hc
    cases a with
    | zero =>
      simp at h
      subst h
      have h1 := hc.1
      have e : Nat.beq ci ci = true := Nat.beq_refl ci
      simp only [e, Bool.not_true, Bool.false_or, List.any_eq_true] at h1
      obtain ⟨z, hz, he⟩ := h1
      rw [← Nat.eq_of_beq_eq_true he]
      exact hz
    | succ a =>
      have := chkK_in ts (i + 1) hc.2 a n (by simpa using h)
      rwa [show i + 1 + a = i + (a + 1) by omega] at this
theorem in_of {ci n a : Nat} (lst : List Nat) (hc : chkK ci lst ly_TY 0 = true) (h99 : ci < 99) (h : ly_k a = (ci, n)) : a ∈ lst := by
  have hl : ly_TY.length = ly_N := by decide +kernel
  have hlt := ly_lt h h99
  have h1 : ly_TY[a]? = some (ci, n) := by
    have h2 : ly_k a = ly_TY[a]'(by rw [hl]; exact hlt) := by unfold ly_k; rw [List.getD_eq_getElem?_getD, List.getElem?_eq_getElem (by rw [hl]; exact hlt)]; rfl
    rw [List.getElem?_eq_getElem (by rw [hl]; exact hlt), ← h2, h]
  simpa using chkK_in ly_TY 0 hc a n h1
theorem cl_in {a off kd m : Nat} (lst : List Nat) (ha : a ∈ lst) (h : lst.all (fun a => Nat.beq (ly_k (a + off)).1 kd && Nat.beq (ly_k (a + off)).2 m) = true) : ly_k (a + off) = (kd, m) := by
  have h1 := List.all_eq_true.mp h a ha
  simp only [Bool.and_eq_true] at h1
  exact Prod.ext (Nat.eq_of_beq_eq_true h1.1) (Nat.eq_of_beq_eq_true h1.2)
theorem in_0 {a n : Nat} (h : ly_k a = (0, n)) : a ∈ [4, 41] := in_of _ (by decide +kernel) (by decide) h
theorem in_2 {a n : Nat} (h : ly_k a = (2, n)) : a ∈ [14, 51] := in_of _ (by decide +kernel) (by decide) h
theorem in_3 {a n : Nat} (h : ly_k a = (3, n)) : a ∈ [78, 86, 115, 126, 137, 148] := in_of _ (by decide +kernel) (by decide) h
theorem in_5 {a n : Nat} (h : ly_k a = (5, n)) : a ∈ [82, 111, 122, 133, 144] := in_of _ (by decide +kernel) (by decide) h
theorem in_6 {a n : Nat} (h : ly_k a = (6, n)) : a ∈ [83, 95, 112, 123, 134, 145, 155, 158, 161, 164, 167, 170, 173, 176, 179, 182, 185, 188, 191, 194, 197, 200] := in_of _ (by decide +kernel) (by decide) h
theorem in_9 {a n : Nat} (h : ly_k a = (9, n)) : a ∈ [17, 21, 25, 29, 33, 37, 54, 58, 62, 66, 70, 74] := in_of _ (by decide +kernel) (by decide) h
theorem gS_9 : Cond.fieldLink "java/lang/String" 9 "java/lang/String" "value" "[B" ∈ TBL := tb_i9 94 (by decide +kernel) (by decide +kernel)
theorem gS_15 : Cond.fieldLink "java/lang/String" 15 "java/lang/String" "coder" "B" ∈ TBL := tb_i9 93 (by decide +kernel) (by decide +kernel)
theorem gs_CS : Cond.fieldLink "java/lang/String" 38 "java/lang/String" "COMPACT_STRINGS" "Z" ∈ TBL := tb_i3 54 (by decide +kernel) (by decide +kernel)
theorem mk_String_coder : Cond.instanceMethod yn_String_coder ∈ TBL ∧ Cond.selects yn_String_coder.cls yn_String_coder yn_String_coder ∈ TBL := ⟨tb_i3 61 (by decide +kernel) (by decide +kernel), tb_i3 62 (by decide +kernel) (by decide +kernel)⟩
theorem mk_String_isLatin1 : Cond.instanceMethod yn_String_isLatin1 ∈ TBL ∧ Cond.selects yn_String_isLatin1.cls yn_String_isLatin1 yn_String_isLatin1 ∈ TBL := ⟨tb_i3 51 (by decide +kernel) (by decide +kernel), tb_i3 52 (by decide +kernel) (by decide +kernel)⟩
theorem mk_String_length : Cond.instanceMethod yn_String_length ∈ TBL ∧ Cond.selects yn_String_length.cls yn_String_length yn_String_length ∈ TBL := ⟨tb_i3 57 (by decide +kernel) (by decide +kernel), tb_i3 58 (by decide +kernel) (by decide +kernel)⟩
theorem mk_String_indexOf2 : Cond.instanceMethod yn_String_indexOf2 ∈ TBL ∧ Cond.selects yn_String_indexOf2.cls yn_String_indexOf2 yn_String_indexOf2 ∈ TBL := ⟨tb_i3 47 (by decide +kernel) (by decide +kernel), tb_i3 48 (by decide +kernel) (by decide +kernel)⟩
theorem mk_String_indexOf : Cond.instanceMethod yn_String_indexOf ∈ TBL ∧ Cond.selects yn_String_indexOf.cls yn_String_indexOf yn_String_indexOf ∈ TBL := ⟨tb_i3 43 (by decide +kernel) (by decide +kernel), tb_i3 44 (by decide +kernel) (by decide +kernel)⟩
theorem mw_Word_isFact : Cond.instanceMethod yn_Word_isFact ∈ TBL ∧ Cond.selects yn_Word_isFact.cls yn_Word_isFact yn_Word_isFact ∈ TBL ∧ yn_Word_isFact.cls = "HillClock$Word" := ⟨tb_i3 156 (by decide +kernel) (by decide +kernel), tb_i3 157 (by decide +kernel) (by decide +kernel), rfl⟩
theorem cl_0_5 {a n : Nat} (h : ly_k a = (0, n)) : ly_k (a + 1) = (13, 6) := cl_in _ (in_0 h) (by decide +kernel)
theorem cl_0_6 {a n : Nat} (h : ly_k a = (0, n)) : ly_k (a + 2) = (13, 6) := cl_in _ (in_0 h) (by decide +kernel)
theorem cl_0_7 {a n : Nat} (h : ly_k a = (0, n)) : ly_k (a + 3) = (13, 6) := cl_in _ (in_0 h) (by decide +kernel)
theorem cl_0_8 {a n : Nat} (h : ly_k a = (0, n)) : ly_k (a + 4) = (12, 36) := cl_in _ (in_0 h) (by decide +kernel)
theorem cl_0_9 {a n : Nat} (h : ly_k a = (0, n)) : ly_k (a + 5) = (12, 36) := cl_in _ (in_0 h) (by decide +kernel)
theorem cl_0_10 {a n : Nat} (h : ly_k a = (0, n)) : ly_k (a + 6) = (18, 6) := cl_in _ (in_0 h) (by decide +kernel)
theorem cl_0_11 {a n : Nat} (h : ly_k a = (0, n)) : ly_k (a + 7) = (12, 6) := cl_in _ (in_0 h) (by decide +kernel)
theorem cl_0_12 {a n : Nat} (h : ly_k a = (0, n)) : ly_k (a + 8) = (12, 6) := cl_in _ (in_0 h) (by decide +kernel)
theorem cl_0_13 {a n : Nat} (h : ly_k a = (0, n)) : ly_k (a + 9) = (12, 6) := cl_in _ (in_0 h) (by decide +kernel)
theorem cl_0_14 {a n : Nat} (h : ly_k a = (0, n)) : ly_k (a + 10) = (2, 4) := cl_in _ (in_0 h) (by decide +kernel)
theorem cl_2_0 {a n : Nat} (h : ly_k a = (2, n)) : ly_k (a + 1) = (12, 1000) := cl_in _ (in_2 h) (by decide +kernel)
theorem cl_2_1 {a n : Nat} (h : ly_k a = (2, n)) : ly_k (a + 2) = (12, 64) := cl_in _ (in_2 h) (by decide +kernel)
theorem cl_3_1 {a n : Nat} (h : ly_k a = (3, n)) : ly_k (a + 1) = (12, 30) := cl_in _ (in_3 h) (by decide +kernel)
theorem cl_3_2 {a n : Nat} (h : ly_k a = (3, n)) : ly_k (a + 2) = (12, 30) := cl_in _ (in_3 h) (by decide +kernel)
theorem cl_3_3 {a n : Nat} (h : ly_k a = (3, n)) : ly_k (a + 3) = (12, 30) := cl_in _ (in_3 h) (by decide +kernel)
theorem cl_5_1 {a n : Nat} (h : ly_k a = (5, n)) : ly_k (a + 1) = (6, 6) := cl_in _ (in_5 h) (by decide +kernel)
theorem cl_5_2 {a n : Nat} (h : ly_k a = (5, n)) : ly_k (a + 4) = (3, 4) := cl_in _ (in_5 h) (by decide +kernel)
theorem cl_5_4 {a n : Nat} (h : ly_k a = (5, n)) : ly_k (a + 8) = (12, 8) := cl_in _ (in_5 h) (by decide +kernel)
theorem cl_5_5 {a n : Nat} (h : ly_k a = (5, n)) : ly_k (a + 9) = (12, 8) := cl_in _ (in_5 h) (by decide +kernel)
theorem cl_5_7 {a n : Nat} (h : ly_k a = (5, n)) : ly_k (a + 10) = (12, 6) := cl_in _ (in_5 h) (by decide +kernel)
theorem cl_6_4 {a n : Nat} (h : ly_k a = (6, n)) : ly_k (a + 1) = (12, 6) := cl_in _ (in_6 h) (by decide +kernel)
theorem cl_6_5 {a n : Nat} (h : ly_k a = (6, n)) : ly_k (a + 2) = (12, 6) := cl_in _ (in_6 h) (by decide +kernel)
theorem cl_9_5 {a n : Nat} (h : ly_k a = (9, n)) : ly_k (a + 1) = (12, 4) := cl_in _ (in_9 h) (by decide +kernel)
theorem cl_9_6 {a n : Nat} (h : ly_k a = (9, n)) : ly_k (a + 2) = (12, 6) := cl_in _ (in_9 h) (by decide +kernel)
theorem cl_9_7 {a n : Nat} (h : ly_k a = (9, n)) : ly_k (a + 3) = (12, 6) := cl_in _ (in_9 h) (by decide +kernel)
theorem el_16 {a b : Nat} {i : Int} (hk : ly_k a = (16, 4)) (hi : 0 ≤ i ∧ i < ((4 : Nat) : Int)) (hb : a + (raO 16).1 + (raO 16).2 * i.toNat = b) : ly_k b = (5, 8) := el_of (by decide +kernel) (by decide) hk hi hb
theorem el_17 {a b : Nat} {i : Int} (hk : ly_k a = (17, 16)) (hi : 0 ≤ i ∧ i < ((16 : Nat) : Int)) (hb : a + (raO 17).1 + (raO 17).2 * i.toNat = b) : ly_k b = (6, 6) := el_of (by decide +kernel) (by decide) hk hi hb
theorem el_18 {a b : Nat} {i : Int} (hk : ly_k a = (18, 6)) (hi : 0 ≤ i ∧ i < ((6 : Nat) : Int)) (hb : a + (raO 18).1 + (raO 18).2 * i.toNat = b) : ly_k b = (9, 8) := el_of (by decide +kernel) (by decide) hk hi hb
theorem kd_0 {x : Int} (h : isK 0 x = true) : ly_k x.toNat = (0, 15) := kd_of (by decide +kernel) h (by decide)
theorem kd_6 {x : Int} (h : isK 6 x = true) : ly_k x.toNat = (6, 6) := kd_of (by decide +kernel) h (by decide)
theorem mw_max : mathW Lib.Math.max.name Lib.Math.max.code 2 := ⟨tb_i3 71 (by decide +kernel) (by decide +kernel), tb_i1 18 (by decide +kernel) (by decide +kernel), tb_i3 72 (by decide +kernel) (by decide +kernel)⟩
theorem mw_min : mathW Lib.Math.min.name Lib.Math.min.code 2 := ⟨tb_i3 74 (by decide +kernel) (by decide +kernel), tb_i1 18 (by decide +kernel) (by decide +kernel), tb_i3 75 (by decide +kernel) (by decide +kernel)⟩
theorem mw_abs : mathW Lib.Math.abs.name Lib.Math.abs.code 1 := ⟨tb_i5 4 (by decide +kernel) (by decide +kernel), tb_i1 18 (by decide +kernel) (by decide +kernel), tb_i5 5 (by decide +kernel) (by decide +kernel)⟩
theorem mw_copy : copyW := ⟨tb_i4 99 (by decide +kernel) (by decide +kernel), tb_i4 98 (by decide +kernel) (by decide +kernel), tb_i1 22 (by decide +kernel) (by decide +kernel)⟩
