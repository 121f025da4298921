/-! ===== methods, links: printed by wip/whole/gen/methods.py ===== -/
def zk (g : zG) (a c : Nat) : Prop := a < g.1 ∧ g.2.1 a = c
def zov : Option Nat → Value
  | none => .null
  | some j => .ref j
theorem z_nm {X : Option (Nat × (Nat → Int32))} {M : zM} {u v pc : Nat} {lv : List (Nat × Value)} {st : List Value} {h : zH} {r : Option Value} {h' : zH} {x : Int32} (k : ∀ y : Int32, y = x → Zt X M u v pc lv (.int y :: st) h r h') : Zt X M u v pc lv (.int x :: st) h r h' := k x rfl
def RJ6 : String := "java/lang/Integer"
def RJ7 : String := "java/util/Arrays"
abbrev cJ6_bitCount_0f7a4 : ByteArray := prog_15_method_49_code
def yJ6_bitCount_0f7a4 : MethodName := ⟨RJ6, "bitCount", "(I)I"⟩
abbrev cJ7_fill_53178 : ByteArray := prog_21_method_103_code
def yJ7_fill_53178 : MethodName := ⟨RJ7, "fill", "([II)V"⟩
abbrev mX0_init : zM := (yX0_init, cX0_init, 1, none, 1, 3, 120)
abbrev mX0_copy : zM := (yX0_copy, cX0_copy, 2, none, 2, 0, 0)
abbrev mX0_look : zM := (yX0_look, cX0_look, 3, (some .int), 2, 0, 0)
abbrev mX1_init : zM := (yX1_init, cX1_init, 1, none, 2, 9, 260)
abbrev mX1_hears : zM := (yX1_hears, cX1_hears, 5, (some .boolean), 3, 0, 0)
abbrev mX1_heard : zM := (yX1_heard, cX1_heard, 1, (some .int), 3, 0, 0)
abbrev mX1_likely : zM := (yX1_likely, cX1_likely, 4, (some .int), 4, 0, 0)
abbrev mX1_lettersBehind : zM := (yX1_lettersBehind, cX1_lettersBehind, 4, (some .int), 4, 0, 0)
abbrev mX1_keenest : zM := (yX1_keenest, cX1_keenest, 6, (some .int), 5, 0, 0)
abbrev mX1_oftenGoingOn : zM := (yX1_oftenGoingOn, cX1_oftenGoingOn, 5, (some .int), 4, 0, 0)
abbrev mX1_readings : zM := (yX1_readings, cX1_readings, 3, (some .int), 5, 0, 0)
abbrev mX1_countReadings : zM := (yX1_countReadings, cX1_countReadings, 4, none, 4, 0, 0)
abbrev mX1_readingsBehind : zM := (yX1_readingsBehind, cX1_readingsBehind, 6, (some .int), 3, 0, 0)
abbrev mX1_wordOfFirstReading : zM := (yX1_wordOfFirstReading, cX1_wordOfFirstReading, 5, (some .int), 5, 0, 0)
abbrev mX1_leastReadAt : zM := (yX1_leastReadAt, cX1_leastReadAt, 5, (some .int), 3, 0, 0)
abbrev mX1_mended : zM := (yX1_mended, cX1_mended, 5, (some .int), 4, 0, 0)
abbrev mX1_fewestBehind : zM := (yX1_fewestBehind, cX1_fewestBehind, 5, (some .int), 2, 0, 0)
abbrev mX1_slipsUpTo : zM := (yX1_slipsUpTo, cX1_slipsUpTo, 4, (some .int), 4, 0, 0)
abbrev mX1_changesBetween : zM := (yX1_changesBetween, cX1_changesBetween, 4, (some .int), 4, 0, 0)
abbrev mX1_changesTo : zM := (yX1_changesTo, cX1_changesTo, 11, (some .int), 3, 0, 0)
abbrev mX1_closest : zM := (yX1_closest, cX1_closest, 8, (some .int), 5, 0, 0)
abbrev mX2_init : zM := (yX2_init, cX2_init, 1, none, 2, 13, 265)
abbrev mX2_begin : zM := (yX2_begin, cX2_begin, 2, none, 2, 0, 0)
abbrev mX2_play : zM := (yX2_play, cX2_play, 6, (some .int), 6, 0, 0)
abbrev mX2_draw : zM := (yX2_draw, cX2_draw, 10, none, 6, 0, 0)
abbrev mX2_stir : zM := (yX2_stir, cX2_stir, 1, (some .int), 1, 0, 0)
abbrev mX2_below : zM := (yX2_below, cX2_below, 2, (some .int), 1, 0, 0)
abbrev mX2_does : zM := (yX2_does, cX2_does, 4, (some .boolean), 5, 0, 0)
abbrev mX2_isStone : zM := (yX2_isStone, cX2_isStone, 2, (some .boolean), 1, 0, 0)
abbrev mX2_open : zM := (yX2_open, cX2_open, 2, (some .int), 2, 0, 0)
abbrev mX2_freeze : zM := (yX2_freeze, cX2_freeze, 6, (some .boolean), 4, 0, 0)
abbrev mX2_falsify : zM := (yX2_falsify, cX2_falsify, 3, (some .boolean), 3, 0, 0)
abbrev mX2_add : zM := (yX2_add, cX2_add, 7, none, 2, 0, 0)
abbrev mX2_overgrow : zM := (yX2_overgrow, cX2_overgrow, 4, (some .boolean), 4, 0, 0)
abbrev mX2_chipOff : zM := (yX2_chipOff, cX2_chipOff, 2, (some .boolean), 3, 0, 0)
abbrev mX2_fitting : zM := (yX2_fitting, cX2_fitting, 4, (some .int), 3, 0, 0)
abbrev mX2_forgeriesOn : zM := (yX2_forgeriesOn, cX2_forgeriesOn, 4, (some .int), 2, 0, 0)
abbrev mX2_look : zM := (yX2_look, cX2_look, 2, (some .int), 5, 0, 0)
abbrev mX2_lookAtLetter : zM := (yX2_lookAtLetter, cX2_lookAtLetter, 4, (some .int), 2, 0, 0)
abbrev mX2_lookAtStone : zM := (yX2_lookAtStone, cX2_lookAtStone, 3, (some .int), 4, 0, 0)
abbrev mX2_wordiest : zM := (yX2_wordiest, cX2_wordiest, 4, (some .int), 2, 0, 0)
abbrev mX2_feigned : zM := (yX2_feigned, cX2_feigned, 3, (some .int), 3, 0, 0)
abbrev mX3_init : zM := (yX3_init, cX3_init, 1, none, 1, 5, 96)
abbrev mX3_clear : zM := (yX3_clear, cX3_clear, 1, none, 2, 0, 0)
abbrev mX3_copy : zM := (yX3_copy, cX3_copy, 2, none, 2, 0, 0)
abbrev mX3_look : zM := (yX3_look, cX3_look, 5, (some .int), 4, 0, 0)
abbrev mX3_lookAtWord : zM := (yX3_lookAtWord, cX3_lookAtWord, 3, (some .int), 3, 0, 0)
abbrev mX3_hasWord : zM := (yX3_hasWord, cX3_hasWord, 2, (some .boolean), 1, 0, 0)
abbrev mX3_sizeOf : zM := (yX3_sizeOf, cX3_sizeOf, 2, (some .int), 2, 0, 0)
abbrev mX3_oftenOf : zM := (yX3_oftenOf, cX3_oftenOf, 2, (some .int), 2, 0, 0)
abbrev mX3_letterOf : zM := (yX3_letterOf, cX3_letterOf, 3, (some .int), 2, 0, 0)
abbrev mX3_all : zM := (yX3_all, cX3_all, 1, (some .int), 1, 0, 0)
abbrev mX3_behind : zM := (yX3_behind, cX3_behind, 2, (some .int), 2, 0, 0)
abbrev mX3_oftenOfAll : zM := (yX3_oftenOfAll, cX3_oftenOfAll, 4, (some .int), 3, 0, 0)
abbrev mX3_beginningWith : zM := (yX3_beginningWith, cX3_beginningWith, 8, (some .int), 2, 0, 0)
abbrev mX3_changesAt : zM := (yX3_changesAt, cX3_changesAt, 7, (some .int), 3, 0, 0)
abbrev mX3_sameLettersAtFirst : zM := (yX3_sameLettersAtFirst, cX3_sameLettersAtFirst, 5, (some .int), 3, 0, 0)
abbrev mX3_isWithin : zM := (yX3_isWithin, cX3_isWithin, 3, (some .boolean), 4, 0, 0)
abbrev mX3_lettersTillSure : zM := (yX3_lettersTillSure, cX3_lettersTillSure, 5, (some .int), 5, 0, 0)
abbrev mX3_lettersToTell : zM := (yX3_lettersToTell, cX3_lettersToTell, 6, (some .int), 4, 0, 0)
abbrev mX3_soonestAnswered : zM := (yX3_soonestAnswered, cX3_soonestAnswered, 12, (some .int), 6, 0, 0)
abbrev mX3_wordGoingOn : zM := (yX3_wordGoingOn, cX3_wordGoingOn, 5, (some .int), 4, 0, 0)
abbrev mX3_isWhole : zM := (yX3_isWhole, cX3_isWhole, 4, (some .boolean), 4, 0, 0)
abbrev mX3_unlikeBeginnings : zM := (yX3_unlikeBeginnings, cX3_unlikeBeginnings, 5, (some .int), 4, 0, 0)
abbrev mX3_wordsWithin : zM := (yX3_wordsWithin, cX3_wordsWithin, 5, (some .int), 5, 0, 0)
abbrev mX3_unsureQuestions : zM := (yX3_unsureQuestions, cX3_unsureQuestions, 3, (some .int), 6, 0, 0)
abbrev mX3_leadsOf : zM := (yX3_leadsOf, cX3_leadsOf, 5, (some .int), 3, 0, 0)
abbrev mX3_hasTwoAlike : zM := (yX3_hasTwoAlike, cX3_hasTwoAlike, 3, (some .boolean), 4, 0, 0)
abbrev mX4_init : zM := (yX4_init, cX4_init, 1, none, 1, 2, 78)
abbrev mX4_copy : zM := (yX4_copy, cX4_copy, 2, none, 2, 0, 0)
abbrev mX4_hasLine : zM := (yX4_hasLine, cX4_hasLine, 2, (some .boolean), 1, 0, 0)
abbrev mX4_letterOf : zM := (yX4_letterOf, cX4_letterOf, 3, (some .int), 2, 0, 0)
abbrev mX4_look : zM := (yX4_look, cX4_look, 3, (some .int), 3, 0, 0)
abbrev mX4_longestInBoth : zM := (yX4_longestInBoth, cX4_longestInBoth, 9, (some .int), 4, 0, 0)
abbrev mX4_sameFrom : zM := (yX4_sameFrom, cX4_sameFrom, 7, (some .int), 3, 0, 0)
abbrev mX5_init : zM := (yX5_init, cX5_init, 1, none, 1, 2, 16)
abbrev mX5_copy : zM := (yX5_copy, cX5_copy, 2, none, 2, 0, 0)
abbrev mX5_look : zM := (yX5_look, cX5_look, 3, (some .int), 2, 0, 0)
abbrev mX5_lastPlace : zM := (yX5_lastPlace, cX5_lastPlace, 3, (some .int), 2, 0, 0)
abbrev mX6_init : zM := (yX6_init, cX6_init, 1, none, 2, 17, 336)
abbrev mX6_read : zM := (yX6_read, cX6_read, 6, none, 9, 0, 0)
abbrev mX6_readOne : zM := (yX6_readOne, cX6_readOne, 2, (some .boolean), 5, 0, 0)
abbrev mX6_keepFirst : zM := (yX6_keepFirst, cX6_keepFirst, 1, none, 1, 0, 0)
abbrev mX6_keepSecond : zM := (yX6_keepSecond, cX6_keepSecond, 1, none, 1, 0, 0)
abbrev mX6_refuse : zM := (yX6_refuse, cX6_refuse, 1, (some .boolean), 1, 0, 0)
abbrev mX6_keyOf : zM := (yX6_keyOf, cX6_keyOf, 2, (some .int), 8, 0, 0)
abbrev mX6_hillKey : zM := (yX6_hillKey, cX6_hillKey, 1, (some .int), 6, 0, 0)
abbrev mX6_centuryKey : zM := (yX6_centuryKey, cX6_centuryKey, 1, (some .int), 7, 0, 0)
abbrev mX6_deedOfToken : zM := (yX6_deedOfToken, cX6_deedOfToken, 1, (some .int), 6, 0, 0)
abbrev mX6_tell : zM := (yX6_tell, cX6_tell, 2, none, 4, 0, 0)
abbrev mX6_tellWord : zM := (yX6_tellWord, cX6_tellWord, 4, none, 3, 0, 0)
abbrev mX6_tellFollows : zM := (yX6_tellFollows, cX6_tellFollows, 1, none, 3, 0, 0)
abbrev mX6_tellAsks : zM := (yX6_tellAsks, cX6_tellAsks, 1, none, 3, 0, 0)
abbrev mX6_tellStones : zM := (yX6_tellStones, cX6_tellStones, 1, none, 3, 0, 0)
abbrev mX6_tellDeed : zM := (yX6_tellDeed, cX6_tellDeed, 3, none, 3, 0, 0)
abbrev mX6_tellLine : zM := (yX6_tellLine, cX6_tellLine, 3, none, 3, 0, 0)
abbrev mX6_tellFact : zM := (yX6_tellFact, cX6_tellFact, 2, none, 3, 0, 0)
abbrev mX6_needRoom : zM := (yX6_needRoom, cX6_needRoom, 3, (some .boolean), 2, 0, 0)
abbrev mX6_needNumber : zM := (yX6_needNumber, cX6_needNumber, 5, none, 2, 0, 0)
abbrev mX6_needRow : zM := (yX6_needRow, cX6_needRow, 6, none, 2, 0, 0)
abbrev mX6_letterAt : zM := (yX6_letterAt, cX6_letterAt, 2, (some .int), 2, 0, 0)
abbrev mX6_note : zM := (yX6_note, cX6_note, 3, none, 1, 0, 0)
abbrev mX6_lookAtHill : zM := (yX6_lookAtHill, cX6_lookAtHill, 2, none, 5, 0, 0)
abbrev mX7_init : zM := (yX7_init, cX7_init, 1, none, 2, 6, 1649)
abbrev mX7_gap : zM := (yX7_gap, cX7_gap, 1, (some .int), 1, 0, 0)
abbrev mX7_wear : zM := (yX7_wear, cX7_wear, 1, (some .int), 1, 0, 0)
abbrev mX7_since : zM := (yX7_since, cX7_since, 1, (some .int), 1, 0, 0)
abbrev mX7_weigh : zM := (yX7_weigh, cX7_weigh, 3, none, 4, 0, 0)
abbrev mX7_countHits : zM := (yX7_countHits, cX7_countHits, 8, none, 3, 0, 0)
abbrev mX7_lessBy : zM := (yX7_lessBy, cX7_lessBy, 4, (some .int), 2, 0, 0)
abbrev mX7_keepBest : zM := (yX7_keepBest, cX7_keepBest, 6, none, 2, 0, 0)
abbrev mX7_startsOf : zM := (yX7_startsOf, cX7_startsOf, 2, (some .int), 2, 0, 0)
abbrev mX7_judge : zM := (yX7_judge, cX7_judge, 2, (some .int), 5, 0, 0)
abbrev mX7_howMany : zM := (yX7_howMany, cX7_howMany, 3, (some .int), 3, 0, 0)
abbrev mX7_ruleOf : zM := (yX7_ruleOf, cX7_ruleOf, 5, (some .int), 3, 0, 0)
abbrev mX7_missedByAll : zM := (yX7_missedByAll, cX7_missedByAll, 4, (some .int), 4, 0, 0)
abbrev mX7_missedPlaces : zM := (yX7_missedPlaces, cX7_missedPlaces, 6, (some .int), 3, 0, 0)
abbrev mX7_years : zM := (yX7_years, cX7_years, 6, (some .int), 3, 0, 0)
abbrev mX8_init : zM := (yX8_init, cX8_init, 1, none, 1, 0, 0)
abbrev mX8_begin : zM := (yX8_begin, cX8_begin, 3, none, 1, 0, 0)
abbrev mX8_step : zM := (yX8_step, cX8_step, 1, none, 3, 0, 0)
abbrev mX8_stepOverRow : zM := (yX8_stepOverRow, cX8_stepOverRow, 1, none, 2, 0, 0)
abbrev mX8_stepOverDigits : zM := (yX8_stepOverDigits, cX8_stepOverDigits, 1, none, 2, 0, 0)
abbrev mX8_is : zM := (yX8_is, cX8_is, 3, (some .boolean), 5, 0, 0)
abbrev mX8_isBlank : zM := (yX8_isBlank, cX8_isBlank, 1, (some .boolean), 1, 0, 0)
abbrev mX8_isLetter : zM := (yX8_isLetter, cX8_isLetter, 1, (some .boolean), 1, 0, 0)
abbrev mX8_isDigit : zM := (yX8_isDigit, cX8_isDigit, 1, (some .boolean), 1, 0, 0)
abbrev mX9_init : zM := (yX9_init, cX9_init, 2, none, 2, 38, 1270)
abbrev mX9_copy : zM := (yX9_copy, cX9_copy, 3, none, 3, 0, 0)
abbrev mX9_addBytes : zM := (yX9_addBytes, cX9_addBytes, 3, none, 2, 0, 0)
abbrev mX9_many : zM := (yX9_many, cX9_many, 2, (some .int), 2, 0, 0)
abbrev mX9_keep : zM := (yX9_keep, cX9_keep, 4, none, 3, 0, 0)
abbrev mX9_hasOne : zM := (yX9_hasOne, cX9_hasOne, 3, (some .boolean), 2, 0, 0)
abbrev mX9_hillOf : zM := (yX9_hillOf, cX9_hillOf, 2, (some (.object "FrostReplies$Hill")), 3, 0, 0)
abbrev mX9_centuryOf : zM := (yX9_centuryOf, cX9_centuryOf, 2, (some (.object "FrostReplies$Century")), 3, 0, 0)
abbrev mX9_linesOf : zM := (yX9_linesOf, cX9_linesOf, 2, (some (.object "FrostReplies$Lines")), 3, 0, 0)
abbrev mX9_logOf : zM := (yX9_logOf, cX9_logOf, 2, (some (.object "FrostReplies$Log")), 3, 0, 0)
abbrev mX10_init : zM := (yX10_init, cX10_init, 1, none, 1, 4, 1644)
abbrev mX10_rowsOf : zM := (yX10_rowsOf, cX10_rowsOf, 5, (some .int), 3, 0, 0)
abbrev mX10_sumOf : zM := (yX10_sumOf, cX10_sumOf, 4, (some .int), 2, 0, 0)
abbrev mX10_shortestReadTwice : zM := (yX10_shortestReadTwice, cX10_shortestReadTwice, 4, (some .int), 6, 0, 0)
abbrev mX10_endsAt : zM := (yX10_endsAt, cX10_endsAt, 6, (some .boolean), 5, 0, 0)
abbrev mX10_goOn : zM := (yX10_goOn, cX10_goOn, 10, (some .boolean), 4, 0, 0)
abbrev mX10_shorten : zM := (yX10_shorten, cX10_shorten, 6, none, 2, 0, 0)
abbrev mX10_pair : zM := (yX10_pair, cX10_pair, 3, (some .int), 1, 0, 0)
abbrev mX10_longestChain : zM := (yX10_longestChain, cX10_longestChain, 4, (some .int), 4, 0, 0)
abbrev mX10_headsOf : zM := (yX10_headsOf, cX10_headsOf, 6, (some .int), 3, 0, 0)
abbrev mX10_wordOfFirstChain : zM := (yX10_wordOfFirstChain, cX10_wordOfFirstChain, 8, (some .int), 3, 0, 0)
abbrev mX10_headsWithout : zM := (yX10_headsWithout, cX10_headsWithout, 6, (some .int), 2, 0, 0)
abbrev mX11_init : zM := (yX11_init, cX11_init, 1, none, 3, 94, 5478)
abbrev mX11_feed : zM := (yX11_feed, cX11_feed, 6, (some .int), 3, 0, 0)
abbrev mX11_end : zM := (yX11_end, cX11_end, 2, (some .int), 1, 0, 0)
abbrev mX11_text : zM := (yX11_text, cX11_text, 8, (some .int), 10, 0, 0)
abbrev mX11_fault : zM := (yX11_fault, cX11_fault, 2, (some .int), 1, 0, 0)
abbrev mX11_hill : zM := (yX11_hill, cX11_hill, 4, (some .int), 5, 0, 0)
abbrev mX11_deed : zM := (yX11_deed, cX11_deed, 5, (some .int), 4, 0, 0)
abbrev mX11_stop : zM := (yX11_stop, cX11_stop, 5, (some .int), 7, 0, 0)
abbrev mX11_state : zM := (yX11_state, cX11_state, 7, (some .int), 7, 0, 0)
abbrev mX11_line : zM := (yX11_line, cX11_line, 5, (some .int), 4, 0, 0)
abbrev mX11_said : zM := (yX11_said, cX11_said, 5, (some .int), 5, 0, 0)
abbrev mX11_odds : zM := (yX11_odds, cX11_odds, 8, (some .long), 4, 0, 0)
abbrev mX11_sure : zM := (yX11_sure, cX11_sure, 7, (some .long), 6, 0, 0)
abbrev mX11_reading : zM := (yX11_reading, cX11_reading, 5, (some .int), 6, 0, 0)
abbrev mX11_slips : zM := (yX11_slips, cX11_slips, 5, (some .int), 5, 0, 0)
abbrev mX11_asked : zM := (yX11_asked, cX11_asked, 6, (some .long), 6, 0, 0)
abbrev mX11_soonest : zM := (yX11_soonest, cX11_soonest, 3, (some .int), 7, 0, 0)
abbrev mX11_sentences : zM := (yX11_sentences, cX11_sentences, 4, (some .int), 4, 0, 0)
abbrev mX11_twice : zM := (yX11_twice, cX11_twice, 3, (some .int), 7, 0, 0)
abbrev mX11_ghost : zM := (yX11_ghost, cX11_ghost, 5, (some .int), 13, 0, 0)
abbrev mX11_fact : zM := (yX11_fact, cX11_fact, 5, (some .int), 4, 0, 0)
abbrev mX11_forged : zM := (yX11_forged, cX11_forged, 4, (some .int), 6, 0, 0)
abbrev mX11_chance : zM := (yX11_chance, cX11_chance, 10, (some .long), 3, 0, 0)
abbrev mX11_drawn : zM := (yX11_drawn, cX11_drawn, 6, (some .int), 7, 0, 0)
abbrev mX11_next : zM := (yX11_next, cX11_next, 5, (some .int), 6, 0, 0)
abbrev mX11_echo : zM := (yX11_echo, cX11_echo, 6, (some .int), 5, 0, 0)
abbrev mX11_alike : zM := (yX11_alike, cX11_alike, 6, (some .int), 5, 0, 0)
abbrev mX11_tree : zM := (yX11_tree, cX11_tree, 4, (some .int), 7, 0, 0)
abbrev mX11_chain : zM := (yX11_chain, cX11_chain, 5, (some .int), 5, 0, 0)
abbrev mX11_after : zM := (yX11_after, cX11_after, 6, (some .int), 7, 0, 0)
abbrev mX11_age : zM := (yX11_age, cX11_age, 4, (some .int), 5, 0, 0)
abbrev mX11_waits : zM := (yX11_waits, cX11_waits, 4, (some .long), 3, 0, 0)
abbrev mX11_count : zM := (yX11_count, cX11_count, 2, (some .int), 3, 0, 0)
abbrev mX11_image : zM := (yX11_image, cX11_image, 3, (some .boolean), 4, 39, 1279)
abbrev mX11_again : zM := (yX11_again, cX11_again, 3, (some .boolean), 4, 0, 0)
abbrev mX11_winningLetter (j : Nat) : zM := (yX11_winningLetter, cX11_winningLetter, 5, (some .int), 5 + j, 0, 0)
abbrev mX11_waysOfExactly : zM := (yX11_waysOfExactly, cX11_waysOfExactly, 6, (some .long), 1, 0, 0)
abbrev mX11_least : zM := (yX11_least, cX11_least, 7, (some .long), 2, 0, 0)
abbrev mX11_commonDivisor : zM := (yX11_commonDivisor, cX11_commonDivisor, 11, (some .long), 1, 0, 0)
abbrev mX11_has : zM := (yX11_has, cX11_has, 2, (some .boolean), 1, 0, 0)
abbrev mX11_bit : zM := (yX11_bit, cX11_bit, 1, (some .int), 1, 0, 0)
abbrev mX11_lowest : zM := (yX11_lowest, cX11_lowest, 2, (some .int), 2, 0, 0)
abbrev mX11_got : zM := (yX11_got, cX11_got, 2, (some .int), 1, 0, 0)
abbrev mX11_put : zM := (yX11_put, cX11_put, 3, none, 1, 0, 0)
abbrev mX11_copyRow : zM := (yX11_copyRow, cX11_copyRow, 2, none, 1, 0, 0)
abbrev mX12_init : zM := (yX12_init, cX12_init, 1, none, 1, 18, 16510)
abbrev mX12_isIn : zM := (yX12_isIn, cX12_isIn, 3, (some .boolean), 1, 0, 0)
abbrev mX12_feed : zM := (yX12_feed, cX12_feed, 8, (some .int), 1, 0, 0)
abbrev mX12_end : zM := (yX12_end, cX12_end, 2, (some .int), 1, 0, 0)
abbrev mX12_byteAt : zM := (yX12_byteAt, cX12_byteAt, 2, (some .int), 1, 0, 0)
abbrev mX12_isLetter : zM := (yX12_isLetter, cX12_isLetter, 1, (some .boolean), 1, 0, 0)
abbrev mX12_isDigit : zM := (yX12_isDigit, cX12_isDigit, 1, (some .boolean), 1, 0, 0)
abbrev mX12_four : zM := (yX12_four, cX12_four, 4, (some .long), 1, 0, 0)
abbrev mX12_eight : zM := (yX12_eight, cX12_eight, 8, (some .long), 2, 0, 0)
abbrev mX12_wordOf : zM := (yX12_wordOf, cX12_wordOf, 2, (some .int), 3, 0, 0)
abbrev mX12_advance : zM := (yX12_advance, cX12_advance, 4, none, 4, 0, 0)
abbrev mX12_ends : zM := (yX12_ends, cX12_ends, 1, none, 1, 0, 0)
abbrev mX12_also : zM := (yX12_also, cX12_also, 3, none, 1, 0, 0)
abbrev mX12_numbered : zM := (yX12_numbered, cX12_numbered, 4, (some .int), 5, 0, 0)
abbrev mX12_wordIn : zM := (yX12_wordIn, cX12_wordIn, 4, (some .int), 5, 0, 0)
abbrev mX12_endsLine : zM := (yX12_endsLine, cX12_endsLine, 1, none, 5, 0, 0)
abbrev mX12_rowTold : zM := (yX12_rowTold, cX12_rowTold, 5, none, 5, 0, 0)
abbrev mX12_wordTold : zM := (yX12_wordTold, cX12_wordTold, 2, (some .int), 6, 0, 0)
abbrev mX12_wordLine : zM := (yX12_wordLine, cX12_wordLine, 6, none, 6, 0, 0)
abbrev mX12_hillLine : zM := (yX12_hillLine, cX12_hillLine, 5, none, 7, 0, 0)
abbrev mX12_centuryLine : zM := (yX12_centuryLine, cX12_centuryLine, 6, none, 6, 0, 0)
abbrev mX12_linesLine : zM := (yX12_linesLine, cX12_linesLine, 4, none, 6, 0, 0)
abbrev mX12_logLine : zM := (yX12_logLine, cX12_logLine, 4, none, 6, 0, 0)
abbrev mX12_isTwice : zM := (yX12_isTwice, cX12_isTwice, 6, (some .boolean), 1, 0, 0)
abbrev mX12_placeOf : zM := (yX12_placeOf, cX12_placeOf, 2, (some .int), 1, 0, 0)
abbrev mX12_sizeOf : zM := (yX12_sizeOf, cX12_sizeOf, 1, (some .int), 1, 0, 0)
abbrev mX12_isOf : zM := (yX12_isOf, cX12_isOf, 3, (some .boolean), 2, 0, 0)
abbrev mX12_text : zM := (yX12_text, cX12_text, 5, (some .int), 8, 0, 0)
abbrev mX12_fault : zM := (yX12_fault, cX12_fault, 2, (some .int), 1, 0, 0)
abbrev mX12_isHill : zM := (yX12_isHill, cX12_isHill, 2, (some .boolean), 3, 0, 0)
abbrev mX12_isWord : zM := (yX12_isWord, cX12_isWord, 2, (some .boolean), 2, 0, 0)
abbrev mX12_isStone : zM := (yX12_isStone, cX12_isStone, 2, (some .boolean), 2, 0, 0)
abbrev mX12_longOf : zM := (yX12_longOf, cX12_longOf, 2, (some .int), 1, 0, 0)
abbrev mX12_oftenOf : zM := (yX12_oftenOf, cX12_oftenOf, 2, (some .int), 1, 0, 0)
abbrev mX12_letterOf : zM := (yX12_letterOf, cX12_letterOf, 3, (some .int), 1, 0, 0)
abbrev mX12_everyWord : zM := (yX12_everyWord, cX12_everyWord, 1, (some .int), 1, 0, 0)
abbrev mX12_behind : zM := (yX12_behind, cX12_behind, 2, (some .int), 2, 0, 0)
abbrev mX12_answersTo : zM := (yX12_answersTo, cX12_answersTo, 2, (some .int), 1, 0, 0)
abbrev mX12_holds : zM := (yX12_holds, cX12_holds, 2, (some .boolean), 1, 0, 0)
abbrev mX12_bitsOf : zM := (yX12_bitsOf, cX12_bitsOf, 3, (some .int), 1, 0, 0)
abbrev mX12_hill : zM := (yX12_hill, cX12_hill, 5, (some .int), 4, 0, 0)
abbrev mX12_isCentury : zM := (yX12_isCentury, cX12_isCentury, 2, (some .boolean), 3, 0, 0)
abbrev mX12_deed : zM := (yX12_deed, cX12_deed, 4, (some .int), 4, 0, 0)
abbrev mX12_begins : zM := (yX12_begins, cX12_begins, 2, none, 1, 0, 0)
abbrev mX12_begins0 : zM := (yX12_begins0, cX12_begins0, 5, (some .boolean), 2, 0, 0)
abbrev mX12_fitting : zM := (yX12_fitting, cX12_fitting, 4, (some .int), 3, 0, 0)
abbrev mX12_puts : zM := (yX12_puts, cX12_puts, 6, none, 1, 0, 0)
abbrev mX12_freezes : zM := (yX12_freezes, cX12_freezes, 4, (some .boolean), 4, 0, 0)
abbrev mX12_tells : zM := (yX12_tells, cX12_tells, 3, (some .boolean), 4, 0, 0)
abbrev mX12_does : zM := (yX12_does, cX12_does, 4, (some .boolean), 5, 0, 0)
abbrev mX12_runs : zM := (yX12_runs, cX12_runs, 2, none, 6, 0, 0)
abbrev mX12_stop : zM := (yX12_stop, cX12_stop, 3, (some .int), 7, 0, 0)
abbrev mX12_feignedOn : zM := (yX12_feignedOn, cX12_feignedOn, 4, (some .int), 1, 0, 0)
abbrev mX12_nowOf : zM := (yX12_nowOf, cX12_nowOf, 4, (some .int), 4, 0, 0)
abbrev mX12_state : zM := (yX12_state, cX12_state, 5, (some .int), 7, 0, 0)
abbrev mX12_after : zM := (yX12_after, cX12_after, 9, (some .int), 6, 0, 0)
abbrev mX12_isLine : zM := (yX12_isLine, cX12_isLine, 3, (some .boolean), 3, 0, 0)
abbrev mX12_inLine : zM := (yX12_inLine, cX12_inLine, 2, (some .int), 1, 0, 0)
abbrev mX12_line : zM := (yX12_line, cX12_line, 4, (some .int), 4, 0, 0)
abbrev mX12_saidOf : zM := (yX12_saidOf, cX12_saidOf, 5, (some .int), 2, 0, 0)
abbrev mX12_oftenIn : zM := (yX12_oftenIn, cX12_oftenIn, 4, (some .int), 2, 0, 0)
abbrev mX12_said : zM := (yX12_said, cX12_said, 8, (some .int), 4, 0, 0)
abbrev mX12_common : zM := (yX12_common, cX12_common, 10, (some .long), 1, 0, 0)
abbrev mX12_least : zM := (yX12_least, cX12_least, 5, (some .long), 2, 0, 0)
abbrev mX12_odds : zM := (yX12_odds, cX12_odds, 8, (some .long), 4, 0, 0)
abbrev mX12_alikeOf : zM := (yX12_alikeOf, cX12_alikeOf, 4, (some .int), 2, 0, 0)
abbrev mX12_sureIn : zM := (yX12_sureIn, cX12_sureIn, 7, (some .int), 3, 0, 0)
abbrev mX12_sure : zM := (yX12_sure, cX12_sure, 6, (some .long), 4, 0, 0)
abbrev mX12_asked : zM := (yX12_asked, cX12_asked, 5, (some .long), 4, 0, 0)
abbrev mX12_soonest : zM := (yX12_soonest, cX12_soonest, 5, (some .int), 4, 0, 0)
abbrev mX12_unlike : zM := (yX12_unlike, cX12_unlike, 5, (some .int), 2, 0, 0)
abbrev mX12_laysReadings : zM := (yX12_laysReadings, cX12_laysReadings, 5, none, 3, 0, 0)
abbrev mX12_reading : zM := (yX12_reading, cX12_reading, 9, (some .int), 4, 0, 0)
abbrev mX12_mendedOf : zM := (yX12_mendedOf, cX12_mendedOf, 6, (some .int), 3, 0, 0)
abbrev mX12_next : zM := (yX12_next, cX12_next, 13, (some .int), 4, 0, 0)
abbrev mX12_takesWord : zM := (yX12_takesWord, cX12_takesWord, 4, none, 2, 0, 0)
abbrev mX12_changesOf : zM := (yX12_changesOf, cX12_changesOf, 4, (some .int), 1, 0, 0)
abbrev mX12_slips : zM := (yX12_slips, cX12_slips, 8, (some .int), 4, 0, 0)
abbrev mX12_echo : zM := (yX12_echo, cX12_echo, 10, (some .int), 4, 0, 0)
abbrev mX12_apartOf : zM := (yX12_apartOf, cX12_apartOf, 3, (some .int), 3, 0, 0)
abbrev mX12_alike : zM := (yX12_alike, cX12_alike, 5, (some .int), 4, 0, 0)
abbrev mX12_closestOf : zM := (yX12_closestOf, cX12_closestOf, 4, (some .int), 4, 0, 0)
abbrev mX12_treeOf : zM := (yX12_treeOf, cX12_treeOf, 5, (some .int), 3, 0, 0)
abbrev mX12_isBeginning : zM := (yX12_isBeginning, cX12_isBeginning, 3, (some .boolean), 3, 0, 0)
abbrev mX12_withinOf : zM := (yX12_withinOf, cX12_withinOf, 5, (some .int), 4, 0, 0)
abbrev mX12_leadsOf : zM := (yX12_leadsOf, cX12_leadsOf, 6, (some .int), 3, 0, 0)
abbrev mX12_tree : zM := (yX12_tree, cX12_tree, 5, (some .int), 5, 0, 0)
abbrev mX12_bestBehind : zM := (yX12_bestBehind, cX12_bestBehind, 5, (some .int), 3, 0, 0)
abbrev mX12_chain : zM := (yX12_chain, cX12_chain, 8, (some .int), 4, 0, 0)
abbrev mX12_sentences : zM := (yX12_sentences, cX12_sentences, 7, (some .int), 4, 0, 0)
abbrev mX12_goesOn : zM := (yX12_goesOn, cX12_goesOn, 8, (some .boolean), 3, 0, 0)
abbrev mX12_twice : zM := (yX12_twice, cX12_twice, 5, (some .int), 4, 0, 0)
abbrev mX12_isWhole : zM := (yX12_isWhole, cX12_isWhole, 5, (some .boolean), 3, 0, 0)
abbrev mX12_isWon : zM := (yX12_isWon, cX12_isWon, 5, (some .boolean), 4, 0, 0)
abbrev mX12_ghost : zM := (yX12_ghost, cX12_ghost, 5, (some .int), 5, 0, 0)
abbrev mX12_isLog : zM := (yX12_isLog, cX12_isLog, 3, (some .boolean), 3, 0, 0)
abbrev mX12_fact : zM := (yX12_fact, cX12_fact, 4, (some .int), 4, 0, 0)
abbrev mX12_digit : zM := (yX12_digit, cX12_digit, 2, (some .int), 1, 0, 0)
abbrev mX12_isSo : zM := (yX12_isSo, cX12_isSo, 4, (some .boolean), 2, 0, 0)
abbrev mX12_isRule : zM := (yX12_isRule, cX12_isRule, 1, (some .boolean), 2, 0, 0)
abbrev mX12_notSo : zM := (yX12_notSo, cX12_notSo, 4, (some .int), 3, 0, 0)
abbrev mX12_placesNotSo : zM := (yX12_placesNotSo, cX12_placesNotSo, 4, (some .int), 3, 0, 0)
abbrev mX12_fewest : zM := (yX12_fewest, cX12_fewest, 3, (some .int), 4, 0, 0)
abbrev mX12_forged : zM := (yX12_forged, cX12_forged, 7, (some .int), 5, 0, 0)
abbrev mX12_age : zM := (yX12_age, cX12_age, 7, (some .int), 5, 0, 0)
abbrev mX12_power : zM := (yX12_power, cX12_power, 6, (some .long), 1, 0, 0)
abbrev mX12_chance : zM := (yX12_chance, cX12_chance, 8, (some .long), 3, 0, 0)
abbrev mX12_waits : zM := (yX12_waits, cX12_waits, 4, (some .long), 3, 0, 0)
abbrev mX12_below : zM := (yX12_below, cX12_below, 2, (some .int), 1, 0, 0)
abbrev mX12_draws : zM := (yX12_draws, cX12_draws, 3, none, 6, 0, 0)
abbrev mX12_drawn : zM := (yX12_drawn, cX12_drawn, 6, (some .int), 7, 0, 0)
abbrev mX12_count : zM := (yX12_count, cX12_count, 2, (some .int), 2, 0, 0)
abbrev mX12_image : zM := (yX12_image, cX12_image, 3, (some .boolean), 2, 0, 0)
abbrev mX12_again : zM := (yX12_again, cX12_again, 3, (some .boolean), 2, 0, 0)
abbrev mJ6_bitCount_0f7a4 : zM := (yJ6_bitCount_0f7a4, cJ6_bitCount_0f7a4, 1, (some .int), 1, 0, 0)
abbrev mJ7_fill_53178 : zM := (yJ7_fill_53178, cJ7_fill_53178, 4, none, 1, 0, 0)
abbrev mL_law : zM := (x, code, 4, (some .boolean), 40, 600000, 7302250)
theorem wi_X11 : Cond.initialized RX11 ∈ zGW := z_mem (z_tA (List.mem_of_getElem? (i := 1) rfl)) rfl
theorem wi_X12 : Cond.initialized RX12 ∈ zGW := z_mem (z_tA (List.mem_of_getElem? (i := 13) rfl)) rfl
theorem wi_X0 : Cond.initialized RX0 ∈ zGW := z_mem (z_tA (List.mem_of_getElem? (i := 4) rfl)) rfl
theorem wi_X1 : Cond.initialized RX1 ∈ zGW := z_mem (z_tA (List.mem_of_getElem? (i := 10) rfl)) rfl
theorem wi_X2 : Cond.initialized RX2 ∈ zGW := z_mem (z_tA (List.mem_of_getElem? (i := 9) rfl)) rfl
theorem wi_X3 : Cond.initialized RX3 ∈ zGW := z_mem (z_tA (List.mem_of_getElem? (i := 3) rfl)) rfl
theorem wi_X4 : Cond.initialized RX4 ∈ zGW := z_mem (z_tA (List.mem_of_getElem? (i := 5) rfl)) rfl
theorem wi_X5 : Cond.initialized RX5 ∈ zGW := z_mem (z_tA (List.mem_of_getElem? (i := 6) rfl)) rfl
theorem wi_X6 : Cond.initialized RX6 ∈ zGW := z_mem (z_tA (List.mem_of_getElem? (i := 7) rfl)) rfl
theorem wi_X7 : Cond.initialized RX7 ∈ zGW := z_mem (z_tA (List.mem_of_getElem? (i := 12) rfl)) rfl
theorem wi_X8 : Cond.initialized RX8 ∈ zGW := z_mem (z_tA (List.mem_of_getElem? (i := 8) rfl)) rfl
theorem wi_X9 : Cond.initialized RX9 ∈ zGW := z_mem (z_tA (List.mem_of_getElem? (i := 2) rfl)) rfl
theorem wi_X10 : Cond.initialized RX10 ∈ zGW := z_mem (z_tA (List.mem_of_getElem? (i := 11) rfl)) rfl
theorem wi_J7 : Cond.initialized RJ7 ∈ zGW := z_mem (z_tA (List.mem_of_getElem? (i := 14) rfl)) rfl
theorem wi_J6 : Cond.initialized RJ6 ∈ zGW := z_mem (z_tA (List.mem_of_getElem? (i := 21) rfl)) rfl
theorem kX0_init : zcI mX0_init 0 := ⟨⟨z_mem (z_tA (List.mem_of_getElem? (i := 97) rfl)) rfl, wi_X0, by decide, by decide, by decide +kernel⟩, rfl, z_mem (z_tA (List.mem_of_getElem? (i := 96) rfl)) rfl, rfl⟩
theorem kX0_copy : zcS (mX0_copy) 2 := ⟨⟨z_mem (z_tC (List.mem_of_getElem? (i := 211) rfl)) rfl, wi_X0, by decide, by decide, by decide +kernel⟩, z_mem (z_tC (List.mem_of_getElem? (i := 210) rfl)) rfl⟩
theorem kX0_look : zcV mX0_look 2 0 := ⟨⟨z_mem (z_tD (List.mem_of_getElem? (i := 33) rfl)) rfl, wi_X0, by decide, by decide, by decide +kernel⟩, z_mem (z_tD (List.mem_of_getElem? (i := 31) rfl)) rfl, z_mem (z_tD (List.mem_of_getElem? (i := 32) rfl)) rfl, by decide, rfl⟩
theorem kX1_init : zcI mX1_init 0 := ⟨⟨z_mem (z_tB (List.mem_of_getElem? (i := 102) rfl)) rfl, wi_X1, by decide, by decide, by decide +kernel⟩, rfl, z_mem (z_tB (List.mem_of_getElem? (i := 101) rfl)) rfl, rfl⟩
theorem kX1_hears : zcV mX1_hears 3 1 := ⟨⟨z_mem (z_tD (List.mem_of_getElem? (i := 146) rfl)) rfl, wi_X1, by decide, by decide, by decide +kernel⟩, z_mem (z_tD (List.mem_of_getElem? (i := 144) rfl)) rfl, z_mem (z_tD (List.mem_of_getElem? (i := 145) rfl)) rfl, by decide, rfl⟩
theorem kX1_heard : zcV mX1_heard 0 1 := ⟨⟨z_mem (z_tD (List.mem_of_getElem? (i := 154) rfl)) rfl, wi_X1, by decide, by decide, by decide +kernel⟩, z_mem (z_tD (List.mem_of_getElem? (i := 152) rfl)) rfl, z_mem (z_tD (List.mem_of_getElem? (i := 153) rfl)) rfl, by decide, rfl⟩
theorem kX1_likely : zcV mX1_likely 0 1 := ⟨⟨z_mem (z_tD (List.mem_of_getElem? (i := 159) rfl)) rfl, wi_X1, by decide, by decide, by decide +kernel⟩, z_mem (z_tD (List.mem_of_getElem? (i := 157) rfl)) rfl, z_mem (z_tD (List.mem_of_getElem? (i := 158) rfl)) rfl, by decide, rfl⟩
theorem kX1_lettersBehind : zcV mX1_lettersBehind 0 1 := ⟨⟨z_mem (z_tE (List.mem_of_getElem? (i := 194) rfl)) rfl, wi_X1, by decide, by decide, by decide +kernel⟩, z_mem (z_tE (List.mem_of_getElem? (i := 192) rfl)) rfl, z_mem (z_tE (List.mem_of_getElem? (i := 193) rfl)) rfl, by decide, rfl⟩
theorem kX1_keenest : zcV mX1_keenest 0 1 := ⟨⟨z_mem (z_tE (List.mem_of_getElem? (i := 198) rfl)) rfl, wi_X1, by decide, by decide, by decide +kernel⟩, z_mem (z_tE (List.mem_of_getElem? (i := 196) rfl)) rfl, z_mem (z_tE (List.mem_of_getElem? (i := 197) rfl)) rfl, by decide, rfl⟩
theorem kX1_oftenGoingOn : zcV mX1_oftenGoingOn 1 1 := ⟨⟨z_mem (z_tE (List.mem_of_getElem? (i := 203) rfl)) rfl, wi_X1, by decide, by decide, by decide +kernel⟩, z_mem (z_tE (List.mem_of_getElem? (i := 202) rfl)) rfl, z_mem (z_tS (List.mem_of_getElem? (i := 56) rfl)) rfl, by decide, rfl⟩
theorem kX1_readings : zcV mX1_readings 0 1 := ⟨⟨z_mem (z_tD (List.mem_of_getElem? (i := 202) rfl)) rfl, wi_X1, by decide, by decide, by decide +kernel⟩, z_mem (z_tD (List.mem_of_getElem? (i := 200) rfl)) rfl, z_mem (z_tD (List.mem_of_getElem? (i := 201) rfl)) rfl, by decide, rfl⟩
theorem kX1_countReadings : zcV mX1_countReadings 0 1 := ⟨⟨z_mem (z_tD (List.mem_of_getElem? (i := 206) rfl)) rfl, wi_X1, by decide, by decide, by decide +kernel⟩, z_mem (z_tD (List.mem_of_getElem? (i := 205) rfl)) rfl, z_mem (z_tS (List.mem_of_getElem? (i := 40) rfl)) rfl, by decide, rfl⟩
theorem kX1_readingsBehind : zcV mX1_readingsBehind 2 1 := ⟨⟨z_mem (z_tD (List.mem_of_getElem? (i := 216) rfl)) rfl, wi_X1, by decide, by decide, by decide +kernel⟩, z_mem (z_tD (List.mem_of_getElem? (i := 215) rfl)) rfl, z_mem (z_tS (List.mem_of_getElem? (i := 41) rfl)) rfl, by decide, rfl⟩
theorem kX1_wordOfFirstReading : zcV mX1_wordOfFirstReading 1 1 := ⟨⟨z_mem (z_tD (List.mem_of_getElem? (i := 221) rfl)) rfl, wi_X1, by decide, by decide, by decide +kernel⟩, z_mem (z_tD (List.mem_of_getElem? (i := 219) rfl)) rfl, z_mem (z_tD (List.mem_of_getElem? (i := 220) rfl)) rfl, by decide, rfl⟩
theorem kX1_leastReadAt : zcV mX1_leastReadAt 2 1 := ⟨⟨z_mem (z_tD (List.mem_of_getElem? (i := 225) rfl)) rfl, wi_X1, by decide, by decide, by decide +kernel⟩, z_mem (z_tD (List.mem_of_getElem? (i := 224) rfl)) rfl, z_mem (z_tS (List.mem_of_getElem? (i := 42) rfl)) rfl, by decide, rfl⟩
theorem kX1_mended : zcV mX1_mended 0 1 := ⟨⟨z_mem (z_tE (List.mem_of_getElem? (i := 207) rfl)) rfl, wi_X1, by decide, by decide, by decide +kernel⟩, z_mem (z_tE (List.mem_of_getElem? (i := 205) rfl)) rfl, z_mem (z_tE (List.mem_of_getElem? (i := 206) rfl)) rfl, by decide, rfl⟩
theorem kX1_fewestBehind : zcV mX1_fewestBehind 2 1 := ⟨⟨z_mem (z_tE (List.mem_of_getElem? (i := 211) rfl)) rfl, wi_X1, by decide, by decide, by decide +kernel⟩, z_mem (z_tE (List.mem_of_getElem? (i := 210) rfl)) rfl, z_mem (z_tS (List.mem_of_getElem? (i := 57) rfl)) rfl, by decide, rfl⟩
theorem kX1_slipsUpTo : zcV mX1_slipsUpTo 1 1 := ⟨⟨z_mem (z_tD (List.mem_of_getElem? (i := 233) rfl)) rfl, wi_X1, by decide, by decide, by decide +kernel⟩, z_mem (z_tD (List.mem_of_getElem? (i := 231) rfl)) rfl, z_mem (z_tD (List.mem_of_getElem? (i := 232) rfl)) rfl, by decide, rfl⟩
theorem kX1_changesBetween : zcV mX1_changesBetween 3 1 := ⟨⟨z_mem (z_tE (List.mem_of_getElem? (i := 234) rfl)) rfl, wi_X1, by decide, by decide, by decide +kernel⟩, z_mem (z_tE (List.mem_of_getElem? (i := 232) rfl)) rfl, z_mem (z_tE (List.mem_of_getElem? (i := 233) rfl)) rfl, by decide, rfl⟩
theorem kX1_changesTo : zcV mX1_changesTo 5 1 := ⟨⟨z_mem (z_tD (List.mem_of_getElem? (i := 237) rfl)) rfl, wi_X1, by decide, by decide, by decide +kernel⟩, z_mem (z_tD (List.mem_of_getElem? (i := 236) rfl)) rfl, z_mem (z_tS (List.mem_of_getElem? (i := 43) rfl)) rfl, by decide, rfl⟩
theorem kX1_closest : zcV mX1_closest 2 1 := ⟨⟨z_mem (z_tF (List.mem_of_getElem? (i := 3) rfl)) rfl, wi_X1, by decide, by decide, by decide +kernel⟩, z_mem (z_tF (List.mem_of_getElem? (i := 1) rfl)) rfl, z_mem (z_tF (List.mem_of_getElem? (i := 2) rfl)) rfl, by decide, rfl⟩
theorem kX2_init : zcI mX2_init 0 := ⟨⟨z_mem (z_tB (List.mem_of_getElem? (i := 58) rfl)) rfl, wi_X2, by decide, by decide, by decide +kernel⟩, rfl, z_mem (z_tB (List.mem_of_getElem? (i := 57) rfl)) rfl, rfl⟩
theorem kX2_begin : zcV mX2_begin 1 2 := ⟨⟨z_mem (z_tD (List.mem_of_getElem? (i := 46) rfl)) rfl, wi_X2, by decide, by decide, by decide +kernel⟩, z_mem (z_tD (List.mem_of_getElem? (i := 45) rfl)) rfl, z_mem (z_tS (List.mem_of_getElem? (i := 26) rfl)) rfl, by decide, rfl⟩
theorem kX2_play : zcV mX2_play 3 2 := ⟨⟨z_mem (z_tD (List.mem_of_getElem? (i := 42) rfl)) rfl, wi_X2, by decide, by decide, by decide +kernel⟩, z_mem (z_tD (List.mem_of_getElem? (i := 40) rfl)) rfl, z_mem (z_tD (List.mem_of_getElem? (i := 41) rfl)) rfl, by decide, rfl⟩
theorem kX2_draw : zcV mX2_draw 3 2 := ⟨⟨z_mem (z_tE (List.mem_of_getElem? (i := 179) rfl)) rfl, wi_X2, by decide, by decide, by decide +kernel⟩, z_mem (z_tE (List.mem_of_getElem? (i := 177) rfl)) rfl, z_mem (z_tE (List.mem_of_getElem? (i := 178) rfl)) rfl, by decide, rfl⟩
theorem kX2_stir : zcS (mX2_stir) 1 := ⟨⟨z_mem (z_tE (List.mem_of_getElem? (i := 182) rfl)) rfl, wi_X2, by decide, by decide, by decide +kernel⟩, z_mem (z_tE (List.mem_of_getElem? (i := 181) rfl)) rfl⟩
theorem kX2_below : zcS (mX2_below) 2 := ⟨⟨z_mem (z_tE (List.mem_of_getElem? (i := 186) rfl)) rfl, wi_X2, by decide, by decide, by decide +kernel⟩, z_mem (z_tE (List.mem_of_getElem? (i := 185) rfl)) rfl⟩
theorem kX2_does : zcV mX2_does 3 2 := ⟨⟨z_mem (z_tD (List.mem_of_getElem? (i := 52) rfl)) rfl, wi_X2, by decide, by decide, by decide +kernel⟩, z_mem (z_tD (List.mem_of_getElem? (i := 51) rfl)) rfl, z_mem (z_tS (List.mem_of_getElem? (i := 27) rfl)) rfl, by decide, rfl⟩
theorem kX2_isStone : zcV mX2_isStone 1 2 := ⟨⟨z_mem (z_tD (List.mem_of_getElem? (i := 56) rfl)) rfl, wi_X2, by decide, by decide, by decide +kernel⟩, z_mem (z_tD (List.mem_of_getElem? (i := 55) rfl)) rfl, z_mem (z_tS (List.mem_of_getElem? (i := 28) rfl)) rfl, by decide, rfl⟩
theorem kX2_open : zcV mX2_open 1 2 := ⟨⟨z_mem (z_tD (List.mem_of_getElem? (i := 68) rfl)) rfl, wi_X2, by decide, by decide, by decide +kernel⟩, z_mem (z_tD (List.mem_of_getElem? (i := 67) rfl)) rfl, z_mem (z_tS (List.mem_of_getElem? (i := 30) rfl)) rfl, by decide, rfl⟩
theorem kX2_freeze : zcV mX2_freeze 2 2 := ⟨⟨z_mem (z_tD (List.mem_of_getElem? (i := 63) rfl)) rfl, wi_X2, by decide, by decide, by decide +kernel⟩, z_mem (z_tD (List.mem_of_getElem? (i := 62) rfl)) rfl, z_mem (z_tS (List.mem_of_getElem? (i := 29) rfl)) rfl, by decide, rfl⟩
theorem kX2_falsify : zcV mX2_falsify 2 2 := ⟨⟨z_mem (z_tD (List.mem_of_getElem? (i := 87) rfl)) rfl, wi_X2, by decide, by decide, by decide +kernel⟩, z_mem (z_tD (List.mem_of_getElem? (i := 86) rfl)) rfl, z_mem (z_tS (List.mem_of_getElem? (i := 33) rfl)) rfl, by decide, rfl⟩
theorem kX2_add : zcV mX2_add 4 2 := ⟨⟨z_mem (z_tD (List.mem_of_getElem? (i := 83) rfl)) rfl, wi_X2, by decide, by decide, by decide +kernel⟩, z_mem (z_tD (List.mem_of_getElem? (i := 82) rfl)) rfl, z_mem (z_tS (List.mem_of_getElem? (i := 32) rfl)) rfl, by decide, rfl⟩
theorem kX2_overgrow : zcV mX2_overgrow 1 2 := ⟨⟨z_mem (z_tD (List.mem_of_getElem? (i := 91) rfl)) rfl, wi_X2, by decide, by decide, by decide +kernel⟩, z_mem (z_tD (List.mem_of_getElem? (i := 90) rfl)) rfl, z_mem (z_tS (List.mem_of_getElem? (i := 34) rfl)) rfl, by decide, rfl⟩
theorem kX2_chipOff : zcV mX2_chipOff 1 2 := ⟨⟨z_mem (z_tD (List.mem_of_getElem? (i := 96) rfl)) rfl, wi_X2, by decide, by decide, by decide +kernel⟩, z_mem (z_tD (List.mem_of_getElem? (i := 95) rfl)) rfl, z_mem (z_tS (List.mem_of_getElem? (i := 35) rfl)) rfl, by decide, rfl⟩
theorem kX2_fitting : zcV mX2_fitting 2 2 := ⟨⟨z_mem (z_tD (List.mem_of_getElem? (i := 72) rfl)) rfl, wi_X2, by decide, by decide, by decide +kernel⟩, z_mem (z_tD (List.mem_of_getElem? (i := 71) rfl)) rfl, z_mem (z_tS (List.mem_of_getElem? (i := 31) rfl)) rfl, by decide, rfl⟩
theorem kX2_forgeriesOn : zcV mX2_forgeriesOn 1 2 := ⟨⟨z_mem (z_tD (List.mem_of_getElem? (i := 117) rfl)) rfl, wi_X2, by decide, by decide, by decide +kernel⟩, z_mem (z_tD (List.mem_of_getElem? (i := 116) rfl)) rfl, z_mem (z_tS (List.mem_of_getElem? (i := 38) rfl)) rfl, by decide, rfl⟩
theorem kX2_look : zcV mX2_look 1 2 := ⟨⟨z_mem (z_tD (List.mem_of_getElem? (i := 105) rfl)) rfl, wi_X2, by decide, by decide, by decide +kernel⟩, z_mem (z_tD (List.mem_of_getElem? (i := 103) rfl)) rfl, z_mem (z_tD (List.mem_of_getElem? (i := 104) rfl)) rfl, by decide, rfl⟩
theorem kX2_lookAtLetter : zcV mX2_lookAtLetter 2 2 := ⟨⟨z_mem (z_tD (List.mem_of_getElem? (i := 109) rfl)) rfl, wi_X2, by decide, by decide, by decide +kernel⟩, z_mem (z_tD (List.mem_of_getElem? (i := 108) rfl)) rfl, z_mem (z_tS (List.mem_of_getElem? (i := 36) rfl)) rfl, by decide, rfl⟩
theorem kX2_lookAtStone : zcV mX2_lookAtStone 2 2 := ⟨⟨z_mem (z_tD (List.mem_of_getElem? (i := 113) rfl)) rfl, wi_X2, by decide, by decide, by decide +kernel⟩, z_mem (z_tD (List.mem_of_getElem? (i := 112) rfl)) rfl, z_mem (z_tS (List.mem_of_getElem? (i := 37) rfl)) rfl, by decide, rfl⟩
theorem kX2_wordiest : zcV mX2_wordiest 0 2 := ⟨⟨z_mem (z_tF (List.mem_of_getElem? (i := 57) rfl)) rfl, wi_X2, by decide, by decide, by decide +kernel⟩, z_mem (z_tF (List.mem_of_getElem? (i := 55) rfl)) rfl, z_mem (z_tF (List.mem_of_getElem? (i := 56) rfl)) rfl, by decide, rfl⟩
theorem kX2_feigned : zcV mX2_feigned 0 2 := ⟨⟨z_mem (z_tF (List.mem_of_getElem? (i := 61) rfl)) rfl, wi_X2, by decide, by decide, by decide +kernel⟩, z_mem (z_tF (List.mem_of_getElem? (i := 59) rfl)) rfl, z_mem (z_tF (List.mem_of_getElem? (i := 60) rfl)) rfl, by decide, rfl⟩
theorem kX3_init : zcI mX3_init 0 := ⟨⟨z_mem (z_tA (List.mem_of_getElem? (i := 47) rfl)) rfl, wi_X3, by decide, by decide, by decide +kernel⟩, rfl, z_mem (z_tA (List.mem_of_getElem? (i := 46) rfl)) rfl, rfl⟩
theorem kX3_clear : zcV mX3_clear 0 3 := ⟨⟨z_mem (z_tB (List.mem_of_getElem? (i := 228) rfl)) rfl, wi_X3, by decide, by decide, by decide +kernel⟩, z_mem (z_tB (List.mem_of_getElem? (i := 226) rfl)) rfl, z_mem (z_tB (List.mem_of_getElem? (i := 227) rfl)) rfl, by decide, rfl⟩
theorem kX3_copy : zcS (mX3_copy) 2 := ⟨⟨z_mem (z_tC (List.mem_of_getElem? (i := 201) rfl)) rfl, wi_X3, by decide, by decide, by decide +kernel⟩, z_mem (z_tC (List.mem_of_getElem? (i := 200) rfl)) rfl⟩
theorem kX3_look : zcV mX3_look 1 3 := ⟨⟨z_mem (z_tD (List.mem_of_getElem? (i := 1) rfl)) rfl, wi_X3, by decide, by decide, by decide +kernel⟩, z_mem (z_tC (List.mem_of_getElem? (i := 239) rfl)) rfl, z_mem (z_tD (List.mem_of_getElem? (i := 0) rfl)) rfl, by decide, rfl⟩
theorem kX3_lookAtWord : zcV mX3_lookAtWord 2 3 := ⟨⟨z_mem (z_tD (List.mem_of_getElem? (i := 9) rfl)) rfl, wi_X3, by decide, by decide, by decide +kernel⟩, z_mem (z_tD (List.mem_of_getElem? (i := 8) rfl)) rfl, z_mem (z_tS (List.mem_of_getElem? (i := 25) rfl)) rfl, by decide, rfl⟩
theorem kX3_hasWord : zcV mX3_hasWord 1 3 := ⟨⟨z_mem (z_tD (List.mem_of_getElem? (i := 5) rfl)) rfl, wi_X3, by decide, by decide, by decide +kernel⟩, z_mem (z_tD (List.mem_of_getElem? (i := 3) rfl)) rfl, z_mem (z_tD (List.mem_of_getElem? (i := 4) rfl)) rfl, by decide, rfl⟩
theorem kX3_sizeOf : zcV mX3_sizeOf 1 3 := ⟨⟨z_mem (z_tC (List.mem_of_getElem? (i := 183) rfl)) rfl, wi_X3, by decide, by decide, by decide +kernel⟩, z_mem (z_tC (List.mem_of_getElem? (i := 181) rfl)) rfl, z_mem (z_tC (List.mem_of_getElem? (i := 182) rfl)) rfl, by decide, rfl⟩
theorem kX3_oftenOf : zcV mX3_oftenOf 1 3 := ⟨⟨z_mem (z_tD (List.mem_of_getElem? (i := 13) rfl)) rfl, wi_X3, by decide, by decide, by decide +kernel⟩, z_mem (z_tD (List.mem_of_getElem? (i := 11) rfl)) rfl, z_mem (z_tD (List.mem_of_getElem? (i := 12) rfl)) rfl, by decide, rfl⟩
theorem kX3_letterOf : zcV mX3_letterOf 2 3 := ⟨⟨z_mem (z_tC (List.mem_of_getElem? (i := 193) rfl)) rfl, wi_X3, by decide, by decide, by decide +kernel⟩, z_mem (z_tC (List.mem_of_getElem? (i := 191) rfl)) rfl, z_mem (z_tC (List.mem_of_getElem? (i := 192) rfl)) rfl, by decide, rfl⟩
theorem kX3_all : zcV mX3_all 0 3 := ⟨⟨z_mem (z_tD (List.mem_of_getElem? (i := 21) rfl)) rfl, wi_X3, by decide, by decide, by decide +kernel⟩, z_mem (z_tD (List.mem_of_getElem? (i := 19) rfl)) rfl, z_mem (z_tD (List.mem_of_getElem? (i := 20) rfl)) rfl, by decide, rfl⟩
theorem kX3_behind : zcV mX3_behind 1 3 := ⟨⟨z_mem (z_tD (List.mem_of_getElem? (i := 17) rfl)) rfl, wi_X3, by decide, by decide, by decide +kernel⟩, z_mem (z_tD (List.mem_of_getElem? (i := 15) rfl)) rfl, z_mem (z_tD (List.mem_of_getElem? (i := 16) rfl)) rfl, by decide, rfl⟩
theorem kX3_oftenOfAll : zcV mX3_oftenOfAll 1 3 := ⟨⟨z_mem (z_tD (List.mem_of_getElem? (i := 174) rfl)) rfl, wi_X3, by decide, by decide, by decide +kernel⟩, z_mem (z_tD (List.mem_of_getElem? (i := 172) rfl)) rfl, z_mem (z_tD (List.mem_of_getElem? (i := 173) rfl)) rfl, by decide, rfl⟩
theorem kX3_beginningWith : zcV mX3_beginningWith 3 3 := ⟨⟨z_mem (z_tD (List.mem_of_getElem? (i := 76) rfl)) rfl, wi_X3, by decide, by decide, by decide +kernel⟩, z_mem (z_tD (List.mem_of_getElem? (i := 74) rfl)) rfl, z_mem (z_tD (List.mem_of_getElem? (i := 75) rfl)) rfl, by decide, rfl⟩
theorem kX3_changesAt : zcV mX3_changesAt 4 3 := ⟨⟨z_mem (z_tD (List.mem_of_getElem? (i := 212) rfl)) rfl, wi_X3, by decide, by decide, by decide +kernel⟩, z_mem (z_tD (List.mem_of_getElem? (i := 210) rfl)) rfl, z_mem (z_tD (List.mem_of_getElem? (i := 211) rfl)) rfl, by decide, rfl⟩
theorem kX3_sameLettersAtFirst : zcV mX3_sameLettersAtFirst 2 3 := ⟨⟨z_mem (z_tC (List.mem_of_getElem? (i := 188) rfl)) rfl, wi_X3, by decide, by decide, by decide +kernel⟩, z_mem (z_tC (List.mem_of_getElem? (i := 186) rfl)) rfl, z_mem (z_tC (List.mem_of_getElem? (i := 187) rfl)) rfl, by decide, rfl⟩
theorem kX3_isWithin : zcV mX3_isWithin 2 3 := ⟨⟨z_mem (z_tE (List.mem_of_getElem? (i := 46) rfl)) rfl, wi_X3, by decide, by decide, by decide +kernel⟩, z_mem (z_tE (List.mem_of_getElem? (i := 44) rfl)) rfl, z_mem (z_tE (List.mem_of_getElem? (i := 45) rfl)) rfl, by decide, rfl⟩
theorem kX3_lettersTillSure : zcV mX3_lettersTillSure 2 3 := ⟨⟨z_mem (z_tD (List.mem_of_getElem? (i := 189) rfl)) rfl, wi_X3, by decide, by decide, by decide +kernel⟩, z_mem (z_tD (List.mem_of_getElem? (i := 187) rfl)) rfl, z_mem (z_tD (List.mem_of_getElem? (i := 188) rfl)) rfl, by decide, rfl⟩
theorem kX3_lettersToTell : zcV mX3_lettersToTell 3 3 := ⟨⟨z_mem (z_tD (List.mem_of_getElem? (i := 193) rfl)) rfl, wi_X3, by decide, by decide, by decide +kernel⟩, z_mem (z_tD (List.mem_of_getElem? (i := 192) rfl)) rfl, z_mem (z_tS (List.mem_of_getElem? (i := 39) rfl)) rfl, by decide, rfl⟩
theorem kX3_soonestAnswered : zcV mX3_soonestAnswered 0 3 := ⟨⟨z_mem (z_tE (List.mem_of_getElem? (i := 13) rfl)) rfl, wi_X3, by decide, by decide, by decide +kernel⟩, z_mem (z_tE (List.mem_of_getElem? (i := 11) rfl)) rfl, z_mem (z_tE (List.mem_of_getElem? (i := 12) rfl)) rfl, by decide, rfl⟩
theorem kX3_wordGoingOn : zcV mX3_wordGoingOn 3 3 := ⟨⟨z_mem (z_tE (List.mem_of_getElem? (i := 75) rfl)) rfl, wi_X3, by decide, by decide, by decide +kernel⟩, z_mem (z_tE (List.mem_of_getElem? (i := 73) rfl)) rfl, z_mem (z_tE (List.mem_of_getElem? (i := 74) rfl)) rfl, by decide, rfl⟩
theorem kX3_isWhole : zcV mX3_isWhole 2 3 := ⟨⟨z_mem (z_tE (List.mem_of_getElem? (i := 79) rfl)) rfl, wi_X3, by decide, by decide, by decide +kernel⟩, z_mem (z_tE (List.mem_of_getElem? (i := 77) rfl)) rfl, z_mem (z_tE (List.mem_of_getElem? (i := 78) rfl)) rfl, by decide, rfl⟩
theorem kX3_unlikeBeginnings : zcV mX3_unlikeBeginnings 0 3 := ⟨⟨z_mem (z_tF (List.mem_of_getElem? (i := 8) rfl)) rfl, wi_X3, by decide, by decide, by decide +kernel⟩, z_mem (z_tF (List.mem_of_getElem? (i := 6) rfl)) rfl, z_mem (z_tF (List.mem_of_getElem? (i := 7) rfl)) rfl, by decide, rfl⟩
theorem kX3_wordsWithin : zcV mX3_wordsWithin 1 3 := ⟨⟨z_mem (z_tF (List.mem_of_getElem? (i := 13) rfl)) rfl, wi_X3, by decide, by decide, by decide +kernel⟩, z_mem (z_tF (List.mem_of_getElem? (i := 11) rfl)) rfl, z_mem (z_tF (List.mem_of_getElem? (i := 12) rfl)) rfl, by decide, rfl⟩
theorem kX3_unsureQuestions : zcV mX3_unsureQuestions 0 3 := ⟨⟨z_mem (z_tF (List.mem_of_getElem? (i := 18) rfl)) rfl, wi_X3, by decide, by decide, by decide +kernel⟩, z_mem (z_tF (List.mem_of_getElem? (i := 16) rfl)) rfl, z_mem (z_tF (List.mem_of_getElem? (i := 17) rfl)) rfl, by decide, rfl⟩
theorem kX3_leadsOf : zcV mX3_leadsOf 1 3 := ⟨⟨z_mem (z_tF (List.mem_of_getElem? (i := 23) rfl)) rfl, wi_X3, by decide, by decide, by decide +kernel⟩, z_mem (z_tF (List.mem_of_getElem? (i := 21) rfl)) rfl, z_mem (z_tF (List.mem_of_getElem? (i := 22) rfl)) rfl, by decide, rfl⟩
theorem kX3_hasTwoAlike : zcV mX3_hasTwoAlike 0 3 := ⟨⟨z_mem (z_tC (List.mem_of_getElem? (i := 179) rfl)) rfl, wi_X3, by decide, by decide, by decide +kernel⟩, z_mem (z_tC (List.mem_of_getElem? (i := 177) rfl)) rfl, z_mem (z_tC (List.mem_of_getElem? (i := 178) rfl)) rfl, by decide, rfl⟩
theorem kX4_init : zcI mX4_init 0 := ⟨⟨z_mem (z_tA (List.mem_of_getElem? (i := 123) rfl)) rfl, wi_X4, by decide, by decide, by decide +kernel⟩, rfl, z_mem (z_tA (List.mem_of_getElem? (i := 122) rfl)) rfl, rfl⟩
theorem kX4_copy : zcS (mX4_copy) 2 := ⟨⟨z_mem (z_tC (List.mem_of_getElem? (i := 215) rfl)) rfl, wi_X4, by decide, by decide, by decide +kernel⟩, z_mem (z_tC (List.mem_of_getElem? (i := 214) rfl)) rfl⟩
theorem kX4_hasLine : zcV mX4_hasLine 1 4 := ⟨⟨z_mem (z_tD (List.mem_of_getElem? (i := 133) rfl)) rfl, wi_X4, by decide, by decide, by decide +kernel⟩, z_mem (z_tD (List.mem_of_getElem? (i := 131) rfl)) rfl, z_mem (z_tD (List.mem_of_getElem? (i := 132) rfl)) rfl, by decide, rfl⟩
theorem kX4_letterOf : zcV mX4_letterOf 2 4 := ⟨⟨z_mem (z_tD (List.mem_of_getElem? (i := 138) rfl)) rfl, wi_X4, by decide, by decide, by decide +kernel⟩, z_mem (z_tD (List.mem_of_getElem? (i := 136) rfl)) rfl, z_mem (z_tD (List.mem_of_getElem? (i := 137) rfl)) rfl, by decide, rfl⟩
theorem kX4_look : zcV mX4_look 2 4 := ⟨⟨z_mem (z_tD (List.mem_of_getElem? (i := 129) rfl)) rfl, wi_X4, by decide, by decide, by decide +kernel⟩, z_mem (z_tD (List.mem_of_getElem? (i := 127) rfl)) rfl, z_mem (z_tD (List.mem_of_getElem? (i := 128) rfl)) rfl, by decide, rfl⟩
theorem kX4_longestInBoth : zcV mX4_longestInBoth 3 4 := ⟨⟨z_mem (z_tE (List.mem_of_getElem? (i := 221) rfl)) rfl, wi_X4, by decide, by decide, by decide +kernel⟩, z_mem (z_tE (List.mem_of_getElem? (i := 219) rfl)) rfl, z_mem (z_tE (List.mem_of_getElem? (i := 220) rfl)) rfl, by decide, rfl⟩
theorem kX4_sameFrom : zcV mX4_sameFrom 4 4 := ⟨⟨z_mem (z_tE (List.mem_of_getElem? (i := 225) rfl)) rfl, wi_X4, by decide, by decide, by decide +kernel⟩, z_mem (z_tE (List.mem_of_getElem? (i := 224) rfl)) rfl, z_mem (z_tS (List.mem_of_getElem? (i := 58) rfl)) rfl, by decide, rfl⟩
theorem kX5_init : zcI mX5_init 0 := ⟨⟨z_mem (z_tA (List.mem_of_getElem? (i := 142) rfl)) rfl, wi_X5, by decide, by decide, by decide +kernel⟩, rfl, z_mem (z_tA (List.mem_of_getElem? (i := 141) rfl)) rfl, rfl⟩
theorem kX5_copy : zcS (mX5_copy) 2 := ⟨⟨z_mem (z_tC (List.mem_of_getElem? (i := 219) rfl)) rfl, wi_X5, by decide, by decide, by decide +kernel⟩, z_mem (z_tC (List.mem_of_getElem? (i := 218) rfl)) rfl⟩
theorem kX5_look : zcV mX5_look 2 5 := ⟨⟨z_mem (z_tE (List.mem_of_getElem? (i := 91) rfl)) rfl, wi_X5, by decide, by decide, by decide +kernel⟩, z_mem (z_tE (List.mem_of_getElem? (i := 89) rfl)) rfl, z_mem (z_tE (List.mem_of_getElem? (i := 90) rfl)) rfl, by decide, rfl⟩
theorem kX5_lastPlace : zcV mX5_lastPlace 0 5 := ⟨⟨z_mem (z_tE (List.mem_of_getElem? (i := 104) rfl)) rfl, wi_X5, by decide, by decide, by decide +kernel⟩, z_mem (z_tE (List.mem_of_getElem? (i := 102) rfl)) rfl, z_mem (z_tE (List.mem_of_getElem? (i := 103) rfl)) rfl, by decide, rfl⟩
theorem kX6_init : zcI mX6_init 0 := ⟨⟨z_mem (z_tA (List.mem_of_getElem? (i := 197) rfl)) rfl, wi_X6, by decide, by decide, by decide +kernel⟩, rfl, z_mem (z_tA (List.mem_of_getElem? (i := 196) rfl)) rfl, rfl⟩
theorem kX6_read : zcV mX6_read 3 6 := ⟨⟨z_mem (z_tB (List.mem_of_getElem? (i := 220) rfl)) rfl, wi_X6, by decide, by decide, by decide +kernel⟩, z_mem (z_tB (List.mem_of_getElem? (i := 218) rfl)) rfl, z_mem (z_tB (List.mem_of_getElem? (i := 219) rfl)) rfl, by decide, rfl⟩
theorem kX6_readOne : zcV mX6_readOne 1 6 := ⟨⟨z_mem (z_tC (List.mem_of_getElem? (i := 96) rfl)) rfl, wi_X6, by decide, by decide, by decide +kernel⟩, z_mem (z_tC (List.mem_of_getElem? (i := 95) rfl)) rfl, z_mem (z_tS (List.mem_of_getElem? (i := 6) rfl)) rfl, by decide, rfl⟩
theorem kX6_keepFirst : zcV mX6_keepFirst 0 6 := ⟨⟨z_mem (z_tC (List.mem_of_getElem? (i := 104) rfl)) rfl, wi_X6, by decide, by decide, by decide +kernel⟩, z_mem (z_tC (List.mem_of_getElem? (i := 103) rfl)) rfl, z_mem (z_tS (List.mem_of_getElem? (i := 8) rfl)) rfl, by decide, rfl⟩
theorem kX6_keepSecond : zcV mX6_keepSecond 0 6 := ⟨⟨z_mem (z_tC (List.mem_of_getElem? (i := 108) rfl)) rfl, wi_X6, by decide, by decide, by decide +kernel⟩, z_mem (z_tC (List.mem_of_getElem? (i := 107) rfl)) rfl, z_mem (z_tS (List.mem_of_getElem? (i := 9) rfl)) rfl, by decide, rfl⟩
theorem kX6_refuse : zcV mX6_refuse 0 6 := ⟨⟨z_mem (z_tC (List.mem_of_getElem? (i := 100) rfl)) rfl, wi_X6, by decide, by decide, by decide +kernel⟩, z_mem (z_tC (List.mem_of_getElem? (i := 99) rfl)) rfl, z_mem (z_tS (List.mem_of_getElem? (i := 7) rfl)) rfl, by decide, rfl⟩
theorem kX6_keyOf : zcV mX6_keyOf 1 6 := ⟨⟨z_mem (z_tC (List.mem_of_getElem? (i := 17) rfl)) rfl, wi_X6, by decide, by decide, by decide +kernel⟩, z_mem (z_tC (List.mem_of_getElem? (i := 16) rfl)) rfl, z_mem (z_tS (List.mem_of_getElem? (i := 2) rfl)) rfl, by decide, rfl⟩
theorem kX6_hillKey : zcV mX6_hillKey 0 6 := ⟨⟨z_mem (z_tC (List.mem_of_getElem? (i := 21) rfl)) rfl, wi_X6, by decide, by decide, by decide +kernel⟩, z_mem (z_tC (List.mem_of_getElem? (i := 20) rfl)) rfl, z_mem (z_tS (List.mem_of_getElem? (i := 3) rfl)) rfl, by decide, rfl⟩
theorem kX6_centuryKey : zcV mX6_centuryKey 0 6 := ⟨⟨z_mem (z_tC (List.mem_of_getElem? (i := 81) rfl)) rfl, wi_X6, by decide, by decide, by decide +kernel⟩, z_mem (z_tC (List.mem_of_getElem? (i := 80) rfl)) rfl, z_mem (z_tS (List.mem_of_getElem? (i := 4) rfl)) rfl, by decide, rfl⟩
theorem kX6_deedOfToken : zcV mX6_deedOfToken 0 6 := ⟨⟨z_mem (z_tC (List.mem_of_getElem? (i := 85) rfl)) rfl, wi_X6, by decide, by decide, by decide +kernel⟩, z_mem (z_tC (List.mem_of_getElem? (i := 84) rfl)) rfl, z_mem (z_tS (List.mem_of_getElem? (i := 5) rfl)) rfl, by decide, rfl⟩
theorem kX6_tell : zcV mX6_tell 1 6 := ⟨⟨z_mem (z_tC (List.mem_of_getElem? (i := 112) rfl)) rfl, wi_X6, by decide, by decide, by decide +kernel⟩, z_mem (z_tC (List.mem_of_getElem? (i := 111) rfl)) rfl, z_mem (z_tS (List.mem_of_getElem? (i := 10) rfl)) rfl, by decide, rfl⟩
theorem kX6_tellWord : zcV mX6_tellWord 0 6 := ⟨⟨z_mem (z_tC (List.mem_of_getElem? (i := 116) rfl)) rfl, wi_X6, by decide, by decide, by decide +kernel⟩, z_mem (z_tC (List.mem_of_getElem? (i := 115) rfl)) rfl, z_mem (z_tS (List.mem_of_getElem? (i := 11) rfl)) rfl, by decide, rfl⟩
theorem kX6_tellFollows : zcV mX6_tellFollows 0 6 := ⟨⟨z_mem (z_tC (List.mem_of_getElem? (i := 145) rfl)) rfl, wi_X6, by decide, by decide, by decide +kernel⟩, z_mem (z_tC (List.mem_of_getElem? (i := 144) rfl)) rfl, z_mem (z_tS (List.mem_of_getElem? (i := 17) rfl)) rfl, by decide, rfl⟩
theorem kX6_tellAsks : zcV mX6_tellAsks 0 6 := ⟨⟨z_mem (z_tC (List.mem_of_getElem? (i := 155) rfl)) rfl, wi_X6, by decide, by decide, by decide +kernel⟩, z_mem (z_tC (List.mem_of_getElem? (i := 154) rfl)) rfl, z_mem (z_tS (List.mem_of_getElem? (i := 18) rfl)) rfl, by decide, rfl⟩
theorem kX6_tellStones : zcV mX6_tellStones 0 6 := ⟨⟨z_mem (z_tC (List.mem_of_getElem? (i := 159) rfl)) rfl, wi_X6, by decide, by decide, by decide +kernel⟩, z_mem (z_tC (List.mem_of_getElem? (i := 158) rfl)) rfl, z_mem (z_tS (List.mem_of_getElem? (i := 19) rfl)) rfl, by decide, rfl⟩
theorem kX6_tellDeed : zcV mX6_tellDeed 1 6 := ⟨⟨z_mem (z_tC (List.mem_of_getElem? (i := 163) rfl)) rfl, wi_X6, by decide, by decide, by decide +kernel⟩, z_mem (z_tC (List.mem_of_getElem? (i := 162) rfl)) rfl, z_mem (z_tS (List.mem_of_getElem? (i := 20) rfl)) rfl, by decide, rfl⟩
theorem kX6_tellLine : zcV mX6_tellLine 0 6 := ⟨⟨z_mem (z_tC (List.mem_of_getElem? (i := 167) rfl)) rfl, wi_X6, by decide, by decide, by decide +kernel⟩, z_mem (z_tC (List.mem_of_getElem? (i := 166) rfl)) rfl, z_mem (z_tS (List.mem_of_getElem? (i := 21) rfl)) rfl, by decide, rfl⟩
theorem kX6_tellFact : zcV mX6_tellFact 0 6 := ⟨⟨z_mem (z_tC (List.mem_of_getElem? (i := 171) rfl)) rfl, wi_X6, by decide, by decide, by decide +kernel⟩, z_mem (z_tC (List.mem_of_getElem? (i := 170) rfl)) rfl, z_mem (z_tS (List.mem_of_getElem? (i := 22) rfl)) rfl, by decide, rfl⟩
theorem kX6_needRoom : zcV mX6_needRoom 2 6 := ⟨⟨z_mem (z_tC (List.mem_of_getElem? (i := 120) rfl)) rfl, wi_X6, by decide, by decide, by decide +kernel⟩, z_mem (z_tC (List.mem_of_getElem? (i := 119) rfl)) rfl, z_mem (z_tS (List.mem_of_getElem? (i := 12) rfl)) rfl, by decide, rfl⟩
theorem kX6_needNumber : zcV mX6_needNumber 4 6 := ⟨⟨z_mem (z_tC (List.mem_of_getElem? (i := 133) rfl)) rfl, wi_X6, by decide, by decide, by decide +kernel⟩, z_mem (z_tC (List.mem_of_getElem? (i := 132) rfl)) rfl, z_mem (z_tS (List.mem_of_getElem? (i := 15) rfl)) rfl, by decide, rfl⟩
theorem kX6_needRow : zcV mX6_needRow 3 6 := ⟨⟨z_mem (z_tC (List.mem_of_getElem? (i := 128) rfl)) rfl, wi_X6, by decide, by decide, by decide +kernel⟩, z_mem (z_tC (List.mem_of_getElem? (i := 127) rfl)) rfl, z_mem (z_tS (List.mem_of_getElem? (i := 14) rfl)) rfl, by decide, rfl⟩
theorem kX6_letterAt : zcV mX6_letterAt 1 6 := ⟨⟨z_mem (z_tC (List.mem_of_getElem? (i := 141) rfl)) rfl, wi_X6, by decide, by decide, by decide +kernel⟩, z_mem (z_tC (List.mem_of_getElem? (i := 140) rfl)) rfl, z_mem (z_tS (List.mem_of_getElem? (i := 16) rfl)) rfl, by decide, rfl⟩
theorem kX6_note : zcV mX6_note 2 6 := ⟨⟨z_mem (z_tC (List.mem_of_getElem? (i := 124) rfl)) rfl, wi_X6, by decide, by decide, by decide +kernel⟩, z_mem (z_tC (List.mem_of_getElem? (i := 123) rfl)) rfl, z_mem (z_tS (List.mem_of_getElem? (i := 13) rfl)) rfl, by decide, rfl⟩
theorem kX6_lookAtHill : zcV mX6_lookAtHill 1 6 := ⟨⟨z_mem (z_tC (List.mem_of_getElem? (i := 175) rfl)) rfl, wi_X6, by decide, by decide, by decide +kernel⟩, z_mem (z_tC (List.mem_of_getElem? (i := 174) rfl)) rfl, z_mem (z_tS (List.mem_of_getElem? (i := 23) rfl)) rfl, by decide, rfl⟩
theorem kX7_init : zcI mX7_init 0 := ⟨⟨z_mem (z_tB (List.mem_of_getElem? (i := 146) rfl)) rfl, wi_X7, by decide, by decide, by decide +kernel⟩, rfl, z_mem (z_tB (List.mem_of_getElem? (i := 145) rfl)) rfl, rfl⟩
theorem kX7_gap : zcS (mX7_gap) 1 := ⟨⟨z_mem (z_tE (List.mem_of_getElem? (i := 121) rfl)) rfl, wi_X7, by decide, by decide, by decide +kernel⟩, z_mem (z_tE (List.mem_of_getElem? (i := 120) rfl)) rfl⟩
theorem kX7_wear : zcS (mX7_wear) 1 := ⟨⟨z_mem (z_tE (List.mem_of_getElem? (i := 118) rfl)) rfl, wi_X7, by decide, by decide, by decide +kernel⟩, z_mem (z_tE (List.mem_of_getElem? (i := 117) rfl)) rfl⟩
theorem kX7_since : zcS (mX7_since) 1 := ⟨⟨z_mem (z_tE (List.mem_of_getElem? (i := 124) rfl)) rfl, wi_X7, by decide, by decide, by decide +kernel⟩, z_mem (z_tE (List.mem_of_getElem? (i := 123) rfl)) rfl⟩
theorem kX7_weigh : zcV mX7_weigh 1 7 := ⟨⟨z_mem (z_tE (List.mem_of_getElem? (i := 100) rfl)) rfl, wi_X7, by decide, by decide, by decide +kernel⟩, z_mem (z_tE (List.mem_of_getElem? (i := 98) rfl)) rfl, z_mem (z_tE (List.mem_of_getElem? (i := 99) rfl)) rfl, by decide, rfl⟩
theorem kX7_countHits : zcV mX7_countHits 1 7 := ⟨⟨z_mem (z_tE (List.mem_of_getElem? (i := 109) rfl)) rfl, wi_X7, by decide, by decide, by decide +kernel⟩, z_mem (z_tE (List.mem_of_getElem? (i := 108) rfl)) rfl, z_mem (z_tS (List.mem_of_getElem? (i := 48) rfl)) rfl, by decide, rfl⟩
theorem kX7_lessBy : zcV mX7_lessBy 2 7 := ⟨⟨z_mem (z_tE (List.mem_of_getElem? (i := 115) rfl)) rfl, wi_X7, by decide, by decide, by decide +kernel⟩, z_mem (z_tE (List.mem_of_getElem? (i := 114) rfl)) rfl, z_mem (z_tS (List.mem_of_getElem? (i := 49) rfl)) rfl, by decide, rfl⟩
theorem kX7_keepBest : zcV mX7_keepBest 1 7 := ⟨⟨z_mem (z_tE (List.mem_of_getElem? (i := 130) rfl)) rfl, wi_X7, by decide, by decide, by decide +kernel⟩, z_mem (z_tE (List.mem_of_getElem? (i := 129) rfl)) rfl, z_mem (z_tS (List.mem_of_getElem? (i := 50) rfl)) rfl, by decide, rfl⟩
theorem kX7_startsOf : zcV mX7_startsOf 1 7 := ⟨⟨z_mem (z_tE (List.mem_of_getElem? (i := 144) rfl)) rfl, wi_X7, by decide, by decide, by decide +kernel⟩, z_mem (z_tE (List.mem_of_getElem? (i := 143) rfl)) rfl, z_mem (z_tS (List.mem_of_getElem? (i := 52) rfl)) rfl, by decide, rfl⟩
theorem kX7_judge : zcV mX7_judge 1 7 := ⟨⟨z_mem (z_tE (List.mem_of_getElem? (i := 136) rfl)) rfl, wi_X7, by decide, by decide, by decide +kernel⟩, z_mem (z_tE (List.mem_of_getElem? (i := 134) rfl)) rfl, z_mem (z_tE (List.mem_of_getElem? (i := 135) rfl)) rfl, by decide, rfl⟩
theorem kX7_howMany : zcV mX7_howMany 0 7 := ⟨⟨z_mem (z_tE (List.mem_of_getElem? (i := 140) rfl)) rfl, wi_X7, by decide, by decide, by decide +kernel⟩, z_mem (z_tE (List.mem_of_getElem? (i := 139) rfl)) rfl, z_mem (z_tS (List.mem_of_getElem? (i := 51) rfl)) rfl, by decide, rfl⟩
theorem kX7_ruleOf : zcV mX7_ruleOf 1 7 := ⟨⟨z_mem (z_tE (List.mem_of_getElem? (i := 163) rfl)) rfl, wi_X7, by decide, by decide, by decide +kernel⟩, z_mem (z_tE (List.mem_of_getElem? (i := 162) rfl)) rfl, z_mem (z_tS (List.mem_of_getElem? (i := 55) rfl)) rfl, by decide, rfl⟩
theorem kX7_missedByAll : zcV mX7_missedByAll 0 7 := ⟨⟨z_mem (z_tE (List.mem_of_getElem? (i := 154) rfl)) rfl, wi_X7, by decide, by decide, by decide +kernel⟩, z_mem (z_tE (List.mem_of_getElem? (i := 153) rfl)) rfl, z_mem (z_tS (List.mem_of_getElem? (i := 53) rfl)) rfl, by decide, rfl⟩
theorem kX7_missedPlaces : zcV mX7_missedPlaces 2 7 := ⟨⟨z_mem (z_tE (List.mem_of_getElem? (i := 159) rfl)) rfl, wi_X7, by decide, by decide, by decide +kernel⟩, z_mem (z_tE (List.mem_of_getElem? (i := 158) rfl)) rfl, z_mem (z_tS (List.mem_of_getElem? (i := 54) rfl)) rfl, by decide, rfl⟩
theorem kX7_years : zcV mX7_years 1 7 := ⟨⟨z_mem (z_tF (List.mem_of_getElem? (i := 69) rfl)) rfl, wi_X7, by decide, by decide, by decide +kernel⟩, z_mem (z_tF (List.mem_of_getElem? (i := 67) rfl)) rfl, z_mem (z_tF (List.mem_of_getElem? (i := 68) rfl)) rfl, by decide, rfl⟩
theorem kX8_init : zcI mX8_init 0 := ⟨⟨z_mem (z_tA (List.mem_of_getElem? (i := 211) rfl)) rfl, wi_X8, by decide, by decide, by decide +kernel⟩, rfl, z_mem (z_tA (List.mem_of_getElem? (i := 210) rfl)) rfl, rfl⟩
theorem kX8_begin : zcV mX8_begin 2 8 := ⟨⟨z_mem (z_tB (List.mem_of_getElem? (i := 224) rfl)) rfl, wi_X8, by decide, by decide, by decide +kernel⟩, z_mem (z_tB (List.mem_of_getElem? (i := 222) rfl)) rfl, z_mem (z_tB (List.mem_of_getElem? (i := 223) rfl)) rfl, by decide, rfl⟩
theorem kX8_step : zcV mX8_step 0 8 := ⟨⟨z_mem (z_tB (List.mem_of_getElem? (i := 235) rfl)) rfl, wi_X8, by decide, by decide, by decide +kernel⟩, z_mem (z_tB (List.mem_of_getElem? (i := 233) rfl)) rfl, z_mem (z_tB (List.mem_of_getElem? (i := 234) rfl)) rfl, by decide, rfl⟩
theorem kX8_stepOverRow : zcV mX8_stepOverRow 0 8 := ⟨⟨z_mem (z_tC (List.mem_of_getElem? (i := 6) rfl)) rfl, wi_X8, by decide, by decide, by decide +kernel⟩, z_mem (z_tC (List.mem_of_getElem? (i := 5) rfl)) rfl, z_mem (z_tS (List.mem_of_getElem? (i := 0) rfl)) rfl, by decide, rfl⟩
theorem kX8_stepOverDigits : zcV mX8_stepOverDigits 0 8 := ⟨⟨z_mem (z_tC (List.mem_of_getElem? (i := 13) rfl)) rfl, wi_X8, by decide, by decide, by decide +kernel⟩, z_mem (z_tC (List.mem_of_getElem? (i := 12) rfl)) rfl, z_mem (z_tS (List.mem_of_getElem? (i := 1) rfl)) rfl, by decide, rfl⟩
theorem kX8_is : zcV mX8_is 1 8 := ⟨⟨z_mem (z_tC (List.mem_of_getElem? (i := 26) rfl)) rfl, wi_X8, by decide, by decide, by decide +kernel⟩, z_mem (z_tC (List.mem_of_getElem? (i := 24) rfl)) rfl, z_mem (z_tC (List.mem_of_getElem? (i := 25) rfl)) rfl, by decide, rfl⟩
theorem kX8_isBlank : zcS (mX8_isBlank) 1 := ⟨⟨z_mem (z_tB (List.mem_of_getElem? (i := 239) rfl)) rfl, wi_X8, by decide, by decide, by decide +kernel⟩, z_mem (z_tB (List.mem_of_getElem? (i := 238) rfl)) rfl⟩
theorem kX8_isLetter : zcS (mX8_isLetter) 1 := ⟨⟨z_mem (z_tC (List.mem_of_getElem? (i := 2) rfl)) rfl, wi_X8, by decide, by decide, by decide +kernel⟩, z_mem (z_tC (List.mem_of_getElem? (i := 1) rfl)) rfl⟩
theorem kX8_isDigit : zcS (mX8_isDigit) 1 := ⟨⟨z_mem (z_tC (List.mem_of_getElem? (i := 9) rfl)) rfl, wi_X8, by decide, by decide, by decide +kernel⟩, z_mem (z_tC (List.mem_of_getElem? (i := 8) rfl)) rfl⟩
theorem kX9_init : zcI mX9_init 0 := ⟨⟨z_mem (z_tA (List.mem_of_getElem? (i := 34) rfl)) rfl, wi_X9, by decide, by decide, by decide +kernel⟩, rfl, z_mem (z_tA (List.mem_of_getElem? (i := 33) rfl)) rfl, rfl⟩
theorem kX9_copy : zcV mX9_copy 1 9 := ⟨⟨z_mem (z_tF (List.mem_of_getElem? (i := 85) rfl)) rfl, wi_X9, by decide, by decide, by decide +kernel⟩, z_mem (z_tF (List.mem_of_getElem? (i := 83) rfl)) rfl, z_mem (z_tF (List.mem_of_getElem? (i := 84) rfl)) rfl, by decide, rfl⟩
theorem kX9_addBytes : zcV mX9_addBytes 1 9 := ⟨⟨z_mem (z_tB (List.mem_of_getElem? (i := 198) rfl)) rfl, wi_X9, by decide, by decide, by decide +kernel⟩, z_mem (z_tB (List.mem_of_getElem? (i := 196) rfl)) rfl, z_mem (z_tB (List.mem_of_getElem? (i := 197) rfl)) rfl, by decide, rfl⟩
theorem kX9_many : zcV mX9_many 1 9 := ⟨⟨z_mem (z_tB (List.mem_of_getElem? (i := 213) rfl)) rfl, wi_X9, by decide, by decide, by decide +kernel⟩, z_mem (z_tB (List.mem_of_getElem? (i := 211) rfl)) rfl, z_mem (z_tB (List.mem_of_getElem? (i := 212) rfl)) rfl, by decide, rfl⟩
theorem kX9_keep : zcV mX9_keep 3 9 := ⟨⟨z_mem (z_tC (List.mem_of_getElem? (i := 197) rfl)) rfl, wi_X9, by decide, by decide, by decide +kernel⟩, z_mem (z_tC (List.mem_of_getElem? (i := 195) rfl)) rfl, z_mem (z_tC (List.mem_of_getElem? (i := 196) rfl)) rfl, by decide, rfl⟩
theorem kX9_hasOne : zcV mX9_hasOne 2 9 := ⟨⟨z_mem (z_tC (List.mem_of_getElem? (i := 237) rfl)) rfl, wi_X9, by decide, by decide, by decide +kernel⟩, z_mem (z_tC (List.mem_of_getElem? (i := 236) rfl)) rfl, z_mem (z_tS (List.mem_of_getElem? (i := 24) rfl)) rfl, by decide, rfl⟩
theorem kX9_hillOf : zcV mX9_hillOf 1 9 := ⟨⟨z_mem (z_tC (List.mem_of_getElem? (i := 233) rfl)) rfl, wi_X9, by decide, by decide, by decide +kernel⟩, z_mem (z_tC (List.mem_of_getElem? (i := 231) rfl)) rfl, z_mem (z_tC (List.mem_of_getElem? (i := 232) rfl)) rfl, by decide, rfl⟩
theorem kX9_centuryOf : zcV mX9_centuryOf 1 9 := ⟨⟨z_mem (z_tD (List.mem_of_getElem? (i := 29) rfl)) rfl, wi_X9, by decide, by decide, by decide +kernel⟩, z_mem (z_tD (List.mem_of_getElem? (i := 27) rfl)) rfl, z_mem (z_tD (List.mem_of_getElem? (i := 28) rfl)) rfl, by decide, rfl⟩
theorem kX9_linesOf : zcV mX9_linesOf 1 9 := ⟨⟨z_mem (z_tD (List.mem_of_getElem? (i := 125) rfl)) rfl, wi_X9, by decide, by decide, by decide +kernel⟩, z_mem (z_tD (List.mem_of_getElem? (i := 123) rfl)) rfl, z_mem (z_tD (List.mem_of_getElem? (i := 124) rfl)) rfl, by decide, rfl⟩
theorem kX9_logOf : zcV mX9_logOf 1 9 := ⟨⟨z_mem (z_tE (List.mem_of_getElem? (i := 87) rfl)) rfl, wi_X9, by decide, by decide, by decide +kernel⟩, z_mem (z_tE (List.mem_of_getElem? (i := 85) rfl)) rfl, z_mem (z_tE (List.mem_of_getElem? (i := 86) rfl)) rfl, by decide, rfl⟩
theorem kX10_init : zcI mX10_init 0 := ⟨⟨z_mem (z_tB (List.mem_of_getElem? (i := 127) rfl)) rfl, wi_X10, by decide, by decide, by decide +kernel⟩, rfl, z_mem (z_tB (List.mem_of_getElem? (i := 126) rfl)) rfl, rfl⟩
theorem kX10_rowsOf : zcV mX10_rowsOf 2 10 := ⟨⟨z_mem (z_tE (List.mem_of_getElem? (i := 23) rfl)) rfl, wi_X10, by decide, by decide, by decide +kernel⟩, z_mem (z_tE (List.mem_of_getElem? (i := 21) rfl)) rfl, z_mem (z_tE (List.mem_of_getElem? (i := 22) rfl)) rfl, by decide, rfl⟩
theorem kX10_sumOf : zcV mX10_sumOf 1 10 := ⟨⟨z_mem (z_tE (List.mem_of_getElem? (i := 29) rfl)) rfl, wi_X10, by decide, by decide, by decide +kernel⟩, z_mem (z_tE (List.mem_of_getElem? (i := 28) rfl)) rfl, z_mem (z_tS (List.mem_of_getElem? (i := 44) rfl)) rfl, by decide, rfl⟩
theorem kX10_shortestReadTwice : zcV mX10_shortestReadTwice 1 10 := ⟨⟨z_mem (z_tE (List.mem_of_getElem? (i := 42) rfl)) rfl, wi_X10, by decide, by decide, by decide +kernel⟩, z_mem (z_tE (List.mem_of_getElem? (i := 40) rfl)) rfl, z_mem (z_tE (List.mem_of_getElem? (i := 41) rfl)) rfl, by decide, rfl⟩
theorem kX10_endsAt : zcV mX10_endsAt 2 10 := ⟨⟨z_mem (z_tE (List.mem_of_getElem? (i := 59) rfl)) rfl, wi_X10, by decide, by decide, by decide +kernel⟩, z_mem (z_tE (List.mem_of_getElem? (i := 58) rfl)) rfl, z_mem (z_tS (List.mem_of_getElem? (i := 46) rfl)) rfl, by decide, rfl⟩
theorem kX10_goOn : zcV mX10_goOn 5 10 := ⟨⟨z_mem (z_tE (List.mem_of_getElem? (i := 63) rfl)) rfl, wi_X10, by decide, by decide, by decide +kernel⟩, z_mem (z_tE (List.mem_of_getElem? (i := 62) rfl)) rfl, z_mem (z_tS (List.mem_of_getElem? (i := 47) rfl)) rfl, by decide, rfl⟩
theorem kX10_shorten : zcV mX10_shorten 4 10 := ⟨⟨z_mem (z_tE (List.mem_of_getElem? (i := 51) rfl)) rfl, wi_X10, by decide, by decide, by decide +kernel⟩, z_mem (z_tE (List.mem_of_getElem? (i := 50) rfl)) rfl, z_mem (z_tS (List.mem_of_getElem? (i := 45) rfl)) rfl, by decide, rfl⟩
theorem kX10_pair : zcS (mX10_pair) 3 := ⟨⟨z_mem (z_tE (List.mem_of_getElem? (i := 54) rfl)) rfl, wi_X10, by decide, by decide, by decide +kernel⟩, z_mem (z_tE (List.mem_of_getElem? (i := 53) rfl)) rfl⟩
theorem kX10_longestChain : zcV mX10_longestChain 1 10 := ⟨⟨z_mem (z_tF (List.mem_of_getElem? (i := 31) rfl)) rfl, wi_X10, by decide, by decide, by decide +kernel⟩, z_mem (z_tF (List.mem_of_getElem? (i := 29) rfl)) rfl, z_mem (z_tF (List.mem_of_getElem? (i := 30) rfl)) rfl, by decide, rfl⟩
theorem kX10_headsOf : zcV mX10_headsOf 2 10 := ⟨⟨z_mem (z_tF (List.mem_of_getElem? (i := 35) rfl)) rfl, wi_X10, by decide, by decide, by decide +kernel⟩, z_mem (z_tF (List.mem_of_getElem? (i := 34) rfl)) rfl, z_mem (z_tS (List.mem_of_getElem? (i := 59) rfl)) rfl, by decide, rfl⟩
theorem kX10_wordOfFirstChain : zcV mX10_wordOfFirstChain 3 10 := ⟨⟨z_mem (z_tF (List.mem_of_getElem? (i := 42) rfl)) rfl, wi_X10, by decide, by decide, by decide +kernel⟩, z_mem (z_tF (List.mem_of_getElem? (i := 40) rfl)) rfl, z_mem (z_tF (List.mem_of_getElem? (i := 41) rfl)) rfl, by decide, rfl⟩
theorem kX10_headsWithout : zcV mX10_headsWithout 3 10 := ⟨⟨z_mem (z_tF (List.mem_of_getElem? (i := 46) rfl)) rfl, wi_X10, by decide, by decide, by decide +kernel⟩, z_mem (z_tF (List.mem_of_getElem? (i := 45) rfl)) rfl, z_mem (z_tS (List.mem_of_getElem? (i := 60) rfl)) rfl, by decide, rfl⟩
theorem kX11_init : zcI mX11_init 0 := ⟨⟨z_mem (z_tA (List.mem_of_getElem? (i := 26) rfl)) rfl, wi_X11, by decide, by decide, by decide +kernel⟩, rfl, z_mem (z_tA (List.mem_of_getElem? (i := 25) rfl)) rfl, rfl⟩
theorem kX11_feed : zcV mX11_feed 5 11 := ⟨⟨z_mem (z_tB (List.mem_of_getElem? (i := 194) rfl)) rfl, wi_X11, by decide, by decide, by decide +kernel⟩, z_mem (z_tB (List.mem_of_getElem? (i := 192) rfl)) rfl, z_mem (z_tB (List.mem_of_getElem? (i := 193) rfl)) rfl, by decide, rfl⟩
theorem kX11_end : zcV mX11_end 1 11 := ⟨⟨z_mem (z_tB (List.mem_of_getElem? (i := 205) rfl)) rfl, wi_X11, by decide, by decide, by decide +kernel⟩, z_mem (z_tB (List.mem_of_getElem? (i := 203) rfl)) rfl, z_mem (z_tB (List.mem_of_getElem? (i := 204) rfl)) rfl, by decide, rfl⟩
theorem kX11_text : zcV mX11_text 2 11 := ⟨⟨z_mem (z_tB (List.mem_of_getElem? (i := 209) rfl)) rfl, wi_X11, by decide, by decide, by decide +kernel⟩, z_mem (z_tB (List.mem_of_getElem? (i := 207) rfl)) rfl, z_mem (z_tB (List.mem_of_getElem? (i := 208) rfl)) rfl, by decide, rfl⟩
theorem kX11_fault : zcV mX11_fault 1 11 := ⟨⟨z_mem (z_tC (List.mem_of_getElem? (i := 225) rfl)) rfl, wi_X11, by decide, by decide, by decide +kernel⟩, z_mem (z_tC (List.mem_of_getElem? (i := 223) rfl)) rfl, z_mem (z_tC (List.mem_of_getElem? (i := 224) rfl)) rfl, by decide, rfl⟩
theorem kX11_hill : zcV mX11_hill 2 11 := ⟨⟨z_mem (z_tC (List.mem_of_getElem? (i := 229) rfl)) rfl, wi_X11, by decide, by decide, by decide +kernel⟩, z_mem (z_tC (List.mem_of_getElem? (i := 227) rfl)) rfl, z_mem (z_tC (List.mem_of_getElem? (i := 228) rfl)) rfl, by decide, rfl⟩
theorem kX11_deed : zcV mX11_deed 3 11 := ⟨⟨z_mem (z_tD (List.mem_of_getElem? (i := 25) rfl)) rfl, wi_X11, by decide, by decide, by decide +kernel⟩, z_mem (z_tD (List.mem_of_getElem? (i := 23) rfl)) rfl, z_mem (z_tD (List.mem_of_getElem? (i := 24) rfl)) rfl, by decide, rfl⟩
theorem kX11_stop : zcV mX11_stop 2 11 := ⟨⟨z_mem (z_tD (List.mem_of_getElem? (i := 38) rfl)) rfl, wi_X11, by decide, by decide, by decide +kernel⟩, z_mem (z_tD (List.mem_of_getElem? (i := 36) rfl)) rfl, z_mem (z_tD (List.mem_of_getElem? (i := 37) rfl)) rfl, by decide, rfl⟩
theorem kX11_state : zcV mX11_state 4 11 := ⟨⟨z_mem (z_tD (List.mem_of_getElem? (i := 101) rfl)) rfl, wi_X11, by decide, by decide, by decide +kernel⟩, z_mem (z_tD (List.mem_of_getElem? (i := 99) rfl)) rfl, z_mem (z_tD (List.mem_of_getElem? (i := 100) rfl)) rfl, by decide, rfl⟩
theorem kX11_line : zcV mX11_line 3 11 := ⟨⟨z_mem (z_tD (List.mem_of_getElem? (i := 121) rfl)) rfl, wi_X11, by decide, by decide, by decide +kernel⟩, z_mem (z_tD (List.mem_of_getElem? (i := 119) rfl)) rfl, z_mem (z_tD (List.mem_of_getElem? (i := 120) rfl)) rfl, by decide, rfl⟩
theorem kX11_said : zcV mX11_said 4 11 := ⟨⟨z_mem (z_tD (List.mem_of_getElem? (i := 142) rfl)) rfl, wi_X11, by decide, by decide, by decide +kernel⟩, z_mem (z_tD (List.mem_of_getElem? (i := 140) rfl)) rfl, z_mem (z_tD (List.mem_of_getElem? (i := 141) rfl)) rfl, by decide, rfl⟩
theorem kX11_odds : zcV mX11_odds 5 11 := ⟨⟨z_mem (z_tD (List.mem_of_getElem? (i := 166) rfl)) rfl, wi_X11, by decide, by decide, by decide +kernel⟩, z_mem (z_tD (List.mem_of_getElem? (i := 164) rfl)) rfl, z_mem (z_tD (List.mem_of_getElem? (i := 165) rfl)) rfl, by decide, rfl⟩
theorem kX11_sure : zcV mX11_sure 4 11 := ⟨⟨z_mem (z_tD (List.mem_of_getElem? (i := 185) rfl)) rfl, wi_X11, by decide, by decide, by decide +kernel⟩, z_mem (z_tD (List.mem_of_getElem? (i := 183) rfl)) rfl, z_mem (z_tD (List.mem_of_getElem? (i := 184) rfl)) rfl, by decide, rfl⟩
theorem kX11_reading : zcV mX11_reading 4 11 := ⟨⟨z_mem (z_tD (List.mem_of_getElem? (i := 198) rfl)) rfl, wi_X11, by decide, by decide, by decide +kernel⟩, z_mem (z_tD (List.mem_of_getElem? (i := 196) rfl)) rfl, z_mem (z_tD (List.mem_of_getElem? (i := 197) rfl)) rfl, by decide, rfl⟩
theorem kX11_slips : zcV mX11_slips 4 11 := ⟨⟨z_mem (z_tD (List.mem_of_getElem? (i := 229) rfl)) rfl, wi_X11, by decide, by decide, by decide +kernel⟩, z_mem (z_tD (List.mem_of_getElem? (i := 227) rfl)) rfl, z_mem (z_tD (List.mem_of_getElem? (i := 228) rfl)) rfl, by decide, rfl⟩
theorem kX11_asked : zcV mX11_asked 3 11 := ⟨⟨z_mem (z_tE (List.mem_of_getElem? (i := 4) rfl)) rfl, wi_X11, by decide, by decide, by decide +kernel⟩, z_mem (z_tE (List.mem_of_getElem? (i := 2) rfl)) rfl, z_mem (z_tE (List.mem_of_getElem? (i := 3) rfl)) rfl, by decide, rfl⟩
theorem kX11_soonest : zcV mX11_soonest 1 11 := ⟨⟨z_mem (z_tE (List.mem_of_getElem? (i := 9) rfl)) rfl, wi_X11, by decide, by decide, by decide +kernel⟩, z_mem (z_tE (List.mem_of_getElem? (i := 7) rfl)) rfl, z_mem (z_tE (List.mem_of_getElem? (i := 8) rfl)) rfl, by decide, rfl⟩
theorem kX11_sentences : zcV mX11_sentences 2 11 := ⟨⟨z_mem (z_tE (List.mem_of_getElem? (i := 19) rfl)) rfl, wi_X11, by decide, by decide, by decide +kernel⟩, z_mem (z_tE (List.mem_of_getElem? (i := 17) rfl)) rfl, z_mem (z_tE (List.mem_of_getElem? (i := 18) rfl)) rfl, by decide, rfl⟩
theorem kX11_twice : zcV mX11_twice 1 11 := ⟨⟨z_mem (z_tE (List.mem_of_getElem? (i := 38) rfl)) rfl, wi_X11, by decide, by decide, by decide +kernel⟩, z_mem (z_tE (List.mem_of_getElem? (i := 36) rfl)) rfl, z_mem (z_tE (List.mem_of_getElem? (i := 37) rfl)) rfl, by decide, rfl⟩
theorem kX11_ghost : zcV mX11_ghost 2 11 := ⟨⟨z_mem (z_tE (List.mem_of_getElem? (i := 68) rfl)) rfl, wi_X11, by decide, by decide, by decide +kernel⟩, z_mem (z_tE (List.mem_of_getElem? (i := 66) rfl)) rfl, z_mem (z_tE (List.mem_of_getElem? (i := 67) rfl)) rfl, by decide, rfl⟩
theorem kX11_fact : zcV mX11_fact 3 11 := ⟨⟨z_mem (z_tE (List.mem_of_getElem? (i := 83) rfl)) rfl, wi_X11, by decide, by decide, by decide +kernel⟩, z_mem (z_tE (List.mem_of_getElem? (i := 81) rfl)) rfl, z_mem (z_tE (List.mem_of_getElem? (i := 82) rfl)) rfl, by decide, rfl⟩
theorem kX11_forged : zcV mX11_forged 2 11 := ⟨⟨z_mem (z_tE (List.mem_of_getElem? (i := 96) rfl)) rfl, wi_X11, by decide, by decide, by decide +kernel⟩, z_mem (z_tE (List.mem_of_getElem? (i := 94) rfl)) rfl, z_mem (z_tE (List.mem_of_getElem? (i := 95) rfl)) rfl, by decide, rfl⟩
theorem kX11_chance : zcV mX11_chance 4 11 := ⟨⟨z_mem (z_tE (List.mem_of_getElem? (i := 167) rfl)) rfl, wi_X11, by decide, by decide, by decide +kernel⟩, z_mem (z_tE (List.mem_of_getElem? (i := 165) rfl)) rfl, z_mem (z_tE (List.mem_of_getElem? (i := 166) rfl)) rfl, by decide, rfl⟩
theorem kX11_drawn : zcV mX11_drawn 4 11 := ⟨⟨z_mem (z_tE (List.mem_of_getElem? (i := 175) rfl)) rfl, wi_X11, by decide, by decide, by decide +kernel⟩, z_mem (z_tE (List.mem_of_getElem? (i := 173) rfl)) rfl, z_mem (z_tE (List.mem_of_getElem? (i := 174) rfl)) rfl, by decide, rfl⟩
theorem kX11_next : zcV mX11_next 4 11 := ⟨⟨z_mem (z_tE (List.mem_of_getElem? (i := 190) rfl)) rfl, wi_X11, by decide, by decide, by decide +kernel⟩, z_mem (z_tE (List.mem_of_getElem? (i := 188) rfl)) rfl, z_mem (z_tE (List.mem_of_getElem? (i := 189) rfl)) rfl, by decide, rfl⟩
theorem kX11_echo : zcV mX11_echo 4 11 := ⟨⟨z_mem (z_tE (List.mem_of_getElem? (i := 216) rfl)) rfl, wi_X11, by decide, by decide, by decide +kernel⟩, z_mem (z_tE (List.mem_of_getElem? (i := 214) rfl)) rfl, z_mem (z_tE (List.mem_of_getElem? (i := 215) rfl)) rfl, by decide, rfl⟩
theorem kX11_alike : zcV mX11_alike 4 11 := ⟨⟨z_mem (z_tE (List.mem_of_getElem? (i := 230) rfl)) rfl, wi_X11, by decide, by decide, by decide +kernel⟩, z_mem (z_tE (List.mem_of_getElem? (i := 228) rfl)) rfl, z_mem (z_tE (List.mem_of_getElem? (i := 229) rfl)) rfl, by decide, rfl⟩
theorem kX11_tree : zcV mX11_tree 2 11 := ⟨⟨z_mem (z_tE (List.mem_of_getElem? (i := 239) rfl)) rfl, wi_X11, by decide, by decide, by decide +kernel⟩, z_mem (z_tE (List.mem_of_getElem? (i := 237) rfl)) rfl, z_mem (z_tE (List.mem_of_getElem? (i := 238) rfl)) rfl, by decide, rfl⟩
theorem kX11_chain : zcV mX11_chain 2 11 := ⟨⟨z_mem (z_tF (List.mem_of_getElem? (i := 27) rfl)) rfl, wi_X11, by decide, by decide, by decide +kernel⟩, z_mem (z_tF (List.mem_of_getElem? (i := 25) rfl)) rfl, z_mem (z_tF (List.mem_of_getElem? (i := 26) rfl)) rfl, by decide, rfl⟩
theorem kX11_after : zcV mX11_after 3 11 := ⟨⟨z_mem (z_tF (List.mem_of_getElem? (i := 53) rfl)) rfl, wi_X11, by decide, by decide, by decide +kernel⟩, z_mem (z_tF (List.mem_of_getElem? (i := 51) rfl)) rfl, z_mem (z_tF (List.mem_of_getElem? (i := 52) rfl)) rfl, by decide, rfl⟩
theorem kX11_age : zcV mX11_age 2 11 := ⟨⟨z_mem (z_tF (List.mem_of_getElem? (i := 65) rfl)) rfl, wi_X11, by decide, by decide, by decide +kernel⟩, z_mem (z_tF (List.mem_of_getElem? (i := 63) rfl)) rfl, z_mem (z_tF (List.mem_of_getElem? (i := 64) rfl)) rfl, by decide, rfl⟩
theorem kX11_waits : zcV mX11_waits 3 11 := ⟨⟨z_mem (z_tF (List.mem_of_getElem? (i := 73) rfl)) rfl, wi_X11, by decide, by decide, by decide +kernel⟩, z_mem (z_tF (List.mem_of_getElem? (i := 71) rfl)) rfl, z_mem (z_tF (List.mem_of_getElem? (i := 72) rfl)) rfl, by decide, rfl⟩
theorem kX11_count : zcV mX11_count 1 11 := ⟨⟨z_mem (z_tF (List.mem_of_getElem? (i := 77) rfl)) rfl, wi_X11, by decide, by decide, by decide +kernel⟩, z_mem (z_tF (List.mem_of_getElem? (i := 75) rfl)) rfl, z_mem (z_tF (List.mem_of_getElem? (i := 76) rfl)) rfl, by decide, rfl⟩
theorem kX11_image : zcV mX11_image 1 11 := ⟨⟨z_mem (z_tF (List.mem_of_getElem? (i := 81) rfl)) rfl, wi_X11, by decide, by decide, by decide +kernel⟩, z_mem (z_tF (List.mem_of_getElem? (i := 79) rfl)) rfl, z_mem (z_tF (List.mem_of_getElem? (i := 80) rfl)) rfl, by decide, rfl⟩
theorem kX11_again : zcV mX11_again 1 11 := ⟨⟨z_mem (z_tF (List.mem_of_getElem? (i := 90) rfl)) rfl, wi_X11, by decide, by decide, by decide +kernel⟩, z_mem (z_tF (List.mem_of_getElem? (i := 88) rfl)) rfl, z_mem (z_tF (List.mem_of_getElem? (i := 89) rfl)) rfl, by decide, rfl⟩
theorem kX11_winningLetter (j : Nat) : zcS (mX11_winningLetter j) 3 := ⟨⟨z_mem (z_tE (List.mem_of_getElem? (i := 71) rfl)) rfl, wi_X11, (by show yX11_winningLetter.cls ≠ _; decide), (by show yX11_winningLetter.cls ≠ _; decide), (by show (parseMethodDescriptor yX11_winningLetter.desc).map _ = _; decide +kernel)⟩, z_mem (z_tE (List.mem_of_getElem? (i := 70) rfl)) rfl⟩
theorem kX11_waysOfExactly : zcS (mX11_waysOfExactly) 3 := ⟨⟨z_mem (z_tE (List.mem_of_getElem? (i := 171) rfl)) rfl, wi_X11, by decide, by decide, by decide +kernel⟩, z_mem (z_tE (List.mem_of_getElem? (i := 170) rfl)) rfl⟩
theorem kX11_least : zcS (mX11_least) 3 := ⟨⟨z_mem (z_tD (List.mem_of_getElem? (i := 178) rfl)) rfl, wi_X11, by decide, by decide, by decide +kernel⟩, z_mem (z_tD (List.mem_of_getElem? (i := 177) rfl)) rfl⟩
theorem kX11_commonDivisor : zcS (mX11_commonDivisor) 2 := ⟨⟨z_mem (z_tD (List.mem_of_getElem? (i := 181) rfl)) rfl, wi_X11, by decide, by decide, by decide +kernel⟩, z_mem (z_tD (List.mem_of_getElem? (i := 180) rfl)) rfl⟩
theorem kX11_has : zcS (mX11_has) 2 := ⟨⟨z_mem (z_tD (List.mem_of_getElem? (i := 59) rfl)) rfl, wi_X11, by decide, by decide, by decide +kernel⟩, z_mem (z_tD (List.mem_of_getElem? (i := 58) rfl)) rfl⟩
theorem kX11_bit : zcS (mX11_bit) 1 := ⟨⟨z_mem (z_tC (List.mem_of_getElem? (i := 148) rfl)) rfl, wi_X11, by decide, by decide, by decide +kernel⟩, z_mem (z_tC (List.mem_of_getElem? (i := 147) rfl)) rfl⟩
theorem kX11_lowest : zcS (mX11_lowest) 1 := ⟨⟨z_mem (z_tF (List.mem_of_getElem? (i := 49) rfl)) rfl, wi_X11, by decide, by decide, by decide +kernel⟩, z_mem (z_tF (List.mem_of_getElem? (i := 48) rfl)) rfl⟩
theorem kX11_got : zcS (mX11_got) 2 := ⟨⟨z_mem (z_tB (List.mem_of_getElem? (i := 216) rfl)) rfl, wi_X11, by decide, by decide, by decide +kernel⟩, z_mem (z_tB (List.mem_of_getElem? (i := 215) rfl)) rfl⟩
theorem kX11_put : zcS (mX11_put) 3 := ⟨⟨z_mem (z_tB (List.mem_of_getElem? (i := 201) rfl)) rfl, wi_X11, by decide, by decide, by decide +kernel⟩, z_mem (z_tB (List.mem_of_getElem? (i := 200) rfl)) rfl⟩
theorem kX11_copyRow : zcS (mX11_copyRow) 2 := ⟨⟨z_mem (z_tC (List.mem_of_getElem? (i := 204) rfl)) rfl, wi_X11, by decide, by decide, by decide +kernel⟩, z_mem (z_tC (List.mem_of_getElem? (i := 203) rfl)) rfl⟩
theorem kX12_init : zcI mX12_init 0 := ⟨⟨z_mem (z_tF (List.mem_of_getElem? (i := 95) rfl)) rfl, wi_X12, by decide, by decide, by decide +kernel⟩, rfl, z_mem (z_tF (List.mem_of_getElem? (i := 94) rfl)) rfl, rfl⟩
theorem kX12_isIn : zcS (mX12_isIn) 3 := ⟨⟨z_mem (z_tF (List.mem_of_getElem? (i := 236) rfl)) rfl, wi_X12, by decide, by decide, by decide +kernel⟩, z_mem (z_tF (List.mem_of_getElem? (i := 235) rfl)) rfl⟩
theorem kX12_feed : zcV mX12_feed 5 12 := ⟨⟨z_mem (z_tF (List.mem_of_getElem? (i := 225) rfl)) rfl, wi_X12, by decide, by decide, by decide +kernel⟩, z_mem (z_tF (List.mem_of_getElem? (i := 223) rfl)) rfl, z_mem (z_tF (List.mem_of_getElem? (i := 224) rfl)) rfl, by decide, rfl⟩
theorem kX12_end : zcV mX12_end 1 12 := ⟨⟨z_mem (z_tF (List.mem_of_getElem? (i := 229) rfl)) rfl, wi_X12, by decide, by decide, by decide +kernel⟩, z_mem (z_tF (List.mem_of_getElem? (i := 227) rfl)) rfl, z_mem (z_tF (List.mem_of_getElem? (i := 228) rfl)) rfl, by decide, rfl⟩
theorem kX12_byteAt : zcV mX12_byteAt 1 12 := ⟨⟨z_mem (z_tG (List.mem_of_getElem? (i := 8) rfl)) rfl, wi_X12, by decide, by decide, by decide +kernel⟩, z_mem (z_tG (List.mem_of_getElem? (i := 7) rfl)) rfl, z_mem (z_tS (List.mem_of_getElem? (i := 63) rfl)) rfl, by decide, rfl⟩
theorem kX12_isLetter : zcS (mX12_isLetter) 1 := ⟨⟨z_mem (z_tG (List.mem_of_getElem? (i := 11) rfl)) rfl, wi_X12, by decide, by decide, by decide +kernel⟩, z_mem (z_tG (List.mem_of_getElem? (i := 10) rfl)) rfl⟩
theorem kX12_isDigit : zcS (mX12_isDigit) 1 := ⟨⟨z_mem (z_tG (List.mem_of_getElem? (i := 26) rfl)) rfl, wi_X12, by decide, by decide, by decide +kernel⟩, z_mem (z_tG (List.mem_of_getElem? (i := 25) rfl)) rfl⟩
theorem kX12_four : zcS (mX12_four) 4 := ⟨⟨z_mem (z_tG (List.mem_of_getElem? (i := 19) rfl)) rfl, wi_X12, by decide, by decide, by decide +kernel⟩, z_mem (z_tG (List.mem_of_getElem? (i := 18) rfl)) rfl⟩
theorem kX12_eight : zcS (mX12_eight) 8 := ⟨⟨z_mem (z_tG (List.mem_of_getElem? (i := 22) rfl)) rfl, wi_X12, by decide, by decide, by decide +kernel⟩, z_mem (z_tG (List.mem_of_getElem? (i := 21) rfl)) rfl⟩
theorem kX12_wordOf : zcS (mX12_wordOf) 1 := ⟨⟨z_mem (z_tG (List.mem_of_getElem? (i := 16) rfl)) rfl, wi_X12, by decide, by decide, by decide +kernel⟩, z_mem (z_tG (List.mem_of_getElem? (i := 15) rfl)) rfl⟩
theorem kX12_advance : zcV mX12_advance 0 12 := ⟨⟨z_mem (z_tG (List.mem_of_getElem? (i := 4) rfl)) rfl, wi_X12, by decide, by decide, by decide +kernel⟩, z_mem (z_tG (List.mem_of_getElem? (i := 3) rfl)) rfl, z_mem (z_tS (List.mem_of_getElem? (i := 62) rfl)) rfl, by decide, rfl⟩
theorem kX12_ends : zcV mX12_ends 0 12 := ⟨⟨z_mem (z_tG (List.mem_of_getElem? (i := 38) rfl)) rfl, wi_X12, by decide, by decide, by decide +kernel⟩, z_mem (z_tG (List.mem_of_getElem? (i := 37) rfl)) rfl, z_mem (z_tS (List.mem_of_getElem? (i := 66) rfl)) rfl, by decide, rfl⟩
theorem kX12_also : zcV mX12_also 2 12 := ⟨⟨z_mem (z_tG (List.mem_of_getElem? (i := 46) rfl)) rfl, wi_X12, by decide, by decide, by decide +kernel⟩, z_mem (z_tG (List.mem_of_getElem? (i := 45) rfl)) rfl, z_mem (z_tS (List.mem_of_getElem? (i := 68) rfl)) rfl, by decide, rfl⟩
theorem kX12_numbered : zcV mX12_numbered 2 12 := ⟨⟨z_mem (z_tG (List.mem_of_getElem? (i := 54) rfl)) rfl, wi_X12, by decide, by decide, by decide +kernel⟩, z_mem (z_tG (List.mem_of_getElem? (i := 53) rfl)) rfl, z_mem (z_tS (List.mem_of_getElem? (i := 70) rfl)) rfl, by decide, rfl⟩
theorem kX12_wordIn : zcV mX12_wordIn 2 12 := ⟨⟨z_mem (z_tG (List.mem_of_getElem? (i := 34) rfl)) rfl, wi_X12, by decide, by decide, by decide +kernel⟩, z_mem (z_tG (List.mem_of_getElem? (i := 33) rfl)) rfl, z_mem (z_tS (List.mem_of_getElem? (i := 65) rfl)) rfl, by decide, rfl⟩
theorem kX12_endsLine : zcV mX12_endsLine 0 12 := ⟨⟨z_mem (z_tG (List.mem_of_getElem? (i := 62) rfl)) rfl, wi_X12, by decide, by decide, by decide +kernel⟩, z_mem (z_tG (List.mem_of_getElem? (i := 61) rfl)) rfl, z_mem (z_tS (List.mem_of_getElem? (i := 72) rfl)) rfl, by decide, rfl⟩
theorem kX12_rowTold : zcV mX12_rowTold 1 12 := ⟨⟨z_mem (z_tG (List.mem_of_getElem? (i := 50) rfl)) rfl, wi_X12, by decide, by decide, by decide +kernel⟩, z_mem (z_tG (List.mem_of_getElem? (i := 49) rfl)) rfl, z_mem (z_tS (List.mem_of_getElem? (i := 69) rfl)) rfl, by decide, rfl⟩
theorem kX12_wordTold : zcV mX12_wordTold 0 12 := ⟨⟨z_mem (z_tG (List.mem_of_getElem? (i := 58) rfl)) rfl, wi_X12, by decide, by decide, by decide +kernel⟩, z_mem (z_tG (List.mem_of_getElem? (i := 57) rfl)) rfl, z_mem (z_tS (List.mem_of_getElem? (i := 71) rfl)) rfl, by decide, rfl⟩
theorem kX12_wordLine : zcV mX12_wordLine 1 12 := ⟨⟨z_mem (z_tG (List.mem_of_getElem? (i := 42) rfl)) rfl, wi_X12, by decide, by decide, by decide +kernel⟩, z_mem (z_tG (List.mem_of_getElem? (i := 41) rfl)) rfl, z_mem (z_tS (List.mem_of_getElem? (i := 67) rfl)) rfl, by decide, rfl⟩
theorem kX12_hillLine : zcV mX12_hillLine 0 12 := ⟨⟨z_mem (z_tG (List.mem_of_getElem? (i := 30) rfl)) rfl, wi_X12, by decide, by decide, by decide +kernel⟩, z_mem (z_tG (List.mem_of_getElem? (i := 29) rfl)) rfl, z_mem (z_tS (List.mem_of_getElem? (i := 64) rfl)) rfl, by decide, rfl⟩
theorem kX12_centuryLine : zcV mX12_centuryLine 0 12 := ⟨⟨z_mem (z_tG (List.mem_of_getElem? (i := 66) rfl)) rfl, wi_X12, by decide, by decide, by decide +kernel⟩, z_mem (z_tG (List.mem_of_getElem? (i := 65) rfl)) rfl, z_mem (z_tS (List.mem_of_getElem? (i := 73) rfl)) rfl, by decide, rfl⟩
theorem kX12_linesLine : zcV mX12_linesLine 0 12 := ⟨⟨z_mem (z_tG (List.mem_of_getElem? (i := 70) rfl)) rfl, wi_X12, by decide, by decide, by decide +kernel⟩, z_mem (z_tG (List.mem_of_getElem? (i := 69) rfl)) rfl, z_mem (z_tS (List.mem_of_getElem? (i := 74) rfl)) rfl, by decide, rfl⟩
theorem kX12_logLine : zcV mX12_logLine 0 12 := ⟨⟨z_mem (z_tG (List.mem_of_getElem? (i := 74) rfl)) rfl, wi_X12, by decide, by decide, by decide +kernel⟩, z_mem (z_tG (List.mem_of_getElem? (i := 73) rfl)) rfl, z_mem (z_tS (List.mem_of_getElem? (i := 75) rfl)) rfl, by decide, rfl⟩
theorem kX12_isTwice : zcV mX12_isTwice 0 12 := ⟨⟨z_mem (z_tG (List.mem_of_getElem? (i := 78) rfl)) rfl, wi_X12, by decide, by decide, by decide +kernel⟩, z_mem (z_tG (List.mem_of_getElem? (i := 77) rfl)) rfl, z_mem (z_tS (List.mem_of_getElem? (i := 76) rfl)) rfl, by decide, rfl⟩
theorem kX12_placeOf : zcS (mX12_placeOf) 2 := ⟨⟨z_mem (z_tG (List.mem_of_getElem? (i := 84) rfl)) rfl, wi_X12, by decide, by decide, by decide +kernel⟩, z_mem (z_tG (List.mem_of_getElem? (i := 83) rfl)) rfl⟩
theorem kX12_sizeOf : zcS (mX12_sizeOf) 1 := ⟨⟨z_mem (z_tG (List.mem_of_getElem? (i := 81) rfl)) rfl, wi_X12, by decide, by decide, by decide +kernel⟩, z_mem (z_tG (List.mem_of_getElem? (i := 80) rfl)) rfl⟩
theorem kX12_isOf : zcV mX12_isOf 2 12 := ⟨⟨z_mem (z_tG (List.mem_of_getElem? (i := 0) rfl)) rfl, wi_X12, by decide, by decide, by decide +kernel⟩, z_mem (z_tF (List.mem_of_getElem? (i := 239) rfl)) rfl, z_mem (z_tS (List.mem_of_getElem? (i := 61) rfl)) rfl, by decide, rfl⟩
theorem kX12_text : zcV mX12_text 2 12 := ⟨⟨z_mem (z_tF (List.mem_of_getElem? (i := 233) rfl)) rfl, wi_X12, by decide, by decide, by decide +kernel⟩, z_mem (z_tF (List.mem_of_getElem? (i := 231) rfl)) rfl, z_mem (z_tF (List.mem_of_getElem? (i := 232) rfl)) rfl, by decide, rfl⟩
theorem kX12_fault : zcV mX12_fault 1 12 := ⟨⟨z_mem (z_tG (List.mem_of_getElem? (i := 88) rfl)) rfl, wi_X12, by decide, by decide, by decide +kernel⟩, z_mem (z_tG (List.mem_of_getElem? (i := 86) rfl)) rfl, z_mem (z_tG (List.mem_of_getElem? (i := 87) rfl)) rfl, by decide, rfl⟩
theorem kX12_isHill : zcV mX12_isHill 1 12 := ⟨⟨z_mem (z_tG (List.mem_of_getElem? (i := 96) rfl)) rfl, wi_X12, by decide, by decide, by decide +kernel⟩, z_mem (z_tG (List.mem_of_getElem? (i := 95) rfl)) rfl, z_mem (z_tS (List.mem_of_getElem? (i := 77) rfl)) rfl, by decide, rfl⟩
theorem kX12_isWord : zcV mX12_isWord 1 12 := ⟨⟨z_mem (z_tG (List.mem_of_getElem? (i := 104) rfl)) rfl, wi_X12, by decide, by decide, by decide +kernel⟩, z_mem (z_tG (List.mem_of_getElem? (i := 103) rfl)) rfl, z_mem (z_tS (List.mem_of_getElem? (i := 79) rfl)) rfl, by decide, rfl⟩
theorem kX12_isStone : zcV mX12_isStone 1 12 := ⟨⟨z_mem (z_tG (List.mem_of_getElem? (i := 152) rfl)) rfl, wi_X12, by decide, by decide, by decide +kernel⟩, z_mem (z_tG (List.mem_of_getElem? (i := 151) rfl)) rfl, z_mem (z_tS (List.mem_of_getElem? (i := 89) rfl)) rfl, by decide, rfl⟩
theorem kX12_longOf : zcV mX12_longOf 1 12 := ⟨⟨z_mem (z_tG (List.mem_of_getElem? (i := 108) rfl)) rfl, wi_X12, by decide, by decide, by decide +kernel⟩, z_mem (z_tG (List.mem_of_getElem? (i := 107) rfl)) rfl, z_mem (z_tS (List.mem_of_getElem? (i := 80) rfl)) rfl, by decide, rfl⟩
theorem kX12_oftenOf : zcV mX12_oftenOf 1 12 := ⟨⟨z_mem (z_tG (List.mem_of_getElem? (i := 112) rfl)) rfl, wi_X12, by decide, by decide, by decide +kernel⟩, z_mem (z_tG (List.mem_of_getElem? (i := 111) rfl)) rfl, z_mem (z_tS (List.mem_of_getElem? (i := 81) rfl)) rfl, by decide, rfl⟩
theorem kX12_letterOf : zcV mX12_letterOf 2 12 := ⟨⟨z_mem (z_tG (List.mem_of_getElem? (i := 124) rfl)) rfl, wi_X12, by decide, by decide, by decide +kernel⟩, z_mem (z_tG (List.mem_of_getElem? (i := 123) rfl)) rfl, z_mem (z_tS (List.mem_of_getElem? (i := 84) rfl)) rfl, by decide, rfl⟩
theorem kX12_everyWord : zcV mX12_everyWord 0 12 := ⟨⟨z_mem (z_tG (List.mem_of_getElem? (i := 120) rfl)) rfl, wi_X12, by decide, by decide, by decide +kernel⟩, z_mem (z_tG (List.mem_of_getElem? (i := 119) rfl)) rfl, z_mem (z_tS (List.mem_of_getElem? (i := 83) rfl)) rfl, by decide, rfl⟩
theorem kX12_behind : zcV mX12_behind 1 12 := ⟨⟨z_mem (z_tG (List.mem_of_getElem? (i := 116) rfl)) rfl, wi_X12, by decide, by decide, by decide +kernel⟩, z_mem (z_tG (List.mem_of_getElem? (i := 115) rfl)) rfl, z_mem (z_tS (List.mem_of_getElem? (i := 82) rfl)) rfl, by decide, rfl⟩
theorem kX12_answersTo : zcV mX12_answersTo 1 12 := ⟨⟨z_mem (z_tG (List.mem_of_getElem? (i := 100) rfl)) rfl, wi_X12, by decide, by decide, by decide +kernel⟩, z_mem (z_tG (List.mem_of_getElem? (i := 99) rfl)) rfl, z_mem (z_tS (List.mem_of_getElem? (i := 78) rfl)) rfl, by decide, rfl⟩
theorem kX12_holds : zcS (mX12_holds) 2 := ⟨⟨z_mem (z_tG (List.mem_of_getElem? (i := 155) rfl)) rfl, wi_X12, by decide, by decide, by decide +kernel⟩, z_mem (z_tG (List.mem_of_getElem? (i := 154) rfl)) rfl⟩
theorem kX12_bitsOf : zcS (mX12_bitsOf) 1 := ⟨⟨z_mem (z_tH (List.mem_of_getElem? (i := 151) rfl)) rfl, wi_X12, by decide, by decide, by decide +kernel⟩, z_mem (z_tH (List.mem_of_getElem? (i := 150) rfl)) rfl⟩
theorem kX12_hill : zcV mX12_hill 2 12 := ⟨⟨z_mem (z_tG (List.mem_of_getElem? (i := 92) rfl)) rfl, wi_X12, by decide, by decide, by decide +kernel⟩, z_mem (z_tG (List.mem_of_getElem? (i := 90) rfl)) rfl, z_mem (z_tG (List.mem_of_getElem? (i := 91) rfl)) rfl, by decide, rfl⟩
theorem kX12_isCentury : zcV mX12_isCentury 1 12 := ⟨⟨z_mem (z_tG (List.mem_of_getElem? (i := 132) rfl)) rfl, wi_X12, by decide, by decide, by decide +kernel⟩, z_mem (z_tG (List.mem_of_getElem? (i := 131) rfl)) rfl, z_mem (z_tS (List.mem_of_getElem? (i := 85) rfl)) rfl, by decide, rfl⟩
theorem kX12_deed : zcV mX12_deed 3 12 := ⟨⟨z_mem (z_tG (List.mem_of_getElem? (i := 128) rfl)) rfl, wi_X12, by decide, by decide, by decide +kernel⟩, z_mem (z_tG (List.mem_of_getElem? (i := 126) rfl)) rfl, z_mem (z_tG (List.mem_of_getElem? (i := 127) rfl)) rfl, by decide, rfl⟩
theorem kX12_begins : zcV mX12_begins 0 12 := ⟨⟨z_mem (z_tG (List.mem_of_getElem? (i := 144) rfl)) rfl, wi_X12, by decide, by decide, by decide +kernel⟩, z_mem (z_tG (List.mem_of_getElem? (i := 143) rfl)) rfl, z_mem (z_tS (List.mem_of_getElem? (i := 87) rfl)) rfl, by decide, rfl⟩
theorem kX12_begins0 : zcV mX12_begins0 2 12 := ⟨⟨z_mem (z_tG (List.mem_of_getElem? (i := 171) rfl)) rfl, wi_X12, by decide, by decide, by decide +kernel⟩, z_mem (z_tG (List.mem_of_getElem? (i := 170) rfl)) rfl, z_mem (z_tS (List.mem_of_getElem? (i := 93) rfl)) rfl, by decide, rfl⟩
theorem kX12_fitting : zcV mX12_fitting 1 12 := ⟨⟨z_mem (z_tG (List.mem_of_getElem? (i := 167) rfl)) rfl, wi_X12, by decide, by decide, by decide +kernel⟩, z_mem (z_tG (List.mem_of_getElem? (i := 166) rfl)) rfl, z_mem (z_tS (List.mem_of_getElem? (i := 92) rfl)) rfl, by decide, rfl⟩
theorem kX12_puts : zcV mX12_puts 4 12 := ⟨⟨z_mem (z_tG (List.mem_of_getElem? (i := 163) rfl)) rfl, wi_X12, by decide, by decide, by decide +kernel⟩, z_mem (z_tG (List.mem_of_getElem? (i := 162) rfl)) rfl, z_mem (z_tS (List.mem_of_getElem? (i := 91) rfl)) rfl, by decide, rfl⟩
theorem kX12_freezes : zcV mX12_freezes 2 12 := ⟨⟨z_mem (z_tG (List.mem_of_getElem? (i := 159) rfl)) rfl, wi_X12, by decide, by decide, by decide +kernel⟩, z_mem (z_tG (List.mem_of_getElem? (i := 158) rfl)) rfl, z_mem (z_tS (List.mem_of_getElem? (i := 90) rfl)) rfl, by decide, rfl⟩
theorem kX12_tells : zcV mX12_tells 1 12 := ⟨⟨z_mem (z_tG (List.mem_of_getElem? (i := 175) rfl)) rfl, wi_X12, by decide, by decide, by decide +kernel⟩, z_mem (z_tG (List.mem_of_getElem? (i := 174) rfl)) rfl, z_mem (z_tS (List.mem_of_getElem? (i := 94) rfl)) rfl, by decide, rfl⟩
theorem kX12_does : zcV mX12_does 3 12 := ⟨⟨z_mem (z_tG (List.mem_of_getElem? (i := 148) rfl)) rfl, wi_X12, by decide, by decide, by decide +kernel⟩, z_mem (z_tG (List.mem_of_getElem? (i := 147) rfl)) rfl, z_mem (z_tS (List.mem_of_getElem? (i := 88) rfl)) rfl, by decide, rfl⟩
theorem kX12_runs : zcV mX12_runs 1 12 := ⟨⟨z_mem (z_tG (List.mem_of_getElem? (i := 140) rfl)) rfl, wi_X12, by decide, by decide, by decide +kernel⟩, z_mem (z_tG (List.mem_of_getElem? (i := 139) rfl)) rfl, z_mem (z_tS (List.mem_of_getElem? (i := 86) rfl)) rfl, by decide, rfl⟩
theorem kX12_stop : zcV mX12_stop 2 12 := ⟨⟨z_mem (z_tG (List.mem_of_getElem? (i := 136) rfl)) rfl, wi_X12, by decide, by decide, by decide +kernel⟩, z_mem (z_tG (List.mem_of_getElem? (i := 134) rfl)) rfl, z_mem (z_tG (List.mem_of_getElem? (i := 135) rfl)) rfl, by decide, rfl⟩
theorem kX12_feignedOn : zcV mX12_feignedOn 1 12 := ⟨⟨z_mem (z_tG (List.mem_of_getElem? (i := 187) rfl)) rfl, wi_X12, by decide, by decide, by decide +kernel⟩, z_mem (z_tG (List.mem_of_getElem? (i := 186) rfl)) rfl, z_mem (z_tS (List.mem_of_getElem? (i := 96) rfl)) rfl, by decide, rfl⟩
theorem kX12_nowOf : zcV mX12_nowOf 1 12 := ⟨⟨z_mem (z_tG (List.mem_of_getElem? (i := 183) rfl)) rfl, wi_X12, by decide, by decide, by decide +kernel⟩, z_mem (z_tG (List.mem_of_getElem? (i := 182) rfl)) rfl, z_mem (z_tS (List.mem_of_getElem? (i := 95) rfl)) rfl, by decide, rfl⟩
theorem kX12_state : zcV mX12_state 4 12 := ⟨⟨z_mem (z_tG (List.mem_of_getElem? (i := 179) rfl)) rfl, wi_X12, by decide, by decide, by decide +kernel⟩, z_mem (z_tG (List.mem_of_getElem? (i := 177) rfl)) rfl, z_mem (z_tG (List.mem_of_getElem? (i := 178) rfl)) rfl, by decide, rfl⟩
theorem kX12_after : zcV mX12_after 3 12 := ⟨⟨z_mem (z_tG (List.mem_of_getElem? (i := 191) rfl)) rfl, wi_X12, by decide, by decide, by decide +kernel⟩, z_mem (z_tG (List.mem_of_getElem? (i := 189) rfl)) rfl, z_mem (z_tG (List.mem_of_getElem? (i := 190) rfl)) rfl, by decide, rfl⟩
theorem kX12_isLine : zcV mX12_isLine 2 12 := ⟨⟨z_mem (z_tG (List.mem_of_getElem? (i := 199) rfl)) rfl, wi_X12, by decide, by decide, by decide +kernel⟩, z_mem (z_tG (List.mem_of_getElem? (i := 198) rfl)) rfl, z_mem (z_tS (List.mem_of_getElem? (i := 97) rfl)) rfl, by decide, rfl⟩
theorem kX12_inLine : zcV mX12_inLine 1 12 := ⟨⟨z_mem (z_tG (List.mem_of_getElem? (i := 203) rfl)) rfl, wi_X12, by decide, by decide, by decide +kernel⟩, z_mem (z_tG (List.mem_of_getElem? (i := 202) rfl)) rfl, z_mem (z_tS (List.mem_of_getElem? (i := 98) rfl)) rfl, by decide, rfl⟩
theorem kX12_line : zcV mX12_line 3 12 := ⟨⟨z_mem (z_tG (List.mem_of_getElem? (i := 195) rfl)) rfl, wi_X12, by decide, by decide, by decide +kernel⟩, z_mem (z_tG (List.mem_of_getElem? (i := 193) rfl)) rfl, z_mem (z_tG (List.mem_of_getElem? (i := 194) rfl)) rfl, by decide, rfl⟩
theorem kX12_saidOf : zcV mX12_saidOf 0 12 := ⟨⟨z_mem (z_tG (List.mem_of_getElem? (i := 211) rfl)) rfl, wi_X12, by decide, by decide, by decide +kernel⟩, z_mem (z_tG (List.mem_of_getElem? (i := 210) rfl)) rfl, z_mem (z_tS (List.mem_of_getElem? (i := 99) rfl)) rfl, by decide, rfl⟩
theorem kX12_oftenIn : zcV mX12_oftenIn 1 12 := ⟨⟨z_mem (z_tG (List.mem_of_getElem? (i := 220) rfl)) rfl, wi_X12, by decide, by decide, by decide +kernel⟩, z_mem (z_tG (List.mem_of_getElem? (i := 219) rfl)) rfl, z_mem (z_tS (List.mem_of_getElem? (i := 100) rfl)) rfl, by decide, rfl⟩
theorem kX12_said : zcV mX12_said 4 12 := ⟨⟨z_mem (z_tG (List.mem_of_getElem? (i := 207) rfl)) rfl, wi_X12, by decide, by decide, by decide +kernel⟩, z_mem (z_tG (List.mem_of_getElem? (i := 205) rfl)) rfl, z_mem (z_tG (List.mem_of_getElem? (i := 206) rfl)) rfl, by decide, rfl⟩
theorem kX12_common : zcS (mX12_common) 2 := ⟨⟨z_mem (z_tG (List.mem_of_getElem? (i := 226) rfl)) rfl, wi_X12, by decide, by decide, by decide +kernel⟩, z_mem (z_tG (List.mem_of_getElem? (i := 225) rfl)) rfl⟩
theorem kX12_least : zcS (mX12_least) 3 := ⟨⟨z_mem (z_tG (List.mem_of_getElem? (i := 223) rfl)) rfl, wi_X12, by decide, by decide, by decide +kernel⟩, z_mem (z_tG (List.mem_of_getElem? (i := 222) rfl)) rfl⟩
theorem kX12_odds : zcV mX12_odds 5 12 := ⟨⟨z_mem (z_tG (List.mem_of_getElem? (i := 215) rfl)) rfl, wi_X12, by decide, by decide, by decide +kernel⟩, z_mem (z_tG (List.mem_of_getElem? (i := 213) rfl)) rfl, z_mem (z_tG (List.mem_of_getElem? (i := 214) rfl)) rfl, by decide, rfl⟩
theorem kX12_alikeOf : zcV mX12_alikeOf 2 12 := ⟨⟨z_mem (z_tG (List.mem_of_getElem? (i := 238) rfl)) rfl, wi_X12, by decide, by decide, by decide +kernel⟩, z_mem (z_tG (List.mem_of_getElem? (i := 237) rfl)) rfl, z_mem (z_tS (List.mem_of_getElem? (i := 102) rfl)) rfl, by decide, rfl⟩
theorem kX12_sureIn : zcV mX12_sureIn 2 12 := ⟨⟨z_mem (z_tG (List.mem_of_getElem? (i := 234) rfl)) rfl, wi_X12, by decide, by decide, by decide +kernel⟩, z_mem (z_tG (List.mem_of_getElem? (i := 233) rfl)) rfl, z_mem (z_tS (List.mem_of_getElem? (i := 101) rfl)) rfl, by decide, rfl⟩
theorem kX12_sure : zcV mX12_sure 4 12 := ⟨⟨z_mem (z_tG (List.mem_of_getElem? (i := 230) rfl)) rfl, wi_X12, by decide, by decide, by decide +kernel⟩, z_mem (z_tG (List.mem_of_getElem? (i := 228) rfl)) rfl, z_mem (z_tG (List.mem_of_getElem? (i := 229) rfl)) rfl, by decide, rfl⟩
theorem kX12_asked : zcV mX12_asked 3 12 := ⟨⟨z_mem (z_tH (List.mem_of_getElem? (i := 2) rfl)) rfl, wi_X12, by decide, by decide, by decide +kernel⟩, z_mem (z_tH (List.mem_of_getElem? (i := 0) rfl)) rfl, z_mem (z_tH (List.mem_of_getElem? (i := 1) rfl)) rfl, by decide, rfl⟩
theorem kX12_soonest : zcV mX12_soonest 1 12 := ⟨⟨z_mem (z_tH (List.mem_of_getElem? (i := 6) rfl)) rfl, wi_X12, by decide, by decide, by decide +kernel⟩, z_mem (z_tH (List.mem_of_getElem? (i := 4) rfl)) rfl, z_mem (z_tH (List.mem_of_getElem? (i := 5) rfl)) rfl, by decide, rfl⟩
theorem kX12_unlike : zcV mX12_unlike 2 12 := ⟨⟨z_mem (z_tH (List.mem_of_getElem? (i := 18) rfl)) rfl, wi_X12, by decide, by decide, by decide +kernel⟩, z_mem (z_tH (List.mem_of_getElem? (i := 17) rfl)) rfl, z_mem (z_tS (List.mem_of_getElem? (i := 104) rfl)) rfl, by decide, rfl⟩
theorem kX12_laysReadings : zcV mX12_laysReadings 0 12 := ⟨⟨z_mem (z_tH (List.mem_of_getElem? (i := 14) rfl)) rfl, wi_X12, by decide, by decide, by decide +kernel⟩, z_mem (z_tH (List.mem_of_getElem? (i := 13) rfl)) rfl, z_mem (z_tS (List.mem_of_getElem? (i := 103) rfl)) rfl, by decide, rfl⟩
theorem kX12_reading : zcV mX12_reading 4 12 := ⟨⟨z_mem (z_tH (List.mem_of_getElem? (i := 10) rfl)) rfl, wi_X12, by decide, by decide, by decide +kernel⟩, z_mem (z_tH (List.mem_of_getElem? (i := 8) rfl)) rfl, z_mem (z_tH (List.mem_of_getElem? (i := 9) rfl)) rfl, by decide, rfl⟩
theorem kX12_mendedOf : zcV mX12_mendedOf 0 12 := ⟨⟨z_mem (z_tH (List.mem_of_getElem? (i := 26) rfl)) rfl, wi_X12, by decide, by decide, by decide +kernel⟩, z_mem (z_tH (List.mem_of_getElem? (i := 25) rfl)) rfl, z_mem (z_tS (List.mem_of_getElem? (i := 105) rfl)) rfl, by decide, rfl⟩
theorem kX12_next : zcV mX12_next 4 12 := ⟨⟨z_mem (z_tH (List.mem_of_getElem? (i := 22) rfl)) rfl, wi_X12, by decide, by decide, by decide +kernel⟩, z_mem (z_tH (List.mem_of_getElem? (i := 20) rfl)) rfl, z_mem (z_tH (List.mem_of_getElem? (i := 21) rfl)) rfl, by decide, rfl⟩
theorem kX12_takesWord : zcV mX12_takesWord 2 12 := ⟨⟨z_mem (z_tH (List.mem_of_getElem? (i := 34) rfl)) rfl, wi_X12, by decide, by decide, by decide +kernel⟩, z_mem (z_tH (List.mem_of_getElem? (i := 33) rfl)) rfl, z_mem (z_tS (List.mem_of_getElem? (i := 106) rfl)) rfl, by decide, rfl⟩
theorem kX12_changesOf : zcV mX12_changesOf 0 12 := ⟨⟨z_mem (z_tH (List.mem_of_getElem? (i := 38) rfl)) rfl, wi_X12, by decide, by decide, by decide +kernel⟩, z_mem (z_tH (List.mem_of_getElem? (i := 37) rfl)) rfl, z_mem (z_tS (List.mem_of_getElem? (i := 107) rfl)) rfl, by decide, rfl⟩
theorem kX12_slips : zcV mX12_slips 4 12 := ⟨⟨z_mem (z_tH (List.mem_of_getElem? (i := 30) rfl)) rfl, wi_X12, by decide, by decide, by decide +kernel⟩, z_mem (z_tH (List.mem_of_getElem? (i := 28) rfl)) rfl, z_mem (z_tH (List.mem_of_getElem? (i := 29) rfl)) rfl, by decide, rfl⟩
theorem kX12_echo : zcV mX12_echo 4 12 := ⟨⟨z_mem (z_tH (List.mem_of_getElem? (i := 42) rfl)) rfl, wi_X12, by decide, by decide, by decide +kernel⟩, z_mem (z_tH (List.mem_of_getElem? (i := 40) rfl)) rfl, z_mem (z_tH (List.mem_of_getElem? (i := 41) rfl)) rfl, by decide, rfl⟩
theorem kX12_apartOf : zcV mX12_apartOf 2 12 := ⟨⟨z_mem (z_tH (List.mem_of_getElem? (i := 50) rfl)) rfl, wi_X12, by decide, by decide, by decide +kernel⟩, z_mem (z_tH (List.mem_of_getElem? (i := 49) rfl)) rfl, z_mem (z_tS (List.mem_of_getElem? (i := 108) rfl)) rfl, by decide, rfl⟩
theorem kX12_alike : zcV mX12_alike 4 12 := ⟨⟨z_mem (z_tH (List.mem_of_getElem? (i := 46) rfl)) rfl, wi_X12, by decide, by decide, by decide +kernel⟩, z_mem (z_tH (List.mem_of_getElem? (i := 44) rfl)) rfl, z_mem (z_tH (List.mem_of_getElem? (i := 45) rfl)) rfl, by decide, rfl⟩
theorem kX12_closestOf : zcV mX12_closestOf 0 12 := ⟨⟨z_mem (z_tH (List.mem_of_getElem? (i := 70) rfl)) rfl, wi_X12, by decide, by decide, by decide +kernel⟩, z_mem (z_tH (List.mem_of_getElem? (i := 69) rfl)) rfl, z_mem (z_tS (List.mem_of_getElem? (i := 112) rfl)) rfl, by decide, rfl⟩
theorem kX12_treeOf : zcV mX12_treeOf 0 12 := ⟨⟨z_mem (z_tH (List.mem_of_getElem? (i := 74) rfl)) rfl, wi_X12, by decide, by decide, by decide +kernel⟩, z_mem (z_tH (List.mem_of_getElem? (i := 73) rfl)) rfl, z_mem (z_tS (List.mem_of_getElem? (i := 113) rfl)) rfl, by decide, rfl⟩
theorem kX12_isBeginning : zcV mX12_isBeginning 2 12 := ⟨⟨z_mem (z_tH (List.mem_of_getElem? (i := 66) rfl)) rfl, wi_X12, by decide, by decide, by decide +kernel⟩, z_mem (z_tH (List.mem_of_getElem? (i := 65) rfl)) rfl, z_mem (z_tS (List.mem_of_getElem? (i := 111) rfl)) rfl, by decide, rfl⟩
theorem kX12_withinOf : zcV mX12_withinOf 1 12 := ⟨⟨z_mem (z_tH (List.mem_of_getElem? (i := 62) rfl)) rfl, wi_X12, by decide, by decide, by decide +kernel⟩, z_mem (z_tH (List.mem_of_getElem? (i := 61) rfl)) rfl, z_mem (z_tS (List.mem_of_getElem? (i := 110) rfl)) rfl, by decide, rfl⟩
theorem kX12_leadsOf : zcV mX12_leadsOf 1 12 := ⟨⟨z_mem (z_tH (List.mem_of_getElem? (i := 58) rfl)) rfl, wi_X12, by decide, by decide, by decide +kernel⟩, z_mem (z_tH (List.mem_of_getElem? (i := 57) rfl)) rfl, z_mem (z_tS (List.mem_of_getElem? (i := 109) rfl)) rfl, by decide, rfl⟩
theorem kX12_tree : zcV mX12_tree 2 12 := ⟨⟨z_mem (z_tH (List.mem_of_getElem? (i := 54) rfl)) rfl, wi_X12, by decide, by decide, by decide +kernel⟩, z_mem (z_tH (List.mem_of_getElem? (i := 52) rfl)) rfl, z_mem (z_tH (List.mem_of_getElem? (i := 53) rfl)) rfl, by decide, rfl⟩
theorem kX12_bestBehind : zcV mX12_bestBehind 2 12 := ⟨⟨z_mem (z_tH (List.mem_of_getElem? (i := 82) rfl)) rfl, wi_X12, by decide, by decide, by decide +kernel⟩, z_mem (z_tH (List.mem_of_getElem? (i := 81) rfl)) rfl, z_mem (z_tS (List.mem_of_getElem? (i := 114) rfl)) rfl, by decide, rfl⟩
theorem kX12_chain : zcV mX12_chain 2 12 := ⟨⟨z_mem (z_tH (List.mem_of_getElem? (i := 78) rfl)) rfl, wi_X12, by decide, by decide, by decide +kernel⟩, z_mem (z_tH (List.mem_of_getElem? (i := 76) rfl)) rfl, z_mem (z_tH (List.mem_of_getElem? (i := 77) rfl)) rfl, by decide, rfl⟩
theorem kX12_sentences : zcV mX12_sentences 2 12 := ⟨⟨z_mem (z_tH (List.mem_of_getElem? (i := 86) rfl)) rfl, wi_X12, by decide, by decide, by decide +kernel⟩, z_mem (z_tH (List.mem_of_getElem? (i := 84) rfl)) rfl, z_mem (z_tH (List.mem_of_getElem? (i := 85) rfl)) rfl, by decide, rfl⟩
theorem kX12_goesOn : zcV mX12_goesOn 2 12 := ⟨⟨z_mem (z_tH (List.mem_of_getElem? (i := 94) rfl)) rfl, wi_X12, by decide, by decide, by decide +kernel⟩, z_mem (z_tH (List.mem_of_getElem? (i := 93) rfl)) rfl, z_mem (z_tS (List.mem_of_getElem? (i := 115) rfl)) rfl, by decide, rfl⟩
theorem kX12_twice : zcV mX12_twice 1 12 := ⟨⟨z_mem (z_tH (List.mem_of_getElem? (i := 90) rfl)) rfl, wi_X12, by decide, by decide, by decide +kernel⟩, z_mem (z_tH (List.mem_of_getElem? (i := 88) rfl)) rfl, z_mem (z_tH (List.mem_of_getElem? (i := 89) rfl)) rfl, by decide, rfl⟩
theorem kX12_isWhole : zcV mX12_isWhole 2 12 := ⟨⟨z_mem (z_tH (List.mem_of_getElem? (i := 106) rfl)) rfl, wi_X12, by decide, by decide, by decide +kernel⟩, z_mem (z_tH (List.mem_of_getElem? (i := 105) rfl)) rfl, z_mem (z_tS (List.mem_of_getElem? (i := 117) rfl)) rfl, by decide, rfl⟩
theorem kX12_isWon : zcV mX12_isWon 2 12 := ⟨⟨z_mem (z_tH (List.mem_of_getElem? (i := 102) rfl)) rfl, wi_X12, by decide, by decide, by decide +kernel⟩, z_mem (z_tH (List.mem_of_getElem? (i := 101) rfl)) rfl, z_mem (z_tS (List.mem_of_getElem? (i := 116) rfl)) rfl, by decide, rfl⟩
theorem kX12_ghost : zcV mX12_ghost 2 12 := ⟨⟨z_mem (z_tH (List.mem_of_getElem? (i := 98) rfl)) rfl, wi_X12, by decide, by decide, by decide +kernel⟩, z_mem (z_tH (List.mem_of_getElem? (i := 96) rfl)) rfl, z_mem (z_tH (List.mem_of_getElem? (i := 97) rfl)) rfl, by decide, rfl⟩
theorem kX12_isLog : zcV mX12_isLog 1 12 := ⟨⟨z_mem (z_tH (List.mem_of_getElem? (i := 114) rfl)) rfl, wi_X12, by decide, by decide, by decide +kernel⟩, z_mem (z_tH (List.mem_of_getElem? (i := 113) rfl)) rfl, z_mem (z_tS (List.mem_of_getElem? (i := 118) rfl)) rfl, by decide, rfl⟩
theorem kX12_fact : zcV mX12_fact 3 12 := ⟨⟨z_mem (z_tH (List.mem_of_getElem? (i := 110) rfl)) rfl, wi_X12, by decide, by decide, by decide +kernel⟩, z_mem (z_tH (List.mem_of_getElem? (i := 108) rfl)) rfl, z_mem (z_tH (List.mem_of_getElem? (i := 109) rfl)) rfl, by decide, rfl⟩
theorem kX12_digit : zcS (mX12_digit) 2 := ⟨⟨z_mem (z_tH (List.mem_of_getElem? (i := 128) rfl)) rfl, wi_X12, by decide, by decide, by decide +kernel⟩, z_mem (z_tH (List.mem_of_getElem? (i := 127) rfl)) rfl⟩
theorem kX12_isSo : zcV mX12_isSo 2 12 := ⟨⟨z_mem (z_tH (List.mem_of_getElem? (i := 136) rfl)) rfl, wi_X12, by decide, by decide, by decide +kernel⟩, z_mem (z_tH (List.mem_of_getElem? (i := 135) rfl)) rfl, z_mem (z_tS (List.mem_of_getElem? (i := 121) rfl)) rfl, by decide, rfl⟩
theorem kX12_isRule : zcS (mX12_isRule) 1 := ⟨⟨z_mem (z_tH (List.mem_of_getElem? (i := 125) rfl)) rfl, wi_X12, by decide, by decide, by decide +kernel⟩, z_mem (z_tH (List.mem_of_getElem? (i := 124) rfl)) rfl⟩
theorem kX12_notSo : zcV mX12_notSo 1 12 := ⟨⟨z_mem (z_tH (List.mem_of_getElem? (i := 132) rfl)) rfl, wi_X12, by decide, by decide, by decide +kernel⟩, z_mem (z_tH (List.mem_of_getElem? (i := 131) rfl)) rfl, z_mem (z_tS (List.mem_of_getElem? (i := 120) rfl)) rfl, by decide, rfl⟩
theorem kX12_placesNotSo : zcV mX12_placesNotSo 1 12 := ⟨⟨z_mem (z_tH (List.mem_of_getElem? (i := 140) rfl)) rfl, wi_X12, by decide, by decide, by decide +kernel⟩, z_mem (z_tH (List.mem_of_getElem? (i := 139) rfl)) rfl, z_mem (z_tS (List.mem_of_getElem? (i := 122) rfl)) rfl, by decide, rfl⟩
theorem kX12_fewest : zcV mX12_fewest 0 12 := ⟨⟨z_mem (z_tH (List.mem_of_getElem? (i := 122) rfl)) rfl, wi_X12, by decide, by decide, by decide +kernel⟩, z_mem (z_tH (List.mem_of_getElem? (i := 121) rfl)) rfl, z_mem (z_tS (List.mem_of_getElem? (i := 119) rfl)) rfl, by decide, rfl⟩
theorem kX12_forged : zcV mX12_forged 2 12 := ⟨⟨z_mem (z_tH (List.mem_of_getElem? (i := 118) rfl)) rfl, wi_X12, by decide, by decide, by decide +kernel⟩, z_mem (z_tH (List.mem_of_getElem? (i := 116) rfl)) rfl, z_mem (z_tH (List.mem_of_getElem? (i := 117) rfl)) rfl, by decide, rfl⟩
theorem kX12_age : zcV mX12_age 2 12 := ⟨⟨z_mem (z_tH (List.mem_of_getElem? (i := 144) rfl)) rfl, wi_X12, by decide, by decide, by decide +kernel⟩, z_mem (z_tH (List.mem_of_getElem? (i := 142) rfl)) rfl, z_mem (z_tH (List.mem_of_getElem? (i := 143) rfl)) rfl, by decide, rfl⟩
theorem kX12_power : zcS (mX12_power) 2 := ⟨⟨z_mem (z_tH (List.mem_of_getElem? (i := 154) rfl)) rfl, wi_X12, by decide, by decide, by decide +kernel⟩, z_mem (z_tH (List.mem_of_getElem? (i := 153) rfl)) rfl⟩
theorem kX12_chance : zcV mX12_chance 4 12 := ⟨⟨z_mem (z_tH (List.mem_of_getElem? (i := 148) rfl)) rfl, wi_X12, by decide, by decide, by decide +kernel⟩, z_mem (z_tH (List.mem_of_getElem? (i := 146) rfl)) rfl, z_mem (z_tH (List.mem_of_getElem? (i := 147) rfl)) rfl, by decide, rfl⟩
theorem kX12_waits : zcV mX12_waits 3 12 := ⟨⟨z_mem (z_tH (List.mem_of_getElem? (i := 159) rfl)) rfl, wi_X12, by decide, by decide, by decide +kernel⟩, z_mem (z_tH (List.mem_of_getElem? (i := 157) rfl)) rfl, z_mem (z_tH (List.mem_of_getElem? (i := 158) rfl)) rfl, by decide, rfl⟩
theorem kX12_below : zcV mX12_below 1 12 := ⟨⟨z_mem (z_tH (List.mem_of_getElem? (i := 171) rfl)) rfl, wi_X12, by decide, by decide, by decide +kernel⟩, z_mem (z_tH (List.mem_of_getElem? (i := 170) rfl)) rfl, z_mem (z_tS (List.mem_of_getElem? (i := 124) rfl)) rfl, by decide, rfl⟩
theorem kX12_draws : zcV mX12_draws 0 12 := ⟨⟨z_mem (z_tH (List.mem_of_getElem? (i := 167) rfl)) rfl, wi_X12, by decide, by decide, by decide +kernel⟩, z_mem (z_tH (List.mem_of_getElem? (i := 166) rfl)) rfl, z_mem (z_tS (List.mem_of_getElem? (i := 123) rfl)) rfl, by decide, rfl⟩
theorem kX12_drawn : zcV mX12_drawn 4 12 := ⟨⟨z_mem (z_tH (List.mem_of_getElem? (i := 163) rfl)) rfl, wi_X12, by decide, by decide, by decide +kernel⟩, z_mem (z_tH (List.mem_of_getElem? (i := 161) rfl)) rfl, z_mem (z_tH (List.mem_of_getElem? (i := 162) rfl)) rfl, by decide, rfl⟩
theorem kX12_count : zcV mX12_count 1 12 := ⟨⟨z_mem (z_tH (List.mem_of_getElem? (i := 176) rfl)) rfl, wi_X12, by decide, by decide, by decide +kernel⟩, z_mem (z_tH (List.mem_of_getElem? (i := 174) rfl)) rfl, z_mem (z_tH (List.mem_of_getElem? (i := 175) rfl)) rfl, by decide, rfl⟩
theorem kX12_image : zcV mX12_image 1 12 := ⟨⟨z_mem (z_tH (List.mem_of_getElem? (i := 180) rfl)) rfl, wi_X12, by decide, by decide, by decide +kernel⟩, z_mem (z_tH (List.mem_of_getElem? (i := 178) rfl)) rfl, z_mem (z_tH (List.mem_of_getElem? (i := 179) rfl)) rfl, by decide, rfl⟩
theorem kX12_again : zcV mX12_again 1 12 := ⟨⟨z_mem (z_tH (List.mem_of_getElem? (i := 184) rfl)) rfl, wi_X12, by decide, by decide, by decide +kernel⟩, z_mem (z_tH (List.mem_of_getElem? (i := 182) rfl)) rfl, z_mem (z_tH (List.mem_of_getElem? (i := 183) rfl)) rfl, by decide, rfl⟩
theorem kJ6_bitCount_0f7a4 : zcS (mJ6_bitCount_0f7a4) 1 := ⟨⟨z_mem (z_tE (List.mem_of_getElem? (i := 147) rfl)) rfl, wi_J6, by decide, by decide, by decide +kernel⟩, z_mem (z_tE (List.mem_of_getElem? (i := 146) rfl)) rfl⟩
theorem kJ7_fill_53178 : zcS (mJ7_fill_53178) 2 := ⟨⟨z_mem (z_tB (List.mem_of_getElem? (i := 231) rfl)) rfl, wi_J7, by decide, by decide, by decide +kernel⟩, z_mem (z_tB (List.mem_of_getElem? (i := 230) rfl)) rfl⟩
theorem wm_X0_3 : Cond.methodLink RX0 3 Lib.objectInit ∈ zGW := z_mem (z_tA (List.mem_of_getElem? (i := 98) rfl)) rfl
theorem wf_X0_9 : Cond.fieldLink RX0 9 (zRn 0) (zTb 0 1).2.1 (zTb 0 1).2.2.1 ∈ zGW := z_mem (z_tA (List.mem_of_getElem? (i := 102) rfl)) rfl
theorem wf_X0_15 : Cond.fieldLink RX0 15 (zRn 0) (zTb 0 2).2.1 (zTb 0 2).2.2.1 ∈ zGW := z_mem (z_tA (List.mem_of_getElem? (i := 105) rfl)) rfl
theorem wf_X0_18 : Cond.fieldLink RX0 18 (zRn 0) (zTb 0 3).2.1 (zTb 0 3).2.2.1 ∈ zGW := z_mem (z_tA (List.mem_of_getElem? (i := 108) rfl)) rfl
theorem wf_X0_21 : Cond.fieldLink RX0 21 (zRn 0) (zTb 0 0).2.1 (zTb 0 0).2.2.1 ∈ zGW := z_mem (z_tA (List.mem_of_getElem? (i := 99) rfl)) rfl
theorem wm_X0_25 : zln RX0 25 yX11_copyRow := Or.inr ⟨_, z_mem (z_tC (List.mem_of_getElem? (i := 212) rfl)) rfl⟩
theorem wm_X0_29 : zln RX0 29 yX11_got := Or.inr ⟨_, z_mem (z_tD (List.mem_of_getElem? (i := 34) rfl)) rfl⟩
theorem wm_X1_3 : Cond.methodLink RX1 3 Lib.objectInit ∈ zGW := z_mem (z_tB (List.mem_of_getElem? (i := 103) rfl)) rfl
theorem wc_X1_9 : Cond.classLink RX1 9 RX3 ∈ zGW := z_mem (z_tB (List.mem_of_getElem? (i := 104) rfl)) rfl
theorem wm_X1_11 : zln RX1 11 yX3_init := Or.inr ⟨_, z_mem (z_tB (List.mem_of_getElem? (i := 105) rfl)) rfl⟩
theorem wf_X1_12 : Cond.fieldLink RX1 12 (zRn 1) (zTb 1 0).2.1 (zTb 1 0).2.2.1 ∈ zGW := z_mem (z_tB (List.mem_of_getElem? (i := 106) rfl)) rfl
theorem wf_X1_18 : Cond.fieldLink RX1 18 (zRn 1) (zTb 1 2).2.1 (zTb 1 2).2.2.1 ∈ zGW := z_mem (z_tB (List.mem_of_getElem? (i := 109) rfl)) rfl
theorem wf_X1_22 : Cond.fieldLink RX1 22 (zRn 1) (zTb 1 3).2.1 (zTb 1 3).2.2.1 ∈ zGW := z_mem (z_tB (List.mem_of_getElem? (i := 110) rfl)) rfl
theorem wf_X1_25 : Cond.fieldLink RX1 25 (zRn 1) (zTb 1 4).2.1 (zTb 1 4).2.2.1 ∈ zGW := z_mem (z_tB (List.mem_of_getElem? (i := 111) rfl)) rfl
theorem wm_X1_28 : zln RX1 28 yX4_hasLine := Or.inl (z_mem (z_tD (List.mem_of_getElem? (i := 147) rfl)) rfl)
theorem wf_X1_34 : Cond.fieldLink RX1 34 (zRn 4) (zTb 4 1).2.1 (zTb 4 1).2.2.1 ∈ zGW := z_mem (z_tA (List.mem_of_getElem? (i := 128) rfl)) rfl
theorem wm_X1_37 : zln RX1 37 yX11_got := Or.inr ⟨_, z_mem (z_tD (List.mem_of_getElem? (i := 148) rfl)) rfl⟩
theorem wf_X1_41 : Cond.fieldLink RX1 41 (zRn 1) (zTb 1 1).2.1 (zTb 1 1).2.2.1 ∈ zGW := z_mem (z_tB (List.mem_of_getElem? (i := 107) rfl)) rfl
theorem wm_X1_45 : zln RX1 45 yX4_letterOf := Or.inl (z_mem (z_tD (List.mem_of_getElem? (i := 149) rfl)) rfl)
theorem wm_X1_49 : zln RX1 49 yX11_put := Or.inr ⟨_, z_mem (z_tD (List.mem_of_getElem? (i := 150) rfl)) rfl⟩
theorem wm_X1_53 : zln RX1 53 yX3_beginningWith := Or.inl (z_mem (z_tD (List.mem_of_getElem? (i := 155) rfl)) rfl)
theorem wm_X1_57 : zln RX1 57 yX1_heard := Or.inl (z_mem (z_tD (List.mem_of_getElem? (i := 160) rfl)) rfl)
theorem wm_X1_61 : zln RX1 61 yX11_has := Or.inr ⟨_, z_mem (z_tD (List.mem_of_getElem? (i := 161) rfl)) rfl⟩
theorem wm_X1_65 : zln RX1 65 yX3_oftenOf := Or.inl (z_mem (z_tD (List.mem_of_getElem? (i := 162) rfl)) rfl)
theorem wm_X1_69 : zln RX1 69 yX3_sizeOf := Or.inl (z_mem (z_tD (List.mem_of_getElem? (i := 208) rfl)) rfl)
theorem wm_X1_72 : zln RX1 72 yX3_letterOf := Or.inl (z_mem (z_tD (List.mem_of_getElem? (i := 238) rfl)) rfl)
theorem wm_X1_73 : zln RX1 73 yX11_bit := Or.inr ⟨_, z_mem (z_tE (List.mem_of_getElem? (i := 0) rfl)) rfl⟩
theorem wm_X1_76 : zln RX1 76 yX1_lettersBehind := Or.inl (z_mem (z_tE (List.mem_of_getElem? (i := 199) rfl)) rfl)
theorem wm_X1_79 : zln RX1 79 yX1_oftenGoingOn := Or.inl (z_mem (z_tE (List.mem_of_getElem? (i := 200) rfl)) rfl)
theorem wm_X1_82 : zln RX1 82 yX1_countReadings := Or.inl (z_mem (z_tD (List.mem_of_getElem? (i := 203) rfl)) rfl)
theorem wm_X1_85 : zln RX1 85 yJ7_fill_53178 := Or.inl (z_mem (z_tD (List.mem_of_getElem? (i := 207) rfl)) rfl)
theorem wf_X1_91 : Cond.fieldLink RX1 91 (zRn 3) (zTb 3 1).2.1 (zTb 3 1).2.2.1 ∈ zGW := z_mem (z_tA (List.mem_of_getElem? (i := 54) rfl)) rfl
theorem wm_X1_94 : zln RX1 94 yX3_changesAt := Or.inl (z_mem (z_tD (List.mem_of_getElem? (i := 209) rfl)) rfl)
theorem wm_X1_98 : zln RX1 98 yX1_readingsBehind := Or.inl (z_mem (z_tD (List.mem_of_getElem? (i := 213) rfl)) rfl)
theorem wm_X1_101 : zln RX1 101 yX3_behind := Or.inl (z_mem (z_tD (List.mem_of_getElem? (i := 217) rfl)) rfl)
theorem wm_X1_104 : zln RX1 104 yX1_leastReadAt := Or.inl (z_mem (z_tD (List.mem_of_getElem? (i := 222) rfl)) rfl)
theorem wm_X1_107 : zln RX1 107 yX1_fewestBehind := Or.inl (z_mem (z_tE (List.mem_of_getElem? (i := 208) rfl)) rfl)
theorem wm_X1_110 : zln RX1 110 yX3_all := Or.inl (z_mem (z_tE (List.mem_of_getElem? (i := 212) rfl)) rfl)
theorem wm_X1_113 : Cond.methodLink RX1 113 Lib.Math.min.name ∈ zGW := z_mem (z_tD (List.mem_of_getElem? (i := 239) rfl)) rfl
theorem wm_X1_118 : zln RX1 118 yX1_changesTo := Or.inl (z_mem (z_tD (List.mem_of_getElem? (i := 234) rfl)) rfl)
theorem wf_X1_122 : Cond.fieldLink RX1 122 (zRn 3) (zTb 3 7).2.1 (zTb 3 7).2.2.1 ∈ zGW := z_mem (z_tA (List.mem_of_getElem? (i := 70) rfl)) rfl
theorem wm_X1_125 : zln RX1 125 yX1_changesBetween := Or.inl (z_mem (z_tF (List.mem_of_getElem? (i := 4) rfl)) rfl)
theorem wm_X2_3 : Cond.methodLink RX2 3 Lib.objectInit ∈ zGW := z_mem (z_tB (List.mem_of_getElem? (i := 59) rfl)) rfl
theorem wc_X2_9 : Cond.classLink RX2 9 RX3 ∈ zGW := z_mem (z_tB (List.mem_of_getElem? (i := 60) rfl)) rfl
theorem wm_X2_11 : zln RX2 11 yX3_init := Or.inr ⟨_, z_mem (z_tB (List.mem_of_getElem? (i := 61) rfl)) rfl⟩
theorem wf_X2_12 : Cond.fieldLink RX2 12 (zRn 2) (zTb 2 0).2.1 (zTb 2 0).2.2.1 ∈ zGW := z_mem (z_tB (List.mem_of_getElem? (i := 62) rfl)) rfl
theorem wf_X2_18 : Cond.fieldLink RX2 18 (zRn 2) (zTb 2 4).2.1 (zTb 2 4).2.2.1 ∈ zGW := z_mem (z_tB (List.mem_of_getElem? (i := 68) rfl)) rfl
theorem wf_X2_22 : Cond.fieldLink RX2 22 (zRn 2) (zTb 2 5).2.1 (zTb 2 5).2.2.1 ∈ zGW := z_mem (z_tB (List.mem_of_getElem? (i := 69) rfl)) rfl
theorem wf_X2_25 : Cond.fieldLink RX2 25 (zRn 2) (zTb 2 6).2.1 (zTb 2 6).2.2.1 ∈ zGW := z_mem (z_tB (List.mem_of_getElem? (i := 70) rfl)) rfl
theorem wf_X2_28 : Cond.fieldLink RX2 28 (zRn 2) (zTb 2 7).2.1 (zTb 2 7).2.2.1 ∈ zGW := z_mem (z_tB (List.mem_of_getElem? (i := 71) rfl)) rfl
theorem wf_X2_31 : Cond.fieldLink RX2 31 (zRn 2) (zTb 2 8).2.1 (zTb 2 8).2.2.1 ∈ zGW := z_mem (z_tB (List.mem_of_getElem? (i := 72) rfl)) rfl
theorem wf_X2_34 : Cond.fieldLink RX2 34 (zRn 2) (zTb 2 9).2.1 (zTb 2 9).2.2.1 ∈ zGW := z_mem (z_tB (List.mem_of_getElem? (i := 73) rfl)) rfl
theorem wf_X2_37 : Cond.fieldLink RX2 37 (zRn 2) (zTb 2 10).2.1 (zTb 2 10).2.2.1 ∈ zGW := z_mem (z_tB (List.mem_of_getElem? (i := 74) rfl)) rfl
theorem wf_X2_40 : Cond.fieldLink RX2 40 (zRn 2) (zTb 2 1).2.1 (zTb 2 1).2.2.1 ∈ zGW := z_mem (z_tB (List.mem_of_getElem? (i := 63) rfl)) rfl
theorem wf_X2_44 : Cond.fieldLink RX2 44 (zRn 2) (zTb 2 2).2.1 (zTb 2 2).2.2.1 ∈ zGW := z_mem (z_tB (List.mem_of_getElem? (i := 64) rfl)) rfl
theorem wf_X2_47 : Cond.fieldLink RX2 47 (zRn 2) (zTb 2 3).2.1 (zTb 2 3).2.2.1 ∈ zGW := z_mem (z_tB (List.mem_of_getElem? (i := 66) rfl)) rfl
theorem wm_X2_50 : zln RX2 50 yJ7_fill_53178 := Or.inl (z_mem (z_tD (List.mem_of_getElem? (i := 47) rfl)) rfl)
theorem wm_X2_56 : zln RX2 56 yX2_begin := Or.inl (z_mem (z_tD (List.mem_of_getElem? (i := 43) rfl)) rfl)
theorem wf_X2_60 : Cond.fieldLink RX2 60 (zRn 0) (zTb 0 1).2.1 (zTb 0 1).2.2.1 ∈ zGW := z_mem (z_tA (List.mem_of_getElem? (i := 103) rfl)) rfl
theorem wm_X2_65 : zln RX2 65 yX11_got := Or.inr ⟨_, z_mem (z_tD (List.mem_of_getElem? (i := 48) rfl)) rfl⟩
theorem wf_X2_69 : Cond.fieldLink RX2 69 (zRn 0) (zTb 0 2).2.1 (zTb 0 2).2.2.1 ∈ zGW := z_mem (z_tA (List.mem_of_getElem? (i := 106) rfl)) rfl
theorem wf_X2_72 : Cond.fieldLink RX2 72 (zRn 0) (zTb 0 3).2.1 (zTb 0 3).2.2.1 ∈ zGW := z_mem (z_tA (List.mem_of_getElem? (i := 109) rfl)) rfl
theorem wm_X2_73 : zln RX2 73 yX2_does := Or.inl (z_mem (z_tD (List.mem_of_getElem? (i := 49) rfl)) rfl)
theorem wm_X2_77 : zln RX2 77 yX2_stir := Or.inl (z_mem (z_tE (List.mem_of_getElem? (i := 180) rfl)) rfl)
theorem wm_X2_81 : zln RX2 81 yX2_below := Or.inl (z_mem (z_tE (List.mem_of_getElem? (i := 184) rfl)) rfl)
theorem wf_X2_85 : Cond.fieldLink RX2 85 (zRn 3) (zTb 3 0).2.1 (zTb 3 0).2.2.1 ∈ zGW := z_mem (z_tA (List.mem_of_getElem? (i := 50) rfl)) rfl
theorem wk_X2_87 : Cond.constant RX2 87 (1103515245) ∈ zGW := z_mem (z_tE (List.mem_of_getElem? (i := 183) rfl)) rfl
theorem wm_X2_88 : zln RX2 88 yX2_isStone := Or.inl (z_mem (z_tD (List.mem_of_getElem? (i := 53) rfl)) rfl)
theorem wm_X2_92 : zln RX2 92 yX11_has := Or.inr ⟨_, z_mem (z_tD (List.mem_of_getElem? (i := 57) rfl)) rfl⟩
theorem wm_X2_96 : zln RX2 96 yX2_freeze := Or.inl (z_mem (z_tD (List.mem_of_getElem? (i := 60) rfl)) rfl)
theorem wm_X2_99 : zln RX2 99 yX2_falsify := Or.inl (z_mem (z_tD (List.mem_of_getElem? (i := 84) rfl)) rfl)
theorem wm_X2_102 : zln RX2 102 yX2_overgrow := Or.inl (z_mem (z_tD (List.mem_of_getElem? (i := 88) rfl)) rfl)
theorem wm_X2_105 : zln RX2 105 yX2_chipOff := Or.inl (z_mem (z_tD (List.mem_of_getElem? (i := 93) rfl)) rfl)
theorem wm_X2_108 : zln RX2 108 yX11_bit := Or.inr ⟨_, z_mem (z_tD (List.mem_of_getElem? (i := 97) rfl)) rfl⟩
theorem wm_X2_111 : zln RX2 111 yX11_put := Or.inr ⟨_, z_mem (z_tD (List.mem_of_getElem? (i := 64) rfl)) rfl⟩
theorem wm_X2_115 : zln RX2 115 yX2_open := Or.inl (z_mem (z_tD (List.mem_of_getElem? (i := 65) rfl)) rfl)
theorem wm_X2_118 : zln RX2 118 yX2_fitting := Or.inl (z_mem (z_tD (List.mem_of_getElem? (i := 69) rfl)) rfl)
theorem wm_X2_121 : Cond.methodLink RX2 121 Lib.Math.max.name ∈ zGW := z_mem (z_tD (List.mem_of_getElem? (i := 79) rfl)) rfl
theorem wm_X2_126 : zln RX2 126 yX2_add := Or.inl (z_mem (z_tD (List.mem_of_getElem? (i := 80) rfl)) rfl)
theorem wf_X2_130 : Cond.fieldLink RX2 130 (zRn 3) (zTb 3 1).2.1 (zTb 3 1).2.2.1 ∈ zGW := z_mem (z_tA (List.mem_of_getElem? (i := 56) rfl)) rfl
theorem wm_X2_133 : zln RX2 133 yX3_sizeOf := Or.inl (z_mem (z_tD (List.mem_of_getElem? (i := 92) rfl)) rfl)
theorem wm_X2_136 : zln RX2 136 yX3_beginningWith := Or.inl (z_mem (z_tD (List.mem_of_getElem? (i := 73) rfl)) rfl)
theorem wm_X2_140 : zln RX2 140 yX3_behind := Or.inl (z_mem (z_tD (List.mem_of_getElem? (i := 78) rfl)) rfl)
theorem wm_X2_143 : zln RX2 143 yX2_lookAtLetter := Or.inl (z_mem (z_tD (List.mem_of_getElem? (i := 106) rfl)) rfl)
theorem wm_X2_146 : zln RX2 146 yX2_lookAtStone := Or.inl (z_mem (z_tD (List.mem_of_getElem? (i := 110) rfl)) rfl)
theorem wm_X2_149 : zln RX2 149 yX2_forgeriesOn := Or.inl (z_mem (z_tD (List.mem_of_getElem? (i := 114) rfl)) rfl)
theorem wm_X3_3 : Cond.methodLink RX3 3 Lib.objectInit ∈ zGW := z_mem (z_tA (List.mem_of_getElem? (i := 48) rfl)) rfl
theorem wf_X3_9 : Cond.fieldLink RX3 9 (zRn 3) (zTb 3 0).2.1 (zTb 3 0).2.2.1 ∈ zGW := z_mem (z_tA (List.mem_of_getElem? (i := 49) rfl)) rfl
theorem wf_X3_15 : Cond.fieldLink RX3 15 (zRn 3) (zTb 3 4).2.1 (zTb 3 4).2.2.1 ∈ zGW := z_mem (z_tA (List.mem_of_getElem? (i := 61) rfl)) rfl
theorem wf_X3_19 : Cond.fieldLink RX3 19 (zRn 3) (zTb 3 5).2.1 (zTb 3 5).2.2.1 ∈ zGW := z_mem (z_tA (List.mem_of_getElem? (i := 63) rfl)) rfl
theorem wf_X3_22 : Cond.fieldLink RX3 22 (zRn 3) (zTb 3 6).2.1 (zTb 3 6).2.2.1 ∈ zGW := z_mem (z_tA (List.mem_of_getElem? (i := 65) rfl)) rfl
theorem wf_X3_25 : Cond.fieldLink RX3 25 (zRn 3) (zTb 3 7).2.1 (zTb 3 7).2.2.1 ∈ zGW := z_mem (z_tA (List.mem_of_getElem? (i := 67) rfl)) rfl
theorem wf_X3_28 : Cond.fieldLink RX3 28 (zRn 3) (zTb 3 8).2.1 (zTb 3 8).2.2.1 ∈ zGW := z_mem (z_tA (List.mem_of_getElem? (i := 71) rfl)) rfl
theorem wf_X3_31 : Cond.fieldLink RX3 31 (zRn 3) (zTb 3 1).2.1 (zTb 3 1).2.2.1 ∈ zGW := z_mem (z_tA (List.mem_of_getElem? (i := 52) rfl)) rfl
theorem wf_X3_34 : Cond.fieldLink RX3 34 (zRn 3) (zTb 3 2).2.1 (zTb 3 2).2.2.1 ∈ zGW := z_mem (z_tA (List.mem_of_getElem? (i := 57) rfl)) rfl
theorem wf_X3_38 : Cond.fieldLink RX3 38 (zRn 3) (zTb 3 3).2.1 (zTb 3 3).2.2.1 ∈ zGW := z_mem (z_tA (List.mem_of_getElem? (i := 59) rfl)) rfl
theorem wm_X3_41 : zln RX3 41 yJ7_fill_53178 := Or.inl (z_mem (z_tB (List.mem_of_getElem? (i := 229) rfl)) rfl)
theorem wm_X3_47 : zln RX3 47 yX11_copyRow := Or.inr ⟨_, z_mem (z_tC (List.mem_of_getElem? (i := 202) rfl)) rfl⟩
theorem wm_X3_51 : zln RX3 51 yX3_hasWord := Or.inl (z_mem (z_tD (List.mem_of_getElem? (i := 2) rfl)) rfl)
theorem wm_X3_55 : zln RX3 55 yX3_sizeOf := Or.inl (z_mem (z_tC (List.mem_of_getElem? (i := 180) rfl)) rfl)
theorem wm_X3_59 : zln RX3 59 yX3_letterOf := Or.inl (z_mem (z_tC (List.mem_of_getElem? (i := 190) rfl)) rfl)
theorem wm_X3_63 : zln RX3 63 yX11_got := Or.inr ⟨_, z_mem (z_tC (List.mem_of_getElem? (i := 184) rfl)) rfl⟩
theorem wm_X3_67 : zln RX3 67 yX3_lookAtWord := Or.inl (z_mem (z_tD (List.mem_of_getElem? (i := 6) rfl)) rfl)
theorem wm_X3_70 : zln RX3 70 yX3_oftenOf := Or.inl (z_mem (z_tD (List.mem_of_getElem? (i := 10) rfl)) rfl)
theorem wm_X3_73 : zln RX3 73 yX3_behind := Or.inl (z_mem (z_tD (List.mem_of_getElem? (i := 14) rfl)) rfl)
theorem wm_X3_76 : zln RX3 76 yX3_all := Or.inl (z_mem (z_tD (List.mem_of_getElem? (i := 18) rfl)) rfl)
theorem wm_X3_80 : zln RX3 80 yX11_has := Or.inr ⟨_, z_mem (z_tD (List.mem_of_getElem? (i := 175) rfl)) rfl⟩
theorem wm_X3_84 : zln RX3 84 yX11_bit := Or.inr ⟨_, z_mem (z_tD (List.mem_of_getElem? (i := 77) rfl)) rfl⟩
theorem wm_X3_87 : Cond.methodLink RX3 87 Lib.Math.min.name ∈ zGW := z_mem (z_tC (List.mem_of_getElem? (i := 189) rfl)) rfl
theorem wm_X3_92 : zln RX3 92 yX3_sameLettersAtFirst := Or.inl (z_mem (z_tC (List.mem_of_getElem? (i := 185) rfl)) rfl)
theorem wm_X3_95 : zln RX3 95 yX3_lettersToTell := Or.inl (z_mem (z_tD (List.mem_of_getElem? (i := 190) rfl)) rfl)
theorem wm_X3_99 : Cond.methodLink RX3 99 Lib.Math.max.name ∈ zGW := z_mem (z_tD (List.mem_of_getElem? (i := 194) rfl)) rfl
theorem wm_X3_102 : zln RX3 102 yX3_lettersTillSure := Or.inl (z_mem (z_tE (List.mem_of_getElem? (i := 14) rfl)) rfl)
theorem wm_X3_105 : zln RX3 105 yX3_oftenOfAll := Or.inl (z_mem (z_tE (List.mem_of_getElem? (i := 15) rfl)) rfl)
theorem wm_X3_108 : zln RX3 108 yX3_isWithin := Or.inl (z_mem (z_tF (List.mem_of_getElem? (i := 14) rfl)) rfl)
theorem wm_X3_111 : zln RX3 111 yX3_wordsWithin := Or.inl (z_mem (z_tF (List.mem_of_getElem? (i := 19) rfl)) rfl)
theorem wm_X4_3 : Cond.methodLink RX4 3 Lib.objectInit ∈ zGW := z_mem (z_tA (List.mem_of_getElem? (i := 124) rfl)) rfl
theorem wf_X4_9 : Cond.fieldLink RX4 9 (zRn 4) (zTb 4 1).2.1 (zTb 4 1).2.2.1 ∈ zGW := z_mem (z_tA (List.mem_of_getElem? (i := 127) rfl)) rfl
theorem wf_X4_15 : Cond.fieldLink RX4 15 (zRn 4) (zTb 4 2).2.1 (zTb 4 2).2.2.1 ∈ zGW := z_mem (z_tA (List.mem_of_getElem? (i := 130) rfl)) rfl
theorem wf_X4_18 : Cond.fieldLink RX4 18 (zRn 4) (zTb 4 0).2.1 (zTb 4 0).2.2.1 ∈ zGW := z_mem (z_tA (List.mem_of_getElem? (i := 125) rfl)) rfl
theorem wm_X4_22 : zln RX4 22 yX11_copyRow := Or.inr ⟨_, z_mem (z_tC (List.mem_of_getElem? (i := 216) rfl)) rfl⟩
theorem wm_X4_26 : zln RX4 26 yX11_got := Or.inr ⟨_, z_mem (z_tD (List.mem_of_getElem? (i := 134) rfl)) rfl⟩
theorem wm_X4_30 : zln RX4 30 yX4_hasLine := Or.inl (z_mem (z_tD (List.mem_of_getElem? (i := 130) rfl)) rfl)
theorem wm_X4_34 : zln RX4 34 yX4_letterOf := Or.inl (z_mem (z_tD (List.mem_of_getElem? (i := 135) rfl)) rfl)
theorem wm_X4_38 : zln RX4 38 yX4_sameFrom := Or.inl (z_mem (z_tE (List.mem_of_getElem? (i := 222) rfl)) rfl)
theorem wm_X4_42 : Cond.methodLink RX4 42 Lib.Math.min.name ∈ zGW := z_mem (z_tE (List.mem_of_getElem? (i := 226) rfl)) rfl
theorem wm_X5_3 : Cond.methodLink RX5 3 Lib.objectInit ∈ zGW := z_mem (z_tA (List.mem_of_getElem? (i := 143) rfl)) rfl
theorem wf_X5_9 : Cond.fieldLink RX5 9 (zRn 5) (zTb 5 1).2.1 (zTb 5 1).2.2.1 ∈ zGW := z_mem (z_tA (List.mem_of_getElem? (i := 147) rfl)) rfl
theorem wf_X5_15 : Cond.fieldLink RX5 15 (zRn 5) (zTb 5 2).2.1 (zTb 5 2).2.2.1 ∈ zGW := z_mem (z_tA (List.mem_of_getElem? (i := 150) rfl)) rfl
theorem wf_X5_18 : Cond.fieldLink RX5 18 (zRn 5) (zTb 5 0).2.1 (zTb 5 0).2.2.1 ∈ zGW := z_mem (z_tA (List.mem_of_getElem? (i := 144) rfl)) rfl
theorem wm_X5_22 : zln RX5 22 yX11_copyRow := Or.inr ⟨_, z_mem (z_tC (List.mem_of_getElem? (i := 220) rfl)) rfl⟩
theorem wm_X5_26 : zln RX5 26 yX11_got := Or.inr ⟨_, z_mem (z_tE (List.mem_of_getElem? (i := 92) rfl)) rfl⟩
theorem wm_X5_30 : Cond.methodLink RX5 30 Lib.Math.max.name ∈ zGW := z_mem (z_tE (List.mem_of_getElem? (i := 105) rfl)) rfl
theorem wm_X6_3 : Cond.methodLink RX6 3 Lib.objectInit ∈ zGW := z_mem (z_tA (List.mem_of_getElem? (i := 198) rfl)) rfl
theorem wc_X6_9 : Cond.classLink RX6 9 RX3 ∈ zGW := z_mem (z_tA (List.mem_of_getElem? (i := 199) rfl)) rfl
theorem wm_X6_11 : zln RX6 11 yX3_init := Or.inr ⟨_, z_mem (z_tA (List.mem_of_getElem? (i := 200) rfl)) rfl⟩
theorem wf_X6_12 : Cond.fieldLink RX6 12 (zRn 6) (zTb 6 0).2.1 (zTb 6 0).2.2.1 ∈ zGW := z_mem (z_tA (List.mem_of_getElem? (i := 239) rfl)) rfl
theorem wc_X6_18 : Cond.classLink RX6 18 RX0 ∈ zGW := z_mem (z_tA (List.mem_of_getElem? (i := 201) rfl)) rfl
theorem wm_X6_20 : zln RX6 20 yX0_init := Or.inr ⟨_, z_mem (z_tA (List.mem_of_getElem? (i := 202) rfl)) rfl⟩
theorem wf_X6_21 : Cond.fieldLink RX6 21 (zRn 6) (zTb 6 1).2.1 (zTb 6 1).2.2.1 ∈ zGW := z_mem (z_tB (List.mem_of_getElem? (i := 1) rfl)) rfl
theorem wc_X6_25 : Cond.classLink RX6 25 RX4 ∈ zGW := z_mem (z_tA (List.mem_of_getElem? (i := 203) rfl)) rfl
theorem wm_X6_27 : zln RX6 27 yX4_init := Or.inr ⟨_, z_mem (z_tA (List.mem_of_getElem? (i := 204) rfl)) rfl⟩
theorem wf_X6_28 : Cond.fieldLink RX6 28 (zRn 6) (zTb 6 2).2.1 (zTb 6 2).2.2.1 ∈ zGW := z_mem (z_tB (List.mem_of_getElem? (i := 3) rfl)) rfl
theorem wc_X6_32 : Cond.classLink RX6 32 RX5 ∈ zGW := z_mem (z_tA (List.mem_of_getElem? (i := 205) rfl)) rfl
theorem wm_X6_34 : zln RX6 34 yX5_init := Or.inr ⟨_, z_mem (z_tA (List.mem_of_getElem? (i := 206) rfl)) rfl⟩
theorem wf_X6_35 : Cond.fieldLink RX6 35 (zRn 6) (zTb 6 3).2.1 (zTb 6 3).2.2.1 ∈ zGW := z_mem (z_tB (List.mem_of_getElem? (i := 5) rfl)) rfl
theorem wc_X6_39 : Cond.classLink RX6 39 RX8 ∈ zGW := z_mem (z_tA (List.mem_of_getElem? (i := 207) rfl)) rfl
theorem wm_X6_41 : zln RX6 41 yX8_init := Or.inr ⟨_, z_mem (z_tA (List.mem_of_getElem? (i := 209) rfl)) rfl⟩
theorem wf_X6_42 : Cond.fieldLink RX6 42 (zRn 6) (zTb 6 6).2.1 (zTb 6 6).2.2.1 ∈ zGW := z_mem (z_tB (List.mem_of_getElem? (i := 11) rfl)) rfl
theorem wf_X6_46 : Cond.fieldLink RX6 46 (zRn 6) (zTb 6 7).2.1 (zTb 6 7).2.2.1 ∈ zGW := z_mem (z_tB (List.mem_of_getElem? (i := 12) rfl)) rfl
theorem wm_X6_50 : zln RX6 50 yX8_begin := Or.inl (z_mem (z_tB (List.mem_of_getElem? (i := 221) rfl)) rfl)
theorem wf_X6_54 : Cond.fieldLink RX6 54 (zRn 6) (zTb 6 4).2.1 (zTb 6 4).2.2.1 ∈ zGW := z_mem (z_tB (List.mem_of_getElem? (i := 7) rfl)) rfl
theorem wf_X6_58 : Cond.fieldLink RX6 58 (zRn 6) (zTb 6 5).2.1 (zTb 6 5).2.2.1 ∈ zGW := z_mem (z_tB (List.mem_of_getElem? (i := 9) rfl)) rfl
theorem wm_X6_61 : zln RX6 61 yX3_clear := Or.inl (z_mem (z_tB (List.mem_of_getElem? (i := 225) rfl)) rfl)
theorem wf_X6_64 : Cond.fieldLink RX6 64 (zRn 0) (zTb 0 0).2.1 (zTb 0 0).2.2.1 ∈ zGW := z_mem (z_tA (List.mem_of_getElem? (i := 100) rfl)) rfl
theorem wf_X6_67 : Cond.fieldLink RX6 67 (zRn 4) (zTb 4 0).2.1 (zTb 4 0).2.2.1 ∈ zGW := z_mem (z_tA (List.mem_of_getElem? (i := 126) rfl)) rfl
theorem wf_X6_68 : Cond.fieldLink RX6 68 (zRn 5) (zTb 5 0).2.1 (zTb 5 0).2.2.1 ∈ zGW := z_mem (z_tA (List.mem_of_getElem? (i := 145) rfl)) rfl
theorem wm_X6_69 : zln RX6 69 yX8_step := Or.inl (z_mem (z_tB (List.mem_of_getElem? (i := 232) rfl)) rfl)
theorem wf_X6_72 : Cond.fieldLink RX6 72 (zRn 8) (zTb 8 3).2.1 (zTb 8 3).2.2.1 ∈ zGW := z_mem (z_tA (List.mem_of_getElem? (i := 216) rfl)) rfl
theorem wm_X6_75 : zln RX6 75 yX6_keyOf := Or.inl (z_mem (z_tC (List.mem_of_getElem? (i := 14) rfl)) rfl)
theorem wm_X6_79 : zln RX6 79 yX6_readOne := Or.inl (z_mem (z_tC (List.mem_of_getElem? (i := 93) rfl)) rfl)
theorem wm_X6_83 : zln RX6 83 yX6_lookAtHill := Or.inl (z_mem (z_tC (List.mem_of_getElem? (i := 172) rfl)) rfl)
theorem wf_X6_87 : Cond.fieldLink RX6 87 (zRn 8) (zTb 8 4).2.1 (zTb 8 4).2.2.1 ∈ zGW := z_mem (z_tA (List.mem_of_getElem? (i := 218) rfl)) rfl
theorem wf_X6_90 : Cond.fieldLink RX6 90 (zRn 6) (zTb 6 8).2.1 (zTb 6 8).2.2.1 ∈ zGW := z_mem (z_tB (List.mem_of_getElem? (i := 13) rfl)) rfl
theorem wm_X6_93 : zln RX6 93 yX6_refuse := Or.inl (z_mem (z_tC (List.mem_of_getElem? (i := 97) rfl)) rfl)
theorem wm_X6_97 : zln RX6 97 yX6_keepFirst := Or.inl (z_mem (z_tC (List.mem_of_getElem? (i := 101) rfl)) rfl)
theorem wm_X6_100 : zln RX6 100 yX6_keepSecond := Or.inl (z_mem (z_tC (List.mem_of_getElem? (i := 105) rfl)) rfl)
theorem wm_X6_103 : zln RX6 103 yX6_tell := Or.inl (z_mem (z_tC (List.mem_of_getElem? (i := 109) rfl)) rfl)
theorem wf_X6_106 : Cond.fieldLink RX6 106 (zRn 6) (zTb 6 10).2.1 (zTb 6 10).2.2.1 ∈ zGW := z_mem (z_tB (List.mem_of_getElem? (i := 15) rfl)) rfl
theorem wf_X6_109 : Cond.fieldLink RX6 109 (zRn 8) (zTb 8 5).2.1 (zTb 8 5).2.2.1 ∈ zGW := z_mem (z_tA (List.mem_of_getElem? (i := 221) rfl)) rfl
theorem wf_X6_110 : Cond.fieldLink RX6 110 (zRn 6) (zTb 6 11).2.1 (zTb 6 11).2.2.1 ∈ zGW := z_mem (z_tB (List.mem_of_getElem? (i := 16) rfl)) rfl
theorem wf_X6_113 : Cond.fieldLink RX6 113 (zRn 8) (zTb 8 6).2.1 (zTb 8 6).2.2.1 ∈ zGW := z_mem (z_tA (List.mem_of_getElem? (i := 222) rfl)) rfl
theorem wf_X6_116 : Cond.fieldLink RX6 116 (zRn 6) (zTb 6 12).2.1 (zTb 6 12).2.2.1 ∈ zGW := z_mem (z_tB (List.mem_of_getElem? (i := 17) rfl)) rfl
theorem wf_X6_119 : Cond.fieldLink RX6 119 (zRn 6) (zTb 6 13).2.1 (zTb 6 13).2.2.1 ∈ zGW := z_mem (z_tB (List.mem_of_getElem? (i := 18) rfl)) rfl
theorem wf_X6_122 : Cond.fieldLink RX6 122 (zRn 6) (zTb 6 14).2.1 (zTb 6 14).2.2.1 ∈ zGW := z_mem (z_tB (List.mem_of_getElem? (i := 19) rfl)) rfl
theorem wf_X6_125 : Cond.fieldLink RX6 125 (zRn 6) (zTb 6 15).2.1 (zTb 6 15).2.2.1 ∈ zGW := z_mem (z_tB (List.mem_of_getElem? (i := 20) rfl)) rfl
theorem wm_X6_128 : zln RX6 128 yX6_hillKey := Or.inl (z_mem (z_tC (List.mem_of_getElem? (i := 18) rfl)) rfl)
theorem wm_X6_132 : zln RX6 132 yX6_centuryKey := Or.inl (z_mem (z_tC (List.mem_of_getElem? (i := 78) rfl)) rfl)
theorem wm_X6_137 : zln RX6 137 yX8_is := Or.inl (z_mem (z_tC (List.mem_of_getElem? (i := 23) rfl)) rfl)
theorem wm_X6_151 : zln RX6 151 yX6_deedOfToken := Or.inl (z_mem (z_tC (List.mem_of_getElem? (i := 82) rfl)) rfl)
theorem wf_X6_154 : Cond.fieldLink RX6 154 (zRn 6) (zTb 6 9).2.1 (zTb 6 9).2.2.1 ∈ zGW := z_mem (z_tB (List.mem_of_getElem? (i := 14) rfl)) rfl
theorem wm_X6_167 : zln RX6 167 yX6_tellWord := Or.inl (z_mem (z_tC (List.mem_of_getElem? (i := 113) rfl)) rfl)
theorem wm_X6_170 : zln RX6 170 yX6_tellFollows := Or.inl (z_mem (z_tC (List.mem_of_getElem? (i := 142) rfl)) rfl)
theorem wm_X6_173 : zln RX6 173 yX6_tellAsks := Or.inl (z_mem (z_tC (List.mem_of_getElem? (i := 152) rfl)) rfl)
theorem wm_X6_176 : zln RX6 176 yX6_tellStones := Or.inl (z_mem (z_tC (List.mem_of_getElem? (i := 156) rfl)) rfl)
theorem wm_X6_179 : zln RX6 179 yX6_tellDeed := Or.inl (z_mem (z_tC (List.mem_of_getElem? (i := 160) rfl)) rfl)
theorem wm_X6_183 : zln RX6 183 yX6_tellLine := Or.inl (z_mem (z_tC (List.mem_of_getElem? (i := 164) rfl)) rfl)
theorem wm_X6_186 : zln RX6 186 yX6_tellFact := Or.inl (z_mem (z_tC (List.mem_of_getElem? (i := 168) rfl)) rfl)
theorem wf_X6_189 : Cond.fieldLink RX6 189 (zRn 3) (zTb 3 1).2.1 (zTb 3 1).2.2.1 ∈ zGW := z_mem (z_tA (List.mem_of_getElem? (i := 55) rfl)) rfl
theorem wm_X6_192 : zln RX6 192 yX6_needRoom := Or.inl (z_mem (z_tC (List.mem_of_getElem? (i := 117) rfl)) rfl)
theorem wm_X6_196 : zln RX6 196 yX6_needRow := Or.inl (z_mem (z_tC (List.mem_of_getElem? (i := 125) rfl)) rfl)
theorem wm_X6_200 : zln RX6 200 yX6_needNumber := Or.inl (z_mem (z_tC (List.mem_of_getElem? (i := 130) rfl)) rfl)
theorem wf_X6_204 : Cond.fieldLink RX6 204 (zRn 3) (zTb 3 4).2.1 (zTb 3 4).2.2.1 ∈ zGW := z_mem (z_tA (List.mem_of_getElem? (i := 62) rfl)) rfl
theorem wm_X6_207 : Cond.methodLink RX6 207 Lib.Math.min.name ∈ zGW := z_mem (z_tC (List.mem_of_getElem? (i := 134) rfl)) rfl
theorem wm_X6_213 : zln RX6 213 yX11_put := Or.inr ⟨_, z_mem (z_tC (List.mem_of_getElem? (i := 137) rfl)) rfl⟩
theorem wf_X6_217 : Cond.fieldLink RX6 217 (zRn 3) (zTb 3 5).2.1 (zTb 3 5).2.2.1 ∈ zGW := z_mem (z_tA (List.mem_of_getElem? (i := 64) rfl)) rfl
theorem wf_X6_220 : Cond.fieldLink RX6 220 (zRn 3) (zTb 3 7).2.1 (zTb 3 7).2.2.1 ∈ zGW := z_mem (z_tA (List.mem_of_getElem? (i := 69) rfl)) rfl
theorem wm_X6_223 : zln RX6 223 yX6_letterAt := Or.inl (z_mem (z_tC (List.mem_of_getElem? (i := 138) rfl)) rfl)
theorem wf_X6_226 : Cond.fieldLink RX6 226 (zRn 3) (zTb 3 2).2.1 (zTb 3 2).2.2.1 ∈ zGW := z_mem (z_tA (List.mem_of_getElem? (i := 58) rfl)) rfl
theorem wf_X6_230 : Cond.fieldLink RX6 230 (zRn 3) (zTb 3 6).2.1 (zTb 3 6).2.2.1 ∈ zGW := z_mem (z_tA (List.mem_of_getElem? (i := 66) rfl)) rfl
theorem wm_X6_232 : zln RX6 232 yX11_got := Or.inr ⟨_, z_mem (z_tC (List.mem_of_getElem? (i := 129) rfl)) rfl⟩
theorem wm_X6_236 : zln RX6 236 yX11_bit := Or.inr ⟨_, z_mem (z_tC (List.mem_of_getElem? (i := 146) rfl)) rfl⟩
theorem wf_X6_239 : Cond.fieldLink RX6 239 (zRn 3) (zTb 3 3).2.1 (zTb 3 3).2.2.1 ∈ zGW := z_mem (z_tA (List.mem_of_getElem? (i := 60) rfl)) rfl
theorem wm_X6_242 : Cond.methodLink RX6 242 Lib.Math.max.name ∈ zGW := z_mem (z_tC (List.mem_of_getElem? (i := 149) rfl)) rfl
theorem wf_X6_245 : Cond.fieldLink RX6 245 (zRn 3) (zTb 3 8).2.1 (zTb 3 8).2.2.1 ∈ zGW := z_mem (z_tA (List.mem_of_getElem? (i := 72) rfl)) rfl
theorem wf_X6_248 : Cond.fieldLink RX6 248 (zRn 3) (zTb 3 0).2.1 (zTb 3 0).2.2.1 ∈ zGW := z_mem (z_tA (List.mem_of_getElem? (i := 51) rfl)) rfl
theorem wf_X6_250 : Cond.fieldLink RX6 250 (zRn 0) (zTb 0 1).2.1 (zTb 0 1).2.2.1 ∈ zGW := z_mem (z_tA (List.mem_of_getElem? (i := 104) rfl)) rfl
theorem wf_X6_253 : Cond.fieldLink RX6 253 (zRn 0) (zTb 0 2).2.1 (zTb 0 2).2.2.1 ∈ zGW := z_mem (z_tA (List.mem_of_getElem? (i := 107) rfl)) rfl
theorem wf_X6_255 : Cond.fieldLink RX6 255 (zRn 0) (zTb 0 3).2.1 (zTb 0 3).2.2.1 ∈ zGW := z_mem (z_tA (List.mem_of_getElem? (i := 110) rfl)) rfl
theorem wf_X6_256 : Cond.fieldLink RX6 256 (zRn 4) (zTb 4 1).2.1 (zTb 4 1).2.2.1 ∈ zGW := z_mem (z_tA (List.mem_of_getElem? (i := 129) rfl)) rfl
theorem wf_X6_257 : Cond.fieldLink RX6 257 (zRn 4) (zTb 4 2).2.1 (zTb 4 2).2.2.1 ∈ zGW := z_mem (z_tA (List.mem_of_getElem? (i := 131) rfl)) rfl
theorem wf_X6_258 : Cond.fieldLink RX6 258 (zRn 5) (zTb 5 1).2.1 (zTb 5 1).2.2.1 ∈ zGW := z_mem (z_tA (List.mem_of_getElem? (i := 149) rfl)) rfl
theorem wf_X6_261 : Cond.fieldLink RX6 261 (zRn 5) (zTb 5 2).2.1 (zTb 5 2).2.2.1 ∈ zGW := z_mem (z_tA (List.mem_of_getElem? (i := 152) rfl)) rfl
theorem wm_X6_264 : zln RX6 264 yX6_note := Or.inl (z_mem (z_tC (List.mem_of_getElem? (i := 121) rfl)) rfl)
theorem wm_X6_268 : zln RX6 268 yX3_hasTwoAlike := Or.inl (z_mem (z_tC (List.mem_of_getElem? (i := 176) rfl)) rfl)
theorem wm_X7_3 : Cond.methodLink RX7 3 Lib.objectInit ∈ zGW := z_mem (z_tB (List.mem_of_getElem? (i := 147) rfl)) rfl
theorem wc_X7_9 : Cond.classLink RX7 9 RX5 ∈ zGW := z_mem (z_tB (List.mem_of_getElem? (i := 148) rfl)) rfl
theorem wm_X7_11 : zln RX7 11 yX5_init := Or.inr ⟨_, z_mem (z_tB (List.mem_of_getElem? (i := 149) rfl)) rfl⟩
theorem wf_X7_12 : Cond.fieldLink RX7 12 (zRn 7) (zTb 7 0).2.1 (zTb 7 0).2.2.1 ∈ zGW := z_mem (z_tB (List.mem_of_getElem? (i := 150) rfl)) rfl
theorem wf_X7_18 : Cond.fieldLink RX7 18 (zRn 7) (zTb 7 3).2.1 (zTb 7 3).2.2.1 ∈ zGW := z_mem (z_tB (List.mem_of_getElem? (i := 153) rfl)) rfl
theorem wf_X7_22 : Cond.fieldLink RX7 22 (zRn 7) (zTb 7 4).2.1 (zTb 7 4).2.2.1 ∈ zGW := z_mem (z_tB (List.mem_of_getElem? (i := 154) rfl)) rfl
theorem wf_X7_25 : Cond.fieldLink RX7 25 (zRn 7) (zTb 7 5).2.1 (zTb 7 5).2.2.1 ∈ zGW := z_mem (z_tB (List.mem_of_getElem? (i := 155) rfl)) rfl
theorem wm_X7_28 : zln RX7 28 yX5_lastPlace := Or.inl (z_mem (z_tE (List.mem_of_getElem? (i := 101) rfl)) rfl)
theorem wf_X7_32 : Cond.fieldLink RX7 32 (zRn 7) (zTb 7 1).2.1 (zTb 7 1).2.2.1 ∈ zGW := z_mem (z_tB (List.mem_of_getElem? (i := 151) rfl)) rfl
theorem wf_X7_36 : Cond.fieldLink RX7 36 (zRn 7) (zTb 7 2).2.1 (zTb 7 2).2.2.1 ∈ zGW := z_mem (z_tB (List.mem_of_getElem? (i := 152) rfl)) rfl
theorem wm_X7_39 : zln RX7 39 yX7_countHits := Or.inl (z_mem (z_tE (List.mem_of_getElem? (i := 106) rfl)) rfl)
theorem wm_X7_43 : zln RX7 43 yX7_keepBest := Or.inl (z_mem (z_tE (List.mem_of_getElem? (i := 127) rfl)) rfl)
theorem wm_X7_46 : zln RX7 46 yX11_got := Or.inr ⟨_, z_mem (z_tE (List.mem_of_getElem? (i := 111) rfl)) rfl⟩
theorem wm_X7_50 : Cond.methodLink RX7 50 Lib.Math.max.name ∈ zGW := z_mem (z_tE (List.mem_of_getElem? (i := 132) rfl)) rfl
theorem wm_X7_56 : zln RX7 56 yJ7_fill_53178 := Or.inl (z_mem (z_tE (List.mem_of_getElem? (i := 110) rfl)) rfl)
theorem wf_X7_62 : Cond.fieldLink RX7 62 (zRn 5) (zTb 5 0).2.1 (zTb 5 0).2.2.1 ∈ zGW := z_mem (z_tA (List.mem_of_getElem? (i := 146) rfl)) rfl
theorem wf_X7_65 : Cond.fieldLink RX7 65 (zRn 5) (zTb 5 2).2.1 (zTb 5 2).2.2.1 ∈ zGW := z_mem (z_tA (List.mem_of_getElem? (i := 151) rfl)) rfl
theorem wf_X7_68 : Cond.fieldLink RX7 68 (zRn 5) (zTb 5 1).2.1 (zTb 5 1).2.2.1 ∈ zGW := z_mem (z_tA (List.mem_of_getElem? (i := 148) rfl)) rfl
theorem wm_X7_71 : zln RX7 71 yX7_lessBy := Or.inl (z_mem (z_tE (List.mem_of_getElem? (i := 112) rfl)) rfl)
theorem wm_X7_74 : Cond.methodLink RX7 74 Lib.Math.min.name ∈ zGW := z_mem (z_tE (List.mem_of_getElem? (i := 125) rfl)) rfl
theorem wm_X7_77 : zln RX7 77 yX11_put := Or.inr ⟨_, z_mem (z_tE (List.mem_of_getElem? (i := 126) rfl)) rfl⟩
theorem wm_X7_81 : zln RX7 81 yX7_wear := Or.inl (z_mem (z_tE (List.mem_of_getElem? (i := 116) rfl)) rfl)
theorem wm_X7_85 : zln RX7 85 yX7_gap := Or.inl (z_mem (z_tE (List.mem_of_getElem? (i := 119) rfl)) rfl)
theorem wm_X7_88 : zln RX7 88 yX7_since := Or.inl (z_mem (z_tE (List.mem_of_getElem? (i := 122) rfl)) rfl)
theorem wm_X7_91 : zln RX7 91 yX11_bit := Or.inr ⟨_, z_mem (z_tE (List.mem_of_getElem? (i := 131) rfl)) rfl⟩
theorem wm_X7_94 : zln RX7 94 yX7_howMany := Or.inl (z_mem (z_tE (List.mem_of_getElem? (i := 137) rfl)) rfl)
theorem wm_X7_97 : zln RX7 97 yX7_missedByAll := Or.inl (z_mem (z_tE (List.mem_of_getElem? (i := 151) rfl)) rfl)
theorem wm_X7_100 : zln RX7 100 yX7_ruleOf := Or.inl (z_mem (z_tE (List.mem_of_getElem? (i := 160) rfl)) rfl)
theorem wm_X7_103 : zln RX7 103 yX7_startsOf := Or.inl (z_mem (z_tE (List.mem_of_getElem? (i := 141) rfl)) rfl)
theorem wm_X7_106 : zln RX7 106 yJ6_bitCount_0f7a4 := Or.inl (z_mem (z_tE (List.mem_of_getElem? (i := 145) rfl)) rfl)
theorem wm_X7_111 : zln RX7 111 yX11_has := Or.inr ⟨_, z_mem (z_tE (List.mem_of_getElem? (i := 155) rfl)) rfl⟩
theorem wm_X7_115 : zln RX7 115 yX7_missedPlaces := Or.inl (z_mem (z_tE (List.mem_of_getElem? (i := 156) rfl)) rfl)
theorem wm_X8_1 : Cond.methodLink RX8 1 Lib.objectInit ∈ zGW := z_mem (z_tA (List.mem_of_getElem? (i := 212) rfl)) rfl
theorem wf_X8_7 : Cond.fieldLink RX8 7 (zRn 8) (zTb 8 0).2.1 (zTb 8 0).2.2.1 ∈ zGW := z_mem (z_tA (List.mem_of_getElem? (i := 213) rfl)) rfl
theorem wf_X8_13 : Cond.fieldLink RX8 13 (zRn 8) (zTb 8 1).2.1 (zTb 8 1).2.2.1 ∈ zGW := z_mem (z_tA (List.mem_of_getElem? (i := 214) rfl)) rfl
theorem wf_X8_17 : Cond.fieldLink RX8 17 (zRn 8) (zTb 8 2).2.1 (zTb 8 2).2.2.1 ∈ zGW := z_mem (z_tA (List.mem_of_getElem? (i := 215) rfl)) rfl
theorem wm_X8_20 : zln RX8 20 yX11_got := Or.inr ⟨_, z_mem (z_tB (List.mem_of_getElem? (i := 236) rfl)) rfl⟩
theorem wm_X8_26 : zln RX8 26 yX8_isBlank := Or.inl (z_mem (z_tB (List.mem_of_getElem? (i := 237) rfl)) rfl)
theorem wf_X8_30 : Cond.fieldLink RX8 30 (zRn 8) (zTb 8 4).2.1 (zTb 8 4).2.2.1 ∈ zGW := z_mem (z_tA (List.mem_of_getElem? (i := 219) rfl)) rfl
theorem wf_X8_33 : Cond.fieldLink RX8 33 (zRn 8) (zTb 8 3).2.1 (zTb 8 3).2.2.1 ∈ zGW := z_mem (z_tA (List.mem_of_getElem? (i := 217) rfl)) rfl
theorem wm_X8_36 : zln RX8 36 yX8_isLetter := Or.inl (z_mem (z_tC (List.mem_of_getElem? (i := 0) rfl)) rfl)
theorem wm_X8_39 : zln RX8 39 yX8_stepOverRow := Or.inl (z_mem (z_tC (List.mem_of_getElem? (i := 3) rfl)) rfl)
theorem wm_X8_42 : zln RX8 42 yX8_isDigit := Or.inl (z_mem (z_tC (List.mem_of_getElem? (i := 7) rfl)) rfl)
theorem wm_X8_45 : zln RX8 45 yX8_stepOverDigits := Or.inl (z_mem (z_tC (List.mem_of_getElem? (i := 10) rfl)) rfl)
theorem wf_X8_48 : Cond.fieldLink RX8 48 (zRn 8) (zTb 8 5).2.1 (zTb 8 5).2.2.1 ∈ zGW := z_mem (z_tA (List.mem_of_getElem? (i := 220) rfl)) rfl
theorem wf_X8_51 : Cond.fieldLink RX8 51 (zRn 8) (zTb 8 6).2.1 (zTb 8 6).2.2.1 ∈ zGW := z_mem (z_tA (List.mem_of_getElem? (i := 223) rfl)) rfl
theorem wm_X9_3 : Cond.methodLink RX9 3 Lib.objectInit ∈ zGW := z_mem (z_tA (List.mem_of_getElem? (i := 35) rfl)) rfl
theorem wf_X9_9 : Cond.fieldLink RX9 9 (zRn 9) (zTb 9 0).2.1 (zTb 9 0).2.2.1 ∈ zGW := z_mem (z_tA (List.mem_of_getElem? (i := 160) rfl)) rfl
theorem wf_X9_15 : Cond.fieldLink RX9 15 (zRn 9) (zTb 9 3).2.1 (zTb 9 3).2.2.1 ∈ zGW := z_mem (z_tA (List.mem_of_getElem? (i := 166) rfl)) rfl
theorem wf_X9_19 : Cond.fieldLink RX9 19 (zRn 9) (zTb 9 4).2.1 (zTb 9 4).2.2.1 ∈ zGW := z_mem (z_tA (List.mem_of_getElem? (i := 168) rfl)) rfl
theorem wc_X9_22 : Cond.classLink RX9 22 RX3 ∈ zGW := z_mem (z_tA (List.mem_of_getElem? (i := 36) rfl)) rfl
theorem wf_X9_24 : Cond.fieldLink RX9 24 (zRn 9) (zTb 9 5).2.1 (zTb 9 5).2.2.1 ∈ zGW := z_mem (z_tA (List.mem_of_getElem? (i := 169) rfl)) rfl
theorem wc_X9_28 : Cond.classLink RX9 28 RX0 ∈ zGW := z_mem (z_tA (List.mem_of_getElem? (i := 38) rfl)) rfl
theorem wf_X9_30 : Cond.fieldLink RX9 30 (zRn 9) (zTb 9 6).2.1 (zTb 9 6).2.2.1 ∈ zGW := z_mem (z_tA (List.mem_of_getElem? (i := 170) rfl)) rfl
theorem wc_X9_34 : Cond.classLink RX9 34 RX4 ∈ zGW := z_mem (z_tA (List.mem_of_getElem? (i := 40) rfl)) rfl
theorem wf_X9_36 : Cond.fieldLink RX9 36 (zRn 9) (zTb 9 7).2.1 (zTb 9 7).2.2.1 ∈ zGW := z_mem (z_tA (List.mem_of_getElem? (i := 171) rfl)) rfl
theorem wc_X9_40 : Cond.classLink RX9 40 RX5 ∈ zGW := z_mem (z_tA (List.mem_of_getElem? (i := 42) rfl)) rfl
theorem wf_X9_42 : Cond.fieldLink RX9 42 (zRn 9) (zTb 9 8).2.1 (zTb 9 8).2.2.1 ∈ zGW := z_mem (z_tA (List.mem_of_getElem? (i := 172) rfl)) rfl
theorem wm_X9_46 : zln RX9 46 yX3_init := Or.inr ⟨_, z_mem (z_tA (List.mem_of_getElem? (i := 45) rfl)) rfl⟩
theorem wm_X9_47 : zln RX9 47 yX0_init := Or.inr ⟨_, z_mem (z_tA (List.mem_of_getElem? (i := 95) rfl)) rfl⟩
theorem wm_X9_48 : zln RX9 48 yX4_init := Or.inr ⟨_, z_mem (z_tA (List.mem_of_getElem? (i := 121) rfl)) rfl⟩
theorem wm_X9_49 : zln RX9 49 yX5_init := Or.inr ⟨_, z_mem (z_tA (List.mem_of_getElem? (i := 140) rfl)) rfl⟩
theorem wm_X9_50 : zln RX9 50 yX11_copyRow := Or.inr ⟨_, z_mem (z_tF (List.mem_of_getElem? (i := 86) rfl)) rfl⟩
theorem wf_X9_54 : Cond.fieldLink RX9 54 (zRn 9) (zTb 9 1).2.1 (zTb 9 1).2.2.1 ∈ zGW := z_mem (z_tA (List.mem_of_getElem? (i := 163) rfl)) rfl
theorem wf_X9_57 : Cond.fieldLink RX9 57 (zRn 9) (zTb 9 2).2.1 (zTb 9 2).2.2.1 ∈ zGW := z_mem (z_tA (List.mem_of_getElem? (i := 164) rfl)) rfl
theorem wm_X9_60 : zln RX9 60 yX3_copy := Or.inl (z_mem (z_tC (List.mem_of_getElem? (i := 199) rfl)) rfl)
theorem wm_X9_64 : zln RX9 64 yX0_copy := Or.inl (z_mem (z_tC (List.mem_of_getElem? (i := 209) rfl)) rfl)
theorem wm_X9_67 : zln RX9 67 yX4_copy := Or.inl (z_mem (z_tC (List.mem_of_getElem? (i := 213) rfl)) rfl)
theorem wm_X9_70 : zln RX9 70 yX5_copy := Or.inl (z_mem (z_tC (List.mem_of_getElem? (i := 217) rfl)) rfl)
theorem wm_X9_73 : zln RX9 73 yX11_put := Or.inr ⟨_, z_mem (z_tB (List.mem_of_getElem? (i := 199) rfl)) rfl⟩
theorem wm_X9_77 : zln RX9 77 yX11_got := Or.inr ⟨_, z_mem (z_tB (List.mem_of_getElem? (i := 214) rfl)) rfl⟩
theorem wm_X9_81 : Cond.methodLink RX9 81 Lib.Math.max.name ∈ zGW := z_mem (z_tC (List.mem_of_getElem? (i := 198) rfl)) rfl
theorem wf_X9_87 : Cond.fieldLink RX9 87 (zRn 6) (zTb 6 0).2.1 (zTb 6 0).2.2.1 ∈ zGW := z_mem (z_tB (List.mem_of_getElem? (i := 0) rfl)) rfl
theorem wf_X9_93 : Cond.fieldLink RX9 93 (zRn 6) (zTb 6 1).2.1 (zTb 6 1).2.2.1 ∈ zGW := z_mem (z_tB (List.mem_of_getElem? (i := 2) rfl)) rfl
theorem wf_X9_97 : Cond.fieldLink RX9 97 (zRn 6) (zTb 6 2).2.1 (zTb 6 2).2.2.1 ∈ zGW := z_mem (z_tB (List.mem_of_getElem? (i := 4) rfl)) rfl
theorem wf_X9_100 : Cond.fieldLink RX9 100 (zRn 6) (zTb 6 3).2.1 (zTb 6 3).2.2.1 ∈ zGW := z_mem (z_tB (List.mem_of_getElem? (i := 6) rfl)) rfl
theorem wm_X9_104 : zln RX9 104 yX9_hasOne := Or.inl (z_mem (z_tC (List.mem_of_getElem? (i := 234) rfl)) rfl)
theorem wm_X10_3 : Cond.methodLink RX10 3 Lib.objectInit ∈ zGW := z_mem (z_tB (List.mem_of_getElem? (i := 128) rfl)) rfl
theorem wf_X10_9 : Cond.fieldLink RX10 9 (zRn 10) (zTb 10 0).2.1 (zTb 10 0).2.2.1 ∈ zGW := z_mem (z_tB (List.mem_of_getElem? (i := 129) rfl)) rfl
theorem wf_X10_15 : Cond.fieldLink RX10 15 (zRn 10) (zTb 10 1).2.1 (zTb 10 1).2.2.1 ∈ zGW := z_mem (z_tB (List.mem_of_getElem? (i := 130) rfl)) rfl
theorem wf_X10_18 : Cond.fieldLink RX10 18 (zRn 10) (zTb 10 2).2.1 (zTb 10 2).2.2.1 ∈ zGW := z_mem (z_tB (List.mem_of_getElem? (i := 131) rfl)) rfl
theorem wf_X10_21 : Cond.fieldLink RX10 21 (zRn 10) (zTb 10 3).2.1 (zTb 10 3).2.2.1 ∈ zGW := z_mem (z_tB (List.mem_of_getElem? (i := 132) rfl)) rfl
theorem wm_X10_24 : zln RX10 24 yJ7_fill_53178 := Or.inl (z_mem (z_tE (List.mem_of_getElem? (i := 24) rfl)) rfl)
theorem wf_X10_30 : Cond.fieldLink RX10 30 (zRn 3) (zTb 3 1).2.1 (zTb 3 1).2.2.1 ∈ zGW := z_mem (z_tA (List.mem_of_getElem? (i := 53) rfl)) rfl
theorem wm_X10_36 : zln RX10 36 yX3_behind := Or.inl (z_mem (z_tE (List.mem_of_getElem? (i := 25) rfl)) rfl)
theorem wm_X10_40 : zln RX10 40 yX10_sumOf := Or.inl (z_mem (z_tE (List.mem_of_getElem? (i := 26) rfl)) rfl)
theorem wm_X10_43 : zln RX10 43 yX11_put := Or.inr ⟨_, z_mem (z_tE (List.mem_of_getElem? (i := 32) rfl)) rfl⟩
theorem wm_X10_47 : zln RX10 47 yX11_copyRow := Or.inr ⟨_, z_mem (z_tE (List.mem_of_getElem? (i := 33) rfl)) rfl⟩
theorem wm_X10_51 : zln RX10 51 yX3_all := Or.inl (z_mem (z_tE (List.mem_of_getElem? (i := 34) rfl)) rfl)
theorem wm_X10_55 : zln RX10 55 yX11_has := Or.inr ⟨_, z_mem (z_tE (List.mem_of_getElem? (i := 30) rfl)) rfl⟩
theorem wm_X10_59 : zln RX10 59 yX11_got := Or.inr ⟨_, z_mem (z_tE (List.mem_of_getElem? (i := 31) rfl)) rfl⟩
theorem wm_X10_63 : zln RX10 63 yX3_isWithin := Or.inl (z_mem (z_tE (List.mem_of_getElem? (i := 43) rfl)) rfl)
theorem wm_X10_66 : zln RX10 66 yX3_sizeOf := Or.inl (z_mem (z_tE (List.mem_of_getElem? (i := 47) rfl)) rfl)
theorem wm_X10_69 : zln RX10 69 yX10_shorten := Or.inl (z_mem (z_tE (List.mem_of_getElem? (i := 48) rfl)) rfl)
theorem wm_X10_73 : zln RX10 73 yX10_endsAt := Or.inl (z_mem (z_tE (List.mem_of_getElem? (i := 56) rfl)) rfl)
theorem wm_X10_77 : zln RX10 77 yX10_pair := Or.inl (z_mem (z_tE (List.mem_of_getElem? (i := 52) rfl)) rfl)
theorem wm_X10_81 : zln RX10 81 yX10_goOn := Or.inl (z_mem (z_tE (List.mem_of_getElem? (i := 60) rfl)) rfl)
theorem wf_X10_85 : Cond.fieldLink RX10 85 (zRn 3) (zTb 3 7).2.1 (zTb 3 7).2.2.1 ∈ zGW := z_mem (z_tA (List.mem_of_getElem? (i := 68) rfl)) rfl
theorem wm_X10_88 : Cond.methodLink RX10 88 Lib.Math.min.name ∈ zGW := z_mem (z_tE (List.mem_of_getElem? (i := 55) rfl)) rfl
theorem wm_X10_94 : zln RX10 94 yX3_changesAt := Or.inl (z_mem (z_tE (List.mem_of_getElem? (i := 64) rfl)) rfl)
theorem wm_X10_98 : zln RX10 98 yX10_headsOf := Or.inl (z_mem (z_tF (List.mem_of_getElem? (i := 32) rfl)) rfl)
theorem wm_X10_102 : zln RX10 102 yJ6_bitCount_0f7a4 := Or.inl (z_mem (z_tF (List.mem_of_getElem? (i := 37) rfl)) rfl)
theorem wm_X10_107 : Cond.methodLink RX10 107 Lib.Math.max.name ∈ zGW := z_mem (z_tF (List.mem_of_getElem? (i := 38) rfl)) rfl
theorem wm_X10_110 : zln RX10 110 yX11_bit := Or.inr ⟨_, z_mem (z_tF (List.mem_of_getElem? (i := 36) rfl)) rfl⟩
theorem wm_X10_113 : zln RX10 113 yX10_headsWithout := Or.inl (z_mem (z_tF (List.mem_of_getElem? (i := 43) rfl)) rfl)
theorem wm_X10_117 : zln RX10 117 yX11_lowest := Or.inr ⟨_, z_mem (z_tF (List.mem_of_getElem? (i := 47) rfl)) rfl⟩
theorem wm_X11_1 : Cond.methodLink RX11 1 Lib.objectInit ∈ zGW := z_mem (z_tA (List.mem_of_getElem? (i := 27) rfl)) rfl
theorem wc_X11_7 : Cond.classLink RX11 7 RX9 ∈ zGW := z_mem (z_tA (List.mem_of_getElem? (i := 30) rfl)) rfl
theorem wm_X11_9 : zln RX11 9 yX9_init := Or.inl (z_mem (z_tA (List.mem_of_getElem? (i := 32) rfl)) rfl)
theorem wf_X11_10 : Cond.fieldLink RX11 10 (zRn 11) (zTb 11 0).2.1 (zTb 11 0).2.2.1 ∈ zGW := z_mem (z_tB (List.mem_of_getElem? (i := 169) rfl)) rfl
theorem wf_X11_16 : Cond.fieldLink RX11 16 (zRn 11) (zTb 11 1).2.1 (zTb 11 1).2.2.1 ∈ zGW := z_mem (z_tB (List.mem_of_getElem? (i := 170) rfl)) rfl
theorem wc_X11_20 : Cond.classLink RX11 20 RX6 ∈ zGW := z_mem (z_tA (List.mem_of_getElem? (i := 193) rfl)) rfl
theorem wm_X11_22 : zln RX11 22 yX6_init := Or.inr ⟨_, z_mem (z_tA (List.mem_of_getElem? (i := 195) rfl)) rfl⟩
theorem wf_X11_23 : Cond.fieldLink RX11 23 (zRn 11) (zTb 11 2).2.1 (zTb 11 2).2.2.1 ∈ zGW := z_mem (z_tB (List.mem_of_getElem? (i := 171) rfl)) rfl
theorem wc_X11_27 : Cond.classLink RX11 27 RX2 ∈ zGW := z_mem (z_tB (List.mem_of_getElem? (i := 54) rfl)) rfl
theorem wm_X11_29 : zln RX11 29 yX2_init := Or.inr ⟨_, z_mem (z_tB (List.mem_of_getElem? (i := 56) rfl)) rfl⟩
theorem wf_X11_30 : Cond.fieldLink RX11 30 (zRn 11) (zTb 11 3).2.1 (zTb 11 3).2.2.1 ∈ zGW := z_mem (z_tB (List.mem_of_getElem? (i := 172) rfl)) rfl
theorem wc_X11_34 : Cond.classLink RX11 34 RX1 ∈ zGW := z_mem (z_tB (List.mem_of_getElem? (i := 98) rfl)) rfl
theorem wm_X11_36 : zln RX11 36 yX1_init := Or.inr ⟨_, z_mem (z_tB (List.mem_of_getElem? (i := 100) rfl)) rfl⟩
theorem wf_X11_37 : Cond.fieldLink RX11 37 (zRn 11) (zTb 11 4).2.1 (zTb 11 4).2.2.1 ∈ zGW := z_mem (z_tB (List.mem_of_getElem? (i := 173) rfl)) rfl
theorem wc_X11_41 : Cond.classLink RX11 41 RX10 ∈ zGW := z_mem (z_tB (List.mem_of_getElem? (i := 123) rfl)) rfl
theorem wm_X11_43 : zln RX11 43 yX10_init := Or.inr ⟨_, z_mem (z_tB (List.mem_of_getElem? (i := 125) rfl)) rfl⟩
theorem wf_X11_44 : Cond.fieldLink RX11 44 (zRn 11) (zTb 11 5).2.1 (zTb 11 5).2.2.1 ∈ zGW := z_mem (z_tB (List.mem_of_getElem? (i := 174) rfl)) rfl
theorem wc_X11_48 : Cond.classLink RX11 48 RX7 ∈ zGW := z_mem (z_tB (List.mem_of_getElem? (i := 142) rfl)) rfl
theorem wm_X11_50 : zln RX11 50 yX7_init := Or.inr ⟨_, z_mem (z_tB (List.mem_of_getElem? (i := 144) rfl)) rfl⟩
theorem wf_X11_51 : Cond.fieldLink RX11 51 (zRn 11) (zTb 11 6).2.1 (zTb 11 6).2.2.1 ∈ zGW := z_mem (z_tB (List.mem_of_getElem? (i := 175) rfl)) rfl
theorem wf_X11_55 : Cond.fieldLink RX11 55 (zRn 9) (zTb 9 1).2.1 (zTb 9 1).2.2.1 ∈ zGW := z_mem (z_tA (List.mem_of_getElem? (i := 162) rfl)) rfl
theorem wm_X11_59 : zln RX11 59 yX9_addBytes := Or.inl (z_mem (z_tB (List.mem_of_getElem? (i := 195) rfl)) rfl)
theorem wf_X11_63 : Cond.fieldLink RX11 63 (zRn 9) (zTb 9 2).2.1 (zTb 9 2).2.2.1 ∈ zGW := z_mem (z_tA (List.mem_of_getElem? (i := 165) rfl)) rfl
theorem wf_X11_66 : Cond.fieldLink RX11 66 (zRn 9) (zTb 9 3).2.1 (zTb 9 3).2.2.1 ∈ zGW := z_mem (z_tA (List.mem_of_getElem? (i := 167) rfl)) rfl
theorem wm_X11_69 : zln RX11 69 yX9_many := Or.inl (z_mem (z_tB (List.mem_of_getElem? (i := 210) rfl)) rfl)
theorem wf_X11_73 : Cond.fieldLink RX11 73 (zRn 9) (zTb 9 0).2.1 (zTb 9 0).2.2.1 ∈ zGW := z_mem (z_tA (List.mem_of_getElem? (i := 161) rfl)) rfl
theorem wm_X11_77 : zln RX11 77 yX6_read := Or.inl (z_mem (z_tB (List.mem_of_getElem? (i := 217) rfl)) rfl)
theorem wf_X11_81 : Cond.fieldLink RX11 81 (zRn 6) (zTb 6 4).2.1 (zTb 6 4).2.2.1 ∈ zGW := z_mem (z_tB (List.mem_of_getElem? (i := 8) rfl)) rfl
theorem wf_X11_82 : Cond.fieldLink RX11 82 (zRn 6) (zTb 6 5).2.1 (zTb 6 5).2.2.1 ∈ zGW := z_mem (z_tB (List.mem_of_getElem? (i := 10) rfl)) rfl
theorem wm_X11_83 : zln RX11 83 yX9_keep := Or.inl (z_mem (z_tC (List.mem_of_getElem? (i := 194) rfl)) rfl)
theorem wm_X11_87 : zln RX11 87 yX9_hillOf := Or.inl (z_mem (z_tC (List.mem_of_getElem? (i := 230) rfl)) rfl)
theorem wm_X11_91 : zln RX11 91 yX3_look := Or.inl (z_mem (z_tC (List.mem_of_getElem? (i := 238) rfl)) rfl)
theorem wm_X11_96 : zln RX11 96 yX9_centuryOf := Or.inl (z_mem (z_tD (List.mem_of_getElem? (i := 26) rfl)) rfl)
theorem wm_X11_100 : zln RX11 100 yX0_look := Or.inl (z_mem (z_tD (List.mem_of_getElem? (i := 30) rfl)) rfl)
theorem wf_X11_105 : Cond.fieldLink RX11 105 (zRn 0) (zTb 0 0).2.1 (zTb 0 0).2.2.1 ∈ zGW := z_mem (z_tA (List.mem_of_getElem? (i := 101) rfl)) rfl
theorem wm_X11_108 : zln RX11 108 yX2_play := Or.inl (z_mem (z_tD (List.mem_of_getElem? (i := 39) rfl)) rfl)
theorem wm_X11_112 : zln RX11 112 yX2_look := Or.inl (z_mem (z_tD (List.mem_of_getElem? (i := 102) rfl)) rfl)
theorem wm_X11_113 : zln RX11 113 yX9_linesOf := Or.inl (z_mem (z_tD (List.mem_of_getElem? (i := 122) rfl)) rfl)
theorem wm_X11_117 : zln RX11 117 yX4_look := Or.inl (z_mem (z_tD (List.mem_of_getElem? (i := 126) rfl)) rfl)
theorem wm_X11_120 : zln RX11 120 yX1_hears := Or.inl (z_mem (z_tD (List.mem_of_getElem? (i := 143) rfl)) rfl)
theorem wm_X11_124 : zln RX11 124 yX1_heard := Or.inl (z_mem (z_tD (List.mem_of_getElem? (i := 151) rfl)) rfl)
theorem wm_X11_128 : zln RX11 128 yX1_likely := Or.inl (z_mem (z_tD (List.mem_of_getElem? (i := 156) rfl)) rfl)
theorem wm_X11_131 : zln RX11 131 yX3_hasWord := Or.inl (z_mem (z_tD (List.mem_of_getElem? (i := 167) rfl)) rfl)
theorem wk_X11_135 : Cond.constantLong RX11 135 (-1) ∈ zGW := z_mem (z_tD (List.mem_of_getElem? (i := 168) rfl)) rfl
theorem wm_X11_137 : zln RX11 137 yX11_has := Or.inl (z_mem (z_tD (List.mem_of_getElem? (i := 169) rfl)) rfl)
theorem wm_X11_141 : zln RX11 141 yX3_oftenOf := Or.inl (z_mem (z_tD (List.mem_of_getElem? (i := 170) rfl)) rfl)
theorem wm_X11_144 : zln RX11 144 yX3_oftenOfAll := Or.inl (z_mem (z_tD (List.mem_of_getElem? (i := 171) rfl)) rfl)
theorem wm_X11_147 : zln RX11 147 yX11_least := Or.inl (z_mem (z_tD (List.mem_of_getElem? (i := 176) rfl)) rfl)
theorem wf_X11_151 : Cond.fieldLink RX11 151 (zRn 1) (zTb 1 1).2.1 (zTb 1 1).2.2.1 ∈ zGW := z_mem (z_tB (List.mem_of_getElem? (i := 108) rfl)) rfl
theorem wm_X11_152 : zln RX11 152 yX3_lettersTillSure := Or.inl (z_mem (z_tD (List.mem_of_getElem? (i := 186) rfl)) rfl)
theorem wm_X11_155 : zln RX11 155 yX1_readings := Or.inl (z_mem (z_tD (List.mem_of_getElem? (i := 199) rfl)) rfl)
theorem wm_X11_158 : zln RX11 158 yX1_wordOfFirstReading := Or.inl (z_mem (z_tD (List.mem_of_getElem? (i := 218) rfl)) rfl)
theorem wm_X11_161 : zln RX11 161 yX1_slipsUpTo := Or.inl (z_mem (z_tD (List.mem_of_getElem? (i := 230) rfl)) rfl)
theorem wf_X11_164 : Cond.fieldLink RX11 164 (zRn 3) (zTb 3 8).2.1 (zTb 3 8).2.2.1 ∈ zGW := z_mem (z_tA (List.mem_of_getElem? (i := 73) rfl)) rfl
theorem wm_X11_167 : zln RX11 167 yX11_got := Or.inl (z_mem (z_tE (List.mem_of_getElem? (i := 5) rfl)) rfl)
theorem wm_X11_171 : zln RX11 171 yX3_soonestAnswered := Or.inl (z_mem (z_tE (List.mem_of_getElem? (i := 10) rfl)) rfl)
theorem wm_X11_174 : zln RX11 174 yX10_rowsOf := Or.inl (z_mem (z_tE (List.mem_of_getElem? (i := 20) rfl)) rfl)
theorem wm_X11_178 : zln RX11 178 yX10_shortestReadTwice := Or.inl (z_mem (z_tE (List.mem_of_getElem? (i := 39) rfl)) rfl)
theorem wm_X11_182 : zln RX11 182 yX11_winningLetter := Or.inl (z_mem (z_tE (List.mem_of_getElem? (i := 69) rfl)) rfl)
theorem wm_X11_186 : zln RX11 186 yX9_logOf := Or.inl (z_mem (z_tE (List.mem_of_getElem? (i := 84) rfl)) rfl)
theorem wm_X11_190 : zln RX11 190 yX5_look := Or.inl (z_mem (z_tE (List.mem_of_getElem? (i := 88) rfl)) rfl)
theorem wm_X11_193 : zln RX11 193 yX7_weigh := Or.inl (z_mem (z_tE (List.mem_of_getElem? (i := 97) rfl)) rfl)
theorem wm_X11_197 : zln RX11 197 yX7_judge := Or.inl (z_mem (z_tE (List.mem_of_getElem? (i := 133) rfl)) rfl)
theorem wk_X11_200 : Cond.constantLong RX11 200 (10) ∈ zGW := z_mem (z_tE (List.mem_of_getElem? (i := 168) rfl)) rfl
theorem wm_X11_202 : zln RX11 202 yX11_waysOfExactly := Or.inl (z_mem (z_tE (List.mem_of_getElem? (i := 169) rfl)) rfl)
theorem wm_X11_206 : zln RX11 206 yX2_draw := Or.inl (z_mem (z_tE (List.mem_of_getElem? (i := 176) rfl)) rfl)
theorem wm_X11_210 : zln RX11 210 yX1_lettersBehind := Or.inl (z_mem (z_tE (List.mem_of_getElem? (i := 191) rfl)) rfl)
theorem wm_X11_213 : zln RX11 213 yX1_keenest := Or.inl (z_mem (z_tE (List.mem_of_getElem? (i := 195) rfl)) rfl)
theorem wm_X11_216 : zln RX11 216 yX1_mended := Or.inl (z_mem (z_tE (List.mem_of_getElem? (i := 204) rfl)) rfl)
theorem wm_X11_219 : zln RX11 219 yX4_hasLine := Or.inl (z_mem (z_tE (List.mem_of_getElem? (i := 217) rfl)) rfl)
theorem wm_X11_222 : zln RX11 222 yX4_longestInBoth := Or.inl (z_mem (z_tE (List.mem_of_getElem? (i := 218) rfl)) rfl)
theorem wm_X11_226 : zln RX11 226 yX1_changesBetween := Or.inl (z_mem (z_tE (List.mem_of_getElem? (i := 231) rfl)) rfl)
theorem wm_X11_229 : zln RX11 229 yX3_sameLettersAtFirst := Or.inl (z_mem (z_tE (List.mem_of_getElem? (i := 235) rfl)) rfl)
theorem wm_X11_232 : zln RX11 232 yX1_closest := Or.inl (z_mem (z_tF (List.mem_of_getElem? (i := 0) rfl)) rfl)
theorem wm_X11_236 : zln RX11 236 yX3_unlikeBeginnings := Or.inl (z_mem (z_tF (List.mem_of_getElem? (i := 5) rfl)) rfl)
theorem wm_X11_239 : zln RX11 239 yX3_all := Or.inl (z_mem (z_tF (List.mem_of_getElem? (i := 9) rfl)) rfl)
theorem wm_X11_242 : zln RX11 242 yX3_wordsWithin := Or.inl (z_mem (z_tF (List.mem_of_getElem? (i := 10) rfl)) rfl)
theorem wm_X11_245 : zln RX11 245 yX3_unsureQuestions := Or.inl (z_mem (z_tF (List.mem_of_getElem? (i := 15) rfl)) rfl)
theorem wm_X11_248 : zln RX11 248 yX3_leadsOf := Or.inl (z_mem (z_tF (List.mem_of_getElem? (i := 20) rfl)) rfl)
theorem wm_X11_251 : zln RX11 251 yX10_longestChain := Or.inl (z_mem (z_tF (List.mem_of_getElem? (i := 28) rfl)) rfl)
theorem wm_X11_254 : zln RX11 254 yX10_wordOfFirstChain := Or.inl (z_mem (z_tF (List.mem_of_getElem? (i := 39) rfl)) rfl)
theorem wm_X11_257 : zln RX11 257 yX2_wordiest := Or.inl (z_mem (z_tF (List.mem_of_getElem? (i := 54) rfl)) rfl)
theorem wf_X11_260 : Cond.fieldLink RX11 260 (zRn 2) (zTb 2 2).2.1 (zTb 2 2).2.2.1 ∈ zGW := z_mem (z_tB (List.mem_of_getElem? (i := 65) rfl)) rfl
theorem wf_X11_263 : Cond.fieldLink RX11 263 (zRn 2) (zTb 2 3).2.1 (zTb 2 3).2.2.1 ∈ zGW := z_mem (z_tB (List.mem_of_getElem? (i := 67) rfl)) rfl
theorem wm_X11_266 : zln RX11 266 yX2_feigned := Or.inl (z_mem (z_tF (List.mem_of_getElem? (i := 58) rfl)) rfl)
theorem wm_X11_269 : zln RX11 269 yX7_years := Or.inl (z_mem (z_tF (List.mem_of_getElem? (i := 66) rfl)) rfl)
theorem wm_X11_273 : zln RX11 273 yX9_copy := Or.inl (z_mem (z_tF (List.mem_of_getElem? (i := 82) rfl)) rfl)
theorem wm_X11_277 : zln RX11 277 yX3_wordGoingOn := Or.inl (z_mem (z_tE (List.mem_of_getElem? (i := 72) rfl)) rfl)
theorem wm_X11_281 : zln RX11 281 yX3_isWhole := Or.inl (z_mem (z_tE (List.mem_of_getElem? (i := 76) rfl)) rfl)
theorem wm_X11_284 : zln RX11 284 yX11_commonDivisor := Or.inl (z_mem (z_tD (List.mem_of_getElem? (i := 179) rfl)) rfl)
theorem wm_X11_288 : Cond.methodLink RX11 288 Lib.Math.min.name ∈ zGW := z_mem (z_tC (List.mem_of_getElem? (i := 205) rfl)) rfl
theorem wm_X11_293 : Cond.methodLink RX11 293 arraycopyName ∈ zGW := z_mem (z_tC (List.mem_of_getElem? (i := 206) rfl)) rfl
theorem wm_X12_1 : Cond.methodLink RX12 1 Lib.objectInit ∈ zGW := z_mem (z_tF (List.mem_of_getElem? (i := 96) rfl)) rfl
theorem wf_X12_7 : Cond.fieldLink RX12 7 (zRn 12) (zTb 12 0).2.1 (zTb 12 0).2.2.1 ∈ zGW := z_mem (z_tF (List.mem_of_getElem? (i := 97) rfl)) rfl
theorem wf_X12_13 : Cond.fieldLink RX12 13 (zRn 12) (zTb 12 1).2.1 (zTb 12 1).2.2.1 ∈ zGW := z_mem (z_tF (List.mem_of_getElem? (i := 98) rfl)) rfl
theorem wf_X12_17 : Cond.fieldLink RX12 17 (zRn 12) (zTb 12 10).2.1 (zTb 12 10).2.2.1 ∈ zGW := z_mem (z_tF (List.mem_of_getElem? (i := 107) rfl)) rfl
theorem wf_X12_20 : Cond.fieldLink RX12 20 (zRn 12) (zTb 12 11).2.1 (zTb 12 11).2.2.1 ∈ zGW := z_mem (z_tF (List.mem_of_getElem? (i := 108) rfl)) rfl
theorem wf_X12_23 : Cond.fieldLink RX12 23 (zRn 12) (zTb 12 18).2.1 (zTb 12 18).2.2.1 ∈ zGW := z_mem (z_tF (List.mem_of_getElem? (i := 115) rfl)) rfl
theorem wf_X12_26 : Cond.fieldLink RX12 26 (zRn 12) (zTb 12 19).2.1 (zTb 12 19).2.2.1 ∈ zGW := z_mem (z_tF (List.mem_of_getElem? (i := 116) rfl)) rfl
theorem wf_X12_29 : Cond.fieldLink RX12 29 (zRn 12) (zTb 12 20).2.1 (zTb 12 20).2.2.1 ∈ zGW := z_mem (z_tF (List.mem_of_getElem? (i := 117) rfl)) rfl
theorem wf_X12_32 : Cond.fieldLink RX12 32 (zRn 12) (zTb 12 21).2.1 (zTb 12 21).2.2.1 ∈ zGW := z_mem (z_tF (List.mem_of_getElem? (i := 118) rfl)) rfl
theorem wf_X12_35 : Cond.fieldLink RX12 35 (zRn 12) (zTb 12 22).2.1 (zTb 12 22).2.2.1 ∈ zGW := z_mem (z_tF (List.mem_of_getElem? (i := 119) rfl)) rfl
theorem wf_X12_38 : Cond.fieldLink RX12 38 (zRn 12) (zTb 12 23).2.1 (zTb 12 23).2.2.1 ∈ zGW := z_mem (z_tF (List.mem_of_getElem? (i := 120) rfl)) rfl
theorem wf_X12_41 : Cond.fieldLink RX12 41 (zRn 12) (zTb 12 24).2.1 (zTb 12 24).2.2.1 ∈ zGW := z_mem (z_tF (List.mem_of_getElem? (i := 121) rfl)) rfl
theorem wf_X12_44 : Cond.fieldLink RX12 44 (zRn 12) (zTb 12 28).2.1 (zTb 12 28).2.2.1 ∈ zGW := z_mem (z_tF (List.mem_of_getElem? (i := 125) rfl)) rfl
theorem wf_X12_47 : Cond.fieldLink RX12 47 (zRn 12) (zTb 12 29).2.1 (zTb 12 29).2.2.1 ∈ zGW := z_mem (z_tF (List.mem_of_getElem? (i := 126) rfl)) rfl
theorem wf_X12_50 : Cond.fieldLink RX12 50 (zRn 12) (zTb 12 30).2.1 (zTb 12 30).2.2.1 ∈ zGW := z_mem (z_tF (List.mem_of_getElem? (i := 127) rfl)) rfl
theorem wf_X12_53 : Cond.fieldLink RX12 53 (zRn 12) (zTb 12 33).2.1 (zTb 12 33).2.2.1 ∈ zGW := z_mem (z_tF (List.mem_of_getElem? (i := 130) rfl)) rfl
theorem wf_X12_56 : Cond.fieldLink RX12 56 (zRn 12) (zTb 12 34).2.1 (zTb 12 34).2.2.1 ∈ zGW := z_mem (z_tF (List.mem_of_getElem? (i := 131) rfl)) rfl
theorem wf_X12_59 : Cond.fieldLink RX12 59 (zRn 12) (zTb 12 35).2.1 (zTb 12 35).2.2.1 ∈ zGW := z_mem (z_tF (List.mem_of_getElem? (i := 132) rfl)) rfl
theorem wf_X12_62 : Cond.fieldLink RX12 62 (zRn 12) (zTb 12 37).2.1 (zTb 12 37).2.2.1 ∈ zGW := z_mem (z_tF (List.mem_of_getElem? (i := 134) rfl)) rfl
theorem wf_X12_65 : Cond.fieldLink RX12 65 (zRn 12) (zTb 12 2).2.1 (zTb 12 2).2.2.1 ∈ zGW := z_mem (z_tF (List.mem_of_getElem? (i := 99) rfl)) rfl
theorem wm_X12_69 : zln RX12 69 yX12_four := Or.inl (z_mem (z_tG (List.mem_of_getElem? (i := 17) rfl)) rfl)
theorem wk_X12_73 : Cond.constantLong RX12 73 (1048576) ∈ zGW := z_mem (z_tG (List.mem_of_getElem? (i := 23) rfl)) rfl
theorem wm_X12_75 : zln RX12 75 yX12_eight := Or.inl (z_mem (z_tG (List.mem_of_getElem? (i := 20) rfl)) rfl)
theorem wf_X12_79 : Cond.fieldLink RX12 79 (zRn 12) (zTb 12 3).2.1 (zTb 12 3).2.2.1 ∈ zGW := z_mem (z_tF (List.mem_of_getElem? (i := 100) rfl)) rfl
theorem wm_X12_82 : zln RX12 82 yX12_byteAt := Or.inl (z_mem (z_tG (List.mem_of_getElem? (i := 5) rfl)) rfl)
theorem wf_X12_86 : Cond.fieldLink RX12 86 (zRn 12) (zTb 12 4).2.1 (zTb 12 4).2.2.1 ∈ zGW := z_mem (z_tF (List.mem_of_getElem? (i := 101) rfl)) rfl
theorem wf_X12_89 : Cond.fieldLink RX12 89 (zRn 12) (zTb 12 5).2.1 (zTb 12 5).2.2.1 ∈ zGW := z_mem (z_tF (List.mem_of_getElem? (i := 102) rfl)) rfl
theorem wm_X12_92 : zln RX12 92 yX12_isLetter := Or.inl (z_mem (z_tG (List.mem_of_getElem? (i := 9) rfl)) rfl)
theorem wk_X12_96 : Cond.constantLong RX12 96 (32) ∈ zGW := z_mem (z_tG (List.mem_of_getElem? (i := 12) rfl)) rfl
theorem wk_X12_98 : Cond.constantLong RX12 98 (96) ∈ zGW := z_mem (z_tG (List.mem_of_getElem? (i := 13) rfl)) rfl
theorem wm_X12_100 : zln RX12 100 yX12_wordOf := Or.inl (z_mem (z_tG (List.mem_of_getElem? (i := 14) rfl)) rfl)
theorem wf_X12_104 : Cond.fieldLink RX12 104 (zRn 12) (zTb 12 7).2.1 (zTb 12 7).2.2.1 ∈ zGW := z_mem (z_tF (List.mem_of_getElem? (i := 104) rfl)) rfl
theorem wm_X12_107 : zln RX12 107 yX12_isDigit := Or.inl (z_mem (z_tG (List.mem_of_getElem? (i := 24) rfl)) rfl)
theorem wf_X12_110 : Cond.fieldLink RX12 110 (zRn 12) (zTb 12 6).2.1 (zTb 12 6).2.2.1 ∈ zGW := z_mem (z_tF (List.mem_of_getElem? (i := 103) rfl)) rfl
theorem wf_X12_113 : Cond.fieldLink RX12 113 (zRn 12) (zTb 12 8).2.1 (zTb 12 8).2.2.1 ∈ zGW := z_mem (z_tF (List.mem_of_getElem? (i := 105) rfl)) rfl
theorem wm_X12_117 : zln RX12 117 yX12_ends := Or.inl (z_mem (z_tG (List.mem_of_getElem? (i := 35) rfl)) rfl)
theorem wm_X12_120 : zln RX12 120 yX12_isIn := Or.inl (z_mem (z_tF (List.mem_of_getElem? (i := 234) rfl)) rfl)
theorem wm_X12_124 : zln RX12 124 yX12_also := Or.inl (z_mem (z_tG (List.mem_of_getElem? (i := 43) rfl)) rfl)
theorem wm_X12_128 : zln RX12 128 yX12_advance := Or.inl (z_mem (z_tG (List.mem_of_getElem? (i := 1) rfl)) rfl)
theorem wf_X12_131 : Cond.fieldLink RX12 131 (zRn 12) (zTb 12 12).2.1 (zTb 12 12).2.2.1 ∈ zGW := z_mem (z_tF (List.mem_of_getElem? (i := 109) rfl)) rfl
theorem wm_X12_134 : zln RX12 134 yX12_numbered := Or.inl (z_mem (z_tG (List.mem_of_getElem? (i := 51) rfl)) rfl)
theorem wf_X12_138 : Cond.fieldLink RX12 138 (zRn 12) (zTb 12 9).2.1 (zTb 12 9).2.2.1 ∈ zGW := z_mem (z_tF (List.mem_of_getElem? (i := 106) rfl)) rfl
theorem wm_X12_141 : zln RX12 141 yX12_rowTold := Or.inl (z_mem (z_tG (List.mem_of_getElem? (i := 47) rfl)) rfl)
theorem wm_X12_145 : zln RX12 145 yX12_wordIn := Or.inl (z_mem (z_tG (List.mem_of_getElem? (i := 31) rfl)) rfl)
theorem wm_X12_148 : zln RX12 148 yX12_wordLine := Or.inl (z_mem (z_tG (List.mem_of_getElem? (i := 39) rfl)) rfl)
theorem wm_X12_151 : zln RX12 151 yX12_wordTold := Or.inl (z_mem (z_tG (List.mem_of_getElem? (i := 55) rfl)) rfl)
theorem wm_X12_155 : zln RX12 155 yX12_endsLine := Or.inl (z_mem (z_tG (List.mem_of_getElem? (i := 59) rfl)) rfl)
theorem wm_X12_158 : zln RX12 158 yX12_isOf := Or.inl (z_mem (z_tF (List.mem_of_getElem? (i := 237) rfl)) rfl)
theorem wm_X12_162 : zln RX12 162 yX12_hillLine := Or.inl (z_mem (z_tG (List.mem_of_getElem? (i := 27) rfl)) rfl)
theorem wm_X12_165 : zln RX12 165 yX12_centuryLine := Or.inl (z_mem (z_tG (List.mem_of_getElem? (i := 63) rfl)) rfl)
theorem wm_X12_168 : zln RX12 168 yX12_linesLine := Or.inl (z_mem (z_tG (List.mem_of_getElem? (i := 67) rfl)) rfl)
theorem wm_X12_171 : zln RX12 171 yX12_logLine := Or.inl (z_mem (z_tG (List.mem_of_getElem? (i := 71) rfl)) rfl)
theorem wm_X12_174 : zln RX12 174 yX12_isTwice := Or.inl (z_mem (z_tG (List.mem_of_getElem? (i := 75) rfl)) rfl)
theorem wm_X12_178 : zln RX12 178 yX12_sizeOf := Or.inl (z_mem (z_tG (List.mem_of_getElem? (i := 79) rfl)) rfl)
theorem wm_X12_181 : zln RX12 181 yX12_placeOf := Or.inl (z_mem (z_tG (List.mem_of_getElem? (i := 82) rfl)) rfl)
theorem wf_X12_184 : Cond.fieldLink RX12 184 (zRn 12) (zTb 12 13).2.1 (zTb 12 13).2.2.1 ∈ zGW := z_mem (z_tF (List.mem_of_getElem? (i := 110) rfl)) rfl
theorem wf_X12_187 : Cond.fieldLink RX12 187 (zRn 12) (zTb 12 14).2.1 (zTb 12 14).2.2.1 ∈ zGW := z_mem (z_tF (List.mem_of_getElem? (i := 111) rfl)) rfl
theorem wf_X12_190 : Cond.fieldLink RX12 190 (zRn 12) (zTb 12 15).2.1 (zTb 12 15).2.2.1 ∈ zGW := z_mem (z_tF (List.mem_of_getElem? (i := 112) rfl)) rfl
theorem wm_X12_193 : zln RX12 193 yX12_everyWord := Or.inl (z_mem (z_tG (List.mem_of_getElem? (i := 117) rfl)) rfl)
theorem wm_X12_196 : zln RX12 196 yX12_isHill := Or.inl (z_mem (z_tG (List.mem_of_getElem? (i := 93) rfl)) rfl)
theorem wm_X12_199 : zln RX12 199 yX12_answersTo := Or.inl (z_mem (z_tG (List.mem_of_getElem? (i := 97) rfl)) rfl)
theorem wm_X12_202 : zln RX12 202 yX12_isWord := Or.inl (z_mem (z_tG (List.mem_of_getElem? (i := 101) rfl)) rfl)
theorem wm_X12_205 : zln RX12 205 yX12_longOf := Or.inl (z_mem (z_tG (List.mem_of_getElem? (i := 105) rfl)) rfl)
theorem wm_X12_208 : zln RX12 208 yX12_oftenOf := Or.inl (z_mem (z_tG (List.mem_of_getElem? (i := 109) rfl)) rfl)
theorem wm_X12_211 : zln RX12 211 yX12_behind := Or.inl (z_mem (z_tG (List.mem_of_getElem? (i := 113) rfl)) rfl)
theorem wm_X12_214 : zln RX12 214 yX12_letterOf := Or.inl (z_mem (z_tG (List.mem_of_getElem? (i := 121) rfl)) rfl)
theorem wf_X12_217 : Cond.fieldLink RX12 217 (zRn 12) (zTb 12 16).2.1 (zTb 12 16).2.2.1 ∈ zGW := z_mem (z_tF (List.mem_of_getElem? (i := 113) rfl)) rfl
theorem wm_X12_220 : zln RX12 220 yX12_isCentury := Or.inl (z_mem (z_tG (List.mem_of_getElem? (i := 129) rfl)) rfl)
theorem wf_X12_223 : Cond.fieldLink RX12 223 (zRn 12) (zTb 12 17).2.1 (zTb 12 17).2.2.1 ∈ zGW := z_mem (z_tF (List.mem_of_getElem? (i := 114) rfl)) rfl
theorem wf_X12_226 : Cond.fieldLink RX12 226 (zRn 12) (zTb 12 25).2.1 (zTb 12 25).2.2.1 ∈ zGW := z_mem (z_tF (List.mem_of_getElem? (i := 122) rfl)) rfl
theorem wm_X12_229 : zln RX12 229 yX12_holds := Or.inl (z_mem (z_tG (List.mem_of_getElem? (i := 153) rfl)) rfl)
theorem wm_X12_232 : zln RX12 232 yX12_begins0 := Or.inl (z_mem (z_tG (List.mem_of_getElem? (i := 168) rfl)) rfl)
theorem wm_X12_235 : zln RX12 235 yX12_puts := Or.inl (z_mem (z_tG (List.mem_of_getElem? (i := 160) rfl)) rfl)
theorem wm_X12_239 : zln RX12 239 yX12_fitting := Or.inl (z_mem (z_tG (List.mem_of_getElem? (i := 164) rfl)) rfl)
theorem wm_X12_242 : zln RX12 242 yX12_isStone := Or.inl (z_mem (z_tG (List.mem_of_getElem? (i := 149) rfl)) rfl)
theorem wm_X12_245 : zln RX12 245 yX12_freezes := Or.inl (z_mem (z_tG (List.mem_of_getElem? (i := 156) rfl)) rfl)
theorem wm_X12_248 : zln RX12 248 yX12_tells := Or.inl (z_mem (z_tG (List.mem_of_getElem? (i := 172) rfl)) rfl)
theorem wm_X12_251 : zln RX12 251 yX12_begins := Or.inl (z_mem (z_tG (List.mem_of_getElem? (i := 141) rfl)) rfl)
theorem wm_X12_254 : zln RX12 254 yX12_does := Or.inl (z_mem (z_tG (List.mem_of_getElem? (i := 145) rfl)) rfl)
theorem wm_X12_257 : zln RX12 257 yX12_runs := Or.inl (z_mem (z_tG (List.mem_of_getElem? (i := 137) rfl)) rfl)
theorem wm_X12_260 : zln RX12 260 yX12_feignedOn := Or.inl (z_mem (z_tG (List.mem_of_getElem? (i := 184) rfl)) rfl)
theorem wm_X12_263 : zln RX12 263 yX12_nowOf := Or.inl (z_mem (z_tG (List.mem_of_getElem? (i := 180) rfl)) rfl)
theorem wf_X12_266 : Cond.fieldLink RX12 266 (zRn 12) (zTb 12 26).2.1 (zTb 12 26).2.2.1 ∈ zGW := z_mem (z_tF (List.mem_of_getElem? (i := 123) rfl)) rfl
theorem wf_X12_269 : Cond.fieldLink RX12 269 (zRn 12) (zTb 12 27).2.1 (zTb 12 27).2.2.1 ∈ zGW := z_mem (z_tF (List.mem_of_getElem? (i := 124) rfl)) rfl
theorem wm_X12_272 : zln RX12 272 yX12_isLine := Or.inl (z_mem (z_tG (List.mem_of_getElem? (i := 196) rfl)) rfl)
theorem wm_X12_275 : zln RX12 275 yX12_inLine := Or.inl (z_mem (z_tG (List.mem_of_getElem? (i := 200) rfl)) rfl)
theorem wm_X12_278 : zln RX12 278 yX12_saidOf := Or.inl (z_mem (z_tG (List.mem_of_getElem? (i := 208) rfl)) rfl)
theorem wm_X12_281 : zln RX12 281 yX12_common := Or.inl (z_mem (z_tG (List.mem_of_getElem? (i := 224) rfl)) rfl)
theorem wk_X12_285 : Cond.constantLong RX12 285 (-1) ∈ zGW := z_mem (z_tG (List.mem_of_getElem? (i := 216) rfl)) rfl
theorem wm_X12_287 : zln RX12 287 yX12_oftenIn := Or.inl (z_mem (z_tG (List.mem_of_getElem? (i := 217) rfl)) rfl)
theorem wm_X12_290 : zln RX12 290 yX12_least := Or.inl (z_mem (z_tG (List.mem_of_getElem? (i := 221) rfl)) rfl)
theorem wm_X12_294 : zln RX12 294 yX12_alikeOf := Or.inl (z_mem (z_tG (List.mem_of_getElem? (i := 235) rfl)) rfl)
theorem wm_X12_297 : zln RX12 297 yX12_sureIn := Or.inl (z_mem (z_tG (List.mem_of_getElem? (i := 231) rfl)) rfl)
theorem wm_X12_300 : zln RX12 300 yX12_unlike := Or.inl (z_mem (z_tH (List.mem_of_getElem? (i := 15) rfl)) rfl)
theorem wm_X12_303 : zln RX12 303 yX12_laysReadings := Or.inl (z_mem (z_tH (List.mem_of_getElem? (i := 11) rfl)) rfl)
theorem wm_X12_306 : zln RX12 306 yX12_mendedOf := Or.inl (z_mem (z_tH (List.mem_of_getElem? (i := 23) rfl)) rfl)
theorem wf_X12_309 : Cond.fieldLink RX12 309 (zRn 12) (zTb 12 31).2.1 (zTb 12 31).2.2.1 ∈ zGW := z_mem (z_tF (List.mem_of_getElem? (i := 128) rfl)) rfl
theorem wf_X12_312 : Cond.fieldLink RX12 312 (zRn 12) (zTb 12 32).2.1 (zTb 12 32).2.2.1 ∈ zGW := z_mem (z_tF (List.mem_of_getElem? (i := 129) rfl)) rfl
theorem wm_X12_315 : zln RX12 315 yX12_takesWord := Or.inl (z_mem (z_tH (List.mem_of_getElem? (i := 31) rfl)) rfl)
theorem wm_X12_319 : zln RX12 319 yX12_changesOf := Or.inl (z_mem (z_tH (List.mem_of_getElem? (i := 35) rfl)) rfl)
theorem wm_X12_322 : zln RX12 322 yX12_apartOf := Or.inl (z_mem (z_tH (List.mem_of_getElem? (i := 47) rfl)) rfl)
theorem wm_X12_325 : zln RX12 325 yX12_isBeginning := Or.inl (z_mem (z_tH (List.mem_of_getElem? (i := 63) rfl)) rfl)
theorem wm_X12_328 : zln RX12 328 yX12_leadsOf := Or.inl (z_mem (z_tH (List.mem_of_getElem? (i := 55) rfl)) rfl)
theorem wm_X12_331 : zln RX12 331 yX12_withinOf := Or.inl (z_mem (z_tH (List.mem_of_getElem? (i := 59) rfl)) rfl)
theorem wm_X12_334 : zln RX12 334 yX12_closestOf := Or.inl (z_mem (z_tH (List.mem_of_getElem? (i := 67) rfl)) rfl)
theorem wm_X12_337 : zln RX12 337 yX12_treeOf := Or.inl (z_mem (z_tH (List.mem_of_getElem? (i := 71) rfl)) rfl)
theorem wm_X12_340 : zln RX12 340 yX12_bestBehind := Or.inl (z_mem (z_tH (List.mem_of_getElem? (i := 79) rfl)) rfl)
theorem wf_X12_343 : Cond.fieldLink RX12 343 (zRn 12) (zTb 12 36).2.1 (zTb 12 36).2.2.1 ∈ zGW := z_mem (z_tF (List.mem_of_getElem? (i := 133) rfl)) rfl
theorem wm_X12_346 : zln RX12 346 yX12_goesOn := Or.inl (z_mem (z_tH (List.mem_of_getElem? (i := 91) rfl)) rfl)
theorem wm_X12_349 : zln RX12 349 yX12_isWhole := Or.inl (z_mem (z_tH (List.mem_of_getElem? (i := 103) rfl)) rfl)
theorem wm_X12_352 : zln RX12 352 yX12_isWon := Or.inl (z_mem (z_tH (List.mem_of_getElem? (i := 99) rfl)) rfl)
theorem wf_X12_355 : Cond.fieldLink RX12 355 (zRn 12) (zTb 12 38).2.1 (zTb 12 38).2.2.1 ∈ zGW := z_mem (z_tF (List.mem_of_getElem? (i := 135) rfl)) rfl
theorem wf_X12_358 : Cond.fieldLink RX12 358 (zRn 12) (zTb 12 39).2.1 (zTb 12 39).2.2.1 ∈ zGW := z_mem (z_tF (List.mem_of_getElem? (i := 136) rfl)) rfl
theorem wm_X12_361 : zln RX12 361 yX12_isLog := Or.inl (z_mem (z_tH (List.mem_of_getElem? (i := 111) rfl)) rfl)
theorem wm_X12_364 : zln RX12 364 yX12_digit := Or.inl (z_mem (z_tH (List.mem_of_getElem? (i := 126) rfl)) rfl)
theorem wm_X12_367 : zln RX12 367 yX12_isSo := Or.inl (z_mem (z_tH (List.mem_of_getElem? (i := 133) rfl)) rfl)
theorem wm_X12_370 : zln RX12 370 yX12_isRule := Or.inl (z_mem (z_tH (List.mem_of_getElem? (i := 123) rfl)) rfl)
theorem wm_X12_373 : zln RX12 373 yX12_notSo := Or.inl (z_mem (z_tH (List.mem_of_getElem? (i := 129) rfl)) rfl)
theorem wm_X12_376 : zln RX12 376 yX12_fewest := Or.inl (z_mem (z_tH (List.mem_of_getElem? (i := 119) rfl)) rfl)
theorem wm_X12_379 : zln RX12 379 yX12_placesNotSo := Or.inl (z_mem (z_tH (List.mem_of_getElem? (i := 137) rfl)) rfl)
theorem wm_X12_382 : zln RX12 382 yX12_bitsOf := Or.inl (z_mem (z_tH (List.mem_of_getElem? (i := 149) rfl)) rfl)
theorem wm_X12_385 : zln RX12 385 yX12_power := Or.inl (z_mem (z_tH (List.mem_of_getElem? (i := 152) rfl)) rfl)
theorem wk_X12_389 : Cond.constantLong RX12 389 (10) ∈ zGW := z_mem (z_tH (List.mem_of_getElem? (i := 155) rfl)) rfl
theorem wf_X12_391 : Cond.fieldLink RX12 391 (zRn 12) (zTb 12 40).2.1 (zTb 12 40).2.2.1 ∈ zGW := z_mem (z_tF (List.mem_of_getElem? (i := 137) rfl)) rfl
theorem wk_X12_394 : Cond.constant RX12 394 (1103515245) ∈ zGW := z_mem (z_tH (List.mem_of_getElem? (i := 172) rfl)) rfl
theorem wm_X12_395 : zln RX12 395 yX12_below := Or.inl (z_mem (z_tH (List.mem_of_getElem? (i := 168) rfl)) rfl)
theorem wm_X12_398 : zln RX12 398 yX12_draws := Or.inl (z_mem (z_tH (List.mem_of_getElem? (i := 164) rfl)) rfl)
theorem wk_J6_265 : Cond.constant RJ6 265 (1431655765) ∈ zGW := z_mem (z_tE (List.mem_of_getElem? (i := 148) rfl)) rfl
theorem wk_J6_266 : Cond.constant RJ6 266 (858993459) ∈ zGW := z_mem (z_tE (List.mem_of_getElem? (i := 149) rfl)) rfl
theorem wk_J6_267 : Cond.constant RJ6 267 (252645135) ∈ zGW := z_mem (z_tE (List.mem_of_getElem? (i := 150) rfl)) rfl
theorem wc_L_7 : Cond.classLink RL 7 RX11 ∈ zGW := z_mem (z_tA (List.mem_of_getElem? (i := 22) rfl)) rfl
theorem wm_L_9 : zln RL 9 yX11_init := Or.inl (z_mem (z_tA (List.mem_of_getElem? (i := 24) rfl)) rfl)
theorem wc_L_10 : Cond.classLink RL 10 RX12 ∈ zGW := z_mem (z_tF (List.mem_of_getElem? (i := 91) rfl)) rfl
theorem wm_L_12 : zln RL 12 yX12_init := Or.inl (z_mem (z_tF (List.mem_of_getElem? (i := 93) rfl)) rfl)
theorem wm_L_13 : zln RL 13 yX11_feed := Or.inl (z_mem (z_tB (List.mem_of_getElem? (i := 191) rfl)) rfl)
theorem wm_L_17 : zln RL 17 yX12_feed := Or.inl (z_mem (z_tF (List.mem_of_getElem? (i := 222) rfl)) rfl)
theorem wm_L_18 : zln RL 18 yX11_end := Or.inl (z_mem (z_tB (List.mem_of_getElem? (i := 202) rfl)) rfl)
theorem wm_L_22 : zln RL 22 yX12_end := Or.inl (z_mem (z_tF (List.mem_of_getElem? (i := 226) rfl)) rfl)
theorem wm_L_23 : zln RL 23 yX11_text := Or.inl (z_mem (z_tB (List.mem_of_getElem? (i := 206) rfl)) rfl)
theorem wm_L_27 : zln RL 27 yX12_text := Or.inl (z_mem (z_tF (List.mem_of_getElem? (i := 230) rfl)) rfl)
theorem wm_L_28 : zln RL 28 yX11_fault := Or.inl (z_mem (z_tC (List.mem_of_getElem? (i := 222) rfl)) rfl)
theorem wm_L_31 : zln RL 31 yX12_fault := Or.inl (z_mem (z_tG (List.mem_of_getElem? (i := 85) rfl)) rfl)
theorem wm_L_32 : zln RL 32 yX11_hill := Or.inl (z_mem (z_tC (List.mem_of_getElem? (i := 226) rfl)) rfl)
theorem wm_L_35 : zln RL 35 yX12_hill := Or.inl (z_mem (z_tG (List.mem_of_getElem? (i := 89) rfl)) rfl)
theorem wm_L_36 : zln RL 36 yX11_deed := Or.inl (z_mem (z_tD (List.mem_of_getElem? (i := 22) rfl)) rfl)
theorem wm_L_40 : zln RL 40 yX12_deed := Or.inl (z_mem (z_tG (List.mem_of_getElem? (i := 125) rfl)) rfl)
theorem wm_L_41 : zln RL 41 yX11_stop := Or.inl (z_mem (z_tD (List.mem_of_getElem? (i := 35) rfl)) rfl)
theorem wm_L_44 : zln RL 44 yX12_stop := Or.inl (z_mem (z_tG (List.mem_of_getElem? (i := 133) rfl)) rfl)
theorem wm_L_45 : zln RL 45 yX11_state := Or.inl (z_mem (z_tD (List.mem_of_getElem? (i := 98) rfl)) rfl)
theorem wm_L_49 : zln RL 49 yX12_state := Or.inl (z_mem (z_tG (List.mem_of_getElem? (i := 176) rfl)) rfl)
theorem wm_L_50 : zln RL 50 yX11_line := Or.inl (z_mem (z_tD (List.mem_of_getElem? (i := 118) rfl)) rfl)
theorem wm_L_53 : zln RL 53 yX12_line := Or.inl (z_mem (z_tG (List.mem_of_getElem? (i := 192) rfl)) rfl)
theorem wm_L_54 : zln RL 54 yX11_said := Or.inl (z_mem (z_tD (List.mem_of_getElem? (i := 139) rfl)) rfl)
theorem wm_L_57 : zln RL 57 yX12_said := Or.inl (z_mem (z_tG (List.mem_of_getElem? (i := 204) rfl)) rfl)
theorem wm_L_58 : zln RL 58 yX11_odds := Or.inl (z_mem (z_tD (List.mem_of_getElem? (i := 163) rfl)) rfl)
theorem wm_L_62 : zln RL 62 yX12_odds := Or.inl (z_mem (z_tG (List.mem_of_getElem? (i := 212) rfl)) rfl)
theorem wm_L_63 : zln RL 63 yX11_sure := Or.inl (z_mem (z_tD (List.mem_of_getElem? (i := 182) rfl)) rfl)
theorem wm_L_67 : zln RL 67 yX12_sure := Or.inl (z_mem (z_tG (List.mem_of_getElem? (i := 227) rfl)) rfl)
theorem wm_L_68 : zln RL 68 yX11_reading := Or.inl (z_mem (z_tD (List.mem_of_getElem? (i := 195) rfl)) rfl)
theorem wm_L_71 : zln RL 71 yX12_reading := Or.inl (z_mem (z_tH (List.mem_of_getElem? (i := 7) rfl)) rfl)
theorem wm_L_72 : zln RL 72 yX11_slips := Or.inl (z_mem (z_tD (List.mem_of_getElem? (i := 226) rfl)) rfl)
theorem wm_L_75 : zln RL 75 yX12_slips := Or.inl (z_mem (z_tH (List.mem_of_getElem? (i := 27) rfl)) rfl)
theorem wm_L_76 : zln RL 76 yX11_asked := Or.inl (z_mem (z_tE (List.mem_of_getElem? (i := 1) rfl)) rfl)
theorem wm_L_80 : zln RL 80 yX12_asked := Or.inl (z_mem (z_tG (List.mem_of_getElem? (i := 239) rfl)) rfl)
theorem wm_L_81 : zln RL 81 yX11_soonest := Or.inl (z_mem (z_tE (List.mem_of_getElem? (i := 6) rfl)) rfl)
theorem wm_L_84 : zln RL 84 yX12_soonest := Or.inl (z_mem (z_tH (List.mem_of_getElem? (i := 3) rfl)) rfl)
theorem wm_L_85 : zln RL 85 yX11_sentences := Or.inl (z_mem (z_tE (List.mem_of_getElem? (i := 16) rfl)) rfl)
theorem wm_L_88 : zln RL 88 yX12_sentences := Or.inl (z_mem (z_tH (List.mem_of_getElem? (i := 83) rfl)) rfl)
theorem wm_L_89 : zln RL 89 yX11_twice := Or.inl (z_mem (z_tE (List.mem_of_getElem? (i := 35) rfl)) rfl)
theorem wm_L_92 : zln RL 92 yX12_twice := Or.inl (z_mem (z_tH (List.mem_of_getElem? (i := 87) rfl)) rfl)
theorem wm_L_93 : zln RL 93 yX11_ghost := Or.inl (z_mem (z_tE (List.mem_of_getElem? (i := 65) rfl)) rfl)
theorem wm_L_97 : zln RL 97 yX12_ghost := Or.inl (z_mem (z_tH (List.mem_of_getElem? (i := 95) rfl)) rfl)
theorem wm_L_98 : zln RL 98 yX11_fact := Or.inl (z_mem (z_tE (List.mem_of_getElem? (i := 80) rfl)) rfl)
theorem wm_L_101 : zln RL 101 yX12_fact := Or.inl (z_mem (z_tH (List.mem_of_getElem? (i := 107) rfl)) rfl)
theorem wm_L_102 : zln RL 102 yX11_forged := Or.inl (z_mem (z_tE (List.mem_of_getElem? (i := 93) rfl)) rfl)
theorem wm_L_105 : zln RL 105 yX12_forged := Or.inl (z_mem (z_tH (List.mem_of_getElem? (i := 115) rfl)) rfl)
theorem wm_L_106 : zln RL 106 yX11_chance := Or.inl (z_mem (z_tE (List.mem_of_getElem? (i := 164) rfl)) rfl)
theorem wm_L_109 : zln RL 109 yX12_chance := Or.inl (z_mem (z_tH (List.mem_of_getElem? (i := 145) rfl)) rfl)
theorem wm_L_110 : zln RL 110 yX11_drawn := Or.inl (z_mem (z_tE (List.mem_of_getElem? (i := 172) rfl)) rfl)
theorem wm_L_113 : zln RL 113 yX12_drawn := Or.inl (z_mem (z_tH (List.mem_of_getElem? (i := 160) rfl)) rfl)
theorem wm_L_114 : zln RL 114 yX11_next := Or.inl (z_mem (z_tE (List.mem_of_getElem? (i := 187) rfl)) rfl)
theorem wm_L_117 : zln RL 117 yX12_next := Or.inl (z_mem (z_tH (List.mem_of_getElem? (i := 19) rfl)) rfl)
theorem wm_L_118 : zln RL 118 yX11_echo := Or.inl (z_mem (z_tE (List.mem_of_getElem? (i := 213) rfl)) rfl)
theorem wm_L_122 : zln RL 122 yX12_echo := Or.inl (z_mem (z_tH (List.mem_of_getElem? (i := 39) rfl)) rfl)
theorem wm_L_123 : zln RL 123 yX11_alike := Or.inl (z_mem (z_tE (List.mem_of_getElem? (i := 227) rfl)) rfl)
theorem wm_L_126 : zln RL 126 yX12_alike := Or.inl (z_mem (z_tH (List.mem_of_getElem? (i := 43) rfl)) rfl)
theorem wm_L_127 : zln RL 127 yX11_tree := Or.inl (z_mem (z_tE (List.mem_of_getElem? (i := 236) rfl)) rfl)
theorem wm_L_130 : zln RL 130 yX12_tree := Or.inl (z_mem (z_tH (List.mem_of_getElem? (i := 51) rfl)) rfl)
theorem wm_L_131 : zln RL 131 yX11_chain := Or.inl (z_mem (z_tF (List.mem_of_getElem? (i := 24) rfl)) rfl)
theorem wm_L_134 : zln RL 134 yX12_chain := Or.inl (z_mem (z_tH (List.mem_of_getElem? (i := 75) rfl)) rfl)
theorem wm_L_135 : zln RL 135 yX11_after := Or.inl (z_mem (z_tF (List.mem_of_getElem? (i := 50) rfl)) rfl)
theorem wm_L_138 : zln RL 138 yX12_after := Or.inl (z_mem (z_tG (List.mem_of_getElem? (i := 188) rfl)) rfl)
theorem wm_L_139 : zln RL 139 yX11_age := Or.inl (z_mem (z_tF (List.mem_of_getElem? (i := 62) rfl)) rfl)
theorem wm_L_142 : zln RL 142 yX12_age := Or.inl (z_mem (z_tH (List.mem_of_getElem? (i := 141) rfl)) rfl)
theorem wm_L_143 : zln RL 143 yX11_waits := Or.inl (z_mem (z_tF (List.mem_of_getElem? (i := 70) rfl)) rfl)
theorem wm_L_146 : zln RL 146 yX12_waits := Or.inl (z_mem (z_tH (List.mem_of_getElem? (i := 156) rfl)) rfl)
theorem wm_L_147 : zln RL 147 yX11_count := Or.inl (z_mem (z_tF (List.mem_of_getElem? (i := 74) rfl)) rfl)
theorem wm_L_150 : zln RL 150 yX12_count := Or.inl (z_mem (z_tH (List.mem_of_getElem? (i := 173) rfl)) rfl)
theorem wm_L_151 : zln RL 151 yX11_image := Or.inl (z_mem (z_tF (List.mem_of_getElem? (i := 78) rfl)) rfl)
theorem wm_L_155 : zln RL 155 yX12_image := Or.inl (z_mem (z_tH (List.mem_of_getElem? (i := 177) rfl)) rfl)
theorem wm_L_156 : zln RL 156 yX11_again := Or.inl (z_mem (z_tF (List.mem_of_getElem? (i := 87) rfl)) rfl)
theorem wm_L_159 : zln RL 159 yX12_again := Or.inl (z_mem (z_tH (List.mem_of_getElem? (i := 181) rfl)) rfl)
theorem wn_11 : Cond.instantiable (zRn 11) (zN 11) ∈ zGW := z_mem (z_tA (List.mem_of_getElem? (i := 23) rfl)) rfl
theorem wn_9 : Cond.instantiable (zRn 9) (zN 9) ∈ zGW := z_mem (z_tA (List.mem_of_getElem? (i := 31) rfl)) rfl
theorem wn_3 : Cond.instantiable (zRn 3) (zN 3) ∈ zGW := z_mem (z_tA (List.mem_of_getElem? (i := 44) rfl)) rfl
theorem wn_0 : Cond.instantiable (zRn 0) (zN 0) ∈ zGW := z_mem (z_tA (List.mem_of_getElem? (i := 94) rfl)) rfl
theorem wn_4 : Cond.instantiable (zRn 4) (zN 4) ∈ zGW := z_mem (z_tA (List.mem_of_getElem? (i := 120) rfl)) rfl
theorem wn_5 : Cond.instantiable (zRn 5) (zN 5) ∈ zGW := z_mem (z_tA (List.mem_of_getElem? (i := 139) rfl)) rfl
theorem wn_6 : Cond.instantiable (zRn 6) (zN 6) ∈ zGW := z_mem (z_tA (List.mem_of_getElem? (i := 194) rfl)) rfl
theorem wn_8 : Cond.instantiable (zRn 8) (zN 8) ∈ zGW := z_mem (z_tA (List.mem_of_getElem? (i := 208) rfl)) rfl
theorem wn_2 : Cond.instantiable (zRn 2) (zN 2) ∈ zGW := z_mem (z_tB (List.mem_of_getElem? (i := 55) rfl)) rfl
theorem wn_1 : Cond.instantiable (zRn 1) (zN 1) ∈ zGW := z_mem (z_tB (List.mem_of_getElem? (i := 99) rfl)) rfl
theorem wn_10 : Cond.instantiable (zRn 10) (zN 10) ∈ zGW := z_mem (z_tB (List.mem_of_getElem? (i := 124) rfl)) rfl
theorem wn_7 : Cond.instantiable (zRn 7) (zN 7) ∈ zGW := z_mem (z_tB (List.mem_of_getElem? (i := 143) rfl)) rfl
theorem wn_12 : Cond.instantiable (zRn 12) (zN 12) ∈ zGW := z_mem (z_tF (List.mem_of_getElem? (i := 92) rfl)) rfl
theorem w_arrI : Cond.arrayClass .int ∈ zGW := z_mem (z_tA (List.mem_of_getElem? (i := 93) rfl)) rfl
theorem w_arrZ : Cond.arrayClass .boolean ∈ zGW := z_mem (z_tF (List.mem_of_getElem? (i := 221) rfl)) rfl
theorem w_objI : Cond.instanceMethod Lib.objectInit ∈ zGW := z_mem (z_tA (List.mem_of_getElem? (i := 28) rfl)) rfl
theorem w_objC : Cond.code Lib.objectInit ⟨#[0xb1]⟩ 1 none ∈ zGW := z_mem (z_tA (List.mem_of_getElem? (i := 29) rfl)) rfl
theorem w_cpN : Cond.native arraycopyName ∈ zGW := z_mem (z_tC (List.mem_of_getElem? (i := 208) rfl)) rfl
theorem w_cpS : Cond.static arraycopyName ∈ zGW := z_mem (z_tC (List.mem_of_getElem? (i := 207) rfl)) rfl
theorem w_mxC : Cond.code Lib.Math.max.name Lib.Math.max.code 2 (some .int) ∈ zGW := z_mem (z_tC (List.mem_of_getElem? (i := 151) rfl)) rfl
theorem w_mnC : Cond.code Lib.Math.min.name Lib.Math.min.code 2 (some .int) ∈ zGW := z_mem (z_tC (List.mem_of_getElem? (i := 136) rfl)) rfl
theorem w_mxS : Cond.static Lib.Math.max.name ∈ zGW := z_mem (z_tC (List.mem_of_getElem? (i := 150) rfl)) rfl
theorem w_mnS : Cond.static Lib.Math.min.name ∈ zGW := z_mem (z_tC (List.mem_of_getElem? (i := 135) rfl)) rfl
theorem w_mI : Cond.initialized "java/lang/Math" ∈ zGW := z_mem (z_tA (List.mem_of_getElem? (i := 19) rfl)) rfl
theorem w_cpI : Cond.initialized "java/lang/System" ∈ zGW := z_mem (z_tA (List.mem_of_getElem? (i := 20) rfl)) rfl
