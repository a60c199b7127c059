def wsL_law_r14 : List Cond := [Cond.static yJ1_canEncode_9a6ad, Cond.code yJ1_canEncode_9a6ad cJ1_canEncode_9a6ad 1 (some .boolean), Cond.methodLink RJ1 95 yJ1_indexOfChar_4cfef, Cond.static yJ1_indexOfChar_4cfef, Cond.code yJ1_indexOfChar_4cfef cJ1_indexOfChar_4cfef 6 (some .int), Cond.methodLink RJ0 640 yJ2_indexOf_4cfef, Cond.static yJ2_indexOf_4cfef, Cond.initialized RJ2, Cond.code yJ2_indexOf_4cfef cJ2_indexOf_4cfef 4 (some .int), Cond.methodLink RJ2 224 Lib.Math.max.name, Cond.methodLink RJ2 183 Lib.Math.min.name, Cond.constant RJ2 227 (65536), Cond.methodLink RJ2 228 yJ2_indexOfChar_4cfef, Cond.static yJ2_indexOfChar_4cfef, Cond.code yJ2_indexOfChar_4cfef cJ2_indexOfChar_4cfef 4 (some .int), Cond.methodLink RJ2 96 yJ2_checkBoundsBeginEnd_d044e, Cond.static yJ2_checkBoundsBeginEnd_d044e, Cond.code yJ2_checkBoundsBeginEnd_d044e cJ2_checkBoundsBeginEnd_d044e 3 none, Cond.methodLink RJ2 48 yJ2_length_9d52b, Cond.static yJ2_length_9d52b, Cond.code yJ2_length_9d52b cJ2_length_9d52b 1 (some .int), Cond.methodLink RJ2 241 yJ0_checkBoundsBeginEnd_23922, Cond.static yJ0_checkBoundsBeginEnd_23922, Cond.code yJ0_checkBoundsBeginEnd_23922 cJ0_checkBoundsBeginEnd_23922 3 none]
def wsL_law_r15 : List Cond := [Cond.fieldLink RJ0 1053 "jdk/internal/util/Preconditions" "SIOOBE_FORMATTER" "Ljava/util/function/BiFunction;", Cond.methodLink RJ0 1062 yJ3_checkFromToIndex_8c36e, Cond.static yJ3_checkFromToIndex_8c36e, Cond.initialized RJ3, Cond.code yJ3_checkFromToIndex_8c36e cJ3_checkFromToIndex_8c36e 4 (some .int), Cond.methodLink RJ2 244 yJ2_indexOfCharUnsafe_4cfef, Cond.static yJ2_indexOfCharUnsafe_4cfef, Cond.code yJ2_indexOfCharUnsafe_4cfef cJ2_indexOfCharUnsafe_4cfef 5 (some .int), Cond.methodLink RJ2 71 yJ2_getChar_3b067, Cond.static yJ2_getChar_3b067, Cond.code yJ2_getChar_3b067 cJ2_getChar_3b067 2 (some .char), Cond.fieldLink RJ2 44 "java/lang/StringUTF16" "$assertionsDisabled" "Z", Cond.fieldLink RJ2 59 "java/lang/StringUTF16" "HI_BYTE_SHIFT" "I", Cond.fieldLink RJ2 63 "java/lang/StringUTF16" "LO_BYTE_SHIFT" "I", Cond.methodLink RJ2 232 yJ2_indexOfSupplementary_4cfef, Cond.static yJ2_indexOfSupplementary_4cfef, Cond.code yJ2_indexOfSupplementary_4cfef cJ2_indexOfSupplementary_4cfef 7 (some .int), Cond.methodLink RJ2 164 yJ11_isValidCodePoint_9a6ad, Cond.static yJ11_isValidCodePoint_9a6ad, Cond.initialized RJ11, Cond.code yJ11_isValidCodePoint_9a6ad cJ11_isValidCodePoint_9a6ad 2 (some .boolean), Cond.methodLink RJ2 157 yJ11_highSurrogate_5068e, Cond.static yJ11_highSurrogate_5068e, Cond.code yJ11_highSurrogate_5068e cJ11_highSurrogate_5068e 1 (some .char)]
def wsL_law_r16 : List Cond := [Cond.constant RJ11 110 (55232), Cond.methodLink RJ2 161 yJ11_lowSurrogate_5068e, Cond.static yJ11_lowSurrogate_5068e, Cond.code yJ11_lowSurrogate_5068e cJ11_lowSurrogate_5068e 1 (some .char), Cond.constant RJ11 76 (56320), Cond.methodLink RX5 99 yX5_readSuitor, Cond.instanceMethod yX5_readSuitor, Cond.selects RX5 yX5_readSuitor yX5_readSuitor, Cond.code yX5_readSuitor cX5_readSuitor 4 none, Cond.methodLink RX9 156 yX1_begin, Cond.instanceMethod yX1_begin, Cond.selects RX1 yX1_begin yX1_begin, Cond.code yX1_begin cX1_begin 3 none, Cond.fieldLink RX1 18 "NightLoom$Cloth" "day" "I", Cond.fieldLink RX1 22 "NightLoom$Cloth" "night" "Z", Cond.fieldLink RX1 26 "NightLoom$Cloth" "hang" "I", Cond.fieldLink RX1 29 "NightLoom$Cloth" "high" "I", Cond.fieldLink RX1 32 "NightLoom$Cloth" "wear" "I", Cond.fieldLink RX1 40 "NightLoom$Cloth" "yarn" "I", Cond.fieldLink RX1 41 "NightLoom$Cloth" "blamed" "I", Cond.fieldLink RX1 44 "NightLoom$Cloth" "feastHang" "I", Cond.methodLink RX9 160 yX4_forget, Cond.instanceMethod yX4_forget, Cond.selects RX4 yX4_forget yX4_forget]
def wsL_law_r17 : List Cond := [Cond.code yX4_forget cX4_forget 1 none, Cond.fieldLink RX4 18 "NightLoom$Past" "next" "I", Cond.fieldLink RX4 22 "NightLoom$Past" "size" "I", Cond.methodLink RL 40 yX10_loom, Cond.instanceMethod yX10_loom, Cond.selects RX10 yX10_loom yX10_loom, Cond.code yX10_loom cX10_loom 1 (some .int), Cond.fieldLink RX10 85 "NightLoomModel" "size" "I", Cond.constant RX10 136 (-1000100), Cond.fieldLink RX10 82 "NightLoomModel" "begin" "I", Cond.fieldLink RX10 137 "NightLoomModel" "isLoom" "Z", Cond.fieldLink RX10 141 "NightLoomModel" "acts" "I", Cond.methodLink RX10 133 yX10_reads, Cond.instanceMethod yX10_reads, Cond.selects RX10 yX10_reads yX10_reads, Cond.code yX10_reads cX10_reads 2 (some .boolean), Cond.fieldLink RX10 79 "NightLoomModel" "at" "I", Cond.fieldLink RX10 95 "NightLoomModel" "token" "I", Cond.methodLink RX10 123 yX10_readsLaw, Cond.instanceMethod yX10_readsLaw, Cond.selects RX10 yX10_readsLaw yX10_readsLaw, Cond.code yX10_readsLaw cX10_readsLaw 2 (some .boolean), Cond.methodLink RX10 110 yX10_letter, Cond.instanceMethod yX10_letter]
def wsL_law_r18 : List Cond := [Cond.selects RX10 yX10_letter yX10_letter, Cond.code yX10_letter cX10_letter 2 (some .boolean), Cond.fieldLink RX10 98 "NightLoomModel" "value" "I", Cond.methodLink RX10 104 yX10_next, Cond.instanceMethod yX10_next, Cond.selects RX10 yX10_next yX10_next, Cond.code yX10_next cX10_next 2 none, Cond.constantLong RX10 88 (97), Cond.constantLong RX10 90 (122), Cond.methodLink RX10 92 yX10_isFigure, Cond.static yX10_isFigure, Cond.code yX10_isFigure cX10_isFigure 1 (some .boolean), Cond.constantLong RX10 75 (48), Cond.constantLong RX10 77 (57), Cond.methodLink RX10 107 yX10_fails, Cond.instanceMethod yX10_fails, Cond.selects RX10 yX10_fails yX10_fails, Cond.code yX10_fails cX10_fails 2 (some .boolean), Cond.fieldLink RX10 101 "NightLoomModel" "fault" "I", Cond.methodLink RX10 113 yX10_number, Cond.instanceMethod yX10_number, Cond.selects RX10 yX10_number yX10_number, Cond.code yX10_number cX10_number 4 (some .boolean), Cond.methodLink RX10 117 yX10_sign]
def wsL_law_r19 : List Cond := [Cond.instanceMethod yX10_sign, Cond.selects RX10 yX10_sign yX10_sign, Cond.code yX10_sign cX10_sign 2 (some .boolean), Cond.methodLink RX10 127 yX10_readsColours, Cond.instanceMethod yX10_readsColours, Cond.selects RX10 yX10_readsColours yX10_readsColours, Cond.code yX10_readsColours cX10_readsColours 3 (some .boolean), Cond.methodLink RX10 130 yX10_readsSuitor, Cond.instanceMethod yX10_readsSuitor, Cond.selects RX10 yX10_readsSuitor yX10_readsSuitor, Cond.code yX10_readsSuitor cX10_readsSuitor 3 (some .boolean), Cond.methodLink RX10 120 yX10_sortOf, Cond.static yX10_sortOf, Cond.code yX10_sortOf cX10_sortOf 1 (some .int), Cond.methodLink RX10 144 yX10_copies, Cond.static yX10_copies, Cond.code yX10_copies cX10_copies 5 none, Cond.methodLink RL 41 yX9_fault, Cond.instanceMethod yX9_fault, Cond.selects RX9 yX9_fault yX9_fault, Cond.code yX9_fault cX9_fault 1 (some .int), Cond.methodLink RL 44 yX10_fault, Cond.instanceMethod yX10_fault, Cond.selects RX10 yX10_fault yX10_fault]
def wsL_law_r20 : List Cond := [Cond.code yX10_fault cX10_fault 1 (some .int), Cond.methodLink RL 45 yX9_weave, Cond.instanceMethod yX9_weave, Cond.selects RX9 yX9_weave yX9_weave, Cond.code yX9_weave cX9_weave 2 (some .int), Cond.constant RX9 166 (-1000002), Cond.methodLink RX9 176 yX1_yarnFor, Cond.instanceMethod yX1_yarnFor, Cond.selects RX1 yX1_yarnFor yX1_yarnFor, Cond.code yX1_yarnFor cX1_yarnFor 3 (some .int), Cond.methodLink RX1 53 Lib.Math.min.name, Cond.methodLink RX9 182 yX4_keep, Cond.instanceMethod yX4_keep, Cond.selects RX4 yX4_keep yX4_keep, Cond.code yX4_keep cX4_keep 2 none, Cond.methodLink RX4 29 Lib.Math.min.name, Cond.methodLink RX4 25 yX1_become, Cond.instanceMethod yX1_become, Cond.selects RX1 yX1_become yX1_become, Cond.code yX1_become cX1_become 2 none, Cond.methodLink RX1 47 arraycopyName, Cond.methodLink RX9 186 yX1_hangMore, Cond.instanceMethod yX1_hangMore, Cond.selects RX1 yX1_hangMore yX1_hangMore]
def wsL_law_r21 : List Cond := [Cond.code yX1_hangMore cX1_hangMore 2 none, Cond.methodLink RX1 63 Lib.Math.max.name, Cond.methodLink RX1 59 yX1_yarnFor, Cond.methodLink RX9 190 yX1_passEvening, Cond.instanceMethod yX1_passEvening, Cond.selects RX1 yX1_passEvening yX1_passEvening, Cond.code yX1_passEvening cX1_passEvening 3 none, Cond.methodLink RX1 75 yX3_divides, Cond.static yX3_divides, Cond.code yX3_divides cX3_divides 2 (some .boolean), Cond.methodLink RX1 79 yX1_isDoubtful, Cond.instanceMethod yX1_isDoubtful, Cond.selects RX1 yX1_isDoubtful yX1_isDoubtful, Cond.code yX1_isDoubtful cX1_isDoubtful 4 (some .boolean), Cond.methodLink RX1 100 yX3_lookTheSame, Cond.instanceMethod yX3_lookTheSame, Cond.selects RX3 yX3_lookTheSame yX3_lookTheSame, Cond.code yX3_lookTheSame cX3_lookTheSame 5 (some .boolean), Cond.methodLink RX3 66 yX3_colourAt, Cond.instanceMethod yX3_colourAt, Cond.selects RX3 yX3_colourAt yX3_colourAt, Cond.code yX3_colourAt cX3_colourAt 2 (some .int), Cond.fieldLink RX3 43 "NightLoom$Law" "colours" "I", Cond.constant RX3 55 (-1000000)]
def wsL_law_r22 : List Cond := [Cond.methodLink RL 48 yX10_weave, Cond.instanceMethod yX10_weave, Cond.selects RX10 yX10_weave yX10_weave, Cond.code yX10_weave cX10_weave 3 (some .int), Cond.constant RX10 159 (-1000002), Cond.constantLong RX10 160 (6), Cond.methodLink RX10 162 yX10_wants, Cond.static yX10_wants, Cond.code yX10_wants cX10_wants 5 (some .int), Cond.methodLink RX10 165 yX10_yarn, Cond.static yX10_yarn, Cond.code yX10_yarn cX10_yarn 1 (some .int), Cond.methodLink RX10 169 yX10_remember, Cond.instanceMethod yX10_remember, Cond.selects RX10 yX10_remember yX10_remember, Cond.code yX10_remember cX10_remember 2 none, Cond.methodLink RX10 172 yX10_weaves, Cond.static yX10_weaves, Cond.code yX10_weaves cX10_weaves 4 none, Cond.methodLink RX10 176 yX10_looks, Cond.static yX10_looks, Cond.code yX10_looks cX10_looks 5 none, Cond.methodLink RX10 152 yX10_comes, Cond.static yX10_comes]
def wsL_law_r23 : List Cond := [Cond.code yX10_comes cX10_comes 2 (some .boolean), Cond.methodLink RX10 156 yX10_looksSame, Cond.static yX10_looksSame, Cond.code yX10_looksSame cX10_looksSame 3 (some .boolean), Cond.methodLink RX10 148 yX10_colourAt, Cond.static yX10_colourAt, Cond.code yX10_colourAt cX10_colourAt 2 (some .int), Cond.methodLink RX10 180 yX10_feasts, Cond.static yX10_feasts, Cond.code yX10_feasts cX10_feasts 2 (some .boolean), Cond.methodLink RL 49 yX9_unpick, Cond.instanceMethod yX9_unpick, Cond.selects RX9 yX9_unpick yX9_unpick, Cond.code yX9_unpick cX9_unpick 2 (some .int), Cond.methodLink RX9 196 yX3_mostUndone, Cond.instanceMethod yX3_mostUndone, Cond.selects RX3 yX3_mostUndone yX3_mostUndone, Cond.code yX3_mostUndone cX3_mostUndone 3 (some .int), Cond.fieldLink RX3 34 "NightLoom$Law" "moon" "I", Cond.fieldLink RX3 31 "NightLoom$Law" "tired" "I", Cond.methodLink RX3 60 Lib.Math.min.name, Cond.methodLink RX3 56 yX3_divides, Cond.methodLink RX9 199 yX1_passNight, Cond.instanceMethod yX1_passNight]
def wsL_law_r24 : List Cond := [Cond.selects RX1 yX1_passNight yX1_passNight, Cond.code yX1_passNight cX1_passNight 4 none, Cond.methodLink RX1 89 yX1_fewestNoticed, Cond.static yX1_fewestNoticed, Cond.code yX1_fewestNoticed cX1_fewestNoticed 1 (some .int), Cond.methodLink RL 52 yX10_unpick, Cond.instanceMethod yX10_unpick, Cond.selects RX10 yX10_unpick yX10_unpick, Cond.code yX10_unpick cX10_unpick 2 (some .int), Cond.constantLong RX10 184 (9), Cond.methodLink RX10 186 yX10_isMoon, Cond.static yX10_isMoon, Cond.code yX10_isMoon cX10_isMoon 1 (some .boolean), Cond.methodLink RX10 189 yX10_undoes, Cond.static yX10_undoes, Cond.code yX10_undoes cX10_undoes 4 none, Cond.methodLink RL 53 yX9_undo, Cond.instanceMethod yX9_undo, Cond.selects RX9 yX9_undo yX9_undo, Cond.code yX9_undo cX9_undo 1 (some .int), Cond.methodLink RX9 204 yX4_takeBack, Cond.instanceMethod yX4_takeBack, Cond.selects RX4 yX4_takeBack yX4_takeBack, Cond.code yX4_takeBack cX4_takeBack 2 none]
def wsL_law_r25 : List Cond := [Cond.methodLink RL 56 yX10_undo, Cond.instanceMethod yX10_undo, Cond.selects RX10 yX10_undo yX10_undo, Cond.code yX10_undo cX10_undo 1 (some .int), Cond.methodLink RL 57 yX9_cloth, Cond.instanceMethod yX9_cloth, Cond.selects RX9 yX9_cloth yX9_cloth, Cond.code yX9_cloth cX9_cloth 2 (some .int), Cond.methodLink RL 60 yX10_cloth, Cond.instanceMethod yX10_cloth, Cond.selects RX10 yX10_cloth yX10_cloth, Cond.code yX10_cloth cX10_cloth 2 (some .int), Cond.methodLink RL 61 yX9_colour, Cond.instanceMethod yX9_colour, Cond.selects RX9 yX9_colour yX9_colour, Cond.code yX9_colour cX9_colour 2 (some .int), Cond.methodLink RX9 216 yX3_colourAt, Cond.methodLink RL 64 yX10_colour, Cond.instanceMethod yX10_colour, Cond.selects RX10 yX10_colour yX10_colour, Cond.code yX10_colour cX10_colour 2 (some .int), Cond.methodLink RL 65 yX9_suitor, Cond.instanceMethod yX9_suitor, Cond.selects RX9 yX9_suitor yX9_suitor]
def wsL_law_r26 : List Cond := [Cond.code yX9_suitor cX9_suitor 3 (some .int), Cond.constant RX9 238 (-1000000), Cond.methodLink RX9 219 yX9_isSuitor, Cond.instanceMethod yX9_isSuitor, Cond.selects RX9 yX9_isSuitor yX9_isSuitor, Cond.code yX9_isSuitor cX9_isSuitor 2 (some .boolean), Cond.methodLink RX9 231 yX1_knows, Cond.instanceMethod yX1_knows, Cond.selects RX1 yX1_knows yX1_knows, Cond.code yX1_knows cX1_knows 3 (some .boolean), Cond.methodLink RL 69 yX10_suitor, Cond.instanceMethod yX10_suitor, Cond.selects RX10 yX10_suitor yX10_suitor, Cond.code yX10_suitor cX10_suitor 4 (some .int), Cond.constantLong RX10 195 (4), Cond.constant RX10 200 (-1000000), Cond.methodLink RX10 192 yX10_isSuitor, Cond.instanceMethod yX10_isSuitor, Cond.selects RX10 yX10_isSuitor yX10_isSuitor, Cond.code yX10_isSuitor cX10_isSuitor 2 (some .boolean), Cond.methodLink RX10 197 yX10_knows, Cond.static yX10_knows, Cond.code yX10_knows cX10_knows 2 (some .boolean), Cond.methodLink RL 70 yX9_holds]
def wsL_law_r27 : List Cond := [Cond.instanceMethod yX9_holds, Cond.selects RX9 yX9_holds yX9_holds, Cond.code yX9_holds cX9_holds 4 (some .int), Cond.methodLink RX9 239 yX9_isHabit, Cond.static yX9_isHabit, Cond.code yX9_isHabit cX9_isHabit 2 (some .boolean), Cond.methodLink RX9 242 yX7_foretell, Cond.instanceMethod yX7_foretell, Cond.selects RX7 yX7_foretell yX7_foretell, Cond.code yX7_foretell cX7_foretell 5 none, Cond.methodLink RX7 25 yX3_become, Cond.instanceMethod yX3_become, Cond.selects RX3 yX3_become yX3_become, Cond.code yX3_become cX3_become 2 none, Cond.fieldLink RX3 24 "NightLoom$Law" "threads" "I", Cond.fieldLink RX3 28 "NightLoom$Law" "yarn" "I", Cond.fieldLink RX3 37 "NightLoom$Law" "feast" "I", Cond.fieldLink RX3 40 "NightLoom$Law" "grows" "I", Cond.fieldLink RX3 46 "NightLoom$Law" "suitors" "I", Cond.methodLink RX3 49 arraycopyName, Cond.methodLink RX7 29 yX7_foretellHabit, Cond.instanceMethod yX7_foretellHabit, Cond.selects RX7 yX7_foretellHabit yX7_foretellHabit, Cond.code yX7_foretellHabit cX7_foretellHabit 5 none]
def wsL_law_r28 : List Cond := [Cond.fieldLink RX7 40 "NightLoom$Seer" "days" "I", Cond.fieldLink RX7 75 "NightLoom$Seer" "ends" "I", Cond.constant RX7 49 (-1000000), Cond.fieldLink RX7 86 "NightLoom$Seer" "who" "I", Cond.methodLink RX7 60 yX1_become, Cond.methodLink RX7 71 yX7_endOfNight, Cond.instanceMethod yX7_endOfNight, Cond.selects RX7 yX7_endOfNight yX7_endOfNight, Cond.code yX7_endOfNight cX7_endOfNight 2 (some .int), Cond.methodLink RX7 105 yX7_undoes, Cond.instanceMethod yX7_undoes, Cond.selects RX7 yX7_undoes yX7_undoes, Cond.code yX7_undoes cX7_undoes 2 none, Cond.methodLink RX7 113 Lib.Math.min.name, Cond.methodLink RX7 130 yX3_mostUndone, Cond.methodLink RX7 133 yX1_passNight, Cond.methodLink RX7 82 yX1_firstWhoKnows, Cond.instanceMethod yX1_firstWhoKnows, Cond.selects RX1 yX1_firstWhoKnows yX1_firstWhoKnows, Cond.code yX1_firstWhoKnows cX1_firstWhoKnows 3 (some .int), Cond.constant RX1 99 (-1000000), Cond.methodLink RX1 95 yX1_knows, Cond.methodLink RX7 78 yX7_endOfDay, Cond.instanceMethod yX7_endOfDay]
def wsL_law_r29 : List Cond := [Cond.selects RX7 yX7_endOfDay yX7_endOfDay, Cond.code yX7_endOfDay cX7_endOfDay 4 (some .int), Cond.methodLink RX7 89 yX7_weaves, Cond.instanceMethod yX7_weaves, Cond.selects RX7 yX7_weaves yX7_weaves, Cond.code yX7_weaves cX7_weaves 3 (some .boolean), Cond.methodLink RX7 118 yX1_yarnFor, Cond.methodLink RX7 124 yX1_hangMore, Cond.methodLink RX7 102 yX1_passEvening, Cond.methodLink RL 73 yX10_holds, Cond.instanceMethod yX10_holds, Cond.selects RX10 yX10_holds yX10_holds, Cond.code yX10_holds cX10_holds 4 (some .int), Cond.fieldLink RX10 214 "NightLoomModel" "days" "I", Cond.fieldLink RX10 217 "NightLoomModel" "ends" "I", Cond.methodLink RX10 223 yX10_habit, Cond.instanceMethod yX10_habit, Cond.selects RX10 yX10_habit yX10_habit, Cond.code yX10_habit cX10_habit 3 none, Cond.methodLink RX10 208 yX10_undoneBy, Cond.static yX10_undoneBy, Cond.code yX10_undoneBy cX10_undoneBy 2 (some .int), Cond.methodLink RX10 201 yX10_lesser, Cond.static yX10_lesser]
def wsL_law_r30 : List Cond := [Cond.code yX10_lesser cX10_lesser 2 (some .int), Cond.methodLink RX10 211 yX10_whoKnows, Cond.static yX10_whoKnows, Cond.code yX10_whoKnows cX10_whoKnows 2 (some .int), Cond.methodLink RX10 220 yX10_dayGoes, Cond.instanceMethod yX10_dayGoes, Cond.selects RX10 yX10_dayGoes yX10_dayGoes, Cond.code yX10_dayGoes cX10_dayGoes 4 (some .int), Cond.methodLink RX10 205 yX10_wovenBy, Cond.static yX10_wovenBy, Cond.code yX10_wovenBy cX10_wovenBy 2 (some .int), Cond.methodLink RL 74 yX9_longest, Cond.instanceMethod yX9_longest, Cond.selects RX9 yX9_longest yX9_longest, Cond.code yX9_longest cX9_longest 2 (some .int), Cond.methodLink RX9 255 yX7_findLongest, Cond.instanceMethod yX7_findLongest, Cond.selects RX7 yX7_findLongest yX7_findLongest, Cond.code yX7_findLongest cX7_findLongest 5 none, Cond.fieldLink RX7 33 "NightLoom$Seer" "bestDays" "I", Cond.fieldLink RX7 43 "NightLoom$Seer" "bestWoven" "I", Cond.fieldLink RX7 46 "NightLoom$Seer" "bestUndone" "I", Cond.methodLink RL 77 yX10_longest, Cond.instanceMethod yX10_longest]
def wsL_law_r31 : List Cond := [Cond.selects RX10 yX10_longest yX10_longest, Cond.code yX10_longest cX10_longest 5 (some .int), Cond.methodLink RL 78 yX9_soonest, Cond.instanceMethod yX9_soonest, Cond.selects RX9 yX9_soonest yX9_soonest, Cond.code yX9_soonest cX9_soonest 5 (some .int), Cond.methodLink RX9 268 yX7_findSoonest, Cond.instanceMethod yX7_findSoonest, Cond.selects RX7 yX7_findSoonest yX7_findSoonest, Cond.code yX7_findSoonest cX7_findSoonest 8 none, Cond.fieldLink RX7 50 "NightLoom$Seer" "soonEvery" "I", Cond.fieldLink RX7 53 "NightLoom$Seer" "soonDays" "I", Cond.methodLink RX7 63 yX7_daysTillKnown, Cond.instanceMethod yX7_daysTillKnown, Cond.selects RX7 yX7_daysTillKnown yX7_daysTillKnown, Cond.code yX7_daysTillKnown cX7_daysTillKnown 5 (some .int), Cond.methodLink RX7 109 yX1_knows, Cond.methodLink RL 82 yX10_soonest, Cond.instanceMethod yX10_soonest, Cond.selects RX10 yX10_soonest yX10_soonest, Cond.code yX10_soonest cX10_soonest 9 (some .int), Cond.methodLink RX10 227 yX10_isTwo, Cond.static yX10_isTwo, Cond.code yX10_isTwo cX10_isTwo 1 (some .boolean)]
def wsL_law_r32 : List Cond := [Cond.methodLink RX10 230 yX10_knowsBy, Cond.instanceMethod yX10_knowsBy, Cond.selects RX10 yX10_knowsBy yX10_knowsBy, Cond.code yX10_knowsBy cX10_knowsBy 7 (some .int), Cond.methodLink RL 83 yX9_twice, Cond.instanceMethod yX9_twice, Cond.selects RX9 yX9_twice yX9_twice, Cond.code yX9_twice cX9_twice 2 (some .int), Cond.methodLink RX9 278 yX8_find, Cond.instanceMethod yX8_find, Cond.selects RX8 yX8_find yX8_find, Cond.code yX8_find cX8_find 5 none, Cond.fieldLink RX8 9 "NightLoom$Stretches" "length" "I", Cond.constant RX8 15 (-1000000), Cond.fieldLink RX8 16 "NightLoom$Stretches" "first" "I", Cond.fieldLink RX8 19 "NightLoom$Stretches" "second" "I", Cond.methodLink RX8 27 yX8_sameFrom, Cond.static yX8_sameFrom, Cond.code yX8_sameFrom cX8_sameFrom 4 (some .int), Cond.methodLink RX8 31 yX3_colourAt, Cond.methodLink RL 86 yX10_twice, Cond.instanceMethod yX10_twice, Cond.selects RX10 yX10_twice yX10_twice, Cond.code yX10_twice cX10_twice 7 (some .int)]
def wsL_law_r33 : List Cond := [Cond.methodLink RX10 234 yX10_alike, Cond.instanceMethod yX10_alike, Cond.selects RX10 yX10_alike yX10_alike, Cond.code yX10_alike cX10_alike 4 (some .int), Cond.methodLink RL 87 yX9_looks, Cond.instanceMethod yX9_looks, Cond.selects RX9 yX9_looks yX9_looks, Cond.code yX9_looks cX9_looks 2 (some .int), Cond.methodLink RX9 288 yX3_lengthsThatLookAs, Cond.instanceMethod yX3_lengthsThatLookAs, Cond.selects RX3 yX3_lengthsThatLookAs yX3_lengthsThatLookAs, Cond.code yX3_lengthsThatLookAs cX3_lengthsThatLookAs 5 (some .int), Cond.methodLink RX3 70 yX3_lookTheSame, Cond.methodLink RL 90 yX10_looks_, Cond.instanceMethod yX10_looks_, Cond.selects RX10 yX10_looks_ yX10_looks_, Cond.code yX10_looks_ cX10_looks_ 6 (some .int), Cond.methodLink RL 91 yX9_seen, Cond.instanceMethod yX9_seen, Cond.selects RX9 yX9_seen yX9_seen, Cond.code yX9_seen cX9_seen 6 (some .int), Cond.methodLink RX9 291 yX6_areWithin, Cond.instanceMethod yX6_areWithin, Cond.selects RX6 yX6_areWithin yX6_areWithin]
def wsL_law_r34 : List Cond := [Cond.code yX6_areWithin cX6_areWithin 5 (some .boolean), Cond.methodLink RX9 295 yX2_explain, Cond.instanceMethod yX2_explain, Cond.selects RX2 yX2_explain yX2_explain, Cond.code yX2_explain cX2_explain 10 none, Cond.fieldLink RX2 29 "NightLoom$Evenings" "ways" "I", Cond.fieldLink RX2 34 "NightLoom$Evenings" "inAll" "I", Cond.fieldLink RX2 37 "NightLoom$Evenings" "inSome" "I", Cond.methodLink RX2 43 yX3_mostUndone, Cond.methodLink RX2 49 yX2_addNight, Cond.instanceMethod yX2_addNight, Cond.selects RX2 yX2_addNight yX2_addNight, Cond.code yX2_addNight cX2_addNight 7 none, Cond.methodLink RL 94 yX10_seen, Cond.instanceMethod yX10_seen, Cond.selects RX10 yX10_seen yX10_seen, Cond.code yX10_seen cX10_seen 13 (some .int), Cond.constantLong RX10 237 (8), Cond.methodLink RX10 239 yX10_waysOf, Cond.instanceMethod yX10_waysOf, Cond.selects RX10 yX10_waysOf yX10_waysOf, Cond.code yX10_waysOf cX10_waysOf 10 (some .int), Cond.methodLink RL 95 yX9_image, Cond.instanceMethod yX9_image]
def wsL_law_r35 : List Cond := [Cond.selects RX9 yX9_image yX9_image, Cond.code yX9_image cX9_image 2 (some .int), Cond.methodLink RX9 308 yX3_become, Cond.methodLink RX9 311 yX1_become, Cond.methodLink RL 98 yX10_image, Cond.instanceMethod yX10_image, Cond.selects RX10 yX10_image yX10_image, Cond.code yX10_image cX10_image 2 (some .int), Cond.methodLink RL 99 yX9_restore, Cond.instanceMethod yX9_restore, Cond.selects RX9 yX9_restore yX9_restore, Cond.code yX9_restore cX9_restore 2 (some .int), Cond.methodLink RL 102 yX10_restore, Cond.instanceMethod yX10_restore, Cond.selects RX10 yX10_restore yX10_restore, Cond.code yX10_restore cX10_restore 2 (some .int), Cond.methodLink RL 103 yX9_kind, Cond.instanceMethod yX9_kind, Cond.selects RX9 yX9_kind yX9_kind, Cond.code yX9_kind cX9_kind 2 (some .int), Cond.methodLink RL 106 yX10_kind, Cond.instanceMethod yX10_kind, Cond.selects RX10 yX10_kind yX10_kind, Cond.code yX10_kind cX10_kind 2 (some .int)]
def wsL_law_r36 : List Cond := [Cond.methodLink RL 107 yX9_as, Cond.instanceMethod yX9_as, Cond.selects RX9 yX9_as yX9_as, Cond.code yX9_as cX9_as 3 (some .int), Cond.methodLink RX9 316 yX9_isOneOf, Cond.static yX9_isOneOf, Cond.code yX9_isOneOf cX9_isOneOf 4 (some .boolean), Cond.fieldLink RX9 348 "NightLoom" "NEAREST" "[I", Cond.methodLink RL 110 yX10_as, Cond.instanceMethod yX10_as, Cond.selects RX10 yX10_as yX10_as, Cond.code yX10_as cX10_as 3 (some .int), Cond.constantLong RX10 243 (5), Cond.methodLink RX10 245 yX10_isOf, Cond.static yX10_isOf, Cond.code yX10_isOf cX10_isOf 2 (some .boolean), Cond.methodLink RL 111 yX9_ask, Cond.instanceMethod yX9_ask, Cond.selects RX9 yX9_ask yX9_ask, Cond.code yX9_ask cX9_ask 3 (some .int), Cond.methodLink RX9 319 yX0_turnTo, Cond.instanceMethod yX0_turnTo, Cond.selects RX0 yX0_turnTo yX0_turnTo, Cond.code yX0_turnTo cX0_turnTo 5 none]
def wsL_law_r37 : List Cond := [Cond.fieldLink RX0 15 "NightLoom$Asked" "left" "I", Cond.fieldLink RX0 19 "NightLoom$Asked" "number" "I", Cond.fieldLink RX0 22 "NightLoom$Asked" "sort" "I", Cond.fieldLink RX0 25 "NightLoom$Asked" "doubts" "I", Cond.fieldLink RX0 28 "NightLoom$Asked" "limit" "I", Cond.methodLink RX9 323 yX0_size, Cond.instanceMethod yX0_size, Cond.selects RX0 yX0_size yX0_size, Cond.code yX0_size cX0_size 1 (some .int), Cond.methodLink RX0 31 yX0_size11, Cond.instanceMethod yX0_size11, Cond.selects RX0 yX0_size11 yX0_size11, Cond.code yX0_size11 cX0_size11 2 (some .int), Cond.methodLink RX0 62 yX0_leave, Cond.instanceMethod yX0_leave, Cond.selects RX0 yX0_leave yX0_leave, Cond.code yX0_leave cX0_leave 2 none, Cond.methodLink RX0 44 yX0_size10, Cond.instanceMethod yX0_size10, Cond.selects RX0 yX0_size10 yX0_size10, Cond.code yX0_size10 cX0_size10 1 (some .int), Cond.methodLink RX0 50 yX0_mark24, Cond.instanceMethod yX0_mark24, Cond.selects RX0 yX0_mark24 yX0_mark24]
def wsL_law_r38 : List Cond := [Cond.code yX0_mark24 cX0_mark24 1 (some .int), Cond.methodLink RX0 47 yX0_mark21, Cond.instanceMethod yX0_mark21, Cond.selects RX0 yX0_mark21 yX0_mark21, Cond.code yX0_mark21 cX0_mark21 1 (some .int), Cond.methodLink RX0 59 yX0_mark20, Cond.instanceMethod yX0_mark20, Cond.selects RX0 yX0_mark20 yX0_mark20, Cond.code yX0_mark20 cX0_mark20 1 (some .int), Cond.methodLink RX0 53 yX0_mark22, Cond.instanceMethod yX0_mark22, Cond.selects RX0 yX0_mark22 yX0_mark22, Cond.code yX0_mark22 cX0_mark22 1 (some .int), Cond.methodLink RX0 35 yX0_size12, Cond.instanceMethod yX0_size12, Cond.selects RX0 yX0_size12 yX0_size12, Cond.code yX0_size12 cX0_size12 1 (some .int), Cond.methodLink RX0 38 yX0_size13, Cond.instanceMethod yX0_size13, Cond.selects RX0 yX0_size13 yX0_size13, Cond.code yX0_size13 cX0_size13 1 (some .int), Cond.methodLink RX0 41 yX0_size14, Cond.instanceMethod yX0_size14, Cond.selects RX0 yX0_size14 yX0_size14]
def wsL_law_r39 : List Cond := [Cond.code yX0_size14 cX0_size14 1 (some .int), Cond.methodLink RX9 326 yX0_mark, Cond.instanceMethod yX0_mark, Cond.selects RX0 yX0_mark yX0_mark, Cond.code yX0_mark cX0_mark 1 (some .int), Cond.methodLink RX0 56 yX0_mark23, Cond.instanceMethod yX0_mark23, Cond.selects RX0 yX0_mark23 yX0_mark23, Cond.code yX0_mark23 cX0_mark23 2 (some .int), Cond.methodLink RL 114 yX10_ask, Cond.instanceMethod yX10_ask, Cond.selects RX10 yX10_ask yX10_ask, Cond.code yX10_ask cX10_ask 5 (some .int), Cond.fieldLink RX10 251 "NightLoomModel" "traced" "I", Cond.constantLong RX10 271 (121110), Cond.constantLong RX10 273 (1110), Cond.constantLong RX10 278 (2320), Cond.methodLink RX10 268 yX10_mark, Cond.instanceMethod yX10_mark, Cond.selects RX10 yX10_mark yX10_mark, Cond.code yX10_mark cX10_mark 4 (some .int), Cond.constantLong RX10 254 (242120), Cond.constantLong RX10 256 (222120), Cond.constantLong RX10 258 (2120)]
def wsL_law_r40 : List Cond := [Cond.methodLink RX10 260 yX10_leave, Cond.instanceMethod yX10_leave, Cond.selects RX10 yX10_leave yX10_leave, Cond.code yX10_leave cX10_leave 7 none, Cond.constantLong RX10 249 (100), Cond.methodLink RX10 275 yX10_sizeOf, Cond.instanceMethod yX10_sizeOf, Cond.selects RX10 yX10_sizeOf yX10_sizeOf, Cond.code yX10_sizeOf cX10_sizeOf 4 (some .int), Cond.constantLong RX10 264 (141310), Cond.constantLong RX10 266 (1310), Cond.methodLink RL 115 yX9_trace, Cond.instanceMethod yX9_trace, Cond.selects RX9 yX9_trace yX9_trace, Cond.code yX9_trace cX9_trace 2 (some .int), Cond.methodLink RL 118 yX10_trace, Cond.instanceMethod yX10_trace, Cond.selects RX10 yX10_trace yX10_trace, Cond.code yX10_trace cX10_trace 2 (some .int), Cond.methodLink RL 119 yX9_count, Cond.instanceMethod yX9_count, Cond.selects RX9 yX9_count yX9_count, Cond.code yX9_count cX9_count 2 (some .int), Cond.methodLink RX9 335 yX9_rowsThere]
def wsL_law_r41 : List Cond := [Cond.instanceMethod yX9_rowsThere, Cond.selects RX9 yX9_rowsThere yX9_rowsThere, Cond.code yX9_rowsThere cX9_rowsThere 3 (some .int), Cond.methodLink RX9 341 yX1_whoKnows, Cond.instanceMethod yX1_whoKnows, Cond.selects RX1 yX1_whoKnows yX1_whoKnows, Cond.code yX1_whoKnows cX1_whoKnows 4 (some .int), Cond.methodLink RL 122 yX10_count, Cond.instanceMethod yX10_count, Cond.selects RX10 yX10_count yX10_count, Cond.code yX10_count cX10_count 5 (some .int), Cond.methodLink RL 123 yX9_status, Cond.instanceMethod yX9_status, Cond.selects RX9 yX9_status yX9_status, Cond.code yX9_status cX9_status 1 (some .int), Cond.methodLink RL 126 yX10_status, Cond.instanceMethod yX10_status, Cond.selects RX10 yX10_status yX10_status, Cond.code yX10_status cX10_status 1 (some .int)]
def wsL_law : List Cond := (wsL_law_r1 ++ (wsL_law_r2 ++ (wsL_law_r3 ++ (wsL_law_r4 ++ (wsL_law_r5 ++ (wsL_law_r6 ++ (wsL_law_r7 ++ (wsL_law_r8 ++ (wsL_law_r9 ++ (wsL_law_r10 ++ (wsL_law_r11 ++ (wsL_law_r12 ++ (wsL_law_r13 ++ (wsL_law_r14 ++ (wsL_law_r15 ++ (wsL_law_r16 ++ (wsL_law_r17 ++ (wsL_law_r18 ++ (wsL_law_r19 ++ (wsL_law_r20 ++ (wsL_law_r21 ++ (wsL_law_r22 ++ (wsL_law_r23 ++ (wsL_law_r24 ++ (wsL_law_r25 ++ (wsL_law_r26 ++ (wsL_law_r27 ++ (wsL_law_r28 ++ (wsL_law_r29 ++ (wsL_law_r30 ++ (wsL_law_r31 ++ (wsL_law_r32 ++ (wsL_law_r33 ++ (wsL_law_r34 ++ (wsL_law_r35 ++ (wsL_law_r36 ++ (wsL_law_r37 ++ (wsL_law_r38 ++ (wsL_law_r39 ++ (wsL_law_r40 ++ wsL_law_r41)))))))))))))))))))))))))))))))))))))))) ++ wsX90 ++ wsX100 ++ wsX50 ++ wsX30 ++ wsX10 ++ wsX40 ++ wsX70 ++ wsX80 ++ wsX20 ++ wsX00 ++ wsX60 ++ ([] : List Cond)
set_option maxRecDepth 20000 in
theorem wsL_law_in : ∀ w ∈ wsL_law, w ∈ lw_tbl := fun w h => (goodIn_p wsL_law [79, 82, 89, 120, 192, 246, 267, 317, 336, 355, 381, 974, 453, 456, 459, 464, 469, 473, 1052, 1055, 1059, 1065, 1070, 477, 481, 485, 1074, 489, 1078, 496, 1082, 500, 505, 1086, 509, 513, 517, 521, 525, 529, 533, 537, 541, 545, 549, 553, 557, 562, 566, 570, 576, 580, 583, 589, 592, 586, 595, 598, 604, 607, 610, 613, 618, 621, 624, 633, 636, 639, 643, 648, 653, 657, 1092, 1096, 1100, 1104, 1108, 1113, 1119, 1123, 1127, 1131, 1135, 1138, 1142, 662, 1146, 666, 671, 676, 680, 686, 692, 695, 699, 703, 707, 1150, 1155, 1158, 1162, 1165, 1168, 1171, 1174, 1177, 1180, 712, 716, 722, 725, 1184, 1188, 1191, 729, 733, 1195, 737, 1199, 741, 1203, 746, 750, 754, 1207, 1211, 1215, 759, 762, 766, 770, 775, 780, 784, 791, 798, 802, 1220, 1224, 1227, 1230, 1233, 1237, 1240, 809, 813, 1244, 817, 821, 825, 1248, 1251, 1255, 830, 834, 838, 1259, 1263, 843, 847, 1267, 852, 856, 860, 866, 1271, 1276, 870, 1280, 876, 1284, 880, 1288, 884, 887, 1292, 1296, 893, 897, 901, 905, 909, 913, 917, 921, 925, 929, 933, 937, 941, 945, 949, 1300, 1304, 1311, 1318, 953, 1325, 957, 961, 965, 1329, 969, 1333] (by decide +kernel) (by decide +kernel) w h).1
theorem inlX0 : ∀ w ∈ wsX00, w ∈ wsL_law := fun _ h => List.mem_append_left _ (List.mem_append_left _ (List.mem_append_right _ h))
theorem inX0 : ∀ w ∈ wsX00, w ∈ lw_tbl := fun w h => wsL_law_in w (inlX0 w h)
theorem inlX1 : ∀ w ∈ wsX10, w ∈ wsL_law := fun _ h => List.mem_append_left _ (List.mem_append_left _ (List.mem_append_left _ (List.mem_append_left _ (List.mem_append_left _ (List.mem_append_left _ (List.mem_append_left _ (List.mem_append_right _ h)))))))
theorem inX1 : ∀ w ∈ wsX10, w ∈ lw_tbl := fun w h => wsL_law_in w (inlX1 w h)
theorem inlX2 : ∀ w ∈ wsX20, w ∈ wsL_law := fun _ h => List.mem_append_left _ (List.mem_append_left _ (List.mem_append_left _ (List.mem_append_right _ h)))
theorem inX2 : ∀ w ∈ wsX20, w ∈ lw_tbl := fun w h => wsL_law_in w (inlX2 w h)
theorem inlX3 : ∀ w ∈ wsX30, w ∈ wsL_law := fun _ h => List.mem_append_left _ (List.mem_append_left _ (List.mem_append_left _ (List.mem_append_left _ (List.mem_append_left _ (List.mem_append_left _ (List.mem_append_left _ (List.mem_append_left _ (List.mem_append_right _ h))))))))
theorem inX3 : ∀ w ∈ wsX30, w ∈ lw_tbl := fun w h => wsL_law_in w (inlX3 w h)
theorem inlX4 : ∀ w ∈ wsX40, w ∈ wsL_law := fun _ h => List.mem_append_left _ (List.mem_append_left _ (List.mem_append_left _ (List.mem_append_left _ (List.mem_append_left _ (List.mem_append_left _ (List.mem_append_right _ h))))))
theorem inX4 : ∀ w ∈ wsX40, w ∈ lw_tbl := fun w h => wsL_law_in w (inlX4 w h)
theorem inlX5 : ∀ w ∈ wsX50, w ∈ wsL_law := fun _ h => List.mem_append_left _ (List.mem_append_left _ (List.mem_append_left _ (List.mem_append_left _ (List.mem_append_left _ (List.mem_append_left _ (List.mem_append_left _ (List.mem_append_left _ (List.mem_append_left _ (List.mem_append_right _ h)))))))))
theorem inX5 : ∀ w ∈ wsX50, w ∈ lw_tbl := fun w h => wsL_law_in w (inlX5 w h)
theorem inlX6 : ∀ w ∈ wsX60, w ∈ wsL_law := fun _ h => List.mem_append_left _ (List.mem_append_right _ h)
theorem inX6 : ∀ w ∈ wsX60, w ∈ lw_tbl := fun w h => wsL_law_in w (inlX6 w h)
theorem inlX7 : ∀ w ∈ wsX70, w ∈ wsL_law := fun _ h => List.mem_append_left _ (List.mem_append_left _ (List.mem_append_left _ (List.mem_append_left _ (List.mem_append_left _ (List.mem_append_right _ h)))))
theorem inX7 : ∀ w ∈ wsX70, w ∈ lw_tbl := fun w h => wsL_law_in w (inlX7 w h)
theorem inlX8 : ∀ w ∈ wsX80, w ∈ wsL_law := fun _ h => List.mem_append_left _ (List.mem_append_left _ (List.mem_append_left _ (List.mem_append_left _ (List.mem_append_right _ h))))
theorem inX8 : ∀ w ∈ wsX80, w ∈ lw_tbl := fun w h => wsL_law_in w (inlX8 w h)
theorem inlX9 : ∀ w ∈ wsX90, w ∈ wsL_law := fun _ h => List.mem_append_left _ (List.mem_append_left _ (List.mem_append_left _ (List.mem_append_left _ (List.mem_append_left _ (List.mem_append_left _ (List.mem_append_left _ (List.mem_append_left _ (List.mem_append_left _ (List.mem_append_left _ (List.mem_append_left _ (List.mem_append_right _ h)))))))))))
theorem inX9 : ∀ w ∈ wsX90, w ∈ lw_tbl := fun w h => wsL_law_in w (inlX9 w h)
theorem inlX10 : ∀ w ∈ wsX100, w ∈ wsL_law := fun _ h => List.mem_append_left _ (List.mem_append_left _ (List.mem_append_left _ (List.mem_append_left _ (List.mem_append_left _ (List.mem_append_left _ (List.mem_append_left _ (List.mem_append_left _ (List.mem_append_left _ (List.mem_append_left _ (List.mem_append_right _ h))))))))))
theorem inX10 : ∀ w ∈ wsX100, w ∈ lw_tbl := fun w h => wsL_law_in w (inlX10 w h)
theorem inJ11 : ∀ w ∈ wsJ110, w ∈ lw_tbl := by decide +kernel
theorem inJ9 : ∀ w ∈ wsJ90, w ∈ lw_tbl := by decide +kernel
theorem inJ0 : ∀ w ∈ wsJ00, w ∈ lw_tbl := by decide +kernel
theorem inJ1 : ∀ w ∈ wsJ10, w ∈ lw_tbl := by decide +kernel
theorem inJ2 : ∀ w ∈ wsJ20, w ∈ lw_tbl := by decide +kernel
theorem inJ10 : ∀ w ∈ wsJ100, w ∈ lw_tbl := by decide +kernel
theorem inJ3 : ∀ w ∈ wsJ30, w ∈ lw_tbl := by decide +kernel
theorem dX0_init_0 : decode cX0_init 0 = .ok (.aload_n 0, 1) := by decide +kernel
theorem dX0_init_1 : decode cX0_init 1 = .ok (.invokespecial 3, 3) := by decide +kernel
theorem dX0_init_4 : decode cX0_init 4 = .ok (.aload_n 0, 1) := by decide +kernel
theorem dX0_init_5 : decode cX0_init 5 = .ok (.bipush 16, 2) := by decide +kernel
theorem dX0_init_7 : decode cX0_init 7 = .ok (.newarray .int, 2) := by decide +kernel
theorem dX0_init_9 : decode cX0_init 9 = .ok (.putfield 9, 3) := by decide +kernel
theorem dX0_init_12 : decode cX0_init 12 = .ok (.return_, 1) := by decide +kernel
theorem dX0_turnTo_0 : decode cX0_turnTo 0 = .ok (.aload_n 0, 1) := by decide +kernel
theorem dX0_turnTo_1 : decode cX0_turnTo 1 = .ok (.iconst 0, 1) := by decide +kernel
theorem dX0_turnTo_2 : decode cX0_turnTo 2 = .ok (.putfield 15, 3) := by decide +kernel
theorem dX0_turnTo_5 : decode cX0_turnTo 5 = .ok (.aload_n 0, 1) := by decide +kernel
theorem dX0_turnTo_6 : decode cX0_turnTo 6 = .ok (.iload_n 1, 1) := by decide +kernel
theorem dX0_turnTo_7 : decode cX0_turnTo 7 = .ok (.putfield 19, 3) := by decide +kernel
theorem dX0_turnTo_10 : decode cX0_turnTo 10 = .ok (.aload_n 0, 1) := by decide +kernel
theorem dX0_turnTo_11 : decode cX0_turnTo 11 = .ok (.iload_n 2, 1) := by decide +kernel
theorem dX0_turnTo_12 : decode cX0_turnTo 12 = .ok (.putfield 22, 3) := by decide +kernel
theorem dX0_turnTo_15 : decode cX0_turnTo 15 = .ok (.aload_n 0, 1) := by decide +kernel
theorem dX0_turnTo_16 : decode cX0_turnTo 16 = .ok (.iload_n 3, 1) := by decide +kernel
theorem dX0_turnTo_17 : decode cX0_turnTo 17 = .ok (.putfield 25, 3) := by decide +kernel
theorem dX0_turnTo_20 : decode cX0_turnTo 20 = .ok (.aload_n 0, 1) := by decide +kernel
theorem dX0_turnTo_21 : decode cX0_turnTo 21 = .ok (.iload 4, 2) := by decide +kernel
theorem dX0_turnTo_23 : decode cX0_turnTo 23 = .ok (.putfield 28, 3) := by decide +kernel
theorem dX0_turnTo_26 : decode cX0_turnTo 26 = .ok (.return_, 1) := by decide +kernel
set_option maxRecDepth 20000 in
theorem ggX0_size_X0_size11 : GoodIn wsX0_size wsX0_size11 := goodIn_r _ [6, 1, 7, 8, 9, 5, 10, 11, 12, 13, 14, 15, 16, 17, 18, 19, 20, 21, 22, 23, 24, 25, 26, 27, 28, 29, 30, 31, 32, 33, 34, 35, 48, 49, 50, 51, 52, 53] (by decide +kernel) (by decide +kernel)
set_option maxRecDepth 20000 in
theorem gX0_size_X0_size11 : GoodIn wsX0_size (wsV RX0 31 RX0 yX0_size11 wsX0_size11) := goodIn_app (goodIn_of _ (by decide +kernel)) ggX0_size_X0_size11
set_option maxRecDepth 20000 in
theorem ggX0_size_X0_size12 : GoodIn wsX0_size wsX0_size12 := goodIn_r _ [39, 7, 8, 9, 5, 10, 11, 12, 2, 3, 4, 6, 1, 13, 14, 15, 16, 17, 18, 19, 20, 21, 22, 23, 24, 25, 26, 27, 28, 29, 30, 31, 32, 33, 34, 35, 48, 49, 50, 51, 52, 53] (by decide +kernel) (by decide +kernel)
set_option maxRecDepth 20000 in
theorem gX0_size_X0_size12 : GoodIn wsX0_size (wsV RX0 35 RX0 yX0_size12 wsX0_size12) := goodIn_app (goodIn_of _ (by decide +kernel)) ggX0_size_X0_size12
set_option maxRecDepth 20000 in
theorem ggX0_size_X0_size13 : GoodIn wsX0_size wsX0_size13 := goodIn_r _ [43, 7, 8, 9, 5, 10, 11, 12, 13, 14, 15, 16, 17, 48, 49, 50, 51, 52, 53] (by decide +kernel) (by decide +kernel)
set_option maxRecDepth 20000 in
theorem gX0_size_X0_size13 : GoodIn wsX0_size (wsV RX0 38 RX0 yX0_size13 wsX0_size13) := goodIn_app (goodIn_of _ (by decide +kernel)) ggX0_size_X0_size13
set_option maxRecDepth 20000 in
theorem ggX0_size_X0_size14 : GoodIn wsX0_size wsX0_size14 := goodIn_r _ [47, 7, 8, 9, 5, 10, 11, 12, 40, 41, 42, 43, 13, 14, 15, 16, 17, 48, 49, 50, 51, 52, 53] (by decide +kernel) (by decide +kernel)
set_option maxRecDepth 20000 in
theorem gX0_size_X0_size14 : GoodIn wsX0_size (wsV RX0 41 RX0 yX0_size14 wsX0_size14) := goodIn_app (goodIn_of _ (by decide +kernel)) ggX0_size_X0_size14
set_option maxRecDepth 20000 in
theorem ggX0_size_X0_size10 : GoodIn wsX0_size wsX0_size10 := goodIn_r _ [16, 17, 7, 8, 9, 5, 10, 11, 12, 48, 49, 50, 51, 52, 53] (by decide +kernel) (by decide +kernel)
set_option maxRecDepth 20000 in
theorem gX0_size_X0_size10 : GoodIn wsX0_size (wsV RX0 44 RX0 yX0_size10 wsX0_size10) := goodIn_app (goodIn_of _ (by decide +kernel)) ggX0_size_X0_size10
theorem dX0_size_0 : decode cX0_size 0 = .ok (.aload_n 0, 1) := by decide +kernel
theorem dX0_size_1 : decode cX0_size 1 = .ok (.getfield 22, 3) := by decide +kernel
theorem dX0_size_4 : decode cX0_size 4 = .ok (.tableswitch 56 1 5 #[36, 41, 36, 46, 51], 36) := by decide +kernel
theorem dX0_size_40 : decode cX0_size 40 = .ok (.aload_n 0, 1) := by decide +kernel
theorem dX0_size_41 : decode cX0_size 41 = .ok (.invokevirtual 31, 3) := by decide +kernel
theorem dX0_size_44 : decode cX0_size 44 = .ok (.ireturn, 1) := by decide +kernel
theorem dX0_size_45 : decode cX0_size 45 = .ok (.aload_n 0, 1) := by decide +kernel
theorem dX0_size_46 : decode cX0_size 46 = .ok (.invokevirtual 35, 3) := by decide +kernel
theorem dX0_size_49 : decode cX0_size 49 = .ok (.ireturn, 1) := by decide +kernel
theorem dX0_size_50 : decode cX0_size 50 = .ok (.aload_n 0, 1) := by decide +kernel
theorem dX0_size_51 : decode cX0_size 51 = .ok (.invokevirtual 38, 3) := by decide +kernel
theorem dX0_size_54 : decode cX0_size 54 = .ok (.ireturn, 1) := by decide +kernel
theorem dX0_size_55 : decode cX0_size 55 = .ok (.aload_n 0, 1) := by decide +kernel
theorem dX0_size_56 : decode cX0_size 56 = .ok (.invokevirtual 41, 3) := by decide +kernel
theorem dX0_size_59 : decode cX0_size 59 = .ok (.ireturn, 1) := by decide +kernel
theorem dX0_size_60 : decode cX0_size 60 = .ok (.aload_n 0, 1) := by decide +kernel
theorem dX0_size_61 : decode cX0_size 61 = .ok (.invokevirtual 44, 3) := by decide +kernel
theorem dX0_size_64 : decode cX0_size 64 = .ok (.ireturn, 1) := by decide +kernel
set_option maxRecDepth 20000 in
theorem ggX0_mark_X0_mark21 : GoodIn wsX0_mark wsX0_mark21 := goodIn_r _ [6, 7, 8, 9, 10, 5, 11, 12, 13, 14, 15, 16, 17, 18, 44, 45, 46, 47, 48, 49] (by decide +kernel) (by decide +kernel)
set_option maxRecDepth 20000 in
theorem gX0_mark_X0_mark21 : GoodIn wsX0_mark (wsV RX0 47 RX0 yX0_mark21 wsX0_mark21) := goodIn_app (goodIn_of _ (by decide +kernel)) ggX0_mark_X0_mark21
set_option maxRecDepth 20000 in
theorem ggX0_mark_X0_mark24 : GoodIn wsX0_mark wsX0_mark24 := goodIn_r _ [22, 8, 9, 10, 5, 11, 12, 13, 2, 3, 4, 6, 7, 14, 15, 16, 17, 18, 44, 45, 46, 47, 48, 49] (by decide +kernel) (by decide +kernel)
set_option maxRecDepth 20000 in
theorem gX0_mark_X0_mark24 : GoodIn wsX0_mark (wsV RX0 50 RX0 yX0_mark24 wsX0_mark24) := goodIn_app (goodIn_of _ (by decide +kernel)) ggX0_mark_X0_mark24
set_option maxRecDepth 20000 in
theorem ggX0_mark_X0_mark22 : GoodIn wsX0_mark wsX0_mark22 := goodIn_r _ [26, 8, 9, 10, 5, 11, 12, 13, 2, 3, 4, 6, 7, 14, 15, 16, 17, 18, 44, 45, 46, 47, 48, 49] (by decide +kernel) (by decide +kernel)
set_option maxRecDepth 20000 in
theorem gX0_mark_X0_mark22 : GoodIn wsX0_mark (wsV RX0 53 RX0 yX0_mark22 wsX0_mark22) := goodIn_app (goodIn_of _ (by decide +kernel)) ggX0_mark_X0_mark22
set_option maxRecDepth 20000 in
theorem ggX0_mark_X0_mark23 : GoodIn wsX0_mark wsX0_mark23 := goodIn_r _ [30, 1, 8, 9, 10, 5, 11, 12, 13, 14, 15, 16, 17, 18, 31, 32, 33, 34, 35, 36, 37, 38, 39, 40, 41, 42, 43, 44, 45, 46, 47, 48, 49] (by decide +kernel) (by decide +kernel)
set_option maxRecDepth 20000 in
theorem gX0_mark_X0_mark23 : GoodIn wsX0_mark (wsV RX0 56 RX0 yX0_mark23 wsX0_mark23) := goodIn_app (goodIn_of _ (by decide +kernel)) ggX0_mark_X0_mark23
set_option maxRecDepth 20000 in
theorem ggX0_mark_X0_mark20 : GoodIn wsX0_mark wsX0_mark20 := goodIn_r _ [17, 18, 8, 9, 10, 5, 11, 12, 13, 44, 45, 46, 47, 48, 49] (by decide +kernel) (by decide +kernel)
set_option maxRecDepth 20000 in
theorem gX0_mark_X0_mark20 : GoodIn wsX0_mark (wsV RX0 59 RX0 yX0_mark20 wsX0_mark20) := goodIn_app (goodIn_of _ (by decide +kernel)) ggX0_mark_X0_mark20
theorem dX0_mark_0 : decode cX0_mark 0 = .ok (.aload_n 0, 1) := by decide +kernel
theorem dX0_mark_1 : decode cX0_mark 1 = .ok (.getfield 22, 3) := by decide +kernel
theorem dX0_mark_4 : decode cX0_mark 4 = .ok (.tableswitch 56 1 5 #[36, 41, 46, 51, 51], 36) := by decide +kernel
theorem dX0_mark_40 : decode cX0_mark 40 = .ok (.aload_n 0, 1) := by decide +kernel
theorem dX0_mark_41 : decode cX0_mark 41 = .ok (.invokevirtual 47, 3) := by decide +kernel
theorem dX0_mark_44 : decode cX0_mark 44 = .ok (.ireturn, 1) := by decide +kernel
theorem dX0_mark_45 : decode cX0_mark 45 = .ok (.aload_n 0, 1) := by decide +kernel
theorem dX0_mark_46 : decode cX0_mark 46 = .ok (.invokevirtual 50, 3) := by decide +kernel
theorem dX0_mark_49 : decode cX0_mark 49 = .ok (.ireturn, 1) := by decide +kernel
theorem dX0_mark_50 : decode cX0_mark 50 = .ok (.aload_n 0, 1) := by decide +kernel
theorem dX0_mark_51 : decode cX0_mark 51 = .ok (.invokevirtual 53, 3) := by decide +kernel
theorem dX0_mark_54 : decode cX0_mark 54 = .ok (.ireturn, 1) := by decide +kernel
theorem dX0_mark_55 : decode cX0_mark 55 = .ok (.aload_n 0, 1) := by decide +kernel
theorem dX0_mark_56 : decode cX0_mark 56 = .ok (.invokevirtual 56, 3) := by decide +kernel
theorem dX0_mark_59 : decode cX0_mark 59 = .ok (.ireturn, 1) := by decide +kernel
theorem dX0_mark_60 : decode cX0_mark 60 = .ok (.aload_n 0, 1) := by decide +kernel
theorem dX0_mark_61 : decode cX0_mark 61 = .ok (.invokevirtual 59, 3) := by decide +kernel
theorem dX0_mark_64 : decode cX0_mark 64 = .ok (.ireturn, 1) := by decide +kernel
set_option maxRecDepth 20000 in
theorem ggX0_size10_X0_leave : GoodIn wsX0_size10 wsX0_leave := goodIn_r _ [6, 7, 8, 9, 10, 11, 12, 13, 14] (by decide +kernel) (by decide +kernel)
set_option maxRecDepth 20000 in
theorem gX0_size10_X0_leave : GoodIn wsX0_size10 (wsV RX0 62 RX0 yX0_leave wsX0_leave) := goodIn_app (goodIn_of _ (by decide +kernel)) ggX0_size10_X0_leave
theorem dX0_size10_0 : decode cX0_size10 0 = .ok (.aload_n 0, 1) := by decide +kernel
theorem dX0_size10_1 : decode cX0_size10 1 = .ok (.bipush 10, 2) := by decide +kernel
theorem dX0_size10_3 : decode cX0_size10 3 = .ok (.invokevirtual 62, 3) := by decide +kernel
theorem dX0_size10_6 : decode cX0_size10 6 = .ok (.aload_n 0, 1) := by decide +kernel
theorem dX0_size10_7 : decode cX0_size10 7 = .ok (.getfield 25, 3) := by decide +kernel
theorem dX0_size10_10 : decode cX0_size10 10 = .ok (.ireturn, 1) := by decide +kernel
set_option maxRecDepth 20000 in
theorem ggX0_size11_X0_leave : GoodIn wsX0_size11 wsX0_leave := goodIn_r _ [6, 7, 8, 32, 33, 34, 35, 36, 37] (by decide +kernel) (by decide +kernel)
set_option maxRecDepth 20000 in
theorem gX0_size11_X0_leave : GoodIn wsX0_size11 (wsV RX0 62 RX0 yX0_leave wsX0_leave) := goodIn_app (goodIn_of _ (by decide +kernel)) ggX0_size11_X0_leave
set_option maxRecDepth 20000 in
theorem ggX0_size11_X0_size10 : GoodIn wsX0_size11 wsX0_size10 := goodIn_r _ [12, 13, 2, 3, 4, 5, 6, 7, 8, 32, 33, 34, 35, 36, 37] (by decide +kernel) (by decide +kernel)
set_option maxRecDepth 20000 in
theorem gX0_size11_X0_size10 : GoodIn wsX0_size11 (wsV RX0 44 RX0 yX0_size10 wsX0_size10) := goodIn_app (goodIn_of _ (by decide +kernel)) ggX0_size11_X0_size10
set_option maxRecDepth 20000 in
theorem ggX0_size11_X0_mark24 : GoodIn wsX0_size11 wsX0_mark24 := goodIn_r _ [17, 2, 3, 4, 5, 6, 7, 8, 18, 19, 20, 21, 22, 23, 24, 25, 26, 27, 32, 33, 34, 35, 36, 37] (by decide +kernel) (by decide +kernel)
set_option maxRecDepth 20000 in
theorem gX0_size11_X0_mark24 : GoodIn wsX0_size11 (wsV RX0 50 RX0 yX0_mark24 wsX0_mark24) := goodIn_app (goodIn_of _ (by decide +kernel)) ggX0_size11_X0_mark24
set_option maxRecDepth 20000 in
theorem ggX0_size11_X0_mark22 : GoodIn wsX0_size11 wsX0_mark22 := goodIn_r _ [31, 2, 3, 4, 5, 6, 7, 8, 18, 19, 20, 21, 22, 23, 24, 25, 26, 27, 32, 33, 34, 35, 36, 37] (by decide +kernel) (by decide +kernel)
set_option maxRecDepth 20000 in
theorem gX0_size11_X0_mark22 : GoodIn wsX0_size11 (wsV RX0 53 RX0 yX0_mark22 wsX0_mark22) := goodIn_app (goodIn_of _ (by decide +kernel)) ggX0_size11_X0_mark22
set_option maxRecDepth 20000 in
theorem ggX0_size11_X0_mark21 : GoodIn wsX0_size11 wsX0_mark21 := goodIn_r _ [21, 22, 2, 3, 4, 5, 6, 7, 8, 23, 24, 25, 26, 27, 32, 33, 34, 35, 36, 37] (by decide +kernel) (by decide +kernel)
set_option maxRecDepth 20000 in
theorem gX0_size11_X0_mark21 : GoodIn wsX0_size11 (wsV RX0 47 RX0 yX0_mark21 wsX0_mark21) := goodIn_app (goodIn_of _ (by decide +kernel)) ggX0_size11_X0_mark21
theorem dX0_size11_0 : decode cX0_size11 0 = .ok (.aload_n 0, 1) := by decide +kernel
theorem dX0_size11_1 : decode cX0_size11 1 = .ok (.bipush 11, 2) := by decide +kernel
theorem dX0_size11_3 : decode cX0_size11 3 = .ok (.invokevirtual 62, 3) := by decide +kernel
theorem dX0_size11_6 : decode cX0_size11 6 = .ok (.aload_n 0, 1) := by decide +kernel
theorem dX0_size11_7 : decode cX0_size11 7 = .ok (.invokevirtual 44, 3) := by decide +kernel
theorem dX0_size11_10 : decode cX0_size11 10 = .ok (.istore_n 1, 1) := by decide +kernel
theorem dX0_size11_11 : decode cX0_size11 11 = .ok (.aload_n 0, 1) := by decide +kernel
theorem dX0_size11_12 : decode cX0_size11 12 = .ok (.getfield 22, 3) := by decide +kernel
theorem dX0_size11_15 : decode cX0_size11 15 = .ok (.lookupswitch 39 #[(2, 25), (3, 32)], 25) := by decide +kernel
theorem dX0_size11_40 : decode cX0_size11 40 = .ok (.iload_n 1, 1) := by decide +kernel
theorem dX0_size11_41 : decode cX0_size11 41 = .ok (.aload_n 0, 1) := by decide +kernel
theorem dX0_size11_42 : decode cX0_size11 42 = .ok (.invokevirtual 50, 3) := by decide +kernel
theorem dX0_size11_45 : decode cX0_size11 45 = .ok (.iadd, 1) := by decide +kernel
theorem dX0_size11_46 : decode cX0_size11 46 = .ok (.ireturn, 1) := by decide +kernel
theorem dX0_size11_47 : decode cX0_size11 47 = .ok (.iload_n 1, 1) := by decide +kernel
theorem dX0_size11_48 : decode cX0_size11 48 = .ok (.aload_n 0, 1) := by decide +kernel
theorem dX0_size11_49 : decode cX0_size11 49 = .ok (.invokevirtual 53, 3) := by decide +kernel
theorem dX0_size11_52 : decode cX0_size11 52 = .ok (.iadd, 1) := by decide +kernel
theorem dX0_size11_53 : decode cX0_size11 53 = .ok (.ireturn, 1) := by decide +kernel
theorem dX0_size11_54 : decode cX0_size11 54 = .ok (.iload_n 1, 1) := by decide +kernel
theorem dX0_size11_55 : decode cX0_size11 55 = .ok (.aload_n 0, 1) := by decide +kernel
theorem dX0_size11_56 : decode cX0_size11 56 = .ok (.invokevirtual 47, 3) := by decide +kernel
theorem dX0_size11_59 : decode cX0_size11 59 = .ok (.iadd, 1) := by decide +kernel
theorem dX0_size11_60 : decode cX0_size11 60 = .ok (.ireturn, 1) := by decide +kernel
set_option maxRecDepth 20000 in
theorem ggX0_size12_X0_leave : GoodIn wsX0_size12 wsX0_leave := goodIn_r _ [5, 6, 7, 36, 37, 38, 39, 40, 41] (by decide +kernel) (by decide +kernel)
set_option maxRecDepth 20000 in
theorem gX0_size12_X0_leave : GoodIn wsX0_size12 (wsV RX0 62 RX0 yX0_leave wsX0_leave) := goodIn_app (goodIn_of _ (by decide +kernel)) ggX0_size12_X0_leave
set_option maxRecDepth 20000 in
theorem ggX0_size12_X0_size11 : GoodIn wsX0_size12 wsX0_size11 := goodIn_r _ [11, 12, 1, 2, 3, 4, 5, 6, 7, 13, 14, 15, 16, 17, 18, 19, 20, 21, 22, 23, 24, 25, 26, 27, 28, 29, 30, 31, 32, 33, 34, 35, 36, 37, 38, 39, 40, 41] (by decide +kernel) (by decide +kernel)
set_option maxRecDepth 20000 in
theorem gX0_size12_X0_size11 : GoodIn wsX0_size12 (wsV RX0 31 RX0 yX0_size11 wsX0_size11) := goodIn_app (goodIn_of _ (by decide +kernel)) ggX0_size12_X0_size11
theorem dX0_size12_0 : decode cX0_size12 0 = .ok (.aload_n 0, 1) := by decide +kernel
theorem dX0_size12_1 : decode cX0_size12 1 = .ok (.bipush 12, 2) := by decide +kernel
theorem dX0_size12_3 : decode cX0_size12 3 = .ok (.invokevirtual 62, 3) := by decide +kernel
theorem dX0_size12_6 : decode cX0_size12 6 = .ok (.aload_n 0, 1) := by decide +kernel
theorem dX0_size12_7 : decode cX0_size12 7 = .ok (.invokevirtual 31, 3) := by decide +kernel
theorem dX0_size12_10 : decode cX0_size12 10 = .ok (.ineg, 1) := by decide +kernel
theorem dX0_size12_11 : decode cX0_size12 11 = .ok (.ireturn, 1) := by decide +kernel
set_option maxRecDepth 20000 in
theorem ggX0_size13_X0_leave : GoodIn wsX0_size13 wsX0_leave := goodIn_r _ [5, 6, 7, 13, 14, 15, 16, 17, 18] (by decide +kernel) (by decide +kernel)
set_option maxRecDepth 20000 in
theorem gX0_size13_X0_leave : GoodIn wsX0_size13 (wsV RX0 62 RX0 yX0_leave wsX0_leave) := goodIn_app (goodIn_of _ (by decide +kernel)) ggX0_size13_X0_leave
set_option maxRecDepth 20000 in
theorem ggX0_size13_X0_size10 : GoodIn wsX0_size13 wsX0_size10 := goodIn_r _ [11, 12, 1, 2, 3, 4, 5, 6, 7, 13, 14, 15, 16, 17, 18] (by decide +kernel) (by decide +kernel)
set_option maxRecDepth 20000 in
theorem gX0_size13_X0_size10 : GoodIn wsX0_size13 (wsV RX0 44 RX0 yX0_size10 wsX0_size10) := goodIn_app (goodIn_of _ (by decide +kernel)) ggX0_size13_X0_size10
theorem dX0_size13_0 : decode cX0_size13 0 = .ok (.aload_n 0, 1) := by decide +kernel
theorem dX0_size13_1 : decode cX0_size13 1 = .ok (.bipush 13, 2) := by decide +kernel
theorem dX0_size13_3 : decode cX0_size13 3 = .ok (.invokevirtual 62, 3) := by decide +kernel
theorem dX0_size13_6 : decode cX0_size13 6 = .ok (.aload_n 0, 1) := by decide +kernel
theorem dX0_size13_7 : decode cX0_size13 7 = .ok (.invokevirtual 44, 3) := by decide +kernel
theorem dX0_size13_10 : decode cX0_size13 10 = .ok (.bipush 100, 2) := by decide +kernel
theorem dX0_size13_12 : decode cX0_size13 12 = .ok (.isub, 1) := by decide +kernel
theorem dX0_size13_13 : decode cX0_size13 13 = .ok (.ireturn, 1) := by decide +kernel
set_option maxRecDepth 20000 in
theorem ggX0_size14_X0_leave : GoodIn wsX0_size14 wsX0_leave := goodIn_r _ [5, 6, 7, 17, 18, 19, 20, 21, 22] (by decide +kernel) (by decide +kernel)
set_option maxRecDepth 20000 in
theorem gX0_size14_X0_leave : GoodIn wsX0_size14 (wsV RX0 62 RX0 yX0_leave wsX0_leave) := goodIn_app (goodIn_of _ (by decide +kernel)) ggX0_size14_X0_leave
set_option maxRecDepth 20000 in
theorem ggX0_size14_X0_size13 : GoodIn wsX0_size14 wsX0_size13 := goodIn_r _ [11, 1, 2, 3, 4, 5, 6, 7, 12, 13, 14, 15, 16, 17, 18, 19, 20, 21, 22] (by decide +kernel) (by decide +kernel)
set_option maxRecDepth 20000 in
theorem gX0_size14_X0_size13 : GoodIn wsX0_size14 (wsV RX0 38 RX0 yX0_size13 wsX0_size13) := goodIn_app (goodIn_of _ (by decide +kernel)) ggX0_size14_X0_size13
theorem dX0_size14_0 : decode cX0_size14 0 = .ok (.aload_n 0, 1) := by decide +kernel
theorem dX0_size14_1 : decode cX0_size14 1 = .ok (.bipush 14, 2) := by decide +kernel
theorem dX0_size14_3 : decode cX0_size14 3 = .ok (.invokevirtual 62, 3) := by decide +kernel
theorem dX0_size14_6 : decode cX0_size14 6 = .ok (.iconst 2, 1) := by decide +kernel
theorem dX0_size14_7 : decode cX0_size14 7 = .ok (.aload_n 0, 1) := by decide +kernel
theorem dX0_size14_8 : decode cX0_size14 8 = .ok (.invokevirtual 38, 3) := by decide +kernel
theorem dX0_size14_11 : decode cX0_size14 11 = .ok (.imul, 1) := by decide +kernel
theorem dX0_size14_12 : decode cX0_size14 12 = .ok (.ireturn, 1) := by decide +kernel
set_option maxRecDepth 20000 in
theorem ggX0_mark20_X0_leave : GoodIn wsX0_mark20 wsX0_leave := goodIn_r _ [6, 7, 8, 9, 10, 11, 12, 13, 14] (by decide +kernel) (by decide +kernel)
set_option maxRecDepth 20000 in
theorem gX0_mark20_X0_leave : GoodIn wsX0_mark20 (wsV RX0 62 RX0 yX0_leave wsX0_leave) := goodIn_app (goodIn_of _ (by decide +kernel)) ggX0_mark20_X0_leave
theorem dX0_mark20_0 : decode cX0_mark20 0 = .ok (.aload_n 0, 1) := by decide +kernel
theorem dX0_mark20_1 : decode cX0_mark20 1 = .ok (.bipush 20, 2) := by decide +kernel
theorem dX0_mark20_3 : decode cX0_mark20 3 = .ok (.invokevirtual 62, 3) := by decide +kernel
theorem dX0_mark20_6 : decode cX0_mark20 6 = .ok (.aload_n 0, 1) := by decide +kernel
theorem dX0_mark20_7 : decode cX0_mark20 7 = .ok (.getfield 19, 3) := by decide +kernel
theorem dX0_mark20_10 : decode cX0_mark20 10 = .ok (.ireturn, 1) := by decide +kernel
set_option maxRecDepth 20000 in
theorem ggX0_mark21_X0_leave : GoodIn wsX0_mark21 wsX0_leave := goodIn_r _ [6, 7, 8, 14, 15, 16, 17, 18, 19] (by decide +kernel) (by decide +kernel)
set_option maxRecDepth 20000 in
theorem gX0_mark21_X0_leave : GoodIn wsX0_mark21 (wsV RX0 62 RX0 yX0_leave wsX0_leave) := goodIn_app (goodIn_of _ (by decide +kernel)) ggX0_mark21_X0_leave
set_option maxRecDepth 20000 in
theorem ggX0_mark21_X0_mark20 : GoodIn wsX0_mark21 wsX0_mark20 := goodIn_r _ [12, 13, 2, 3, 4, 5, 6, 7, 8, 14, 15, 16, 17, 18, 19] (by decide +kernel) (by decide +kernel)
set_option maxRecDepth 20000 in
theorem gX0_mark21_X0_mark20 : GoodIn wsX0_mark21 (wsV RX0 59 RX0 yX0_mark20 wsX0_mark20) := goodIn_app (goodIn_of _ (by decide +kernel)) ggX0_mark21_X0_mark20
theorem dX0_mark21_0 : decode cX0_mark21 0 = .ok (.aload_n 0, 1) := by decide +kernel
theorem dX0_mark21_1 : decode cX0_mark21 1 = .ok (.bipush 21, 2) := by decide +kernel
theorem dX0_mark21_3 : decode cX0_mark21 3 = .ok (.invokevirtual 62, 3) := by decide +kernel
theorem dX0_mark21_6 : decode cX0_mark21 6 = .ok (.aload_n 0, 1) := by decide +kernel
theorem dX0_mark21_7 : decode cX0_mark21 7 = .ok (.invokevirtual 59, 3) := by decide +kernel
theorem dX0_mark21_10 : decode cX0_mark21 10 = .ok (.aload_n 0, 1) := by decide +kernel
theorem dX0_mark21_11 : decode cX0_mark21 11 = .ok (.getfield 28, 3) := by decide +kernel
theorem dX0_mark21_14 : decode cX0_mark21 14 = .ok (.iadd, 1) := by decide +kernel
theorem dX0_mark21_15 : decode cX0_mark21 15 = .ok (.ireturn, 1) := by decide +kernel
set_option maxRecDepth 20000 in
theorem ggX0_mark22_X0_leave : GoodIn wsX0_mark22 wsX0_leave := goodIn_r _ [5, 6, 7, 18, 19, 20, 21, 22, 23] (by decide +kernel) (by decide +kernel)
set_option maxRecDepth 20000 in
theorem gX0_mark22_X0_leave : GoodIn wsX0_mark22 (wsV RX0 62 RX0 yX0_leave wsX0_leave) := goodIn_app (goodIn_of _ (by decide +kernel)) ggX0_mark22_X0_leave
set_option maxRecDepth 20000 in
theorem ggX0_mark22_X0_mark21 : GoodIn wsX0_mark22 wsX0_mark21 := goodIn_r _ [11, 12, 1, 2, 3, 4, 5, 6, 7, 13, 14, 15, 16, 17, 18, 19, 20, 21, 22, 23] (by decide +kernel) (by decide +kernel)
set_option maxRecDepth 20000 in
theorem gX0_mark22_X0_mark21 : GoodIn wsX0_mark22 (wsV RX0 47 RX0 yX0_mark21 wsX0_mark21) := goodIn_app (goodIn_of _ (by decide +kernel)) ggX0_mark22_X0_mark21
theorem dX0_mark22_0 : decode cX0_mark22 0 = .ok (.aload_n 0, 1) := by decide +kernel
theorem dX0_mark22_1 : decode cX0_mark22 1 = .ok (.bipush 22, 2) := by decide +kernel
theorem dX0_mark22_3 : decode cX0_mark22 3 = .ok (.invokevirtual 62, 3) := by decide +kernel
theorem dX0_mark22_6 : decode cX0_mark22 6 = .ok (.aload_n 0, 1) := by decide +kernel
theorem dX0_mark22_7 : decode cX0_mark22 7 = .ok (.invokevirtual 47, 3) := by decide +kernel
theorem dX0_mark22_10 : decode cX0_mark22 10 = .ok (.sipush 1000, 3) := by decide +kernel
theorem dX0_mark22_13 : decode cX0_mark22 13 = .ok (.isub, 1) := by decide +kernel
theorem dX0_mark22_14 : decode cX0_mark22 14 = .ok (.ireturn, 1) := by decide +kernel
set_option maxRecDepth 20000 in
theorem ggX0_mark23_X0_leave : GoodIn wsX0_mark23 wsX0_leave := goodIn_r _ [6, 7, 8, 27, 28, 29, 30, 31, 32] (by decide +kernel) (by decide +kernel)
set_option maxRecDepth 20000 in
theorem gX0_mark23_X0_leave : GoodIn wsX0_mark23 (wsV RX0 62 RX0 yX0_leave wsX0_leave) := goodIn_app (goodIn_of _ (by decide +kernel)) ggX0_mark23_X0_leave
set_option maxRecDepth 20000 in
theorem ggX0_mark23_X0_mark20 : GoodIn wsX0_mark23 wsX0_mark20 := goodIn_r _ [12, 13, 2, 3, 4, 5, 6, 7, 8, 27, 28, 29, 30, 31, 32] (by decide +kernel) (by decide +kernel)
set_option maxRecDepth 20000 in
theorem gX0_mark23_X0_mark20 : GoodIn wsX0_mark23 (wsV RX0 59 RX0 yX0_mark20 wsX0_mark20) := goodIn_app (goodIn_of _ (by decide +kernel)) ggX0_mark23_X0_mark20
set_option maxRecDepth 20000 in
theorem ggX0_mark23_X0_size14 : GoodIn wsX0_mark23 wsX0_size14 := goodIn_r _ [17, 2, 3, 4, 5, 6, 7, 8, 18, 19, 20, 21, 22, 23, 24, 25, 26, 27, 28, 29, 30, 31, 32] (by decide +kernel) (by decide +kernel)
set_option maxRecDepth 20000 in
theorem gX0_mark23_X0_size14 : GoodIn wsX0_mark23 (wsV RX0 41 RX0 yX0_size14 wsX0_size14) := goodIn_app (goodIn_of _ (by decide +kernel)) ggX0_mark23_X0_size14
set_option maxRecDepth 20000 in
theorem ggX0_mark23_X0_size13 : GoodIn wsX0_mark23 wsX0_size13 := goodIn_r _ [21, 2, 3, 4, 5, 6, 7, 8, 22, 23, 24, 25, 26, 27, 28, 29, 30, 31, 32] (by decide +kernel) (by decide +kernel)
set_option maxRecDepth 20000 in
theorem gX0_mark23_X0_size13 : GoodIn wsX0_mark23 (wsV RX0 38 RX0 yX0_size13 wsX0_size13) := goodIn_app (goodIn_of _ (by decide +kernel)) ggX0_mark23_X0_size13
theorem dX0_mark23_0 : decode cX0_mark23 0 = .ok (.aload_n 0, 1) := by decide +kernel
theorem dX0_mark23_1 : decode cX0_mark23 1 = .ok (.bipush 23, 2) := by decide +kernel
theorem dX0_mark23_3 : decode cX0_mark23 3 = .ok (.invokevirtual 62, 3) := by decide +kernel
theorem dX0_mark23_6 : decode cX0_mark23 6 = .ok (.aload_n 0, 1) := by decide +kernel
theorem dX0_mark23_7 : decode cX0_mark23 7 = .ok (.invokevirtual 59, 3) := by decide +kernel
theorem dX0_mark23_10 : decode cX0_mark23 10 = .ok (.istore_n 1, 1) := by decide +kernel
theorem dX0_mark23_11 : decode cX0_mark23 11 = .ok (.iload_n 1, 1) := by decide +kernel
theorem dX0_mark23_12 : decode cX0_mark23 12 = .ok (.aload_n 0, 1) := by decide +kernel
theorem dX0_mark23_13 : decode cX0_mark23 13 = .ok (.getfield 22, 3) := by decide +kernel
theorem dX0_mark23_16 : decode cX0_mark23 16 = .ok (.iconst 5, 1) := by decide +kernel
theorem dX0_mark23_17 : decode cX0_mark23 17 = .ok (.if_icmp .ne 10, 3) := by decide +kernel
theorem dX0_mark23_20 : decode cX0_mark23 20 = .ok (.aload_n 0, 1) := by decide +kernel
theorem dX0_mark23_21 : decode cX0_mark23 21 = .ok (.invokevirtual 41, 3) := by decide +kernel
theorem dX0_mark23_24 : decode cX0_mark23 24 = .ok (.goto 7, 3) := by decide +kernel
theorem dX0_mark23_27 : decode cX0_mark23 27 = .ok (.aload_n 0, 1) := by decide +kernel
theorem dX0_mark23_28 : decode cX0_mark23 28 = .ok (.invokevirtual 38, 3) := by decide +kernel
theorem dX0_mark23_31 : decode cX0_mark23 31 = .ok (.isub, 1) := by decide +kernel
theorem dX0_mark23_32 : decode cX0_mark23 32 = .ok (.ireturn, 1) := by decide +kernel
set_option maxRecDepth 20000 in
theorem ggX0_mark24_X0_leave : GoodIn wsX0_mark24 wsX0_leave := goodIn_r _ [5, 6, 7, 18, 19, 20, 21, 22, 23] (by decide +kernel) (by decide +kernel)
set_option maxRecDepth 20000 in
theorem gX0_mark24_X0_leave : GoodIn wsX0_mark24 (wsV RX0 62 RX0 yX0_leave wsX0_leave) := goodIn_app (goodIn_of _ (by decide +kernel)) ggX0_mark24_X0_leave
set_option maxRecDepth 20000 in
theorem ggX0_mark24_X0_mark21 : GoodIn wsX0_mark24 wsX0_mark21 := goodIn_r _ [11, 12, 1, 2, 3, 4, 5, 6, 7, 13, 14, 15, 16, 17, 18, 19, 20, 21, 22, 23] (by decide +kernel) (by decide +kernel)
set_option maxRecDepth 20000 in
theorem gX0_mark24_X0_mark21 : GoodIn wsX0_mark24 (wsV RX0 47 RX0 yX0_mark21 wsX0_mark21) := goodIn_app (goodIn_of _ (by decide +kernel)) ggX0_mark24_X0_mark21
theorem dX0_mark24_0 : decode cX0_mark24 0 = .ok (.aload_n 0, 1) := by decide +kernel
theorem dX0_mark24_1 : decode cX0_mark24 1 = .ok (.bipush 24, 2) := by decide +kernel
theorem dX0_mark24_3 : decode cX0_mark24 3 = .ok (.invokevirtual 62, 3) := by decide +kernel
theorem dX0_mark24_6 : decode cX0_mark24 6 = .ok (.iconst 2, 1) := by decide +kernel
theorem dX0_mark24_7 : decode cX0_mark24 7 = .ok (.aload_n 0, 1) := by decide +kernel
theorem dX0_mark24_8 : decode cX0_mark24 8 = .ok (.invokevirtual 47, 3) := by decide +kernel
theorem dX0_mark24_11 : decode cX0_mark24 11 = .ok (.imul, 1) := by decide +kernel
theorem dX0_mark24_12 : decode cX0_mark24 12 = .ok (.ireturn, 1) := by decide +kernel
theorem dX0_leave_0 : decode cX0_leave 0 = .ok (.aload_n 0, 1) := by decide +kernel
theorem dX0_leave_1 : decode cX0_leave 1 = .ok (.getfield 15, 3) := by decide +kernel
theorem dX0_leave_4 : decode cX0_leave 4 = .ok (.bipush 16, 2) := by decide +kernel
theorem dX0_leave_6 : decode cX0_leave 6 = .ok (.if_icmp .ge 23, 3) := by decide +kernel
theorem dX0_leave_9 : decode cX0_leave 9 = .ok (.aload_n 0, 1) := by decide +kernel
theorem dX0_leave_10 : decode cX0_leave 10 = .ok (.getfield 9, 3) := by decide +kernel
theorem dX0_leave_13 : decode cX0_leave 13 = .ok (.aload_n 0, 1) := by decide +kernel
theorem dX0_leave_14 : decode cX0_leave 14 = .ok (.getfield 15, 3) := by decide +kernel
theorem dX0_leave_17 : decode cX0_leave 17 = .ok (.iload_n 1, 1) := by decide +kernel
theorem dX0_leave_18 : decode cX0_leave 18 = .ok (.iastore, 1) := by decide +kernel
theorem dX0_leave_19 : decode cX0_leave 19 = .ok (.aload_n 0, 1) := by decide +kernel
theorem dX0_leave_20 : decode cX0_leave 20 = .ok (.dup, 1) := by decide +kernel
theorem dX0_leave_21 : decode cX0_leave 21 = .ok (.getfield 15, 3) := by decide +kernel
theorem dX0_leave_24 : decode cX0_leave 24 = .ok (.iconst 1, 1) := by decide +kernel
theorem dX0_leave_25 : decode cX0_leave 25 = .ok (.iadd, 1) := by decide +kernel
theorem dX0_leave_26 : decode cX0_leave 26 = .ok (.putfield 15, 3) := by decide +kernel
theorem dX0_leave_29 : decode cX0_leave 29 = .ok (.return_, 1) := by decide +kernel
theorem dX1_init_0 : decode cX1_init 0 = .ok (.aload_n 0, 1) := by decide +kernel
theorem dX1_init_1 : decode cX1_init 1 = .ok (.invokespecial 3, 3) := by decide +kernel
theorem dX1_init_4 : decode cX1_init 4 = .ok (.aload_n 0, 1) := by decide +kernel
theorem dX1_init_5 : decode cX1_init 5 = .ok (.iconst 5, 1) := by decide +kernel
theorem dX1_init_6 : decode cX1_init 6 = .ok (.newarray .int, 2) := by decide +kernel
theorem dX1_init_8 : decode cX1_init 8 = .ok (.putfield 9, 3) := by decide +kernel
theorem dX1_init_11 : decode cX1_init 11 = .ok (.aload_n 0, 1) := by decide +kernel
theorem dX1_init_12 : decode cX1_init 12 = .ok (.iconst 5, 1) := by decide +kernel
theorem dX1_init_13 : decode cX1_init 13 = .ok (.newarray .int, 2) := by decide +kernel
theorem dX1_init_15 : decode cX1_init 15 = .ok (.putfield 15, 3) := by decide +kernel
theorem dX1_init_18 : decode cX1_init 18 = .ok (.return_, 1) := by decide +kernel
theorem dX1_begin_0 : decode cX1_begin 0 = .ok (.aload_n 0, 1) := by decide +kernel
theorem dX1_begin_1 : decode cX1_begin 1 = .ok (.iconst 1, 1) := by decide +kernel
theorem dX1_begin_2 : decode cX1_begin 2 = .ok (.putfield 18, 3) := by decide +kernel
theorem dX1_begin_5 : decode cX1_begin 5 = .ok (.aload_n 0, 1) := by decide +kernel
theorem dX1_begin_6 : decode cX1_begin 6 = .ok (.iconst 0, 1) := by decide +kernel
theorem dX1_begin_7 : decode cX1_begin 7 = .ok (.putfield 22, 3) := by decide +kernel
theorem dX1_begin_10 : decode cX1_begin 10 = .ok (.aload_n 0, 1) := by decide +kernel
theorem dX1_begin_11 : decode cX1_begin 11 = .ok (.iconst 0, 1) := by decide +kernel
theorem dX1_begin_12 : decode cX1_begin 12 = .ok (.putfield 26, 3) := by decide +kernel
theorem dX1_begin_15 : decode cX1_begin 15 = .ok (.aload_n 0, 1) := by decide +kernel
theorem dX1_begin_16 : decode cX1_begin 16 = .ok (.iconst 0, 1) := by decide +kernel
theorem dX1_begin_17 : decode cX1_begin 17 = .ok (.putfield 29, 3) := by decide +kernel
theorem dX1_begin_20 : decode cX1_begin 20 = .ok (.aload_n 0, 1) := by decide +kernel
theorem dX1_begin_21 : decode cX1_begin 21 = .ok (.iconst 0, 1) := by decide +kernel
theorem dX1_begin_22 : decode cX1_begin 22 = .ok (.putfield 32, 3) := by decide +kernel
theorem dX1_begin_25 : decode cX1_begin 25 = .ok (.aload_n 0, 1) := by decide +kernel
theorem dX1_begin_26 : decode cX1_begin 26 = .ok (.aload_n 1, 1) := by decide +kernel
theorem dX1_begin_27 : decode cX1_begin 27 = .ok (.getfield 35, 3) := by decide +kernel
theorem dX1_begin_30 : decode cX1_begin 30 = .ok (.putfield 40, 3) := by decide +kernel
theorem dX1_begin_33 : decode cX1_begin 33 = .ok (.aload_n 0, 1) := by decide +kernel
theorem dX1_begin_34 : decode cX1_begin 34 = .ok (.iconst 0, 1) := by decide +kernel
theorem dX1_begin_35 : decode cX1_begin 35 = .ok (.putfield 41, 3) := by decide +kernel
theorem dX1_begin_38 : decode cX1_begin 38 = .ok (.aload_n 0, 1) := by decide +kernel
theorem dX1_begin_39 : decode cX1_begin 39 = .ok (.iconst 0, 1) := by decide +kernel
theorem dX1_begin_40 : decode cX1_begin 40 = .ok (.putfield 44, 3) := by decide +kernel
theorem dX1_begin_43 : decode cX1_begin 43 = .ok (.iconst 0, 1) := by decide +kernel
theorem dX1_begin_44 : decode cX1_begin 44 = .ok (.istore_n 2, 1) := by decide +kernel
theorem dX1_begin_45 : decode cX1_begin 45 = .ok (.iload_n 2, 1) := by decide +kernel
theorem dX1_begin_46 : decode cX1_begin 46 = .ok (.iconst 5, 1) := by decide +kernel
theorem dX1_begin_47 : decode cX1_begin 47 = .ok (.if_icmp .ge 23, 3) := by decide +kernel
theorem dX1_begin_50 : decode cX1_begin 50 = .ok (.aload_n 0, 1) := by decide +kernel
theorem dX1_begin_51 : decode cX1_begin 51 = .ok (.getfield 9, 3) := by decide +kernel
theorem dX1_begin_54 : decode cX1_begin 54 = .ok (.iload_n 2, 1) := by decide +kernel
theorem dX1_begin_55 : decode cX1_begin 55 = .ok (.iconst 0, 1) := by decide +kernel
theorem dX1_begin_56 : decode cX1_begin 56 = .ok (.iastore, 1) := by decide +kernel
theorem dX1_begin_57 : decode cX1_begin 57 = .ok (.aload_n 0, 1) := by decide +kernel
theorem dX1_begin_58 : decode cX1_begin 58 = .ok (.getfield 15, 3) := by decide +kernel
theorem dX1_begin_61 : decode cX1_begin 61 = .ok (.iload_n 2, 1) := by decide +kernel
theorem dX1_begin_62 : decode cX1_begin 62 = .ok (.iconst (-1), 1) := by decide +kernel
theorem dX1_begin_63 : decode cX1_begin 63 = .ok (.iastore, 1) := by decide +kernel
theorem dX1_begin_64 : decode cX1_begin 64 = .ok (.iinc 2 1, 3) := by decide +kernel
theorem dX1_begin_67 : decode cX1_begin 67 = .ok (.goto (-22), 3) := by decide +kernel
theorem dX1_begin_70 : decode cX1_begin 70 = .ok (.return_, 1) := by decide +kernel
theorem dX1_become_0 : decode cX1_become 0 = .ok (.aload_n 0, 1) := by decide +kernel
theorem dX1_become_1 : decode cX1_become 1 = .ok (.aload_n 1, 1) := by decide +kernel
theorem dX1_become_2 : decode cX1_become 2 = .ok (.getfield 18, 3) := by decide +kernel
theorem dX1_become_5 : decode cX1_become 5 = .ok (.putfield 18, 3) := by decide +kernel
theorem dX1_become_8 : decode cX1_become 8 = .ok (.aload_n 0, 1) := by decide +kernel
theorem dX1_become_9 : decode cX1_become 9 = .ok (.aload_n 1, 1) := by decide +kernel
theorem dX1_become_10 : decode cX1_become 10 = .ok (.getfield 22, 3) := by decide +kernel
theorem dX1_become_13 : decode cX1_become 13 = .ok (.putfield 22, 3) := by decide +kernel
theorem dX1_become_16 : decode cX1_become 16 = .ok (.aload_n 0, 1) := by decide +kernel
theorem dX1_become_17 : decode cX1_become 17 = .ok (.aload_n 1, 1) := by decide +kernel
theorem dX1_become_18 : decode cX1_become 18 = .ok (.getfield 26, 3) := by decide +kernel
theorem dX1_become_21 : decode cX1_become 21 = .ok (.putfield 26, 3) := by decide +kernel
theorem dX1_become_24 : decode cX1_become 24 = .ok (.aload_n 0, 1) := by decide +kernel
theorem dX1_become_25 : decode cX1_become 25 = .ok (.aload_n 1, 1) := by decide +kernel
theorem dX1_become_26 : decode cX1_become 26 = .ok (.getfield 29, 3) := by decide +kernel
theorem dX1_become_29 : decode cX1_become 29 = .ok (.putfield 29, 3) := by decide +kernel
theorem dX1_become_32 : decode cX1_become 32 = .ok (.aload_n 0, 1) := by decide +kernel
theorem dX1_become_33 : decode cX1_become 33 = .ok (.aload_n 1, 1) := by decide +kernel
theorem dX1_become_34 : decode cX1_become 34 = .ok (.getfield 32, 3) := by decide +kernel
theorem dX1_become_37 : decode cX1_become 37 = .ok (.putfield 32, 3) := by decide +kernel
theorem dX1_become_40 : decode cX1_become 40 = .ok (.aload_n 0, 1) := by decide +kernel
theorem dX1_become_41 : decode cX1_become 41 = .ok (.aload_n 1, 1) := by decide +kernel
theorem dX1_become_42 : decode cX1_become 42 = .ok (.getfield 40, 3) := by decide +kernel
theorem dX1_become_45 : decode cX1_become 45 = .ok (.putfield 40, 3) := by decide +kernel
theorem dX1_become_48 : decode cX1_become 48 = .ok (.aload_n 0, 1) := by decide +kernel
theorem dX1_become_49 : decode cX1_become 49 = .ok (.aload_n 1, 1) := by decide +kernel
theorem dX1_become_50 : decode cX1_become 50 = .ok (.getfield 41, 3) := by decide +kernel
theorem dX1_become_53 : decode cX1_become 53 = .ok (.putfield 41, 3) := by decide +kernel
theorem dX1_become_56 : decode cX1_become 56 = .ok (.aload_n 0, 1) := by decide +kernel
theorem dX1_become_57 : decode cX1_become 57 = .ok (.aload_n 1, 1) := by decide +kernel
theorem dX1_become_58 : decode cX1_become 58 = .ok (.getfield 44, 3) := by decide +kernel
theorem dX1_become_61 : decode cX1_become 61 = .ok (.putfield 44, 3) := by decide +kernel
theorem dX1_become_64 : decode cX1_become 64 = .ok (.aload_n 1, 1) := by decide +kernel
theorem dX1_become_65 : decode cX1_become 65 = .ok (.getfield 9, 3) := by decide +kernel
theorem dX1_become_68 : decode cX1_become 68 = .ok (.iconst 0, 1) := by decide +kernel
theorem dX1_become_69 : decode cX1_become 69 = .ok (.aload_n 0, 1) := by decide +kernel
theorem dX1_become_70 : decode cX1_become 70 = .ok (.getfield 9, 3) := by decide +kernel
theorem dX1_become_73 : decode cX1_become 73 = .ok (.iconst 0, 1) := by decide +kernel
theorem dX1_become_74 : decode cX1_become 74 = .ok (.iconst 5, 1) := by decide +kernel
theorem dX1_become_75 : decode cX1_become 75 = .ok (.invokestatic 47, 3) := by decide +kernel
theorem dX1_become_78 : decode cX1_become 78 = .ok (.aload_n 1, 1) := by decide +kernel
theorem dX1_become_79 : decode cX1_become 79 = .ok (.getfield 15, 3) := by decide +kernel
theorem dX1_become_82 : decode cX1_become 82 = .ok (.iconst 0, 1) := by decide +kernel
theorem dX1_become_83 : decode cX1_become 83 = .ok (.aload_n 0, 1) := by decide +kernel
theorem dX1_become_84 : decode cX1_become 84 = .ok (.getfield 15, 3) := by decide +kernel
theorem dX1_become_87 : decode cX1_become 87 = .ok (.iconst 0, 1) := by decide +kernel
theorem dX1_become_88 : decode cX1_become 88 = .ok (.iconst 5, 1) := by decide +kernel
theorem dX1_become_89 : decode cX1_become 89 = .ok (.invokestatic 47, 3) := by decide +kernel
theorem dX1_become_92 : decode cX1_become 92 = .ok (.return_, 1) := by decide +kernel
theorem dX1_yarnFor_0 : decode cX1_yarnFor 0 = .ok (.iload_n 1, 1) := by decide +kernel
theorem dX1_yarnFor_1 : decode cX1_yarnFor 1 = .ok (.aload_n 0, 1) := by decide +kernel
theorem dX1_yarnFor_2 : decode cX1_yarnFor 2 = .ok (.getfield 29, 3) := by decide +kernel
theorem dX1_yarnFor_5 : decode cX1_yarnFor 5 = .ok (.aload_n 0, 1) := by decide +kernel
theorem dX1_yarnFor_6 : decode cX1_yarnFor 6 = .ok (.getfield 26, 3) := by decide +kernel
theorem dX1_yarnFor_9 : decode cX1_yarnFor 9 = .ok (.isub, 1) := by decide +kernel
theorem dX1_yarnFor_10 : decode cX1_yarnFor 10 = .ok (.invokestatic 53, 3) := by decide +kernel
theorem dX1_yarnFor_13 : decode cX1_yarnFor 13 = .ok (.istore_n 2, 1) := by decide +kernel
theorem dX1_yarnFor_14 : decode cX1_yarnFor 14 = .ok (.iload_n 1, 1) := by decide +kernel
theorem dX1_yarnFor_15 : decode cX1_yarnFor 15 = .ok (.iload_n 2, 1) := by decide +kernel
theorem dX1_yarnFor_16 : decode cX1_yarnFor 16 = .ok (.isub, 1) := by decide +kernel
theorem dX1_yarnFor_17 : decode cX1_yarnFor 17 = .ok (.aload_n 0, 1) := by decide +kernel
theorem dX1_yarnFor_18 : decode cX1_yarnFor 18 = .ok (.getfield 32, 3) := by decide +kernel
theorem dX1_yarnFor_21 : decode cX1_yarnFor 21 = .ok (.iload_n 2, 1) := by decide +kernel
theorem dX1_yarnFor_22 : decode cX1_yarnFor 22 = .ok (.iadd, 1) := by decide +kernel
theorem dX1_yarnFor_23 : decode cX1_yarnFor 23 = .ok (.iconst 4, 1) := by decide +kernel
theorem dX1_yarnFor_24 : decode cX1_yarnFor 24 = .ok (.idiv, 1) := by decide +kernel
theorem dX1_yarnFor_25 : decode cX1_yarnFor 25 = .ok (.iadd, 1) := by decide +kernel
theorem dX1_yarnFor_26 : decode cX1_yarnFor 26 = .ok (.aload_n 0, 1) := by decide +kernel
theorem dX1_yarnFor_27 : decode cX1_yarnFor 27 = .ok (.getfield 32, 3) := by decide +kernel
theorem dX1_yarnFor_30 : decode cX1_yarnFor 30 = .ok (.iconst 4, 1) := by decide +kernel
theorem dX1_yarnFor_31 : decode cX1_yarnFor 31 = .ok (.idiv, 1) := by decide +kernel
theorem dX1_yarnFor_32 : decode cX1_yarnFor 32 = .ok (.isub, 1) := by decide +kernel
theorem dX1_yarnFor_33 : decode cX1_yarnFor 33 = .ok (.ireturn, 1) := by decide +kernel
set_option maxRecDepth 20000 in
theorem ggX1_hangMore_X1_yarnFor : GoodIn wsX1_hangMore wsX1_yarnFor := goodIn_r _ [16, 3, 4, 5, 6, 7, 8, 2, 17, 18, 19, 20, 21, 22, 23, 24, 25, 26] (by decide +kernel) (by decide +kernel)
set_option maxRecDepth 20000 in
theorem gX1_hangMore_X1_yarnFor : GoodIn wsX1_hangMore (wsV RX1 59 RX1 yX1_yarnFor wsX1_yarnFor) := goodIn_app (goodIn_of _ (by decide +kernel)) ggX1_hangMore_X1_yarnFor
theorem dX1_hangMore_0 : decode cX1_hangMore 0 = .ok (.aload_n 0, 1) := by decide +kernel
theorem dX1_hangMore_1 : decode cX1_hangMore 1 = .ok (.dup, 1) := by decide +kernel
theorem dX1_hangMore_2 : decode cX1_hangMore 2 = .ok (.getfield 40, 3) := by decide +kernel
theorem dX1_hangMore_5 : decode cX1_hangMore 5 = .ok (.aload_n 0, 1) := by decide +kernel
theorem dX1_hangMore_6 : decode cX1_hangMore 6 = .ok (.iload_n 1, 1) := by decide +kernel
theorem dX1_hangMore_7 : decode cX1_hangMore 7 = .ok (.invokevirtual 59, 3) := by decide +kernel
theorem dX1_hangMore_10 : decode cX1_hangMore 10 = .ok (.isub, 1) := by decide +kernel
theorem dX1_hangMore_11 : decode cX1_hangMore 11 = .ok (.putfield 40, 3) := by decide +kernel
theorem dX1_hangMore_14 : decode cX1_hangMore 14 = .ok (.aload_n 0, 1) := by decide +kernel
theorem dX1_hangMore_15 : decode cX1_hangMore 15 = .ok (.dup, 1) := by decide +kernel
theorem dX1_hangMore_16 : decode cX1_hangMore 16 = .ok (.getfield 32, 3) := by decide +kernel
theorem dX1_hangMore_19 : decode cX1_hangMore 19 = .ok (.iload_n 1, 1) := by decide +kernel
theorem dX1_hangMore_20 : decode cX1_hangMore 20 = .ok (.aload_n 0, 1) := by decide +kernel
theorem dX1_hangMore_21 : decode cX1_hangMore 21 = .ok (.getfield 29, 3) := by decide +kernel
theorem dX1_hangMore_24 : decode cX1_hangMore 24 = .ok (.aload_n 0, 1) := by decide +kernel
theorem dX1_hangMore_25 : decode cX1_hangMore 25 = .ok (.getfield 26, 3) := by decide +kernel
theorem dX1_hangMore_28 : decode cX1_hangMore 28 = .ok (.isub, 1) := by decide +kernel
theorem dX1_hangMore_29 : decode cX1_hangMore 29 = .ok (.invokestatic 53, 3) := by decide +kernel
theorem dX1_hangMore_32 : decode cX1_hangMore 32 = .ok (.iadd, 1) := by decide +kernel
theorem dX1_hangMore_33 : decode cX1_hangMore 33 = .ok (.putfield 32, 3) := by decide +kernel
theorem dX1_hangMore_36 : decode cX1_hangMore 36 = .ok (.aload_n 0, 1) := by decide +kernel
theorem dX1_hangMore_37 : decode cX1_hangMore 37 = .ok (.dup, 1) := by decide +kernel
theorem dX1_hangMore_38 : decode cX1_hangMore 38 = .ok (.getfield 26, 3) := by decide +kernel
theorem dX1_hangMore_41 : decode cX1_hangMore 41 = .ok (.iload_n 1, 1) := by decide +kernel
theorem dX1_hangMore_42 : decode cX1_hangMore 42 = .ok (.iadd, 1) := by decide +kernel
theorem dX1_hangMore_43 : decode cX1_hangMore 43 = .ok (.putfield 26, 3) := by decide +kernel
theorem dX1_hangMore_46 : decode cX1_hangMore 46 = .ok (.aload_n 0, 1) := by decide +kernel
theorem dX1_hangMore_47 : decode cX1_hangMore 47 = .ok (.aload_n 0, 1) := by decide +kernel
theorem dX1_hangMore_48 : decode cX1_hangMore 48 = .ok (.getfield 29, 3) := by decide +kernel
theorem dX1_hangMore_51 : decode cX1_hangMore 51 = .ok (.aload_n 0, 1) := by decide +kernel
theorem dX1_hangMore_52 : decode cX1_hangMore 52 = .ok (.getfield 26, 3) := by decide +kernel
theorem dX1_hangMore_55 : decode cX1_hangMore 55 = .ok (.invokestatic 63, 3) := by decide +kernel
theorem dX1_hangMore_58 : decode cX1_hangMore 58 = .ok (.putfield 29, 3) := by decide +kernel
theorem dX1_hangMore_61 : decode cX1_hangMore 61 = .ok (.return_, 1) := by decide +kernel
set_option maxRecDepth 20000 in
theorem ggX1_passEvening_X3_divides : GoodIn wsX1_passEvening wsX3_divides := goodIn_r _ [11] (by decide +kernel) (by decide +kernel)
set_option maxRecDepth 20000 in
theorem gX1_passEvening_X3_divides : GoodIn wsX1_passEvening (va_wsS RX1 75 yX3_divides wsX3_divides) := goodIn_app (goodIn_of _ (by decide +kernel)) ggX1_passEvening_X3_divides
set_option maxRecDepth 20000 in
theorem ggX1_passEvening_X1_isDoubtful : GoodIn wsX1_passEvening wsX1_isDoubtful := goodIn_r _ [16, 4, 17, 18, 19, 10, 20, 21, 22, 23, 24, 25, 26, 27, 40, 41, 42, 43, 44, 45, 46, 47, 48, 49, 28, 29, 30, 31, 32, 33, 34, 35, 36, 37, 38, 39] (by decide +kernel) (by decide +kernel)
set_option maxRecDepth 20000 in
theorem gX1_passEvening_X1_isDoubtful : GoodIn wsX1_passEvening (wsV RX1 79 RX1 yX1_isDoubtful wsX1_isDoubtful) := goodIn_app (goodIn_of _ (by decide +kernel)) ggX1_passEvening_X1_isDoubtful
theorem dX1_passEvening_0 : decode cX1_passEvening 0 = .ok (.iconst 0, 1) := by decide +kernel
theorem dX1_passEvening_1 : decode cX1_passEvening 1 = .ok (.istore_n 2, 1) := by decide +kernel
theorem dX1_passEvening_2 : decode cX1_passEvening 2 = .ok (.iload_n 2, 1) := by decide +kernel
theorem dX1_passEvening_3 : decode cX1_passEvening 3 = .ok (.aload_n 1, 1) := by decide +kernel
theorem dX1_passEvening_4 : decode cX1_passEvening 4 = .ok (.getfield 66, 3) := by decide +kernel
theorem dX1_passEvening_7 : decode cX1_passEvening 7 = .ok (.if_icmp .ge 85, 3) := by decide +kernel
theorem dX1_passEvening_10 : decode cX1_passEvening 10 = .ok (.aload_n 1, 1) := by decide +kernel
theorem dX1_passEvening_11 : decode cX1_passEvening 11 = .ok (.getfield 69, 3) := by decide +kernel
theorem dX1_passEvening_14 : decode cX1_passEvening 14 = .ok (.iload_n 2, 1) := by decide +kernel
theorem dX1_passEvening_15 : decode cX1_passEvening 15 = .ok (.iaload, 1) := by decide +kernel
theorem dX1_passEvening_16 : decode cX1_passEvening 16 = .ok (.iconst 4, 1) := by decide +kernel
theorem dX1_passEvening_17 : decode cX1_passEvening 17 = .ok (.if_icmp .ge 69, 3) := by decide +kernel
theorem dX1_passEvening_20 : decode cX1_passEvening 20 = .ok (.aload_n 1, 1) := by decide +kernel
theorem dX1_passEvening_21 : decode cX1_passEvening 21 = .ok (.getfield 72, 3) := by decide +kernel
theorem dX1_passEvening_24 : decode cX1_passEvening 24 = .ok (.iload_n 2, 1) := by decide +kernel
theorem dX1_passEvening_25 : decode cX1_passEvening 25 = .ok (.iaload, 1) := by decide +kernel
theorem dX1_passEvening_26 : decode cX1_passEvening 26 = .ok (.aload_n 0, 1) := by decide +kernel
theorem dX1_passEvening_27 : decode cX1_passEvening 27 = .ok (.getfield 18, 3) := by decide +kernel
theorem dX1_passEvening_30 : decode cX1_passEvening 30 = .ok (.invokestatic 75, 3) := by decide +kernel
theorem dX1_passEvening_33 : decode cX1_passEvening 33 = .ok (.ifCond .eq 53, 3) := by decide +kernel
theorem dX1_passEvening_36 : decode cX1_passEvening 36 = .ok (.aload_n 0, 1) := by decide +kernel
theorem dX1_passEvening_37 : decode cX1_passEvening 37 = .ok (.getfield 15, 3) := by decide +kernel
theorem dX1_passEvening_40 : decode cX1_passEvening 40 = .ok (.iload_n 2, 1) := by decide +kernel
theorem dX1_passEvening_41 : decode cX1_passEvening 41 = .ok (.iaload, 1) := by decide +kernel
theorem dX1_passEvening_42 : decode cX1_passEvening 42 = .ok (.iconst (-1), 1) := by decide +kernel
theorem dX1_passEvening_43 : decode cX1_passEvening 43 = .ok (.if_icmp .eq 33, 3) := by decide +kernel
theorem dX1_passEvening_46 : decode cX1_passEvening 46 = .ok (.aload_n 0, 1) := by decide +kernel
theorem dX1_passEvening_47 : decode cX1_passEvening 47 = .ok (.aload_n 1, 1) := by decide +kernel
theorem dX1_passEvening_48 : decode cX1_passEvening 48 = .ok (.aload_n 1, 1) := by decide +kernel
theorem dX1_passEvening_49 : decode cX1_passEvening 49 = .ok (.getfield 69, 3) := by decide +kernel
theorem dX1_passEvening_52 : decode cX1_passEvening 52 = .ok (.iload_n 2, 1) := by decide +kernel
theorem dX1_passEvening_53 : decode cX1_passEvening 53 = .ok (.iaload, 1) := by decide +kernel
theorem dX1_passEvening_54 : decode cX1_passEvening 54 = .ok (.aload_n 0, 1) := by decide +kernel
theorem dX1_passEvening_55 : decode cX1_passEvening 55 = .ok (.getfield 15, 3) := by decide +kernel
theorem dX1_passEvening_58 : decode cX1_passEvening 58 = .ok (.iload_n 2, 1) := by decide +kernel
theorem dX1_passEvening_59 : decode cX1_passEvening 59 = .ok (.iaload, 1) := by decide +kernel
theorem dX1_passEvening_60 : decode cX1_passEvening 60 = .ok (.invokevirtual 79, 3) := by decide +kernel
theorem dX1_passEvening_63 : decode cX1_passEvening 63 = .ok (.ifCond .eq 13, 3) := by decide +kernel
theorem dX1_passEvening_66 : decode cX1_passEvening 66 = .ok (.aload_n 0, 1) := by decide +kernel
theorem dX1_passEvening_67 : decode cX1_passEvening 67 = .ok (.getfield 9, 3) := by decide +kernel
theorem dX1_passEvening_70 : decode cX1_passEvening 70 = .ok (.iload_n 2, 1) := by decide +kernel
theorem dX1_passEvening_71 : decode cX1_passEvening 71 = .ok (.dup2, 1) := by decide +kernel
theorem dX1_passEvening_72 : decode cX1_passEvening 72 = .ok (.iaload, 1) := by decide +kernel
theorem dX1_passEvening_73 : decode cX1_passEvening 73 = .ok (.iconst 1, 1) := by decide +kernel
theorem dX1_passEvening_74 : decode cX1_passEvening 74 = .ok (.iadd, 1) := by decide +kernel
theorem dX1_passEvening_75 : decode cX1_passEvening 75 = .ok (.iastore, 1) := by decide +kernel
theorem dX1_passEvening_76 : decode cX1_passEvening 76 = .ok (.aload_n 0, 1) := by decide +kernel
theorem dX1_passEvening_77 : decode cX1_passEvening 77 = .ok (.getfield 15, 3) := by decide +kernel
theorem dX1_passEvening_80 : decode cX1_passEvening 80 = .ok (.iload_n 2, 1) := by decide +kernel
theorem dX1_passEvening_81 : decode cX1_passEvening 81 = .ok (.aload_n 0, 1) := by decide +kernel
theorem dX1_passEvening_82 : decode cX1_passEvening 82 = .ok (.getfield 26, 3) := by decide +kernel
theorem dX1_passEvening_85 : decode cX1_passEvening 85 = .ok (.iastore, 1) := by decide +kernel
theorem dX1_passEvening_86 : decode cX1_passEvening 86 = .ok (.iinc 2 1, 3) := by decide +kernel
theorem dX1_passEvening_89 : decode cX1_passEvening 89 = .ok (.goto (-87), 3) := by decide +kernel
theorem dX1_passEvening_92 : decode cX1_passEvening 92 = .ok (.aload_n 1, 1) := by decide +kernel
theorem dX1_passEvening_93 : decode cX1_passEvening 93 = .ok (.getfield 83, 3) := by decide +kernel
theorem dX1_passEvening_96 : decode cX1_passEvening 96 = .ok (.aload_n 0, 1) := by decide +kernel
theorem dX1_passEvening_97 : decode cX1_passEvening 97 = .ok (.getfield 18, 3) := by decide +kernel
theorem dX1_passEvening_100 : decode cX1_passEvening 100 = .ok (.invokestatic 75, 3) := by decide +kernel
theorem dX1_passEvening_103 : decode cX1_passEvening 103 = .ok (.ifCond .eq 37, 3) := by decide +kernel
theorem dX1_passEvening_106 : decode cX1_passEvening 106 = .ok (.aload_n 0, 1) := by decide +kernel
theorem dX1_passEvening_107 : decode cX1_passEvening 107 = .ok (.getfield 26, 3) := by decide +kernel
theorem dX1_passEvening_110 : decode cX1_passEvening 110 = .ok (.aload_n 0, 1) := by decide +kernel
theorem dX1_passEvening_111 : decode cX1_passEvening 111 = .ok (.getfield 44, 3) := by decide +kernel
theorem dX1_passEvening_114 : decode cX1_passEvening 114 = .ok (.isub, 1) := by decide +kernel
theorem dX1_passEvening_115 : decode cX1_passEvening 115 = .ok (.aload_n 1, 1) := by decide +kernel
theorem dX1_passEvening_116 : decode cX1_passEvening 116 = .ok (.getfield 86, 3) := by decide +kernel
theorem dX1_passEvening_119 : decode cX1_passEvening 119 = .ok (.if_icmp .ge 13, 3) := by decide +kernel
theorem dX1_passEvening_122 : decode cX1_passEvening 122 = .ok (.aload_n 0, 1) := by decide +kernel
theorem dX1_passEvening_123 : decode cX1_passEvening 123 = .ok (.dup, 1) := by decide +kernel
theorem dX1_passEvening_124 : decode cX1_passEvening 124 = .ok (.getfield 41, 3) := by decide +kernel
theorem dX1_passEvening_127 : decode cX1_passEvening 127 = .ok (.iconst 1, 1) := by decide +kernel
theorem dX1_passEvening_128 : decode cX1_passEvening 128 = .ok (.iadd, 1) := by decide +kernel
theorem dX1_passEvening_129 : decode cX1_passEvening 129 = .ok (.putfield 41, 3) := by decide +kernel
theorem dX1_passEvening_132 : decode cX1_passEvening 132 = .ok (.aload_n 0, 1) := by decide +kernel
theorem dX1_passEvening_133 : decode cX1_passEvening 133 = .ok (.aload_n 0, 1) := by decide +kernel
theorem dX1_passEvening_134 : decode cX1_passEvening 134 = .ok (.getfield 26, 3) := by decide +kernel
theorem dX1_passEvening_137 : decode cX1_passEvening 137 = .ok (.putfield 44, 3) := by decide +kernel
theorem dX1_passEvening_140 : decode cX1_passEvening 140 = .ok (.aload_n 0, 1) := by decide +kernel
theorem dX1_passEvening_141 : decode cX1_passEvening 141 = .ok (.iconst 1, 1) := by decide +kernel
theorem dX1_passEvening_142 : decode cX1_passEvening 142 = .ok (.putfield 22, 3) := by decide +kernel
theorem dX1_passEvening_145 : decode cX1_passEvening 145 = .ok (.return_, 1) := by decide +kernel
set_option maxRecDepth 20000 in
theorem ggX1_passNight_X1_fewestNoticed : GoodIn wsX1_passNight wsX1_fewestNoticed := goodIn_r _ [8] (by decide +kernel) (by decide +kernel)
set_option maxRecDepth 20000 in
theorem gX1_passNight_X1_fewestNoticed : GoodIn wsX1_passNight (va_wsS RX1 89 yX1_fewestNoticed wsX1_fewestNoticed) := goodIn_app (goodIn_of _ (by decide +kernel)) ggX1_passNight_X1_fewestNoticed
set_option maxRecDepth 20000 in
theorem ggX1_passNight_X3_divides : GoodIn wsX1_passNight wsX3_divides := goodIn_r _ [12] (by decide +kernel) (by decide +kernel)
set_option maxRecDepth 20000 in
theorem gX1_passNight_X3_divides : GoodIn wsX1_passNight (va_wsS RX1 75 yX3_divides wsX3_divides) := goodIn_app (goodIn_of _ (by decide +kernel)) ggX1_passNight_X3_divides
theorem dX1_passNight_0 : decode cX1_passNight 0 = .ok (.aload_n 0, 1) := by decide +kernel
theorem dX1_passNight_1 : decode cX1_passNight 1 = .ok (.dup, 1) := by decide +kernel
theorem dX1_passNight_2 : decode cX1_passNight 2 = .ok (.getfield 26, 3) := by decide +kernel
theorem dX1_passNight_5 : decode cX1_passNight 5 = .ok (.iload_n 2, 1) := by decide +kernel
theorem dX1_passNight_6 : decode cX1_passNight 6 = .ok (.isub, 1) := by decide +kernel
theorem dX1_passNight_7 : decode cX1_passNight 7 = .ok (.putfield 26, 3) := by decide +kernel
theorem dX1_passNight_10 : decode cX1_passNight 10 = .ok (.iconst 0, 1) := by decide +kernel
theorem dX1_passNight_11 : decode cX1_passNight 11 = .ok (.istore_n 3, 1) := by decide +kernel
theorem dX1_passNight_12 : decode cX1_passNight 12 = .ok (.iload_n 3, 1) := by decide +kernel
theorem dX1_passNight_13 : decode cX1_passNight 13 = .ok (.aload_n 1, 1) := by decide +kernel
theorem dX1_passNight_14 : decode cX1_passNight 14 = .ok (.getfield 66, 3) := by decide +kernel
theorem dX1_passNight_17 : decode cX1_passNight 17 = .ok (.if_icmp .ge 48, 3) := by decide +kernel
theorem dX1_passNight_20 : decode cX1_passNight 20 = .ok (.iload_n 2, 1) := by decide +kernel
theorem dX1_passNight_21 : decode cX1_passNight 21 = .ok (.aload_n 1, 1) := by decide +kernel
theorem dX1_passNight_22 : decode cX1_passNight 22 = .ok (.getfield 69, 3) := by decide +kernel
theorem dX1_passNight_25 : decode cX1_passNight 25 = .ok (.iload_n 3, 1) := by decide +kernel
theorem dX1_passNight_26 : decode cX1_passNight 26 = .ok (.iaload, 1) := by decide +kernel
theorem dX1_passNight_27 : decode cX1_passNight 27 = .ok (.invokestatic 89, 3) := by decide +kernel
theorem dX1_passNight_30 : decode cX1_passNight 30 = .ok (.if_icmp .lt 29, 3) := by decide +kernel
theorem dX1_passNight_33 : decode cX1_passNight 33 = .ok (.aload_n 1, 1) := by decide +kernel
theorem dX1_passNight_34 : decode cX1_passNight 34 = .ok (.getfield 72, 3) := by decide +kernel
theorem dX1_passNight_37 : decode cX1_passNight 37 = .ok (.iload_n 3, 1) := by decide +kernel
theorem dX1_passNight_38 : decode cX1_passNight 38 = .ok (.iaload, 1) := by decide +kernel
theorem dX1_passNight_39 : decode cX1_passNight 39 = .ok (.aload_n 0, 1) := by decide +kernel
theorem dX1_passNight_40 : decode cX1_passNight 40 = .ok (.getfield 18, 3) := by decide +kernel
theorem dX1_passNight_43 : decode cX1_passNight 43 = .ok (.invokestatic 75, 3) := by decide +kernel
theorem dX1_passNight_46 : decode cX1_passNight 46 = .ok (.ifCond .eq 13, 3) := by decide +kernel
theorem dX1_passNight_49 : decode cX1_passNight 49 = .ok (.aload_n 0, 1) := by decide +kernel
theorem dX1_passNight_50 : decode cX1_passNight 50 = .ok (.getfield 9, 3) := by decide +kernel
theorem dX1_passNight_53 : decode cX1_passNight 53 = .ok (.iload_n 3, 1) := by decide +kernel
theorem dX1_passNight_54 : decode cX1_passNight 54 = .ok (.dup2, 1) := by decide +kernel
theorem dX1_passNight_55 : decode cX1_passNight 55 = .ok (.iaload, 1) := by decide +kernel
theorem dX1_passNight_56 : decode cX1_passNight 56 = .ok (.iconst 1, 1) := by decide +kernel
theorem dX1_passNight_57 : decode cX1_passNight 57 = .ok (.iadd, 1) := by decide +kernel
theorem dX1_passNight_58 : decode cX1_passNight 58 = .ok (.iastore, 1) := by decide +kernel
theorem dX1_passNight_59 : decode cX1_passNight 59 = .ok (.iinc 3 1, 3) := by decide +kernel
theorem dX1_passNight_62 : decode cX1_passNight 62 = .ok (.goto (-50), 3) := by decide +kernel
theorem dX1_passNight_65 : decode cX1_passNight 65 = .ok (.aload_n 0, 1) := by decide +kernel
theorem dX1_passNight_66 : decode cX1_passNight 66 = .ok (.dup, 1) := by decide +kernel
theorem dX1_passNight_67 : decode cX1_passNight 67 = .ok (.getfield 18, 3) := by decide +kernel
theorem dX1_passNight_70 : decode cX1_passNight 70 = .ok (.iconst 1, 1) := by decide +kernel
theorem dX1_passNight_71 : decode cX1_passNight 71 = .ok (.iadd, 1) := by decide +kernel
theorem dX1_passNight_72 : decode cX1_passNight 72 = .ok (.putfield 18, 3) := by decide +kernel
theorem dX1_passNight_75 : decode cX1_passNight 75 = .ok (.aload_n 0, 1) := by decide +kernel
theorem dX1_passNight_76 : decode cX1_passNight 76 = .ok (.iconst 0, 1) := by decide +kernel
theorem dX1_passNight_77 : decode cX1_passNight 77 = .ok (.putfield 22, 3) := by decide +kernel
theorem dX1_passNight_80 : decode cX1_passNight 80 = .ok (.return_, 1) := by decide +kernel
theorem dX1_knows_0 : decode cX1_knows 0 = .ok (.aload_n 0, 1) := by decide +kernel
theorem dX1_knows_1 : decode cX1_knows 1 = .ok (.getfield 9, 3) := by decide +kernel
theorem dX1_knows_4 : decode cX1_knows 4 = .ok (.iload_n 2, 1) := by decide +kernel
theorem dX1_knows_5 : decode cX1_knows 5 = .ok (.iaload, 1) := by decide +kernel
theorem dX1_knows_6 : decode cX1_knows 6 = .ok (.aload_n 1, 1) := by decide +kernel
theorem dX1_knows_7 : decode cX1_knows 7 = .ok (.getfield 92, 3) := by decide +kernel
theorem dX1_knows_10 : decode cX1_knows 10 = .ok (.iload_n 2, 1) := by decide +kernel
theorem dX1_knows_11 : decode cX1_knows 11 = .ok (.iaload, 1) := by decide +kernel
theorem dX1_knows_12 : decode cX1_knows 12 = .ok (.if_icmp .lt 7, 3) := by decide +kernel
theorem dX1_knows_15 : decode cX1_knows 15 = .ok (.iconst 1, 1) := by decide +kernel
theorem dX1_knows_16 : decode cX1_knows 16 = .ok (.goto 4, 3) := by decide +kernel
theorem dX1_knows_19 : decode cX1_knows 19 = .ok (.iconst 0, 1) := by decide +kernel
theorem dX1_knows_20 : decode cX1_knows 20 = .ok (.ireturn, 1) := by decide +kernel
set_option maxRecDepth 20000 in
theorem ggX1_whoKnows_X1_knows : GoodIn wsX1_whoKnows wsX1_knows := goodIn_r _ [5, 6, 19, 20, 21, 22, 23, 24, 25, 26, 27, 28, 7, 8, 9, 10, 11, 12, 13, 14, 15, 16, 17, 18] (by decide +kernel) (by decide +kernel)
set_option maxRecDepth 20000 in
theorem gX1_whoKnows_X1_knows : GoodIn wsX1_whoKnows (wsV RX1 95 RX1 yX1_knows wsX1_knows) := goodIn_app (goodIn_of _ (by decide +kernel)) ggX1_whoKnows_X1_knows
theorem dX1_whoKnows_0 : decode cX1_whoKnows 0 = .ok (.iconst 0, 1) := by decide +kernel
theorem dX1_whoKnows_1 : decode cX1_whoKnows 1 = .ok (.istore_n 2, 1) := by decide +kernel
theorem dX1_whoKnows_2 : decode cX1_whoKnows 2 = .ok (.iconst 0, 1) := by decide +kernel
theorem dX1_whoKnows_3 : decode cX1_whoKnows 3 = .ok (.istore_n 3, 1) := by decide +kernel
theorem dX1_whoKnows_4 : decode cX1_whoKnows 4 = .ok (.iload_n 3, 1) := by decide +kernel
theorem dX1_whoKnows_5 : decode cX1_whoKnows 5 = .ok (.aload_n 1, 1) := by decide +kernel
theorem dX1_whoKnows_6 : decode cX1_whoKnows 6 = .ok (.getfield 66, 3) := by decide +kernel
theorem dX1_whoKnows_9 : decode cX1_whoKnows 9 = .ok (.if_icmp .ge 24, 3) := by decide +kernel
theorem dX1_whoKnows_12 : decode cX1_whoKnows 12 = .ok (.aload_n 0, 1) := by decide +kernel
theorem dX1_whoKnows_13 : decode cX1_whoKnows 13 = .ok (.aload_n 1, 1) := by decide +kernel
theorem dX1_whoKnows_14 : decode cX1_whoKnows 14 = .ok (.iload_n 3, 1) := by decide +kernel
theorem dX1_whoKnows_15 : decode cX1_whoKnows 15 = .ok (.invokevirtual 95, 3) := by decide +kernel
theorem dX1_whoKnows_18 : decode cX1_whoKnows 18 = .ok (.ifCond .eq 9, 3) := by decide +kernel
theorem dX1_whoKnows_21 : decode cX1_whoKnows 21 = .ok (.iload_n 2, 1) := by decide +kernel
theorem dX1_whoKnows_22 : decode cX1_whoKnows 22 = .ok (.iconst 1, 1) := by decide +kernel
theorem dX1_whoKnows_23 : decode cX1_whoKnows 23 = .ok (.iload_n 3, 1) := by decide +kernel
theorem dX1_whoKnows_24 : decode cX1_whoKnows 24 = .ok (.ishl, 1) := by decide +kernel
theorem dX1_whoKnows_25 : decode cX1_whoKnows 25 = .ok (.ior, 1) := by decide +kernel
theorem dX1_whoKnows_26 : decode cX1_whoKnows 26 = .ok (.istore_n 2, 1) := by decide +kernel
theorem dX1_whoKnows_27 : decode cX1_whoKnows 27 = .ok (.iinc 3 1, 3) := by decide +kernel
theorem dX1_whoKnows_30 : decode cX1_whoKnows 30 = .ok (.goto (-26), 3) := by decide +kernel
theorem dX1_whoKnows_33 : decode cX1_whoKnows 33 = .ok (.iload_n 2, 1) := by decide +kernel
theorem dX1_whoKnows_34 : decode cX1_whoKnows 34 = .ok (.ireturn, 1) := by decide +kernel
set_option maxRecDepth 20000 in
theorem ggX1_firstWhoKnows_X1_knows : GoodIn wsX1_firstWhoKnows wsX1_knows := goodIn_r _ [6, 7, 20, 21, 22, 23, 24, 25, 26, 27, 28, 29, 8, 9, 10, 11, 12, 13, 14, 15, 16, 17, 18, 19] (by decide +kernel) (by decide +kernel)
set_option maxRecDepth 20000 in
theorem gX1_firstWhoKnows_X1_knows : GoodIn wsX1_firstWhoKnows (wsV RX1 95 RX1 yX1_knows wsX1_knows) := goodIn_app (goodIn_of _ (by decide +kernel)) ggX1_firstWhoKnows_X1_knows
theorem dX1_firstWhoKnows_0 : decode cX1_firstWhoKnows 0 = .ok (.iconst 0, 1) := by decide +kernel
theorem dX1_firstWhoKnows_1 : decode cX1_firstWhoKnows 1 = .ok (.istore_n 2, 1) := by decide +kernel
theorem dX1_firstWhoKnows_2 : decode cX1_firstWhoKnows 2 = .ok (.iload_n 2, 1) := by decide +kernel
theorem dX1_firstWhoKnows_3 : decode cX1_firstWhoKnows 3 = .ok (.aload_n 1, 1) := by decide +kernel
theorem dX1_firstWhoKnows_4 : decode cX1_firstWhoKnows 4 = .ok (.getfield 66, 3) := by decide +kernel
theorem dX1_firstWhoKnows_7 : decode cX1_firstWhoKnows 7 = .ok (.if_icmp .ge 20, 3) := by decide +kernel
theorem dX1_firstWhoKnows_10 : decode cX1_firstWhoKnows 10 = .ok (.aload_n 0, 1) := by decide +kernel
theorem dX1_firstWhoKnows_11 : decode cX1_firstWhoKnows 11 = .ok (.aload_n 1, 1) := by decide +kernel
theorem dX1_firstWhoKnows_12 : decode cX1_firstWhoKnows 12 = .ok (.iload_n 2, 1) := by decide +kernel
theorem dX1_firstWhoKnows_13 : decode cX1_firstWhoKnows 13 = .ok (.invokevirtual 95, 3) := by decide +kernel
theorem dX1_firstWhoKnows_16 : decode cX1_firstWhoKnows 16 = .ok (.ifCond .eq 5, 3) := by decide +kernel
theorem dX1_firstWhoKnows_19 : decode cX1_firstWhoKnows 19 = .ok (.iload_n 2, 1) := by decide +kernel
theorem dX1_firstWhoKnows_20 : decode cX1_firstWhoKnows 20 = .ok (.ireturn, 1) := by decide +kernel
theorem dX1_firstWhoKnows_21 : decode cX1_firstWhoKnows 21 = .ok (.iinc 2 1, 3) := by decide +kernel
theorem dX1_firstWhoKnows_24 : decode cX1_firstWhoKnows 24 = .ok (.goto (-22), 3) := by decide +kernel
theorem dX1_firstWhoKnows_27 : decode cX1_firstWhoKnows 27 = .ok (.ldc 99, 2) := by decide +kernel
theorem dX1_firstWhoKnows_29 : decode cX1_firstWhoKnows 29 = .ok (.ireturn, 1) := by decide +kernel
set_option maxRecDepth 20000 in
theorem ggX1_isDoubtful_X3_lookTheSame : GoodIn wsX1_isDoubtful wsX3_lookTheSame := goodIn_r _ [6, 7, 8, 9, 5, 10, 11, 12, 13, 24, 25, 26, 27, 28, 29, 30, 31, 32, 33, 34, 35] (by decide +kernel) (by decide +kernel)
set_option maxRecDepth 20000 in
theorem gX1_isDoubtful_X3_lookTheSame : GoodIn wsX1_isDoubtful (wsV RX1 100 RX3 yX3_lookTheSame wsX3_lookTheSame) := goodIn_app (goodIn_of _ (by decide +kernel)) ggX1_isDoubtful_X3_lookTheSame
theorem dX1_isDoubtful_0 : decode cX1_isDoubtful 0 = .ok (.iload_n 2, 1) := by decide +kernel
theorem dX1_isDoubtful_1 : decode cX1_isDoubtful 1 = .ok (.tableswitch 87 1 3 #[27, 55, 41], 27) := by decide +kernel
theorem dX1_isDoubtful_28 : decode cX1_isDoubtful 28 = .ok (.aload_n 0, 1) := by decide +kernel
theorem dX1_isDoubtful_29 : decode cX1_isDoubtful 29 = .ok (.getfield 26, 3) := by decide +kernel
theorem dX1_isDoubtful_32 : decode cX1_isDoubtful 32 = .ok (.iload_n 3, 1) := by decide +kernel
theorem dX1_isDoubtful_33 : decode cX1_isDoubtful 33 = .ok (.if_icmp .gt 7, 3) := by decide +kernel
theorem dX1_isDoubtful_36 : decode cX1_isDoubtful 36 = .ok (.iconst 1, 1) := by decide +kernel
theorem dX1_isDoubtful_37 : decode cX1_isDoubtful 37 = .ok (.goto 4, 3) := by decide +kernel
theorem dX1_isDoubtful_40 : decode cX1_isDoubtful 40 = .ok (.iconst 0, 1) := by decide +kernel
theorem dX1_isDoubtful_41 : decode cX1_isDoubtful 41 = .ok (.ireturn, 1) := by decide +kernel
theorem dX1_isDoubtful_42 : decode cX1_isDoubtful 42 = .ok (.aload_n 0, 1) := by decide +kernel
theorem dX1_isDoubtful_43 : decode cX1_isDoubtful 43 = .ok (.getfield 26, 3) := by decide +kernel
theorem dX1_isDoubtful_46 : decode cX1_isDoubtful 46 = .ok (.iload_n 3, 1) := by decide +kernel
theorem dX1_isDoubtful_47 : decode cX1_isDoubtful 47 = .ok (.if_icmp .ge 7, 3) := by decide +kernel
theorem dX1_isDoubtful_50 : decode cX1_isDoubtful 50 = .ok (.iconst 1, 1) := by decide +kernel
theorem dX1_isDoubtful_51 : decode cX1_isDoubtful 51 = .ok (.goto 4, 3) := by decide +kernel
theorem dX1_isDoubtful_54 : decode cX1_isDoubtful 54 = .ok (.iconst 0, 1) := by decide +kernel
theorem dX1_isDoubtful_55 : decode cX1_isDoubtful 55 = .ok (.ireturn, 1) := by decide +kernel
theorem dX1_isDoubtful_56 : decode cX1_isDoubtful 56 = .ok (.iload_n 3, 1) := by decide +kernel
theorem dX1_isDoubtful_57 : decode cX1_isDoubtful 57 = .ok (.iconst 2, 1) := by decide +kernel
theorem dX1_isDoubtful_58 : decode cX1_isDoubtful 58 = .ok (.if_icmp .lt 28, 3) := by decide +kernel
theorem dX1_isDoubtful_61 : decode cX1_isDoubtful 61 = .ok (.aload_n 0, 1) := by decide +kernel
theorem dX1_isDoubtful_62 : decode cX1_isDoubtful 62 = .ok (.getfield 26, 3) := by decide +kernel
theorem dX1_isDoubtful_65 : decode cX1_isDoubtful 65 = .ok (.iconst 2, 1) := by decide +kernel
theorem dX1_isDoubtful_66 : decode cX1_isDoubtful 66 = .ok (.if_icmp .lt 20, 3) := by decide +kernel
theorem dX1_isDoubtful_69 : decode cX1_isDoubtful 69 = .ok (.aload_n 1, 1) := by decide +kernel
theorem dX1_isDoubtful_70 : decode cX1_isDoubtful 70 = .ok (.aload_n 0, 1) := by decide +kernel
theorem dX1_isDoubtful_71 : decode cX1_isDoubtful 71 = .ok (.getfield 26, 3) := by decide +kernel
theorem dX1_isDoubtful_74 : decode cX1_isDoubtful 74 = .ok (.iload_n 3, 1) := by decide +kernel
theorem dX1_isDoubtful_75 : decode cX1_isDoubtful 75 = .ok (.iconst 2, 1) := by decide +kernel
theorem dX1_isDoubtful_76 : decode cX1_isDoubtful 76 = .ok (.invokevirtual 100, 3) := by decide +kernel
theorem dX1_isDoubtful_79 : decode cX1_isDoubtful 79 = .ok (.ifCond .eq 7, 3) := by decide +kernel
theorem dX1_isDoubtful_82 : decode cX1_isDoubtful 82 = .ok (.iconst 1, 1) := by decide +kernel
theorem dX1_isDoubtful_83 : decode cX1_isDoubtful 83 = .ok (.goto 4, 3) := by decide +kernel
theorem dX1_isDoubtful_86 : decode cX1_isDoubtful 86 = .ok (.iconst 0, 1) := by decide +kernel
theorem dX1_isDoubtful_87 : decode cX1_isDoubtful 87 = .ok (.ireturn, 1) := by decide +kernel
theorem dX1_isDoubtful_88 : decode cX1_isDoubtful 88 = .ok (.iconst 0, 1) := by decide +kernel
theorem dX1_isDoubtful_89 : decode cX1_isDoubtful 89 = .ok (.ireturn, 1) := by decide +kernel
theorem dX1_fewestNoticed_0 : decode cX1_fewestNoticed 0 = .ok (.iload_n 0, 1) := by decide +kernel
theorem dX1_fewestNoticed_1 : decode cX1_fewestNoticed 1 = .ok (.lookupswitch 31 #[(4, 27), (5, 29)], 27) := by decide +kernel
theorem dX1_fewestNoticed_28 : decode cX1_fewestNoticed 28 = .ok (.iconst 1, 1) := by decide +kernel
theorem dX1_fewestNoticed_29 : decode cX1_fewestNoticed 29 = .ok (.ireturn, 1) := by decide +kernel
theorem dX1_fewestNoticed_30 : decode cX1_fewestNoticed 30 = .ok (.iconst 2, 1) := by decide +kernel
theorem dX1_fewestNoticed_31 : decode cX1_fewestNoticed 31 = .ok (.ireturn, 1) := by decide +kernel
theorem dX1_fewestNoticed_32 : decode cX1_fewestNoticed 32 = .ok (.bipush 10, 2) := by decide +kernel
theorem dX1_fewestNoticed_34 : decode cX1_fewestNoticed 34 = .ok (.ireturn, 1) := by decide +kernel
theorem dX2_init_0 : decode cX2_init 0 = .ok (.aload_n 0, 1) := by decide +kernel
theorem dX2_init_1 : decode cX2_init 1 = .ok (.invokespecial 3, 3) := by decide +kernel
theorem dX2_init_4 : decode cX2_init 4 = .ok (.return_, 1) := by decide +kernel
set_option maxRecDepth 20000 in
theorem ggX2_explain_X9_isWithin : GoodIn wsX2_explain wsX9_isWithin := goodIn_r _ [6] (by decide +kernel) (by decide +kernel)
set_option maxRecDepth 20000 in
theorem gX2_explain_X9_isWithin_n25 : GoodIn wsX2_explain (wsX9_isWithin) := ggX2_explain_X9_isWithin
set_option maxRecDepth 20000 in
theorem ggX2_explain_X3_mostUndone : GoodIn wsX2_explain wsX3_mostUndone := goodIn_r _ [11, 12, 13, 14, 15, 16, 17, 18, 19, 10, 20, 43, 44, 45, 46, 47, 48, 49, 50, 51, 52, 53, 54] (by decide +kernel) (by decide +kernel)
set_option maxRecDepth 20000 in
theorem gX2_explain_X3_mostUndone : GoodIn wsX2_explain (wsV RX2 43 RX3 yX3_mostUndone wsX3_mostUndone) := goodIn_app (goodIn_of _ (by decide +kernel)) ggX2_explain_X3_mostUndone
set_option maxRecDepth 20000 in
theorem ggX2_explain_X2_addNight : GoodIn wsX2_explain wsX2_addNight := goodIn_r _ [25, 1, 2, 3, 4, 5, 6, 40, 41, 42] (by decide +kernel) (by decide +kernel)
set_option maxRecDepth 20000 in
theorem gX2_explain_X2_addNight : GoodIn wsX2_explain (wsV RX2 49 RX2 yX2_addNight wsX2_addNight) := goodIn_app (goodIn_of _ (by decide +kernel)) ggX2_explain_X2_addNight
theorem dX2_explain_0 : decode cX2_explain 0 = .ok (.aload_n 3, 1) := by decide +kernel
theorem dX2_explain_1 : decode cX2_explain 1 = .ok (.getfield 9, 3) := by decide +kernel
theorem dX2_explain_4 : decode cX2_explain 4 = .ok (.iload 4, 2) := by decide +kernel
theorem dX2_explain_6 : decode cX2_explain 6 = .ok (.iaload, 1) := by decide +kernel
theorem dX2_explain_7 : decode cX2_explain 7 = .ok (.aload_n 2, 1) := by decide +kernel
theorem dX2_explain_8 : decode cX2_explain 8 = .ok (.getfield 15, 3) := by decide +kernel
theorem dX2_explain_11 : decode cX2_explain 11 = .ok (.isub, 1) := by decide +kernel
theorem dX2_explain_12 : decode cX2_explain 12 = .ok (.istore 6, 2) := by decide +kernel
theorem dX2_explain_14 : decode cX2_explain 14 = .ok (.aload_n 0, 1) := by decide +kernel
theorem dX2_explain_15 : decode cX2_explain 15 = .ok (.iload 6, 2) := by decide +kernel
theorem dX2_explain_17 : decode cX2_explain 17 = .ok (.aload_n 2, 1) := by decide +kernel
theorem dX2_explain_18 : decode cX2_explain 18 = .ok (.getfield 21, 3) := by decide +kernel
theorem dX2_explain_21 : decode cX2_explain 21 = .ok (.ifCond .eq 7, 3) := by decide +kernel
theorem dX2_explain_24 : decode cX2_explain 24 = .ok (.iconst 0, 1) := by decide +kernel
theorem dX2_explain_25 : decode cX2_explain 25 = .ok (.goto 5, 3) := by decide +kernel
theorem dX2_explain_28 : decode cX2_explain 28 = .ok (.bipush 6, 2) := by decide +kernel
theorem dX2_explain_30 : decode cX2_explain 30 = .ok (.invokestatic 25, 3) := by decide +kernel
theorem dX2_explain_33 : decode cX2_explain 33 = .ok (.ifCond .eq 7, 3) := by decide +kernel
theorem dX2_explain_36 : decode cX2_explain 36 = .ok (.iconst 1, 1) := by decide +kernel
theorem dX2_explain_37 : decode cX2_explain 37 = .ok (.goto 4, 3) := by decide +kernel
theorem dX2_explain_40 : decode cX2_explain 40 = .ok (.iconst 0, 1) := by decide +kernel
theorem dX2_explain_41 : decode cX2_explain 41 = .ok (.putfield 29, 3) := by decide +kernel
theorem dX2_explain_44 : decode cX2_explain 44 = .ok (.aload_n 0, 1) := by decide +kernel
theorem dX2_explain_45 : decode cX2_explain 45 = .ok (.iconst 0, 1) := by decide +kernel
theorem dX2_explain_46 : decode cX2_explain 46 = .ok (.putfield 34, 3) := by decide +kernel
theorem dX2_explain_49 : decode cX2_explain 49 = .ok (.aload_n 0, 1) := by decide +kernel
theorem dX2_explain_50 : decode cX2_explain 50 = .ok (.iconst 0, 1) := by decide +kernel
theorem dX2_explain_51 : decode cX2_explain 51 = .ok (.putfield 37, 3) := by decide +kernel
theorem dX2_explain_54 : decode cX2_explain 54 = .ok (.iconst 0, 1) := by decide +kernel
theorem dX2_explain_55 : decode cX2_explain 55 = .ok (.istore 7, 2) := by decide +kernel
theorem dX2_explain_57 : decode cX2_explain 57 = .ok (.iload 7, 2) := by decide +kernel
theorem dX2_explain_59 : decode cX2_explain 59 = .ok (.iload 5, 2) := by decide +kernel
theorem dX2_explain_61 : decode cX2_explain 61 = .ok (.iconst 1, 1) := by decide +kernel
theorem dX2_explain_62 : decode cX2_explain 62 = .ok (.isub, 1) := by decide +kernel
theorem dX2_explain_63 : decode cX2_explain 63 = .ok (.if_icmp .ge 59, 3) := by decide +kernel
theorem dX2_explain_66 : decode cX2_explain 66 = .ok (.aload_n 3, 1) := by decide +kernel
theorem dX2_explain_67 : decode cX2_explain 67 = .ok (.getfield 9, 3) := by decide +kernel
theorem dX2_explain_70 : decode cX2_explain 70 = .ok (.iload 4, 2) := by decide +kernel
theorem dX2_explain_72 : decode cX2_explain 72 = .ok (.iload 7, 2) := by decide +kernel
theorem dX2_explain_74 : decode cX2_explain 74 = .ok (.iadd, 1) := by decide +kernel
theorem dX2_explain_75 : decode cX2_explain 75 = .ok (.iaload, 1) := by decide +kernel
theorem dX2_explain_76 : decode cX2_explain 76 = .ok (.istore 8, 2) := by decide +kernel
theorem dX2_explain_78 : decode cX2_explain 78 = .ok (.aload_n 1, 1) := by decide +kernel
theorem dX2_explain_79 : decode cX2_explain 79 = .ok (.aload_n 2, 1) := by decide +kernel
theorem dX2_explain_80 : decode cX2_explain 80 = .ok (.getfield 40, 3) := by decide +kernel
theorem dX2_explain_83 : decode cX2_explain 83 = .ok (.iload 7, 2) := by decide +kernel
theorem dX2_explain_85 : decode cX2_explain 85 = .ok (.iadd, 1) := by decide +kernel
theorem dX2_explain_86 : decode cX2_explain 86 = .ok (.iload 8, 2) := by decide +kernel
theorem dX2_explain_88 : decode cX2_explain 88 = .ok (.invokevirtual 43, 3) := by decide +kernel
theorem dX2_explain_91 : decode cX2_explain 91 = .ok (.istore 9, 2) := by decide +kernel
theorem dX2_explain_93 : decode cX2_explain 93 = .ok (.aload_n 0, 1) := by decide +kernel
theorem dX2_explain_94 : decode cX2_explain 94 = .ok (.iload 7, 2) := by decide +kernel
theorem dX2_explain_96 : decode cX2_explain 96 = .ok (.iload 9, 2) := by decide +kernel
theorem dX2_explain_98 : decode cX2_explain 98 = .ok (.aload_n 3, 1) := by decide +kernel
theorem dX2_explain_99 : decode cX2_explain 99 = .ok (.getfield 9, 3) := by decide +kernel
theorem dX2_explain_102 : decode cX2_explain 102 = .ok (.iload 4, 2) := by decide +kernel
theorem dX2_explain_104 : decode cX2_explain 104 = .ok (.iload 7, 2) := by decide +kernel
theorem dX2_explain_106 : decode cX2_explain 106 = .ok (.iadd, 1) := by decide +kernel
theorem dX2_explain_107 : decode cX2_explain 107 = .ok (.iconst 1, 1) := by decide +kernel
theorem dX2_explain_108 : decode cX2_explain 108 = .ok (.iadd, 1) := by decide +kernel
theorem dX2_explain_109 : decode cX2_explain 109 = .ok (.iaload, 1) := by decide +kernel
theorem dX2_explain_110 : decode cX2_explain 110 = .ok (.iload 8, 2) := by decide +kernel
theorem dX2_explain_112 : decode cX2_explain 112 = .ok (.isub, 1) := by decide +kernel
theorem dX2_explain_113 : decode cX2_explain 113 = .ok (.invokevirtual 49, 3) := by decide +kernel
theorem dX2_explain_116 : decode cX2_explain 116 = .ok (.iinc 7 1, 3) := by decide +kernel
theorem dX2_explain_119 : decode cX2_explain 119 = .ok (.goto (-62), 3) := by decide +kernel
theorem dX2_explain_122 : decode cX2_explain 122 = .ok (.return_, 1) := by decide +kernel
set_option maxRecDepth 20000 in
theorem ggX2_addNight_X9_isWithin : GoodIn wsX2_addNight wsX9_isWithin := goodIn_r _ [6] (by decide +kernel) (by decide +kernel)
set_option maxRecDepth 20000 in
theorem gX2_addNight_X9_isWithin_n25 : GoodIn wsX2_addNight (wsX9_isWithin) := ggX2_addNight_X9_isWithin
theorem dX2_addNight_0 : decode cX2_addNight 0 = .ok (.iload_n 3, 1) := by decide +kernel
theorem dX2_addNight_1 : decode cX2_addNight 1 = .ok (.bipush 6, 2) := by decide +kernel
theorem dX2_addNight_3 : decode cX2_addNight 3 = .ok (.invokestatic 25, 3) := by decide +kernel
theorem dX2_addNight_6 : decode cX2_addNight 6 = .ok (.istore 4, 2) := by decide +kernel
theorem dX2_addNight_8 : decode cX2_addNight 8 = .ok (.iconst 0, 1) := by decide +kernel
theorem dX2_addNight_9 : decode cX2_addNight 9 = .ok (.istore 5, 2) := by decide +kernel
theorem dX2_addNight_11 : decode cX2_addNight 11 = .ok (.iconst 1, 1) := by decide +kernel
theorem dX2_addNight_12 : decode cX2_addNight 12 = .ok (.istore 6, 2) := by decide +kernel
theorem dX2_addNight_14 : decode cX2_addNight 14 = .ok (.iload 6, 2) := by decide +kernel
theorem dX2_addNight_16 : decode cX2_addNight 16 = .ok (.iload_n 2, 1) := by decide +kernel
theorem dX2_addNight_17 : decode cX2_addNight 17 = .ok (.if_icmp .gt 24, 3) := by decide +kernel
theorem dX2_addNight_20 : decode cX2_addNight 20 = .ok (.iload_n 3, 1) := by decide +kernel
theorem dX2_addNight_21 : decode cX2_addNight 21 = .ok (.iload 6, 2) := by decide +kernel
theorem dX2_addNight_23 : decode cX2_addNight 23 = .ok (.iadd, 1) := by decide +kernel
theorem dX2_addNight_24 : decode cX2_addNight 24 = .ok (.bipush 6, 2) := by decide +kernel
theorem dX2_addNight_26 : decode cX2_addNight 26 = .ok (.invokestatic 25, 3) := by decide +kernel
theorem dX2_addNight_29 : decode cX2_addNight 29 = .ok (.ifCond .eq 6, 3) := by decide +kernel
theorem dX2_addNight_32 : decode cX2_addNight 32 = .ok (.iinc 5 1, 3) := by decide +kernel
theorem dX2_addNight_35 : decode cX2_addNight 35 = .ok (.iinc 6 1, 3) := by decide +kernel
theorem dX2_addNight_38 : decode cX2_addNight 38 = .ok (.goto (-24), 3) := by decide +kernel
theorem dX2_addNight_41 : decode cX2_addNight 41 = .ok (.aload_n 0, 1) := by decide +kernel
theorem dX2_addNight_42 : decode cX2_addNight 42 = .ok (.dup, 1) := by decide +kernel
theorem dX2_addNight_43 : decode cX2_addNight 43 = .ok (.getfield 29, 3) := by decide +kernel
theorem dX2_addNight_46 : decode cX2_addNight 46 = .ok (.iload 5, 2) := by decide +kernel
theorem dX2_addNight_48 : decode cX2_addNight 48 = .ok (.iload 4, 2) := by decide +kernel
theorem dX2_addNight_50 : decode cX2_addNight 50 = .ok (.ifCond .eq 7, 3) := by decide +kernel
theorem dX2_addNight_53 : decode cX2_addNight 53 = .ok (.iconst 1, 1) := by decide +kernel
theorem dX2_addNight_54 : decode cX2_addNight 54 = .ok (.goto 4, 3) := by decide +kernel
theorem dX2_addNight_57 : decode cX2_addNight 57 = .ok (.iconst 0, 1) := by decide +kernel
theorem dX2_addNight_58 : decode cX2_addNight 58 = .ok (.iadd, 1) := by decide +kernel
theorem dX2_addNight_59 : decode cX2_addNight 59 = .ok (.imul, 1) := by decide +kernel
theorem dX2_addNight_60 : decode cX2_addNight 60 = .ok (.putfield 29, 3) := by decide +kernel
theorem dX2_addNight_63 : decode cX2_addNight 63 = .ok (.iload 4, 2) := by decide +kernel
theorem dX2_addNight_65 : decode cX2_addNight 65 = .ok (.ifCond .ne 15, 3) := by decide +kernel
theorem dX2_addNight_68 : decode cX2_addNight 68 = .ok (.aload_n 0, 1) := by decide +kernel
theorem dX2_addNight_69 : decode cX2_addNight 69 = .ok (.dup, 1) := by decide +kernel
theorem dX2_addNight_70 : decode cX2_addNight 70 = .ok (.getfield 34, 3) := by decide +kernel
theorem dX2_addNight_73 : decode cX2_addNight 73 = .ok (.iconst 1, 1) := by decide +kernel
theorem dX2_addNight_74 : decode cX2_addNight 74 = .ok (.iload_n 1, 1) := by decide +kernel
theorem dX2_addNight_75 : decode cX2_addNight 75 = .ok (.ishl, 1) := by decide +kernel
theorem dX2_addNight_76 : decode cX2_addNight 76 = .ok (.ior, 1) := by decide +kernel
theorem dX2_addNight_77 : decode cX2_addNight 77 = .ok (.putfield 34, 3) := by decide +kernel
theorem dX2_addNight_80 : decode cX2_addNight 80 = .ok (.iload 5, 2) := by decide +kernel
theorem dX2_addNight_82 : decode cX2_addNight 82 = .ok (.ifCond .le 15, 3) := by decide +kernel
theorem dX2_addNight_85 : decode cX2_addNight 85 = .ok (.aload_n 0, 1) := by decide +kernel
theorem dX2_addNight_86 : decode cX2_addNight 86 = .ok (.dup, 1) := by decide +kernel
theorem dX2_addNight_87 : decode cX2_addNight 87 = .ok (.getfield 37, 3) := by decide +kernel
theorem dX2_addNight_90 : decode cX2_addNight 90 = .ok (.iconst 1, 1) := by decide +kernel
theorem dX2_addNight_91 : decode cX2_addNight 91 = .ok (.iload_n 1, 1) := by decide +kernel
theorem dX2_addNight_92 : decode cX2_addNight 92 = .ok (.ishl, 1) := by decide +kernel
theorem dX2_addNight_93 : decode cX2_addNight 93 = .ok (.ior, 1) := by decide +kernel
theorem dX2_addNight_94 : decode cX2_addNight 94 = .ok (.putfield 37, 3) := by decide +kernel
theorem dX2_addNight_97 : decode cX2_addNight 97 = .ok (.return_, 1) := by decide +kernel
theorem dX3_init_0 : decode cX3_init 0 = .ok (.aload_n 0, 1) := by decide +kernel
theorem dX3_init_1 : decode cX3_init 1 = .ok (.invokespecial 3, 3) := by decide +kernel
theorem dX3_init_4 : decode cX3_init 4 = .ok (.aload_n 0, 1) := by decide +kernel
theorem dX3_init_5 : decode cX3_init 5 = .ok (.bipush 8, 2) := by decide +kernel
theorem dX3_init_7 : decode cX3_init 7 = .ok (.newarray .int, 2) := by decide +kernel
theorem dX3_init_9 : decode cX3_init 9 = .ok (.putfield 9, 3) := by decide +kernel
theorem dX3_init_12 : decode cX3_init 12 = .ok (.aload_n 0, 1) := by decide +kernel
theorem dX3_init_13 : decode cX3_init 13 = .ok (.iconst 5, 1) := by decide +kernel
theorem dX3_init_14 : decode cX3_init 14 = .ok (.newarray .int, 2) := by decide +kernel
theorem dX3_init_16 : decode cX3_init 16 = .ok (.putfield 15, 3) := by decide +kernel
theorem dX3_init_19 : decode cX3_init 19 = .ok (.aload_n 0, 1) := by decide +kernel
theorem dX3_init_20 : decode cX3_init 20 = .ok (.iconst 5, 1) := by decide +kernel
theorem dX3_init_21 : decode cX3_init 21 = .ok (.newarray .int, 2) := by decide +kernel
theorem dX3_init_23 : decode cX3_init 23 = .ok (.putfield 18, 3) := by decide +kernel
theorem dX3_init_26 : decode cX3_init 26 = .ok (.aload_n 0, 1) := by decide +kernel
theorem dX3_init_27 : decode cX3_init 27 = .ok (.iconst 5, 1) := by decide +kernel
theorem dX3_init_28 : decode cX3_init 28 = .ok (.newarray .int, 2) := by decide +kernel
theorem dX3_init_30 : decode cX3_init 30 = .ok (.putfield 21, 3) := by decide +kernel
theorem dX3_init_33 : decode cX3_init 33 = .ok (.return_, 1) := by decide +kernel
theorem dX3_become_0 : decode cX3_become 0 = .ok (.aload_n 0, 1) := by decide +kernel
theorem dX3_become_1 : decode cX3_become 1 = .ok (.aload_n 1, 1) := by decide +kernel
theorem dX3_become_2 : decode cX3_become 2 = .ok (.getfield 24, 3) := by decide +kernel
theorem dX3_become_5 : decode cX3_become 5 = .ok (.putfield 24, 3) := by decide +kernel
theorem dX3_become_8 : decode cX3_become 8 = .ok (.aload_n 0, 1) := by decide +kernel
theorem dX3_become_9 : decode cX3_become 9 = .ok (.aload_n 1, 1) := by decide +kernel
theorem dX3_become_10 : decode cX3_become 10 = .ok (.getfield 28, 3) := by decide +kernel
theorem dX3_become_13 : decode cX3_become 13 = .ok (.putfield 28, 3) := by decide +kernel
theorem dX3_become_16 : decode cX3_become 16 = .ok (.aload_n 0, 1) := by decide +kernel
theorem dX3_become_17 : decode cX3_become 17 = .ok (.aload_n 1, 1) := by decide +kernel
theorem dX3_become_18 : decode cX3_become 18 = .ok (.getfield 31, 3) := by decide +kernel
theorem dX3_become_21 : decode cX3_become 21 = .ok (.putfield 31, 3) := by decide +kernel
theorem dX3_become_24 : decode cX3_become 24 = .ok (.aload_n 0, 1) := by decide +kernel
theorem dX3_become_25 : decode cX3_become 25 = .ok (.aload_n 1, 1) := by decide +kernel
theorem dX3_become_26 : decode cX3_become 26 = .ok (.getfield 34, 3) := by decide +kernel
theorem dX3_become_29 : decode cX3_become 29 = .ok (.putfield 34, 3) := by decide +kernel
theorem dX3_become_32 : decode cX3_become 32 = .ok (.aload_n 0, 1) := by decide +kernel
theorem dX3_become_33 : decode cX3_become 33 = .ok (.aload_n 1, 1) := by decide +kernel
theorem dX3_become_34 : decode cX3_become 34 = .ok (.getfield 37, 3) := by decide +kernel
theorem dX3_become_37 : decode cX3_become 37 = .ok (.putfield 37, 3) := by decide +kernel
theorem dX3_become_40 : decode cX3_become 40 = .ok (.aload_n 0, 1) := by decide +kernel
theorem dX3_become_41 : decode cX3_become 41 = .ok (.aload_n 1, 1) := by decide +kernel
theorem dX3_become_42 : decode cX3_become 42 = .ok (.getfield 40, 3) := by decide +kernel
theorem dX3_become_45 : decode cX3_become 45 = .ok (.putfield 40, 3) := by decide +kernel
theorem dX3_become_48 : decode cX3_become 48 = .ok (.aload_n 0, 1) := by decide +kernel
theorem dX3_become_49 : decode cX3_become 49 = .ok (.aload_n 1, 1) := by decide +kernel
theorem dX3_become_50 : decode cX3_become 50 = .ok (.getfield 43, 3) := by decide +kernel
theorem dX3_become_53 : decode cX3_become 53 = .ok (.putfield 43, 3) := by decide +kernel
theorem dX3_become_56 : decode cX3_become 56 = .ok (.aload_n 0, 1) := by decide +kernel
theorem dX3_become_57 : decode cX3_become 57 = .ok (.aload_n 1, 1) := by decide +kernel
theorem dX3_become_58 : decode cX3_become 58 = .ok (.getfield 46, 3) := by decide +kernel
theorem dX3_become_61 : decode cX3_become 61 = .ok (.putfield 46, 3) := by decide +kernel
theorem dX3_become_64 : decode cX3_become 64 = .ok (.aload_n 1, 1) := by decide +kernel
theorem dX3_become_65 : decode cX3_become 65 = .ok (.getfield 9, 3) := by decide +kernel
theorem dX3_become_68 : decode cX3_become 68 = .ok (.iconst 0, 1) := by decide +kernel
theorem dX3_become_69 : decode cX3_become 69 = .ok (.aload_n 0, 1) := by decide +kernel
theorem dX3_become_70 : decode cX3_become 70 = .ok (.getfield 9, 3) := by decide +kernel
theorem dX3_become_73 : decode cX3_become 73 = .ok (.iconst 0, 1) := by decide +kernel
theorem dX3_become_74 : decode cX3_become 74 = .ok (.bipush 8, 2) := by decide +kernel
theorem dX3_become_76 : decode cX3_become 76 = .ok (.invokestatic 49, 3) := by decide +kernel
theorem dX3_become_79 : decode cX3_become 79 = .ok (.aload_n 1, 1) := by decide +kernel
theorem dX3_become_80 : decode cX3_become 80 = .ok (.getfield 15, 3) := by decide +kernel
theorem dX3_become_83 : decode cX3_become 83 = .ok (.iconst 0, 1) := by decide +kernel
theorem dX3_become_84 : decode cX3_become 84 = .ok (.aload_n 0, 1) := by decide +kernel
theorem dX3_become_85 : decode cX3_become 85 = .ok (.getfield 15, 3) := by decide +kernel
theorem dX3_become_88 : decode cX3_become 88 = .ok (.iconst 0, 1) := by decide +kernel
theorem dX3_become_89 : decode cX3_become 89 = .ok (.iconst 5, 1) := by decide +kernel
theorem dX3_become_90 : decode cX3_become 90 = .ok (.invokestatic 49, 3) := by decide +kernel
theorem dX3_become_93 : decode cX3_become 93 = .ok (.aload_n 1, 1) := by decide +kernel
theorem dX3_become_94 : decode cX3_become 94 = .ok (.getfield 18, 3) := by decide +kernel
theorem dX3_become_97 : decode cX3_become 97 = .ok (.iconst 0, 1) := by decide +kernel
theorem dX3_become_98 : decode cX3_become 98 = .ok (.aload_n 0, 1) := by decide +kernel
theorem dX3_become_99 : decode cX3_become 99 = .ok (.getfield 18, 3) := by decide +kernel
theorem dX3_become_102 : decode cX3_become 102 = .ok (.iconst 0, 1) := by decide +kernel
theorem dX3_become_103 : decode cX3_become 103 = .ok (.iconst 5, 1) := by decide +kernel
theorem dX3_become_104 : decode cX3_become 104 = .ok (.invokestatic 49, 3) := by decide +kernel
theorem dX3_become_107 : decode cX3_become 107 = .ok (.aload_n 1, 1) := by decide +kernel
theorem dX3_become_108 : decode cX3_become 108 = .ok (.getfield 21, 3) := by decide +kernel
theorem dX3_become_111 : decode cX3_become 111 = .ok (.iconst 0, 1) := by decide +kernel
theorem dX3_become_112 : decode cX3_become 112 = .ok (.aload_n 0, 1) := by decide +kernel
theorem dX3_become_113 : decode cX3_become 113 = .ok (.getfield 21, 3) := by decide +kernel
theorem dX3_become_116 : decode cX3_become 116 = .ok (.iconst 0, 1) := by decide +kernel
theorem dX3_become_117 : decode cX3_become 117 = .ok (.iconst 5, 1) := by decide +kernel
theorem dX3_become_118 : decode cX3_become 118 = .ok (.invokestatic 49, 3) := by decide +kernel
theorem dX3_become_121 : decode cX3_become 121 = .ok (.return_, 1) := by decide +kernel
theorem dX3_colourAt_0 : decode cX3_colourAt 0 = .ok (.iload_n 1, 1) := by decide +kernel
theorem dX3_colourAt_1 : decode cX3_colourAt 1 = .ok (.ifCond .lt 24, 3) := by decide +kernel
theorem dX3_colourAt_4 : decode cX3_colourAt 4 = .ok (.aload_n 0, 1) := by decide +kernel
theorem dX3_colourAt_5 : decode cX3_colourAt 5 = .ok (.getfield 43, 3) := by decide +kernel
theorem dX3_colourAt_8 : decode cX3_colourAt 8 = .ok (.ifCond .le 17, 3) := by decide +kernel
theorem dX3_colourAt_11 : decode cX3_colourAt 11 = .ok (.aload_n 0, 1) := by decide +kernel
theorem dX3_colourAt_12 : decode cX3_colourAt 12 = .ok (.getfield 9, 3) := by decide +kernel
theorem dX3_colourAt_15 : decode cX3_colourAt 15 = .ok (.iload_n 1, 1) := by decide +kernel
theorem dX3_colourAt_16 : decode cX3_colourAt 16 = .ok (.aload_n 0, 1) := by decide +kernel
theorem dX3_colourAt_17 : decode cX3_colourAt 17 = .ok (.getfield 43, 3) := by decide +kernel
theorem dX3_colourAt_20 : decode cX3_colourAt 20 = .ok (.irem, 1) := by decide +kernel
theorem dX3_colourAt_21 : decode cX3_colourAt 21 = .ok (.iaload, 1) := by decide +kernel
theorem dX3_colourAt_22 : decode cX3_colourAt 22 = .ok (.goto 5, 3) := by decide +kernel
theorem dX3_colourAt_25 : decode cX3_colourAt 25 = .ok (.ldc 55, 2) := by decide +kernel
theorem dX3_colourAt_27 : decode cX3_colourAt 27 = .ok (.ireturn, 1) := by decide +kernel
set_option maxRecDepth 20000 in
theorem ggX3_mostUndone_X3_divides : GoodIn wsX3_mostUndone wsX3_divides := goodIn_r _ [10] (by decide +kernel) (by decide +kernel)
set_option maxRecDepth 20000 in
theorem gX3_mostUndone_X3_divides : GoodIn wsX3_mostUndone (va_wsS RX3 56 yX3_divides wsX3_divides) := goodIn_app (goodIn_of _ (by decide +kernel)) ggX3_mostUndone_X3_divides
theorem dX3_mostUndone_0 : decode cX3_mostUndone 0 = .ok (.aload_n 0, 1) := by decide +kernel
theorem dX3_mostUndone_1 : decode cX3_mostUndone 1 = .ok (.getfield 34, 3) := by decide +kernel
theorem dX3_mostUndone_4 : decode cX3_mostUndone 4 = .ok (.iload_n 1, 1) := by decide +kernel
theorem dX3_mostUndone_5 : decode cX3_mostUndone 5 = .ok (.invokestatic 56, 3) := by decide +kernel
theorem dX3_mostUndone_8 : decode cX3_mostUndone 8 = .ok (.ifCond .eq 7, 3) := by decide +kernel
theorem dX3_mostUndone_11 : decode cX3_mostUndone 11 = .ok (.iconst 0, 1) := by decide +kernel
theorem dX3_mostUndone_12 : decode cX3_mostUndone 12 = .ok (.goto 11, 3) := by decide +kernel
theorem dX3_mostUndone_15 : decode cX3_mostUndone 15 = .ok (.aload_n 0, 1) := by decide +kernel
theorem dX3_mostUndone_16 : decode cX3_mostUndone 16 = .ok (.getfield 31, 3) := by decide +kernel
theorem dX3_mostUndone_19 : decode cX3_mostUndone 19 = .ok (.iload_n 2, 1) := by decide +kernel
theorem dX3_mostUndone_20 : decode cX3_mostUndone 20 = .ok (.invokestatic 60, 3) := by decide +kernel
theorem dX3_mostUndone_23 : decode cX3_mostUndone 23 = .ok (.ireturn, 1) := by decide +kernel
set_option maxRecDepth 20000 in
theorem ggX3_lookTheSame_X3_colourAt : GoodIn wsX3_lookTheSame wsX3_colourAt := goodIn_r _ [5, 6, 7, 8, 9, 10, 11, 12, 13, 14, 15, 16, 17, 18, 19, 20] (by decide +kernel) (by decide +kernel)
set_option maxRecDepth 20000 in
theorem gX3_lookTheSame_X3_colourAt : GoodIn wsX3_lookTheSame (wsV RX3 66 RX3 yX3_colourAt wsX3_colourAt) := goodIn_app (goodIn_of _ (by decide +kernel)) ggX3_lookTheSame_X3_colourAt
theorem dX3_lookTheSame_0 : decode cX3_lookTheSame 0 = .ok (.iconst 1, 1) := by decide +kernel
theorem dX3_lookTheSame_1 : decode cX3_lookTheSame 1 = .ok (.istore 4, 2) := by decide +kernel
theorem dX3_lookTheSame_3 : decode cX3_lookTheSame 3 = .ok (.iload 4, 2) := by decide +kernel
theorem dX3_lookTheSame_5 : decode cX3_lookTheSame 5 = .ok (.iload_n 3, 1) := by decide +kernel
theorem dX3_lookTheSame_6 : decode cX3_lookTheSame 6 = .ok (.if_icmp .gt 30, 3) := by decide +kernel
theorem dX3_lookTheSame_9 : decode cX3_lookTheSame 9 = .ok (.aload_n 0, 1) := by decide +kernel
theorem dX3_lookTheSame_10 : decode cX3_lookTheSame 10 = .ok (.iload_n 1, 1) := by decide +kernel
theorem dX3_lookTheSame_11 : decode cX3_lookTheSame 11 = .ok (.iload 4, 2) := by decide +kernel
theorem dX3_lookTheSame_13 : decode cX3_lookTheSame 13 = .ok (.isub, 1) := by decide +kernel
theorem dX3_lookTheSame_14 : decode cX3_lookTheSame 14 = .ok (.invokevirtual 66, 3) := by decide +kernel
theorem dX3_lookTheSame_17 : decode cX3_lookTheSame 17 = .ok (.aload_n 0, 1) := by decide +kernel
theorem dX3_lookTheSame_18 : decode cX3_lookTheSame 18 = .ok (.iload_n 2, 1) := by decide +kernel
theorem dX3_lookTheSame_19 : decode cX3_lookTheSame 19 = .ok (.iload 4, 2) := by decide +kernel
theorem dX3_lookTheSame_21 : decode cX3_lookTheSame 21 = .ok (.isub, 1) := by decide +kernel
theorem dX3_lookTheSame_22 : decode cX3_lookTheSame 22 = .ok (.invokevirtual 66, 3) := by decide +kernel
theorem dX3_lookTheSame_25 : decode cX3_lookTheSame 25 = .ok (.if_icmp .eq 5, 3) := by decide +kernel
theorem dX3_lookTheSame_28 : decode cX3_lookTheSame 28 = .ok (.iconst 0, 1) := by decide +kernel
theorem dX3_lookTheSame_29 : decode cX3_lookTheSame 29 = .ok (.ireturn, 1) := by decide +kernel
theorem dX3_lookTheSame_30 : decode cX3_lookTheSame 30 = .ok (.iinc 4 1, 3) := by decide +kernel
theorem dX3_lookTheSame_33 : decode cX3_lookTheSame 33 = .ok (.goto (-30), 3) := by decide +kernel
theorem dX3_lookTheSame_36 : decode cX3_lookTheSame 36 = .ok (.iconst 1, 1) := by decide +kernel
theorem dX3_lookTheSame_37 : decode cX3_lookTheSame 37 = .ok (.ireturn, 1) := by decide +kernel
set_option maxRecDepth 20000 in
theorem ggX3_lengthsThatLookAs_X3_lookTheSame : GoodIn wsX3_lengthsThatLookAs wsX3_lookTheSame := goodIn_r _ [6, 7, 8, 9, 5, 10, 11, 12, 13, 14, 15, 16, 17, 18, 19, 20, 21, 22, 23, 24, 25] (by decide +kernel) (by decide +kernel)
set_option maxRecDepth 20000 in
theorem gX3_lengthsThatLookAs_X3_lookTheSame : GoodIn wsX3_lengthsThatLookAs (wsV RX3 70 RX3 yX3_lookTheSame wsX3_lookTheSame) := goodIn_app (goodIn_of _ (by decide +kernel)) ggX3_lengthsThatLookAs_X3_lookTheSame
theorem dX3_lengthsThatLookAs_0 : decode cX3_lengthsThatLookAs 0 = .ok (.iconst 0, 1) := by decide +kernel
theorem dX3_lengthsThatLookAs_1 : decode cX3_lengthsThatLookAs 1 = .ok (.istore_n 3, 1) := by decide +kernel
theorem dX3_lengthsThatLookAs_2 : decode cX3_lengthsThatLookAs 2 = .ok (.iload_n 2, 1) := by decide +kernel
theorem dX3_lengthsThatLookAs_3 : decode cX3_lengthsThatLookAs 3 = .ok (.istore 4, 2) := by decide +kernel
theorem dX3_lengthsThatLookAs_5 : decode cX3_lengthsThatLookAs 5 = .ok (.iload 4, 2) := by decide +kernel
theorem dX3_lengthsThatLookAs_7 : decode cX3_lengthsThatLookAs 7 = .ok (.aload_n 0, 1) := by decide +kernel
theorem dX3_lengthsThatLookAs_8 : decode cX3_lengthsThatLookAs 8 = .ok (.getfield 24, 3) := by decide +kernel
theorem dX3_lengthsThatLookAs_11 : decode cX3_lengthsThatLookAs 11 = .ok (.if_icmp .gt 23, 3) := by decide +kernel
theorem dX3_lengthsThatLookAs_14 : decode cX3_lengthsThatLookAs 14 = .ok (.aload_n 0, 1) := by decide +kernel
theorem dX3_lengthsThatLookAs_15 : decode cX3_lengthsThatLookAs 15 = .ok (.iload_n 1, 1) := by decide +kernel
theorem dX3_lengthsThatLookAs_16 : decode cX3_lengthsThatLookAs 16 = .ok (.iload 4, 2) := by decide +kernel
theorem dX3_lengthsThatLookAs_18 : decode cX3_lengthsThatLookAs 18 = .ok (.iload_n 2, 1) := by decide +kernel
theorem dX3_lengthsThatLookAs_19 : decode cX3_lengthsThatLookAs 19 = .ok (.invokevirtual 70, 3) := by decide +kernel
theorem dX3_lengthsThatLookAs_22 : decode cX3_lengthsThatLookAs 22 = .ok (.ifCond .eq 6, 3) := by decide +kernel
theorem dX3_lengthsThatLookAs_25 : decode cX3_lengthsThatLookAs 25 = .ok (.iinc 3 1, 3) := by decide +kernel
theorem dX3_lengthsThatLookAs_28 : decode cX3_lengthsThatLookAs 28 = .ok (.iinc 4 1, 3) := by decide +kernel
theorem dX3_lengthsThatLookAs_31 : decode cX3_lengthsThatLookAs 31 = .ok (.goto (-26), 3) := by decide +kernel
theorem dX3_lengthsThatLookAs_34 : decode cX3_lengthsThatLookAs 34 = .ok (.iload_n 3, 1) := by decide +kernel
theorem dX3_lengthsThatLookAs_35 : decode cX3_lengthsThatLookAs 35 = .ok (.ireturn, 1) := by decide +kernel
theorem dX3_divides_0 : decode cX3_divides 0 = .ok (.iload_n 0, 1) := by decide +kernel
theorem dX3_divides_1 : decode cX3_divides 1 = .ok (.ifCond .eq 13, 3) := by decide +kernel
theorem dX3_divides_4 : decode cX3_divides 4 = .ok (.iload_n 1, 1) := by decide +kernel
theorem dX3_divides_5 : decode cX3_divides 5 = .ok (.iload_n 0, 1) := by decide +kernel
theorem dX3_divides_6 : decode cX3_divides 6 = .ok (.irem, 1) := by decide +kernel
theorem dX3_divides_7 : decode cX3_divides 7 = .ok (.ifCond .ne 7, 3) := by decide +kernel
theorem dX3_divides_10 : decode cX3_divides 10 = .ok (.iconst 1, 1) := by decide +kernel
theorem dX3_divides_11 : decode cX3_divides 11 = .ok (.goto 4, 3) := by decide +kernel
theorem dX3_divides_14 : decode cX3_divides 14 = .ok (.iconst 0, 1) := by decide +kernel
theorem dX3_divides_15 : decode cX3_divides 15 = .ok (.ireturn, 1) := by decide +kernel
set_option maxRecDepth 20000 in
theorem ggX4_init_X1_init : GoodIn wsX4_init wsX1_init := goodIn_r _ [9, 10, 2, 3, 11, 12, 13, 17, 18, 19, 20, 21, 22, 23, 24, 25, 26] (by decide +kernel) (by decide +kernel)
set_option maxRecDepth 20000 in
theorem gX4_init_X1_init_n17 : GoodIn wsX4_init (wsX1_init) := ggX4_init_X1_init
theorem dX4_init_0 : decode cX4_init 0 = .ok (.aload_n 0, 1) := by decide +kernel
theorem dX4_init_1 : decode cX4_init 1 = .ok (.invokespecial 3, 3) := by decide +kernel
theorem dX4_init_4 : decode cX4_init 4 = .ok (.aload_n 0, 1) := by decide +kernel
theorem dX4_init_5 : decode cX4_init 5 = .ok (.bipush 24, 2) := by decide +kernel
theorem dX4_init_7 : decode cX4_init 7 = .ok (.anewarray 9, 3) := by decide +kernel
theorem dX4_init_10 : decode cX4_init 10 = .ok (.putfield 11, 3) := by decide +kernel
theorem dX4_init_13 : decode cX4_init 13 = .ok (.iconst 0, 1) := by decide +kernel
theorem dX4_init_14 : decode cX4_init 14 = .ok (.istore_n 1, 1) := by decide +kernel
theorem dX4_init_15 : decode cX4_init 15 = .ok (.iload_n 1, 1) := by decide +kernel
theorem dX4_init_16 : decode cX4_init 16 = .ok (.bipush 24, 2) := by decide +kernel
theorem dX4_init_18 : decode cX4_init 18 = .ok (.if_icmp .ge 22, 3) := by decide +kernel
theorem dX4_init_21 : decode cX4_init 21 = .ok (.aload_n 0, 1) := by decide +kernel
theorem dX4_init_22 : decode cX4_init 22 = .ok (.getfield 11, 3) := by decide +kernel
theorem dX4_init_25 : decode cX4_init 25 = .ok (.iload_n 1, 1) := by decide +kernel
theorem dX4_init_26 : decode cX4_init 26 = .ok (.new 9, 3) := by decide +kernel
theorem dX4_init_29 : decode cX4_init 29 = .ok (.dup, 1) := by decide +kernel
theorem dX4_init_30 : decode cX4_init 30 = .ok (.invokespecial 17, 3) := by decide +kernel
theorem dX4_init_33 : decode cX4_init 33 = .ok (.aastore, 1) := by decide +kernel
theorem dX4_init_34 : decode cX4_init 34 = .ok (.iinc 1 1, 3) := by decide +kernel
theorem dX4_init_37 : decode cX4_init 37 = .ok (.goto (-22), 3) := by decide +kernel
theorem dX4_init_40 : decode cX4_init 40 = .ok (.return_, 1) := by decide +kernel
theorem dX4_forget_0 : decode cX4_forget 0 = .ok (.aload_n 0, 1) := by decide +kernel
theorem dX4_forget_1 : decode cX4_forget 1 = .ok (.iconst 0, 1) := by decide +kernel
theorem dX4_forget_2 : decode cX4_forget 2 = .ok (.putfield 18, 3) := by decide +kernel
theorem dX4_forget_5 : decode cX4_forget 5 = .ok (.aload_n 0, 1) := by decide +kernel
theorem dX4_forget_6 : decode cX4_forget 6 = .ok (.iconst 0, 1) := by decide +kernel
theorem dX4_forget_7 : decode cX4_forget 7 = .ok (.putfield 22, 3) := by decide +kernel
theorem dX4_forget_10 : decode cX4_forget 10 = .ok (.return_, 1) := by decide +kernel
set_option maxRecDepth 20000 in
theorem ggX4_keep_X1_become : GoodIn wsX4_keep wsX1_become := goodIn_r _ [12, 13, 14, 15, 16, 17, 18, 19, 20, 21, 22, 23, 24, 25, 26, 30, 31, 32, 33, 34, 35, 36, 37, 38, 39] (by decide +kernel) (by decide +kernel)
set_option maxRecDepth 20000 in
theorem gX4_keep_X1_become : GoodIn wsX4_keep (wsV RX4 25 RX1 yX1_become wsX1_become) := goodIn_app (goodIn_of _ (by decide +kernel)) ggX4_keep_X1_become
theorem dX4_keep_0 : decode cX4_keep 0 = .ok (.aload_n 0, 1) := by decide +kernel
theorem dX4_keep_1 : decode cX4_keep 1 = .ok (.getfield 11, 3) := by decide +kernel
theorem dX4_keep_4 : decode cX4_keep 4 = .ok (.aload_n 0, 1) := by decide +kernel
theorem dX4_keep_5 : decode cX4_keep 5 = .ok (.getfield 18, 3) := by decide +kernel
theorem dX4_keep_8 : decode cX4_keep 8 = .ok (.aaload, 1) := by decide +kernel
theorem dX4_keep_9 : decode cX4_keep 9 = .ok (.aload_n 1, 1) := by decide +kernel
theorem dX4_keep_10 : decode cX4_keep 10 = .ok (.invokevirtual 25, 3) := by decide +kernel
theorem dX4_keep_13 : decode cX4_keep 13 = .ok (.aload_n 0, 1) := by decide +kernel
theorem dX4_keep_14 : decode cX4_keep 14 = .ok (.aload_n 0, 1) := by decide +kernel
theorem dX4_keep_15 : decode cX4_keep 15 = .ok (.getfield 18, 3) := by decide +kernel
theorem dX4_keep_18 : decode cX4_keep 18 = .ok (.iconst 1, 1) := by decide +kernel
theorem dX4_keep_19 : decode cX4_keep 19 = .ok (.iadd, 1) := by decide +kernel
theorem dX4_keep_20 : decode cX4_keep 20 = .ok (.bipush 24, 2) := by decide +kernel
theorem dX4_keep_22 : decode cX4_keep 22 = .ok (.if_icmp .ge 12, 3) := by decide +kernel
theorem dX4_keep_25 : decode cX4_keep 25 = .ok (.aload_n 0, 1) := by decide +kernel
theorem dX4_keep_26 : decode cX4_keep 26 = .ok (.getfield 18, 3) := by decide +kernel
theorem dX4_keep_29 : decode cX4_keep 29 = .ok (.iconst 1, 1) := by decide +kernel
theorem dX4_keep_30 : decode cX4_keep 30 = .ok (.iadd, 1) := by decide +kernel
theorem dX4_keep_31 : decode cX4_keep 31 = .ok (.goto 4, 3) := by decide +kernel
theorem dX4_keep_34 : decode cX4_keep 34 = .ok (.iconst 0, 1) := by decide +kernel
theorem dX4_keep_35 : decode cX4_keep 35 = .ok (.putfield 18, 3) := by decide +kernel
theorem dX4_keep_38 : decode cX4_keep 38 = .ok (.aload_n 0, 1) := by decide +kernel
theorem dX4_keep_39 : decode cX4_keep 39 = .ok (.aload_n 0, 1) := by decide +kernel
theorem dX4_keep_40 : decode cX4_keep 40 = .ok (.getfield 22, 3) := by decide +kernel
theorem dX4_keep_43 : decode cX4_keep 43 = .ok (.iconst 1, 1) := by decide +kernel
theorem dX4_keep_44 : decode cX4_keep 44 = .ok (.iadd, 1) := by decide +kernel
theorem dX4_keep_45 : decode cX4_keep 45 = .ok (.bipush 24, 2) := by decide +kernel
theorem dX4_keep_47 : decode cX4_keep 47 = .ok (.invokestatic 29, 3) := by decide +kernel
theorem dX4_keep_50 : decode cX4_keep 50 = .ok (.putfield 22, 3) := by decide +kernel
theorem dX4_keep_53 : decode cX4_keep 53 = .ok (.return_, 1) := by decide +kernel
set_option maxRecDepth 20000 in
theorem ggX4_takeBack_X1_become : GoodIn wsX4_takeBack wsX1_become := goodIn_r _ [8, 9, 10, 11, 12, 13, 14, 15, 16, 17, 18, 19, 20, 21, 22, 26, 27, 28, 29, 30, 31, 32, 33, 34, 35] (by decide +kernel) (by decide +kernel)
set_option maxRecDepth 20000 in
theorem gX4_takeBack_X1_become : GoodIn wsX4_takeBack (wsV RX4 25 RX1 yX1_become wsX1_become) := goodIn_app (goodIn_of _ (by decide +kernel)) ggX4_takeBack_X1_become
theorem dX4_takeBack_0 : decode cX4_takeBack 0 = .ok (.aload_n 0, 1) := by decide +kernel
theorem dX4_takeBack_1 : decode cX4_takeBack 1 = .ok (.aload_n 0, 1) := by decide +kernel
theorem dX4_takeBack_2 : decode cX4_takeBack 2 = .ok (.getfield 18, 3) := by decide +kernel
theorem dX4_takeBack_5 : decode cX4_takeBack 5 = .ok (.ifCond .le 12, 3) := by decide +kernel
theorem dX4_takeBack_8 : decode cX4_takeBack 8 = .ok (.aload_n 0, 1) := by decide +kernel
theorem dX4_takeBack_9 : decode cX4_takeBack 9 = .ok (.getfield 18, 3) := by decide +kernel
theorem dX4_takeBack_12 : decode cX4_takeBack 12 = .ok (.iconst 1, 1) := by decide +kernel
theorem dX4_takeBack_13 : decode cX4_takeBack 13 = .ok (.isub, 1) := by decide +kernel
theorem dX4_takeBack_14 : decode cX4_takeBack 14 = .ok (.goto 5, 3) := by decide +kernel
theorem dX4_takeBack_17 : decode cX4_takeBack 17 = .ok (.bipush 23, 2) := by decide +kernel
theorem dX4_takeBack_19 : decode cX4_takeBack 19 = .ok (.putfield 18, 3) := by decide +kernel
theorem dX4_takeBack_22 : decode cX4_takeBack 22 = .ok (.aload_n 0, 1) := by decide +kernel
theorem dX4_takeBack_23 : decode cX4_takeBack 23 = .ok (.dup, 1) := by decide +kernel
theorem dX4_takeBack_24 : decode cX4_takeBack 24 = .ok (.getfield 22, 3) := by decide +kernel
theorem dX4_takeBack_27 : decode cX4_takeBack 27 = .ok (.iconst 1, 1) := by decide +kernel
theorem dX4_takeBack_28 : decode cX4_takeBack 28 = .ok (.isub, 1) := by decide +kernel
theorem dX4_takeBack_29 : decode cX4_takeBack 29 = .ok (.putfield 22, 3) := by decide +kernel
theorem dX4_takeBack_32 : decode cX4_takeBack 32 = .ok (.aload_n 1, 1) := by decide +kernel
theorem dX4_takeBack_33 : decode cX4_takeBack 33 = .ok (.aload_n 0, 1) := by decide +kernel
theorem dX4_takeBack_34 : decode cX4_takeBack 34 = .ok (.getfield 11, 3) := by decide +kernel
theorem dX4_takeBack_37 : decode cX4_takeBack 37 = .ok (.aload_n 0, 1) := by decide +kernel
theorem dX4_takeBack_38 : decode cX4_takeBack 38 = .ok (.getfield 18, 3) := by decide +kernel
theorem dX4_takeBack_41 : decode cX4_takeBack 41 = .ok (.aaload, 1) := by decide +kernel
theorem dX4_takeBack_42 : decode cX4_takeBack 42 = .ok (.invokevirtual 25, 3) := by decide +kernel
theorem dX4_takeBack_45 : decode cX4_takeBack 45 = .ok (.return_, 1) := by decide +kernel
theorem dX5_init_0 : decode cX5_init 0 = .ok (.aload_n 0, 1) := by decide +kernel
theorem dX5_init_1 : decode cX5_init 1 = .ok (.invokespecial 3, 3) := by decide +kernel
theorem dX5_init_4 : decode cX5_init 4 = .ok (.aload_n 0, 1) := by decide +kernel
