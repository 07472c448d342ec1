def RL : String := "LayeredChartersLaw"
abbrev cL_cell : ByteArray := method_2_code
def yL_cell : MethodName := ⟨RL, "cell", "([II)I"⟩
abbrev cL_low : ByteArray := method_3_code
def yL_low : MethodName := ⟨RL, "low", "(II)I"⟩
abbrev cL_change : ByteArray := method_4_code
def yL_change : MethodName := ⟨RL, "change", "(LLayeredCharters;[IIII)Z"⟩
abbrev cL_acts : ByteArray := method_5_code
def yL_acts : MethodName := ⟨RL, "acts", "(LLayeredCharters;[III)Z"⟩
abbrev cL_fits : ByteArray := method_6_code
def yL_fits : MethodName := ⟨RL, "fits", "([III)Z"⟩
abbrev cL_why : ByteArray := method_7_code
def yL_why : MethodName := ⟨RL, "why", "(LLayeredCharters;IIII)I"⟩
abbrev cL_read : ByteArray := method_8_code
def yL_read : MethodName := ⟨RL, "read", "(LLayeredCharters;I[I)V"⟩
abbrev cL_holds : ByteArray := method_9_code
def yL_holds : MethodName := ⟨RL, "holds", "(LLayeredCharters;[II)Z"⟩
abbrev cL_tries : ByteArray := method_10_code
def yL_tries : MethodName := ⟨RL, "tries", "(LLayeredCharters;I)Z"⟩
abbrev cL_law : ByteArray := code
def yL_law : MethodName := ⟨RL, "law", "([I)Z"⟩
def wsL_cell : List Cond := .code yL_cell cL_cell 2 (some .int) :: ([.constant RL 7 (40503)])
def wsL_low : List Cond := .code yL_low cL_low 2 (some .int) :: ([.constant RL 8 (2147483647)])
def wsL_acts_r1 : List Cond := [Cond.methodLink RL 44 yX4_member, Cond.instanceMethod yX4_member, Cond.selects RX4 yX4_member yX4_member, Cond.initialized RX4, Cond.code yX4_member cX4_member 3 (some .int), Cond.fieldLink RX4 12 "LayeredCharters" "now" "LLayeredCharters$State;", Cond.fieldLink RX4 105 "LayeredCharters$State" "guild" "LLayeredCharters$Guild;", Cond.fieldLink RX4 126 "LayeredCharters$Guild" "crafts" "[I", Cond.fieldLink RX4 120 "LayeredCharters$Guild" "ranks" "[I", Cond.fieldLink RX4 116 "LayeredCharters$Guild" "done" "[I", Cond.fieldLink RX4 168 "LayeredCharters$Guild" "refused" "[I", Cond.methodLink RX4 115 yX0_has, Cond.instanceMethod yX0_has, Cond.selects RX0 yX0_has yX0_has, Cond.initialized RX0, Cond.code yX0_has cX0_has 2 (some .boolean), Cond.fieldLink RX0 27 "LayeredCharters$Guild" "size" "I", Cond.methodLink RX4 165 yX4_deedsAllowed, Cond.instanceMethod yX4_deedsAllowed, Cond.selects RX4 yX4_deedsAllowed yX4_deedsAllowed, Cond.code yX4_deedsAllowed cX4_deedsAllowed 3 (some .int), Cond.fieldLink RX4 52 "LayeredCharters$State" "rules" "LLayeredCharters$Rules;", Cond.methodLink RX4 221 yX2_allowedPairs, Cond.instanceMethod yX2_allowedPairs]
def wsL_acts_r2 : List Cond := [Cond.selects RX2 yX2_allowedPairs yX2_allowedPairs, Cond.initialized RX2, Cond.code yX2_allowedPairs cX2_allowedPairs 4 (some .int), Cond.methodLink RX2 58 yX2_permittedPairs, Cond.instanceMethod yX2_permittedPairs, Cond.selects RX2 yX2_permittedPairs yX2_permittedPairs, Cond.code yX2_permittedPairs cX2_permittedPairs 3 (some .int), Cond.fieldLink RX2 30 "LayeredCharters$Rules" "size" "I", Cond.fieldLink RX2 15 "LayeredCharters$Rules" "kinds" "[I", Cond.fieldLink RX2 27 "LayeredCharters$Rules" "pairs" "[I", Cond.methodLink RX2 74 yX2_heldPairsOfSeal, Cond.instanceMethod yX2_heldPairsOfSeal, Cond.selects RX2 yX2_heldPairsOfSeal yX2_heldPairsOfSeal, Cond.code yX2_heldPairsOfSeal cX2_heldPairsOfSeal 4 (some .int), Cond.fieldLink RX2 24 "LayeredCharters$Rules" "seals" "[I", Cond.methodLink RX2 62 yX2_heldPairs, Cond.instanceMethod yX2_heldPairs, Cond.selects RX2 yX2_heldPairs yX2_heldPairs, Cond.code yX2_heldPairs cX2_heldPairs 4 (some .int), Cond.methodLink RX2 82 yX2_lifts, Cond.instanceMethod yX2_lifts, Cond.selects RX2 yX2_lifts yX2_lifts, Cond.code yX2_lifts cX2_lifts 3 (some .boolean), Cond.fieldLink RX2 11 "LayeredCharters$Rules" "layers" "[I"]
def wsL_acts_r3 : List Cond := [Cond.methodLink RL 57 yX4_act, Cond.instanceMethod yX4_act, Cond.selects RX4 yX4_act yX4_act, Cond.code yX4_act cX4_act 4 (some .int), Cond.fieldLink RX4 79 "LayeredCharters$Rules" "layers" "[I", Cond.methodLink RX4 123 yX4_isDeed, Cond.static yX4_isDeed, Cond.code yX4_isDeed cX4_isDeed 1 (some .boolean), Cond.methodLink RX4 45 yX4_isBetween, Cond.static yX4_isBetween, Cond.code yX4_isBetween cX4_isBetween 3 (some .boolean), Cond.methodLink RX4 58 yX4_remember, Cond.instanceMethod yX4_remember, Cond.selects RX4 yX4_remember yX4_remember, Cond.code yX4_remember cX4_remember 1 none, Cond.fieldLink RX4 30 "LayeredCharters" "remembered" "I", Cond.fieldLink RX4 27 "LayeredCharters" "history" "[LLayeredCharters$State;", Cond.methodLink RX4 216 yX4_dropOldest, Cond.instanceMethod yX4_dropOldest, Cond.selects RX4 yX4_dropOldest yX4_dropOldest, Cond.code yX4_dropOldest cX4_dropOldest 3 none, Cond.methodLink RX4 212 yX4_copyInto, Cond.instanceMethod yX4_copyInto, Cond.selects RX4 yX4_copyInto yX4_copyInto]
def wsL_acts_r4 : List Cond := [Cond.code yX4_copyInto cX4_copyInto 3 (some (.object "LayeredCharters$State")), Cond.classLink RX4 9 RX3, Cond.instantiable RX3 2, Cond.initialized RX3, Cond.instanceMethod yX3_init, Cond.code yX3_init cX3_init 1 none, Cond.methodLink RX3 1 objectInit, Cond.instanceMethod objectInit, Cond.code objectInit ⟨#[0xb1]⟩ 1 none, Cond.classLink RX3 7 RX2, Cond.instantiable RX2 7, Cond.fieldLink RX3 10 "LayeredCharters$State" "rules" "LLayeredCharters$Rules;", Cond.classLink RX3 16 RX0, Cond.instantiable RX0 7, Cond.fieldLink RX3 19 "LayeredCharters$State" "guild" "LLayeredCharters$Guild;", Cond.instanceMethod yX2_init, Cond.code yX2_init cX2_init 1 none, Cond.methodLink RX2 3 objectInit, Cond.arrayClass .int, Cond.fieldLink RX2 18 "LayeredCharters$Rules" "crafts" "[I", Cond.fieldLink RX2 21 "LayeredCharters$Rules" "deeds" "[I", Cond.instanceMethod yX0_init, Cond.code yX0_init cX0_init 1 none, Cond.methodLink RX0 3 objectInit]
def wsL_acts_r5 : List Cond := [Cond.fieldLink RX0 9 "LayeredCharters$Guild" "crafts" "[I", Cond.fieldLink RX0 15 "LayeredCharters$Guild" "ranks" "[I", Cond.fieldLink RX0 18 "LayeredCharters$Guild" "done" "[I", Cond.fieldLink RX0 21 "LayeredCharters$Guild" "refused" "[I", Cond.fieldLink RX0 24 "LayeredCharters$Guild" "refusals" "[I", Cond.fieldLink RX0 31 "LayeredCharters$Guild" "doneInAll" "I", Cond.methodLink RX4 208 yX3_copyFrom, Cond.instanceMethod yX3_copyFrom, Cond.selects RX3 yX3_copyFrom yX3_copyFrom, Cond.code yX3_copyFrom cX3_copyFrom 2 none, Cond.methodLink RX3 23 yX2_copyFrom, Cond.instanceMethod yX2_copyFrom, Cond.selects RX2 yX2_copyFrom yX2_copyFrom, Cond.code yX2_copyFrom cX2_copyFrom 2 none, Cond.static yX4_copyRow, Cond.code yX4_copyRow cX4_copyRow 2 none, Cond.methodLink RX4 229 Lib.Math.min.name, Cond.static Lib.Math.min.name, Cond.initialized "java/lang/Math", Cond.code Lib.Math.min.name Lib.Math.min.code 2 (some .int), Cond.methodLink RX4 232 arraycopyName, Cond.native arraycopyName, Cond.static arraycopyName, Cond.initialized "java/lang/System"]
def wsL_acts_r6 : List Cond := [Cond.methodLink RX3 27 yX0_copyFrom, Cond.instanceMethod yX0_copyFrom, Cond.selects RX0 yX0_copyFrom yX0_copyFrom, Cond.code yX0_copyFrom cX0_copyFrom 2 none, Cond.methodLink RX4 129 yX4_pairsOf, Cond.static yX4_pairsOf, Cond.code yX4_pairsOf cX4_pairsOf 5 (some .int), Cond.methodLink RX4 133 yX2_reason, Cond.instanceMethod yX2_reason, Cond.selects RX2 yX2_reason yX2_reason, Cond.code yX2_reason cX2_reason 6 (some .int), Cond.methodLink RX4 136 yX0_noteDone, Cond.instanceMethod yX0_noteDone, Cond.selects RX0 yX0_noteDone yX0_noteDone, Cond.code yX0_noteDone cX0_noteDone 2 none, Cond.methodLink RX0 38 yX0_has, Cond.methodLink RX4 65 yX2_has, Cond.instanceMethod yX2_has, Cond.selects RX2 yX2_has yX2_has, Cond.code yX2_has cX2_has 2 (some .boolean), Cond.methodLink RX4 139 yX0_noteRefusal, Cond.instanceMethod yX0_noteRefusal, Cond.selects RX0 yX0_noteRefusal yX0_noteRefusal, Cond.code yX0_noteRefusal cX0_noteRefusal 3 none]
def wsL_acts_r7 : List Cond := [Cond.methodLink RL 60 yX4_why, Cond.instanceMethod yX4_why, Cond.selects RX4 yX4_why yX4_why, Cond.code yX4_why cX4_why 4 (some .int), Cond.methodLink RX4 99 yX4_isCraft, Cond.static yX4_isCraft, Cond.code yX4_isCraft cX4_isCraft 1 (some .boolean), Cond.methodLink RX4 102 yX4_isRank, Cond.static yX4_isRank, Cond.code yX4_isRank cX4_isRank 1 (some .boolean), Cond.methodLink RL 25 yX4_rule, Cond.instanceMethod yX4_rule, Cond.selects RX4 yX4_rule yX4_rule, Cond.code yX4_rule cX4_rule 3 (some .int), Cond.fieldLink RX4 76 "LayeredCharters$Rules" "kinds" "[I", Cond.fieldLink RX4 142 "LayeredCharters$Rules" "crafts" "[I", Cond.fieldLink RX4 143 "LayeredCharters$Rules" "deeds" "[I", Cond.fieldLink RX4 72 "LayeredCharters$Rules" "seals" "[I", Cond.fieldLink RX4 157 "LayeredCharters$Rules" "pairs" "[I", Cond.methodLink RX4 146 yX2_triples, Cond.instanceMethod yX2_triples, Cond.selects RX2 yX2_triples yX2_triples, Cond.code yX2_triples cX2_triples 4 (some .int), Cond.methodLink RX2 77 yJ6_bitCount_0f7a4]
def wsL_acts_r8 : List Cond := [Cond.static yJ6_bitCount_0f7a4, Cond.initialized RJ6, Cond.code yJ6_bitCount_0f7a4 cJ6_bitCount_0f7a4 1 (some .int), Cond.constant RJ6 265 (1431655765), Cond.constant RJ6 266 (858993459), Cond.constant RJ6 267 (252645135), Cond.methodLink RX4 149 yX4_isIdle, Cond.instanceMethod yX4_isIdle, Cond.selects RX4 yX4_isIdle yX4_isIdle, Cond.code yX4_isIdle cX4_isIdle 3 (some .boolean), Cond.methodLink RX4 195 yX4_triplesWithout, Cond.instanceMethod yX4_triplesWithout, Cond.selects RX4 yX4_triplesWithout yX4_triplesWithout, Cond.code yX4_triplesWithout cX4_triplesWithout 2 (some .int), Cond.fieldLink RX4 37 "LayeredCharters" "trial" "LLayeredCharters$Rules;", Cond.methodLink RX4 219 yX2_copyFrom, Cond.methodLink RX4 68 yX2_remove, Cond.instanceMethod yX2_remove, Cond.selects RX2 yX2_remove yX2_remove, Cond.code yX2_remove cX2_remove 2 none, Cond.methodLink RX2 42 yX2_has, Cond.static yX4_closeGap, Cond.code yX4_closeGap cX4_closeGap 3 none, Cond.methodLink RX4 224 Lib.Math.max.name]
def wsL_acts_r9 : List Cond := [Cond.static Lib.Math.max.name, Cond.code Lib.Math.max.name Lib.Math.max.code 2 (some .int), Cond.methodLink RX4 153 yX2_oddsOf, Cond.instanceMethod yX2_oddsOf, Cond.selects RX2 yX2_oddsOf yX2_oddsOf, Cond.code yX2_oddsOf cX2_oddsOf 4 (some .int), Cond.methodLink RX2 50 yX2_areAtOdds, Cond.instanceMethod yX2_areAtOdds, Cond.selects RX2 yX2_areAtOdds yX2_areAtOdds, Cond.code yX2_areAtOdds cX2_areAtOdds 3 (some .boolean), Cond.methodLink RX4 160 yJ6_bitCount_0f7a4, Cond.methodLink RL 9 yX4_count, Cond.instanceMethod yX4_count, Cond.selects RX4 yX4_count yX4_count, Cond.code yX4_count cX4_count 2 (some .int), Cond.fieldLink RX4 55 "LayeredCharters$Rules" "size" "I", Cond.fieldLink RX4 109 "LayeredCharters$Guild" "size" "I", Cond.fieldLink RX4 183 "LayeredCharters$Guild" "doneInAll" "I", Cond.fieldLink RX4 19 "LayeredCharters" "pad" "LLayeredCharters$Pad;", Cond.fieldLink RX4 189 "LayeredCharters$Pad" "length" "I", Cond.methodLink RX4 174 yX2_sizeOfKind, Cond.instanceMethod yX2_sizeOfKind, Cond.selects RX2 yX2_sizeOfKind yX2_sizeOfKind, Cond.code yX2_sizeOfKind cX2_sizeOfKind 4 (some .int)]
def wsL_acts_r10 : List Cond := [Cond.methodLink RX4 177 yX4_idleRules, Cond.instanceMethod yX4_idleRules, Cond.selects RX4 yX4_idleRules yX4_idleRules, Cond.code yX4_idleRules cX4_idleRules 4 (some .int), Cond.methodLink RX4 180 yX2_oddPairs, Cond.instanceMethod yX2_oddPairs, Cond.selects RX2 yX2_oddPairs yX2_oddPairs, Cond.code yX2_oddPairs cX2_oddPairs 3 (some .int), Cond.methodLink RX2 54 yX2_oddsOf, Cond.methodLink RX4 186 yX0_refusalsOf, Cond.instanceMethod yX0_refusalsOf, Cond.selects RX0 yX0_refusalsOf yX0_refusalsOf, Cond.code yX0_refusalsOf cX0_refusalsOf 2 (some .int)]
def wsL_acts : List Cond := .code yL_acts cL_acts 10 (some .boolean) :: ((wsL_acts_r1 ++ (wsL_acts_r2 ++ (wsL_acts_r3 ++ (wsL_acts_r4 ++ (wsL_acts_r5 ++ (wsL_acts_r6 ++ (wsL_acts_r7 ++ (wsL_acts_r8 ++ (wsL_acts_r9 ++ wsL_acts_r10))))))))) ++ wsX40 ++ wsX30 ++ wsX00 ++ wsX20 ++ wsX10)
def wsL_change_r1 : List Cond := [Cond.methodLink RL 9 yX4_count, Cond.instanceMethod yX4_count, Cond.selects RX4 yX4_count yX4_count, Cond.initialized RX4, Cond.code yX4_count cX4_count 2 (some .int), Cond.fieldLink RX4 12 "LayeredCharters" "now" "LLayeredCharters$State;", Cond.fieldLink RX4 52 "LayeredCharters$State" "rules" "LLayeredCharters$Rules;", Cond.fieldLink RX4 55 "LayeredCharters$Rules" "size" "I", Cond.fieldLink RX4 105 "LayeredCharters$State" "guild" "LLayeredCharters$Guild;", Cond.fieldLink RX4 109 "LayeredCharters$Guild" "size" "I", Cond.fieldLink RX4 183 "LayeredCharters$Guild" "doneInAll" "I", Cond.fieldLink RX4 19 "LayeredCharters" "pad" "LLayeredCharters$Pad;", Cond.fieldLink RX4 189 "LayeredCharters$Pad" "length" "I", Cond.fieldLink RX4 30 "LayeredCharters" "remembered" "I", Cond.methodLink RX4 174 yX2_sizeOfKind, Cond.instanceMethod yX2_sizeOfKind, Cond.selects RX2 yX2_sizeOfKind yX2_sizeOfKind, Cond.initialized RX2, Cond.code yX2_sizeOfKind cX2_sizeOfKind 4 (some .int), Cond.fieldLink RX2 30 "LayeredCharters$Rules" "size" "I", Cond.fieldLink RX2 15 "LayeredCharters$Rules" "kinds" "[I", Cond.methodLink RX4 177 yX4_idleRules, Cond.instanceMethod yX4_idleRules, Cond.selects RX4 yX4_idleRules yX4_idleRules]
def wsL_change_r2 : List Cond := [Cond.code yX4_idleRules cX4_idleRules 4 (some .int), Cond.methodLink RX4 146 yX2_triples, Cond.instanceMethod yX2_triples, Cond.selects RX2 yX2_triples yX2_triples, Cond.code yX2_triples cX2_triples 4 (some .int), Cond.methodLink RX2 58 yX2_permittedPairs, Cond.instanceMethod yX2_permittedPairs, Cond.selects RX2 yX2_permittedPairs yX2_permittedPairs, Cond.code yX2_permittedPairs cX2_permittedPairs 3 (some .int), Cond.fieldLink RX2 27 "LayeredCharters$Rules" "pairs" "[I", Cond.methodLink RX2 77 yJ6_bitCount_0f7a4, Cond.static yJ6_bitCount_0f7a4, Cond.initialized RJ6, Cond.code yJ6_bitCount_0f7a4 cJ6_bitCount_0f7a4 1 (some .int), Cond.constant RJ6 265 (1431655765), Cond.constant RJ6 266 (858993459), Cond.constant RJ6 267 (252645135), Cond.methodLink RX2 74 yX2_heldPairsOfSeal, Cond.instanceMethod yX2_heldPairsOfSeal, Cond.selects RX2 yX2_heldPairsOfSeal yX2_heldPairsOfSeal, Cond.code yX2_heldPairsOfSeal cX2_heldPairsOfSeal 4 (some .int), Cond.fieldLink RX2 24 "LayeredCharters$Rules" "seals" "[I", Cond.methodLink RX2 62 yX2_heldPairs, Cond.instanceMethod yX2_heldPairs]
def wsL_change_r3 : List Cond := [Cond.selects RX2 yX2_heldPairs yX2_heldPairs, Cond.code yX2_heldPairs cX2_heldPairs 4 (some .int), Cond.methodLink RX2 82 yX2_lifts, Cond.instanceMethod yX2_lifts, Cond.selects RX2 yX2_lifts yX2_lifts, Cond.code yX2_lifts cX2_lifts 3 (some .boolean), Cond.fieldLink RX2 11 "LayeredCharters$Rules" "layers" "[I", Cond.methodLink RX4 149 yX4_isIdle, Cond.instanceMethod yX4_isIdle, Cond.selects RX4 yX4_isIdle yX4_isIdle, Cond.code yX4_isIdle cX4_isIdle 3 (some .boolean), Cond.methodLink RX4 195 yX4_triplesWithout, Cond.instanceMethod yX4_triplesWithout, Cond.selects RX4 yX4_triplesWithout yX4_triplesWithout, Cond.code yX4_triplesWithout cX4_triplesWithout 2 (some .int), Cond.fieldLink RX4 37 "LayeredCharters" "trial" "LLayeredCharters$Rules;", Cond.methodLink RX4 219 yX2_copyFrom, Cond.instanceMethod yX2_copyFrom, Cond.selects RX2 yX2_copyFrom yX2_copyFrom, Cond.code yX2_copyFrom cX2_copyFrom 2 none, Cond.fieldLink RX2 18 "LayeredCharters$Rules" "crafts" "[I", Cond.fieldLink RX2 21 "LayeredCharters$Rules" "deeds" "[I", Cond.static yX4_copyRow, Cond.code yX4_copyRow cX4_copyRow 2 none]
def wsL_change_r4 : List Cond := [Cond.methodLink RX4 229 Lib.Math.min.name, Cond.static Lib.Math.min.name, Cond.initialized "java/lang/Math", Cond.code Lib.Math.min.name Lib.Math.min.code 2 (some .int), Cond.methodLink RX4 232 arraycopyName, Cond.native arraycopyName, Cond.static arraycopyName, Cond.initialized "java/lang/System", Cond.methodLink RX4 68 yX2_remove, Cond.instanceMethod yX2_remove, Cond.selects RX2 yX2_remove yX2_remove, Cond.code yX2_remove cX2_remove 2 none, Cond.methodLink RX2 42 yX2_has, Cond.instanceMethod yX2_has, Cond.selects RX2 yX2_has yX2_has, Cond.code yX2_has cX2_has 2 (some .boolean), Cond.static yX4_closeGap, Cond.code yX4_closeGap cX4_closeGap 3 none, Cond.methodLink RX4 224 Lib.Math.max.name, Cond.static Lib.Math.max.name, Cond.code Lib.Math.max.name Lib.Math.max.code 2 (some .int), Cond.methodLink RX4 180 yX2_oddPairs, Cond.instanceMethod yX2_oddPairs, Cond.selects RX2 yX2_oddPairs yX2_oddPairs]
def wsL_change_r5 : List Cond := [Cond.code yX2_oddPairs cX2_oddPairs 3 (some .int), Cond.methodLink RX2 54 yX2_oddsOf, Cond.instanceMethod yX2_oddsOf, Cond.selects RX2 yX2_oddsOf yX2_oddsOf, Cond.code yX2_oddsOf cX2_oddsOf 4 (some .int), Cond.methodLink RX2 50 yX2_areAtOdds, Cond.instanceMethod yX2_areAtOdds, Cond.selects RX2 yX2_areAtOdds yX2_areAtOdds, Cond.code yX2_areAtOdds cX2_areAtOdds 3 (some .boolean), Cond.methodLink RX4 186 yX0_refusalsOf, Cond.instanceMethod yX0_refusalsOf, Cond.selects RX0 yX0_refusalsOf yX0_refusalsOf, Cond.initialized RX0, Cond.code yX0_refusalsOf cX0_refusalsOf 2 (some .int), Cond.fieldLink RX0 24 "LayeredCharters$Guild" "refusals" "[I", Cond.static yX4_isBetween, Cond.code yX4_isBetween cX4_isBetween 3 (some .boolean), Cond.methodLink RL 15 yL_low, Cond.static yL_low, Cond.initialized RL, Cond.code yL_low cL_low 2 (some .int), Cond.constant RL 8 (2147483647), Cond.methodLink RL 21 yX4_add, Cond.instanceMethod yX4_add]
def wsL_change_r6 : List Cond := [Cond.selects RX4 yX4_add yX4_add, Cond.code yX4_add cX4_add 6 (some .int), Cond.methodLink RX4 41 yX4_isLayer, Cond.static yX4_isLayer, Cond.code yX4_isLayer cX4_isLayer 1 (some .boolean), Cond.methodLink RX4 45 yX4_isBetween, Cond.methodLink RX4 49 yX4_isSeal, Cond.static yX4_isSeal, Cond.code yX4_isSeal cX4_isSeal 1 (some .boolean), Cond.methodLink RX4 58 yX4_remember, Cond.instanceMethod yX4_remember, Cond.selects RX4 yX4_remember yX4_remember, Cond.code yX4_remember cX4_remember 1 none, Cond.fieldLink RX4 27 "LayeredCharters" "history" "[LLayeredCharters$State;", Cond.methodLink RX4 216 yX4_dropOldest, Cond.instanceMethod yX4_dropOldest, Cond.selects RX4 yX4_dropOldest yX4_dropOldest, Cond.code yX4_dropOldest cX4_dropOldest 3 none, Cond.methodLink RX4 212 yX4_copyInto, Cond.instanceMethod yX4_copyInto, Cond.selects RX4 yX4_copyInto yX4_copyInto, Cond.code yX4_copyInto cX4_copyInto 3 (some (.object "LayeredCharters$State")), Cond.classLink RX4 9 RX3, Cond.instantiable RX3 2]
def wsL_change_r7 : List Cond := [Cond.initialized RX3, Cond.instanceMethod yX3_init, Cond.code yX3_init cX3_init 1 none, Cond.methodLink RX3 1 objectInit, Cond.instanceMethod objectInit, Cond.code objectInit ⟨#[0xb1]⟩ 1 none, Cond.classLink RX3 7 RX2, Cond.instantiable RX2 7, Cond.fieldLink RX3 10 "LayeredCharters$State" "rules" "LLayeredCharters$Rules;", Cond.classLink RX3 16 RX0, Cond.instantiable RX0 7, Cond.fieldLink RX3 19 "LayeredCharters$State" "guild" "LLayeredCharters$Guild;", Cond.instanceMethod yX2_init, Cond.code yX2_init cX2_init 1 none, Cond.methodLink RX2 3 objectInit, Cond.arrayClass .int, Cond.instanceMethod yX0_init, Cond.code yX0_init cX0_init 1 none, Cond.methodLink RX0 3 objectInit, Cond.fieldLink RX0 9 "LayeredCharters$Guild" "crafts" "[I", Cond.fieldLink RX0 15 "LayeredCharters$Guild" "ranks" "[I", Cond.fieldLink RX0 18 "LayeredCharters$Guild" "done" "[I", Cond.fieldLink RX0 21 "LayeredCharters$Guild" "refused" "[I", Cond.fieldLink RX0 27 "LayeredCharters$Guild" "size" "I"]
def wsL_change_r8 : List Cond := [Cond.fieldLink RX0 31 "LayeredCharters$Guild" "doneInAll" "I", Cond.methodLink RX4 208 yX3_copyFrom, Cond.instanceMethod yX3_copyFrom, Cond.selects RX3 yX3_copyFrom yX3_copyFrom, Cond.code yX3_copyFrom cX3_copyFrom 2 none, Cond.methodLink RX3 23 yX2_copyFrom, Cond.methodLink RX3 27 yX0_copyFrom, Cond.instanceMethod yX0_copyFrom, Cond.selects RX0 yX0_copyFrom yX0_copyFrom, Cond.code yX0_copyFrom cX0_copyFrom 2 none, Cond.methodLink RX4 61 yX2_append, Cond.instanceMethod yX2_append, Cond.selects RX2 yX2_append yX2_append, Cond.code yX2_append cX2_append 6 none, Cond.static yX4_pairsOf, Cond.code yX4_pairsOf cX4_pairsOf 5 (some .int), Cond.methodLink RL 25 yX4_rule, Cond.instanceMethod yX4_rule, Cond.selects RX4 yX4_rule yX4_rule, Cond.code yX4_rule cX4_rule 3 (some .int), Cond.fieldLink RX4 79 "LayeredCharters$Rules" "layers" "[I", Cond.fieldLink RX4 76 "LayeredCharters$Rules" "kinds" "[I", Cond.fieldLink RX4 142 "LayeredCharters$Rules" "crafts" "[I", Cond.fieldLink RX4 143 "LayeredCharters$Rules" "deeds" "[I"]
def wsL_change_r9 : List Cond := [Cond.fieldLink RX4 72 "LayeredCharters$Rules" "seals" "[I", Cond.fieldLink RX4 157 "LayeredCharters$Rules" "pairs" "[I", Cond.methodLink RX4 65 yX2_has, Cond.methodLink RX4 153 yX2_oddsOf, Cond.methodLink RX4 160 yJ6_bitCount_0f7a4, Cond.methodLink RL 28 yX4_strike, Cond.instanceMethod yX4_strike, Cond.selects RX4 yX4_strike yX4_strike, Cond.code yX4_strike cX4_strike 2 (some .int), Cond.methodLink RL 31 yX4_seal, Cond.instanceMethod yX4_seal, Cond.selects RX4 yX4_seal yX4_seal, Cond.code yX4_seal cX4_seal 4 (some .int), Cond.methodLink RL 34 yX4_move, Cond.instanceMethod yX4_move, Cond.selects RX4 yX4_move yX4_move, Cond.code yX4_move cX4_move 4 (some .int), Cond.methodLink RL 37 yX4_tidy, Cond.instanceMethod yX4_tidy, Cond.selects RX4 yX4_tidy yX4_tidy, Cond.code yX4_tidy cX4_tidy 3 (some .int), Cond.methodLink RX4 96 yX4_firstIdle, Cond.instanceMethod yX4_firstIdle, Cond.selects RX4 yX4_firstIdle yX4_firstIdle]
def wsL_change_r10 : List Cond := [Cond.code yX4_firstIdle cX4_firstIdle 3 (some .int), Cond.methodLink RL 41 yX4_join, Cond.instanceMethod yX4_join, Cond.selects RX4 yX4_join yX4_join, Cond.code yX4_join cX4_join 3 (some .int), Cond.methodLink RX4 99 yX4_isCraft, Cond.static yX4_isCraft, Cond.code yX4_isCraft cX4_isCraft 1 (some .boolean), Cond.methodLink RX4 102 yX4_isRank, Cond.static yX4_isRank, Cond.code yX4_isRank cX4_isRank 1 (some .boolean), Cond.methodLink RX4 112 yX0_append, Cond.instanceMethod yX0_append, Cond.selects RX0 yX0_append yX0_append, Cond.code yX0_append cX0_append 3 none, Cond.methodLink RL 44 yX4_member, Cond.instanceMethod yX4_member, Cond.selects RX4 yX4_member yX4_member, Cond.code yX4_member cX4_member 3 (some .int), Cond.fieldLink RX4 126 "LayeredCharters$Guild" "crafts" "[I", Cond.fieldLink RX4 120 "LayeredCharters$Guild" "ranks" "[I", Cond.fieldLink RX4 116 "LayeredCharters$Guild" "done" "[I", Cond.fieldLink RX4 168 "LayeredCharters$Guild" "refused" "[I", Cond.methodLink RX4 115 yX0_has]
def wsL_change_r11 : List Cond := [Cond.instanceMethod yX0_has, Cond.selects RX0 yX0_has yX0_has, Cond.code yX0_has cX0_has 2 (some .boolean), Cond.methodLink RX4 165 yX4_deedsAllowed, Cond.instanceMethod yX4_deedsAllowed, Cond.selects RX4 yX4_deedsAllowed yX4_deedsAllowed, Cond.code yX4_deedsAllowed cX4_deedsAllowed 3 (some .int), Cond.methodLink RX4 221 yX2_allowedPairs, Cond.instanceMethod yX2_allowedPairs, Cond.selects RX2 yX2_allowedPairs yX2_allowedPairs, Cond.code yX2_allowedPairs cX2_allowedPairs 4 (some .int), Cond.methodLink RL 47 yX4_leave, Cond.instanceMethod yX4_leave, Cond.selects RX4 yX4_leave yX4_leave, Cond.code yX4_leave cX4_leave 3 (some .int), Cond.methodLink RX4 119 yX0_remove, Cond.instanceMethod yX0_remove, Cond.selects RX0 yX0_remove yX0_remove, Cond.code yX0_remove cX0_remove 2 none, Cond.methodLink RX0 38 yX0_has, Cond.methodLink RL 50 yX4_rank, Cond.instanceMethod yX4_rank, Cond.selects RX4 yX4_rank yX4_rank, Cond.code yX4_rank cX4_rank 4 (some .int)]
def wsL_change_r12 : List Cond := [Cond.methodLink RL 53 yL_acts, Cond.static yL_acts, Cond.code yL_acts cL_acts 10 (some .boolean), Cond.methodLink RL 57 yX4_act, Cond.instanceMethod yX4_act, Cond.selects RX4 yX4_act yX4_act, Cond.code yX4_act cX4_act 4 (some .int), Cond.methodLink RX4 123 yX4_isDeed, Cond.static yX4_isDeed, Cond.code yX4_isDeed cX4_isDeed 1 (some .boolean), Cond.methodLink RX4 129 yX4_pairsOf, Cond.methodLink RX4 133 yX2_reason, Cond.instanceMethod yX2_reason, Cond.selects RX2 yX2_reason yX2_reason, Cond.code yX2_reason cX2_reason 6 (some .int), Cond.methodLink RX4 136 yX0_noteDone, Cond.instanceMethod yX0_noteDone, Cond.selects RX0 yX0_noteDone yX0_noteDone, Cond.code yX0_noteDone cX0_noteDone 2 none, Cond.methodLink RX4 139 yX0_noteRefusal, Cond.instanceMethod yX0_noteRefusal, Cond.selects RX0 yX0_noteRefusal yX0_noteRefusal, Cond.code yX0_noteRefusal cX0_noteRefusal 3 none, Cond.methodLink RL 60 yX4_why]
def wsL_change_r13 : List Cond := [Cond.instanceMethod yX4_why, Cond.selects RX4 yX4_why yX4_why, Cond.code yX4_why cX4_why 4 (some .int)]
def wsL_change : List Cond := .code yL_change cL_change 15 (some .boolean) :: ((wsL_change_r1 ++ (wsL_change_r2 ++ (wsL_change_r3 ++ (wsL_change_r4 ++ (wsL_change_r5 ++ (wsL_change_r6 ++ (wsL_change_r7 ++ (wsL_change_r8 ++ (wsL_change_r9 ++ (wsL_change_r10 ++ (wsL_change_r11 ++ (wsL_change_r12 ++ wsL_change_r13)))))))))))) ++ wsX40 ++ wsX30 ++ wsX20 ++ wsX00 ++ wsX10)
def wsL_fits : List Cond := .code yL_fits cL_fits 3 (some .boolean) :: ([])
def wsL_read_r1 : List Cond := [Cond.methodLink RL 25 yX4_rule, Cond.instanceMethod yX4_rule, Cond.selects RX4 yX4_rule yX4_rule, Cond.initialized RX4, Cond.code yX4_rule cX4_rule 3 (some .int), Cond.fieldLink RX4 12 "LayeredCharters" "now" "LLayeredCharters$State;", Cond.fieldLink RX4 52 "LayeredCharters$State" "rules" "LLayeredCharters$Rules;", Cond.fieldLink RX4 79 "LayeredCharters$Rules" "layers" "[I", Cond.fieldLink RX4 76 "LayeredCharters$Rules" "kinds" "[I", Cond.fieldLink RX4 142 "LayeredCharters$Rules" "crafts" "[I", Cond.fieldLink RX4 143 "LayeredCharters$Rules" "deeds" "[I", Cond.fieldLink RX4 72 "LayeredCharters$Rules" "seals" "[I", Cond.fieldLink RX4 157 "LayeredCharters$Rules" "pairs" "[I", Cond.methodLink RX4 65 yX2_has, Cond.instanceMethod yX2_has, Cond.selects RX2 yX2_has yX2_has, Cond.initialized RX2, Cond.code yX2_has cX2_has 2 (some .boolean), Cond.fieldLink RX2 30 "LayeredCharters$Rules" "size" "I", Cond.methodLink RX4 146 yX2_triples, Cond.instanceMethod yX2_triples, Cond.selects RX2 yX2_triples yX2_triples, Cond.code yX2_triples cX2_triples 4 (some .int), Cond.methodLink RX2 58 yX2_permittedPairs]
def wsL_read_r2 : List Cond := [Cond.instanceMethod yX2_permittedPairs, Cond.selects RX2 yX2_permittedPairs yX2_permittedPairs, Cond.code yX2_permittedPairs cX2_permittedPairs 3 (some .int), Cond.fieldLink RX2 15 "LayeredCharters$Rules" "kinds" "[I", Cond.fieldLink RX2 27 "LayeredCharters$Rules" "pairs" "[I", Cond.methodLink RX2 77 yJ6_bitCount_0f7a4, Cond.static yJ6_bitCount_0f7a4, Cond.initialized RJ6, Cond.code yJ6_bitCount_0f7a4 cJ6_bitCount_0f7a4 1 (some .int), Cond.constant RJ6 265 (1431655765), Cond.constant RJ6 266 (858993459), Cond.constant RJ6 267 (252645135), Cond.methodLink RX2 74 yX2_heldPairsOfSeal, Cond.instanceMethod yX2_heldPairsOfSeal, Cond.selects RX2 yX2_heldPairsOfSeal yX2_heldPairsOfSeal, Cond.code yX2_heldPairsOfSeal cX2_heldPairsOfSeal 4 (some .int), Cond.fieldLink RX2 24 "LayeredCharters$Rules" "seals" "[I", Cond.methodLink RX2 62 yX2_heldPairs, Cond.instanceMethod yX2_heldPairs, Cond.selects RX2 yX2_heldPairs yX2_heldPairs, Cond.code yX2_heldPairs cX2_heldPairs 4 (some .int), Cond.methodLink RX2 82 yX2_lifts, Cond.instanceMethod yX2_lifts, Cond.selects RX2 yX2_lifts yX2_lifts]
def wsL_read_r3 : List Cond := [Cond.code yX2_lifts cX2_lifts 3 (some .boolean), Cond.fieldLink RX2 11 "LayeredCharters$Rules" "layers" "[I", Cond.methodLink RX4 149 yX4_isIdle, Cond.instanceMethod yX4_isIdle, Cond.selects RX4 yX4_isIdle yX4_isIdle, Cond.code yX4_isIdle cX4_isIdle 3 (some .boolean), Cond.methodLink RX4 195 yX4_triplesWithout, Cond.instanceMethod yX4_triplesWithout, Cond.selects RX4 yX4_triplesWithout yX4_triplesWithout, Cond.code yX4_triplesWithout cX4_triplesWithout 2 (some .int), Cond.fieldLink RX4 37 "LayeredCharters" "trial" "LLayeredCharters$Rules;", Cond.methodLink RX4 219 yX2_copyFrom, Cond.instanceMethod yX2_copyFrom, Cond.selects RX2 yX2_copyFrom yX2_copyFrom, Cond.code yX2_copyFrom cX2_copyFrom 2 none, Cond.fieldLink RX2 18 "LayeredCharters$Rules" "crafts" "[I", Cond.fieldLink RX2 21 "LayeredCharters$Rules" "deeds" "[I", Cond.static yX4_copyRow, Cond.code yX4_copyRow cX4_copyRow 2 none, Cond.methodLink RX4 229 Lib.Math.min.name, Cond.static Lib.Math.min.name, Cond.initialized "java/lang/Math", Cond.code Lib.Math.min.name Lib.Math.min.code 2 (some .int), Cond.methodLink RX4 232 arraycopyName]
def wsL_read_r4 : List Cond := [Cond.native arraycopyName, Cond.static arraycopyName, Cond.initialized "java/lang/System", Cond.methodLink RX4 68 yX2_remove, Cond.instanceMethod yX2_remove, Cond.selects RX2 yX2_remove yX2_remove, Cond.code yX2_remove cX2_remove 2 none, Cond.methodLink RX2 42 yX2_has, Cond.static yX4_closeGap, Cond.code yX4_closeGap cX4_closeGap 3 none, Cond.methodLink RX4 224 Lib.Math.max.name, Cond.static Lib.Math.max.name, Cond.code Lib.Math.max.name Lib.Math.max.code 2 (some .int), Cond.methodLink RX4 153 yX2_oddsOf, Cond.instanceMethod yX2_oddsOf, Cond.selects RX2 yX2_oddsOf yX2_oddsOf, Cond.code yX2_oddsOf cX2_oddsOf 4 (some .int), Cond.methodLink RX2 50 yX2_areAtOdds, Cond.instanceMethod yX2_areAtOdds, Cond.selects RX2 yX2_areAtOdds yX2_areAtOdds, Cond.code yX2_areAtOdds cX2_areAtOdds 3 (some .boolean), Cond.methodLink RX4 160 yJ6_bitCount_0f7a4]
def wsL_read : List Cond := .code yL_read cL_read 4 none :: ((wsL_read_r1 ++ (wsL_read_r2 ++ (wsL_read_r3 ++ wsL_read_r4))) ++ wsX40 ++ wsX30 ++ wsX20)
def wsL_why_r1 : List Cond := [Cond.arrayClass .int, Cond.methodLink RL 9 yX4_count, Cond.instanceMethod yX4_count, Cond.selects RX4 yX4_count yX4_count, Cond.initialized RX4, Cond.code yX4_count cX4_count 2 (some .int), Cond.fieldLink RX4 12 "LayeredCharters" "now" "LLayeredCharters$State;", Cond.fieldLink RX4 52 "LayeredCharters$State" "rules" "LLayeredCharters$Rules;", Cond.fieldLink RX4 55 "LayeredCharters$Rules" "size" "I", Cond.fieldLink RX4 105 "LayeredCharters$State" "guild" "LLayeredCharters$Guild;", Cond.fieldLink RX4 109 "LayeredCharters$Guild" "size" "I", Cond.fieldLink RX4 183 "LayeredCharters$Guild" "doneInAll" "I", Cond.fieldLink RX4 19 "LayeredCharters" "pad" "LLayeredCharters$Pad;", Cond.fieldLink RX4 189 "LayeredCharters$Pad" "length" "I", Cond.fieldLink RX4 30 "LayeredCharters" "remembered" "I", Cond.methodLink RX4 174 yX2_sizeOfKind, Cond.instanceMethod yX2_sizeOfKind, Cond.selects RX2 yX2_sizeOfKind yX2_sizeOfKind, Cond.initialized RX2, Cond.code yX2_sizeOfKind cX2_sizeOfKind 4 (some .int), Cond.fieldLink RX2 30 "LayeredCharters$Rules" "size" "I", Cond.fieldLink RX2 15 "LayeredCharters$Rules" "kinds" "[I", Cond.methodLink RX4 177 yX4_idleRules, Cond.instanceMethod yX4_idleRules]
def wsL_why_r2 : List Cond := [Cond.selects RX4 yX4_idleRules yX4_idleRules, Cond.code yX4_idleRules cX4_idleRules 4 (some .int), Cond.methodLink RX4 146 yX2_triples, Cond.instanceMethod yX2_triples, Cond.selects RX2 yX2_triples yX2_triples, Cond.code yX2_triples cX2_triples 4 (some .int), Cond.methodLink RX2 58 yX2_permittedPairs, Cond.instanceMethod yX2_permittedPairs, Cond.selects RX2 yX2_permittedPairs yX2_permittedPairs, Cond.code yX2_permittedPairs cX2_permittedPairs 3 (some .int), Cond.fieldLink RX2 27 "LayeredCharters$Rules" "pairs" "[I", Cond.methodLink RX2 77 yJ6_bitCount_0f7a4, Cond.static yJ6_bitCount_0f7a4, Cond.initialized RJ6, Cond.code yJ6_bitCount_0f7a4 cJ6_bitCount_0f7a4 1 (some .int), Cond.constant RJ6 265 (1431655765), Cond.constant RJ6 266 (858993459), Cond.constant RJ6 267 (252645135), Cond.methodLink RX2 74 yX2_heldPairsOfSeal, Cond.instanceMethod yX2_heldPairsOfSeal, Cond.selects RX2 yX2_heldPairsOfSeal yX2_heldPairsOfSeal, Cond.code yX2_heldPairsOfSeal cX2_heldPairsOfSeal 4 (some .int), Cond.fieldLink RX2 24 "LayeredCharters$Rules" "seals" "[I", Cond.methodLink RX2 62 yX2_heldPairs]
def wsL_why_r3 : List Cond := [Cond.instanceMethod yX2_heldPairs, Cond.selects RX2 yX2_heldPairs yX2_heldPairs, Cond.code yX2_heldPairs cX2_heldPairs 4 (some .int), Cond.methodLink RX2 82 yX2_lifts, Cond.instanceMethod yX2_lifts, Cond.selects RX2 yX2_lifts yX2_lifts, Cond.code yX2_lifts cX2_lifts 3 (some .boolean), Cond.fieldLink RX2 11 "LayeredCharters$Rules" "layers" "[I", Cond.methodLink RX4 149 yX4_isIdle, Cond.instanceMethod yX4_isIdle, Cond.selects RX4 yX4_isIdle yX4_isIdle, Cond.code yX4_isIdle cX4_isIdle 3 (some .boolean), Cond.methodLink RX4 195 yX4_triplesWithout, Cond.instanceMethod yX4_triplesWithout, Cond.selects RX4 yX4_triplesWithout yX4_triplesWithout, Cond.code yX4_triplesWithout cX4_triplesWithout 2 (some .int), Cond.fieldLink RX4 37 "LayeredCharters" "trial" "LLayeredCharters$Rules;", Cond.methodLink RX4 219 yX2_copyFrom, Cond.instanceMethod yX2_copyFrom, Cond.selects RX2 yX2_copyFrom yX2_copyFrom, Cond.code yX2_copyFrom cX2_copyFrom 2 none, Cond.fieldLink RX2 18 "LayeredCharters$Rules" "crafts" "[I", Cond.fieldLink RX2 21 "LayeredCharters$Rules" "deeds" "[I", Cond.static yX4_copyRow]
def wsL_why_r4 : List Cond := [Cond.code yX4_copyRow cX4_copyRow 2 none, Cond.methodLink RX4 229 Lib.Math.min.name, Cond.static Lib.Math.min.name, Cond.initialized "java/lang/Math", Cond.code Lib.Math.min.name Lib.Math.min.code 2 (some .int), Cond.methodLink RX4 232 arraycopyName, Cond.native arraycopyName, Cond.static arraycopyName, Cond.initialized "java/lang/System", Cond.methodLink RX4 68 yX2_remove, Cond.instanceMethod yX2_remove, Cond.selects RX2 yX2_remove yX2_remove, Cond.code yX2_remove cX2_remove 2 none, Cond.methodLink RX2 42 yX2_has, Cond.instanceMethod yX2_has, Cond.selects RX2 yX2_has yX2_has, Cond.code yX2_has cX2_has 2 (some .boolean), Cond.static yX4_closeGap, Cond.code yX4_closeGap cX4_closeGap 3 none, Cond.methodLink RX4 224 Lib.Math.max.name, Cond.static Lib.Math.max.name, Cond.code Lib.Math.max.name Lib.Math.max.code 2 (some .int), Cond.methodLink RX4 180 yX2_oddPairs, Cond.instanceMethod yX2_oddPairs]
def wsL_why_r5 : List Cond := [Cond.selects RX2 yX2_oddPairs yX2_oddPairs, Cond.code yX2_oddPairs cX2_oddPairs 3 (some .int), Cond.methodLink RX2 54 yX2_oddsOf, Cond.instanceMethod yX2_oddsOf, Cond.selects RX2 yX2_oddsOf yX2_oddsOf, Cond.code yX2_oddsOf cX2_oddsOf 4 (some .int), Cond.methodLink RX2 50 yX2_areAtOdds, Cond.instanceMethod yX2_areAtOdds, Cond.selects RX2 yX2_areAtOdds yX2_areAtOdds, Cond.code yX2_areAtOdds cX2_areAtOdds 3 (some .boolean), Cond.methodLink RX4 186 yX0_refusalsOf, Cond.instanceMethod yX0_refusalsOf, Cond.selects RX0 yX0_refusalsOf yX0_refusalsOf, Cond.initialized RX0, Cond.code yX0_refusalsOf cX0_refusalsOf 2 (some .int), Cond.fieldLink RX0 24 "LayeredCharters$Guild" "refusals" "[I", Cond.static yX4_isBetween, Cond.code yX4_isBetween cX4_isBetween 3 (some .boolean), Cond.methodLink RL 64 yL_read, Cond.static yL_read, Cond.initialized RL, Cond.code yL_read cL_read 4 none, Cond.methodLink RL 25 yX4_rule, Cond.instanceMethod yX4_rule]
def wsL_why_r6 : List Cond := [Cond.selects RX4 yX4_rule yX4_rule, Cond.code yX4_rule cX4_rule 3 (some .int), Cond.fieldLink RX4 79 "LayeredCharters$Rules" "layers" "[I", Cond.fieldLink RX4 76 "LayeredCharters$Rules" "kinds" "[I", Cond.fieldLink RX4 142 "LayeredCharters$Rules" "crafts" "[I", Cond.fieldLink RX4 143 "LayeredCharters$Rules" "deeds" "[I", Cond.fieldLink RX4 72 "LayeredCharters$Rules" "seals" "[I", Cond.fieldLink RX4 157 "LayeredCharters$Rules" "pairs" "[I", Cond.methodLink RX4 65 yX2_has, Cond.methodLink RX4 153 yX2_oddsOf, Cond.methodLink RX4 160 yJ6_bitCount_0f7a4, Cond.methodLink RL 68 yL_fits, Cond.static yL_fits, Cond.code yL_fits cL_fits 3 (some .boolean)]
def wsL_why : List Cond := .code yL_why cL_why 13 (some .int) :: ((wsL_why_r1 ++ (wsL_why_r2 ++ (wsL_why_r3 ++ (wsL_why_r4 ++ (wsL_why_r5 ++ wsL_why_r6))))) ++ wsX40 ++ wsX30 ++ wsX20 ++ wsX00 ++ wsX10)
def wsL_holds_r1 : List Cond := [Cond.methodLink RL 9 yX4_count, Cond.instanceMethod yX4_count, Cond.selects RX4 yX4_count yX4_count, Cond.initialized RX4, Cond.code yX4_count cX4_count 2 (some .int), Cond.fieldLink RX4 12 "LayeredCharters" "now" "LLayeredCharters$State;", Cond.fieldLink RX4 52 "LayeredCharters$State" "rules" "LLayeredCharters$Rules;", Cond.fieldLink RX4 55 "LayeredCharters$Rules" "size" "I", Cond.fieldLink RX4 105 "LayeredCharters$State" "guild" "LLayeredCharters$Guild;", Cond.fieldLink RX4 109 "LayeredCharters$Guild" "size" "I", Cond.fieldLink RX4 183 "LayeredCharters$Guild" "doneInAll" "I", Cond.fieldLink RX4 19 "LayeredCharters" "pad" "LLayeredCharters$Pad;", Cond.fieldLink RX4 189 "LayeredCharters$Pad" "length" "I", Cond.fieldLink RX4 30 "LayeredCharters" "remembered" "I", Cond.methodLink RX4 174 yX2_sizeOfKind, Cond.instanceMethod yX2_sizeOfKind, Cond.selects RX2 yX2_sizeOfKind yX2_sizeOfKind, Cond.initialized RX2, Cond.code yX2_sizeOfKind cX2_sizeOfKind 4 (some .int), Cond.fieldLink RX2 30 "LayeredCharters$Rules" "size" "I", Cond.fieldLink RX2 15 "LayeredCharters$Rules" "kinds" "[I", Cond.methodLink RX4 177 yX4_idleRules, Cond.instanceMethod yX4_idleRules, Cond.selects RX4 yX4_idleRules yX4_idleRules]
def wsL_holds_r2 : List Cond := [Cond.code yX4_idleRules cX4_idleRules 4 (some .int), Cond.methodLink RX4 146 yX2_triples, Cond.instanceMethod yX2_triples, Cond.selects RX2 yX2_triples yX2_triples, Cond.code yX2_triples cX2_triples 4 (some .int), Cond.methodLink RX2 58 yX2_permittedPairs, Cond.instanceMethod yX2_permittedPairs, Cond.selects RX2 yX2_permittedPairs yX2_permittedPairs, Cond.code yX2_permittedPairs cX2_permittedPairs 3 (some .int), Cond.fieldLink RX2 27 "LayeredCharters$Rules" "pairs" "[I", Cond.methodLink RX2 77 yJ6_bitCount_0f7a4, Cond.static yJ6_bitCount_0f7a4, Cond.initialized RJ6, Cond.code yJ6_bitCount_0f7a4 cJ6_bitCount_0f7a4 1 (some .int), Cond.constant RJ6 265 (1431655765), Cond.constant RJ6 266 (858993459), Cond.constant RJ6 267 (252645135), Cond.methodLink RX2 74 yX2_heldPairsOfSeal, Cond.instanceMethod yX2_heldPairsOfSeal, Cond.selects RX2 yX2_heldPairsOfSeal yX2_heldPairsOfSeal, Cond.code yX2_heldPairsOfSeal cX2_heldPairsOfSeal 4 (some .int), Cond.fieldLink RX2 24 "LayeredCharters$Rules" "seals" "[I", Cond.methodLink RX2 62 yX2_heldPairs, Cond.instanceMethod yX2_heldPairs]
def wsL_holds_r3 : List Cond := [Cond.selects RX2 yX2_heldPairs yX2_heldPairs, Cond.code yX2_heldPairs cX2_heldPairs 4 (some .int), Cond.methodLink RX2 82 yX2_lifts, Cond.instanceMethod yX2_lifts, Cond.selects RX2 yX2_lifts yX2_lifts, Cond.code yX2_lifts cX2_lifts 3 (some .boolean), Cond.fieldLink RX2 11 "LayeredCharters$Rules" "layers" "[I", Cond.methodLink RX4 149 yX4_isIdle, Cond.instanceMethod yX4_isIdle, Cond.selects RX4 yX4_isIdle yX4_isIdle, Cond.code yX4_isIdle cX4_isIdle 3 (some .boolean), Cond.methodLink RX4 195 yX4_triplesWithout, Cond.instanceMethod yX4_triplesWithout, Cond.selects RX4 yX4_triplesWithout yX4_triplesWithout, Cond.code yX4_triplesWithout cX4_triplesWithout 2 (some .int), Cond.fieldLink RX4 37 "LayeredCharters" "trial" "LLayeredCharters$Rules;", Cond.methodLink RX4 219 yX2_copyFrom, Cond.instanceMethod yX2_copyFrom, Cond.selects RX2 yX2_copyFrom yX2_copyFrom, Cond.code yX2_copyFrom cX2_copyFrom 2 none, Cond.fieldLink RX2 18 "LayeredCharters$Rules" "crafts" "[I", Cond.fieldLink RX2 21 "LayeredCharters$Rules" "deeds" "[I", Cond.static yX4_copyRow, Cond.code yX4_copyRow cX4_copyRow 2 none]
def wsL_holds_r4 : List Cond := [Cond.methodLink RX4 229 Lib.Math.min.name, Cond.static Lib.Math.min.name, Cond.initialized "java/lang/Math", Cond.code Lib.Math.min.name Lib.Math.min.code 2 (some .int), Cond.methodLink RX4 232 arraycopyName, Cond.native arraycopyName, Cond.static arraycopyName, Cond.initialized "java/lang/System", Cond.methodLink RX4 68 yX2_remove, Cond.instanceMethod yX2_remove, Cond.selects RX2 yX2_remove yX2_remove, Cond.code yX2_remove cX2_remove 2 none, Cond.methodLink RX2 42 yX2_has, Cond.instanceMethod yX2_has, Cond.selects RX2 yX2_has yX2_has, Cond.code yX2_has cX2_has 2 (some .boolean), Cond.static yX4_closeGap, Cond.code yX4_closeGap cX4_closeGap 3 none, Cond.methodLink RX4 224 Lib.Math.max.name, Cond.static Lib.Math.max.name, Cond.code Lib.Math.max.name Lib.Math.max.code 2 (some .int), Cond.methodLink RX4 180 yX2_oddPairs, Cond.instanceMethod yX2_oddPairs, Cond.selects RX2 yX2_oddPairs yX2_oddPairs]
def wsL_holds_r5 : List Cond := [Cond.code yX2_oddPairs cX2_oddPairs 3 (some .int), Cond.methodLink RX2 54 yX2_oddsOf, Cond.instanceMethod yX2_oddsOf, Cond.selects RX2 yX2_oddsOf yX2_oddsOf, Cond.code yX2_oddsOf cX2_oddsOf 4 (some .int), Cond.methodLink RX2 50 yX2_areAtOdds, Cond.instanceMethod yX2_areAtOdds, Cond.selects RX2 yX2_areAtOdds yX2_areAtOdds, Cond.code yX2_areAtOdds cX2_areAtOdds 3 (some .boolean), Cond.methodLink RX4 186 yX0_refusalsOf, Cond.instanceMethod yX0_refusalsOf, Cond.selects RX0 yX0_refusalsOf yX0_refusalsOf, Cond.initialized RX0, Cond.code yX0_refusalsOf cX0_refusalsOf 2 (some .int), Cond.fieldLink RX0 24 "LayeredCharters$Guild" "refusals" "[I", Cond.static yX4_isBetween, Cond.code yX4_isBetween cX4_isBetween 3 (some .boolean), Cond.methodLink RL 25 yX4_rule, Cond.instanceMethod yX4_rule, Cond.selects RX4 yX4_rule yX4_rule, Cond.code yX4_rule cX4_rule 3 (some .int), Cond.fieldLink RX4 79 "LayeredCharters$Rules" "layers" "[I", Cond.fieldLink RX4 76 "LayeredCharters$Rules" "kinds" "[I", Cond.fieldLink RX4 142 "LayeredCharters$Rules" "crafts" "[I"]
def wsL_holds_r6 : List Cond := [Cond.fieldLink RX4 143 "LayeredCharters$Rules" "deeds" "[I", Cond.fieldLink RX4 72 "LayeredCharters$Rules" "seals" "[I", Cond.fieldLink RX4 157 "LayeredCharters$Rules" "pairs" "[I", Cond.methodLink RX4 65 yX2_has, Cond.methodLink RX4 153 yX2_oddsOf, Cond.methodLink RX4 160 yJ6_bitCount_0f7a4, Cond.methodLink RL 72 yX4_allowed, Cond.instanceMethod yX4_allowed, Cond.selects RX4 yX4_allowed yX4_allowed, Cond.code yX4_allowed cX4_allowed 7 (some .int), Cond.methodLink RX4 99 yX4_isCraft, Cond.static yX4_isCraft, Cond.code yX4_isCraft cX4_isCraft 1 (some .boolean), Cond.methodLink RX4 45 yX4_isBetween, Cond.methodLink RX4 123 yX4_isDeed, Cond.static yX4_isDeed, Cond.code yX4_isDeed cX4_isDeed 1 (some .boolean), Cond.methodLink RX4 102 yX4_isRank, Cond.static yX4_isRank, Cond.code yX4_isRank cX4_isRank 1 (some .boolean), Cond.methodLink RX4 129 yX4_pairsOf, Cond.static yX4_pairsOf, Cond.code yX4_pairsOf cX4_pairsOf 5 (some .int), Cond.methodLink RX4 171 yX2_allowsByLayers]
def wsL_holds_r7 : List Cond := [Cond.instanceMethod yX2_allowsByLayers, Cond.selects RX2 yX2_allowsByLayers yX2_allowsByLayers, Cond.code yX2_allowsByLayers cX2_allowsByLayers 5 (some .boolean), Cond.methodLink RX2 69 Lib.Math.max.name, Cond.methodLink RX2 65 yX2_strongest, Cond.instanceMethod yX2_strongest, Cond.selects RX2 yX2_strongest yX2_strongest, Cond.code yX2_strongest cX2_strongest 6 (some .int), Cond.methodLink RX4 133 yX2_reason, Cond.instanceMethod yX2_reason, Cond.selects RX2 yX2_reason yX2_reason, Cond.code yX2_reason cX2_reason 6 (some .int), Cond.methodLink RL 76 yX4_leastRank, Cond.instanceMethod yX4_leastRank, Cond.selects RX4 yX4_leastRank yX4_leastRank, Cond.code yX4_leastRank cX4_leastRank 3 (some .int), Cond.methodLink RX4 192 yX2_leastRankFor, Cond.instanceMethod yX2_leastRankFor, Cond.selects RX2 yX2_leastRankFor yX2_leastRankFor, Cond.code yX2_leastRankFor cX2_leastRankFor 3 (some .int), Cond.methodLink RL 15 yL_low, Cond.static yL_low, Cond.initialized RL, Cond.code yL_low cL_low 2 (some .int)]
def wsL_holds_r8 : List Cond := [Cond.constant RL 8 (2147483647), Cond.methodLink RL 60 yX4_why, Cond.instanceMethod yX4_why, Cond.selects RX4 yX4_why yX4_why, Cond.code yX4_why cX4_why 4 (some .int), Cond.methodLink RL 79 yL_why, Cond.static yL_why, Cond.code yL_why cL_why 13 (some .int), Cond.arrayClass .int, Cond.methodLink RL 64 yL_read, Cond.static yL_read, Cond.code yL_read cL_read 4 none, Cond.methodLink RL 68 yL_fits, Cond.static yL_fits, Cond.code yL_fits cL_fits 3 (some .boolean), Cond.methodLink RL 82 yX4_ifStruck, Cond.instanceMethod yX4_ifStruck, Cond.selects RX4 yX4_ifStruck yX4_ifStruck, Cond.code yX4_ifStruck cX4_ifStruck 2 (some .int), Cond.methodLink RL 44 yX4_member, Cond.instanceMethod yX4_member, Cond.selects RX4 yX4_member yX4_member, Cond.code yX4_member cX4_member 3 (some .int), Cond.fieldLink RX4 126 "LayeredCharters$Guild" "crafts" "[I"]
def wsL_holds_r9 : List Cond := [Cond.fieldLink RX4 120 "LayeredCharters$Guild" "ranks" "[I", Cond.fieldLink RX4 116 "LayeredCharters$Guild" "done" "[I", Cond.fieldLink RX4 168 "LayeredCharters$Guild" "refused" "[I", Cond.methodLink RX4 115 yX0_has, Cond.instanceMethod yX0_has, Cond.selects RX0 yX0_has yX0_has, Cond.code yX0_has cX0_has 2 (some .boolean), Cond.fieldLink RX0 27 "LayeredCharters$Guild" "size" "I", Cond.methodLink RX4 165 yX4_deedsAllowed, Cond.instanceMethod yX4_deedsAllowed, Cond.selects RX4 yX4_deedsAllowed yX4_deedsAllowed, Cond.code yX4_deedsAllowed cX4_deedsAllowed 3 (some .int), Cond.methodLink RX4 221 yX2_allowedPairs, Cond.instanceMethod yX2_allowedPairs, Cond.selects RX2 yX2_allowedPairs yX2_allowedPairs, Cond.code yX2_allowedPairs cX2_allowedPairs 4 (some .int)]
def wsL_holds : List Cond := .code yL_holds cL_holds 12 (some .boolean) :: ((wsL_holds_r1 ++ (wsL_holds_r2 ++ (wsL_holds_r3 ++ (wsL_holds_r4 ++ (wsL_holds_r5 ++ (wsL_holds_r6 ++ (wsL_holds_r7 ++ (wsL_holds_r8 ++ wsL_holds_r9)))))))) ++ wsX40 ++ wsX30 ++ wsX20 ++ wsX00 ++ wsX10)
def wsL_tries_r1 : List Cond := [Cond.methodLink RL 9 yX4_count, Cond.instanceMethod yX4_count, Cond.selects RX4 yX4_count yX4_count, Cond.initialized RX4, Cond.code yX4_count cX4_count 2 (some .int), Cond.fieldLink RX4 12 "LayeredCharters" "now" "LLayeredCharters$State;", Cond.fieldLink RX4 52 "LayeredCharters$State" "rules" "LLayeredCharters$Rules;", Cond.fieldLink RX4 55 "LayeredCharters$Rules" "size" "I", Cond.fieldLink RX4 105 "LayeredCharters$State" "guild" "LLayeredCharters$Guild;", Cond.fieldLink RX4 109 "LayeredCharters$Guild" "size" "I", Cond.fieldLink RX4 183 "LayeredCharters$Guild" "doneInAll" "I", Cond.fieldLink RX4 19 "LayeredCharters" "pad" "LLayeredCharters$Pad;", Cond.fieldLink RX4 189 "LayeredCharters$Pad" "length" "I", Cond.fieldLink RX4 30 "LayeredCharters" "remembered" "I", Cond.methodLink RX4 174 yX2_sizeOfKind, Cond.instanceMethod yX2_sizeOfKind, Cond.selects RX2 yX2_sizeOfKind yX2_sizeOfKind, Cond.initialized RX2, Cond.code yX2_sizeOfKind cX2_sizeOfKind 4 (some .int), Cond.fieldLink RX2 30 "LayeredCharters$Rules" "size" "I", Cond.fieldLink RX2 15 "LayeredCharters$Rules" "kinds" "[I", Cond.methodLink RX4 177 yX4_idleRules, Cond.instanceMethod yX4_idleRules, Cond.selects RX4 yX4_idleRules yX4_idleRules]
def wsL_tries_r2 : List Cond := [Cond.code yX4_idleRules cX4_idleRules 4 (some .int), Cond.methodLink RX4 146 yX2_triples, Cond.instanceMethod yX2_triples, Cond.selects RX2 yX2_triples yX2_triples, Cond.code yX2_triples cX2_triples 4 (some .int), Cond.methodLink RX2 58 yX2_permittedPairs, Cond.instanceMethod yX2_permittedPairs, Cond.selects RX2 yX2_permittedPairs yX2_permittedPairs, Cond.code yX2_permittedPairs cX2_permittedPairs 3 (some .int), Cond.fieldLink RX2 27 "LayeredCharters$Rules" "pairs" "[I", Cond.methodLink RX2 77 yJ6_bitCount_0f7a4, Cond.static yJ6_bitCount_0f7a4, Cond.initialized RJ6, Cond.code yJ6_bitCount_0f7a4 cJ6_bitCount_0f7a4 1 (some .int), Cond.constant RJ6 265 (1431655765), Cond.constant RJ6 266 (858993459), Cond.constant RJ6 267 (252645135), Cond.methodLink RX2 74 yX2_heldPairsOfSeal, Cond.instanceMethod yX2_heldPairsOfSeal, Cond.selects RX2 yX2_heldPairsOfSeal yX2_heldPairsOfSeal, Cond.code yX2_heldPairsOfSeal cX2_heldPairsOfSeal 4 (some .int), Cond.fieldLink RX2 24 "LayeredCharters$Rules" "seals" "[I", Cond.methodLink RX2 62 yX2_heldPairs, Cond.instanceMethod yX2_heldPairs]
def wsL_tries_r3 : List Cond := [Cond.selects RX2 yX2_heldPairs yX2_heldPairs, Cond.code yX2_heldPairs cX2_heldPairs 4 (some .int), Cond.methodLink RX2 82 yX2_lifts, Cond.instanceMethod yX2_lifts, Cond.selects RX2 yX2_lifts yX2_lifts, Cond.code yX2_lifts cX2_lifts 3 (some .boolean), Cond.fieldLink RX2 11 "LayeredCharters$Rules" "layers" "[I", Cond.methodLink RX4 149 yX4_isIdle, Cond.instanceMethod yX4_isIdle, Cond.selects RX4 yX4_isIdle yX4_isIdle, Cond.code yX4_isIdle cX4_isIdle 3 (some .boolean), Cond.methodLink RX4 195 yX4_triplesWithout, Cond.instanceMethod yX4_triplesWithout, Cond.selects RX4 yX4_triplesWithout yX4_triplesWithout, Cond.code yX4_triplesWithout cX4_triplesWithout 2 (some .int), Cond.fieldLink RX4 37 "LayeredCharters" "trial" "LLayeredCharters$Rules;", Cond.methodLink RX4 219 yX2_copyFrom, Cond.instanceMethod yX2_copyFrom, Cond.selects RX2 yX2_copyFrom yX2_copyFrom, Cond.code yX2_copyFrom cX2_copyFrom 2 none, Cond.fieldLink RX2 18 "LayeredCharters$Rules" "crafts" "[I", Cond.fieldLink RX2 21 "LayeredCharters$Rules" "deeds" "[I", Cond.static yX4_copyRow, Cond.code yX4_copyRow cX4_copyRow 2 none]
def wsL_tries_r4 : List Cond := [Cond.methodLink RX4 229 Lib.Math.min.name, Cond.static Lib.Math.min.name, Cond.initialized "java/lang/Math", Cond.code Lib.Math.min.name Lib.Math.min.code 2 (some .int), Cond.methodLink RX4 232 arraycopyName, Cond.native arraycopyName, Cond.static arraycopyName, Cond.initialized "java/lang/System", Cond.methodLink RX4 68 yX2_remove, Cond.instanceMethod yX2_remove, Cond.selects RX2 yX2_remove yX2_remove, Cond.code yX2_remove cX2_remove 2 none, Cond.methodLink RX2 42 yX2_has, Cond.instanceMethod yX2_has, Cond.selects RX2 yX2_has yX2_has, Cond.code yX2_has cX2_has 2 (some .boolean), Cond.static yX4_closeGap, Cond.code yX4_closeGap cX4_closeGap 3 none, Cond.methodLink RX4 224 Lib.Math.max.name, Cond.static Lib.Math.max.name, Cond.code Lib.Math.max.name Lib.Math.max.code 2 (some .int), Cond.methodLink RX4 180 yX2_oddPairs, Cond.instanceMethod yX2_oddPairs, Cond.selects RX2 yX2_oddPairs yX2_oddPairs]
def wsL_tries_r5 : List Cond := [Cond.code yX2_oddPairs cX2_oddPairs 3 (some .int), Cond.methodLink RX2 54 yX2_oddsOf, Cond.instanceMethod yX2_oddsOf, Cond.selects RX2 yX2_oddsOf yX2_oddsOf, Cond.code yX2_oddsOf cX2_oddsOf 4 (some .int), Cond.methodLink RX2 50 yX2_areAtOdds, Cond.instanceMethod yX2_areAtOdds, Cond.selects RX2 yX2_areAtOdds yX2_areAtOdds, Cond.code yX2_areAtOdds cX2_areAtOdds 3 (some .boolean), Cond.methodLink RX4 186 yX0_refusalsOf, Cond.instanceMethod yX0_refusalsOf, Cond.selects RX0 yX0_refusalsOf yX0_refusalsOf, Cond.initialized RX0, Cond.code yX0_refusalsOf cX0_refusalsOf 2 (some .int), Cond.fieldLink RX0 24 "LayeredCharters$Guild" "refusals" "[I", Cond.static yX4_isBetween, Cond.code yX4_isBetween cX4_isBetween 3 (some .boolean), Cond.methodLink RL 15 yL_low, Cond.static yL_low, Cond.initialized RL, Cond.code yL_low cL_low 2 (some .int), Cond.constant RL 8 (2147483647), Cond.methodLink RL 82 yX4_ifStruck, Cond.instanceMethod yX4_ifStruck]
def wsL_tries_r6 : List Cond := [Cond.selects RX4 yX4_ifStruck yX4_ifStruck, Cond.code yX4_ifStruck cX4_ifStruck 2 (some .int), Cond.methodLink RX4 65 yX2_has, Cond.methodLink RL 25 yX4_rule, Cond.instanceMethod yX4_rule, Cond.selects RX4 yX4_rule yX4_rule, Cond.code yX4_rule cX4_rule 3 (some .int), Cond.fieldLink RX4 79 "LayeredCharters$Rules" "layers" "[I", Cond.fieldLink RX4 76 "LayeredCharters$Rules" "kinds" "[I", Cond.fieldLink RX4 142 "LayeredCharters$Rules" "crafts" "[I", Cond.fieldLink RX4 143 "LayeredCharters$Rules" "deeds" "[I", Cond.fieldLink RX4 72 "LayeredCharters$Rules" "seals" "[I", Cond.fieldLink RX4 157 "LayeredCharters$Rules" "pairs" "[I", Cond.methodLink RX4 153 yX2_oddsOf, Cond.methodLink RX4 160 yJ6_bitCount_0f7a4, Cond.methodLink RL 28 yX4_strike, Cond.instanceMethod yX4_strike, Cond.selects RX4 yX4_strike yX4_strike, Cond.code yX4_strike cX4_strike 2 (some .int), Cond.methodLink RX4 58 yX4_remember, Cond.instanceMethod yX4_remember, Cond.selects RX4 yX4_remember yX4_remember, Cond.code yX4_remember cX4_remember 1 none, Cond.fieldLink RX4 27 "LayeredCharters" "history" "[LLayeredCharters$State;"]
def wsL_tries_r7 : List Cond := [Cond.methodLink RX4 216 yX4_dropOldest, Cond.instanceMethod yX4_dropOldest, Cond.selects RX4 yX4_dropOldest yX4_dropOldest, Cond.code yX4_dropOldest cX4_dropOldest 3 none, Cond.methodLink RX4 212 yX4_copyInto, Cond.instanceMethod yX4_copyInto, Cond.selects RX4 yX4_copyInto yX4_copyInto, Cond.code yX4_copyInto cX4_copyInto 3 (some (.object "LayeredCharters$State")), Cond.classLink RX4 9 RX3, Cond.instantiable RX3 2, Cond.initialized RX3, Cond.instanceMethod yX3_init, Cond.code yX3_init cX3_init 1 none, Cond.methodLink RX3 1 objectInit, Cond.instanceMethod objectInit, Cond.code objectInit ⟨#[0xb1]⟩ 1 none, Cond.classLink RX3 7 RX2, Cond.instantiable RX2 7, Cond.fieldLink RX3 10 "LayeredCharters$State" "rules" "LLayeredCharters$Rules;", Cond.classLink RX3 16 RX0, Cond.instantiable RX0 7, Cond.fieldLink RX3 19 "LayeredCharters$State" "guild" "LLayeredCharters$Guild;", Cond.instanceMethod yX2_init, Cond.code yX2_init cX2_init 1 none]
def wsL_tries_r8 : List Cond := [Cond.methodLink RX2 3 objectInit, Cond.arrayClass .int, Cond.instanceMethod yX0_init, Cond.code yX0_init cX0_init 1 none, Cond.methodLink RX0 3 objectInit, Cond.fieldLink RX0 9 "LayeredCharters$Guild" "crafts" "[I", Cond.fieldLink RX0 15 "LayeredCharters$Guild" "ranks" "[I", Cond.fieldLink RX0 18 "LayeredCharters$Guild" "done" "[I", Cond.fieldLink RX0 21 "LayeredCharters$Guild" "refused" "[I", Cond.fieldLink RX0 27 "LayeredCharters$Guild" "size" "I", Cond.fieldLink RX0 31 "LayeredCharters$Guild" "doneInAll" "I", Cond.methodLink RX4 208 yX3_copyFrom, Cond.instanceMethod yX3_copyFrom, Cond.selects RX3 yX3_copyFrom yX3_copyFrom, Cond.code yX3_copyFrom cX3_copyFrom 2 none, Cond.methodLink RX3 23 yX2_copyFrom, Cond.methodLink RX3 27 yX0_copyFrom, Cond.instanceMethod yX0_copyFrom, Cond.selects RX0 yX0_copyFrom yX0_copyFrom, Cond.code yX0_copyFrom cX0_copyFrom 2 none, Cond.methodLink RL 85 yX4_undo, Cond.instanceMethod yX4_undo, Cond.selects RX4 yX4_undo yX4_undo, Cond.code yX4_undo cX4_undo 2 (some .int)]
def wsL_tries_r9 : List Cond := [Cond.methodLink RX4 45 yX4_isBetween, Cond.methodLink RL 88 yX4_worstBan, Cond.instanceMethod yX4_worstBan, Cond.selects RX4 yX4_worstBan yX4_worstBan, Cond.code yX4_worstBan cX4_worstBan 5 (some .int), Cond.methodLink RL 91 yX4_bestWaiver, Cond.instanceMethod yX4_bestWaiver, Cond.selects RX4 yX4_bestWaiver yX4_bestWaiver, Cond.code yX4_bestWaiver cX4_bestWaiver 6 (some .int), Cond.methodLink RX4 49 yX4_isSeal, Cond.static yX4_isSeal, Cond.code yX4_isSeal cX4_isSeal 1 (some .boolean), Cond.methodLink RX4 198 yX4_triplesWithWaiver, Cond.instanceMethod yX4_triplesWithWaiver, Cond.selects RX4 yX4_triplesWithWaiver yX4_triplesWithWaiver, Cond.code yX4_triplesWithWaiver cX4_triplesWithWaiver 3 (some .int), Cond.methodLink RX4 61 yX2_append, Cond.instanceMethod yX2_append, Cond.selects RX2 yX2_append yX2_append, Cond.code yX2_append cX2_append 6 none, Cond.static yX4_pairsOf, Cond.code yX4_pairsOf cX4_pairsOf 5 (some .int), Cond.methodLink RL 21 yX4_add, Cond.instanceMethod yX4_add]
def wsL_tries_r10 : List Cond := [Cond.selects RX4 yX4_add yX4_add, Cond.code yX4_add cX4_add 6 (some .int), Cond.methodLink RX4 41 yX4_isLayer, Cond.static yX4_isLayer, Cond.code yX4_isLayer cX4_isLayer 1 (some .boolean)]
def wsL_tries : List Cond := .code yL_tries cL_tries 14 (some .boolean) :: ((wsL_tries_r1 ++ (wsL_tries_r2 ++ (wsL_tries_r3 ++ (wsL_tries_r4 ++ (wsL_tries_r5 ++ (wsL_tries_r6 ++ (wsL_tries_r7 ++ (wsL_tries_r8 ++ (wsL_tries_r9 ++ wsL_tries_r10))))))))) ++ wsX40 ++ wsX30 ++ wsX20 ++ wsX00 ++ wsX10)
def wsL_law_r1 : List Cond := [Cond.classLink RL 10 RX4, Cond.instantiable RX4 6, Cond.initialized RX4, Cond.arrayClass .int, Cond.methodLink RL 94 yX4_init, Cond.instanceMethod yX4_init, Cond.code yX4_init cX4_init 1 none, Cond.methodLink RX4 3 objectInit, Cond.instanceMethod objectInit, Cond.code objectInit ⟨#[0xb1]⟩ 1 none, Cond.classLink RX4 9 RX3, Cond.instantiable RX3 2, Cond.initialized RX3, Cond.fieldLink RX4 12 "LayeredCharters" "now" "LLayeredCharters$State;", Cond.classLink RX4 16 RX1, Cond.instantiable RX1 2, Cond.initialized RX1, Cond.fieldLink RX4 19 "LayeredCharters" "pad" "LLayeredCharters$Pad;", Cond.fieldLink RX4 23 "LayeredCharters" "slots" "[LLayeredCharters$State;", Cond.fieldLink RX4 27 "LayeredCharters" "history" "[LLayeredCharters$State;", Cond.fieldLink RX4 30 "LayeredCharters" "remembered" "I", Cond.classLink RX4 34 RX2, Cond.instantiable RX2 7, Cond.initialized RX2]
def wsL_law_r2 : List Cond := [Cond.fieldLink RX4 37 "LayeredCharters" "trial" "LLayeredCharters$Rules;", Cond.instanceMethod yX3_init, Cond.code yX3_init cX3_init 1 none, Cond.methodLink RX3 1 objectInit, Cond.classLink RX3 7 RX2, Cond.fieldLink RX3 10 "LayeredCharters$State" "rules" "LLayeredCharters$Rules;", Cond.classLink RX3 16 RX0, Cond.instantiable RX0 7, Cond.initialized RX0, Cond.fieldLink RX3 19 "LayeredCharters$State" "guild" "LLayeredCharters$Guild;", Cond.instanceMethod yX2_init, Cond.code yX2_init cX2_init 1 none, Cond.methodLink RX2 3 objectInit, Cond.fieldLink RX2 11 "LayeredCharters$Rules" "layers" "[I", Cond.fieldLink RX2 15 "LayeredCharters$Rules" "kinds" "[I", Cond.fieldLink RX2 18 "LayeredCharters$Rules" "crafts" "[I", Cond.fieldLink RX2 21 "LayeredCharters$Rules" "deeds" "[I", Cond.fieldLink RX2 24 "LayeredCharters$Rules" "seals" "[I", Cond.fieldLink RX2 27 "LayeredCharters$Rules" "pairs" "[I", Cond.fieldLink RX2 30 "LayeredCharters$Rules" "size" "I", Cond.instanceMethod yX0_init, Cond.code yX0_init cX0_init 1 none, Cond.methodLink RX0 3 objectInit, Cond.fieldLink RX0 9 "LayeredCharters$Guild" "crafts" "[I"]
def wsL_law_r3 : List Cond := [Cond.fieldLink RX0 15 "LayeredCharters$Guild" "ranks" "[I", Cond.fieldLink RX0 18 "LayeredCharters$Guild" "done" "[I", Cond.fieldLink RX0 21 "LayeredCharters$Guild" "refused" "[I", Cond.fieldLink RX0 24 "LayeredCharters$Guild" "refusals" "[I", Cond.fieldLink RX0 27 "LayeredCharters$Guild" "size" "I", Cond.fieldLink RX0 31 "LayeredCharters$Guild" "doneInAll" "I", Cond.instanceMethod yX1_init, Cond.code yX1_init cX1_init 1 none, Cond.methodLink RX1 3 objectInit, Cond.arrayClass .char, Cond.fieldLink RX1 9 "LayeredCharters$Pad" "signs" "[C", Cond.fieldLink RX1 15 "LayeredCharters$Pad" "length" "I", Cond.methodLink RL 95 yL_holds, Cond.static yL_holds, Cond.initialized RL, Cond.code yL_holds cL_holds 12 (some .boolean), Cond.methodLink RL 9 yX4_count, Cond.instanceMethod yX4_count, Cond.selects RX4 yX4_count yX4_count, Cond.code yX4_count cX4_count 2 (some .int), Cond.fieldLink RX4 52 "LayeredCharters$State" "rules" "LLayeredCharters$Rules;", Cond.fieldLink RX4 55 "LayeredCharters$Rules" "size" "I", Cond.fieldLink RX4 105 "LayeredCharters$State" "guild" "LLayeredCharters$Guild;", Cond.fieldLink RX4 109 "LayeredCharters$Guild" "size" "I"]
def wsL_law_r4 : List Cond := [Cond.fieldLink RX4 183 "LayeredCharters$Guild" "doneInAll" "I", Cond.fieldLink RX4 189 "LayeredCharters$Pad" "length" "I", Cond.methodLink RX4 174 yX2_sizeOfKind, Cond.instanceMethod yX2_sizeOfKind, Cond.selects RX2 yX2_sizeOfKind yX2_sizeOfKind, Cond.code yX2_sizeOfKind cX2_sizeOfKind 4 (some .int), Cond.methodLink RX4 177 yX4_idleRules, Cond.instanceMethod yX4_idleRules, Cond.selects RX4 yX4_idleRules yX4_idleRules, Cond.code yX4_idleRules cX4_idleRules 4 (some .int), Cond.methodLink RX4 146 yX2_triples, Cond.instanceMethod yX2_triples, Cond.selects RX2 yX2_triples yX2_triples, Cond.code yX2_triples cX2_triples 4 (some .int), Cond.methodLink RX2 58 yX2_permittedPairs, Cond.instanceMethod yX2_permittedPairs, Cond.selects RX2 yX2_permittedPairs yX2_permittedPairs, Cond.code yX2_permittedPairs cX2_permittedPairs 3 (some .int), Cond.methodLink RX2 77 yJ6_bitCount_0f7a4, Cond.static yJ6_bitCount_0f7a4, Cond.initialized RJ6, Cond.code yJ6_bitCount_0f7a4 cJ6_bitCount_0f7a4 1 (some .int), Cond.constant RJ6 265 (1431655765), Cond.constant RJ6 266 (858993459)]
def wsL_law_r5 : List Cond := [Cond.constant RJ6 267 (252645135), Cond.methodLink RX2 74 yX2_heldPairsOfSeal, Cond.instanceMethod yX2_heldPairsOfSeal, Cond.selects RX2 yX2_heldPairsOfSeal yX2_heldPairsOfSeal, Cond.code yX2_heldPairsOfSeal cX2_heldPairsOfSeal 4 (some .int), Cond.methodLink RX2 62 yX2_heldPairs, Cond.instanceMethod yX2_heldPairs, Cond.selects RX2 yX2_heldPairs yX2_heldPairs, Cond.code yX2_heldPairs cX2_heldPairs 4 (some .int), Cond.methodLink RX2 82 yX2_lifts, Cond.instanceMethod yX2_lifts, Cond.selects RX2 yX2_lifts yX2_lifts, Cond.code yX2_lifts cX2_lifts 3 (some .boolean), Cond.methodLink RX4 149 yX4_isIdle, Cond.instanceMethod yX4_isIdle, Cond.selects RX4 yX4_isIdle yX4_isIdle, Cond.code yX4_isIdle cX4_isIdle 3 (some .boolean), Cond.methodLink RX4 195 yX4_triplesWithout, Cond.instanceMethod yX4_triplesWithout, Cond.selects RX4 yX4_triplesWithout yX4_triplesWithout, Cond.code yX4_triplesWithout cX4_triplesWithout 2 (some .int), Cond.methodLink RX4 219 yX2_copyFrom, Cond.instanceMethod yX2_copyFrom, Cond.selects RX2 yX2_copyFrom yX2_copyFrom]
def wsL_law_r6 : List Cond := [Cond.code yX2_copyFrom cX2_copyFrom 2 none, Cond.static yX4_copyRow, Cond.code yX4_copyRow cX4_copyRow 2 none, Cond.methodLink RX4 229 Lib.Math.min.name, Cond.static Lib.Math.min.name, Cond.initialized "java/lang/Math", Cond.code Lib.Math.min.name Lib.Math.min.code 2 (some .int), Cond.methodLink RX4 232 arraycopyName, Cond.native arraycopyName, Cond.static arraycopyName, Cond.initialized "java/lang/System", Cond.methodLink RX4 68 yX2_remove, Cond.instanceMethod yX2_remove, Cond.selects RX2 yX2_remove yX2_remove, Cond.code yX2_remove cX2_remove 2 none, Cond.methodLink RX2 42 yX2_has, Cond.instanceMethod yX2_has, Cond.selects RX2 yX2_has yX2_has, Cond.code yX2_has cX2_has 2 (some .boolean), Cond.static yX4_closeGap, Cond.code yX4_closeGap cX4_closeGap 3 none, Cond.methodLink RX4 224 Lib.Math.max.name, Cond.static Lib.Math.max.name, Cond.code Lib.Math.max.name Lib.Math.max.code 2 (some .int)]
def wsL_law_r7 : List Cond := [Cond.methodLink RX4 180 yX2_oddPairs, Cond.instanceMethod yX2_oddPairs, Cond.selects RX2 yX2_oddPairs yX2_oddPairs, Cond.code yX2_oddPairs cX2_oddPairs 3 (some .int), Cond.methodLink RX2 54 yX2_oddsOf, Cond.instanceMethod yX2_oddsOf, Cond.selects RX2 yX2_oddsOf yX2_oddsOf, Cond.code yX2_oddsOf cX2_oddsOf 4 (some .int), Cond.methodLink RX2 50 yX2_areAtOdds, Cond.instanceMethod yX2_areAtOdds, Cond.selects RX2 yX2_areAtOdds yX2_areAtOdds, Cond.code yX2_areAtOdds cX2_areAtOdds 3 (some .boolean), Cond.methodLink RX4 186 yX0_refusalsOf, Cond.instanceMethod yX0_refusalsOf, Cond.selects RX0 yX0_refusalsOf yX0_refusalsOf, Cond.code yX0_refusalsOf cX0_refusalsOf 2 (some .int), Cond.static yX4_isBetween, Cond.code yX4_isBetween cX4_isBetween 3 (some .boolean), Cond.methodLink RL 25 yX4_rule, Cond.instanceMethod yX4_rule, Cond.selects RX4 yX4_rule yX4_rule, Cond.code yX4_rule cX4_rule 3 (some .int), Cond.fieldLink RX4 79 "LayeredCharters$Rules" "layers" "[I", Cond.fieldLink RX4 76 "LayeredCharters$Rules" "kinds" "[I"]
def wsL_law_r8 : List Cond := [Cond.fieldLink RX4 142 "LayeredCharters$Rules" "crafts" "[I", Cond.fieldLink RX4 143 "LayeredCharters$Rules" "deeds" "[I", Cond.fieldLink RX4 72 "LayeredCharters$Rules" "seals" "[I", Cond.fieldLink RX4 157 "LayeredCharters$Rules" "pairs" "[I", Cond.methodLink RX4 65 yX2_has, Cond.methodLink RX4 153 yX2_oddsOf, Cond.methodLink RX4 160 yJ6_bitCount_0f7a4, Cond.methodLink RL 72 yX4_allowed, Cond.instanceMethod yX4_allowed, Cond.selects RX4 yX4_allowed yX4_allowed, Cond.code yX4_allowed cX4_allowed 7 (some .int), Cond.methodLink RX4 99 yX4_isCraft, Cond.static yX4_isCraft, Cond.code yX4_isCraft cX4_isCraft 1 (some .boolean), Cond.methodLink RX4 45 yX4_isBetween, Cond.methodLink RX4 123 yX4_isDeed, Cond.static yX4_isDeed, Cond.code yX4_isDeed cX4_isDeed 1 (some .boolean), Cond.methodLink RX4 102 yX4_isRank, Cond.static yX4_isRank, Cond.code yX4_isRank cX4_isRank 1 (some .boolean), Cond.methodLink RX4 129 yX4_pairsOf, Cond.static yX4_pairsOf, Cond.code yX4_pairsOf cX4_pairsOf 5 (some .int)]
def wsL_law_r9 : List Cond := [Cond.methodLink RX4 171 yX2_allowsByLayers, Cond.instanceMethod yX2_allowsByLayers, Cond.selects RX2 yX2_allowsByLayers yX2_allowsByLayers, Cond.code yX2_allowsByLayers cX2_allowsByLayers 5 (some .boolean), Cond.methodLink RX2 69 Lib.Math.max.name, Cond.methodLink RX2 65 yX2_strongest, Cond.instanceMethod yX2_strongest, Cond.selects RX2 yX2_strongest yX2_strongest, Cond.code yX2_strongest cX2_strongest 6 (some .int), Cond.methodLink RX4 133 yX2_reason, Cond.instanceMethod yX2_reason, Cond.selects RX2 yX2_reason yX2_reason, Cond.code yX2_reason cX2_reason 6 (some .int), Cond.methodLink RL 76 yX4_leastRank, Cond.instanceMethod yX4_leastRank, Cond.selects RX4 yX4_leastRank yX4_leastRank, Cond.code yX4_leastRank cX4_leastRank 3 (some .int), Cond.methodLink RX4 192 yX2_leastRankFor, Cond.instanceMethod yX2_leastRankFor, Cond.selects RX2 yX2_leastRankFor yX2_leastRankFor, Cond.code yX2_leastRankFor cX2_leastRankFor 3 (some .int), Cond.methodLink RL 15 yL_low, Cond.static yL_low, Cond.code yL_low cL_low 2 (some .int)]
def wsL_law_r10 : List Cond := [Cond.constant RL 8 (2147483647), Cond.methodLink RL 60 yX4_why, Cond.instanceMethod yX4_why, Cond.selects RX4 yX4_why yX4_why, Cond.code yX4_why cX4_why 4 (some .int), Cond.methodLink RL 79 yL_why, Cond.static yL_why, Cond.code yL_why cL_why 13 (some .int), Cond.methodLink RL 64 yL_read, Cond.static yL_read, Cond.code yL_read cL_read 4 none, Cond.methodLink RL 68 yL_fits, Cond.static yL_fits, Cond.code yL_fits cL_fits 3 (some .boolean), Cond.methodLink RL 82 yX4_ifStruck, Cond.instanceMethod yX4_ifStruck, Cond.selects RX4 yX4_ifStruck yX4_ifStruck, Cond.code yX4_ifStruck cX4_ifStruck 2 (some .int), Cond.methodLink RL 44 yX4_member, Cond.instanceMethod yX4_member, Cond.selects RX4 yX4_member yX4_member, Cond.code yX4_member cX4_member 3 (some .int), Cond.fieldLink RX4 126 "LayeredCharters$Guild" "crafts" "[I", Cond.fieldLink RX4 120 "LayeredCharters$Guild" "ranks" "[I"]
def wsL_law_r11 : List Cond := [Cond.fieldLink RX4 116 "LayeredCharters$Guild" "done" "[I", Cond.fieldLink RX4 168 "LayeredCharters$Guild" "refused" "[I", Cond.methodLink RX4 115 yX0_has, Cond.instanceMethod yX0_has, Cond.selects RX0 yX0_has yX0_has, Cond.code yX0_has cX0_has 2 (some .boolean), Cond.methodLink RX4 165 yX4_deedsAllowed, Cond.instanceMethod yX4_deedsAllowed, Cond.selects RX4 yX4_deedsAllowed yX4_deedsAllowed, Cond.code yX4_deedsAllowed cX4_deedsAllowed 3 (some .int), Cond.methodLink RX4 221 yX2_allowedPairs, Cond.instanceMethod yX2_allowedPairs, Cond.selects RX2 yX2_allowedPairs yX2_allowedPairs, Cond.code yX2_allowedPairs cX2_allowedPairs 4 (some .int), Cond.methodLink RL 85 yX4_undo, Cond.instanceMethod yX4_undo, Cond.selects RX4 yX4_undo yX4_undo, Cond.code yX4_undo cX4_undo 2 (some .int), Cond.methodLink RX4 208 yX3_copyFrom, Cond.instanceMethod yX3_copyFrom, Cond.selects RX3 yX3_copyFrom yX3_copyFrom, Cond.code yX3_copyFrom cX3_copyFrom 2 none, Cond.methodLink RX3 23 yX2_copyFrom, Cond.methodLink RX3 27 yX0_copyFrom]
def wsL_law_r12 : List Cond := [Cond.instanceMethod yX0_copyFrom, Cond.selects RX0 yX0_copyFrom yX0_copyFrom, Cond.code yX0_copyFrom cX0_copyFrom 2 none, Cond.methodLink RL 99 yL_cell, Cond.static yL_cell, Cond.code yL_cell cL_cell 2 (some .int), Cond.constant RL 7 (40503), Cond.methodLink RL 103 yL_change, Cond.static yL_change, Cond.code yL_change cL_change 15 (some .boolean), Cond.methodLink RL 21 yX4_add, Cond.instanceMethod yX4_add, Cond.selects RX4 yX4_add yX4_add, Cond.code yX4_add cX4_add 6 (some .int), Cond.methodLink RX4 41 yX4_isLayer, Cond.static yX4_isLayer, Cond.code yX4_isLayer cX4_isLayer 1 (some .boolean), Cond.methodLink RX4 49 yX4_isSeal, Cond.static yX4_isSeal, Cond.code yX4_isSeal cX4_isSeal 1 (some .boolean), Cond.methodLink RX4 58 yX4_remember, Cond.instanceMethod yX4_remember, Cond.selects RX4 yX4_remember yX4_remember, Cond.code yX4_remember cX4_remember 1 none]
def wsL_law_r13 : List Cond := [Cond.methodLink RX4 216 yX4_dropOldest, Cond.instanceMethod yX4_dropOldest, Cond.selects RX4 yX4_dropOldest yX4_dropOldest, Cond.code yX4_dropOldest cX4_dropOldest 3 none, Cond.methodLink RX4 212 yX4_copyInto, Cond.instanceMethod yX4_copyInto, Cond.selects RX4 yX4_copyInto yX4_copyInto, Cond.code yX4_copyInto cX4_copyInto 3 (some (.object "LayeredCharters$State")), Cond.methodLink RX4 61 yX2_append, Cond.instanceMethod yX2_append, Cond.selects RX2 yX2_append yX2_append, Cond.code yX2_append cX2_append 6 none, Cond.methodLink RL 28 yX4_strike, Cond.instanceMethod yX4_strike, Cond.selects RX4 yX4_strike yX4_strike, Cond.code yX4_strike cX4_strike 2 (some .int), Cond.methodLink RL 31 yX4_seal, Cond.instanceMethod yX4_seal, Cond.selects RX4 yX4_seal yX4_seal, Cond.code yX4_seal cX4_seal 4 (some .int), Cond.methodLink RL 34 yX4_move, Cond.instanceMethod yX4_move, Cond.selects RX4 yX4_move yX4_move, Cond.code yX4_move cX4_move 4 (some .int)]
def wsL_law_r14 : List Cond := [Cond.methodLink RL 37 yX4_tidy, Cond.instanceMethod yX4_tidy, Cond.selects RX4 yX4_tidy yX4_tidy, Cond.code yX4_tidy cX4_tidy 3 (some .int), Cond.methodLink RX4 96 yX4_firstIdle, Cond.instanceMethod yX4_firstIdle, Cond.selects RX4 yX4_firstIdle yX4_firstIdle, Cond.code yX4_firstIdle cX4_firstIdle 3 (some .int), Cond.methodLink RL 41 yX4_join, Cond.instanceMethod yX4_join, Cond.selects RX4 yX4_join yX4_join, Cond.code yX4_join cX4_join 3 (some .int), Cond.methodLink RX4 112 yX0_append, Cond.instanceMethod yX0_append, Cond.selects RX0 yX0_append yX0_append, Cond.code yX0_append cX0_append 3 none, Cond.methodLink RL 47 yX4_leave, Cond.instanceMethod yX4_leave, Cond.selects RX4 yX4_leave yX4_leave, Cond.code yX4_leave cX4_leave 3 (some .int), Cond.methodLink RX4 119 yX0_remove, Cond.instanceMethod yX0_remove, Cond.selects RX0 yX0_remove yX0_remove, Cond.code yX0_remove cX0_remove 2 none]
def wsL_law_r15 : List Cond := [Cond.methodLink RX0 38 yX0_has, Cond.methodLink RL 50 yX4_rank, Cond.instanceMethod yX4_rank, Cond.selects RX4 yX4_rank yX4_rank, Cond.code yX4_rank cX4_rank 4 (some .int), Cond.methodLink RL 53 yL_acts, Cond.static yL_acts, Cond.code yL_acts cL_acts 10 (some .boolean), Cond.methodLink RL 57 yX4_act, Cond.instanceMethod yX4_act, Cond.selects RX4 yX4_act yX4_act, Cond.code yX4_act cX4_act 4 (some .int), Cond.methodLink RX4 136 yX0_noteDone, Cond.instanceMethod yX0_noteDone, Cond.selects RX0 yX0_noteDone yX0_noteDone, Cond.code yX0_noteDone cX0_noteDone 2 none, Cond.methodLink RX4 139 yX0_noteRefusal, Cond.instanceMethod yX0_noteRefusal, Cond.selects RX0 yX0_noteRefusal yX0_noteRefusal, Cond.code yX0_noteRefusal cX0_noteRefusal 3 none, Cond.methodLink RL 107 yL_tries, Cond.static yL_tries, Cond.code yL_tries cL_tries 14 (some .boolean), Cond.methodLink RL 88 yX4_worstBan]
def wsL_law_r16 : List Cond := [Cond.instanceMethod yX4_worstBan, Cond.selects RX4 yX4_worstBan yX4_worstBan, Cond.code yX4_worstBan cX4_worstBan 5 (some .int), Cond.methodLink RL 91 yX4_bestWaiver, Cond.instanceMethod yX4_bestWaiver, Cond.selects RX4 yX4_bestWaiver yX4_bestWaiver, Cond.code yX4_bestWaiver cX4_bestWaiver 6 (some .int), Cond.methodLink RX4 198 yX4_triplesWithWaiver, Cond.instanceMethod yX4_triplesWithWaiver, Cond.selects RX4 yX4_triplesWithWaiver yX4_triplesWithWaiver, Cond.code yX4_triplesWithWaiver cX4_triplesWithWaiver 3 (some .int)]
def wsL_law : List Cond := (wsL_law_r1 ++ (wsL_law_r2 ++ (wsL_law_r3 ++ (wsL_law_r4 ++ (wsL_law_r5 ++ (wsL_law_r6 ++ (wsL_law_r7 ++ (wsL_law_r8 ++ (wsL_law_r9 ++ (wsL_law_r10 ++ (wsL_law_r11 ++ (wsL_law_r12 ++ (wsL_law_r13 ++ (wsL_law_r14 ++ (wsL_law_r15 ++ wsL_law_r16))))))))))))))) ++ wsX40 ++ wsX30 ++ wsX10 ++ wsX20 ++ wsX00 ++ ([] : List Cond)
theorem dL_cell_0 : decode cL_cell 0 = .ok (.iload_n 1, 1) := by decide +kernel
theorem dL_cell_1 : decode cL_cell 1 = .ok (.aload_n 0, 1) := by decide +kernel
theorem dL_cell_2 : decode cL_cell 2 = .ok (.arraylength, 1) := by decide +kernel
theorem dL_cell_3 : decode cL_cell 3 = .ok (.if_icmp .ge 9, 3) := by decide +kernel
theorem dL_cell_6 : decode cL_cell 6 = .ok (.aload_n 0, 1) := by decide +kernel
theorem dL_cell_7 : decode cL_cell 7 = .ok (.iload_n 1, 1) := by decide +kernel
theorem dL_cell_8 : decode cL_cell 8 = .ok (.iaload, 1) := by decide +kernel
theorem dL_cell_9 : decode cL_cell 9 = .ok (.goto 11, 3) := by decide +kernel
theorem dL_cell_12 : decode cL_cell 12 = .ok (.ldc 7, 2) := by decide +kernel
theorem dL_cell_14 : decode cL_cell 14 = .ok (.iload_n 1, 1) := by decide +kernel
theorem dL_cell_15 : decode cL_cell 15 = .ok (.imul, 1) := by decide +kernel
theorem dL_cell_16 : decode cL_cell 16 = .ok (.sipush 977, 3) := by decide +kernel
theorem dL_cell_19 : decode cL_cell 19 = .ok (.iadd, 1) := by decide +kernel
theorem dL_cell_20 : decode cL_cell 20 = .ok (.ireturn, 1) := by decide +kernel
theorem dL_low_0 : decode cL_low 0 = .ok (.iload_n 0, 1) := by decide +kernel
theorem dL_low_1 : decode cL_low 1 = .ok (.ldc 8, 2) := by decide +kernel
theorem dL_low_3 : decode cL_low 3 = .ok (.iand, 1) := by decide +kernel
theorem dL_low_4 : decode cL_low 4 = .ok (.iload_n 1, 1) := by decide +kernel
theorem dL_low_5 : decode cL_low 5 = .ok (.irem, 1) := by decide +kernel
theorem dL_low_6 : decode cL_low 6 = .ok (.ireturn, 1) := by decide +kernel
theorem dL_change_0 : decode cL_change 0 = .ok (.aload_n 0, 1) := by decide +kernel
theorem dL_change_1 : decode cL_change 1 = .ok (.iconst 0, 1) := by decide +kernel
theorem dL_change_2 : decode cL_change 2 = .ok (.invokevirtual 9, 3) := by decide +kernel
theorem dL_change_5 : decode cL_change 5 = .ok (.istore 5, 2) := by decide +kernel
theorem dL_change_7 : decode cL_change 7 = .ok (.iload_n 3, 1) := by decide +kernel
theorem dL_change_8 : decode cL_change 8 = .ok (.iload 5, 2) := by decide +kernel
theorem dL_change_10 : decode cL_change 10 = .ok (.iconst 1, 1) := by decide +kernel
theorem dL_change_11 : decode cL_change 11 = .ok (.iadd, 1) := by decide +kernel
theorem dL_change_12 : decode cL_change 12 = .ok (.invokestatic 15, 3) := by decide +kernel
theorem dL_change_15 : decode cL_change 15 = .ok (.istore 6, 2) := by decide +kernel
theorem dL_change_17 : decode cL_change 17 = .ok (.iconst 0, 1) := by decide +kernel
theorem dL_change_18 : decode cL_change 18 = .ok (.istore 7, 2) := by decide +kernel
theorem dL_change_20 : decode cL_change 20 = .ok (.iconst 0, 1) := by decide +kernel
theorem dL_change_21 : decode cL_change 21 = .ok (.istore 8, 2) := by decide +kernel
theorem dL_change_23 : decode cL_change 23 = .ok (.aload_n 0, 1) := by decide +kernel
theorem dL_change_24 : decode cL_change 24 = .ok (.bipush 7, 2) := by decide +kernel
theorem dL_change_26 : decode cL_change 26 = .ok (.invokevirtual 9, 3) := by decide +kernel
theorem dL_change_29 : decode cL_change 29 = .ok (.istore 9, 2) := by decide +kernel
theorem dL_change_31 : decode cL_change 31 = .ok (.iload_n 3, 1) := by decide +kernel
theorem dL_change_32 : decode cL_change 32 = .ok (.iload 9, 2) := by decide +kernel
theorem dL_change_34 : decode cL_change 34 = .ok (.iconst 1, 1) := by decide +kernel
theorem dL_change_35 : decode cL_change 35 = .ok (.iadd, 1) := by decide +kernel
theorem dL_change_36 : decode cL_change 36 = .ok (.invokestatic 15, 3) := by decide +kernel
theorem dL_change_39 : decode cL_change 39 = .ok (.istore 10, 2) := by decide +kernel
theorem dL_change_41 : decode cL_change 41 = .ok (.iload_n 2, 1) := by decide +kernel
theorem dL_change_42 : decode cL_change 42 = .ok (.tableswitch 545 0 11 #[62, 62, 62, 62, 62, 210, 240, 299, 364, 438, 438, 477], 62) := by decide +kernel
theorem dL_change_104 : decode cL_change 104 = .ok (.iload 4, 2) := by decide +kernel
theorem dL_change_106 : decode cL_change 106 = .ok (.iconst 5, 1) := by decide +kernel
theorem dL_change_107 : decode cL_change 107 = .ok (.invokestatic 15, 3) := by decide +kernel
theorem dL_change_110 : decode cL_change 110 = .ok (.ifCond .ne 7, 3) := by decide +kernel
theorem dL_change_113 : decode cL_change 113 = .ok (.iconst 0, 1) := by decide +kernel
theorem dL_change_114 : decode cL_change 114 = .ok (.goto 13, 3) := by decide +kernel
theorem dL_change_117 : decode cL_change 117 = .ok (.iconst 1, 1) := by decide +kernel
theorem dL_change_118 : decode cL_change 118 = .ok (.iload 4, 2) := by decide +kernel
theorem dL_change_120 : decode cL_change 120 = .ok (.iconst 3, 1) := by decide +kernel
theorem dL_change_121 : decode cL_change 121 = .ok (.ishr, 1) := by decide +kernel
theorem dL_change_122 : decode cL_change 122 = .ok (.iconst 2, 1) := by decide +kernel
theorem dL_change_123 : decode cL_change 123 = .ok (.invokestatic 15, 3) := by decide +kernel
theorem dL_change_126 : decode cL_change 126 = .ok (.iadd, 1) := by decide +kernel
theorem dL_change_127 : decode cL_change 127 = .ok (.istore 11, 2) := by decide +kernel
theorem dL_change_129 : decode cL_change 129 = .ok (.iload_n 3, 1) := by decide +kernel
theorem dL_change_130 : decode cL_change 130 = .ok (.iconst 5, 1) := by decide +kernel
theorem dL_change_131 : decode cL_change 131 = .ok (.invokestatic 15, 3) := by decide +kernel
theorem dL_change_134 : decode cL_change 134 = .ok (.istore 12, 2) := by decide +kernel
theorem dL_change_136 : decode cL_change 136 = .ok (.aload_n 0, 1) := by decide +kernel
theorem dL_change_137 : decode cL_change 137 = .ok (.iload 12, 2) := by decide +kernel
theorem dL_change_139 : decode cL_change 139 = .ok (.iload 11, 2) := by decide +kernel
theorem dL_change_141 : decode cL_change 141 = .ok (.iload_n 3, 1) := by decide +kernel
theorem dL_change_142 : decode cL_change 142 = .ok (.iconst 3, 1) := by decide +kernel
theorem dL_change_143 : decode cL_change 143 = .ok (.ishr, 1) := by decide +kernel
theorem dL_change_144 : decode cL_change 144 = .ok (.bipush 6, 2) := by decide +kernel
theorem dL_change_146 : decode cL_change 146 = .ok (.invokestatic 15, 3) := by decide +kernel
theorem dL_change_149 : decode cL_change 149 = .ok (.iload_n 3, 1) := by decide +kernel
theorem dL_change_150 : decode cL_change 150 = .ok (.bipush 6, 2) := by decide +kernel
theorem dL_change_152 : decode cL_change 152 = .ok (.ishr, 1) := by decide +kernel
theorem dL_change_153 : decode cL_change 153 = .ok (.bipush 7, 2) := by decide +kernel
theorem dL_change_155 : decode cL_change 155 = .ok (.invokestatic 15, 3) := by decide +kernel
theorem dL_change_158 : decode cL_change 158 = .ok (.iconst 1, 1) := by decide +kernel
theorem dL_change_159 : decode cL_change 159 = .ok (.iload 4, 2) := by decide +kernel
theorem dL_change_161 : decode cL_change 161 = .ok (.iconst 5, 1) := by decide +kernel
theorem dL_change_162 : decode cL_change 162 = .ok (.ishr, 1) := by decide +kernel
theorem dL_change_163 : decode cL_change 163 = .ok (.bipush 9, 2) := by decide +kernel
theorem dL_change_165 : decode cL_change 165 = .ok (.invokestatic 15, 3) := by decide +kernel
theorem dL_change_168 : decode cL_change 168 = .ok (.iadd, 1) := by decide +kernel
theorem dL_change_169 : decode cL_change 169 = .ok (.invokevirtual 21, 3) := by decide +kernel
theorem dL_change_172 : decode cL_change 172 = .ok (.istore 8, 2) := by decide +kernel
theorem dL_change_174 : decode cL_change 174 = .ok (.iload 8, 2) := by decide +kernel
theorem dL_change_176 : decode cL_change 176 = .ok (.iload 11, 2) := by decide +kernel
theorem dL_change_178 : decode cL_change 178 = .ok (.ifCond .ne 13, 3) := by decide +kernel
theorem dL_change_181 : decode cL_change 181 = .ok (.iload 12, 2) := by decide +kernel
theorem dL_change_183 : decode cL_change 183 = .ok (.ifCond .le 8, 3) := by decide +kernel
theorem dL_change_186 : decode cL_change 186 = .ok (.bipush (-5), 2) := by decide +kernel
theorem dL_change_188 : decode cL_change 188 = .ok (.goto 17, 3) := by decide +kernel
theorem dL_change_191 : decode cL_change 191 = .ok (.iload 5, 2) := by decide +kernel
theorem dL_change_193 : decode cL_change 193 = .ok (.bipush 24, 2) := by decide +kernel
theorem dL_change_195 : decode cL_change 195 = .ok (.if_icmp .ne 8, 3) := by decide +kernel
theorem dL_change_198 : decode cL_change 198 = .ok (.bipush (-4), 2) := by decide +kernel
theorem dL_change_200 : decode cL_change 200 = .ok (.goto 5, 3) := by decide +kernel
theorem dL_change_203 : decode cL_change 203 = .ok (.iload 5, 2) := by decide +kernel
theorem dL_change_205 : decode cL_change 205 = .ok (.if_icmp .ne 45, 3) := by decide +kernel
theorem dL_change_208 : decode cL_change 208 = .ok (.iload 8, 2) := by decide +kernel
theorem dL_change_210 : decode cL_change 210 = .ok (.ifCond .lt 36, 3) := by decide +kernel
theorem dL_change_213 : decode cL_change 213 = .ok (.aload_n 0, 1) := by decide +kernel
theorem dL_change_214 : decode cL_change 214 = .ok (.iload 5, 2) := by decide +kernel
theorem dL_change_216 : decode cL_change 216 = .ok (.iconst 1, 1) := by decide +kernel
theorem dL_change_217 : decode cL_change 217 = .ok (.invokevirtual 25, 3) := by decide +kernel
theorem dL_change_220 : decode cL_change 220 = .ok (.iload 11, 2) := by decide +kernel
theorem dL_change_222 : decode cL_change 222 = .ok (.if_icmp .ne 28, 3) := by decide +kernel
theorem dL_change_225 : decode cL_change 225 = .ok (.aload_n 0, 1) := by decide +kernel
theorem dL_change_226 : decode cL_change 226 = .ok (.iload 5, 2) := by decide +kernel
theorem dL_change_228 : decode cL_change 228 = .ok (.iconst 4, 1) := by decide +kernel
theorem dL_change_229 : decode cL_change 229 = .ok (.invokevirtual 25, 3) := by decide +kernel
theorem dL_change_232 : decode cL_change 232 = .ok (.iconst 1, 1) := by decide +kernel
theorem dL_change_233 : decode cL_change 233 = .ok (.iload 4, 2) := by decide +kernel
theorem dL_change_235 : decode cL_change 235 = .ok (.iconst 5, 1) := by decide +kernel
theorem dL_change_236 : decode cL_change 236 = .ok (.ishr, 1) := by decide +kernel
theorem dL_change_237 : decode cL_change 237 = .ok (.bipush 9, 2) := by decide +kernel
theorem dL_change_239 : decode cL_change 239 = .ok (.invokestatic 15, 3) := by decide +kernel
theorem dL_change_242 : decode cL_change 242 = .ok (.iadd, 1) := by decide +kernel
theorem dL_change_243 : decode cL_change 243 = .ok (.if_icmp .ne 7, 3) := by decide +kernel
theorem dL_change_246 : decode cL_change 246 = .ok (.iconst 1, 1) := by decide +kernel
theorem dL_change_247 : decode cL_change 247 = .ok (.goto 4, 3) := by decide +kernel
theorem dL_change_250 : decode cL_change 250 = .ok (.iconst 0, 1) := by decide +kernel
theorem dL_change_251 : decode cL_change 251 = .ok (.ireturn, 1) := by decide +kernel
theorem dL_change_252 : decode cL_change 252 = .ok (.aload_n 0, 1) := by decide +kernel
theorem dL_change_253 : decode cL_change 253 = .ok (.iload 6, 2) := by decide +kernel
theorem dL_change_255 : decode cL_change 255 = .ok (.invokevirtual 28, 3) := by decide +kernel
theorem dL_change_258 : decode cL_change 258 = .ok (.iload 6, 2) := by decide +kernel
theorem dL_change_260 : decode cL_change 260 = .ok (.iload 5, 2) := by decide +kernel
theorem dL_change_262 : decode cL_change 262 = .ok (.if_icmp .ne 7, 3) := by decide +kernel
theorem dL_change_265 : decode cL_change 265 = .ok (.iconst (-1), 1) := by decide +kernel
theorem dL_change_266 : decode cL_change 266 = .ok (.goto 7, 3) := by decide +kernel
theorem dL_change_269 : decode cL_change 269 = .ok (.iload 5, 2) := by decide +kernel
theorem dL_change_271 : decode cL_change 271 = .ok (.iconst 1, 1) := by decide +kernel
theorem dL_change_272 : decode cL_change 272 = .ok (.isub, 1) := by decide +kernel
theorem dL_change_273 : decode cL_change 273 = .ok (.if_icmp .ne 7, 3) := by decide +kernel
theorem dL_change_276 : decode cL_change 276 = .ok (.iconst 1, 1) := by decide +kernel
theorem dL_change_277 : decode cL_change 277 = .ok (.goto 4, 3) := by decide +kernel
theorem dL_change_280 : decode cL_change 280 = .ok (.iconst 0, 1) := by decide +kernel
theorem dL_change_281 : decode cL_change 281 = .ok (.ireturn, 1) := by decide +kernel
theorem dL_change_282 : decode cL_change 282 = .ok (.aload_n 0, 1) := by decide +kernel
theorem dL_change_283 : decode cL_change 283 = .ok (.iload 6, 2) := by decide +kernel
theorem dL_change_285 : decode cL_change 285 = .ok (.iconst 4, 1) := by decide +kernel
theorem dL_change_286 : decode cL_change 286 = .ok (.invokevirtual 25, 3) := by decide +kernel
theorem dL_change_289 : decode cL_change 289 = .ok (.istore 7, 2) := by decide +kernel
theorem dL_change_291 : decode cL_change 291 = .ok (.aload_n 0, 1) := by decide +kernel
theorem dL_change_292 : decode cL_change 292 = .ok (.iload 6, 2) := by decide +kernel
theorem dL_change_294 : decode cL_change 294 = .ok (.iconst 1, 1) := by decide +kernel
theorem dL_change_295 : decode cL_change 295 = .ok (.iload 4, 2) := by decide +kernel
theorem dL_change_297 : decode cL_change 297 = .ok (.bipush 9, 2) := by decide +kernel
theorem dL_change_299 : decode cL_change 299 = .ok (.invokestatic 15, 3) := by decide +kernel
theorem dL_change_302 : decode cL_change 302 = .ok (.iadd, 1) := by decide +kernel
theorem dL_change_303 : decode cL_change 303 = .ok (.invokevirtual 31, 3) := by decide +kernel
theorem dL_change_306 : decode cL_change 306 = .ok (.iload 7, 2) := by decide +kernel
theorem dL_change_308 : decode cL_change 308 = .ok (.if_icmp .ne 31, 3) := by decide +kernel
theorem dL_change_311 : decode cL_change 311 = .ok (.iload 7, 2) := by decide +kernel
theorem dL_change_313 : decode cL_change 313 = .ok (.ifCond .lt 22, 3) := by decide +kernel
theorem dL_change_316 : decode cL_change 316 = .ok (.aload_n 0, 1) := by decide +kernel
theorem dL_change_317 : decode cL_change 317 = .ok (.iload 6, 2) := by decide +kernel
theorem dL_change_319 : decode cL_change 319 = .ok (.iconst 4, 1) := by decide +kernel
theorem dL_change_320 : decode cL_change 320 = .ok (.invokevirtual 25, 3) := by decide +kernel
theorem dL_change_323 : decode cL_change 323 = .ok (.iconst 1, 1) := by decide +kernel
theorem dL_change_324 : decode cL_change 324 = .ok (.iload 4, 2) := by decide +kernel
theorem dL_change_326 : decode cL_change 326 = .ok (.bipush 9, 2) := by decide +kernel
theorem dL_change_328 : decode cL_change 328 = .ok (.invokestatic 15, 3) := by decide +kernel
theorem dL_change_331 : decode cL_change 331 = .ok (.iadd, 1) := by decide +kernel
theorem dL_change_332 : decode cL_change 332 = .ok (.if_icmp .ne 7, 3) := by decide +kernel
theorem dL_change_335 : decode cL_change 335 = .ok (.iconst 1, 1) := by decide +kernel
theorem dL_change_336 : decode cL_change 336 = .ok (.goto 4, 3) := by decide +kernel
theorem dL_change_339 : decode cL_change 339 = .ok (.iconst 0, 1) := by decide +kernel
theorem dL_change_340 : decode cL_change 340 = .ok (.ireturn, 1) := by decide +kernel
theorem dL_change_341 : decode cL_change 341 = .ok (.aload_n 0, 1) := by decide +kernel
theorem dL_change_342 : decode cL_change 342 = .ok (.iload 6, 2) := by decide +kernel
theorem dL_change_344 : decode cL_change 344 = .ok (.iconst 0, 1) := by decide +kernel
theorem dL_change_345 : decode cL_change 345 = .ok (.invokevirtual 25, 3) := by decide +kernel
theorem dL_change_348 : decode cL_change 348 = .ok (.istore 7, 2) := by decide +kernel
theorem dL_change_350 : decode cL_change 350 = .ok (.aload_n 0, 1) := by decide +kernel
theorem dL_change_351 : decode cL_change 351 = .ok (.iload 6, 2) := by decide +kernel
theorem dL_change_353 : decode cL_change 353 = .ok (.iload 4, 2) := by decide +kernel
theorem dL_change_355 : decode cL_change 355 = .ok (.iconst 5, 1) := by decide +kernel
theorem dL_change_356 : decode cL_change 356 = .ok (.invokestatic 15, 3) := by decide +kernel
theorem dL_change_359 : decode cL_change 359 = .ok (.invokevirtual 34, 3) := by decide +kernel
theorem dL_change_362 : decode cL_change 362 = .ok (.istore 8, 2) := by decide +kernel
theorem dL_change_364 : decode cL_change 364 = .ok (.iload 8, 2) := by decide +kernel
theorem dL_change_366 : decode cL_change 366 = .ok (.iload 7, 2) := by decide +kernel
theorem dL_change_368 : decode cL_change 368 = .ok (.ifCond .lt 27, 3) := by decide +kernel
theorem dL_change_371 : decode cL_change 371 = .ok (.aload_n 0, 1) := by decide +kernel
theorem dL_change_372 : decode cL_change 372 = .ok (.iload 6, 2) := by decide +kernel
theorem dL_change_374 : decode cL_change 374 = .ok (.iconst 1, 1) := by decide +kernel
theorem dL_change_375 : decode cL_change 375 = .ok (.invokevirtual 25, 3) := by decide +kernel
theorem dL_change_378 : decode cL_change 378 = .ok (.ifCond .ne 17, 3) := by decide +kernel
theorem dL_change_381 : decode cL_change 381 = .ok (.iload 4, 2) := by decide +kernel
theorem dL_change_383 : decode cL_change 383 = .ok (.iconst 5, 1) := by decide +kernel
theorem dL_change_384 : decode cL_change 384 = .ok (.invokestatic 15, 3) := by decide +kernel
theorem dL_change_387 : decode cL_change 387 = .ok (.ifCond .le 8, 3) := by decide +kernel
theorem dL_change_390 : decode cL_change 390 = .ok (.bipush (-5), 2) := by decide +kernel
theorem dL_change_392 : decode cL_change 392 = .ok (.goto 5, 3) := by decide +kernel
theorem dL_change_395 : decode cL_change 395 = .ok (.iload 7, 2) := by decide +kernel
theorem dL_change_397 : decode cL_change 397 = .ok (.if_icmp .ne 7, 3) := by decide +kernel
theorem dL_change_400 : decode cL_change 400 = .ok (.iconst 1, 1) := by decide +kernel
theorem dL_change_401 : decode cL_change 401 = .ok (.goto 4, 3) := by decide +kernel
theorem dL_change_404 : decode cL_change 404 = .ok (.iconst 0, 1) := by decide +kernel
theorem dL_change_405 : decode cL_change 405 = .ok (.ireturn, 1) := by decide +kernel
theorem dL_change_406 : decode cL_change 406 = .ok (.aload_n 0, 1) := by decide +kernel
theorem dL_change_407 : decode cL_change 407 = .ok (.bipush 6, 2) := by decide +kernel
theorem dL_change_409 : decode cL_change 409 = .ok (.invokevirtual 9, 3) := by decide +kernel
theorem dL_change_412 : decode cL_change 412 = .ok (.istore 13, 2) := by decide +kernel
theorem dL_change_414 : decode cL_change 414 = .ok (.aload_n 0, 1) := by decide +kernel
theorem dL_change_415 : decode cL_change 415 = .ok (.iconst 4, 1) := by decide +kernel
theorem dL_change_416 : decode cL_change 416 = .ok (.invokevirtual 9, 3) := by decide +kernel
theorem dL_change_419 : decode cL_change 419 = .ok (.istore 14, 2) := by decide +kernel
theorem dL_change_421 : decode cL_change 421 = .ok (.aload_n 0, 1) := by decide +kernel
theorem dL_change_422 : decode cL_change 422 = .ok (.invokevirtual 37, 3) := by decide +kernel
theorem dL_change_425 : decode cL_change 425 = .ok (.istore 8, 2) := by decide +kernel
theorem dL_change_427 : decode cL_change 427 = .ok (.iload 8, 2) := by decide +kernel
theorem dL_change_429 : decode cL_change 429 = .ok (.iload 14, 2) := by decide +kernel
theorem dL_change_431 : decode cL_change 431 = .ok (.ifCond .le 7, 3) := by decide +kernel
theorem dL_change_434 : decode cL_change 434 = .ok (.iconst 1, 1) := by decide +kernel
theorem dL_change_435 : decode cL_change 435 = .ok (.goto 4, 3) := by decide +kernel
theorem dL_change_438 : decode cL_change 438 = .ok (.iconst 0, 1) := by decide +kernel
theorem dL_change_439 : decode cL_change 439 = .ok (.if_icmp .lt 39, 3) := by decide +kernel
theorem dL_change_442 : decode cL_change 442 = .ok (.aload_n 0, 1) := by decide +kernel
theorem dL_change_443 : decode cL_change 443 = .ok (.iconst 0, 1) := by decide +kernel
theorem dL_change_444 : decode cL_change 444 = .ok (.invokevirtual 9, 3) := by decide +kernel
theorem dL_change_447 : decode cL_change 447 = .ok (.iload 5, 2) := by decide +kernel
theorem dL_change_449 : decode cL_change 449 = .ok (.iload 8, 2) := by decide +kernel
theorem dL_change_451 : decode cL_change 451 = .ok (.isub, 1) := by decide +kernel
theorem dL_change_452 : decode cL_change 452 = .ok (.if_icmp .ne 26, 3) := by decide +kernel
theorem dL_change_455 : decode cL_change 455 = .ok (.aload_n 0, 1) := by decide +kernel
theorem dL_change_456 : decode cL_change 456 = .ok (.iconst 4, 1) := by decide +kernel
theorem dL_change_457 : decode cL_change 457 = .ok (.invokevirtual 9, 3) := by decide +kernel
theorem dL_change_460 : decode cL_change 460 = .ok (.ifCond .ne 18, 3) := by decide +kernel
theorem dL_change_463 : decode cL_change 463 = .ok (.aload_n 0, 1) := by decide +kernel
theorem dL_change_464 : decode cL_change 464 = .ok (.bipush 6, 2) := by decide +kernel
theorem dL_change_466 : decode cL_change 466 = .ok (.invokevirtual 9, 3) := by decide +kernel
theorem dL_change_469 : decode cL_change 469 = .ok (.iload 13, 2) := by decide +kernel
theorem dL_change_471 : decode cL_change 471 = .ok (.if_icmp .ne 7, 3) := by decide +kernel
theorem dL_change_474 : decode cL_change 474 = .ok (.iconst 1, 1) := by decide +kernel
theorem dL_change_475 : decode cL_change 475 = .ok (.goto 4, 3) := by decide +kernel
theorem dL_change_478 : decode cL_change 478 = .ok (.iconst 0, 1) := by decide +kernel
theorem dL_change_479 : decode cL_change 479 = .ok (.ireturn, 1) := by decide +kernel
theorem dL_change_480 : decode cL_change 480 = .ok (.aload_n 0, 1) := by decide +kernel
theorem dL_change_481 : decode cL_change 481 = .ok (.iload_n 3, 1) := by decide +kernel
theorem dL_change_482 : decode cL_change 482 = .ok (.iconst 5, 1) := by decide +kernel
theorem dL_change_483 : decode cL_change 483 = .ok (.invokestatic 15, 3) := by decide +kernel
theorem dL_change_486 : decode cL_change 486 = .ok (.iload 4, 2) := by decide +kernel
theorem dL_change_488 : decode cL_change 488 = .ok (.bipush 10, 2) := by decide +kernel
theorem dL_change_490 : decode cL_change 490 = .ok (.invokestatic 15, 3) := by decide +kernel
theorem dL_change_493 : decode cL_change 493 = .ok (.invokevirtual 41, 3) := by decide +kernel
theorem dL_change_496 : decode cL_change 496 = .ok (.iload 9, 2) := by decide +kernel
theorem dL_change_498 : decode cL_change 498 = .ok (.bipush 10, 2) := by decide +kernel
theorem dL_change_500 : decode cL_change 500 = .ok (.if_icmp .ne 8, 3) := by decide +kernel
theorem dL_change_503 : decode cL_change 503 = .ok (.bipush (-4), 2) := by decide +kernel
theorem dL_change_505 : decode cL_change 505 = .ok (.goto 5, 3) := by decide +kernel
theorem dL_change_508 : decode cL_change 508 = .ok (.iload 9, 2) := by decide +kernel
theorem dL_change_510 : decode cL_change 510 = .ok (.if_icmp .ne 7, 3) := by decide +kernel
theorem dL_change_513 : decode cL_change 513 = .ok (.iconst 1, 1) := by decide +kernel
theorem dL_change_514 : decode cL_change 514 = .ok (.goto 4, 3) := by decide +kernel
theorem dL_change_517 : decode cL_change 517 = .ok (.iconst 0, 1) := by decide +kernel
theorem dL_change_518 : decode cL_change 518 = .ok (.ireturn, 1) := by decide +kernel
theorem dL_change_519 : decode cL_change 519 = .ok (.iload 4, 2) := by decide +kernel
theorem dL_change_521 : decode cL_change 521 = .ok (.iconst 3, 1) := by decide +kernel
theorem dL_change_522 : decode cL_change 522 = .ok (.iand, 1) := by decide +kernel
theorem dL_change_523 : decode cL_change 523 = .ok (.ifCond .ne 29, 3) := by decide +kernel
theorem dL_change_526 : decode cL_change 526 = .ok (.aload_n 0, 1) := by decide +kernel
theorem dL_change_527 : decode cL_change 527 = .ok (.iload 10, 2) := by decide +kernel
theorem dL_change_529 : decode cL_change 529 = .ok (.iconst 3, 1) := by decide +kernel
theorem dL_change_530 : decode cL_change 530 = .ok (.invokevirtual 44, 3) := by decide +kernel
theorem dL_change_533 : decode cL_change 533 = .ok (.istore 7, 2) := by decide +kernel
theorem dL_change_535 : decode cL_change 535 = .ok (.aload_n 0, 1) := by decide +kernel
theorem dL_change_536 : decode cL_change 536 = .ok (.iload 10, 2) := by decide +kernel
theorem dL_change_538 : decode cL_change 538 = .ok (.invokevirtual 47, 3) := by decide +kernel
theorem dL_change_541 : decode cL_change 541 = .ok (.iload 7, 2) := by decide +kernel
theorem dL_change_543 : decode cL_change 543 = .ok (.if_icmp .ne 7, 3) := by decide +kernel
theorem dL_change_546 : decode cL_change 546 = .ok (.iconst 1, 1) := by decide +kernel
theorem dL_change_547 : decode cL_change 547 = .ok (.goto 4, 3) := by decide +kernel
theorem dL_change_550 : decode cL_change 550 = .ok (.iconst 0, 1) := by decide +kernel
theorem dL_change_551 : decode cL_change 551 = .ok (.ireturn, 1) := by decide +kernel
theorem dL_change_552 : decode cL_change 552 = .ok (.aload_n 0, 1) := by decide +kernel
theorem dL_change_553 : decode cL_change 553 = .ok (.iload 10, 2) := by decide +kernel
theorem dL_change_555 : decode cL_change 555 = .ok (.iconst 1, 1) := by decide +kernel
theorem dL_change_556 : decode cL_change 556 = .ok (.invokevirtual 44, 3) := by decide +kernel
theorem dL_change_559 : decode cL_change 559 = .ok (.istore 7, 2) := by decide +kernel
theorem dL_change_561 : decode cL_change 561 = .ok (.aload_n 0, 1) := by decide +kernel
theorem dL_change_562 : decode cL_change 562 = .ok (.iload 10, 2) := by decide +kernel
theorem dL_change_564 : decode cL_change 564 = .ok (.iload 4, 2) := by decide +kernel
theorem dL_change_566 : decode cL_change 566 = .ok (.iconst 2, 1) := by decide +kernel
theorem dL_change_567 : decode cL_change 567 = .ok (.ishr, 1) := by decide +kernel
theorem dL_change_568 : decode cL_change 568 = .ok (.bipush 10, 2) := by decide +kernel
theorem dL_change_570 : decode cL_change 570 = .ok (.invokestatic 15, 3) := by decide +kernel
theorem dL_change_573 : decode cL_change 573 = .ok (.invokevirtual 50, 3) := by decide +kernel
theorem dL_change_576 : decode cL_change 576 = .ok (.iload 7, 2) := by decide +kernel
theorem dL_change_578 : decode cL_change 578 = .ok (.if_icmp .ne 7, 3) := by decide +kernel
theorem dL_change_581 : decode cL_change 581 = .ok (.iconst 1, 1) := by decide +kernel
theorem dL_change_582 : decode cL_change 582 = .ok (.goto 4, 3) := by decide +kernel
theorem dL_change_585 : decode cL_change 585 = .ok (.iconst 0, 1) := by decide +kernel
theorem dL_change_586 : decode cL_change 586 = .ok (.ireturn, 1) := by decide +kernel
theorem dL_change_587 : decode cL_change 587 = .ok (.aload_n 0, 1) := by decide +kernel
theorem dL_change_588 : decode cL_change 588 = .ok (.aload_n 1, 1) := by decide +kernel
theorem dL_change_589 : decode cL_change 589 = .ok (.iload 10, 2) := by decide +kernel
theorem dL_change_591 : decode cL_change 591 = .ok (.iload 4, 2) := by decide +kernel
theorem dL_change_593 : decode cL_change 593 = .ok (.bipush 6, 2) := by decide +kernel
theorem dL_change_595 : decode cL_change 595 = .ok (.invokestatic 15, 3) := by decide +kernel
theorem dL_change_598 : decode cL_change 598 = .ok (.invokestatic 53, 3) := by decide +kernel
theorem dL_change_601 : decode cL_change 601 = .ok (.ireturn, 1) := by decide +kernel
theorem dL_acts_0 : decode cL_acts 0 = .ok (.aload_n 0, 1) := by decide +kernel
theorem dL_acts_1 : decode cL_acts 1 = .ok (.iload_n 2, 1) := by decide +kernel
theorem dL_acts_2 : decode cL_acts 2 = .ok (.iconst 0, 1) := by decide +kernel
theorem dL_acts_3 : decode cL_acts 3 = .ok (.invokevirtual 44, 3) := by decide +kernel
theorem dL_acts_6 : decode cL_acts 6 = .ok (.istore 4, 2) := by decide +kernel
theorem dL_acts_8 : decode cL_acts 8 = .ok (.iload 4, 2) := by decide +kernel
theorem dL_acts_10 : decode cL_acts 10 = .ok (.ifCond .ge 19, 3) := by decide +kernel
theorem dL_acts_13 : decode cL_acts 13 = .ok (.aload_n 0, 1) := by decide +kernel
theorem dL_acts_14 : decode cL_acts 14 = .ok (.iload_n 2, 1) := by decide +kernel
theorem dL_acts_15 : decode cL_acts 15 = .ok (.iload_n 3, 1) := by decide +kernel
theorem dL_acts_16 : decode cL_acts 16 = .ok (.invokevirtual 57, 3) := by decide +kernel
theorem dL_acts_19 : decode cL_acts 19 = .ok (.iconst (-1), 1) := by decide +kernel
theorem dL_acts_20 : decode cL_acts 20 = .ok (.if_icmp .ne 7, 3) := by decide +kernel
theorem dL_acts_23 : decode cL_acts 23 = .ok (.iconst 1, 1) := by decide +kernel
theorem dL_acts_24 : decode cL_acts 24 = .ok (.goto 4, 3) := by decide +kernel
theorem dL_acts_27 : decode cL_acts 27 = .ok (.iconst 0, 1) := by decide +kernel
theorem dL_acts_28 : decode cL_acts 28 = .ok (.ireturn, 1) := by decide +kernel
theorem dL_acts_29 : decode cL_acts 29 = .ok (.aload_n 0, 1) := by decide +kernel
theorem dL_acts_30 : decode cL_acts 30 = .ok (.iload 4, 2) := by decide +kernel
theorem dL_acts_32 : decode cL_acts 32 = .ok (.iload_n 3, 1) := by decide +kernel
theorem dL_acts_33 : decode cL_acts 33 = .ok (.aload_n 0, 1) := by decide +kernel
theorem dL_acts_34 : decode cL_acts 34 = .ok (.iload_n 2, 1) := by decide +kernel
theorem dL_acts_35 : decode cL_acts 35 = .ok (.iconst 1, 1) := by decide +kernel
theorem dL_acts_36 : decode cL_acts 36 = .ok (.invokevirtual 44, 3) := by decide +kernel
theorem dL_acts_39 : decode cL_acts 39 = .ok (.invokevirtual 60, 3) := by decide +kernel
theorem dL_acts_42 : decode cL_acts 42 = .ok (.istore 5, 2) := by decide +kernel
theorem dL_acts_44 : decode cL_acts 44 = .ok (.iload 5, 2) := by decide +kernel
theorem dL_acts_46 : decode cL_acts 46 = .ok (.bipush (-6), 2) := by decide +kernel
theorem dL_acts_48 : decode cL_acts 48 = .ok (.if_icmp .ne 8, 3) := by decide +kernel
theorem dL_acts_51 : decode cL_acts 51 = .ok (.bipush 8, 2) := by decide +kernel
theorem dL_acts_53 : decode cL_acts 53 = .ok (.goto 25, 3) := by decide +kernel
theorem dL_acts_56 : decode cL_acts 56 = .ok (.iload 5, 2) := by decide +kernel
theorem dL_acts_58 : decode cL_acts 58 = .ok (.bipush 100, 2) := by decide +kernel
theorem dL_acts_60 : decode cL_acts 60 = .ok (.if_icmp .ne 8, 3) := by decide +kernel
theorem dL_acts_63 : decode cL_acts 63 = .ok (.bipush 14, 2) := by decide +kernel
theorem dL_acts_65 : decode cL_acts 65 = .ok (.goto 13, 3) := by decide +kernel
theorem dL_acts_68 : decode cL_acts 68 = .ok (.bipush 9, 2) := by decide +kernel
theorem dL_acts_70 : decode cL_acts 70 = .ok (.aload_n 0, 1) := by decide +kernel
theorem dL_acts_71 : decode cL_acts 71 = .ok (.iload 5, 2) := by decide +kernel
theorem dL_acts_73 : decode cL_acts 73 = .ok (.iconst 0, 1) := by decide +kernel
theorem dL_acts_74 : decode cL_acts 74 = .ok (.invokevirtual 25, 3) := by decide +kernel
theorem dL_acts_77 : decode cL_acts 77 = .ok (.iadd, 1) := by decide +kernel
theorem dL_acts_78 : decode cL_acts 78 = .ok (.istore 6, 2) := by decide +kernel
theorem dL_acts_80 : decode cL_acts 80 = .ok (.aload_n 0, 1) := by decide +kernel
theorem dL_acts_81 : decode cL_acts 81 = .ok (.iload 6, 2) := by decide +kernel
theorem dL_acts_83 : decode cL_acts 83 = .ok (.invokevirtual 9, 3) := by decide +kernel
theorem dL_acts_86 : decode cL_acts 86 = .ok (.istore 7, 2) := by decide +kernel
theorem dL_acts_88 : decode cL_acts 88 = .ok (.aload_n 0, 1) := by decide +kernel
theorem dL_acts_89 : decode cL_acts 89 = .ok (.iload_n 2, 1) := by decide +kernel
theorem dL_acts_90 : decode cL_acts 90 = .ok (.iconst 3, 1) := by decide +kernel
theorem dL_acts_91 : decode cL_acts 91 = .ok (.invokevirtual 44, 3) := by decide +kernel
theorem dL_acts_94 : decode cL_acts 94 = .ok (.istore 8, 2) := by decide +kernel
theorem dL_acts_96 : decode cL_acts 96 = .ok (.aload_n 0, 1) := by decide +kernel
theorem dL_acts_97 : decode cL_acts 97 = .ok (.iload_n 2, 1) := by decide +kernel
theorem dL_acts_98 : decode cL_acts 98 = .ok (.iconst 4, 1) := by decide +kernel
theorem dL_acts_99 : decode cL_acts 99 = .ok (.invokevirtual 44, 3) := by decide +kernel
theorem dL_acts_102 : decode cL_acts 102 = .ok (.istore 9, 2) := by decide +kernel
theorem dL_acts_104 : decode cL_acts 104 = .ok (.aload_n 1, 1) := by decide +kernel
theorem dL_acts_105 : decode cL_acts 105 = .ok (.iload 5, 2) := by decide +kernel
theorem dL_acts_107 : decode cL_acts 107 = .ok (.bipush (-6), 2) := by decide +kernel
theorem dL_acts_109 : decode cL_acts 109 = .ok (.if_icmp .ne 7, 3) := by decide +kernel
theorem dL_acts_112 : decode cL_acts 112 = .ok (.iconst 0, 1) := by decide +kernel
theorem dL_acts_113 : decode cL_acts 113 = .ok (.goto 4, 3) := by decide +kernel
theorem dL_acts_116 : decode cL_acts 116 = .ok (.iconst 1, 1) := by decide +kernel
theorem dL_acts_117 : decode cL_acts 117 = .ok (.dup2, 1) := by decide +kernel
theorem dL_acts_118 : decode cL_acts 118 = .ok (.iaload, 1) := by decide +kernel
theorem dL_acts_119 : decode cL_acts 119 = .ok (.iconst 1, 1) := by decide +kernel
theorem dL_acts_120 : decode cL_acts 120 = .ok (.iadd, 1) := by decide +kernel
theorem dL_acts_121 : decode cL_acts 121 = .ok (.iastore, 1) := by decide +kernel
theorem dL_acts_122 : decode cL_acts 122 = .ok (.aload_n 0, 1) := by decide +kernel
theorem dL_acts_123 : decode cL_acts 123 = .ok (.iload_n 2, 1) := by decide +kernel
theorem dL_acts_124 : decode cL_acts 124 = .ok (.iload_n 3, 1) := by decide +kernel
theorem dL_acts_125 : decode cL_acts 125 = .ok (.invokevirtual 57, 3) := by decide +kernel
theorem dL_acts_128 : decode cL_acts 128 = .ok (.iload 5, 2) := by decide +kernel
theorem dL_acts_130 : decode cL_acts 130 = .ok (.if_icmp .ne 68, 3) := by decide +kernel
theorem dL_acts_133 : decode cL_acts 133 = .ok (.aload_n 0, 1) := by decide +kernel
theorem dL_acts_134 : decode cL_acts 134 = .ok (.iload 6, 2) := by decide +kernel
theorem dL_acts_136 : decode cL_acts 136 = .ok (.invokevirtual 9, 3) := by decide +kernel
theorem dL_acts_139 : decode cL_acts 139 = .ok (.iload 7, 2) := by decide +kernel
theorem dL_acts_141 : decode cL_acts 141 = .ok (.iconst 1, 1) := by decide +kernel
theorem dL_acts_142 : decode cL_acts 142 = .ok (.iadd, 1) := by decide +kernel
theorem dL_acts_143 : decode cL_acts 143 = .ok (.if_icmp .ne 55, 3) := by decide +kernel
theorem dL_acts_146 : decode cL_acts 146 = .ok (.aload_n 0, 1) := by decide +kernel
theorem dL_acts_147 : decode cL_acts 147 = .ok (.iload_n 2, 1) := by decide +kernel
theorem dL_acts_148 : decode cL_acts 148 = .ok (.iconst 3, 1) := by decide +kernel
theorem dL_acts_149 : decode cL_acts 149 = .ok (.invokevirtual 44, 3) := by decide +kernel
theorem dL_acts_152 : decode cL_acts 152 = .ok (.iload 8, 2) := by decide +kernel
theorem dL_acts_154 : decode cL_acts 154 = .ok (.iload 5, 2) := by decide +kernel
theorem dL_acts_156 : decode cL_acts 156 = .ok (.bipush (-6), 2) := by decide +kernel
theorem dL_acts_158 : decode cL_acts 158 = .ok (.if_icmp .ne 7, 3) := by decide +kernel
theorem dL_acts_161 : decode cL_acts 161 = .ok (.iconst 1, 1) := by decide +kernel
theorem dL_acts_162 : decode cL_acts 162 = .ok (.goto 4, 3) := by decide +kernel
theorem dL_acts_165 : decode cL_acts 165 = .ok (.iconst 0, 1) := by decide +kernel
theorem dL_acts_166 : decode cL_acts 166 = .ok (.iadd, 1) := by decide +kernel
theorem dL_acts_167 : decode cL_acts 167 = .ok (.if_icmp .ne 31, 3) := by decide +kernel
theorem dL_acts_170 : decode cL_acts 170 = .ok (.aload_n 0, 1) := by decide +kernel
theorem dL_acts_171 : decode cL_acts 171 = .ok (.iload_n 2, 1) := by decide +kernel
theorem dL_acts_172 : decode cL_acts 172 = .ok (.iconst 4, 1) := by decide +kernel
theorem dL_acts_173 : decode cL_acts 173 = .ok (.invokevirtual 44, 3) := by decide +kernel
theorem dL_acts_176 : decode cL_acts 176 = .ok (.iload 9, 2) := by decide +kernel
theorem dL_acts_178 : decode cL_acts 178 = .ok (.iload 5, 2) := by decide +kernel
theorem dL_acts_180 : decode cL_acts 180 = .ok (.bipush (-6), 2) := by decide +kernel
theorem dL_acts_182 : decode cL_acts 182 = .ok (.if_icmp .ne 7, 3) := by decide +kernel
theorem dL_acts_185 : decode cL_acts 185 = .ok (.iconst 0, 1) := by decide +kernel
theorem dL_acts_186 : decode cL_acts 186 = .ok (.goto 4, 3) := by decide +kernel
theorem dL_acts_189 : decode cL_acts 189 = .ok (.iconst 1, 1) := by decide +kernel
theorem dL_acts_190 : decode cL_acts 190 = .ok (.iadd, 1) := by decide +kernel
theorem dL_acts_191 : decode cL_acts 191 = .ok (.if_icmp .ne 7, 3) := by decide +kernel
theorem dL_acts_194 : decode cL_acts 194 = .ok (.iconst 1, 1) := by decide +kernel
theorem dL_acts_195 : decode cL_acts 195 = .ok (.goto 4, 3) := by decide +kernel
theorem dL_acts_198 : decode cL_acts 198 = .ok (.iconst 0, 1) := by decide +kernel
theorem dL_acts_199 : decode cL_acts 199 = .ok (.ireturn, 1) := by decide +kernel
theorem dL_fits_0 : decode cL_fits 0 = .ok (.aload_n 0, 1) := by decide +kernel
theorem dL_fits_1 : decode cL_fits 1 = .ok (.iconst 2, 1) := by decide +kernel
theorem dL_fits_2 : decode cL_fits 2 = .ok (.iaload, 1) := by decide +kernel
theorem dL_fits_3 : decode cL_fits 3 = .ok (.iconst 5, 1) := by decide +kernel
theorem dL_fits_4 : decode cL_fits 4 = .ok (.if_icmp .eq 10, 3) := by decide +kernel
theorem dL_fits_7 : decode cL_fits 7 = .ok (.aload_n 0, 1) := by decide +kernel
theorem dL_fits_8 : decode cL_fits 8 = .ok (.iconst 2, 1) := by decide +kernel
theorem dL_fits_9 : decode cL_fits 9 = .ok (.iaload, 1) := by decide +kernel
theorem dL_fits_10 : decode cL_fits 10 = .ok (.iload_n 1, 1) := by decide +kernel
theorem dL_fits_11 : decode cL_fits 11 = .ok (.if_icmp .ne 22, 3) := by decide +kernel
theorem dL_fits_14 : decode cL_fits 14 = .ok (.aload_n 0, 1) := by decide +kernel
theorem dL_fits_15 : decode cL_fits 15 = .ok (.iconst 3, 1) := by decide +kernel
theorem dL_fits_16 : decode cL_fits 16 = .ok (.iaload, 1) := by decide +kernel
theorem dL_fits_17 : decode cL_fits 17 = .ok (.bipush 6, 2) := by decide +kernel
theorem dL_fits_19 : decode cL_fits 19 = .ok (.if_icmp .eq 10, 3) := by decide +kernel
theorem dL_fits_22 : decode cL_fits 22 = .ok (.aload_n 0, 1) := by decide +kernel
theorem dL_fits_23 : decode cL_fits 23 = .ok (.iconst 3, 1) := by decide +kernel
theorem dL_fits_24 : decode cL_fits 24 = .ok (.iaload, 1) := by decide +kernel
theorem dL_fits_25 : decode cL_fits 25 = .ok (.iload_n 2, 1) := by decide +kernel
theorem dL_fits_26 : decode cL_fits 26 = .ok (.if_icmp .ne 7, 3) := by decide +kernel
theorem dL_fits_29 : decode cL_fits 29 = .ok (.iconst 1, 1) := by decide +kernel
theorem dL_fits_30 : decode cL_fits 30 = .ok (.goto 4, 3) := by decide +kernel
theorem dL_fits_33 : decode cL_fits 33 = .ok (.iconst 0, 1) := by decide +kernel
theorem dL_fits_34 : decode cL_fits 34 = .ok (.ireturn, 1) := by decide +kernel
theorem dL_why_0 : decode cL_why 0 = .ok (.iconst 5, 1) := by decide +kernel
theorem dL_why_1 : decode cL_why 1 = .ok (.newarray .int, 2) := by decide +kernel
theorem dL_why_3 : decode cL_why 3 = .ok (.astore 5, 2) := by decide +kernel
theorem dL_why_5 : decode cL_why 5 = .ok (.iconst 5, 1) := by decide +kernel
theorem dL_why_6 : decode cL_why 6 = .ok (.newarray .int, 2) := by decide +kernel
theorem dL_why_8 : decode cL_why 8 = .ok (.astore 6, 2) := by decide +kernel
theorem dL_why_10 : decode cL_why 10 = .ok (.iconst 0, 1) := by decide +kernel
theorem dL_why_11 : decode cL_why 11 = .ok (.istore 7, 2) := by decide +kernel
theorem dL_why_13 : decode cL_why 13 = .ok (.bipush (-6), 2) := by decide +kernel
theorem dL_why_15 : decode cL_why 15 = .ok (.istore 8, 2) := by decide +kernel
theorem dL_why_17 : decode cL_why 17 = .ok (.bipush 9, 2) := by decide +kernel
theorem dL_why_19 : decode cL_why 19 = .ok (.istore 9, 2) := by decide +kernel
theorem dL_why_21 : decode cL_why 21 = .ok (.iconst 0, 1) := by decide +kernel
theorem dL_why_22 : decode cL_why 22 = .ok (.istore 10, 2) := by decide +kernel
theorem dL_why_24 : decode cL_why 24 = .ok (.iload 10, 2) := by decide +kernel
theorem dL_why_26 : decode cL_why 26 = .ok (.aload_n 0, 1) := by decide +kernel
theorem dL_why_27 : decode cL_why 27 = .ok (.iconst 0, 1) := by decide +kernel
theorem dL_why_28 : decode cL_why 28 = .ok (.invokevirtual 9, 3) := by decide +kernel
theorem dL_why_31 : decode cL_why 31 = .ok (.if_icmp .ge 214, 3) := by decide +kernel
theorem dL_why_34 : decode cL_why 34 = .ok (.aload_n 0, 1) := by decide +kernel
theorem dL_why_35 : decode cL_why 35 = .ok (.iload 10, 2) := by decide +kernel
theorem dL_why_37 : decode cL_why 37 = .ok (.aload 5, 2) := by decide +kernel
theorem dL_why_39 : decode cL_why 39 = .ok (.invokestatic 64, 3) := by decide +kernel
theorem dL_why_42 : decode cL_why 42 = .ok (.iload 7, 2) := by decide +kernel
theorem dL_why_44 : decode cL_why 44 = .ok (.ifCond .ne 27, 3) := by decide +kernel
theorem dL_why_47 : decode cL_why 47 = .ok (.iload 10, 2) := by decide +kernel
theorem dL_why_49 : decode cL_why 49 = .ok (.iload 4, 2) := by decide +kernel
theorem dL_why_51 : decode cL_why 51 = .ok (.if_icmp .eq 24, 3) := by decide +kernel
theorem dL_why_54 : decode cL_why 54 = .ok (.aload 5, 2) := by decide +kernel
theorem dL_why_56 : decode cL_why 56 = .ok (.iconst 1, 1) := by decide +kernel
theorem dL_why_57 : decode cL_why 57 = .ok (.iaload, 1) := by decide +kernel
theorem dL_why_58 : decode cL_why 58 = .ok (.ifCond .ne 17, 3) := by decide +kernel
theorem dL_why_61 : decode cL_why 61 = .ok (.aload 5, 2) := by decide +kernel
theorem dL_why_63 : decode cL_why 63 = .ok (.iload_n 1, 1) := by decide +kernel
theorem dL_why_64 : decode cL_why 64 = .ok (.iload_n 2, 1) := by decide +kernel
theorem dL_why_65 : decode cL_why 65 = .ok (.invokestatic 68, 3) := by decide +kernel
theorem dL_why_68 : decode cL_why 68 = .ok (.ifCond .eq 7, 3) := by decide +kernel
theorem dL_why_71 : decode cL_why 71 = .ok (.iconst 1, 1) := by decide +kernel
theorem dL_why_72 : decode cL_why 72 = .ok (.goto 4, 3) := by decide +kernel
theorem dL_why_75 : decode cL_why 75 = .ok (.iconst 0, 1) := by decide +kernel
theorem dL_why_76 : decode cL_why 76 = .ok (.istore 7, 2) := by decide +kernel
theorem dL_why_78 : decode cL_why 78 = .ok (.iload 10, 2) := by decide +kernel
theorem dL_why_80 : decode cL_why 80 = .ok (.iload 4, 2) := by decide +kernel
theorem dL_why_82 : decode cL_why 82 = .ok (.if_icmp .eq 157, 3) := by decide +kernel
theorem dL_why_85 : decode cL_why 85 = .ok (.aload 5, 2) := by decide +kernel
theorem dL_why_87 : decode cL_why 87 = .ok (.iconst 1, 1) := by decide +kernel
theorem dL_why_88 : decode cL_why 88 = .ok (.iaload, 1) := by decide +kernel
theorem dL_why_89 : decode cL_why 89 = .ok (.iconst 1, 1) := by decide +kernel
theorem dL_why_90 : decode cL_why 90 = .ok (.if_icmp .ne 149, 3) := by decide +kernel
theorem dL_why_93 : decode cL_why 93 = .ok (.aload 5, 2) := by decide +kernel
theorem dL_why_95 : decode cL_why 95 = .ok (.iload_n 1, 1) := by decide +kernel
theorem dL_why_96 : decode cL_why 96 = .ok (.iload_n 2, 1) := by decide +kernel
theorem dL_why_97 : decode cL_why 97 = .ok (.invokestatic 68, 3) := by decide +kernel
theorem dL_why_100 : decode cL_why 100 = .ok (.ifCond .eq 139, 3) := by decide +kernel
theorem dL_why_103 : decode cL_why 103 = .ok (.iload_n 3, 1) := by decide +kernel
theorem dL_why_104 : decode cL_why 104 = .ok (.aload 5, 2) := by decide +kernel
theorem dL_why_106 : decode cL_why 106 = .ok (.iconst 4, 1) := by decide +kernel
theorem dL_why_107 : decode cL_why 107 = .ok (.iaload, 1) := by decide +kernel
theorem dL_why_108 : decode cL_why 108 = .ok (.if_icmp .ge 131, 3) := by decide +kernel
theorem dL_why_111 : decode cL_why 111 = .ok (.aload 5, 2) := by decide +kernel
theorem dL_why_113 : decode cL_why 113 = .ok (.iconst 0, 1) := by decide +kernel
theorem dL_why_114 : decode cL_why 114 = .ok (.iaload, 1) := by decide +kernel
theorem dL_why_115 : decode cL_why 115 = .ok (.iload 9, 2) := by decide +kernel
theorem dL_why_117 : decode cL_why 117 = .ok (.if_icmp .ge 122, 3) := by decide +kernel
theorem dL_why_120 : decode cL_why 120 = .ok (.iconst 1, 1) := by decide +kernel
theorem dL_why_121 : decode cL_why 121 = .ok (.istore 11, 2) := by decide +kernel
theorem dL_why_123 : decode cL_why 123 = .ok (.iconst 0, 1) := by decide +kernel
theorem dL_why_124 : decode cL_why 124 = .ok (.istore 12, 2) := by decide +kernel
theorem dL_why_126 : decode cL_why 126 = .ok (.iload 12, 2) := by decide +kernel
theorem dL_why_128 : decode cL_why 128 = .ok (.aload_n 0, 1) := by decide +kernel
theorem dL_why_129 : decode cL_why 129 = .ok (.iconst 0, 1) := by decide +kernel
theorem dL_why_130 : decode cL_why 130 = .ok (.invokevirtual 9, 3) := by decide +kernel
theorem dL_why_133 : decode cL_why 133 = .ok (.if_icmp .ge 76, 3) := by decide +kernel
theorem dL_why_136 : decode cL_why 136 = .ok (.aload_n 0, 1) := by decide +kernel
theorem dL_why_137 : decode cL_why 137 = .ok (.iload 12, 2) := by decide +kernel
theorem dL_why_139 : decode cL_why 139 = .ok (.aload 6, 2) := by decide +kernel
theorem dL_why_141 : decode cL_why 141 = .ok (.invokestatic 64, 3) := by decide +kernel
theorem dL_why_144 : decode cL_why 144 = .ok (.iload 11, 2) := by decide +kernel
theorem dL_why_146 : decode cL_why 146 = .ok (.ifCond .eq 54, 3) := by decide +kernel
theorem dL_why_149 : decode cL_why 149 = .ok (.iload 12, 2) := by decide +kernel
theorem dL_why_151 : decode cL_why 151 = .ok (.iload 4, 2) := by decide +kernel
theorem dL_why_153 : decode cL_why 153 = .ok (.if_icmp .eq 43, 3) := by decide +kernel
theorem dL_why_156 : decode cL_why 156 = .ok (.aload 6, 2) := by decide +kernel
theorem dL_why_158 : decode cL_why 158 = .ok (.iconst 1, 1) := by decide +kernel
theorem dL_why_159 : decode cL_why 159 = .ok (.iaload, 1) := by decide +kernel
theorem dL_why_160 : decode cL_why 160 = .ok (.iconst 2, 1) := by decide +kernel
theorem dL_why_161 : decode cL_why 161 = .ok (.if_icmp .ne 35, 3) := by decide +kernel
theorem dL_why_164 : decode cL_why 164 = .ok (.aload 6, 2) := by decide +kernel
theorem dL_why_166 : decode cL_why 166 = .ok (.iload_n 1, 1) := by decide +kernel
theorem dL_why_167 : decode cL_why 167 = .ok (.iload_n 2, 1) := by decide +kernel
theorem dL_why_168 : decode cL_why 168 = .ok (.invokestatic 68, 3) := by decide +kernel
theorem dL_why_171 : decode cL_why 171 = .ok (.ifCond .eq 25, 3) := by decide +kernel
theorem dL_why_174 : decode cL_why 174 = .ok (.aload 6, 2) := by decide +kernel
theorem dL_why_176 : decode cL_why 176 = .ok (.iconst 0, 1) := by decide +kernel
theorem dL_why_177 : decode cL_why 177 = .ok (.iaload, 1) := by decide +kernel
theorem dL_why_178 : decode cL_why 178 = .ok (.aload 5, 2) := by decide +kernel
theorem dL_why_180 : decode cL_why 180 = .ok (.iconst 0, 1) := by decide +kernel
theorem dL_why_181 : decode cL_why 181 = .ok (.iaload, 1) := by decide +kernel
theorem dL_why_182 : decode cL_why 182 = .ok (.if_icmp .gt 14, 3) := by decide +kernel
theorem dL_why_185 : decode cL_why 185 = .ok (.aload 6, 2) := by decide +kernel
theorem dL_why_187 : decode cL_why 187 = .ok (.iconst 4, 1) := by decide +kernel
theorem dL_why_188 : decode cL_why 188 = .ok (.iaload, 1) := by decide +kernel
theorem dL_why_189 : decode cL_why 189 = .ok (.aload 5, 2) := by decide +kernel
theorem dL_why_191 : decode cL_why 191 = .ok (.iconst 4, 1) := by decide +kernel
theorem dL_why_192 : decode cL_why 192 = .ok (.iaload, 1) := by decide +kernel
theorem dL_why_193 : decode cL_why 193 = .ok (.if_icmp .ge 7, 3) := by decide +kernel
theorem dL_why_196 : decode cL_why 196 = .ok (.iconst 1, 1) := by decide +kernel
theorem dL_why_197 : decode cL_why 197 = .ok (.goto 4, 3) := by decide +kernel
theorem dL_why_200 : decode cL_why 200 = .ok (.iconst 0, 1) := by decide +kernel
theorem dL_why_201 : decode cL_why 201 = .ok (.istore 11, 2) := by decide +kernel
theorem dL_why_203 : decode cL_why 203 = .ok (.iinc 12 1, 3) := by decide +kernel
theorem dL_why_206 : decode cL_why 206 = .ok (.goto (-80), 3) := by decide +kernel
theorem dL_why_209 : decode cL_why 209 = .ok (.iload 11, 2) := by decide +kernel
theorem dL_why_211 : decode cL_why 211 = .ok (.ifCond .eq 8, 3) := by decide +kernel
theorem dL_why_214 : decode cL_why 214 = .ok (.iload 10, 2) := by decide +kernel
theorem dL_why_216 : decode cL_why 216 = .ok (.goto 5, 3) := by decide +kernel
theorem dL_why_219 : decode cL_why 219 = .ok (.iload 8, 2) := by decide +kernel
theorem dL_why_221 : decode cL_why 221 = .ok (.istore 8, 2) := by decide +kernel
theorem dL_why_223 : decode cL_why 223 = .ok (.iload 11, 2) := by decide +kernel
theorem dL_why_225 : decode cL_why 225 = .ok (.ifCond .eq 10, 3) := by decide +kernel
theorem dL_why_228 : decode cL_why 228 = .ok (.aload 5, 2) := by decide +kernel
theorem dL_why_230 : decode cL_why 230 = .ok (.iconst 0, 1) := by decide +kernel
theorem dL_why_231 : decode cL_why 231 = .ok (.iaload, 1) := by decide +kernel
theorem dL_why_232 : decode cL_why 232 = .ok (.goto 5, 3) := by decide +kernel
theorem dL_why_235 : decode cL_why 235 = .ok (.iload 9, 2) := by decide +kernel
theorem dL_why_237 : decode cL_why 237 = .ok (.istore 9, 2) := by decide +kernel
theorem dL_why_239 : decode cL_why 239 = .ok (.iinc 10 1, 3) := by decide +kernel
theorem dL_why_242 : decode cL_why 242 = .ok (.goto (-218), 3) := by decide +kernel
theorem dL_why_245 : decode cL_why 245 = .ok (.iload 7, 2) := by decide +kernel
theorem dL_why_247 : decode cL_why 247 = .ok (.ifCond .eq 8, 3) := by decide +kernel
theorem dL_why_250 : decode cL_why 250 = .ok (.iload 8, 2) := by decide +kernel
theorem dL_why_252 : decode cL_why 252 = .ok (.goto 5, 3) := by decide +kernel
theorem dL_why_255 : decode cL_why 255 = .ok (.bipush 100, 2) := by decide +kernel
theorem dL_why_257 : decode cL_why 257 = .ok (.ireturn, 1) := by decide +kernel
theorem dL_read_0 : decode cL_read 0 = .ok (.iconst 0, 1) := by decide +kernel
theorem dL_read_1 : decode cL_read 1 = .ok (.istore_n 3, 1) := by decide +kernel
theorem dL_read_2 : decode cL_read 2 = .ok (.iload_n 3, 1) := by decide +kernel
theorem dL_read_3 : decode cL_read 3 = .ok (.iconst 5, 1) := by decide +kernel
theorem dL_read_4 : decode cL_read 4 = .ok (.if_icmp .ge 18, 3) := by decide +kernel
theorem dL_read_7 : decode cL_read 7 = .ok (.aload_n 2, 1) := by decide +kernel
theorem dL_read_8 : decode cL_read 8 = .ok (.iload_n 3, 1) := by decide +kernel
theorem dL_read_9 : decode cL_read 9 = .ok (.aload_n 0, 1) := by decide +kernel
theorem dL_read_10 : decode cL_read 10 = .ok (.iload_n 1, 1) := by decide +kernel
theorem dL_read_11 : decode cL_read 11 = .ok (.iload_n 3, 1) := by decide +kernel
theorem dL_read_12 : decode cL_read 12 = .ok (.invokevirtual 25, 3) := by decide +kernel
theorem dL_read_15 : decode cL_read 15 = .ok (.iastore, 1) := by decide +kernel
theorem dL_read_16 : decode cL_read 16 = .ok (.iinc 3 1, 3) := by decide +kernel
theorem dL_read_19 : decode cL_read 19 = .ok (.goto (-17), 3) := by decide +kernel
theorem dL_read_22 : decode cL_read 22 = .ok (.return_, 1) := by decide +kernel
theorem dL_holds_0 : decode cL_holds 0 = .ok (.iconst 0, 1) := by decide +kernel
theorem dL_holds_1 : decode cL_holds 1 = .ok (.istore_n 3, 1) := by decide +kernel
theorem dL_holds_2 : decode cL_holds 2 = .ok (.iconst 0, 1) := by decide +kernel
theorem dL_holds_3 : decode cL_holds 3 = .ok (.istore 4, 2) := by decide +kernel
theorem dL_holds_5 : decode cL_holds 5 = .ok (.aload_n 0, 1) := by decide +kernel
theorem dL_holds_6 : decode cL_holds 6 = .ok (.aload_n 0, 1) := by decide +kernel
theorem dL_holds_7 : decode cL_holds 7 = .ok (.iconst 0, 1) := by decide +kernel
theorem dL_holds_8 : decode cL_holds 8 = .ok (.invokevirtual 9, 3) := by decide +kernel
theorem dL_holds_11 : decode cL_holds 11 = .ok (.iconst 0, 1) := by decide +kernel
theorem dL_holds_12 : decode cL_holds 12 = .ok (.invokevirtual 25, 3) := by decide +kernel
theorem dL_holds_15 : decode cL_holds 15 = .ok (.iconst (-1), 1) := by decide +kernel
theorem dL_holds_16 : decode cL_holds 16 = .ok (.if_icmp .ne 19, 3) := by decide +kernel
theorem dL_holds_19 : decode cL_holds 19 = .ok (.aload_n 0, 1) := by decide +kernel
theorem dL_holds_20 : decode cL_holds 20 = .ok (.iconst 5, 1) := by decide +kernel
theorem dL_holds_21 : decode cL_holds 21 = .ok (.iconst 0, 1) := by decide +kernel
theorem dL_holds_22 : decode cL_holds 22 = .ok (.iconst 0, 1) := by decide +kernel
theorem dL_holds_23 : decode cL_holds 23 = .ok (.iconst 0, 1) := by decide +kernel
theorem dL_holds_24 : decode cL_holds 24 = .ok (.invokevirtual 72, 3) := by decide +kernel
theorem dL_holds_27 : decode cL_holds 27 = .ok (.iconst (-1), 1) := by decide +kernel
theorem dL_holds_28 : decode cL_holds 28 = .ok (.if_icmp .ne 7, 3) := by decide +kernel
theorem dL_holds_31 : decode cL_holds 31 = .ok (.iconst 1, 1) := by decide +kernel
theorem dL_holds_32 : decode cL_holds 32 = .ok (.goto 4, 3) := by decide +kernel
theorem dL_holds_35 : decode cL_holds 35 = .ok (.iconst 0, 1) := by decide +kernel
theorem dL_holds_36 : decode cL_holds 36 = .ok (.istore 5, 2) := by decide +kernel
theorem dL_holds_38 : decode cL_holds 38 = .ok (.iconst 0, 1) := by decide +kernel
theorem dL_holds_39 : decode cL_holds 39 = .ok (.istore 6, 2) := by decide +kernel
theorem dL_holds_41 : decode cL_holds 41 = .ok (.iload 6, 2) := by decide +kernel
theorem dL_holds_43 : decode cL_holds 43 = .ok (.iconst 5, 1) := by decide +kernel
theorem dL_holds_44 : decode cL_holds 44 = .ok (.if_icmp .ge 263, 3) := by decide +kernel
theorem dL_holds_47 : decode cL_holds 47 = .ok (.iload 5, 2) := by decide +kernel
theorem dL_holds_49 : decode cL_holds 49 = .ok (.ifCond .eq 258, 3) := by decide +kernel
theorem dL_holds_52 : decode cL_holds 52 = .ok (.iconst 0, 1) := by decide +kernel
theorem dL_holds_53 : decode cL_holds 53 = .ok (.istore 7, 2) := by decide +kernel
theorem dL_holds_55 : decode cL_holds 55 = .ok (.iload 7, 2) := by decide +kernel
theorem dL_holds_57 : decode cL_holds 57 = .ok (.bipush 6, 2) := by decide +kernel
theorem dL_holds_59 : decode cL_holds 59 = .ok (.if_icmp .ge 242, 3) := by decide +kernel
theorem dL_holds_62 : decode cL_holds 62 = .ok (.iload 5, 2) := by decide +kernel
theorem dL_holds_64 : decode cL_holds 64 = .ok (.ifCond .eq 237, 3) := by decide +kernel
theorem dL_holds_67 : decode cL_holds 67 = .ok (.aload_n 0, 1) := by decide +kernel
theorem dL_holds_68 : decode cL_holds 68 = .ok (.iload 6, 2) := by decide +kernel
theorem dL_holds_70 : decode cL_holds 70 = .ok (.iload 7, 2) := by decide +kernel
theorem dL_holds_72 : decode cL_holds 72 = .ok (.invokevirtual 76, 3) := by decide +kernel
theorem dL_holds_75 : decode cL_holds 75 = .ok (.istore 8, 2) := by decide +kernel
theorem dL_holds_77 : decode cL_holds 77 = .ok (.iload_n 2, 1) := by decide +kernel
theorem dL_holds_78 : decode cL_holds 78 = .ok (.bipush 7, 2) := by decide +kernel
theorem dL_holds_80 : decode cL_holds 80 = .ok (.iload 6, 2) := by decide +kernel
theorem dL_holds_82 : decode cL_holds 82 = .ok (.imul, 1) := by decide +kernel
theorem dL_holds_83 : decode cL_holds 83 = .ok (.iadd, 1) := by decide +kernel
theorem dL_holds_84 : decode cL_holds 84 = .ok (.iload 7, 2) := by decide +kernel
theorem dL_holds_86 : decode cL_holds 86 = .ok (.iadd, 1) := by decide +kernel
theorem dL_holds_87 : decode cL_holds 87 = .ok (.bipush 10, 2) := by decide +kernel
theorem dL_holds_89 : decode cL_holds 89 = .ok (.invokestatic 15, 3) := by decide +kernel
theorem dL_holds_92 : decode cL_holds 92 = .ok (.istore 9, 2) := by decide +kernel
theorem dL_holds_94 : decode cL_holds 94 = .ok (.iconst 0, 1) := by decide +kernel
theorem dL_holds_95 : decode cL_holds 95 = .ok (.istore 10, 2) := by decide +kernel
theorem dL_holds_97 : decode cL_holds 97 = .ok (.iload 10, 2) := by decide +kernel
theorem dL_holds_99 : decode cL_holds 99 = .ok (.bipush 10, 2) := by decide +kernel
theorem dL_holds_101 : decode cL_holds 101 = .ok (.if_icmp .ge 122, 3) := by decide +kernel
theorem dL_holds_104 : decode cL_holds 104 = .ok (.iload 5, 2) := by decide +kernel
theorem dL_holds_106 : decode cL_holds 106 = .ok (.ifCond .eq 117, 3) := by decide +kernel
theorem dL_holds_109 : decode cL_holds 109 = .ok (.aload_n 0, 1) := by decide +kernel
theorem dL_holds_110 : decode cL_holds 110 = .ok (.iload 6, 2) := by decide +kernel
theorem dL_holds_112 : decode cL_holds 112 = .ok (.iload 7, 2) := by decide +kernel
theorem dL_holds_114 : decode cL_holds 114 = .ok (.iload 10, 2) := by decide +kernel
theorem dL_holds_116 : decode cL_holds 116 = .ok (.iconst 0, 1) := by decide +kernel
theorem dL_holds_117 : decode cL_holds 117 = .ok (.invokevirtual 72, 3) := by decide +kernel
theorem dL_holds_120 : decode cL_holds 120 = .ok (.iload 8, 2) := by decide +kernel
theorem dL_holds_122 : decode cL_holds 122 = .ok (.bipush (-6), 2) := by decide +kernel
theorem dL_holds_124 : decode cL_holds 124 = .ok (.if_icmp .eq 14, 3) := by decide +kernel
theorem dL_holds_127 : decode cL_holds 127 = .ok (.iload 10, 2) := by decide +kernel
theorem dL_holds_129 : decode cL_holds 129 = .ok (.iload 8, 2) := by decide +kernel
theorem dL_holds_131 : decode cL_holds 131 = .ok (.if_icmp .lt 7, 3) := by decide +kernel
theorem dL_holds_134 : decode cL_holds 134 = .ok (.iconst 1, 1) := by decide +kernel
theorem dL_holds_135 : decode cL_holds 135 = .ok (.goto 4, 3) := by decide +kernel
theorem dL_holds_138 : decode cL_holds 138 = .ok (.iconst 0, 1) := by decide +kernel
theorem dL_holds_139 : decode cL_holds 139 = .ok (.if_icmp .ne 75, 3) := by decide +kernel
theorem dL_holds_142 : decode cL_holds 142 = .ok (.aload_n 0, 1) := by decide +kernel
theorem dL_holds_143 : decode cL_holds 143 = .ok (.iload 6, 2) := by decide +kernel
theorem dL_holds_145 : decode cL_holds 145 = .ok (.iload 7, 2) := by decide +kernel
theorem dL_holds_147 : decode cL_holds 147 = .ok (.iload 10, 2) := by decide +kernel
theorem dL_holds_149 : decode cL_holds 149 = .ok (.iconst 1, 1) := by decide +kernel
theorem dL_holds_150 : decode cL_holds 150 = .ok (.invokevirtual 72, 3) := by decide +kernel
theorem dL_holds_153 : decode cL_holds 153 = .ok (.aload_n 0, 1) := by decide +kernel
theorem dL_holds_154 : decode cL_holds 154 = .ok (.iload 6, 2) := by decide +kernel
theorem dL_holds_156 : decode cL_holds 156 = .ok (.iload 7, 2) := by decide +kernel
theorem dL_holds_158 : decode cL_holds 158 = .ok (.iload 10, 2) := by decide +kernel
theorem dL_holds_160 : decode cL_holds 160 = .ok (.iconst 0, 1) := by decide +kernel
theorem dL_holds_161 : decode cL_holds 161 = .ok (.invokevirtual 72, 3) := by decide +kernel
theorem dL_holds_164 : decode cL_holds 164 = .ok (.if_icmp .ne 50, 3) := by decide +kernel
theorem dL_holds_167 : decode cL_holds 167 = .ok (.aload_n 0, 1) := by decide +kernel
theorem dL_holds_168 : decode cL_holds 168 = .ok (.iload 6, 2) := by decide +kernel
theorem dL_holds_170 : decode cL_holds 170 = .ok (.iload 7, 2) := by decide +kernel
theorem dL_holds_172 : decode cL_holds 172 = .ok (.iload 10, 2) := by decide +kernel
theorem dL_holds_174 : decode cL_holds 174 = .ok (.invokevirtual 60, 3) := by decide +kernel
theorem dL_holds_177 : decode cL_holds 177 = .ok (.bipush (-6), 2) := by decide +kernel
theorem dL_holds_179 : decode cL_holds 179 = .ok (.if_icmp .ne 7, 3) := by decide +kernel
theorem dL_holds_182 : decode cL_holds 182 = .ok (.iconst 1, 1) := by decide +kernel
theorem dL_holds_183 : decode cL_holds 183 = .ok (.goto 4, 3) := by decide +kernel
theorem dL_holds_186 : decode cL_holds 186 = .ok (.iconst 0, 1) := by decide +kernel
theorem dL_holds_187 : decode cL_holds 187 = .ok (.aload_n 0, 1) := by decide +kernel
theorem dL_holds_188 : decode cL_holds 188 = .ok (.iload 6, 2) := by decide +kernel
theorem dL_holds_190 : decode cL_holds 190 = .ok (.iload 7, 2) := by decide +kernel
theorem dL_holds_192 : decode cL_holds 192 = .ok (.iload 10, 2) := by decide +kernel
theorem dL_holds_194 : decode cL_holds 194 = .ok (.iconst 0, 1) := by decide +kernel
theorem dL_holds_195 : decode cL_holds 195 = .ok (.invokevirtual 72, 3) := by decide +kernel
theorem dL_holds_198 : decode cL_holds 198 = .ok (.iconst 1, 1) := by decide +kernel
theorem dL_holds_199 : decode cL_holds 199 = .ok (.if_icmp .ne 7, 3) := by decide +kernel
theorem dL_holds_202 : decode cL_holds 202 = .ok (.iconst 1, 1) := by decide +kernel
theorem dL_holds_203 : decode cL_holds 203 = .ok (.goto 4, 3) := by decide +kernel
theorem dL_holds_206 : decode cL_holds 206 = .ok (.iconst 0, 1) := by decide +kernel
theorem dL_holds_207 : decode cL_holds 207 = .ok (.if_icmp .ne 7, 3) := by decide +kernel
theorem dL_holds_210 : decode cL_holds 210 = .ok (.iconst 1, 1) := by decide +kernel
theorem dL_holds_211 : decode cL_holds 211 = .ok (.goto 4, 3) := by decide +kernel
theorem dL_holds_214 : decode cL_holds 214 = .ok (.iconst 0, 1) := by decide +kernel
theorem dL_holds_215 : decode cL_holds 215 = .ok (.istore 5, 2) := by decide +kernel
theorem dL_holds_217 : decode cL_holds 217 = .ok (.iinc 10 1, 3) := by decide +kernel
theorem dL_holds_220 : decode cL_holds 220 = .ok (.goto (-123), 3) := by decide +kernel
theorem dL_holds_223 : decode cL_holds 223 = .ok (.iload_n 3, 1) := by decide +kernel
theorem dL_holds_224 : decode cL_holds 224 = .ok (.iload 8, 2) := by decide +kernel
theorem dL_holds_226 : decode cL_holds 226 = .ok (.bipush (-6), 2) := by decide +kernel
theorem dL_holds_228 : decode cL_holds 228 = .ok (.if_icmp .ne 7, 3) := by decide +kernel
theorem dL_holds_231 : decode cL_holds 231 = .ok (.iconst 0, 1) := by decide +kernel
theorem dL_holds_232 : decode cL_holds 232 = .ok (.goto 8, 3) := by decide +kernel
theorem dL_holds_235 : decode cL_holds 235 = .ok (.bipush 10, 2) := by decide +kernel
theorem dL_holds_237 : decode cL_holds 237 = .ok (.iload 8, 2) := by decide +kernel
theorem dL_holds_239 : decode cL_holds 239 = .ok (.isub, 1) := by decide +kernel
theorem dL_holds_240 : decode cL_holds 240 = .ok (.iadd, 1) := by decide +kernel
theorem dL_holds_241 : decode cL_holds 241 = .ok (.istore_n 3, 1) := by decide +kernel
theorem dL_holds_242 : decode cL_holds 242 = .ok (.iload 5, 2) := by decide +kernel
theorem dL_holds_244 : decode cL_holds 244 = .ok (.ifCond .eq 47, 3) := by decide +kernel
theorem dL_holds_247 : decode cL_holds 247 = .ok (.iload 6, 2) := by decide +kernel
theorem dL_holds_249 : decode cL_holds 249 = .ok (.iload 7, 2) := by decide +kernel
theorem dL_holds_251 : decode cL_holds 251 = .ok (.iadd, 1) := by decide +kernel
theorem dL_holds_252 : decode cL_holds 252 = .ok (.iload_n 2, 1) := by decide +kernel
theorem dL_holds_253 : decode cL_holds 253 = .ok (.iadd, 1) := by decide +kernel
theorem dL_holds_254 : decode cL_holds 254 = .ok (.iconst 3, 1) := by decide +kernel
theorem dL_holds_255 : decode cL_holds 255 = .ok (.iand, 1) := by decide +kernel
theorem dL_holds_256 : decode cL_holds 256 = .ok (.ifCond .ne 35, 3) := by decide +kernel
theorem dL_holds_259 : decode cL_holds 259 = .ok (.aload_n 0, 1) := by decide +kernel
theorem dL_holds_260 : decode cL_holds 260 = .ok (.iload 6, 2) := by decide +kernel
theorem dL_holds_262 : decode cL_holds 262 = .ok (.iload 7, 2) := by decide +kernel
theorem dL_holds_264 : decode cL_holds 264 = .ok (.iload 9, 2) := by decide +kernel
theorem dL_holds_266 : decode cL_holds 266 = .ok (.invokevirtual 60, 3) := by decide +kernel
theorem dL_holds_269 : decode cL_holds 269 = .ok (.aload_n 0, 1) := by decide +kernel
theorem dL_holds_270 : decode cL_holds 270 = .ok (.iload 6, 2) := by decide +kernel
theorem dL_holds_272 : decode cL_holds 272 = .ok (.iload 7, 2) := by decide +kernel
theorem dL_holds_274 : decode cL_holds 274 = .ok (.iload 9, 2) := by decide +kernel
theorem dL_holds_276 : decode cL_holds 276 = .ok (.iconst (-1), 1) := by decide +kernel
theorem dL_holds_277 : decode cL_holds 277 = .ok (.invokestatic 79, 3) := by decide +kernel
theorem dL_holds_280 : decode cL_holds 280 = .ok (.if_icmp .ne 7, 3) := by decide +kernel
theorem dL_holds_283 : decode cL_holds 283 = .ok (.iconst 1, 1) := by decide +kernel
theorem dL_holds_284 : decode cL_holds 284 = .ok (.goto 9, 3) := by decide +kernel
theorem dL_holds_287 : decode cL_holds 287 = .ok (.iconst 0, 1) := by decide +kernel
theorem dL_holds_288 : decode cL_holds 288 = .ok (.goto 5, 3) := by decide +kernel
theorem dL_holds_291 : decode cL_holds 291 = .ok (.iload 5, 2) := by decide +kernel
theorem dL_holds_293 : decode cL_holds 293 = .ok (.istore 5, 2) := by decide +kernel
theorem dL_holds_295 : decode cL_holds 295 = .ok (.iinc 7 1, 3) := by decide +kernel
theorem dL_holds_298 : decode cL_holds 298 = .ok (.goto (-243), 3) := by decide +kernel
theorem dL_holds_301 : decode cL_holds 301 = .ok (.iinc 6 1, 3) := by decide +kernel
theorem dL_holds_304 : decode cL_holds 304 = .ok (.goto (-263), 3) := by decide +kernel
theorem dL_holds_307 : decode cL_holds 307 = .ok (.iconst 0, 1) := by decide +kernel
theorem dL_holds_308 : decode cL_holds 308 = .ok (.istore 6, 2) := by decide +kernel
theorem dL_holds_310 : decode cL_holds 310 = .ok (.iconst 0, 1) := by decide +kernel
theorem dL_holds_311 : decode cL_holds 311 = .ok (.istore 7, 2) := by decide +kernel
theorem dL_holds_313 : decode cL_holds 313 = .ok (.iconst 0, 1) := by decide +kernel
theorem dL_holds_314 : decode cL_holds 314 = .ok (.istore 8, 2) := by decide +kernel
theorem dL_holds_316 : decode cL_holds 316 = .ok (.iload 8, 2) := by decide +kernel
theorem dL_holds_318 : decode cL_holds 318 = .ok (.aload_n 0, 1) := by decide +kernel
theorem dL_holds_319 : decode cL_holds 319 = .ok (.iconst 0, 1) := by decide +kernel
theorem dL_holds_320 : decode cL_holds 320 = .ok (.invokevirtual 9, 3) := by decide +kernel
theorem dL_holds_323 : decode cL_holds 323 = .ok (.if_icmp .ge 145, 3) := by decide +kernel
theorem dL_holds_326 : decode cL_holds 326 = .ok (.iload 5, 2) := by decide +kernel
theorem dL_holds_328 : decode cL_holds 328 = .ok (.ifCond .eq 140, 3) := by decide +kernel
theorem dL_holds_331 : decode cL_holds 331 = .ok (.iload 4, 2) := by decide +kernel
theorem dL_holds_333 : decode cL_holds 333 = .ok (.aload_n 0, 1) := by decide +kernel
theorem dL_holds_334 : decode cL_holds 334 = .ok (.iload 8, 2) := by decide +kernel
theorem dL_holds_336 : decode cL_holds 336 = .ok (.iconst 1, 1) := by decide +kernel
theorem dL_holds_337 : decode cL_holds 337 = .ok (.invokevirtual 25, 3) := by decide +kernel
theorem dL_holds_340 : decode cL_holds 340 = .ok (.ifCond .lt 14, 3) := by decide +kernel
theorem dL_holds_343 : decode cL_holds 343 = .ok (.aload_n 0, 1) := by decide +kernel
theorem dL_holds_344 : decode cL_holds 344 = .ok (.iload 8, 2) := by decide +kernel
theorem dL_holds_346 : decode cL_holds 346 = .ok (.iconst 1, 1) := by decide +kernel
theorem dL_holds_347 : decode cL_holds 347 = .ok (.invokevirtual 25, 3) := by decide +kernel
theorem dL_holds_350 : decode cL_holds 350 = .ok (.iconst 2, 1) := by decide +kernel
theorem dL_holds_351 : decode cL_holds 351 = .ok (.if_icmp .le 7, 3) := by decide +kernel
theorem dL_holds_354 : decode cL_holds 354 = .ok (.iconst 1, 1) := by decide +kernel
theorem dL_holds_355 : decode cL_holds 355 = .ok (.goto 4, 3) := by decide +kernel
theorem dL_holds_358 : decode cL_holds 358 = .ok (.iconst 0, 1) := by decide +kernel
theorem dL_holds_359 : decode cL_holds 359 = .ok (.iadd, 1) := by decide +kernel
theorem dL_holds_360 : decode cL_holds 360 = .ok (.istore 4, 2) := by decide +kernel
theorem dL_holds_362 : decode cL_holds 362 = .ok (.iload 6, 2) := by decide +kernel
theorem dL_holds_364 : decode cL_holds 364 = .ok (.aload_n 0, 1) := by decide +kernel
theorem dL_holds_365 : decode cL_holds 365 = .ok (.iload 8, 2) := by decide +kernel
theorem dL_holds_367 : decode cL_holds 367 = .ok (.bipush 6, 2) := by decide +kernel
theorem dL_holds_369 : decode cL_holds 369 = .ok (.invokevirtual 25, 3) := by decide +kernel
theorem dL_holds_372 : decode cL_holds 372 = .ok (.iadd, 1) := by decide +kernel
theorem dL_holds_373 : decode cL_holds 373 = .ok (.istore 6, 2) := by decide +kernel
theorem dL_holds_375 : decode cL_holds 375 = .ok (.iload 7, 2) := by decide +kernel
theorem dL_holds_377 : decode cL_holds 377 = .ok (.aload_n 0, 1) := by decide +kernel
theorem dL_holds_378 : decode cL_holds 378 = .ok (.iload 8, 2) := by decide +kernel
theorem dL_holds_380 : decode cL_holds 380 = .ok (.iconst 5, 1) := by decide +kernel
theorem dL_holds_381 : decode cL_holds 381 = .ok (.invokevirtual 25, 3) := by decide +kernel
theorem dL_holds_384 : decode cL_holds 384 = .ok (.iadd, 1) := by decide +kernel
theorem dL_holds_385 : decode cL_holds 385 = .ok (.istore 7, 2) := by decide +kernel
theorem dL_holds_387 : decode cL_holds 387 = .ok (.aload_n 0, 1) := by decide +kernel
theorem dL_holds_388 : decode cL_holds 388 = .ok (.iload 8, 2) := by decide +kernel
theorem dL_holds_390 : decode cL_holds 390 = .ok (.bipush 7, 2) := by decide +kernel
theorem dL_holds_392 : decode cL_holds 392 = .ok (.invokevirtual 25, 3) := by decide +kernel
theorem dL_holds_395 : decode cL_holds 395 = .ok (.aload_n 0, 1) := by decide +kernel
theorem dL_holds_396 : decode cL_holds 396 = .ok (.iload 8, 2) := by decide +kernel
theorem dL_holds_398 : decode cL_holds 398 = .ok (.iconst 2, 1) := by decide +kernel
theorem dL_holds_399 : decode cL_holds 399 = .ok (.invokevirtual 25, 3) := by decide +kernel
theorem dL_holds_402 : decode cL_holds 402 = .ok (.iconst 5, 1) := by decide +kernel
theorem dL_holds_403 : decode cL_holds 403 = .ok (.if_icmp .ne 7, 3) := by decide +kernel
theorem dL_holds_406 : decode cL_holds 406 = .ok (.iconst 5, 1) := by decide +kernel
theorem dL_holds_407 : decode cL_holds 407 = .ok (.goto 4, 3) := by decide +kernel
theorem dL_holds_410 : decode cL_holds 410 = .ok (.iconst 1, 1) := by decide +kernel
theorem dL_holds_411 : decode cL_holds 411 = .ok (.aload_n 0, 1) := by decide +kernel
theorem dL_holds_412 : decode cL_holds 412 = .ok (.iload 8, 2) := by decide +kernel
theorem dL_holds_414 : decode cL_holds 414 = .ok (.iconst 3, 1) := by decide +kernel
theorem dL_holds_415 : decode cL_holds 415 = .ok (.invokevirtual 25, 3) := by decide +kernel
theorem dL_holds_418 : decode cL_holds 418 = .ok (.bipush 6, 2) := by decide +kernel
theorem dL_holds_420 : decode cL_holds 420 = .ok (.if_icmp .ne 8, 3) := by decide +kernel
theorem dL_holds_423 : decode cL_holds 423 = .ok (.bipush 6, 2) := by decide +kernel
theorem dL_holds_425 : decode cL_holds 425 = .ok (.goto 4, 3) := by decide +kernel
theorem dL_holds_428 : decode cL_holds 428 = .ok (.iconst 1, 1) := by decide +kernel
theorem dL_holds_429 : decode cL_holds 429 = .ok (.imul, 1) := by decide +kernel
theorem dL_holds_430 : decode cL_holds 430 = .ok (.if_icmp .ne 29, 3) := by decide +kernel
theorem dL_holds_433 : decode cL_holds 433 = .ok (.aload_n 0, 1) := by decide +kernel
theorem dL_holds_434 : decode cL_holds 434 = .ok (.iload 8, 2) := by decide +kernel
theorem dL_holds_436 : decode cL_holds 436 = .ok (.iconst 5, 1) := by decide +kernel
theorem dL_holds_437 : decode cL_holds 437 = .ok (.invokevirtual 25, 3) := by decide +kernel
theorem dL_holds_440 : decode cL_holds 440 = .ok (.ifCond .eq 15, 3) := by decide +kernel
theorem dL_holds_443 : decode cL_holds 443 = .ok (.aload_n 0, 1) := by decide +kernel
theorem dL_holds_444 : decode cL_holds 444 = .ok (.iload 8, 2) := by decide +kernel
theorem dL_holds_446 : decode cL_holds 446 = .ok (.invokevirtual 82, 3) := by decide +kernel
theorem dL_holds_449 : decode cL_holds 449 = .ok (.sipush 1000, 3) := by decide +kernel
theorem dL_holds_452 : decode cL_holds 452 = .ok (.if_icmp .ne 7, 3) := by decide +kernel
theorem dL_holds_455 : decode cL_holds 455 = .ok (.iconst 1, 1) := by decide +kernel
theorem dL_holds_456 : decode cL_holds 456 = .ok (.goto 4, 3) := by decide +kernel
theorem dL_holds_459 : decode cL_holds 459 = .ok (.iconst 0, 1) := by decide +kernel
theorem dL_holds_460 : decode cL_holds 460 = .ok (.istore 5, 2) := by decide +kernel
theorem dL_holds_462 : decode cL_holds 462 = .ok (.iinc 8 1, 3) := by decide +kernel
theorem dL_holds_465 : decode cL_holds 465 = .ok (.goto (-149), 3) := by decide +kernel
theorem dL_holds_468 : decode cL_holds 468 = .ok (.iconst 0, 1) := by decide +kernel
theorem dL_holds_469 : decode cL_holds 469 = .ok (.istore 8, 2) := by decide +kernel
theorem dL_holds_471 : decode cL_holds 471 = .ok (.iconst 0, 1) := by decide +kernel
theorem dL_holds_472 : decode cL_holds 472 = .ok (.istore 9, 2) := by decide +kernel
theorem dL_holds_474 : decode cL_holds 474 = .ok (.iload 9, 2) := by decide +kernel
theorem dL_holds_476 : decode cL_holds 476 = .ok (.aload_n 0, 1) := by decide +kernel
theorem dL_holds_477 : decode cL_holds 477 = .ok (.bipush 7, 2) := by decide +kernel
theorem dL_holds_479 : decode cL_holds 479 = .ok (.invokevirtual 9, 3) := by decide +kernel
theorem dL_holds_482 : decode cL_holds 482 = .ok (.if_icmp .ge 93, 3) := by decide +kernel
theorem dL_holds_485 : decode cL_holds 485 = .ok (.iload 5, 2) := by decide +kernel
theorem dL_holds_487 : decode cL_holds 487 = .ok (.ifCond .eq 88, 3) := by decide +kernel
theorem dL_holds_490 : decode cL_holds 490 = .ok (.iconst 0, 1) := by decide +kernel
theorem dL_holds_491 : decode cL_holds 491 = .ok (.istore 10, 2) := by decide +kernel
theorem dL_holds_493 : decode cL_holds 493 = .ok (.iconst 0, 1) := by decide +kernel
theorem dL_holds_494 : decode cL_holds 494 = .ok (.istore 11, 2) := by decide +kernel
theorem dL_holds_496 : decode cL_holds 496 = .ok (.iload 11, 2) := by decide +kernel
theorem dL_holds_498 : decode cL_holds 498 = .ok (.bipush 6, 2) := by decide +kernel
theorem dL_holds_500 : decode cL_holds 500 = .ok (.if_icmp .ge 38, 3) := by decide +kernel
theorem dL_holds_503 : decode cL_holds 503 = .ok (.iload 10, 2) := by decide +kernel
theorem dL_holds_505 : decode cL_holds 505 = .ok (.aload_n 0, 1) := by decide +kernel
theorem dL_holds_506 : decode cL_holds 506 = .ok (.aload_n 0, 1) := by decide +kernel
theorem dL_holds_507 : decode cL_holds 507 = .ok (.iload 9, 2) := by decide +kernel
theorem dL_holds_509 : decode cL_holds 509 = .ok (.iconst 0, 1) := by decide +kernel
theorem dL_holds_510 : decode cL_holds 510 = .ok (.invokevirtual 44, 3) := by decide +kernel
theorem dL_holds_513 : decode cL_holds 513 = .ok (.iload 11, 2) := by decide +kernel
theorem dL_holds_515 : decode cL_holds 515 = .ok (.aload_n 0, 1) := by decide +kernel
theorem dL_holds_516 : decode cL_holds 516 = .ok (.iload 9, 2) := by decide +kernel
theorem dL_holds_518 : decode cL_holds 518 = .ok (.iconst 1, 1) := by decide +kernel
theorem dL_holds_519 : decode cL_holds 519 = .ok (.invokevirtual 44, 3) := by decide +kernel
theorem dL_holds_522 : decode cL_holds 522 = .ok (.iconst 0, 1) := by decide +kernel
theorem dL_holds_523 : decode cL_holds 523 = .ok (.invokevirtual 72, 3) := by decide +kernel
theorem dL_holds_526 : decode cL_holds 526 = .ok (.iload 11, 2) := by decide +kernel
theorem dL_holds_528 : decode cL_holds 528 = .ok (.ishl, 1) := by decide +kernel
theorem dL_holds_529 : decode cL_holds 529 = .ok (.ior, 1) := by decide +kernel
theorem dL_holds_530 : decode cL_holds 530 = .ok (.istore 10, 2) := by decide +kernel
theorem dL_holds_532 : decode cL_holds 532 = .ok (.iinc 11 1, 3) := by decide +kernel
theorem dL_holds_535 : decode cL_holds 535 = .ok (.goto (-39), 3) := by decide +kernel
theorem dL_holds_538 : decode cL_holds 538 = .ok (.aload_n 0, 1) := by decide +kernel
theorem dL_holds_539 : decode cL_holds 539 = .ok (.iload 9, 2) := by decide +kernel
theorem dL_holds_541 : decode cL_holds 541 = .ok (.iconst 2, 1) := by decide +kernel
theorem dL_holds_542 : decode cL_holds 542 = .ok (.invokevirtual 44, 3) := by decide +kernel
theorem dL_holds_545 : decode cL_holds 545 = .ok (.iload 10, 2) := by decide +kernel
theorem dL_holds_547 : decode cL_holds 547 = .ok (.if_icmp .ne 7, 3) := by decide +kernel
theorem dL_holds_550 : decode cL_holds 550 = .ok (.iconst 1, 1) := by decide +kernel
theorem dL_holds_551 : decode cL_holds 551 = .ok (.goto 4, 3) := by decide +kernel
theorem dL_holds_554 : decode cL_holds 554 = .ok (.iconst 0, 1) := by decide +kernel
theorem dL_holds_555 : decode cL_holds 555 = .ok (.istore 5, 2) := by decide +kernel
theorem dL_holds_557 : decode cL_holds 557 = .ok (.iload 8, 2) := by decide +kernel
theorem dL_holds_559 : decode cL_holds 559 = .ok (.aload_n 0, 1) := by decide +kernel
theorem dL_holds_560 : decode cL_holds 560 = .ok (.iload 9, 2) := by decide +kernel
theorem dL_holds_562 : decode cL_holds 562 = .ok (.iconst 3, 1) := by decide +kernel
theorem dL_holds_563 : decode cL_holds 563 = .ok (.invokevirtual 44, 3) := by decide +kernel
theorem dL_holds_566 : decode cL_holds 566 = .ok (.iadd, 1) := by decide +kernel
theorem dL_holds_567 : decode cL_holds 567 = .ok (.istore 8, 2) := by decide +kernel
theorem dL_holds_569 : decode cL_holds 569 = .ok (.iinc 9 1, 3) := by decide +kernel
theorem dL_holds_572 : decode cL_holds 572 = .ok (.goto (-98), 3) := by decide +kernel
theorem dL_holds_575 : decode cL_holds 575 = .ok (.iconst 0, 1) := by decide +kernel
theorem dL_holds_576 : decode cL_holds 576 = .ok (.istore 9, 2) := by decide +kernel
theorem dL_holds_578 : decode cL_holds 578 = .ok (.bipush 9, 2) := by decide +kernel
theorem dL_holds_580 : decode cL_holds 580 = .ok (.istore 10, 2) := by decide +kernel
theorem dL_holds_582 : decode cL_holds 582 = .ok (.iload 10, 2) := by decide +kernel
theorem dL_holds_584 : decode cL_holds 584 = .ok (.bipush 15, 2) := by decide +kernel
theorem dL_holds_586 : decode cL_holds 586 = .ok (.if_icmp .ge 20, 3) := by decide +kernel
theorem dL_holds_589 : decode cL_holds 589 = .ok (.iload 9, 2) := by decide +kernel
theorem dL_holds_591 : decode cL_holds 591 = .ok (.aload_n 0, 1) := by decide +kernel
theorem dL_holds_592 : decode cL_holds 592 = .ok (.iload 10, 2) := by decide +kernel
theorem dL_holds_594 : decode cL_holds 594 = .ok (.invokevirtual 9, 3) := by decide +kernel
theorem dL_holds_597 : decode cL_holds 597 = .ok (.iadd, 1) := by decide +kernel
theorem dL_holds_598 : decode cL_holds 598 = .ok (.istore 9, 2) := by decide +kernel
theorem dL_holds_600 : decode cL_holds 600 = .ok (.iinc 10 1, 3) := by decide +kernel
theorem dL_holds_603 : decode cL_holds 603 = .ok (.goto (-21), 3) := by decide +kernel
theorem dL_holds_606 : decode cL_holds 606 = .ok (.iload 5, 2) := by decide +kernel
theorem dL_holds_608 : decode cL_holds 608 = .ok (.ifCond .eq 100, 3) := by decide +kernel
theorem dL_holds_611 : decode cL_holds 611 = .ok (.iload 4, 2) := by decide +kernel
theorem dL_holds_613 : decode cL_holds 613 = .ok (.ifCond .ne 95, 3) := by decide +kernel
theorem dL_holds_616 : decode cL_holds 616 = .ok (.iload_n 3, 1) := by decide +kernel
theorem dL_holds_617 : decode cL_holds 617 = .ok (.aload_n 0, 1) := by decide +kernel
theorem dL_holds_618 : decode cL_holds 618 = .ok (.bipush 6, 2) := by decide +kernel
theorem dL_holds_620 : decode cL_holds 620 = .ok (.invokevirtual 9, 3) := by decide +kernel
theorem dL_holds_623 : decode cL_holds 623 = .ok (.if_icmp .ne 85, 3) := by decide +kernel
theorem dL_holds_626 : decode cL_holds 626 = .ok (.iload 6, 2) := by decide +kernel
theorem dL_holds_628 : decode cL_holds 628 = .ok (.iconst 2, 1) := by decide +kernel
theorem dL_holds_629 : decode cL_holds 629 = .ok (.aload_n 0, 1) := by decide +kernel
theorem dL_holds_630 : decode cL_holds 630 = .ok (.iconst 5, 1) := by decide +kernel
theorem dL_holds_631 : decode cL_holds 631 = .ok (.invokevirtual 9, 3) := by decide +kernel
theorem dL_holds_634 : decode cL_holds 634 = .ok (.imul, 1) := by decide +kernel
theorem dL_holds_635 : decode cL_holds 635 = .ok (.if_icmp .ne 73, 3) := by decide +kernel
theorem dL_holds_638 : decode cL_holds 638 = .ok (.iload 7, 2) := by decide +kernel
theorem dL_holds_640 : decode cL_holds 640 = .ok (.aload_n 0, 1) := by decide +kernel
theorem dL_holds_641 : decode cL_holds 641 = .ok (.iconst 4, 1) := by decide +kernel
theorem dL_holds_642 : decode cL_holds 642 = .ok (.invokevirtual 9, 3) := by decide +kernel
theorem dL_holds_645 : decode cL_holds 645 = .ok (.if_icmp .ne 63, 3) := by decide +kernel
theorem dL_holds_648 : decode cL_holds 648 = .ok (.aload_n 0, 1) := by decide +kernel
theorem dL_holds_649 : decode cL_holds 649 = .ok (.iconst 1, 1) := by decide +kernel
theorem dL_holds_650 : decode cL_holds 650 = .ok (.invokevirtual 9, 3) := by decide +kernel
theorem dL_holds_653 : decode cL_holds 653 = .ok (.aload_n 0, 1) := by decide +kernel
theorem dL_holds_654 : decode cL_holds 654 = .ok (.iconst 2, 1) := by decide +kernel
theorem dL_holds_655 : decode cL_holds 655 = .ok (.invokevirtual 9, 3) := by decide +kernel
theorem dL_holds_658 : decode cL_holds 658 = .ok (.iadd, 1) := by decide +kernel
theorem dL_holds_659 : decode cL_holds 659 = .ok (.aload_n 0, 1) := by decide +kernel
theorem dL_holds_660 : decode cL_holds 660 = .ok (.iconst 3, 1) := by decide +kernel
theorem dL_holds_661 : decode cL_holds 661 = .ok (.invokevirtual 9, 3) := by decide +kernel
theorem dL_holds_664 : decode cL_holds 664 = .ok (.iadd, 1) := by decide +kernel
theorem dL_holds_665 : decode cL_holds 665 = .ok (.aload_n 0, 1) := by decide +kernel
theorem dL_holds_666 : decode cL_holds 666 = .ok (.iconst 0, 1) := by decide +kernel
theorem dL_holds_667 : decode cL_holds 667 = .ok (.invokevirtual 9, 3) := by decide +kernel
theorem dL_holds_670 : decode cL_holds 670 = .ok (.if_icmp .ne 38, 3) := by decide +kernel
theorem dL_holds_673 : decode cL_holds 673 = .ok (.iload 8, 2) := by decide +kernel
theorem dL_holds_675 : decode cL_holds 675 = .ok (.aload_n 0, 1) := by decide +kernel
theorem dL_holds_676 : decode cL_holds 676 = .ok (.bipush 8, 2) := by decide +kernel
theorem dL_holds_678 : decode cL_holds 678 = .ok (.invokevirtual 9, 3) := by decide +kernel
theorem dL_holds_681 : decode cL_holds 681 = .ok (.if_icmp .gt 27, 3) := by decide +kernel
theorem dL_holds_684 : decode cL_holds 684 = .ok (.aload_n 1, 1) := by decide +kernel
theorem dL_holds_685 : decode cL_holds 685 = .ok (.iconst 0, 1) := by decide +kernel
theorem dL_holds_686 : decode cL_holds 686 = .ok (.iaload, 1) := by decide +kernel
theorem dL_holds_687 : decode cL_holds 687 = .ok (.aload_n 0, 1) := by decide +kernel
theorem dL_holds_688 : decode cL_holds 688 = .ok (.bipush 8, 2) := by decide +kernel
theorem dL_holds_690 : decode cL_holds 690 = .ok (.invokevirtual 9, 3) := by decide +kernel
theorem dL_holds_693 : decode cL_holds 693 = .ok (.if_icmp .ne 15, 3) := by decide +kernel
theorem dL_holds_696 : decode cL_holds 696 = .ok (.aload_n 1, 1) := by decide +kernel
theorem dL_holds_697 : decode cL_holds 697 = .ok (.iconst 1, 1) := by decide +kernel
theorem dL_holds_698 : decode cL_holds 698 = .ok (.iaload, 1) := by decide +kernel
theorem dL_holds_699 : decode cL_holds 699 = .ok (.iload 9, 2) := by decide +kernel
theorem dL_holds_701 : decode cL_holds 701 = .ok (.if_icmp .ne 7, 3) := by decide +kernel
theorem dL_holds_704 : decode cL_holds 704 = .ok (.iconst 1, 1) := by decide +kernel
theorem dL_holds_705 : decode cL_holds 705 = .ok (.goto 4, 3) := by decide +kernel
theorem dL_holds_708 : decode cL_holds 708 = .ok (.iconst 0, 1) := by decide +kernel
theorem dL_holds_709 : decode cL_holds 709 = .ok (.ireturn, 1) := by decide +kernel
theorem dL_tries_0 : decode cL_tries 0 = .ok (.aload_n 0, 1) := by decide +kernel
theorem dL_tries_1 : decode cL_tries 1 = .ok (.iconst 0, 1) := by decide +kernel
theorem dL_tries_2 : decode cL_tries 2 = .ok (.invokevirtual 9, 3) := by decide +kernel
theorem dL_tries_5 : decode cL_tries 5 = .ok (.istore_n 2, 1) := by decide +kernel
theorem dL_tries_6 : decode cL_tries 6 = .ok (.aload_n 0, 1) := by decide +kernel
theorem dL_tries_7 : decode cL_tries 7 = .ok (.bipush 6, 2) := by decide +kernel
theorem dL_tries_9 : decode cL_tries 9 = .ok (.invokevirtual 9, 3) := by decide +kernel
theorem dL_tries_12 : decode cL_tries 12 = .ok (.istore_n 3, 1) := by decide +kernel
theorem dL_tries_13 : decode cL_tries 13 = .ok (.iload_n 1, 1) := by decide +kernel
theorem dL_tries_14 : decode cL_tries 14 = .ok (.iload_n 2, 1) := by decide +kernel
theorem dL_tries_15 : decode cL_tries 15 = .ok (.iconst 1, 1) := by decide +kernel
theorem dL_tries_16 : decode cL_tries 16 = .ok (.iadd, 1) := by decide +kernel
theorem dL_tries_17 : decode cL_tries 17 = .ok (.invokestatic 15, 3) := by decide +kernel
theorem dL_tries_20 : decode cL_tries 20 = .ok (.istore 4, 2) := by decide +kernel
theorem dL_tries_22 : decode cL_tries 22 = .ok (.aload_n 0, 1) := by decide +kernel
theorem dL_tries_23 : decode cL_tries 23 = .ok (.iload 4, 2) := by decide +kernel
theorem dL_tries_25 : decode cL_tries 25 = .ok (.invokevirtual 82, 3) := by decide +kernel
theorem dL_tries_28 : decode cL_tries 28 = .ok (.istore 5, 2) := by decide +kernel
theorem dL_tries_30 : decode cL_tries 30 = .ok (.aload_n 0, 1) := by decide +kernel
theorem dL_tries_31 : decode cL_tries 31 = .ok (.iload 4, 2) := by decide +kernel
theorem dL_tries_33 : decode cL_tries 33 = .ok (.iconst 5, 1) := by decide +kernel
theorem dL_tries_34 : decode cL_tries 34 = .ok (.invokevirtual 25, 3) := by decide +kernel
theorem dL_tries_37 : decode cL_tries 37 = .ok (.istore 6, 2) := by decide +kernel
theorem dL_tries_39 : decode cL_tries 39 = .ok (.iload 4, 2) := by decide +kernel
theorem dL_tries_41 : decode cL_tries 41 = .ok (.iload_n 2, 1) := by decide +kernel
theorem dL_tries_42 : decode cL_tries 42 = .ok (.if_icmp .ne 17, 3) := by decide +kernel
theorem dL_tries_45 : decode cL_tries 45 = .ok (.iload 5, 2) := by decide +kernel
theorem dL_tries_47 : decode cL_tries 47 = .ok (.iconst (-1), 1) := by decide +kernel
theorem dL_tries_48 : decode cL_tries 48 = .ok (.if_icmp .ne 7, 3) := by decide +kernel
theorem dL_tries_51 : decode cL_tries 51 = .ok (.iconst 1, 1) := by decide +kernel
theorem dL_tries_52 : decode cL_tries 52 = .ok (.goto 63, 3) := by decide +kernel
theorem dL_tries_55 : decode cL_tries 55 = .ok (.iconst 0, 1) := by decide +kernel
theorem dL_tries_56 : decode cL_tries 56 = .ok (.goto 59, 3) := by decide +kernel
theorem dL_tries_59 : decode cL_tries 59 = .ok (.aload_n 0, 1) := by decide +kernel
theorem dL_tries_60 : decode cL_tries 60 = .ok (.iload 4, 2) := by decide +kernel
theorem dL_tries_62 : decode cL_tries 62 = .ok (.invokevirtual 28, 3) := by decide +kernel
theorem dL_tries_65 : decode cL_tries 65 = .ok (.iload_n 2, 1) := by decide +kernel
theorem dL_tries_66 : decode cL_tries 66 = .ok (.iconst 1, 1) := by decide +kernel
theorem dL_tries_67 : decode cL_tries 67 = .ok (.isub, 1) := by decide +kernel
theorem dL_tries_68 : decode cL_tries 68 = .ok (.if_icmp .ne 46, 3) := by decide +kernel
theorem dL_tries_71 : decode cL_tries 71 = .ok (.aload_n 0, 1) := by decide +kernel
theorem dL_tries_72 : decode cL_tries 72 = .ok (.bipush 6, 2) := by decide +kernel
theorem dL_tries_74 : decode cL_tries 74 = .ok (.invokevirtual 9, 3) := by decide +kernel
theorem dL_tries_77 : decode cL_tries 77 = .ok (.iload_n 3, 1) := by decide +kernel
theorem dL_tries_78 : decode cL_tries 78 = .ok (.iload 5, 2) := by decide +kernel
theorem dL_tries_80 : decode cL_tries 80 = .ok (.iadd, 1) := by decide +kernel
theorem dL_tries_81 : decode cL_tries 81 = .ok (.sipush 1000, 3) := by decide +kernel
theorem dL_tries_84 : decode cL_tries 84 = .ok (.isub, 1) := by decide +kernel
theorem dL_tries_85 : decode cL_tries 85 = .ok (.if_icmp .ne 29, 3) := by decide +kernel
theorem dL_tries_88 : decode cL_tries 88 = .ok (.iload 6, 2) := by decide +kernel
theorem dL_tries_90 : decode cL_tries 90 = .ok (.ifCond .eq 13, 3) := by decide +kernel
theorem dL_tries_93 : decode cL_tries 93 = .ok (.aload_n 0, 1) := by decide +kernel
theorem dL_tries_94 : decode cL_tries 94 = .ok (.bipush 6, 2) := by decide +kernel
theorem dL_tries_96 : decode cL_tries 96 = .ok (.invokevirtual 9, 3) := by decide +kernel
theorem dL_tries_99 : decode cL_tries 99 = .ok (.iload_n 3, 1) := by decide +kernel
theorem dL_tries_100 : decode cL_tries 100 = .ok (.if_icmp .ne 14, 3) := by decide +kernel
theorem dL_tries_103 : decode cL_tries 103 = .ok (.aload_n 0, 1) := by decide +kernel
theorem dL_tries_104 : decode cL_tries 104 = .ok (.invokevirtual 85, 3) := by decide +kernel
theorem dL_tries_107 : decode cL_tries 107 = .ok (.ifCond .lt 7, 3) := by decide +kernel
theorem dL_tries_110 : decode cL_tries 110 = .ok (.iconst 1, 1) := by decide +kernel
theorem dL_tries_111 : decode cL_tries 111 = .ok (.goto 4, 3) := by decide +kernel
theorem dL_tries_114 : decode cL_tries 114 = .ok (.iconst 0, 1) := by decide +kernel
theorem dL_tries_115 : decode cL_tries 115 = .ok (.istore 7, 2) := by decide +kernel
theorem dL_tries_117 : decode cL_tries 117 = .ok (.aload_n 0, 1) := by decide +kernel
theorem dL_tries_118 : decode cL_tries 118 = .ok (.invokevirtual 88, 3) := by decide +kernel
theorem dL_tries_121 : decode cL_tries 121 = .ok (.istore 8, 2) := by decide +kernel
theorem dL_tries_123 : decode cL_tries 123 = .ok (.iload 7, 2) := by decide +kernel
theorem dL_tries_125 : decode cL_tries 125 = .ok (.ifCond .eq 35, 3) := by decide +kernel
theorem dL_tries_128 : decode cL_tries 128 = .ok (.iload 8, 2) := by decide +kernel
theorem dL_tries_130 : decode cL_tries 130 = .ok (.bipush (-6), 2) := by decide +kernel
theorem dL_tries_132 : decode cL_tries 132 = .ok (.if_icmp .ne 7, 3) := by decide +kernel
theorem dL_tries_135 : decode cL_tries 135 = .ok (.iconst 1, 1) := by decide +kernel
theorem dL_tries_136 : decode cL_tries 136 = .ok (.goto 4, 3) := by decide +kernel
theorem dL_tries_139 : decode cL_tries 139 = .ok (.iconst 0, 1) := by decide +kernel
theorem dL_tries_140 : decode cL_tries 140 = .ok (.aload_n 0, 1) := by decide +kernel
theorem dL_tries_141 : decode cL_tries 141 = .ok (.iconst 2, 1) := by decide +kernel
theorem dL_tries_142 : decode cL_tries 142 = .ok (.invokevirtual 9, 3) := by decide +kernel
theorem dL_tries_145 : decode cL_tries 145 = .ok (.ifCond .ne 7, 3) := by decide +kernel
theorem dL_tries_148 : decode cL_tries 148 = .ok (.iconst 1, 1) := by decide +kernel
theorem dL_tries_149 : decode cL_tries 149 = .ok (.goto 4, 3) := by decide +kernel
theorem dL_tries_152 : decode cL_tries 152 = .ok (.iconst 0, 1) := by decide +kernel
theorem dL_tries_153 : decode cL_tries 153 = .ok (.if_icmp .ne 7, 3) := by decide +kernel
theorem dL_tries_156 : decode cL_tries 156 = .ok (.iconst 1, 1) := by decide +kernel
theorem dL_tries_157 : decode cL_tries 157 = .ok (.goto 4, 3) := by decide +kernel
theorem dL_tries_160 : decode cL_tries 160 = .ok (.iconst 0, 1) := by decide +kernel
theorem dL_tries_161 : decode cL_tries 161 = .ok (.istore 7, 2) := by decide +kernel
theorem dL_tries_163 : decode cL_tries 163 = .ok (.iconst 0, 1) := by decide +kernel
theorem dL_tries_164 : decode cL_tries 164 = .ok (.istore 9, 2) := by decide +kernel
theorem dL_tries_166 : decode cL_tries 166 = .ok (.iload 9, 2) := by decide +kernel
theorem dL_tries_168 : decode cL_tries 168 = .ok (.iload_n 2, 1) := by decide +kernel
theorem dL_tries_169 : decode cL_tries 169 = .ok (.if_icmp .ge 76, 3) := by decide +kernel
theorem dL_tries_172 : decode cL_tries 172 = .ok (.iload 7, 2) := by decide +kernel
theorem dL_tries_174 : decode cL_tries 174 = .ok (.ifCond .eq 71, 3) := by decide +kernel
theorem dL_tries_177 : decode cL_tries 177 = .ok (.iload 8, 2) := by decide +kernel
theorem dL_tries_179 : decode cL_tries 179 = .ok (.bipush (-6), 2) := by decide +kernel
theorem dL_tries_181 : decode cL_tries 181 = .ok (.if_icmp .eq 64, 3) := by decide +kernel
theorem dL_tries_184 : decode cL_tries 184 = .ok (.aload_n 0, 1) := by decide +kernel
theorem dL_tries_185 : decode cL_tries 185 = .ok (.iload 9, 2) := by decide +kernel
theorem dL_tries_187 : decode cL_tries 187 = .ok (.iconst 1, 1) := by decide +kernel
theorem dL_tries_188 : decode cL_tries 188 = .ok (.invokevirtual 25, 3) := by decide +kernel
theorem dL_tries_191 : decode cL_tries 191 = .ok (.iconst 1, 1) := by decide +kernel
theorem dL_tries_192 : decode cL_tries 192 = .ok (.if_icmp .ne 40, 3) := by decide +kernel
theorem dL_tries_195 : decode cL_tries 195 = .ok (.aload_n 0, 1) := by decide +kernel
theorem dL_tries_196 : decode cL_tries 196 = .ok (.iload 9, 2) := by decide +kernel
theorem dL_tries_198 : decode cL_tries 198 = .ok (.invokevirtual 82, 3) := by decide +kernel
theorem dL_tries_201 : decode cL_tries 201 = .ok (.aload_n 0, 1) := by decide +kernel
theorem dL_tries_202 : decode cL_tries 202 = .ok (.iload 8, 2) := by decide +kernel
theorem dL_tries_204 : decode cL_tries 204 = .ok (.invokevirtual 82, 3) := by decide +kernel
theorem dL_tries_207 : decode cL_tries 207 = .ok (.if_icmp .lt 25, 3) := by decide +kernel
theorem dL_tries_210 : decode cL_tries 210 = .ok (.aload_n 0, 1) := by decide +kernel
theorem dL_tries_211 : decode cL_tries 211 = .ok (.iload 9, 2) := by decide +kernel
theorem dL_tries_213 : decode cL_tries 213 = .ok (.invokevirtual 82, 3) := by decide +kernel
theorem dL_tries_216 : decode cL_tries 216 = .ok (.aload_n 0, 1) := by decide +kernel
theorem dL_tries_217 : decode cL_tries 217 = .ok (.iload 8, 2) := by decide +kernel
theorem dL_tries_219 : decode cL_tries 219 = .ok (.invokevirtual 82, 3) := by decide +kernel
theorem dL_tries_222 : decode cL_tries 222 = .ok (.if_icmp .ne 14, 3) := by decide +kernel
theorem dL_tries_225 : decode cL_tries 225 = .ok (.iload 9, 2) := by decide +kernel
theorem dL_tries_227 : decode cL_tries 227 = .ok (.iload 8, 2) := by decide +kernel
theorem dL_tries_229 : decode cL_tries 229 = .ok (.if_icmp .lt 7, 3) := by decide +kernel
theorem dL_tries_232 : decode cL_tries 232 = .ok (.iconst 1, 1) := by decide +kernel
theorem dL_tries_233 : decode cL_tries 233 = .ok (.goto 4, 3) := by decide +kernel
theorem dL_tries_236 : decode cL_tries 236 = .ok (.iconst 0, 1) := by decide +kernel
theorem dL_tries_237 : decode cL_tries 237 = .ok (.istore 7, 2) := by decide +kernel
theorem dL_tries_239 : decode cL_tries 239 = .ok (.iinc 9 1, 3) := by decide +kernel
theorem dL_tries_242 : decode cL_tries 242 = .ok (.goto (-76), 3) := by decide +kernel
theorem dL_tries_245 : decode cL_tries 245 = .ok (.iconst 1, 1) := by decide +kernel
theorem dL_tries_246 : decode cL_tries 246 = .ok (.iload_n 1, 1) := by decide +kernel
theorem dL_tries_247 : decode cL_tries 247 = .ok (.iconst 5, 1) := by decide +kernel
theorem dL_tries_248 : decode cL_tries 248 = .ok (.ishr, 1) := by decide +kernel
theorem dL_tries_249 : decode cL_tries 249 = .ok (.bipush 9, 2) := by decide +kernel
theorem dL_tries_251 : decode cL_tries 251 = .ok (.invokestatic 15, 3) := by decide +kernel
theorem dL_tries_254 : decode cL_tries 254 = .ok (.iadd, 1) := by decide +kernel
theorem dL_tries_255 : decode cL_tries 255 = .ok (.istore 9, 2) := by decide +kernel
theorem dL_tries_257 : decode cL_tries 257 = .ok (.aload_n 0, 1) := by decide +kernel
theorem dL_tries_258 : decode cL_tries 258 = .ok (.iload 9, 2) := by decide +kernel
theorem dL_tries_260 : decode cL_tries 260 = .ok (.invokevirtual 91, 3) := by decide +kernel
theorem dL_tries_263 : decode cL_tries 263 = .ok (.istore 10, 2) := by decide +kernel
theorem dL_tries_265 : decode cL_tries 265 = .ok (.iconst (-1), 1) := by decide +kernel
theorem dL_tries_266 : decode cL_tries 266 = .ok (.istore 11, 2) := by decide +kernel
theorem dL_tries_268 : decode cL_tries 268 = .ok (.iconst 4, 1) := by decide +kernel
theorem dL_tries_269 : decode cL_tries 269 = .ok (.istore 12, 2) := by decide +kernel
theorem dL_tries_271 : decode cL_tries 271 = .ok (.iload 12, 2) := by decide +kernel
theorem dL_tries_273 : decode cL_tries 273 = .ok (.ifCond .lt 121, 3) := by decide +kernel
theorem dL_tries_276 : decode cL_tries 276 = .ok (.iload 7, 2) := by decide +kernel
theorem dL_tries_278 : decode cL_tries 278 = .ok (.ifCond .eq 116, 3) := by decide +kernel
theorem dL_tries_281 : decode cL_tries 281 = .ok (.iload_n 2, 1) := by decide +kernel
theorem dL_tries_282 : decode cL_tries 282 = .ok (.bipush 24, 2) := by decide +kernel
theorem dL_tries_284 : decode cL_tries 284 = .ok (.if_icmp .ge 110, 3) := by decide +kernel
theorem dL_tries_287 : decode cL_tries 287 = .ok (.aload_n 0, 1) := by decide +kernel
theorem dL_tries_288 : decode cL_tries 288 = .ok (.iload 12, 2) := by decide +kernel
theorem dL_tries_290 : decode cL_tries 290 = .ok (.iconst 2, 1) := by decide +kernel
theorem dL_tries_291 : decode cL_tries 291 = .ok (.iconst 5, 1) := by decide +kernel
theorem dL_tries_292 : decode cL_tries 292 = .ok (.bipush 6, 2) := by decide +kernel
theorem dL_tries_294 : decode cL_tries 294 = .ok (.iload 9, 2) := by decide +kernel
theorem dL_tries_296 : decode cL_tries 296 = .ok (.invokevirtual 21, 3) := by decide +kernel
theorem dL_tries_299 : decode cL_tries 299 = .ok (.iload_n 2, 1) := by decide +kernel
theorem dL_tries_300 : decode cL_tries 300 = .ok (.if_icmp .ne 7, 3) := by decide +kernel
theorem dL_tries_303 : decode cL_tries 303 = .ok (.iconst 1, 1) := by decide +kernel
theorem dL_tries_304 : decode cL_tries 304 = .ok (.goto 4, 3) := by decide +kernel
theorem dL_tries_307 : decode cL_tries 307 = .ok (.iconst 0, 1) := by decide +kernel
theorem dL_tries_308 : decode cL_tries 308 = .ok (.istore 7, 2) := by decide +kernel
theorem dL_tries_310 : decode cL_tries 310 = .ok (.aload_n 0, 1) := by decide +kernel
theorem dL_tries_311 : decode cL_tries 311 = .ok (.bipush 6, 2) := by decide +kernel
theorem dL_tries_313 : decode cL_tries 313 = .ok (.invokevirtual 9, 3) := by decide +kernel
theorem dL_tries_316 : decode cL_tries 316 = .ok (.istore 13, 2) := by decide +kernel
theorem dL_tries_318 : decode cL_tries 318 = .ok (.iload 7, 2) := by decide +kernel
theorem dL_tries_320 : decode cL_tries 320 = .ok (.ifCond .eq 61, 3) := by decide +kernel
theorem dL_tries_323 : decode cL_tries 323 = .ok (.iload 12, 2) := by decide +kernel
theorem dL_tries_325 : decode cL_tries 325 = .ok (.iconst 4, 1) := by decide +kernel
theorem dL_tries_326 : decode cL_tries 326 = .ok (.if_icmp .ne 9, 3) := by decide +kernel
theorem dL_tries_329 : decode cL_tries 329 = .ok (.iload 13, 2) := by decide +kernel
theorem dL_tries_331 : decode cL_tries 331 = .ok (.iload_n 3, 1) := by decide +kernel
theorem dL_tries_332 : decode cL_tries 332 = .ok (.if_icmp .lt 49, 3) := by decide +kernel
theorem dL_tries_335 : decode cL_tries 335 = .ok (.iload 13, 2) := by decide +kernel
theorem dL_tries_337 : decode cL_tries 337 = .ok (.iload 11, 2) := by decide +kernel
theorem dL_tries_339 : decode cL_tries 339 = .ok (.if_icmp .lt 42, 3) := by decide +kernel
theorem dL_tries_342 : decode cL_tries 342 = .ok (.iload 13, 2) := by decide +kernel
theorem dL_tries_344 : decode cL_tries 344 = .ok (.iload 11, 2) := by decide +kernel
theorem dL_tries_346 : decode cL_tries 346 = .ok (.if_icmp .eq 10, 3) := by decide +kernel
theorem dL_tries_349 : decode cL_tries 349 = .ok (.iload 12, 2) := by decide +kernel
theorem dL_tries_351 : decode cL_tries 351 = .ok (.iload 10, 2) := by decide +kernel
theorem dL_tries_353 : decode cL_tries 353 = .ok (.if_icmp .lt 28, 3) := by decide +kernel
theorem dL_tries_356 : decode cL_tries 356 = .ok (.iload 12, 2) := by decide +kernel
theorem dL_tries_358 : decode cL_tries 358 = .ok (.iload 10, 2) := by decide +kernel
theorem dL_tries_360 : decode cL_tries 360 = .ok (.if_icmp .ne 10, 3) := by decide +kernel
theorem dL_tries_363 : decode cL_tries 363 = .ok (.iload 13, 2) := by decide +kernel
theorem dL_tries_365 : decode cL_tries 365 = .ok (.iload 11, 2) := by decide +kernel
theorem dL_tries_367 : decode cL_tries 367 = .ok (.if_icmp .le 14, 3) := by decide +kernel
theorem dL_tries_370 : decode cL_tries 370 = .ok (.aload_n 0, 1) := by decide +kernel
theorem dL_tries_371 : decode cL_tries 371 = .ok (.invokevirtual 85, 3) := by decide +kernel
theorem dL_tries_374 : decode cL_tries 374 = .ok (.ifCond .lt 7, 3) := by decide +kernel
theorem dL_tries_377 : decode cL_tries 377 = .ok (.iconst 1, 1) := by decide +kernel
theorem dL_tries_378 : decode cL_tries 378 = .ok (.goto 4, 3) := by decide +kernel
theorem dL_tries_381 : decode cL_tries 381 = .ok (.iconst 0, 1) := by decide +kernel
theorem dL_tries_382 : decode cL_tries 382 = .ok (.istore 7, 2) := by decide +kernel
theorem dL_tries_384 : decode cL_tries 384 = .ok (.iload 13, 2) := by decide +kernel
theorem dL_tries_386 : decode cL_tries 386 = .ok (.istore 11, 2) := by decide +kernel
theorem dL_tries_388 : decode cL_tries 388 = .ok (.iinc 12 (-1), 3) := by decide +kernel
theorem dL_tries_391 : decode cL_tries 391 = .ok (.goto (-120), 3) := by decide +kernel
theorem dL_tries_394 : decode cL_tries 394 = .ok (.iload 7, 2) := by decide +kernel
theorem dL_tries_396 : decode cL_tries 396 = .ok (.ifCond .eq 28, 3) := by decide +kernel
theorem dL_tries_399 : decode cL_tries 399 = .ok (.iload 10, 2) := by decide +kernel
theorem dL_tries_401 : decode cL_tries 401 = .ok (.ifCond .lt 23, 3) := by decide +kernel
theorem dL_tries_404 : decode cL_tries 404 = .ok (.iload 10, 2) := by decide +kernel
theorem dL_tries_406 : decode cL_tries 406 = .ok (.iconst 5, 1) := by decide +kernel
theorem dL_tries_407 : decode cL_tries 407 = .ok (.if_icmp .ge 17, 3) := by decide +kernel
theorem dL_tries_410 : decode cL_tries 410 = .ok (.aload_n 0, 1) := by decide +kernel
theorem dL_tries_411 : decode cL_tries 411 = .ok (.bipush 6, 2) := by decide +kernel
theorem dL_tries_413 : decode cL_tries 413 = .ok (.invokevirtual 9, 3) := by decide +kernel
theorem dL_tries_416 : decode cL_tries 416 = .ok (.iload_n 3, 1) := by decide +kernel
theorem dL_tries_417 : decode cL_tries 417 = .ok (.if_icmp .ne 7, 3) := by decide +kernel
theorem dL_tries_420 : decode cL_tries 420 = .ok (.iconst 1, 1) := by decide +kernel
theorem dL_tries_421 : decode cL_tries 421 = .ok (.goto 4, 3) := by decide +kernel
theorem dL_tries_424 : decode cL_tries 424 = .ok (.iconst 0, 1) := by decide +kernel
theorem dL_tries_425 : decode cL_tries 425 = .ok (.ireturn, 1) := by decide +kernel
theorem dL_law_0 : decode cL_law 0 = .ok (.new 10, 3) := by decide +kernel
theorem dL_law_3 : decode cL_law 3 = .ok (.dup, 1) := by decide +kernel
theorem dL_law_4 : decode cL_law 4 = .ok (.invokespecial 94, 3) := by decide +kernel
theorem dL_law_7 : decode cL_law 7 = .ok (.astore_n 1, 1) := by decide +kernel
theorem dL_law_8 : decode cL_law 8 = .ok (.iconst 2, 1) := by decide +kernel
theorem dL_law_9 : decode cL_law 9 = .ok (.newarray .int, 2) := by decide +kernel
theorem dL_law_11 : decode cL_law 11 = .ok (.astore_n 2, 1) := by decide +kernel
theorem dL_law_12 : decode cL_law 12 = .ok (.aload_n 1, 1) := by decide +kernel
theorem dL_law_13 : decode cL_law 13 = .ok (.aload_n 2, 1) := by decide +kernel
theorem dL_law_14 : decode cL_law 14 = .ok (.iconst 1, 1) := by decide +kernel
theorem dL_law_15 : decode cL_law 15 = .ok (.invokestatic 95, 3) := by decide +kernel
theorem dL_law_18 : decode cL_law 18 = .ok (.ifCond .eq 16, 3) := by decide +kernel
theorem dL_law_21 : decode cL_law 21 = .ok (.aload_n 1, 1) := by decide +kernel
theorem dL_law_22 : decode cL_law 22 = .ok (.invokevirtual 85, 3) := by decide +kernel
theorem dL_law_25 : decode cL_law 25 = .ok (.bipush (-5), 2) := by decide +kernel
theorem dL_law_27 : decode cL_law 27 = .ok (.if_icmp .ne 7, 3) := by decide +kernel
theorem dL_law_30 : decode cL_law 30 = .ok (.iconst 1, 1) := by decide +kernel
theorem dL_law_31 : decode cL_law 31 = .ok (.goto 4, 3) := by decide +kernel
theorem dL_law_34 : decode cL_law 34 = .ok (.iconst 0, 1) := by decide +kernel
theorem dL_law_35 : decode cL_law 35 = .ok (.istore_n 3, 1) := by decide +kernel
theorem dL_law_36 : decode cL_law 36 = .ok (.aload_n 0, 1) := by decide +kernel
theorem dL_law_37 : decode cL_law 37 = .ok (.arraylength, 1) := by decide +kernel
theorem dL_law_38 : decode cL_law 38 = .ok (.iconst 3, 1) := by decide +kernel
theorem dL_law_39 : decode cL_law 39 = .ok (.idiv, 1) := by decide +kernel
theorem dL_law_40 : decode cL_law 40 = .ok (.bipush 36, 2) := by decide +kernel
theorem dL_law_42 : decode cL_law 42 = .ok (.if_icmp .le 8, 3) := by decide +kernel
theorem dL_law_45 : decode cL_law 45 = .ok (.bipush 36, 2) := by decide +kernel
theorem dL_law_47 : decode cL_law 47 = .ok (.goto 7, 3) := by decide +kernel
theorem dL_law_50 : decode cL_law 50 = .ok (.aload_n 0, 1) := by decide +kernel
theorem dL_law_51 : decode cL_law 51 = .ok (.arraylength, 1) := by decide +kernel
theorem dL_law_52 : decode cL_law 52 = .ok (.iconst 3, 1) := by decide +kernel
theorem dL_law_53 : decode cL_law 53 = .ok (.idiv, 1) := by decide +kernel
theorem dL_law_54 : decode cL_law 54 = .ok (.istore 4, 2) := by decide +kernel
theorem dL_law_56 : decode cL_law 56 = .ok (.iconst 0, 1) := by decide +kernel
theorem dL_law_57 : decode cL_law 57 = .ok (.istore 5, 2) := by decide +kernel
theorem dL_law_59 : decode cL_law 59 = .ok (.iload 5, 2) := by decide +kernel
theorem dL_law_61 : decode cL_law 61 = .ok (.iload 4, 2) := by decide +kernel
theorem dL_law_63 : decode cL_law 63 = .ok (.if_icmp .ge 105, 3) := by decide +kernel
theorem dL_law_66 : decode cL_law 66 = .ok (.iload_n 3, 1) := by decide +kernel
theorem dL_law_67 : decode cL_law 67 = .ok (.ifCond .eq 101, 3) := by decide +kernel
theorem dL_law_70 : decode cL_law 70 = .ok (.aload_n 1, 1) := by decide +kernel
theorem dL_law_71 : decode cL_law 71 = .ok (.aload_n 2, 1) := by decide +kernel
theorem dL_law_72 : decode cL_law 72 = .ok (.aload_n 0, 1) := by decide +kernel
theorem dL_law_73 : decode cL_law 73 = .ok (.iconst 3, 1) := by decide +kernel
theorem dL_law_74 : decode cL_law 74 = .ok (.iload 5, 2) := by decide +kernel
theorem dL_law_76 : decode cL_law 76 = .ok (.imul, 1) := by decide +kernel
theorem dL_law_77 : decode cL_law 77 = .ok (.invokestatic 99, 3) := by decide +kernel
theorem dL_law_80 : decode cL_law 80 = .ok (.bipush 16, 2) := by decide +kernel
theorem dL_law_82 : decode cL_law 82 = .ok (.invokestatic 15, 3) := by decide +kernel
theorem dL_law_85 : decode cL_law 85 = .ok (.aload_n 0, 1) := by decide +kernel
theorem dL_law_86 : decode cL_law 86 = .ok (.iconst 3, 1) := by decide +kernel
theorem dL_law_87 : decode cL_law 87 = .ok (.iload 5, 2) := by decide +kernel
theorem dL_law_89 : decode cL_law 89 = .ok (.imul, 1) := by decide +kernel
theorem dL_law_90 : decode cL_law 90 = .ok (.iconst 1, 1) := by decide +kernel
theorem dL_law_91 : decode cL_law 91 = .ok (.iadd, 1) := by decide +kernel
theorem dL_law_92 : decode cL_law 92 = .ok (.invokestatic 99, 3) := by decide +kernel
theorem dL_law_95 : decode cL_law 95 = .ok (.aload_n 0, 1) := by decide +kernel
theorem dL_law_96 : decode cL_law 96 = .ok (.iconst 3, 1) := by decide +kernel
theorem dL_law_97 : decode cL_law 97 = .ok (.iload 5, 2) := by decide +kernel
theorem dL_law_99 : decode cL_law 99 = .ok (.imul, 1) := by decide +kernel
theorem dL_law_100 : decode cL_law 100 = .ok (.iconst 2, 1) := by decide +kernel
theorem dL_law_101 : decode cL_law 101 = .ok (.iadd, 1) := by decide +kernel
theorem dL_law_102 : decode cL_law 102 = .ok (.invokestatic 99, 3) := by decide +kernel
theorem dL_law_105 : decode cL_law 105 = .ok (.invokestatic 103, 3) := by decide +kernel
theorem dL_law_108 : decode cL_law 108 = .ok (.ifCond .eq 52, 3) := by decide +kernel
theorem dL_law_111 : decode cL_law 111 = .ok (.aload_n 1, 1) := by decide +kernel
theorem dL_law_112 : decode cL_law 112 = .ok (.aload_n 2, 1) := by decide +kernel
theorem dL_law_113 : decode cL_law 113 = .ok (.aload_n 0, 1) := by decide +kernel
theorem dL_law_114 : decode cL_law 114 = .ok (.iconst 3, 1) := by decide +kernel
theorem dL_law_115 : decode cL_law 115 = .ok (.iload 5, 2) := by decide +kernel
theorem dL_law_117 : decode cL_law 117 = .ok (.imul, 1) := by decide +kernel
theorem dL_law_118 : decode cL_law 118 = .ok (.invokestatic 99, 3) := by decide +kernel
theorem dL_law_121 : decode cL_law 121 = .ok (.sipush 1023, 3) := by decide +kernel
theorem dL_law_124 : decode cL_law 124 = .ok (.iand, 1) := by decide +kernel
theorem dL_law_125 : decode cL_law 125 = .ok (.invokestatic 95, 3) := by decide +kernel
theorem dL_law_128 : decode cL_law 128 = .ok (.ifCond .eq 32, 3) := by decide +kernel
theorem dL_law_131 : decode cL_law 131 = .ok (.iload 5, 2) := by decide +kernel
theorem dL_law_133 : decode cL_law 133 = .ok (.iconst 4, 1) := by decide +kernel
theorem dL_law_134 : decode cL_law 134 = .ok (.irem, 1) := by decide +kernel
theorem dL_law_135 : decode cL_law 135 = .ok (.iconst 3, 1) := by decide +kernel
theorem dL_law_136 : decode cL_law 136 = .ok (.if_icmp .ne 20, 3) := by decide +kernel
theorem dL_law_139 : decode cL_law 139 = .ok (.aload_n 1, 1) := by decide +kernel
theorem dL_law_140 : decode cL_law 140 = .ok (.aload_n 0, 1) := by decide +kernel
theorem dL_law_141 : decode cL_law 141 = .ok (.iconst 3, 1) := by decide +kernel
theorem dL_law_142 : decode cL_law 142 = .ok (.iload 5, 2) := by decide +kernel
theorem dL_law_144 : decode cL_law 144 = .ok (.imul, 1) := by decide +kernel
theorem dL_law_145 : decode cL_law 145 = .ok (.iconst 2, 1) := by decide +kernel
theorem dL_law_146 : decode cL_law 146 = .ok (.iadd, 1) := by decide +kernel
theorem dL_law_147 : decode cL_law 147 = .ok (.invokestatic 99, 3) := by decide +kernel
theorem dL_law_150 : decode cL_law 150 = .ok (.invokestatic 107, 3) := by decide +kernel
theorem dL_law_153 : decode cL_law 153 = .ok (.ifCond .eq 7, 3) := by decide +kernel
theorem dL_law_156 : decode cL_law 156 = .ok (.iconst 1, 1) := by decide +kernel
theorem dL_law_157 : decode cL_law 157 = .ok (.goto 4, 3) := by decide +kernel
theorem dL_law_160 : decode cL_law 160 = .ok (.iconst 0, 1) := by decide +kernel
theorem dL_law_161 : decode cL_law 161 = .ok (.istore_n 3, 1) := by decide +kernel
theorem dL_law_162 : decode cL_law 162 = .ok (.iinc 5 1, 3) := by decide +kernel
theorem dL_law_165 : decode cL_law 165 = .ok (.goto (-106), 3) := by decide +kernel
theorem dL_law_168 : decode cL_law 168 = .ok (.iload_n 3, 1) := by decide +kernel
theorem dL_law_169 : decode cL_law 169 = .ok (.ireturn, 1) := by decide +kernel

