/-! ===== the methods, the words that their instructions link ===== -/
theorem ws_t1 (i : Nat) {w : Cond} (h : tables_1_1[i]? = some w) (g : goodWord w = true) : w ∈ WS := List.mem_filter.mpr ⟨List.mem_append_right _ (have h := List.mem_of_getElem? h; List.mem_append_left _ h), g⟩
theorem ws_t2 (i : Nat) {w : Cond} (h : tables_1_2[i]? = some w) (g : goodWord w = true) : w ∈ WS := List.mem_filter.mpr ⟨List.mem_append_right _ (have h := List.mem_of_getElem? h; List.mem_append_right _ (List.mem_append_left _ h)), g⟩
theorem ws_t3 (i : Nat) {w : Cond} (h : tables_1_3[i]? = some w) (g : goodWord w = true) : w ∈ WS := List.mem_filter.mpr ⟨List.mem_append_right _ (have h := List.mem_of_getElem? h; List.mem_append_right _ (List.mem_append_right _ (List.mem_append_left _ h))), g⟩
theorem ws_t4 (i : Nat) {w : Cond} (h : tables_1_4[i]? = some w) (g : goodWord w = true) : w ∈ WS := List.mem_filter.mpr ⟨List.mem_append_right _ (have h := List.mem_of_getElem? h; List.mem_append_right _ (List.mem_append_right _ (List.mem_append_right _ (List.mem_append_left _ h)))), g⟩
theorem ws_t5 (i : Nat) {w : Cond} (h : tables_1_5[i]? = some w) (g : goodWord w = true) : w ∈ WS := List.mem_filter.mpr ⟨List.mem_append_right _ (have h := List.mem_of_getElem? h; List.mem_append_right _ (List.mem_append_right _ (List.mem_append_right _ (List.mem_append_right _ (List.mem_append_left _ h))))), g⟩
theorem ws_t6 (i : Nat) {w : Cond} (h : tables_1_6[i]? = some w) (g : goodWord w = true) : w ∈ WS := List.mem_filter.mpr ⟨List.mem_append_right _ (have h := List.mem_of_getElem? h; List.mem_append_right _ (List.mem_append_right _ (List.mem_append_right _ (List.mem_append_right _ (List.mem_append_right _ (h)))))), g⟩
theorem ws_p (i : Nat) {w : Cond} (h : (k2_sels lw_privs)[i]? = some w) (g : goodWord w = true) : w ∈ WS := List.mem_filter.mpr ⟨List.mem_append_left _ (List.mem_of_getElem? h), g⟩
def RJ0 : String := "java/lang/String"
def RJ1 : String := "java/lang/StringLatin1"
def RJ3 : String := "jdk/internal/util/Preconditions"
def RJ6 : String := "java/lang/Integer"
def yJ6_bitCount_0f7a4 : MethodName := ⟨RJ6, "bitCount", "(I)I"⟩
abbrev cJ6_bitCount_0f7a4 : ByteArray := prog_12_method_49_code
def yJ0_length_8abf5 : MethodName := ⟨RJ0, "length", "()I"⟩
abbrev cJ0_length_8abf5 : ByteArray := prog_14_method_54_code
def yJ0_charAt_5068e : MethodName := ⟨RJ0, "charAt", "(I)C"⟩
abbrev cJ0_charAt_5068e : ByteArray := prog_14_method_56_code
def yJ0_coder_7d493 : MethodName := ⟨RJ0, "coder", "()B"⟩
abbrev cJ0_coder_7d493 : ByteArray := prog_14_method_152_code
def yJ0_isLatin1_aae02 : MethodName := ⟨RJ0, "isLatin1", "()Z"⟩
abbrev cJ0_isLatin1_aae02 : ByteArray := prog_14_method_154_code
def yJ0_checkIndex_df160 : MethodName := ⟨RJ0, "checkIndex", "(II)V"⟩
abbrev cJ0_checkIndex_df160 : ByteArray := prog_14_method_155_code
def yJ1_charAt_3b067 : MethodName := ⟨RJ1, "charAt", "([BI)C"⟩
abbrev cJ1_charAt_3b067 : ByteArray := prog_15_method_2_code
def yJ3_checkIndex_8e157 : MethodName := ⟨RJ3, "checkIndex", "(IILjava/util/function/BiFunction;)I"⟩
abbrev cJ3_checkIndex_8e157 : ByteArray := prog_17_method_11_code
def mX0_init : MI := (yX0_init, cX0_init, 1, none)
def mX0_find : MI := (yX0_find, cX0_find, 3, (some .boolean))
def mX0_extend : MI := (yX0_extend, cX0_extend, 6, (some .boolean))
def mX0_isGain : MI := (yX0_isGain, cX0_isGain, 4, (some .boolean))
def mX0_above : MI := (yX0_above, cX0_above, 1, (some .int))
def mX0_below : MI := (yX0_below, cX0_below, 1, (some .int))
def mX0_exchangeAt : MI := (yX0_exchangeAt, cX0_exchangeAt, 2, (some .int))
def mX1_init : MI := (yX1_init, cX1_init, 1, none)
def mX1_append : MI := (yX1_append, cX1_append, 2, (some .boolean))
def mX1_clear : MI := (yX1_clear, cX1_clear, 1, none)
def mX1_size : MI := (yX1_size, cX1_size, 1, (some .int))
def mX1_signAt : MI := (yX1_signAt, cX1_signAt, 2, (some .int))
def mX2_init : MI := (yX2_init, cX2_init, 3, none)
def mX2_size : MI := (yX2_size, cX2_size, 1, (some .int))
def mX2_clear : MI := (yX2_clear, cX2_clear, 1, none)
def mX2_push : MI := (yX2_push, cX2_push, 2, none)
def mX2_forgetOldest : MI := (yX2_forgetOldest, cX2_forgetOldest, 3, none)
def mX2_popInto : MI := (yX2_popInto, cX2_popInto, 3, (some .boolean))
def mX3_init : MI := (yX3_init, cX3_init, 2, none)
def mX3_findLeast : MI := (yX3_findLeast, cX3_findLeast, 7, (some .boolean))
def mX3_isBetter : MI := (yX3_isBetter, cX3_isBetter, 4, (some .boolean))
def mX3_ribbonInAll : MI := (yX3_ribbonInAll, cX3_ribbonInAll, 2, (some .int))
def mX3_findAll : MI := (yX3_findAll, cX3_findAll, 8, (some .boolean))
def mX3_listLoose : MI := (yX3_listLoose, cX3_listLoose, 5, none)
def mX3_whoIsHeldBy : MI := (yX3_whoIsHeldBy, cX3_whoIsHeldBy, 4, (some .int))
def mX3_canHoldFrom : MI := (yX3_canHoldFrom, cX3_canHoldFrom, 3, (some .boolean))
def mX3_smallerHoldsFrom : MI := (yX3_smallerHoldsFrom, cX3_smallerHoldsFrom, 4, (some .boolean))
def mX3_isHeldFrom : MI := (yX3_isHeldFrom, cX3_isHeldFrom, 3, (some .boolean))
def mX3_lowestRibbon : MI := (yX3_lowestRibbon, cX3_lowestRibbon, 6, (some .int))
def mX3_shareOut : MI := (yX3_shareOut, cX3_shareOut, 6, none)
def mX3_mostBound : MI := (yX3_mostBound, cX3_mostBound, 4, (some .int))
def mX3_mostOutOf : MI := (yX3_mostOutOf, cX3_mostOutOf, 8, (some .int))
def mX3_mostKnown : MI := (yX3_mostKnown, cX3_mostKnown, 2, (some .int))
def mX4_init : MI := (yX4_init, cX4_init, 2, none)
def mX4_readInto : MI := (yX4_readInto, cX4_readInto, 4, (some .int))
def mX4_readItem : MI := (yX4_readItem, cX4_readItem, 7, (some .boolean))
def mX4_numbersBehind : MI := (yX4_numbersBehind, cX4_numbersBehind, 1, (some .int))
def mX4_readNumber : MI := (yX4_readNumber, cX4_readNumber, 3, (some .int))
def mX4_figureAt : MI := (yX4_figureAt, cX4_figureAt, 3, (some .int))
def mX5_init : MI := (yX5_init, cX5_init, 1, none)
def mX5_clear : MI := (yX5_clear, cX5_clear, 2, none)
def mX5_copyFrom : MI := (yX5_copyFrom, cX5_copyFrom, 3, none)
def mX5_isBound : MI := (yX5_isBound, cX5_isBound, 2, (some .boolean))
def mX5_ribbonOf : MI := (yX5_ribbonOf, cX5_ribbonOf, 2, (some .int))
def mX5_ageOf : MI := (yX5_ageOf, cX5_ageOf, 2, (some .int))
def mX5_escapesOf : MI := (yX5_escapesOf, cX5_escapesOf, 2, (some .int))
def mX5_tie : MI := (yX5_tie, cX5_tie, 3, none)
def mX5_untie : MI := (yX5_untie, cX5_untie, 2, none)
def mX5_beastWith : MI := (yX5_beastWith, cX5_beastWith, 3, (some .int))
def mX5_gone : MI := (yX5_gone, cX5_gone, 3, (some .int))
def mX5_found : MI := (yX5_found, cX5_found, 5, (some .int))
def mX5_passDay : MI := (yX5_passDay, cX5_passDay, 5, (some .int))
def mX6_init : MI := (yX6_init, cX6_init, 1, none)
def mX6_fillFrom : MI := (yX6_fillFrom, cX6_fillFrom, 3, none)
def mX6_sumOfStrength : MI := (yX6_sumOfStrength, cX6_sumOfStrength, 7, (some .int))
def mX6_spread : MI := (yX6_spread, cX6_spread, 5, (some .int))
def mX6_thoseWhoMiss : MI := (yX6_thoseWhoMiss, cX6_thoseWhoMiss, 4, (some .int))
def mX6_sumOfWeights : MI := (yX6_sumOfWeights, cX6_sumOfWeights, 4, (some .int))
def mX6_isSet : MI := (yX6_isSet, cX6_isSet, 2, (some .boolean))
def mX6_strengthOf : MI := (yX6_strengthOf, cX6_strengthOf, 2, (some .int))
def mX6_followersOf : MI := (yX6_followersOf, cX6_followersOf, 2, (some .int))
def mX6_missersOf : MI := (yX6_missersOf, cX6_missersOf, 2, (some .int))
def mX6_lossOf : MI := (yX6_lossOf, cX6_lossOf, 2, (some .int))
def mX6_costOf : MI := (yX6_costOf, cX6_costOf, 3, (some .int))
def mX6_thereBesides : MI := (yX6_thereBesides, cX6_thereBesides, 2, (some .int))
def mX7_init : MI := (yX7_init, cX7_init, 1, none)
def mX7_clear : MI := (yX7_clear, cX7_clear, 1, none)
def mX7_take : MI := (yX7_take, cX7_take, 6, (some .boolean))
def mX7_takeThing : MI := (yX7_takeThing, cX7_takeThing, 4, (some .boolean))
def mX7_takeNeed : MI := (yX7_takeNeed, cX7_takeNeed, 3, (some .boolean))
def mX7_takePerson : MI := (yX7_takePerson, cX7_takePerson, 4, (some .boolean))
def mX7_takeBeast : MI := (yX7_takeBeast, cX7_takeBeast, 2, (some .boolean))
def mX7_takeExchange : MI := (yX7_takeExchange, cX7_takeExchange, 7, (some .boolean))
def mX7_areTwoThings : MI := (yX7_areTwoThings, cX7_areTwoThings, 3, (some .boolean))
def mX7_isOneFigure : MI := (yX7_isOneFigure, cX7_isOneFigure, 1, (some .boolean))
def mX7_entry : MI := (yX7_entry, cX7_entry, 2, (some .int))
def mX7_strengthOfThing : MI := (yX7_strengthOfThing, cX7_strengthOfThing, 2, (some .int))
def mX7_kindOfThing : MI := (yX7_kindOfThing, cX7_kindOfThing, 2, (some .int))
def mX7_neederOf : MI := (yX7_neederOf, cX7_neederOf, 2, (some .int))
def mX7_neededOf : MI := (yX7_neededOf, cX7_neededOf, 2, (some .int))
def mX7_thingOfPerson : MI := (yX7_thingOfPerson, cX7_thingOfPerson, 2, (some .int))
def mX7_weightOfPerson : MI := (yX7_weightOfPerson, cX7_weightOfPerson, 2, (some .int))
def mX7_pullOfBeast : MI := (yX7_pullOfBeast, cX7_pullOfBeast, 2, (some .int))
def mX7_takenBy : MI := (yX7_takenBy, cX7_takenBy, 2, (some .int))
def mX7_givenBy : MI := (yX7_givenBy, cX7_givenBy, 2, (some .int))
def mX7_takenMuchBy : MI := (yX7_takenMuchBy, cX7_takenMuchBy, 2, (some .int))
def mX7_givenMuchBy : MI := (yX7_givenMuchBy, cX7_givenMuchBy, 2, (some .int))
def mX8_init : MI := (yX8_init, cX8_init, 2, none)
def mX8_write : MI := (yX8_write, cX8_write, 2, (some .int))
def mX8_wipe : MI := (yX8_wipe, cX8_wipe, 2, (some .int))
def mX8_fault : MI := (yX8_fault, cX8_fault, 1, (some .int))
def mX8_lay : MI := (yX8_lay, cX8_lay, 1, (some .int))
def mX8_layTheText : MI := (yX8_layTheText, cX8_layTheText, 2, (some .boolean))
def mX8_thing : MI := (yX8_thing, cX8_thing, 3, (some .int))
def mX8_person : MI := (yX8_person, cX8_person, 3, (some .int))
def mX8_beast : MI := (yX8_beast, cX8_beast, 3, (some .int))
def mX8_strength : MI := (yX8_strength, cX8_strength, 2, (some .int))
def mX8_follows : MI := (yX8_follows, cX8_follows, 2, (some .int))
def mX8_missed : MI := (yX8_missed, cX8_missed, 1, (some .int))
def mX8_bind : MI := (yX8_bind, cX8_bind, 4, (some .int))
def mX8_loosen : MI := (yX8_loosen, cX8_loosen, 3, (some .int))
def mX8_days : MI := (yX8_days, cX8_days, 4, (some .int))
def mX8_undo : MI := (yX8_undo, cX8_undo, 1, (some .int))
def mX8_cost : MI := (yX8_cost, cX8_cost, 2, (some .int))
def mX8_least : MI := (yX8_least, cX8_least, 3, (some .int))
def mX8_all : MI := (yX8_all, cX8_all, 2, (some .int))
def mX8_more : MI := (yX8_more, cX8_more, 2, (some .int))
def mX8_worst : MI := (yX8_worst, cX8_worst, 7, (some .int))
def mX8_back : MI := (yX8_back, cX8_back, 6, (some .int))
def mX8_missing : MI := (yX8_missing, cX8_missing, 9, (some .int))
def mX8_trial : MI := (yX8_trial, cX8_trial, 14, (some .long))
def mX8_pledge : MI := (yX8_pledge, cX8_pledge, 6, (some .int))
def mX8_pledgeRests : MI := (yX8_pledgeRests, cX8_pledgeRests, 5, (some .boolean))
def mX8_pledgeLoss : MI := (yX8_pledgeLoss, cX8_pledgeLoss, 3, (some .int))
def mX8_gain : MI := (yX8_gain, cX8_gain, 2, (some .int))
def mX8_row : MI := (yX8_row, cX8_row, 7, (some .int))
def mX8_actByDraw : MI := (yX8_actByDraw, cX8_actByDraw, 4, none)
def mX8_keep : MI := (yX8_keep, cX8_keep, 1, (some .int))
def mX8_restore : MI := (yX8_restore, cX8_restore, 1, (some .int))
def mX8_count : MI := (yX8_count, cX8_count, 2, (some .int))
def mX8_isThing : MI := (yX8_isThing, cX8_isThing, 2, (some .boolean))
def mX8_isBeast : MI := (yX8_isBeast, cX8_isBeast, 2, (some .boolean))
def mX8_isThere : MI := (yX8_isThere, cX8_isThere, 2, (some .boolean))
def mX8_missedIn : MI := (yX8_missedIn, cX8_missedIn, 2, (some .int))
def mX8_draw : MI := (yX8_draw, cX8_draw, 4, (some .int))
def mX8_power : MI := (yX8_power, cX8_power, 5, (some .long))
def mX8_commonDivisor : MI := (yX8_commonDivisor, cX8_commonDivisor, 11, (some .long))
def mX9_init : MI := (yX9_init, cX9_init, 1, none)
def mX9_in : MI := (yX9_in, cX9_in, 6, (some .boolean))
def mX9_has : MI := (yX9_has, cX9_has, 2, (some .boolean))
def mX9_bits : MI := (yX9_bits, cX9_bits, 3, (some .int))
def mX9_addThing : MI := (yX9_addThing, cX9_addThing, 3, none)
def mX9_addNeed : MI := (yX9_addNeed, cX9_addNeed, 3, none)
def mX9_addPerson : MI := (yX9_addPerson, cX9_addPerson, 3, none)
def mX9_addBeast : MI := (yX9_addBeast, cX9_addBeast, 2, none)
def mX9_addChange : MI := (yX9_addChange, cX9_addChange, 5, none)
def mX9_begin : MI := (yX9_begin, cX9_begin, 2, none)
def mX9_write : MI := (yX9_write, cX9_write, 2, (some .int))
def mX9_wipe : MI := (yX9_wipe, cX9_wipe, 2, (some .int))
def mX9_isFigure : MI := (yX9_isFigure, cX9_isFigure, 1, (some .boolean))
def mX9_isThere : MI := (yX9_isThere, cX9_isThere, 2, (some .boolean))
def mX9_reads : MI := (yX9_reads, cX9_reads, 6, (some .boolean))
def mX9_readsComma : MI := (yX9_readsComma, cX9_readsComma, 2, (some .boolean))
def mX9_readsTwo : MI := (yX9_readsTwo, cX9_readsTwo, 4, (some .boolean))
def mX9_readsChange : MI := (yX9_readsChange, cX9_readsChange, 1, (some .boolean))
def mX9_readsNumbers : MI := (yX9_readsNumbers, cX9_readsNumbers, 2, (some .boolean))
def mX9_readsItem : MI := (yX9_readsItem, cX9_readsItem, 2, (some .int))
def mX9_beginToRead : MI := (yX9_beginToRead, cX9_beginToRead, 1, none)
def mX9_fault : MI := (yX9_fault, cX9_fault, 2, (some .int))
def mX9_tell : MI := (yX9_tell, cX9_tell, 2, none)
def mX9_lay : MI := (yX9_lay, cX9_lay, 1, (some .int))
def mX9_isThing : MI := (yX9_isThing, cX9_isThing, 2, (some .boolean))
def mX9_isBeast : MI := (yX9_isBeast, cX9_isBeast, 2, (some .boolean))
def mX9_isSet : MI := (yX9_isSet, cX9_isSet, 2, (some .boolean))
def mX9_strengthOf : MI := (yX9_strengthOf, cX9_strengthOf, 7, (some .int))
def mX9_followsOf : MI := (yX9_followsOf, cX9_followsOf, 5, (some .int))
def mX9_goneIn : MI := (yX9_goneIn, cX9_goneIn, 4, (some .int))
def mX9_thereIn : MI := (yX9_thereIn, cX9_thereIn, 2, (some .int))
def mX9_lateSet : MI := (yX9_lateSet, cX9_lateSet, 3, (some .int))
def mX9_foundIn : MI := (yX9_foundIn, cX9_foundIn, 4, (some .int))
def mX9_missedBy : MI := (yX9_missedBy, cX9_missedBy, 4, (some .int))
def mX9_missedIn : MI := (yX9_missedIn, cX9_missedIn, 2, (some .int))
def mX9_costIn : MI := (yX9_costIn, cX9_costIn, 4, (some .int))
def mX9_thing : MI := (yX9_thing, cX9_thing, 5, (some .int))
def mX9_person : MI := (yX9_person, cX9_person, 3, (some .int))
def mX9_beast : MI := (yX9_beast, cX9_beast, 3, (some .int))
def mX9_strength : MI := (yX9_strength, cX9_strength, 2, (some .int))
def mX9_follows : MI := (yX9_follows, cX9_follows, 2, (some .int))
def mX9_missed : MI := (yX9_missed, cX9_missed, 1, (some .int))
def mX9_copy : MI := (yX9_copy, cX9_copy, 4, none)
def mX9_keepPast : MI := (yX9_keepPast, cX9_keepPast, 2, none)
def mX9_bindIn : MI := (yX9_bindIn, cX9_bindIn, 4, none)
def mX9_bind : MI := (yX9_bind, cX9_bind, 3, (some .int))
def mX9_loosen : MI := (yX9_loosen, cX9_loosen, 3, (some .int))
def mX9_lentIn : MI := (yX9_lentIn, cX9_lentIn, 4, (some .int))
def mX9_dayIn : MI := (yX9_dayIn, cX9_dayIn, 4, (some .int))
def mX9_days : MI := (yX9_days, cX9_days, 4, (some .int))
def mX9_undo : MI := (yX9_undo, cX9_undo, 1, (some .int))
def mX9_cost : MI := (yX9_cost, cX9_cost, 2, (some .int))
def mX9_leastIn : MI := (yX9_leastIn, cX9_leastIn, 9, (some .int))
def mX9_least : MI := (yX9_least, cX9_least, 4, (some .int))
def mX9_lowest : MI := (yX9_lowest, cX9_lowest, 3, (some .int))
def mX9_canHold : MI := (yX9_canHold, cX9_canHold, 7, (some .boolean))
def mX9_unbound : MI := (yX9_unbound, cX9_unbound, 3, (some .int))
def mX9_layHolds : MI := (yX9_layHolds, cX9_layHolds, 4, none)
def mX9_usedByAll : MI := (yX9_usedByAll, cX9_usedByAll, 8, (some .int))
def mX9_ribbonOf : MI := (yX9_ribbonOf, cX9_ribbonOf, 7, (some .int))
def mX9_all : MI := (yX9_all, cX9_all, 3, (some .int))
def mX9_more : MI := (yX9_more, cX9_more, 6, (some .int))
def mX9_worst : MI := (yX9_worst, cX9_worst, 7, (some .int))
def mX9_back : MI := (yX9_back, cX9_back, 5, (some .int))
def mX9_whoMiss : MI := (yX9_whoMiss, cX9_whoMiss, 4, (some .int))
def mX9_missing : MI := (yX9_missing, cX9_missing, 8, (some .int))
def mX9_divisor : MI := (yX9_divisor, cX9_divisor, 10, (some .long))
def mX9_power : MI := (yX9_power, cX9_power, 6, (some .long))
def mX9_trial : MI := (yX9_trial, cX9_trial, 11, (some .long))
def mX9_losesBy : MI := (yX9_losesBy, cX9_losesBy, 3, (some .int))
def mX9_rests : MI := (yX9_rests, cX9_rests, 5, (some .boolean))
def mX9_pledge : MI := (yX9_pledge, cX9_pledge, 7, (some .int))
def mX9_layChain : MI := (yX9_layChain, cX9_layChain, 5, none)
def mX9_gains : MI := (yX9_gains, cX9_gains, 11, (some .boolean))
def mX9_gain : MI := (yX9_gain, cX9_gain, 5, (some .int))
def mX9_ofChain : MI := (yX9_ofChain, cX9_ofChain, 9, (some .int))
def mX9_row : MI := (yX9_row, cX9_row, 11, (some .int))
def mX9_keep : MI := (yX9_keep, cX9_keep, 1, (some .int))
def mX9_restore : MI := (yX9_restore, cX9_restore, 1, (some .int))
def mX9_count : MI := (yX9_count, cX9_count, 2, (some .int))
def mJ6_bitCount_0f7a4 : MI := (yJ6_bitCount_0f7a4, cJ6_bitCount_0f7a4, 1, (some .int))
def mJ0_length_8abf5 : MI := (yJ0_length_8abf5, cJ0_length_8abf5, 1, (some .int))
def mJ0_charAt_5068e : MI := (yJ0_charAt_5068e, cJ0_charAt_5068e, 2, (some .char))
def mJ0_coder_7d493 : MI := (yJ0_coder_7d493, cJ0_coder_7d493, 1, (some .byte))
def mJ0_isLatin1_aae02 : MI := (yJ0_isLatin1_aae02, cJ0_isLatin1_aae02, 1, (some .boolean))
def mJ0_checkIndex_df160 : MI := (yJ0_checkIndex_df160, cJ0_checkIndex_df160, 2, none)
def mJ1_charAt_3b067 : MI := (yJ1_charAt_3b067, cJ1_charAt_3b067, 2, (some .char))
def mJ3_checkIndex_8e157 : MI := (yJ3_checkIndex_8e157, cJ3_checkIndex_8e157, 3, (some .int))
theorem in_X8 : Cond.initialized RX8 ∈ WS := ws_t1 1 rfl rfl
theorem in_X0 : Cond.initialized RX0 ∈ WS := ws_t1 10 rfl rfl
theorem in_X1 : Cond.initialized RX1 ∈ WS := ws_t1 2 rfl rfl
theorem in_X2 : Cond.initialized RX2 ∈ WS := ws_t1 7 rfl rfl
theorem in_X3 : Cond.initialized RX3 ∈ WS := ws_t1 9 rfl rfl
theorem in_X4 : Cond.initialized RX4 ∈ WS := ws_t1 3 rfl rfl
theorem in_X5 : Cond.initialized RX5 ∈ WS := ws_t1 6 rfl rfl
theorem in_X6 : Cond.initialized RX6 ∈ WS := ws_t1 5 rfl rfl
theorem in_X7 : Cond.initialized RX7 ∈ WS := ws_t1 4 rfl rfl
theorem in_X9 : Cond.initialized RX9 ∈ WS := ws_t1 16 rfl rfl
theorem in_J6 : Cond.initialized RJ6 ∈ WS := ws_t1 15 rfl rfl
theorem in_J0 : Cond.initialized RJ0 ∈ WS := ws_t1 11 rfl rfl
theorem in_J1 : Cond.initialized RJ1 ∈ WS := ws_t1 12 rfl rfl
theorem in_J3 : Cond.initialized RJ3 ∈ WS := ws_t1 13 rfl rfl
theorem ci_X0_init : CCo mX0_init 0 := ⟨⟨in_X0, ws_t2 6 rfl rfl, ⟨by decide, by decide, by decide +kernel⟩, by decide⟩, ws_t2 5 rfl rfl, rfl⟩
theorem ci_X0_find : CVi mX0_find 1 := ⟨⟨in_X0, ws_t4 62 rfl rfl, ⟨by decide, by decide, by decide +kernel⟩, by decide⟩, ws_t4 60 rfl rfl, ws_t4 61 rfl rfl⟩
theorem ci_X0_extend : CSt mX0_extend 4 := ⟨⟨in_X0, ws_t4 65 rfl rfl, ⟨by decide, by decide, by decide +kernel⟩, by decide⟩, ws_t4 64 rfl rfl⟩
theorem ci_X0_isGain : CVi mX0_isGain 1 := ⟨⟨in_X0, ws_t4 69 rfl rfl, ⟨by decide, by decide, by decide +kernel⟩, by decide⟩, ws_t4 68 rfl rfl, ws_p 26 rfl rfl⟩
theorem ci_X0_above : CVi mX0_above 0 := ⟨⟨in_X0, ws_t4 98 rfl rfl, ⟨by decide, by decide, by decide +kernel⟩, by decide⟩, ws_t4 96 rfl rfl, ws_t4 97 rfl rfl⟩
theorem ci_X0_below : CVi mX0_below 0 := ⟨⟨in_X0, ws_t4 93 rfl rfl, ⟨by decide, by decide, by decide +kernel⟩, by decide⟩, ws_t4 91 rfl rfl, ws_t4 92 rfl rfl⟩
theorem ci_X0_exchangeAt : CVi mX0_exchangeAt 1 := ⟨⟨in_X0, ws_t4 73 rfl rfl, ⟨by decide, by decide, by decide +kernel⟩, by decide⟩, ws_t4 71 rfl rfl, ws_t4 72 rfl rfl⟩
theorem ci_X1_init : CCo mX1_init 0 := ⟨⟨in_X1, ws_t1 29 rfl rfl, ⟨by decide, by decide, by decide +kernel⟩, by decide⟩, ws_t1 28 rfl rfl, rfl⟩
theorem ci_X1_append : CVi mX1_append 1 := ⟨⟨in_X1, ws_t2 74 rfl rfl, ⟨by decide, by decide, by decide +kernel⟩, by decide⟩, ws_t2 72 rfl rfl, ws_t2 73 rfl rfl⟩
theorem ci_X1_clear : CVi mX1_clear 0 := ⟨⟨in_X1, ws_t2 204 rfl rfl, ⟨by decide, by decide, by decide +kernel⟩, by decide⟩, ws_t2 202 rfl rfl, ws_t2 203 rfl rfl⟩
theorem ci_X1_size : CVi mX1_size 0 := ⟨⟨in_X1, ws_t2 90 rfl rfl, ⟨by decide, by decide, by decide +kernel⟩, by decide⟩, ws_t2 88 rfl rfl, ws_t2 89 rfl rfl⟩
theorem ci_X1_signAt : CVi mX1_signAt 1 := ⟨⟨in_X1, ws_t2 98 rfl rfl, ⟨by decide, by decide, by decide +kernel⟩, by decide⟩, ws_t2 96 rfl rfl, ws_t2 97 rfl rfl⟩
theorem ci_X2_init : CCo mX2_init 1 := ⟨⟨in_X2, ws_t1 180 rfl rfl, ⟨by decide, by decide, by decide +kernel⟩, by decide⟩, ws_t1 179 rfl rfl, rfl⟩
theorem ci_X2_size : CVi mX2_size 0 := ⟨⟨in_X2, ws_t3 170 rfl rfl, ⟨by decide, by decide, by decide +kernel⟩, by decide⟩, ws_t3 168 rfl rfl, ws_t3 169 rfl rfl⟩
theorem ci_X2_clear : CVi mX2_clear 0 := ⟨⟨in_X2, ws_t2 200 rfl rfl, ⟨by decide, by decide, by decide +kernel⟩, by decide⟩, ws_t2 198 rfl rfl, ws_t2 199 rfl rfl⟩
theorem ci_X2_push : CVi mX2_push 1 := ⟨⟨in_X2, ws_t3 125 rfl rfl, ⟨by decide, by decide, by decide +kernel⟩, by decide⟩, ws_t3 123 rfl rfl, ws_t3 124 rfl rfl⟩
theorem ci_X2_forgetOldest : CVi mX2_forgetOldest 0 := ⟨⟨in_X2, ws_t3 129 rfl rfl, ⟨by decide, by decide, by decide +kernel⟩, by decide⟩, ws_t3 128 rfl rfl, ws_p 14 rfl rfl⟩
theorem ci_X2_popInto : CVi mX2_popInto 1 := ⟨⟨in_X2, ws_t3 166 rfl rfl, ⟨by decide, by decide, by decide +kernel⟩, by decide⟩, ws_t3 164 rfl rfl, ws_t3 165 rfl rfl⟩
theorem ci_X3_init : CCo mX3_init 1 := ⟨⟨in_X3, ws_t1 199 rfl rfl, ⟨by decide, by decide, by decide +kernel⟩, by decide⟩, ws_t1 198 rfl rfl, rfl⟩
theorem ci_X3_findLeast : CVi mX3_findLeast 2 := ⟨⟨in_X3, ws_t3 187 rfl rfl, ⟨by decide, by decide, by decide +kernel⟩, by decide⟩, ws_t3 185 rfl rfl, ws_t3 186 rfl rfl⟩
theorem ci_X3_isBetter : CSt mX3_isBetter 4 := ⟨⟨in_X3, ws_t3 193 rfl rfl, ⟨by decide, by decide, by decide +kernel⟩, by decide⟩, ws_t3 192 rfl rfl⟩
theorem ci_X3_ribbonInAll : CVi mX3_ribbonInAll 1 := ⟨⟨in_X3, ws_t3 237 rfl rfl, ⟨by decide, by decide, by decide +kernel⟩, by decide⟩, ws_t3 235 rfl rfl, ws_t3 236 rfl rfl⟩
theorem ci_X3_findAll : CVi mX3_findAll 2 := ⟨⟨in_X3, ws_t3 202 rfl rfl, ⟨by decide, by decide, by decide +kernel⟩, by decide⟩, ws_t3 200 rfl rfl, ws_t3 201 rfl rfl⟩
theorem ci_X3_listLoose : CVi mX3_listLoose 2 := ⟨⟨in_X3, ws_t3 206 rfl rfl, ⟨by decide, by decide, by decide +kernel⟩, by decide⟩, ws_t3 205 rfl rfl, ws_p 15 rfl rfl⟩
theorem ci_X3_whoIsHeldBy : CVi mX3_whoIsHeldBy 1 := ⟨⟨in_X3, ws_t3 213 rfl rfl, ⟨by decide, by decide, by decide +kernel⟩, by decide⟩, ws_t3 212 rfl rfl, ws_p 16 rfl rfl⟩
theorem ci_X3_canHoldFrom : CVi mX3_canHoldFrom 2 := ⟨⟨in_X3, ws_t3 217 rfl rfl, ⟨by decide, by decide, by decide +kernel⟩, by decide⟩, ws_t3 216 rfl rfl, ws_p 17 rfl rfl⟩
theorem ci_X3_smallerHoldsFrom : CVi mX3_smallerHoldsFrom 2 := ⟨⟨in_X3, ws_t3 221 rfl rfl, ⟨by decide, by decide, by decide +kernel⟩, by decide⟩, ws_t3 220 rfl rfl, ws_p 18 rfl rfl⟩
theorem ci_X3_isHeldFrom : CVi mX3_isHeldFrom 2 := ⟨⟨in_X3, ws_t3 225 rfl rfl, ⟨by decide, by decide, by decide +kernel⟩, by decide⟩, ws_t3 224 rfl rfl, ws_p 19 rfl rfl⟩
theorem ci_X3_lowestRibbon : CVi mX3_lowestRibbon 2 := ⟨⟨in_X3, ws_t3 229 rfl rfl, ⟨by decide, by decide, by decide +kernel⟩, by decide⟩, ws_t3 228 rfl rfl, ws_p 20 rfl rfl⟩
theorem ci_X3_shareOut : CVi mX3_shareOut 1 := ⟨⟨in_X3, ws_t3 233 rfl rfl, ⟨by decide, by decide, by decide +kernel⟩, by decide⟩, ws_t3 232 rfl rfl, ws_p 21 rfl rfl⟩
theorem ci_X3_mostBound : CVi mX3_mostBound 2 := ⟨⟨in_X3, ws_t4 5 rfl rfl, ⟨by decide, by decide, by decide +kernel⟩, by decide⟩, ws_t4 3 rfl rfl, ws_t4 4 rfl rfl⟩
theorem ci_X3_mostOutOf : CVi mX3_mostOutOf 2 := ⟨⟨in_X3, ws_t4 9 rfl rfl, ⟨by decide, by decide, by decide +kernel⟩, by decide⟩, ws_t4 8 rfl rfl, ws_p 22 rfl rfl⟩
theorem ci_X3_mostKnown : CVi mX3_mostKnown 1 := ⟨⟨in_X3, ws_t4 13 rfl rfl, ⟨by decide, by decide, by decide +kernel⟩, by decide⟩, ws_t4 12 rfl rfl, ws_p 23 rfl rfl⟩
theorem ci_X4_init : CCo mX4_init 1 := ⟨⟨in_X4, ws_t1 43 rfl rfl, ⟨by decide, by decide, by decide +kernel⟩, by decide⟩, ws_t1 42 rfl rfl, rfl⟩
theorem ci_X4_readInto : CVi mX4_readInto 1 := ⟨⟨in_X4, ws_t2 82 rfl rfl, ⟨by decide, by decide, by decide +kernel⟩, by decide⟩, ws_t2 80 rfl rfl, ws_t2 81 rfl rfl⟩
theorem ci_X4_readItem : CVi mX4_readItem 1 := ⟨⟨in_X4, ws_t2 94 rfl rfl, ⟨by decide, by decide, by decide +kernel⟩, by decide⟩, ws_t2 93 rfl rfl, ws_p 1 rfl rfl⟩
theorem ci_X4_numbersBehind : CSt mX4_numbersBehind 1 := ⟨⟨in_X4, ws_t2 101 rfl rfl, ⟨by decide, by decide, by decide +kernel⟩, by decide⟩, ws_t2 100 rfl rfl⟩
theorem ci_X4_readNumber : CVi mX4_readNumber 0 := ⟨⟨in_X4, ws_t2 105 rfl rfl, ⟨by decide, by decide, by decide +kernel⟩, by decide⟩, ws_t2 104 rfl rfl, ws_p 2 rfl rfl⟩
theorem ci_X4_figureAt : CVi mX4_figureAt 1 := ⟨⟨in_X4, ws_t2 109 rfl rfl, ⟨by decide, by decide, by decide +kernel⟩, by decide⟩, ws_t2 108 rfl rfl, ws_p 3 rfl rfl⟩
theorem ci_X5_init : CCo mX5_init 0 := ⟨⟨in_X5, ws_t1 160 rfl rfl, ⟨by decide, by decide, by decide +kernel⟩, by decide⟩, ws_t1 159 rfl rfl, rfl⟩
theorem ci_X5_clear : CVi mX5_clear 0 := ⟨⟨in_X5, ws_t2 196 rfl rfl, ⟨by decide, by decide, by decide +kernel⟩, by decide⟩, ws_t2 194 rfl rfl, ws_t2 195 rfl rfl⟩
theorem ci_X5_copyFrom : CVi mX5_copyFrom 1 := ⟨⟨in_X5, ws_t3 133 rfl rfl, ⟨by decide, by decide, by decide +kernel⟩, by decide⟩, ws_t3 131 rfl rfl, ws_t3 132 rfl rfl⟩
theorem ci_X5_isBound : CVi mX5_isBound 1 := ⟨⟨in_X5, ws_t3 79 rfl rfl, ⟨by decide, by decide, by decide +kernel⟩, by decide⟩, ws_t3 77 rfl rfl, ws_t3 78 rfl rfl⟩
theorem ci_X5_ribbonOf : CVi mX5_ribbonOf 1 := ⟨⟨in_X5, ws_t3 75 rfl rfl, ⟨by decide, by decide, by decide +kernel⟩, by decide⟩, ws_t3 73 rfl rfl, ws_t3 74 rfl rfl⟩
theorem ci_X5_ageOf : CVi mX5_ageOf 1 := ⟨⟨in_X5, ws_t3 84 rfl rfl, ⟨by decide, by decide, by decide +kernel⟩, by decide⟩, ws_t3 82 rfl rfl, ws_t3 83 rfl rfl⟩
theorem ci_X5_escapesOf : CVi mX5_escapesOf 1 := ⟨⟨in_X5, ws_t3 88 rfl rfl, ⟨by decide, by decide, by decide +kernel⟩, by decide⟩, ws_t3 86 rfl rfl, ws_t3 87 rfl rfl⟩
theorem ci_X5_tie : CVi mX5_tie 2 := ⟨⟨in_X5, ws_t3 137 rfl rfl, ⟨by decide, by decide, by decide +kernel⟩, by decide⟩, ws_t3 135 rfl rfl, ws_t3 136 rfl rfl⟩
theorem ci_X5_untie : CVi mX5_untie 1 := ⟨⟨in_X5, ws_t3 146 rfl rfl, ⟨by decide, by decide, by decide +kernel⟩, by decide⟩, ws_t3 144 rfl rfl, ws_t3 145 rfl rfl⟩
theorem ci_X5_beastWith : CVi mX5_beastWith 1 := ⟨⟨in_X5, ws_t3 45 rfl rfl, ⟨by decide, by decide, by decide +kernel⟩, by decide⟩, ws_t3 43 rfl rfl, ws_t3 44 rfl rfl⟩
theorem ci_X5_gone : CVi mX5_gone 0 := ⟨⟨in_X5, ws_t3 37 rfl rfl, ⟨by decide, by decide, by decide +kernel⟩, by decide⟩, ws_t3 35 rfl rfl, ws_t3 36 rfl rfl⟩
theorem ci_X5_found : CVi mX5_found 1 := ⟨⟨in_X5, ws_t3 55 rfl rfl, ⟨by decide, by decide, by decide +kernel⟩, by decide⟩, ws_t3 53 rfl rfl, ws_t3 54 rfl rfl⟩
theorem ci_X5_passDay : CVi mX5_passDay 2 := ⟨⟨in_X5, ws_t3 155 rfl rfl, ⟨by decide, by decide, by decide +kernel⟩, by decide⟩, ws_t3 153 rfl rfl, ws_t3 154 rfl rfl⟩
theorem ci_X6_init : CCo mX6_init 0 := ⟨⟨in_X6, ws_t1 136 rfl rfl, ⟨by decide, by decide, by decide +kernel⟩, by decide⟩, ws_t1 135 rfl rfl, rfl⟩
theorem ci_X6_fillFrom : CVi mX6_fillFrom 1 := ⟨⟨in_X6, ws_t2 144 rfl rfl, ⟨by decide, by decide, by decide +kernel⟩, by decide⟩, ws_t2 142 rfl rfl, ws_t2 143 rfl rfl⟩
theorem ci_X6_sumOfStrength : CSt mX6_sumOfStrength 2 := ⟨⟨in_X6, ws_t2 150 rfl rfl, ⟨by decide, by decide, by decide +kernel⟩, by decide⟩, ws_t2 149 rfl rfl⟩
theorem ci_X6_spread : CSt mX6_spread 2 := ⟨⟨in_X6, ws_t2 166 rfl rfl, ⟨by decide, by decide, by decide +kernel⟩, by decide⟩, ws_t2 165 rfl rfl⟩
theorem ci_X6_thoseWhoMiss : CSt mX6_thoseWhoMiss 2 := ⟨⟨in_X6, ws_t2 181 rfl rfl, ⟨by decide, by decide, by decide +kernel⟩, by decide⟩, ws_t2 180 rfl rfl⟩
theorem ci_X6_sumOfWeights : CSt mX6_sumOfWeights 2 := ⟨⟨in_X6, ws_t2 188 rfl rfl, ⟨by decide, by decide, by decide +kernel⟩, by decide⟩, ws_t2 187 rfl rfl⟩
theorem ci_X6_isSet : CVi mX6_isSet 1 := ⟨⟨in_X6, ws_t3 96 rfl rfl, ⟨by decide, by decide, by decide +kernel⟩, by decide⟩, ws_t3 94 rfl rfl, ws_t3 95 rfl rfl⟩
theorem ci_X6_strengthOf : CVi mX6_strengthOf 1 := ⟨⟨in_X6, ws_t3 100 rfl rfl, ⟨by decide, by decide, by decide +kernel⟩, by decide⟩, ws_t3 98 rfl rfl, ws_t3 99 rfl rfl⟩
theorem ci_X6_followersOf : CVi mX6_followersOf 1 := ⟨⟨in_X6, ws_t2 178 rfl rfl, ⟨by decide, by decide, by decide +kernel⟩, by decide⟩, ws_t2 176 rfl rfl, ws_t2 177 rfl rfl⟩
theorem ci_X6_missersOf : CVi mX6_missersOf 1 := ⟨⟨in_X6, ws_t3 59 rfl rfl, ⟨by decide, by decide, by decide +kernel⟩, by decide⟩, ws_t3 57 rfl rfl, ws_t3 58 rfl rfl⟩
theorem ci_X6_lossOf : CVi mX6_lossOf 1 := ⟨⟨in_X6, ws_t3 117 rfl rfl, ⟨by decide, by decide, by decide +kernel⟩, by decide⟩, ws_t3 115 rfl rfl, ws_t3 116 rfl rfl⟩
theorem ci_X6_costOf : CVi mX6_costOf 2 := ⟨⟨in_X6, ws_t3 178 rfl rfl, ⟨by decide, by decide, by decide +kernel⟩, by decide⟩, ws_t3 176 rfl rfl, ws_t3 177 rfl rfl⟩
theorem ci_X6_thereBesides : CVi mX6_thereBesides 1 := ⟨⟨in_X6, ws_t3 41 rfl rfl, ⟨by decide, by decide, by decide +kernel⟩, by decide⟩, ws_t3 39 rfl rfl, ws_t3 40 rfl rfl⟩
theorem ci_X7_init : CCo mX7_init 0 := ⟨⟨in_X7, ws_t1 59 rfl rfl, ⟨by decide, by decide, by decide +kernel⟩, by decide⟩, ws_t1 58 rfl rfl, rfl⟩
theorem ci_X7_clear : CVi mX7_clear 0 := ⟨⟨in_X7, ws_t2 86 rfl rfl, ⟨by decide, by decide, by decide +kernel⟩, by decide⟩, ws_t2 84 rfl rfl, ws_t2 85 rfl rfl⟩
theorem ci_X7_take : CVi mX7_take 5 := ⟨⟨in_X7, ws_t2 113 rfl rfl, ⟨by decide, by decide, by decide +kernel⟩, by decide⟩, ws_t2 111 rfl rfl, ws_t2 112 rfl rfl⟩
theorem ci_X7_takeThing : CVi mX7_takeThing 2 := ⟨⟨in_X7, ws_t2 117 rfl rfl, ⟨by decide, by decide, by decide +kernel⟩, by decide⟩, ws_t2 116 rfl rfl, ws_p 4 rfl rfl⟩
theorem ci_X7_takeNeed : CVi mX7_takeNeed 2 := ⟨⟨in_X7, ws_t2 121 rfl rfl, ⟨by decide, by decide, by decide +kernel⟩, by decide⟩, ws_t2 120 rfl rfl, ws_p 5 rfl rfl⟩
theorem ci_X7_takePerson : CVi mX7_takePerson 2 := ⟨⟨in_X7, ws_t2 129 rfl rfl, ⟨by decide, by decide, by decide +kernel⟩, by decide⟩, ws_t2 128 rfl rfl, ws_p 7 rfl rfl⟩
theorem ci_X7_takeBeast : CVi mX7_takeBeast 1 := ⟨⟨in_X7, ws_t2 136 rfl rfl, ⟨by decide, by decide, by decide +kernel⟩, by decide⟩, ws_t2 135 rfl rfl, ws_p 8 rfl rfl⟩
theorem ci_X7_takeExchange : CVi mX7_takeExchange 4 := ⟨⟨in_X7, ws_t2 140 rfl rfl, ⟨by decide, by decide, by decide +kernel⟩, by decide⟩, ws_t2 139 rfl rfl, ws_p 9 rfl rfl⟩
theorem ci_X7_areTwoThings : CVi mX7_areTwoThings 2 := ⟨⟨in_X7, ws_t2 125 rfl rfl, ⟨by decide, by decide, by decide +kernel⟩, by decide⟩, ws_t2 124 rfl rfl, ws_p 6 rfl rfl⟩
theorem ci_X7_isOneFigure : CSt mX7_isOneFigure 1 := ⟨⟨in_X7, ws_t2 132 rfl rfl, ⟨by decide, by decide, by decide +kernel⟩, by decide⟩, ws_t2 131 rfl rfl⟩
theorem ci_X7_entry : CSt mX7_entry 2 := ⟨⟨in_X7, ws_t2 163 rfl rfl, ⟨by decide, by decide, by decide +kernel⟩, by decide⟩, ws_t2 162 rfl rfl⟩
theorem ci_X7_strengthOfThing : CVi mX7_strengthOfThing 1 := ⟨⟨in_X7, ws_t2 160 rfl rfl, ⟨by decide, by decide, by decide +kernel⟩, by decide⟩, ws_t2 158 rfl rfl, ws_t2 159 rfl rfl⟩
theorem ci_X7_kindOfThing : CVi mX7_kindOfThing 1 := ⟨⟨in_X7, ws_t3 29 rfl rfl, ⟨by decide, by decide, by decide +kernel⟩, by decide⟩, ws_t3 27 rfl rfl, ws_t3 28 rfl rfl⟩
theorem ci_X7_neederOf : CVi mX7_neederOf 1 := ⟨⟨in_X7, ws_t2 174 rfl rfl, ⟨by decide, by decide, by decide +kernel⟩, by decide⟩, ws_t2 172 rfl rfl, ws_t2 173 rfl rfl⟩
theorem ci_X7_neededOf : CVi mX7_neededOf 1 := ⟨⟨in_X7, ws_t2 170 rfl rfl, ⟨by decide, by decide, by decide +kernel⟩, by decide⟩, ws_t2 168 rfl rfl, ws_t2 169 rfl rfl⟩
theorem ci_X7_thingOfPerson : CVi mX7_thingOfPerson 1 := ⟨⟨in_X7, ws_t2 185 rfl rfl, ⟨by decide, by decide, by decide +kernel⟩, by decide⟩, ws_t2 183 rfl rfl, ws_t2 184 rfl rfl⟩
theorem ci_X7_weightOfPerson : CVi mX7_weightOfPerson 1 := ⟨⟨in_X7, ws_t2 192 rfl rfl, ⟨by decide, by decide, by decide +kernel⟩, by decide⟩, ws_t2 190 rfl rfl, ws_t2 191 rfl rfl⟩
theorem ci_X7_pullOfBeast : CVi mX7_pullOfBeast 1 := ⟨⟨in_X7, ws_t3 71 rfl rfl, ⟨by decide, by decide, by decide +kernel⟩, by decide⟩, ws_t3 69 rfl rfl, ws_t3 70 rfl rfl⟩
theorem ci_X7_takenBy : CVi mX7_takenBy 1 := ⟨⟨in_X7, ws_t4 81 rfl rfl, ⟨by decide, by decide, by decide +kernel⟩, by decide⟩, ws_t4 79 rfl rfl, ws_t4 80 rfl rfl⟩
theorem ci_X7_givenBy : CVi mX7_givenBy 1 := ⟨⟨in_X7, ws_t4 77 rfl rfl, ⟨by decide, by decide, by decide +kernel⟩, by decide⟩, ws_t4 75 rfl rfl, ws_t4 76 rfl rfl⟩
theorem ci_X7_takenMuchBy : CVi mX7_takenMuchBy 1 := ⟨⟨in_X7, ws_t4 89 rfl rfl, ⟨by decide, by decide, by decide +kernel⟩, by decide⟩, ws_t4 87 rfl rfl, ws_t4 88 rfl rfl⟩
theorem ci_X7_givenMuchBy : CVi mX7_givenMuchBy 1 := ⟨⟨in_X7, ws_t4 85 rfl rfl, ⟨by decide, by decide, by decide +kernel⟩, by decide⟩, ws_t4 83 rfl rfl, ws_t4 84 rfl rfl⟩
theorem ci_X8_init : CCo mX8_init 0 := ⟨⟨in_X8, ws_t1 21 rfl rfl, ⟨by decide, by decide, by decide +kernel⟩, by decide⟩, ws_t1 20 rfl rfl, rfl⟩
theorem ci_X8_write : CVi mX8_write 1 := ⟨⟨in_X8, ws_t3 3 rfl rfl, ⟨by decide, by decide, by decide +kernel⟩, by decide⟩, ws_t3 1 rfl rfl, ws_t3 2 rfl rfl⟩
theorem ci_X8_wipe : CVi mX8_wipe 0 := ⟨⟨in_X8, ws_t3 8 rfl rfl, ⟨by decide, by decide, by decide +kernel⟩, by decide⟩, ws_t3 6 rfl rfl, ws_t3 7 rfl rfl⟩
theorem ci_X8_fault : CVi mX8_fault 0 := ⟨⟨in_X8, ws_t3 12 rfl rfl, ⟨by decide, by decide, by decide +kernel⟩, by decide⟩, ws_t3 10 rfl rfl, ws_t3 11 rfl rfl⟩
theorem ci_X8_lay : CVi mX8_lay 0 := ⟨⟨in_X8, ws_t3 16 rfl rfl, ⟨by decide, by decide, by decide +kernel⟩, by decide⟩, ws_t3 14 rfl rfl, ws_t3 15 rfl rfl⟩
theorem ci_X8_layTheText : CVi mX8_layTheText 0 := ⟨⟨in_X8, ws_t2 78 rfl rfl, ⟨by decide, by decide, by decide +kernel⟩, by decide⟩, ws_t2 77 rfl rfl, ws_p 0 rfl rfl⟩
theorem ci_X8_thing : CVi mX8_thing 2 := ⟨⟨in_X8, ws_t3 20 rfl rfl, ⟨by decide, by decide, by decide +kernel⟩, by decide⟩, ws_t3 18 rfl rfl, ws_t3 19 rfl rfl⟩
theorem ci_X8_person : CVi mX8_person 2 := ⟨⟨in_X8, ws_t3 49 rfl rfl, ⟨by decide, by decide, by decide +kernel⟩, by decide⟩, ws_t3 47 rfl rfl, ws_t3 48 rfl rfl⟩
theorem ci_X8_beast : CVi mX8_beast 2 := ⟨⟨in_X8, ws_t3 63 rfl rfl, ⟨by decide, by decide, by decide +kernel⟩, by decide⟩, ws_t3 61 rfl rfl, ws_t3 62 rfl rfl⟩
theorem ci_X8_strength : CVi mX8_strength 1 := ⟨⟨in_X8, ws_t3 92 rfl rfl, ⟨by decide, by decide, by decide +kernel⟩, by decide⟩, ws_t3 90 rfl rfl, ws_t3 91 rfl rfl⟩
theorem ci_X8_follows : CVi mX8_follows 1 := ⟨⟨in_X8, ws_t3 104 rfl rfl, ⟨by decide, by decide, by decide +kernel⟩, by decide⟩, ws_t3 102 rfl rfl, ws_t3 103 rfl rfl⟩
theorem ci_X8_missed : CVi mX8_missed 0 := ⟨⟨in_X8, ws_t3 109 rfl rfl, ⟨by decide, by decide, by decide +kernel⟩, by decide⟩, ws_t3 107 rfl rfl, ws_t3 108 rfl rfl⟩
theorem ci_X8_bind : CVi mX8_bind 2 := ⟨⟨in_X8, ws_t3 121 rfl rfl, ⟨by decide, by decide, by decide +kernel⟩, by decide⟩, ws_t3 119 rfl rfl, ws_t3 120 rfl rfl⟩
theorem ci_X8_loosen : CVi mX8_loosen 1 := ⟨⟨in_X8, ws_t3 141 rfl rfl, ⟨by decide, by decide, by decide +kernel⟩, by decide⟩, ws_t3 139 rfl rfl, ws_t3 140 rfl rfl⟩
theorem ci_X8_days : CVi mX8_days 1 := ⟨⟨in_X8, ws_t3 151 rfl rfl, ⟨by decide, by decide, by decide +kernel⟩, by decide⟩, ws_t3 149 rfl rfl, ws_t3 150 rfl rfl⟩
theorem ci_X8_undo : CVi mX8_undo 0 := ⟨⟨in_X8, ws_t3 162 rfl rfl, ⟨by decide, by decide, by decide +kernel⟩, by decide⟩, ws_t3 160 rfl rfl, ws_t3 161 rfl rfl⟩
theorem ci_X8_cost : CVi mX8_cost 1 := ⟨⟨in_X8, ws_t3 174 rfl rfl, ⟨by decide, by decide, by decide +kernel⟩, by decide⟩, ws_t3 172 rfl rfl, ws_t3 173 rfl rfl⟩
theorem ci_X8_least : CVi mX8_least 2 := ⟨⟨in_X8, ws_t3 183 rfl rfl, ⟨by decide, by decide, by decide +kernel⟩, by decide⟩, ws_t3 181 rfl rfl, ws_t3 182 rfl rfl⟩
theorem ci_X8_all : CVi mX8_all 1 := ⟨⟨in_X8, ws_t3 198 rfl rfl, ⟨by decide, by decide, by decide +kernel⟩, by decide⟩, ws_t3 196 rfl rfl, ws_t3 197 rfl rfl⟩
theorem ci_X8_more : CVi mX8_more 1 := ⟨⟨in_X8, ws_t4 1 rfl rfl, ⟨by decide, by decide, by decide +kernel⟩, by decide⟩, ws_t3 239 rfl rfl, ws_t4 0 rfl rfl⟩
theorem ci_X8_worst : CVi mX8_worst 1 := ⟨⟨in_X8, ws_t4 19 rfl rfl, ⟨by decide, by decide, by decide +kernel⟩, by decide⟩, ws_t4 17 rfl rfl, ws_t4 18 rfl rfl⟩
theorem ci_X8_back : CVi mX8_back 1 := ⟨⟨in_X8, ws_t4 23 rfl rfl, ⟨by decide, by decide, by decide +kernel⟩, by decide⟩, ws_t4 21 rfl rfl, ws_t4 22 rfl rfl⟩
theorem ci_X8_missing : CVi mX8_missing 3 := ⟨⟨in_X8, ws_t4 27 rfl rfl, ⟨by decide, by decide, by decide +kernel⟩, by decide⟩, ws_t4 25 rfl rfl, ws_t4 26 rfl rfl⟩
theorem ci_X8_trial : CVi mX8_trial 4 := ⟨⟨in_X8, ws_t4 31 rfl rfl, ⟨by decide, by decide, by decide +kernel⟩, by decide⟩, ws_t4 29 rfl rfl, ws_t4 30 rfl rfl⟩
theorem ci_X8_pledge : CVi mX8_pledge 1 := ⟨⟨in_X8, ws_t4 46 rfl rfl, ⟨by decide, by decide, by decide +kernel⟩, by decide⟩, ws_t4 44 rfl rfl, ws_t4 45 rfl rfl⟩
theorem ci_X8_pledgeRests : CVi mX8_pledgeRests 2 := ⟨⟨in_X8, ws_t4 50 rfl rfl, ⟨by decide, by decide, by decide +kernel⟩, by decide⟩, ws_t4 49 rfl rfl, ws_p 24 rfl rfl⟩
theorem ci_X8_pledgeLoss : CVi mX8_pledgeLoss 2 := ⟨⟨in_X8, ws_t4 54 rfl rfl, ⟨by decide, by decide, by decide +kernel⟩, by decide⟩, ws_t4 53 rfl rfl, ws_p 25 rfl rfl⟩
theorem ci_X8_gain : CVi mX8_gain 1 := ⟨⟨in_X8, ws_t4 58 rfl rfl, ⟨by decide, by decide, by decide +kernel⟩, by decide⟩, ws_t4 56 rfl rfl, ws_t4 57 rfl rfl⟩
theorem ci_X8_row : CVi mX8_row 3 := ⟨⟨in_X8, ws_t4 103 rfl rfl, ⟨by decide, by decide, by decide +kernel⟩, by decide⟩, ws_t4 101 rfl rfl, ws_t4 102 rfl rfl⟩
theorem ci_X8_actByDraw : CVi mX8_actByDraw 2 := ⟨⟨in_X8, ws_t4 114 rfl rfl, ⟨by decide, by decide, by decide +kernel⟩, by decide⟩, ws_t4 113 rfl rfl, ws_p 27 rfl rfl⟩
theorem ci_X8_keep : CVi mX8_keep 0 := ⟨⟨in_X8, ws_t4 118 rfl rfl, ⟨by decide, by decide, by decide +kernel⟩, by decide⟩, ws_t4 116 rfl rfl, ws_t4 117 rfl rfl⟩
theorem ci_X8_restore : CVi mX8_restore 0 := ⟨⟨in_X8, ws_t4 122 rfl rfl, ⟨by decide, by decide, by decide +kernel⟩, by decide⟩, ws_t4 120 rfl rfl, ws_t4 121 rfl rfl⟩
theorem ci_X8_count : CVi mX8_count 1 := ⟨⟨in_X8, ws_t4 126 rfl rfl, ⟨by decide, by decide, by decide +kernel⟩, by decide⟩, ws_t4 124 rfl rfl, ws_t4 125 rfl rfl⟩
theorem ci_X8_isThing : CVi mX8_isThing 1 := ⟨⟨in_X8, ws_t3 24 rfl rfl, ⟨by decide, by decide, by decide +kernel⟩, by decide⟩, ws_t3 23 rfl rfl, ws_p 10 rfl rfl⟩
theorem ci_X8_isBeast : CVi mX8_isBeast 1 := ⟨⟨in_X8, ws_t3 67 rfl rfl, ⟨by decide, by decide, by decide +kernel⟩, by decide⟩, ws_t3 66 rfl rfl, ws_p 12 rfl rfl⟩
theorem ci_X8_isThere : CVi mX8_isThere 1 := ⟨⟨in_X8, ws_t3 33 rfl rfl, ⟨by decide, by decide, by decide +kernel⟩, by decide⟩, ws_t3 32 rfl rfl, ws_p 11 rfl rfl⟩
theorem ci_X8_missedIn : CVi mX8_missedIn 1 := ⟨⟨in_X8, ws_t3 113 rfl rfl, ⟨by decide, by decide, by decide +kernel⟩, by decide⟩, ws_t3 112 rfl rfl, ws_p 13 rfl rfl⟩
theorem ci_X8_draw : CSt mX8_draw 2 := ⟨⟨in_X8, ws_t4 107 rfl rfl, ⟨by decide, by decide, by decide +kernel⟩, by decide⟩, ws_t4 106 rfl rfl⟩
theorem ci_X8_power : CSt mX8_power 2 := ⟨⟨in_X8, ws_t4 35 rfl rfl, ⟨by decide, by decide, by decide +kernel⟩, by decide⟩, ws_t4 34 rfl rfl⟩
theorem ci_X8_commonDivisor : CSt mX8_commonDivisor 2 := ⟨⟨in_X8, ws_t4 39 rfl rfl, ⟨by decide, by decide, by decide +kernel⟩, by decide⟩, ws_t4 38 rfl rfl⟩
theorem ci_X9_init : CCo mX9_init 0 := ⟨⟨in_X9, ws_t4 131 rfl rfl, ⟨by decide, by decide, by decide +kernel⟩, by decide⟩, ws_t4 130 rfl rfl, rfl⟩
theorem ci_X9_in : CSt mX9_in 3 := ⟨⟨in_X9, ws_t5 11 rfl rfl, ⟨by decide, by decide, by decide +kernel⟩, by decide⟩, ws_t5 10 rfl rfl⟩
theorem ci_X9_has : CSt mX9_has 2 := ⟨⟨in_X9, ws_t5 76 rfl rfl, ⟨by decide, by decide, by decide +kernel⟩, by decide⟩, ws_t5 75 rfl rfl⟩
theorem ci_X9_bits : CSt mX9_bits 1 := ⟨⟨in_X9, ws_t5 159 rfl rfl, ⟨by decide, by decide, by decide +kernel⟩, by decide⟩, ws_t5 158 rfl rfl⟩
theorem ci_X9_addThing : CVi mX9_addThing 2 := ⟨⟨in_X9, ws_t4 136 rfl rfl, ⟨by decide, by decide, by decide +kernel⟩, by decide⟩, ws_t4 135 rfl rfl, ws_p 28 rfl rfl⟩
theorem ci_X9_addNeed : CVi mX9_addNeed 2 := ⟨⟨in_X9, ws_t4 140 rfl rfl, ⟨by decide, by decide, by decide +kernel⟩, by decide⟩, ws_t4 139 rfl rfl, ws_p 29 rfl rfl⟩
theorem ci_X9_addPerson : CVi mX9_addPerson 2 := ⟨⟨in_X9, ws_t4 144 rfl rfl, ⟨by decide, by decide, by decide +kernel⟩, by decide⟩, ws_t4 143 rfl rfl, ws_p 30 rfl rfl⟩
theorem ci_X9_addBeast : CVi mX9_addBeast 1 := ⟨⟨in_X9, ws_t4 148 rfl rfl, ⟨by decide, by decide, by decide +kernel⟩, by decide⟩, ws_t4 147 rfl rfl, ws_p 31 rfl rfl⟩
theorem ci_X9_addChange : CVi mX9_addChange 4 := ⟨⟨in_X9, ws_t4 152 rfl rfl, ⟨by decide, by decide, by decide +kernel⟩, by decide⟩, ws_t4 151 rfl rfl, ws_p 32 rfl rfl⟩
theorem ci_X9_begin : CVi mX9_begin 0 := ⟨⟨in_X9, ws_t4 156 rfl rfl, ⟨by decide, by decide, by decide +kernel⟩, by decide⟩, ws_t4 155 rfl rfl, ws_p 33 rfl rfl⟩
theorem ci_X9_write : CVi mX9_write 1 := ⟨⟨in_X9, ws_t5 6 rfl rfl, ⟨by decide, by decide, by decide +kernel⟩, by decide⟩, ws_t5 4 rfl rfl, ws_t5 5 rfl rfl⟩
theorem ci_X9_wipe : CVi mX9_wipe 0 := ⟨⟨in_X9, ws_t5 15 rfl rfl, ⟨by decide, by decide, by decide +kernel⟩, by decide⟩, ws_t5 13 rfl rfl, ws_t5 14 rfl rfl⟩
theorem ci_X9_isFigure : CSt mX9_isFigure 1 := ⟨⟨in_X9, ws_t5 42 rfl rfl, ⟨by decide, by decide, by decide +kernel⟩, by decide⟩, ws_t5 41 rfl rfl⟩
theorem ci_X9_isThere : CVi mX9_isThere 1 := ⟨⟨in_X9, ws_t5 52 rfl rfl, ⟨by decide, by decide, by decide +kernel⟩, by decide⟩, ws_t5 51 rfl rfl, ws_p 40 rfl rfl⟩
theorem ci_X9_reads : CVi mX9_reads 3 := ⟨⟨in_X9, ws_t5 39 rfl rfl, ⟨by decide, by decide, by decide +kernel⟩, by decide⟩, ws_t5 38 rfl rfl, ws_p 38 rfl rfl⟩
theorem ci_X9_readsComma : CVi mX9_readsComma 0 := ⟨⟨in_X9, ws_t5 48 rfl rfl, ⟨by decide, by decide, by decide +kernel⟩, by decide⟩, ws_t5 47 rfl rfl, ws_p 39 rfl rfl⟩
theorem ci_X9_readsTwo : CVi mX9_readsTwo 3 := ⟨⟨in_X9, ws_t5 35 rfl rfl, ⟨by decide, by decide, by decide +kernel⟩, by decide⟩, ws_t5 34 rfl rfl, ws_p 37 rfl rfl⟩
theorem ci_X9_readsChange : CVi mX9_readsChange 0 := ⟨⟨in_X9, ws_t5 56 rfl rfl, ⟨by decide, by decide, by decide +kernel⟩, by decide⟩, ws_t5 55 rfl rfl, ws_p 41 rfl rfl⟩
theorem ci_X9_readsNumbers : CVi mX9_readsNumbers 1 := ⟨⟨in_X9, ws_t5 31 rfl rfl, ⟨by decide, by decide, by decide +kernel⟩, by decide⟩, ws_t5 30 rfl rfl, ws_p 36 rfl rfl⟩
theorem ci_X9_readsItem : CVi mX9_readsItem 0 := ⟨⟨in_X9, ws_t5 27 rfl rfl, ⟨by decide, by decide, by decide +kernel⟩, by decide⟩, ws_t5 26 rfl rfl, ws_p 35 rfl rfl⟩
theorem ci_X9_beginToRead : CVi mX9_beginToRead 0 := ⟨⟨in_X9, ws_t5 23 rfl rfl, ⟨by decide, by decide, by decide +kernel⟩, by decide⟩, ws_t5 22 rfl rfl, ws_p 34 rfl rfl⟩
theorem ci_X9_fault : CVi mX9_fault 0 := ⟨⟨in_X9, ws_t5 19 rfl rfl, ⟨by decide, by decide, by decide +kernel⟩, by decide⟩, ws_t5 17 rfl rfl, ws_t5 18 rfl rfl⟩
theorem ci_X9_tell : CVi mX9_tell 1 := ⟨⟨in_X9, ws_t5 65 rfl rfl, ⟨by decide, by decide, by decide +kernel⟩, by decide⟩, ws_t5 64 rfl rfl, ws_p 42 rfl rfl⟩
theorem ci_X9_lay : CVi mX9_lay 0 := ⟨⟨in_X9, ws_t5 60 rfl rfl, ⟨by decide, by decide, by decide +kernel⟩, by decide⟩, ws_t5 58 rfl rfl, ws_t5 59 rfl rfl⟩
theorem ci_X9_isThing : CVi mX9_isThing 1 := ⟨⟨in_X9, ws_t5 73 rfl rfl, ⟨by decide, by decide, by decide +kernel⟩, by decide⟩, ws_t5 72 rfl rfl, ws_p 43 rfl rfl⟩
theorem ci_X9_isBeast : CVi mX9_isBeast 1 := ⟨⟨in_X9, ws_t5 108 rfl rfl, ⟨by decide, by decide, by decide +kernel⟩, by decide⟩, ws_t5 107 rfl rfl, ws_p 49 rfl rfl⟩
theorem ci_X9_isSet : CVi mX9_isSet 1 := ⟨⟨in_X9, ws_t5 116 rfl rfl, ⟨by decide, by decide, by decide +kernel⟩, by decide⟩, ws_t5 115 rfl rfl, ws_p 50 rfl rfl⟩
theorem ci_X9_strengthOf : CVi mX9_strengthOf 1 := ⟨⟨in_X9, ws_t5 120 rfl rfl, ⟨by decide, by decide, by decide +kernel⟩, by decide⟩, ws_t5 119 rfl rfl, ws_p 51 rfl rfl⟩
theorem ci_X9_followsOf : CVi mX9_followsOf 1 := ⟨⟨in_X9, ws_t5 88 rfl rfl, ⟨by decide, by decide, by decide +kernel⟩, by decide⟩, ws_t5 87 rfl rfl, ws_p 46 rfl rfl⟩
theorem ci_X9_goneIn : CVi mX9_goneIn 1 := ⟨⟨in_X9, ws_t5 84 rfl rfl, ⟨by decide, by decide, by decide +kernel⟩, by decide⟩, ws_t5 83 rfl rfl, ws_p 45 rfl rfl⟩
theorem ci_X9_thereIn : CVi mX9_thereIn 1 := ⟨⟨in_X9, ws_t5 80 rfl rfl, ⟨by decide, by decide, by decide +kernel⟩, by decide⟩, ws_t5 79 rfl rfl, ws_p 44 rfl rfl⟩
theorem ci_X9_lateSet : CVi mX9_lateSet 0 := ⟨⟨in_X9, ws_t5 100 rfl rfl, ⟨by decide, by decide, by decide +kernel⟩, by decide⟩, ws_t5 99 rfl rfl, ws_p 48 rfl rfl⟩
theorem ci_X9_foundIn : CVi mX9_foundIn 1 := ⟨⟨in_X9, ws_t5 96 rfl rfl, ⟨by decide, by decide, by decide +kernel⟩, by decide⟩, ws_t5 95 rfl rfl, ws_p 47 rfl rfl⟩
theorem ci_X9_missedBy : CVi mX9_missedBy 1 := ⟨⟨in_X9, ws_t5 136 rfl rfl, ⟨by decide, by decide, by decide +kernel⟩, by decide⟩, ws_t5 135 rfl rfl, ws_p 53 rfl rfl⟩
theorem ci_X9_missedIn : CVi mX9_missedIn 1 := ⟨⟨in_X9, ws_t5 132 rfl rfl, ⟨by decide, by decide, by decide +kernel⟩, by decide⟩, ws_t5 131 rfl rfl, ws_p 52 rfl rfl⟩
theorem ci_X9_costIn : CVi mX9_costIn 2 := ⟨⟨in_X9, ws_t5 184 rfl rfl, ⟨by decide, by decide, by decide +kernel⟩, by decide⟩, ws_t5 183 rfl rfl, ws_p 59 rfl rfl⟩
theorem ci_X9_thing : CVi mX9_thing 2 := ⟨⟨in_X9, ws_t5 69 rfl rfl, ⟨by decide, by decide, by decide +kernel⟩, by decide⟩, ws_t5 67 rfl rfl, ws_t5 68 rfl rfl⟩
theorem ci_X9_person : CVi mX9_person 2 := ⟨⟨in_X9, ws_t5 92 rfl rfl, ⟨by decide, by decide, by decide +kernel⟩, by decide⟩, ws_t5 90 rfl rfl, ws_t5 91 rfl rfl⟩
theorem ci_X9_beast : CVi mX9_beast 2 := ⟨⟨in_X9, ws_t5 104 rfl rfl, ⟨by decide, by decide, by decide +kernel⟩, by decide⟩, ws_t5 102 rfl rfl, ws_t5 103 rfl rfl⟩
theorem ci_X9_strength : CVi mX9_strength 1 := ⟨⟨in_X9, ws_t5 112 rfl rfl, ⟨by decide, by decide, by decide +kernel⟩, by decide⟩, ws_t5 110 rfl rfl, ws_t5 111 rfl rfl⟩
theorem ci_X9_follows : CVi mX9_follows 1 := ⟨⟨in_X9, ws_t5 124 rfl rfl, ⟨by decide, by decide, by decide +kernel⟩, by decide⟩, ws_t5 122 rfl rfl, ws_t5 123 rfl rfl⟩
theorem ci_X9_missed : CVi mX9_missed 0 := ⟨⟨in_X9, ws_t5 128 rfl rfl, ⟨by decide, by decide, by decide +kernel⟩, by decide⟩, ws_t5 126 rfl rfl, ws_t5 127 rfl rfl⟩
theorem ci_X9_copy : CVi mX9_copy 2 := ⟨⟨in_X9, ws_t5 148 rfl rfl, ⟨by decide, by decide, by decide +kernel⟩, by decide⟩, ws_t5 147 rfl rfl, ws_p 55 rfl rfl⟩
theorem ci_X9_keepPast : CVi mX9_keepPast 0 := ⟨⟨in_X9, ws_t5 144 rfl rfl, ⟨by decide, by decide, by decide +kernel⟩, by decide⟩, ws_t5 143 rfl rfl, ws_p 54 rfl rfl⟩
theorem ci_X9_bindIn : CVi mX9_bindIn 3 := ⟨⟨in_X9, ws_t5 152 rfl rfl, ⟨by decide, by decide, by decide +kernel⟩, by decide⟩, ws_t5 151 rfl rfl, ws_p 56 rfl rfl⟩
theorem ci_X9_bind : CVi mX9_bind 2 := ⟨⟨in_X9, ws_t5 140 rfl rfl, ⟨by decide, by decide, by decide +kernel⟩, by decide⟩, ws_t5 138 rfl rfl, ws_t5 139 rfl rfl⟩
theorem ci_X9_loosen : CVi mX9_loosen 1 := ⟨⟨in_X9, ws_t5 156 rfl rfl, ⟨by decide, by decide, by decide +kernel⟩, by decide⟩, ws_t5 154 rfl rfl, ws_t5 155 rfl rfl⟩
theorem ci_X9_lentIn : CVi mX9_lentIn 1 := ⟨⟨in_X9, ws_t5 172 rfl rfl, ⟨by decide, by decide, by decide +kernel⟩, by decide⟩, ws_t5 171 rfl rfl, ws_p 58 rfl rfl⟩
theorem ci_X9_dayIn : CVi mX9_dayIn 1 := ⟨⟨in_X9, ws_t5 168 rfl rfl, ⟨by decide, by decide, by decide +kernel⟩, by decide⟩, ws_t5 167 rfl rfl, ws_p 57 rfl rfl⟩
theorem ci_X9_days : CVi mX9_days 1 := ⟨⟨in_X9, ws_t5 163 rfl rfl, ⟨by decide, by decide, by decide +kernel⟩, by decide⟩, ws_t5 161 rfl rfl, ws_t5 162 rfl rfl⟩
theorem ci_X9_undo : CVi mX9_undo 0 := ⟨⟨in_X9, ws_t5 176 rfl rfl, ⟨by decide, by decide, by decide +kernel⟩, by decide⟩, ws_t5 174 rfl rfl, ws_t5 175 rfl rfl⟩
theorem ci_X9_cost : CVi mX9_cost 1 := ⟨⟨in_X9, ws_t5 180 rfl rfl, ⟨by decide, by decide, by decide +kernel⟩, by decide⟩, ws_t5 178 rfl rfl, ws_t5 179 rfl rfl⟩
theorem ci_X9_leastIn : CVi mX9_leastIn 2 := ⟨⟨in_X9, ws_t5 192 rfl rfl, ⟨by decide, by decide, by decide +kernel⟩, by decide⟩, ws_t5 191 rfl rfl, ws_p 60 rfl rfl⟩
theorem ci_X9_least : CVi mX9_least 2 := ⟨⟨in_X9, ws_t5 188 rfl rfl, ⟨by decide, by decide, by decide +kernel⟩, by decide⟩, ws_t5 186 rfl rfl, ws_t5 187 rfl rfl⟩
theorem ci_X9_lowest : CVi mX9_lowest 1 := ⟨⟨in_X9, ws_t5 217 rfl rfl, ⟨by decide, by decide, by decide +kernel⟩, by decide⟩, ws_t5 216 rfl rfl, ws_p 65 rfl rfl⟩
theorem ci_X9_canHold : CVi mX9_canHold 2 := ⟨⟨in_X9, ws_t5 213 rfl rfl, ⟨by decide, by decide, by decide +kernel⟩, by decide⟩, ws_t5 212 rfl rfl, ws_p 64 rfl rfl⟩
theorem ci_X9_unbound : CVi mX9_unbound 0 := ⟨⟨in_X9, ws_t5 205 rfl rfl, ⟨by decide, by decide, by decide +kernel⟩, by decide⟩, ws_t5 204 rfl rfl, ws_p 62 rfl rfl⟩
theorem ci_X9_layHolds : CVi mX9_layHolds 1 := ⟨⟨in_X9, ws_t5 209 rfl rfl, ⟨by decide, by decide, by decide +kernel⟩, by decide⟩, ws_t5 208 rfl rfl, ws_p 63 rfl rfl⟩
theorem ci_X9_usedByAll : CVi mX9_usedByAll 0 := ⟨⟨in_X9, ws_t5 201 rfl rfl, ⟨by decide, by decide, by decide +kernel⟩, by decide⟩, ws_t5 200 rfl rfl, ws_p 61 rfl rfl⟩
theorem ci_X9_ribbonOf : CVi mX9_ribbonOf 2 := ⟨⟨in_X9, ws_t5 221 rfl rfl, ⟨by decide, by decide, by decide +kernel⟩, by decide⟩, ws_t5 220 rfl rfl, ws_p 66 rfl rfl⟩
theorem ci_X9_all : CVi mX9_all 1 := ⟨⟨in_X9, ws_t5 196 rfl rfl, ⟨by decide, by decide, by decide +kernel⟩, by decide⟩, ws_t5 194 rfl rfl, ws_t5 195 rfl rfl⟩
theorem ci_X9_more : CVi mX9_more 1 := ⟨⟨in_X9, ws_t5 225 rfl rfl, ⟨by decide, by decide, by decide +kernel⟩, by decide⟩, ws_t5 223 rfl rfl, ws_t5 224 rfl rfl⟩
theorem ci_X9_worst : CVi mX9_worst 1 := ⟨⟨in_X9, ws_t5 230 rfl rfl, ⟨by decide, by decide, by decide +kernel⟩, by decide⟩, ws_t5 228 rfl rfl, ws_t5 229 rfl rfl⟩
theorem ci_X9_back : CVi mX9_back 1 := ⟨⟨in_X9, ws_t5 234 rfl rfl, ⟨by decide, by decide, by decide +kernel⟩, by decide⟩, ws_t5 232 rfl rfl, ws_t5 233 rfl rfl⟩
theorem ci_X9_whoMiss : CVi mX9_whoMiss 1 := ⟨⟨in_X9, ws_t6 3 rfl rfl, ⟨by decide, by decide, by decide +kernel⟩, by decide⟩, ws_t6 2 rfl rfl, ws_p 67 rfl rfl⟩
theorem ci_X9_missing : CVi mX9_missing 3 := ⟨⟨in_X9, ws_t5 238 rfl rfl, ⟨by decide, by decide, by decide +kernel⟩, by decide⟩, ws_t5 236 rfl rfl, ws_t5 237 rfl rfl⟩
theorem ci_X9_divisor : CSt mX9_divisor 2 := ⟨⟨in_X9, ws_t6 17 rfl rfl, ⟨by decide, by decide, by decide +kernel⟩, by decide⟩, ws_t6 16 rfl rfl⟩
theorem ci_X9_power : CSt mX9_power 2 := ⟨⟨in_X9, ws_t6 13 rfl rfl, ⟨by decide, by decide, by decide +kernel⟩, by decide⟩, ws_t6 12 rfl rfl⟩
theorem ci_X9_trial : CVi mX9_trial 4 := ⟨⟨in_X9, ws_t6 7 rfl rfl, ⟨by decide, by decide, by decide +kernel⟩, by decide⟩, ws_t6 5 rfl rfl, ws_t6 6 rfl rfl⟩
theorem ci_X9_losesBy : CVi mX9_losesBy 2 := ⟨⟨in_X9, ws_t6 29 rfl rfl, ⟨by decide, by decide, by decide +kernel⟩, by decide⟩, ws_t6 28 rfl rfl, ws_p 69 rfl rfl⟩
theorem ci_X9_rests : CVi mX9_rests 2 := ⟨⟨in_X9, ws_t6 25 rfl rfl, ⟨by decide, by decide, by decide +kernel⟩, by decide⟩, ws_t6 24 rfl rfl, ws_p 68 rfl rfl⟩
theorem ci_X9_pledge : CVi mX9_pledge 1 := ⟨⟨in_X9, ws_t6 21 rfl rfl, ⟨by decide, by decide, by decide +kernel⟩, by decide⟩, ws_t6 19 rfl rfl, ws_t6 20 rfl rfl⟩
theorem ci_X9_layChain : CVi mX9_layChain 2 := ⟨⟨in_X9, ws_t6 39 rfl rfl, ⟨by decide, by decide, by decide +kernel⟩, by decide⟩, ws_t6 38 rfl rfl, ws_p 70 rfl rfl⟩
theorem ci_X9_gains : CVi mX9_gains 1 := ⟨⟨in_X9, ws_t6 43 rfl rfl, ⟨by decide, by decide, by decide +kernel⟩, by decide⟩, ws_t6 42 rfl rfl, ws_p 71 rfl rfl⟩
theorem ci_X9_gain : CVi mX9_gain 1 := ⟨⟨in_X9, ws_t6 33 rfl rfl, ⟨by decide, by decide, by decide +kernel⟩, by decide⟩, ws_t6 31 rfl rfl, ws_t6 32 rfl rfl⟩
theorem ci_X9_ofChain : CVi mX9_ofChain 2 := ⟨⟨in_X9, ws_t6 47 rfl rfl, ⟨by decide, by decide, by decide +kernel⟩, by decide⟩, ws_t6 46 rfl rfl, ws_p 72 rfl rfl⟩
theorem ci_X9_row : CVi mX9_row 3 := ⟨⟨in_X9, ws_t6 51 rfl rfl, ⟨by decide, by decide, by decide +kernel⟩, by decide⟩, ws_t6 49 rfl rfl, ws_t6 50 rfl rfl⟩
theorem ci_X9_keep : CVi mX9_keep 0 := ⟨⟨in_X9, ws_t6 59 rfl rfl, ⟨by decide, by decide, by decide +kernel⟩, by decide⟩, ws_t6 57 rfl rfl, ws_t6 58 rfl rfl⟩
theorem ci_X9_restore : CVi mX9_restore 0 := ⟨⟨in_X9, ws_t6 63 rfl rfl, ⟨by decide, by decide, by decide +kernel⟩, by decide⟩, ws_t6 61 rfl rfl, ws_t6 62 rfl rfl⟩
theorem ci_X9_count : CVi mX9_count 1 := ⟨⟨in_X9, ws_t6 67 rfl rfl, ⟨by decide, by decide, by decide +kernel⟩, by decide⟩, ws_t6 65 rfl rfl, ws_t6 66 rfl rfl⟩
theorem ci_J6_bitCount_0f7a4 : CSt mJ6_bitCount_0f7a4 1 := ⟨⟨in_J6, ws_t2 153 rfl rfl, ⟨by decide, by decide, by decide +kernel⟩, by decide⟩, ws_t2 152 rfl rfl⟩
theorem ci_J0_length_8abf5 : CVi mJ0_length_8abf5 0 := ⟨⟨in_J0, ws_t2 26 rfl rfl, ⟨by decide, by decide, by decide +kernel⟩, by decide⟩, ws_t2 24 rfl rfl, ws_t2 25 rfl rfl⟩
theorem ci_J0_charAt_5068e : CVi mJ0_charAt_5068e 1 := ⟨⟨in_J0, ws_t2 36 rfl rfl, ⟨by decide, by decide, by decide +kernel⟩, by decide⟩, ws_t2 34 rfl rfl, ws_t2 35 rfl rfl⟩
theorem ci_J0_coder_7d493 : CVi mJ0_coder_7d493 0 := ⟨⟨in_J0, ws_t2 30 rfl rfl, ⟨by decide, by decide, by decide +kernel⟩, by decide⟩, ws_t2 28 rfl rfl, ws_t2 29 rfl rfl⟩
theorem ci_J0_isLatin1_aae02 : CVi mJ0_isLatin1_aae02 0 := ⟨⟨in_J0, ws_t2 40 rfl rfl, ⟨by decide, by decide, by decide +kernel⟩, by decide⟩, ws_t2 38 rfl rfl, ws_t2 39 rfl rfl⟩
theorem ci_J0_checkIndex_df160 : CSt mJ0_checkIndex_df160 2 := ⟨⟨in_J0, ws_t2 46 rfl rfl, ⟨by decide, by decide, by decide +kernel⟩, by decide⟩, ws_t2 45 rfl rfl⟩
theorem ci_J1_charAt_3b067 : CSt mJ1_charAt_3b067 2 := ⟨⟨in_J1, ws_t2 43 rfl rfl, ⟨by decide, by decide, by decide +kernel⟩, by decide⟩, ws_t2 42 rfl rfl⟩
theorem ci_J3_checkIndex_8e157 : CSt mJ3_checkIndex_8e157 3 := ⟨⟨in_J3, ws_t2 51 rfl rfl, ⟨by decide, by decide, by decide +kernel⟩, by decide⟩, ws_t2 50 rfl rfl⟩
def RL : String := "RibbonOfLacksLaw"
theorem lk_X0_5 : Cond.methodLink RX0 5 Lib.objectInit ∈ WS := ws_t2 7 rfl rfl
theorem lk_X0_30 : Cond.methodLink RX0 30 yX0_extend ∈ WS := ws_t4 63 rfl rfl
theorem lk_X0_34 : Cond.methodLink RX0 34 yX0_isGain ∈ WS := ws_t4 66 rfl rfl
theorem lk_X0_38 : Cond.methodLink RX0 38 yX0_exchangeAt ∈ WS := ws_t4 70 rfl rfl
theorem lk_X0_42 : Cond.methodLink RX0 42 yX7_givenBy ∈ WS := ws_t4 74 rfl rfl
theorem lk_X0_45 : Cond.methodLink RX0 45 yX7_takenBy ∈ WS := ws_t4 78 rfl rfl
theorem lk_X0_48 : Cond.methodLink RX0 48 yX7_givenMuchBy ∈ WS := ws_t4 82 rfl rfl
theorem lk_X0_51 : Cond.methodLink RX0 51 yX7_takenMuchBy ∈ WS := ws_t4 86 rfl rfl
theorem lk_X0_54 : (RX0, 54, yX8_commonDivisor, "RibbonOfLacks") ∈ NWL := List.mem_of_getElem? (i := 0) rfl
theorem lk_X1_1 : Cond.methodLink RX1 1 Lib.objectInit ∈ WS := ws_t1 30 rfl rfl
theorem lk_X2_1 : Cond.methodLink RX2 1 Lib.objectInit ∈ WS := ws_t1 181 rfl rfl
theorem lk_X2_13 : Cond.methodLink RX2 13 Lib.Math.max.name ∈ WS := ws_t1 182 rfl rfl
theorem lk_X2_25 : (RX2, 25, yX5_init, "RibbonOfLacks") ∈ NWL := List.mem_of_getElem? (i := 1) rfl
theorem lk_X2_26 : Cond.methodLink RX2 26 yX2_forgetOldest ∈ WS := ws_t3 126 rfl rfl
theorem lk_X2_29 : Cond.methodLink RX2 29 yX5_copyFrom ∈ WS := ws_t3 130 rfl rfl
theorem lk_X3_5 : Cond.methodLink RX3 5 Lib.objectInit ∈ WS := ws_t1 200 rfl rfl
theorem lk_X3_52 : Cond.methodLink RX3 52 yX6_thereBesides ∈ WS := ws_t3 188 rfl rfl
theorem lk_X3_59 : Cond.methodLink RX3 59 yX6_strengthOf ∈ WS := ws_t3 189 rfl rfl
theorem lk_X3_62 : Cond.methodLink RX3 62 yX6_costOf ∈ WS := ws_t3 190 rfl rfl
theorem lk_X3_66 : Cond.methodLink RX3 66 yX3_isBetter ∈ WS := ws_t3 191 rfl rfl
theorem lk_X3_70 : Cond.methodLink RX3 70 yJ6_bitCount_0f7a4 ∈ WS := ws_t3 194 rfl rfl
theorem lk_X3_75 : Cond.methodLink RX3 75 yX3_listLoose ∈ WS := ws_t3 203 rfl rfl
theorem lk_X3_79 : Cond.methodLink RX3 79 yX5_gone ∈ WS := ws_t3 209 rfl rfl
theorem lk_X3_85 : Cond.methodLink RX3 85 yX3_whoIsHeldBy ∈ WS := ws_t3 210 rfl rfl
theorem lk_X3_88 : Cond.methodLink RX3 88 yX3_shareOut ∈ WS := ws_t3 230 rfl rfl
theorem lk_X3_95 : Cond.methodLink RX3 95 yX5_isBound ∈ WS := ws_t3 207 rfl rfl
theorem lk_X3_99 : Cond.methodLink RX3 99 yX7_pullOfBeast ∈ WS := ws_t3 208 rfl rfl
theorem lk_X3_102 : Cond.methodLink RX3 102 yX3_canHoldFrom ∈ WS := ws_t3 214 rfl rfl
theorem lk_X3_106 : Cond.methodLink RX3 106 yX3_smallerHoldsFrom ∈ WS := ws_t3 218 rfl rfl
theorem lk_X3_109 : Cond.methodLink RX3 109 yX3_lowestRibbon ∈ WS := ws_t3 226 rfl rfl
theorem lk_X3_112 : Cond.methodLink RX3 112 yX3_isHeldFrom ∈ WS := ws_t3 222 rfl rfl
theorem lk_X3_115 : Cond.methodLink RX3 115 yX3_mostOutOf ∈ WS := ws_t4 6 rfl rfl
theorem lk_X3_118 : Cond.methodLink RX3 118 yX3_mostKnown ∈ WS := ws_t4 10 rfl rfl
theorem lk_X3_121 : Cond.methodLink RX3 121 Lib.Math.min.name ∈ WS := ws_t4 14 rfl rfl
theorem lk_X3_126 : Cond.methodLink RX3 126 Lib.Math.max.name ∈ WS := ws_t4 15 rfl rfl
theorem lk_X4_3 : Cond.methodLink RX4 3 Lib.objectInit ∈ WS := ws_t1 44 rfl rfl
theorem lk_X4_23 : Cond.methodLink RX4 23 yX7_clear ∈ WS := ws_t2 83 rfl rfl
theorem lk_X4_30 : Cond.methodLink RX4 30 yX1_size ∈ WS := ws_t2 87 rfl rfl
theorem lk_X4_34 : Cond.methodLink RX4 34 yX4_readItem ∈ WS := ws_t2 91 rfl rfl
theorem lk_X4_38 : Cond.methodLink RX4 38 yX1_signAt ∈ WS := ws_t2 95 rfl rfl
theorem lk_X4_42 : Cond.methodLink RX4 42 yX4_numbersBehind ∈ WS := ws_t2 99 rfl rfl
theorem lk_X4_45 : Cond.methodLink RX4 45 yX4_readNumber ∈ WS := ws_t2 102 rfl rfl
theorem lk_X4_48 : Cond.methodLink RX4 48 yX7_take ∈ WS := ws_t2 110 rfl rfl
theorem lk_X4_52 : Cond.methodLink RX4 52 yX4_figureAt ∈ WS := ws_t2 106 rfl rfl
theorem lk_X5_5 : Cond.methodLink RX5 5 Lib.objectInit ∈ WS := ws_t1 161 rfl rfl
theorem lk_X5_27 : Cond.methodLink RX5 27 yX5_ribbonOf ∈ WS := ws_t3 80 rfl rfl
theorem lk_X5_31 : Cond.methodLink RX5 31 yX5_tie ∈ WS := ws_t3 147 rfl rfl
theorem lk_X5_38 : Cond.methodLink RX5 38 yX6_strengthOf ∈ WS := ws_t3 156 rfl rfl
theorem lk_X5_43 : Cond.methodLink RX5 43 yX7_pullOfBeast ∈ WS := ws_t3 157 rfl rfl
theorem lk_X5_46 : Cond.methodLink RX5 46 yX5_untie ∈ WS := ws_t3 158 rfl rfl
theorem lk_X6_3 : Cond.methodLink RX6 3 Lib.objectInit ∈ WS := ws_t1 137 rfl rfl
theorem lk_X6_31 : Cond.methodLink RX6 31 Lib.Math.min.name ∈ WS := ws_t2 145 rfl rfl
theorem lk_X6_37 : Cond.methodLink RX6 37 yX6_sumOfStrength ∈ WS := ws_t2 148 rfl rfl
theorem lk_X6_41 : Cond.methodLink RX6 41 yJ6_bitCount_0f7a4 ∈ WS := ws_t2 151 rfl rfl
theorem lk_X6_47 : Cond.methodLink RX6 47 yX6_spread ∈ WS := ws_t2 164 rfl rfl
theorem lk_X6_50 : Cond.methodLink RX6 50 yX6_followersOf ∈ WS := ws_t2 175 rfl rfl
theorem lk_X6_53 : Cond.methodLink RX6 53 yX6_thoseWhoMiss ∈ WS := ws_t2 179 rfl rfl
theorem lk_X6_56 : Cond.methodLink RX6 56 yX6_sumOfWeights ∈ WS := ws_t2 186 rfl rfl
theorem lk_X6_62 : Cond.methodLink RX6 62 yX7_strengthOfThing ∈ WS := ws_t2 157 rfl rfl
theorem lk_X6_68 : Cond.methodLink RX6 68 yX7_neededOf ∈ WS := ws_t2 167 rfl rfl
theorem lk_X6_71 : Cond.methodLink RX6 71 yX7_neederOf ∈ WS := ws_t2 171 rfl rfl
theorem lk_X6_77 : Cond.methodLink RX6 77 yX7_thingOfPerson ∈ WS := ws_t2 182 rfl rfl
theorem lk_X6_80 : Cond.methodLink RX6 80 yX7_weightOfPerson ∈ WS := ws_t2 189 rfl rfl
theorem lk_X6_83 : Cond.methodLink RX6 83 yX6_lossOf ∈ WS := ws_t3 179 rfl rfl
theorem lk_X7_3 : Cond.methodLink RX7 3 Lib.objectInit ∈ WS := ws_t1 60 rfl rfl
theorem lk_X7_70 : Cond.methodLink RX7 70 yX7_takeThing ∈ WS := ws_t2 114 rfl rfl
theorem lk_X7_74 : Cond.methodLink RX7 74 yX7_takeNeed ∈ WS := ws_t2 118 rfl rfl
theorem lk_X7_77 : Cond.methodLink RX7 77 yX7_takePerson ∈ WS := ws_t2 126 rfl rfl
theorem lk_X7_80 : Cond.methodLink RX7 80 yX7_takeBeast ∈ WS := ws_t2 133 rfl rfl
theorem lk_X7_84 : Cond.methodLink RX7 84 yX7_takeExchange ∈ WS := ws_t2 137 rfl rfl
theorem lk_X7_88 : Cond.methodLink RX7 88 yX7_areTwoThings ∈ WS := ws_t2 122 rfl rfl
theorem lk_X7_91 : Cond.methodLink RX7 91 yX7_isOneFigure ∈ WS := ws_t2 130 rfl rfl
theorem lk_X7_94 : Cond.methodLink RX7 94 yX7_entry ∈ WS := ws_t2 161 rfl rfl
theorem lk_X8_1 : Cond.methodLink RX8 1 Lib.objectInit ∈ WS := ws_t1 22 rfl rfl
theorem lk_X8_9 : (RX8, 9, yX1_init, "RibbonOfLacks") ∈ NWL := List.mem_of_getElem? (i := 2) rfl
theorem lk_X8_18 : Cond.methodLink RX8 18 yX4_init ∈ WS := ws_t1 41 rfl rfl
theorem lk_X8_27 : (RX8, 27, yX7_init, "RibbonOfLacks") ∈ NWL := List.mem_of_getElem? (i := 3) rfl
theorem lk_X8_37 : (RX8, 37, yX6_init, "RibbonOfLacks") ∈ NWL := List.mem_of_getElem? (i := 4) rfl
theorem lk_X8_44 : (RX8, 44, yX5_init, "RibbonOfLacks") ∈ NWL := List.mem_of_getElem? (i := 5) rfl
theorem lk_X8_54 : Cond.methodLink RX8 54 yX2_init ∈ WS := ws_t1 178 rfl rfl
theorem lk_X8_66 : Cond.methodLink RX8 66 yX3_init ∈ WS := ws_t1 197 rfl rfl
theorem lk_X8_75 : (RX8, 75, yX0_init, "RibbonOfLacks") ∈ NWL := List.mem_of_getElem? (i := 6) rfl
theorem lk_X8_82 : Cond.methodLink RX8 82 yJ0_length_8abf5 ∈ WS := ws_t2 23 rfl rfl
theorem lk_X8_88 : Cond.methodLink RX8 88 yJ0_charAt_5068e ∈ WS := ws_t2 33 rfl rfl
theorem lk_X8_92 : Cond.methodLink RX8 92 yX1_append ∈ WS := ws_t2 71 rfl rfl
theorem lk_X8_96 : Cond.methodLink RX8 96 yX8_layTheText ∈ WS := ws_t2 75 rfl rfl
theorem lk_X8_100 : Cond.methodLink RX8 100 yX1_clear ∈ WS := ws_t2 201 rfl rfl
theorem lk_X8_103 : Cond.methodLink RX8 103 yX1_size ∈ WS := ws_t3 4 rfl rfl
theorem lk_X8_106 : Cond.methodLink RX8 106 yX4_readInto ∈ WS := ws_t2 79 rfl rfl
theorem lk_X8_117 : Cond.methodLink RX8 117 yX6_fillFrom ∈ WS := ws_t2 141 rfl rfl
theorem lk_X8_121 : Cond.methodLink RX8 121 yX5_clear ∈ WS := ws_t2 193 rfl rfl
theorem lk_X8_122 : Cond.methodLink RX8 122 yX2_clear ∈ WS := ws_t2 197 rfl rfl
theorem lk_X8_123 : Cond.methodLink RX8 123 yX8_isThing ∈ WS := ws_t3 21 rfl rfl
theorem lk_X8_126 : Cond.methodLink RX8 126 yX7_strengthOfThing ∈ WS := ws_t3 25 rfl rfl
theorem lk_X8_130 : Cond.methodLink RX8 130 yX7_kindOfThing ∈ WS := ws_t3 26 rfl rfl
theorem lk_X8_133 : Cond.methodLink RX8 133 yX8_isThere ∈ WS := ws_t3 30 rfl rfl
theorem lk_X8_136 : Cond.methodLink RX8 136 yX5_beastWith ∈ WS := ws_t3 42 rfl rfl
theorem lk_X8_142 : Cond.methodLink RX8 142 yX7_thingOfPerson ∈ WS := ws_t3 50 rfl rfl
theorem lk_X8_145 : Cond.methodLink RX8 145 yX7_weightOfPerson ∈ WS := ws_t3 51 rfl rfl
theorem lk_X8_151 : Cond.methodLink RX8 151 yX5_found ∈ WS := ws_t3 52 rfl rfl
theorem lk_X8_154 : Cond.methodLink RX8 154 yX6_missersOf ∈ WS := ws_t3 56 rfl rfl
theorem lk_X8_157 : Cond.methodLink RX8 157 yX8_isBeast ∈ WS := ws_t3 64 rfl rfl
theorem lk_X8_160 : Cond.methodLink RX8 160 yX7_pullOfBeast ∈ WS := ws_t3 68 rfl rfl
theorem lk_X8_163 : Cond.methodLink RX8 163 yX5_ribbonOf ∈ WS := ws_t3 72 rfl rfl
theorem lk_X8_166 : Cond.methodLink RX8 166 yX5_isBound ∈ WS := ws_t3 76 rfl rfl
theorem lk_X8_169 : Cond.methodLink RX8 169 yX5_ageOf ∈ WS := ws_t3 81 rfl rfl
theorem lk_X8_172 : Cond.methodLink RX8 172 yX5_escapesOf ∈ WS := ws_t3 85 rfl rfl
theorem lk_X8_175 : Cond.methodLink RX8 175 yX6_isSet ∈ WS := ws_t3 93 rfl rfl
theorem lk_X8_178 : Cond.methodLink RX8 178 yX6_strengthOf ∈ WS := ws_t3 97 rfl rfl
theorem lk_X8_181 : Cond.methodLink RX8 181 yX6_followersOf ∈ WS := ws_t3 105 rfl rfl
theorem lk_X8_184 : Cond.methodLink RX8 184 yX8_missedIn ∈ WS := ws_t3 110 rfl rfl
theorem lk_X8_188 : Cond.methodLink RX8 188 yX5_gone ∈ WS := ws_t3 34 rfl rfl
theorem lk_X8_191 : Cond.methodLink RX8 191 yX6_thereBesides ∈ WS := ws_t3 38 rfl rfl
theorem lk_X8_194 : Cond.methodLink RX8 194 yX2_push ∈ WS := ws_t3 122 rfl rfl
theorem lk_X8_198 : Cond.methodLink RX8 198 yX5_tie ∈ WS := ws_t3 134 rfl rfl
theorem lk_X8_202 : Cond.methodLink RX8 202 yJ6_bitCount_0f7a4 ∈ WS := ws_t3 142 rfl rfl
theorem lk_X8_207 : Cond.methodLink RX8 207 yX5_untie ∈ WS := ws_t3 143 rfl rfl
theorem lk_X8_213 : Cond.methodLink RX8 213 yX5_passDay ∈ WS := ws_t3 152 rfl rfl
theorem lk_X8_217 : Cond.methodLink RX8 217 yX2_popInto ∈ WS := ws_t3 163 rfl rfl
theorem lk_X8_221 : Cond.methodLink RX8 221 yX2_size ∈ WS := ws_t3 167 rfl rfl
theorem lk_X8_222 : Cond.methodLink RX8 222 yX6_costOf ∈ WS := ws_t3 175 rfl rfl
theorem lk_X8_226 : Cond.methodLink RX8 226 yX3_findLeast ∈ WS := ws_t3 184 rfl rfl
theorem lk_X8_236 : Cond.methodLink RX8 236 yX3_findAll ∈ WS := ws_t3 199 rfl rfl
theorem lk_X8_246 : Cond.methodLink RX8 246 yX3_ribbonInAll ∈ WS := ws_t3 234 rfl rfl
theorem lk_X8_249 : Cond.methodLink RX8 249 yX3_mostBound ∈ WS := ws_t4 2 rfl rfl
theorem kc_X8_254 : Cond.constantLong RX8 254 (Int64.ofInt (-1)) ∈ WS := ws_t4 32 rfl rfl
theorem lk_X8_256 : Cond.methodLink RX8 256 yX8_power ∈ WS := ws_t4 33 rfl rfl
theorem kc_X8_260 : Cond.constantLong RX8 260 (Int64.ofInt (-4)) ∈ WS := ws_t4 36 rfl rfl
theorem lk_X8_262 : Cond.methodLink RX8 262 yX8_commonDivisor ∈ WS := ws_t4 37 rfl rfl
theorem lk_X8_266 : Cond.methodLink RX8 266 yX8_pledgeRests ∈ WS := ws_t4 47 rfl rfl
theorem lk_X8_269 : Cond.methodLink RX8 269 yX8_pledgeLoss ∈ WS := ws_t4 51 rfl rfl
theorem lk_X8_272 : Cond.methodLink RX8 272 yX0_find ∈ WS := ws_t4 59 rfl rfl
theorem lk_X8_276 : Cond.methodLink RX8 276 yX0_below ∈ WS := ws_t4 90 rfl rfl
theorem lk_X8_279 : Cond.methodLink RX8 279 yX0_above ∈ WS := ws_t4 95 rfl rfl
theorem lk_X8_284 : Cond.methodLink RX8 284 yX0_exchangeAt ∈ WS := ws_t4 99 rfl rfl
theorem lk_X8_287 : Cond.methodLink RX8 287 yX5_copyFrom ∈ WS := ws_t4 104 rfl rfl
theorem lk_X8_290 : Cond.methodLink RX8 290 yX8_draw ∈ WS := ws_t4 105 rfl rfl
theorem lk_X8_293 : Cond.methodLink RX8 293 yX8_actByDraw ∈ WS := ws_t4 111 rfl rfl
theorem lk_X8_303 : Cond.methodLink RX8 303 yX6_lossOf ∈ WS := ws_t3 114 rfl rfl
theorem kc_X8_306 : Cond.constantLong RX8 306 (Int64.ofInt (7919)) ∈ WS := ws_t4 108 rfl rfl
theorem kc_X8_308 : Cond.constantLong RX8 308 (Int64.ofInt (6151)) ∈ WS := ws_t4 109 rfl rfl
theorem kc_X8_310 : Cond.constantLong RX8 310 (Int64.ofInt (65521)) ∈ WS := ws_t4 110 rfl rfl
theorem lk_X8_312 : Cond.methodLink RX8 312 Lib.MathLoose.max_long.x ∈ WS := ws_t4 40 rfl rfl
theorem lk_X9_1 : Cond.methodLink RX9 1 Lib.objectInit ∈ WS := ws_t4 132 rfl rfl
theorem lk_X9_53 : Cond.methodLink RX9 53 yX9_addThing ∈ WS := ws_t4 133 rfl rfl
theorem lk_X9_57 : Cond.methodLink RX9 57 yX9_addNeed ∈ WS := ws_t4 137 rfl rfl
theorem lk_X9_60 : Cond.methodLink RX9 60 yX9_addPerson ∈ WS := ws_t4 141 rfl rfl
theorem lk_X9_63 : Cond.methodLink RX9 63 yX9_addBeast ∈ WS := ws_t4 145 rfl rfl
theorem lk_X9_67 : Cond.methodLink RX9 67 yX9_addChange ∈ WS := ws_t4 149 rfl rfl
theorem lk_X9_71 : Cond.methodLink RX9 71 yX9_begin ∈ WS := ws_t4 153 rfl rfl
theorem kc_X9_96 : Cond.constantLong RX9 96 (Int64.ofInt (32)) ∈ WS := ws_t5 7 rfl rfl
theorem kc_X9_98 : Cond.constantLong RX9 98 (Int64.ofInt (126)) ∈ WS := ws_t5 8 rfl rfl
theorem lk_X9_100 : Cond.methodLink RX9 100 yX9_in ∈ WS := ws_t5 9 rfl rfl
theorem kc_X9_107 : Cond.constantLong RX9 107 (Int64.ofInt (48)) ∈ WS := ws_t5 43 rfl rfl
theorem kc_X9_109 : Cond.constantLong RX9 109 (Int64.ofInt (57)) ∈ WS := ws_t5 44 rfl rfl
theorem lk_X9_114 : Cond.methodLink RX9 114 yX9_isFigure ∈ WS := ws_t5 40 rfl rfl
theorem lk_X9_118 : Cond.methodLink RX9 118 yX9_isThere ∈ WS := ws_t5 49 rfl rfl
theorem lk_X9_121 : Cond.methodLink RX9 121 yX9_reads ∈ WS := ws_t5 36 rfl rfl
theorem lk_X9_125 : Cond.methodLink RX9 125 yX9_readsComma ∈ WS := ws_t5 45 rfl rfl
theorem lk_X9_132 : Cond.methodLink RX9 132 yX9_readsTwo ∈ WS := ws_t5 32 rfl rfl
theorem lk_X9_147 : Cond.methodLink RX9 147 yX9_readsChange ∈ WS := ws_t5 53 rfl rfl
theorem lk_X9_150 : Cond.methodLink RX9 150 yX9_readsNumbers ∈ WS := ws_t5 28 rfl rfl
theorem lk_X9_153 : Cond.methodLink RX9 153 yX9_beginToRead ∈ WS := ws_t5 20 rfl rfl
theorem lk_X9_156 : Cond.methodLink RX9 156 yX9_readsItem ∈ WS := ws_t5 24 rfl rfl
theorem lk_X9_160 : Cond.methodLink RX9 160 yX9_fault ∈ WS := ws_t5 61 rfl rfl
theorem lk_X9_163 : Cond.methodLink RX9 163 yX9_tell ∈ WS := ws_t5 62 rfl rfl
theorem lk_X9_166 : Cond.methodLink RX9 166 yX9_has ∈ WS := ws_t5 74 rfl rfl
theorem lk_X9_170 : Cond.methodLink RX9 170 yX9_goneIn ∈ WS := ws_t5 81 rfl rfl
theorem lk_X9_174 : Cond.methodLink RX9 174 yX9_followsOf ∈ WS := ws_t5 85 rfl rfl
theorem lk_X9_177 : Cond.methodLink RX9 177 yX9_lateSet ∈ WS := ws_t5 97 rfl rfl
theorem lk_X9_180 : Cond.methodLink RX9 180 yX9_foundIn ∈ WS := ws_t5 93 rfl rfl
theorem lk_X9_183 : Cond.methodLink RX9 183 yX9_missedBy ∈ WS := ws_t5 133 rfl rfl
theorem lk_X9_186 : Cond.methodLink RX9 186 yX9_isThing ∈ WS := ws_t5 70 rfl rfl
theorem lk_X9_189 : Cond.methodLink RX9 189 yX9_thereIn ∈ WS := ws_t5 77 rfl rfl
theorem lk_X9_192 : Cond.methodLink RX9 192 yX9_isBeast ∈ WS := ws_t5 105 rfl rfl
theorem lk_X9_195 : Cond.methodLink RX9 195 yX9_isSet ∈ WS := ws_t5 113 rfl rfl
theorem lk_X9_198 : Cond.methodLink RX9 198 yX9_strengthOf ∈ WS := ws_t5 117 rfl rfl
theorem lk_X9_201 : Cond.methodLink RX9 201 yX9_missedIn ∈ WS := ws_t5 129 rfl rfl
theorem lk_X9_204 : Cond.methodLink RX9 204 yX9_copy ∈ WS := ws_t5 145 rfl rfl
theorem lk_X9_207 : Cond.methodLink RX9 207 yX9_keepPast ∈ WS := ws_t5 141 rfl rfl
theorem lk_X9_210 : Cond.methodLink RX9 210 yX9_bindIn ∈ WS := ws_t5 149 rfl rfl
theorem lk_X9_214 : Cond.methodLink RX9 214 yX9_bits ∈ WS := ws_t5 157 rfl rfl
theorem lk_X9_217 : Cond.methodLink RX9 217 yX9_lentIn ∈ WS := ws_t5 169 rfl rfl
theorem kc_X9_220 : Cond.constantLong RX9 220 (Int64.ofInt (40)) ∈ WS := ws_t5 164 rfl rfl
theorem lk_X9_222 : Cond.methodLink RX9 222 yX9_dayIn ∈ WS := ws_t5 165 rfl rfl
theorem lk_X9_225 : Cond.methodLink RX9 225 yX9_costIn ∈ WS := ws_t5 181 rfl rfl
theorem lk_X9_229 : Cond.methodLink RX9 229 yX9_leastIn ∈ WS := ws_t5 189 rfl rfl
theorem lk_X9_232 : Cond.methodLink RX9 232 yX9_lowest ∈ WS := ws_t5 214 rfl rfl
theorem lk_X9_235 : Cond.methodLink RX9 235 yX9_canHold ∈ WS := ws_t5 210 rfl rfl
theorem lk_X9_238 : Cond.methodLink RX9 238 yX9_unbound ∈ WS := ws_t5 202 rfl rfl
theorem lk_X9_241 : Cond.methodLink RX9 241 yX9_layHolds ∈ WS := ws_t5 206 rfl rfl
theorem kc_X9_244 : Cond.constantLong RX9 244 (Int64.ofInt (-2)) ∈ WS := ws_t5 197 rfl rfl
theorem lk_X9_246 : Cond.methodLink RX9 246 yX9_usedByAll ∈ WS := ws_t5 198 rfl rfl
theorem lk_X9_249 : Cond.methodLink RX9 249 yX9_ribbonOf ∈ WS := ws_t5 218 rfl rfl
theorem kc_X9_252 : Cond.constantLong RX9 252 (Int64.ofInt (90)) ∈ WS := ws_t5 226 rfl rfl
theorem kc_X9_254 : Cond.constantLong RX9 254 (Int64.ofInt (2)) ∈ WS := ws_t5 239 rfl rfl
theorem lk_X9_256 : Cond.methodLink RX9 256 yX9_whoMiss ∈ WS := ws_t6 0 rfl rfl
theorem kc_X9_259 : Cond.constantLong RX9 259 (Int64.ofInt (10)) ∈ WS := ws_t6 8 rfl rfl
theorem kc_X9_261 : Cond.constantLong RX9 261 (Int64.ofInt (6)) ∈ WS := ws_t6 9 rfl rfl
theorem kc_X9_263 : Cond.constantLong RX9 263 (Int64.ofInt (-1)) ∈ WS := ws_t6 10 rfl rfl
theorem lk_X9_265 : Cond.methodLink RX9 265 yX9_power ∈ WS := ws_t6 11 rfl rfl
theorem kc_X9_269 : Cond.constantLong RX9 269 (Int64.ofInt (-4)) ∈ WS := ws_t6 14 rfl rfl
theorem lk_X9_271 : Cond.methodLink RX9 271 yX9_divisor ∈ WS := ws_t6 15 rfl rfl
theorem lk_X9_275 : Cond.methodLink RX9 275 yX9_losesBy ∈ WS := ws_t6 26 rfl rfl
theorem lk_X9_278 : Cond.methodLink RX9 278 yX9_rests ∈ WS := ws_t6 22 rfl rfl
theorem kc_X9_281 : Cond.constantLong RX9 281 (Int64.ofInt (-3)) ∈ WS := ws_t6 34 rfl rfl
theorem kc_X9_283 : Cond.constantLong RX9 283 (Int64.ofInt (5)) ∈ WS := ws_t6 35 rfl rfl
theorem lk_X9_285 : Cond.methodLink RX9 285 yX9_layChain ∈ WS := ws_t6 36 rfl rfl
theorem lk_X9_288 : Cond.methodLink RX9 288 yX9_gains ∈ WS := ws_t6 40 rfl rfl
theorem lk_X9_291 : Cond.methodLink RX9 291 yX9_ofChain ∈ WS := ws_t6 44 rfl rfl
theorem kc_X9_294 : Cond.constantLong RX9 294 (Int64.ofInt (9999)) ∈ WS := ws_t6 52 rfl rfl
theorem kc_X9_296 : Cond.constantLong RX9 296 (Int64.ofInt (7919)) ∈ WS := ws_t6 53 rfl rfl
theorem kc_X9_298 : Cond.constantLong RX9 298 (Int64.ofInt (6151)) ∈ WS := ws_t6 54 rfl rfl
theorem kc_X9_300 : Cond.constantLong RX9 300 (Int64.ofInt (65521)) ∈ WS := ws_t6 55 rfl rfl
theorem kc_J6_265 : Cond.constant RJ6 265 (Int32.ofInt (1431655765)) ∈ WS := ws_t2 154 rfl rfl
theorem kc_J6_266 : Cond.constant RJ6 266 (Int32.ofInt (858993459)) ∈ WS := ws_t2 155 rfl rfl
theorem kc_J6_267 : Cond.constant RJ6 267 (Int32.ofInt (252645135)) ∈ WS := ws_t2 156 rfl rfl
theorem lk_J0_335 : Cond.methodLink RJ0 335 yJ0_coder_7d493 ∈ WS := ws_t2 27 rfl rfl
theorem lk_J0_492 : Cond.methodLink RJ0 492 yJ0_isLatin1_aae02 ∈ WS := ws_t2 37 rfl rfl
theorem lk_J0_495 : Cond.methodLink RJ0 495 yJ1_charAt_3b067 ∈ WS := ws_t2 41 rfl rfl
theorem lk_J0_1059 : Cond.methodLink RJ0 1059 yJ3_checkIndex_8e157 ∈ WS := ws_t2 49 rfl rfl
theorem lk_J1_9 : Cond.methodLink RJ1 9 yJ0_checkIndex_df160 ∈ WS := ws_t2 44 rfl rfl
theorem lk_L_9 : Cond.methodLink RL 9 yX8_init ∈ WS := ws_t1 19 rfl rfl
theorem lk_L_12 : Cond.methodLink RL 12 yX9_init ∈ WS := ws_t4 129 rfl rfl
theorem lk_L_13 : Cond.methodLink RL 13 yX8_write ∈ WS := ws_t3 0 rfl rfl
theorem lk_L_17 : Cond.methodLink RL 17 yX9_write ∈ WS := ws_t5 3 rfl rfl
theorem lk_L_18 : Cond.methodLink RL 18 yX8_wipe ∈ WS := ws_t3 5 rfl rfl
theorem lk_L_22 : Cond.methodLink RL 22 yX9_wipe ∈ WS := ws_t5 12 rfl rfl
theorem lk_L_23 : Cond.methodLink RL 23 yX8_fault ∈ WS := ws_t3 9 rfl rfl
theorem lk_L_26 : Cond.methodLink RL 26 yX9_fault ∈ WS := ws_t5 16 rfl rfl
theorem lk_L_27 : Cond.methodLink RL 27 yX8_lay ∈ WS := ws_t3 13 rfl rfl
theorem lk_L_30 : Cond.methodLink RL 30 yX9_lay ∈ WS := ws_t5 57 rfl rfl
theorem lk_L_31 : Cond.methodLink RL 31 yX8_thing ∈ WS := ws_t3 17 rfl rfl
theorem lk_L_35 : Cond.methodLink RL 35 yX9_thing ∈ WS := ws_t5 66 rfl rfl
theorem lk_L_36 : Cond.methodLink RL 36 yX8_person ∈ WS := ws_t3 46 rfl rfl
theorem lk_L_39 : Cond.methodLink RL 39 yX9_person ∈ WS := ws_t5 89 rfl rfl
theorem lk_L_40 : Cond.methodLink RL 40 yX8_beast ∈ WS := ws_t3 60 rfl rfl
theorem lk_L_43 : Cond.methodLink RL 43 yX9_beast ∈ WS := ws_t5 101 rfl rfl
theorem lk_L_44 : Cond.methodLink RL 44 yX8_strength ∈ WS := ws_t3 89 rfl rfl
theorem lk_L_47 : Cond.methodLink RL 47 yX9_strength ∈ WS := ws_t5 109 rfl rfl
theorem lk_L_48 : Cond.methodLink RL 48 yX8_follows ∈ WS := ws_t3 101 rfl rfl
theorem lk_L_51 : Cond.methodLink RL 51 yX9_follows ∈ WS := ws_t5 121 rfl rfl
theorem lk_L_52 : Cond.methodLink RL 52 yX8_missed ∈ WS := ws_t3 106 rfl rfl
theorem lk_L_55 : Cond.methodLink RL 55 yX9_missed ∈ WS := ws_t5 125 rfl rfl
theorem lk_L_56 : Cond.methodLink RL 56 yX8_bind ∈ WS := ws_t3 118 rfl rfl
theorem lk_L_59 : Cond.methodLink RL 59 yX9_bind ∈ WS := ws_t5 137 rfl rfl
theorem lk_L_60 : Cond.methodLink RL 60 yX8_loosen ∈ WS := ws_t3 138 rfl rfl
theorem lk_L_63 : Cond.methodLink RL 63 yX9_loosen ∈ WS := ws_t5 153 rfl rfl
theorem lk_L_64 : Cond.methodLink RL 64 yX8_days ∈ WS := ws_t3 148 rfl rfl
theorem lk_L_67 : Cond.methodLink RL 67 yX9_days ∈ WS := ws_t5 160 rfl rfl
theorem lk_L_68 : Cond.methodLink RL 68 yX8_undo ∈ WS := ws_t3 159 rfl rfl
theorem lk_L_71 : Cond.methodLink RL 71 yX9_undo ∈ WS := ws_t5 173 rfl rfl
theorem lk_L_72 : Cond.methodLink RL 72 yX8_cost ∈ WS := ws_t3 171 rfl rfl
theorem lk_L_75 : Cond.methodLink RL 75 yX9_cost ∈ WS := ws_t5 177 rfl rfl
theorem lk_L_76 : Cond.methodLink RL 76 yX8_least ∈ WS := ws_t3 180 rfl rfl
theorem lk_L_79 : Cond.methodLink RL 79 yX9_least ∈ WS := ws_t5 185 rfl rfl
theorem lk_L_80 : Cond.methodLink RL 80 yX8_all ∈ WS := ws_t3 195 rfl rfl
theorem lk_L_83 : Cond.methodLink RL 83 yX9_all ∈ WS := ws_t5 193 rfl rfl
theorem lk_L_84 : Cond.methodLink RL 84 yX8_more ∈ WS := ws_t3 238 rfl rfl
theorem lk_L_87 : Cond.methodLink RL 87 yX9_more ∈ WS := ws_t5 222 rfl rfl
theorem lk_L_88 : Cond.methodLink RL 88 yX8_worst ∈ WS := ws_t4 16 rfl rfl
theorem lk_L_91 : Cond.methodLink RL 91 yX9_worst ∈ WS := ws_t5 227 rfl rfl
theorem lk_L_92 : Cond.methodLink RL 92 yX8_back ∈ WS := ws_t4 20 rfl rfl
theorem lk_L_95 : Cond.methodLink RL 95 yX9_back ∈ WS := ws_t5 231 rfl rfl
theorem lk_L_96 : Cond.methodLink RL 96 yX8_missing ∈ WS := ws_t4 24 rfl rfl
theorem lk_L_100 : Cond.methodLink RL 100 yX9_missing ∈ WS := ws_t5 235 rfl rfl
theorem lk_L_101 : Cond.methodLink RL 101 yX8_trial ∈ WS := ws_t4 28 rfl rfl
theorem lk_L_105 : Cond.methodLink RL 105 yX9_trial ∈ WS := ws_t6 4 rfl rfl
theorem lk_L_106 : Cond.methodLink RL 106 yX8_pledge ∈ WS := ws_t4 43 rfl rfl
theorem lk_L_109 : Cond.methodLink RL 109 yX9_pledge ∈ WS := ws_t6 18 rfl rfl
theorem lk_L_110 : Cond.methodLink RL 110 yX8_gain ∈ WS := ws_t4 55 rfl rfl
theorem lk_L_113 : Cond.methodLink RL 113 yX9_gain ∈ WS := ws_t6 30 rfl rfl
theorem lk_L_114 : Cond.methodLink RL 114 yX8_row ∈ WS := ws_t4 100 rfl rfl
theorem lk_L_117 : Cond.methodLink RL 117 yX9_row ∈ WS := ws_t6 48 rfl rfl
theorem lk_L_118 : Cond.methodLink RL 118 yX8_keep ∈ WS := ws_t4 115 rfl rfl
theorem lk_L_121 : Cond.methodLink RL 121 yX9_keep ∈ WS := ws_t6 56 rfl rfl
theorem lk_L_122 : Cond.methodLink RL 122 yX8_restore ∈ WS := ws_t4 119 rfl rfl
theorem lk_L_125 : Cond.methodLink RL 125 yX9_restore ∈ WS := ws_t6 60 rfl rfl
theorem lk_L_126 : Cond.methodLink RL 126 yX8_count ∈ WS := ws_t4 123 rfl rfl
theorem lk_L_129 : Cond.methodLink RL 129 yX9_count ∈ WS := ws_t6 64 rfl rfl
theorem uw_X0 : ∀ w ∈ u_ws RX0 TX0 4, w ∈ WS := by
  have h : ∀ j, j < 4 → lw_tbl[[326, 328, 330, 332].getD j 0]? = some (u_lay RX0 TX0 j) ∧ goodWord (u_lay RX0 TX0 j) = true := by decide +kernel
  intro w hw
  obtain ⟨j, hj, rfl⟩ := List.mem_map.mp hw
  have hj := List.mem_range.mp hj
  exact List.mem_filter.mpr ⟨List.mem_of_getElem? (h j hj).1, (h j hj).2⟩
theorem uw_X1 : ∀ w ∈ u_ws RX1 TX1 2, w ∈ WS := by
  have h : ∀ j, j < 2 → lw_tbl[[106, 108].getD j 0]? = some (u_lay RX1 TX1 j) ∧ goodWord (u_lay RX1 TX1 j) = true := by decide +kernel
  intro w hw
  obtain ⟨j, hj, rfl⟩ := List.mem_map.mp hw
  have hj := List.mem_range.mp hj
  exact List.mem_filter.mpr ⟨List.mem_of_getElem? (h j hj).1, (h j hj).2⟩
theorem uw_X2 : ∀ w ∈ u_ws RX2 TX2 2, w ∈ WS := by
  have h : ∀ j, j < 2 → lw_tbl[[263, 265].getD j 0]? = some (u_lay RX2 TX2 j) ∧ goodWord (u_lay RX2 TX2 j) = true := by decide +kernel
  intro w hw
  obtain ⟨j, hj, rfl⟩ := List.mem_map.mp hw
  have hj := List.mem_range.mp hj
  exact List.mem_filter.mpr ⟨List.mem_of_getElem? (h j hj).1, (h j hj).2⟩
theorem uw_X3 : ∀ w ∈ u_ws RX3 TX3 12, w ∈ WS := by
  have h : ∀ j, j < 12 → lw_tbl[[290, 292, 294, 296, 298, 300, 302, 304, 306, 308, 310, 312].getD j 0]? = some (u_lay RX3 TX3 j) ∧ goodWord (u_lay RX3 TX3 j) = true := by decide +kernel
  intro w hw
  obtain ⟨j, hj, rfl⟩ := List.mem_map.mp hw
  have hj := List.mem_range.mp hj
  exact List.mem_filter.mpr ⟨List.mem_of_getElem? (h j hj).1, (h j hj).2⟩
theorem uw_X4 : ∀ w ∈ u_ws RX4 TX4 3, w ∈ WS := by
  have h : ∀ j, j < 3 → lw_tbl[[121, 123, 125].getD j 0]? = some (u_lay RX4 TX4 j) ∧ goodWord (u_lay RX4 TX4 j) = true := by decide +kernel
  intro w hw
  obtain ⟨j, hj, rfl⟩ := List.mem_map.mp hw
  have hj := List.mem_range.mp hj
  exact List.mem_filter.mpr ⟨List.mem_of_getElem? (h j hj).1, (h j hj).2⟩
theorem uw_X5 : ∀ w ∈ u_ws RX5 TX5 4, w ∈ WS := by
  have h : ∀ j, j < 4 → lw_tbl[[240, 242, 244, 246].getD j 0]? = some (u_lay RX5 TX5 j) ∧ goodWord (u_lay RX5 TX5 j) = true := by decide +kernel
  intro w hw
  obtain ⟨j, hj, rfl⟩ := List.mem_map.mp hw
  have hj := List.mem_range.mp hj
  exact List.mem_filter.mpr ⟨List.mem_of_getElem? (h j hj).1, (h j hj).2⟩
theorem uw_X6 : ∀ w ∈ u_ws RX6 TX6 5, w ∈ WS := by
  have h : ∀ j, j < 5 → lw_tbl[[218, 220, 222, 224, 226].getD j 0]? = some (u_lay RX6 TX6 j) ∧ goodWord (u_lay RX6 TX6 j) = true := by decide +kernel
  intro w hw
  obtain ⟨j, hj, rfl⟩ := List.mem_map.mp hw
  have hj := List.mem_range.mp hj
  exact List.mem_filter.mpr ⟨List.mem_of_getElem? (h j hj).1, (h j hj).2⟩
theorem uw_X7 : ∀ w ∈ u_ws RX7 TX7 19, w ∈ WS := by
  have h : ∀ j, j < 19 → lw_tbl[[166, 168, 170, 172, 174, 176, 178, 180, 182, 184, 186, 188, 190, 192, 194, 196, 198, 200, 202].getD j 0]? = some (u_lay RX7 TX7 j) ∧ goodWord (u_lay RX7 TX7 j) = true := by decide +kernel
  intro w hw
  obtain ⟨j, hj, rfl⟩ := List.mem_map.mp hw
  have hj := List.mem_range.mp hj
  exact List.mem_filter.mpr ⟨List.mem_of_getElem? (h j hj).1, (h j hj).2⟩
theorem uw_X8 : ∀ w ∈ u_ws RX8 TX8 11, w ∈ WS := by
  have h : ∀ j, j < 11 → lw_tbl[[529, 531, 533, 535, 537, 539, 541, 543, 545, 547, 549].getD j 0]? = some (u_lay RX8 TX8 j) ∧ goodWord (u_lay RX8 TX8 j) = true := by decide +kernel
  intro w hw
  obtain ⟨j, hj, rfl⟩ := List.mem_map.mp hw
  have hj := List.mem_range.mp hj
  exact List.mem_filter.mpr ⟨List.mem_of_getElem? (h j hj).1, (h j hj).2⟩
theorem uw_X9 : ∀ w ∈ u_ws RX9 TX9 28, w ∈ WS := by
  have h : ∀ j, j < 28 → lw_tbl[[978, 980, 982, 984, 986, 988, 990, 992, 994, 996, 998, 1000, 1002, 1004, 1006, 1008, 1010, 1012, 1014, 1016, 1018, 1020, 1022, 1024, 1026, 1028, 1030, 1032].getD j 0]? = some (u_lay RX9 TX9 j) ∧ goodWord (u_lay RX9 TX9 j) = true := by decide +kernel
  intro w hw
  obtain ⟨j, hj, rfl⟩ := List.mem_map.mp hw
  have hj := List.mem_range.mp hj
  exact List.mem_filter.mpr ⟨List.mem_of_getElem? (h j hj).1, (h j hj).2⟩
theorem fl_mk {own : String} {ix ci k : Nat} {C : String} {T : u_T} {N : Nat} (I : MI) (h1 : cls[ci]? = some (C, T, N)) (h2 : k < N) (h3 : nf ci = N) (h4 : Cond.fieldLink own ix C (T k).2.1 (T k).2.2.1 ∈ WS) (h5 : (T k).1 = C) (h6 : ∀ w ∈ u_ws C T N, w ∈ WS) (h7 : ∀ k, k < N → parseFieldDescriptor (T k).2.2.1 = some (tyc ci k)) (h8 : ∀ a, a < N → ∀ b, b < N → a ≠ b → (T a).2.1 ≠ (T b).2.1) (h9 : ci < 10) (hI : I.1.cls = own) : FL I ix ci k := ⟨C, T, N, h1, h2, h3, by rw [hI]; exact h4, h5, h6, h7, h8, h9⟩
theorem fl_X8_10 {I : MI} (hI : I.1.cls = RX8) : FL I 10 8 0 := fl_mk (C := RX8) (T := TX8) (N := 11) I rfl (by decide) rfl (ws_t2 205 rfl rfl) rfl uw_X8 tyX8_ok nmX8 (by decide) hI
theorem fl_X8_21 {I : MI} (hI : I.1.cls = RX8) : FL I 21 8 1 := fl_mk (C := RX8) (T := TX8) (N := 11) I rfl (by decide) rfl (ws_t2 206 rfl rfl) rfl uw_X8 tyX8_ok nmX8 (by decide) hI
theorem fl_X8_28 {I : MI} (hI : I.1.cls = RX8) : FL I 28 8 2 := fl_mk (C := RX8) (T := TX8) (N := 11) I rfl (by decide) rfl (ws_t2 207 rfl rfl) rfl uw_X8 tyX8_ok nmX8 (by decide) hI
theorem fl_X8_32 {I : MI} (hI : I.1.cls = RX8) : FL I 32 8 3 := fl_mk (C := RX8) (T := TX8) (N := 11) I rfl (by decide) rfl (ws_t2 208 rfl rfl) rfl uw_X8 tyX8_ok nmX8 (by decide) hI
theorem fl_X8_38 {I : MI} (hI : I.1.cls = RX8) : FL I 38 8 4 := fl_mk (C := RX8) (T := TX8) (N := 11) I rfl (by decide) rfl (ws_t2 209 rfl rfl) rfl uw_X8 tyX8_ok nmX8 (by decide) hI
theorem fl_X8_45 {I : MI} (hI : I.1.cls = RX8) : FL I 45 8 5 := fl_mk (C := RX8) (T := TX8) (N := 11) I rfl (by decide) rfl (ws_t2 210 rfl rfl) rfl uw_X8 tyX8_ok nmX8 (by decide) hI
theorem fl_X8_49 {I : MI} (hI : I.1.cls = RX8) : FL I 49 8 6 := fl_mk (C := RX8) (T := TX8) (N := 11) I rfl (by decide) rfl (ws_t2 211 rfl rfl) rfl uw_X8 tyX8_ok nmX8 (by decide) hI
theorem fl_X8_57 {I : MI} (hI : I.1.cls = RX8) : FL I 57 8 7 := fl_mk (C := RX8) (T := TX8) (N := 11) I rfl (by decide) rfl (ws_t2 212 rfl rfl) rfl uw_X8 tyX8_ok nmX8 (by decide) hI
theorem fl_X8_61 {I : MI} (hI : I.1.cls = RX8) : FL I 61 8 8 := fl_mk (C := RX8) (T := TX8) (N := 11) I rfl (by decide) rfl (ws_t2 213 rfl rfl) rfl uw_X8 tyX8_ok nmX8 (by decide) hI
theorem fl_X8_69 {I : MI} (hI : I.1.cls = RX8) : FL I 69 8 9 := fl_mk (C := RX8) (T := TX8) (N := 11) I rfl (by decide) rfl (ws_t2 214 rfl rfl) rfl uw_X8 tyX8_ok nmX8 (by decide) hI
theorem fl_X8_76 {I : MI} (hI : I.1.cls = RX8) : FL I 76 8 10 := fl_mk (C := RX8) (T := TX8) (N := 11) I rfl (by decide) rfl (ws_t2 215 rfl rfl) rfl uw_X8 tyX8_ok nmX8 (by decide) hI
theorem fl_X8_110 {I : MI} (hI : I.1.cls = RX8) : FL I 110 7 0 := fl_mk (C := RX7) (T := TX7) (N := 19) I rfl (by decide) rfl (ws_t1 63 rfl rfl) rfl uw_X7 tyX7_ok nmX7 (by decide) hI
theorem fl_X8_114 {I : MI} (hI : I.1.cls = RX8) : FL I 114 7 3 := fl_mk (C := RX7) (T := TX7) (N := 19) I rfl (by decide) rfl (ws_t1 72 rfl rfl) rfl uw_X7 tyX7_ok nmX7 (by decide) hI
theorem fl_X8_139 {I : MI} (hI : I.1.cls = RX8) : FL I 139 7 2 := fl_mk (C := RX7) (T := TX7) (N := 19) I rfl (by decide) rfl (ws_t1 69 rfl rfl) rfl uw_X7 tyX7_ok nmX7 (by decide) hI
theorem fl_X8_148 {I : MI} (hI : I.1.cls = RX8) : FL I 148 7 7 := fl_mk (C := RX7) (T := TX7) (N := 19) I rfl (by decide) rfl (ws_t1 81 rfl rfl) rfl uw_X7 tyX7_ok nmX7 (by decide) hI
theorem fl_X8_210 {I : MI} (hI : I.1.cls = RX8) : FL I 210 5 0 := fl_mk (C := RX5) (T := TX5) (N := 4) I rfl (by decide) rfl (ws_t1 163 rfl rfl) rfl uw_X5 tyX5_ok nmX5 (by decide) hI
theorem fl_X8_230 {I : MI} (hI : I.1.cls = RX8) : FL I 230 3 0 := fl_mk (C := RX3) (T := TX3) (N := 12) I rfl (by decide) rfl (ws_t1 202 rfl rfl) rfl uw_X3 tyX3_ok nmX3 (by decide) hI
theorem fl_X8_233 {I : MI} (hI : I.1.cls = RX8) : FL I 233 3 1 := fl_mk (C := RX3) (T := TX3) (N := 12) I rfl (by decide) rfl (ws_t1 204 rfl rfl) rfl uw_X3 tyX3_ok nmX3 (by decide) hI
theorem fl_X8_240 {I : MI} (hI : I.1.cls = RX8) : FL I 240 3 3 := fl_mk (C := RX3) (T := TX3) (N := 12) I rfl (by decide) rfl (ws_t1 208 rfl rfl) rfl uw_X3 tyX3_ok nmX3 (by decide) hI
theorem fl_X8_243 {I : MI} (hI : I.1.cls = RX8) : FL I 243 3 2 := fl_mk (C := RX3) (T := TX3) (N := 12) I rfl (by decide) rfl (ws_t1 206 rfl rfl) rfl uw_X3 tyX3_ok nmX3 (by decide) hI
theorem fl_X8_252 {I : MI} (hI : I.1.cls = RX8) : FL I 252 6 0 := fl_mk (C := RX6) (T := TX6) (N := 5) I rfl (by decide) rfl (ws_t1 140 rfl rfl) rfl uw_X6 tyX6_ok nmX6 (by decide) hI
theorem fl_X8_282 {I : MI} (hI : I.1.cls = RX8) : FL I 282 0 0 := fl_mk (C := RX0) (T := TX0) (N := 4) I rfl (by decide) rfl (ws_t2 9 rfl rfl) rfl uw_X0 tyX0_ok nmX0 (by decide) hI
theorem fl_X8_297 {I : MI} (hI : I.1.cls = RX8) : FL I 297 7 1 := fl_mk (C := RX7) (T := TX7) (N := 19) I rfl (by decide) rfl (ws_t1 66 rfl rfl) rfl uw_X7 tyX7_ok nmX7 (by decide) hI
theorem fl_X8_300 {I : MI} (hI : I.1.cls = RX8) : FL I 300 7 4 := fl_mk (C := RX7) (T := TX7) (N := 19) I rfl (by decide) rfl (ws_t1 75 rfl rfl) rfl uw_X7 tyX7_ok nmX7 (by decide) hI
theorem fl_X0_11 {I : MI} (hI : I.1.cls = RX0) : FL I 11 0 0 := fl_mk (C := RX0) (T := TX0) (N := 4) I rfl (by decide) rfl (ws_t2 8 rfl rfl) rfl uw_X0 tyX0_ok nmX0 (by decide) hI
theorem fl_X0_17 {I : MI} (hI : I.1.cls = RX0) : FL I 17 0 1 := fl_mk (C := RX0) (T := TX0) (N := 4) I rfl (by decide) rfl (ws_t2 10 rfl rfl) rfl uw_X0 tyX0_ok nmX0 (by decide) hI
theorem fl_X0_21 {I : MI} (hI : I.1.cls = RX0) : FL I 21 0 2 := fl_mk (C := RX0) (T := TX0) (N := 4) I rfl (by decide) rfl (ws_t2 11 rfl rfl) rfl uw_X0 tyX0_ok nmX0 (by decide) hI
theorem fl_X0_24 {I : MI} (hI : I.1.cls = RX0) : FL I 24 0 3 := fl_mk (C := RX0) (T := TX0) (N := 4) I rfl (by decide) rfl (ws_t2 12 rfl rfl) rfl uw_X0 tyX0_ok nmX0 (by decide) hI
theorem fl_X0_27 {I : MI} (hI : I.1.cls = RX0) : FL I 27 7 4 := fl_mk (C := RX7) (T := TX7) (N := 19) I rfl (by decide) rfl (ws_t1 74 rfl rfl) rfl uw_X7 tyX7_ok nmX7 (by decide) hI
theorem fl_X1_9 {I : MI} (hI : I.1.cls = RX1) : FL I 9 1 0 := fl_mk (C := RX1) (T := TX1) (N := 2) I rfl (by decide) rfl (ws_t1 31 rfl rfl) rfl uw_X1 tyX1_ok nmX1 (by decide) hI
theorem fl_X1_13 {I : MI} (hI : I.1.cls = RX1) : FL I 13 1 1 := fl_mk (C := RX1) (T := TX1) (N := 2) I rfl (by decide) rfl (ws_t1 32 rfl rfl) rfl uw_X1 tyX1_ok nmX1 (by decide) hI
theorem fl_X2_7 {I : MI} (hI : I.1.cls = RX2) : FL I 7 2 1 := fl_mk (C := RX2) (T := TX2) (N := 2) I rfl (by decide) rfl (ws_t1 189 rfl rfl) rfl uw_X2 tyX2_ok nmX2 (by decide) hI
theorem fl_X2_21 {I : MI} (hI : I.1.cls = RX2) : FL I 21 2 0 := fl_mk (C := RX2) (T := TX2) (N := 2) I rfl (by decide) rfl (ws_t1 188 rfl rfl) rfl uw_X2 tyX2_ok nmX2 (by decide) hI
theorem fl_X3_11 {I : MI} (hI : I.1.cls = RX3) : FL I 11 3 0 := fl_mk (C := RX3) (T := TX3) (N := 12) I rfl (by decide) rfl (ws_t1 201 rfl rfl) rfl uw_X3 tyX3_ok nmX3 (by decide) hI
theorem fl_X3_17 {I : MI} (hI : I.1.cls = RX3) : FL I 17 3 1 := fl_mk (C := RX3) (T := TX3) (N := 12) I rfl (by decide) rfl (ws_t1 203 rfl rfl) rfl uw_X3 tyX3_ok nmX3 (by decide) hI
theorem fl_X3_20 {I : MI} (hI : I.1.cls = RX3) : FL I 20 3 2 := fl_mk (C := RX3) (T := TX3) (N := 12) I rfl (by decide) rfl (ws_t1 205 rfl rfl) rfl uw_X3 tyX3_ok nmX3 (by decide) hI
theorem fl_X3_23 {I : MI} (hI : I.1.cls = RX3) : FL I 23 3 3 := fl_mk (C := RX3) (T := TX3) (N := 12) I rfl (by decide) rfl (ws_t1 207 rfl rfl) rfl uw_X3 tyX3_ok nmX3 (by decide) hI
theorem fl_X3_26 {I : MI} (hI : I.1.cls = RX3) : FL I 26 3 5 := fl_mk (C := RX3) (T := TX3) (N := 12) I rfl (by decide) rfl (ws_t1 210 rfl rfl) rfl uw_X3 tyX3_ok nmX3 (by decide) hI
theorem fl_X3_30 {I : MI} (hI : I.1.cls = RX3) : FL I 30 3 6 := fl_mk (C := RX3) (T := TX3) (N := 12) I rfl (by decide) rfl (ws_t1 211 rfl rfl) rfl uw_X3 tyX3_ok nmX3 (by decide) hI
theorem fl_X3_33 {I : MI} (hI : I.1.cls = RX3) : FL I 33 3 7 := fl_mk (C := RX3) (T := TX3) (N := 12) I rfl (by decide) rfl (ws_t1 212 rfl rfl) rfl uw_X3 tyX3_ok nmX3 (by decide) hI
theorem fl_X3_36 {I : MI} (hI : I.1.cls = RX3) : FL I 36 3 8 := fl_mk (C := RX3) (T := TX3) (N := 12) I rfl (by decide) rfl (ws_t1 213 rfl rfl) rfl uw_X3 tyX3_ok nmX3 (by decide) hI
theorem fl_X3_39 {I : MI} (hI : I.1.cls = RX3) : FL I 39 3 9 := fl_mk (C := RX3) (T := TX3) (N := 12) I rfl (by decide) rfl (ws_t1 214 rfl rfl) rfl uw_X3 tyX3_ok nmX3 (by decide) hI
theorem fl_X3_42 {I : MI} (hI : I.1.cls = RX3) : FL I 42 3 10 := fl_mk (C := RX3) (T := TX3) (N := 12) I rfl (by decide) rfl (ws_t1 215 rfl rfl) rfl uw_X3 tyX3_ok nmX3 (by decide) hI
theorem fl_X3_45 {I : MI} (hI : I.1.cls = RX3) : FL I 45 3 11 := fl_mk (C := RX3) (T := TX3) (N := 12) I rfl (by decide) rfl (ws_t1 216 rfl rfl) rfl uw_X3 tyX3_ok nmX3 (by decide) hI
theorem fl_X3_48 {I : MI} (hI : I.1.cls = RX3) : FL I 48 3 4 := fl_mk (C := RX3) (T := TX3) (N := 12) I rfl (by decide) rfl (ws_t1 209 rfl rfl) rfl uw_X3 tyX3_ok nmX3 (by decide) hI
theorem fl_X3_56 {I : MI} (hI : I.1.cls = RX3) : FL I 56 6 0 := fl_mk (C := RX6) (T := TX6) (N := 5) I rfl (by decide) rfl (ws_t1 139 rfl rfl) rfl uw_X6 tyX6_ok nmX6 (by decide) hI
theorem fl_X3_92 {I : MI} (hI : I.1.cls = RX3) : FL I 92 7 3 := fl_mk (C := RX7) (T := TX7) (N := 19) I rfl (by decide) rfl (ws_t1 71 rfl rfl) rfl uw_X7 tyX7_ok nmX7 (by decide) hI
theorem fl_X4_11 {I : MI} (hI : I.1.cls = RX4) : FL I 11 4 1 := fl_mk (C := RX4) (T := TX4) (N := 3) I rfl (by decide) rfl (ws_t1 46 rfl rfl) rfl uw_X4 tyX4_ok nmX4 (by decide) hI
theorem fl_X4_15 {I : MI} (hI : I.1.cls = RX4) : FL I 15 4 2 := fl_mk (C := RX4) (T := TX4) (N := 3) I rfl (by decide) rfl (ws_t1 47 rfl rfl) rfl uw_X4 tyX4_ok nmX4 (by decide) hI
theorem fl_X4_19 {I : MI} (hI : I.1.cls = RX4) : FL I 19 4 0 := fl_mk (C := RX4) (T := TX4) (N := 3) I rfl (by decide) rfl (ws_t1 45 rfl rfl) rfl uw_X4 tyX4_ok nmX4 (by decide) hI
theorem fl_X5_11 {I : MI} (hI : I.1.cls = RX5) : FL I 11 5 0 := fl_mk (C := RX5) (T := TX5) (N := 4) I rfl (by decide) rfl (ws_t1 162 rfl rfl) rfl uw_X5 tyX5_ok nmX5 (by decide) hI
theorem fl_X5_17 {I : MI} (hI : I.1.cls = RX5) : FL I 17 5 1 := fl_mk (C := RX5) (T := TX5) (N := 4) I rfl (by decide) rfl (ws_t1 164 rfl rfl) rfl uw_X5 tyX5_ok nmX5 (by decide) hI
theorem fl_X5_21 {I : MI} (hI : I.1.cls = RX5) : FL I 21 5 2 := fl_mk (C := RX5) (T := TX5) (N := 4) I rfl (by decide) rfl (ws_t1 165 rfl rfl) rfl uw_X5 tyX5_ok nmX5 (by decide) hI
theorem fl_X5_24 {I : MI} (hI : I.1.cls = RX5) : FL I 24 5 3 := fl_mk (C := RX5) (T := TX5) (N := 4) I rfl (by decide) rfl (ws_t1 166 rfl rfl) rfl uw_X5 tyX5_ok nmX5 (by decide) hI
theorem fl_X5_35 {I : MI} (hI : I.1.cls = RX5) : FL I 35 7 6 := fl_mk (C := RX7) (T := TX7) (N := 19) I rfl (by decide) rfl (ws_t1 79 rfl rfl) rfl uw_X7 tyX7_ok nmX7 (by decide) hI
theorem fl_X6_9 {I : MI} (hI : I.1.cls = RX6) : FL I 9 6 0 := fl_mk (C := RX6) (T := TX6) (N := 5) I rfl (by decide) rfl (ws_t1 138 rfl rfl) rfl uw_X6 tyX6_ok nmX6 (by decide) hI
theorem fl_X6_15 {I : MI} (hI : I.1.cls = RX6) : FL I 15 6 1 := fl_mk (C := RX6) (T := TX6) (N := 5) I rfl (by decide) rfl (ws_t1 141 rfl rfl) rfl uw_X6 tyX6_ok nmX6 (by decide) hI
theorem fl_X6_19 {I : MI} (hI : I.1.cls = RX6) : FL I 19 6 2 := fl_mk (C := RX6) (T := TX6) (N := 5) I rfl (by decide) rfl (ws_t1 142 rfl rfl) rfl uw_X6 tyX6_ok nmX6 (by decide) hI
theorem fl_X6_22 {I : MI} (hI : I.1.cls = RX6) : FL I 22 6 3 := fl_mk (C := RX6) (T := TX6) (N := 5) I rfl (by decide) rfl (ws_t1 143 rfl rfl) rfl uw_X6 tyX6_ok nmX6 (by decide) hI
theorem fl_X6_25 {I : MI} (hI : I.1.cls = RX6) : FL I 25 6 4 := fl_mk (C := RX6) (T := TX6) (N := 5) I rfl (by decide) rfl (ws_t1 144 rfl rfl) rfl uw_X6 tyX6_ok nmX6 (by decide) hI
theorem fl_X6_28 {I : MI} (hI : I.1.cls = RX6) : FL I 28 7 0 := fl_mk (C := RX7) (T := TX7) (N := 19) I rfl (by decide) rfl (ws_t1 62 rfl rfl) rfl uw_X7 tyX7_ok nmX7 (by decide) hI
theorem fl_X6_59 {I : MI} (hI : I.1.cls = RX6) : FL I 59 7 5 := fl_mk (C := RX7) (T := TX7) (N := 19) I rfl (by decide) rfl (ws_t1 77 rfl rfl) rfl uw_X7 tyX7_ok nmX7 (by decide) hI
theorem fl_X6_65 {I : MI} (hI : I.1.cls = RX6) : FL I 65 7 1 := fl_mk (C := RX7) (T := TX7) (N := 19) I rfl (by decide) rfl (ws_t1 65 rfl rfl) rfl uw_X7 tyX7_ok nmX7 (by decide) hI
theorem fl_X6_74 {I : MI} (hI : I.1.cls = RX6) : FL I 74 7 2 := fl_mk (C := RX7) (T := TX7) (N := 19) I rfl (by decide) rfl (ws_t1 68 rfl rfl) rfl uw_X7 tyX7_ok nmX7 (by decide) hI
theorem fl_X7_9 {I : MI} (hI : I.1.cls = RX7) : FL I 9 7 0 := fl_mk (C := RX7) (T := TX7) (N := 19) I rfl (by decide) rfl (ws_t1 61 rfl rfl) rfl uw_X7 tyX7_ok nmX7 (by decide) hI
theorem fl_X7_15 {I : MI} (hI : I.1.cls = RX7) : FL I 15 7 1 := fl_mk (C := RX7) (T := TX7) (N := 19) I rfl (by decide) rfl (ws_t1 64 rfl rfl) rfl uw_X7 tyX7_ok nmX7 (by decide) hI
theorem fl_X7_18 {I : MI} (hI : I.1.cls = RX7) : FL I 18 7 2 := fl_mk (C := RX7) (T := TX7) (N := 19) I rfl (by decide) rfl (ws_t1 67 rfl rfl) rfl uw_X7 tyX7_ok nmX7 (by decide) hI
theorem fl_X7_21 {I : MI} (hI : I.1.cls = RX7) : FL I 21 7 3 := fl_mk (C := RX7) (T := TX7) (N := 19) I rfl (by decide) rfl (ws_t1 70 rfl rfl) rfl uw_X7 tyX7_ok nmX7 (by decide) hI
theorem fl_X7_24 {I : MI} (hI : I.1.cls = RX7) : FL I 24 7 4 := fl_mk (C := RX7) (T := TX7) (N := 19) I rfl (by decide) rfl (ws_t1 73 rfl rfl) rfl uw_X7 tyX7_ok nmX7 (by decide) hI
theorem fl_X7_27 {I : MI} (hI : I.1.cls = RX7) : FL I 27 7 5 := fl_mk (C := RX7) (T := TX7) (N := 19) I rfl (by decide) rfl (ws_t1 76 rfl rfl) rfl uw_X7 tyX7_ok nmX7 (by decide) hI
theorem fl_X7_30 {I : MI} (hI : I.1.cls = RX7) : FL I 30 7 6 := fl_mk (C := RX7) (T := TX7) (N := 19) I rfl (by decide) rfl (ws_t1 78 rfl rfl) rfl uw_X7 tyX7_ok nmX7 (by decide) hI
theorem fl_X7_33 {I : MI} (hI : I.1.cls = RX7) : FL I 33 7 7 := fl_mk (C := RX7) (T := TX7) (N := 19) I rfl (by decide) rfl (ws_t1 80 rfl rfl) rfl uw_X7 tyX7_ok nmX7 (by decide) hI
theorem fl_X7_36 {I : MI} (hI : I.1.cls = RX7) : FL I 36 7 8 := fl_mk (C := RX7) (T := TX7) (N := 19) I rfl (by decide) rfl (ws_t1 82 rfl rfl) rfl uw_X7 tyX7_ok nmX7 (by decide) hI
theorem fl_X7_40 {I : MI} (hI : I.1.cls = RX7) : FL I 40 7 9 := fl_mk (C := RX7) (T := TX7) (N := 19) I rfl (by decide) rfl (ws_t1 83 rfl rfl) rfl uw_X7 tyX7_ok nmX7 (by decide) hI
theorem fl_X7_43 {I : MI} (hI : I.1.cls = RX7) : FL I 43 7 10 := fl_mk (C := RX7) (T := TX7) (N := 19) I rfl (by decide) rfl (ws_t1 84 rfl rfl) rfl uw_X7 tyX7_ok nmX7 (by decide) hI
theorem fl_X7_46 {I : MI} (hI : I.1.cls = RX7) : FL I 46 7 11 := fl_mk (C := RX7) (T := TX7) (N := 19) I rfl (by decide) rfl (ws_t1 85 rfl rfl) rfl uw_X7 tyX7_ok nmX7 (by decide) hI
theorem fl_X7_49 {I : MI} (hI : I.1.cls = RX7) : FL I 49 7 12 := fl_mk (C := RX7) (T := TX7) (N := 19) I rfl (by decide) rfl (ws_t1 86 rfl rfl) rfl uw_X7 tyX7_ok nmX7 (by decide) hI
theorem fl_X7_52 {I : MI} (hI : I.1.cls = RX7) : FL I 52 7 13 := fl_mk (C := RX7) (T := TX7) (N := 19) I rfl (by decide) rfl (ws_t1 87 rfl rfl) rfl uw_X7 tyX7_ok nmX7 (by decide) hI
theorem fl_X7_55 {I : MI} (hI : I.1.cls = RX7) : FL I 55 7 14 := fl_mk (C := RX7) (T := TX7) (N := 19) I rfl (by decide) rfl (ws_t1 88 rfl rfl) rfl uw_X7 tyX7_ok nmX7 (by decide) hI
theorem fl_X7_58 {I : MI} (hI : I.1.cls = RX7) : FL I 58 7 15 := fl_mk (C := RX7) (T := TX7) (N := 19) I rfl (by decide) rfl (ws_t1 89 rfl rfl) rfl uw_X7 tyX7_ok nmX7 (by decide) hI
theorem fl_X7_61 {I : MI} (hI : I.1.cls = RX7) : FL I 61 7 16 := fl_mk (C := RX7) (T := TX7) (N := 19) I rfl (by decide) rfl (ws_t1 90 rfl rfl) rfl uw_X7 tyX7_ok nmX7 (by decide) hI
theorem fl_X7_64 {I : MI} (hI : I.1.cls = RX7) : FL I 64 7 17 := fl_mk (C := RX7) (T := TX7) (N := 19) I rfl (by decide) rfl (ws_t1 91 rfl rfl) rfl uw_X7 tyX7_ok nmX7 (by decide) hI
theorem fl_X7_67 {I : MI} (hI : I.1.cls = RX7) : FL I 67 7 18 := fl_mk (C := RX7) (T := TX7) (N := 19) I rfl (by decide) rfl (ws_t1 92 rfl rfl) rfl uw_X7 tyX7_ok nmX7 (by decide) hI
theorem fl_X9_7 {I : MI} (hI : I.1.cls = RX9) : FL I 7 9 0 := fl_mk (C := RX9) (T := TX9) (N := 28) I rfl (by decide) rfl (ws_t4 157 rfl rfl) rfl uw_X9 tyX9_ok nmX9 (by decide) hI
theorem fl_X9_13 {I : MI} (hI : I.1.cls = RX9) : FL I 13 9 3 := fl_mk (C := RX9) (T := TX9) (N := 28) I rfl (by decide) rfl (ws_t4 160 rfl rfl) rfl uw_X9 tyX9_ok nmX9 (by decide) hI
theorem fl_X9_16 {I : MI} (hI : I.1.cls = RX9) : FL I 16 9 6 := fl_mk (C := RX9) (T := TX9) (N := 28) I rfl (by decide) rfl (ws_t4 163 rfl rfl) rfl uw_X9 tyX9_ok nmX9 (by decide) hI
theorem fl_X9_19 {I : MI} (hI : I.1.cls = RX9) : FL I 19 9 7 := fl_mk (C := RX9) (T := TX9) (N := 28) I rfl (by decide) rfl (ws_t4 164 rfl rfl) rfl uw_X9 tyX9_ok nmX9 (by decide) hI
theorem fl_X9_22 {I : MI} (hI : I.1.cls = RX9) : FL I 22 9 8 := fl_mk (C := RX9) (T := TX9) (N := 28) I rfl (by decide) rfl (ws_t4 165 rfl rfl) rfl uw_X9 tyX9_ok nmX9 (by decide) hI
theorem fl_X9_25 {I : MI} (hI : I.1.cls = RX9) : FL I 25 9 11 := fl_mk (C := RX9) (T := TX9) (N := 28) I rfl (by decide) rfl (ws_t4 168 rfl rfl) rfl uw_X9 tyX9_ok nmX9 (by decide) hI
theorem fl_X9_28 {I : MI} (hI : I.1.cls = RX9) : FL I 28 9 12 := fl_mk (C := RX9) (T := TX9) (N := 28) I rfl (by decide) rfl (ws_t4 169 rfl rfl) rfl uw_X9 tyX9_ok nmX9 (by decide) hI
theorem fl_X9_31 {I : MI} (hI : I.1.cls = RX9) : FL I 31 9 14 := fl_mk (C := RX9) (T := TX9) (N := 28) I rfl (by decide) rfl (ws_t4 171 rfl rfl) rfl uw_X9 tyX9_ok nmX9 (by decide) hI
theorem fl_X9_34 {I : MI} (hI : I.1.cls = RX9) : FL I 34 9 16 := fl_mk (C := RX9) (T := TX9) (N := 28) I rfl (by decide) rfl (ws_t4 173 rfl rfl) rfl uw_X9 tyX9_ok nmX9 (by decide) hI
theorem fl_X9_37 {I : MI} (hI : I.1.cls = RX9) : FL I 37 9 18 := fl_mk (C := RX9) (T := TX9) (N := 28) I rfl (by decide) rfl (ws_t4 175 rfl rfl) rfl uw_X9 tyX9_ok nmX9 (by decide) hI
theorem fl_X9_40 {I : MI} (hI : I.1.cls = RX9) : FL I 40 9 24 := fl_mk (C := RX9) (T := TX9) (N := 28) I rfl (by decide) rfl (ws_t4 181 rfl rfl) rfl uw_X9 tyX9_ok nmX9 (by decide) hI
theorem fl_X9_44 {I : MI} (hI : I.1.cls = RX9) : FL I 44 9 25 := fl_mk (C := RX9) (T := TX9) (N := 28) I rfl (by decide) rfl (ws_t4 182 rfl rfl) rfl uw_X9 tyX9_ok nmX9 (by decide) hI
theorem fl_X9_47 {I : MI} (hI : I.1.cls = RX9) : FL I 47 9 26 := fl_mk (C := RX9) (T := TX9) (N := 28) I rfl (by decide) rfl (ws_t4 183 rfl rfl) rfl uw_X9 tyX9_ok nmX9 (by decide) hI
theorem fl_X9_50 {I : MI} (hI : I.1.cls = RX9) : FL I 50 9 27 := fl_mk (C := RX9) (T := TX9) (N := 28) I rfl (by decide) rfl (ws_t4 184 rfl rfl) rfl uw_X9 tyX9_ok nmX9 (by decide) hI
theorem fl_X9_74 {I : MI} (hI : I.1.cls = RX9) : FL I 74 9 5 := fl_mk (C := RX9) (T := TX9) (N := 28) I rfl (by decide) rfl (ws_t4 162 rfl rfl) rfl uw_X9 tyX9_ok nmX9 (by decide) hI
theorem fl_X9_78 {I : MI} (hI : I.1.cls = RX9) : FL I 78 9 9 := fl_mk (C := RX9) (T := TX9) (N := 28) I rfl (by decide) rfl (ws_t4 166 rfl rfl) rfl uw_X9 tyX9_ok nmX9 (by decide) hI
theorem fl_X9_81 {I : MI} (hI : I.1.cls = RX9) : FL I 81 9 10 := fl_mk (C := RX9) (T := TX9) (N := 28) I rfl (by decide) rfl (ws_t4 167 rfl rfl) rfl uw_X9 tyX9_ok nmX9 (by decide) hI
theorem fl_X9_84 {I : MI} (hI : I.1.cls = RX9) : FL I 84 9 13 := fl_mk (C := RX9) (T := TX9) (N := 28) I rfl (by decide) rfl (ws_t4 170 rfl rfl) rfl uw_X9 tyX9_ok nmX9 (by decide) hI
theorem fl_X9_87 {I : MI} (hI : I.1.cls = RX9) : FL I 87 9 15 := fl_mk (C := RX9) (T := TX9) (N := 28) I rfl (by decide) rfl (ws_t4 172 rfl rfl) rfl uw_X9 tyX9_ok nmX9 (by decide) hI
theorem fl_X9_90 {I : MI} (hI : I.1.cls = RX9) : FL I 90 9 1 := fl_mk (C := RX9) (T := TX9) (N := 28) I rfl (by decide) rfl (ws_t4 158 rfl rfl) rfl uw_X9 tyX9_ok nmX9 (by decide) hI
theorem fl_X9_93 {I : MI} (hI : I.1.cls = RX9) : FL I 93 9 2 := fl_mk (C := RX9) (T := TX9) (N := 28) I rfl (by decide) rfl (ws_t4 159 rfl rfl) rfl uw_X9 tyX9_ok nmX9 (by decide) hI
theorem fl_X9_104 {I : MI} (hI : I.1.cls = RX9) : FL I 104 9 4 := fl_mk (C := RX9) (T := TX9) (N := 28) I rfl (by decide) rfl (ws_t4 161 rfl rfl) rfl uw_X9 tyX9_ok nmX9 (by decide) hI
theorem fl_X9_111 {I : MI} (hI : I.1.cls = RX9) : FL I 111 9 17 := fl_mk (C := RX9) (T := TX9) (N := 28) I rfl (by decide) rfl (ws_t4 174 rfl rfl) rfl uw_X9 tyX9_ok nmX9 (by decide) hI
theorem fl_X9_129 {I : MI} (hI : I.1.cls = RX9) : FL I 129 9 19 := fl_mk (C := RX9) (T := TX9) (N := 28) I rfl (by decide) rfl (ws_t4 176 rfl rfl) rfl uw_X9 tyX9_ok nmX9 (by decide) hI
theorem fl_X9_135 {I : MI} (hI : I.1.cls = RX9) : FL I 135 9 20 := fl_mk (C := RX9) (T := TX9) (N := 28) I rfl (by decide) rfl (ws_t4 177 rfl rfl) rfl uw_X9 tyX9_ok nmX9 (by decide) hI
theorem fl_X9_138 {I : MI} (hI : I.1.cls = RX9) : FL I 138 9 21 := fl_mk (C := RX9) (T := TX9) (N := 28) I rfl (by decide) rfl (ws_t4 178 rfl rfl) rfl uw_X9 tyX9_ok nmX9 (by decide) hI
theorem fl_X9_141 {I : MI} (hI : I.1.cls = RX9) : FL I 141 9 22 := fl_mk (C := RX9) (T := TX9) (N := 28) I rfl (by decide) rfl (ws_t4 179 rfl rfl) rfl uw_X9 tyX9_ok nmX9 (by decide) hI
theorem fl_X9_144 {I : MI} (hI : I.1.cls = RX9) : FL I 144 9 23 := fl_mk (C := RX9) (T := TX9) (N := 28) I rfl (by decide) rfl (ws_t4 180 rfl rfl) rfl uw_X9 tyX9_ok nmX9 (by decide) hI
theorem fl_J0_9 : Cond.fieldLink RJ0 9 "java/lang/String" "value" "[B" ∈ WS := ws_t6 68 rfl rfl
theorem fl_J0_15 : Cond.fieldLink RJ0 15 "java/lang/String" "coder" "B" ∈ WS := ws_t6 69 rfl rfl
theorem fl_J0_38 : Cond.fieldLink RJ0 38 "java/lang/String" "COMPACT_STRINGS" "Z" ∈ WS := ws_t2 31 rfl rfl
theorem fl_J0_1053 : Cond.fieldLink RJ0 1053 "jdk/internal/util/Preconditions" "SIOOBE_FORMATTER" "Ljava/util/function/BiFunction;" ∈ WS := ws_t2 47 rfl rfl
theorem nw_X8_7 {I : MI} (hI : I.1.cls = RX8) : NW I 7 1 2 := ⟨RX1, TX1, rfl, rfl, by rw [hI]; exact ws_t1 25 rfl rfl, ws_t1 26 rfl rfl, in_X1, uw_X1, tyX1_ok, by decide, by decide⟩
theorem nw_X8_16 {I : MI} (hI : I.1.cls = RX8) : NW I 16 4 3 := ⟨RX4, TX4, rfl, rfl, by rw [hI]; exact ws_t1 39 rfl rfl, ws_t1 40 rfl rfl, in_X4, uw_X4, tyX4_ok, by decide, by decide⟩
theorem nw_X8_25 {I : MI} (hI : I.1.cls = RX8) : NW I 25 7 19 := ⟨RX7, TX7, rfl, rfl, by rw [hI]; exact ws_t1 55 rfl rfl, ws_t1 56 rfl rfl, in_X7, uw_X7, tyX7_ok, by decide, by decide⟩
theorem nw_X8_35 {I : MI} (hI : I.1.cls = RX8) : NW I 35 6 5 := ⟨RX6, TX6, rfl, rfl, by rw [hI]; exact ws_t1 132 rfl rfl, ws_t1 133 rfl rfl, in_X6, uw_X6, tyX6_ok, by decide, by decide⟩
theorem nw_X8_42 {I : MI} (hI : I.1.cls = RX8) : NW I 42 5 4 := ⟨RX5, TX5, rfl, rfl, by rw [hI]; exact ws_t1 156 rfl rfl, ws_t1 157 rfl rfl, in_X5, uw_X5, tyX5_ok, by decide, by decide⟩
theorem nw_X8_52 {I : MI} (hI : I.1.cls = RX8) : NW I 52 2 2 := ⟨RX2, TX2, rfl, rfl, by rw [hI]; exact ws_t1 176 rfl rfl, ws_t1 177 rfl rfl, in_X2, uw_X2, tyX2_ok, by decide, by decide⟩
theorem nw_X8_64 {I : MI} (hI : I.1.cls = RX8) : NW I 64 3 12 := ⟨RX3, TX3, rfl, rfl, by rw [hI]; exact ws_t1 195 rfl rfl, ws_t1 196 rfl rfl, in_X3, uw_X3, tyX3_ok, by decide, by decide⟩
theorem nw_X8_73 {I : MI} (hI : I.1.cls = RX8) : NW I 73 0 4 := ⟨RX0, TX0, rfl, rfl, by rw [hI]; exact ws_t2 2 rfl rfl, ws_t2 3 rfl rfl, in_X0, uw_X0, tyX0_ok, by decide, by decide⟩
theorem nw_L_7 {I : MI} (hI : I.1.cls = RL) : NW I 7 8 11 := ⟨RX8, TX8, rfl, rfl, by rw [hI]; exact ws_t1 17 rfl rfl, ws_t1 18 rfl rfl, in_X8, uw_X8, tyX8_ok, by decide, by decide⟩
theorem nw_L_10 {I : MI} (hI : I.1.cls = RL) : NW I 10 9 28 := ⟨RX9, TX9, rfl, rfl, by rw [hI]; exact ws_t4 127 rfl rfl, ws_t4 128 rfl rfl, in_X9, uw_X9, tyX9_ok, by decide, by decide⟩
theorem nw_X2_19 {I : MI} (hI : I.1.cls = RX2) : NW I 19 5 4 := ⟨RX5, TX5, rfl, rfl, by rw [hI]; exact ws_t1 185 rfl rfl, ws_t1 157 rfl rfl, in_X5, uw_X5, tyX5_ok, by decide, by decide⟩
theorem cl_X2_19 : Cond.classLink RX2 19 RX5 ∈ WS := ws_t1 185 rfl rfl
theorem ac_I : Cond.arrayClass .int ∈ WS := ws_t1 38 rfl rfl
theorem ac_Z : Cond.arrayClass .boolean ∈ WS := ws_t5 2 rfl rfl
theorem oi_i : Cond.instanceMethod Lib.objectInit ∈ WS := ws_t1 23 rfl rfl
theorem oi_c : Cond.code Lib.objectInit ⟨#[0xb1]⟩ 1 none ∈ WS := ws_t1 24 rfl rfl
theorem in_Math : Cond.initialized "java/lang/Math" ∈ WS := ws_t1 8 rfl rfl
theorem ma_max_s : Cond.static Lib.Math.max.name ∈ WS := ws_t1 183 rfl rfl
theorem ma_max_c : Cond.code Lib.Math.max.name Lib.Math.max.code 2 (some .int) ∈ WS := ws_t1 184 rfl rfl
theorem ma_min_s : Cond.static Lib.Math.min.name ∈ WS := ws_t2 146 rfl rfl
theorem ma_min_c : Cond.code Lib.Math.min.name Lib.Math.min.code 2 (some .int) ∈ WS := ws_t2 147 rfl rfl
theorem ma_maxL_s : Cond.static Lib.MathLoose.max_long.x ∈ WS := ws_t4 41 rfl rfl
theorem ma_maxL_c : Cond.code Lib.MathLoose.max_long.x Lib.MathLoose.max_long.code 4 (some .long) ∈ WS := ws_t4 42 rfl rfl
