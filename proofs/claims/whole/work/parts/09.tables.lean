/-! each method, each field, as the rows ask for them; the numbers that stand in the code -/
theorem kyX0_init : aw_Y yX0_init cX0_init 1 none 0 := ⟨kcX0_init, knX0, ⟨by decide +kernel, by decide +kernel⟩, by decide +kernel, by decide⟩
theorem kyX0_start : aw_Y yX0_start cX0_start 3 none 1 := ⟨kcX0_start, knX0, ⟨by decide +kernel, by decide +kernel⟩, by decide +kernel, by decide⟩
theorem kyX0_step : aw_Y yX0_step cX0_step 5 (some .int) 1 := ⟨kcX0_step, knX0, ⟨by decide +kernel, by decide +kernel⟩, by decide +kernel, by decide⟩
theorem kyX1_init : aw_Y yX1_init cX1_init 1 none 0 := ⟨kcX1_init, knX1, ⟨by decide +kernel, by decide +kernel⟩, by decide +kernel, by decide⟩
theorem kyX1_isMissing : aw_Y yX1_isMissing cX1_isMissing 1 (some .boolean) 0 := ⟨kcX1_isMissing, knX1, ⟨by decide +kernel, by decide +kernel⟩, by decide +kernel, by decide⟩
theorem kyX1_canTell : aw_Y yX1_canTell cX1_canTell 1 (some .boolean) 0 := ⟨kcX1_canTell, knX1, ⟨by decide +kernel, by decide +kernel⟩, by decide +kernel, by decide⟩
theorem kyX1_begin : aw_Y yX1_begin cX1_begin 4 none 2 := ⟨kcX1_begin, knX1, ⟨by decide +kernel, by decide +kernel⟩, by decide +kernel, by decide⟩
theorem kyX1_holds : aw_Y yX1_holds cX1_holds 4 (some .boolean) 2 := ⟨kcX1_holds, knX1, ⟨by decide +kernel, by decide +kernel⟩, by decide +kernel, by decide⟩
theorem kyX1_write : aw_Y yX1_write cX1_write 4 none 2 := ⟨kcX1_write, knX1, ⟨by decide +kernel, by decide +kernel⟩, by decide +kernel, by decide⟩
theorem kyX2_init : aw_Y yX2_init cX2_init 1 none 0 := ⟨kcX2_init, knX2, ⟨by decide +kernel, by decide +kernel⟩, by decide +kernel, by decide⟩
theorem kyX2_addByte : aw_Y yX2_addByte cX2_addByte 2 none 1 := ⟨kcX2_addByte, knX2, ⟨by decide +kernel, by decide +kernel⟩, by decide +kernel, by decide⟩
theorem kyX2_byteAt : aw_Y yX2_byteAt cX2_byteAt 2 (some .int) 1 := ⟨kcX2_byteAt, knX2, ⟨by decide +kernel, by decide +kernel⟩, by decide +kernel, by decide⟩
theorem kyX5_within : aw_Y yX5_within cX5_within 3 (some .boolean) 3 := ⟨kcX5_within, knX5, ⟨by decide +kernel, by decide +kernel⟩, by decide +kernel, by decide⟩
theorem kyX2_sortAt : aw_Y yX2_sortAt cX2_sortAt 3 (some .int) 1 := ⟨kcX2_sortAt, knX2, ⟨by decide +kernel, by decide +kernel⟩, by decide +kernel, by decide⟩
theorem kyX2_behind : aw_Y yX2_behind cX2_behind 4 (some .int) 2 := ⟨kcX2_behind, knX2, ⟨by decide +kernel, by decide +kernel⟩, by decide +kernel, by decide⟩
theorem kyX2_next : aw_Y yX2_next cX2_next 1 (some .int) 0 := ⟨kcX2_next, knX2, ⟨by decide +kernel, by decide +kernel⟩, by decide +kernel, by decide⟩
theorem kyX5_spellingOf : aw_Y yX5_spellingOf cX5_spellingOf 1 (some (.object "java/lang/String")) 1 := ⟨kcX5_spellingOf, knX5, ⟨by decide +kernel, by decide +kernel⟩, by decide +kernel, by decide⟩
theorem kyJ0_coder_7d493 : aw_Y yJ0_coder_7d493 cJ0_coder_7d493 1 (some .byte) 0 := ⟨kcJ0_coder_7d493, knJ0, ⟨by decide +kernel, by decide +kernel⟩, by decide +kernel, by decide⟩
theorem kyJ0_length_8abf5 : aw_Y yJ0_length_8abf5 cJ0_length_8abf5 1 (some .int) 0 := ⟨kcJ0_length_8abf5, knJ0, ⟨by decide +kernel, by decide +kernel⟩, by decide +kernel, by decide⟩
theorem kyJ0_isLatin1_aae02 : aw_Y yJ0_isLatin1_aae02 cJ0_isLatin1_aae02 1 (some .boolean) 0 := ⟨kcJ0_isLatin1_aae02, knJ0, ⟨by decide +kernel, by decide +kernel⟩, by decide +kernel, by decide⟩
theorem kyJ3_checkIndex_8e157 : aw_Y yJ3_checkIndex_8e157 cJ3_checkIndex_8e157 3 (some .int) 3 := ⟨kcJ3_checkIndex_8e157, knJ3, ⟨by decide +kernel, by decide +kernel⟩, by decide +kernel, by decide⟩
theorem kyJ0_checkIndex_df160 : aw_Y yJ0_checkIndex_df160 cJ0_checkIndex_df160 2 none 2 := ⟨kcJ0_checkIndex_df160, knJ0, ⟨by decide +kernel, by decide +kernel⟩, by decide +kernel, by decide⟩
theorem kyJ1_charAt_3b067 : aw_Y yJ1_charAt_3b067 cJ1_charAt_3b067 2 (some .char) 2 := ⟨kcJ1_charAt_3b067, knJ1, ⟨by decide +kernel, by decide +kernel⟩, by decide +kernel, by decide⟩
theorem kyJ2_length_9d52b : aw_Y yJ2_length_9d52b cJ2_length_9d52b 1 (some .int) 1 := ⟨kcJ2_length_9d52b, knJ2, ⟨by decide +kernel, by decide +kernel⟩, by decide +kernel, by decide⟩
theorem kyJ2_checkIndex_2214a : aw_Y yJ2_checkIndex_2214a cJ2_checkIndex_2214a 2 none 2 := ⟨kcJ2_checkIndex_2214a, knJ2, ⟨by decide +kernel, by decide +kernel⟩, by decide +kernel, by decide⟩
theorem kyJ2_getChar_3b067 : aw_Y yJ2_getChar_3b067 cJ2_getChar_3b067 2 (some .char) 2 := ⟨kcJ2_getChar_3b067, knJ2, ⟨by decide +kernel, by decide +kernel⟩, by decide +kernel, by decide⟩
theorem kyJ2_charAt_3b067 : aw_Y yJ2_charAt_3b067 cJ2_charAt_3b067 2 (some .char) 2 := ⟨kcJ2_charAt_3b067, knJ2, ⟨by decide +kernel, by decide +kernel⟩, by decide +kernel, by decide⟩
theorem kyJ0_charAt_5068e : aw_Y yJ0_charAt_5068e cJ0_charAt_5068e 2 (some .char) 1 := ⟨kcJ0_charAt_5068e, knJ0, ⟨by decide +kernel, by decide +kernel⟩, by decide +kernel, by decide⟩
theorem kyX2_isSpelt : aw_Y yX2_isSpelt cX2_isSpelt 3 (some .boolean) 1 := ⟨kcX2_isSpelt, knX2, ⟨by decide +kernel, by decide +kernel⟩, by decide +kernel, by decide⟩
theorem kyX2_wordRead : aw_Y yX2_wordRead cX2_wordRead 2 (some .int) 0 := ⟨kcX2_wordRead, knX2, ⟨by decide +kernel, by decide +kernel⟩, by decide +kernel, by decide⟩
theorem kyX2_say : aw_Y yX2_say cX2_say 2 none 1 := ⟨kcX2_say, knX2, ⟨by decide +kernel, by decide +kernel⟩, by decide +kernel, by decide⟩
theorem kyX5_numbersOf : aw_Y yX5_numbersOf cX5_numbersOf 1 (some .int) 1 := ⟨kcX5_numbersOf, knX5, ⟨by decide +kernel, by decide +kernel⟩, by decide +kernel, by decide⟩
theorem kyX2_numberRead : aw_Y yX2_numberRead cX2_numberRead 3 (some .int) 0 := ⟨kcX2_numberRead, knX2, ⟨by decide +kernel, by decide +kernel⟩, by decide +kernel, by decide⟩
theorem kyX2_readClause : aw_Y yX2_readClause cX2_readClause 3 (some .boolean) 0 := ⟨kcX2_readClause, knX2, ⟨by decide +kernel, by decide +kernel⟩, by decide +kernel, by decide⟩
theorem kyX2_findFault : aw_Y yX2_findFault cX2_findFault 3 (some .int) 0 := ⟨kcX2_findFault, knX2, ⟨by decide +kernel, by decide +kernel⟩, by decide +kernel, by decide⟩
theorem kyX2_saidAt : aw_Y yX2_saidAt cX2_saidAt 2 (some .int) 1 := ⟨kcX2_saidAt, knX2, ⟨by decide +kernel, by decide +kernel⟩, by decide +kernel, by decide⟩
theorem kyX3_init : aw_Y yX3_init cX3_init 1 none 0 := ⟨kcX3_init, knX3, ⟨by decide +kernel, by decide +kernel⟩, by decide +kernel, by decide⟩
theorem kyX3_become : aw_Y yX3_become cX3_become 2 none 1 := ⟨kcX3_become, knX3, ⟨by decide +kernel, by decide +kernel⟩, by decide +kernel, by decide⟩
theorem kyX3_addPair : aw_Y yX3_addPair cX3_addPair 3 (some .int) 2 := ⟨kcX3_addPair, knX3, ⟨by decide +kernel, by decide +kernel⟩, by decide +kernel, by decide⟩
theorem kyX3_toothOf : aw_Y yX3_toothOf cX3_toothOf 3 (some .int) 2 := ⟨kcX3_toothOf, knX3, ⟨by decide +kernel, by decide +kernel⟩, by decide +kernel, by decide⟩
theorem kyX3_isA : aw_Y yX3_isA cX3_isA 3 (some .boolean) 1 := ⟨kcX3_isA, knX3, ⟨by decide +kernel, by decide +kernel⟩, by decide +kernel, by decide⟩
theorem kyX5_misfit : aw_Y yX5_misfit cX5_misfit 2 (some .int) 2 := ⟨kcX5_misfit, knX5, ⟨by decide +kernel, by decide +kernel⟩, by decide +kernel, by decide⟩
theorem kyX3_jammed : aw_Y yX3_jammed cX3_jammed 2 (some .int) 0 := ⟨kcX3_jammed, knX3, ⟨by decide +kernel, by decide +kernel⟩, by decide +kernel, by decide⟩
theorem kyX5_greatestDivisor : aw_Y yX5_greatestDivisor cX5_greatestDivisor 11 (some .long) 2 := ⟨kcX5_greatestDivisor, knX5, ⟨by decide +kernel, by decide +kernel⟩, by decide +kernel, by decide⟩
theorem kyX5_cut : aw_Y yX5_cut cX5_cut 4 (some .long) 2 := ⟨kcX5_cut, knX5, ⟨by decide +kernel, by decide +kernel⟩, by decide +kernel, by decide⟩
theorem kyX5_lowest : aw_Y yX5_lowest cX5_lowest 5 (some .long) 3 := ⟨kcX5_lowest, knX5, ⟨by decide +kernel, by decide +kernel⟩, by decide +kernel, by decide⟩
theorem kyX3_tune : aw_Y yX3_tune cX3_tune 7 none 1 := ⟨kcX3_tune, knX3, ⟨by decide +kernel, by decide +kernel⟩, by decide +kernel, by decide⟩
theorem kyX3_isAsFastAs : aw_Y yX3_isAsFastAs cX3_isAsFastAs 2 (some .boolean) 1 := ⟨kcX3_isAsFastAs, knX3, ⟨by decide +kernel, by decide +kernel⟩, by decide +kernel, by decide⟩
theorem kyX3_wayAt : aw_Y yX3_wayAt cX3_wayAt 6 (some .long) 1 := ⟨kcX3_wayAt, knX3, ⟨by decide +kernel, by decide +kernel⟩, by decide +kernel, by decide⟩
theorem kyX3_spot : aw_Y yX3_spot cX3_spot 2 (some .int) 1 := ⟨kcX3_spot, knX3, ⟨by decide +kernel, by decide +kernel⟩, by decide +kernel, by decide⟩
theorem kyX3_shapeAt : aw_Y yX3_shapeAt cX3_shapeAt 6 (some .int) 1 := ⟨kcX3_shapeAt, knX3, ⟨by decide +kernel, by decide +kernel⟩, by decide +kernel, by decide⟩
theorem kyX3_swing : aw_Y yX3_swing cX3_swing 2 (some .long) 1 := ⟨kcX3_swing, knX3, ⟨by decide +kernel, by decide +kernel⟩, by decide +kernel, by decide⟩
theorem kyX4_init : aw_Y yX4_init cX4_init 2 none 0 := ⟨kcX4_init, knX4, ⟨by decide +kernel, by decide +kernel⟩, by decide +kernel, by decide⟩
theorem kyX4_become : aw_Y yX4_become cX4_become 3 none 1 := ⟨kcX4_become, knX4, ⟨by decide +kernel, by decide +kernel⟩, by decide +kernel, by decide⟩
theorem kyX4_wheelOf : aw_Y yX4_wheelOf cX4_wheelOf 2 (some (.object "TideWheels$Wheel")) 1 := ⟨kcX4_wheelOf, knX4, ⟨by decide +kernel, by decide +kernel⟩, by decide +kernel, by decide⟩
theorem kyX4_addWheel : aw_Y yX4_addWheel cX4_addWheel 6 (some .int) 4 := ⟨kcX4_addWheel, knX4, ⟨by decide +kernel, by decide +kernel⟩, by decide +kernel, by decide⟩
theorem kyX4_goAt : aw_Y yX4_goAt cX4_goAt 3 none 1 := ⟨kcX4_goAt, knX4, ⟨by decide +kernel, by decide +kernel⟩, by decide +kernel, by decide⟩
theorem kyX4_level : aw_Y yX4_level cX4_level 5 (some .long) 1 := ⟨kcX4_level, knX4, ⟨by decide +kernel, by decide +kernel⟩, by decide +kernel, by decide⟩
theorem kyX4_likeOnes : aw_Y yX4_likeOnes cX4_likeOnes 4 (some .int) 1 := ⟨kcX4_likeOnes, knX4, ⟨by decide +kernel, by decide +kernel⟩, by decide +kernel, by decide⟩
theorem kyX4_groups : aw_Y yX4_groups cX4_groups 3 (some .int) 0 := ⟨kcX4_groups, knX4, ⟨by decide +kernel, by decide +kernel⟩, by decide +kernel, by decide⟩
theorem kyX4_pairsOfAll : aw_Y yX4_pairsOfAll cX4_pairsOfAll 3 (some .int) 0 := ⟨kcX4_pairsOfAll, knX4, ⟨by decide +kernel, by decide +kernel⟩, by decide +kernel, by decide⟩
theorem kyX4_jams : aw_Y yX4_jams cX4_jams 3 (some .int) 0 := ⟨kcX4_jams, knX4, ⟨by decide +kernel, by decide +kernel⟩, by decide +kernel, by decide⟩
theorem kyX5_init : aw_Y yX5_init cX5_init 2 none 0 := ⟨kcX5_init, knX5, ⟨by decide +kernel, by decide +kernel⟩, by decide +kernel, by decide⟩
theorem kyX5_allows : aw_Y yX5_allows cX5_allows 2 (some .boolean) 2 := ⟨kcX5_allows, knX5, ⟨by decide +kernel, by decide +kernel⟩, by decide +kernel, by decide⟩
theorem kyX5_part : aw_Y yX5_part cX5_part 5 (some .int) 4 := ⟨kcX5_part, knX5, ⟨by decide +kernel, by decide +kernel⟩, by decide +kernel, by decide⟩
theorem kyX5_drop : aw_Y yX5_drop cX5_drop 1 (some .int) 0 := ⟨kcX5_drop, knX5, ⟨by decide +kernel, by decide +kernel⟩, by decide +kernel, by decide⟩
theorem kyX5_isTeeth : aw_Y yX5_isTeeth cX5_isTeeth 1 (some .boolean) 1 := ⟨kcX5_isTeeth, knX5, ⟨by decide +kernel, by decide +kernel⟩, by decide +kernel, by decide⟩
theorem kyX5_gear : aw_Y yX5_gear cX5_gear 6 (some .int) 3 := ⟨kcX5_gear, knX5, ⟨by decide +kernel, by decide +kernel⟩, by decide +kernel, by decide⟩
theorem kyX5_ungear : aw_Y yX5_ungear cX5_ungear 3 (some .int) 1 := ⟨kcX5_ungear, knX5, ⟨by decide +kernel, by decide +kernel⟩, by decide +kernel, by decide⟩
theorem kyX5_shaft : aw_Y yX5_shaft cX5_shaft 3 (some .int) 1 := ⟨kcX5_shaft, knX5, ⟨by decide +kernel, by decide +kernel⟩, by decide +kernel, by decide⟩
theorem kyX5_change : aw_Y yX5_change cX5_change 6 (some .int) 3 := ⟨kcX5_change, knX5, ⟨by decide +kernel, by decide +kernel⟩, by decide +kernel, by decide⟩
theorem kyX5_set : aw_Y yX5_set cX5_set 4 (some .int) 3 := ⟨kcX5_set, knX5, ⟨by decide +kernel, by decide +kernel⟩, by decide +kernel, by decide⟩
theorem kyX5_kind : aw_Y yX5_kind cX5_kind 3 (some .int) 2 := ⟨kcX5_kind, knX5, ⟨by decide +kernel, by decide +kernel⟩, by decide +kernel, by decide⟩
theorem kyX5_of : aw_Y yX5_of cX5_of 4 (some .int) 2 := ⟨kcX5_of, knX5, ⟨by decide +kernel, by decide +kernel⟩, by decide +kernel, by decide⟩
theorem kyX5_taken : aw_Y yX5_taken cX5_taken 4 (some .int) 2 := ⟨kcX5_taken, knX5, ⟨by decide +kernel, by decide +kernel⟩, by decide +kernel, by decide⟩
theorem kyX5_jam : aw_Y yX5_jam cX5_jam 7 (some .int) 2 := ⟨kcX5_jam, knX5, ⟨by decide +kernel, by decide +kernel⟩, by decide +kernel, by decide⟩
theorem kyX5_speed : aw_Y yX5_speed cX5_speed 4 (some .long) 2 := ⟨kcX5_speed, knX5, ⟨by decide +kernel, by decide +kernel⟩, by decide +kernel, by decide⟩
theorem kyX5_turn : aw_Y yX5_turn cX5_turn 2 (some .int) 1 := ⟨kcX5_turn, knX5, ⟨by decide +kernel, by decide +kernel⟩, by decide +kernel, by decide⟩
theorem kyX5_height : aw_Y yX5_height cX5_height 1 (some .long) 0 := ⟨kcX5_height, knX5, ⟨by decide +kernel, by decide +kernel⟩, by decide +kernel, by decide⟩
theorem kyX5_isTick : aw_Y yX5_isTick cX5_isTick 1 (some .boolean) 1 := ⟨kcX5_isTick, knX5, ⟨by decide +kernel, by decide +kernel⟩, by decide +kernel, by decide⟩
theorem kyX5_heightAt : aw_Y yX5_heightAt cX5_heightAt 2 (some .long) 1 := ⟨kcX5_heightAt, knX5, ⟨by decide +kernel, by decide +kernel⟩, by decide +kernel, by decide⟩
theorem kyX5_heightOf : aw_Y yX5_heightOf cX5_heightOf 4 (some .long) 2 := ⟨kcX5_heightOf, knX5, ⟨by decide +kernel, by decide +kernel⟩, by decide +kernel, by decide⟩
theorem kyX5_place : aw_Y yX5_place cX5_place 4 (some .int) 2 := ⟨kcX5_place, knX5, ⟨by decide +kernel, by decide +kernel⟩, by decide +kernel, by decide⟩
theorem kyX5_waters : aw_Y yX5_waters cX5_waters 12 (some .int) 3 := ⟨kcX5_waters, knX5, ⟨by decide +kernel, by decide +kernel⟩, by decide +kernel, by decide⟩
theorem kyX5_water : aw_Y yX5_water cX5_water 8 (some .int) 4 := ⟨kcX5_water, knX5, ⟨by decide +kernel, by decide +kernel⟩, by decide +kernel, by decide⟩
theorem kyX5_isSheet : aw_Y yX5_isSheet cX5_isSheet 1 (some .boolean) 1 := ⟨kcX5_isSheet, knX5, ⟨by decide +kernel, by decide +kernel⟩, by decide +kernel, by decide⟩
theorem kyX5_firstOtherwise : aw_Y yX5_firstOtherwise cX5_firstOtherwise 4 (some .int) 2 := ⟨kcX5_firstOtherwise, knX5, ⟨by decide +kernel, by decide +kernel⟩, by decide +kernel, by decide⟩
theorem kyX5_think : aw_Y yX5_think cX5_think 5 none 3 := ⟨kcX5_think, knX5, ⟨by decide +kernel, by decide +kernel⟩, by decide +kernel, by decide⟩
theorem kyX5_isAllSo : aw_Y yX5_isAllSo cX5_isAllSo 4 (some .boolean) 2 := ⟨kcX5_isAllSo, knX5, ⟨by decide +kernel, by decide +kernel⟩, by decide +kernel, by decide⟩
theorem kyX5_wrongBy : aw_Y yX5_wrongBy cX5_wrongBy 7 (some .int) 3 := ⟨kcX5_wrongBy, knX5, ⟨by decide +kernel, by decide +kernel⟩, by decide +kernel, by decide⟩
theorem kyX5_tells : aw_Y yX5_tells cX5_tells 5 (some .int) 3 := ⟨kcX5_tells, knX5, ⟨by decide +kernel, by decide +kernel⟩, by decide +kernel, by decide⟩
theorem kyX5_hasHighs : aw_Y yX5_hasHighs cX5_hasHighs 7 (some .boolean) 3 := ⟨kcX5_hasHighs, knX5, ⟨by decide +kernel, by decide +kernel⟩, by decide +kernel, by decide⟩
theorem kyX5_refound : aw_Y yX5_refound cX5_refound 11 (some .int) 5 := ⟨kcX5_refound, knX5, ⟨by decide +kernel, by decide +kernel⟩, by decide +kernel, by decide⟩
theorem kyX5_film : aw_Y yX5_film cX5_film 6 (some .int) 3 := ⟨kcX5_film, knX5, ⟨by decide +kernel, by decide +kernel⟩, by decide +kernel, by decide⟩
theorem kyX5_nearest : aw_Y yX5_nearest cX5_nearest 11 (some .int) 2 := ⟨kcX5_nearest, knX5, ⟨by decide +kernel, by decide +kernel⟩, by decide +kernel, by decide⟩
theorem kyX5_off : aw_Y yX5_off cX5_off 8 (some .long) 4 := ⟨kcX5_off, knX5, ⟨by decide +kernel, by decide +kernel⟩, by decide +kernel, by decide⟩
theorem kyX5_alike : aw_Y yX5_alike cX5_alike 3 (some .int) 1 := ⟨kcX5_alike, knX5, ⟨by decide +kernel, by decide +kernel⟩, by decide +kernel, by decide⟩
theorem kyX5_levelByLot : aw_Y yX5_levelByLot cX5_levelByLot 7 (some .long) 2 := ⟨kcX5_levelByLot, knX5, ⟨by decide +kernel, by decide +kernel⟩, by decide +kernel, by decide⟩
theorem kyX5_drawn : aw_Y yX5_drawn cX5_drawn 3 (some .long) 2 := ⟨kcX5_drawn, knX5, ⟨by decide +kernel, by decide +kernel⟩, by decide +kernel, by decide⟩
theorem kyX5_chance : aw_Y yX5_chance cX5_chance 8 (some .int) 5 := ⟨kcX5_chance, knX5, ⟨by decide +kernel, by decide +kernel⟩, by decide +kernel, by decide⟩
theorem kyX5_isByte : aw_Y yX5_isByte cX5_isByte 1 (some .boolean) 1 := ⟨kcX5_isByte, knX5, ⟨by decide +kernel, by decide +kernel⟩, by decide +kernel, by decide⟩
theorem kyX5_feed : aw_Y yX5_feed cX5_feed 8 (some .int) 6 := ⟨kcX5_feed, knX5, ⟨by decide +kernel, by decide +kernel⟩, by decide +kernel, by decide⟩
theorem kyX5_doClause : aw_Y yX5_doClause cX5_doClause 6 (some .int) 2 := ⟨kcX5_doClause, knX5, ⟨by decide +kernel, by decide +kernel⟩, by decide +kernel, by decide⟩
theorem kyX5_text : aw_Y yX5_text cX5_text 6 (some .int) 0 := ⟨kcX5_text, knX5, ⟨by decide +kernel, by decide +kernel⟩, by decide +kernel, by decide⟩
theorem kyX5_image : aw_Y yX5_image cX5_image 1 (some .int) 0 := ⟨kcX5_image, knX5, ⟨by decide +kernel, by decide +kernel⟩, by decide +kernel, by decide⟩
theorem kyX5_back : aw_Y yX5_back cX5_back 1 (some .int) 0 := ⟨kcX5_back, knX5, ⟨by decide +kernel, by decide +kernel⟩, by decide +kernel, by decide⟩
theorem kyX5_partFrom : aw_Y yX5_partFrom cX5_partFrom 3 (some .int) 2 := ⟨kcX5_partFrom, knX5, ⟨by decide +kernel, by decide +kernel⟩, by decide +kernel, by decide⟩
theorem kyX5_load : aw_Y yX5_load cX5_load 8 (some .int) 4 := ⟨kcX5_load, knX5, ⟨by decide +kernel, by decide +kernel⟩, by decide +kernel, by decide⟩
theorem kyX5_count : aw_Y yX5_count cX5_count 2 (some .int) 1 := ⟨kcX5_count, knX5, ⟨by decide +kernel, by decide +kernel⟩, by decide +kernel, by decide⟩
theorem kyX5_sheet : aw_Y yX5_sheet cX5_sheet 4 (some .int) 3 := ⟨kcX5_sheet, knX5, ⟨by decide +kernel, by decide +kernel⟩, by decide +kernel, by decide⟩
theorem kyX5_put : aw_Y yX5_put cX5_put 6 (some .int) 3 := ⟨kcX5_put, knX5, ⟨by decide +kernel, by decide +kernel⟩, by decide +kernel, by decide⟩
theorem kyX5_item : aw_Y yX5_item cX5_item 3 (some .long) 2 := ⟨kcX5_item, knX5, ⟨by decide +kernel, by decide +kernel⟩, by decide +kernel, by decide⟩
theorem kyX5_copy : aw_Y yX5_copy cX5_copy 8 (some .int) 5 := ⟨kcX5_copy, knX5, ⟨by decide +kernel, by decide +kernel⟩, by decide +kernel, by decide⟩
theorem kyX6_init : aw_Y yX6_init cX6_init 1 none 0 := ⟨kcX6_init, knX6, ⟨by decide +kernel, by decide +kernel⟩, by decide +kernel, by decide⟩
theorem kyX6_isIn : aw_Y yX6_isIn cX6_isIn 6 (some .boolean) 3 := ⟨kcX6_isIn, knX6, ⟨by decide +kernel, by decide +kernel⟩, by decide +kernel, by decide⟩
theorem kyX6_isPart : aw_Y yX6_isPart cX6_isPart 2 (some .boolean) 1 := ⟨kcX6_isPart, knX6, ⟨by decide +kernel, by decide +kernel⟩, by decide +kernel, by decide⟩
theorem kyX6_at : aw_Y yX6_at cX6_at 3 (some .int) 2 := ⟨kcX6_at, knX6, ⟨by decide +kernel, by decide +kernel⟩, by decide +kernel, by decide⟩
theorem kyX6_lays : aw_Y yX6_lays cX6_lays 4 none 3 := ⟨kcX6_lays, knX6, ⟨by decide +kernel, by decide +kernel⟩, by decide +kernel, by decide⟩
theorem kyX6_isLine : aw_Y yX6_isLine cX6_isLine 1 (some .boolean) 1 := ⟨kcX6_isLine, knX6, ⟨by decide +kernel, by decide +kernel⟩, by decide +kernel, by decide⟩
theorem kyX6_mayBe : aw_Y yX6_mayBe cX6_mayBe 2 (some .boolean) 2 := ⟨kcX6_mayBe, knX6, ⟨by decide +kernel, by decide +kernel⟩, by decide +kernel, by decide⟩
theorem kyX6_part : aw_Y yX6_part cX6_part 6 (some .int) 4 := ⟨kcX6_part, knX6, ⟨by decide +kernel, by decide +kernel⟩, by decide +kernel, by decide⟩
theorem kyX6_drop : aw_Y yX6_drop cX6_drop 1 (some .int) 0 := ⟨kcX6_drop, knX6, ⟨by decide +kernel, by decide +kernel⟩, by decide +kernel, by decide⟩
theorem kyX6_gear : aw_Y yX6_gear cX6_gear 5 (some .int) 3 := ⟨kcX6_gear, knX6, ⟨by decide +kernel, by decide +kernel⟩, by decide +kernel, by decide⟩
theorem kyX6_ungear : aw_Y yX6_ungear cX6_ungear 2 (some .int) 1 := ⟨kcX6_ungear, knX6, ⟨by decide +kernel, by decide +kernel⟩, by decide +kernel, by decide⟩
theorem kyX6_shaft : aw_Y yX6_shaft cX6_shaft 3 (some .int) 1 := ⟨kcX6_shaft, knX6, ⟨by decide +kernel, by decide +kernel⟩, by decide +kernel, by decide⟩
theorem kyX6_becomes : aw_Y yX6_becomes cX6_becomes 5 (some .int) 3 := ⟨kcX6_becomes, knX6, ⟨by decide +kernel, by decide +kernel⟩, by decide +kernel, by decide⟩
theorem kyX6_set : aw_Y yX6_set cX6_set 4 (some .int) 3 := ⟨kcX6_set, knX6, ⟨by decide +kernel, by decide +kernel⟩, by decide +kernel, by decide⟩
theorem kyX6_kind : aw_Y yX6_kind cX6_kind 3 (some .int) 2 := ⟨kcX6_kind, knX6, ⟨by decide +kernel, by decide +kernel⟩, by decide +kernel, by decide⟩
theorem kyX6_of : aw_Y yX6_of cX6_of 4 (some .int) 2 := ⟨kcX6_of, knX6, ⟨by decide +kernel, by decide +kernel⟩, by decide +kernel, by decide⟩
theorem kyX6_above : aw_Y yX6_above cX6_above 1 (some .int) 1 := ⟨kcX6_above, knX6, ⟨by decide +kernel, by decide +kernel⟩, by decide +kernel, by decide⟩
theorem kyX6_taken : aw_Y yX6_taken cX6_taken 4 (some .int) 2 := ⟨kcX6_taken, knX6, ⟨by decide +kernel, by decide +kernel⟩, by decide +kernel, by decide⟩
theorem kyX6_why : aw_Y yX6_why cX6_why 2 (some .int) 2 := ⟨kcX6_why, knX6, ⟨by decide +kernel, by decide +kernel⟩, by decide +kernel, by decide⟩
theorem kyX6_jamOf : aw_Y yX6_jamOf cX6_jamOf 3 (some .int) 1 := ⟨kcX6_jamOf, knX6, ⟨by decide +kernel, by decide +kernel⟩, by decide +kernel, by decide⟩
theorem kyX6_jam : aw_Y yX6_jam cX6_jam 6 (some .int) 2 := ⟨kcX6_jam, knX6, ⟨by decide +kernel, by decide +kernel⟩, by decide +kernel, by decide⟩
theorem kyX6_divisor : aw_Y yX6_divisor cX6_divisor 10 (some .long) 2 := ⟨kcX6_divisor, knX6, ⟨by decide +kernel, by decide +kernel⟩, by decide +kernel, by decide⟩
theorem kyX6_lowest : aw_Y yX6_lowest cX6_lowest 7 (some .long) 3 := ⟨kcX6_lowest, knX6, ⟨by decide +kernel, by decide +kernel⟩, by decide +kernel, by decide⟩
theorem kyX6_speedAbove : aw_Y yX6_speedAbove cX6_speedAbove 5 (some .long) 1 := ⟨kcX6_speedAbove, knX6, ⟨by decide +kernel, by decide +kernel⟩, by decide +kernel, by decide⟩
theorem kyX6_speedBelow : aw_Y yX6_speedBelow cX6_speedBelow 5 (some .long) 1 := ⟨kcX6_speedBelow, knX6, ⟨by decide +kernel, by decide +kernel⟩, by decide +kernel, by decide⟩
theorem kyX6_speed : aw_Y yX6_speed cX6_speed 3 (some .long) 2 := ⟨kcX6_speed, knX6, ⟨by decide +kernel, by decide +kernel⟩, by decide +kernel, by decide⟩
theorem kyX6_wayOf : aw_Y yX6_wayOf cX6_wayOf 7 (some .long) 2 := ⟨kcX6_wayOf, knX6, ⟨by decide +kernel, by decide +kernel⟩, by decide +kernel, by decide⟩
theorem kyX6_placeOf : aw_Y yX6_placeOf cX6_placeOf 3 (some .int) 2 := ⟨kcX6_placeOf, knX6, ⟨by decide +kernel, by decide +kernel⟩, by decide +kernel, by decide⟩
theorem kyX6_shapeOf : aw_Y yX6_shapeOf cX6_shapeOf 5 (some .int) 2 := ⟨kcX6_shapeOf, knX6, ⟨by decide +kernel, by decide +kernel⟩, by decide +kernel, by decide⟩
theorem kyX6_heightBy : aw_Y yX6_heightBy cX6_heightBy 3 (some .long) 2 := ⟨kcX6_heightBy, knX6, ⟨by decide +kernel, by decide +kernel⟩, by decide +kernel, by decide⟩
theorem kyX6_sumAt : aw_Y yX6_sumAt cX6_sumAt 5 (some .long) 1 := ⟨kcX6_sumAt, knX6, ⟨by decide +kernel, by decide +kernel⟩, by decide +kernel, by decide⟩
theorem kyX6_isTick : aw_Y yX6_isTick cX6_isTick 1 (some .boolean) 1 := ⟨kcX6_isTick, knX6, ⟨by decide +kernel, by decide +kernel⟩, by decide +kernel, by decide⟩
theorem kyX6_turn : aw_Y yX6_turn cX6_turn 2 (some .int) 1 := ⟨kcX6_turn, knX6, ⟨by decide +kernel, by decide +kernel⟩, by decide +kernel, by decide⟩
theorem kyX6_height : aw_Y yX6_height cX6_height 1 (some .long) 0 := ⟨kcX6_height, knX6, ⟨by decide +kernel, by decide +kernel⟩, by decide +kernel, by decide⟩
theorem kyX6_heightAt : aw_Y yX6_heightAt cX6_heightAt 2 (some .long) 1 := ⟨kcX6_heightAt, knX6, ⟨by decide +kernel, by decide +kernel⟩, by decide +kernel, by decide⟩
theorem kyX6_heightOf : aw_Y yX6_heightOf cX6_heightOf 3 (some .long) 2 := ⟨kcX6_heightOf, knX6, ⟨by decide +kernel, by decide +kernel⟩, by decide +kernel, by decide⟩
theorem kyX6_place : aw_Y yX6_place cX6_place 3 (some .int) 2 := ⟨kcX6_place, knX6, ⟨by decide +kernel, by decide +kernel⟩, by decide +kernel, by decide⟩
theorem kyJ13_compare_74951 : aw_Y yJ13_compare_74951 cJ13_compare_74951 4 (some .int) 2 := ⟨kcJ13_compare_74951, knJ13, ⟨by decide +kernel, by decide +kernel⟩, by decide +kernel, by decide⟩
theorem kyX6_looks : aw_Y yX6_looks cX6_looks 14 none 4 := ⟨kcX6_looks, knX6, ⟨by decide +kernel, by decide +kernel⟩, by decide +kernel, by decide⟩
theorem kyX6_areWaters : aw_Y yX6_areWaters cX6_areWaters 3 (some .boolean) 3 := ⟨kcX6_areWaters, knX6, ⟨by decide +kernel, by decide +kernel⟩, by decide +kernel, by decide⟩
theorem kyX6_waters : aw_Y yX6_waters cX6_waters 4 (some .int) 3 := ⟨kcX6_waters, knX6, ⟨by decide +kernel, by decide +kernel⟩, by decide +kernel, by decide⟩
theorem kyX6_water : aw_Y yX6_water cX6_water 5 (some .int) 4 := ⟨kcX6_water, knX6, ⟨by decide +kernel, by decide +kernel⟩, by decide +kernel, by decide⟩
theorem kyX6_isSheet : aw_Y yX6_isSheet cX6_isSheet 1 (some .boolean) 1 := ⟨kcX6_isSheet, knX6, ⟨by decide +kernel, by decide +kernel⟩, by decide +kernel, by decide⟩
theorem kyX6_itemOf : aw_Y yX6_itemOf cX6_itemOf 3 (some .long) 2 := ⟨kcX6_itemOf, knX6, ⟨by decide +kernel, by decide +kernel⟩, by decide +kernel, by decide⟩
theorem kyX6_firstOther : aw_Y yX6_firstOther cX6_firstOther 4 (some .int) 2 := ⟨kcX6_firstOther, knX6, ⟨by decide +kernel, by decide +kernel⟩, by decide +kernel, by decide⟩
theorem kyX6_wrongBy : aw_Y yX6_wrongBy cX6_wrongBy 9 (some .int) 4 := ⟨kcX6_wrongBy, knX6, ⟨by decide +kernel, by decide +kernel⟩, by decide +kernel, by decide⟩
theorem kyX6_tells : aw_Y yX6_tells cX6_tells 4 (some .int) 3 := ⟨kcX6_tells, knX6, ⟨by decide +kernel, by decide +kernel⟩, by decide +kernel, by decide⟩
theorem kyX6_areHighs : aw_Y yX6_areHighs cX6_areHighs 12 (some .boolean) 4 := ⟨kcX6_areHighs, knX6, ⟨by decide +kernel, by decide +kernel⟩, by decide +kernel, by decide⟩
theorem kyX6_refound : aw_Y yX6_refound cX6_refound 10 (some .int) 5 := ⟨kcX6_refound, knX6, ⟨by decide +kernel, by decide +kernel⟩, by decide +kernel, by decide⟩
theorem kyX6_sheet : aw_Y yX6_sheet cX6_sheet 5 (some .int) 3 := ⟨kcX6_sheet, knX6, ⟨by decide +kernel, by decide +kernel⟩, by decide +kernel, by decide⟩
theorem kyX6_film : aw_Y yX6_film cX6_film 6 (some .int) 3 := ⟨kcX6_film, knX6, ⟨by decide +kernel, by decide +kernel⟩, by decide +kernel, by decide⟩
theorem kyX6_nearest : aw_Y yX6_nearest cX6_nearest 11 (some .int) 2 := ⟨kcX6_nearest, knX6, ⟨by decide +kernel, by decide +kernel⟩, by decide +kernel, by decide⟩
theorem kyX6_off : aw_Y yX6_off cX6_off 11 (some .long) 4 := ⟨kcX6_off, knX6, ⟨by decide +kernel, by decide +kernel⟩, by decide +kernel, by decide⟩
theorem kyX6_areAlike : aw_Y yX6_areAlike cX6_areAlike 3 (some .boolean) 2 := ⟨kcX6_areAlike, knX6, ⟨by decide +kernel, by decide +kernel⟩, by decide +kernel, by decide⟩
theorem kyX6_alike : aw_Y yX6_alike cX6_alike 7 (some .int) 1 := ⟨kcX6_alike, knX6, ⟨by decide +kernel, by decide +kernel⟩, by decide +kernel, by decide⟩
theorem kyX6_byLot : aw_Y yX6_byLot cX6_byLot 7 (some .long) 2 := ⟨kcX6_byLot, knX6, ⟨by decide +kernel, by decide +kernel⟩, by decide +kernel, by decide⟩
theorem kyX6_drawn : aw_Y yX6_drawn cX6_drawn 3 (some .long) 2 := ⟨kcX6_drawn, knX6, ⟨by decide +kernel, by decide +kernel⟩, by decide +kernel, by decide⟩
theorem kyX6_chance : aw_Y yX6_chance cX6_chance 8 (some .int) 5 := ⟨kcX6_chance, knX6, ⟨by decide +kernel, by decide +kernel⟩, by decide +kernel, by decide⟩
theorem kyX6_isByte : aw_Y yX6_isByte cX6_isByte 1 (some .boolean) 1 := ⟨kcX6_isByte, knX6, ⟨by decide +kernel, by decide +kernel⟩, by decide +kernel, by decide⟩
theorem kyX6_feed : aw_Y yX6_feed cX6_feed 8 (some .int) 6 := ⟨kcX6_feed, knX6, ⟨by decide +kernel, by decide +kernel⟩, by decide +kernel, by decide⟩
theorem kyX6_byteAt : aw_Y yX6_byteAt cX6_byteAt 2 (some .int) 1 := ⟨kcX6_byteAt, knX6, ⟨by decide +kernel, by decide +kernel⟩, by decide +kernel, by decide⟩
theorem kyX6_isLetter : aw_Y yX6_isLetter cX6_isLetter 1 (some .boolean) 1 := ⟨kcX6_isLetter, knX6, ⟨by decide +kernel, by decide +kernel⟩, by decide +kernel, by decide⟩
theorem kyX6_isDigit : aw_Y yX6_isDigit cX6_isDigit 1 (some .boolean) 1 := ⟨kcX6_isDigit, knX6, ⟨by decide +kernel, by decide +kernel⟩, by decide +kernel, by decide⟩
theorem kyX6_skips : aw_Y yX6_skips cX6_skips 2 none 0 := ⟨kcX6_skips, knX6, ⟨by decide +kernel, by decide +kernel⟩, by decide +kernel, by decide⟩
theorem kyX6_wordHere : aw_Y yX6_wordHere cX6_wordHere 4 (some .int) 0 := ⟨kcX6_wordHere, knX6, ⟨by decide +kernel, by decide +kernel⟩, by decide +kernel, by decide⟩
theorem kyX6_manyOf : aw_Y yX6_manyOf cX6_manyOf 1 (some .int) 1 := ⟨kcX6_manyOf, knX6, ⟨by decide +kernel, by decide +kernel⟩, by decide +kernel, by decide⟩
theorem kyX6_numberHere : aw_Y yX6_numberHere cX6_numberHere 3 (some .int) 0 := ⟨kcX6_numberHere, knX6, ⟨by decide +kernel, by decide +kernel⟩, by decide +kernel, by decide⟩
theorem kyX6_clause : aw_Y yX6_clause cX6_clause 3 (some .int) 0 := ⟨kcX6_clause, knX6, ⟨by decide +kernel, by decide +kernel⟩, by decide +kernel, by decide⟩
theorem kyX6_isDone : aw_Y yX6_isDone cX6_isDone 4 (some .boolean) 1 := ⟨kcX6_isDone, knX6, ⟨by decide +kernel, by decide +kernel⟩, by decide +kernel, by decide⟩
theorem kyX6_goes : aw_Y yX6_goes cX6_goes 4 (some .int) 1 := ⟨kcX6_goes, knX6, ⟨by decide +kernel, by decide +kernel⟩, by decide +kernel, by decide⟩
theorem kyX6_text : aw_Y yX6_text cX6_text 2 (some .int) 0 := ⟨kcX6_text, knX6, ⟨by decide +kernel, by decide +kernel⟩, by decide +kernel, by decide⟩
theorem kyX6_image : aw_Y yX6_image cX6_image 1 (some .int) 0 := ⟨kcX6_image, knX6, ⟨by decide +kernel, by decide +kernel⟩, by decide +kernel, by decide⟩
theorem kyX6_back : aw_Y yX6_back cX6_back 1 (some .int) 0 := ⟨kcX6_back, knX6, ⟨by decide +kernel, by decide +kernel⟩, by decide +kernel, by decide⟩
theorem kyX6_load : aw_Y yX6_load cX6_load 10 (some .int) 4 := ⟨kcX6_load, knX6, ⟨by decide +kernel, by decide +kernel⟩, by decide +kernel, by decide⟩
theorem kyX6_pairsOfAll : aw_Y yX6_pairsOfAll cX6_pairsOfAll 3 (some .int) 0 := ⟨kcX6_pairsOfAll, knX6, ⟨by decide +kernel, by decide +kernel⟩, by decide +kernel, by decide⟩
theorem kyX6_jammed : aw_Y yX6_jammed cX6_jammed 3 (some .int) 0 := ⟨kcX6_jammed, knX6, ⟨by decide +kernel, by decide +kernel⟩, by decide +kernel, by decide⟩
theorem kyX6_count : aw_Y yX6_count cX6_count 2 (some .int) 1 := ⟨kcX6_count, knX6, ⟨by decide +kernel, by decide +kernel⟩, by decide +kernel, by decide⟩
theorem kyX6_put : aw_Y yX6_put cX6_put 5 (some .int) 3 := ⟨kcX6_put, knX6, ⟨by decide +kernel, by decide +kernel⟩, by decide +kernel, by decide⟩
theorem kyX6_item : aw_Y yX6_item cX6_item 3 (some .long) 2 := ⟨kcX6_item, knX6, ⟨by decide +kernel, by decide +kernel⟩, by decide +kernel, by decide⟩
theorem kyX6_copy : aw_Y yX6_copy cX6_copy 6 (some .int) 5 := ⟨kcX6_copy, knX6, ⟨by decide +kernel, by decide +kernel⟩, by decide +kernel, by decide⟩
theorem kyJ9_abs_067f4 : aw_Y yJ9_abs_067f4 cJ9_abs_067f4 2 (some .long) 1 := ⟨kcJ9_abs_067f4, knJ9, ⟨by decide +kernel, by decide +kernel⟩, by decide +kernel, by decide⟩
theorem kyJ9_max_7cf53 : aw_Y yJ9_max_7cf53 cJ9_max_7cf53 2 (some .int) 2 := ⟨kcJ9_max_7cf53, knJ9, ⟨by decide +kernel, by decide +kernel⟩, by decide +kernel, by decide⟩
theorem kyJ9_min_7cf53 : aw_Y yJ9_min_7cf53 cJ9_min_7cf53 2 (some .int) 2 := ⟨kcJ9_min_7cf53, knJ9, ⟨by decide +kernel, by decide +kernel⟩, by decide +kernel, by decide⟩
theorem gX0_0 : aw_Fd 0 0 RX0 "level" "J" 1 false := ⟨TX0, 2, tyX0, rfl, by decide, rfl, bgX0, tyX0_ok, nmX0, rfl, rfl⟩
theorem gX0_1 : aw_Fd 0 1 RX0 "way" "I" 0 false := ⟨TX0, 2, tyX0, rfl, by decide, rfl, bgX0, tyX0_ok, nmX0, rfl, rfl⟩
theorem gX1_0 : aw_Fd 1 0 RX1 "row" "[J" 2 true := ⟨TX1, 3, tyX1, rfl, by decide, rfl, bgX1, tyX1_ok, nmX1, rfl, Or.inr ⟨_, rfl⟩⟩
theorem gX1_1 : aw_Fd 1 1 RX1 "sort" "I" 0 false := ⟨TX1, 3, tyX1, rfl, by decide, rfl, bgX1, tyX1_ok, nmX1, rfl, rfl⟩
theorem gX1_2 : aw_Fd 1 2 RX1 "size" "I" 0 false := ⟨TX1, 3, tyX1, rfl, by decide, rfl, bgX1, tyX1_ok, nmX1, rfl, rfl⟩
theorem gX2_0 : aw_Fd 2 0 RX2 "bytes" "[I" 2 true := ⟨TX2, 8, tyX2, rfl, by decide, rfl, bgX2, tyX2_ok, nmX2, rfl, Or.inr ⟨_, rfl⟩⟩
theorem gX2_1 : aw_Fd 2 1 RX2 "size" "I" 0 false := ⟨TX2, 8, tyX2, rfl, by decide, rfl, bgX2, tyX2_ok, nmX2, rfl, rfl⟩
theorem gX2_2 : aw_Fd 2 2 RX2 "sort" "I" 0 false := ⟨TX2, 8, tyX2, rfl, by decide, rfl, bgX2, tyX2_ok, nmX2, rfl, rfl⟩
theorem gX2_3 : aw_Fd 2 3 RX2 "from" "I" 0 false := ⟨TX2, 8, tyX2, rfl, by decide, rfl, bgX2, tyX2_ok, nmX2, rfl, rfl⟩
theorem gX2_4 : aw_Fd 2 4 RX2 "to" "I" 0 false := ⟨TX2, 8, tyX2, rfl, by decide, rfl, bgX2, tyX2_ok, nmX2, rfl, rfl⟩
theorem gX2_5 : aw_Fd 2 5 RX2 "said" "[I" 2 true := ⟨TX2, 8, tyX2, rfl, by decide, rfl, bgX2, tyX2_ok, nmX2, rfl, Or.inr ⟨_, rfl⟩⟩
theorem gX2_6 : aw_Fd 2 6 RX2 "saidSize" "I" 0 false := ⟨TX2, 8, tyX2, rfl, by decide, rfl, bgX2, tyX2_ok, nmX2, rfl, rfl⟩
theorem gX2_7 : aw_Fd 2 7 RX2 "clauses" "I" 0 false := ⟨TX2, 8, tyX2, rfl, by decide, rfl, bgX2, tyX2_ok, nmX2, rfl, rfl⟩
theorem gX3_0 : aw_Fd 3 0 RX3 "traits" "[I" 2 true := ⟨TX3, 6, tyX3, rfl, by decide, rfl, bgX3, tyX3_ok, nmX3, rfl, Or.inr ⟨_, rfl⟩⟩
theorem gX3_1 : aw_Fd 3 1 RX3 "a" "[I" 2 true := ⟨TX3, 6, tyX3, rfl, by decide, rfl, bgX3, tyX3_ok, nmX3, rfl, Or.inr ⟨_, rfl⟩⟩
theorem gX3_2 : aw_Fd 3 2 RX3 "b" "[I" 2 true := ⟨TX3, 6, tyX3, rfl, by decide, rfl, bgX3, tyX3_ok, nmX3, rfl, Or.inr ⟨_, rfl⟩⟩
theorem gX3_3 : aw_Fd 3 3 RX3 "pairs" "I" 0 false := ⟨TX3, 6, tyX3, rfl, by decide, rfl, bgX3, tyX3_ok, nmX3, rfl, rfl⟩
theorem gX3_4 : aw_Fd 3 4 RX3 "above" "J" 1 false := ⟨TX3, 6, tyX3, rfl, by decide, rfl, bgX3, tyX3_ok, nmX3, rfl, rfl⟩
theorem gX3_5 : aw_Fd 3 5 RX3 "below" "J" 1 false := ⟨TX3, 6, tyX3, rfl, by decide, rfl, bgX3, tyX3_ok, nmX3, rfl, rfl⟩
theorem gX4_0 : aw_Fd 4 0 RX4 "wheels" "[LTideWheels$Wheel;" 2 true := ⟨TX4, 4, tyX4, rfl, by decide, rfl, bgX4, tyX4_ok, nmX4, rfl, Or.inr ⟨_, rfl⟩⟩
theorem gX4_1 : aw_Fd 4 1 RX4 "parts" "I" 0 false := ⟨TX4, 4, tyX4, rfl, by decide, rfl, bgX4, tyX4_ok, nmX4, rfl, rfl⟩
theorem gX4_2 : aw_Fd 4 2 RX4 "shaft" "I" 0 false := ⟨TX4, 4, tyX4, rfl, by decide, rfl, bgX4, tyX4_ok, nmX4, rfl, rfl⟩
theorem gX4_3 : aw_Fd 4 3 RX4 "tick" "I" 0 false := ⟨TX4, 4, tyX4, rfl, by decide, rfl, bgX4, tyX4_ok, nmX4, rfl, rfl⟩
theorem gX5_0 : aw_Fd 5 0 RX5 "works" "LTideWheels$Works;" 2 true := ⟨TX5, 8, tyX5, rfl, by decide, rfl, bgX5, tyX5_ok, nmX5, rfl, Or.inl ⟨_, rfl⟩⟩
theorem gX5_1 : aw_Fd 5 1 RX5 "kept" "LTideWheels$Works;" 2 true := ⟨TX5, 8, tyX5, rfl, by decide, rfl, bgX5, tyX5_ok, nmX5, rfl, Or.inl ⟨_, rfl⟩⟩
theorem gX5_2 : aw_Fd 5 2 RX5 "isKept" "Z" 3 false := ⟨TX5, 8, tyX5, rfl, by decide, rfl, bgX5, tyX5_ok, nmX5, rfl, rfl⟩
theorem gX5_3 : aw_Fd 5 3 RX5 "sheets" "[LTideWheels$Sheet;" 2 true := ⟨TX5, 8, tyX5, rfl, by decide, rfl, bgX5, tyX5_ok, nmX5, rfl, Or.inr ⟨_, rfl⟩⟩
theorem gX5_4 : aw_Fd 5 4 RX5 "tape" "LTideWheels$Tape;" 2 true := ⟨TX5, 8, tyX5, rfl, by decide, rfl, bgX5, tyX5_ok, nmX5, rfl, Or.inl ⟨_, rfl⟩⟩
theorem gX5_5 : aw_Fd 5 5 RX5 "thought" "LTideWheels$Wheel;" 2 true := ⟨TX5, 8, tyX5, rfl, by decide, rfl, bgX5, tyX5_ok, nmX5, rfl, Or.inl ⟨_, rfl⟩⟩
theorem gX5_6 : aw_Fd 5 6 RX5 "rest" "[J" 2 true := ⟨TX5, 8, tyX5, rfl, by decide, rfl, bgX5, tyX5_ok, nmX5, rfl, Or.inr ⟨_, rfl⟩⟩
theorem gX5_7 : aw_Fd 5 7 RX5 "flow" "LTideWheels$Flow;" 2 true := ⟨TX5, 8, tyX5, rfl, by decide, rfl, bgX5, tyX5_ok, nmX5, rfl, Or.inl ⟨_, rfl⟩⟩
theorem gX6_0 : aw_Fd 6 0 RX6 "s" "[I" 2 true := ⟨TX6, 18, tyX6, rfl, by decide, rfl, bgX6, tyX6_ok, nmX6, rfl, Or.inr ⟨_, rfl⟩⟩
theorem gX6_1 : aw_Fd 6 1 RX6 "image" "[I" 2 true := ⟨TX6, 18, tyX6, rfl, by decide, rfl, bgX6, tyX6_ok, nmX6, rfl, Or.inr ⟨_, rfl⟩⟩
theorem gX6_2 : aw_Fd 6 2 RX6 "hasImage" "Z" 3 false := ⟨TX6, 18, tyX6, rfl, by decide, rfl, bgX6, tyX6_ok, nmX6, rfl, rfl⟩
theorem gX6_3 : aw_Fd 6 3 RX6 "found" "I" 0 false := ⟨TX6, 18, tyX6, rfl, by decide, rfl, bgX6, tyX6_ok, nmX6, rfl, rfl⟩
theorem gX6_4 : aw_Fd 6 4 RX6 "bestTick" "I" 0 false := ⟨TX6, 18, tyX6, rfl, by decide, rfl, bgX6, tyX6_ok, nmX6, rfl, rfl⟩
theorem gX6_5 : aw_Fd 6 5 RX6 "kth" "I" 0 false := ⟨TX6, 18, tyX6, rfl, by decide, rfl, bgX6, tyX6_ok, nmX6, rfl, rfl⟩
theorem gX6_6 : aw_Fd 6 6 RX6 "sorts" "[I" 2 true := ⟨TX6, 18, tyX6, rfl, by decide, rfl, bgX6, tyX6_ok, nmX6, rfl, Or.inr ⟨_, rfl⟩⟩
theorem gX6_7 : aw_Fd 6 7 RX6 "sizes" "[I" 2 true := ⟨TX6, 18, tyX6, rfl, by decide, rfl, bgX6, tyX6_ok, nmX6, rfl, Or.inr ⟨_, rfl⟩⟩
theorem gX6_8 : aw_Fd 6 8 RX6 "items" "[J" 2 true := ⟨TX6, 18, tyX6, rfl, by decide, rfl, bgX6, tyX6_ok, nmX6, rfl, Or.inr ⟨_, rfl⟩⟩
theorem gX6_9 : aw_Fd 6 9 RX6 "others" "[J" 2 true := ⟨TX6, 18, tyX6, rfl, by decide, rfl, bgX6, tyX6_ok, nmX6, rfl, Or.inr ⟨_, rfl⟩⟩
theorem gX6_10 : aw_Fd 6 10 RX6 "phases" "[I" 2 true := ⟨TX6, 18, tyX6, rfl, by decide, rfl, bgX6, tyX6_ok, nmX6, rfl, Or.inr ⟨_, rfl⟩⟩
theorem gX6_11 : aw_Fd 6 11 RX6 "tape" "[I" 2 true := ⟨TX6, 18, tyX6, rfl, by decide, rfl, bgX6, tyX6_ok, nmX6, rfl, Or.inr ⟨_, rfl⟩⟩
theorem gX6_12 : aw_Fd 6 12 RX6 "taped" "I" 0 false := ⟨TX6, 18, tyX6, rfl, by decide, rfl, bgX6, tyX6_ok, nmX6, rfl, rfl⟩
theorem gX6_13 : aw_Fd 6 13 RX6 "here" "I" 0 false := ⟨TX6, 18, tyX6, rfl, by decide, rfl, bgX6, tyX6_ok, nmX6, rfl, rfl⟩
theorem gX6_14 : aw_Fd 6 14 RX6 "end" "I" 0 false := ⟨TX6, 18, tyX6, rfl, by decide, rfl, bgX6, tyX6_ok, nmX6, rfl, rfl⟩
theorem gX6_15 : aw_Fd 6 15 RX6 "numbers" "[I" 2 true := ⟨TX6, 18, tyX6, rfl, by decide, rfl, bgX6, tyX6_ok, nmX6, rfl, Or.inr ⟨_, rfl⟩⟩
theorem gX6_16 : aw_Fd 6 16 RX6 "words" "Ljava/lang/String;" 2 true := ⟨TX6, 18, tyX6, rfl, by decide, rfl, bgX6, tyX6_ok, nmX6, rfl, Or.inl ⟨_, rfl⟩⟩
theorem gX6_17 : aw_Fd 6 17 RX6 "moved" "[J" 2 true := ⟨TX6, 18, tyX6, rfl, by decide, rfl, bgX6, tyX6_ok, nmX6, rfl, Or.inr ⟨_, rfl⟩⟩
theorem li_m1 : Int32.ofInt (-1) = -1 := by decide
theorem li_0 : Int32.ofInt (0) = 0 := by decide
theorem li_1 : Int32.ofInt (1) = 1 := by decide
theorem li_2 : Int32.ofInt (2) = 2 := by decide
theorem li_3 : Int32.ofInt (3) = 3 := by decide
theorem li_4 : Int32.ofInt (4) = 4 := by decide
theorem li_5 : Int32.ofInt (5) = 5 := by decide
theorem li_7 : Int32.ofInt (7) = 7 := by decide
theorem lb_m100 : (Int8.ofInt (-100)).toInt32 = -100 := by decide
theorem lb_m14 : (Int8.ofInt (-14)).toInt32 = -14 := by decide
theorem lb_m13 : (Int8.ofInt (-13)).toInt32 = -13 := by decide
theorem lb_m12 : (Int8.ofInt (-12)).toInt32 = -12 := by decide
theorem lb_m11 : (Int8.ofInt (-11)).toInt32 = -11 := by decide
theorem lb_m4 : (Int8.ofInt (-4)).toInt32 = -4 := by decide
theorem lb_m3 : (Int8.ofInt (-3)).toInt32 = -3 := by decide
theorem lb_m2 : (Int8.ofInt (-2)).toInt32 = -2 := by decide
theorem lb_6 : (Int8.ofInt (6)).toInt32 = 6 := by decide
theorem lb_7 : (Int8.ofInt (7)).toInt32 = 7 := by decide
theorem lb_8 : (Int8.ofInt (8)).toInt32 = 8 := by decide
theorem lb_9 : (Int8.ofInt (9)).toInt32 = 9 := by decide
theorem lb_10 : (Int8.ofInt (10)).toInt32 = 10 := by decide
theorem lb_11 : (Int8.ofInt (11)).toInt32 = 11 := by decide
theorem lb_12 : (Int8.ofInt (12)).toInt32 = 12 := by decide
theorem lb_20 : (Int8.ofInt (20)).toInt32 = 20 := by decide
theorem lb_22 : (Int8.ofInt (22)).toInt32 = 22 := by decide
theorem lb_32 : (Int8.ofInt (32)).toInt32 = 32 := by decide
theorem lb_40 : (Int8.ofInt (40)).toInt32 = 40 := by decide
theorem lb_48 : (Int8.ofInt (48)).toInt32 = 48 := by decide
theorem lb_57 : (Int8.ofInt (57)).toInt32 = 57 := by decide
theorem lb_59 : (Int8.ofInt (59)).toInt32 = 59 := by decide
theorem lb_60 : (Int8.ofInt (60)).toInt32 = 60 := by decide
theorem lb_63 : (Int8.ofInt (63)).toInt32 = 63 := by decide
theorem lb_64 : (Int8.ofInt (64)).toInt32 = 64 := by decide
theorem lb_66 : (Int8.ofInt (66)).toInt32 = 66 := by decide
theorem lb_67 : (Int8.ofInt (67)).toInt32 = 67 := by decide
theorem lb_68 : (Int8.ofInt (68)).toInt32 = 68 := by decide
theorem lb_69 : (Int8.ofInt (69)).toInt32 = 69 := by decide
theorem lb_97 : (Int8.ofInt (97)).toInt32 = 97 := by decide
theorem lb_100 : (Int8.ofInt (100)).toInt32 = 100 := by decide
theorem lb_122 : (Int8.ofInt (122)).toInt32 = 122 := by decide
theorem ls_160 : (Int16.ofInt (160)).toInt32 = 160 := by decide
theorem ls_200 : (Int16.ofInt (200)).toInt32 = 200 := by decide
theorem ls_201 : (Int16.ofInt (201)).toInt32 = 201 := by decide
theorem ls_255 : (Int16.ofInt (255)).toInt32 = 255 := by decide
theorem ls_300 : (Int16.ofInt (300)).toInt32 = 300 := by decide
theorem ls_512 : (Int16.ofInt (512)).toInt32 = 512 := by decide
theorem ls_999 : (Int16.ofInt (999)).toInt32 = 999 := by decide
theorem ls_1000 : (Int16.ofInt (1000)).toInt32 = 1000 := by decide
theorem ls_1023 : (Int16.ofInt (1023)).toInt32 = 1023 := by decide
theorem ls_1024 : (Int16.ofInt (1024)).toInt32 = 1024 := by decide
theorem ls_2000 : (Int16.ofInt (2000)).toInt32 = 2000 := by decide
theorem ls_6553 : (Int16.ofInt (6553)).toInt32 = 6553 := by decide
theorem ls_9999 : (Int16.ofInt (9999)).toInt32 = 9999 := by decide
theorem ls_10000 : (Int16.ofInt (10000)).toInt32 = 10000 := by decide
theorem ls_12345 : (Int16.ofInt (12345)).toInt32 = 12345 := by decide
theorem ll_0 : Int64.ofNat ((0 : Fin 2) : Nat) = 0 := by decide
theorem ll_1 : Int64.ofNat ((1 : Fin 2) : Nat) = 1 := by decide
theorem kx_ac : Cond.native arraycopyName ∈ BG ∧ Cond.static arraycopyName ∈ BG := ⟨bg_of (i := 432) (by decide +kernel) rfl, bg_of (i := 431) (by decide +kernel) rfl⟩
theorem kx_oi : Cond.instanceMethod objectInit ∈ BG ∧ Cond.code objectInit ⟨#[0xb1]⟩ 1 none ∈ BG := ⟨bg_of (i := 58) (by decide +kernel) rfl, bg_of (i := 59) (by decide +kernel) rfl⟩
