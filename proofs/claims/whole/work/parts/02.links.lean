def BG : List Cond := lw_tbl.filter goodWord
theorem bg_of {w : Cond} {i : Nat} (h : lw_tbl[i]? = some w) (hg : goodWord w = true) : w ∈ BG := List.mem_filter.mpr ⟨List.mem_of_getElem? h, hg⟩
theorem kcX0_init : Cond.code yX0_init cX0_init 1 none ∈ BG := bg_of (i := 159) (by decide +kernel) rfl
theorem kiX0_init : Cond.instanceMethod yX0_init ∈ BG := bg_of (i := 158) (by decide +kernel) rfl
theorem kcX0_start : Cond.code yX0_start cX0_start 3 none ∈ BG := bg_of (i := 389) (by decide +kernel) rfl
theorem kiX0_start : Cond.instanceMethod yX0_start ∈ BG := bg_of (i := 387) (by decide +kernel) rfl
theorem kvX0_start : Cond.selects RX0 yX0_start yX0_start ∈ BG := bg_of (i := 388) (by decide +kernel) rfl
theorem kcX0_step : Cond.code yX0_step cX0_step 5 (some .int) ∈ BG := bg_of (i := 393) (by decide +kernel) rfl
theorem kiX0_step : Cond.instanceMethod yX0_step ∈ BG := bg_of (i := 391) (by decide +kernel) rfl
theorem kvX0_step : Cond.selects RX0 yX0_step yX0_step ∈ BG := bg_of (i := 392) (by decide +kernel) rfl
theorem kcX1_init : Cond.code yX1_init cX1_init 1 none ∈ BG := bg_of (i := 173) (by decide +kernel) rfl
theorem kiX1_init : Cond.instanceMethod yX1_init ∈ BG := bg_of (i := 172) (by decide +kernel) rfl
theorem kcX1_isMissing : Cond.code yX1_isMissing cX1_isMissing 1 (some .boolean) ∈ BG := bg_of (i := 412) (by decide +kernel) rfl
theorem kiX1_isMissing : Cond.instanceMethod yX1_isMissing ∈ BG := bg_of (i := 410) (by decide +kernel) rfl
theorem kvX1_isMissing : Cond.selects RX1 yX1_isMissing yX1_isMissing ∈ BG := bg_of (i := 411) (by decide +kernel) rfl
theorem kcX1_canTell : Cond.code yX1_canTell cX1_canTell 1 (some .boolean) ∈ BG := bg_of (i := 408) (by decide +kernel) rfl
theorem kiX1_canTell : Cond.instanceMethod yX1_canTell ∈ BG := bg_of (i := 406) (by decide +kernel) rfl
theorem kvX1_canTell : Cond.selects RX1 yX1_canTell yX1_canTell ∈ BG := bg_of (i := 407) (by decide +kernel) rfl
theorem kcX1_begin : Cond.code yX1_begin cX1_begin 4 none ∈ BG := bg_of (i := 452) (by decide +kernel) rfl
theorem kiX1_begin : Cond.instanceMethod yX1_begin ∈ BG := bg_of (i := 450) (by decide +kernel) rfl
theorem kvX1_begin : Cond.selects RX1 yX1_begin yX1_begin ∈ BG := bg_of (i := 451) (by decide +kernel) rfl
theorem kcX1_holds : Cond.code yX1_holds cX1_holds 4 (some .boolean) ∈ BG := bg_of (i := 460) (by decide +kernel) rfl
theorem kiX1_holds : Cond.instanceMethod yX1_holds ∈ BG := bg_of (i := 458) (by decide +kernel) rfl
theorem kvX1_holds : Cond.selects RX1 yX1_holds yX1_holds ∈ BG := bg_of (i := 459) (by decide +kernel) rfl
theorem kcX1_write : Cond.code yX1_write cX1_write 4 none ∈ BG := bg_of (i := 456) (by decide +kernel) rfl
theorem kiX1_write : Cond.instanceMethod yX1_write ∈ BG := bg_of (i := 454) (by decide +kernel) rfl
theorem kvX1_write : Cond.selects RX1 yX1_write yX1_write ∈ BG := bg_of (i := 455) (by decide +kernel) rfl
theorem kcX2_init : Cond.code yX2_init cX2_init 1 none ∈ BG := bg_of (i := 124) (by decide +kernel) rfl
theorem kiX2_init : Cond.instanceMethod yX2_init ∈ BG := bg_of (i := 123) (by decide +kernel) rfl
theorem kcX2_addByte : Cond.code yX2_addByte cX2_addByte 2 none ∈ BG := bg_of (i := 510) (by decide +kernel) rfl
theorem kiX2_addByte : Cond.instanceMethod yX2_addByte ∈ BG := bg_of (i := 508) (by decide +kernel) rfl
theorem kvX2_addByte : Cond.selects RX2 yX2_addByte yX2_addByte ∈ BG := bg_of (i := 509) (by decide +kernel) rfl
theorem kcX2_byteAt : Cond.code yX2_byteAt cX2_byteAt 2 (some .int) ∈ BG := bg_of (i := 538) (by decide +kernel) rfl
theorem kiX2_byteAt : Cond.instanceMethod yX2_byteAt ∈ BG := bg_of (i := 536) (by decide +kernel) rfl
theorem kvX2_byteAt : Cond.selects RX2 yX2_byteAt yX2_byteAt ∈ BG := bg_of (i := 537) (by decide +kernel) rfl
theorem kcX5_within : Cond.code yX5_within cX5_within 3 (some .boolean) ∈ BG := bg_of (i := 222) (by decide +kernel) rfl
theorem ksX5_within : Cond.static yX5_within ∈ BG := bg_of (i := 221) (by decide +kernel) rfl
theorem kcX2_sortAt : Cond.code yX2_sortAt cX2_sortAt 3 (some .int) ∈ BG := bg_of (i := 534) (by decide +kernel) rfl
theorem kiX2_sortAt : Cond.instanceMethod yX2_sortAt ∈ BG := bg_of (i := 532) (by decide +kernel) rfl
theorem kvX2_sortAt : Cond.selects RX2 yX2_sortAt yX2_sortAt ∈ BG := bg_of (i := 533) (by decide +kernel) rfl
theorem kcX2_behind : Cond.code yX2_behind cX2_behind 4 (some .int) ∈ BG := bg_of (i := 530) (by decide +kernel) rfl
theorem kiX2_behind : Cond.instanceMethod yX2_behind ∈ BG := bg_of (i := 528) (by decide +kernel) rfl
theorem kvX2_behind : Cond.selects RX2 yX2_behind yX2_behind ∈ BG := bg_of (i := 529) (by decide +kernel) rfl
theorem kcX2_next : Cond.code yX2_next cX2_next 1 (some .int) ∈ BG := bg_of (i := 526) (by decide +kernel) rfl
theorem kiX2_next : Cond.instanceMethod yX2_next ∈ BG := bg_of (i := 524) (by decide +kernel) rfl
theorem kvX2_next : Cond.selects RX2 yX2_next yX2_next ∈ BG := bg_of (i := 525) (by decide +kernel) rfl
theorem kcX5_spellingOf : Cond.code yX5_spellingOf cX5_spellingOf 1 (some (.object "java/lang/String")) ∈ BG := bg_of (i := 546) (by decide +kernel) rfl
theorem ksX5_spellingOf : Cond.static yX5_spellingOf ∈ BG := bg_of (i := 545) (by decide +kernel) rfl
theorem kcJ0_coder_7d493 : Cond.code yJ0_coder_7d493 cJ0_coder_7d493 1 (some .byte) ∈ BG := bg_of (i := 564) (by decide +kernel) rfl
theorem kiJ0_coder_7d493 : Cond.instanceMethod yJ0_coder_7d493 ∈ BG := bg_of (i := 562) (by decide +kernel) rfl
theorem kvJ0_coder_7d493 : Cond.selects RJ0 yJ0_coder_7d493 yJ0_coder_7d493 ∈ BG := bg_of (i := 563) (by decide +kernel) rfl
theorem kcJ0_length_8abf5 : Cond.code yJ0_length_8abf5 cJ0_length_8abf5 1 (some .int) ∈ BG := bg_of (i := 560) (by decide +kernel) rfl
theorem kiJ0_length_8abf5 : Cond.instanceMethod yJ0_length_8abf5 ∈ BG := bg_of (i := 558) (by decide +kernel) rfl
theorem kvJ0_length_8abf5 : Cond.selects RJ0 yJ0_length_8abf5 yJ0_length_8abf5 ∈ BG := bg_of (i := 559) (by decide +kernel) rfl
theorem kcJ0_isLatin1_aae02 : Cond.code yJ0_isLatin1_aae02 cJ0_isLatin1_aae02 1 (some .boolean) ∈ BG := bg_of (i := 574) (by decide +kernel) rfl
theorem kiJ0_isLatin1_aae02 : Cond.instanceMethod yJ0_isLatin1_aae02 ∈ BG := bg_of (i := 572) (by decide +kernel) rfl
theorem kvJ0_isLatin1_aae02 : Cond.selects RJ0 yJ0_isLatin1_aae02 yJ0_isLatin1_aae02 ∈ BG := bg_of (i := 573) (by decide +kernel) rfl
theorem kcJ3_checkIndex_8e157 : Cond.code yJ3_checkIndex_8e157 cJ3_checkIndex_8e157 3 (some .int) ∈ BG := bg_of (i := 585) (by decide +kernel) rfl
theorem ksJ3_checkIndex_8e157 : Cond.static yJ3_checkIndex_8e157 ∈ BG := bg_of (i := 584) (by decide +kernel) rfl
theorem kcJ0_checkIndex_df160 : Cond.code yJ0_checkIndex_df160 cJ0_checkIndex_df160 2 none ∈ BG := bg_of (i := 580) (by decide +kernel) rfl
theorem ksJ0_checkIndex_df160 : Cond.static yJ0_checkIndex_df160 ∈ BG := bg_of (i := 579) (by decide +kernel) rfl
theorem kcJ1_charAt_3b067 : Cond.code yJ1_charAt_3b067 cJ1_charAt_3b067 2 (some .char) ∈ BG := bg_of (i := 577) (by decide +kernel) rfl
theorem ksJ1_charAt_3b067 : Cond.static yJ1_charAt_3b067 ∈ BG := bg_of (i := 576) (by decide +kernel) rfl
theorem kcJ2_length_9d52b : Cond.code yJ2_length_9d52b cJ2_length_9d52b 1 (some .int) ∈ BG := bg_of (i := 594) (by decide +kernel) rfl
theorem ksJ2_length_9d52b : Cond.static yJ2_length_9d52b ∈ BG := bg_of (i := 593) (by decide +kernel) rfl
theorem kcJ2_checkIndex_2214a : Cond.code yJ2_checkIndex_2214a cJ2_checkIndex_2214a 2 none ∈ BG := bg_of (i := 591) (by decide +kernel) rfl
theorem ksJ2_checkIndex_2214a : Cond.static yJ2_checkIndex_2214a ∈ BG := bg_of (i := 590) (by decide +kernel) rfl
theorem kcJ2_getChar_3b067 : Cond.code yJ2_getChar_3b067 cJ2_getChar_3b067 2 (some .char) ∈ BG := bg_of (i := 598) (by decide +kernel) rfl
theorem ksJ2_getChar_3b067 : Cond.static yJ2_getChar_3b067 ∈ BG := bg_of (i := 597) (by decide +kernel) rfl
theorem kcJ2_charAt_3b067 : Cond.code yJ2_charAt_3b067 cJ2_charAt_3b067 2 (some .char) ∈ BG := bg_of (i := 588) (by decide +kernel) rfl
theorem ksJ2_charAt_3b067 : Cond.static yJ2_charAt_3b067 ∈ BG := bg_of (i := 587) (by decide +kernel) rfl
theorem kcJ0_charAt_5068e : Cond.code yJ0_charAt_5068e cJ0_charAt_5068e 2 (some .char) ∈ BG := bg_of (i := 570) (by decide +kernel) rfl
theorem kiJ0_charAt_5068e : Cond.instanceMethod yJ0_charAt_5068e ∈ BG := bg_of (i := 568) (by decide +kernel) rfl
theorem kvJ0_charAt_5068e : Cond.selects RJ0 yJ0_charAt_5068e yJ0_charAt_5068e ∈ BG := bg_of (i := 569) (by decide +kernel) rfl
theorem kcX2_isSpelt : Cond.code yX2_isSpelt cX2_isSpelt 3 (some .boolean) ∈ BG := bg_of (i := 556) (by decide +kernel) rfl
theorem kiX2_isSpelt : Cond.instanceMethod yX2_isSpelt ∈ BG := bg_of (i := 554) (by decide +kernel) rfl
theorem kvX2_isSpelt : Cond.selects RX2 yX2_isSpelt yX2_isSpelt ∈ BG := bg_of (i := 555) (by decide +kernel) rfl
theorem kcX2_wordRead : Cond.code yX2_wordRead cX2_wordRead 2 (some .int) ∈ BG := bg_of (i := 543) (by decide +kernel) rfl
theorem kiX2_wordRead : Cond.instanceMethod yX2_wordRead ∈ BG := bg_of (i := 541) (by decide +kernel) rfl
theorem kvX2_wordRead : Cond.selects RX2 yX2_wordRead yX2_wordRead ∈ BG := bg_of (i := 542) (by decide +kernel) rfl
theorem kcX2_say : Cond.code yX2_say cX2_say 2 none ∈ BG := bg_of (i := 608) (by decide +kernel) rfl
theorem kiX2_say : Cond.instanceMethod yX2_say ∈ BG := bg_of (i := 606) (by decide +kernel) rfl
theorem kvX2_say : Cond.selects RX2 yX2_say yX2_say ∈ BG := bg_of (i := 607) (by decide +kernel) rfl
theorem kcX5_numbersOf : Cond.code yX5_numbersOf cX5_numbersOf 1 (some .int) ∈ BG := bg_of (i := 611) (by decide +kernel) rfl
theorem ksX5_numbersOf : Cond.static yX5_numbersOf ∈ BG := bg_of (i := 610) (by decide +kernel) rfl
theorem kcX2_numberRead : Cond.code yX2_numberRead cX2_numberRead 3 (some .int) ∈ BG := bg_of (i := 617) (by decide +kernel) rfl
theorem kiX2_numberRead : Cond.instanceMethod yX2_numberRead ∈ BG := bg_of (i := 615) (by decide +kernel) rfl
theorem kvX2_numberRead : Cond.selects RX2 yX2_numberRead yX2_numberRead ∈ BG := bg_of (i := 616) (by decide +kernel) rfl
theorem kcX2_readClause : Cond.code yX2_readClause cX2_readClause 3 (some .boolean) ∈ BG := bg_of (i := 522) (by decide +kernel) rfl
theorem kiX2_readClause : Cond.instanceMethod yX2_readClause ∈ BG := bg_of (i := 520) (by decide +kernel) rfl
theorem kvX2_readClause : Cond.selects RX2 yX2_readClause yX2_readClause ∈ BG := bg_of (i := 521) (by decide +kernel) rfl
theorem kcX2_findFault : Cond.code yX2_findFault cX2_findFault 3 (some .int) ∈ BG := bg_of (i := 518) (by decide +kernel) rfl
theorem kiX2_findFault : Cond.instanceMethod yX2_findFault ∈ BG := bg_of (i := 516) (by decide +kernel) rfl
theorem kvX2_findFault : Cond.selects RX2 yX2_findFault yX2_findFault ∈ BG := bg_of (i := 517) (by decide +kernel) rfl
theorem kcX2_saidAt : Cond.code yX2_saidAt cX2_saidAt 2 (some .int) ∈ BG := bg_of (i := 621) (by decide +kernel) rfl
theorem kiX2_saidAt : Cond.instanceMethod yX2_saidAt ∈ BG := bg_of (i := 619) (by decide +kernel) rfl
theorem kvX2_saidAt : Cond.selects RX2 yX2_saidAt yX2_saidAt ∈ BG := bg_of (i := 620) (by decide +kernel) rfl
theorem kcX3_init : Cond.code yX3_init cX3_init 1 none ∈ BG := bg_of (i := 71) (by decide +kernel) rfl
theorem kiX3_init : Cond.instanceMethod yX3_init ∈ BG := bg_of (i := 70) (by decide +kernel) rfl
theorem kcX3_become : Cond.code yX3_become cX3_become 2 none ∈ BG := bg_of (i := 429) (by decide +kernel) rfl
theorem kiX3_become : Cond.instanceMethod yX3_become ∈ BG := bg_of (i := 427) (by decide +kernel) rfl
theorem kvX3_become : Cond.selects RX3 yX3_become yX3_become ∈ BG := bg_of (i := 428) (by decide +kernel) rfl
theorem kcX3_addPair : Cond.code yX3_addPair cX3_addPair 3 (some .int) ∈ BG := bg_of (i := 270) (by decide +kernel) rfl
theorem kiX3_addPair : Cond.instanceMethod yX3_addPair ∈ BG := bg_of (i := 268) (by decide +kernel) rfl
theorem kvX3_addPair : Cond.selects RX3 yX3_addPair yX3_addPair ∈ BG := bg_of (i := 269) (by decide +kernel) rfl
theorem kcX3_toothOf : Cond.code yX3_toothOf cX3_toothOf 3 (some .int) ∈ BG := bg_of (i := 303) (by decide +kernel) rfl
theorem kiX3_toothOf : Cond.instanceMethod yX3_toothOf ∈ BG := bg_of (i := 301) (by decide +kernel) rfl
theorem kvX3_toothOf : Cond.selects RX3 yX3_toothOf yX3_toothOf ∈ BG := bg_of (i := 302) (by decide +kernel) rfl
theorem kcX3_isA : Cond.code yX3_isA cX3_isA 3 (some .boolean) ∈ BG := bg_of (i := 311) (by decide +kernel) rfl
theorem kiX3_isA : Cond.instanceMethod yX3_isA ∈ BG := bg_of (i := 309) (by decide +kernel) rfl
theorem kvX3_isA : Cond.selects RX3 yX3_isA yX3_isA ∈ BG := bg_of (i := 310) (by decide +kernel) rfl
theorem kcX5_misfit : Cond.code yX5_misfit cX5_misfit 2 (some .int) ∈ BG := bg_of (i := 239) (by decide +kernel) rfl
theorem ksX5_misfit : Cond.static yX5_misfit ∈ BG := bg_of (i := 238) (by decide +kernel) rfl
theorem kcX3_jammed : Cond.code yX3_jammed cX3_jammed 2 (some .int) ∈ BG := bg_of (i := 236) (by decide +kernel) rfl
theorem kiX3_jammed : Cond.instanceMethod yX3_jammed ∈ BG := bg_of (i := 234) (by decide +kernel) rfl
theorem kvX3_jammed : Cond.selects RX3 yX3_jammed yX3_jammed ∈ BG := bg_of (i := 235) (by decide +kernel) rfl
theorem kcX5_greatestDivisor : Cond.code yX5_greatestDivisor cX5_greatestDivisor 11 (some .long) ∈ BG := bg_of (i := 248) (by decide +kernel) rfl
theorem ksX5_greatestDivisor : Cond.static yX5_greatestDivisor ∈ BG := bg_of (i := 247) (by decide +kernel) rfl
theorem kcX5_cut : Cond.code yX5_cut cX5_cut 4 (some .long) ∈ BG := bg_of (i := 251) (by decide +kernel) rfl
theorem ksX5_cut : Cond.static yX5_cut ∈ BG := bg_of (i := 250) (by decide +kernel) rfl
theorem kcX5_lowest : Cond.code yX5_lowest cX5_lowest 5 (some .long) ∈ BG := bg_of (i := 242) (by decide +kernel) rfl
theorem ksX5_lowest : Cond.static yX5_lowest ∈ BG := bg_of (i := 241) (by decide +kernel) rfl
theorem kcX3_tune : Cond.code yX3_tune cX3_tune 7 none ∈ BG := bg_of (i := 232) (by decide +kernel) rfl
theorem kiX3_tune : Cond.instanceMethod yX3_tune ∈ BG := bg_of (i := 230) (by decide +kernel) rfl
theorem kvX3_tune : Cond.selects RX3 yX3_tune yX3_tune ∈ BG := bg_of (i := 231) (by decide +kernel) rfl
theorem kcX3_isAsFastAs : Cond.code yX3_isAsFastAs cX3_isAsFastAs 2 (some .boolean) ∈ BG := bg_of (i := 485) (by decide +kernel) rfl
theorem kiX3_isAsFastAs : Cond.instanceMethod yX3_isAsFastAs ∈ BG := bg_of (i := 483) (by decide +kernel) rfl
theorem kvX3_isAsFastAs : Cond.selects RX3 yX3_isAsFastAs yX3_isAsFastAs ∈ BG := bg_of (i := 484) (by decide +kernel) rfl
theorem kcX3_wayAt : Cond.code yX3_wayAt cX3_wayAt 6 (some .long) ∈ BG := bg_of (i := 352) (by decide +kernel) rfl
theorem kiX3_wayAt : Cond.instanceMethod yX3_wayAt ∈ BG := bg_of (i := 350) (by decide +kernel) rfl
theorem kvX3_wayAt : Cond.selects RX3 yX3_wayAt yX3_wayAt ∈ BG := bg_of (i := 351) (by decide +kernel) rfl
theorem kcX3_spot : Cond.code yX3_spot cX3_spot 2 (some .int) ∈ BG := bg_of (i := 348) (by decide +kernel) rfl
theorem kiX3_spot : Cond.instanceMethod yX3_spot ∈ BG := bg_of (i := 346) (by decide +kernel) rfl
theorem kvX3_spot : Cond.selects RX3 yX3_spot yX3_spot ∈ BG := bg_of (i := 347) (by decide +kernel) rfl
theorem kcX3_shapeAt : Cond.code yX3_shapeAt cX3_shapeAt 6 (some .int) ∈ BG := bg_of (i := 360) (by decide +kernel) rfl
theorem kiX3_shapeAt : Cond.instanceMethod yX3_shapeAt ∈ BG := bg_of (i := 358) (by decide +kernel) rfl
theorem kvX3_shapeAt : Cond.selects RX3 yX3_shapeAt yX3_shapeAt ∈ BG := bg_of (i := 359) (by decide +kernel) rfl
theorem kcX3_swing : Cond.code yX3_swing cX3_swing 2 (some .long) ∈ BG := bg_of (i := 344) (by decide +kernel) rfl
theorem kiX3_swing : Cond.instanceMethod yX3_swing ∈ BG := bg_of (i := 342) (by decide +kernel) rfl
theorem kvX3_swing : Cond.selects RX3 yX3_swing yX3_swing ∈ BG := bg_of (i := 343) (by decide +kernel) rfl
theorem kcX4_init : Cond.code yX4_init cX4_init 2 none ∈ BG := bg_of (i := 64) (by decide +kernel) rfl
theorem kiX4_init : Cond.instanceMethod yX4_init ∈ BG := bg_of (i := 63) (by decide +kernel) rfl
theorem kcX4_become : Cond.code yX4_become cX4_become 3 none ∈ BG := bg_of (i := 638) (by decide +kernel) rfl
theorem kiX4_become : Cond.instanceMethod yX4_become ∈ BG := bg_of (i := 636) (by decide +kernel) rfl
theorem kvX4_become : Cond.selects RX4 yX4_become yX4_become ∈ BG := bg_of (i := 637) (by decide +kernel) rfl
theorem kcX4_wheelOf : Cond.code yX4_wheelOf cX4_wheelOf 2 (some (.object "TideWheels$Wheel")) ∈ BG := bg_of (i := 263) (by decide +kernel) rfl
theorem kiX4_wheelOf : Cond.instanceMethod yX4_wheelOf ∈ BG := bg_of (i := 261) (by decide +kernel) rfl
theorem kvX4_wheelOf : Cond.selects RX4 yX4_wheelOf yX4_wheelOf ∈ BG := bg_of (i := 262) (by decide +kernel) rfl
theorem kcX4_addWheel : Cond.code yX4_addWheel cX4_addWheel 6 (some .int) ∈ BG := bg_of (i := 228) (by decide +kernel) rfl
theorem kiX4_addWheel : Cond.instanceMethod yX4_addWheel ∈ BG := bg_of (i := 226) (by decide +kernel) rfl
theorem kvX4_addWheel : Cond.selects RX4 yX4_addWheel yX4_addWheel ∈ BG := bg_of (i := 227) (by decide +kernel) rfl
theorem kcX4_goAt : Cond.code yX4_goAt cX4_goAt 3 none ∈ BG := bg_of (i := 283) (by decide +kernel) rfl
theorem kiX4_goAt : Cond.instanceMethod yX4_goAt ∈ BG := bg_of (i := 281) (by decide +kernel) rfl
theorem kvX4_goAt : Cond.selects RX4 yX4_goAt yX4_goAt ∈ BG := bg_of (i := 282) (by decide +kernel) rfl
theorem kcX4_level : Cond.code yX4_level cX4_level 5 (some .long) ∈ BG := bg_of (i := 340) (by decide +kernel) rfl
theorem kiX4_level : Cond.instanceMethod yX4_level ∈ BG := bg_of (i := 338) (by decide +kernel) rfl
theorem kvX4_level : Cond.selects RX4 yX4_level yX4_level ∈ BG := bg_of (i := 339) (by decide +kernel) rfl
theorem kcX4_likeOnes : Cond.code yX4_likeOnes cX4_likeOnes 4 (some .int) ∈ BG := bg_of (i := 481) (by decide +kernel) rfl
theorem kiX4_likeOnes : Cond.instanceMethod yX4_likeOnes ∈ BG := bg_of (i := 479) (by decide +kernel) rfl
theorem kvX4_likeOnes : Cond.selects RX4 yX4_likeOnes yX4_likeOnes ∈ BG := bg_of (i := 480) (by decide +kernel) rfl
theorem kcX4_groups : Cond.code yX4_groups cX4_groups 3 (some .int) ∈ BG := bg_of (i := 477) (by decide +kernel) rfl
theorem kiX4_groups : Cond.instanceMethod yX4_groups ∈ BG := bg_of (i := 475) (by decide +kernel) rfl
theorem kvX4_groups : Cond.selects RX4 yX4_groups yX4_groups ∈ BG := bg_of (i := 476) (by decide +kernel) rfl
theorem kcX4_pairsOfAll : Cond.code yX4_pairsOfAll cX4_pairsOfAll 3 (some .int) ∈ BG := bg_of (i := 660) (by decide +kernel) rfl
theorem kiX4_pairsOfAll : Cond.instanceMethod yX4_pairsOfAll ∈ BG := bg_of (i := 658) (by decide +kernel) rfl
theorem kvX4_pairsOfAll : Cond.selects RX4 yX4_pairsOfAll yX4_pairsOfAll ∈ BG := bg_of (i := 659) (by decide +kernel) rfl
theorem kcX4_jams : Cond.code yX4_jams cX4_jams 3 (some .int) ∈ BG := bg_of (i := 664) (by decide +kernel) rfl
theorem kiX4_jams : Cond.instanceMethod yX4_jams ∈ BG := bg_of (i := 662) (by decide +kernel) rfl
theorem kvX4_jams : Cond.selects RX4 yX4_jams yX4_jams ∈ BG := bg_of (i := 663) (by decide +kernel) rfl
theorem kcX5_init : Cond.code yX5_init cX5_init 2 none ∈ BG := bg_of (i := 56) (by decide +kernel) rfl
theorem kiX5_init : Cond.instanceMethod yX5_init ∈ BG := bg_of (i := 55) (by decide +kernel) rfl
theorem kcX5_allows : Cond.code yX5_allows cX5_allows 2 (some .boolean) ∈ BG := bg_of (i := 219) (by decide +kernel) rfl
theorem ksX5_allows : Cond.static yX5_allows ∈ BG := bg_of (i := 218) (by decide +kernel) rfl
theorem kcX5_part : Cond.code yX5_part cX5_part 5 (some .int) ∈ BG := bg_of (i := 216) (by decide +kernel) rfl
theorem kiX5_part : Cond.instanceMethod yX5_part ∈ BG := bg_of (i := 214) (by decide +kernel) rfl
theorem kvX5_part : Cond.selects RX5 yX5_part yX5_part ∈ BG := bg_of (i := 215) (by decide +kernel) rfl
theorem kcX5_drop : Cond.code yX5_drop cX5_drop 1 (some .int) ∈ BG := bg_of (i := 255) (by decide +kernel) rfl
theorem kiX5_drop : Cond.instanceMethod yX5_drop ∈ BG := bg_of (i := 253) (by decide +kernel) rfl
theorem kvX5_drop : Cond.selects RX5 yX5_drop yX5_drop ∈ BG := bg_of (i := 254) (by decide +kernel) rfl
theorem kcX5_isTeeth : Cond.code yX5_isTeeth cX5_isTeeth 1 (some .boolean) ∈ BG := bg_of (i := 266) (by decide +kernel) rfl
theorem ksX5_isTeeth : Cond.static yX5_isTeeth ∈ BG := bg_of (i := 265) (by decide +kernel) rfl
theorem kcX5_gear : Cond.code yX5_gear cX5_gear 6 (some .int) ∈ BG := bg_of (i := 259) (by decide +kernel) rfl
theorem kiX5_gear : Cond.instanceMethod yX5_gear ∈ BG := bg_of (i := 257) (by decide +kernel) rfl
theorem kvX5_gear : Cond.selects RX5 yX5_gear yX5_gear ∈ BG := bg_of (i := 258) (by decide +kernel) rfl
theorem kcX5_ungear : Cond.code yX5_ungear cX5_ungear 3 (some .int) ∈ BG := bg_of (i := 275) (by decide +kernel) rfl
theorem kiX5_ungear : Cond.instanceMethod yX5_ungear ∈ BG := bg_of (i := 273) (by decide +kernel) rfl
theorem kvX5_ungear : Cond.selects RX5 yX5_ungear yX5_ungear ∈ BG := bg_of (i := 274) (by decide +kernel) rfl
theorem kcX5_shaft : Cond.code yX5_shaft cX5_shaft 3 (some .int) ∈ BG := bg_of (i := 279) (by decide +kernel) rfl
theorem kiX5_shaft : Cond.instanceMethod yX5_shaft ∈ BG := bg_of (i := 277) (by decide +kernel) rfl
theorem kvX5_shaft : Cond.selects RX5 yX5_shaft yX5_shaft ∈ BG := bg_of (i := 278) (by decide +kernel) rfl
theorem kcX5_change : Cond.code yX5_change cX5_change 6 (some .int) ∈ BG := bg_of (i := 291) (by decide +kernel) rfl
theorem kiX5_change : Cond.instanceMethod yX5_change ∈ BG := bg_of (i := 290) (by decide +kernel) rfl
theorem kvX5_change : Cond.selects RX5 yX5_change yX5_change ∈ BG := bg_of (i := 0) (by decide +kernel) rfl
theorem kcX5_set : Cond.code yX5_set cX5_set 4 (some .int) ∈ BG := bg_of (i := 287) (by decide +kernel) rfl
theorem kiX5_set : Cond.instanceMethod yX5_set ∈ BG := bg_of (i := 285) (by decide +kernel) rfl
theorem kvX5_set : Cond.selects RX5 yX5_set yX5_set ∈ BG := bg_of (i := 286) (by decide +kernel) rfl
theorem kcX5_kind : Cond.code yX5_kind cX5_kind 3 (some .int) ∈ BG := bg_of (i := 295) (by decide +kernel) rfl
theorem kiX5_kind : Cond.instanceMethod yX5_kind ∈ BG := bg_of (i := 293) (by decide +kernel) rfl
theorem kvX5_kind : Cond.selects RX5 yX5_kind yX5_kind ∈ BG := bg_of (i := 294) (by decide +kernel) rfl
theorem kcX5_of : Cond.code yX5_of cX5_of 4 (some .int) ∈ BG := bg_of (i := 299) (by decide +kernel) rfl
theorem kiX5_of : Cond.instanceMethod yX5_of ∈ BG := bg_of (i := 297) (by decide +kernel) rfl
theorem kvX5_of : Cond.selects RX5 yX5_of yX5_of ∈ BG := bg_of (i := 298) (by decide +kernel) rfl
theorem kcX5_taken : Cond.code yX5_taken cX5_taken 4 (some .int) ∈ BG := bg_of (i := 307) (by decide +kernel) rfl
theorem kiX5_taken : Cond.instanceMethod yX5_taken ∈ BG := bg_of (i := 305) (by decide +kernel) rfl
theorem kvX5_taken : Cond.selects RX5 yX5_taken yX5_taken ∈ BG := bg_of (i := 306) (by decide +kernel) rfl
theorem kcX5_jam : Cond.code yX5_jam cX5_jam 7 (some .int) ∈ BG := bg_of (i := 317) (by decide +kernel) rfl
theorem kiX5_jam : Cond.instanceMethod yX5_jam ∈ BG := bg_of (i := 315) (by decide +kernel) rfl
theorem kvX5_jam : Cond.selects RX5 yX5_jam yX5_jam ∈ BG := bg_of (i := 316) (by decide +kernel) rfl
theorem kcX5_speed : Cond.code yX5_speed cX5_speed 4 (some .long) ∈ BG := bg_of (i := 326) (by decide +kernel) rfl
theorem kiX5_speed : Cond.instanceMethod yX5_speed ∈ BG := bg_of (i := 324) (by decide +kernel) rfl
theorem kvX5_speed : Cond.selects RX5 yX5_speed yX5_speed ∈ BG := bg_of (i := 325) (by decide +kernel) rfl
theorem kcX5_turn : Cond.code yX5_turn cX5_turn 2 (some .int) ∈ BG := bg_of (i := 331) (by decide +kernel) rfl
theorem kiX5_turn : Cond.instanceMethod yX5_turn ∈ BG := bg_of (i := 329) (by decide +kernel) rfl
theorem kvX5_turn : Cond.selects RX5 yX5_turn yX5_turn ∈ BG := bg_of (i := 330) (by decide +kernel) rfl
theorem kcX5_height : Cond.code yX5_height cX5_height 1 (some .long) ∈ BG := bg_of (i := 336) (by decide +kernel) rfl
theorem kiX5_height : Cond.instanceMethod yX5_height ∈ BG := bg_of (i := 334) (by decide +kernel) rfl
theorem kvX5_height : Cond.selects RX5 yX5_height yX5_height ∈ BG := bg_of (i := 335) (by decide +kernel) rfl
theorem kcX5_isTick : Cond.code yX5_isTick cX5_isTick 1 (some .boolean) ∈ BG := bg_of (i := 371) (by decide +kernel) rfl
theorem ksX5_isTick : Cond.static yX5_isTick ∈ BG := bg_of (i := 370) (by decide +kernel) rfl
theorem kcX5_heightAt : Cond.code yX5_heightAt cX5_heightAt 2 (some .long) ∈ BG := bg_of (i := 368) (by decide +kernel) rfl
theorem kiX5_heightAt : Cond.instanceMethod yX5_heightAt ∈ BG := bg_of (i := 366) (by decide +kernel) rfl
theorem kvX5_heightAt : Cond.selects RX5 yX5_heightAt yX5_heightAt ∈ BG := bg_of (i := 367) (by decide +kernel) rfl
theorem kcX5_heightOf : Cond.code yX5_heightOf cX5_heightOf 4 (some .long) ∈ BG := bg_of (i := 375) (by decide +kernel) rfl
theorem kiX5_heightOf : Cond.instanceMethod yX5_heightOf ∈ BG := bg_of (i := 373) (by decide +kernel) rfl
theorem kvX5_heightOf : Cond.selects RX5 yX5_heightOf yX5_heightOf ∈ BG := bg_of (i := 374) (by decide +kernel) rfl
theorem kcX5_place : Cond.code yX5_place cX5_place 4 (some .int) ∈ BG := bg_of (i := 380) (by decide +kernel) rfl
theorem kiX5_place : Cond.instanceMethod yX5_place ∈ BG := bg_of (i := 378) (by decide +kernel) rfl
theorem kvX5_place : Cond.selects RX5 yX5_place yX5_place ∈ BG := bg_of (i := 379) (by decide +kernel) rfl
theorem kcX5_waters : Cond.code yX5_waters cX5_waters 12 (some .int) ∈ BG := bg_of (i := 385) (by decide +kernel) rfl
theorem kiX5_waters : Cond.instanceMethod yX5_waters ∈ BG := bg_of (i := 383) (by decide +kernel) rfl
theorem kvX5_waters : Cond.selects RX5 yX5_waters yX5_waters ∈ BG := bg_of (i := 384) (by decide +kernel) rfl
theorem kcX5_water : Cond.code yX5_water cX5_water 8 (some .int) ∈ BG := bg_of (i := 397) (by decide +kernel) rfl
theorem kiX5_water : Cond.instanceMethod yX5_water ∈ BG := bg_of (i := 395) (by decide +kernel) rfl
theorem kvX5_water : Cond.selects RX5 yX5_water yX5_water ∈ BG := bg_of (i := 396) (by decide +kernel) rfl
theorem kcX5_isSheet : Cond.code yX5_isSheet cX5_isSheet 1 (some .boolean) ∈ BG := bg_of (i := 404) (by decide +kernel) rfl
theorem ksX5_isSheet : Cond.static yX5_isSheet ∈ BG := bg_of (i := 403) (by decide +kernel) rfl
theorem kcX5_firstOtherwise : Cond.code yX5_firstOtherwise cX5_firstOtherwise 4 (some .int) ∈ BG := bg_of (i := 417) (by decide +kernel) rfl
theorem kiX5_firstOtherwise : Cond.instanceMethod yX5_firstOtherwise ∈ BG := bg_of (i := 416) (by decide +kernel) rfl
theorem kvX5_firstOtherwise : Cond.selects RX5 yX5_firstOtherwise yX5_firstOtherwise ∈ BG := bg_of (i := 1) (by decide +kernel) rfl
theorem kcX5_think : Cond.code yX5_think cX5_think 5 none ∈ BG := bg_of (i := 425) (by decide +kernel) rfl
theorem kiX5_think : Cond.instanceMethod yX5_think ∈ BG := bg_of (i := 424) (by decide +kernel) rfl
theorem kvX5_think : Cond.selects RX5 yX5_think yX5_think ∈ BG := bg_of (i := 3) (by decide +kernel) rfl
theorem kcX5_isAllSo : Cond.code yX5_isAllSo cX5_isAllSo 4 (some .boolean) ∈ BG := bg_of (i := 436) (by decide +kernel) rfl
theorem kiX5_isAllSo : Cond.instanceMethod yX5_isAllSo ∈ BG := bg_of (i := 435) (by decide +kernel) rfl
theorem kvX5_isAllSo : Cond.selects RX5 yX5_isAllSo yX5_isAllSo ∈ BG := bg_of (i := 4) (by decide +kernel) rfl
theorem kcX5_wrongBy : Cond.code yX5_wrongBy cX5_wrongBy 7 (some .int) ∈ BG := bg_of (i := 421) (by decide +kernel) rfl
theorem kiX5_wrongBy : Cond.instanceMethod yX5_wrongBy ∈ BG := bg_of (i := 420) (by decide +kernel) rfl
theorem kvX5_wrongBy : Cond.selects RX5 yX5_wrongBy yX5_wrongBy ∈ BG := bg_of (i := 2) (by decide +kernel) rfl
theorem kcX5_tells : Cond.code yX5_tells cX5_tells 5 (some .int) ∈ BG := bg_of (i := 401) (by decide +kernel) rfl
theorem kiX5_tells : Cond.instanceMethod yX5_tells ∈ BG := bg_of (i := 399) (by decide +kernel) rfl
theorem kvX5_tells : Cond.selects RX5 yX5_tells yX5_tells ∈ BG := bg_of (i := 400) (by decide +kernel) rfl
theorem kcX5_hasHighs : Cond.code yX5_hasHighs cX5_hasHighs 7 (some .boolean) ∈ BG := bg_of (i := 444) (by decide +kernel) rfl
theorem kiX5_hasHighs : Cond.instanceMethod yX5_hasHighs ∈ BG := bg_of (i := 443) (by decide +kernel) rfl
theorem kvX5_hasHighs : Cond.selects RX5 yX5_hasHighs yX5_hasHighs ∈ BG := bg_of (i := 5) (by decide +kernel) rfl
theorem kcX5_refound : Cond.code yX5_refound cX5_refound 11 (some .int) ∈ BG := bg_of (i := 440) (by decide +kernel) rfl
theorem kiX5_refound : Cond.instanceMethod yX5_refound ∈ BG := bg_of (i := 438) (by decide +kernel) rfl
theorem kvX5_refound : Cond.selects RX5 yX5_refound yX5_refound ∈ BG := bg_of (i := 439) (by decide +kernel) rfl
theorem kcX5_film : Cond.code yX5_film cX5_film 6 (some .int) ∈ BG := bg_of (i := 448) (by decide +kernel) rfl
theorem kiX5_film : Cond.instanceMethod yX5_film ∈ BG := bg_of (i := 446) (by decide +kernel) rfl
theorem kvX5_film : Cond.selects RX5 yX5_film yX5_film ∈ BG := bg_of (i := 447) (by decide +kernel) rfl
theorem kcX5_nearest : Cond.code yX5_nearest cX5_nearest 11 (some .int) ∈ BG := bg_of (i := 464) (by decide +kernel) rfl
theorem kiX5_nearest : Cond.instanceMethod yX5_nearest ∈ BG := bg_of (i := 462) (by decide +kernel) rfl
theorem kvX5_nearest : Cond.selects RX5 yX5_nearest yX5_nearest ∈ BG := bg_of (i := 463) (by decide +kernel) rfl
theorem kcX5_off : Cond.code yX5_off cX5_off 8 (some .long) ∈ BG := bg_of (i := 468) (by decide +kernel) rfl
theorem kiX5_off : Cond.instanceMethod yX5_off ∈ BG := bg_of (i := 466) (by decide +kernel) rfl
theorem kvX5_off : Cond.selects RX5 yX5_off yX5_off ∈ BG := bg_of (i := 467) (by decide +kernel) rfl
theorem kcX5_alike : Cond.code yX5_alike cX5_alike 3 (some .int) ∈ BG := bg_of (i := 473) (by decide +kernel) rfl
theorem kiX5_alike : Cond.instanceMethod yX5_alike ∈ BG := bg_of (i := 471) (by decide +kernel) rfl
theorem kvX5_alike : Cond.selects RX5 yX5_alike yX5_alike ∈ BG := bg_of (i := 472) (by decide +kernel) rfl
theorem kcX5_levelByLot : Cond.code yX5_levelByLot cX5_levelByLot 7 (some .long) ∈ BG := bg_of (i := 494) (by decide +kernel) rfl
theorem kiX5_levelByLot : Cond.instanceMethod yX5_levelByLot ∈ BG := bg_of (i := 493) (by decide +kernel) rfl
theorem kvX5_levelByLot : Cond.selects RX5 yX5_levelByLot yX5_levelByLot ∈ BG := bg_of (i := 6) (by decide +kernel) rfl
theorem kcX5_drawn : Cond.code yX5_drawn cX5_drawn 3 (some .long) ∈ BG := bg_of (i := 490) (by decide +kernel) rfl
theorem kiX5_drawn : Cond.instanceMethod yX5_drawn ∈ BG := bg_of (i := 488) (by decide +kernel) rfl
theorem kvX5_drawn : Cond.selects RX5 yX5_drawn yX5_drawn ∈ BG := bg_of (i := 489) (by decide +kernel) rfl
theorem kcX5_chance : Cond.code yX5_chance cX5_chance 8 (some .int) ∈ BG := bg_of (i := 499) (by decide +kernel) rfl
theorem kiX5_chance : Cond.instanceMethod yX5_chance ∈ BG := bg_of (i := 497) (by decide +kernel) rfl
theorem kvX5_chance : Cond.selects RX5 yX5_chance yX5_chance ∈ BG := bg_of (i := 498) (by decide +kernel) rfl
theorem kcX5_isByte : Cond.code yX5_isByte cX5_isByte 1 (some .boolean) ∈ BG := bg_of (i := 506) (by decide +kernel) rfl
theorem ksX5_isByte : Cond.static yX5_isByte ∈ BG := bg_of (i := 505) (by decide +kernel) rfl
theorem kcX5_feed : Cond.code yX5_feed cX5_feed 8 (some .int) ∈ BG := bg_of (i := 503) (by decide +kernel) rfl
theorem kiX5_feed : Cond.instanceMethod yX5_feed ∈ BG := bg_of (i := 501) (by decide +kernel) rfl
theorem kvX5_feed : Cond.selects RX5 yX5_feed yX5_feed ∈ BG := bg_of (i := 502) (by decide +kernel) rfl
theorem kcX5_doClause : Cond.code yX5_doClause cX5_doClause 6 (some .int) ∈ BG := bg_of (i := 625) (by decide +kernel) rfl
theorem kiX5_doClause : Cond.instanceMethod yX5_doClause ∈ BG := bg_of (i := 624) (by decide +kernel) rfl
theorem kvX5_doClause : Cond.selects RX5 yX5_doClause yX5_doClause ∈ BG := bg_of (i := 7) (by decide +kernel) rfl
theorem kcX5_text : Cond.code yX5_text cX5_text 6 (some .int) ∈ BG := bg_of (i := 514) (by decide +kernel) rfl
theorem kiX5_text : Cond.instanceMethod yX5_text ∈ BG := bg_of (i := 512) (by decide +kernel) rfl
theorem kvX5_text : Cond.selects RX5 yX5_text yX5_text ∈ BG := bg_of (i := 513) (by decide +kernel) rfl
theorem kcX5_image : Cond.code yX5_image cX5_image 1 (some .int) ∈ BG := bg_of (i := 634) (by decide +kernel) rfl
theorem kiX5_image : Cond.instanceMethod yX5_image ∈ BG := bg_of (i := 632) (by decide +kernel) rfl
theorem kvX5_image : Cond.selects RX5 yX5_image yX5_image ∈ BG := bg_of (i := 633) (by decide +kernel) rfl
theorem kcX5_back : Cond.code yX5_back cX5_back 1 (some .int) ∈ BG := bg_of (i := 643) (by decide +kernel) rfl
theorem kiX5_back : Cond.instanceMethod yX5_back ∈ BG := bg_of (i := 641) (by decide +kernel) rfl
theorem kvX5_back : Cond.selects RX5 yX5_back yX5_back ∈ BG := bg_of (i := 642) (by decide +kernel) rfl
theorem kcX5_partFrom : Cond.code yX5_partFrom cX5_partFrom 3 (some .int) ∈ BG := bg_of (i := 652) (by decide +kernel) rfl
theorem kiX5_partFrom : Cond.instanceMethod yX5_partFrom ∈ BG := bg_of (i := 651) (by decide +kernel) rfl
theorem kvX5_partFrom : Cond.selects RX5 yX5_partFrom yX5_partFrom ∈ BG := bg_of (i := 8) (by decide +kernel) rfl
theorem kcX5_load : Cond.code yX5_load cX5_load 8 (some .int) ∈ BG := bg_of (i := 647) (by decide +kernel) rfl
theorem kiX5_load : Cond.instanceMethod yX5_load ∈ BG := bg_of (i := 645) (by decide +kernel) rfl
theorem kvX5_load : Cond.selects RX5 yX5_load yX5_load ∈ BG := bg_of (i := 646) (by decide +kernel) rfl
theorem kcX5_count : Cond.code yX5_count cX5_count 2 (some .int) ∈ BG := bg_of (i := 656) (by decide +kernel) rfl
theorem kiX5_count : Cond.instanceMethod yX5_count ∈ BG := bg_of (i := 654) (by decide +kernel) rfl
theorem kvX5_count : Cond.selects RX5 yX5_count yX5_count ∈ BG := bg_of (i := 655) (by decide +kernel) rfl
theorem kcX5_sheet : Cond.code yX5_sheet cX5_sheet 4 (some .int) ∈ BG := bg_of (i := 669) (by decide +kernel) rfl
theorem kiX5_sheet : Cond.instanceMethod yX5_sheet ∈ BG := bg_of (i := 667) (by decide +kernel) rfl
theorem kvX5_sheet : Cond.selects RX5 yX5_sheet yX5_sheet ∈ BG := bg_of (i := 668) (by decide +kernel) rfl
theorem kcX5_put : Cond.code yX5_put cX5_put 6 (some .int) ∈ BG := bg_of (i := 673) (by decide +kernel) rfl
theorem kiX5_put : Cond.instanceMethod yX5_put ∈ BG := bg_of (i := 671) (by decide +kernel) rfl
theorem kvX5_put : Cond.selects RX5 yX5_put yX5_put ∈ BG := bg_of (i := 672) (by decide +kernel) rfl
theorem kcX5_item : Cond.code yX5_item cX5_item 3 (some .long) ∈ BG := bg_of (i := 677) (by decide +kernel) rfl
theorem kiX5_item : Cond.instanceMethod yX5_item ∈ BG := bg_of (i := 675) (by decide +kernel) rfl
theorem kvX5_item : Cond.selects RX5 yX5_item yX5_item ∈ BG := bg_of (i := 676) (by decide +kernel) rfl
theorem kcX5_copy : Cond.code yX5_copy cX5_copy 8 (some .int) ∈ BG := bg_of (i := 681) (by decide +kernel) rfl
theorem kiX5_copy : Cond.instanceMethod yX5_copy ∈ BG := bg_of (i := 679) (by decide +kernel) rfl
theorem kvX5_copy : Cond.selects RX5 yX5_copy yX5_copy ∈ BG := bg_of (i := 680) (by decide +kernel) rfl
theorem kcX6_init : Cond.code yX6_init cX6_init 1 none ∈ BG := bg_of (i := 687) (by decide +kernel) rfl
theorem kiX6_init : Cond.instanceMethod yX6_init ∈ BG := bg_of (i := 686) (by decide +kernel) rfl
theorem kcX6_isIn : Cond.code yX6_isIn cX6_isIn 6 (some .boolean) ∈ BG := bg_of (i := 758) (by decide +kernel) rfl
theorem ksX6_isIn : Cond.static yX6_isIn ∈ BG := bg_of (i := 757) (by decide +kernel) rfl
theorem kcX6_isPart : Cond.code yX6_isPart cX6_isPart 2 (some .boolean) ∈ BG := bg_of (i := 774) (by decide +kernel) rfl
theorem kiX6_isPart : Cond.instanceMethod yX6_isPart ∈ BG := bg_of (i := 773) (by decide +kernel) rfl
theorem kvX6_isPart : Cond.selects RX6 yX6_isPart yX6_isPart ∈ BG := bg_of (i := 10) (by decide +kernel) rfl
theorem kcX6_at : Cond.code yX6_at cX6_at 3 (some .int) ∈ BG := bg_of (i := 780) (by decide +kernel) rfl
theorem kiX6_at : Cond.instanceMethod yX6_at ∈ BG := bg_of (i := 779) (by decide +kernel) rfl
theorem kvX6_at : Cond.selects RX6 yX6_at yX6_at ∈ BG := bg_of (i := 11) (by decide +kernel) rfl
theorem kcX6_lays : Cond.code yX6_lays cX6_lays 4 none ∈ BG := bg_of (i := 762) (by decide +kernel) rfl
theorem kiX6_lays : Cond.instanceMethod yX6_lays ∈ BG := bg_of (i := 761) (by decide +kernel) rfl
theorem kvX6_lays : Cond.selects RX6 yX6_lays yX6_lays ∈ BG := bg_of (i := 9) (by decide +kernel) rfl
theorem kcX6_isLine : Cond.code yX6_isLine cX6_isLine 1 (some .boolean) ∈ BG := bg_of (i := 837) (by decide +kernel) rfl
theorem ksX6_isLine : Cond.static yX6_isLine ∈ BG := bg_of (i := 836) (by decide +kernel) rfl
theorem kcX6_mayBe : Cond.code yX6_mayBe cX6_mayBe 2 (some .boolean) ∈ BG := bg_of (i := 751) (by decide +kernel) rfl
theorem ksX6_mayBe : Cond.static yX6_mayBe ∈ BG := bg_of (i := 750) (by decide +kernel) rfl
theorem kcX6_part : Cond.code yX6_part cX6_part 6 (some .int) ∈ BG := bg_of (i := 748) (by decide +kernel) rfl
theorem kiX6_part : Cond.instanceMethod yX6_part ∈ BG := bg_of (i := 746) (by decide +kernel) rfl
theorem kvX6_part : Cond.selects RX6 yX6_part yX6_part ∈ BG := bg_of (i := 747) (by decide +kernel) rfl
theorem kcX6_drop : Cond.code yX6_drop cX6_drop 1 (some .int) ∈ BG := bg_of (i := 766) (by decide +kernel) rfl
theorem kiX6_drop : Cond.instanceMethod yX6_drop ∈ BG := bg_of (i := 764) (by decide +kernel) rfl
theorem kvX6_drop : Cond.selects RX6 yX6_drop yX6_drop ∈ BG := bg_of (i := 765) (by decide +kernel) rfl
theorem kcX6_gear : Cond.code yX6_gear cX6_gear 5 (some .int) ∈ BG := bg_of (i := 770) (by decide +kernel) rfl
theorem kiX6_gear : Cond.instanceMethod yX6_gear ∈ BG := bg_of (i := 768) (by decide +kernel) rfl
theorem kvX6_gear : Cond.selects RX6 yX6_gear yX6_gear ∈ BG := bg_of (i := 769) (by decide +kernel) rfl
theorem kcX6_ungear : Cond.code yX6_ungear cX6_ungear 2 (some .int) ∈ BG := bg_of (i := 784) (by decide +kernel) rfl
theorem kiX6_ungear : Cond.instanceMethod yX6_ungear ∈ BG := bg_of (i := 782) (by decide +kernel) rfl
theorem kvX6_ungear : Cond.selects RX6 yX6_ungear yX6_ungear ∈ BG := bg_of (i := 783) (by decide +kernel) rfl
theorem kcX6_shaft : Cond.code yX6_shaft cX6_shaft 3 (some .int) ∈ BG := bg_of (i := 788) (by decide +kernel) rfl
theorem kiX6_shaft : Cond.instanceMethod yX6_shaft ∈ BG := bg_of (i := 786) (by decide +kernel) rfl
theorem kvX6_shaft : Cond.selects RX6 yX6_shaft yX6_shaft ∈ BG := bg_of (i := 787) (by decide +kernel) rfl
theorem kcX6_becomes : Cond.code yX6_becomes cX6_becomes 5 (some .int) ∈ BG := bg_of (i := 797) (by decide +kernel) rfl
theorem kiX6_becomes : Cond.instanceMethod yX6_becomes ∈ BG := bg_of (i := 796) (by decide +kernel) rfl
theorem kvX6_becomes : Cond.selects RX6 yX6_becomes yX6_becomes ∈ BG := bg_of (i := 12) (by decide +kernel) rfl
theorem kcX6_set : Cond.code yX6_set cX6_set 4 (some .int) ∈ BG := bg_of (i := 792) (by decide +kernel) rfl
theorem kiX6_set : Cond.instanceMethod yX6_set ∈ BG := bg_of (i := 790) (by decide +kernel) rfl
theorem kvX6_set : Cond.selects RX6 yX6_set yX6_set ∈ BG := bg_of (i := 791) (by decide +kernel) rfl
theorem kcX6_kind : Cond.code yX6_kind cX6_kind 3 (some .int) ∈ BG := bg_of (i := 801) (by decide +kernel) rfl
theorem kiX6_kind : Cond.instanceMethod yX6_kind ∈ BG := bg_of (i := 799) (by decide +kernel) rfl
theorem kvX6_kind : Cond.selects RX6 yX6_kind yX6_kind ∈ BG := bg_of (i := 800) (by decide +kernel) rfl
theorem kcX6_of : Cond.code yX6_of cX6_of 4 (some .int) ∈ BG := bg_of (i := 805) (by decide +kernel) rfl
theorem kiX6_of : Cond.instanceMethod yX6_of ∈ BG := bg_of (i := 803) (by decide +kernel) rfl
theorem kvX6_of : Cond.selects RX6 yX6_of yX6_of ∈ BG := bg_of (i := 804) (by decide +kernel) rfl
theorem kcX6_above : Cond.code yX6_above cX6_above 1 (some .int) ∈ BG := bg_of (i := 817) (by decide +kernel) rfl
theorem ksX6_above : Cond.static yX6_above ∈ BG := bg_of (i := 816) (by decide +kernel) rfl
theorem kcX6_taken : Cond.code yX6_taken cX6_taken 4 (some .int) ∈ BG := bg_of (i := 814) (by decide +kernel) rfl
theorem kiX6_taken : Cond.instanceMethod yX6_taken ∈ BG := bg_of (i := 812) (by decide +kernel) rfl
theorem kvX6_taken : Cond.selects RX6 yX6_taken yX6_taken ∈ BG := bg_of (i := 813) (by decide +kernel) rfl
theorem kcX6_why : Cond.code yX6_why cX6_why 2 (some .int) ∈ BG := bg_of (i := 829) (by decide +kernel) rfl
theorem ksX6_why : Cond.static yX6_why ∈ BG := bg_of (i := 828) (by decide +kernel) rfl
theorem kcX6_jamOf : Cond.code yX6_jamOf cX6_jamOf 3 (some .int) ∈ BG := bg_of (i := 826) (by decide +kernel) rfl
theorem kiX6_jamOf : Cond.instanceMethod yX6_jamOf ∈ BG := bg_of (i := 825) (by decide +kernel) rfl
theorem kvX6_jamOf : Cond.selects RX6 yX6_jamOf yX6_jamOf ∈ BG := bg_of (i := 13) (by decide +kernel) rfl
theorem kcX6_jam : Cond.code yX6_jam cX6_jam 6 (some .int) ∈ BG := bg_of (i := 821) (by decide +kernel) rfl
theorem kiX6_jam : Cond.instanceMethod yX6_jam ∈ BG := bg_of (i := 819) (by decide +kernel) rfl
theorem kvX6_jam : Cond.selects RX6 yX6_jam yX6_jam ∈ BG := bg_of (i := 820) (by decide +kernel) rfl
theorem kcX6_divisor : Cond.code yX6_divisor cX6_divisor 10 (some .long) ∈ BG := bg_of (i := 851) (by decide +kernel) rfl
theorem ksX6_divisor : Cond.static yX6_divisor ∈ BG := bg_of (i := 850) (by decide +kernel) rfl
theorem kcX6_lowest : Cond.code yX6_lowest cX6_lowest 7 (some .long) ∈ BG := bg_of (i := 848) (by decide +kernel) rfl
theorem ksX6_lowest : Cond.static yX6_lowest ∈ BG := bg_of (i := 847) (by decide +kernel) rfl
theorem kcX6_speedAbove : Cond.code yX6_speedAbove cX6_speedAbove 5 (some .long) ∈ BG := bg_of (i := 841) (by decide +kernel) rfl
theorem kiX6_speedAbove : Cond.instanceMethod yX6_speedAbove ∈ BG := bg_of (i := 840) (by decide +kernel) rfl
theorem kvX6_speedAbove : Cond.selects RX6 yX6_speedAbove yX6_speedAbove ∈ BG := bg_of (i := 14) (by decide +kernel) rfl
theorem kcX6_speedBelow : Cond.code yX6_speedBelow cX6_speedBelow 5 (some .long) ∈ BG := bg_of (i := 845) (by decide +kernel) rfl
theorem kiX6_speedBelow : Cond.instanceMethod yX6_speedBelow ∈ BG := bg_of (i := 844) (by decide +kernel) rfl
theorem kvX6_speedBelow : Cond.selects RX6 yX6_speedBelow yX6_speedBelow ∈ BG := bg_of (i := 15) (by decide +kernel) rfl
theorem kcX6_speed : Cond.code yX6_speed cX6_speed 3 (some .long) ∈ BG := bg_of (i := 834) (by decide +kernel) rfl
theorem kiX6_speed : Cond.instanceMethod yX6_speed ∈ BG := bg_of (i := 832) (by decide +kernel) rfl
theorem kvX6_speed : Cond.selects RX6 yX6_speed yX6_speed ∈ BG := bg_of (i := 833) (by decide +kernel) rfl
theorem kcX6_wayOf : Cond.code yX6_wayOf cX6_wayOf 7 (some .long) ∈ BG := bg_of (i := 879) (by decide +kernel) rfl
theorem kiX6_wayOf : Cond.instanceMethod yX6_wayOf ∈ BG := bg_of (i := 878) (by decide +kernel) rfl
theorem kvX6_wayOf : Cond.selects RX6 yX6_wayOf yX6_wayOf ∈ BG := bg_of (i := 19) (by decide +kernel) rfl
theorem kcX6_placeOf : Cond.code yX6_placeOf cX6_placeOf 3 (some .int) ∈ BG := bg_of (i := 875) (by decide +kernel) rfl
theorem kiX6_placeOf : Cond.instanceMethod yX6_placeOf ∈ BG := bg_of (i := 874) (by decide +kernel) rfl
theorem kvX6_placeOf : Cond.selects RX6 yX6_placeOf yX6_placeOf ∈ BG := bg_of (i := 18) (by decide +kernel) rfl
theorem kcX6_shapeOf : Cond.code yX6_shapeOf cX6_shapeOf 5 (some .int) ∈ BG := bg_of (i := 885) (by decide +kernel) rfl
theorem kiX6_shapeOf : Cond.instanceMethod yX6_shapeOf ∈ BG := bg_of (i := 884) (by decide +kernel) rfl
theorem kvX6_shapeOf : Cond.selects RX6 yX6_shapeOf yX6_shapeOf ∈ BG := bg_of (i := 20) (by decide +kernel) rfl
theorem kcX6_heightBy : Cond.code yX6_heightBy cX6_heightBy 3 (some .long) ∈ BG := bg_of (i := 871) (by decide +kernel) rfl
theorem kiX6_heightBy : Cond.instanceMethod yX6_heightBy ∈ BG := bg_of (i := 870) (by decide +kernel) rfl
theorem kvX6_heightBy : Cond.selects RX6 yX6_heightBy yX6_heightBy ∈ BG := bg_of (i := 17) (by decide +kernel) rfl
theorem kcX6_sumAt : Cond.code yX6_sumAt cX6_sumAt 5 (some .long) ∈ BG := bg_of (i := 867) (by decide +kernel) rfl
theorem kiX6_sumAt : Cond.instanceMethod yX6_sumAt ∈ BG := bg_of (i := 866) (by decide +kernel) rfl
theorem kvX6_sumAt : Cond.selects RX6 yX6_sumAt yX6_sumAt ∈ BG := bg_of (i := 16) (by decide +kernel) rfl
theorem kcX6_isTick : Cond.code yX6_isTick cX6_isTick 1 (some .boolean) ∈ BG := bg_of (i := 892) (by decide +kernel) rfl
theorem ksX6_isTick : Cond.static yX6_isTick ∈ BG := bg_of (i := 891) (by decide +kernel) rfl
theorem kcX6_turn : Cond.code yX6_turn cX6_turn 2 (some .int) ∈ BG := bg_of (i := 857) (by decide +kernel) rfl
theorem kiX6_turn : Cond.instanceMethod yX6_turn ∈ BG := bg_of (i := 855) (by decide +kernel) rfl
theorem kvX6_turn : Cond.selects RX6 yX6_turn yX6_turn ∈ BG := bg_of (i := 856) (by decide +kernel) rfl
theorem kcX6_height : Cond.code yX6_height cX6_height 1 (some .long) ∈ BG := bg_of (i := 863) (by decide +kernel) rfl
theorem kiX6_height : Cond.instanceMethod yX6_height ∈ BG := bg_of (i := 861) (by decide +kernel) rfl
theorem kvX6_height : Cond.selects RX6 yX6_height yX6_height ∈ BG := bg_of (i := 862) (by decide +kernel) rfl
theorem kcX6_heightAt : Cond.code yX6_heightAt cX6_heightAt 2 (some .long) ∈ BG := bg_of (i := 889) (by decide +kernel) rfl
theorem kiX6_heightAt : Cond.instanceMethod yX6_heightAt ∈ BG := bg_of (i := 887) (by decide +kernel) rfl
theorem kvX6_heightAt : Cond.selects RX6 yX6_heightAt yX6_heightAt ∈ BG := bg_of (i := 888) (by decide +kernel) rfl
theorem kcX6_heightOf : Cond.code yX6_heightOf cX6_heightOf 3 (some .long) ∈ BG := bg_of (i := 896) (by decide +kernel) rfl
theorem kiX6_heightOf : Cond.instanceMethod yX6_heightOf ∈ BG := bg_of (i := 894) (by decide +kernel) rfl
theorem kvX6_heightOf : Cond.selects RX6 yX6_heightOf yX6_heightOf ∈ BG := bg_of (i := 895) (by decide +kernel) rfl
theorem kcX6_place : Cond.code yX6_place cX6_place 3 (some .int) ∈ BG := bg_of (i := 900) (by decide +kernel) rfl
theorem kiX6_place : Cond.instanceMethod yX6_place ∈ BG := bg_of (i := 898) (by decide +kernel) rfl
theorem kvX6_place : Cond.selects RX6 yX6_place yX6_place ∈ BG := bg_of (i := 899) (by decide +kernel) rfl
theorem kcJ13_compare_74951 : Cond.code yJ13_compare_74951 cJ13_compare_74951 4 (some .int) ∈ BG := bg_of (i := 914) (by decide +kernel) rfl
theorem ksJ13_compare_74951 : Cond.static yJ13_compare_74951 ∈ BG := bg_of (i := 913) (by decide +kernel) rfl
theorem kcX6_looks : Cond.code yX6_looks cX6_looks 14 none ∈ BG := bg_of (i := 911) (by decide +kernel) rfl
theorem kiX6_looks : Cond.instanceMethod yX6_looks ∈ BG := bg_of (i := 910) (by decide +kernel) rfl
theorem kvX6_looks : Cond.selects RX6 yX6_looks yX6_looks ∈ BG := bg_of (i := 21) (by decide +kernel) rfl
theorem kcX6_areWaters : Cond.code yX6_areWaters cX6_areWaters 3 (some .boolean) ∈ BG := bg_of (i := 907) (by decide +kernel) rfl
theorem ksX6_areWaters : Cond.static yX6_areWaters ∈ BG := bg_of (i := 906) (by decide +kernel) rfl
theorem kcX6_waters : Cond.code yX6_waters cX6_waters 4 (some .int) ∈ BG := bg_of (i := 904) (by decide +kernel) rfl
theorem kiX6_waters : Cond.instanceMethod yX6_waters ∈ BG := bg_of (i := 902) (by decide +kernel) rfl
theorem kvX6_waters : Cond.selects RX6 yX6_waters yX6_waters ∈ BG := bg_of (i := 903) (by decide +kernel) rfl
theorem kcX6_water : Cond.code yX6_water cX6_water 5 (some .int) ∈ BG := bg_of (i := 918) (by decide +kernel) rfl
theorem kiX6_water : Cond.instanceMethod yX6_water ∈ BG := bg_of (i := 916) (by decide +kernel) rfl
theorem kvX6_water : Cond.selects RX6 yX6_water yX6_water ∈ BG := bg_of (i := 917) (by decide +kernel) rfl
theorem kcX6_isSheet : Cond.code yX6_isSheet cX6_isSheet 1 (some .boolean) ∈ BG := bg_of (i := 925) (by decide +kernel) rfl
theorem ksX6_isSheet : Cond.static yX6_isSheet ∈ BG := bg_of (i := 924) (by decide +kernel) rfl
theorem kcX6_itemOf : Cond.code yX6_itemOf cX6_itemOf 3 (some .long) ∈ BG := bg_of (i := 933) (by decide +kernel) rfl
theorem kiX6_itemOf : Cond.instanceMethod yX6_itemOf ∈ BG := bg_of (i := 932) (by decide +kernel) rfl
theorem kvX6_itemOf : Cond.selects RX6 yX6_itemOf yX6_itemOf ∈ BG := bg_of (i := 23) (by decide +kernel) rfl
theorem kcX6_firstOther : Cond.code yX6_firstOther cX6_firstOther 4 (some .int) ∈ BG := bg_of (i := 929) (by decide +kernel) rfl
theorem kiX6_firstOther : Cond.instanceMethod yX6_firstOther ∈ BG := bg_of (i := 928) (by decide +kernel) rfl
theorem kvX6_firstOther : Cond.selects RX6 yX6_firstOther yX6_firstOther ∈ BG := bg_of (i := 22) (by decide +kernel) rfl
theorem kcX6_wrongBy : Cond.code yX6_wrongBy cX6_wrongBy 9 (some .int) ∈ BG := bg_of (i := 937) (by decide +kernel) rfl
theorem kiX6_wrongBy : Cond.instanceMethod yX6_wrongBy ∈ BG := bg_of (i := 936) (by decide +kernel) rfl
theorem kvX6_wrongBy : Cond.selects RX6 yX6_wrongBy yX6_wrongBy ∈ BG := bg_of (i := 24) (by decide +kernel) rfl
theorem kcX6_tells : Cond.code yX6_tells cX6_tells 4 (some .int) ∈ BG := bg_of (i := 922) (by decide +kernel) rfl
theorem kiX6_tells : Cond.instanceMethod yX6_tells ∈ BG := bg_of (i := 920) (by decide +kernel) rfl
theorem kvX6_tells : Cond.selects RX6 yX6_tells yX6_tells ∈ BG := bg_of (i := 921) (by decide +kernel) rfl
theorem kcX6_areHighs : Cond.code yX6_areHighs cX6_areHighs 12 (some .boolean) ∈ BG := bg_of (i := 945) (by decide +kernel) rfl
theorem kiX6_areHighs : Cond.instanceMethod yX6_areHighs ∈ BG := bg_of (i := 944) (by decide +kernel) rfl
theorem kvX6_areHighs : Cond.selects RX6 yX6_areHighs yX6_areHighs ∈ BG := bg_of (i := 25) (by decide +kernel) rfl
theorem kcX6_refound : Cond.code yX6_refound cX6_refound 10 (some .int) ∈ BG := bg_of (i := 941) (by decide +kernel) rfl
theorem kiX6_refound : Cond.instanceMethod yX6_refound ∈ BG := bg_of (i := 939) (by decide +kernel) rfl
theorem kvX6_refound : Cond.selects RX6 yX6_refound yX6_refound ∈ BG := bg_of (i := 940) (by decide +kernel) rfl
theorem kcX6_sheet : Cond.code yX6_sheet cX6_sheet 5 (some .int) ∈ BG := bg_of (i := 954) (by decide +kernel) rfl
theorem kiX6_sheet : Cond.instanceMethod yX6_sheet ∈ BG := bg_of (i := 952) (by decide +kernel) rfl
theorem kvX6_sheet : Cond.selects RX6 yX6_sheet yX6_sheet ∈ BG := bg_of (i := 953) (by decide +kernel) rfl
theorem kcX6_film : Cond.code yX6_film cX6_film 6 (some .int) ∈ BG := bg_of (i := 949) (by decide +kernel) rfl
theorem kiX6_film : Cond.instanceMethod yX6_film ∈ BG := bg_of (i := 947) (by decide +kernel) rfl
theorem kvX6_film : Cond.selects RX6 yX6_film yX6_film ∈ BG := bg_of (i := 948) (by decide +kernel) rfl
theorem kcX6_nearest : Cond.code yX6_nearest cX6_nearest 11 (some .int) ∈ BG := bg_of (i := 959) (by decide +kernel) rfl
theorem kiX6_nearest : Cond.instanceMethod yX6_nearest ∈ BG := bg_of (i := 957) (by decide +kernel) rfl
theorem kvX6_nearest : Cond.selects RX6 yX6_nearest yX6_nearest ∈ BG := bg_of (i := 958) (by decide +kernel) rfl
theorem kcX6_off : Cond.code yX6_off cX6_off 11 (some .long) ∈ BG := bg_of (i := 964) (by decide +kernel) rfl
theorem kiX6_off : Cond.instanceMethod yX6_off ∈ BG := bg_of (i := 962) (by decide +kernel) rfl
theorem kvX6_off : Cond.selects RX6 yX6_off yX6_off ∈ BG := bg_of (i := 963) (by decide +kernel) rfl
theorem kcX6_areAlike : Cond.code yX6_areAlike cX6_areAlike 3 (some .boolean) ∈ BG := bg_of (i := 972) (by decide +kernel) rfl
theorem kiX6_areAlike : Cond.instanceMethod yX6_areAlike ∈ BG := bg_of (i := 971) (by decide +kernel) rfl
theorem kvX6_areAlike : Cond.selects RX6 yX6_areAlike yX6_areAlike ∈ BG := bg_of (i := 26) (by decide +kernel) rfl
theorem kcX6_alike : Cond.code yX6_alike cX6_alike 7 (some .int) ∈ BG := bg_of (i := 968) (by decide +kernel) rfl
theorem kiX6_alike : Cond.instanceMethod yX6_alike ∈ BG := bg_of (i := 966) (by decide +kernel) rfl
theorem kvX6_alike : Cond.selects RX6 yX6_alike yX6_alike ∈ BG := bg_of (i := 967) (by decide +kernel) rfl
theorem kcX6_byLot : Cond.code yX6_byLot cX6_byLot 7 (some .long) ∈ BG := bg_of (i := 981) (by decide +kernel) rfl
theorem kiX6_byLot : Cond.instanceMethod yX6_byLot ∈ BG := bg_of (i := 980) (by decide +kernel) rfl
theorem kvX6_byLot : Cond.selects RX6 yX6_byLot yX6_byLot ∈ BG := bg_of (i := 27) (by decide +kernel) rfl
theorem kcX6_drawn : Cond.code yX6_drawn cX6_drawn 3 (some .long) ∈ BG := bg_of (i := 977) (by decide +kernel) rfl
theorem kiX6_drawn : Cond.instanceMethod yX6_drawn ∈ BG := bg_of (i := 975) (by decide +kernel) rfl
theorem kvX6_drawn : Cond.selects RX6 yX6_drawn yX6_drawn ∈ BG := bg_of (i := 976) (by decide +kernel) rfl
theorem kcX6_chance : Cond.code yX6_chance cX6_chance 8 (some .int) ∈ BG := bg_of (i := 986) (by decide +kernel) rfl
theorem kiX6_chance : Cond.instanceMethod yX6_chance ∈ BG := bg_of (i := 984) (by decide +kernel) rfl
theorem kvX6_chance : Cond.selects RX6 yX6_chance yX6_chance ∈ BG := bg_of (i := 985) (by decide +kernel) rfl
theorem kcX6_isByte : Cond.code yX6_isByte cX6_isByte 1 (some .boolean) ∈ BG := bg_of (i := 993) (by decide +kernel) rfl
theorem ksX6_isByte : Cond.static yX6_isByte ∈ BG := bg_of (i := 992) (by decide +kernel) rfl
theorem kcX6_feed : Cond.code yX6_feed cX6_feed 8 (some .int) ∈ BG := bg_of (i := 990) (by decide +kernel) rfl
theorem kiX6_feed : Cond.instanceMethod yX6_feed ∈ BG := bg_of (i := 988) (by decide +kernel) rfl
theorem kvX6_feed : Cond.selects RX6 yX6_feed yX6_feed ∈ BG := bg_of (i := 989) (by decide +kernel) rfl
theorem kcX6_byteAt : Cond.code yX6_byteAt cX6_byteAt 2 (some .int) ∈ BG := bg_of (i := 1014) (by decide +kernel) rfl
theorem kiX6_byteAt : Cond.instanceMethod yX6_byteAt ∈ BG := bg_of (i := 1013) (by decide +kernel) rfl
theorem kvX6_byteAt : Cond.selects RX6 yX6_byteAt yX6_byteAt ∈ BG := bg_of (i := 31) (by decide +kernel) rfl
theorem kcX6_isLetter : Cond.code yX6_isLetter cX6_isLetter 1 (some .boolean) ∈ BG := bg_of (i := 1017) (by decide +kernel) rfl
theorem ksX6_isLetter : Cond.static yX6_isLetter ∈ BG := bg_of (i := 1016) (by decide +kernel) rfl
theorem kcX6_isDigit : Cond.code yX6_isDigit cX6_isDigit 1 (some .boolean) ∈ BG := bg_of (i := 1020) (by decide +kernel) rfl
theorem ksX6_isDigit : Cond.static yX6_isDigit ∈ BG := bg_of (i := 1019) (by decide +kernel) rfl
theorem kcX6_skips : Cond.code yX6_skips cX6_skips 2 none ∈ BG := bg_of (i := 1010) (by decide +kernel) rfl
theorem kiX6_skips : Cond.instanceMethod yX6_skips ∈ BG := bg_of (i := 1009) (by decide +kernel) rfl
theorem kvX6_skips : Cond.selects RX6 yX6_skips yX6_skips ∈ BG := bg_of (i := 30) (by decide +kernel) rfl
theorem kcX6_wordHere : Cond.code yX6_wordHere cX6_wordHere 4 (some .int) ∈ BG := bg_of (i := 1024) (by decide +kernel) rfl
theorem kiX6_wordHere : Cond.instanceMethod yX6_wordHere ∈ BG := bg_of (i := 1023) (by decide +kernel) rfl
theorem kvX6_wordHere : Cond.selects RX6 yX6_wordHere yX6_wordHere ∈ BG := bg_of (i := 32) (by decide +kernel) rfl
theorem kcX6_manyOf : Cond.code yX6_manyOf cX6_manyOf 1 (some .int) ∈ BG := bg_of (i := 1029) (by decide +kernel) rfl
theorem ksX6_manyOf : Cond.static yX6_manyOf ∈ BG := bg_of (i := 1028) (by decide +kernel) rfl
theorem kcX6_numberHere : Cond.code yX6_numberHere cX6_numberHere 3 (some .int) ∈ BG := bg_of (i := 1033) (by decide +kernel) rfl
theorem kiX6_numberHere : Cond.instanceMethod yX6_numberHere ∈ BG := bg_of (i := 1032) (by decide +kernel) rfl
theorem kvX6_numberHere : Cond.selects RX6 yX6_numberHere yX6_numberHere ∈ BG := bg_of (i := 33) (by decide +kernel) rfl
theorem kcX6_clause : Cond.code yX6_clause cX6_clause 3 (some .int) ∈ BG := bg_of (i := 1006) (by decide +kernel) rfl
theorem kiX6_clause : Cond.instanceMethod yX6_clause ∈ BG := bg_of (i := 1005) (by decide +kernel) rfl
theorem kvX6_clause : Cond.selects RX6 yX6_clause yX6_clause ∈ BG := bg_of (i := 29) (by decide +kernel) rfl
theorem kcX6_isDone : Cond.code yX6_isDone cX6_isDone 4 (some .boolean) ∈ BG := bg_of (i := 1037) (by decide +kernel) rfl
theorem kiX6_isDone : Cond.instanceMethod yX6_isDone ∈ BG := bg_of (i := 1036) (by decide +kernel) rfl
theorem kvX6_isDone : Cond.selects RX6 yX6_isDone yX6_isDone ∈ BG := bg_of (i := 34) (by decide +kernel) rfl
theorem kcX6_goes : Cond.code yX6_goes cX6_goes 4 (some .int) ∈ BG := bg_of (i := 1002) (by decide +kernel) rfl
theorem kiX6_goes : Cond.instanceMethod yX6_goes ∈ BG := bg_of (i := 1001) (by decide +kernel) rfl
theorem kvX6_goes : Cond.selects RX6 yX6_goes yX6_goes ∈ BG := bg_of (i := 28) (by decide +kernel) rfl
theorem kcX6_text : Cond.code yX6_text cX6_text 2 (some .int) ∈ BG := bg_of (i := 998) (by decide +kernel) rfl
theorem kiX6_text : Cond.instanceMethod yX6_text ∈ BG := bg_of (i := 996) (by decide +kernel) rfl
theorem kvX6_text : Cond.selects RX6 yX6_text yX6_text ∈ BG := bg_of (i := 997) (by decide +kernel) rfl
theorem kcX6_image : Cond.code yX6_image cX6_image 1 (some .int) ∈ BG := bg_of (i := 1045) (by decide +kernel) rfl
theorem kiX6_image : Cond.instanceMethod yX6_image ∈ BG := bg_of (i := 1043) (by decide +kernel) rfl
theorem kvX6_image : Cond.selects RX6 yX6_image yX6_image ∈ BG := bg_of (i := 1044) (by decide +kernel) rfl
theorem kcX6_back : Cond.code yX6_back cX6_back 1 (some .int) ∈ BG := bg_of (i := 1050) (by decide +kernel) rfl
theorem kiX6_back : Cond.instanceMethod yX6_back ∈ BG := bg_of (i := 1048) (by decide +kernel) rfl
theorem kvX6_back : Cond.selects RX6 yX6_back yX6_back ∈ BG := bg_of (i := 1049) (by decide +kernel) rfl
theorem kcX6_load : Cond.code yX6_load cX6_load 10 (some .int) ∈ BG := bg_of (i := 1054) (by decide +kernel) rfl
theorem kiX6_load : Cond.instanceMethod yX6_load ∈ BG := bg_of (i := 1052) (by decide +kernel) rfl
theorem kvX6_load : Cond.selects RX6 yX6_load yX6_load ∈ BG := bg_of (i := 1053) (by decide +kernel) rfl
theorem kcX6_pairsOfAll : Cond.code yX6_pairsOfAll cX6_pairsOfAll 3 (some .int) ∈ BG := bg_of (i := 1063) (by decide +kernel) rfl
theorem kiX6_pairsOfAll : Cond.instanceMethod yX6_pairsOfAll ∈ BG := bg_of (i := 1062) (by decide +kernel) rfl
theorem kvX6_pairsOfAll : Cond.selects RX6 yX6_pairsOfAll yX6_pairsOfAll ∈ BG := bg_of (i := 35) (by decide +kernel) rfl
theorem kcX6_jammed : Cond.code yX6_jammed cX6_jammed 3 (some .int) ∈ BG := bg_of (i := 1067) (by decide +kernel) rfl
theorem kiX6_jammed : Cond.instanceMethod yX6_jammed ∈ BG := bg_of (i := 1066) (by decide +kernel) rfl
theorem kvX6_jammed : Cond.selects RX6 yX6_jammed yX6_jammed ∈ BG := bg_of (i := 36) (by decide +kernel) rfl
theorem kcX6_count : Cond.code yX6_count cX6_count 2 (some .int) ∈ BG := bg_of (i := 1059) (by decide +kernel) rfl
theorem kiX6_count : Cond.instanceMethod yX6_count ∈ BG := bg_of (i := 1057) (by decide +kernel) rfl
theorem kvX6_count : Cond.selects RX6 yX6_count yX6_count ∈ BG := bg_of (i := 1058) (by decide +kernel) rfl
theorem kcX6_put : Cond.code yX6_put cX6_put 5 (some .int) ∈ BG := bg_of (i := 1072) (by decide +kernel) rfl
theorem kiX6_put : Cond.instanceMethod yX6_put ∈ BG := bg_of (i := 1070) (by decide +kernel) rfl
theorem kvX6_put : Cond.selects RX6 yX6_put yX6_put ∈ BG := bg_of (i := 1071) (by decide +kernel) rfl
theorem kcX6_item : Cond.code yX6_item cX6_item 3 (some .long) ∈ BG := bg_of (i := 1076) (by decide +kernel) rfl
theorem kiX6_item : Cond.instanceMethod yX6_item ∈ BG := bg_of (i := 1074) (by decide +kernel) rfl
theorem kvX6_item : Cond.selects RX6 yX6_item yX6_item ∈ BG := bg_of (i := 1075) (by decide +kernel) rfl
theorem kcX6_copy : Cond.code yX6_copy cX6_copy 6 (some .int) ∈ BG := bg_of (i := 1080) (by decide +kernel) rfl
theorem kiX6_copy : Cond.instanceMethod yX6_copy ∈ BG := bg_of (i := 1078) (by decide +kernel) rfl
theorem kvX6_copy : Cond.selects RX6 yX6_copy yX6_copy ∈ BG := bg_of (i := 1079) (by decide +kernel) rfl
theorem kcJ9_abs_067f4 : Cond.code yJ9_abs_067f4 cJ9_abs_067f4 2 (some .long) ∈ BG := bg_of (i := 245) (by decide +kernel) rfl
theorem ksJ9_abs_067f4 : Cond.static yJ9_abs_067f4 ∈ BG := bg_of (i := 244) (by decide +kernel) rfl
theorem kcJ9_max_7cf53 : Cond.code yJ9_max_7cf53 cJ9_max_7cf53 2 (some .int) ∈ BG := bg_of (i := 322) (by decide +kernel) rfl
theorem ksJ9_max_7cf53 : Cond.static yJ9_max_7cf53 ∈ BG := bg_of (i := 321) (by decide +kernel) rfl
theorem kcJ9_min_7cf53 : Cond.code yJ9_min_7cf53 cJ9_min_7cf53 2 (some .int) ∈ BG := bg_of (i := 363) (by decide +kernel) rfl
theorem ksJ9_min_7cf53 : Cond.static yJ9_min_7cf53 ∈ BG := bg_of (i := 362) (by decide +kernel) rfl
theorem knL : Cond.initialized RL ∈ BG := bg_of (i := 37) (by decide +kernel) rfl
theorem knX5 : Cond.initialized RX5 ∈ BG := bg_of (i := 38) (by decide +kernel) rfl
theorem knX4 : Cond.initialized RX4 ∈ BG := bg_of (i := 39) (by decide +kernel) rfl
theorem knX3 : Cond.initialized RX3 ∈ BG := bg_of (i := 40) (by decide +kernel) rfl
theorem knX2 : Cond.initialized RX2 ∈ BG := bg_of (i := 41) (by decide +kernel) rfl
theorem knX0 : Cond.initialized RX0 ∈ BG := bg_of (i := 42) (by decide +kernel) rfl
theorem knX1 : Cond.initialized RX1 ∈ BG := bg_of (i := 43) (by decide +kernel) rfl
theorem knX6 : Cond.initialized RX6 ∈ BG := bg_of (i := 44) (by decide +kernel) rfl
theorem knJ9 : Cond.initialized RJ9 ∈ BG := bg_of (i := 45) (by decide +kernel) rfl
theorem knJ13 : Cond.initialized RJ13 ∈ BG := bg_of (i := 46) (by decide +kernel) rfl
theorem knJ10 : Cond.initialized RJ10 ∈ BG := bg_of (i := 47) (by decide +kernel) rfl
theorem knJ0 : Cond.initialized RJ0 ∈ BG := bg_of (i := 48) (by decide +kernel) rfl
theorem knJ1 : Cond.initialized RJ1 ∈ BG := bg_of (i := 49) (by decide +kernel) rfl
theorem knJ3 : Cond.initialized RJ3 ∈ BG := bg_of (i := 50) (by decide +kernel) rfl
theorem knJ2 : Cond.initialized RJ2 ∈ BG := bg_of (i := 51) (by decide +kernel) rfl
theorem oL_7 : Cond.classLink RL 7 RX5 ∈ BG := bg_of (i := 52) (by decide +kernel) rfl
theorem kiX5 : Cond.instantiable RX5 8 ∈ BG := bg_of (i := 53) (by decide +kernel) rfl
theorem lL_9 : Cond.methodLink RL 9 yX5_init ∈ BG := bg_of (i := 54) (by decide +kernel) rfl
theorem lX5_3 : Cond.methodLink RX5 3 objectInit ∈ BG := bg_of (i := 57) (by decide +kernel) rfl
theorem oX5_9 : Cond.classLink RX5 9 RX4 ∈ BG := bg_of (i := 60) (by decide +kernel) rfl
theorem kiX4 : Cond.instantiable RX4 4 ∈ BG := bg_of (i := 61) (by decide +kernel) rfl
theorem lX5_11 : Cond.methodLink RX5 11 yX4_init ∈ BG := bg_of (i := 62) (by decide +kernel) rfl
theorem lX4_3 : Cond.methodLink RX4 3 objectInit ∈ BG := bg_of (i := 65) (by decide +kernel) rfl
theorem oX4_9 : Cond.classLink RX4 9 RX3 ∈ BG := bg_of (i := 66) (by decide +kernel) rfl
theorem kiX3 : Cond.instantiable RX3 6 ∈ BG := bg_of (i := 68) (by decide +kernel) rfl
theorem lX3_3 : Cond.methodLink RX3 3 objectInit ∈ BG := bg_of (i := 72) (by decide +kernel) rfl
theorem fX3_9 : Cond.fieldLink RX3 9 RX3 "traits" "[I" ∈ BG := bg_of (i := 73) (by decide +kernel) rfl
theorem fX4_32 : Cond.fieldLink RX4 32 RX3 "traits" "[I" ∈ BG := bg_of (i := 74) (by decide +kernel) rfl
theorem fX5_102 : Cond.fieldLink RX5 102 RX3 "traits" "[I" ∈ BG := bg_of (i := 75) (by decide +kernel) rfl
theorem fX3_15 : Cond.fieldLink RX3 15 RX3 "a" "[I" ∈ BG := bg_of (i := 76) (by decide +kernel) rfl
theorem fX5_106 : Cond.fieldLink RX5 106 RX3 "a" "[I" ∈ BG := bg_of (i := 77) (by decide +kernel) rfl
theorem fX3_18 : Cond.fieldLink RX3 18 RX3 "b" "[I" ∈ BG := bg_of (i := 78) (by decide +kernel) rfl
theorem fX5_113 : Cond.fieldLink RX5 113 RX3 "b" "[I" ∈ BG := bg_of (i := 79) (by decide +kernel) rfl
theorem fX3_21 : Cond.fieldLink RX3 21 RX3 "pairs" "I" ∈ BG := bg_of (i := 80) (by decide +kernel) rfl
theorem fX4_36 : Cond.fieldLink RX4 36 RX3 "pairs" "I" ∈ BG := bg_of (i := 81) (by decide +kernel) rfl
theorem fX5_88 : Cond.fieldLink RX5 88 RX3 "pairs" "I" ∈ BG := bg_of (i := 82) (by decide +kernel) rfl
theorem fX3_25 : Cond.fieldLink RX3 25 RX3 "above" "J" ∈ BG := bg_of (i := 83) (by decide +kernel) rfl
theorem fX5_133 : Cond.fieldLink RX5 133 RX3 "above" "J" ∈ BG := bg_of (i := 84) (by decide +kernel) rfl
theorem fX3_29 : Cond.fieldLink RX3 29 RX3 "below" "J" ∈ BG := bg_of (i := 85) (by decide +kernel) rfl
theorem fX5_137 : Cond.fieldLink RX5 137 RX3 "below" "J" ∈ BG := bg_of (i := 86) (by decide +kernel) rfl
theorem ka_int : Cond.arrayClass .int ∈ BG := bg_of (i := 100) (by decide +kernel) rfl
theorem fX4_11 : Cond.fieldLink RX4 11 RX4 "wheels" "[LTideWheels$Wheel;" ∈ BG := bg_of (i := 101) (by decide +kernel) rfl
theorem fX5_288 : Cond.fieldLink RX5 288 RX4 "wheels" "[LTideWheels$Wheel;" ∈ BG := bg_of (i := 102) (by decide +kernel) rfl
theorem fX4_17 : Cond.fieldLink RX4 17 RX4 "parts" "I" ∈ BG := bg_of (i := 103) (by decide +kernel) rfl
theorem fX5_65 : Cond.fieldLink RX5 65 RX4 "parts" "I" ∈ BG := bg_of (i := 104) (by decide +kernel) rfl
theorem fX4_21 : Cond.fieldLink RX4 21 RX4 "shaft" "I" ∈ BG := bg_of (i := 105) (by decide +kernel) rfl
theorem fX5_81 : Cond.fieldLink RX5 81 RX4 "shaft" "I" ∈ BG := bg_of (i := 106) (by decide +kernel) rfl
theorem fX4_24 : Cond.fieldLink RX4 24 RX4 "tick" "I" ∈ BG := bg_of (i := 107) (by decide +kernel) rfl
theorem fX5_141 : Cond.fieldLink RX5 141 RX4 "tick" "I" ∈ BG := bg_of (i := 108) (by decide +kernel) rfl
theorem oX5_25 : Cond.classLink RX5 25 RX1 ∈ BG := bg_of (i := 118) (by decide +kernel) rfl
theorem oX5_31 : Cond.classLink RX5 31 RX2 ∈ BG := bg_of (i := 120) (by decide +kernel) rfl
theorem kiX2 : Cond.instantiable RX2 8 ∈ BG := bg_of (i := 121) (by decide +kernel) rfl
theorem lX2_3 : Cond.methodLink RX2 3 objectInit ∈ BG := bg_of (i := 125) (by decide +kernel) rfl
theorem fX2_9 : Cond.fieldLink RX2 9 RX2 "bytes" "[I" ∈ BG := bg_of (i := 126) (by decide +kernel) rfl
theorem fX2_15 : Cond.fieldLink RX2 15 RX2 "size" "I" ∈ BG := bg_of (i := 127) (by decide +kernel) rfl
theorem fX5_227 : Cond.fieldLink RX5 227 RX2 "size" "I" ∈ BG := bg_of (i := 128) (by decide +kernel) rfl
theorem fX2_19 : Cond.fieldLink RX2 19 RX2 "sort" "I" ∈ BG := bg_of (i := 129) (by decide +kernel) rfl
theorem fX2_22 : Cond.fieldLink RX2 22 RX2 "from" "I" ∈ BG := bg_of (i := 130) (by decide +kernel) rfl
theorem fX2_25 : Cond.fieldLink RX2 25 RX2 "to" "I" ∈ BG := bg_of (i := 131) (by decide +kernel) rfl
theorem fX2_28 : Cond.fieldLink RX2 28 RX2 "said" "[I" ∈ BG := bg_of (i := 132) (by decide +kernel) rfl
theorem fX2_31 : Cond.fieldLink RX2 31 RX2 "saidSize" "I" ∈ BG := bg_of (i := 133) (by decide +kernel) rfl
theorem fX2_34 : Cond.fieldLink RX2 34 RX2 "clauses" "I" ∈ BG := bg_of (i := 134) (by decide +kernel) rfl
theorem fX5_236 : Cond.fieldLink RX5 236 RX2 "clauses" "I" ∈ BG := bg_of (i := 135) (by decide +kernel) rfl
theorem oX5_38 : Cond.classLink RX5 38 RX3 ∈ BG := bg_of (i := 153) (by decide +kernel) rfl
theorem oX5_49 : Cond.classLink RX5 49 RX0 ∈ BG := bg_of (i := 155) (by decide +kernel) rfl
theorem kiX0 : Cond.instantiable RX0 2 ∈ BG := bg_of (i := 156) (by decide +kernel) rfl
theorem lX0_1 : Cond.methodLink RX0 1 objectInit ∈ BG := bg_of (i := 160) (by decide +kernel) rfl
theorem fX0_7 : Cond.fieldLink RX0 7 RX0 "level" "J" ∈ BG := bg_of (i := 161) (by decide +kernel) rfl
theorem fX5_162 : Cond.fieldLink RX5 162 RX0 "level" "J" ∈ BG := bg_of (i := 162) (by decide +kernel) rfl
theorem fX0_13 : Cond.fieldLink RX0 13 RX0 "way" "I" ∈ BG := bg_of (i := 163) (by decide +kernel) rfl
theorem ka_long : Cond.arrayClass .long ∈ BG := bg_of (i := 169) (by decide +kernel) rfl
theorem kiX1 : Cond.instantiable RX1 3 ∈ BG := bg_of (i := 170) (by decide +kernel) rfl
theorem lX1_3 : Cond.methodLink RX1 3 objectInit ∈ BG := bg_of (i := 174) (by decide +kernel) rfl
theorem fX1_9 : Cond.fieldLink RX1 9 RX1 "row" "[J" ∈ BG := bg_of (i := 175) (by decide +kernel) rfl
theorem fX5_268 : Cond.fieldLink RX5 268 RX1 "row" "[J" ∈ BG := bg_of (i := 176) (by decide +kernel) rfl
theorem fX1_15 : Cond.fieldLink RX1 15 RX1 "sort" "I" ∈ BG := bg_of (i := 177) (by decide +kernel) rfl
theorem fX5_252 : Cond.fieldLink RX5 252 RX1 "sort" "I" ∈ BG := bg_of (i := 178) (by decide +kernel) rfl
theorem fX1_19 : Cond.fieldLink RX1 19 RX1 "size" "I" ∈ BG := bg_of (i := 179) (by decide +kernel) rfl
theorem fX5_287 : Cond.fieldLink RX5 287 RX1 "size" "I" ∈ BG := bg_of (i := 180) (by decide +kernel) rfl
theorem fX5_12 : Cond.fieldLink RX5 12 RX5 "works" "LTideWheels$Works;" ∈ BG := bg_of (i := 188) (by decide +kernel) rfl
theorem fX5_18 : Cond.fieldLink RX5 18 RX5 "kept" "LTideWheels$Works;" ∈ BG := bg_of (i := 189) (by decide +kernel) rfl
theorem fX5_21 : Cond.fieldLink RX5 21 RX5 "isKept" "Z" ∈ BG := bg_of (i := 190) (by decide +kernel) rfl
theorem fX5_27 : Cond.fieldLink RX5 27 RX5 "sheets" "[LTideWheels$Sheet;" ∈ BG := bg_of (i := 191) (by decide +kernel) rfl
theorem fX5_34 : Cond.fieldLink RX5 34 RX5 "tape" "LTideWheels$Tape;" ∈ BG := bg_of (i := 192) (by decide +kernel) rfl
theorem fX5_41 : Cond.fieldLink RX5 41 RX5 "thought" "LTideWheels$Wheel;" ∈ BG := bg_of (i := 193) (by decide +kernel) rfl
theorem fX5_45 : Cond.fieldLink RX5 45 RX5 "rest" "[J" ∈ BG := bg_of (i := 194) (by decide +kernel) rfl
theorem fX5_52 : Cond.fieldLink RX5 52 RX5 "flow" "LTideWheels$Flow;" ∈ BG := bg_of (i := 195) (by decide +kernel) rfl
theorem lL_13 : Cond.methodLink RL 13 yX5_part ∈ BG := bg_of (i := 213) (by decide +kernel) rfl
theorem lX5_57 : Cond.methodLink RX5 57 yX5_allows ∈ BG := bg_of (i := 217) (by decide +kernel) rfl
theorem lX5_91 : Cond.methodLink RX5 91 yX5_within ∈ BG := bg_of (i := 220) (by decide +kernel) rfl
theorem fX5_190 : Cond.fieldLink RX5 190 RX5 "MOST" "[I" ∈ BG := bg_of (i := 223) (by decide +kernel) rfl
theorem lX5_61 : Cond.methodLink RX5 61 yX4_addWheel ∈ BG := bg_of (i := 225) (by decide +kernel) rfl
theorem lX4_39 : Cond.methodLink RX4 39 yX3_tune ∈ BG := bg_of (i := 229) (by decide +kernel) rfl
theorem lX3_45 : Cond.methodLink RX3 45 yX3_jammed ∈ BG := bg_of (i := 233) (by decide +kernel) rfl
theorem lX5_205 : Cond.methodLink RX5 205 yJ9_abs_067f4 ∈ BG := bg_of (i := 243) (by decide +kernel) rfl
theorem lX5_277 : Cond.methodLink RX5 277 yX5_greatestDivisor ∈ BG := bg_of (i := 246) (by decide +kernel) rfl
theorem lX5_281 : Cond.methodLink RX5 281 yX5_cut ∈ BG := bg_of (i := 249) (by decide +kernel) rfl
theorem lL_18 : Cond.methodLink RL 18 yX5_drop ∈ BG := bg_of (i := 252) (by decide +kernel) rfl
theorem lL_23 : Cond.methodLink RL 23 yX5_gear ∈ BG := bg_of (i := 256) (by decide +kernel) rfl
theorem lX5_69 : Cond.methodLink RX5 69 yX4_wheelOf ∈ BG := bg_of (i := 260) (by decide +kernel) rfl
theorem lX5_73 : Cond.methodLink RX5 73 yX5_isTeeth ∈ BG := bg_of (i := 264) (by decide +kernel) rfl
theorem lX5_77 : Cond.methodLink RX5 77 yX3_addPair ∈ BG := bg_of (i := 267) (by decide +kernel) rfl
theorem lX5_84 : Cond.methodLink RX5 84 yX3_tune ∈ BG := bg_of (i := 271) (by decide +kernel) rfl
theorem lL_28 : Cond.methodLink RL 28 yX5_ungear ∈ BG := bg_of (i := 272) (by decide +kernel) rfl
theorem lL_33 : Cond.methodLink RL 33 yX5_shaft ∈ BG := bg_of (i := 276) (by decide +kernel) rfl
theorem lX5_95 : Cond.methodLink RX5 95 yX4_goAt ∈ BG := bg_of (i := 280) (by decide +kernel) rfl
theorem lL_37 : Cond.methodLink RL 37 yX5_set ∈ BG := bg_of (i := 284) (by decide +kernel) rfl
theorem lX5_98 : Cond.methodLink RX5 98 yX5_change ∈ BG := bg_of (i := 288) (by decide +kernel) rfl
theorem lL_41 : Cond.methodLink RL 41 yX5_kind ∈ BG := bg_of (i := 292) (by decide +kernel) rfl
theorem lL_46 : Cond.methodLink RL 46 yX5_of ∈ BG := bg_of (i := 296) (by decide +kernel) rfl
theorem lX5_109 : Cond.methodLink RX5 109 yX3_toothOf ∈ BG := bg_of (i := 300) (by decide +kernel) rfl
theorem lL_50 : Cond.methodLink RL 50 yX5_taken ∈ BG := bg_of (i := 304) (by decide +kernel) rfl
theorem lX5_116 : Cond.methodLink RX5 116 yX3_isA ∈ BG := bg_of (i := 308) (by decide +kernel) rfl
theorem lL_54 : Cond.methodLink RL 54 yX5_jam ∈ BG := bg_of (i := 314) (by decide +kernel) rfl
theorem lX5_119 : Cond.methodLink RX5 119 yX3_jammed ∈ BG := bg_of (i := 318) (by decide +kernel) rfl
theorem lX5_123 : Cond.methodLink RX5 123 yX5_misfit ∈ BG := bg_of (i := 319) (by decide +kernel) rfl
theorem lX5_126 : Cond.methodLink RX5 126 yJ9_max_7cf53 ∈ BG := bg_of (i := 320) (by decide +kernel) rfl
theorem lL_58 : Cond.methodLink RL 58 yX5_speed ∈ BG := bg_of (i := 323) (by decide +kernel) rfl
theorem nX5_131 : Cond.constantLong RX5 131 (-9223372036854775808 : Int64) ∈ BG := bg_of (i := 327) (by decide +kernel) rfl
theorem lL_63 : Cond.methodLink RL 63 yX5_turn ∈ BG := bg_of (i := 328) (by decide +kernel) rfl
theorem nX5_140 : Cond.constant RX5 140 (99999 : Int32) ∈ BG := bg_of (i := 332) (by decide +kernel) rfl
theorem lL_67 : Cond.methodLink RL 67 yX5_height ∈ BG := bg_of (i := 333) (by decide +kernel) rfl
theorem lX5_144 : Cond.methodLink RX5 144 yX4_level ∈ BG := bg_of (i := 337) (by decide +kernel) rfl
theorem lX4_43 : Cond.methodLink RX4 43 yX3_swing ∈ BG := bg_of (i := 341) (by decide +kernel) rfl
theorem lX3_75 : Cond.methodLink RX3 75 yX3_spot ∈ BG := bg_of (i := 345) (by decide +kernel) rfl
theorem lX3_61 : Cond.methodLink RX3 61 yX3_wayAt ∈ BG := bg_of (i := 349) (by decide +kernel) rfl
theorem nX3_57 : Cond.constantLong RX3 57 (2 : Int64) ∈ BG := bg_of (i := 354) (by decide +kernel) rfl
theorem nX3_59 : Cond.constantLong RX3 59 (64 : Int64) ∈ BG := bg_of (i := 355) (by decide +kernel) rfl
theorem nX3_65 : Cond.constantLong RX3 65 (1024 : Int64) ∈ BG := bg_of (i := 356) (by decide +kernel) rfl
theorem lX3_79 : Cond.methodLink RX3 79 yX3_shapeAt ∈ BG := bg_of (i := 357) (by decide +kernel) rfl
theorem lX3_67 : Cond.methodLink RX3 67 yJ9_min_7cf53 ∈ BG := bg_of (i := 361) (by decide +kernel) rfl
theorem lX3_72 : Cond.methodLink RX3 72 yJ9_max_7cf53 ∈ BG := bg_of (i := 364) (by decide +kernel) rfl
theorem lL_72 : Cond.methodLink RL 72 yX5_heightAt ∈ BG := bg_of (i := 365) (by decide +kernel) rfl
theorem lX5_148 : Cond.methodLink RX5 148 yX5_isTick ∈ BG := bg_of (i := 369) (by decide +kernel) rfl
theorem lL_77 : Cond.methodLink RL 77 yX5_heightOf ∈ BG := bg_of (i := 372) (by decide +kernel) rfl
theorem lX5_151 : Cond.methodLink RX5 151 yX3_swing ∈ BG := bg_of (i := 376) (by decide +kernel) rfl
theorem lL_81 : Cond.methodLink RL 81 yX5_place ∈ BG := bg_of (i := 377) (by decide +kernel) rfl
theorem lX5_154 : Cond.methodLink RX5 154 yX3_spot ∈ BG := bg_of (i := 381) (by decide +kernel) rfl
theorem lL_85 : Cond.methodLink RL 85 yX5_waters ∈ BG := bg_of (i := 382) (by decide +kernel) rfl
theorem lX5_158 : Cond.methodLink RX5 158 yX0_start ∈ BG := bg_of (i := 386) (by decide +kernel) rfl
theorem lX5_164 : Cond.methodLink RX5 164 yX0_step ∈ BG := bg_of (i := 390) (by decide +kernel) rfl
theorem lL_89 : Cond.methodLink RL 89 yX5_water ∈ BG := bg_of (i := 394) (by decide +kernel) rfl
theorem lL_93 : Cond.methodLink RL 93 yX5_tells ∈ BG := bg_of (i := 398) (by decide +kernel) rfl
theorem lX5_168 : Cond.methodLink RX5 168 yX5_isSheet ∈ BG := bg_of (i := 402) (by decide +kernel) rfl
theorem lX5_171 : Cond.methodLink RX5 171 yX1_canTell ∈ BG := bg_of (i := 405) (by decide +kernel) rfl
theorem lX1_22 : Cond.methodLink RX1 22 yX1_isMissing ∈ BG := bg_of (i := 409) (by decide +kernel) rfl
theorem lX5_175 : Cond.methodLink RX5 175 yX1_isMissing ∈ BG := bg_of (i := 413) (by decide +kernel) rfl
theorem lX5_178 : Cond.methodLink RX5 178 yX5_firstOtherwise ∈ BG := bg_of (i := 414) (by decide +kernel) rfl
theorem lX5_182 : Cond.methodLink RX5 182 yX5_wrongBy ∈ BG := bg_of (i := 418) (by decide +kernel) rfl
theorem lX5_186 : Cond.methodLink RX5 186 yX5_think ∈ BG := bg_of (i := 422) (by decide +kernel) rfl
theorem lX5_284 : Cond.methodLink RX5 284 yX3_become ∈ BG := bg_of (i := 426) (by decide +kernel) rfl
theorem lX3_32 : Cond.methodLink RX3 32 arraycopyName ∈ BG := bg_of (i := 430) (by decide +kernel) rfl
theorem lX5_292 : Cond.methodLink RX5 292 yX5_isAllSo ∈ BG := bg_of (i := 433) (by decide +kernel) rfl
theorem lL_97 : Cond.methodLink RL 97 yX5_refound ∈ BG := bg_of (i := 437) (by decide +kernel) rfl
theorem lX5_193 : Cond.methodLink RX5 193 yX5_hasHighs ∈ BG := bg_of (i := 441) (by decide +kernel) rfl
theorem lL_102 : Cond.methodLink RL 102 yX5_film ∈ BG := bg_of (i := 445) (by decide +kernel) rfl
theorem lX5_197 : Cond.methodLink RX5 197 yX1_begin ∈ BG := bg_of (i := 449) (by decide +kernel) rfl
theorem lX5_201 : Cond.methodLink RX5 201 yX1_write ∈ BG := bg_of (i := 453) (by decide +kernel) rfl
theorem lX1_26 : Cond.methodLink RX1 26 yX1_holds ∈ BG := bg_of (i := 457) (by decide +kernel) rfl
theorem lL_106 : Cond.methodLink RL 106 yX5_nearest ∈ BG := bg_of (i := 461) (by decide +kernel) rfl
theorem lL_110 : Cond.methodLink RL 110 yX5_off ∈ BG := bg_of (i := 465) (by decide +kernel) rfl
theorem lX5_209 : Cond.methodLink RX5 209 yX5_lowest ∈ BG := bg_of (i := 469) (by decide +kernel) rfl
theorem lL_115 : Cond.methodLink RL 115 yX5_alike ∈ BG := bg_of (i := 470) (by decide +kernel) rfl
theorem lX5_213 : Cond.methodLink RX5 213 yX4_groups ∈ BG := bg_of (i := 474) (by decide +kernel) rfl
theorem lX4_51 : Cond.methodLink RX4 51 yX4_likeOnes ∈ BG := bg_of (i := 478) (by decide +kernel) rfl
theorem lX4_47 : Cond.methodLink RX4 47 yX3_isAsFastAs ∈ BG := bg_of (i := 482) (by decide +kernel) rfl
theorem lX5_216 : Cond.methodLink RX5 216 yX4_likeOnes ∈ BG := bg_of (i := 486) (by decide +kernel) rfl
theorem lL_119 : Cond.methodLink RL 119 yX5_drawn ∈ BG := bg_of (i := 487) (by decide +kernel) rfl
theorem lX5_220 : Cond.methodLink RX5 220 yX5_levelByLot ∈ BG := bg_of (i := 491) (by decide +kernel) rfl
theorem nX5_296 : Cond.constant RX5 296 (1103515245 : Int32) ∈ BG := bg_of (i := 495) (by decide +kernel) rfl
theorem lL_123 : Cond.methodLink RL 123 yX5_chance ∈ BG := bg_of (i := 496) (by decide +kernel) rfl
theorem lL_127 : Cond.methodLink RL 127 yX5_feed ∈ BG := bg_of (i := 500) (by decide +kernel) rfl
theorem lX5_224 : Cond.methodLink RX5 224 yX5_isByte ∈ BG := bg_of (i := 504) (by decide +kernel) rfl
theorem lX5_230 : Cond.methodLink RX5 230 yX2_addByte ∈ BG := bg_of (i := 507) (by decide +kernel) rfl
theorem lL_132 : Cond.methodLink RL 132 yX5_text ∈ BG := bg_of (i := 511) (by decide +kernel) rfl
theorem lX5_233 : Cond.methodLink RX5 233 yX2_findFault ∈ BG := bg_of (i := 515) (by decide +kernel) rfl
theorem lX2_52 : Cond.methodLink RX2 52 yX2_readClause ∈ BG := bg_of (i := 519) (by decide +kernel) rfl
theorem lX2_56 : Cond.methodLink RX2 56 yX2_next ∈ BG := bg_of (i := 523) (by decide +kernel) rfl
theorem lX2_48 : Cond.methodLink RX2 48 yX2_behind ∈ BG := bg_of (i := 527) (by decide +kernel) rfl
theorem lX2_45 : Cond.methodLink RX2 45 yX2_sortAt ∈ BG := bg_of (i := 531) (by decide +kernel) rfl
theorem lX2_37 : Cond.methodLink RX2 37 yX2_byteAt ∈ BG := bg_of (i := 535) (by decide +kernel) rfl
theorem lX2_60 : Cond.methodLink RX2 60 yX2_wordRead ∈ BG := bg_of (i := 540) (by decide +kernel) rfl
theorem lX2_77 : Cond.methodLink RX2 77 yX2_isSpelt ∈ BG := bg_of (i := 553) (by decide +kernel) rfl
theorem lX2_81 : Cond.methodLink RX2 81 yJ0_length_8abf5 ∈ BG := bg_of (i := 557) (by decide +kernel) rfl
theorem lJ0_335 : Cond.methodLink RJ0 335 yJ0_coder_7d493 ∈ BG := bg_of (i := 561) (by decide +kernel) rfl
theorem fJ0_38 : Cond.fieldLink RJ0 38 RJ0 "COMPACT_STRINGS" "Z" ∈ BG := bg_of (i := 565) (by decide +kernel) rfl
theorem lX2_86 : Cond.methodLink RX2 86 yJ0_charAt_5068e ∈ BG := bg_of (i := 567) (by decide +kernel) rfl
theorem lJ0_492 : Cond.methodLink RJ0 492 yJ0_isLatin1_aae02 ∈ BG := bg_of (i := 571) (by decide +kernel) rfl
theorem lJ0_495 : Cond.methodLink RJ0 495 yJ1_charAt_3b067 ∈ BG := bg_of (i := 575) (by decide +kernel) rfl
theorem lJ1_9 : Cond.methodLink RJ1 9 yJ0_checkIndex_df160 ∈ BG := bg_of (i := 578) (by decide +kernel) rfl
theorem fJ0_1053 : Cond.fieldLink RJ0 1053 RJ3 "SIOOBE_FORMATTER" "Ljava/util/function/BiFunction;" ∈ BG := bg_of (i := 581) (by decide +kernel) rfl
theorem lJ0_1059 : Cond.methodLink RJ0 1059 yJ3_checkIndex_8e157 ∈ BG := bg_of (i := 583) (by decide +kernel) rfl
theorem lJ0_498 : Cond.methodLink RJ0 498 yJ2_charAt_3b067 ∈ BG := bg_of (i := 586) (by decide +kernel) rfl
theorem lJ2_67 : Cond.methodLink RJ2 67 yJ2_checkIndex_2214a ∈ BG := bg_of (i := 589) (by decide +kernel) rfl
theorem lJ2_48 : Cond.methodLink RJ2 48 yJ2_length_9d52b ∈ BG := bg_of (i := 592) (by decide +kernel) rfl
theorem lJ2_414 : Cond.methodLink RJ2 414 yJ0_checkIndex_df160 ∈ BG := bg_of (i := 595) (by decide +kernel) rfl
theorem lJ2_71 : Cond.methodLink RJ2 71 yJ2_getChar_3b067 ∈ BG := bg_of (i := 596) (by decide +kernel) rfl
theorem fJ2_44 : Cond.fieldLink RJ2 44 RJ2 "$assertionsDisabled" "Z" ∈ BG := bg_of (i := 599) (by decide +kernel) rfl
theorem fJ2_59 : Cond.fieldLink RJ2 59 RJ2 "HI_BYTE_SHIFT" "I" ∈ BG := bg_of (i := 601) (by decide +kernel) rfl
theorem fJ2_63 : Cond.fieldLink RJ2 63 RJ2 "LO_BYTE_SHIFT" "I" ∈ BG := bg_of (i := 603) (by decide +kernel) rfl
theorem lX2_63 : Cond.methodLink RX2 63 yX2_say ∈ BG := bg_of (i := 605) (by decide +kernel) rfl
theorem fX5_305 : Cond.fieldLink RX5 305 RX5 "NUMBERS" "[I" ∈ BG := bg_of (i := 612) (by decide +kernel) rfl
theorem lX2_70 : Cond.methodLink RX2 70 yX2_numberRead ∈ BG := bg_of (i := 614) (by decide +kernel) rfl
theorem lX5_239 : Cond.methodLink RX5 239 yX2_saidAt ∈ BG := bg_of (i := 618) (by decide +kernel) rfl
theorem lX5_242 : Cond.methodLink RX5 242 yX5_doClause ∈ BG := bg_of (i := 622) (by decide +kernel) rfl
theorem lX5_297 : Cond.methodLink RX5 297 yX5_part ∈ BG := bg_of (i := 626) (by decide +kernel) rfl
theorem lX5_300 : Cond.methodLink RX5 300 yX5_gear ∈ BG := bg_of (i := 627) (by decide +kernel) rfl
theorem lX5_303 : Cond.methodLink RX5 303 yX5_shaft ∈ BG := bg_of (i := 628) (by decide +kernel) rfl
theorem lX5_245 : Cond.methodLink RX5 245 yX5_numbersOf ∈ BG := bg_of (i := 629) (by decide +kernel) rfl
theorem ka_byte : Cond.arrayClass .byte ∈ BG := bg_of (i := 630) (by decide +kernel) rfl
theorem lL_136 : Cond.methodLink RL 136 yX5_image ∈ BG := bg_of (i := 631) (by decide +kernel) rfl
theorem lX5_248 : Cond.methodLink RX5 248 yX4_become ∈ BG := bg_of (i := 635) (by decide +kernel) rfl
theorem lX4_28 : Cond.methodLink RX4 28 yX3_become ∈ BG := bg_of (i := 639) (by decide +kernel) rfl
theorem lL_140 : Cond.methodLink RL 140 yX5_back ∈ BG := bg_of (i := 640) (by decide +kernel) rfl
theorem lL_144 : Cond.methodLink RL 144 yX5_load ∈ BG := bg_of (i := 644) (by decide +kernel) rfl
theorem lX5_255 : Cond.methodLink RX5 255 yX1_holds ∈ BG := bg_of (i := 648) (by decide +kernel) rfl
theorem lX5_259 : Cond.methodLink RX5 259 yX5_partFrom ∈ BG := bg_of (i := 649) (by decide +kernel) rfl
theorem lL_148 : Cond.methodLink RL 148 yX5_count ∈ BG := bg_of (i := 653) (by decide +kernel) rfl
theorem lX5_262 : Cond.methodLink RX5 262 yX4_pairsOfAll ∈ BG := bg_of (i := 657) (by decide +kernel) rfl
theorem lX5_265 : Cond.methodLink RX5 265 yX4_jams ∈ BG := bg_of (i := 661) (by decide +kernel) rfl
theorem lX4_55 : Cond.methodLink RX4 55 yX3_jammed ∈ BG := bg_of (i := 665) (by decide +kernel) rfl
theorem lL_152 : Cond.methodLink RL 152 yX5_sheet ∈ BG := bg_of (i := 666) (by decide +kernel) rfl
theorem lL_158 : Cond.methodLink RL 158 yX5_put ∈ BG := bg_of (i := 670) (by decide +kernel) rfl
theorem lL_163 : Cond.methodLink RL 163 yX5_item ∈ BG := bg_of (i := 674) (by decide +kernel) rfl
theorem lL_167 : Cond.methodLink RL 167 yX5_copy ∈ BG := bg_of (i := 678) (by decide +kernel) rfl
theorem lX5_271 : Cond.methodLink RX5 271 arraycopyName ∈ BG := bg_of (i := 682) (by decide +kernel) rfl
theorem oL_10 : Cond.classLink RL 10 RX6 ∈ BG := bg_of (i := 683) (by decide +kernel) rfl
theorem kiX6 : Cond.instantiable RX6 18 ∈ BG := bg_of (i := 684) (by decide +kernel) rfl
theorem lL_12 : Cond.methodLink RL 12 yX6_init ∈ BG := bg_of (i := 685) (by decide +kernel) rfl
theorem lX6_5 : Cond.methodLink RX6 5 objectInit ∈ BG := bg_of (i := 688) (by decide +kernel) rfl
theorem fX6_11 : Cond.fieldLink RX6 11 RX6 "s" "[I" ∈ BG := bg_of (i := 690) (by decide +kernel) rfl
theorem fX6_15 : Cond.fieldLink RX6 15 RX6 "image" "[I" ∈ BG := bg_of (i := 691) (by decide +kernel) rfl
theorem fX6_293 : Cond.fieldLink RX6 293 RX6 "hasImage" "Z" ∈ BG := bg_of (i := 692) (by decide +kernel) rfl
theorem fX6_164 : Cond.fieldLink RX6 164 RX6 "found" "I" ∈ BG := bg_of (i := 693) (by decide +kernel) rfl
theorem fX6_168 : Cond.fieldLink RX6 168 RX6 "bestTick" "I" ∈ BG := bg_of (i := 694) (by decide +kernel) rfl
theorem fX6_171 : Cond.fieldLink RX6 171 RX6 "kth" "I" ∈ BG := bg_of (i := 695) (by decide +kernel) rfl
theorem fX6_18 : Cond.fieldLink RX6 18 RX6 "sorts" "[I" ∈ BG := bg_of (i := 696) (by decide +kernel) rfl
theorem fX6_21 : Cond.fieldLink RX6 21 RX6 "sizes" "[I" ∈ BG := bg_of (i := 697) (by decide +kernel) rfl
theorem fX6_24 : Cond.fieldLink RX6 24 RX6 "items" "[J" ∈ BG := bg_of (i := 698) (by decide +kernel) rfl
theorem fX6_28 : Cond.fieldLink RX6 28 RX6 "others" "[J" ∈ BG := bg_of (i := 699) (by decide +kernel) rfl
theorem fX6_31 : Cond.fieldLink RX6 31 RX6 "phases" "[I" ∈ BG := bg_of (i := 700) (by decide +kernel) rfl
theorem fX6_34 : Cond.fieldLink RX6 34 RX6 "tape" "[I" ∈ BG := bg_of (i := 701) (by decide +kernel) rfl
theorem fX6_225 : Cond.fieldLink RX6 225 RX6 "taped" "I" ∈ BG := bg_of (i := 702) (by decide +kernel) rfl
theorem fX6_228 : Cond.fieldLink RX6 228 RX6 "here" "I" ∈ BG := bg_of (i := 703) (by decide +kernel) rfl
theorem fX6_234 : Cond.fieldLink RX6 234 RX6 "end" "I" ∈ BG := bg_of (i := 704) (by decide +kernel) rfl
theorem fX6_37 : Cond.fieldLink RX6 37 RX6 "numbers" "[I" ∈ BG := bg_of (i := 705) (by decide +kernel) rfl
theorem fX6_42 : Cond.fieldLink RX6 42 RX6 "words" "Ljava/lang/String;" ∈ BG := bg_of (i := 706) (by decide +kernel) rfl
theorem fX6_46 : Cond.fieldLink RX6 46 RX6 "moved" "[J" ∈ BG := bg_of (i := 707) (by decide +kernel) rfl
theorem lL_17 : Cond.methodLink RL 17 yX6_part ∈ BG := bg_of (i := 745) (by decide +kernel) rfl
theorem lX6_61 : Cond.methodLink RX6 61 yX6_mayBe ∈ BG := bg_of (i := 749) (by decide +kernel) rfl
theorem nX6_53 : Cond.constantLong RX6 53 (5 : Int64) ∈ BG := bg_of (i := 752) (by decide +kernel) rfl
theorem nX6_55 : Cond.constantLong RX6 55 (9 : Int64) ∈ BG := bg_of (i := 753) (by decide +kernel) rfl
theorem nX6_57 : Cond.constantLong RX6 57 (999 : Int64) ∈ BG := bg_of (i := 754) (by decide +kernel) rfl
theorem nX6_59 : Cond.constantLong RX6 59 (1023 : Int64) ∈ BG := bg_of (i := 755) (by decide +kernel) rfl
theorem lX6_49 : Cond.methodLink RX6 49 yX6_isIn ∈ BG := bg_of (i := 756) (by decide +kernel) rfl
theorem lX6_65 : Cond.methodLink RX6 65 yX6_lays ∈ BG := bg_of (i := 759) (by decide +kernel) rfl
theorem lL_22 : Cond.methodLink RL 22 yX6_drop ∈ BG := bg_of (i := 763) (by decide +kernel) rfl
theorem lL_27 : Cond.methodLink RL 27 yX6_gear ∈ BG := bg_of (i := 767) (by decide +kernel) rfl
theorem lX6_69 : Cond.methodLink RX6 69 yX6_isPart ∈ BG := bg_of (i := 771) (by decide +kernel) rfl
theorem nX6_73 : Cond.constantLong RX6 73 (8 : Int64) ∈ BG := bg_of (i := 775) (by decide +kernel) rfl
theorem nX6_75 : Cond.constantLong RX6 75 (200 : Int64) ∈ BG := bg_of (i := 776) (by decide +kernel) rfl
theorem lX6_77 : Cond.methodLink RX6 77 yX6_at ∈ BG := bg_of (i := 777) (by decide +kernel) rfl
theorem lL_32 : Cond.methodLink RL 32 yX6_ungear ∈ BG := bg_of (i := 781) (by decide +kernel) rfl
theorem lL_36 : Cond.methodLink RL 36 yX6_shaft ∈ BG := bg_of (i := 785) (by decide +kernel) rfl
theorem lL_40 : Cond.methodLink RL 40 yX6_set ∈ BG := bg_of (i := 789) (by decide +kernel) rfl
theorem nX6_81 : Cond.constantLong RX6 81 (2 : Int64) ∈ BG := bg_of (i := 793) (by decide +kernel) rfl
theorem lX6_83 : Cond.methodLink RX6 83 yX6_becomes ∈ BG := bg_of (i := 794) (by decide +kernel) rfl
theorem lL_45 : Cond.methodLink RL 45 yX6_kind ∈ BG := bg_of (i := 798) (by decide +kernel) rfl
theorem lL_49 : Cond.methodLink RL 49 yX6_of ∈ BG := bg_of (i := 802) (by decide +kernel) rfl
theorem nX6_87 : Cond.constantLong RX6 87 (4 : Int64) ∈ BG := bg_of (i := 806) (by decide +kernel) rfl
theorem nX6_89 : Cond.constantLong RX6 89 (10 : Int64) ∈ BG := bg_of (i := 807) (by decide +kernel) rfl
theorem nX6_91 : Cond.constantLong RX6 91 (12 : Int64) ∈ BG := bg_of (i := 808) (by decide +kernel) rfl
theorem nX6_93 : Cond.constantLong RX6 93 (20 : Int64) ∈ BG := bg_of (i := 809) (by decide +kernel) rfl
theorem nX6_95 : Cond.constantLong RX6 95 (22 : Int64) ∈ BG := bg_of (i := 810) (by decide +kernel) rfl
theorem lL_53 : Cond.methodLink RL 53 yX6_taken ∈ BG := bg_of (i := 811) (by decide +kernel) rfl
theorem lX6_97 : Cond.methodLink RX6 97 yX6_above ∈ BG := bg_of (i := 815) (by decide +kernel) rfl
theorem lL_57 : Cond.methodLink RL 57 yX6_jam ∈ BG := bg_of (i := 818) (by decide +kernel) rfl
theorem nX6_104 : Cond.constantLong RX6 104 (3 : Int64) ∈ BG := bg_of (i := 822) (by decide +kernel) rfl
theorem lX6_106 : Cond.methodLink RX6 106 yX6_jamOf ∈ BG := bg_of (i := 823) (by decide +kernel) rfl
theorem lX6_101 : Cond.methodLink RX6 101 yX6_why ∈ BG := bg_of (i := 827) (by decide +kernel) rfl
theorem lX6_109 : Cond.methodLink RX6 109 yJ9_max_7cf53 ∈ BG := bg_of (i := 830) (by decide +kernel) rfl
theorem lL_62 : Cond.methodLink RL 62 yX6_speed ∈ BG := bg_of (i := 831) (by decide +kernel) rfl
theorem lX6_122 : Cond.methodLink RX6 122 yX6_isLine ∈ BG := bg_of (i := 835) (by decide +kernel) rfl
theorem lX6_125 : Cond.methodLink RX6 125 yX6_speedAbove ∈ BG := bg_of (i := 838) (by decide +kernel) rfl
theorem lX6_129 : Cond.methodLink RX6 129 yX6_speedBelow ∈ BG := bg_of (i := 842) (by decide +kernel) rfl
theorem lX6_132 : Cond.methodLink RX6 132 yX6_lowest ∈ BG := bg_of (i := 846) (by decide +kernel) rfl
theorem lX6_118 : Cond.methodLink RX6 118 yX6_divisor ∈ BG := bg_of (i := 849) (by decide +kernel) rfl
theorem lX6_114 : Cond.methodLink RX6 114 yJ9_abs_067f4 ∈ BG := bg_of (i := 852) (by decide +kernel) rfl
theorem nX6_136 : Cond.constantLong RX6 136 (-9223372036854775808 : Int64) ∈ BG := bg_of (i := 853) (by decide +kernel) rfl
theorem lL_66 : Cond.methodLink RL 66 yX6_turn ∈ BG := bg_of (i := 854) (by decide +kernel) rfl
theorem nX6_155 : Cond.constantLong RX6 155 (99999 : Int64) ∈ BG := bg_of (i := 858) (by decide +kernel) rfl
theorem nX6_157 : Cond.constant RX6 157 (99999 : Int32) ∈ BG := bg_of (i := 859) (by decide +kernel) rfl
theorem lL_71 : Cond.methodLink RL 71 yX6_height ∈ BG := bg_of (i := 860) (by decide +kernel) rfl
theorem lX6_158 : Cond.methodLink RX6 158 yX6_sumAt ∈ BG := bg_of (i := 864) (by decide +kernel) rfl
theorem lX6_152 : Cond.methodLink RX6 152 yX6_heightBy ∈ BG := bg_of (i := 868) (by decide +kernel) rfl
theorem lX6_146 : Cond.methodLink RX6 146 yX6_placeOf ∈ BG := bg_of (i := 872) (by decide +kernel) rfl
theorem lX6_140 : Cond.methodLink RX6 140 yX6_wayOf ∈ BG := bg_of (i := 876) (by decide +kernel) rfl
theorem nX6_138 : Cond.constantLong RX6 138 (64 : Int64) ∈ BG := bg_of (i := 880) (by decide +kernel) rfl
theorem nX6_144 : Cond.constantLong RX6 144 (1024 : Int64) ∈ BG := bg_of (i := 881) (by decide +kernel) rfl
theorem lX6_149 : Cond.methodLink RX6 149 yX6_shapeOf ∈ BG := bg_of (i := 882) (by decide +kernel) rfl
theorem lL_76 : Cond.methodLink RL 76 yX6_heightAt ∈ BG := bg_of (i := 886) (by decide +kernel) rfl
theorem lX6_161 : Cond.methodLink RX6 161 yX6_isTick ∈ BG := bg_of (i := 890) (by decide +kernel) rfl
theorem lL_80 : Cond.methodLink RL 80 yX6_heightOf ∈ BG := bg_of (i := 893) (by decide +kernel) rfl
theorem lL_84 : Cond.methodLink RL 84 yX6_place ∈ BG := bg_of (i := 897) (by decide +kernel) rfl
theorem lL_88 : Cond.methodLink RL 88 yX6_waters ∈ BG := bg_of (i := 901) (by decide +kernel) rfl
theorem lX6_178 : Cond.methodLink RX6 178 yX6_areWaters ∈ BG := bg_of (i := 905) (by decide +kernel) rfl
theorem lX6_182 : Cond.methodLink RX6 182 yX6_looks ∈ BG := bg_of (i := 908) (by decide +kernel) rfl
theorem lX6_174 : Cond.methodLink RX6 174 yJ13_compare_74951 ∈ BG := bg_of (i := 912) (by decide +kernel) rfl
theorem lL_92 : Cond.methodLink RL 92 yX6_water ∈ BG := bg_of (i := 915) (by decide +kernel) rfl
theorem lL_96 : Cond.methodLink RL 96 yX6_tells ∈ BG := bg_of (i := 919) (by decide +kernel) rfl
theorem lX6_192 : Cond.methodLink RX6 192 yX6_isSheet ∈ BG := bg_of (i := 923) (by decide +kernel) rfl
theorem lX6_189 : Cond.methodLink RX6 189 yX6_firstOther ∈ BG := bg_of (i := 926) (by decide +kernel) rfl
theorem lX6_186 : Cond.methodLink RX6 186 yX6_itemOf ∈ BG := bg_of (i := 930) (by decide +kernel) rfl
theorem lX6_195 : Cond.methodLink RX6 195 yX6_wrongBy ∈ BG := bg_of (i := 934) (by decide +kernel) rfl
theorem lL_101 : Cond.methodLink RL 101 yX6_refound ∈ BG := bg_of (i := 938) (by decide +kernel) rfl
theorem lX6_199 : Cond.methodLink RX6 199 yX6_areHighs ∈ BG := bg_of (i := 942) (by decide +kernel) rfl
theorem lL_105 : Cond.methodLink RL 105 yX6_film ∈ BG := bg_of (i := 946) (by decide +kernel) rfl
theorem nX6_203 : Cond.constantLong RX6 203 (40 : Int64) ∈ BG := bg_of (i := 950) (by decide +kernel) rfl
theorem lX6_205 : Cond.methodLink RX6 205 yX6_sheet ∈ BG := bg_of (i := 951) (by decide +kernel) rfl
theorem nX6_305 : Cond.constantLong RX6 305 (-1 : Int64) ∈ BG := bg_of (i := 955) (by decide +kernel) rfl
theorem lL_109 : Cond.methodLink RL 109 yX6_nearest ∈ BG := bg_of (i := 956) (by decide +kernel) rfl
theorem nX6_208 : Cond.constantLong RX6 208 (9999 : Int64) ∈ BG := bg_of (i := 960) (by decide +kernel) rfl
theorem lL_114 : Cond.methodLink RL 114 yX6_off ∈ BG := bg_of (i := 961) (by decide +kernel) rfl
theorem lL_118 : Cond.methodLink RL 118 yX6_alike ∈ BG := bg_of (i := 965) (by decide +kernel) rfl
theorem lX6_213 : Cond.methodLink RX6 213 yX6_areAlike ∈ BG := bg_of (i := 969) (by decide +kernel) rfl
theorem lX6_210 : Cond.methodLink RX6 210 yX6_speed ∈ BG := bg_of (i := 973) (by decide +kernel) rfl
theorem lL_122 : Cond.methodLink RL 122 yX6_drawn ∈ BG := bg_of (i := 974) (by decide +kernel) rfl
theorem lX6_217 : Cond.methodLink RX6 217 yX6_byLot ∈ BG := bg_of (i := 978) (by decide +kernel) rfl
theorem nX6_216 : Cond.constant RX6 216 (1103515245 : Int32) ∈ BG := bg_of (i := 982) (by decide +kernel) rfl
theorem lL_126 : Cond.methodLink RL 126 yX6_chance ∈ BG := bg_of (i := 983) (by decide +kernel) rfl
theorem lL_131 : Cond.methodLink RL 131 yX6_feed ∈ BG := bg_of (i := 987) (by decide +kernel) rfl
theorem lX6_222 : Cond.methodLink RX6 222 yX6_isByte ∈ BG := bg_of (i := 991) (by decide +kernel) rfl
theorem nX6_220 : Cond.constantLong RX6 220 (255 : Int64) ∈ BG := bg_of (i := 994) (by decide +kernel) rfl
theorem lL_135 : Cond.methodLink RL 135 yX6_text ∈ BG := bg_of (i := 995) (by decide +kernel) rfl
theorem lX6_283 : Cond.methodLink RX6 283 yX6_goes ∈ BG := bg_of (i := 999) (by decide +kernel) rfl
theorem lX6_277 : Cond.methodLink RX6 277 yX6_clause ∈ BG := bg_of (i := 1003) (by decide +kernel) rfl
theorem lX6_253 : Cond.methodLink RX6 253 yX6_skips ∈ BG := bg_of (i := 1007) (by decide +kernel) rfl
theorem lX6_231 : Cond.methodLink RX6 231 yX6_byteAt ∈ BG := bg_of (i := 1011) (by decide +kernel) rfl
theorem lX6_237 : Cond.methodLink RX6 237 yX6_isLetter ∈ BG := bg_of (i := 1015) (by decide +kernel) rfl
theorem lX6_240 : Cond.methodLink RX6 240 yX6_isDigit ∈ BG := bg_of (i := 1018) (by decide +kernel) rfl
theorem lX6_256 : Cond.methodLink RX6 256 yX6_wordHere ∈ BG := bg_of (i := 1021) (by decide +kernel) rfl
theorem lX6_243 : Cond.methodLink RX6 243 yJ0_length_8abf5 ∈ BG := bg_of (i := 1025) (by decide +kernel) rfl
theorem lX6_249 : Cond.methodLink RX6 249 yJ0_charAt_5068e ∈ BG := bg_of (i := 1026) (by decide +kernel) rfl
theorem lX6_259 : Cond.methodLink RX6 259 yX6_manyOf ∈ BG := bg_of (i := 1027) (by decide +kernel) rfl
theorem lX6_262 : Cond.methodLink RX6 262 yX6_numberHere ∈ BG := bg_of (i := 1030) (by decide +kernel) rfl
theorem lX6_280 : Cond.methodLink RX6 280 yX6_isDone ∈ BG := bg_of (i := 1034) (by decide +kernel) rfl
theorem lX6_265 : Cond.methodLink RX6 265 yX6_part ∈ BG := bg_of (i := 1038) (by decide +kernel) rfl
theorem lX6_268 : Cond.methodLink RX6 268 yX6_gear ∈ BG := bg_of (i := 1039) (by decide +kernel) rfl
theorem lX6_271 : Cond.methodLink RX6 271 yX6_shaft ∈ BG := bg_of (i := 1040) (by decide +kernel) rfl
theorem lX6_274 : Cond.methodLink RX6 274 yX6_set ∈ BG := bg_of (i := 1041) (by decide +kernel) rfl
theorem lL_139 : Cond.methodLink RL 139 yX6_image ∈ BG := bg_of (i := 1042) (by decide +kernel) rfl
theorem lX6_287 : Cond.methodLink RX6 287 arraycopyName ∈ BG := bg_of (i := 1046) (by decide +kernel) rfl
theorem lL_143 : Cond.methodLink RL 143 yX6_back ∈ BG := bg_of (i := 1047) (by decide +kernel) rfl
theorem lL_147 : Cond.methodLink RL 147 yX6_load ∈ BG := bg_of (i := 1051) (by decide +kernel) rfl
theorem nX6_297 : Cond.constantLong RX6 297 (6 : Int64) ∈ BG := bg_of (i := 1055) (by decide +kernel) rfl
theorem lL_151 : Cond.methodLink RL 151 yX6_count ∈ BG := bg_of (i := 1056) (by decide +kernel) rfl
theorem lX6_299 : Cond.methodLink RX6 299 yX6_pairsOfAll ∈ BG := bg_of (i := 1060) (by decide +kernel) rfl
theorem lX6_302 : Cond.methodLink RX6 302 yX6_jammed ∈ BG := bg_of (i := 1064) (by decide +kernel) rfl
theorem lL_155 : Cond.methodLink RL 155 yX6_sheet ∈ BG := bg_of (i := 1068) (by decide +kernel) rfl
theorem lL_162 : Cond.methodLink RL 162 yX6_put ∈ BG := bg_of (i := 1069) (by decide +kernel) rfl
theorem lL_166 : Cond.methodLink RL 166 yX6_item ∈ BG := bg_of (i := 1073) (by decide +kernel) rfl
theorem lL_170 : Cond.methodLink RL 170 yX6_copy ∈ BG := bg_of (i := 1077) (by decide +kernel) rfl
theorem nL_156 : Cond.constantLong RL 156 (4294967295 : Int64) ∈ BG := bg_of (i := 1081) (by decide +kernel) rfl
theorem fJ0_9 : Cond.fieldLink RJ0 9 RJ0 "value" "[B" ∈ BG := bg_of (i := 1082) (by decide +kernel) rfl
theorem fJ0_15 : Cond.fieldLink RJ0 15 RJ0 "coder" "B" ∈ BG := bg_of (i := 1083) (by decide +kernel) rfl
def NW : List Cond := [Cond.methodLinkNest RX4 27 yX3_init RX5, Cond.methodLinkNest RX5 33 yX2_init RX5, Cond.methodLinkNest RX5 40 yX3_init RX5, Cond.methodLinkNest RX5 51 yX0_init RX5, Cond.methodLinkNest RX5 56 yX1_init RX5, Cond.methodLinkNest RX3 41 yX5_misfit RX5, Cond.methodLinkNest RX3 49 yX5_lowest RX5, Cond.fieldLinkNest RX3 38 RX5 "KIND_ABOVE" "[I" RX5, Cond.methodLinkNest RX3 53 yX5_cut RX5, Cond.methodLinkNest RX2 41 yX5_within RX5, Cond.methodLinkNest RX2 73 yX5_spellingOf RX5, Cond.methodLinkNest RX2 67 yX5_numbersOf RX5]
theorem nw_in : ∀ w ∈ NW, w ∈ lw_tbl := by
  intro w hw
  simp only [NW, List.mem_cons, List.not_mem_nil, or_false] at hw
  rcases hw with rfl | rfl | rfl | rfl | rfl | rfl | rfl | rfl | rfl | rfl | rfl | rfl
  · exact List.mem_of_getElem? (i := 69) (by decide +kernel)
  · exact List.mem_of_getElem? (i := 122) (by decide +kernel)
  · exact List.mem_of_getElem? (i := 154) (by decide +kernel)
  · exact List.mem_of_getElem? (i := 157) (by decide +kernel)
  · exact List.mem_of_getElem? (i := 171) (by decide +kernel)
  · exact List.mem_of_getElem? (i := 237) (by decide +kernel)
  · exact List.mem_of_getElem? (i := 240) (by decide +kernel)
  · exact List.mem_of_getElem? (i := 312) (by decide +kernel)
  · exact List.mem_of_getElem? (i := 353) (by decide +kernel)
  · exact List.mem_of_getElem? (i := 539) (by decide +kernel)
  · exact List.mem_of_getElem? (i := 544) (by decide +kernel)
  · exact List.mem_of_getElem? (i := 609) (by decide +kernel)
theorem lX4_27 : Cond.methodLinkNest RX4 27 yX3_init RX5 ∈ NW := List.mem_of_getElem? (i := 0) rfl
theorem lX5_33 : Cond.methodLinkNest RX5 33 yX2_init RX5 ∈ NW := List.mem_of_getElem? (i := 1) rfl
theorem lX5_40 : Cond.methodLinkNest RX5 40 yX3_init RX5 ∈ NW := List.mem_of_getElem? (i := 2) rfl
theorem lX5_51 : Cond.methodLinkNest RX5 51 yX0_init RX5 ∈ NW := List.mem_of_getElem? (i := 3) rfl
theorem lX5_56 : Cond.methodLinkNest RX5 56 yX1_init RX5 ∈ NW := List.mem_of_getElem? (i := 4) rfl
theorem lX3_41 : Cond.methodLinkNest RX3 41 yX5_misfit RX5 ∈ NW := List.mem_of_getElem? (i := 5) rfl
theorem lX3_49 : Cond.methodLinkNest RX3 49 yX5_lowest RX5 ∈ NW := List.mem_of_getElem? (i := 6) rfl
theorem fX3_38 : Cond.fieldLinkNest RX3 38 RX5 "KIND_ABOVE" "[I" RX5 ∈ NW := List.mem_of_getElem? (i := 7) rfl
theorem lX3_53 : Cond.methodLinkNest RX3 53 yX5_cut RX5 ∈ NW := List.mem_of_getElem? (i := 8) rfl
theorem lX2_41 : Cond.methodLinkNest RX2 41 yX5_within RX5 ∈ NW := List.mem_of_getElem? (i := 9) rfl
theorem lX2_73 : Cond.methodLinkNest RX2 73 yX5_spellingOf RX5 ∈ NW := List.mem_of_getElem? (i := 10) rfl
theorem lX2_67 : Cond.methodLinkNest RX2 67 yX5_numbersOf RX5 ∈ NW := List.mem_of_getElem? (i := 11) rfl
theorem bgX0 : ∀ w ∈ wsX00, w ∈ BG := by
  intro w hw
  obtain ⟨k, hk, rfl⟩ := List.mem_map.mp hw
  have hk := List.mem_range.mp hk
  rcases (show k = 0 ∨ k = 1 by omega) with rfl | rfl
  · exact bg_of (i := 164) (by decide +kernel) rfl
  · exact bg_of (i := 166) (by decide +kernel) rfl
theorem bgX1 : ∀ w ∈ wsX10, w ∈ BG := by
  intro w hw
  obtain ⟨k, hk, rfl⟩ := List.mem_map.mp hw
  have hk := List.mem_range.mp hk
  rcases (show k = 0 ∨ k = 1 ∨ k = 2 by omega) with rfl | rfl | rfl
  · exact bg_of (i := 181) (by decide +kernel) rfl
  · exact bg_of (i := 183) (by decide +kernel) rfl
  · exact bg_of (i := 185) (by decide +kernel) rfl
theorem bgX2 : ∀ w ∈ wsX20, w ∈ BG := by
  intro w hw
  obtain ⟨k, hk, rfl⟩ := List.mem_map.mp hw
  have hk := List.mem_range.mp hk
  rcases (show k = 0 ∨ k = 1 ∨ k = 2 ∨ k = 3 ∨ k = 4 ∨ k = 5 ∨ k = 6 ∨ k = 7 by omega) with rfl | rfl | rfl | rfl | rfl | rfl | rfl | rfl
  · exact bg_of (i := 136) (by decide +kernel) rfl
  · exact bg_of (i := 138) (by decide +kernel) rfl
  · exact bg_of (i := 140) (by decide +kernel) rfl
  · exact bg_of (i := 142) (by decide +kernel) rfl
  · exact bg_of (i := 144) (by decide +kernel) rfl
  · exact bg_of (i := 146) (by decide +kernel) rfl
  · exact bg_of (i := 148) (by decide +kernel) rfl
  · exact bg_of (i := 150) (by decide +kernel) rfl
theorem bgX3 : ∀ w ∈ wsX30, w ∈ BG := by
  intro w hw
  obtain ⟨k, hk, rfl⟩ := List.mem_map.mp hw
  have hk := List.mem_range.mp hk
  rcases (show k = 0 ∨ k = 1 ∨ k = 2 ∨ k = 3 ∨ k = 4 ∨ k = 5 by omega) with rfl | rfl | rfl | rfl | rfl | rfl
  · exact bg_of (i := 87) (by decide +kernel) rfl
  · exact bg_of (i := 89) (by decide +kernel) rfl
  · exact bg_of (i := 91) (by decide +kernel) rfl
  · exact bg_of (i := 93) (by decide +kernel) rfl
  · exact bg_of (i := 95) (by decide +kernel) rfl
  · exact bg_of (i := 97) (by decide +kernel) rfl
theorem bgX4 : ∀ w ∈ wsX40, w ∈ BG := by
  intro w hw
  obtain ⟨k, hk, rfl⟩ := List.mem_map.mp hw
  have hk := List.mem_range.mp hk
  rcases (show k = 0 ∨ k = 1 ∨ k = 2 ∨ k = 3 by omega) with rfl | rfl | rfl | rfl
  · exact bg_of (i := 109) (by decide +kernel) rfl
  · exact bg_of (i := 111) (by decide +kernel) rfl
  · exact bg_of (i := 113) (by decide +kernel) rfl
  · exact bg_of (i := 115) (by decide +kernel) rfl
theorem bgX5 : ∀ w ∈ wsX50, w ∈ BG := by
  intro w hw
  obtain ⟨k, hk, rfl⟩ := List.mem_map.mp hw
  have hk := List.mem_range.mp hk
  rcases (show k = 0 ∨ k = 1 ∨ k = 2 ∨ k = 3 ∨ k = 4 ∨ k = 5 ∨ k = 6 ∨ k = 7 by omega) with rfl | rfl | rfl | rfl | rfl | rfl | rfl | rfl
  · exact bg_of (i := 196) (by decide +kernel) rfl
  · exact bg_of (i := 198) (by decide +kernel) rfl
  · exact bg_of (i := 200) (by decide +kernel) rfl
  · exact bg_of (i := 202) (by decide +kernel) rfl
  · exact bg_of (i := 204) (by decide +kernel) rfl
  · exact bg_of (i := 206) (by decide +kernel) rfl
  · exact bg_of (i := 208) (by decide +kernel) rfl
  · exact bg_of (i := 210) (by decide +kernel) rfl
theorem bgX6 : ∀ w ∈ wsX60, w ∈ BG := by
  intro w hw
  obtain ⟨k, hk, rfl⟩ := List.mem_map.mp hw
  have hk := List.mem_range.mp hk
  rcases (show k = 0 ∨ k = 1 ∨ k = 2 ∨ k = 3 ∨ k = 4 ∨ k = 5 ∨ k = 6 ∨ k = 7 ∨ k = 8 ∨ k = 9 ∨ k = 10 ∨ k = 11 ∨ k = 12 ∨ k = 13 ∨ k = 14 ∨ k = 15 ∨ k = 16 ∨ k = 17 by omega) with rfl | rfl | rfl | rfl | rfl | rfl | rfl | rfl | rfl | rfl | rfl | rfl | rfl | rfl | rfl | rfl | rfl | rfl
  · exact bg_of (i := 708) (by decide +kernel) rfl
  · exact bg_of (i := 710) (by decide +kernel) rfl
  · exact bg_of (i := 712) (by decide +kernel) rfl
  · exact bg_of (i := 714) (by decide +kernel) rfl
  · exact bg_of (i := 716) (by decide +kernel) rfl
  · exact bg_of (i := 718) (by decide +kernel) rfl
  · exact bg_of (i := 720) (by decide +kernel) rfl
  · exact bg_of (i := 722) (by decide +kernel) rfl
  · exact bg_of (i := 724) (by decide +kernel) rfl
  · exact bg_of (i := 726) (by decide +kernel) rfl
  · exact bg_of (i := 728) (by decide +kernel) rfl
  · exact bg_of (i := 730) (by decide +kernel) rfl
  · exact bg_of (i := 732) (by decide +kernel) rfl
  · exact bg_of (i := 734) (by decide +kernel) rfl
  · exact bg_of (i := 736) (by decide +kernel) rfl
  · exact bg_of (i := 738) (by decide +kernel) rfl
  · exact bg_of (i := 740) (by decide +kernel) rfl
  · exact bg_of (i := 742) (by decide +kernel) rfl

