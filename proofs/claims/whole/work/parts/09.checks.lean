/-! ===== each method fits its bytes: printed by wip/whole/links.py ===== -/
set_option maxRecDepth 100000 in
theorem ck_Maker_init : jw_meth prog_1_method_1_code 0 true m_Maker_init = true := by decide +kernel
set_option maxRecDepth 100000 in
theorem ck_Tape_init : jw_meth prog_9_method_1_code 1 true m_Tape_init = true := by decide +kernel
set_option maxRecDepth 100000 in
theorem ck_Divider_init : jw_meth prog_3_method_1_code 2 true m_Divider_init = true := by decide +kernel
set_option maxRecDepth 100000 in
theorem ck_Poly_init : jw_meth prog_7_method_1_code 3 true m_Poly_init = true := by decide +kernel
set_option maxRecDepth 100000 in
theorem ck_Poly_clear : jw_meth prog_7_method_2_code 3 false m_Poly_clear = true := by decide +kernel
set_option maxRecDepth 100000 in
theorem ck_Workshop_init : jw_meth prog_11_method_1_code 4 true m_Workshop_init = true := by decide +kernel
set_option maxRecDepth 100000 in
theorem ck_Wants_init : jw_meth prog_10_method_1_code 5 true m_Wants_init = true := by decide +kernel
set_option maxRecDepth 100000 in
theorem ck_Ratio_init : jw_meth prog_8_method_1_code 6 true m_Ratio_init = true := by decide +kernel
set_option maxRecDepth 100000 in
theorem ck_Ladder_init : jw_meth prog_6_method_1_code 7 true m_Ladder_init = true := by decide +kernel
set_option maxRecDepth 100000 in
theorem ck_Bins_init : jw_meth prog_2_method_1_code 8 true m_Bins_init = true := by decide +kernel
set_option maxRecDepth 100000 in
theorem ck_Holder_init : jw_meth prog_5_method_1_code 9 true m_Holder_init = true := by decide +kernel
set_option maxRecDepth 100000 in
theorem ck_Maker_feed : jw_meth prog_1_method_2_code 0 false m_Maker_feed = true := by decide +kernel
set_option maxRecDepth 100000 in
theorem ck_Tape_append : jw_meth prog_9_method_2_code 1 false m_Tape_append = true := by decide +kernel
set_option maxRecDepth 100000 in
theorem ck_Maker_wipe : jw_meth prog_1_method_3_code 0 false m_Maker_wipe = true := by decide +kernel
set_option maxRecDepth 100000 in
theorem ck_Tape_empty : jw_meth prog_9_method_3_code 1 false m_Tape_empty = true := by decide +kernel
set_option maxRecDepth 100000 in
theorem ck_Maker_ratio : jw_meth prog_1_method_4_code 0 false m_Maker_ratio = true := by decide +kernel
set_option maxRecDepth 100000 in
theorem ck_Workshop_freeRatio : jw_meth prog_11_method_5_code 4 false m_Workshop_freeRatio = true := by decide +kernel
set_option maxRecDepth 100000 in
theorem ck_Tape_readRatio : jw_meth prog_9_method_4_code 1 false m_Tape_readRatio = true := by decide +kernel
set_option maxRecDepth 100000 in
theorem ck_Tape_readPoly : jw_meth prog_9_method_9_code 1 false m_Tape_readPoly = true := by decide +kernel
set_option maxRecDepth 100000 in
theorem ck_Tape_pass : jw_meth prog_9_method_7_code 1 false m_Tape_pass = true := by decide +kernel
set_option maxRecDepth 100000 in
theorem ck_Tape_look : jw_meth prog_9_method_6_code 1 false m_Tape_look = true := by decide +kernel
set_option maxRecDepth 100000 in
theorem ck_Tape_readTerm : jw_meth prog_9_method_10_code 1 false m_Tape_readTerm = true := by decide +kernel
set_option maxRecDepth 100000 in
theorem ck_Tape_readNumber : jw_meth prog_9_method_11_code 1 false m_Tape_readNumber = true := by decide +kernel
set_option maxRecDepth 100000 in
theorem ck_Tape_isDigit : jw_meth prog_9_method_8_code 1 false m_Tape_isDigit = true := by decide +kernel
set_option maxRecDepth 100000 in
theorem ck_Fractions_of : jw_meth prog_4_method_2_code 10 false m_Fractions_of = true := by decide +kernel
set_option maxRecDepth 100000 in
theorem ck_Fractions_findCommonDivisor : jw_meth prog_4_method_3_code 10 false m_Fractions_findCommonDivisor = true := by decide +kernel
set_option maxRecDepth 100000 in
theorem ck_Fractions_sum : jw_meth prog_4_method_7_code 10 false m_Fractions_sum = true := by decide +kernel
set_option maxRecDepth 100000 in
theorem ck_Fractions_below : jw_meth prog_4_method_5_code 10 false m_Fractions_below = true := by decide +kernel
set_option maxRecDepth 100000 in
theorem ck_Fractions_above : jw_meth prog_4_method_4_code 10 false m_Fractions_above = true := by decide +kernel
set_option maxRecDepth 100000 in
theorem ck_Ratio_hasZeroPoly : jw_meth prog_8_method_3_code 6 false m_Ratio_hasZeroPoly = true := by decide +kernel
set_option maxRecDepth 100000 in
theorem ck_Poly_isZero : jw_meth prog_7_method_7_code 3 false m_Poly_isZero = true := by decide +kernel
set_option maxRecDepth 100000 in
theorem ck_Poly_highest : jw_meth prog_7_method_5_code 3 false m_Poly_highest = true := by decide +kernel
set_option maxRecDepth 100000 in
theorem ck_Workshop_addRatio : jw_meth prog_11_method_7_code 4 false m_Workshop_addRatio = true := by decide +kernel
set_option maxRecDepth 100000 in
theorem ck_Maker_ladder : jw_meth prog_1_method_5_code 0 false m_Maker_ladder = true := by decide +kernel
set_option maxRecDepth 100000 in
theorem ck_Workshop_freeLadder : jw_meth prog_11_method_6_code 4 false m_Workshop_freeLadder = true := by decide +kernel
set_option maxRecDepth 100000 in
theorem ck_Tape_readLadder : jw_meth prog_9_method_5_code 1 false m_Tape_readLadder = true := by decide +kernel
set_option maxRecDepth 100000 in
theorem ck_Tape_readParts : jw_meth prog_9_method_13_code 1 false m_Tape_readParts = true := by decide +kernel
set_option maxRecDepth 100000 in
theorem ck_Tape_readPart : jw_meth prog_9_method_14_code 1 false m_Tape_readPart = true := by decide +kernel
set_option maxRecDepth 100000 in
theorem ck_Tape_sortOf : jw_meth prog_9_method_15_code 1 false m_Tape_sortOf = true := by decide +kernel
set_option maxRecDepth 100000 in
theorem ck_Tape_readFraction : jw_meth prog_9_method_12_code 1 false m_Tape_readFraction = true := by decide +kernel
set_option maxRecDepth 100000 in
theorem ck_Ladder_addPart : jw_meth prog_6_method_4_code 7 false m_Ladder_addPart = true := by decide +kernel
set_option maxRecDepth 100000 in
theorem ck_Tape_readEnd : jw_meth prog_9_method_16_code 1 false m_Tape_readEnd = true := by decide +kernel
set_option maxRecDepth 100000 in
theorem ck_Ladder_endWith : jw_meth prog_6_method_5_code 7 false m_Ladder_endWith = true := by decide +kernel
set_option maxRecDepth 100000 in
theorem ck_Workshop_addLadder : jw_meth prog_11_method_8_code 4 false m_Workshop_addLadder = true := by decide +kernel
set_option maxRecDepth 100000 in
theorem ck_Maker_degree : jw_meth prog_1_method_6_code 0 false m_Maker_degree = true := by decide +kernel
set_option maxRecDepth 100000 in
theorem ck_Workshop_findRatio : jw_meth prog_11_method_3_code 4 false m_Workshop_findRatio = true := by decide +kernel
set_option maxRecDepth 100000 in
theorem ck_Maker_isWithin : jw_meth prog_1_method_47_code 0 false m_Maker_isWithin = true := by decide +kernel
set_option maxRecDepth 100000 in
theorem ck_Poly_lowest : jw_meth prog_7_method_6_code 3 false m_Poly_lowest = true := by decide +kernel
set_option maxRecDepth 100000 in
theorem ck_Maker_coefficient : jw_meth prog_1_method_7_code 0 false m_Maker_coefficient = true := by decide +kernel
set_option maxRecDepth 100000 in
theorem ck_Poly_at : jw_meth prog_7_method_4_code 3 false m_Poly_at = true := by decide +kernel
set_option maxRecDepth 100000 in
theorem ck_Maker_tell : jw_meth prog_1_method_50_code 0 false m_Maker_tell = true := by decide +kernel
set_option maxRecDepth 100000 in
theorem ck_Fractions_isWide : jw_meth prog_4_method_6_code 10 false m_Fractions_isWide = true := by decide +kernel
set_option maxRecDepth 100000 in
theorem ck_Maker_same : jw_meth prog_1_method_8_code 0 false m_Maker_same = true := by decide +kernel
set_option maxRecDepth 100000 in
theorem ck_Ratio_tellWhetherSame : jw_meth prog_8_method_4_code 6 false m_Ratio_tellWhetherSame = true := by decide +kernel
set_option maxRecDepth 100000 in
theorem ck_Ratio_sumOfProducts : jw_meth prog_8_method_5_code 6 false m_Ratio_sumOfProducts = true := by decide +kernel
set_option maxRecDepth 100000 in
theorem ck_Fractions_product : jw_meth prog_4_method_9_code 10 false m_Fractions_product = true := by decide +kernel
set_option maxRecDepth 100000 in
theorem ck_Maker_divide : jw_meth prog_1_method_9_code 0 false m_Maker_divide = true := by decide +kernel
set_option maxRecDepth 100000 in
theorem ck_Divider_work : jw_meth prog_3_method_2_code 2 false m_Divider_work = true := by decide +kernel
set_option maxRecDepth 100000 in
theorem ck_Poly_become : jw_meth prog_7_method_3_code 3 false m_Poly_become = true := by decide +kernel
set_option maxRecDepth 100000 in
theorem ck_Divider_makePart : jw_meth prog_3_method_3_code 2 false m_Divider_makePart = true := by decide +kernel
set_option maxRecDepth 100000 in
theorem ck_Divider_reach : jw_meth prog_3_method_4_code 2 false m_Divider_reach = true := by decide +kernel
set_option maxRecDepth 100000 in
theorem ck_Divider_changePlaces : jw_meth prog_3_method_7_code 2 false m_Divider_changePlaces = true := by decide +kernel
set_option maxRecDepth 100000 in
theorem ck_Divider_leader : jw_meth prog_3_method_5_code 2 false m_Divider_leader = true := by decide +kernel
set_option maxRecDepth 100000 in
theorem ck_Fractions_quotient : jw_meth prog_4_method_10_code 10 false m_Fractions_quotient = true := by decide +kernel
set_option maxRecDepth 100000 in
theorem ck_Divider_addPartOf : jw_meth prog_3_method_6_code 2 false m_Divider_addPartOf = true := by decide +kernel
set_option maxRecDepth 100000 in
theorem ck_Fractions_reciprocal : jw_meth prog_4_method_11_code 10 false m_Fractions_reciprocal = true := by decide +kernel
set_option maxRecDepth 100000 in
theorem ck_Fractions_negative : jw_meth prog_4_method_12_code 10 false m_Fractions_negative = true := by decide +kernel
set_option maxRecDepth 100000 in
theorem ck_Fractions_difference : jw_meth prog_4_method_8_code 10 false m_Fractions_difference = true := by decide +kernel
set_option maxRecDepth 100000 in
theorem ck_Poly_addTimes : jw_meth prog_7_method_8_code 3 false m_Poly_addTimes = true := by decide +kernel
set_option maxRecDepth 100000 in
theorem ck_Maker_invert : jw_meth prog_1_method_10_code 0 false m_Maker_invert = true := by decide +kernel
set_option maxRecDepth 100000 in
theorem ck_Maker_stretch : jw_meth prog_1_method_11_code 0 false m_Maker_stretch = true := by decide +kernel
set_option maxRecDepth 100000 in
theorem ck_Maker_isTold : jw_meth prog_1_method_48_code 0 false m_Maker_isTold = true := by decide +kernel
set_option maxRecDepth 100000 in
theorem ck_Ratio_becomeScaled : jw_meth prog_8_method_6_code 6 false m_Ratio_becomeScaled = true := by decide +kernel
set_option maxRecDepth 100000 in
theorem ck_Ratio_become : jw_meth prog_8_method_2_code 6 false m_Ratio_become = true := by decide +kernel
set_option maxRecDepth 100000 in
theorem ck_Poly_divideByPowers : jw_meth prog_7_method_10_code 3 false m_Poly_divideByPowers = true := by decide +kernel
set_option maxRecDepth 100000 in
theorem ck_Poly_growTimes : jw_meth prog_7_method_9_code 3 false m_Poly_growTimes = true := by decide +kernel
set_option maxRecDepth 100000 in
theorem ck_Maker_shift : jw_meth prog_1_method_12_code 0 false m_Maker_shift = true := by decide +kernel
set_option maxRecDepth 100000 in
theorem ck_Ratio_becomeShifted : jw_meth prog_8_method_7_code 6 false m_Ratio_becomeShifted = true := by decide +kernel
set_option maxRecDepth 100000 in
theorem ck_Poly_moveBy : jw_meth prog_7_method_11_code 3 false m_Poly_moveBy = true := by decide +kernel
set_option maxRecDepth 100000 in
theorem ck_Maker_parts : jw_meth prog_1_method_13_code 0 false m_Maker_parts = true := by decide +kernel
set_option maxRecDepth 100000 in
theorem ck_Workshop_findLadder : jw_meth prog_11_method_4_code 4 false m_Workshop_findLadder = true := by decide +kernel
set_option maxRecDepth 100000 in
theorem ck_Maker_end : jw_meth prog_1_method_14_code 0 false m_Maker_end = true := by decide +kernel
set_option maxRecDepth 100000 in
theorem ck_Maker_part : jw_meth prog_1_method_15_code 0 false m_Maker_part = true := by decide +kernel
set_option maxRecDepth 100000 in
theorem ck_Ladder_has : jw_meth prog_6_method_3_code 7 false m_Ladder_has = true := by decide +kernel
set_option maxRecDepth 100000 in
theorem ck_Maker_value : jw_meth prog_1_method_16_code 0 false m_Maker_value = true := by decide +kernel
set_option maxRecDepth 100000 in
theorem ck_Maker_multiply : jw_meth prog_1_method_17_code 0 false m_Maker_multiply = true := by decide +kernel
set_option maxRecDepth 100000 in
theorem ck_Ratio_becomeMultipliedOut : jw_meth prog_8_method_8_code 6 false m_Ratio_becomeMultipliedOut = true := by decide +kernel
set_option maxRecDepth 100000 in
theorem ck_Ratio_takeIn : jw_meth prog_8_method_9_code 6 false m_Ratio_takeIn = true := by decide +kernel
set_option maxRecDepth 100000 in
theorem ck_Ladder_isRising : jw_meth prog_6_method_2_code 7 false m_Ladder_isRising = true := by decide +kernel
set_option maxRecDepth 100000 in
theorem ck_Maker_close : jw_meth prog_1_method_18_code 0 false m_Maker_close = true := by decide +kernel
set_option maxRecDepth 100000 in
theorem ck_Maker_scale : jw_meth prog_1_method_19_code 0 false m_Maker_scale = true := by decide +kernel
set_option maxRecDepth 100000 in
theorem ck_Ladder_becomeScaled : jw_meth prog_6_method_8_code 7 false m_Ladder_becomeScaled = true := by decide +kernel
set_option maxRecDepth 100000 in
theorem ck_Ladder_beginLike : jw_meth prog_6_method_6_code 7 false m_Ladder_beginLike = true := by decide +kernel
set_option maxRecDepth 100000 in
theorem ck_Ladder_scaleValue : jw_meth prog_6_method_9_code 7 false m_Ladder_scaleValue = true := by decide +kernel
set_option maxRecDepth 100000 in
theorem ck_Maker_band : jw_meth prog_1_method_20_code 0 false m_Maker_band = true := by decide +kernel
set_option maxRecDepth 100000 in
theorem ck_Ladder_refuseToWiden : jw_meth prog_6_method_10_code 7 false m_Ladder_refuseToWiden = true := by decide +kernel
set_option maxRecDepth 100000 in
theorem ck_Ladder_canBeWidened : jw_meth prog_6_method_11_code 7 false m_Ladder_canBeWidened = true := by decide +kernel
set_option maxRecDepth 100000 in
theorem ck_Ladder_countReactive : jw_meth prog_6_method_12_code 7 false m_Ladder_countReactive = true := by decide +kernel
set_option maxRecDepth 100000 in
theorem ck_Ladder_becomeBanded : jw_meth prog_6_method_13_code 7 false m_Ladder_becomeBanded = true := by decide +kernel
set_option maxRecDepth 100000 in
theorem ck_Maker_dull : jw_meth prog_1_method_21_code 0 false m_Maker_dull = true := by decide +kernel
set_option maxRecDepth 100000 in
theorem ck_Ladder_becomeDulled : jw_meth prog_6_method_14_code 7 false m_Ladder_becomeDulled = true := by decide +kernel
set_option maxRecDepth 100000 in
theorem ck_Maker_turn : jw_meth prog_1_method_22_code 0 false m_Maker_turn = true := by decide +kernel
set_option maxRecDepth 100000 in
theorem ck_Ladder_becomeTurned : jw_meth prog_6_method_15_code 7 false m_Ladder_becomeTurned = true := by decide +kernel
set_option maxRecDepth 100000 in
theorem ck_Maker_fit : jw_meth prog_1_method_23_code 0 false m_Maker_fit = true := by decide +kernel
set_option maxRecDepth 100000 in
theorem ck_Ladder_becomeFitted : jw_meth prog_6_method_16_code 7 false m_Ladder_becomeFitted = true := by decide +kernel
set_option maxRecDepth 100000 in
theorem ck_Bins_findNearest : jw_meth prog_2_method_7_code 8 false m_Bins_findNearest = true := by decide +kernel
set_option maxRecDepth 100000 in
theorem ck_Bins_isNearer : jw_meth prog_2_method_8_code 8 false m_Bins_isNearer = true := by decide +kernel
set_option maxRecDepth 100000 in
theorem ck_Bins_spread : jw_meth prog_2_method_9_code 8 false m_Bins_spread = true := by decide +kernel
set_option maxRecDepth 100000 in
theorem ck_Maker_forget : jw_meth prog_1_method_24_code 0 false m_Maker_forget = true := by decide +kernel
set_option maxRecDepth 100000 in
theorem ck_Workshop_forgetRatios : jw_meth prog_11_method_9_code 4 false m_Workshop_forgetRatios = true := by decide +kernel
set_option maxRecDepth 100000 in
theorem ck_Workshop_forgetLadders : jw_meth prog_11_method_10_code 4 false m_Workshop_forgetLadders = true := by decide +kernel
set_option maxRecDepth 100000 in
theorem ck_Maker_worth : jw_meth prog_1_method_25_code 0 false m_Maker_worth = true := by decide +kernel
set_option maxRecDepth 100000 in
theorem ck_Ladder_worthAt : jw_meth prog_6_method_19_code 7 false m_Ladder_worthAt = true := by decide +kernel
set_option maxRecDepth 100000 in
theorem ck_Ladder_workOut : jw_meth prog_6_method_21_code 7 false m_Ladder_workOut = true := by decide +kernel
set_option maxRecDepth 100000 in
theorem ck_Ladder_worthOfEnd : jw_meth prog_6_method_18_code 7 false m_Ladder_worthOfEnd = true := by decide +kernel
set_option maxRecDepth 100000 in
theorem ck_Ladder_reactanceOfPart : jw_meth prog_6_method_23_code 7 false m_Ladder_reactanceOfPart = true := by decide +kernel
set_option maxRecDepth 100000 in
theorem ck_Ladder_worthOfPart : jw_meth prog_6_method_22_code 7 false m_Ladder_worthOfPart = true := by decide +kernel
set_option maxRecDepth 100000 in
theorem ck_Ladder_addShunt : jw_meth prog_6_method_25_code 7 false m_Ladder_addShunt = true := by decide +kernel
set_option maxRecDepth 100000 in
theorem ck_Ladder_addSeries : jw_meth prog_6_method_24_code 7 false m_Ladder_addSeries = true := by decide +kernel
set_option maxRecDepth 100000 in
theorem ck_Maker_react : jw_meth prog_1_method_26_code 0 false m_Maker_react = true := by decide +kernel
set_option maxRecDepth 100000 in
theorem ck_Ladder_isLossless : jw_meth prog_6_method_17_code 7 false m_Ladder_isLossless = true := by decide +kernel
set_option maxRecDepth 100000 in
theorem ck_Ladder_reactanceAt : jw_meth prog_6_method_20_code 7 false m_Ladder_reactanceAt = true := by decide +kernel
set_option maxRecDepth 100000 in
theorem ck_Maker_first : jw_meth prog_1_method_27_code 0 false m_Maker_first = true := by decide +kernel
set_option maxRecDepth 100000 in
theorem ck_Maker_isReactanceOfKind : jw_meth prog_1_method_51_code 0 false m_Maker_isReactanceOfKind = true := by decide +kernel
set_option maxRecDepth 100000 in
theorem ck_Maker_stock : jw_meth prog_1_method_28_code 0 false m_Maker_stock = true := by decide +kernel
set_option maxRecDepth 100000 in
theorem ck_Maker_isSort : jw_meth prog_1_method_49_code 0 false m_Maker_isSort = true := by decide +kernel
set_option maxRecDepth 100000 in
theorem ck_Bins_store : jw_meth prog_2_method_4_code 8 false m_Bins_store = true := by decide +kernel
set_option maxRecDepth 100000 in
theorem ck_Bins_find : jw_meth prog_2_method_6_code 8 false m_Bins_find = true := by decide +kernel
set_option maxRecDepth 100000 in
theorem ck_Bins_makeRoomFor : jw_meth prog_2_method_5_code 8 false m_Bins_makeRoomFor = true := by decide +kernel
set_option maxRecDepth 100000 in
theorem ck_Fractions_compare : jw_meth prog_4_method_13_code 10 false m_Fractions_compare = true := by decide +kernel
set_option maxRecDepth 100000 in
theorem ck_Long_compare : jw_meth prog_14_method_42_code 11 false m_Long_compare = true := by decide +kernel
set_option maxRecDepth 100000 in
theorem ck_Bins_setBin : jw_meth prog_2_method_3_code 8 false m_Bins_setBin = true := by decide +kernel
set_option maxRecDepth 100000 in
theorem ck_Maker_bin : jw_meth prog_1_method_29_code 0 false m_Maker_bin = true := by decide +kernel
set_option maxRecDepth 100000 in
theorem ck_Maker_nearest : jw_meth prog_1_method_30_code 0 false m_Maker_nearest = true := by decide +kernel
set_option maxRecDepth 100000 in
theorem ck_Maker_build : jw_meth prog_1_method_31_code 0 false m_Maker_build = true := by decide +kernel
set_option maxRecDepth 100000 in
theorem ck_Workshop_countLacking : jw_meth prog_11_method_11_code 4 false m_Workshop_countLacking = true := by decide +kernel
set_option maxRecDepth 100000 in
theorem ck_Workshop_countLikeAhead : jw_meth prog_11_method_12_code 4 false m_Workshop_countLikeAhead = true := by decide +kernel
set_option maxRecDepth 100000 in
theorem ck_Workshop_spendOn : jw_meth prog_11_method_13_code 4 false m_Workshop_spendOn = true := by decide +kernel
set_option maxRecDepth 100000 in
theorem ck_Wants_add : jw_meth prog_10_method_4_code 5 false m_Wants_add = true := by decide +kernel
set_option maxRecDepth 100000 in
theorem ck_Wants_isAhead : jw_meth prog_10_method_5_code 5 false m_Wants_isAhead = true := by decide +kernel
set_option maxRecDepth 100000 in
theorem ck_Wants_take : jw_meth prog_10_method_3_code 5 false m_Wants_take = true := by decide +kernel
set_option maxRecDepth 100000 in
theorem ck_Maker_arrive : jw_meth prog_1_method_32_code 0 false m_Maker_arrive = true := by decide +kernel
set_option maxRecDepth 100000 in
theorem ck_Wants_removeFirst : jw_meth prog_10_method_6_code 5 false m_Wants_removeFirst = true := by decide +kernel
set_option maxRecDepth 100000 in
theorem ck_Maker_want : jw_meth prog_1_method_33_code 0 false m_Maker_want = true := by decide +kernel
set_option maxRecDepth 100000 in
theorem ck_Maker_cost : jw_meth prog_1_method_34_code 0 false m_Maker_cost = true := by decide +kernel
set_option maxRecDepth 100000 in
theorem ck_Workshop_priceOf : jw_meth prog_11_method_14_code 4 false m_Workshop_priceOf = true := by decide +kernel
set_option maxRecDepth 100000 in
theorem ck_Maker_unlike : jw_meth prog_1_method_35_code 0 false m_Maker_unlike = true := by decide +kernel
set_option maxRecDepth 100000 in
theorem ck_Workshop_countUnlike : jw_meth prog_11_method_15_code 4 false m_Workshop_countUnlike = true := by decide +kernel
set_option maxRecDepth 100000 in
theorem ck_Workshop_greatestBelow : jw_meth prog_11_method_17_code 4 false m_Workshop_greatestBelow = true := by decide +kernel
set_option maxRecDepth 100000 in
theorem ck_Workshop_findUnlike : jw_meth prog_11_method_16_code 4 false m_Workshop_findUnlike = true := by decide +kernel
set_option maxRecDepth 100000 in
theorem ck_Maker_hold : jw_meth prog_1_method_36_code 0 false m_Maker_hold = true := by decide +kernel
set_option maxRecDepth 100000 in
theorem ck_Maker_findHolder : jw_meth prog_1_method_52_code 0 false m_Maker_findHolder = true := by decide +kernel
set_option maxRecDepth 100000 in
theorem ck_Holder_takePart : jw_meth prog_5_method_3_code 9 false m_Holder_takePart = true := by decide +kernel
set_option maxRecDepth 100000 in
theorem ck_Maker_drop : jw_meth prog_1_method_37_code 0 false m_Maker_drop = true := by decide +kernel
set_option maxRecDepth 100000 in
theorem ck_Maker_taken : jw_meth prog_1_method_38_code 0 false m_Maker_taken = true := by decide +kernel
set_option maxRecDepth 100000 in
theorem ck_Holder_isOfKind : jw_meth prog_5_method_5_code 9 false m_Holder_isOfKind = true := by decide +kernel
set_option maxRecDepth 100000 in
theorem ck_Holder_tellAs : jw_meth prog_5_method_6_code 9 false m_Holder_tellAs = true := by decide +kernel
set_option maxRecDepth 100000 in
theorem ck_Maker_row : jw_meth prog_1_method_39_code 0 false m_Maker_row = true := by decide +kernel
set_option maxRecDepth 100000 in
theorem ck_Holder_takeRow : jw_meth prog_5_method_4_code 9 false m_Holder_takeRow = true := by decide +kernel
set_option maxRecDepth 100000 in
theorem ck_Maker_put : jw_meth prog_1_method_40_code 0 false m_Maker_put = true := by decide +kernel
set_option maxRecDepth 100000 in
theorem ck_Holder_tellNoRow : jw_meth prog_5_method_2_code 9 false m_Holder_tellNoRow = true := by decide +kernel
set_option maxRecDepth 100000 in
theorem ck_Maker_get : jw_meth prog_1_method_41_code 0 false m_Maker_get = true := by decide +kernel
set_option maxRecDepth 100000 in
theorem ck_Maker_copy : jw_meth prog_1_method_42_code 0 false m_Maker_copy = true := by decide +kernel
set_option maxRecDepth 100000 in
theorem ck_Holder_hasStretch : jw_meth prog_5_method_7_code 9 false m_Holder_hasStretch = true := by decide +kernel
set_option maxRecDepth 100000 in
theorem ck_Maker_judge : jw_meth prog_1_method_43_code 0 false m_Maker_judge = true := by decide +kernel
set_option maxRecDepth 100000 in
theorem ck_Holder_judgeBy : jw_meth prog_5_method_8_code 9 false m_Holder_judgeBy = true := by decide +kernel
set_option maxRecDepth 100000 in
theorem ck_Maker_image : jw_meth prog_1_method_44_code 0 false m_Maker_image = true := by decide +kernel
set_option maxRecDepth 100000 in
theorem ck_Workshop_become : jw_meth prog_11_method_2_code 4 false m_Workshop_become = true := by decide +kernel
set_option maxRecDepth 100000 in
theorem ck_Ladder_become : jw_meth prog_6_method_7_code 7 false m_Ladder_become = true := by decide +kernel
set_option maxRecDepth 100000 in
theorem ck_Bins_become : jw_meth prog_2_method_2_code 8 false m_Bins_become = true := by decide +kernel
set_option maxRecDepth 100000 in
theorem ck_Wants_become : jw_meth prog_10_method_2_code 5 false m_Wants_become = true := by decide +kernel
set_option maxRecDepth 100000 in
theorem ck_Maker_undo : jw_meth prog_1_method_45_code 0 false m_Maker_undo = true := by decide +kernel
set_option maxRecDepth 100000 in
theorem ck_Maker_count : jw_meth prog_1_method_46_code 0 false m_Maker_count = true := by decide +kernel
set_option maxRecDepth 100000 in
theorem ck_Model_init : jw_meth prog_13_method_1_code 12 true m_Model_init = true := by decide +kernel
set_option maxRecDepth 100000 in
theorem ck_Model_feed : jw_meth prog_13_method_13_code 12 false m_Model_feed = true := by decide +kernel
set_option maxRecDepth 100000 in
theorem ck_Model_in : jw_meth prog_13_method_2_code 12 false m_Model_in = true := by decide +kernel
set_option maxRecDepth 100000 in
theorem ck_Model_wipe : jw_meth prog_13_method_14_code 12 false m_Model_wipe = true := by decide +kernel
set_option maxRecDepth 100000 in
theorem ck_Model_ratio : jw_meth prog_13_method_22_code 12 false m_Model_ratio = true := by decide +kernel
set_option maxRecDepth 100000 in
theorem ck_Model_poly : jw_meth prog_13_method_20_code 12 false m_Model_poly = true := by decide +kernel
set_option maxRecDepth 100000 in
theorem ck_Model_here : jw_meth prog_13_method_15_code 12 false m_Model_here = true := by decide +kernel
set_option maxRecDepth 100000 in
theorem ck_Model_term : jw_meth prog_13_method_19_code 12 false m_Model_term = true := by decide +kernel
set_option maxRecDepth 100000 in
theorem ck_Model_number : jw_meth prog_13_method_18_code 12 false m_Model_number = true := by decide +kernel
set_option maxRecDepth 100000 in
theorem ck_Model_fault : jw_meth prog_13_method_17_code 12 false m_Model_fault = true := by decide +kernel
set_option maxRecDepth 100000 in
theorem ck_Model_isDigit : jw_meth prog_13_method_16_code 12 false m_Model_isDigit = true := by decide +kernel
set_option maxRecDepth 100000 in
theorem ck_Model_isNothing : jw_meth prog_13_method_21_code 12 false m_Model_isNothing = true := by decide +kernel
set_option maxRecDepth 100000 in
theorem ck_Model_ladder : jw_meth prog_13_method_28_code 12 false m_Model_ladder = true := by decide +kernel
set_option maxRecDepth 100000 in
theorem ck_Model_readPart : jw_meth prog_13_method_25_code 12 false m_Model_readPart = true := by decide +kernel
set_option maxRecDepth 100000 in
theorem ck_Model_sortOf : jw_meth prog_13_method_24_code 12 false m_Model_sortOf = true := by decide +kernel
set_option maxRecDepth 100000 in
theorem ck_Model_fraction : jw_meth prog_13_method_23_code 12 false m_Model_fraction = true := by decide +kernel
set_option maxRecDepth 100000 in
theorem ck_Model_is : jw_meth prog_13_method_7_code 12 false m_Model_is = true := by decide +kernel
set_option maxRecDepth 100000 in
theorem ck_Model_shared : jw_meth prog_13_method_6_code 12 false m_Model_shared = true := by decide +kernel
set_option maxRecDepth 100000 in
theorem ck_Model_lays : jw_meth prog_13_method_26_code 12 false m_Model_lays = true := by decide +kernel
set_option maxRecDepth 100000 in
theorem ck_Model_readEnd : jw_meth prog_13_method_27_code 12 false m_Model_readEnd = true := by decide +kernel
set_option maxRecDepth 100000 in
theorem ck_Model_degree : jw_meth prog_13_method_31_code 12 false m_Model_degree = true := by decide +kernel
set_option maxRecDepth 100000 in
theorem ck_Model_isRatio : jw_meth prog_13_method_3_code 12 false m_Model_isRatio = true := by decide +kernel
set_option maxRecDepth 100000 in
theorem ck_Model_high : jw_meth prog_13_method_29_code 12 false m_Model_high = true := by decide +kernel
set_option maxRecDepth 100000 in
theorem ck_Model_lowOf : jw_meth prog_13_method_30_code 12 false m_Model_lowOf = true := by decide +kernel
set_option maxRecDepth 100000 in
theorem ck_Model_coefficient : jw_meth prog_13_method_32_code 12 false m_Model_coefficient = true := by decide +kernel
set_option maxRecDepth 100000 in
theorem ck_Model_same : jw_meth prog_13_method_34_code 12 false m_Model_same = true := by decide +kernel
set_option maxRecDepth 100000 in
theorem ck_Model_product : jw_meth prog_13_method_33_code 12 false m_Model_product = true := by decide +kernel
set_option maxRecDepth 100000 in
theorem ck_Model_times : jw_meth prog_13_method_10_code 12 false m_Model_times = true := by decide +kernel
set_option maxRecDepth 100000 in
theorem ck_Model_plus : jw_meth prog_13_method_8_code 12 false m_Model_plus = true := by decide +kernel
set_option maxRecDepth 100000 in
theorem ck_Model_divide : jw_meth prog_13_method_39_code 12 false m_Model_divide = true := by decide +kernel
set_option maxRecDepth 100000 in
theorem ck_Model_loads : jw_meth prog_13_method_35_code 12 false m_Model_loads = true := by decide +kernel
set_option maxRecDepth 100000 in
theorem ck_Model_endOf : jw_meth prog_13_method_37_code 12 false m_Model_endOf = true := by decide +kernel
set_option maxRecDepth 100000 in
theorem ck_Model_changes : jw_meth prog_13_method_36_code 12 false m_Model_changes = true := by decide +kernel
set_option maxRecDepth 100000 in
theorem ck_Model_over : jw_meth prog_13_method_11_code 12 false m_Model_over = true := by decide +kernel
set_option maxRecDepth 100000 in
theorem ck_Model_lessens : jw_meth prog_13_method_38_code 12 false m_Model_lessens = true := by decide +kernel
set_option maxRecDepth 100000 in
theorem ck_Model_minus : jw_meth prog_13_method_9_code 12 false m_Model_minus = true := by decide +kernel
set_option maxRecDepth 100000 in
theorem ck_Model_invert : jw_meth prog_13_method_41_code 12 false m_Model_invert = true := by decide +kernel
set_option maxRecDepth 100000 in
theorem ck_Model_keeps : jw_meth prog_13_method_40_code 12 false m_Model_keeps = true := by decide +kernel
set_option maxRecDepth 100000 in
theorem ck_Model_stretch : jw_meth prog_13_method_42_code 12 false m_Model_stretch = true := by decide +kernel
set_option maxRecDepth 100000 in
theorem ck_Model_isTold : jw_meth prog_13_method_5_code 12 false m_Model_isTold = true := by decide +kernel
set_option maxRecDepth 100000 in
theorem ck_Model_shift : jw_meth prog_13_method_44_code 12 false m_Model_shift = true := by decide +kernel
set_option maxRecDepth 100000 in
theorem ck_Model_shifts : jw_meth prog_13_method_43_code 12 false m_Model_shifts = true := by decide +kernel
set_option maxRecDepth 100000 in
theorem ck_Model_parts : jw_meth prog_13_method_45_code 12 false m_Model_parts = true := by decide +kernel
set_option maxRecDepth 100000 in
theorem ck_Model_isLadder : jw_meth prog_13_method_4_code 12 false m_Model_isLadder = true := by decide +kernel
set_option maxRecDepth 100000 in
theorem ck_Model_end : jw_meth prog_13_method_46_code 12 false m_Model_end = true := by decide +kernel
set_option maxRecDepth 100000 in
theorem ck_Model_part : jw_meth prog_13_method_48_code 12 false m_Model_part = true := by decide +kernel
set_option maxRecDepth 100000 in
theorem ck_Model_isPart : jw_meth prog_13_method_47_code 12 false m_Model_isPart = true := by decide +kernel
set_option maxRecDepth 100000 in
theorem ck_Model_value : jw_meth prog_13_method_49_code 12 false m_Model_value = true := by decide +kernel
set_option maxRecDepth 100000 in
theorem ck_Model_multiply : jw_meth prog_13_method_53_code 12 false m_Model_multiply = true := by decide +kernel
set_option maxRecDepth 100000 in
theorem ck_Model_goesOut : jw_meth prog_13_method_52_code 12 false m_Model_goesOut = true := by decide +kernel
set_option maxRecDepth 100000 in
theorem ck_Model_adds : jw_meth prog_13_method_50_code 12 false m_Model_adds = true := by decide +kernel
set_option maxRecDepth 100000 in
theorem ck_Model_grows : jw_meth prog_13_method_51_code 12 false m_Model_grows = true := by decide +kernel
set_option maxRecDepth 100000 in
theorem ck_Model_close : jw_meth prog_13_method_54_code 12 false m_Model_close = true := by decide +kernel
set_option maxRecDepth 100000 in
theorem ck_Model_scale : jw_meth prog_13_method_56_code 12 false m_Model_scale = true := by decide +kernel
set_option maxRecDepth 100000 in
theorem ck_Model_comes : jw_meth prog_13_method_55_code 12 false m_Model_comes = true := by decide +kernel
set_option maxRecDepth 100000 in
theorem ck_Model_band : jw_meth prog_13_method_58_code 12 false m_Model_band = true := by decide +kernel
set_option maxRecDepth 100000 in
theorem ck_Model_widened : jw_meth prog_13_method_57_code 12 false m_Model_widened = true := by decide +kernel
set_option maxRecDepth 100000 in
theorem ck_Model_dull : jw_meth prog_13_method_59_code 12 false m_Model_dull = true := by decide +kernel
set_option maxRecDepth 100000 in
theorem ck_Model_turn : jw_meth prog_13_method_60_code 12 false m_Model_turn = true := by decide +kernel
set_option maxRecDepth 100000 in
theorem ck_Model_fit : jw_meth prog_13_method_61_code 12 false m_Model_fit = true := by decide +kernel
set_option maxRecDepth 100000 in
theorem ck_Model_nearestTo : jw_meth prog_13_method_76_code 12 false m_Model_nearestTo = true := by decide +kernel
set_option maxRecDepth 100000 in
theorem ck_Model_far : jw_meth prog_13_method_75_code 12 false m_Model_far = true := by decide +kernel
set_option maxRecDepth 100000 in
theorem ck_Model_forget : jw_meth prog_13_method_62_code 12 false m_Model_forget = true := by decide +kernel
set_option maxRecDepth 100000 in
theorem ck_Model_worth : jw_meth prog_13_method_66_code 12 false m_Model_worth = true := by decide +kernel
set_option maxRecDepth 100000 in
theorem ck_Model_begins : jw_meth prog_13_method_63_code 12 false m_Model_begins = true := by decide +kernel
set_option maxRecDepth 100000 in
theorem ck_Model_goesOn : jw_meth prog_13_method_65_code 12 false m_Model_goesOn = true := by decide +kernel
set_option maxRecDepth 100000 in
theorem ck_Model_becomes : jw_meth prog_13_method_64_code 12 false m_Model_becomes = true := by decide +kernel
set_option maxRecDepth 100000 in
theorem ck_Model_react : jw_meth prog_13_method_69_code 12 false m_Model_react = true := by decide +kernel
set_option maxRecDepth 100000 in
theorem ck_Model_reacts : jw_meth prog_13_method_67_code 12 false m_Model_reacts = true := by decide +kernel
set_option maxRecDepth 100000 in
theorem ck_Model_reactsAt : jw_meth prog_13_method_68_code 12 false m_Model_reactsAt = true := by decide +kernel
set_option maxRecDepth 100000 in
theorem ck_Model_first : jw_meth prog_13_method_70_code 12 false m_Model_first = true := by decide +kernel
set_option maxRecDepth 100000 in
theorem ck_Model_stock : jw_meth prog_13_method_73_code 12 false m_Model_stock = true := by decide +kernel
set_option maxRecDepth 100000 in
theorem ck_Model_binOf : jw_meth prog_13_method_71_code 12 false m_Model_binOf = true := by decide +kernel
set_option maxRecDepth 100000 in
theorem ck_Model_order : jw_meth prog_13_method_12_code 12 false m_Model_order = true := by decide +kernel
set_option maxRecDepth 100000 in
theorem ck_Model_moves : jw_meth prog_13_method_72_code 12 false m_Model_moves = true := by decide +kernel
set_option maxRecDepth 100000 in
theorem ck_Model_bin : jw_meth prog_13_method_74_code 12 false m_Model_bin = true := by decide +kernel
set_option maxRecDepth 100000 in
theorem ck_Model_nearest : jw_meth prog_13_method_77_code 12 false m_Model_nearest = true := by decide +kernel
set_option maxRecDepth 100000 in
theorem ck_Model_build : jw_meth prog_13_method_82_code 12 false m_Model_build = true := by decide +kernel
set_option maxRecDepth 100000 in
theorem ck_Model_lacks : jw_meth prog_13_method_78_code 12 false m_Model_lacks = true := by decide +kernel
set_option maxRecDepth 100000 in
theorem ck_Model_wanted : jw_meth prog_13_method_81_code 12 false m_Model_wanted = true := by decide +kernel
set_option maxRecDepth 100000 in
theorem ck_Model_isAhead : jw_meth prog_13_method_79_code 12 false m_Model_isAhead = true := by decide +kernel
set_option maxRecDepth 100000 in
theorem ck_Model_wantGoes : jw_meth prog_13_method_80_code 12 false m_Model_wantGoes = true := by decide +kernel
set_option maxRecDepth 100000 in
theorem ck_Model_arrive : jw_meth prog_13_method_83_code 12 false m_Model_arrive = true := by decide +kernel
set_option maxRecDepth 100000 in
theorem ck_Model_want : jw_meth prog_13_method_84_code 12 false m_Model_want = true := by decide +kernel
set_option maxRecDepth 100000 in
theorem ck_Model_cost : jw_meth prog_13_method_85_code 12 false m_Model_cost = true := by decide +kernel
set_option maxRecDepth 100000 in
theorem ck_Model_unlike : jw_meth prog_13_method_87_code 12 false m_Model_unlike = true := by decide +kernel
set_option maxRecDepth 100000 in
theorem ck_Model_gathers : jw_meth prog_13_method_86_code 12 false m_Model_gathers = true := by decide +kernel
set_option maxRecDepth 100000 in
theorem ck_Model_hold : jw_meth prog_13_method_89_code 12 false m_Model_hold = true := by decide +kernel
set_option maxRecDepth 100000 in
theorem ck_Model_isHolder : jw_meth prog_13_method_88_code 12 false m_Model_isHolder = true := by decide +kernel
set_option maxRecDepth 100000 in
theorem ck_Model_drop : jw_meth prog_13_method_90_code 12 false m_Model_drop = true := by decide +kernel
set_option maxRecDepth 100000 in
theorem ck_Model_taken : jw_meth prog_13_method_91_code 12 false m_Model_taken = true := by decide +kernel
set_option maxRecDepth 100000 in
theorem ck_Model_row : jw_meth prog_13_method_92_code 12 false m_Model_row = true := by decide +kernel
set_option maxRecDepth 100000 in
theorem ck_Model_put : jw_meth prog_13_method_94_code 12 false m_Model_put = true := by decide +kernel
set_option maxRecDepth 100000 in
theorem ck_Model_bar : jw_meth prog_13_method_93_code 12 false m_Model_bar = true := by decide +kernel
set_option maxRecDepth 100000 in
theorem ck_Model_get : jw_meth prog_13_method_95_code 12 false m_Model_get = true := by decide +kernel
set_option maxRecDepth 100000 in
theorem ck_Model_copy : jw_meth prog_13_method_96_code 12 false m_Model_copy = true := by decide +kernel
set_option maxRecDepth 100000 in
theorem ck_Model_judge : jw_meth prog_13_method_97_code 12 false m_Model_judge = true := by decide +kernel
set_option maxRecDepth 100000 in
theorem ck_Model_image : jw_meth prog_13_method_100_code 12 false m_Model_image = true := by decide +kernel
set_option maxRecDepth 100000 in
theorem ck_Model_copies1 : jw_meth prog_13_method_99_code 12 false m_Model_copies1 = true := by decide +kernel
set_option maxRecDepth 100000 in
theorem ck_Model_copies2 : jw_meth prog_13_method_98_code 12 false m_Model_copies2 = true := by decide +kernel
set_option maxRecDepth 100000 in
theorem ck_Model_undo : jw_meth prog_13_method_101_code 12 false m_Model_undo = true := by decide +kernel
set_option maxRecDepth 100000 in
theorem ck_Model_count : jw_meth prog_13_method_102_code 12 false m_Model_count = true := by decide +kernel
