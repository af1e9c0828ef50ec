abbrev M_X0_init : xM := (yX0_init, cX0_init, 2, none, 1, 20, 3, 800)
abbrev M_X0_clear : xM := (yX0_clear, cX0_clear, 2, none, 0, 0, 0, 0)
abbrev M_X4_bit : xM := (yX4_bit, cX4_bit, 3, some .int, 0, 0, 0, 0)
abbrev M_X4_codeOf : xM := (yX4_codeOf, cX4_codeOf, 4, some .int, 1, 22, 0, 0)
abbrev M_X0_addThrees : xM := (yX0_addThrees, cX0_addThrees, 8, none, 2, 45, 0, 0)
abbrev M_X0_threesOf : xM := (yX0_threesOf, cX0_threesOf, 4, some .int, 3, 72, 0, 0)
abbrev M_X4_everyPost : xM := (yX4_everyPost, cX4_everyPost, 1, some .int, 0, 0, 0, 0)
abbrev M_X0_difference : xM := (yX0_difference, cX0_difference, 5, some .int, 3, 72, 0, 0)
abbrev M_X5_placeOf : xM := (yX5_placeOf, cX5_placeOf, 3, some .int, 0, 0, 0, 0)
abbrev M_X0_countIndex : xM := (yX0_countIndex, cX0_countIndex, 3, some .int, 0, 0, 0, 0)
abbrev M_X0_addToPost : xM := (yX0_addToPost, cX0_addToPost, 4, none, 1, 22, 0, 0)
abbrev M_X0_countByPosts : xM := (yX0_countByPosts, cX0_countByPosts, 6, none, 2, 45, 0, 0)
abbrev M_X0_postCount : xM := (yX0_postCount, cX0_postCount, 4, some .int, 1, 22, 0, 0)
abbrev M_X0_alike : xM := (yX0_alike, cX0_alike, 4, some .boolean, 0, 0, 0, 0)
abbrev M_X0_firstAlike : xM := (yX0_firstAlike, cX0_firstAlike, 3, some .int, 1, 23, 0, 0)
abbrev M_X0_findRoles : xM := (yX0_findRoles, cX0_findRoles, 5, some .int, 3, 70, 0, 0)
abbrev M_X4_besideBit : xM := (yX4_besideBit, cX4_besideBit, 3, some .int, 1, 22, 0, 0)
abbrev M_X1_kindBy : xM := (yX1_kindBy, cX1_kindBy, 3, some .int, 0, 0, 0, 0)
abbrev M_X1_kindOfFour : xM := (yX1_kindOfFour, cX1_kindOfFour, 17, some .int, 2, 44, 0, 0)
abbrev M_X1_withTwo : xM := (yX1_withTwo, cX1_withTwo, 7, some .int, 3, 80, 0, 0)
abbrev M_X1_ofKind : xM := (yX1_ofKind, cX1_ofKind, 5, some .int, 4, 106, 0, 0)
abbrev M_X2_init : xM := (yX2_init, cX2_init, 1, none, 1, 20, 0, 0)
abbrev M_X2_commonDivisor : xM := (yX2_commonDivisor, cX2_commonDivisor, 11, some .long, 0, 0, 0, 0)
abbrev M_X2_become : xM := (yX2_become, cX2_become, 7, none, 1, 30, 0, 0)
abbrev M_X3_init : xM := (yX3_init, cX3_init, 1, none, 1, 20, 0, 0)
abbrev M_X3_drawBelow : xM := (yX3_drawBelow, cX3_drawBelow, 2, some .int, 0, 0, 0, 0)
abbrev M_J6_bitCount_0f7a4 : xM := (yJ6_bitCount_0f7a4, cJ6_bitCount_0f7a4, 1, some .int, 0, 0, 0, 0)
abbrev M_X4_linkCount : xM := (yX4_linkCount, cX4_linkCount, 3, some .int, 1, 20, 0, 0)
abbrev M_X4_setBit : xM := (yX4_setBit, cX4_setBit, 4, some .int, 0, 0, 0, 0)
abbrev M_X4_spot : xM := (yX4_spot, cX4_spot, 2, some .int, 0, 0, 0, 0)
abbrev M_X4_spotOf : xM := (yX4_spotOf, cX4_spotOf, 5, some .int, 1, 23, 0, 0)
abbrev M_X4_fromOf : xM := (yX4_fromOf, cX4_fromOf, 1, some .int, 0, 0, 0, 0)
abbrev M_X4_toOf : xM := (yX4_toOf, cX4_toOf, 1, some .int, 0, 0, 0, 0)
abbrev M_X4_has : xM := (yX4_has, cX4_has, 3, some .boolean, 1, 22, 0, 0)
abbrev M_X4_kindOf : xM := (yX4_kindOf, cX4_kindOf, 3, some .int, 0, 0, 0, 0)
abbrev M_X4_timeOf : xM := (yX4_timeOf, cX4_timeOf, 3, some .int, 2, 44, 0, 0)
abbrev M_X4_drop : xM := (yX4_drop, cX4_drop, 3, none, 0, 0, 0, 0)
abbrev M_X4_put : xM := (yX4_put, cX4_put, 5, none, 1, 22, 0, 0)
abbrev M_X4_exchange : xM := (yX4_exchange, cX4_exchange, 7, some .boolean, 3, 66, 0, 0)
abbrev M_X3_mixLinks : xM := (yX3_mixLinks, cX3_mixLinks, 8, some .int, 4, 92, 0, 0)
abbrev M_X4_init : xM := (yX4_init, cX4_init, 2, none, 1, 20, 3, 288)
abbrev M_X4_startAnew : xM := (yX4_startAnew, cX4_startAnew, 3, none, 0, 0, 0, 0)
abbrev M_X4_becomeLike : xM := (yX4_becomeLike, cX4_becomeLike, 2, none, 1, 26, 0, 0)
abbrev M_X4_into : xM := (yX4_into, cX4_into, 4, some .int, 1, 22, 0, 0)
abbrev M_X4_beside : xM := (yX4_beside, cX4_beside, 2, some .int, 2, 45, 0, 0)
abbrev M_X4_opposed : xM := (yX4_opposed, cX4_opposed, 4, some .int, 1, 22, 0, 0)
abbrev M_X4_opposedBit : xM := (yX4_opposedBit, cX4_opposedBit, 3, some .int, 1, 22, 0, 0)
abbrev M_X4_againstCount : xM := (yX4_againstCount, cX4_againstCount, 3, some .int, 1, 20, 0, 0)
abbrev M_X4_besideCount : xM := (yX4_besideCount, cX4_besideCount, 4, some .int, 2, 44, 0, 0)
abbrev M_X5_codeBit : xM := (yX5_codeBit, cX5_codeBit, 2, some .int, 0, 0, 0, 0)
abbrev M_X5_reordered : xM := (yX5_reordered, cX5_reordered, 5, some .int, 1, 21, 0, 0)
abbrev M_X5_leastOf : xM := (yX5_leastOf, cX5_leastOf, 3, some .int, 2, 45, 0, 0)
abbrev M_X5_setPlaces : xM := (yX5_setPlaces, cX5_setPlaces, 6, none, 2, 45, 0, 0)
abbrev M_X5_placesIn : xM := (yX5_placesIn, cX5_placesIn, 4, some .int, 1, 22, 0, 0)
abbrev M_X5_init : xM := (yX5_init, cX5_init, 5, none, 3, 70, 5, 304)
abbrev M_X5_linkCount : xM := (yX5_linkCount, cX5_linkCount, 2, some .int, 1, 20, 0, 0)
abbrev M_X6_init : xM := (yX6_init, cX6_init, 1, none, 1, 20, 2, 32)
abbrev M_X6_readTwos : xM := (yX6_readTwos, cX6_readTwos, 4, some .int, 3, 66, 0, 0)
abbrev M_X6_lowestBit : xM := (yX6_lowestBit, cX6_lowestBit, 1, some .int, 1, 20, 0, 0)
abbrev M_X6_changeIfMoved : xM := (yX6_changeIfMoved, cX6_changeIfMoved, 5, some .int, 1, 20, 0, 0)
abbrev M_X6_tryAll : xM := (yX6_tryAll, cX6_tryAll, 7, none, 4, 89, 0, 0)
abbrev M_X7_isClosed : xM := (yX7_isClosed, cX7_isClosed, 4, some .boolean, 2, 44, 0, 0)
abbrev M_X7_quarrels : xM := (yX7_quarrels, cX7_quarrels, 5, some .boolean, 2, 44, 0, 0)
abbrev M_X7_closedThrees : xM := (yX7_closedThrees, cX7_closedThrees, 6, some .int, 3, 68, 0, 0)
abbrev M_X8_isChain : xM := (yX8_isChain, cX8_isChain, 6, some .boolean, 3, 66, 0, 0)
abbrev M_X8_backChains : xM := (yX8_backChains, cX8_backChains, 5, some .int, 4, 91, 0, 0)
abbrev M_X8_onChains : xM := (yX8_onChains, cX8_onChains, 6, some .int, 4, 91, 0, 0)
abbrev M_X8_linksFrom : xM := (yX8_linksFrom, cX8_linksFrom, 7, some .int, 3, 66, 0, 0)
abbrev M_X8_longestBurst : xM := (yX8_longestBurst, cX8_longestBurst, 5, some .int, 4, 92, 0, 0)
abbrev M_X9_init : xM := (yX9_init, cX9_init, 1, none, 1, 20, 2, 256)
abbrev M_X9_sumOf : xM := (yX9_sumOf, cX9_sumOf, 7, some .long, 0, 0, 0, 0)
abbrev M_X9_goOn : xM := (yX9_goOn, cX9_goOn, 9, none, 2, 45, 0, 0)
abbrev M_X9_countFrom : xM := (yX9_countFrom, cX9_countFrom, 6, none, 3, 73, 0, 0)
abbrev M_X9_partsOf : xM := (yX9_partsOf, cX9_partsOf, 4, some .int, 0, 0, 0, 0)
abbrev M_X9_partOf : xM := (yX9_partOf, cX9_partOf, 3, some .int, 0, 0, 0, 0)
abbrev M_X10_init : xM := (yX10_init, cX10_init, 2, none, 4, 94, 41, 2884)
abbrev M_X10_refuse : xM := (yX10_refuse, cX10_refuse, 3, some .int, 0, 0, 0, 0)
abbrev M_X10_posts : xM := (yX10_posts, cX10_posts, 3, some .int, 1, 22, 0, 0)
abbrev M_X10_isPost : xM := (yX10_isPost, cX10_isPost, 2, some .boolean, 0, 0, 0, 0)
abbrev M_X10_isTwo : xM := (yX10_isTwo, cX10_isTwo, 3, some .boolean, 1, 21, 0, 0)
abbrev M_X10_link : xM := (yX10_link, cX10_link, 6, some .int, 2, 46, 0, 0)
abbrev M_X10_cut : xM := (yX10_cut, cX10_cut, 3, some .int, 2, 44, 0, 0)
abbrev M_X10_linkOf : xM := (yX10_linkOf, cX10_linkOf, 4, some .int, 3, 66, 0, 0)
abbrev M_X10_isLink : xM := (yX10_isLink, cX10_isLink, 2, some .boolean, 2, 42, 0, 0)
abbrev M_X10_at : xM := (yX10_at, cX10_at, 4, some .int, 3, 63, 0, 0)
abbrev M_X10_isThree : xM := (yX10_isThree, cX10_isThree, 4, some .boolean, 2, 43, 0, 0)
abbrev M_X10_shape : xM := (yX10_shape, cX10_shape, 4, some .int, 3, 66, 0, 0)
abbrev M_X10_isShape : xM := (yX10_isShape, cX10_isShape, 1, some .boolean, 0, 0, 0, 0)
abbrev M_X10_shapeOf : xM := (yX10_shapeOf, cX10_shapeOf, 3, some .int, 2, 41, 0, 0)
abbrev M_X10_place : xM := (yX10_place, cX10_place, 4, some .int, 3, 66, 0, 0)
abbrev M_X10_count : xM := (yX10_count, cX10_count, 2, some .int, 4, 95, 0, 0)
abbrev M_X10_countOf : xM := (yX10_countOf, cX10_countOf, 4, some .int, 3, 70, 0, 0)
abbrev M_X10_role : xM := (yX10_role, cX10_role, 2, some .int, 4, 94, 0, 0)
abbrev M_X10_roles : xM := (yX10_roles, cX10_roles, 1, some .int, 4, 94, 0, 0)
abbrev M_X10_fours : xM := (yX10_fours, cX10_fours, 2, some .int, 5, 130, 0, 0)
abbrev M_X10_seed : xM := (yX10_seed, cX10_seed, 3, some .int, 0, 0, 0, 0)
abbrev M_X10_swap : xM := (yX10_swap, cX10_swap, 3, some .int, 4, 92, 0, 0)
abbrev M_X10_mix : xM := (yX10_mix, cX10_mix, 2, some .int, 5, 119, 0, 0)
abbrev M_X10_threesAmong : xM := (yX10_threesAmong, cX10_threesAmong, 1, some .long, 0, 0, 0, 0)
abbrev M_X10_factorsDown : xM := (yX10_factorsDown, cX10_factorsDown, 5, some .long, 1, 21, 0, 0)
abbrev M_X10_findMean : xM := (yX10_findMean, cX10_findMean, 7, none, 2, 56, 0, 0)
abbrev M_X10_mean : xM := (yX10_mean, cX10_mean, 3, some .long, 3, 82, 0, 0)
abbrev M_J13_compare_74951 : xM := (yJ13_compare_74951, cJ13_compare_74951, 4, some .int, 0, 0, 0, 0)
abbrev M_X10_more : xM := (yX10_more, cX10_more, 4, some .int, 4, 95, 0, 0)
abbrev M_X10_chains : xM := (yX10_chains, cX10_chains, 3, some .int, 5, 116, 0, 0)
abbrev M_X10_burst : xM := (yX10_burst, cX10_burst, 3, some .int, 5, 116, 0, 0)
abbrev M_X10_signs : xM := (yX10_signs, cX10_signs, 2, some .int, 4, 93, 0, 0)
abbrev M_X10_sides : xM := (yX10_sides, cX10_sides, 2, some .int, 5, 115, 0, 0)
abbrev M_X10_walks : xM := (yX10_walks, cX10_walks, 5, some .int, 4, 98, 0, 0)
abbrev M_X10_sample : xM := (yX10_sample, cX10_sample, 7, some .int, 4, 95, 0, 0)
abbrev M_X10_isSheet : xM := (yX10_isSheet, cX10_isSheet, 1, some .boolean, 0, 0, 0, 0)
abbrev M_X10_keep : xM := (yX10_keep, cX10_keep, 2, some .int, 2, 47, 0, 0)
abbrev M_X10_take : xM := (yX10_take, cX10_take, 2, some .int, 2, 47, 0, 0)
abbrev M_X10_lose : xM := (yX10_lose, cX10_lose, 2, some .int, 1, 22, 0, 0)
abbrev M_X10_far : xM := (yX10_far, cX10_far, 2, some .int, 4, 96, 0, 0)
abbrev M_X10_heldCount : xM := (yX10_heldCount, cX10_heldCount, 3, some .int, 0, 0, 0, 0)
abbrev M_X10_refusalCount : xM := (yX10_refusalCount, cX10_refusalCount, 2, some .int, 0, 0, 0, 0)
abbrev M_X10_status : xM := (yX10_status, cX10_status, 2, some .int, 3, 67, 0, 0)
abbrev M_X11_atOrder : xM := (yX11_atOrder, cX11_atOrder, 4, some .int, 0, 0, 0, 0)
abbrev M_X11_bit : xM := (yX11_bit, cX11_bit, 2, some .int, 0, 0, 0, 0)
abbrev M_X11_inOrder : xM := (yX11_inOrder, cX11_inOrder, 5, some .int, 1, 23, 0, 0)
abbrev M_X11_init : xM := (yX11_init, cX11_init, 6, none, 2, 47, 21, 5703)
abbrev M_X11_in : xM := (yX11_in, cX11_in, 3, some .boolean, 0, 0, 0, 0)
abbrev M_X11_refuse : xM := (yX11_refuse, cX11_refuse, 2, some .int, 0, 0, 0, 0)
abbrev M_X11_isPost : xM := (yX11_isPost, cX11_isPost, 2, some .boolean, 1, 22, 0, 0)
abbrev M_X11_isShape : xM := (yX11_isShape, cX11_isShape, 1, some .boolean, 1, 22, 0, 0)
abbrev M_X11_has : xM := (yX11_has, cX11_has, 3, some .boolean, 0, 0, 0, 0)
abbrev M_X11_codeOf : xM := (yX11_codeOf, cX11_codeOf, 4, some .int, 1, 22, 0, 0)
abbrev M_X11_shapeOfThree : xM := (yX11_shapeOfThree, cX11_shapeOfThree, 4, some .int, 2, 45, 0, 0)
abbrev M_X11_placeIn : xM := (yX11_placeIn, cX11_placeIn, 6, some .int, 2, 47, 0, 0)
abbrev M_X11_ones : xM := (yX11_ones, cX11_ones, 3, some .int, 0, 0, 0, 0)
abbrev M_X11_posts : xM := (yX11_posts, cX11_posts, 4, some .int, 1, 21, 0, 0)
abbrev M_X11_isTwo : xM := (yX11_isTwo, cX11_isTwo, 3, some .boolean, 2, 43, 0, 0)
abbrev M_X11_link : xM := (yX11_link, cX11_link, 6, some .int, 3, 65, 0, 0)
abbrev M_X11_cut : xM := (yX11_cut, cX11_cut, 3, some .int, 3, 65, 0, 0)
abbrev M_X11_linkOf : xM := (yX11_linkOf, cX11_linkOf, 4, some .int, 3, 65, 0, 0)
abbrev M_X11_links : xM := (yX11_links, cX11_links, 3, some .int, 0, 0, 0, 0)
abbrev M_X11_linkAt : xM := (yX11_linkAt, cX11_linkAt, 4, some .int, 0, 0, 0, 0)
abbrev M_X11_at : xM := (yX11_at, cX11_at, 4, some .int, 1, 23, 0, 0)
abbrev M_X11_areThree : xM := (yX11_areThree, cX11_areThree, 4, some .boolean, 3, 65, 0, 0)
abbrev M_X11_shape : xM := (yX11_shape, cX11_shape, 4, some .int, 4, 88, 0, 0)
abbrev M_X11_shapeOf : xM := (yX11_shapeOf, cX11_shapeOf, 8, some .int, 3, 72, 0, 0)
abbrev M_X11_place : xM := (yX11_place, cX11_place, 4, some .int, 4, 88, 0, 0)
abbrev M_X11_countShape : xM := (yX11_countShape, cX11_countShape, 6, some .int, 3, 68, 0, 0)
abbrev M_X11_count : xM := (yX11_count, cX11_count, 2, some .int, 4, 93, 0, 0)
abbrev M_X11_findCounts : xM := (yX11_findCounts, cX11_findCounts, 5, none, 3, 72, 0, 0)
abbrev M_X11_countOf : xM := (yX11_countOf, cX11_countOf, 4, some .int, 4, 96, 0, 0)
abbrev M_X11_findRoles : xM := (yX11_findRoles, cX11_findRoles, 6, some .int, 4, 96, 0, 0)
abbrev M_X11_role : xM := (yX11_role, cX11_role, 3, some .int, 5, 121, 0, 0)
abbrev M_X11_roles : xM := (yX11_roles, cX11_roles, 1, some .int, 5, 121, 0, 0)
abbrev M_X11_isBeside : xM := (yX11_isBeside, cX11_isBeside, 3, some .boolean, 1, 22, 0, 0)
abbrev M_X11_kindOfFour : xM := (yX11_kindOfFour, cX11_kindOfFour, 7, some .int, 2, 44, 0, 0)
abbrev M_X11_fours : xM := (yX11_fours, cX11_fours, 6, some .int, 3, 70, 0, 0)
abbrev M_X11_seed : xM := (yX11_seed, cX11_seed, 3, some .int, 0, 0, 0, 0)
abbrev M_X11_drawBelow : xM := (yX11_drawBelow, cX11_drawBelow, 2, some .int, 0, 0, 0, 0)
abbrev M_X11_putLink : xM := (yX11_putLink, cX11_putLink, 5, none, 0, 0, 0, 0)
abbrev M_X11_maySwap : xM := (yX11_maySwap, cX11_maySwap, 7, some .boolean, 1, 22, 0, 0)
abbrev M_X11_doSwap : xM := (yX11_doSwap, cX11_doSwap, 5, none, 1, 24, 0, 0)
abbrev M_X11_swap : xM := (yX11_swap, cX11_swap, 5, some .int, 2, 48, 0, 0)
abbrev M_X11_mix : xM := (yX11_mix, cX11_mix, 7, some .int, 2, 48, 0, 0)
abbrev M_X11_divisor : xM := (yX11_divisor, cX11_divisor, 10, some .long, 0, 0, 0, 0)
abbrev M_X11_fall : xM := (yX11_fall, cX11_fall, 5, some .long, 0, 0, 0, 0)
abbrev M_X11_threes : xM := (yX11_threes, cX11_threes, 1, some .int, 0, 0, 0, 0)
abbrev M_X11_findMean : xM := (yX11_findMean, cX11_findMean, 8, none, 1, 29, 0, 0)
abbrev M_X11_mean : xM := (yX11_mean, cX11_mean, 3, some .long, 2, 56, 0, 0)
abbrev M_X11_more : xM := (yX11_more, cX11_more, 4, some .int, 4, 93, 0, 0)
abbrev M_X11_chains : xM := (yX11_chains, cX11_chains, 8, some .int, 1, 22, 0, 0)
abbrev M_X11_burst : xM := (yX11_burst, cX11_burst, 8, some .int, 2, 43, 0, 0)
abbrev M_X11_isAgainst : xM := (yX11_isAgainst, cX11_isAgainst, 3, some .boolean, 1, 22, 0, 0)
abbrev M_X11_signs : xM := (yX11_signs, cX11_signs, 7, some .int, 2, 44, 0, 0)
abbrev M_X11_sides : xM := (yX11_sides, cX11_sides, 8, some .int, 2, 44, 0, 0)
abbrev M_X11_addWays : xM := (yX11_addWays, cX11_addWays, 8, none, 0, 0, 0, 0)
abbrev M_X11_walks : xM := (yX11_walks, cX11_walks, 7, some .int, 2, 43, 0, 0)
abbrev M_X11_sample : xM := (yX11_sample, cX11_sample, 12, some .int, 3, 68, 0, 0)
abbrev M_X11_isSheet : xM := (yX11_isSheet, cX11_isSheet, 1, some .boolean, 1, 22, 0, 0)
abbrev M_X11_keep : xM := (yX11_keep, cX11_keep, 3, some .int, 2, 42, 0, 0)
abbrev M_X11_load : xM := (yX11_load, cX11_load, 3, none, 0, 0, 0, 0)
abbrev M_X11_take : xM := (yX11_take, cX11_take, 2, some .int, 2, 42, 0, 0)
abbrev M_X11_lose : xM := (yX11_lose, cX11_lose, 2, some .int, 2, 42, 0, 0)
abbrev M_X11_far : xM := (yX11_far, cX11_far, 6, some .int, 4, 93, 0, 0)
abbrev M_X11_status : xM := (yX11_status, cX11_status, 5, some .int, 2, 44, 0, 0)
abbrev M_L_law : xM := (yL_law, cL_law, 4, some .boolean, 6, 151, 64, 8621)
theorem inX0 : ∀ w ∈ u_ws RX0 TX0 4, w ∈ wB := by
  intro w hw
  simp only [u_ws, List.mem_map, List.mem_range] at hw
  obtain ⟨k, hk, rfl⟩ := hw
  match k, hk with
  | 0, _ => exact x_wd 162 (by decide +kernel) (by decide +kernel)
  | 1, _ => exact x_wd 164 (by decide +kernel) (by decide +kernel)
  | 2, _ => exact x_wd 166 (by decide +kernel) (by decide +kernel)
  | 3, _ => exact x_wd 168 (by decide +kernel) (by decide +kernel)
  | k + 4, h => exact absurd h (by omega)
theorem inX2 : ∀ w ∈ u_ws RX2 TX2 2, w ∈ wB := by
  intro w hw
  simp only [u_ws, List.mem_map, List.mem_range] at hw
  obtain ⟨k, hk, rfl⟩ := hw
  match k, hk with
  | 0, _ => exact x_wd 181 (by decide +kernel) (by decide +kernel)
  | 1, _ => exact x_wd 183 (by decide +kernel) (by decide +kernel)
  | k + 2, h => exact absurd h (by omega)
theorem inX3 : ∀ w ∈ u_ws RX3 TX3 1, w ∈ wB := by
  intro w hw
  simp only [u_ws, List.mem_map, List.mem_range] at hw
  obtain ⟨k, hk, rfl⟩ := hw
  match k, hk with
  | 0, _ => exact x_wd 194 (by decide +kernel) (by decide +kernel)
  | k + 1, h => exact absurd h (by omega)
theorem inX4 : ∀ w ∈ u_ws RX4 TX4 4, w ∈ wB := by
  intro w hw
  simp only [u_ws, List.mem_map, List.mem_range] at hw
  obtain ⟨k, hk, rfl⟩ := hw
  match k, hk with
  | 0, _ => exact x_wd 85 (by decide +kernel) (by decide +kernel)
  | 1, _ => exact x_wd 87 (by decide +kernel) (by decide +kernel)
  | 2, _ => exact x_wd 89 (by decide +kernel) (by decide +kernel)
  | 3, _ => exact x_wd 91 (by decide +kernel) (by decide +kernel)
  | k + 4, h => exact absurd h (by omega)
theorem inX5 : ∀ w ∈ u_ws RX5 TX5 5, w ∈ wB := by
  intro w hw
  simp only [u_ws, List.mem_map, List.mem_range] at hw
  obtain ⟨k, hk, rfl⟩ := hw
  match k, hk with
  | 0, _ => exact x_wd 140 (by decide +kernel) (by decide +kernel)
  | 1, _ => exact x_wd 142 (by decide +kernel) (by decide +kernel)
  | 2, _ => exact x_wd 144 (by decide +kernel) (by decide +kernel)
  | 3, _ => exact x_wd 146 (by decide +kernel) (by decide +kernel)
  | 4, _ => exact x_wd 148 (by decide +kernel) (by decide +kernel)
  | k + 5, h => exact absurd h (by omega)
theorem inX6 : ∀ w ∈ u_ws RX6 TX6 4, w ∈ wB := by
  intro w hw
  simp only [u_ws, List.mem_map, List.mem_range] at hw
  obtain ⟨k, hk, rfl⟩ := hw
  match k, hk with
  | 0, _ => exact x_wd 209 (by decide +kernel) (by decide +kernel)
  | 1, _ => exact x_wd 211 (by decide +kernel) (by decide +kernel)
  | 2, _ => exact x_wd 213 (by decide +kernel) (by decide +kernel)
  | 3, _ => exact x_wd 215 (by decide +kernel) (by decide +kernel)
  | k + 4, h => exact absurd h (by omega)
theorem inX9 : ∀ w ∈ u_ws RX9 TX9 2, w ∈ wB := by
  intro w hw
  simp only [u_ws, List.mem_map, List.mem_range] at hw
  obtain ⟨k, hk, rfl⟩ := hw
  match k, hk with
  | 0, _ => exact x_wd 226 (by decide +kernel) (by decide +kernel)
  | 1, _ => exact x_wd 228 (by decide +kernel) (by decide +kernel)
  | k + 2, h => exact absurd h (by omega)
theorem inX10 : ∀ w ∈ u_ws RX10 TX10 9, w ∈ wB := by
  intro w hw
  simp only [u_ws, List.mem_map, List.mem_range] at hw
  obtain ⟨k, hk, rfl⟩ := hw
  match k, hk with
  | 0, _ => exact x_wd 241 (by decide +kernel) (by decide +kernel)
  | 1, _ => exact x_wd 243 (by decide +kernel) (by decide +kernel)
  | 2, _ => exact x_wd 245 (by decide +kernel) (by decide +kernel)
  | 3, _ => exact x_wd 247 (by decide +kernel) (by decide +kernel)
  | 4, _ => exact x_wd 249 (by decide +kernel) (by decide +kernel)
  | 5, _ => exact x_wd 251 (by decide +kernel) (by decide +kernel)
  | 6, _ => exact x_wd 253 (by decide +kernel) (by decide +kernel)
  | 7, _ => exact x_wd 255 (by decide +kernel) (by decide +kernel)
  | 8, _ => exact x_wd 257 (by decide +kernel) (by decide +kernel)
  | k + 9, h => exact absurd h (by omega)
theorem inX11 : ∀ w ∈ u_ws RX11 TX11 25, w ∈ wB := by
  intro w hw
  simp only [u_ws, List.mem_map, List.mem_range] at hw
  obtain ⟨k, hk, rfl⟩ := hw
  match k, hk with
  | 0, _ => exact x_wd 734 (by decide +kernel) (by decide +kernel)
  | 1, _ => exact x_wd 736 (by decide +kernel) (by decide +kernel)
  | 2, _ => exact x_wd 738 (by decide +kernel) (by decide +kernel)
  | 3, _ => exact x_wd 740 (by decide +kernel) (by decide +kernel)
  | 4, _ => exact x_wd 742 (by decide +kernel) (by decide +kernel)
  | 5, _ => exact x_wd 744 (by decide +kernel) (by decide +kernel)
  | 6, _ => exact x_wd 746 (by decide +kernel) (by decide +kernel)
  | 7, _ => exact x_wd 748 (by decide +kernel) (by decide +kernel)
  | 8, _ => exact x_wd 750 (by decide +kernel) (by decide +kernel)
  | 9, _ => exact x_wd 752 (by decide +kernel) (by decide +kernel)
  | 10, _ => exact x_wd 754 (by decide +kernel) (by decide +kernel)
  | 11, _ => exact x_wd 756 (by decide +kernel) (by decide +kernel)
  | 12, _ => exact x_wd 758 (by decide +kernel) (by decide +kernel)
  | 13, _ => exact x_wd 760 (by decide +kernel) (by decide +kernel)
  | 14, _ => exact x_wd 762 (by decide +kernel) (by decide +kernel)
  | 15, _ => exact x_wd 764 (by decide +kernel) (by decide +kernel)
  | 16, _ => exact x_wd 766 (by decide +kernel) (by decide +kernel)
  | 17, _ => exact x_wd 768 (by decide +kernel) (by decide +kernel)
  | 18, _ => exact x_wd 770 (by decide +kernel) (by decide +kernel)
  | 19, _ => exact x_wd 772 (by decide +kernel) (by decide +kernel)
  | 20, _ => exact x_wd 774 (by decide +kernel) (by decide +kernel)
  | 21, _ => exact x_wd 776 (by decide +kernel) (by decide +kernel)
  | 22, _ => exact x_wd 778 (by decide +kernel) (by decide +kernel)
  | 23, _ => exact x_wd 780 (by decide +kernel) (by decide +kernel)
  | 24, _ => exact x_wd 782 (by decide +kernel) (by decide +kernel)
  | k + 25, h => exact absurd h (by omega)
theorem wo_X0_3 : Cond.methodLink RX0 3 Lib.objectInit ∈ wB ∧ Cond.instanceMethod Lib.objectInit ∈ wB ∧ Cond.code Lib.objectInit ⟨#[0xb1]⟩ 1 none ∈ wB := ⟨x_wd 155 (by decide +kernel) (by decide +kernel), x_wd 65 (by decide +kernel) (by decide +kernel), x_wd 66 (by decide +kernel) (by decide +kernel)⟩
theorem wa_int : Cond.arrayClass .int ∈ wB := x_wd 94 (by decide +kernel) (by decide +kernel)
theorem fw_X0_11 : x_FW RX0 11 0 1 (.array .int) true := ⟨RX0, TX0, 4, tyX0, rfl, inX0, tyX0_ok, nmX0, by decide, by decide +kernel, rfl, fun _ => rfl, Or.inl (x_wd 158 (by decide +kernel) (by decide +kernel))⟩
theorem fw_X0_15 : x_FW RX0 15 0 2 (.array .int) true := ⟨RX0, TX0, 4, tyX0, rfl, inX0, tyX0_ok, nmX0, by decide, by decide +kernel, rfl, fun _ => rfl, Or.inl (x_wd 159 (by decide +kernel) (by decide +kernel))⟩
theorem fw_X0_18 : x_FW RX0 18 0 3 (.array .int) true := ⟨RX0, TX0, 4, tyX0, rfl, inX0, tyX0_ok, nmX0, by decide, by decide +kernel, rfl, fun _ => rfl, Or.inl (x_wd 161 (by decide +kernel) (by decide +kernel))⟩
theorem fw_X0_21 : x_FW RX0 21 0 0 ((.object "NetShapes$ShapeTable")) true := ⟨RX0, TX0, 4, tyX0, rfl, inX0, tyX0_ok, nmX0, by decide, by decide +kernel, rfl, fun _ => rfl, Or.inl (x_wd 156 (by decide +kernel) (by decide +kernel))⟩
theorem fl_X4_9 : x_F RX4 9 3 1 := ⟨RX4, TX4, 4, rfl, inX4, by decide, Or.inl (x_wd 81 (by decide +kernel) (by decide +kernel))⟩
theorem kv_X4_31 : x_KV RX4 31 M_X4_bit 2 3 := ⟨x_wd 288 (by decide +kernel) (by decide +kernel), x_wd 289 (by decide +kernel) (by decide +kernel), x_wd 290 (by decide +kernel) (by decide +kernel), x_wd 44 (by decide +kernel) (by decide +kernel), x_wd 291 (by decide +kernel) (by decide +kernel), ⟨by decide +kernel, by decide +kernel, by decide +kernel⟩, _, rfl, rfl⟩
theorem fl_X0_45 : x_F RX0 45 3 0 := ⟨RX4, TX4, 4, rfl, inX4, by decide, Or.inr ⟨RX10, List.mem_of_getElem? (i := 6) rfl⟩⟩
theorem fl_X0_18 : x_F RX0 18 0 3 := ⟨RX0, TX0, 4, rfl, inX0, by decide, Or.inl (x_wd 161 (by decide +kernel) (by decide +kernel))⟩
theorem fl_X0_21 : x_F RX0 21 0 0 := ⟨RX0, TX0, 4, rfl, inX0, by decide, Or.inl (x_wd 156 (by decide +kernel) (by decide +kernel))⟩
theorem fl_X0_49 : x_F RX0 49 4 0 := ⟨RX5, TX5, 5, rfl, inX5, by decide, Or.inr ⟨RX10, List.mem_of_getElem? (i := 8) rfl⟩⟩
theorem kv_X0_54 : x_KV RX0 54 M_X4_codeOf 3 3 := ⟨x_wd 401 (by decide +kernel) (by decide +kernel), x_wd 362 (by decide +kernel) (by decide +kernel), x_wd 363 (by decide +kernel) (by decide +kernel), x_wd 44 (by decide +kernel) (by decide +kernel), x_wd 364 (by decide +kernel) (by decide +kernel), ⟨by decide +kernel, by decide +kernel, by decide +kernel⟩, _, rfl, rfl⟩
theorem ks_X0_25 : x_KS RX0 25 M_X0_clear 1 := ⟨x_wd 394 (by decide +kernel) (by decide +kernel), x_wd 395 (by decide +kernel) (by decide +kernel), x_wd 45 (by decide +kernel) (by decide +kernel), x_wd 396 (by decide +kernel) (by decide +kernel), ⟨by decide +kernel, by decide +kernel, by decide +kernel⟩⟩
theorem kv_X0_29 : x_KV RX0 29 M_X0_addThrees 3 0 := ⟨x_wd 397 (by decide +kernel) (by decide +kernel), x_wd 399 (by decide +kernel) (by decide +kernel), x_wd 7 (by decide +kernel) (by decide +kernel), x_wd 45 (by decide +kernel) (by decide +kernel), x_wd 400 (by decide +kernel) (by decide +kernel), ⟨by decide +kernel, by decide +kernel, by decide +kernel⟩, _, rfl, rfl⟩
theorem fl_X4_21 : x_F RX4 21 3 0 := ⟨RX4, TX4, 4, rfl, inX4, by decide, Or.inl (x_wd 73 (by decide +kernel) (by decide +kernel))⟩
theorem kv_X0_33 : x_KV RX0 33 M_X4_everyPost 0 3 := ⟨x_wd 668 (by decide +kernel) (by decide +kernel), x_wd 387 (by decide +kernel) (by decide +kernel), x_wd 388 (by decide +kernel) (by decide +kernel), x_wd 44 (by decide +kernel) (by decide +kernel), x_wd 389 (by decide +kernel) (by decide +kernel), ⟨by decide +kernel, by decide +kernel, by decide +kernel⟩, _, rfl, rfl⟩
theorem mw_X0_39 : x_MW RX0 39 Lib.Math.abs.name Lib.Math.abs.code 1 := ⟨x_wd 669 (by decide +kernel) (by decide +kernel), x_wd 670 (by decide +kernel) (by decide +kernel), x_wd 47 (by decide +kernel) (by decide +kernel), x_wd 671 (by decide +kernel) (by decide +kernel)⟩
theorem fl_X5_24 : x_F RX5 24 4 4 := ⟨RX5, TX5, 5, rfl, inX5, by decide, Or.inl (x_wd 139 (by decide +kernel) (by decide +kernel))⟩
theorem fl_X0_11 : x_F RX0 11 0 1 := ⟨RX0, TX0, 4, rfl, inX0, by decide, Or.inl (x_wd 158 (by decide +kernel) (by decide +kernel))⟩
theorem kv_X0_62 : x_KV RX0 62 M_X5_placeOf 2 4 := ⟨x_wd 414 (by decide +kernel) (by decide +kernel), x_wd 127 (by decide +kernel) (by decide +kernel), x_wd 128 (by decide +kernel) (by decide +kernel), x_wd 46 (by decide +kernel) (by decide +kernel), x_wd 129 (by decide +kernel) (by decide +kernel), ⟨by decide +kernel, by decide +kernel, by decide +kernel⟩, _, rfl, rfl⟩
theorem ks_X0_66 : x_KS RX0 66 M_X0_countIndex 3 := ⟨x_wd 415 (by decide +kernel) (by decide +kernel), x_wd 416 (by decide +kernel) (by decide +kernel), x_wd 45 (by decide +kernel) (by decide +kernel), x_wd 417 (by decide +kernel) (by decide +kernel), ⟨by decide +kernel, by decide +kernel, by decide +kernel⟩⟩
theorem kv_X0_58 : x_KV RX0 58 M_X0_addToPost 3 0 := ⟨x_wd 410 (by decide +kernel) (by decide +kernel), x_wd 412 (by decide +kernel) (by decide +kernel), x_wd 8 (by decide +kernel) (by decide +kernel), x_wd 45 (by decide +kernel) (by decide +kernel), x_wd 413 (by decide +kernel) (by decide +kernel), ⟨by decide +kernel, by decide +kernel, by decide +kernel⟩, _, rfl, rfl⟩
theorem kv_X0_76 : x_KV RX0 76 M_X0_alike 2 0 := ⟨x_wd 435 (by decide +kernel) (by decide +kernel), x_wd 437 (by decide +kernel) (by decide +kernel), x_wd 10 (by decide +kernel) (by decide +kernel), x_wd 45 (by decide +kernel) (by decide +kernel), x_wd 438 (by decide +kernel) (by decide +kernel), ⟨by decide +kernel, by decide +kernel, by decide +kernel⟩, _, rfl, rfl⟩
theorem kv_X0_69 : x_KV RX0 69 M_X0_countByPosts 1 0 := ⟨x_wd 430 (by decide +kernel) (by decide +kernel), x_wd 407 (by decide +kernel) (by decide +kernel), x_wd 408 (by decide +kernel) (by decide +kernel), x_wd 45 (by decide +kernel) (by decide +kernel), x_wd 409 (by decide +kernel) (by decide +kernel), ⟨by decide +kernel, by decide +kernel, by decide +kernel⟩, _, rfl, rfl⟩
theorem kv_X0_73 : x_KV RX0 73 M_X0_firstAlike 1 0 := ⟨x_wd 431 (by decide +kernel) (by decide +kernel), x_wd 433 (by decide +kernel) (by decide +kernel), x_wd 9 (by decide +kernel) (by decide +kernel), x_wd 45 (by decide +kernel) (by decide +kernel), x_wd 434 (by decide +kernel) (by decide +kernel), ⟨by decide +kernel, by decide +kernel, by decide +kernel⟩, _, rfl, rfl⟩
theorem fl_X0_15 : x_F RX0 15 0 2 := ⟨RX0, TX0, 4, rfl, inX0, by decide, Or.inl (x_wd 159 (by decide +kernel) (by decide +kernel))⟩
theorem kv_X1_23 : x_KV RX1 23 M_X4_besideBit 2 3 := ⟨x_wd 456 (by decide +kernel) (by decide +kernel), x_wd 457 (by decide +kernel) (by decide +kernel), x_wd 458 (by decide +kernel) (by decide +kernel), x_wd 44 (by decide +kernel) (by decide +kernel), x_wd 459 (by decide +kernel) (by decide +kernel), ⟨by decide +kernel, by decide +kernel, by decide +kernel⟩, _, rfl, rfl⟩
theorem mw_X1_27 : x_MW RX1 27 Lib.Math.max.name Lib.Math.max.code 2 := ⟨x_wd 460 (by decide +kernel) (by decide +kernel), x_wd 461 (by decide +kernel) (by decide +kernel), x_wd 47 (by decide +kernel) (by decide +kernel), x_wd 462 (by decide +kernel) (by decide +kernel)⟩
theorem mw_X1_32 : x_MW RX1 32 Lib.Math.min.name Lib.Math.min.code 2 := ⟨x_wd 463 (by decide +kernel) (by decide +kernel), x_wd 116 (by decide +kernel) (by decide +kernel), x_wd 47 (by decide +kernel) (by decide +kernel), x_wd 117 (by decide +kernel) (by decide +kernel)⟩
theorem ks_X1_35 : x_KS RX1 35 M_X1_kindBy 3 := ⟨x_wd 464 (by decide +kernel) (by decide +kernel), x_wd 465 (by decide +kernel) (by decide +kernel), x_wd 54 (by decide +kernel) (by decide +kernel), x_wd 466 (by decide +kernel) (by decide +kernel), ⟨by decide +kernel, by decide +kernel, by decide +kernel⟩⟩
theorem fl_X1_7 : x_F RX1 7 3 0 := ⟨RX4, TX4, 4, rfl, inX4, by decide, Or.inr ⟨RX10, List.mem_of_getElem? (i := 0) rfl⟩⟩
theorem ks_X1_19 : x_KS RX1 19 M_X1_kindOfFour 5 := ⟨x_wd 453 (by decide +kernel) (by decide +kernel), x_wd 454 (by decide +kernel) (by decide +kernel), x_wd 54 (by decide +kernel) (by decide +kernel), x_wd 455 (by decide +kernel) (by decide +kernel), ⟨by decide +kernel, by decide +kernel, by decide +kernel⟩⟩
theorem ks_X1_13 : x_KS RX1 13 M_X1_withTwo 4 := ⟨x_wd 450 (by decide +kernel) (by decide +kernel), x_wd 451 (by decide +kernel) (by decide +kernel), x_wd 54 (by decide +kernel) (by decide +kernel), x_wd 452 (by decide +kernel) (by decide +kernel), ⟨by decide +kernel, by decide +kernel, by decide +kernel⟩⟩
theorem wo_X2_1 : Cond.methodLink RX2 1 Lib.objectInit ∈ wB ∧ Cond.instanceMethod Lib.objectInit ∈ wB ∧ Cond.code Lib.objectInit ⟨#[0xb1]⟩ 1 none ∈ wB := ⟨x_wd 176 (by decide +kernel) (by decide +kernel), x_wd 65 (by decide +kernel) (by decide +kernel), x_wd 66 (by decide +kernel) (by decide +kernel)⟩
theorem fw_X2_7 : x_FW RX2 7 1 0 (.long) false := ⟨RX2, TX2, 2, tyX2, rfl, inX2, tyX2_ok, nmX2, by decide, by decide +kernel, rfl, fun _ => rfl, Or.inl (x_wd 177 (by decide +kernel) (by decide +kernel))⟩
theorem fw_X2_13 : x_FW RX2 13 1 1 (.long) false := ⟨RX2, TX2, 2, tyX2, rfl, inX2, tyX2_ok, nmX2, by decide, by decide +kernel, rfl, fun _ => rfl, Or.inl (x_wd 179 (by decide +kernel) (by decide +kernel))⟩
theorem ks_X2_16 : x_KS RX2 16 M_X2_commonDivisor 2 := ⟨x_wd 520 (by decide +kernel) (by decide +kernel), x_wd 521 (by decide +kernel) (by decide +kernel), x_wd 48 (by decide +kernel) (by decide +kernel), x_wd 522 (by decide +kernel) (by decide +kernel), ⟨by decide +kernel, by decide +kernel, by decide +kernel⟩⟩
theorem wo_X3_1 : Cond.methodLink RX3 1 Lib.objectInit ∈ wB ∧ Cond.instanceMethod Lib.objectInit ∈ wB ∧ Cond.code Lib.objectInit ⟨#[0xb1]⟩ 1 none ∈ wB := ⟨x_wd 191 (by decide +kernel) (by decide +kernel), x_wd 65 (by decide +kernel) (by decide +kernel), x_wd 66 (by decide +kernel) (by decide +kernel)⟩
theorem fw_X3_7 : x_FW RX3 7 2 0 (.int) false := ⟨RX3, TX3, 1, tyX3, rfl, inX3, tyX3_ok, nmX3, by decide, by decide +kernel, rfl, fun _ => rfl, Or.inl (x_wd 192 (by decide +kernel) (by decide +kernel))⟩
theorem fl_X3_7 : x_F RX3 7 2 0 := ⟨RX3, TX3, 1, rfl, inX3, by decide, Or.inl (x_wd 192 (by decide +kernel) (by decide +kernel))⟩
theorem wc_X3_13 : Cond.constant RX3 13 (1103515245 : Int32) ∈ wB := x_wd 497 (by decide +kernel) (by decide +kernel)
theorem wc_J6_265 : Cond.constant RJ6 265 (1431655765 : Int32) ∈ wB := x_wd 337 (by decide +kernel) (by decide +kernel)
theorem wc_J6_266 : Cond.constant RJ6 266 (858993459 : Int32) ∈ wB := x_wd 338 (by decide +kernel) (by decide +kernel)
theorem wc_J6_267 : Cond.constant RJ6 267 (252645135 : Int32) ∈ wB := x_wd 339 (by decide +kernel) (by decide +kernel)
theorem ks_X4_53 : x_KS RX4 53 M_J6_bitCount_0f7a4 1 := ⟨x_wd 334 (by decide +kernel) (by decide +kernel), x_wd 335 (by decide +kernel) (by decide +kernel), x_wd 53 (by decide +kernel) (by decide +kernel), x_wd 336 (by decide +kernel) (by decide +kernel), ⟨by decide +kernel, by decide +kernel, by decide +kernel⟩⟩
theorem ks_X4_61 : x_KS RX4 61 M_X4_setBit 2 := ⟨x_wd 344 (by decide +kernel) (by decide +kernel), x_wd 345 (by decide +kernel) (by decide +kernel), x_wd 44 (by decide +kernel) (by decide +kernel), x_wd 346 (by decide +kernel) (by decide +kernel), ⟨by decide +kernel, by decide +kernel, by decide +kernel⟩⟩
theorem ks_X4_39 : x_KS RX4 39 M_X4_spot 2 := ⟨x_wd 300 (by decide +kernel) (by decide +kernel), x_wd 301 (by decide +kernel) (by decide +kernel), x_wd 44 (by decide +kernel) (by decide +kernel), x_wd 302 (by decide +kernel) (by decide +kernel), ⟨by decide +kernel, by decide +kernel, by decide +kernel⟩⟩
theorem fl_X4_15 : x_F RX4 15 3 2 := ⟨RX4, TX4, 4, rfl, inX4, by decide, Or.inl (x_wd 83 (by decide +kernel) (by decide +kernel))⟩
theorem kv_X4_35 : x_KV RX4 35 M_X4_has 2 3 := ⟨x_wd 321 (by decide +kernel) (by decide +kernel), x_wd 285 (by decide +kernel) (by decide +kernel), x_wd 286 (by decide +kernel) (by decide +kernel), x_wd 44 (by decide +kernel) (by decide +kernel), x_wd 287 (by decide +kernel) (by decide +kernel), ⟨by decide +kernel, by decide +kernel, by decide +kernel⟩, _, rfl, rfl⟩
theorem fl_X4_18 : x_F RX4 18 3 3 := ⟨RX4, TX4, 4, rfl, inX4, by decide, Or.inl (x_wd 84 (by decide +kernel) (by decide +kernel))⟩
theorem kv_X4_42 : x_KV RX4 42 M_X4_drop 2 3 := ⟨x_wd 296 (by decide +kernel) (by decide +kernel), x_wd 297 (by decide +kernel) (by decide +kernel), x_wd 298 (by decide +kernel) (by decide +kernel), x_wd 44 (by decide +kernel) (by decide +kernel), x_wd 299 (by decide +kernel) (by decide +kernel), ⟨by decide +kernel, by decide +kernel, by decide +kernel⟩, _, rfl, rfl⟩
theorem ks_X4_64 : x_KS RX4 64 M_X4_fromOf 1 := ⟨x_wd 479 (by decide +kernel) (by decide +kernel), x_wd 348 (by decide +kernel) (by decide +kernel), x_wd 44 (by decide +kernel) (by decide +kernel), x_wd 349 (by decide +kernel) (by decide +kernel), ⟨by decide +kernel, by decide +kernel, by decide +kernel⟩⟩
theorem ks_X4_67 : x_KS RX4 67 M_X4_toOf 1 := ⟨x_wd 480 (by decide +kernel) (by decide +kernel), x_wd 351 (by decide +kernel) (by decide +kernel), x_wd 44 (by decide +kernel) (by decide +kernel), x_wd 352 (by decide +kernel) (by decide +kernel), ⟨by decide +kernel, by decide +kernel, by decide +kernel⟩⟩
theorem kv_X4_50 : x_KV RX4 50 M_X4_kindOf 2 3 := ⟨x_wd 481 (by decide +kernel) (by decide +kernel), x_wd 314 (by decide +kernel) (by decide +kernel), x_wd 315 (by decide +kernel) (by decide +kernel), x_wd 44 (by decide +kernel) (by decide +kernel), x_wd 316 (by decide +kernel) (by decide +kernel), ⟨by decide +kernel, by decide +kernel, by decide +kernel⟩, _, rfl, rfl⟩
theorem kv_X4_70 : x_KV RX4 70 M_X4_timeOf 2 3 := ⟨x_wd 482 (by decide +kernel) (by decide +kernel), x_wd 318 (by decide +kernel) (by decide +kernel), x_wd 319 (by decide +kernel) (by decide +kernel), x_wd 44 (by decide +kernel) (by decide +kernel), x_wd 320 (by decide +kernel) (by decide +kernel), ⟨by decide +kernel, by decide +kernel, by decide +kernel⟩, _, rfl, rfl⟩
theorem kv_X4_73 : x_KV RX4 73 M_X4_put 4 3 := ⟨x_wd 483 (by decide +kernel) (by decide +kernel), x_wd 293 (by decide +kernel) (by decide +kernel), x_wd 294 (by decide +kernel) (by decide +kernel), x_wd 44 (by decide +kernel) (by decide +kernel), x_wd 295 (by decide +kernel) (by decide +kernel), ⟨by decide +kernel, by decide +kernel, by decide +kernel⟩, _, rfl, rfl⟩
theorem kv_X3_14 : x_KV RX3 14 M_X4_linkCount 0 3 := ⟨x_wd 492 (by decide +kernel) (by decide +kernel), x_wd 331 (by decide +kernel) (by decide +kernel), x_wd 332 (by decide +kernel) (by decide +kernel), x_wd 44 (by decide +kernel) (by decide +kernel), x_wd 333 (by decide +kernel) (by decide +kernel), ⟨by decide +kernel, by decide +kernel, by decide +kernel⟩, _, rfl, rfl⟩
theorem kv_X3_20 : x_KV RX3 20 M_X3_drawBelow 1 2 := ⟨x_wd 493 (by decide +kernel) (by decide +kernel), x_wd 495 (by decide +kernel) (by decide +kernel), x_wd 11 (by decide +kernel) (by decide +kernel), x_wd 49 (by decide +kernel) (by decide +kernel), x_wd 496 (by decide +kernel) (by decide +kernel), ⟨by decide +kernel, by decide +kernel, by decide +kernel⟩, _, rfl, rfl⟩
theorem kv_X3_24 : x_KV RX3 24 M_X4_spotOf 1 3 := ⟨x_wd 498 (by decide +kernel) (by decide +kernel), x_wd 341 (by decide +kernel) (by decide +kernel), x_wd 342 (by decide +kernel) (by decide +kernel), x_wd 44 (by decide +kernel) (by decide +kernel), x_wd 343 (by decide +kernel) (by decide +kernel), ⟨by decide +kernel, by decide +kernel, by decide +kernel⟩, _, rfl, rfl⟩
theorem kv_X3_27 : x_KV RX3 27 M_X4_exchange 2 3 := ⟨x_wd 499 (by decide +kernel) (by decide +kernel), x_wd 476 (by decide +kernel) (by decide +kernel), x_wd 477 (by decide +kernel) (by decide +kernel), x_wd 44 (by decide +kernel) (by decide +kernel), x_wd 478 (by decide +kernel) (by decide +kernel), ⟨by decide +kernel, by decide +kernel, by decide +kernel⟩, _, rfl, rfl⟩
theorem wo_X4_3 : Cond.methodLink RX4 3 Lib.objectInit ∈ wB ∧ Cond.instanceMethod Lib.objectInit ∈ wB ∧ Cond.code Lib.objectInit ⟨#[0xb1]⟩ 1 none ∈ wB := ⟨x_wd 72 (by decide +kernel) (by decide +kernel), x_wd 65 (by decide +kernel) (by decide +kernel), x_wd 66 (by decide +kernel) (by decide +kernel)⟩
theorem fw_X4_9 : x_FW RX4 9 3 1 (.array .int) true := ⟨RX4, TX4, 4, tyX4, rfl, inX4, tyX4_ok, nmX4, by decide, by decide +kernel, rfl, fun _ => rfl, Or.inl (x_wd 81 (by decide +kernel) (by decide +kernel))⟩
theorem fw_X4_15 : x_FW RX4 15 3 2 (.array .int) true := ⟨RX4, TX4, 4, tyX4, rfl, inX4, tyX4_ok, nmX4, by decide, by decide +kernel, rfl, fun _ => rfl, Or.inl (x_wd 83 (by decide +kernel) (by decide +kernel))⟩
theorem fw_X4_18 : x_FW RX4 18 3 3 (.array .int) true := ⟨RX4, TX4, 4, tyX4, rfl, inX4, tyX4_ok, nmX4, by decide, by decide +kernel, rfl, fun _ => rfl, Or.inl (x_wd 84 (by decide +kernel) (by decide +kernel))⟩
theorem fw_X4_21 : x_FW RX4 21 3 0 (.int) false := ⟨RX4, TX4, 4, tyX4, rfl, inX4, tyX4_ok, nmX4, by decide, by decide +kernel, rfl, fun _ => rfl, Or.inl (x_wd 73 (by decide +kernel) (by decide +kernel))⟩
theorem wy_X4_25 : Cond.methodLink RX4 25 arraycopyName ∈ wB ∧ Cond.native arraycopyName ∈ wB ∧ Cond.static arraycopyName ∈ wB ∧ Cond.initialized "java/lang/System" ∈ wB := ⟨x_wd 649 (by decide +kernel) (by decide +kernel), x_wd 651 (by decide +kernel) (by decide +kernel), x_wd 650 (by decide +kernel) (by decide +kernel), x_wd 58 (by decide +kernel) (by decide +kernel)⟩
theorem kv_X4_46 : x_KV RX4 46 M_X4_into 1 3 := ⟨x_wd 591 (by decide +kernel) (by decide +kernel), x_wd 592 (by decide +kernel) (by decide +kernel), x_wd 593 (by decide +kernel) (by decide +kernel), x_wd 44 (by decide +kernel) (by decide +kernel), x_wd 594 (by decide +kernel) (by decide +kernel), ⟨by decide +kernel, by decide +kernel, by decide +kernel⟩, _, rfl, rfl⟩
theorem kv_X4_58 : x_KV RX4 58 M_X4_besideBit 2 3 := ⟨x_wd 684 (by decide +kernel) (by decide +kernel), x_wd 457 (by decide +kernel) (by decide +kernel), x_wd 458 (by decide +kernel) (by decide +kernel), x_wd 44 (by decide +kernel) (by decide +kernel), x_wd 459 (by decide +kernel) (by decide +kernel), ⟨by decide +kernel, by decide +kernel, by decide +kernel⟩, _, rfl, rfl⟩
theorem ws_X5_43 : Cond.fieldLink RX5 43 "NetShapes$ShapeTable" "ORDERS" "[I" ∈ wB := x_wd 107 (by decide +kernel) (by decide +kernel)
theorem ks_X5_58 : x_KS RX5 58 M_X5_codeBit 2 := ⟨x_wd 112 (by decide +kernel) (by decide +kernel), x_wd 113 (by decide +kernel) (by decide +kernel), x_wd 46 (by decide +kernel) (by decide +kernel), x_wd 114 (by decide +kernel) (by decide +kernel), ⟨by decide +kernel, by decide +kernel, by decide +kernel⟩⟩
theorem ks_X5_46 : x_KS RX5 46 M_X5_reordered 2 := ⟨x_wd 109 (by decide +kernel) (by decide +kernel), x_wd 110 (by decide +kernel) (by decide +kernel), x_wd 46 (by decide +kernel) (by decide +kernel), x_wd 111 (by decide +kernel) (by decide +kernel), ⟨by decide +kernel, by decide +kernel, by decide +kernel⟩⟩
theorem mw_X5_50 : x_MW RX5 50 Lib.Math.min.name Lib.Math.min.code 2 := ⟨x_wd 115 (by decide +kernel) (by decide +kernel), x_wd 116 (by decide +kernel) (by decide +kernel), x_wd 47 (by decide +kernel) (by decide +kernel), x_wd 117 (by decide +kernel) (by decide +kernel)⟩
theorem kv_X5_55 : x_KV RX5 55 M_X5_placeOf 2 4 := ⟨x_wd 126 (by decide +kernel) (by decide +kernel), x_wd 127 (by decide +kernel) (by decide +kernel), x_wd 128 (by decide +kernel) (by decide +kernel), x_wd 46 (by decide +kernel) (by decide +kernel), x_wd 129 (by decide +kernel) (by decide +kernel), ⟨by decide +kernel, by decide +kernel, by decide +kernel⟩, _, rfl, rfl⟩
theorem wo_X5_3 : Cond.methodLink RX5 3 Lib.objectInit ∈ wB ∧ Cond.instanceMethod Lib.objectInit ∈ wB ∧ Cond.code Lib.objectInit ⟨#[0xb1]⟩ 1 none ∈ wB := ⟨x_wd 103 (by decide +kernel) (by decide +kernel), x_wd 65 (by decide +kernel) (by decide +kernel), x_wd 66 (by decide +kernel) (by decide +kernel)⟩
theorem fw_X5_11 : x_FW RX5 11 4 0 (.array .int) true := ⟨RX5, TX5, 5, tyX5, rfl, inX5, tyX5_ok, nmX5, by decide, by decide +kernel, rfl, fun _ => rfl, Or.inl (x_wd 130 (by decide +kernel) (by decide +kernel))⟩
theorem fw_X5_15 : x_FW RX5 15 4 1 (.array .int) true := ⟨RX5, TX5, 5, tyX5, rfl, inX5, tyX5_ok, nmX5, by decide, by decide +kernel, rfl, fun _ => rfl, Or.inl (x_wd 133 (by decide +kernel) (by decide +kernel))⟩
theorem fw_X5_18 : x_FW RX5 18 4 2 (.array .int) true := ⟨RX5, TX5, 5, tyX5, rfl, inX5, tyX5_ok, nmX5, by decide, by decide +kernel, rfl, fun _ => rfl, Or.inl (x_wd 135 (by decide +kernel) (by decide +kernel))⟩
theorem fw_X5_21 : x_FW RX5 21 4 3 (.array .int) true := ⟨RX5, TX5, 5, tyX5, rfl, inX5, tyX5_ok, nmX5, by decide, by decide +kernel, rfl, fun _ => rfl, Or.inl (x_wd 137 (by decide +kernel) (by decide +kernel))⟩
theorem fw_X5_24 : x_FW RX5 24 4 4 (.array .int) true := ⟨RX5, TX5, 5, tyX5, rfl, inX5, tyX5_ok, nmX5, by decide, by decide +kernel, rfl, fun _ => rfl, Or.inl (x_wd 139 (by decide +kernel) (by decide +kernel))⟩
theorem ks_X5_27 : x_KS RX5 27 M_X5_leastOf 1 := ⟨x_wd 104 (by decide +kernel) (by decide +kernel), x_wd 105 (by decide +kernel) (by decide +kernel), x_wd 46 (by decide +kernel) (by decide +kernel), x_wd 106 (by decide +kernel) (by decide +kernel), ⟨by decide +kernel, by decide +kernel, by decide +kernel⟩⟩
theorem fl_X5_15 : x_F RX5 15 4 1 := ⟨RX5, TX5, 5, rfl, inX5, by decide, Or.inl (x_wd 133 (by decide +kernel) (by decide +kernel))⟩
theorem fl_X5_11 : x_F RX5 11 4 0 := ⟨RX5, TX5, 5, rfl, inX5, by decide, Or.inl (x_wd 130 (by decide +kernel) (by decide +kernel))⟩
theorem fl_X5_21 : x_F RX5 21 4 3 := ⟨RX5, TX5, 5, rfl, inX5, by decide, Or.inl (x_wd 137 (by decide +kernel) (by decide +kernel))⟩
theorem kv_X5_35 : x_KV RX5 35 M_X5_placesIn 1 4 := ⟨x_wd 122 (by decide +kernel) (by decide +kernel), x_wd 124 (by decide +kernel) (by decide +kernel), x_wd 1 (by decide +kernel) (by decide +kernel), x_wd 46 (by decide +kernel) (by decide +kernel), x_wd 125 (by decide +kernel) (by decide +kernel), ⟨by decide +kernel, by decide +kernel, by decide +kernel⟩, _, rfl, rfl⟩
theorem fl_X5_18 : x_F RX5 18 4 2 := ⟨RX5, TX5, 5, rfl, inX5, by decide, Or.inl (x_wd 135 (by decide +kernel) (by decide +kernel))⟩
theorem kv_X5_31 : x_KV RX5 31 M_X5_setPlaces 2 4 := ⟨x_wd 118 (by decide +kernel) (by decide +kernel), x_wd 120 (by decide +kernel) (by decide +kernel), x_wd 0 (by decide +kernel) (by decide +kernel), x_wd 46 (by decide +kernel) (by decide +kernel), x_wd 121 (by decide +kernel) (by decide +kernel), ⟨by decide +kernel, by decide +kernel, by decide +kernel⟩, _, rfl, rfl⟩
theorem ks_X5_38 : x_KS RX5 38 M_J6_bitCount_0f7a4 1 := ⟨x_wd 376 (by decide +kernel) (by decide +kernel), x_wd 335 (by decide +kernel) (by decide +kernel), x_wd 53 (by decide +kernel) (by decide +kernel), x_wd 336 (by decide +kernel) (by decide +kernel), ⟨by decide +kernel, by decide +kernel, by decide +kernel⟩⟩
theorem wo_X6_3 : Cond.methodLink RX6 3 Lib.objectInit ∈ wB ∧ Cond.instanceMethod Lib.objectInit ∈ wB ∧ Cond.code Lib.objectInit ⟨#[0xb1]⟩ 1 none ∈ wB := ⟨x_wd 202 (by decide +kernel) (by decide +kernel), x_wd 65 (by decide +kernel) (by decide +kernel), x_wd 66 (by decide +kernel) (by decide +kernel)⟩
theorem fw_X6_9 : x_FW RX6 9 5 0 (.array .int) true := ⟨RX6, TX6, 4, tyX6, rfl, inX6, tyX6_ok, nmX6, by decide, by decide +kernel, rfl, fun _ => rfl, Or.inl (x_wd 203 (by decide +kernel) (by decide +kernel))⟩
theorem fw_X6_15 : x_FW RX6 15 5 1 (.array .int) true := ⟨RX6, TX6, 4, tyX6, rfl, inX6, tyX6_ok, nmX6, by decide, by decide +kernel, rfl, fun _ => rfl, Or.inl (x_wd 204 (by decide +kernel) (by decide +kernel))⟩
theorem fw_X6_18 : x_FW RX6 18 5 2 (.int) false := ⟨RX6, TX6, 4, tyX6, rfl, inX6, tyX6_ok, nmX6, by decide, by decide +kernel, rfl, fun _ => rfl, Or.inl (x_wd 205 (by decide +kernel) (by decide +kernel))⟩
theorem fw_X6_22 : x_FW RX6 22 5 3 (.int) false := ⟨RX6, TX6, 4, tyX6, rfl, inX6, tyX6_ok, nmX6, by decide, by decide +kernel, rfl, fun _ => rfl, Or.inl (x_wd 207 (by decide +kernel) (by decide +kernel))⟩
theorem fl_X6_29 : x_F RX6 29 3 0 := ⟨RX4, TX4, 4, rfl, inX4, by decide, Or.inr ⟨RX10, List.mem_of_getElem? (i := 3) rfl⟩⟩
theorem fl_X6_9 : x_F RX6 9 5 0 := ⟨RX6, TX6, 4, rfl, inX6, by decide, Or.inl (x_wd 203 (by decide +kernel) (by decide +kernel))⟩
theorem kv_X6_42 : x_KV RX6 42 M_X4_beside 1 3 := ⟨x_wd 587 (by decide +kernel) (by decide +kernel), x_wd 588 (by decide +kernel) (by decide +kernel), x_wd 589 (by decide +kernel) (by decide +kernel), x_wd 44 (by decide +kernel) (by decide +kernel), x_wd 590 (by decide +kernel) (by decide +kernel), ⟨by decide +kernel, by decide +kernel, by decide +kernel⟩, _, rfl, rfl⟩
theorem fl_X6_15 : x_F RX6 15 5 1 := ⟨RX6, TX6, 4, rfl, inX6, by decide, Or.inl (x_wd 204 (by decide +kernel) (by decide +kernel))⟩
theorem kv_X6_44 : x_KV RX6 44 M_X4_opposed 1 3 := ⟨x_wd 595 (by decide +kernel) (by decide +kernel), x_wd 596 (by decide +kernel) (by decide +kernel), x_wd 597 (by decide +kernel) (by decide +kernel), x_wd 44 (by decide +kernel) (by decide +kernel), x_wd 598 (by decide +kernel) (by decide +kernel), ⟨by decide +kernel, by decide +kernel, by decide +kernel⟩, _, rfl, rfl⟩
theorem ks_X6_46 : x_KS RX6 46 M_J6_bitCount_0f7a4 1 := ⟨x_wd 599 (by decide +kernel) (by decide +kernel), x_wd 335 (by decide +kernel) (by decide +kernel), x_wd 53 (by decide +kernel) (by decide +kernel), x_wd 336 (by decide +kernel) (by decide +kernel), ⟨by decide +kernel, by decide +kernel, by decide +kernel⟩⟩
theorem kv_X6_25 : x_KV RX6 25 M_X6_readTwos 1 5 := ⟨x_wd 583 (by decide +kernel) (by decide +kernel), x_wd 585 (by decide +kernel) (by decide +kernel), x_wd 13 (by decide +kernel) (by decide +kernel), x_wd 50 (by decide +kernel) (by decide +kernel), x_wd 586 (by decide +kernel) (by decide +kernel), ⟨by decide +kernel, by decide +kernel, by decide +kernel⟩, _, rfl, rfl⟩
theorem ks_X6_34 : x_KS RX6 34 M_X6_lowestBit 1 := ⟨x_wd 600 (by decide +kernel) (by decide +kernel), x_wd 601 (by decide +kernel) (by decide +kernel), x_wd 50 (by decide +kernel) (by decide +kernel), x_wd 602 (by decide +kernel) (by decide +kernel), ⟨by decide +kernel, by decide +kernel, by decide +kernel⟩⟩
theorem kv_X6_38 : x_KV RX6 38 M_X6_changeIfMoved 2 5 := ⟨x_wd 603 (by decide +kernel) (by decide +kernel), x_wd 605 (by decide +kernel) (by decide +kernel), x_wd 14 (by decide +kernel) (by decide +kernel), x_wd 50 (by decide +kernel) (by decide +kernel), x_wd 606 (by decide +kernel) (by decide +kernel), ⟨by decide +kernel, by decide +kernel, by decide +kernel⟩, _, rfl, rfl⟩
theorem fl_X6_18 : x_F RX6 18 5 2 := ⟨RX6, TX6, 4, rfl, inX6, by decide, Or.inl (x_wd 205 (by decide +kernel) (by decide +kernel))⟩
theorem fl_X6_22 : x_F RX6 22 5 3 := ⟨RX6, TX6, 4, rfl, inX6, by decide, Or.inl (x_wd 207 (by decide +kernel) (by decide +kernel))⟩
theorem kv_X7_22 : x_KV RX7 22 M_X4_besideBit 2 3 := ⟨x_wd 567 (by decide +kernel) (by decide +kernel), x_wd 457 (by decide +kernel) (by decide +kernel), x_wd 458 (by decide +kernel) (by decide +kernel), x_wd 44 (by decide +kernel) (by decide +kernel), x_wd 459 (by decide +kernel) (by decide +kernel), ⟨by decide +kernel, by decide +kernel, by decide +kernel⟩, _, rfl, rfl⟩
theorem kv_X7_26 : x_KV RX7 26 M_X4_opposedBit 2 3 := ⟨x_wd 571 (by decide +kernel) (by decide +kernel), x_wd 572 (by decide +kernel) (by decide +kernel), x_wd 573 (by decide +kernel) (by decide +kernel), x_wd 44 (by decide +kernel) (by decide +kernel), x_wd 574 (by decide +kernel) (by decide +kernel), ⟨by decide +kernel, by decide +kernel, by decide +kernel⟩, _, rfl, rfl⟩
theorem fl_X7_7 : x_F RX7 7 3 0 := ⟨RX4, TX4, 4, rfl, inX4, by decide, Or.inr ⟨RX10, List.mem_of_getElem? (i := 2) rfl⟩⟩
theorem ks_X7_13 : x_KS RX7 13 M_X7_isClosed 4 := ⟨x_wd 564 (by decide +kernel) (by decide +kernel), x_wd 565 (by decide +kernel) (by decide +kernel), x_wd 57 (by decide +kernel) (by decide +kernel), x_wd 566 (by decide +kernel) (by decide +kernel), ⟨by decide +kernel, by decide +kernel, by decide +kernel⟩⟩
theorem ks_X7_19 : x_KS RX7 19 M_X7_quarrels 4 := ⟨x_wd 568 (by decide +kernel) (by decide +kernel), x_wd 569 (by decide +kernel) (by decide +kernel), x_wd 57 (by decide +kernel) (by decide +kernel), x_wd 570 (by decide +kernel) (by decide +kernel), ⟨by decide +kernel, by decide +kernel, by decide +kernel⟩⟩
theorem kv_X8_19 : x_KV RX8 19 M_X4_has 2 3 := ⟨x_wd 541 (by decide +kernel) (by decide +kernel), x_wd 285 (by decide +kernel) (by decide +kernel), x_wd 286 (by decide +kernel) (by decide +kernel), x_wd 44 (by decide +kernel) (by decide +kernel), x_wd 287 (by decide +kernel) (by decide +kernel), ⟨by decide +kernel, by decide +kernel, by decide +kernel⟩, _, rfl, rfl⟩
theorem kv_X8_23 : x_KV RX8 23 M_X4_timeOf 2 3 := ⟨x_wd 542 (by decide +kernel) (by decide +kernel), x_wd 318 (by decide +kernel) (by decide +kernel), x_wd 319 (by decide +kernel) (by decide +kernel), x_wd 44 (by decide +kernel) (by decide +kernel), x_wd 320 (by decide +kernel) (by decide +kernel), ⟨by decide +kernel, by decide +kernel, by decide +kernel⟩, _, rfl, rfl⟩
theorem fl_X8_7 : x_F RX8 7 3 0 := ⟨RX4, TX4, 4, rfl, inX4, by decide, Or.inr ⟨RX10, List.mem_of_getElem? (i := 1) rfl⟩⟩
theorem ks_X8_13 : x_KS RX8 13 M_X8_isChain 5 := ⟨x_wd 538 (by decide +kernel) (by decide +kernel), x_wd 539 (by decide +kernel) (by decide +kernel), x_wd 56 (by decide +kernel) (by decide +kernel), x_wd 540 (by decide +kernel) (by decide +kernel), ⟨by decide +kernel, by decide +kernel, by decide +kernel⟩⟩
theorem ks_X8_27 : x_KS RX8 27 M_X8_linksFrom 4 := ⟨x_wd 553 (by decide +kernel) (by decide +kernel), x_wd 554 (by decide +kernel) (by decide +kernel), x_wd 56 (by decide +kernel) (by decide +kernel), x_wd 555 (by decide +kernel) (by decide +kernel), ⟨by decide +kernel, by decide +kernel, by decide +kernel⟩⟩
theorem mw_X8_31 : x_MW RX8 31 Lib.Math.max.name Lib.Math.max.code 2 := ⟨x_wd 556 (by decide +kernel) (by decide +kernel), x_wd 461 (by decide +kernel) (by decide +kernel), x_wd 47 (by decide +kernel) (by decide +kernel), x_wd 462 (by decide +kernel) (by decide +kernel)⟩
theorem wo_X9_3 : Cond.methodLink RX9 3 Lib.objectInit ∈ wB ∧ Cond.instanceMethod Lib.objectInit ∈ wB ∧ Cond.code Lib.objectInit ⟨#[0xb1]⟩ 1 none ∈ wB := ⟨x_wd 223 (by decide +kernel) (by decide +kernel), x_wd 65 (by decide +kernel) (by decide +kernel), x_wd 66 (by decide +kernel) (by decide +kernel)⟩
theorem wa_long : Cond.arrayClass .long ∈ wB := x_wd 231 (by decide +kernel) (by decide +kernel)
theorem fw_X9_11 : x_FW RX9 11 6 0 (.array .long) false := ⟨RX9, TX9, 2, tyX9, rfl, inX9, tyX9_ok, nmX9, by decide, by decide +kernel, rfl, fun _ => rfl, Or.inl (x_wd 224 (by decide +kernel) (by decide +kernel))⟩
theorem fw_X9_15 : x_FW RX9 15 6 1 (.array .long) false := ⟨RX9, TX9, 2, tyX9, rfl, inX9, tyX9_ok, nmX9, by decide, by decide +kernel, rfl, fun _ => rfl, Or.inl (x_wd 225 (by decide +kernel) (by decide +kernel))⟩
theorem fl_X9_15 : x_F RX9 15 6 1 := ⟨RX9, TX9, 2, rfl, inX9, by decide, Or.inl (x_wd 225 (by decide +kernel) (by decide +kernel))⟩
theorem fl_X9_22 : x_F RX9 22 3 0 := ⟨RX4, TX4, 4, rfl, inX4, by decide, Or.inr ⟨RX10, List.mem_of_getElem? (i := 5) rfl⟩⟩
theorem kv_X9_28 : x_KV RX9 28 M_X4_into 1 3 := ⟨x_wd 619 (by decide +kernel) (by decide +kernel), x_wd 592 (by decide +kernel) (by decide +kernel), x_wd 593 (by decide +kernel) (by decide +kernel), x_wd 44 (by decide +kernel) (by decide +kernel), x_wd 594 (by decide +kernel) (by decide +kernel), ⟨by decide +kernel, by decide +kernel, by decide +kernel⟩, _, rfl, rfl⟩
theorem kv_X9_32 : x_KV RX9 32 M_X9_sumOf 3 6 := ⟨x_wd 620 (by decide +kernel) (by decide +kernel), x_wd 622 (by decide +kernel) (by decide +kernel), x_wd 16 (by decide +kernel) (by decide +kernel), x_wd 51 (by decide +kernel) (by decide +kernel), x_wd 623 (by decide +kernel) (by decide +kernel), ⟨by decide +kernel, by decide +kernel, by decide +kernel⟩, _, rfl, rfl⟩
theorem fl_X9_11 : x_F RX9 11 6 0 := ⟨RX9, TX9, 2, rfl, inX9, by decide, Or.inl (x_wd 224 (by decide +kernel) (by decide +kernel))⟩
theorem wc_X9_36 : Cond.constantLong RX9 36 (1000000000 : Int64) ∈ wB := x_wd 624 (by decide +kernel) (by decide +kernel)
theorem kv_X9_18 : x_KV RX9 18 M_X9_goOn 1 6 := ⟨x_wd 615 (by decide +kernel) (by decide +kernel), x_wd 617 (by decide +kernel) (by decide +kernel), x_wd 15 (by decide +kernel) (by decide +kernel), x_wd 51 (by decide +kernel) (by decide +kernel), x_wd 618 (by decide +kernel) (by decide +kernel), ⟨by decide +kernel, by decide +kernel, by decide +kernel⟩, _, rfl, rfl⟩
theorem wo_X10_1 : Cond.methodLink RX10 1 Lib.objectInit ∈ wB ∧ Cond.instanceMethod Lib.objectInit ∈ wB ∧ Cond.code Lib.objectInit ⟨#[0xb1]⟩ 1 none ∈ wB := ⟨x_wd 64 (by decide +kernel) (by decide +kernel), x_wd 65 (by decide +kernel) (by decide +kernel), x_wd 66 (by decide +kernel) (by decide +kernel)⟩
theorem nw_X10_7 : x_NW RX10 7 3 4 tyX4 := ⟨RX4, TX4, rfl, inX4, tyX4_ok, x_wd 67 (by decide +kernel) (by decide +kernel), x_wd 68 (by decide +kernel) (by decide +kernel), x_wd 44 (by decide +kernel) (by decide +kernel)⟩
theorem ki_X10_11 : x_KI RX10 11 M_X4_init 1 := ⟨Or.inl (x_wd 69 (by decide +kernel) (by decide +kernel)), x_wd 70 (by decide +kernel) (by decide +kernel), x_wd 44 (by decide +kernel) (by decide +kernel), x_wd 71 (by decide +kernel) (by decide +kernel), ⟨by decide +kernel, by decide +kernel, by decide +kernel⟩, rfl, rfl⟩
theorem fw_X10_14 : x_FW RX10 14 7 0 ((.object "NetShapes$Net")) true := ⟨RX10, TX10, 9, tyX10, rfl, inX10, tyX10_ok, nmX10, by decide, by decide +kernel, rfl, fun _ => rfl, Or.inl (x_wd 232 (by decide +kernel) (by decide +kernel))⟩
theorem wq_X10_7 : Cond.classLink RX10 7 RX4 ∈ wB := x_wd 67 (by decide +kernel) (by decide +kernel)
theorem fw_X10_18 : x_FW RX10 18 7 1 ((.array (.object "NetShapes$Net"))) true := ⟨RX10, TX10, 9, tyX10, rfl, inX10, tyX10_ok, nmX10, by decide, by decide +kernel, rfl, fun _ => rfl, Or.inl (x_wd 233 (by decide +kernel) (by decide +kernel))⟩
theorem wa_boolean : Cond.arrayClass .boolean ∈ wB := x_wd 151 (by decide +kernel) (by decide +kernel)
theorem fw_X10_22 : x_FW RX10 22 7 2 (.array .boolean) true := ⟨RX10, TX10, 9, tyX10, rfl, inX10, tyX10_ok, nmX10, by decide, by decide +kernel, rfl, fun _ => rfl, Or.inl (x_wd 234 (by decide +kernel) (by decide +kernel))⟩
theorem fw_X10_26 : x_FW RX10 26 7 3 (.array .int) true := ⟨RX10, TX10, 9, tyX10, rfl, inX10, tyX10_ok, nmX10, by decide, by decide +kernel, rfl, fun _ => rfl, Or.inl (x_wd 235 (by decide +kernel) (by decide +kernel))⟩
theorem nw_X10_30 : x_NW RX10 30 0 4 tyX0 := ⟨RX0, TX0, rfl, inX0, tyX0_ok, x_wd 96 (by decide +kernel) (by decide +kernel), x_wd 97 (by decide +kernel) (by decide +kernel), x_wd 45 (by decide +kernel) (by decide +kernel)⟩
theorem nw_X10_32 : x_NW RX10 32 4 5 tyX5 := ⟨RX5, TX5, rfl, inX5, tyX5_ok, x_wd 98 (by decide +kernel) (by decide +kernel), x_wd 99 (by decide +kernel) (by decide +kernel), x_wd 46 (by decide +kernel) (by decide +kernel)⟩
theorem ki_X10_34 : x_KI RX10 34 M_X5_init 0 := ⟨Or.inl (x_wd 100 (by decide +kernel) (by decide +kernel)), x_wd 101 (by decide +kernel) (by decide +kernel), x_wd 46 (by decide +kernel) (by decide +kernel), x_wd 102 (by decide +kernel) (by decide +kernel), ⟨by decide +kernel, by decide +kernel, by decide +kernel⟩, rfl, rfl⟩
theorem ki_X10_35 : x_KI RX10 35 M_X0_init 1 := ⟨Or.inl (x_wd 152 (by decide +kernel) (by decide +kernel)), x_wd 153 (by decide +kernel) (by decide +kernel), x_wd 45 (by decide +kernel) (by decide +kernel), x_wd 154 (by decide +kernel) (by decide +kernel), ⟨by decide +kernel, by decide +kernel, by decide +kernel⟩, rfl, rfl⟩
theorem fw_X10_38 : x_FW RX10 38 7 4 ((.object "NetShapes$Census")) true := ⟨RX10, TX10, 9, tyX10, rfl, inX10, tyX10_ok, nmX10, by decide, by decide +kernel, rfl, fun _ => rfl, Or.inl (x_wd 236 (by decide +kernel) (by decide +kernel))⟩
theorem nw_X10_42 : x_NW RX10 42 1 2 tyX2 := ⟨RX2, TX2, rfl, inX2, tyX2_ok, x_wd 171 (by decide +kernel) (by decide +kernel), x_wd 172 (by decide +kernel) (by decide +kernel), x_wd 48 (by decide +kernel) (by decide +kernel)⟩
theorem ki_X10_44 : x_KI RX10 44 M_X2_init 0 := ⟨Or.inr ⟨RX10, List.mem_of_getElem? (i := 0) rfl⟩, x_wd 174 (by decide +kernel) (by decide +kernel), x_wd 48 (by decide +kernel) (by decide +kernel), x_wd 175 (by decide +kernel) (by decide +kernel), ⟨by decide +kernel, by decide +kernel, by decide +kernel⟩, rfl, rfl⟩
theorem fw_X10_45 : x_FW RX10 45 7 5 ((.object "NetShapes$Fraction")) true := ⟨RX10, TX10, 9, tyX10, rfl, inX10, tyX10_ok, nmX10, by decide, by decide +kernel, rfl, fun _ => rfl, Or.inl (x_wd 237 (by decide +kernel) (by decide +kernel))⟩
theorem nw_X10_49 : x_NW RX10 49 2 1 tyX3 := ⟨RX3, TX3, rfl, inX3, tyX3_ok, x_wd 186 (by decide +kernel) (by decide +kernel), x_wd 187 (by decide +kernel) (by decide +kernel), x_wd 49 (by decide +kernel) (by decide +kernel)⟩
theorem ki_X10_51 : x_KI RX10 51 M_X3_init 0 := ⟨Or.inr ⟨RX10, List.mem_of_getElem? (i := 1) rfl⟩, x_wd 189 (by decide +kernel) (by decide +kernel), x_wd 49 (by decide +kernel) (by decide +kernel), x_wd 190 (by decide +kernel) (by decide +kernel), ⟨by decide +kernel, by decide +kernel, by decide +kernel⟩, rfl, rfl⟩
theorem fw_X10_52 : x_FW RX10 52 7 6 ((.object "NetShapes$Lot")) true := ⟨RX10, TX10, 9, tyX10, rfl, inX10, tyX10_ok, nmX10, by decide, by decide +kernel, rfl, fun _ => rfl, Or.inl (x_wd 238 (by decide +kernel) (by decide +kernel))⟩
theorem nw_X10_56 : x_NW RX10 56 5 4 tyX6 := ⟨RX6, TX6, rfl, inX6, tyX6_ok, x_wd 197 (by decide +kernel) (by decide +kernel), x_wd 198 (by decide +kernel) (by decide +kernel), x_wd 50 (by decide +kernel) (by decide +kernel)⟩
theorem ki_X10_58 : x_KI RX10 58 M_X6_init 0 := ⟨Or.inr ⟨RX10, List.mem_of_getElem? (i := 2) rfl⟩, x_wd 200 (by decide +kernel) (by decide +kernel), x_wd 50 (by decide +kernel) (by decide +kernel), x_wd 201 (by decide +kernel) (by decide +kernel), ⟨by decide +kernel, by decide +kernel, by decide +kernel⟩, rfl, rfl⟩
theorem fw_X10_59 : x_FW RX10 59 7 7 ((.object "NetShapes$SideSearch")) true := ⟨RX10, TX10, 9, tyX10, rfl, inX10, tyX10_ok, nmX10, by decide, by decide +kernel, rfl, fun _ => rfl, Or.inl (x_wd 239 (by decide +kernel) (by decide +kernel))⟩
theorem nw_X10_63 : x_NW RX10 63 6 2 tyX9 := ⟨RX9, TX9, rfl, inX9, tyX9_ok, x_wd 218 (by decide +kernel) (by decide +kernel), x_wd 219 (by decide +kernel) (by decide +kernel), x_wd 51 (by decide +kernel) (by decide +kernel)⟩
theorem ki_X10_65 : x_KI RX10 65 M_X9_init 0 := ⟨Or.inr ⟨RX10, List.mem_of_getElem? (i := 3) rfl⟩, x_wd 221 (by decide +kernel) (by decide +kernel), x_wd 51 (by decide +kernel) (by decide +kernel), x_wd 222 (by decide +kernel) (by decide +kernel), ⟨by decide +kernel, by decide +kernel, by decide +kernel⟩, rfl, rfl⟩
theorem fw_X10_66 : x_FW RX10 66 7 8 ((.object "NetShapes$WalkRows")) true := ⟨RX10, TX10, 9, tyX10, rfl, inX10, tyX10_ok, nmX10, by decide, by decide +kernel, rfl, fun _ => rfl, Or.inl (x_wd 240 (by decide +kernel) (by decide +kernel))⟩
theorem fl_X10_18 : x_F RX10 18 7 1 := ⟨RX10, TX10, 9, rfl, inX10, by decide, Or.inl (x_wd 233 (by decide +kernel) (by decide +kernel))⟩
theorem fl_X10_26 : x_F RX10 26 7 3 := ⟨RX10, TX10, 9, rfl, inX10, by decide, Or.inl (x_wd 235 (by decide +kernel) (by decide +kernel))⟩
theorem fl_X10_14 : x_F RX10 14 7 0 := ⟨RX10, TX10, 9, rfl, inX10, by decide, Or.inl (x_wd 232 (by decide +kernel) (by decide +kernel))⟩
theorem fl_X10_74 : x_F RX10 74 3 0 := ⟨RX4, TX4, 4, rfl, inX4, by decide, Or.inr ⟨RX10, List.mem_of_getElem? (i := 4) rfl⟩⟩
theorem kv_X10_78 : x_KV RX10 78 M_X4_startAnew 1 3 := ⟨x_wd 268 (by decide +kernel) (by decide +kernel), x_wd 269 (by decide +kernel) (by decide +kernel), x_wd 270 (by decide +kernel) (by decide +kernel), x_wd 44 (by decide +kernel) (by decide +kernel), x_wd 271 (by decide +kernel) (by decide +kernel), ⟨by decide +kernel, by decide +kernel, by decide +kernel⟩, _, rfl, rfl⟩
theorem kv_X10_70 : x_KV RX10 70 M_X10_refuse 1 7 := ⟨x_wd 264 (by decide +kernel) (by decide +kernel), x_wd 266 (by decide +kernel) (by decide +kernel), x_wd 2 (by decide +kernel) (by decide +kernel), x_wd 43 (by decide +kernel) (by decide +kernel), x_wd 267 (by decide +kernel) (by decide +kernel), ⟨by decide +kernel, by decide +kernel, by decide +kernel⟩, _, rfl, rfl⟩
theorem kv_X10_160 : x_KV RX10 160 M_X10_isPost 1 7 := ⟨x_wd 280 (by decide +kernel) (by decide +kernel), x_wd 282 (by decide +kernel) (by decide +kernel), x_wd 4 (by decide +kernel) (by decide +kernel), x_wd 43 (by decide +kernel) (by decide +kernel), x_wd 283 (by decide +kernel) (by decide +kernel), ⟨by decide +kernel, by decide +kernel, by decide +kernel⟩, _, rfl, rfl⟩
theorem kv_X10_81 : x_KV RX10 81 M_X10_isTwo 2 7 := ⟨x_wd 276 (by decide +kernel) (by decide +kernel), x_wd 278 (by decide +kernel) (by decide +kernel), x_wd 3 (by decide +kernel) (by decide +kernel), x_wd 43 (by decide +kernel) (by decide +kernel), x_wd 279 (by decide +kernel) (by decide +kernel), ⟨by decide +kernel, by decide +kernel, by decide +kernel⟩, _, rfl, rfl⟩
theorem kv_X10_85 : x_KV RX10 85 M_X4_has 2 3 := ⟨x_wd 284 (by decide +kernel) (by decide +kernel), x_wd 285 (by decide +kernel) (by decide +kernel), x_wd 286 (by decide +kernel) (by decide +kernel), x_wd 44 (by decide +kernel) (by decide +kernel), x_wd 287 (by decide +kernel) (by decide +kernel), ⟨by decide +kernel, by decide +kernel, by decide +kernel⟩, _, rfl, rfl⟩
theorem kv_X10_88 : x_KV RX10 88 M_X4_put 4 3 := ⟨x_wd 292 (by decide +kernel) (by decide +kernel), x_wd 293 (by decide +kernel) (by decide +kernel), x_wd 294 (by decide +kernel) (by decide +kernel), x_wd 44 (by decide +kernel) (by decide +kernel), x_wd 295 (by decide +kernel) (by decide +kernel), ⟨by decide +kernel, by decide +kernel, by decide +kernel⟩, _, rfl, rfl⟩
theorem kv_X10_92 : x_KV RX10 92 M_X4_drop 2 3 := ⟨x_wd 307 (by decide +kernel) (by decide +kernel), x_wd 297 (by decide +kernel) (by decide +kernel), x_wd 298 (by decide +kernel) (by decide +kernel), x_wd 44 (by decide +kernel) (by decide +kernel), x_wd 299 (by decide +kernel) (by decide +kernel), ⟨by decide +kernel, by decide +kernel, by decide +kernel⟩, _, rfl, rfl⟩
theorem kv_X10_96 : x_KV RX10 96 M_X4_bit 2 3 := ⟨x_wd 312 (by decide +kernel) (by decide +kernel), x_wd 289 (by decide +kernel) (by decide +kernel), x_wd 290 (by decide +kernel) (by decide +kernel), x_wd 44 (by decide +kernel) (by decide +kernel), x_wd 291 (by decide +kernel) (by decide +kernel), ⟨by decide +kernel, by decide +kernel, by decide +kernel⟩, _, rfl, rfl⟩
theorem kv_X10_100 : x_KV RX10 100 M_X4_kindOf 2 3 := ⟨x_wd 313 (by decide +kernel) (by decide +kernel), x_wd 314 (by decide +kernel) (by decide +kernel), x_wd 315 (by decide +kernel) (by decide +kernel), x_wd 44 (by decide +kernel) (by decide +kernel), x_wd 316 (by decide +kernel) (by decide +kernel), ⟨by decide +kernel, by decide +kernel, by decide +kernel⟩, _, rfl, rfl⟩
theorem kv_X10_103 : x_KV RX10 103 M_X4_timeOf 2 3 := ⟨x_wd 317 (by decide +kernel) (by decide +kernel), x_wd 318 (by decide +kernel) (by decide +kernel), x_wd 319 (by decide +kernel) (by decide +kernel), x_wd 44 (by decide +kernel) (by decide +kernel), x_wd 320 (by decide +kernel) (by decide +kernel), ⟨by decide +kernel, by decide +kernel, by decide +kernel⟩, _, rfl, rfl⟩
theorem kv_X10_189 : x_KV RX10 189 M_X4_linkCount 0 3 := ⟨x_wd 330 (by decide +kernel) (by decide +kernel), x_wd 331 (by decide +kernel) (by decide +kernel), x_wd 332 (by decide +kernel) (by decide +kernel), x_wd 44 (by decide +kernel) (by decide +kernel), x_wd 333 (by decide +kernel) (by decide +kernel), ⟨by decide +kernel, by decide +kernel, by decide +kernel⟩, _, rfl, rfl⟩
theorem kv_X10_106 : x_KV RX10 106 M_X10_isLink 1 7 := ⟨x_wd 326 (by decide +kernel) (by decide +kernel), x_wd 328 (by decide +kernel) (by decide +kernel), x_wd 5 (by decide +kernel) (by decide +kernel), x_wd 43 (by decide +kernel) (by decide +kernel), x_wd 329 (by decide +kernel) (by decide +kernel), ⟨by decide +kernel, by decide +kernel, by decide +kernel⟩, _, rfl, rfl⟩
theorem kv_X10_110 : x_KV RX10 110 M_X4_spotOf 1 3 := ⟨x_wd 340 (by decide +kernel) (by decide +kernel), x_wd 341 (by decide +kernel) (by decide +kernel), x_wd 342 (by decide +kernel) (by decide +kernel), x_wd 44 (by decide +kernel) (by decide +kernel), x_wd 343 (by decide +kernel) (by decide +kernel), ⟨by decide +kernel, by decide +kernel, by decide +kernel⟩, _, rfl, rfl⟩
theorem ks_X10_116 : x_KS RX10 116 M_X4_toOf 1 := ⟨x_wd 350 (by decide +kernel) (by decide +kernel), x_wd 351 (by decide +kernel) (by decide +kernel), x_wd 44 (by decide +kernel) (by decide +kernel), x_wd 352 (by decide +kernel) (by decide +kernel), ⟨by decide +kernel, by decide +kernel, by decide +kernel⟩⟩
theorem ks_X10_113 : x_KS RX10 113 M_X4_fromOf 1 := ⟨x_wd 347 (by decide +kernel) (by decide +kernel), x_wd 348 (by decide +kernel) (by decide +kernel), x_wd 44 (by decide +kernel) (by decide +kernel), x_wd 349 (by decide +kernel) (by decide +kernel), ⟨by decide +kernel, by decide +kernel, by decide +kernel⟩⟩
theorem kv_X10_119 : x_KV RX10 119 M_X10_isThree 3 7 := ⟨x_wd 357 (by decide +kernel) (by decide +kernel), x_wd 359 (by decide +kernel) (by decide +kernel), x_wd 6 (by decide +kernel) (by decide +kernel), x_wd 43 (by decide +kernel) (by decide +kernel), x_wd 360 (by decide +kernel) (by decide +kernel), ⟨by decide +kernel, by decide +kernel, by decide +kernel⟩, _, rfl, rfl⟩
theorem fl_X10_38 : x_F RX10 38 7 4 := ⟨RX10, TX10, 9, rfl, inX10, by decide, Or.inl (x_wd 236 (by decide +kernel) (by decide +kernel))⟩
theorem fl_X10_123 : x_F RX10 123 0 0 := ⟨RX0, TX0, 4, rfl, inX0, by decide, Or.inr ⟨RX10, List.mem_of_getElem? (i := 13) rfl⟩⟩
theorem fl_X10_127 : x_F RX10 127 4 0 := ⟨RX5, TX5, 5, rfl, inX5, by decide, Or.inr ⟨RX10, List.mem_of_getElem? (i := 9) rfl⟩⟩
theorem kv_X10_130 : x_KV RX10 130 M_X4_codeOf 3 3 := ⟨x_wd 361 (by decide +kernel) (by decide +kernel), x_wd 362 (by decide +kernel) (by decide +kernel), x_wd 363 (by decide +kernel) (by decide +kernel), x_wd 44 (by decide +kernel) (by decide +kernel), x_wd 364 (by decide +kernel) (by decide +kernel), ⟨by decide +kernel, by decide +kernel, by decide +kernel⟩, _, rfl, rfl⟩
theorem ks_X10_134 : x_KS RX10 134 M_X10_isShape 1 := ⟨x_wd 369 (by decide +kernel) (by decide +kernel), x_wd 370 (by decide +kernel) (by decide +kernel), x_wd 43 (by decide +kernel) (by decide +kernel), x_wd 371 (by decide +kernel) (by decide +kernel), ⟨by decide +kernel, by decide +kernel, by decide +kernel⟩⟩
theorem fl_X10_137 : x_F RX10 137 4 1 := ⟨RX5, TX5, 5, rfl, inX5, by decide, Or.inr ⟨RX10, List.mem_of_getElem? (i := 10) rfl⟩⟩
theorem fl_X10_140 : x_F RX10 140 4 2 := ⟨RX5, TX5, 5, rfl, inX5, by decide, Or.inr ⟨RX10, List.mem_of_getElem? (i := 11) rfl⟩⟩
theorem kv_X10_143 : x_KV RX10 143 M_X5_linkCount 1 4 := ⟨x_wd 372 (by decide +kernel) (by decide +kernel), x_wd 373 (by decide +kernel) (by decide +kernel), x_wd 374 (by decide +kernel) (by decide +kernel), x_wd 46 (by decide +kernel) (by decide +kernel), x_wd 375 (by decide +kernel) (by decide +kernel), ⟨by decide +kernel, by decide +kernel, by decide +kernel⟩, _, rfl, rfl⟩
theorem fl_X10_146 : x_F RX10 146 4 3 := ⟨RX5, TX5, 5, rfl, inX5, by decide, Or.inr ⟨RX10, List.mem_of_getElem? (i := 12) rfl⟩⟩
theorem kv_X10_149 : x_KV RX10 149 M_X5_placeOf 2 4 := ⟨x_wd 381 (by decide +kernel) (by decide +kernel), x_wd 127 (by decide +kernel) (by decide +kernel), x_wd 128 (by decide +kernel) (by decide +kernel), x_wd 46 (by decide +kernel) (by decide +kernel), x_wd 129 (by decide +kernel) (by decide +kernel), ⟨by decide +kernel, by decide +kernel, by decide +kernel⟩, _, rfl, rfl⟩
theorem kv_X10_152 : x_KV RX10 152 M_X4_everyPost 0 3 := ⟨x_wd 386 (by decide +kernel) (by decide +kernel), x_wd 387 (by decide +kernel) (by decide +kernel), x_wd 388 (by decide +kernel) (by decide +kernel), x_wd 44 (by decide +kernel) (by decide +kernel), x_wd 389 (by decide +kernel) (by decide +kernel), ⟨by decide +kernel, by decide +kernel, by decide +kernel⟩, _, rfl, rfl⟩
theorem kv_X10_156 : x_KV RX10 156 M_X0_threesOf 3 0 := ⟨x_wd 390 (by decide +kernel) (by decide +kernel), x_wd 391 (by decide +kernel) (by decide +kernel), x_wd 392 (by decide +kernel) (by decide +kernel), x_wd 45 (by decide +kernel) (by decide +kernel), x_wd 393 (by decide +kernel) (by decide +kernel), ⟨by decide +kernel, by decide +kernel, by decide +kernel⟩, _, rfl, rfl⟩
theorem kv_X10_163 : x_KV RX10 163 M_X0_countByPosts 1 0 := ⟨x_wd 406 (by decide +kernel) (by decide +kernel), x_wd 407 (by decide +kernel) (by decide +kernel), x_wd 408 (by decide +kernel) (by decide +kernel), x_wd 45 (by decide +kernel) (by decide +kernel), x_wd 409 (by decide +kernel) (by decide +kernel), ⟨by decide +kernel, by decide +kernel, by decide +kernel⟩, _, rfl, rfl⟩
theorem kv_X10_167 : x_KV RX10 167 M_X0_postCount 3 0 := ⟨x_wd 418 (by decide +kernel) (by decide +kernel), x_wd 419 (by decide +kernel) (by decide +kernel), x_wd 420 (by decide +kernel) (by decide +kernel), x_wd 45 (by decide +kernel) (by decide +kernel), x_wd 421 (by decide +kernel) (by decide +kernel), ⟨by decide +kernel, by decide +kernel, by decide +kernel⟩, _, rfl, rfl⟩
theorem kv_X10_170 : x_KV RX10 170 M_X0_findRoles 1 0 := ⟨x_wd 426 (by decide +kernel) (by decide +kernel), x_wd 427 (by decide +kernel) (by decide +kernel), x_wd 428 (by decide +kernel) (by decide +kernel), x_wd 45 (by decide +kernel) (by decide +kernel), x_wd 429 (by decide +kernel) (by decide +kernel), ⟨by decide +kernel, by decide +kernel, by decide +kernel⟩, _, rfl, rfl⟩
theorem fl_X10_174 : x_F RX10 174 0 2 := ⟨RX0, TX0, 4, rfl, inX0, by decide, Or.inr ⟨RX10, List.mem_of_getElem? (i := 14) rfl⟩⟩
theorem ks_X10_177 : x_KS RX10 177 M_X1_ofKind 2 := ⟨x_wd 447 (by decide +kernel) (by decide +kernel), x_wd 448 (by decide +kernel) (by decide +kernel), x_wd 54 (by decide +kernel) (by decide +kernel), x_wd 449 (by decide +kernel) (by decide +kernel), ⟨by decide +kernel, by decide +kernel, by decide +kernel⟩⟩
theorem fl_X10_52 : x_F RX10 52 7 6 := ⟨RX10, TX10, 9, rfl, inX10, by decide, Or.inl (x_wd 238 (by decide +kernel) (by decide +kernel))⟩
theorem fl_X10_183 : x_F RX10 183 2 0 := ⟨RX3, TX3, 1, rfl, inX3, by decide, Or.inr ⟨RX10, List.mem_of_getElem? (i := 17) rfl⟩⟩
theorem fw_X10_183 : x_FW RX10 183 2 0 (.int) false := ⟨RX3, TX3, 1, tyX3, rfl, inX3, tyX3_ok, nmX3, by decide, by decide +kernel, rfl, fun h => absurd h (by decide), Or.inr ⟨rfl, RX10, List.mem_of_getElem? (i := 17) rfl⟩⟩
theorem kv_X10_186 : x_KV RX10 186 M_X4_exchange 2 3 := ⟨x_wd 475 (by decide +kernel) (by decide +kernel), x_wd 476 (by decide +kernel) (by decide +kernel), x_wd 477 (by decide +kernel) (by decide +kernel), x_wd 44 (by decide +kernel) (by decide +kernel), x_wd 478 (by decide +kernel) (by decide +kernel), ⟨by decide +kernel, by decide +kernel, by decide +kernel⟩, _, rfl, rfl⟩
theorem kv_X10_191 : x_KV RX10 191 M_X3_mixLinks 2 2 := ⟨x_wd 488 (by decide +kernel) (by decide +kernel), x_wd 489 (by decide +kernel) (by decide +kernel), x_wd 490 (by decide +kernel) (by decide +kernel), x_wd 49 (by decide +kernel) (by decide +kernel), x_wd 491 (by decide +kernel) (by decide +kernel), ⟨by decide +kernel, by decide +kernel, by decide +kernel⟩, _, rfl, rfl⟩
theorem wc_X10_288 : Cond.constantLong RX10 288 (6 : Int64) ∈ wB := x_wd 511 (by decide +kernel) (by decide +kernel)
theorem mw_X10_294 : x_MW RX10 294 Lib.Math.max.name Lib.Math.max.code 2 := ⟨x_wd 515 (by decide +kernel) (by decide +kernel), x_wd 461 (by decide +kernel) (by decide +kernel), x_wd 47 (by decide +kernel) (by decide +kernel), x_wd 462 (by decide +kernel) (by decide +kernel)⟩
theorem ks_X10_252 : x_KS RX10 252 M_X10_threesAmong 1 := ⟨x_wd 508 (by decide +kernel) (by decide +kernel), x_wd 509 (by decide +kernel) (by decide +kernel), x_wd 43 (by decide +kernel) (by decide +kernel), x_wd 510 (by decide +kernel) (by decide +kernel), ⟨by decide +kernel, by decide +kernel, by decide +kernel⟩⟩
theorem ks_X10_290 : x_KS RX10 290 M_X10_factorsDown 2 := ⟨x_wd 512 (by decide +kernel) (by decide +kernel), x_wd 513 (by decide +kernel) (by decide +kernel), x_wd 43 (by decide +kernel) (by decide +kernel), x_wd 514 (by decide +kernel) (by decide +kernel), ⟨by decide +kernel, by decide +kernel, by decide +kernel⟩⟩
theorem fl_X10_45 : x_F RX10 45 7 5 := ⟨RX10, TX10, 9, rfl, inX10, by decide, Or.inl (x_wd 237 (by decide +kernel) (by decide +kernel))⟩
theorem kv_X10_256 : x_KV RX10 256 M_X2_become 2 1 := ⟨x_wd 516 (by decide +kernel) (by decide +kernel), x_wd 517 (by decide +kernel) (by decide +kernel), x_wd 518 (by decide +kernel) (by decide +kernel), x_wd 48 (by decide +kernel) (by decide +kernel), x_wd 519 (by decide +kernel) (by decide +kernel), ⟨by decide +kernel, by decide +kernel, by decide +kernel⟩, _, rfl, rfl⟩
theorem kv_X10_194 : x_KV RX10 194 M_X10_findMean 1 7 := ⟨x_wd 504 (by decide +kernel) (by decide +kernel), x_wd 506 (by decide +kernel) (by decide +kernel), x_wd 12 (by decide +kernel) (by decide +kernel), x_wd 43 (by decide +kernel) (by decide +kernel), x_wd 507 (by decide +kernel) (by decide +kernel), ⟨by decide +kernel, by decide +kernel, by decide +kernel⟩, _, rfl, rfl⟩
theorem fl_X10_201 : x_F RX10 201 1 1 := ⟨RX2, TX2, 2, rfl, inX2, by decide, Or.inr ⟨RX10, List.mem_of_getElem? (i := 16) rfl⟩⟩
theorem fl_X10_197 : x_F RX10 197 1 0 := ⟨RX2, TX2, 2, rfl, inX2, by decide, Or.inr ⟨RX10, List.mem_of_getElem? (i := 15) rfl⟩⟩
theorem ks_X10_205 : x_KS RX10 205 M_J13_compare_74951 2 := ⟨x_wd 528 (by decide +kernel) (by decide +kernel), x_wd 529 (by decide +kernel) (by decide +kernel), x_wd 55 (by decide +kernel) (by decide +kernel), x_wd 530 (by decide +kernel) (by decide +kernel), ⟨by decide +kernel, by decide +kernel, by decide +kernel⟩⟩
theorem wc_X10_204 : Cond.constant RX10 204 (2000000000 : Int32) ∈ wB := x_wd 527 (by decide +kernel) (by decide +kernel)
theorem ks_X10_216 : x_KS RX10 216 M_X8_onChains 2 := ⟨x_wd 543 (by decide +kernel) (by decide +kernel), x_wd 544 (by decide +kernel) (by decide +kernel), x_wd 56 (by decide +kernel) (by decide +kernel), x_wd 545 (by decide +kernel) (by decide +kernel), ⟨by decide +kernel, by decide +kernel, by decide +kernel⟩⟩
theorem ks_X10_211 : x_KS RX10 211 M_X8_backChains 2 := ⟨x_wd 535 (by decide +kernel) (by decide +kernel), x_wd 536 (by decide +kernel) (by decide +kernel), x_wd 56 (by decide +kernel) (by decide +kernel), x_wd 537 (by decide +kernel) (by decide +kernel), ⟨by decide +kernel, by decide +kernel, by decide +kernel⟩⟩
theorem ks_X10_219 : x_KS RX10 219 M_X8_longestBurst 3 := ⟨x_wd 550 (by decide +kernel) (by decide +kernel), x_wd 551 (by decide +kernel) (by decide +kernel), x_wd 56 (by decide +kernel) (by decide +kernel), x_wd 552 (by decide +kernel) (by decide +kernel), ⟨by decide +kernel, by decide +kernel, by decide +kernel⟩⟩
theorem ks_X10_222 : x_KS RX10 222 M_X7_closedThrees 2 := ⟨x_wd 561 (by decide +kernel) (by decide +kernel), x_wd 562 (by decide +kernel) (by decide +kernel), x_wd 57 (by decide +kernel) (by decide +kernel), x_wd 563 (by decide +kernel) (by decide +kernel), ⟨by decide +kernel, by decide +kernel, by decide +kernel⟩⟩
theorem fl_X10_59 : x_F RX10 59 7 7 := ⟨RX10, TX10, 9, rfl, inX10, by decide, Or.inl (x_wd 239 (by decide +kernel) (by decide +kernel))⟩
theorem kv_X10_228 : x_KV RX10 228 M_X6_tryAll 1 5 := ⟨x_wd 579 (by decide +kernel) (by decide +kernel), x_wd 580 (by decide +kernel) (by decide +kernel), x_wd 581 (by decide +kernel) (by decide +kernel), x_wd 50 (by decide +kernel) (by decide +kernel), x_wd 582 (by decide +kernel) (by decide +kernel), ⟨by decide +kernel, by decide +kernel, by decide +kernel⟩, _, rfl, rfl⟩
theorem fl_X10_234 : x_F RX10 234 5 3 := ⟨RX6, TX6, 4, rfl, inX6, by decide, Or.inr ⟨RX10, List.mem_of_getElem? (i := 19) rfl⟩⟩
theorem fl_X10_231 : x_F RX10 231 5 2 := ⟨RX6, TX6, 4, rfl, inX6, by decide, Or.inr ⟨RX10, List.mem_of_getElem? (i := 18) rfl⟩⟩
theorem fl_X10_66 : x_F RX10 66 7 8 := ⟨RX10, TX10, 9, rfl, inX10, by decide, Or.inl (x_wd 240 (by decide +kernel) (by decide +kernel))⟩
theorem kv_X10_237 : x_KV RX10 237 M_X9_countFrom 3 6 := ⟨x_wd 611 (by decide +kernel) (by decide +kernel), x_wd 612 (by decide +kernel) (by decide +kernel), x_wd 613 (by decide +kernel) (by decide +kernel), x_wd 51 (by decide +kernel) (by decide +kernel), x_wd 614 (by decide +kernel) (by decide +kernel), ⟨by decide +kernel, by decide +kernel, by decide +kernel⟩, _, rfl, rfl⟩
theorem kv_X10_241 : x_KV RX10 241 M_X9_partsOf 1 6 := ⟨x_wd 625 (by decide +kernel) (by decide +kernel), x_wd 626 (by decide +kernel) (by decide +kernel), x_wd 627 (by decide +kernel) (by decide +kernel), x_wd 51 (by decide +kernel) (by decide +kernel), x_wd 628 (by decide +kernel) (by decide +kernel), ⟨by decide +kernel, by decide +kernel, by decide +kernel⟩, _, rfl, rfl⟩
theorem kv_X10_244 : x_KV RX10 244 M_X9_partOf 2 6 := ⟨x_wd 629 (by decide +kernel) (by decide +kernel), x_wd 630 (by decide +kernel) (by decide +kernel), x_wd 631 (by decide +kernel) (by decide +kernel), x_wd 51 (by decide +kernel) (by decide +kernel), x_wd 632 (by decide +kernel) (by decide +kernel), ⟨by decide +kernel, by decide +kernel, by decide +kernel⟩, _, rfl, rfl⟩
theorem ks_X10_247 : x_KS RX10 247 M_J6_bitCount_0f7a4 1 := ⟨x_wd 637 (by decide +kernel) (by decide +kernel), x_wd 335 (by decide +kernel) (by decide +kernel), x_wd 53 (by decide +kernel) (by decide +kernel), x_wd 336 (by decide +kernel) (by decide +kernel), ⟨by decide +kernel, by decide +kernel, by decide +kernel⟩⟩
theorem ks_X10_260 : x_KS RX10 260 M_X10_isSheet 1 := ⟨x_wd 642 (by decide +kernel) (by decide +kernel), x_wd 643 (by decide +kernel) (by decide +kernel), x_wd 43 (by decide +kernel) (by decide +kernel), x_wd 644 (by decide +kernel) (by decide +kernel), ⟨by decide +kernel, by decide +kernel, by decide +kernel⟩⟩
theorem kv_X10_263 : x_KV RX10 263 M_X4_becomeLike 1 3 := ⟨x_wd 645 (by decide +kernel) (by decide +kernel), x_wd 646 (by decide +kernel) (by decide +kernel), x_wd 647 (by decide +kernel) (by decide +kernel), x_wd 44 (by decide +kernel) (by decide +kernel), x_wd 648 (by decide +kernel) (by decide +kernel), ⟨by decide +kernel, by decide +kernel, by decide +kernel⟩, _, rfl, rfl⟩
theorem fl_X10_22 : x_F RX10 22 7 2 := ⟨RX10, TX10, 9, rfl, inX10, by decide, Or.inl (x_wd 234 (by decide +kernel) (by decide +kernel))⟩
theorem kv_X10_266 : x_KV RX10 266 M_X0_difference 2 0 := ⟨x_wd 664 (by decide +kernel) (by decide +kernel), x_wd 665 (by decide +kernel) (by decide +kernel), x_wd 666 (by decide +kernel) (by decide +kernel), x_wd 45 (by decide +kernel) (by decide +kernel), x_wd 667 (by decide +kernel) (by decide +kernel), ⟨by decide +kernel, by decide +kernel, by decide +kernel⟩, _, rfl, rfl⟩
theorem kv_X10_270 : x_KV RX10 270 M_X4_againstCount 0 3 := ⟨x_wd 676 (by decide +kernel) (by decide +kernel), x_wd 677 (by decide +kernel) (by decide +kernel), x_wd 678 (by decide +kernel) (by decide +kernel), x_wd 44 (by decide +kernel) (by decide +kernel), x_wd 679 (by decide +kernel) (by decide +kernel), ⟨by decide +kernel, by decide +kernel, by decide +kernel⟩, _, rfl, rfl⟩
theorem kv_X10_273 : x_KV RX10 273 M_X4_besideCount 0 3 := ⟨x_wd 680 (by decide +kernel) (by decide +kernel), x_wd 681 (by decide +kernel) (by decide +kernel), x_wd 682 (by decide +kernel) (by decide +kernel), x_wd 44 (by decide +kernel) (by decide +kernel), x_wd 683 (by decide +kernel) (by decide +kernel), ⟨by decide +kernel, by decide +kernel, by decide +kernel⟩, _, rfl, rfl⟩
theorem kv_X10_276 : x_KV RX10 276 M_X10_heldCount 0 7 := ⟨x_wd 685 (by decide +kernel) (by decide +kernel), x_wd 687 (by decide +kernel) (by decide +kernel), x_wd 17 (by decide +kernel) (by decide +kernel), x_wd 43 (by decide +kernel) (by decide +kernel), x_wd 688 (by decide +kernel) (by decide +kernel), ⟨by decide +kernel, by decide +kernel, by decide +kernel⟩, _, rfl, rfl⟩
theorem fl_X10_279 : x_F RX10 279 3 1 := ⟨RX4, TX4, 4, rfl, inX4, by decide, Or.inr ⟨RX10, List.mem_of_getElem? (i := 7) rfl⟩⟩
theorem kv_X10_282 : x_KV RX10 282 M_X4_into 1 3 := ⟨x_wd 689 (by decide +kernel) (by decide +kernel), x_wd 592 (by decide +kernel) (by decide +kernel), x_wd 593 (by decide +kernel) (by decide +kernel), x_wd 44 (by decide +kernel) (by decide +kernel), x_wd 594 (by decide +kernel) (by decide +kernel), ⟨by decide +kernel, by decide +kernel, by decide +kernel⟩, _, rfl, rfl⟩
theorem kv_X10_285 : x_KV RX10 285 M_X10_refusalCount 1 7 := ⟨x_wd 690 (by decide +kernel) (by decide +kernel), x_wd 692 (by decide +kernel) (by decide +kernel), x_wd 18 (by decide +kernel) (by decide +kernel), x_wd 43 (by decide +kernel) (by decide +kernel), x_wd 693 (by decide +kernel) (by decide +kernel), ⟨by decide +kernel, by decide +kernel, by decide +kernel⟩, _, rfl, rfl⟩
theorem ks_X11_90 : x_KS RX11 90 M_X11_atOrder 2 := ⟨x_wd 703 (by decide +kernel) (by decide +kernel), x_wd 704 (by decide +kernel) (by decide +kernel), x_wd 52 (by decide +kernel) (by decide +kernel), x_wd 705 (by decide +kernel) (by decide +kernel), ⟨by decide +kernel, by decide +kernel, by decide +kernel⟩⟩
theorem ks_X11_93 : x_KS RX11 93 M_X11_bit 2 := ⟨x_wd 706 (by decide +kernel) (by decide +kernel), x_wd 707 (by decide +kernel) (by decide +kernel), x_wd 52 (by decide +kernel) (by decide +kernel), x_wd 708 (by decide +kernel) (by decide +kernel), ⟨by decide +kernel, by decide +kernel, by decide +kernel⟩⟩
theorem wo_X11_1 : Cond.methodLink RX11 1 Lib.objectInit ∈ wB ∧ Cond.instanceMethod Lib.objectInit ∈ wB ∧ Cond.code Lib.objectInit ⟨#[0xb1]⟩ 1 none ∈ wB := ⟨x_wd 699 (by decide +kernel) (by decide +kernel), x_wd 65 (by decide +kernel) (by decide +kernel), x_wd 66 (by decide +kernel) (by decide +kernel)⟩
theorem fw_X11_7 : x_FW RX11 7 8 0 (.int) false := ⟨RX11, TX11, 25, tyX11, rfl, inX11, tyX11_ok, nmX11, by decide, by decide +kernel, rfl, fun _ => rfl, Or.inl (x_wd 709 (by decide +kernel) (by decide +kernel))⟩
theorem fw_X11_13 : x_FW RX11 13 8 1 (.array .boolean) true := ⟨RX11, TX11, 25, tyX11, rfl, inX11, tyX11_ok, nmX11, by decide, by decide +kernel, rfl, fun _ => rfl, Or.inl (x_wd 710 (by decide +kernel) (by decide +kernel))⟩
theorem fw_X11_17 : x_FW RX11 17 8 2 (.array .int) true := ⟨RX11, TX11, 25, tyX11, rfl, inX11, tyX11_ok, nmX11, by decide, by decide +kernel, rfl, fun _ => rfl, Or.inl (x_wd 711 (by decide +kernel) (by decide +kernel))⟩
theorem fw_X11_21 : x_FW RX11 21 8 3 (.array .int) true := ⟨RX11, TX11, 25, tyX11, rfl, inX11, tyX11_ok, nmX11, by decide, by decide +kernel, rfl, fun _ => rfl, Or.inl (x_wd 712 (by decide +kernel) (by decide +kernel))⟩
theorem fw_X11_24 : x_FW RX11 24 8 4 (.int) false := ⟨RX11, TX11, 25, tyX11, rfl, inX11, tyX11_ok, nmX11, by decide, by decide +kernel, rfl, fun _ => rfl, Or.inl (x_wd 713 (by decide +kernel) (by decide +kernel))⟩
theorem fw_X11_27 : x_FW RX11 27 8 5 (.array .int) true := ⟨RX11, TX11, 25, tyX11, rfl, inX11, tyX11_ok, nmX11, by decide, by decide +kernel, rfl, fun _ => rfl, Or.inl (x_wd 714 (by decide +kernel) (by decide +kernel))⟩
theorem fw_X11_30 : x_FW RX11 30 8 6 (.array .boolean) true := ⟨RX11, TX11, 25, tyX11, rfl, inX11, tyX11_ok, nmX11, by decide, by decide +kernel, rfl, fun _ => rfl, Or.inl (x_wd 715 (by decide +kernel) (by decide +kernel))⟩
theorem fw_X11_33 : x_FW RX11 33 8 7 (.array .int) true := ⟨RX11, TX11, 25, tyX11, rfl, inX11, tyX11_ok, nmX11, by decide, by decide +kernel, rfl, fun _ => rfl, Or.inl (x_wd 716 (by decide +kernel) (by decide +kernel))⟩
theorem fw_X11_36 : x_FW RX11 36 8 8 (.array .int) true := ⟨RX11, TX11, 25, tyX11, rfl, inX11, tyX11_ok, nmX11, by decide, by decide +kernel, rfl, fun _ => rfl, Or.inl (x_wd 717 (by decide +kernel) (by decide +kernel))⟩
theorem fw_X11_39 : x_FW RX11 39 8 9 (.array .int) true := ⟨RX11, TX11, 25, tyX11, rfl, inX11, tyX11_ok, nmX11, by decide, by decide +kernel, rfl, fun _ => rfl, Or.inl (x_wd 718 (by decide +kernel) (by decide +kernel))⟩
theorem fw_X11_42 : x_FW RX11 42 8 10 (.array .int) true := ⟨RX11, TX11, 25, tyX11, rfl, inX11, tyX11_ok, nmX11, by decide, by decide +kernel, rfl, fun _ => rfl, Or.inl (x_wd 719 (by decide +kernel) (by decide +kernel))⟩
theorem fw_X11_45 : x_FW RX11 45 8 11 (.array .int) true := ⟨RX11, TX11, 25, tyX11, rfl, inX11, tyX11_ok, nmX11, by decide, by decide +kernel, rfl, fun _ => rfl, Or.inl (x_wd 720 (by decide +kernel) (by decide +kernel))⟩
theorem fw_X11_48 : x_FW RX11 48 8 12 (.array .int) true := ⟨RX11, TX11, 25, tyX11, rfl, inX11, tyX11_ok, nmX11, by decide, by decide +kernel, rfl, fun _ => rfl, Or.inl (x_wd 721 (by decide +kernel) (by decide +kernel))⟩
theorem fw_X11_51 : x_FW RX11 51 8 13 (.array .int) true := ⟨RX11, TX11, 25, tyX11, rfl, inX11, tyX11_ok, nmX11, by decide, by decide +kernel, rfl, fun _ => rfl, Or.inl (x_wd 722 (by decide +kernel) (by decide +kernel))⟩
theorem fw_X11_54 : x_FW RX11 54 8 14 (.array .int) true := ⟨RX11, TX11, 25, tyX11, rfl, inX11, tyX11_ok, nmX11, by decide, by decide +kernel, rfl, fun _ => rfl, Or.inl (x_wd 723 (by decide +kernel) (by decide +kernel))⟩
theorem fw_X11_57 : x_FW RX11 57 8 15 (.array .int) true := ⟨RX11, TX11, 25, tyX11, rfl, inX11, tyX11_ok, nmX11, by decide, by decide +kernel, rfl, fun _ => rfl, Or.inl (x_wd 724 (by decide +kernel) (by decide +kernel))⟩
theorem fw_X11_60 : x_FW RX11 60 8 18 (.array .int) true := ⟨RX11, TX11, 25, tyX11, rfl, inX11, tyX11_ok, nmX11, by decide, by decide +kernel, rfl, fun _ => rfl, Or.inl (x_wd 727 (by decide +kernel) (by decide +kernel))⟩
theorem fw_X11_63 : x_FW RX11 63 8 19 (.array .int) true := ⟨RX11, TX11, 25, tyX11, rfl, inX11, tyX11_ok, nmX11, by decide, by decide +kernel, rfl, fun _ => rfl, Or.inl (x_wd 728 (by decide +kernel) (by decide +kernel))⟩
theorem fw_X11_66 : x_FW RX11 66 8 20 (.array .int) true := ⟨RX11, TX11, 25, tyX11, rfl, inX11, tyX11_ok, nmX11, by decide, by decide +kernel, rfl, fun _ => rfl, Or.inl (x_wd 729 (by decide +kernel) (by decide +kernel))⟩
theorem fw_X11_69 : x_FW RX11 69 8 21 (.array .long) true := ⟨RX11, TX11, 25, tyX11, rfl, inX11, tyX11_ok, nmX11, by decide, by decide +kernel, rfl, fun _ => rfl, Or.inl (x_wd 730 (by decide +kernel) (by decide +kernel))⟩
theorem fw_X11_73 : x_FW RX11 73 8 22 (.array .long) true := ⟨RX11, TX11, 25, tyX11, rfl, inX11, tyX11_ok, nmX11, by decide, by decide +kernel, rfl, fun _ => rfl, Or.inl (x_wd 731 (by decide +kernel) (by decide +kernel))⟩
theorem fw_X11_76 : x_FW RX11 76 8 23 (.array .boolean) true := ⟨RX11, TX11, 25, tyX11, rfl, inX11, tyX11_ok, nmX11, by decide, by decide +kernel, rfl, fun _ => rfl, Or.inl (x_wd 732 (by decide +kernel) (by decide +kernel))⟩
theorem fw_X11_79 : x_FW RX11 79 8 24 (.array .int) true := ⟨RX11, TX11, 25, tyX11, rfl, inX11, tyX11_ok, nmX11, by decide, by decide +kernel, rfl, fun _ => rfl, Or.inl (x_wd 733 (by decide +kernel) (by decide +kernel))⟩
theorem fl_X11_42 : x_F RX11 42 8 10 := ⟨RX11, TX11, 25, rfl, inX11, by decide, Or.inl (x_wd 719 (by decide +kernel) (by decide +kernel))⟩
theorem fl_X11_45 : x_F RX11 45 8 11 := ⟨RX11, TX11, 25, rfl, inX11, by decide, Or.inl (x_wd 720 (by decide +kernel) (by decide +kernel))⟩
theorem fl_X11_48 : x_F RX11 48 8 12 := ⟨RX11, TX11, 25, rfl, inX11, by decide, Or.inl (x_wd 721 (by decide +kernel) (by decide +kernel))⟩
theorem ks_X11_82 : x_KS RX11 82 M_X11_inOrder 2 := ⟨x_wd 700 (by decide +kernel) (by decide +kernel), x_wd 701 (by decide +kernel) (by decide +kernel), x_wd 52 (by decide +kernel) (by decide +kernel), x_wd 702 (by decide +kernel) (by decide +kernel), ⟨by decide +kernel, by decide +kernel, by decide +kernel⟩⟩
theorem fl_X11_39 : x_F RX11 39 8 9 := ⟨RX11, TX11, 25, rfl, inX11, by decide, Or.inl (x_wd 718 (by decide +kernel) (by decide +kernel))⟩
theorem fl_X11_7 : x_F RX11 7 8 0 := ⟨RX11, TX11, 25, rfl, inX11, by decide, Or.inl (x_wd 709 (by decide +kernel) (by decide +kernel))⟩
theorem ks_X11_86 : x_KS RX11 86 M_X11_in 3 := ⟨x_wd 805 (by decide +kernel) (by decide +kernel), x_wd 806 (by decide +kernel) (by decide +kernel), x_wd 52 (by decide +kernel) (by decide +kernel), x_wd 807 (by decide +kernel) (by decide +kernel), ⟨by decide +kernel, by decide +kernel, by decide +kernel⟩⟩
theorem fl_X11_13 : x_F RX11 13 8 1 := ⟨RX11, TX11, 25, rfl, inX11, by decide, Or.inl (x_wd 710 (by decide +kernel) (by decide +kernel))⟩
theorem kv_X11_96 : x_KV RX11 96 M_X11_has 2 8 := ⟨x_wd 808 (by decide +kernel) (by decide +kernel), x_wd 810 (by decide +kernel) (by decide +kernel), x_wd 22 (by decide +kernel) (by decide +kernel), x_wd 52 (by decide +kernel) (by decide +kernel), x_wd 811 (by decide +kernel) (by decide +kernel), ⟨by decide +kernel, by decide +kernel, by decide +kernel⟩, _, rfl, rfl⟩
theorem kv_X11_100 : x_KV RX11 100 M_X11_codeOf 3 8 := ⟨x_wd 840 (by decide +kernel) (by decide +kernel), x_wd 842 (by decide +kernel) (by decide +kernel), x_wd 26 (by decide +kernel) (by decide +kernel), x_wd 52 (by decide +kernel) (by decide +kernel), x_wd 843 (by decide +kernel) (by decide +kernel), ⟨by decide +kernel, by decide +kernel, by decide +kernel⟩, _, rfl, rfl⟩
theorem kv_X11_104 : x_KV RX11 104 M_X11_refuse 1 8 := ⟨x_wd 789 (by decide +kernel) (by decide +kernel), x_wd 791 (by decide +kernel) (by decide +kernel), x_wd 19 (by decide +kernel) (by decide +kernel), x_wd 52 (by decide +kernel) (by decide +kernel), x_wd 792 (by decide +kernel) (by decide +kernel), ⟨by decide +kernel, by decide +kernel, by decide +kernel⟩, _, rfl, rfl⟩
theorem fl_X11_17 : x_F RX11 17 8 2 := ⟨RX11, TX11, 25, rfl, inX11, by decide, Or.inl (x_wd 711 (by decide +kernel) (by decide +kernel))⟩
theorem fl_X11_21 : x_F RX11 21 8 3 := ⟨RX11, TX11, 25, rfl, inX11, by decide, Or.inl (x_wd 712 (by decide +kernel) (by decide +kernel))⟩
theorem kv_X11_108 : x_KV RX11 108 M_X11_isPost 1 8 := ⟨x_wd 801 (by decide +kernel) (by decide +kernel), x_wd 803 (by decide +kernel) (by decide +kernel), x_wd 21 (by decide +kernel) (by decide +kernel), x_wd 52 (by decide +kernel) (by decide +kernel), x_wd 804 (by decide +kernel) (by decide +kernel), ⟨by decide +kernel, by decide +kernel, by decide +kernel⟩, _, rfl, rfl⟩
theorem kv_X11_112 : x_KV RX11 112 M_X11_isTwo 2 8 := ⟨x_wd 797 (by decide +kernel) (by decide +kernel), x_wd 799 (by decide +kernel) (by decide +kernel), x_wd 20 (by decide +kernel) (by decide +kernel), x_wd 52 (by decide +kernel) (by decide +kernel), x_wd 800 (by decide +kernel) (by decide +kernel), ⟨by decide +kernel, by decide +kernel, by decide +kernel⟩, _, rfl, rfl⟩
theorem kv_X11_115 : x_KV RX11 115 M_X11_linkAt 1 8 := ⟨x_wd 824 (by decide +kernel) (by decide +kernel), x_wd 826 (by decide +kernel) (by decide +kernel), x_wd 23 (by decide +kernel) (by decide +kernel), x_wd 52 (by decide +kernel) (by decide +kernel), x_wd 827 (by decide +kernel) (by decide +kernel), ⟨by decide +kernel, by decide +kernel, by decide +kernel⟩, _, rfl, rfl⟩
theorem kv_X11_118 : x_KV RX11 118 M_X11_areThree 3 8 := ⟨x_wd 832 (by decide +kernel) (by decide +kernel), x_wd 834 (by decide +kernel) (by decide +kernel), x_wd 24 (by decide +kernel) (by decide +kernel), x_wd 52 (by decide +kernel) (by decide +kernel), x_wd 835 (by decide +kernel) (by decide +kernel), ⟨by decide +kernel, by decide +kernel, by decide +kernel⟩, _, rfl, rfl⟩
theorem kv_X11_121 : x_KV RX11 121 M_X11_shapeOfThree 3 8 := ⟨x_wd 836 (by decide +kernel) (by decide +kernel), x_wd 838 (by decide +kernel) (by decide +kernel), x_wd 25 (by decide +kernel) (by decide +kernel), x_wd 52 (by decide +kernel) (by decide +kernel), x_wd 839 (by decide +kernel) (by decide +kernel), ⟨by decide +kernel, by decide +kernel, by decide +kernel⟩, _, rfl, rfl⟩
theorem ks_X11_124 : x_KS RX11 124 M_X11_isShape 1 := ⟨x_wd 848 (by decide +kernel) (by decide +kernel), x_wd 849 (by decide +kernel) (by decide +kernel), x_wd 52 (by decide +kernel) (by decide +kernel), x_wd 850 (by decide +kernel) (by decide +kernel), ⟨by decide +kernel, by decide +kernel, by decide +kernel⟩⟩
theorem ks_X11_127 : x_KS RX11 127 M_X11_ones 1 := ⟨x_wd 851 (by decide +kernel) (by decide +kernel), x_wd 852 (by decide +kernel) (by decide +kernel), x_wd 52 (by decide +kernel) (by decide +kernel), x_wd 853 (by decide +kernel) (by decide +kernel), ⟨by decide +kernel, by decide +kernel, by decide +kernel⟩⟩
theorem kv_X11_130 : x_KV RX11 130 M_X11_placeIn 2 8 := ⟨x_wd 854 (by decide +kernel) (by decide +kernel), x_wd 856 (by decide +kernel) (by decide +kernel), x_wd 27 (by decide +kernel) (by decide +kernel), x_wd 52 (by decide +kernel) (by decide +kernel), x_wd 857 (by decide +kernel) (by decide +kernel), ⟨by decide +kernel, by decide +kernel, by decide +kernel⟩, _, rfl, rfl⟩
theorem kv_X11_133 : x_KV RX11 133 M_X11_countShape 1 8 := ⟨x_wd 866 (by decide +kernel) (by decide +kernel), x_wd 868 (by decide +kernel) (by decide +kernel), x_wd 28 (by decide +kernel) (by decide +kernel), x_wd 52 (by decide +kernel) (by decide +kernel), x_wd 869 (by decide +kernel) (by decide +kernel), ⟨by decide +kernel, by decide +kernel, by decide +kernel⟩, _, rfl, rfl⟩
theorem fl_X11_51 : x_F RX11 51 8 13 := ⟨RX11, TX11, 25, rfl, inX11, by decide, Or.inl (x_wd 722 (by decide +kernel) (by decide +kernel))⟩
theorem kv_X11_136 : x_KV RX11 136 M_X11_findCounts 0 8 := ⟨x_wd 874 (by decide +kernel) (by decide +kernel), x_wd 876 (by decide +kernel) (by decide +kernel), x_wd 29 (by decide +kernel) (by decide +kernel), x_wd 52 (by decide +kernel) (by decide +kernel), x_wd 877 (by decide +kernel) (by decide +kernel), ⟨by decide +kernel, by decide +kernel, by decide +kernel⟩, _, rfl, rfl⟩
theorem fl_X11_54 : x_F RX11 54 8 14 := ⟨RX11, TX11, 25, rfl, inX11, by decide, Or.inl (x_wd 723 (by decide +kernel) (by decide +kernel))⟩
theorem kv_X11_139 : x_KV RX11 139 M_X11_findRoles 0 8 := ⟨x_wd 882 (by decide +kernel) (by decide +kernel), x_wd 884 (by decide +kernel) (by decide +kernel), x_wd 30 (by decide +kernel) (by decide +kernel), x_wd 52 (by decide +kernel) (by decide +kernel), x_wd 885 (by decide +kernel) (by decide +kernel), ⟨by decide +kernel, by decide +kernel, by decide +kernel⟩, _, rfl, rfl⟩
theorem fl_X11_57 : x_F RX11 57 8 15 := ⟨RX11, TX11, 25, rfl, inX11, by decide, Or.inl (x_wd 724 (by decide +kernel) (by decide +kernel))⟩
theorem kv_X11_143 : x_KV RX11 143 M_X11_isBeside 2 8 := ⟨x_wd 898 (by decide +kernel) (by decide +kernel), x_wd 900 (by decide +kernel) (by decide +kernel), x_wd 32 (by decide +kernel) (by decide +kernel), x_wd 52 (by decide +kernel) (by decide +kernel), x_wd 901 (by decide +kernel) (by decide +kernel), ⟨by decide +kernel, by decide +kernel, by decide +kernel⟩, _, rfl, rfl⟩
theorem kv_X11_146 : x_KV RX11 146 M_X11_kindOfFour 0 8 := ⟨x_wd 894 (by decide +kernel) (by decide +kernel), x_wd 896 (by decide +kernel) (by decide +kernel), x_wd 31 (by decide +kernel) (by decide +kernel), x_wd 52 (by decide +kernel) (by decide +kernel), x_wd 897 (by decide +kernel) (by decide +kernel), ⟨by decide +kernel, by decide +kernel, by decide +kernel⟩, _, rfl, rfl⟩
theorem fl_X11_24 : x_F RX11 24 8 4 := ⟨RX11, TX11, 25, rfl, inX11, by decide, Or.inl (x_wd 713 (by decide +kernel) (by decide +kernel))⟩
theorem wc_X11_149 : Cond.constant RX11 149 (1103515245 : Int32) ∈ wB := x_wd 934 (by decide +kernel) (by decide +kernel)
theorem kv_X11_150 : x_KV RX11 150 M_X11_putLink 4 8 := ⟨x_wd 918 (by decide +kernel) (by decide +kernel), x_wd 920 (by decide +kernel) (by decide +kernel), x_wd 35 (by decide +kernel) (by decide +kernel), x_wd 52 (by decide +kernel) (by decide +kernel), x_wd 921 (by decide +kernel) (by decide +kernel), ⟨by decide +kernel, by decide +kernel, by decide +kernel⟩, _, rfl, rfl⟩
theorem kv_X11_154 : x_KV RX11 154 M_X11_maySwap 2 8 := ⟨x_wd 910 (by decide +kernel) (by decide +kernel), x_wd 912 (by decide +kernel) (by decide +kernel), x_wd 33 (by decide +kernel) (by decide +kernel), x_wd 52 (by decide +kernel) (by decide +kernel), x_wd 913 (by decide +kernel) (by decide +kernel), ⟨by decide +kernel, by decide +kernel, by decide +kernel⟩, _, rfl, rfl⟩
theorem kv_X11_157 : x_KV RX11 157 M_X11_doSwap 2 8 := ⟨x_wd 914 (by decide +kernel) (by decide +kernel), x_wd 916 (by decide +kernel) (by decide +kernel), x_wd 34 (by decide +kernel) (by decide +kernel), x_wd 52 (by decide +kernel) (by decide +kernel), x_wd 917 (by decide +kernel) (by decide +kernel), ⟨by decide +kernel, by decide +kernel, by decide +kernel⟩, _, rfl, rfl⟩
theorem kv_X11_161 : x_KV RX11 161 M_X11_links 0 8 := ⟨x_wd 926 (by decide +kernel) (by decide +kernel), x_wd 928 (by decide +kernel) (by decide +kernel), x_wd 36 (by decide +kernel) (by decide +kernel), x_wd 52 (by decide +kernel) (by decide +kernel), x_wd 929 (by decide +kernel) (by decide +kernel), ⟨by decide +kernel, by decide +kernel, by decide +kernel⟩, _, rfl, rfl⟩
theorem kv_X11_164 : x_KV RX11 164 M_X11_drawBelow 1 8 := ⟨x_wd 930 (by decide +kernel) (by decide +kernel), x_wd 932 (by decide +kernel) (by decide +kernel), x_wd 37 (by decide +kernel) (by decide +kernel), x_wd 52 (by decide +kernel) (by decide +kernel), x_wd 933 (by decide +kernel) (by decide +kernel), ⟨by decide +kernel, by decide +kernel, by decide +kernel⟩, _, rfl, rfl⟩
theorem ks_X11_167 : x_KS RX11 167 M_X11_threes 1 := ⟨x_wd 943 (by decide +kernel) (by decide +kernel), x_wd 944 (by decide +kernel) (by decide +kernel), x_wd 52 (by decide +kernel) (by decide +kernel), x_wd 945 (by decide +kernel) (by decide +kernel), ⟨by decide +kernel, by decide +kernel, by decide +kernel⟩⟩
theorem ks_X11_170 : x_KS RX11 170 M_X11_fall 2 := ⟨x_wd 946 (by decide +kernel) (by decide +kernel), x_wd 947 (by decide +kernel) (by decide +kernel), x_wd 52 (by decide +kernel) (by decide +kernel), x_wd 948 (by decide +kernel) (by decide +kernel), ⟨by decide +kernel, by decide +kernel, by decide +kernel⟩⟩
theorem fw_X11_174 : x_FW RX11 174 8 16 (.long) false := ⟨RX11, TX11, 25, tyX11, rfl, inX11, tyX11_ok, nmX11, by decide, by decide +kernel, rfl, fun _ => rfl, Or.inl (x_wd 725 (by decide +kernel) (by decide +kernel))⟩
theorem fw_X11_178 : x_FW RX11 178 8 17 (.long) false := ⟨RX11, TX11, 25, tyX11, rfl, inX11, tyX11_ok, nmX11, by decide, by decide +kernel, rfl, fun _ => rfl, Or.inl (x_wd 726 (by decide +kernel) (by decide +kernel))⟩
theorem fl_X11_174 : x_F RX11 174 8 16 := ⟨RX11, TX11, 25, rfl, inX11, by decide, Or.inl (x_wd 725 (by decide +kernel) (by decide +kernel))⟩
theorem fl_X11_178 : x_F RX11 178 8 17 := ⟨RX11, TX11, 25, rfl, inX11, by decide, Or.inl (x_wd 726 (by decide +kernel) (by decide +kernel))⟩
theorem ks_X11_181 : x_KS RX11 181 M_X11_divisor 2 := ⟨x_wd 949 (by decide +kernel) (by decide +kernel), x_wd 950 (by decide +kernel) (by decide +kernel), x_wd 52 (by decide +kernel) (by decide +kernel), x_wd 951 (by decide +kernel) (by decide +kernel), ⟨by decide +kernel, by decide +kernel, by decide +kernel⟩⟩
theorem kv_X11_185 : x_KV RX11 185 M_X11_findMean 1 8 := ⟨x_wd 939 (by decide +kernel) (by decide +kernel), x_wd 941 (by decide +kernel) (by decide +kernel), x_wd 38 (by decide +kernel) (by decide +kernel), x_wd 52 (by decide +kernel) (by decide +kernel), x_wd 942 (by decide +kernel) (by decide +kernel), ⟨by decide +kernel, by decide +kernel, by decide +kernel⟩, _, rfl, rfl⟩
theorem wc_X11_189 : Cond.constant RX11 189 (2000000001 : Int32) ∈ wB := x_wd 956 (by decide +kernel) (by decide +kernel)
theorem kv_X11_190 : x_KV RX11 190 M_X11_isAgainst 2 8 := ⟨x_wd 969 (by decide +kernel) (by decide +kernel), x_wd 971 (by decide +kernel) (by decide +kernel), x_wd 39 (by decide +kernel) (by decide +kernel), x_wd 52 (by decide +kernel) (by decide +kernel), x_wd 972 (by decide +kernel) (by decide +kernel), ⟨by decide +kernel, by decide +kernel, by decide +kernel⟩, _, rfl, rfl⟩
theorem fl_X11_60 : x_F RX11 60 8 18 := ⟨RX11, TX11, 25, rfl, inX11, by decide, Or.inl (x_wd 727 (by decide +kernel) (by decide +kernel))⟩
theorem fl_X11_63 : x_F RX11 63 8 19 := ⟨RX11, TX11, 25, rfl, inX11, by decide, Or.inl (x_wd 728 (by decide +kernel) (by decide +kernel))⟩
theorem fl_X11_66 : x_F RX11 66 8 20 := ⟨RX11, TX11, 25, rfl, inX11, by decide, Or.inl (x_wd 729 (by decide +kernel) (by decide +kernel))⟩
theorem fl_X11_73 : x_F RX11 73 8 22 := ⟨RX11, TX11, 25, rfl, inX11, by decide, Or.inl (x_wd 731 (by decide +kernel) (by decide +kernel))⟩
theorem fl_X11_69 : x_F RX11 69 8 21 := ⟨RX11, TX11, 25, rfl, inX11, by decide, Or.inl (x_wd 730 (by decide +kernel) (by decide +kernel))⟩
theorem wc_X11_193 : Cond.constantLong RX11 193 (1000000000 : Int64) ∈ wB := x_wd 985 (by decide +kernel) (by decide +kernel)
theorem kv_X11_195 : x_KV RX11 195 M_X11_addWays 2 8 := ⟨x_wd 981 (by decide +kernel) (by decide +kernel), x_wd 983 (by decide +kernel) (by decide +kernel), x_wd 40 (by decide +kernel) (by decide +kernel), x_wd 52 (by decide +kernel) (by decide +kernel), x_wd 984 (by decide +kernel) (by decide +kernel), ⟨by decide +kernel, by decide +kernel, by decide +kernel⟩, _, rfl, rfl⟩
theorem ks_X11_198 : x_KS RX11 198 M_X11_isSheet 1 := ⟨x_wd 994 (by decide +kernel) (by decide +kernel), x_wd 995 (by decide +kernel) (by decide +kernel), x_wd 52 (by decide +kernel) (by decide +kernel), x_wd 996 (by decide +kernel) (by decide +kernel), ⟨by decide +kernel, by decide +kernel, by decide +kernel⟩⟩
theorem fl_X11_27 : x_F RX11 27 8 5 := ⟨RX11, TX11, 25, rfl, inX11, by decide, Or.inl (x_wd 714 (by decide +kernel) (by decide +kernel))⟩
theorem fl_X11_30 : x_F RX11 30 8 6 := ⟨RX11, TX11, 25, rfl, inX11, by decide, Or.inl (x_wd 715 (by decide +kernel) (by decide +kernel))⟩
theorem fl_X11_33 : x_F RX11 33 8 7 := ⟨RX11, TX11, 25, rfl, inX11, by decide, Or.inl (x_wd 716 (by decide +kernel) (by decide +kernel))⟩
theorem fl_X11_36 : x_F RX11 36 8 8 := ⟨RX11, TX11, 25, rfl, inX11, by decide, Or.inl (x_wd 717 (by decide +kernel) (by decide +kernel))⟩
theorem kv_X11_201 : x_KV RX11 201 M_X11_load 1 8 := ⟨x_wd 1001 (by decide +kernel) (by decide +kernel), x_wd 1003 (by decide +kernel) (by decide +kernel), x_wd 41 (by decide +kernel) (by decide +kernel), x_wd 52 (by decide +kernel) (by decide +kernel), x_wd 1004 (by decide +kernel) (by decide +kernel), ⟨by decide +kernel, by decide +kernel, by decide +kernel⟩, _, rfl, rfl⟩
theorem fl_X11_79 : x_F RX11 79 8 24 := ⟨RX11, TX11, 25, rfl, inX11, by decide, Or.inl (x_wd 733 (by decide +kernel) (by decide +kernel))⟩
theorem fl_X11_76 : x_F RX11 76 8 23 := ⟨RX11, TX11, 25, rfl, inX11, by decide, Or.inl (x_wd 732 (by decide +kernel) (by decide +kernel))⟩
theorem nw_L_7 : x_NW RL 7 7 9 tyX10 := ⟨RX10, TX10, rfl, inX10, tyX10_ok, x_wd 59 (by decide +kernel) (by decide +kernel), x_wd 60 (by decide +kernel) (by decide +kernel), x_wd 43 (by decide +kernel) (by decide +kernel)⟩
theorem ki_L_9 : x_KI RL 9 M_X10_init 0 := ⟨Or.inl (x_wd 61 (by decide +kernel) (by decide +kernel)), x_wd 62 (by decide +kernel) (by decide +kernel), x_wd 43 (by decide +kernel) (by decide +kernel), x_wd 63 (by decide +kernel) (by decide +kernel), ⟨by decide +kernel, by decide +kernel, by decide +kernel⟩, rfl, rfl⟩
theorem nw_L_10 : x_NW RL 10 8 25 tyX11 := ⟨RX11, TX11, rfl, inX11, tyX11_ok, x_wd 694 (by decide +kernel) (by decide +kernel), x_wd 695 (by decide +kernel) (by decide +kernel), x_wd 52 (by decide +kernel) (by decide +kernel)⟩
theorem ki_L_12 : x_KI RL 12 M_X11_init 0 := ⟨Or.inl (x_wd 696 (by decide +kernel) (by decide +kernel)), x_wd 697 (by decide +kernel) (by decide +kernel), x_wd 52 (by decide +kernel) (by decide +kernel), x_wd 698 (by decide +kernel) (by decide +kernel), ⟨by decide +kernel, by decide +kernel, by decide +kernel⟩, rfl, rfl⟩
theorem kv_L_13 : x_KV RL 13 M_X10_posts 1 7 := ⟨x_wd 260 (by decide +kernel) (by decide +kernel), x_wd 261 (by decide +kernel) (by decide +kernel), x_wd 262 (by decide +kernel) (by decide +kernel), x_wd 43 (by decide +kernel) (by decide +kernel), x_wd 263 (by decide +kernel) (by decide +kernel), ⟨by decide +kernel, by decide +kernel, by decide +kernel⟩, _, rfl, rfl⟩
theorem kv_L_17 : x_KV RL 17 M_X11_posts 1 8 := ⟨x_wd 785 (by decide +kernel) (by decide +kernel), x_wd 786 (by decide +kernel) (by decide +kernel), x_wd 787 (by decide +kernel) (by decide +kernel), x_wd 52 (by decide +kernel) (by decide +kernel), x_wd 788 (by decide +kernel) (by decide +kernel), ⟨by decide +kernel, by decide +kernel, by decide +kernel⟩, _, rfl, rfl⟩
theorem kv_L_18 : x_KV RL 18 M_X10_link 4 7 := ⟨x_wd 272 (by decide +kernel) (by decide +kernel), x_wd 273 (by decide +kernel) (by decide +kernel), x_wd 274 (by decide +kernel) (by decide +kernel), x_wd 43 (by decide +kernel) (by decide +kernel), x_wd 275 (by decide +kernel) (by decide +kernel), ⟨by decide +kernel, by decide +kernel, by decide +kernel⟩, _, rfl, rfl⟩
theorem kv_L_22 : x_KV RL 22 M_X11_link 4 8 := ⟨x_wd 793 (by decide +kernel) (by decide +kernel), x_wd 794 (by decide +kernel) (by decide +kernel), x_wd 795 (by decide +kernel) (by decide +kernel), x_wd 52 (by decide +kernel) (by decide +kernel), x_wd 796 (by decide +kernel) (by decide +kernel), ⟨by decide +kernel, by decide +kernel, by decide +kernel⟩, _, rfl, rfl⟩
theorem kv_L_23 : x_KV RL 23 M_X10_cut 2 7 := ⟨x_wd 303 (by decide +kernel) (by decide +kernel), x_wd 304 (by decide +kernel) (by decide +kernel), x_wd 305 (by decide +kernel) (by decide +kernel), x_wd 43 (by decide +kernel) (by decide +kernel), x_wd 306 (by decide +kernel) (by decide +kernel), ⟨by decide +kernel, by decide +kernel, by decide +kernel⟩, _, rfl, rfl⟩
theorem kv_L_27 : x_KV RL 27 M_X11_cut 2 8 := ⟨x_wd 812 (by decide +kernel) (by decide +kernel), x_wd 813 (by decide +kernel) (by decide +kernel), x_wd 814 (by decide +kernel) (by decide +kernel), x_wd 52 (by decide +kernel) (by decide +kernel), x_wd 815 (by decide +kernel) (by decide +kernel), ⟨by decide +kernel, by decide +kernel, by decide +kernel⟩, _, rfl, rfl⟩
theorem kv_L_28 : x_KV RL 28 M_X10_linkOf 3 7 := ⟨x_wd 308 (by decide +kernel) (by decide +kernel), x_wd 309 (by decide +kernel) (by decide +kernel), x_wd 310 (by decide +kernel) (by decide +kernel), x_wd 43 (by decide +kernel) (by decide +kernel), x_wd 311 (by decide +kernel) (by decide +kernel), ⟨by decide +kernel, by decide +kernel, by decide +kernel⟩, _, rfl, rfl⟩
theorem kv_L_32 : x_KV RL 32 M_X11_linkOf 3 8 := ⟨x_wd 816 (by decide +kernel) (by decide +kernel), x_wd 817 (by decide +kernel) (by decide +kernel), x_wd 818 (by decide +kernel) (by decide +kernel), x_wd 52 (by decide +kernel) (by decide +kernel), x_wd 819 (by decide +kernel) (by decide +kernel), ⟨by decide +kernel, by decide +kernel, by decide +kernel⟩, _, rfl, rfl⟩
theorem kv_L_33 : x_KV RL 33 M_X10_at 2 7 := ⟨x_wd 322 (by decide +kernel) (by decide +kernel), x_wd 323 (by decide +kernel) (by decide +kernel), x_wd 324 (by decide +kernel) (by decide +kernel), x_wd 43 (by decide +kernel) (by decide +kernel), x_wd 325 (by decide +kernel) (by decide +kernel), ⟨by decide +kernel, by decide +kernel, by decide +kernel⟩, _, rfl, rfl⟩
theorem kv_L_36 : x_KV RL 36 M_X11_at 2 8 := ⟨x_wd 820 (by decide +kernel) (by decide +kernel), x_wd 821 (by decide +kernel) (by decide +kernel), x_wd 822 (by decide +kernel) (by decide +kernel), x_wd 52 (by decide +kernel) (by decide +kernel), x_wd 823 (by decide +kernel) (by decide +kernel), ⟨by decide +kernel, by decide +kernel, by decide +kernel⟩, _, rfl, rfl⟩
theorem kv_L_37 : x_KV RL 37 M_X10_shape 3 7 := ⟨x_wd 353 (by decide +kernel) (by decide +kernel), x_wd 354 (by decide +kernel) (by decide +kernel), x_wd 355 (by decide +kernel) (by decide +kernel), x_wd 43 (by decide +kernel) (by decide +kernel), x_wd 356 (by decide +kernel) (by decide +kernel), ⟨by decide +kernel, by decide +kernel, by decide +kernel⟩, _, rfl, rfl⟩
theorem kv_L_40 : x_KV RL 40 M_X11_shape 3 8 := ⟨x_wd 828 (by decide +kernel) (by decide +kernel), x_wd 829 (by decide +kernel) (by decide +kernel), x_wd 830 (by decide +kernel) (by decide +kernel), x_wd 52 (by decide +kernel) (by decide +kernel), x_wd 831 (by decide +kernel) (by decide +kernel), ⟨by decide +kernel, by decide +kernel, by decide +kernel⟩, _, rfl, rfl⟩
theorem kv_L_41 : x_KV RL 41 M_X10_shapeOf 2 7 := ⟨x_wd 365 (by decide +kernel) (by decide +kernel), x_wd 366 (by decide +kernel) (by decide +kernel), x_wd 367 (by decide +kernel) (by decide +kernel), x_wd 43 (by decide +kernel) (by decide +kernel), x_wd 368 (by decide +kernel) (by decide +kernel), ⟨by decide +kernel, by decide +kernel, by decide +kernel⟩, _, rfl, rfl⟩
theorem kv_L_44 : x_KV RL 44 M_X11_shapeOf 2 8 := ⟨x_wd 844 (by decide +kernel) (by decide +kernel), x_wd 845 (by decide +kernel) (by decide +kernel), x_wd 846 (by decide +kernel) (by decide +kernel), x_wd 52 (by decide +kernel) (by decide +kernel), x_wd 847 (by decide +kernel) (by decide +kernel), ⟨by decide +kernel, by decide +kernel, by decide +kernel⟩, _, rfl, rfl⟩
theorem kv_L_45 : x_KV RL 45 M_X10_place 3 7 := ⟨x_wd 377 (by decide +kernel) (by decide +kernel), x_wd 378 (by decide +kernel) (by decide +kernel), x_wd 379 (by decide +kernel) (by decide +kernel), x_wd 43 (by decide +kernel) (by decide +kernel), x_wd 380 (by decide +kernel) (by decide +kernel), ⟨by decide +kernel, by decide +kernel, by decide +kernel⟩, _, rfl, rfl⟩
theorem kv_L_48 : x_KV RL 48 M_X11_place 3 8 := ⟨x_wd 858 (by decide +kernel) (by decide +kernel), x_wd 859 (by decide +kernel) (by decide +kernel), x_wd 860 (by decide +kernel) (by decide +kernel), x_wd 52 (by decide +kernel) (by decide +kernel), x_wd 861 (by decide +kernel) (by decide +kernel), ⟨by decide +kernel, by decide +kernel, by decide +kernel⟩, _, rfl, rfl⟩
theorem kv_L_49 : x_KV RL 49 M_X10_count 1 7 := ⟨x_wd 382 (by decide +kernel) (by decide +kernel), x_wd 383 (by decide +kernel) (by decide +kernel), x_wd 384 (by decide +kernel) (by decide +kernel), x_wd 43 (by decide +kernel) (by decide +kernel), x_wd 385 (by decide +kernel) (by decide +kernel), ⟨by decide +kernel, by decide +kernel, by decide +kernel⟩, _, rfl, rfl⟩
theorem kv_L_52 : x_KV RL 52 M_X11_count 1 8 := ⟨x_wd 862 (by decide +kernel) (by decide +kernel), x_wd 863 (by decide +kernel) (by decide +kernel), x_wd 864 (by decide +kernel) (by decide +kernel), x_wd 52 (by decide +kernel) (by decide +kernel), x_wd 865 (by decide +kernel) (by decide +kernel), ⟨by decide +kernel, by decide +kernel, by decide +kernel⟩, _, rfl, rfl⟩
theorem kv_L_53 : x_KV RL 53 M_X10_countOf 3 7 := ⟨x_wd 402 (by decide +kernel) (by decide +kernel), x_wd 403 (by decide +kernel) (by decide +kernel), x_wd 404 (by decide +kernel) (by decide +kernel), x_wd 43 (by decide +kernel) (by decide +kernel), x_wd 405 (by decide +kernel) (by decide +kernel), ⟨by decide +kernel, by decide +kernel, by decide +kernel⟩, _, rfl, rfl⟩
theorem kv_L_56 : x_KV RL 56 M_X11_countOf 3 8 := ⟨x_wd 870 (by decide +kernel) (by decide +kernel), x_wd 871 (by decide +kernel) (by decide +kernel), x_wd 872 (by decide +kernel) (by decide +kernel), x_wd 52 (by decide +kernel) (by decide +kernel), x_wd 873 (by decide +kernel) (by decide +kernel), ⟨by decide +kernel, by decide +kernel, by decide +kernel⟩, _, rfl, rfl⟩
theorem kv_L_57 : x_KV RL 57 M_X10_role 1 7 := ⟨x_wd 422 (by decide +kernel) (by decide +kernel), x_wd 423 (by decide +kernel) (by decide +kernel), x_wd 424 (by decide +kernel) (by decide +kernel), x_wd 43 (by decide +kernel) (by decide +kernel), x_wd 425 (by decide +kernel) (by decide +kernel), ⟨by decide +kernel, by decide +kernel, by decide +kernel⟩, _, rfl, rfl⟩
theorem kv_L_60 : x_KV RL 60 M_X11_role 1 8 := ⟨x_wd 878 (by decide +kernel) (by decide +kernel), x_wd 879 (by decide +kernel) (by decide +kernel), x_wd 880 (by decide +kernel) (by decide +kernel), x_wd 52 (by decide +kernel) (by decide +kernel), x_wd 881 (by decide +kernel) (by decide +kernel), ⟨by decide +kernel, by decide +kernel, by decide +kernel⟩, _, rfl, rfl⟩
theorem kv_L_61 : x_KV RL 61 M_X10_roles 0 7 := ⟨x_wd 439 (by decide +kernel) (by decide +kernel), x_wd 440 (by decide +kernel) (by decide +kernel), x_wd 441 (by decide +kernel) (by decide +kernel), x_wd 43 (by decide +kernel) (by decide +kernel), x_wd 442 (by decide +kernel) (by decide +kernel), ⟨by decide +kernel, by decide +kernel, by decide +kernel⟩, _, rfl, rfl⟩
theorem kv_L_65 : x_KV RL 65 M_X11_roles 0 8 := ⟨x_wd 886 (by decide +kernel) (by decide +kernel), x_wd 887 (by decide +kernel) (by decide +kernel), x_wd 888 (by decide +kernel) (by decide +kernel), x_wd 52 (by decide +kernel) (by decide +kernel), x_wd 889 (by decide +kernel) (by decide +kernel), ⟨by decide +kernel, by decide +kernel, by decide +kernel⟩, _, rfl, rfl⟩
theorem kv_L_66 : x_KV RL 66 M_X10_fours 1 7 := ⟨x_wd 443 (by decide +kernel) (by decide +kernel), x_wd 444 (by decide +kernel) (by decide +kernel), x_wd 445 (by decide +kernel) (by decide +kernel), x_wd 43 (by decide +kernel) (by decide +kernel), x_wd 446 (by decide +kernel) (by decide +kernel), ⟨by decide +kernel, by decide +kernel, by decide +kernel⟩, _, rfl, rfl⟩
theorem kv_L_69 : x_KV RL 69 M_X11_fours 1 8 := ⟨x_wd 890 (by decide +kernel) (by decide +kernel), x_wd 891 (by decide +kernel) (by decide +kernel), x_wd 892 (by decide +kernel) (by decide +kernel), x_wd 52 (by decide +kernel) (by decide +kernel), x_wd 893 (by decide +kernel) (by decide +kernel), ⟨by decide +kernel, by decide +kernel, by decide +kernel⟩, _, rfl, rfl⟩
theorem kv_L_70 : x_KV RL 70 M_X10_seed 1 7 := ⟨x_wd 467 (by decide +kernel) (by decide +kernel), x_wd 468 (by decide +kernel) (by decide +kernel), x_wd 469 (by decide +kernel) (by decide +kernel), x_wd 43 (by decide +kernel) (by decide +kernel), x_wd 470 (by decide +kernel) (by decide +kernel), ⟨by decide +kernel, by decide +kernel, by decide +kernel⟩, _, rfl, rfl⟩
theorem kv_L_73 : x_KV RL 73 M_X11_seed 1 8 := ⟨x_wd 902 (by decide +kernel) (by decide +kernel), x_wd 903 (by decide +kernel) (by decide +kernel), x_wd 904 (by decide +kernel) (by decide +kernel), x_wd 52 (by decide +kernel) (by decide +kernel), x_wd 905 (by decide +kernel) (by decide +kernel), ⟨by decide +kernel, by decide +kernel, by decide +kernel⟩, _, rfl, rfl⟩
theorem kv_L_74 : x_KV RL 74 M_X10_swap 2 7 := ⟨x_wd 471 (by decide +kernel) (by decide +kernel), x_wd 472 (by decide +kernel) (by decide +kernel), x_wd 473 (by decide +kernel) (by decide +kernel), x_wd 43 (by decide +kernel) (by decide +kernel), x_wd 474 (by decide +kernel) (by decide +kernel), ⟨by decide +kernel, by decide +kernel, by decide +kernel⟩, _, rfl, rfl⟩
theorem kv_L_77 : x_KV RL 77 M_X11_swap 2 8 := ⟨x_wd 906 (by decide +kernel) (by decide +kernel), x_wd 907 (by decide +kernel) (by decide +kernel), x_wd 908 (by decide +kernel) (by decide +kernel), x_wd 52 (by decide +kernel) (by decide +kernel), x_wd 909 (by decide +kernel) (by decide +kernel), ⟨by decide +kernel, by decide +kernel, by decide +kernel⟩, _, rfl, rfl⟩
theorem kv_L_78 : x_KV RL 78 M_X10_mix 1 7 := ⟨x_wd 484 (by decide +kernel) (by decide +kernel), x_wd 485 (by decide +kernel) (by decide +kernel), x_wd 486 (by decide +kernel) (by decide +kernel), x_wd 43 (by decide +kernel) (by decide +kernel), x_wd 487 (by decide +kernel) (by decide +kernel), ⟨by decide +kernel, by decide +kernel, by decide +kernel⟩, _, rfl, rfl⟩
theorem kv_L_81 : x_KV RL 81 M_X11_mix 1 8 := ⟨x_wd 922 (by decide +kernel) (by decide +kernel), x_wd 923 (by decide +kernel) (by decide +kernel), x_wd 924 (by decide +kernel) (by decide +kernel), x_wd 52 (by decide +kernel) (by decide +kernel), x_wd 925 (by decide +kernel) (by decide +kernel), ⟨by decide +kernel, by decide +kernel, by decide +kernel⟩, _, rfl, rfl⟩
theorem kv_L_82 : x_KV RL 82 M_X10_mean 2 7 := ⟨x_wd 500 (by decide +kernel) (by decide +kernel), x_wd 501 (by decide +kernel) (by decide +kernel), x_wd 502 (by decide +kernel) (by decide +kernel), x_wd 43 (by decide +kernel) (by decide +kernel), x_wd 503 (by decide +kernel) (by decide +kernel), ⟨by decide +kernel, by decide +kernel, by decide +kernel⟩, _, rfl, rfl⟩
theorem kv_L_86 : x_KV RL 86 M_X11_mean 2 8 := ⟨x_wd 935 (by decide +kernel) (by decide +kernel), x_wd 936 (by decide +kernel) (by decide +kernel), x_wd 937 (by decide +kernel) (by decide +kernel), x_wd 52 (by decide +kernel) (by decide +kernel), x_wd 938 (by decide +kernel) (by decide +kernel), ⟨by decide +kernel, by decide +kernel, by decide +kernel⟩, _, rfl, rfl⟩
theorem kv_L_87 : x_KV RL 87 M_X10_more 1 7 := ⟨x_wd 523 (by decide +kernel) (by decide +kernel), x_wd 524 (by decide +kernel) (by decide +kernel), x_wd 525 (by decide +kernel) (by decide +kernel), x_wd 43 (by decide +kernel) (by decide +kernel), x_wd 526 (by decide +kernel) (by decide +kernel), ⟨by decide +kernel, by decide +kernel, by decide +kernel⟩, _, rfl, rfl⟩
theorem kv_L_90 : x_KV RL 90 M_X11_more 1 8 := ⟨x_wd 952 (by decide +kernel) (by decide +kernel), x_wd 953 (by decide +kernel) (by decide +kernel), x_wd 954 (by decide +kernel) (by decide +kernel), x_wd 52 (by decide +kernel) (by decide +kernel), x_wd 955 (by decide +kernel) (by decide +kernel), ⟨by decide +kernel, by decide +kernel, by decide +kernel⟩, _, rfl, rfl⟩
theorem kv_L_91 : x_KV RL 91 M_X10_chains 2 7 := ⟨x_wd 531 (by decide +kernel) (by decide +kernel), x_wd 532 (by decide +kernel) (by decide +kernel), x_wd 533 (by decide +kernel) (by decide +kernel), x_wd 43 (by decide +kernel) (by decide +kernel), x_wd 534 (by decide +kernel) (by decide +kernel), ⟨by decide +kernel, by decide +kernel, by decide +kernel⟩, _, rfl, rfl⟩
theorem kv_L_94 : x_KV RL 94 M_X11_chains 2 8 := ⟨x_wd 957 (by decide +kernel) (by decide +kernel), x_wd 958 (by decide +kernel) (by decide +kernel), x_wd 959 (by decide +kernel) (by decide +kernel), x_wd 52 (by decide +kernel) (by decide +kernel), x_wd 960 (by decide +kernel) (by decide +kernel), ⟨by decide +kernel, by decide +kernel, by decide +kernel⟩, _, rfl, rfl⟩
theorem kv_L_95 : x_KV RL 95 M_X10_burst 2 7 := ⟨x_wd 546 (by decide +kernel) (by decide +kernel), x_wd 547 (by decide +kernel) (by decide +kernel), x_wd 548 (by decide +kernel) (by decide +kernel), x_wd 43 (by decide +kernel) (by decide +kernel), x_wd 549 (by decide +kernel) (by decide +kernel), ⟨by decide +kernel, by decide +kernel, by decide +kernel⟩, _, rfl, rfl⟩
theorem kv_L_98 : x_KV RL 98 M_X11_burst 2 8 := ⟨x_wd 961 (by decide +kernel) (by decide +kernel), x_wd 962 (by decide +kernel) (by decide +kernel), x_wd 963 (by decide +kernel) (by decide +kernel), x_wd 52 (by decide +kernel) (by decide +kernel), x_wd 964 (by decide +kernel) (by decide +kernel), ⟨by decide +kernel, by decide +kernel, by decide +kernel⟩, _, rfl, rfl⟩
theorem kv_L_99 : x_KV RL 99 M_X10_signs 1 7 := ⟨x_wd 557 (by decide +kernel) (by decide +kernel), x_wd 558 (by decide +kernel) (by decide +kernel), x_wd 559 (by decide +kernel) (by decide +kernel), x_wd 43 (by decide +kernel) (by decide +kernel), x_wd 560 (by decide +kernel) (by decide +kernel), ⟨by decide +kernel, by decide +kernel, by decide +kernel⟩, _, rfl, rfl⟩
theorem kv_L_102 : x_KV RL 102 M_X11_signs 1 8 := ⟨x_wd 965 (by decide +kernel) (by decide +kernel), x_wd 966 (by decide +kernel) (by decide +kernel), x_wd 967 (by decide +kernel) (by decide +kernel), x_wd 52 (by decide +kernel) (by decide +kernel), x_wd 968 (by decide +kernel) (by decide +kernel), ⟨by decide +kernel, by decide +kernel, by decide +kernel⟩, _, rfl, rfl⟩
theorem kv_L_103 : x_KV RL 103 M_X10_sides 1 7 := ⟨x_wd 575 (by decide +kernel) (by decide +kernel), x_wd 576 (by decide +kernel) (by decide +kernel), x_wd 577 (by decide +kernel) (by decide +kernel), x_wd 43 (by decide +kernel) (by decide +kernel), x_wd 578 (by decide +kernel) (by decide +kernel), ⟨by decide +kernel, by decide +kernel, by decide +kernel⟩, _, rfl, rfl⟩
theorem kv_L_106 : x_KV RL 106 M_X11_sides 1 8 := ⟨x_wd 973 (by decide +kernel) (by decide +kernel), x_wd 974 (by decide +kernel) (by decide +kernel), x_wd 975 (by decide +kernel) (by decide +kernel), x_wd 52 (by decide +kernel) (by decide +kernel), x_wd 976 (by decide +kernel) (by decide +kernel), ⟨by decide +kernel, by decide +kernel, by decide +kernel⟩, _, rfl, rfl⟩
theorem kv_L_107 : x_KV RL 107 M_X10_walks 4 7 := ⟨x_wd 607 (by decide +kernel) (by decide +kernel), x_wd 608 (by decide +kernel) (by decide +kernel), x_wd 609 (by decide +kernel) (by decide +kernel), x_wd 43 (by decide +kernel) (by decide +kernel), x_wd 610 (by decide +kernel) (by decide +kernel), ⟨by decide +kernel, by decide +kernel, by decide +kernel⟩, _, rfl, rfl⟩
theorem kv_L_110 : x_KV RL 110 M_X11_walks 4 8 := ⟨x_wd 977 (by decide +kernel) (by decide +kernel), x_wd 978 (by decide +kernel) (by decide +kernel), x_wd 979 (by decide +kernel) (by decide +kernel), x_wd 52 (by decide +kernel) (by decide +kernel), x_wd 980 (by decide +kernel) (by decide +kernel), ⟨by decide +kernel, by decide +kernel, by decide +kernel⟩, _, rfl, rfl⟩
theorem kv_L_111 : x_KV RL 111 M_X10_sample 3 7 := ⟨x_wd 633 (by decide +kernel) (by decide +kernel), x_wd 634 (by decide +kernel) (by decide +kernel), x_wd 635 (by decide +kernel) (by decide +kernel), x_wd 43 (by decide +kernel) (by decide +kernel), x_wd 636 (by decide +kernel) (by decide +kernel), ⟨by decide +kernel, by decide +kernel, by decide +kernel⟩, _, rfl, rfl⟩
theorem kv_L_114 : x_KV RL 114 M_X11_sample 3 8 := ⟨x_wd 986 (by decide +kernel) (by decide +kernel), x_wd 987 (by decide +kernel) (by decide +kernel), x_wd 988 (by decide +kernel) (by decide +kernel), x_wd 52 (by decide +kernel) (by decide +kernel), x_wd 989 (by decide +kernel) (by decide +kernel), ⟨by decide +kernel, by decide +kernel, by decide +kernel⟩, _, rfl, rfl⟩
theorem kv_L_115 : x_KV RL 115 M_X10_keep 1 7 := ⟨x_wd 638 (by decide +kernel) (by decide +kernel), x_wd 639 (by decide +kernel) (by decide +kernel), x_wd 640 (by decide +kernel) (by decide +kernel), x_wd 43 (by decide +kernel) (by decide +kernel), x_wd 641 (by decide +kernel) (by decide +kernel), ⟨by decide +kernel, by decide +kernel, by decide +kernel⟩, _, rfl, rfl⟩
theorem kv_L_118 : x_KV RL 118 M_X11_keep 1 8 := ⟨x_wd 990 (by decide +kernel) (by decide +kernel), x_wd 991 (by decide +kernel) (by decide +kernel), x_wd 992 (by decide +kernel) (by decide +kernel), x_wd 52 (by decide +kernel) (by decide +kernel), x_wd 993 (by decide +kernel) (by decide +kernel), ⟨by decide +kernel, by decide +kernel, by decide +kernel⟩, _, rfl, rfl⟩
theorem kv_L_119 : x_KV RL 119 M_X10_take 1 7 := ⟨x_wd 652 (by decide +kernel) (by decide +kernel), x_wd 653 (by decide +kernel) (by decide +kernel), x_wd 654 (by decide +kernel) (by decide +kernel), x_wd 43 (by decide +kernel) (by decide +kernel), x_wd 655 (by decide +kernel) (by decide +kernel), ⟨by decide +kernel, by decide +kernel, by decide +kernel⟩, _, rfl, rfl⟩
theorem kv_L_122 : x_KV RL 122 M_X11_take 1 8 := ⟨x_wd 997 (by decide +kernel) (by decide +kernel), x_wd 998 (by decide +kernel) (by decide +kernel), x_wd 999 (by decide +kernel) (by decide +kernel), x_wd 52 (by decide +kernel) (by decide +kernel), x_wd 1000 (by decide +kernel) (by decide +kernel), ⟨by decide +kernel, by decide +kernel, by decide +kernel⟩, _, rfl, rfl⟩
theorem kv_L_123 : x_KV RL 123 M_X10_lose 1 7 := ⟨x_wd 656 (by decide +kernel) (by decide +kernel), x_wd 657 (by decide +kernel) (by decide +kernel), x_wd 658 (by decide +kernel) (by decide +kernel), x_wd 43 (by decide +kernel) (by decide +kernel), x_wd 659 (by decide +kernel) (by decide +kernel), ⟨by decide +kernel, by decide +kernel, by decide +kernel⟩, _, rfl, rfl⟩
theorem kv_L_126 : x_KV RL 126 M_X11_lose 1 8 := ⟨x_wd 1005 (by decide +kernel) (by decide +kernel), x_wd 1006 (by decide +kernel) (by decide +kernel), x_wd 1007 (by decide +kernel) (by decide +kernel), x_wd 52 (by decide +kernel) (by decide +kernel), x_wd 1008 (by decide +kernel) (by decide +kernel), ⟨by decide +kernel, by decide +kernel, by decide +kernel⟩, _, rfl, rfl⟩
theorem kv_L_127 : x_KV RL 127 M_X10_far 1 7 := ⟨x_wd 660 (by decide +kernel) (by decide +kernel), x_wd 661 (by decide +kernel) (by decide +kernel), x_wd 662 (by decide +kernel) (by decide +kernel), x_wd 43 (by decide +kernel) (by decide +kernel), x_wd 663 (by decide +kernel) (by decide +kernel), ⟨by decide +kernel, by decide +kernel, by decide +kernel⟩, _, rfl, rfl⟩
theorem kv_L_130 : x_KV RL 130 M_X11_far 1 8 := ⟨x_wd 1009 (by decide +kernel) (by decide +kernel), x_wd 1010 (by decide +kernel) (by decide +kernel), x_wd 1011 (by decide +kernel) (by decide +kernel), x_wd 52 (by decide +kernel) (by decide +kernel), x_wd 1012 (by decide +kernel) (by decide +kernel), ⟨by decide +kernel, by decide +kernel, by decide +kernel⟩, _, rfl, rfl⟩
theorem kv_L_131 : x_KV RL 131 M_X10_status 1 7 := ⟨x_wd 672 (by decide +kernel) (by decide +kernel), x_wd 673 (by decide +kernel) (by decide +kernel), x_wd 674 (by decide +kernel) (by decide +kernel), x_wd 43 (by decide +kernel) (by decide +kernel), x_wd 675 (by decide +kernel) (by decide +kernel), ⟨by decide +kernel, by decide +kernel, by decide +kernel⟩, _, rfl, rfl⟩
theorem kv_L_134 : x_KV RL 134 M_X11_status 1 8 := ⟨x_wd 1013 (by decide +kernel) (by decide +kernel), x_wd 1014 (by decide +kernel) (by decide +kernel), x_wd 1015 (by decide +kernel) (by decide +kernel), x_wd 52 (by decide +kernel) (by decide +kernel), x_wd 1016 (by decide +kernel) (by decide +kernel), ⟨by decide +kernel, by decide +kernel, by decide +kernel⟩, _, rfl, rfl⟩
