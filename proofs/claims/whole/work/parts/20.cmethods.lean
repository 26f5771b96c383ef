/-! METHODS of the class, as the tables have them -/
def m0_renew : MD := (0, yX0_renew, cX0_renew, 2, none)
theorem okM_m0_renew : okM m0_renew := ⟨by decide +kernel, rfl, Nat.le_of_ble_eq_true rfl, inT3 (i := 49) rfl rfl⟩
def m0_aheadOf : MD := (0, yX0_aheadOf, cX0_aheadOf, 2, (some .int))
theorem okM_m0_aheadOf : okM m0_aheadOf := ⟨by decide +kernel, rfl, Nat.le_of_ble_eq_true rfl, inT5 (i := 162) rfl rfl⟩
def m0_oneAhead : MD := (0, yX0_oneAhead, cX0_oneAhead, 2, (some .int))
theorem okM_m0_oneAhead : okM m0_oneAhead := ⟨by decide +kernel, rfl, Nat.le_of_ble_eq_true rfl, inT3 (i := 57) rfl rfl⟩
def m0_joined : MD := (0, yX0_joined, cX0_joined, 5, (some .int))
theorem okM_m0_joined : okM m0_joined := ⟨by decide +kernel, rfl, Nat.le_of_ble_eq_true rfl, inT3 (i := 61) rfl rfl⟩
def m0_reachFrom : MD := (0, yX0_reachFrom, cX0_reachFrom, 2, (some .int))
theorem okM_m0_reachFrom : okM m0_reachFrom := ⟨by decide +kernel, rfl, Nat.le_of_ble_eq_true rfl, inT3 (i := 102) rfl rfl⟩
def m0_reachTo : MD := (0, yX0_reachTo, cX0_reachTo, 2, (some .int))
theorem okM_m0_reachTo : okM m0_reachTo := ⟨by decide +kernel, rfl, Nat.le_of_ble_eq_true rfl, inT3 (i := 110) rfl rfl⟩
def m0_closure : MD := (0, yX0_closure, cX0_closure, 6, (some .int))
theorem okM_m0_closure : okM m0_closure := ⟨by decide +kernel, rfl, Nat.le_of_ble_eq_true rfl, inT3 (i := 106) rfl rfl⟩
def m0_wingOf : MD := (0, yX0_wingOf, cX0_wingOf, 2, (some .int))
theorem okM_m0_wingOf : okM m0_wingOf := ⟨by decide +kernel, rfl, Nat.le_of_ble_eq_true rfl, inT3 (i := 98) rfl rfl⟩
def m0_fewestDoors : MD := (0, yX0_fewestDoors, cX0_fewestDoors, 5, (some .int))
theorem okM_m0_fewestDoors : okM m0_fewestDoors := ⟨by decide +kernel, rfl, Nat.le_of_ble_eq_true rfl, inT5 (i := 222) rfl rfl⟩
def m0_firstDoor : MD := (0, yX0_firstDoor, cX0_firstDoor, 7, (some .int))
theorem okM_m0_firstDoor : okM m0_firstDoor := ⟨by decide +kernel, rfl, Nat.le_of_ble_eq_true rfl, inT6 (i := 130) rfl rfl⟩
def m0_unrollFrom : MD := (0, yX0_unrollFrom, cX0_unrollFrom, 5, none)
theorem okM_m0_unrollFrom : okM m0_unrollFrom := ⟨by decide +kernel, rfl, Nat.le_of_ble_eq_true rfl, inT5 (i := 234) rfl rfl⟩
def m0_newDoorsToJoinAll : MD := (0, yX0_newDoorsToJoinAll, cX0_newDoorsToJoinAll, 7, (some .int))
theorem okM_m0_newDoorsToJoinAll : okM m0_newDoorsToJoinAll := ⟨by decide +kernel, rfl, Nat.le_of_ble_eq_true rfl, inT3 (i := 93) rfl rfl⟩
def m0_bringTogether : MD := (0, yX0_bringTogether, cX0_bringTogether, 7, none)
theorem okM_m0_bringTogether : okM m0_bringTogether := ⟨by decide +kernel, rfl, Nat.le_of_ble_eq_true rfl, inT6 (i := 53) rfl rfl⟩
def m0_goRound : MD := (0, yX0_goRound, cX0_goRound, 4, none)
theorem okM_m0_goRound : okM m0_goRound := ⟨by decide +kernel, rfl, Nat.le_of_ble_eq_true rfl, inT6 (i := 26) rfl rfl⟩
def m0_goOneDoor : MD := (0, yX0_goOneDoor, cX0_goOneDoor, 5, none)
theorem okM_m0_goOneDoor : okM m0_goOneDoor := ⟨by decide +kernel, rfl, Nat.le_of_ble_eq_true rfl, inT6 (i := 30) rfl rfl⟩
def m0_enterFrom : MD := (0, yX0_enterFrom, cX0_enterFrom, 7, none)
theorem okM_m0_enterFrom : okM m0_enterFrom := ⟨by decide +kernel, rfl, Nat.le_of_ble_eq_true rfl, inT6 (i := 34) rfl rfl⟩
def m0_likeliest : MD := (0, yX0_likeliest, cX0_likeliest, 9, (some .long))
theorem okM_m0_likeliest : okM m0_likeliest := ⟨by decide +kernel, rfl, Nat.le_of_ble_eq_true rfl, inT6 (i := 99) rfl rfl⟩
def m0_aboveInLeastTerms : MD := (0, yX0_aboveInLeastTerms, cX0_aboveInLeastTerms, 3, (some .long))
theorem okM_m0_aboveInLeastTerms : okM m0_aboveInLeastTerms := ⟨by decide +kernel, rfl, Nat.le_of_ble_eq_true rfl, inT6 (i := 105) rfl rfl⟩
def m0_belowInLeastTerms : MD := (0, yX0_belowInLeastTerms, cX0_belowInLeastTerms, 3, (some .long))
theorem okM_m0_belowInLeastTerms : okM m0_belowInLeastTerms := ⟨by decide +kernel, rfl, Nat.le_of_ble_eq_true rfl, inT6 (i := 112) rfl rfl⟩
def m0_commonTwos : MD := (0, yX0_commonTwos, cX0_commonTwos, 2, (some .long))
theorem okM_m0_commonTwos : okM m0_commonTwos := ⟨by decide +kernel, rfl, Nat.le_of_ble_eq_true rfl, inT6 (i := 108) rfl rfl⟩
def m1_isOpen : MD := (1, yX1_isOpen, cX1_isOpen, 3, (some .boolean))
theorem okM_m1_isOpen : okM m1_isOpen := ⟨by decide +kernel, rfl, Nat.le_of_ble_eq_true rfl, inT5 (i := 29) rfl rfl⟩
def m1_openDoors : MD := (1, yX1_openDoors, cX1_openDoors, 4, (some .int))
theorem okM_m1_openDoors : okM m1_openDoors := ⟨by decide +kernel, rfl, Nat.le_of_ble_eq_true rfl, inT5 (i := 80) rfl rfl⟩
def m1_soonest : MD := (1, yX1_soonest, cX1_soonest, 5, (some .int))
theorem okM_m1_soonest : okM m1_soonest := ⟨by decide +kernel, rfl, Nat.le_of_ble_eq_true rfl, inT5 (i := 189) rfl rfl⟩
def m1_reachedIn : MD := (1, yX1_reachedIn, cX1_reachedIn, 5, (some .int))
theorem okM_m1_reachedIn : okM m1_reachedIn := ⟨by decide +kernel, rfl, Nat.le_of_ble_eq_true rfl, inT5 (i := 204) rfl rfl⟩
def m1_comeTo : MD := (1, yX1_comeTo, cX1_comeTo, 7, (some .int))
theorem okM_m1_comeTo : okM m1_comeTo := ⟨by decide +kernel, rfl, Nat.le_of_ble_eq_true rfl, inT5 (i := 193) rfl rfl⟩
def m2_clear : MD := (2, yX2_clear, cX2_clear, 1, none)
theorem okM_m2_clear : okM m2_clear := ⟨by decide +kernel, rfl, Nat.le_of_ble_eq_true rfl, inT1 (i := 175) rfl rfl⟩
def m2_read : MD := (2, yX2_read, cX2_read, 2, (some .boolean))
theorem okM_m2_read : okM m2_read := ⟨by decide +kernel, rfl, Nat.le_of_ble_eq_true rfl, inT4 (i := 145) rfl rfl⟩
def m2_put : MD := (2, yX2_put, cX2_put, 2, none)
theorem okM_m2_put : okM m2_put := ⟨by decide +kernel, rfl, Nat.le_of_ble_eq_true rfl, inT4 (i := 164) rfl rfl⟩
def m2_readSum : MD := (2, yX2_readSum, cX2_readSum, 5, (some .boolean))
theorem okM_m2_readSum : okM m2_readSum := ⟨by decide +kernel, rfl, Nat.le_of_ble_eq_true rfl, inT4 (i := 149) rfl rfl⟩
def m2_readProduct : MD := (2, yX2_readProduct, cX2_readProduct, 5, (some .boolean))
theorem okM_m2_readProduct : okM m2_readProduct := ⟨by decide +kernel, rfl, Nat.le_of_ble_eq_true rfl, inT4 (i := 153) rfl rfl⟩
def m2_readUnit : MD := (2, yX2_readUnit, cX2_readUnit, 4, (some .boolean))
theorem okM_m2_readUnit : okM m2_readUnit := ⟨by decide +kernel, rfl, Nat.le_of_ble_eq_true rfl, inT4 (i := 157) rfl rfl⟩
def m2_readBracket : MD := (2, yX2_readBracket, cX2_readBracket, 3, (some .boolean))
theorem okM_m2_readBracket : okM m2_readBracket := ⟨by decide +kernel, rfl, Nat.le_of_ble_eq_true rfl, inT4 (i := 168) rfl rfl⟩
def m2_readPair : MD := (2, yX2_readPair, cX2_readPair, 4, (some .boolean))
theorem okM_m2_readPair : okM m2_readPair := ⟨by decide +kernel, rfl, Nat.le_of_ble_eq_true rfl, inT4 (i := 189) rfl rfl⟩
def m2_codeOfWord : MD := (2, yX2_codeOfWord, cX2_codeOfWord, 1, (some .int))
theorem okM_m2_codeOfWord : okM m2_codeOfWord := ⟨by decide +kernel, rfl, Nat.le_of_ble_eq_true rfl, inT4 (i := 174) rfl rfl⟩
def m2_valueFor : MD := (2, yX2_valueFor, cX2_valueFor, 8, (some .int))
theorem okM_m2_valueFor : okM m2_valueFor := ⟨by decide +kernel, rfl, Nat.le_of_ble_eq_true rfl, inT5 (i := 33) rfl rfl⟩
def m2_fact : MD := (2, yX2_fact, cX2_fact, 6, (some .int))
theorem okM_m2_fact : okM m2_fact := ⟨by decide +kernel, rfl, Nat.le_of_ble_eq_true rfl, inT5 (i := 36) rfl rfl⟩
def m2_join : MD := (2, yX2_join, cX2_join, 3, (some .int))
theorem okM_m2_join : okM m2_join := ⟨by decide +kernel, rfl, Nat.le_of_ble_eq_true rfl, inT5 (i := 39) rfl rfl⟩
def m3_fewest : MD := (3, yX3_fewest, cX3_fewest, 3, (some .int))
theorem okM_m3_fewest : okM m3_fewest := ⟨by decide +kernel, rfl, Nat.le_of_ble_eq_true rfl, inT6 (i := 64) rfl rfl⟩
def m3_firstDoors : MD := (3, yX3_firstDoors, cX3_firstDoors, 8, (some .int))
theorem okM_m3_firstDoors : okM m3_firstDoors := ⟨by decide +kernel, rfl, Nat.le_of_ble_eq_true rfl, inT6 (i := 88) rfl rfl⟩
def m3_waysApart : MD := (3, yX3_waysApart, cX3_waysApart, 5, (some .int))
theorem okM_m3_waysApart : okM m3_waysApart := ⟨by decide +kernel, rfl, Nat.le_of_ble_eq_true rfl, inT6 (i := 72) rfl rfl⟩
def m3_findsWay : MD := (3, yX3_findsWay, cX3_findsWay, 10, (some .boolean))
theorem okM_m3_findsWay : okM m3_findsWay := ⟨by decide +kernel, rfl, Nat.le_of_ble_eq_true rfl, inT6 (i := 76) rfl rfl⟩
def m3_leadsTo : MD := (3, yX3_leadsTo, cX3_leadsTo, 3, (some .int))
theorem okM_m3_leadsTo : okM m3_leadsTo := ⟨by decide +kernel, rfl, Nat.le_of_ble_eq_true rfl, inT6 (i := 80) rfl rfl⟩
def m3_takeWay : MD := (3, yX3_takeWay, cX3_takeWay, 5, none)
theorem okM_m3_takeWay : okM m3_takeWay := ⟨by decide +kernel, rfl, Nat.le_of_ble_eq_true rfl, inT6 (i := 84) rfl rfl⟩
def m4_allRooms : MD := (4, yX4_allRooms, cX4_allRooms, 1, (some .int))
theorem okM_m4_allRooms : okM m4_allRooms := ⟨by decide +kernel, rfl, Nat.le_of_ble_eq_true rfl, inT3 (i := 53) rfl rfl⟩
def m4_allDoors : MD := (4, yX4_allDoors, cX4_allDoors, 1, (some .int))
theorem okM_m4_allDoors : okM m4_allDoors := ⟨by decide +kernel, rfl, Nat.le_of_ble_eq_true rfl, inT6 (i := 68) rfl rfl⟩
def m4_copyFrom : MD := (4, yX4_copyFrom, cX4_copyFrom, 2, none)
theorem okM_m4_copyFrom : okM m4_copyFrom := ⟨by decide +kernel, rfl, Nat.le_of_ble_eq_true rfl, inT4 (i := 120) rfl rfl⟩
def m4_read : MD := (4, yX4_read, cX4_read, 3, (some .boolean))
theorem okM_m4_read : okM m4_read := ⟨by decide +kernel, rfl, Nat.le_of_ble_eq_true rfl, inT3 (i := 231) rfl rfl⟩
def m4_clear : MD := (4, yX4_clear, cX4_clear, 2, none)
theorem okM_m4_clear : okM m4_clear := ⟨by decide +kernel, rfl, Nat.le_of_ble_eq_true rfl, inT3 (i := 235) rfl rfl⟩
def m4_readClause : MD := (4, yX4_readClause, cX4_readClause, 3, (some .boolean))
theorem okM_m4_readClause : okM m4_readClause := ⟨by decide +kernel, rfl, Nat.le_of_ble_eq_true rfl, inT4 (i := 7) rfl rfl⟩
def m4_readRoom : MD := (4, yX4_readRoom, cX4_readRoom, 2, (some .boolean))
theorem okM_m4_readRoom : okM m4_readRoom := ⟨by decide +kernel, rfl, Nat.le_of_ble_eq_true rfl, inT4 (i := 80) rfl rfl⟩
def m4_readDoor : MD := (4, yX4_readDoor, cX4_readDoor, 4, (some .boolean))
theorem okM_m4_readDoor : okM m4_readDoor := ⟨by decide +kernel, rfl, Nat.le_of_ble_eq_true rfl, inT4 (i := 93) rfl rfl⟩
def m4_readExit : MD := (4, yX4_readExit, cX4_readExit, 2, (some .boolean))
theorem okM_m4_readExit : okM m4_readExit := ⟨by decide +kernel, rfl, Nat.le_of_ble_eq_true rfl, inT4 (i := 98) rfl rfl⟩
def m4_readTour : MD := (4, yX4_readTour, cX4_readTour, 2, (some .boolean))
theorem okM_m4_readTour : okM m4_readTour := ⟨by decide +kernel, rfl, Nat.le_of_ble_eq_true rfl, inT4 (i := 103) rfl rfl⟩
def m4_readWarder : MD := (4, yX4_readWarder, cX4_readWarder, 3, (some .boolean))
theorem okM_m4_readWarder : okM m4_readWarder := ⟨by decide +kernel, rfl, Nat.le_of_ble_eq_true rfl, inT4 (i := 108) rfl rfl⟩
def m5_begin : MD := (5, yX5_begin, cX5_begin, 2, none)
theorem okM_m5_begin : okM m5_begin := ⟨by decide +kernel, rfl, Nat.le_of_ble_eq_true rfl, inT3 (i := 226) rfl rfl⟩
def m5_fail : MD := (5, yX5_fail, cX5_fail, 3, (some .boolean))
theorem okM_m5_fail : okM m5_fail := ⟨by decide +kernel, rfl, Nat.le_of_ble_eq_true rfl, inT4 (i := 18) rfl rfl⟩
def m5_peek : MD := (5, yX5_peek, cX5_peek, 1, (some .int))
theorem okM_m5_peek : okM m5_peek := ⟨by decide +kernel, rfl, Nat.le_of_ble_eq_true rfl, inT4 (i := 3) rfl rfl⟩
def m5_atEnd : MD := (5, yX5_atEnd, cX5_atEnd, 1, (some .boolean))
theorem okM_m5_atEnd : okM m5_atEnd := ⟨by decide +kernel, rfl, Nat.le_of_ble_eq_true rfl, inT3 (i := 239) rfl rfl⟩
def m5_takes : MD := (5, yX5_takes, cX5_takes, 2, (some .boolean))
theorem okM_m5_takes : okM m5_takes := ⟨by decide +kernel, rfl, Nat.le_of_ble_eq_true rfl, inT4 (i := 193) rfl rfl⟩
def m5_needs : MD := (5, yX5_needs, cX5_needs, 2, (some .boolean))
theorem okM_m5_needs : okM m5_needs := ⟨by decide +kernel, rfl, Nat.le_of_ble_eq_true rfl, inT4 (i := 112) rfl rfl⟩
def m5_needsEnd : MD := (5, yX5_needsEnd, cX5_needsEnd, 1, (some .boolean))
theorem okM_m5_needsEnd : okM m5_needsEnd := ⟨by decide +kernel, rfl, Nat.le_of_ble_eq_true rfl, inT4 (i := 197) rfl rfl⟩
def m5_needsNumber : MD := (5, yX5_needsNumber, cX5_needsNumber, 2, (some .boolean))
theorem okM_m5_needsNumber : okM m5_needsNumber := ⟨by decide +kernel, rfl, Nat.le_of_ble_eq_true rfl, inT4 (i := 84) rfl rfl⟩
def m5_needsWord : MD := (5, yX5_needsWord, cX5_needsWord, 1, (some .boolean))
theorem okM_m5_needsWord : okM m5_needsWord := ⟨by decide +kernel, rfl, Nat.le_of_ble_eq_true rfl, inT4 (i := 11) rfl rfl⟩
def m5_isWord : MD := (5, yX5_isWord, cX5_isWord, 3, (some .boolean))
theorem okM_m5_isWord : okM m5_isWord := ⟨by decide +kernel, rfl, Nat.le_of_ble_eq_true rfl, inT4 (i := 27) rfl rfl⟩
def m5_byteAt : MD := (5, yX5_byteAt, cX5_byteAt, 2, (some .int))
theorem okM_m5_byteAt : okM m5_byteAt := ⟨by decide +kernel, rfl, Nat.le_of_ble_eq_true rfl, inT4 (i := 22) rfl rfl⟩
def m5_isDigit : MD := (5, yX5_isDigit, cX5_isDigit, 1, (some .boolean))
theorem okM_m5_isDigit : okM m5_isDigit := ⟨by decide +kernel, rfl, Nat.le_of_ble_eq_true rfl, inT4 (i := 87) rfl rfl⟩
def m5_isLetter : MD := (5, yX5_isLetter, cX5_isLetter, 1, (some .boolean))
theorem okM_m5_isLetter : okM m5_isLetter := ⟨by decide +kernel, rfl, Nat.le_of_ble_eq_true rfl, inT4 (i := 14) rfl rfl⟩
def m6_lieDown : MD := (6, yX6_lieDown, cX6_lieDown, 2, none)
theorem okM_m6_lieDown : okM m6_lieDown := ⟨by decide +kernel, rfl, Nat.le_of_ble_eq_true rfl, inT6 (i := 171) rfl rfl⟩
def m6_sleep : MD := (6, yX6_sleep, cX6_sleep, 7, none)
theorem okM_m6_sleep : okM m6_sleep := ⟨by decide +kernel, rfl, Nat.le_of_ble_eq_true rfl, inT6 (i := 175) rfl rfl⟩
def m6_openFrom : MD := (6, yX6_openFrom, cX6_openFrom, 5, (some .int))
theorem okM_m6_openFrom : okM m6_openFrom := ⟨by decide +kernel, rfl, Nat.le_of_ble_eq_true rfl, inT6 (i := 179) rfl rfl⟩
def m6_draw : MD := (6, yX6_draw, cX6_draw, 1, (some .int))
theorem okM_m6_draw : okM m6_draw := ⟨by decide +kernel, rfl, Nat.le_of_ble_eq_true rfl, inT6 (i := 185) rfl rfl⟩
def m6_pick : MD := (6, yX6_pick, cX6_pick, 4, (some .int))
theorem okM_m6_pick : okM m6_pick := ⟨by decide +kernel, rfl, Nat.le_of_ble_eq_true rfl, inT6 (i := 189) rfl rfl⟩
def m7_begin : MD := (7, yX7_begin, cX7_begin, 3, none)
theorem okM_m7_begin : okM m7_begin := ⟨by decide +kernel, rfl, Nat.le_of_ble_eq_true rfl, inT4 (i := 129) rfl rfl⟩
def m7_copyFrom : MD := (7, yX7_copyFrom, cX7_copyFrom, 2, none)
theorem okM_m7_copyFrom : okM m7_copyFrom := ⟨by decide +kernel, rfl, Nat.le_of_ble_eq_true rfl, inT3 (i := 34) rfl rfl⟩
def m7_setsBar : MD := (7, yX7_setsBar, cX7_setsBar, 4, (some .boolean))
theorem okM_m7_setsBar : okM m7_setsBar := ⟨by decide +kernel, rfl, Nat.le_of_ble_eq_true rfl, inT5 (i := 49) rfl rfl⟩
def m7_waits : MD := (7, yX7_waits, cX7_waits, 1, (some .boolean))
theorem okM_m7_waits : okM m7_waits := ⟨by decide +kernel, rfl, Nat.le_of_ble_eq_true rfl, inT5 (i := 53) rfl rfl⟩
def m7_usedInAll : MD := (7, yX7_usedInAll, cX7_usedInAll, 3, (some .int))
theorem okM_m7_usedInAll : okM m7_usedInAll := ⟨by decide +kernel, rfl, Nat.le_of_ble_eq_true rfl, inT5 (i := 86) rfl rfl⟩
def m7_toursIn : MD := (7, yX7_toursIn, cX7_toursIn, 5, (some .int))
theorem okM_m7_toursIn : okM m7_toursIn := ⟨by decide +kernel, rfl, Nat.le_of_ble_eq_true rfl, inT5 (i := 45) rfl rfl⟩
def m8_begin : MD := (8, yX8_begin, cX8_begin, 2, none)
theorem okM_m8_begin : okM m8_begin := ⟨by decide +kernel, rfl, Nat.le_of_ble_eq_true rfl, inT4 (i := 125) rfl rfl⟩
def m8_keep : MD := (8, yX8_keep, cX8_keep, 1, none)
theorem okM_m8_keep : okM m8_keep := ⟨by decide +kernel, rfl, Nat.le_of_ble_eq_true rfl, inT5 (i := 10) rfl rfl⟩
def m8_takeBack : MD := (8, yX8_takeBack, cX8_takeBack, 1, none)
theorem okM_m8_takeBack : okM m8_takeBack := ⟨by decide +kernel, rfl, Nat.le_of_ble_eq_true rfl, inT3 (i := 30) rfl rfl⟩
def m8_copyFrom : MD := (8, yX8_copyFrom, cX8_copyFrom, 3, none)
theorem okM_m8_copyFrom : okM m8_copyFrom := ⟨by decide +kernel, rfl, Nat.le_of_ble_eq_true rfl, inT3 (i := 121) rfl rfl⟩
def m9_clear : MD := (9, yX9_clear, cX9_clear, 1, none)
theorem okM_m9_clear : okM m9_clear := ⟨by decide +kernel, rfl, Nat.le_of_ble_eq_true rfl, inT4 (i := 134) rfl rfl⟩
def m9_read : MD := (9, yX9_read, cX9_read, 4, (some .boolean))
theorem okM_m9_read : okM m9_read := ⟨by decide +kernel, rfl, Nat.le_of_ble_eq_true rfl, inT5 (i := 64) rfl rfl⟩
def m9_standing : MD := (9, yX9_standing, cX9_standing, 4, (some .int))
theorem okM_m9_standing : okM m9_standing := ⟨by decide +kernel, rfl, Nat.le_of_ble_eq_true rfl, inT3 (i := 45) rfl rfl⟩
def m9_roomsToKnow : MD := (9, yX9_roomsToKnow, cX9_roomsToKnow, 3, (some .int))
theorem okM_m9_roomsToKnow : okM m9_roomsToKnow := ⟨by decide +kernel, rfl, Nat.le_of_ble_eq_true rfl, inT3 (i := 69) rfl rfl⟩
def m9_allKnow : MD := (9, yX9_allKnow, cX9_allKnow, 3, (some .boolean))
theorem okM_m9_allKnow : okM m9_allKnow := ⟨by decide +kernel, rfl, Nat.le_of_ble_eq_true rfl, inT3 (i := 74) rfl rfl⟩
def m9_lookOnce : MD := (9, yX9_lookOnce, cX9_lookOnce, 5, none)
theorem okM_m9_lookOnce : okM m9_lookOnce := ⟨by decide +kernel, rfl, Nat.le_of_ble_eq_true rfl, inT3 (i := 84) rfl rfl⟩
def m9_fewestWrong : MD := (9, yX9_fewestWrong, cX9_fewestWrong, 4, (some .int))
theorem okM_m9_fewestWrong : okM m9_fewestWrong := ⟨by decide +kernel, rfl, Nat.le_of_ble_eq_true rfl, inT5 (i := 154) rfl rfl⟩
def m9_slip : MD := (9, yX9_slip, cX9_slip, 3, (some .int))
theorem okM_m9_slip : okM m9_slip := ⟨by decide +kernel, rfl, Nat.le_of_ble_eq_true rfl, inT5 (i := 167) rfl rfl⟩
def m9_fewestBehind : MD := (9, yX9_fewestBehind, cX9_fewestBehind, 6, (some .int))
theorem okM_m9_fewestBehind : okM m9_fewestBehind := ⟨by decide +kernel, rfl, Nat.le_of_ble_eq_true rfl, inT5 (i := 158) rfl rfl⟩
def m9_firstWrong : MD := (9, yX9_firstWrong, cX9_firstWrong, 8, (some .int))
theorem okM_m9_firstWrong : okM m9_firstWrong := ⟨by decide +kernel, rfl, Nat.le_of_ble_eq_true rfl, inT5 (i := 171) rfl rfl⟩
def m10_read : MD := (10, yX10_read, cX10_read, 3, (some .boolean))
theorem okM_m10_read : okM m10_read := ⟨by decide +kernel, rfl, Nat.le_of_ble_eq_true rfl, inT4 (i := 209) rfl rfl⟩
def m10_put : MD := (10, yX10_put, cX10_put, 4, none)
theorem okM_m10_put : okM m10_put := ⟨by decide +kernel, rfl, Nat.le_of_ble_eq_true rfl, inT4 (i := 231) rfl rfl⟩
def m10_readSteps : MD := (10, yX10_readSteps, cX10_readSteps, 5, (some .boolean))
theorem okM_m10_readSteps : okM m10_readSteps := ⟨by decide +kernel, rfl, Nat.le_of_ble_eq_true rfl, inT4 (i := 213) rfl rfl⟩
def m10_readStep : MD := (10, yX10_readStep, cX10_readStep, 4, (some .boolean))
theorem okM_m10_readStep : okM m10_readStep := ⟨by decide +kernel, rfl, Nat.le_of_ble_eq_true rfl, inT4 (i := 219) rfl rfl⟩
def m10_readGo : MD := (10, yX10_readGo, cX10_readGo, 4, (some .boolean))
theorem okM_m10_readGo : okM m10_readGo := ⟨by decide +kernel, rfl, Nat.le_of_ble_eq_true rfl, inT4 (i := 226) rfl rfl⟩
def m10_readDoorStep : MD := (10, yX10_readDoorStep, cX10_readDoorStep, 4, (some .boolean))
theorem okM_m10_readDoorStep : okM m10_readDoorStep := ⟨by decide +kernel, rfl, Nat.le_of_ble_eq_true rfl, inT4 (i := 236) rfl rfl⟩
def m10_readAgain : MD := (10, yX10_readAgain, cX10_readAgain, 5, (some .boolean))
theorem okM_m10_readAgain : okM m10_readAgain := ⟨by decide +kernel, rfl, Nat.le_of_ble_eq_true rfl, inT5 (i := 4) rfl rfl⟩
def m10_run : MD := (10, yX10_run, cX10_run, 7, none)
theorem okM_m10_run : okM m10_run := ⟨by decide +kernel, rfl, Nat.le_of_ble_eq_true rfl, inT5 (i := 14) rfl rfl⟩
def m10_turnBack : MD := (10, yX10_turnBack, cX10_turnBack, 3, (some .int))
theorem okM_m10_turnBack : okM m10_turnBack := ⟨by decide +kernel, rfl, Nat.le_of_ble_eq_true rfl, inT5 (i := 18) rfl rfl⟩
def m10_isDone : MD := (10, yX10_isDone, cX10_isDone, 6, (some .boolean))
theorem okM_m10_isDone : okM m10_isDone := ⟨by decide +kernel, rfl, Nat.le_of_ble_eq_true rfl, inT5 (i := 22) rfl rfl⟩
def m10_goes : MD := (10, yX10_goes, cX10_goes, 5, (some .boolean))
theorem okM_m10_goes : okM m10_goes := ⟨by decide +kernel, rfl, Nat.le_of_ble_eq_true rfl, inT5 (i := 25) rfl rfl⟩
def m11_feed : MD := (11, yX11_feed, cX11_feed, 6, (some .int))
theorem okM_m11_feed : okM m11_feed := ⟨by decide +kernel, rfl, Nat.le_of_ble_eq_true rfl, inT3 (i := 14) rfl rfl⟩
def m11_museum : MD := (11, yX11_museum, cX11_museum, 2, (some .int))
theorem okM_m11_museum : okM m11_museum := ⟨by decide +kernel, rfl, Nat.le_of_ble_eq_true rfl, inT3 (i := 144) rfl rfl⟩
def m11_law : MD := (11, yX11_law, cX11_law, 2, (some .int))
theorem okM_m11_law : okM m11_law := ⟨by decide +kernel, rfl, Nat.le_of_ble_eq_true rfl, inT4 (i := 141) rfl rfl⟩
def m11_work : MD := (11, yX11_work, cX11_work, 2, (some .int))
theorem okM_m11_work : okM m11_work := ⟨by decide +kernel, rfl, Nat.le_of_ble_eq_true rfl, inT4 (i := 205) rfl rfl⟩
def m11_walk : MD := (11, yX11_walk, cX11_walk, 2, (some .int))
theorem okM_m11_walk : okM m11_walk := ⟨by decide +kernel, rfl, Nat.le_of_ble_eq_true rfl, inT5 (i := 60) rfl rfl⟩
def m11_fault : MD := (11, yX11_fault, cX11_fault, 1, (some .int))
theorem okM_m11_fault : okM m11_fault := ⟨by decide +kernel, rfl, Nat.le_of_ble_eq_true rfl, inT3 (i := 22) rfl rfl⟩
def m11_undo : MD := (11, yX11_undo, cX11_undo, 1, (some .int))
theorem okM_m11_undo : okM m11_undo := ⟨by decide +kernel, rfl, Nat.le_of_ble_eq_true rfl, inT3 (i := 26) rfl rfl⟩
def m11_told : MD := (11, yX11_told, cX11_told, 2, (some .int))
theorem okM_m11_told : okM m11_told := ⟨by decide +kernel, rfl, Nat.le_of_ble_eq_true rfl, inT5 (i := 76) rfl rfl⟩
def m11_room : MD := (11, yX11_room, cX11_room, 3, (some .int))
theorem okM_m11_room : okM m11_room := ⟨by decide +kernel, rfl, Nat.le_of_ble_eq_true rfl, inT5 (i := 94) rfl rfl⟩
def m11_door : MD := (11, yX11_door, cX11_door, 3, (some .int))
theorem okM_m11_door : okM m11_door := ⟨by decide +kernel, rfl, Nat.le_of_ble_eq_true rfl, inT5 (i := 122) rfl rfl⟩
def m11_tour : MD := (11, yX11_tour, cX11_tour, 2, (some .int))
theorem okM_m11_tour : okM m11_tour := ⟨by decide +kernel, rfl, Nat.le_of_ble_eq_true rfl, inT5 (i := 135) rfl rfl⟩
def m11_open : MD := (11, yX11_open, cX11_open, 4, (some .boolean))
theorem okM_m11_open : okM m11_open := ⟨by decide +kernel, rfl, Nat.le_of_ble_eq_true rfl, inT5 (i := 143) rfl rfl⟩
def m11_fits : MD := (11, yX11_fits, cX11_fits, 1, (some .int))
theorem okM_m11_fits : okM m11_fits := ⟨by decide +kernel, rfl, Nat.le_of_ble_eq_true rfl, inT3 (i := 41) rfl rfl⟩
def m11_knows : MD := (11, yX11_knows, cX11_knows, 1, (some .int))
theorem okM_m11_knows : okM m11_knows := ⟨by decide +kernel, rfl, Nat.le_of_ble_eq_true rfl, inT3 (i := 65) rfl rfl⟩
def m11_slips : MD := (11, yX11_slips, cX11_slips, 3, (some .int))
theorem okM_m11_slips : okM m11_slips := ⟨by decide +kernel, rfl, Nat.le_of_ble_eq_true rfl, inT5 (i := 150) rfl rfl⟩
def m11_ends : MD := (11, yX11_ends, cX11_ends, 2, (some .boolean))
theorem okM_m11_ends : okM m11_ends := ⟨by decide +kernel, rfl, Nat.le_of_ble_eq_true rfl, inT5 (i := 178) rfl rfl⟩
def m11_soon : MD := (11, yX11_soon, cX11_soon, 3, (some .int))
theorem okM_m11_soon : okM m11_soon := ⟨by decide +kernel, rfl, Nat.le_of_ble_eq_true rfl, inT5 (i := 185) rfl rfl⟩
def m11_within : MD := (11, yX11_within, cX11_within, 3, (some .int))
theorem okM_m11_within : okM m11_within := ⟨by decide +kernel, rfl, Nat.le_of_ble_eq_true rfl, inT5 (i := 200) rfl rfl⟩
def m11_out : MD := (11, yX11_out, cX11_out, 2, (some .int))
theorem okM_m11_out : okM m11_out := ⟨by decide +kernel, rfl, Nat.le_of_ble_eq_true rfl, inT5 (i := 211) rfl rfl⟩
def m11_string : MD := (11, yX11_string, cX11_string, 2, (some .int))
theorem okM_m11_string : okM m11_string := ⟨by decide +kernel, rfl, Nat.le_of_ble_eq_true rfl, inT5 (i := 218) rfl rfl⟩
def m11_longest : MD := (11, yX11_longest, cX11_longest, 2, (some .int))
theorem okM_m11_longest : okM m11_longest := ⟨by decide +kernel, rfl, Nat.le_of_ble_eq_true rfl, inT5 (i := 230) rfl rfl⟩
def m11_lost : MD := (11, yX11_lost, cX11_lost, 4, (some .int))
theorem okM_m11_lost : okM m11_lost := ⟨by decide +kernel, rfl, Nat.le_of_ble_eq_true rfl, inT6 (i := 4) rfl rfl⟩
def m11_cuts : MD := (11, yX11_cuts, cX11_cuts, 1, (some .int))
theorem okM_m11_cuts : okM m11_cuts := ⟨by decide +kernel, rfl, Nat.le_of_ble_eq_true rfl, inT3 (i := 88) rfl rfl⟩
def m11_wing : MD := (11, yX11_wing, cX11_wing, 2, (some .int))
theorem okM_m11_wing : okM m11_wing := ⟨by decide +kernel, rfl, Nat.le_of_ble_eq_true rfl, inT6 (i := 14) rfl rfl⟩
def m11_round : MD := (11, yX11_round, cX11_round, 2, (some .int))
theorem okM_m11_round : okM m11_round := ⟨by decide +kernel, rfl, Nat.le_of_ble_eq_true rfl, inT6 (i := 22) rfl rfl⟩
def m11_last : MD := (11, yX11_last, cX11_last, 2, (some .int))
theorem okM_m11_last : okM m11_last := ⟨by decide +kernel, rfl, Nat.le_of_ble_eq_true rfl, inT6 (i := 42) rfl rfl⟩
def m11_meet : MD := (11, yX11_meet, cX11_meet, 4, (some .int))
theorem okM_m11_meet : okM m11_meet := ⟨by decide +kernel, rfl, Nat.le_of_ble_eq_true rfl, inT6 (i := 49) rfl rfl⟩
def m11_parted : MD := (11, yX11_parted, cX11_parted, 4, (some .int))
theorem okM_m11_parted : okM m11_parted := ⟨by decide +kernel, rfl, Nat.le_of_ble_eq_true rfl, inT6 (i := 60) rfl rfl⟩
def m11_quiet : MD := (11, yX11_quiet, cX11_quiet, 6, (some .long))
theorem okM_m11_quiet : okM m11_quiet := ⟨by decide +kernel, rfl, Nat.le_of_ble_eq_true rfl, inT6 (i := 95) rfl rfl⟩
def m11_way : MD := (11, yX11_way, cX11_way, 3, (some .int))
theorem okM_m11_way : okM m11_way := ⟨by decide +kernel, rfl, Nat.le_of_ble_eq_true rfl, inT6 (i := 119) rfl rfl⟩
def m11_next : MD := (11, yX11_next, cX11_next, 3, (some .int))
theorem okM_m11_next : okM m11_next := ⟨by decide +kernel, rfl, Nat.le_of_ble_eq_true rfl, inT6 (i := 126) rfl rfl⟩
def m11_loop : MD := (11, yX11_loop, cX11_loop, 3, (some .int))
theorem okM_m11_loop : okM m11_loop := ⟨by decide +kernel, rfl, Nat.le_of_ble_eq_true rfl, inT6 (i := 138) rfl rfl⟩
def m11_closed : MD := (11, yX11_closed, cX11_closed, 7, (some .int))
theorem okM_m11_closed : okM m11_closed := ⟨by decide +kernel, rfl, Nat.le_of_ble_eq_true rfl, inT6 (i := 146) rfl rfl⟩
def m11_crowded : MD := (11, yX11_crowded, cX11_crowded, 6, (some .int))
theorem okM_m11_crowded : okM m11_crowded := ⟨by decide +kernel, rfl, Nat.le_of_ble_eq_true rfl, inT6 (i := 153) rfl rfl⟩
def m11_worn : MD := (11, yX11_worn, cX11_worn, 5, (some .int))
theorem okM_m11_worn : okM m11_worn := ⟨by decide +kernel, rfl, Nat.le_of_ble_eq_true rfl, inT6 (i := 160) rfl rfl⟩
def m11_sleepwalk : MD := (11, yX11_sleepwalk, cX11_sleepwalk, 5, (some .int))
theorem okM_m11_sleepwalk : okM m11_sleepwalk := ⟨by decide +kernel, rfl, Nat.le_of_ble_eq_true rfl, inT6 (i := 167) rfl rfl⟩
def m11_span : MD := (11, yX11_span, cX11_span, 10, (some .int))
theorem okM_m11_span : okM m11_span := ⟨by decide +kernel, rfl, Nat.le_of_ble_eq_true rfl, inT6 (i := 197) rfl rfl⟩
def m11_image : MD := (11, yX11_image, cX11_image, 1, (some .int))
theorem okM_m11_image : okM m11_image := ⟨by decide +kernel, rfl, Nat.le_of_ble_eq_true rfl, inT3 (i := 117) rfl rfl⟩
def m11_restore : MD := (11, yX11_restore, cX11_restore, 1, (some .int))
theorem okM_m11_restore : okM m11_restore := ⟨by decide +kernel, rfl, Nat.le_of_ble_eq_true rfl, inT3 (i := 128) rfl rfl⟩
def m11_status : MD := (11, yX11_status, cX11_status, 2, (some .int))
theorem okM_m11_status : okM m11_status := ⟨by decide +kernel, rfl, Nat.le_of_ble_eq_true rfl, inT3 (i := 132) rfl rfl⟩
def m11_count : MD := (11, yX11_count, cX11_count, 2, (some .int))
theorem okM_m11_count : okM m11_count := ⟨by decide +kernel, rfl, Nat.le_of_ble_eq_true rfl, inT3 (i := 136) rfl rfl⟩
def m11_putNumber : MD := (11, yX11_putNumber, cX11_putNumber, 3, none)
theorem okM_m11_putNumber : okM m11_putNumber := ⟨by decide +kernel, rfl, Nat.le_of_ble_eq_true rfl, inT3 (i := 18) rfl rfl⟩
def m11_takeTape : MD := (11, yX11_takeTape, cX11_takeTape, 2, none)
theorem okM_m11_takeTape : okM m11_takeTape := ⟨by decide +kernel, rfl, Nat.le_of_ble_eq_true rfl, inT3 (i := 222) rfl rfl⟩
def m11_faultOfText : MD := (11, yX11_faultOfText, cX11_faultOfText, 1, (some .int))
theorem okM_m11_faultOfText : okM m11_faultOfText := ⟨by decide +kernel, rfl, Nat.le_of_ble_eq_true rfl, inT4 (i := 116) rfl rfl⟩
def m11_needBytes : MD := (11, yX11_needBytes, cX11_needBytes, 3, none)
theorem okM_m11_needBytes : okM m11_needBytes := ⟨by decide +kernel, rfl, Nat.le_of_ble_eq_true rfl, inT3 (i := 148) rfl rfl⟩
def m11_needWithin : MD := (11, yX11_needWithin, cX11_needWithin, 4, none)
theorem okM_m11_needWithin : okM m11_needWithin := ⟨by decide +kernel, rfl, Nat.le_of_ble_eq_true rfl, inT3 (i := 152) rfl rfl⟩
def m11_needRoom : MD := (11, yX11_needRoom, cX11_needRoom, 2, none)
theorem okM_m11_needRoom : okM m11_needRoom := ⟨by decide +kernel, rfl, Nat.le_of_ble_eq_true rfl, inT5 (i := 98) rfl rfl⟩
def m11_needDoor : MD := (11, yX11_needDoor, cX11_needDoor, 2, none)
theorem okM_m11_needDoor : okM m11_needDoor := ⟨by decide +kernel, rfl, Nat.le_of_ble_eq_true rfl, inT5 (i := 126) rfl rfl⟩
def m11_lowest : MD := (11, yX11_lowest, cX11_lowest, 1, (some .int))
theorem okM_m11_lowest : okM m11_lowest := ⟨by decide +kernel, rfl, Nat.le_of_ble_eq_true rfl, inT5 (i := 237) rfl rfl⟩
def mJ6_bitCount_0f7a4 : MD := (13, yJ6_bitCount_0f7a4, cJ6_bitCount_0f7a4, 1, (some .int))
theorem okM_mJ6_bitCount_0f7a4 : okM mJ6_bitCount_0f7a4 := ⟨by decide +kernel, rfl, Nat.le_of_ble_eq_true rfl, inT3 (i := 77) rfl rfl⟩
def mJ0_length_8abf5 : MD := (14, yJ0_length_8abf5, cJ0_length_8abf5, 1, (some .int))
theorem okM_mJ0_length_8abf5 : okM mJ0_length_8abf5 := ⟨by decide +kernel, rfl, Nat.le_of_ble_eq_true rfl, inT4 (i := 31) rfl rfl⟩
def mJ0_charAt_5068e : MD := (14, yJ0_charAt_5068e, cJ0_charAt_5068e, 2, (some .char))
theorem okM_mJ0_charAt_5068e : okM mJ0_charAt_5068e := ⟨by decide +kernel, rfl, Nat.le_of_ble_eq_true rfl, inT4 (i := 41) rfl rfl⟩
def mJ0_coder_7d493 : MD := (14, yJ0_coder_7d493, cJ0_coder_7d493, 1, (some .byte))
theorem okM_mJ0_coder_7d493 : okM mJ0_coder_7d493 := ⟨by decide +kernel, rfl, Nat.le_of_ble_eq_true rfl, inT4 (i := 35) rfl rfl⟩
def mJ0_isLatin1_aae02 : MD := (14, yJ0_isLatin1_aae02, cJ0_isLatin1_aae02, 1, (some .boolean))
theorem okM_mJ0_isLatin1_aae02 : okM mJ0_isLatin1_aae02 := ⟨by decide +kernel, rfl, Nat.le_of_ble_eq_true rfl, inT4 (i := 45) rfl rfl⟩
def mJ1_charAt_3b067 : MD := (15, yJ1_charAt_3b067, cJ1_charAt_3b067, 2, (some .char))
theorem okM_mJ1_charAt_3b067 : okM mJ1_charAt_3b067 := ⟨by decide +kernel, rfl, Nat.le_of_ble_eq_true rfl, inT4 (i := 48) rfl rfl⟩
theorem S0_122 : okS 0 122 1 m0_commonTwos := ⟨okM_m0_commonTwos, ⟨by decide +kernel, by decide +kernel, by decide +kernel⟩, inT6 (i := 106) rfl rfl, inT1 (i := 9) rfl rfl, inT6 (i := 107) rfl rfl⟩
theorem S2_65 : okS 2 65 1 m5_isDigit := ⟨okM_m5_isDigit, ⟨by decide +kernel, by decide +kernel, by decide +kernel⟩, inT4 (i := 159) rfl rfl, inT1 (i := 2) rfl rfl, inT4 (i := 86) rfl rfl⟩
theorem S2_80 : okS 2 80 1 m2_codeOfWord := ⟨okM_m2_codeOfWord, ⟨by decide +kernel, by decide +kernel, by decide +kernel⟩, inT4 (i := 172) rfl rfl, inT1 (i := 4) rfl rfl, inT4 (i := 173) rfl rfl⟩
theorem S2_122 : okS 2 122 5 m2_fact := ⟨okM_m2_fact, ⟨by decide +kernel, by decide +kernel, by decide +kernel⟩, inT5 (i := 34) rfl rfl, inT1 (i := 4) rfl rfl, inT5 (i := 35) rfl rfl⟩
theorem S2_126 : okS 2 126 3 m2_join := ⟨okM_m2_join, ⟨by decide +kernel, by decide +kernel, by decide +kernel⟩, inT5 (i := 37) rfl rfl, inT1 (i := 4) rfl rfl, inT5 (i := 38) rfl rfl⟩
theorem S5_51 : okS 5 51 1 m5_isDigit := ⟨okM_m5_isDigit, ⟨by decide +kernel, by decide +kernel, by decide +kernel⟩, inT4 (i := 85) rfl rfl, inT1 (i := 2) rfl rfl, inT4 (i := 86) rfl rfl⟩
theorem S5_60 : okS 5 60 1 m5_isLetter := ⟨okM_m5_isLetter, ⟨by decide +kernel, by decide +kernel, by decide +kernel⟩, inT4 (i := 12) rfl rfl, inT1 (i := 2) rfl rfl, inT4 (i := 13) rfl rfl⟩
theorem S6_47 : okS 6 47 1 mJ6_bitCount_0f7a4 := ⟨okM_mJ6_bitCount_0f7a4, ⟨by decide +kernel, by decide +kernel, by decide +kernel⟩, inT6 (i := 181) rfl rfl, inT1 (i := 24) rfl rfl, inT3 (i := 76) rfl rfl⟩
theorem S6_62 : okS 6 62 2 m6_pick := ⟨okM_m6_pick, ⟨by decide +kernel, by decide +kernel, by decide +kernel⟩, inT6 (i := 187) rfl rfl, inT1 (i := 12) rfl rfl, inT6 (i := 188) rfl rfl⟩
theorem S9_97 : okS 9 97 1 mJ6_bitCount_0f7a4 := ⟨okM_mJ6_bitCount_0f7a4, ⟨by decide +kernel, by decide +kernel, by decide +kernel⟩, inT3 (i := 75) rfl rfl, inT1 (i := 24) rfl rfl, inT3 (i := 76) rfl rfl⟩
theorem S10_117 : okS 10 117 5 m10_goes := ⟨okM_m10_goes, ⟨by decide +kernel, by decide +kernel, by decide +kernel⟩, inT5 (i := 23) rfl rfl, inT1 (i := 5) rfl rfl, inT5 (i := 24) rfl rfl⟩
theorem S11_202 : okS 11 202 1 mJ6_bitCount_0f7a4 := ⟨okM_mJ6_bitCount_0f7a4, ⟨by decide +kernel, by decide +kernel, by decide +kernel⟩, inT5 (i := 82) rfl rfl, inT1 (i := 24) rfl rfl, inT3 (i := 76) rfl rfl⟩
theorem T5_63 : okT 5 63 0 mJ0_length_8abf5 := ⟨Nat.le_of_ble_eq_true rfl, okM_mJ0_length_8abf5.2.2.2, ⟨by decide +kernel, by decide +kernel, by decide +kernel⟩, inT4 (i := 28) rfl rfl, inT1 (i := 19) rfl rfl⟩
theorem J5_63 : Cond.instanceMethod mJ0_length_8abf5.2.1 ∈ WD ∧ Cond.selects "java/lang/String" mJ0_length_8abf5.2.1 mJ0_length_8abf5.2.1 ∈ WD := ⟨inT4 (i := 29) rfl rfl, inT4 (i := 30) rfl rfl⟩
theorem T5_67 : okT 5 67 1 mJ0_charAt_5068e := ⟨Nat.le_of_ble_eq_true rfl, okM_mJ0_charAt_5068e.2.2.2, ⟨by decide +kernel, by decide +kernel, by decide +kernel⟩, inT4 (i := 38) rfl rfl, inT1 (i := 19) rfl rfl⟩
theorem J5_67 : Cond.instanceMethod mJ0_charAt_5068e.2.1 ∈ WD ∧ Cond.selects "java/lang/String" mJ0_charAt_5068e.2.1 mJ0_charAt_5068e.2.1 ∈ WD := ⟨inT4 (i := 39) rfl rfl, inT4 (i := 40) rfl rfl⟩
theorem V0_62 : okV 0 62 2 m0_joined := ⟨Nat.le_of_ble_eq_true rfl, okM_m0_joined, ⟨by decide +kernel, by decide +kernel, by decide +kernel⟩, inT3 (i := 58) rfl rfl, inT1 (i := 9) rfl rfl, inT3 (i := 60) rfl rfl, inS (i := 1) rfl rfl⟩
theorem V0_69 : okV 0 69 2 m0_closure := ⟨Nat.le_of_ble_eq_true rfl, okM_m0_closure, ⟨by decide +kernel, by decide +kernel, by decide +kernel⟩, inT3 (i := 103) rfl rfl, inT1 (i := 9) rfl rfl, inT3 (i := 105) rfl rfl, inS (i := 4) rfl rfl⟩
theorem V0_72 : okV 0 72 1 m0_reachFrom := ⟨Nat.le_of_ble_eq_true rfl, okM_m0_reachFrom, ⟨by decide +kernel, by decide +kernel, by decide +kernel⟩, inT3 (i := 99) rfl rfl, inT1 (i := 9) rfl rfl, inT3 (i := 100) rfl rfl, inT3 (i := 101) rfl rfl⟩
theorem V0_76 : okV 0 76 1 m0_reachTo := ⟨Nat.le_of_ble_eq_true rfl, okM_m0_reachTo, ⟨by decide +kernel, by decide +kernel, by decide +kernel⟩, inT3 (i := 107) rfl rfl, inT1 (i := 9) rfl rfl, inT3 (i := 108) rfl rfl, inT3 (i := 109) rfl rfl⟩
theorem V0_79 : okV 0 79 1 m0_oneAhead := ⟨Nat.le_of_ble_eq_true rfl, okM_m0_oneAhead, ⟨by decide +kernel, by decide +kernel, by decide +kernel⟩, inT5 (i := 223) rfl rfl, inT1 (i := 9) rfl rfl, inT3 (i := 55) rfl rfl, inT3 (i := 56) rfl rfl⟩
theorem V0_82 : okV 0 82 2 m0_fewestDoors := ⟨Nat.le_of_ble_eq_true rfl, okM_m0_fewestDoors, ⟨by decide +kernel, by decide +kernel, by decide +kernel⟩, inT6 (i := 131) rfl rfl, inT1 (i := 9) rfl rfl, inT5 (i := 220) rfl rfl, inT5 (i := 221) rfl rfl⟩
theorem V0_92 : okV 0 92 0 m4_allRooms := ⟨Nat.le_of_ble_eq_true rfl, okM_m4_allRooms, ⟨by decide +kernel, by decide +kernel, by decide +kernel⟩, inT3 (i := 94) rfl rfl, inT1 (i := 3) rfl rfl, inT3 (i := 51) rfl rfl, inT3 (i := 52) rfl rfl⟩
theorem V0_96 : okV 0 96 1 m0_wingOf := ⟨Nat.le_of_ble_eq_true rfl, okM_m0_wingOf, ⟨by decide +kernel, by decide +kernel, by decide +kernel⟩, inT3 (i := 95) rfl rfl, inT1 (i := 9) rfl rfl, inT3 (i := 96) rfl rfl, inT3 (i := 97) rfl rfl⟩
theorem V0_104 : okV 0 104 1 m0_goOneDoor := ⟨Nat.le_of_ble_eq_true rfl, okM_m0_goOneDoor, ⟨by decide +kernel, by decide +kernel, by decide +kernel⟩, inT6 (i := 27) rfl rfl, inT1 (i := 9) rfl rfl, inT6 (i := 29) rfl rfl, inS (i := 37) rfl rfl⟩
theorem V0_108 : okV 0 108 2 m0_enterFrom := ⟨Nat.le_of_ble_eq_true rfl, okM_m0_enterFrom, ⟨by decide +kernel, by decide +kernel, by decide +kernel⟩, inT6 (i := 31) rfl rfl, inT1 (i := 9) rfl rfl, inT6 (i := 33) rfl rfl, inS (i := 38) rfl rfl⟩
theorem V0_112 : okV 0 112 1 m0_aheadOf := ⟨Nat.le_of_ble_eq_true rfl, okM_m0_aheadOf, ⟨by decide +kernel, by decide +kernel, by decide +kernel⟩, inT6 (i := 35) rfl rfl, inT1 (i := 9) rfl rfl, inT5 (i := 160) rfl rfl, inT5 (i := 161) rfl rfl⟩
theorem V1_29 : okV 1 29 4 m2_valueFor := ⟨Nat.le_of_ble_eq_true rfl, okM_m2_valueFor, ⟨by decide +kernel, by decide +kernel, by decide +kernel⟩, inT5 (i := 30) rfl rfl, inT1 (i := 4) rfl rfl, inT5 (i := 31) rfl rfl, inT5 (i := 32) rfl rfl⟩
theorem V1_40 : okV 1 40 2 m1_isOpen := ⟨Nat.le_of_ble_eq_true rfl, okM_m1_isOpen, ⟨by decide +kernel, by decide +kernel, by decide +kernel⟩, inT5 (i := 81) rfl rfl, inT1 (i := 8) rfl rfl, inT5 (i := 27) rfl rfl, inT5 (i := 28) rfl rfl⟩
theorem V1_47 : okV 1 47 2 m1_comeTo := ⟨Nat.le_of_ble_eq_true rfl, okM_m1_comeTo, ⟨by decide +kernel, by decide +kernel, by decide +kernel⟩, inT5 (i := 190) rfl rfl, inT1 (i := 8) rfl rfl, inT5 (i := 192) rfl rfl, inS (i := 36) rfl rfl⟩
theorem V2_31 : okV 2 31 2 m2_readSum := ⟨Nat.le_of_ble_eq_true rfl, okM_m2_readSum, ⟨by decide +kernel, by decide +kernel, by decide +kernel⟩, inT4 (i := 146) rfl rfl, inT1 (i := 4) rfl rfl, inT4 (i := 148) rfl rfl, inS (i := 18) rfl rfl⟩
theorem V2_35 : okV 2 35 0 m5_needsEnd := ⟨Nat.le_of_ble_eq_true rfl, okM_m5_needsEnd, ⟨by decide +kernel, by decide +kernel, by decide +kernel⟩, inT4 (i := 194) rfl rfl, inT1 (i := 2) rfl rfl, inT4 (i := 195) rfl rfl, inT4 (i := 196) rfl rfl⟩
theorem V2_47 : okV 2 47 2 m2_readProduct := ⟨Nat.le_of_ble_eq_true rfl, okM_m2_readProduct, ⟨by decide +kernel, by decide +kernel, by decide +kernel⟩, inT4 (i := 150) rfl rfl, inT1 (i := 4) rfl rfl, inT4 (i := 152) rfl rfl, inS (i := 19) rfl rfl⟩
theorem V2_50 : okV 2 50 1 m5_takes := ⟨Nat.le_of_ble_eq_true rfl, okM_m5_takes, ⟨by decide +kernel, by decide +kernel, by decide +kernel⟩, inT4 (i := 190) rfl rfl, inT1 (i := 2) rfl rfl, inT4 (i := 191) rfl rfl, inT4 (i := 192) rfl rfl⟩
theorem V2_54 : okV 2 54 1 m2_put := ⟨Nat.le_of_ble_eq_true rfl, okM_m2_put, ⟨by decide +kernel, by decide +kernel, by decide +kernel⟩, inT4 (i := 161) rfl rfl, inT1 (i := 4) rfl rfl, inT4 (i := 163) rfl rfl, inS (i := 21) rfl rfl⟩
theorem V2_58 : okV 2 58 2 m2_readUnit := ⟨Nat.le_of_ble_eq_true rfl, okM_m2_readUnit, ⟨by decide +kernel, by decide +kernel, by decide +kernel⟩, inT4 (i := 154) rfl rfl, inT1 (i := 4) rfl rfl, inT4 (i := 156) rfl rfl, inS (i := 20) rfl rfl⟩
theorem V2_61 : okV 2 61 0 m5_peek := ⟨Nat.le_of_ble_eq_true rfl, okM_m5_peek, ⟨by decide +kernel, by decide +kernel, by decide +kernel⟩, inT4 (i := 158) rfl rfl, inT1 (i := 2) rfl rfl, inT4 (i := 1) rfl rfl, inT4 (i := 2) rfl rfl⟩
theorem V2_68 : okV 2 68 1 m5_needsNumber := ⟨Nat.le_of_ble_eq_true rfl, okM_m5_needsNumber, ⟨by decide +kernel, by decide +kernel, by decide +kernel⟩, inT4 (i := 160) rfl rfl, inT1 (i := 2) rfl rfl, inT4 (i := 82) rfl rfl, inT4 (i := 83) rfl rfl⟩
theorem V2_74 : okV 2 74 2 m2_readBracket := ⟨Nat.le_of_ble_eq_true rfl, okM_m2_readBracket, ⟨by decide +kernel, by decide +kernel, by decide +kernel⟩, inT4 (i := 165) rfl rfl, inT1 (i := 4) rfl rfl, inT4 (i := 167) rfl rfl, inS (i := 22) rfl rfl⟩
theorem V2_77 : okV 2 77 0 m5_needsWord := ⟨Nat.le_of_ble_eq_true rfl, okM_m5_needsWord, ⟨by decide +kernel, by decide +kernel, by decide +kernel⟩, inT4 (i := 171) rfl rfl, inT1 (i := 2) rfl rfl, inT4 (i := 9) rfl rfl, inT4 (i := 10) rfl rfl⟩
theorem V2_87 : okV 2 87 2 m5_fail := ⟨Nat.le_of_ble_eq_true rfl, okM_m5_fail, ⟨by decide +kernel, by decide +kernel, by decide +kernel⟩, inT4 (i := 169) rfl rfl, inT1 (i := 2) rfl rfl, inT4 (i := 16) rfl rfl, inT4 (i := 17) rfl rfl⟩
theorem V2_91 : okV 2 91 3 m2_readPair := ⟨Nat.le_of_ble_eq_true rfl, okM_m2_readPair, ⟨by decide +kernel, by decide +kernel, by decide +kernel⟩, inT4 (i := 186) rfl rfl, inT1 (i := 4) rfl rfl, inT4 (i := 188) rfl rfl, inS (i := 23) rfl rfl⟩
theorem V2_95 : okV 2 95 1 m5_needs := ⟨Nat.le_of_ble_eq_true rfl, okM_m5_needs, ⟨by decide +kernel, by decide +kernel, by decide +kernel⟩, inT4 (i := 170) rfl rfl, inT1 (i := 2) rfl rfl, inT4 (i := 110) rfl rfl, inT4 (i := 111) rfl rfl⟩
theorem V2_100 : okV 2 100 1 m5_isWord := ⟨Nat.le_of_ble_eq_true rfl, okM_m5_isWord, ⟨by decide +kernel, by decide +kernel, by decide +kernel⟩, inT4 (i := 176) rfl rfl, inT1 (i := 2) rfl rfl, inT4 (i := 25) rfl rfl, inT4 (i := 26) rfl rfl⟩
theorem V3_33 : okV 3 33 0 m4_allDoors := ⟨Nat.le_of_ble_eq_true rfl, okM_m4_allDoors, ⟨by decide +kernel, by decide +kernel, by decide +kernel⟩, inT6 (i := 65) rfl rfl, inT1 (i := 3) rfl rfl, inT6 (i := 66) rfl rfl, inT6 (i := 67) rfl rfl⟩
theorem V3_44 : okV 3 44 3 m3_waysApart := ⟨Nat.le_of_ble_eq_true rfl, okM_m3_waysApart, ⟨by decide +kernel, by decide +kernel, by decide +kernel⟩, inT6 (i := 69) rfl rfl, inT1 (i := 11) rfl rfl, inT6 (i := 71) rfl rfl, inS (i := 39) rfl rfl⟩
theorem V3_51 : okV 3 51 3 m3_findsWay := ⟨Nat.le_of_ble_eq_true rfl, okM_m3_findsWay, ⟨by decide +kernel, by decide +kernel, by decide +kernel⟩, inT6 (i := 73) rfl rfl, inT1 (i := 11) rfl rfl, inT6 (i := 75) rfl rfl, inS (i := 40) rfl rfl⟩
theorem V3_55 : okV 3 55 2 m3_leadsTo := ⟨Nat.le_of_ble_eq_true rfl, okM_m3_leadsTo, ⟨by decide +kernel, by decide +kernel, by decide +kernel⟩, inT6 (i := 77) rfl rfl, inT1 (i := 11) rfl rfl, inT6 (i := 79) rfl rfl, inS (i := 41) rfl rfl⟩
theorem V3_59 : okV 3 59 2 m3_takeWay := ⟨Nat.le_of_ble_eq_true rfl, okM_m3_takeWay, ⟨by decide +kernel, by decide +kernel, by decide +kernel⟩, inT6 (i := 81) rfl rfl, inT1 (i := 11) rfl rfl, inT6 (i := 83) rfl rfl, inS (i := 42) rfl rfl⟩
theorem V4_61 : okV 4 61 0 m4_clear := ⟨Nat.le_of_ble_eq_true rfl, okM_m4_clear, ⟨by decide +kernel, by decide +kernel, by decide +kernel⟩, inT3 (i := 232) rfl rfl, inT1 (i := 3) rfl rfl, inT3 (i := 234) rfl rfl, inS (i := 9) rfl rfl⟩
theorem V4_64 : okV 4 64 0 m5_atEnd := ⟨Nat.le_of_ble_eq_true rfl, okM_m5_atEnd, ⟨by decide +kernel, by decide +kernel, by decide +kernel⟩, inT3 (i := 236) rfl rfl, inT1 (i := 2) rfl rfl, inT3 (i := 237) rfl rfl, inT3 (i := 238) rfl rfl⟩
theorem V4_70 : okV 4 70 2 m4_readClause := ⟨Nat.le_of_ble_eq_true rfl, okM_m4_readClause, ⟨by decide +kernel, by decide +kernel, by decide +kernel⟩, inT4 (i := 4) rfl rfl, inT1 (i := 3) rfl rfl, inT4 (i := 6) rfl rfl, inS (i := 10) rfl rfl⟩
theorem V4_74 : okV 4 74 1 m5_needs := ⟨Nat.le_of_ble_eq_true rfl, okM_m5_needs, ⟨by decide +kernel, by decide +kernel, by decide +kernel⟩, inT4 (i := 109) rfl rfl, inT1 (i := 2) rfl rfl, inT4 (i := 110) rfl rfl, inT4 (i := 111) rfl rfl⟩
theorem V4_81 : okV 4 81 2 m5_fail := ⟨Nat.le_of_ble_eq_true rfl, okM_m5_fail, ⟨by decide +kernel, by decide +kernel, by decide +kernel⟩, inT4 (i := 76) rfl rfl, inT1 (i := 2) rfl rfl, inT4 (i := 16) rfl rfl, inT4 (i := 17) rfl rfl⟩
theorem V4_85 : okV 4 85 0 m5_needsWord := ⟨Nat.le_of_ble_eq_true rfl, okM_m5_needsWord, ⟨by decide +kernel, by decide +kernel, by decide +kernel⟩, inT4 (i := 8) rfl rfl, inT1 (i := 2) rfl rfl, inT4 (i := 9) rfl rfl, inT4 (i := 10) rfl rfl⟩
theorem V4_90 : okV 4 90 1 m5_isWord := ⟨Nat.le_of_ble_eq_true rfl, okM_m5_isWord, ⟨by decide +kernel, by decide +kernel, by decide +kernel⟩, inT4 (i := 24) rfl rfl, inT1 (i := 2) rfl rfl, inT4 (i := 25) rfl rfl, inT4 (i := 26) rfl rfl⟩
theorem V4_94 : okV 4 94 1 m4_readRoom := ⟨Nat.le_of_ble_eq_true rfl, okM_m4_readRoom, ⟨by decide +kernel, by decide +kernel, by decide +kernel⟩, inT4 (i := 77) rfl rfl, inT1 (i := 3) rfl rfl, inT4 (i := 79) rfl rfl, inS (i := 12) rfl rfl⟩
theorem V4_100 : okV 4 100 1 m4_readDoor := ⟨Nat.le_of_ble_eq_true rfl, okM_m4_readDoor, ⟨by decide +kernel, by decide +kernel, by decide +kernel⟩, inT4 (i := 90) rfl rfl, inT1 (i := 3) rfl rfl, inT4 (i := 92) rfl rfl, inS (i := 13) rfl rfl⟩
theorem V4_105 : okV 4 105 1 m4_readExit := ⟨Nat.le_of_ble_eq_true rfl, okM_m4_readExit, ⟨by decide +kernel, by decide +kernel, by decide +kernel⟩, inT4 (i := 95) rfl rfl, inT1 (i := 3) rfl rfl, inT4 (i := 97) rfl rfl, inS (i := 14) rfl rfl⟩
theorem V4_110 : okV 4 110 1 m4_readTour := ⟨Nat.le_of_ble_eq_true rfl, okM_m4_readTour, ⟨by decide +kernel, by decide +kernel, by decide +kernel⟩, inT4 (i := 100) rfl rfl, inT1 (i := 3) rfl rfl, inT4 (i := 102) rfl rfl, inS (i := 15) rfl rfl⟩
theorem V4_115 : okV 4 115 1 m4_readWarder := ⟨Nat.le_of_ble_eq_true rfl, okM_m4_readWarder, ⟨by decide +kernel, by decide +kernel, by decide +kernel⟩, inT4 (i := 105) rfl rfl, inT1 (i := 3) rfl rfl, inT4 (i := 107) rfl rfl, inS (i := 16) rfl rfl⟩
theorem V4_118 : okV 4 118 1 m5_needsNumber := ⟨Nat.le_of_ble_eq_true rfl, okM_m5_needsNumber, ⟨by decide +kernel, by decide +kernel, by decide +kernel⟩, inT4 (i := 81) rfl rfl, inT1 (i := 2) rfl rfl, inT4 (i := 82) rfl rfl, inT4 (i := 83) rfl rfl⟩
theorem V5_43 : okV 5 43 0 m5_peek := ⟨Nat.le_of_ble_eq_true rfl, okM_m5_peek, ⟨by decide +kernel, by decide +kernel, by decide +kernel⟩, inT4 (i := 0) rfl rfl, inT1 (i := 2) rfl rfl, inT4 (i := 1) rfl rfl, inT4 (i := 2) rfl rfl⟩
theorem V5_47 : okV 5 47 2 m5_fail := ⟨Nat.le_of_ble_eq_true rfl, okM_m5_fail, ⟨by decide +kernel, by decide +kernel, by decide +kernel⟩, inT4 (i := 15) rfl rfl, inT1 (i := 2) rfl rfl, inT4 (i := 16) rfl rfl, inT4 (i := 17) rfl rfl⟩
theorem V5_55 : okV 5 55 1 m5_byteAt := ⟨Nat.le_of_ble_eq_true rfl, okM_m5_byteAt, ⟨by decide +kernel, by decide +kernel, by decide +kernel⟩, inT4 (i := 19) rfl rfl, inT1 (i := 2) rfl rfl, inT4 (i := 21) rfl rfl, inS (i := 11) rfl rfl⟩
theorem V6_43 : okV 6 43 2 m6_openFrom := ⟨Nat.le_of_ble_eq_true rfl, okM_m6_openFrom, ⟨by decide +kernel, by decide +kernel, by decide +kernel⟩, inT6 (i := 176) rfl rfl, inT1 (i := 12) rfl rfl, inT6 (i := 178) rfl rfl, inS (i := 43) rfl rfl⟩
theorem V6_58 : okV 6 58 0 m6_draw := ⟨Nat.le_of_ble_eq_true rfl, okM_m6_draw, ⟨by decide +kernel, by decide +kernel, by decide +kernel⟩, inT6 (i := 182) rfl rfl, inT1 (i := 12) rfl rfl, inT6 (i := 184) rfl rfl, inS (i := 44) rfl rfl⟩
theorem V6_76 : okV 6 76 2 m1_isOpen := ⟨Nat.le_of_ble_eq_true rfl, okM_m1_isOpen, ⟨by decide +kernel, by decide +kernel, by decide +kernel⟩, inT6 (i := 180) rfl rfl, inT1 (i := 8) rfl rfl, inT5 (i := 27) rfl rfl, inT5 (i := 28) rfl rfl⟩
theorem V8_26 : okV 8 26 1 m7_begin := ⟨Nat.le_of_ble_eq_true rfl, okM_m7_begin, ⟨by decide +kernel, by decide +kernel, by decide +kernel⟩, inT4 (i := 126) rfl rfl, inT1 (i := 7) rfl rfl, inT4 (i := 127) rfl rfl, inT4 (i := 128) rfl rfl⟩
theorem V8_30 : okV 8 30 1 m7_copyFrom := ⟨Nat.le_of_ble_eq_true rfl, okM_m7_copyFrom, ⟨by decide +kernel, by decide +kernel, by decide +kernel⟩, inT3 (i := 31) rfl rfl, inT1 (i := 7) rfl rfl, inT3 (i := 32) rfl rfl, inT3 (i := 33) rfl rfl⟩
theorem V9_40 : okV 9 40 0 m5_atEnd := ⟨Nat.le_of_ble_eq_true rfl, okM_m5_atEnd, ⟨by decide +kernel, by decide +kernel, by decide +kernel⟩, inT5 (i := 65) rfl rfl, inT1 (i := 2) rfl rfl, inT3 (i := 237) rfl rfl, inT3 (i := 238) rfl rfl⟩
theorem V9_46 : okV 9 46 1 m5_needsNumber := ⟨Nat.le_of_ble_eq_true rfl, okM_m5_needsNumber, ⟨by decide +kernel, by decide +kernel, by decide +kernel⟩, inT5 (i := 66) rfl rfl, inT1 (i := 2) rfl rfl, inT4 (i := 82) rfl rfl, inT4 (i := 83) rfl rfl⟩
theorem V9_53 : okV 9 53 2 m5_fail := ⟨Nat.le_of_ble_eq_true rfl, okM_m5_fail, ⟨by decide +kernel, by decide +kernel, by decide +kernel⟩, inT5 (i := 67) rfl rfl, inT1 (i := 2) rfl rfl, inT4 (i := 16) rfl rfl, inT4 (i := 17) rfl rfl⟩
theorem V9_60 : okV 9 60 1 m5_needs := ⟨Nat.le_of_ble_eq_true rfl, okM_m5_needs, ⟨by decide +kernel, by decide +kernel, by decide +kernel⟩, inT5 (i := 68) rfl rfl, inT1 (i := 2) rfl rfl, inT4 (i := 110) rfl rfl, inT4 (i := 111) rfl rfl⟩
theorem V9_69 : okV 9 69 0 m0_renew := ⟨Nat.le_of_ble_eq_true rfl, okM_m0_renew, ⟨by decide +kernel, by decide +kernel, by decide +kernel⟩, inT3 (i := 46) rfl rfl, inT1 (i := 9) rfl rfl, inT3 (i := 47) rfl rfl, inT3 (i := 48) rfl rfl⟩
theorem V9_74 : okV 9 74 0 m4_allRooms := ⟨Nat.le_of_ble_eq_true rfl, okM_m4_allRooms, ⟨by decide +kernel, by decide +kernel, by decide +kernel⟩, inT3 (i := 50) rfl rfl, inT1 (i := 3) rfl rfl, inT3 (i := 51) rfl rfl, inT3 (i := 52) rfl rfl⟩
theorem V9_80 : okV 9 80 1 m0_oneAhead := ⟨Nat.le_of_ble_eq_true rfl, okM_m0_oneAhead, ⟨by decide +kernel, by decide +kernel, by decide +kernel⟩, inT3 (i := 54) rfl rfl, inT1 (i := 9) rfl rfl, inT3 (i := 55) rfl rfl, inT3 (i := 56) rfl rfl⟩
theorem V9_87 : okV 9 87 0 m9_standing := ⟨Nat.le_of_ble_eq_true rfl, okM_m9_standing, ⟨by decide +kernel, by decide +kernel, by decide +kernel⟩, inT3 (i := 70) rfl rfl, inT1 (i := 10) rfl rfl, inT3 (i := 43) rfl rfl, inT3 (i := 44) rfl rfl⟩
theorem V9_90 : okV 9 90 1 m9_allKnow := ⟨Nat.le_of_ble_eq_true rfl, okM_m9_allKnow, ⟨by decide +kernel, by decide +kernel, by decide +kernel⟩, inT3 (i := 71) rfl rfl, inT1 (i := 10) rfl rfl, inT3 (i := 73) rfl rfl, inS (i := 2) rfl rfl⟩
theorem V9_93 : okV 9 93 1 m9_lookOnce := ⟨Nat.le_of_ble_eq_true rfl, okM_m9_lookOnce, ⟨by decide +kernel, by decide +kernel, by decide +kernel⟩, inT3 (i := 81) rfl rfl, inT1 (i := 10) rfl rfl, inT3 (i := 83) rfl rfl, inS (i := 3) rfl rfl⟩
theorem V9_105 : okV 9 105 2 m9_fewestBehind := ⟨Nat.le_of_ble_eq_true rfl, okM_m9_fewestBehind, ⟨by decide +kernel, by decide +kernel, by decide +kernel⟩, inT5 (i := 155) rfl rfl, inT1 (i := 10) rfl rfl, inT5 (i := 157) rfl rfl, inS (i := 34) rfl rfl⟩
theorem V9_109 : okV 9 109 2 m9_slip := ⟨Nat.le_of_ble_eq_true rfl, okM_m9_slip, ⟨by decide +kernel, by decide +kernel, by decide +kernel⟩, inT5 (i := 164) rfl rfl, inT1 (i := 10) rfl rfl, inT5 (i := 166) rfl rfl, inS (i := 35) rfl rfl⟩
theorem V9_120 : okV 9 120 1 m0_aheadOf := ⟨Nat.le_of_ble_eq_true rfl, okM_m0_aheadOf, ⟨by decide +kernel, by decide +kernel, by decide +kernel⟩, inT5 (i := 159) rfl rfl, inT1 (i := 9) rfl rfl, inT5 (i := 160) rfl rfl, inT5 (i := 161) rfl rfl⟩
theorem V10_34 : okV 10 34 3 m10_readSteps := ⟨Nat.le_of_ble_eq_true rfl, okM_m10_readSteps, ⟨by decide +kernel, by decide +kernel, by decide +kernel⟩, inT4 (i := 210) rfl rfl, inT1 (i := 5) rfl rfl, inT4 (i := 212) rfl rfl, inS (i := 24) rfl rfl⟩
theorem V10_38 : okV 10 38 0 m5_atEnd := ⟨Nat.le_of_ble_eq_true rfl, okM_m5_atEnd, ⟨by decide +kernel, by decide +kernel, by decide +kernel⟩, inT4 (i := 214) rfl rfl, inT1 (i := 2) rfl rfl, inT3 (i := 237) rfl rfl, inT3 (i := 238) rfl rfl⟩
theorem V10_44 : okV 10 44 1 m5_takes := ⟨Nat.le_of_ble_eq_true rfl, okM_m5_takes, ⟨by decide +kernel, by decide +kernel, by decide +kernel⟩, inT4 (i := 215) rfl rfl, inT1 (i := 2) rfl rfl, inT4 (i := 191) rfl rfl, inT4 (i := 192) rfl rfl⟩
theorem V10_48 : okV 10 48 3 m10_readStep := ⟨Nat.le_of_ble_eq_true rfl, okM_m10_readStep, ⟨by decide +kernel, by decide +kernel, by decide +kernel⟩, inT4 (i := 216) rfl rfl, inT1 (i := 5) rfl rfl, inT4 (i := 218) rfl rfl, inS (i := 25) rfl rfl⟩
theorem V10_51 : okV 10 51 1 m5_needs := ⟨Nat.le_of_ble_eq_true rfl, okM_m5_needs, ⟨by decide +kernel, by decide +kernel, by decide +kernel⟩, inT5 (i := 5) rfl rfl, inT1 (i := 2) rfl rfl, inT4 (i := 110) rfl rfl, inT4 (i := 111) rfl rfl⟩
theorem V10_54 : okV 10 54 0 m5_needsEnd := ⟨Nat.le_of_ble_eq_true rfl, okM_m5_needsEnd, ⟨by decide +kernel, by decide +kernel, by decide +kernel⟩, inT5 (i := 6) rfl rfl, inT1 (i := 2) rfl rfl, inT4 (i := 195) rfl rfl, inT4 (i := 196) rfl rfl⟩
theorem V10_57 : okV 10 57 0 m5_needsWord := ⟨Nat.le_of_ble_eq_true rfl, okM_m5_needsWord, ⟨by decide +kernel, by decide +kernel, by decide +kernel⟩, inT4 (i := 220) rfl rfl, inT1 (i := 2) rfl rfl, inT4 (i := 9) rfl rfl, inT4 (i := 10) rfl rfl⟩
theorem V10_62 : okV 10 62 1 m5_isWord := ⟨Nat.le_of_ble_eq_true rfl, okM_m5_isWord, ⟨by decide +kernel, by decide +kernel, by decide +kernel⟩, inT4 (i := 222) rfl rfl, inT1 (i := 2) rfl rfl, inT4 (i := 25) rfl rfl, inT4 (i := 26) rfl rfl⟩
theorem V10_66 : okV 10 66 2 m10_readGo := ⟨Nat.le_of_ble_eq_true rfl, okM_m10_readGo, ⟨by decide +kernel, by decide +kernel, by decide +kernel⟩, inT4 (i := 223) rfl rfl, inT1 (i := 5) rfl rfl, inT4 (i := 225) rfl rfl, inS (i := 26) rfl rfl⟩
theorem V10_72 : okV 10 72 3 m10_readDoorStep := ⟨Nat.le_of_ble_eq_true rfl, okM_m10_readDoorStep, ⟨by decide +kernel, by decide +kernel, by decide +kernel⟩, inT4 (i := 233) rfl rfl, inT1 (i := 5) rfl rfl, inT4 (i := 235) rfl rfl, inS (i := 28) rfl rfl⟩
theorem V10_79 : okV 10 79 3 m10_put := ⟨Nat.le_of_ble_eq_true rfl, okM_m10_put, ⟨by decide +kernel, by decide +kernel, by decide +kernel⟩, inT4 (i := 228) rfl rfl, inT1 (i := 5) rfl rfl, inT4 (i := 230) rfl rfl, inS (i := 27) rfl rfl⟩
theorem V10_88 : okV 10 88 2 m5_fail := ⟨Nat.le_of_ble_eq_true rfl, okM_m5_fail, ⟨by decide +kernel, by decide +kernel, by decide +kernel⟩, inT5 (i := 0) rfl rfl, inT1 (i := 2) rfl rfl, inT4 (i := 16) rfl rfl, inT4 (i := 17) rfl rfl⟩
theorem V10_92 : okV 10 92 3 m10_readAgain := ⟨Nat.le_of_ble_eq_true rfl, okM_m10_readAgain, ⟨by decide +kernel, by decide +kernel, by decide +kernel⟩, inT5 (i := 1) rfl rfl, inT1 (i := 5) rfl rfl, inT5 (i := 3) rfl rfl, inS (i := 29) rfl rfl⟩
theorem V10_100 : okV 10 100 1 m5_needsNumber := ⟨Nat.le_of_ble_eq_true rfl, okM_m5_needsNumber, ⟨by decide +kernel, by decide +kernel, by decide +kernel⟩, inT4 (i := 227) rfl rfl, inT1 (i := 2) rfl rfl, inT4 (i := 82) rfl rfl, inT4 (i := 83) rfl rfl⟩
theorem V10_109 : okV 10 109 1 m10_turnBack := ⟨Nat.le_of_ble_eq_true rfl, okM_m10_turnBack, ⟨by decide +kernel, by decide +kernel, by decide +kernel⟩, inT5 (i := 15) rfl rfl, inT1 (i := 5) rfl rfl, inT5 (i := 17) rfl rfl, inS (i := 30) rfl rfl⟩
theorem V10_113 : okV 10 113 4 m10_isDone := ⟨Nat.le_of_ble_eq_true rfl, okM_m10_isDone, ⟨by decide +kernel, by decide +kernel, by decide +kernel⟩, inT5 (i := 19) rfl rfl, inT1 (i := 5) rfl rfl, inT5 (i := 21) rfl rfl, inS (i := 31) rfl rfl⟩
theorem V10_121 : okV 10 121 2 m7_setsBar := ⟨Nat.le_of_ble_eq_true rfl, okM_m7_setsBar, ⟨by decide +kernel, by decide +kernel, by decide +kernel⟩, inT5 (i := 46) rfl rfl, inT1 (i := 7) rfl rfl, inT5 (i := 47) rfl rfl, inT5 (i := 48) rfl rfl⟩
theorem V10_127 : okV 10 127 0 m7_waits := ⟨Nat.le_of_ble_eq_true rfl, okM_m7_waits, ⟨by decide +kernel, by decide +kernel, by decide +kernel⟩, inT5 (i := 50) rfl rfl, inT1 (i := 7) rfl rfl, inT5 (i := 51) rfl rfl, inT5 (i := 52) rfl rfl⟩
theorem V10_138 : okV 10 138 2 m1_isOpen := ⟨Nat.le_of_ble_eq_true rfl, okM_m1_isOpen, ⟨by decide +kernel, by decide +kernel, by decide +kernel⟩, inT5 (i := 26) rfl rfl, inT1 (i := 8) rfl rfl, inT5 (i := 27) rfl rfl, inT5 (i := 28) rfl rfl⟩
theorem V10_149 : okV 10 149 2 m7_toursIn := ⟨Nat.le_of_ble_eq_true rfl, okM_m7_toursIn, ⟨by decide +kernel, by decide +kernel, by decide +kernel⟩, inT5 (i := 42) rfl rfl, inT1 (i := 7) rfl rfl, inT5 (i := 43) rfl rfl, inT5 (i := 44) rfl rfl⟩
theorem V11_124 : okV 11 124 1 m11_putNumber := ⟨Nat.le_of_ble_eq_true rfl, okM_m11_putNumber, ⟨by decide +kernel, by decide +kernel, by decide +kernel⟩, inT3 (i := 15) rfl rfl, inT1 (i := 1) rfl rfl, inT3 (i := 17) rfl rfl, inS (i := 0) rfl rfl⟩
theorem V11_128 : okV 11 128 2 m11_needBytes := ⟨Nat.le_of_ble_eq_true rfl, okM_m11_needBytes, ⟨by decide +kernel, by decide +kernel, by decide +kernel⟩, inT3 (i := 145) rfl rfl, inT1 (i := 1) rfl rfl, inT3 (i := 147) rfl rfl, inS (i := 5) rfl rfl⟩
theorem V11_132 : okV 11 132 1 m11_takeTape := ⟨Nat.le_of_ble_eq_true rfl, okM_m11_takeTape, ⟨by decide +kernel, by decide +kernel, by decide +kernel⟩, inT3 (i := 219) rfl rfl, inT1 (i := 1) rfl rfl, inT3 (i := 221) rfl rfl, inS (i := 8) rfl rfl⟩
theorem V11_135 : okV 11 135 1 m4_read := ⟨Nat.le_of_ble_eq_true rfl, okM_m4_read, ⟨by decide +kernel, by decide +kernel, by decide +kernel⟩, inT3 (i := 228) rfl rfl, inT1 (i := 3) rfl rfl, inT3 (i := 229) rfl rfl, inT3 (i := 230) rfl rfl⟩
theorem V11_139 : okV 11 139 0 m11_faultOfText := ⟨Nat.le_of_ble_eq_true rfl, okM_m11_faultOfText, ⟨by decide +kernel, by decide +kernel, by decide +kernel⟩, inT4 (i := 113) rfl rfl, inT1 (i := 1) rfl rfl, inT4 (i := 115) rfl rfl, inS (i := 17) rfl rfl⟩
theorem V11_143 : okV 11 143 1 m4_copyFrom := ⟨Nat.le_of_ble_eq_true rfl, okM_m4_copyFrom, ⟨by decide +kernel, by decide +kernel, by decide +kernel⟩, inT4 (i := 117) rfl rfl, inT1 (i := 3) rfl rfl, inT4 (i := 118) rfl rfl, inT4 (i := 119) rfl rfl⟩
theorem V11_147 : okV 11 147 1 m8_begin := ⟨Nat.le_of_ble_eq_true rfl, okM_m8_begin, ⟨by decide +kernel, by decide +kernel, by decide +kernel⟩, inT4 (i := 122) rfl rfl, inT1 (i := 6) rfl rfl, inT4 (i := 123) rfl rfl, inT4 (i := 124) rfl rfl⟩
theorem V11_150 : okV 11 150 0 m2_clear := ⟨Nat.le_of_ble_eq_true rfl, okM_m2_clear, ⟨by decide +kernel, by decide +kernel, by decide +kernel⟩, inT4 (i := 130) rfl rfl, inT1 (i := 4) rfl rfl, inT1 (i := 173) rfl rfl, inT1 (i := 174) rfl rfl⟩
theorem V11_153 : okV 11 153 0 m9_clear := ⟨Nat.le_of_ble_eq_true rfl, okM_m9_clear, ⟨by decide +kernel, by decide +kernel, by decide +kernel⟩, inT4 (i := 131) rfl rfl, inT1 (i := 10) rfl rfl, inT4 (i := 132) rfl rfl, inT4 (i := 133) rfl rfl⟩
theorem V11_157 : okV 11 157 1 m2_read := ⟨Nat.le_of_ble_eq_true rfl, okM_m2_read, ⟨by decide +kernel, by decide +kernel, by decide +kernel⟩, inT4 (i := 142) rfl rfl, inT1 (i := 4) rfl rfl, inT4 (i := 143) rfl rfl, inT4 (i := 144) rfl rfl⟩
theorem V11_161 : okV 11 161 2 m10_read := ⟨Nat.le_of_ble_eq_true rfl, okM_m10_read, ⟨by decide +kernel, by decide +kernel, by decide +kernel⟩, inT4 (i := 206) rfl rfl, inT1 (i := 5) rfl rfl, inT4 (i := 207) rfl rfl, inT4 (i := 208) rfl rfl⟩
theorem V11_164 : okV 11 164 0 m8_keep := ⟨Nat.le_of_ble_eq_true rfl, okM_m8_keep, ⟨by decide +kernel, by decide +kernel, by decide +kernel⟩, inT5 (i := 7) rfl rfl, inT1 (i := 6) rfl rfl, inT5 (i := 8) rfl rfl, inT5 (i := 9) rfl rfl⟩
theorem V11_167 : okV 11 167 3 m10_run := ⟨Nat.le_of_ble_eq_true rfl, okM_m10_run, ⟨by decide +kernel, by decide +kernel, by decide +kernel⟩, inT5 (i := 11) rfl rfl, inT1 (i := 5) rfl rfl, inT5 (i := 12) rfl rfl, inT5 (i := 13) rfl rfl⟩
theorem V11_176 : okV 11 176 1 m9_read := ⟨Nat.le_of_ble_eq_true rfl, okM_m9_read, ⟨by decide +kernel, by decide +kernel, by decide +kernel⟩, inT5 (i := 61) rfl rfl, inT1 (i := 10) rfl rfl, inT5 (i := 62) rfl rfl, inT5 (i := 63) rfl rfl⟩
theorem V11_180 : okV 11 180 0 m8_takeBack := ⟨Nat.le_of_ble_eq_true rfl, okM_m8_takeBack, ⟨by decide +kernel, by decide +kernel, by decide +kernel⟩, inT3 (i := 27) rfl rfl, inT1 (i := 6) rfl rfl, inT3 (i := 28) rfl rfl, inT3 (i := 29) rfl rfl⟩
theorem V11_183 : okV 11 183 3 m11_needWithin := ⟨Nat.le_of_ble_eq_true rfl, okM_m11_needWithin, ⟨by decide +kernel, by decide +kernel, by decide +kernel⟩, inT3 (i := 149) rfl rfl, inT1 (i := 1) rfl rfl, inT3 (i := 151) rfl rfl, inS (i := 6) rfl rfl⟩
theorem V11_198 : okV 11 198 1 m1_openDoors := ⟨Nat.le_of_ble_eq_true rfl, okM_m1_openDoors, ⟨by decide +kernel, by decide +kernel, by decide +kernel⟩, inT5 (i := 77) rfl rfl, inT1 (i := 8) rfl rfl, inT5 (i := 78) rfl rfl, inT5 (i := 79) rfl rfl⟩
theorem V11_210 : okV 11 210 0 m7_usedInAll := ⟨Nat.le_of_ble_eq_true rfl, okM_m7_usedInAll, ⟨by decide +kernel, by decide +kernel, by decide +kernel⟩, inT5 (i := 83) rfl rfl, inT1 (i := 7) rfl rfl, inT5 (i := 84) rfl rfl, inT5 (i := 85) rfl rfl⟩
theorem V11_216 : okV 11 216 1 m11_needRoom := ⟨Nat.le_of_ble_eq_true rfl, okM_m11_needRoom, ⟨by decide +kernel, by decide +kernel, by decide +kernel⟩, inT5 (i := 95) rfl rfl, inT1 (i := 1) rfl rfl, inT5 (i := 97) rfl rfl, inS (i := 32) rfl rfl⟩
theorem V11_229 : okV 11 229 2 m7_toursIn := ⟨Nat.le_of_ble_eq_true rfl, okM_m7_toursIn, ⟨by decide +kernel, by decide +kernel, by decide +kernel⟩, inT5 (i := 115) rfl rfl, inT1 (i := 7) rfl rfl, inT5 (i := 43) rfl rfl, inT5 (i := 44) rfl rfl⟩
theorem V11_239 : okV 11 239 1 m11_needDoor := ⟨Nat.le_of_ble_eq_true rfl, okM_m11_needDoor, ⟨by decide +kernel, by decide +kernel, by decide +kernel⟩, inT5 (i := 123) rfl rfl, inT1 (i := 1) rfl rfl, inT5 (i := 125) rfl rfl, inS (i := 33) rfl rfl⟩
theorem V11_254 : okV 11 254 2 m1_isOpen := ⟨Nat.le_of_ble_eq_true rfl, okM_m1_isOpen, ⟨by decide +kernel, by decide +kernel, by decide +kernel⟩, inT5 (i := 128) rfl rfl, inT1 (i := 8) rfl rfl, inT5 (i := 27) rfl rfl, inT5 (i := 28) rfl rfl⟩
theorem V11_271 : okV 11 271 0 m9_standing := ⟨Nat.le_of_ble_eq_true rfl, okM_m9_standing, ⟨by decide +kernel, by decide +kernel, by decide +kernel⟩, inT3 (i := 42) rfl rfl, inT1 (i := 10) rfl rfl, inT3 (i := 43) rfl rfl, inT3 (i := 44) rfl rfl⟩
theorem V11_274 : okV 11 274 0 m9_roomsToKnow := ⟨Nat.le_of_ble_eq_true rfl, okM_m9_roomsToKnow, ⟨by decide +kernel, by decide +kernel, by decide +kernel⟩, inT3 (i := 66) rfl rfl, inT1 (i := 10) rfl rfl, inT3 (i := 67) rfl rfl, inT3 (i := 68) rfl rfl⟩
theorem V11_277 : okV 11 277 0 m9_fewestWrong := ⟨Nat.le_of_ble_eq_true rfl, okM_m9_fewestWrong, ⟨by decide +kernel, by decide +kernel, by decide +kernel⟩, inT5 (i := 151) rfl rfl, inT1 (i := 10) rfl rfl, inT5 (i := 152) rfl rfl, inT5 (i := 153) rfl rfl⟩
theorem V11_280 : okV 11 280 1 m9_firstWrong := ⟨Nat.le_of_ble_eq_true rfl, okM_m9_firstWrong, ⟨by decide +kernel, by decide +kernel, by decide +kernel⟩, inT5 (i := 168) rfl rfl, inT1 (i := 10) rfl rfl, inT5 (i := 169) rfl rfl, inT5 (i := 170) rfl rfl⟩
theorem V11_283 : okV 11 283 2 m1_soonest := ⟨Nat.le_of_ble_eq_true rfl, okM_m1_soonest, ⟨by decide +kernel, by decide +kernel, by decide +kernel⟩, inT5 (i := 186) rfl rfl, inT1 (i := 8) rfl rfl, inT5 (i := 187) rfl rfl, inT5 (i := 188) rfl rfl⟩
theorem V11_286 : okV 11 286 2 m1_reachedIn := ⟨Nat.le_of_ble_eq_true rfl, okM_m1_reachedIn, ⟨by decide +kernel, by decide +kernel, by decide +kernel⟩, inT5 (i := 201) rfl rfl, inT1 (i := 8) rfl rfl, inT5 (i := 202) rfl rfl, inT5 (i := 203) rfl rfl⟩
theorem V11_289 : okV 11 289 0 m0_renew := ⟨Nat.le_of_ble_eq_true rfl, okM_m0_renew, ⟨by decide +kernel, by decide +kernel, by decide +kernel⟩, inT3 (i := 89) rfl rfl, inT1 (i := 9) rfl rfl, inT3 (i := 47) rfl rfl, inT3 (i := 48) rfl rfl⟩
theorem V11_292 : okV 11 292 2 m0_fewestDoors := ⟨Nat.le_of_ble_eq_true rfl, okM_m0_fewestDoors, ⟨by decide +kernel, by decide +kernel, by decide +kernel⟩, inT5 (i := 219) rfl rfl, inT1 (i := 9) rfl rfl, inT5 (i := 220) rfl rfl, inT5 (i := 221) rfl rfl⟩
theorem V11_295 : okV 11 295 1 m0_unrollFrom := ⟨Nat.le_of_ble_eq_true rfl, okM_m0_unrollFrom, ⟨by decide +kernel, by decide +kernel, by decide +kernel⟩, inT5 (i := 231) rfl rfl, inT1 (i := 9) rfl rfl, inT5 (i := 232) rfl rfl, inT5 (i := 233) rfl rfl⟩
theorem V11_304 : okV 11 304 0 m4_allRooms := ⟨Nat.le_of_ble_eq_true rfl, okM_m4_allRooms, ⟨by decide +kernel, by decide +kernel, by decide +kernel⟩, inT6 (i := 5) rfl rfl, inT1 (i := 3) rfl rfl, inT3 (i := 51) rfl rfl, inT3 (i := 52) rfl rfl⟩
theorem V11_307 : okV 11 307 1 m0_reachFrom := ⟨Nat.le_of_ble_eq_true rfl, okM_m0_reachFrom, ⟨by decide +kernel, by decide +kernel, by decide +kernel⟩, inT6 (i := 6) rfl rfl, inT1 (i := 9) rfl rfl, inT3 (i := 100) rfl rfl, inT3 (i := 101) rfl rfl⟩
theorem V11_310 : okV 11 310 1 m0_reachTo := ⟨Nat.le_of_ble_eq_true rfl, okM_m0_reachTo, ⟨by decide +kernel, by decide +kernel, by decide +kernel⟩, inT6 (i := 7) rfl rfl, inT1 (i := 9) rfl rfl, inT3 (i := 108) rfl rfl, inT3 (i := 109) rfl rfl⟩
theorem V11_313 : okV 11 313 0 m0_newDoorsToJoinAll := ⟨Nat.le_of_ble_eq_true rfl, okM_m0_newDoorsToJoinAll, ⟨by decide +kernel, by decide +kernel, by decide +kernel⟩, inT3 (i := 90) rfl rfl, inT1 (i := 9) rfl rfl, inT3 (i := 91) rfl rfl, inT3 (i := 92) rfl rfl⟩
theorem V11_316 : okV 11 316 1 m0_wingOf := ⟨Nat.le_of_ble_eq_true rfl, okM_m0_wingOf, ⟨by decide +kernel, by decide +kernel, by decide +kernel⟩, inT6 (i := 15) rfl rfl, inT1 (i := 9) rfl rfl, inT3 (i := 96) rfl rfl, inT3 (i := 97) rfl rfl⟩
theorem V11_319 : okV 11 319 1 m0_goRound := ⟨Nat.le_of_ble_eq_true rfl, okM_m0_goRound, ⟨by decide +kernel, by decide +kernel, by decide +kernel⟩, inT6 (i := 23) rfl rfl, inT1 (i := 9) rfl rfl, inT6 (i := 24) rfl rfl, inT6 (i := 25) rfl rfl⟩
theorem V11_322 : okV 11 322 2 m0_bringTogether := ⟨Nat.le_of_ble_eq_true rfl, okM_m0_bringTogether, ⟨by decide +kernel, by decide +kernel, by decide +kernel⟩, inT6 (i := 50) rfl rfl, inT1 (i := 9) rfl rfl, inT6 (i := 51) rfl rfl, inT6 (i := 52) rfl rfl⟩
theorem V11_325 : okV 11 325 2 m3_fewest := ⟨Nat.le_of_ble_eq_true rfl, okM_m3_fewest, ⟨by decide +kernel, by decide +kernel, by decide +kernel⟩, inT6 (i := 61) rfl rfl, inT1 (i := 11) rfl rfl, inT6 (i := 62) rfl rfl, inT6 (i := 63) rfl rfl⟩
theorem V11_328 : okV 11 328 2 m3_firstDoors := ⟨Nat.le_of_ble_eq_true rfl, okM_m3_firstDoors, ⟨by decide +kernel, by decide +kernel, by decide +kernel⟩, inT6 (i := 85) rfl rfl, inT1 (i := 11) rfl rfl, inT6 (i := 86) rfl rfl, inT6 (i := 87) rfl rfl⟩
theorem V11_331 : okV 11 331 2 m0_likeliest := ⟨Nat.le_of_ble_eq_true rfl, okM_m0_likeliest, ⟨by decide +kernel, by decide +kernel, by decide +kernel⟩, inT6 (i := 96) rfl rfl, inT1 (i := 9) rfl rfl, inT6 (i := 97) rfl rfl, inT6 (i := 98) rfl rfl⟩
theorem V11_335 : okV 11 335 1 m0_aboveInLeastTerms := ⟨Nat.le_of_ble_eq_true rfl, okM_m0_aboveInLeastTerms, ⟨by decide +kernel, by decide +kernel, by decide +kernel⟩, inT6 (i := 102) rfl rfl, inT1 (i := 9) rfl rfl, inT6 (i := 103) rfl rfl, inT6 (i := 104) rfl rfl⟩
theorem V11_339 : okV 11 339 1 m0_belowInLeastTerms := ⟨Nat.le_of_ble_eq_true rfl, okM_m0_belowInLeastTerms, ⟨by decide +kernel, by decide +kernel, by decide +kernel⟩, inT6 (i := 109) rfl rfl, inT1 (i := 9) rfl rfl, inT6 (i := 110) rfl rfl, inT6 (i := 111) rfl rfl⟩
theorem V11_342 : okV 11 342 2 m0_firstDoor := ⟨Nat.le_of_ble_eq_true rfl, okM_m0_firstDoor, ⟨by decide +kernel, by decide +kernel, by decide +kernel⟩, inT6 (i := 127) rfl rfl, inT1 (i := 9) rfl rfl, inT6 (i := 128) rfl rfl, inT6 (i := 129) rfl rfl⟩
theorem V11_345 : okV 11 345 1 m0_oneAhead := ⟨Nat.le_of_ble_eq_true rfl, okM_m0_oneAhead, ⟨by decide +kernel, by decide +kernel, by decide +kernel⟩, inT6 (i := 139) rfl rfl, inT1 (i := 9) rfl rfl, inT3 (i := 55) rfl rfl, inT3 (i := 56) rfl rfl⟩
theorem V11_348 : okV 11 348 0 m6_lieDown := ⟨Nat.le_of_ble_eq_true rfl, okM_m6_lieDown, ⟨by decide +kernel, by decide +kernel, by decide +kernel⟩, inT6 (i := 168) rfl rfl, inT1 (i := 12) rfl rfl, inT6 (i := 169) rfl rfl, inT6 (i := 170) rfl rfl⟩
theorem V11_351 : okV 11 351 3 m6_sleep := ⟨Nat.le_of_ble_eq_true rfl, okM_m6_sleep, ⟨by decide +kernel, by decide +kernel, by decide +kernel⟩, inT6 (i := 172) rfl rfl, inT1 (i := 12) rfl rfl, inT6 (i := 173) rfl rfl, inT6 (i := 174) rfl rfl⟩
theorem V11_365 : okV 11 365 1 m5_begin := ⟨Nat.le_of_ble_eq_true rfl, okM_m5_begin, ⟨by decide +kernel, by decide +kernel, by decide +kernel⟩, inT3 (i := 223) rfl rfl, inT1 (i := 2) rfl rfl, inT3 (i := 224) rfl rfl, inT3 (i := 225) rfl rfl⟩
theorem kdS_1625 {i : Nat} (h : i < 16) : oF (1625 + 3 * i) 7 := (show ∀ i, i < 16 → (1625 + 3 * i < NC ∧ kd (1625 + 3 * i) = (0, 7)) by decide +kernel) i h
theorem isS_1625 {i : Nat} (h : i < 16) : isS (1625 + 3 * i) := (show ∀ i, i < 16 → (1625 + 3 * i + 2 < NC ∧ kd (1625 + 3 * i) = (0, 7) ∧ kd (1625 + 3 * i + 1) = (1, 24) ∧ kd (1625 + 3 * i + 2) = (1, 6) ∧ rf (1625 + 3 * i) 3 = 1625 + 3 * i + 1 ∧ rf (1625 + 3 * i) 4 = 1625 + 3 * i + 2) by decide +kernel) i h
theorem kdS_1676 {i : Nat} (h : i < 16) : oF (1676 + 3 * i) 7 := (show ∀ i, i < 16 → (1676 + 3 * i < NC ∧ kd (1676 + 3 * i) = (0, 7)) by decide +kernel) i h
theorem isS_1676 {i : Nat} (h : i < 16) : isS (1676 + 3 * i) := (show ∀ i, i < 16 → (1676 + 3 * i + 2 < NC ∧ kd (1676 + 3 * i) = (0, 7) ∧ kd (1676 + 3 * i + 1) = (1, 24) ∧ kd (1676 + 3 * i + 2) = (1, 6) ∧ rf (1676 + 3 * i) 3 = 1676 + 3 * i + 1 ∧ rf (1676 + 3 * i) 4 = 1676 + 3 * i + 2) by decide +kernel) i h
theorem kdS_1727 {i : Nat} (h : i < 16) : oF (1727 + 3 * i) 7 := (show ∀ i, i < 16 → (1727 + 3 * i < NC ∧ kd (1727 + 3 * i) = (0, 7)) by decide +kernel) i h
theorem isS_1727 {i : Nat} (h : i < 16) : isS (1727 + 3 * i) := (show ∀ i, i < 16 → (1727 + 3 * i + 2 < NC ∧ kd (1727 + 3 * i) = (0, 7) ∧ kd (1727 + 3 * i + 1) = (1, 24) ∧ kd (1727 + 3 * i + 2) = (1, 6) ∧ rf (1727 + 3 * i) 3 = 1727 + 3 * i + 1 ∧ rf (1727 + 3 * i) 4 = 1727 + 3 * i + 2) by decide +kernel) i h
theorem kdS_1778 {i : Nat} (h : i < 16) : oF (1778 + 3 * i) 7 := (show ∀ i, i < 16 → (1778 + 3 * i < NC ∧ kd (1778 + 3 * i) = (0, 7)) by decide +kernel) i h
theorem isS_1778 {i : Nat} (h : i < 16) : isS (1778 + 3 * i) := (show ∀ i, i < 16 → (1778 + 3 * i + 2 < NC ∧ kd (1778 + 3 * i) = (0, 7) ∧ kd (1778 + 3 * i + 1) = (1, 24) ∧ kd (1778 + 3 * i + 2) = (1, 6) ∧ rf (1778 + 3 * i) 3 = 1778 + 3 * i + 1 ∧ rf (1778 + 3 * i) 4 = 1778 + 3 * i + 2) by decide +kernel) i h
theorem thA11_261 : ∀ w ∈ (nseAt RX11 265).filter goodWord, w ∈ lw_tbl := by decide +kernel
theorem thB11_261 : ((nseAt RX11 265).filter (fun w => !goodWord w)).all (fun w => decide (w ∈ castT.map (fun q => Cond.castable q.1 q.2) ++ declT.map (fun q => Cond.declares q))) = true := by decide +kernel
theorem thr11_261 : thrOK 11 261 265 "java/util/NoSuchElementException" := by
  refine ⟨by decide +kernel, inT5 (i := 99) rfl rfl, inT1 (i := 25) rfl rfl, Or.inr ⟨rfl, by decide +kernel, ?_⟩⟩
  intro w hw
  by_cases hg : goodWord w = true
  · exact Or.inl (List.mem_filter.mpr ⟨thA11_261 w (List.mem_filter.mpr ⟨hw, hg⟩), hg⟩)
  · have h1 := List.all_eq_true.mp thB11_261 w (List.mem_filter.mpr ⟨hw, by simpa using hg⟩)
    have h1 := of_decide_eq_true h1
    rcases List.mem_append.mp h1 with h1 | h1
    · obtain ⟨q, hq, rfl⟩ := List.mem_map.mp h1
      exact Or.inr (Or.inl ⟨q, hq, rfl⟩)
    · obtain ⟨q, hq, rfl⟩ := List.mem_map.mp h1
      exact Or.inr (Or.inr ⟨q, hq, rfl⟩)
theorem thA11_371 : ∀ w ∈ (vx_atS RX11 375 "java/lang/IllegalArgumentException" ["java/lang/RuntimeException", "java/lang/Exception"]).filter goodWord, w ∈ lw_tbl := by decide +kernel
theorem thB11_371 : ((vx_atS RX11 375 "java/lang/IllegalArgumentException" ["java/lang/RuntimeException", "java/lang/Exception"]).filter (fun w => !goodWord w)).all (fun w => decide (w ∈ castT.map (fun q => Cond.castable q.1 q.2) ++ declT.map (fun q => Cond.declares q))) = true := by decide +kernel
theorem thr11_371 : thrOK 11 371 375 "java/lang/IllegalArgumentException" := by
  refine ⟨by decide +kernel, inT3 (i := 153) rfl rfl, inT1 (i := 17) rfl rfl, Or.inl ⟨rfl, by decide +kernel, ?_⟩⟩
  intro w hw
  by_cases hg : goodWord w = true
  · exact Or.inl (List.mem_filter.mpr ⟨thA11_371 w (List.mem_filter.mpr ⟨hw, hg⟩), hg⟩)
  · have h1 := List.all_eq_true.mp thB11_371 w (List.mem_filter.mpr ⟨hw, by simpa using hg⟩)
    have h1 := of_decide_eq_true h1
    rcases List.mem_append.mp h1 with h1 | h1
    · obtain ⟨q, hq, rfl⟩ := List.mem_map.mp h1
      exact Or.inr (Or.inl ⟨q, hq, rfl⟩)
    · obtain ⟨q, hq, rfl⟩ := List.mem_map.mp h1
      exact Or.inr (Or.inr ⟨q, hq, rfl⟩)
