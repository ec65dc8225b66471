/-! the reference's code (printed) -/
theorem ck_X12_isIn : am_ckc cX12_isIn 6 co_X12_isIn = true := by decide +kernel
theorem ck_X12_feed : am_ckc cX12_feed 8 co_X12_feed = true := by decide +kernel
theorem ck_X12_end : am_ckc cX12_end 2 co_X12_end = true := by decide +kernel
theorem ck_X12_fail : am_ckc cX12_fail 3 co_X12_fail = true := by decide +kernel
theorem ck_X12_isLetter : am_ckc cX12_isLetter 1 co_X12_isLetter = true := by decide +kernel
theorem ck_X12_isDigit : am_ckc cX12_isDigit 1 co_X12_isDigit = true := by decide +kernel
theorem ck_X12_look : am_ckc cX12_look 1 co_X12_look = true := by decide +kernel
theorem ck_X12_isHere : am_ckc cX12_isHere 4 co_X12_isHere = true := by decide +kernel
theorem ck_X12_takes : am_ckc cX12_takes 2 co_X12_takes = true := by decide +kernel
theorem ck_X12_asks : am_ckc cX12_asks 2 co_X12_asks = true := by decide +kernel
theorem ck_X12_takesSign : am_ckc cX12_takesSign 2 co_X12_takesSign = true := by decide +kernel
theorem ck_X12_asksSign : am_ckc cX12_asksSign 2 co_X12_asksSign = true := by decide +kernel
theorem ck_X12_number : am_ckc cX12_number 5 co_X12_number = true := by decide +kernel
theorem ck_X12_isOwnHere_0 : am_ckc cX12_isOwnHere 2 (co_X12_isOwnHere.take 60) = true := by decide +kernel
theorem ck_X12_isOwnHere_1 : am_ckc cX12_isOwnHere 2 (co_X12_isOwnHere.drop 60) = true := by decide +kernel
theorem ck_X12_isOwnHere : am_ckc cX12_isOwnHere 2 co_X12_isOwnHere = true := am_ckc_cut 60 ck_X12_isOwnHere_0 (ck_X12_isOwnHere_1)
theorem ck_X12_name : am_ckc cX12_name 3 co_X12_name = true := by decide +kernel
theorem ck_X12_isFull : am_ckc cX12_isFull 4 co_X12_isFull = true := by decide +kernel
theorem ck_X12_nameOf : am_ckc cX12_nameOf 5 co_X12_nameOf = true := by decide +kernel
theorem ck_X12_newName : am_ckc cX12_newName 4 co_X12_newName = true := by decide +kernel
theorem ck_X12_oneOf : am_ckc cX12_oneOf 5 co_X12_oneOf = true := by decide +kernel
theorem ck_X12_dreadTold : am_ckc cX12_dreadTold 4 co_X12_dreadTold = true := by decide +kernel
theorem ck_X12_dreamerTold : am_ckc cX12_dreamerTold 5 co_X12_dreamerTold = true := by decide +kernel
theorem ck_X12_fearsTold : am_ckc cX12_fearsTold 4 co_X12_fearsTold = true := by decide +kernel
theorem ck_X12_guideTold : am_ckc cX12_guideTold 5 co_X12_guideTold = true := by decide +kernel
theorem ck_X12_sumIsTold : am_ckc cX12_sumIsTold 3 co_X12_sumIsTold = true := by decide +kernel
theorem ck_X12_statementTold_0 : am_ckc cX12_statementTold 2 (co_X12_statementTold.take 60) = true := by decide +kernel
theorem ck_X12_statementTold_1 : am_ckc cX12_statementTold 2 (((co_X12_statementTold.drop 60)).take 60) = true := by decide +kernel
theorem ck_X12_statementTold_2 : am_ckc cX12_statementTold 2 ((co_X12_statementTold.drop 60).drop 60) = true := by decide +kernel
theorem ck_X12_statementTold : am_ckc cX12_statementTold 2 co_X12_statementTold = true := am_ckc_cut 60 ck_X12_statementTold_0 (am_ckc_cut 60 ck_X12_statementTold_1 (ck_X12_statementTold_2))
theorem ck_X12_dream : am_ckc cX12_dream 2 co_X12_dream = true := by decide +kernel
theorem ck_X12_stands_0 : am_ckc cX12_stands 3 (co_X12_stands.take 60) = true := by decide +kernel
theorem ck_X12_stands_1 : am_ckc cX12_stands 3 (((co_X12_stands.drop 60)).take 60) = true := by decide +kernel
theorem ck_X12_stands_2 : am_ckc cX12_stands 3 ((co_X12_stands.drop 60).drop 60) = true := by decide +kernel
theorem ck_X12_stands : am_ckc cX12_stands 3 co_X12_stands = true := am_ckc_cut 60 ck_X12_stands_0 (am_ckc_cut 60 ck_X12_stands_1 (ck_X12_stands_2))
theorem ck_X12_code : am_ckc cX12_code 2 co_X12_code = true := by decide +kernel
theorem ck_X12_opens : am_ckc cX12_opens 3 co_X12_opens = true := by decide +kernel
theorem ck_X12_isOn : am_ckc cX12_isOn 2 co_X12_isOn = true := by decide +kernel
theorem ck_X12_drops : am_ckc cX12_drops 1 co_X12_drops = true := by decide +kernel
theorem ck_X12_isMark : am_ckc cX12_isMark 2 co_X12_isMark = true := by decide +kernel
theorem ck_X12_waitsLast : am_ckc cX12_waitsLast 2 co_X12_waitsLast = true := by decide +kernel
theorem ck_X12_dropsToMark : am_ckc cX12_dropsToMark 1 co_X12_dropsToMark = true := by decide +kernel
theorem ck_X12_onePart_0 : am_ckc cX12_onePart 5 (co_X12_onePart.take 60) = true := by decide +kernel
theorem ck_X12_onePart_1 : am_ckc cX12_onePart 5 (((co_X12_onePart.drop 60)).take 60) = true := by decide +kernel
theorem ck_X12_onePart_2 : am_ckc cX12_onePart 5 ((co_X12_onePart.drop 60).drop 60) = true := by decide +kernel
theorem ck_X12_onePart : am_ckc cX12_onePart 5 co_X12_onePart = true := am_ckc_cut 60 ck_X12_onePart_0 (am_ckc_cut 60 ck_X12_onePart_1 (ck_X12_onePart_2))
theorem ck_X12_goesOn_0 : am_ckc cX12_goesOn 2 (co_X12_goesOn.take 60) = true := by decide +kernel
theorem ck_X12_goesOn_1 : am_ckc cX12_goesOn 2 (((co_X12_goesOn.drop 60)).take 60) = true := by decide +kernel
theorem ck_X12_goesOn_2 : am_ckc cX12_goesOn 2 ((((co_X12_goesOn.drop 60).drop 60)).take 60) = true := by decide +kernel
theorem ck_X12_goesOn_3 : am_ckc cX12_goesOn 2 (((co_X12_goesOn.drop 60).drop 60).drop 60) = true := by decide +kernel
theorem ck_X12_goesOn : am_ckc cX12_goesOn 2 co_X12_goesOn = true := am_ckc_cut 60 ck_X12_goesOn_0 (am_ckc_cut 60 ck_X12_goesOn_1 (am_ckc_cut 60 ck_X12_goesOn_2 (ck_X12_goesOn_3)))
theorem ck_X12_sumsTold : am_ckc cX12_sumsTold 3 co_X12_sumsTold = true := by decide +kernel
theorem ck_X12_fault : am_ckc cX12_fault 2 co_X12_fault = true := by decide +kernel
theorem ck_X12_clip : am_ckc cX12_clip 2 co_X12_clip = true := by decide +kernel
theorem ck_X12_floor : am_ckc cX12_floor 6 co_X12_floor = true := by decide +kernel
theorem ck_X12_puts : am_ckc cX12_puts 3 co_X12_puts = true := by decide +kernel
theorem ck_X12_joins : am_ckc cX12_joins 6 co_X12_joins = true := by decide +kernel
theorem ck_X12_dreadMany : am_ckc cX12_dreadMany 1 co_X12_dreadMany = true := by decide +kernel
theorem ck_X12_dreamerMany : am_ckc cX12_dreamerMany 1 co_X12_dreamerMany = true := by decide +kernel
theorem ck_X12_guideMany : am_ckc cX12_guideMany 1 co_X12_guideMany = true := by decide +kernel
theorem ck_X12_isDread : am_ckc cX12_isDread 2 co_X12_isDread = true := by decide +kernel
theorem ck_X12_isDreamer : am_ckc cX12_isDreamer 2 co_X12_isDreamer = true := by decide +kernel
theorem ck_X12_settingOf : am_ckc cX12_settingOf 2 co_X12_settingOf = true := by decide +kernel
theorem ck_X12_weightOf : am_ckc cX12_weightOf 3 co_X12_weightOf = true := by decide +kernel
theorem ck_X12_laysNow : am_ckc cX12_laysNow 4 co_X12_laysNow = true := by decide +kernel
theorem ck_X12_laysRow : am_ckc cX12_laysRow 4 co_X12_laysRow = true := by decide +kernel
theorem ck_X12_isNow : am_ckc cX12_isNow 4 co_X12_isNow = true := by decide +kernel
theorem ck_X12_sumAt : am_ckc cX12_sumAt 4 co_X12_sumAt = true := by decide +kernel
theorem ck_X12_greatestAt : am_ckc cX12_greatestAt 4 co_X12_greatestAt = true := by decide +kernel
theorem ck_X12_manyAt : am_ckc cX12_manyAt 4 co_X12_manyAt = true := by decide +kernel
theorem ck_X12_isHomeAt : am_ckc cX12_isHomeAt 2 co_X12_isHomeAt = true := by decide +kernel
theorem ck_X12_counts : am_ckc cX12_counts 4 co_X12_counts = true := by decide +kernel
theorem ck_X12_worstAt : am_ckc cX12_worstAt 6 co_X12_worstAt = true := by decide +kernel
theorem ck_X12_made_0 : am_ckc cX12_made 7 (co_X12_made.take 60) = true := by decide +kernel
theorem ck_X12_made_1 : am_ckc cX12_made 7 (((co_X12_made.drop 60)).take 60) = true := by decide +kernel
theorem ck_X12_made_2 : am_ckc cX12_made 7 ((co_X12_made.drop 60).drop 60) = true := by decide +kernel
theorem ck_X12_made : am_ckc cX12_made 7 co_X12_made = true := am_ckc_cut 60 ck_X12_made_0 (am_ckc_cut 60 ck_X12_made_1 (ck_X12_made_2))
theorem ck_X12_roomGoes : am_ckc cX12_roomGoes 8 co_X12_roomGoes = true := by decide +kernel
theorem ck_X12_laughs : am_ckc cX12_laughs 3 co_X12_laughs = true := by decide +kernel
theorem ck_X12_guideOf : am_ckc cX12_guideOf 2 co_X12_guideOf = true := by decide +kernel
theorem ck_X12_atHome : am_ckc cX12_atHome 3 co_X12_atHome = true := by decide +kernel
theorem ck_X12_has : am_ckc cX12_has 2 co_X12_has = true := by decide +kernel
theorem ck_X12_letter : am_ckc cX12_letter 9 co_X12_letter = true := by decide +kernel
theorem ck_X12_dreamer : am_ckc cX12_dreamer 4 co_X12_dreamer = true := by decide +kernel
theorem ck_X12_weigh : am_ckc cX12_weigh 4 co_X12_weigh = true := by decide +kernel
theorem ck_X12_guide : am_ckc cX12_guide 2 co_X12_guide = true := by decide +kernel
theorem ck_X12_goesAhead : am_ckc cX12_goesAhead 2 co_X12_goesAhead = true := by decide +kernel
theorem ck_X12_room : am_ckc cX12_room 3 co_X12_room = true := by decide +kernel
theorem ck_X12_later : am_ckc cX12_later 4 co_X12_later = true := by decide +kernel
theorem ck_X12_till : am_ckc cX12_till 2 co_X12_till = true := by decide +kernel
theorem ck_X12_areAlike : am_ckc cX12_areAlike 4 co_X12_areAlike = true := by decide +kernel
theorem ck_X12_comesAgain : am_ckc cX12_comesAgain 4 co_X12_comesAgain = true := by decide +kernel
theorem ck_X12_again : am_ckc cX12_again 3 co_X12_again = true := by decide +kernel
theorem ck_X12_isWay : am_ckc cX12_isWay 9 co_X12_isWay = true := by decide +kernel
theorem ck_X12_seeksSoonest : am_ckc cX12_seeksSoonest 5 co_X12_seeksSoonest = true := by decide +kernel
theorem ck_X12_wayTold : am_ckc cX12_wayTold 2 co_X12_wayTold = true := by decide +kernel
theorem ck_X12_soonest : am_ckc cX12_soonest 3 co_X12_soonest = true := by decide +kernel
theorem ck_X12_least : am_ckc cX12_least 6 co_X12_least = true := by decide +kernel
theorem ck_X12_along : am_ckc cX12_along 6 co_X12_along = true := by decide +kernel
theorem ck_X12_bits : am_ckc cX12_bits 3 co_X12_bits = true := by decide +kernel
theorem ck_X12_isOrder : am_ckc cX12_isOrder 6 co_X12_isOrder = true := by decide +kernel
theorem ck_X12_days_0 : am_ckc cX12_days 8 (co_X12_days.take 60) = true := by decide +kernel
theorem ck_X12_days_1 : am_ckc cX12_days 8 (((co_X12_days.drop 60)).take 60) = true := by decide +kernel
theorem ck_X12_days_2 : am_ckc cX12_days 8 ((co_X12_days.drop 60).drop 60) = true := by decide +kernel
theorem ck_X12_days : am_ckc cX12_days 8 co_X12_days = true := am_ckc_cut 60 ck_X12_days_0 (am_ckc_cut 60 ck_X12_days_1 (ck_X12_days_2))
theorem ck_X12_worstOfTwo : am_ckc cX12_worstOfTwo 3 co_X12_worstOfTwo = true := by decide +kernel
theorem ck_X12_hand : am_ckc cX12_hand 7 co_X12_hand = true := by decide +kernel
theorem ck_X12_isSafe : am_ckc cX12_isSafe 4 co_X12_isSafe = true := by decide +kernel
theorem ck_X12_canGo : am_ckc cX12_canGo 2 co_X12_canGo = true := by decide +kernel
theorem ck_X12_answers : am_ckc cX12_answers 8 co_X12_answers = true := by decide +kernel
theorem ck_X12_isSafeByOne : am_ckc cX12_isSafeByOne 6 co_X12_isSafeByOne = true := by decide +kernel
theorem ck_X12_isSafeByTwo : am_ckc cX12_isSafeByTwo 6 co_X12_isSafeByTwo = true := by decide +kernel
theorem ck_X12_isSafeByThree : am_ckc cX12_isSafeByThree 6 co_X12_isSafeByThree = true := by decide +kernel
theorem ck_X12_against : am_ckc cX12_against 3 co_X12_against = true := by decide +kernel
theorem ck_X12_likely : am_ckc cX12_likely 9 co_X12_likely = true := by decide +kernel
theorem ck_X12_chance : am_ckc cX12_chance 8 co_X12_chance = true := by decide +kernel
theorem ck_X12_keeps : am_ckc cX12_keeps 2 co_X12_keeps = true := by decide +kernel
theorem ck_X12_undo : am_ckc cX12_undo 2 co_X12_undo = true := by decide +kernel
theorem ck_X12_refuses : am_ckc cX12_refuses 1 co_X12_refuses = true := by decide +kernel
theorem ck_X12_meet : am_ckc cX12_meet 4 co_X12_meet = true := by decide +kernel
theorem ck_X12_day : am_ckc cX12_day 3 co_X12_day = true := by decide +kernel
theorem ck_X12_take : am_ckc cX12_take 3 co_X12_take = true := by decide +kernel
theorem ck_X12_set : am_ckc cX12_set 5 co_X12_set = true := by decide +kernel
theorem ck_X12_seed : am_ckc cX12_seed 2 co_X12_seed = true := by decide +kernel
theorem ck_X12_drawOf : am_ckc cX12_drawOf 2 co_X12_drawOf = true := by decide +kernel
theorem ck_X12_night : am_ckc cX12_night 6 co_X12_night = true := by decide +kernel
theorem ck_X12_told : am_ckc cX12_told 5 co_X12_told = true := by decide +kernel
theorem ck_X12_isFitting : am_ckc cX12_isFitting 4 co_X12_isFitting = true := by decide +kernel
theorem ck_X12_fits : am_ckc cX12_fits 7 co_X12_fits = true := by decide +kernel
theorem ck_X12_qCode : am_ckc cX12_qCode 2 co_X12_qCode = true := by decide +kernel
theorem ck_X12_qOpens : am_ckc cX12_qOpens 3 co_X12_qOpens = true := by decide +kernel
theorem ck_X12_qIsOn : am_ckc cX12_qIsOn 2 co_X12_qIsOn = true := by decide +kernel
theorem ck_X12_qDrops : am_ckc cX12_qDrops 1 co_X12_qDrops = true := by decide +kernel
theorem ck_X12_qIsBracket : am_ckc cX12_qIsBracket 1 co_X12_qIsBracket = true := by decide +kernel
theorem ck_X12_qBracket : am_ckc cX12_qBracket 2 co_X12_qBracket = true := by decide +kernel
theorem ck_X12_qDropsToBracket : am_ckc cX12_qDropsToBracket 1 co_X12_qDropsToBracket = true := by decide +kernel
theorem ck_X12_qWordHere : am_ckc cX12_qWordHere 1 co_X12_qWordHere = true := by decide +kernel
theorem ck_X12_qWordOf : am_ckc cX12_qWordOf 4 co_X12_qWordOf = true := by decide +kernel
theorem ck_X12_qAsksWord : am_ckc cX12_qAsksWord 2 co_X12_qAsksWord = true := by decide +kernel
theorem ck_X12_qEndsPart : am_ckc cX12_qEndsPart 1 co_X12_qEndsPart = true := by decide +kernel
theorem ck_X12_qPartTold_0 : am_ckc cX12_qPartTold 6 (co_X12_qPartTold.take 60) = true := by decide +kernel
theorem ck_X12_qPartTold_1 : am_ckc cX12_qPartTold 6 (((co_X12_qPartTold.drop 60)).take 60) = true := by decide +kernel
theorem ck_X12_qPartTold_2 : am_ckc cX12_qPartTold 6 ((co_X12_qPartTold.drop 60).drop 60) = true := by decide +kernel
theorem ck_X12_qPartTold : am_ckc cX12_qPartTold 6 co_X12_qPartTold = true := am_ckc_cut 60 ck_X12_qPartTold_0 (am_ckc_cut 60 ck_X12_qPartTold_1 (ck_X12_qPartTold_2))
theorem ck_X12_qGoesOn_0 : am_ckc cX12_qGoesOn 2 (co_X12_qGoesOn.take 60) = true := by decide +kernel
theorem ck_X12_qGoesOn_1 : am_ckc cX12_qGoesOn 2 (((co_X12_qGoesOn.drop 60)).take 60) = true := by decide +kernel
theorem ck_X12_qGoesOn_2 : am_ckc cX12_qGoesOn 2 ((((co_X12_qGoesOn.drop 60).drop 60)).take 60) = true := by decide +kernel
theorem ck_X12_qGoesOn_3 : am_ckc cX12_qGoesOn 2 (((co_X12_qGoesOn.drop 60).drop 60).drop 60) = true := by decide +kernel
theorem ck_X12_qGoesOn : am_ckc cX12_qGoesOn 2 co_X12_qGoesOn = true := am_ckc_cut 60 ck_X12_qGoesOn_0 (am_ckc_cut 60 ck_X12_qGoesOn_1 (am_ckc_cut 60 ck_X12_qGoesOn_2 (ck_X12_qGoesOn_3)))
theorem ck_X12_qSums : am_ckc cX12_qSums 3 co_X12_qSums = true := by decide +kernel
theorem ck_X12_qFact : am_ckc cX12_qFact 2 co_X12_qFact = true := by decide +kernel
theorem ck_X12_qHasSquare : am_ckc cX12_qHasSquare 2 co_X12_qHasSquare = true := by decide +kernel
theorem ck_X12_qDropsNots : am_ckc cX12_qDropsNots 1 co_X12_qDropsNots = true := by decide +kernel
theorem ck_X12_qTest : am_ckc cX12_qTest 3 co_X12_qTest = true := by decide +kernel
theorem ck_X12_qGoesOnTest_0 : am_ckc cX12_qGoesOnTest 1 (co_X12_qGoesOnTest.take 60) = true := by decide +kernel
theorem ck_X12_qGoesOnTest_1 : am_ckc cX12_qGoesOnTest 1 (co_X12_qGoesOnTest.drop 60) = true := by decide +kernel
theorem ck_X12_qGoesOnTest : am_ckc cX12_qGoesOnTest 1 co_X12_qGoesOnTest = true := am_ckc_cut 60 ck_X12_qGoesOnTest_0 (ck_X12_qGoesOnTest_1)
theorem ck_X12_qClip : am_ckc cX12_qClip 2 co_X12_qClip = true := by decide +kernel
theorem ck_X12_qFloor : am_ckc cX12_qFloor 6 co_X12_qFloor = true := by decide +kernel
theorem ck_X12_qPuts : am_ckc cX12_qPuts 3 co_X12_qPuts = true := by decide +kernel
theorem ck_X12_qJoins_0 : am_ckc cX12_qJoins 6 (co_X12_qJoins.take 60) = true := by decide +kernel
theorem ck_X12_qJoins_1 : am_ckc cX12_qJoins 6 (co_X12_qJoins.drop 60) = true := by decide +kernel
theorem ck_X12_qJoins : am_ckc cX12_qJoins 6 co_X12_qJoins = true := am_ckc_cut 60 ck_X12_qJoins_0 (ck_X12_qJoins_1)
theorem ck_X12_qPartOf : am_ckc cX12_qPartOf 3 co_X12_qPartOf = true := by decide +kernel
theorem ck_X12_qOf : am_ckc cX12_qOf 5 co_X12_qOf = true := by decide +kernel
theorem ck_X12_qTold : am_ckc cX12_qTold 4 co_X12_qTold = true := by decide +kernel
theorem ck_X12_qKind : am_ckc cX12_qKind 2 co_X12_qKind = true := by decide +kernel
theorem ck_X12_qTakes : am_ckc cX12_qTakes 6 co_X12_qTakes = true := by decide +kernel
theorem ck_X12_ask_0 : am_ckc cX12_ask 4 (co_X12_ask.take 60) = true := by decide +kernel
theorem ck_X12_ask_1 : am_ckc cX12_ask 4 (co_X12_ask.drop 60) = true := by decide +kernel
theorem ck_X12_ask : am_ckc cX12_ask 4 co_X12_ask = true := am_ckc_cut 60 ck_X12_ask_0 (ck_X12_ask_1)
theorem ck_X12_worstOf : am_ckc cX12_worstOf 2 co_X12_worstOf = true := by decide +kernel
theorem ck_X12_checked : am_ckc cX12_checked 4 co_X12_checked = true := by decide +kernel
theorem ck_X12_writes : am_ckc cX12_writes 2 co_X12_writes = true := by decide +kernel
theorem ck_X12_image : am_ckc cX12_image 3 co_X12_image = true := by decide +kernel
theorem ck_X12_octet : am_ckc cX12_octet 2 co_X12_octet = true := by decide +kernel
theorem ck_X12_isTold : am_ckc cX12_isTold 5 co_X12_isTold = true := by decide +kernel
theorem ck_X12_on : am_ckc cX12_on 5 co_X12_on = true := by decide +kernel
theorem ck_X12_status : am_ckc cX12_status 2 co_X12_status = true := by decide +kernel
