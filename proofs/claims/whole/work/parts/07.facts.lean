theorem wd_1_0 : Cond.classLink RL 7 RX9 ∈ wsL_law := uc1 _ (List.mem_of_getElem? (i := 0) rfl)
theorem wd_1_1 : Cond.instantiable RX9 18 ∈ wsL_law := uc1 _ (List.mem_of_getElem? (i := 1) rfl)
theorem wd_1_2 : Cond.initialized RX9 ∈ wsL_law := uc1 _ (List.mem_of_getElem? (i := 2) rfl)
theorem wd_1_3 : Cond.classLink RL 10 RX10 ∈ wsL_law := uc1 _ (List.mem_of_getElem? (i := 3) rfl)
theorem wd_1_4 : Cond.instantiable RX10 31 ∈ wsL_law := uc1 _ (List.mem_of_getElem? (i := 4) rfl)
theorem wd_1_5 : Cond.initialized RX10 ∈ wsL_law := uc1 _ (List.mem_of_getElem? (i := 5) rfl)
theorem wd_1_6 : Cond.methodLink RL 9 yX9_init ∈ wsL_law := uc1 _ (List.mem_of_getElem? (i := 6) rfl)
theorem wd_1_7 : Cond.instanceMethod yX9_init ∈ wsL_law := uc1 _ (List.mem_of_getElem? (i := 7) rfl)
theorem wd_1_8 : Cond.code yX9_init cX9_init 1 none ∈ wsL_law := uc1 _ (List.mem_of_getElem? (i := 8) rfl)
theorem wd_1_9 : Cond.methodLink RX9 1 objectInit ∈ wsL_law := uc1 _ (List.mem_of_getElem? (i := 9) rfl)
theorem wd_1_10 : Cond.instanceMethod objectInit ∈ wsL_law := uc1 _ (List.mem_of_getElem? (i := 10) rfl)
theorem wd_1_11 : Cond.code objectInit ⟨#[0xb1]⟩ 1 none ∈ wsL_law := uc1 _ (List.mem_of_getElem? (i := 11) rfl)
theorem wd_1_12 : Cond.classLink RX9 7 RX7 ∈ wsL_law := uc1 _ (List.mem_of_getElem? (i := 12) rfl)
theorem wd_1_13 : Cond.instantiable RX7 3 ∈ wsL_law := uc1 _ (List.mem_of_getElem? (i := 13) rfl)
theorem wd_1_14 : Cond.initialized RX7 ∈ wsL_law := uc1 _ (List.mem_of_getElem? (i := 14) rfl)
theorem wd_1_15 : Cond.fieldLink RX9 12 "WellTalk" "texts" "[LWellTalk$Text;" ∈ wsL_law := uc1 _ (List.mem_of_getElem? (i := 15) rfl)
theorem wd_1_16 : Cond.classLink RX9 18 RX8 ∈ wsL_law := uc1 _ (List.mem_of_getElem? (i := 16) rfl)
theorem wd_1_17 : Cond.instantiable RX8 6 ∈ wsL_law := uc1 _ (List.mem_of_getElem? (i := 17) rfl)
theorem wd_1_18 : Cond.initialized RX8 ∈ wsL_law := uc1 _ (List.mem_of_getElem? (i := 18) rfl)
theorem wd_1_19 : Cond.fieldLink RX9 21 "WellTalk" "wells" "LWellTalk$Wells;" ∈ wsL_law := uc1 _ (List.mem_of_getElem? (i := 19) rfl)
theorem wd_1_20 : Cond.classLink RX9 25 RX5 ∈ wsL_law := uc1 _ (List.mem_of_getElem? (i := 20) rfl)
theorem wd_1_21 : Cond.instantiable RX5 6 ∈ wsL_law := uc1 _ (List.mem_of_getElem? (i := 21) rfl)
theorem wd_1_22 : Cond.initialized RX5 ∈ wsL_law := uc1 _ (List.mem_of_getElem? (i := 22) rfl)
theorem wd_1_23 : Cond.fieldLink RX9 28 "WellTalk" "sayings" "LWellTalk$Sayings;" ∈ wsL_law := uc1 _ (List.mem_of_getElem? (i := 23) rfl)
theorem wd_2_0 : Cond.classLink RX9 32 RX2 ∈ wsL_law := uc2 _ (List.mem_of_getElem? (i := 0) rfl)
theorem wd_2_1 : Cond.instantiable RX2 4 ∈ wsL_law := uc2 _ (List.mem_of_getElem? (i := 1) rfl)
theorem wd_2_2 : Cond.initialized RX2 ∈ wsL_law := uc2 _ (List.mem_of_getElem? (i := 2) rfl)
theorem wd_2_3 : Cond.fieldLink RX9 35 "WellTalk" "events" "LWellTalk$Events;" ∈ wsL_law := uc2 _ (List.mem_of_getElem? (i := 3) rfl)
theorem wd_2_4 : Cond.classLink RX9 39 RX1 ∈ wsL_law := uc2 _ (List.mem_of_getElem? (i := 4) rfl)
theorem wd_2_5 : Cond.instantiable RX1 4 ∈ wsL_law := uc2 _ (List.mem_of_getElem? (i := 5) rfl)
theorem wd_2_6 : Cond.initialized RX1 ∈ wsL_law := uc2 _ (List.mem_of_getElem? (i := 6) rfl)
theorem wd_2_7 : Cond.fieldLink RX9 42 "WellTalk" "draws" "LWellTalk$Draws;" ∈ wsL_law := uc2 _ (List.mem_of_getElem? (i := 7) rfl)
theorem wd_2_8 : Cond.classLink RX9 46 RX6 ∈ wsL_law := uc2 _ (List.mem_of_getElem? (i := 8) rfl)
theorem wd_2_9 : Cond.instantiable RX6 3 ∈ wsL_law := uc2 _ (List.mem_of_getElem? (i := 9) rfl)
theorem wd_2_10 : Cond.initialized RX6 ∈ wsL_law := uc2 _ (List.mem_of_getElem? (i := 10) rfl)
theorem wd_2_11 : Cond.fieldLink RX9 49 "WellTalk" "sheets" "[LWellTalk$Sheet;" ∈ wsL_law := uc2 _ (List.mem_of_getElem? (i := 11) rfl)
theorem wd_2_12 : Cond.classLink RX9 53 RX3 ∈ wsL_law := uc2 _ (List.mem_of_getElem? (i := 12) rfl)
theorem wd_2_13 : Cond.instantiable RX3 3 ∈ wsL_law := uc2 _ (List.mem_of_getElem? (i := 13) rfl)
theorem wd_2_14 : Cond.initialized RX3 ∈ wsL_law := uc2 _ (List.mem_of_getElem? (i := 14) rfl)
theorem wd_2_15 : Cond.fieldLink RX9 56 "WellTalk" "hours" "LWellTalk$Hours;" ∈ wsL_law := uc2 _ (List.mem_of_getElem? (i := 15) rfl)
theorem wd_2_16 : Cond.classLink RX9 60 RX4 ∈ wsL_law := uc2 _ (List.mem_of_getElem? (i := 16) rfl)
theorem wd_2_17 : Cond.instantiable RX4 10 ∈ wsL_law := uc2 _ (List.mem_of_getElem? (i := 17) rfl)
theorem wd_2_18 : Cond.initialized RX4 ∈ wsL_law := uc2 _ (List.mem_of_getElem? (i := 18) rfl)
theorem wd_2_19 : Cond.fieldLink RX9 63 "WellTalk" "paths" "[LWellTalk$Path;" ∈ wsL_law := uc2 _ (List.mem_of_getElem? (i := 19) rfl)
theorem wd_2_20 : Cond.fieldLink RX9 67 "WellTalk" "stale" "Z" ∈ wsL_law := uc2 _ (List.mem_of_getElem? (i := 20) rfl)
theorem wd_2_21 : Cond.fieldLink RX9 71 "WellTalk" "otherWells" "LWellTalk$Wells;" ∈ wsL_law := uc2 _ (List.mem_of_getElem? (i := 21) rfl)
theorem wd_2_22 : Cond.fieldLink RX9 74 "WellTalk" "otherHours" "LWellTalk$Hours;" ∈ wsL_law := uc2 _ (List.mem_of_getElem? (i := 22) rfl)
theorem wd_2_23 : Cond.fieldLink RX9 77 "WellTalk" "dayEvents" "LWellTalk$Events;" ∈ wsL_law := uc2 _ (List.mem_of_getElem? (i := 23) rfl)
theorem wd_3_0 : Cond.fieldLink RX9 80 "WellTalk" "trial" "LWellTalk$Path;" ∈ wsL_law := uc3 _ (List.mem_of_getElem? (i := 0) rfl)
theorem wd_3_1 : Cond.arrayClass .int ∈ wsL_law := uc3 _ (List.mem_of_getElem? (i := 1) rfl)
theorem wd_3_2 : Cond.fieldLink RX9 84 "WellTalk" "inWell" "[I" ∈ wsL_law := uc3 _ (List.mem_of_getElem? (i := 2) rfl)
theorem wd_3_3 : Cond.fieldLink RX9 88 "WellTalk" "tally" "[I" ∈ wsL_law := uc3 _ (List.mem_of_getElem? (i := 3) rfl)
theorem wd_3_4 : Cond.classLink RX9 91 RX0 ∈ wsL_law := uc3 _ (List.mem_of_getElem? (i := 4) rfl)
theorem wd_3_5 : Cond.instantiable RX0 3 ∈ wsL_law := uc3 _ (List.mem_of_getElem? (i := 5) rfl)
theorem wd_3_6 : Cond.initialized RX0 ∈ wsL_law := uc3 _ (List.mem_of_getElem? (i := 6) rfl)
theorem wd_3_7 : Cond.fieldLink RX9 94 "WellTalk" "bestCoins" "[LWellTalk$BestCoin;" ∈ wsL_law := uc3 _ (List.mem_of_getElem? (i := 7) rfl)
theorem wd_3_8 : Cond.fieldLink RX9 98 "WellTalk" "coinsStale" "Z" ∈ wsL_law := uc3 _ (List.mem_of_getElem? (i := 8) rfl)
theorem wd_3_9 : Cond.methodLink RX9 9 yX7_init ∈ wsL_law := uc3 _ (List.mem_of_getElem? (i := 9) rfl)
theorem wd_3_10 : Cond.instanceMethod yX7_init ∈ wsL_law := uc3 _ (List.mem_of_getElem? (i := 10) rfl)
theorem wd_3_11 : Cond.code yX7_init cX7_init 2 none ∈ wsL_law := uc3 _ (List.mem_of_getElem? (i := 11) rfl)
theorem wd_3_12 : Cond.methodLink RX7 3 objectInit ∈ wsL_law := uc3 _ (List.mem_of_getElem? (i := 12) rfl)
theorem wd_3_13 : Cond.fieldLink RX7 9 "WellTalk$Text" "fault" "I" ∈ wsL_law := uc3 _ (List.mem_of_getElem? (i := 13) rfl)
theorem wd_3_14 : Cond.methodLink RX7 15 Lib.Math.max.name ∈ wsL_law := uc3 _ (List.mem_of_getElem? (i := 14) rfl)
theorem wd_3_15 : Cond.static Lib.Math.max.name ∈ wsL_law := uc3 _ (List.mem_of_getElem? (i := 15) rfl)
theorem wd_3_16 : Cond.initialized "java/lang/Math" ∈ wsL_law := uc3 _ (List.mem_of_getElem? (i := 16) rfl)
theorem wd_3_17 : Cond.code Lib.Math.max.name Lib.Math.max.code 2 (some .int) ∈ wsL_law := uc3 _ (List.mem_of_getElem? (i := 17) rfl)
theorem wd_3_18 : Cond.fieldLink RX7 21 "WellTalk$Text" "bytes" "[I" ∈ wsL_law := uc3 _ (List.mem_of_getElem? (i := 18) rfl)
theorem wd_3_19 : Cond.instanceMethod yX8_init ∈ wsL_law := uc3 _ (List.mem_of_getElem? (i := 19) rfl)
theorem wd_3_20 : Cond.code yX8_init cX8_init 1 none ∈ wsL_law := uc3 _ (List.mem_of_getElem? (i := 20) rfl)
theorem wd_3_21 : Cond.methodLink RX8 3 objectInit ∈ wsL_law := uc3 _ (List.mem_of_getElem? (i := 21) rfl)
theorem wd_3_22 : Cond.fieldLink RX8 9 "WellTalk$Wells" "stone" "[I" ∈ wsL_law := uc3 _ (List.mem_of_getElem? (i := 22) rfl)
theorem wd_3_23 : Cond.fieldLink RX8 15 "WellTalk$Wells" "height" "[I" ∈ wsL_law := uc3 _ (List.mem_of_getElem? (i := 23) rfl)
theorem wd_4_0 : Cond.fieldLink RX8 18 "WellTalk$Wells" "down" "[I" ∈ wsL_law := uc4 _ (List.mem_of_getElem? (i := 0) rfl)
theorem wd_4_1 : Cond.fieldLink RX8 21 "WellTalk$Wells" "up" "[I" ∈ wsL_law := uc4 _ (List.mem_of_getElem? (i := 1) rfl)
theorem wd_4_2 : Cond.fieldLink RX8 24 "WellTalk$Wells" "last" "I" ∈ wsL_law := uc4 _ (List.mem_of_getElem? (i := 2) rfl)
theorem wd_4_3 : Cond.instanceMethod yX5_init ∈ wsL_law := uc4 _ (List.mem_of_getElem? (i := 3) rfl)
theorem wd_4_4 : Cond.code yX5_init cX5_init 1 none ∈ wsL_law := uc4 _ (List.mem_of_getElem? (i := 4) rfl)
theorem wd_4_5 : Cond.methodLink RX5 3 objectInit ∈ wsL_law := uc4 _ (List.mem_of_getElem? (i := 5) rfl)
theorem wd_4_6 : Cond.fieldLink RX5 9 "WellTalk$Sayings" "hour" "[I" ∈ wsL_law := uc4 _ (List.mem_of_getElem? (i := 6) rfl)
theorem wd_4_7 : Cond.fieldLink RX5 15 "WellTalk$Sayings" "well" "[I" ∈ wsL_law := uc4 _ (List.mem_of_getElem? (i := 7) rfl)
theorem wd_4_8 : Cond.fieldLink RX5 18 "WellTalk$Sayings" "bucket" "[I" ∈ wsL_law := uc4 _ (List.mem_of_getElem? (i := 8) rfl)
theorem wd_4_9 : Cond.fieldLink RX5 21 "WellTalk$Sayings" "size" "[I" ∈ wsL_law := uc4 _ (List.mem_of_getElem? (i := 9) rfl)
theorem wd_4_10 : Cond.fieldLink RX5 24 "WellTalk$Sayings" "letters" "[I" ∈ wsL_law := uc4 _ (List.mem_of_getElem? (i := 10) rfl)
theorem wd_4_11 : Cond.instanceMethod yX2_init ∈ wsL_law := uc4 _ (List.mem_of_getElem? (i := 11) rfl)
theorem wd_4_12 : Cond.code yX2_init cX2_init 1 none ∈ wsL_law := uc4 _ (List.mem_of_getElem? (i := 12) rfl)
theorem wd_4_13 : Cond.methodLink RX2 3 objectInit ∈ wsL_law := uc4 _ (List.mem_of_getElem? (i := 13) rfl)
theorem wd_4_14 : Cond.fieldLink RX2 9 "WellTalk$Events" "kind" "[I" ∈ wsL_law := uc4 _ (List.mem_of_getElem? (i := 14) rfl)
theorem wd_4_15 : Cond.fieldLink RX2 15 "WellTalk$Events" "hour" "[I" ∈ wsL_law := uc4 _ (List.mem_of_getElem? (i := 15) rfl)
theorem wd_4_16 : Cond.fieldLink RX2 18 "WellTalk$Events" "well" "[I" ∈ wsL_law := uc4 _ (List.mem_of_getElem? (i := 16) rfl)
theorem wd_4_17 : Cond.instanceMethod yX1_init ∈ wsL_law := uc4 _ (List.mem_of_getElem? (i := 17) rfl)
theorem wd_4_18 : Cond.code yX1_init cX1_init 1 none ∈ wsL_law := uc4 _ (List.mem_of_getElem? (i := 18) rfl)
theorem wd_4_19 : Cond.methodLink RX1 3 objectInit ∈ wsL_law := uc4 _ (List.mem_of_getElem? (i := 19) rfl)
theorem wd_4_20 : Cond.fieldLink RX1 9 "WellTalk$Draws" "hour" "[I" ∈ wsL_law := uc4 _ (List.mem_of_getElem? (i := 20) rfl)
theorem wd_4_21 : Cond.fieldLink RX1 15 "WellTalk$Draws" "saying" "[I" ∈ wsL_law := uc4 _ (List.mem_of_getElem? (i := 21) rfl)
theorem wd_4_22 : Cond.fieldLink RX1 18 "WellTalk$Draws" "letters" "[I" ∈ wsL_law := uc4 _ (List.mem_of_getElem? (i := 22) rfl)
theorem wd_4_23 : Cond.instanceMethod yX6_init ∈ wsL_law := uc4 _ (List.mem_of_getElem? (i := 23) rfl)
theorem wd_5_0 : Cond.code yX6_init cX6_init 1 none ∈ wsL_law := uc5 _ (List.mem_of_getElem? (i := 0) rfl)
theorem wd_5_1 : Cond.methodLink RX6 3 objectInit ∈ wsL_law := uc5 _ (List.mem_of_getElem? (i := 1) rfl)
theorem wd_5_2 : Cond.fieldLink RX6 9 "WellTalk$Sheet" "items" "[I" ∈ wsL_law := uc5 _ (List.mem_of_getElem? (i := 2) rfl)
theorem wd_5_3 : Cond.fieldLink RX6 15 "WellTalk$Sheet" "form" "I" ∈ wsL_law := uc5 _ (List.mem_of_getElem? (i := 3) rfl)
theorem wd_5_4 : Cond.instanceMethod yX3_init ∈ wsL_law := uc5 _ (List.mem_of_getElem? (i := 4) rfl)
theorem wd_5_5 : Cond.code yX3_init cX3_init 1 none ∈ wsL_law := uc5 _ (List.mem_of_getElem? (i := 5) rfl)
theorem wd_5_6 : Cond.methodLink RX3 3 objectInit ∈ wsL_law := uc5 _ (List.mem_of_getElem? (i := 6) rfl)
theorem wd_5_7 : Cond.fieldLink RX3 9 "WellTalk$Hours" "coins" "[I" ∈ wsL_law := uc5 _ (List.mem_of_getElem? (i := 7) rfl)
theorem wd_5_8 : Cond.fieldLink RX3 15 "WellTalk$Hours" "covered" "[I" ∈ wsL_law := uc5 _ (List.mem_of_getElem? (i := 8) rfl)
theorem wd_5_9 : Cond.arrayClass .boolean ∈ wsL_law := uc5 _ (List.mem_of_getElem? (i := 9) rfl)
theorem wd_5_10 : Cond.fieldLink RX3 18 "WellTalk$Hours" "dry" "[Z" ∈ wsL_law := uc5 _ (List.mem_of_getElem? (i := 10) rfl)
theorem wd_5_11 : Cond.instanceMethod yX4_init ∈ wsL_law := uc5 _ (List.mem_of_getElem? (i := 11) rfl)
theorem wd_5_12 : Cond.code yX4_init cX4_init 1 none ∈ wsL_law := uc5 _ (List.mem_of_getElem? (i := 12) rfl)
theorem wd_5_13 : Cond.methodLink RX4 3 objectInit ∈ wsL_law := uc5 _ (List.mem_of_getElem? (i := 13) rfl)
theorem wd_5_14 : Cond.fieldLink RX4 9 "WellTalk$Path" "well" "[I" ∈ wsL_law := uc5 _ (List.mem_of_getElem? (i := 14) rfl)
theorem wd_5_15 : Cond.fieldLink RX4 15 "WellTalk$Path" "first" "[I" ∈ wsL_law := uc5 _ (List.mem_of_getElem? (i := 15) rfl)
theorem wd_5_16 : Cond.fieldLink RX4 18 "WellTalk$Path" "left" "[I" ∈ wsL_law := uc5 _ (List.mem_of_getElem? (i := 16) rfl)
theorem wd_5_17 : Cond.fieldLink RX4 21 "WellTalk$Path" "heard" "[I" ∈ wsL_law := uc5 _ (List.mem_of_getElem? (i := 17) rfl)
theorem wd_5_18 : Cond.instanceMethod yX0_init ∈ wsL_law := uc5 _ (List.mem_of_getElem? (i := 18) rfl)
theorem wd_5_19 : Cond.code yX0_init cX0_init 1 none ∈ wsL_law := uc5 _ (List.mem_of_getElem? (i := 19) rfl)
theorem wd_5_20 : Cond.methodLink RX0 3 objectInit ∈ wsL_law := uc5 _ (List.mem_of_getElem? (i := 20) rfl)
theorem wd_5_21 : Cond.fieldLink RX0 9 "WellTalk$BestCoin" "hour" "I" ∈ wsL_law := uc5 _ (List.mem_of_getElem? (i := 21) rfl)
theorem wd_5_22 : Cond.fieldLink RX0 15 "WellTalk$BestCoin" "well" "I" ∈ wsL_law := uc5 _ (List.mem_of_getElem? (i := 22) rfl)
theorem wd_5_23 : Cond.fieldLink RX0 18 "WellTalk$BestCoin" "many" "I" ∈ wsL_law := uc5 _ (List.mem_of_getElem? (i := 23) rfl)
theorem wd_6_0 : Cond.methodLink RL 12 yX10_init ∈ wsL_law := uc6 _ (List.mem_of_getElem? (i := 0) rfl)
theorem wd_6_1 : Cond.instanceMethod yX10_init ∈ wsL_law := uc6 _ (List.mem_of_getElem? (i := 1) rfl)
theorem wd_6_2 : Cond.code yX10_init cX10_init 2 none ∈ wsL_law := uc6 _ (List.mem_of_getElem? (i := 2) rfl)
theorem wd_6_3 : Cond.methodLink RX10 1 objectInit ∈ wsL_law := uc6 _ (List.mem_of_getElem? (i := 3) rfl)
theorem wd_6_4 : Cond.fieldLink RX10 7 "WellTalkModel" "forms" "[I" ∈ wsL_law := uc6 _ (List.mem_of_getElem? (i := 4) rfl)
theorem wd_6_5 : Cond.fieldLink RX10 13 "WellTalkModel" "sizes" "[I" ∈ wsL_law := uc6 _ (List.mem_of_getElem? (i := 5) rfl)
theorem wd_6_6 : Cond.fieldLink RX10 16 "WellTalkModel" "items" "[I" ∈ wsL_law := uc6 _ (List.mem_of_getElem? (i := 6) rfl)
theorem wd_6_7 : Cond.fieldLink RX10 19 "WellTalkModel" "moved" "[I" ∈ wsL_law := uc6 _ (List.mem_of_getElem? (i := 7) rfl)
theorem wd_6_8 : Cond.fieldLink RX10 22 "WellTalkModel" "bytes" "[I" ∈ wsL_law := uc6 _ (List.mem_of_getElem? (i := 8) rfl)
theorem wd_6_9 : Cond.fieldLink RX10 25 "WellTalkModel" "typed" "[I" ∈ wsL_law := uc6 _ (List.mem_of_getElem? (i := 9) rfl)
theorem wd_6_10 : Cond.fieldLink RX10 28 "WellTalkModel" "well" "[I" ∈ wsL_law := uc6 _ (List.mem_of_getElem? (i := 10) rfl)
theorem wd_6_11 : Cond.fieldLink RX10 31 "WellTalkModel" "saying" "[I" ∈ wsL_law := uc6 _ (List.mem_of_getElem? (i := 11) rfl)
theorem wd_6_12 : Cond.fieldLink RX10 34 "WellTalkModel" "event" "[I" ∈ wsL_law := uc6 _ (List.mem_of_getElem? (i := 12) rfl)
theorem wd_6_13 : Cond.fieldLink RX10 37 "WellTalkModel" "at" "[I" ∈ wsL_law := uc6 _ (List.mem_of_getElem? (i := 13) rfl)
theorem wd_6_14 : Cond.fieldLink RX10 40 "WellTalkModel" "since" "[I" ∈ wsL_law := uc6 _ (List.mem_of_getElem? (i := 14) rfl)
theorem wd_6_15 : Cond.fieldLink RX10 43 "WellTalkModel" "came" "[I" ∈ wsL_law := uc6 _ (List.mem_of_getElem? (i := 15) rfl)
theorem wd_6_16 : Cond.fieldLink RX10 46 "WellTalkModel" "from" "[I" ∈ wsL_law := uc6 _ (List.mem_of_getElem? (i := 16) rfl)
theorem wd_6_17 : Cond.fieldLink RX10 49 "WellTalkModel" "left" "[I" ∈ wsL_law := uc6 _ (List.mem_of_getElem? (i := 17) rfl)
theorem wd_6_18 : Cond.fieldLink RX10 52 "WellTalkModel" "lost" "[Z" ∈ wsL_law := uc6 _ (List.mem_of_getElem? (i := 18) rfl)
theorem wd_6_19 : Cond.fieldLink RX10 56 "WellTalkModel" "atBy" "[I" ∈ wsL_law := uc6 _ (List.mem_of_getElem? (i := 19) rfl)
theorem wd_6_20 : Cond.fieldLink RX10 59 "WellTalkModel" "fromBy" "[I" ∈ wsL_law := uc6 _ (List.mem_of_getElem? (i := 20) rfl)
theorem wd_6_21 : Cond.fieldLink RX10 62 "WellTalkModel" "leftBy" "[I" ∈ wsL_law := uc6 _ (List.mem_of_getElem? (i := 21) rfl)
theorem wd_6_22 : Cond.fieldLink RX10 65 "WellTalkModel" "heardBy" "[I" ∈ wsL_law := uc6 _ (List.mem_of_getElem? (i := 22) rfl)
theorem wd_6_23 : Cond.fieldLink RX10 68 "WellTalkModel" "drawing" "[I" ∈ wsL_law := uc6 _ (List.mem_of_getElem? (i := 23) rfl)
theorem wd_7_0 : Cond.fieldLink RX10 71 "WellTalkModel" "inIt" "[I" ∈ wsL_law := uc7 _ (List.mem_of_getElem? (i := 0) rfl)
theorem wd_7_1 : Cond.fieldLink RX10 74 "WellTalkModel" "told" "[I" ∈ wsL_law := uc7 _ (List.mem_of_getElem? (i := 1) rfl)
theorem wd_7_2 : Cond.fieldLink RX10 77 "WellTalkModel" "oddHour" "I" ∈ wsL_law := uc7 _ (List.mem_of_getElem? (i := 2) rfl)
theorem wd_7_3 : Cond.methodLink RL 13 yX9_type ∈ wsL_law := uc7 _ (List.mem_of_getElem? (i := 3) rfl)
theorem wd_7_4 : Cond.instanceMethod yX9_type ∈ wsL_law := uc7 _ (List.mem_of_getElem? (i := 4) rfl)
theorem wd_7_5 : Cond.selects RX9 yX9_type yX9_type ∈ wsL_law := uc7 _ (List.mem_of_getElem? (i := 5) rfl)
theorem wd_7_6 : Cond.code yX9_type cX9_type 3 (some .int) ∈ wsL_law := uc7 _ (List.mem_of_getElem? (i := 6) rfl)
theorem wd_7_7 : Cond.methodLink RX9 101 yX9_in ∈ wsL_law := uc7 _ (List.mem_of_getElem? (i := 7) rfl)
theorem wd_7_8 : Cond.static yX9_in ∈ wsL_law := uc7 _ (List.mem_of_getElem? (i := 8) rfl)
theorem wd_7_9 : Cond.code yX9_in cX9_in 2 (some .boolean) ∈ wsL_law := uc7 _ (List.mem_of_getElem? (i := 9) rfl)
theorem wd_7_10 : Cond.methodLink RX9 105 yX7_add ∈ wsL_law := uc7 _ (List.mem_of_getElem? (i := 10) rfl)
theorem wd_7_11 : Cond.instanceMethod yX7_add ∈ wsL_law := uc7 _ (List.mem_of_getElem? (i := 11) rfl)
theorem wd_7_12 : Cond.selects RX7 yX7_add yX7_add ∈ wsL_law := uc7 _ (List.mem_of_getElem? (i := 12) rfl)
theorem wd_7_13 : Cond.code yX7_add cX7_add 2 (some .boolean) ∈ wsL_law := uc7 _ (List.mem_of_getElem? (i := 13) rfl)
theorem wd_7_14 : Cond.fieldLink RX7 25 "WellTalk$Text" "length" "I" ∈ wsL_law := uc7 _ (List.mem_of_getElem? (i := 14) rfl)
theorem wd_7_15 : Cond.methodLink RX9 109 yX9_textChanged ∈ wsL_law := uc7 _ (List.mem_of_getElem? (i := 15) rfl)
theorem wd_7_16 : Cond.instanceMethod yX9_textChanged ∈ wsL_law := uc7 _ (List.mem_of_getElem? (i := 16) rfl)
theorem wd_7_17 : Cond.selects RX9 yX9_textChanged yX9_textChanged ∈ wsL_law := uc7 _ (List.mem_of_getElem? (i := 17) rfl)
theorem wd_7_18 : Cond.code yX9_textChanged cX9_textChanged 2 none ∈ wsL_law := uc7 _ (List.mem_of_getElem? (i := 18) rfl)
theorem wd_7_19 : Cond.methodLink RX9 377 yX8_take ∈ wsL_law := uc7 _ (List.mem_of_getElem? (i := 19) rfl)
theorem wd_7_20 : Cond.instanceMethod yX8_take ∈ wsL_law := uc7 _ (List.mem_of_getElem? (i := 20) rfl)
theorem wd_7_21 : Cond.selects RX8 yX8_take yX8_take ∈ wsL_law := uc7 _ (List.mem_of_getElem? (i := 21) rfl)
theorem wd_7_22 : Cond.code yX8_take cX8_take 3 (some .int) ∈ wsL_law := uc7 _ (List.mem_of_getElem? (i := 22) rfl)
theorem wd_7_23 : Cond.fieldLink RX8 28 "WellTalk$Wells" "count" "I" ∈ wsL_law := uc7 _ (List.mem_of_getElem? (i := 23) rfl)
theorem wd_8_0 : Cond.methodLink RX8 36 yX8_takeAll ∈ wsL_law := uc8 _ (List.mem_of_getElem? (i := 0) rfl)
theorem wd_8_1 : Cond.instanceMethod yX8_takeAll ∈ wsL_law := uc8 _ (List.mem_of_getElem? (i := 1) rfl)
theorem wd_8_2 : Cond.selects RX8 yX8_takeAll yX8_takeAll ∈ wsL_law := uc8 _ (List.mem_of_getElem? (i := 2) rfl)
theorem wd_8_3 : Cond.code yX8_takeAll cX8_takeAll 4 (some .int) ∈ wsL_law := uc8 _ (List.mem_of_getElem? (i := 3) rfl)
theorem wd_8_4 : Cond.methodLink RX8 45 yX7_sign ∈ wsL_law := uc8 _ (List.mem_of_getElem? (i := 4) rfl)
theorem wd_8_5 : Cond.instanceMethod yX7_sign ∈ wsL_law := uc8 _ (List.mem_of_getElem? (i := 5) rfl)
theorem wd_8_6 : Cond.selects RX7 yX7_sign yX7_sign ∈ wsL_law := uc8 _ (List.mem_of_getElem? (i := 6) rfl)
theorem wd_8_7 : Cond.code yX7_sign cX7_sign 3 (some .int) ∈ wsL_law := uc8 _ (List.mem_of_getElem? (i := 7) rfl)
theorem wd_8_8 : Cond.methodLink RX7 32 yJ0_indexOf_0f7a4 ∈ wsL_law := uc8 _ (List.mem_of_getElem? (i := 8) rfl)
theorem wd_8_9 : Cond.instanceMethod yJ0_indexOf_0f7a4 ∈ wsL_law := uc8 _ (List.mem_of_getElem? (i := 9) rfl)
theorem wd_8_10 : Cond.selects RJ0 yJ0_indexOf_0f7a4 yJ0_indexOf_0f7a4 ∈ wsL_law := uc8 _ (List.mem_of_getElem? (i := 10) rfl)
theorem wd_8_11 : Cond.initialized RJ0 ∈ wsL_law := uc8 _ (List.mem_of_getElem? (i := 11) rfl)
theorem wd_8_12 : Cond.code yJ0_indexOf_0f7a4 cJ0_indexOf_0f7a4 2 (some .int) ∈ wsL_law := uc8 _ (List.mem_of_getElem? (i := 12) rfl)
theorem wd_8_13 : Cond.methodLink RJ0 633 yJ0_indexOf_7cf53 ∈ wsL_law := uc8 _ (List.mem_of_getElem? (i := 13) rfl)
theorem wd_8_14 : Cond.instanceMethod yJ0_indexOf_7cf53 ∈ wsL_law := uc8 _ (List.mem_of_getElem? (i := 14) rfl)
theorem wd_8_15 : Cond.selects RJ0 yJ0_indexOf_7cf53 yJ0_indexOf_7cf53 ∈ wsL_law := uc8 _ (List.mem_of_getElem? (i := 15) rfl)
theorem wd_8_16 : Cond.code yJ0_indexOf_7cf53 cJ0_indexOf_7cf53 3 (some .int) ∈ wsL_law := uc8 _ (List.mem_of_getElem? (i := 16) rfl)
theorem wd_8_17 : Cond.fieldLink RJ0 9 "java/lang/String" "value" "[B" ∈ wsL_law := uc8 _ (List.mem_of_getElem? (i := 17) rfl)
theorem wd_8_18 : Cond.methodLink RJ0 492 yJ0_isLatin1_aae02 ∈ wsL_law := uc8 _ (List.mem_of_getElem? (i := 18) rfl)
theorem wd_8_19 : Cond.instanceMethod yJ0_isLatin1_aae02 ∈ wsL_law := uc8 _ (List.mem_of_getElem? (i := 19) rfl)
theorem wd_8_20 : Cond.selects RJ0 yJ0_isLatin1_aae02 yJ0_isLatin1_aae02 ∈ wsL_law := uc8 _ (List.mem_of_getElem? (i := 20) rfl)
theorem wd_8_21 : Cond.code yJ0_isLatin1_aae02 cJ0_isLatin1_aae02 1 (some .boolean) ∈ wsL_law := uc8 _ (List.mem_of_getElem? (i := 21) rfl)
theorem wd_8_22 : Cond.fieldLink RJ0 38 "java/lang/String" "COMPACT_STRINGS" "Z" ∈ wsL_law := uc8 _ (List.mem_of_getElem? (i := 22) rfl)
theorem wd_8_23 : Cond.fieldLink RJ0 15 "java/lang/String" "coder" "B" ∈ wsL_law := uc8 _ (List.mem_of_getElem? (i := 23) rfl)
theorem wd_9_0 : Cond.methodLink RJ0 505 yJ0_length_8abf5 ∈ wsL_law := uc9 _ (List.mem_of_getElem? (i := 0) rfl)
theorem wd_9_1 : Cond.instanceMethod yJ0_length_8abf5 ∈ wsL_law := uc9 _ (List.mem_of_getElem? (i := 1) rfl)
theorem wd_9_2 : Cond.selects RJ0 yJ0_length_8abf5 yJ0_length_8abf5 ∈ wsL_law := uc9 _ (List.mem_of_getElem? (i := 2) rfl)
theorem wd_9_3 : Cond.code yJ0_length_8abf5 cJ0_length_8abf5 1 (some .int) ∈ wsL_law := uc9 _ (List.mem_of_getElem? (i := 3) rfl)
theorem wd_9_4 : Cond.methodLink RJ0 335 yJ0_coder_7d493 ∈ wsL_law := uc9 _ (List.mem_of_getElem? (i := 4) rfl)
theorem wd_9_5 : Cond.instanceMethod yJ0_coder_7d493 ∈ wsL_law := uc9 _ (List.mem_of_getElem? (i := 5) rfl)
theorem wd_9_6 : Cond.selects RJ0 yJ0_coder_7d493 yJ0_coder_7d493 ∈ wsL_law := uc9 _ (List.mem_of_getElem? (i := 6) rfl)
theorem wd_9_7 : Cond.code yJ0_coder_7d493 cJ0_coder_7d493 1 (some .byte) ∈ wsL_law := uc9 _ (List.mem_of_getElem? (i := 7) rfl)
theorem wd_9_8 : Cond.methodLink RJ0 637 yJ1_indexOf_4cfef ∈ wsL_law := uc9 _ (List.mem_of_getElem? (i := 8) rfl)
theorem wd_9_9 : Cond.static yJ1_indexOf_4cfef ∈ wsL_law := uc9 _ (List.mem_of_getElem? (i := 9) rfl)
theorem wd_9_10 : Cond.initialized RJ1 ∈ wsL_law := uc9 _ (List.mem_of_getElem? (i := 10) rfl)
theorem wd_9_11 : Cond.code yJ1_indexOf_4cfef cJ1_indexOf_4cfef 4 (some .int) ∈ wsL_law := uc9 _ (List.mem_of_getElem? (i := 11) rfl)
theorem wd_9_12 : Cond.methodLink RJ1 92 Lib.Math.max.name ∈ wsL_law := uc9 _ (List.mem_of_getElem? (i := 12) rfl)
theorem wd_9_13 : Cond.methodLink RJ1 38 Lib.Math.min.name ∈ wsL_law := uc9 _ (List.mem_of_getElem? (i := 13) rfl)
theorem wd_9_14 : Cond.static Lib.Math.min.name ∈ wsL_law := uc9 _ (List.mem_of_getElem? (i := 14) rfl)
theorem wd_9_15 : Cond.code Lib.Math.min.name Lib.Math.min.code 2 (some .int) ∈ wsL_law := uc9 _ (List.mem_of_getElem? (i := 15) rfl)
theorem wd_9_16 : Cond.methodLink RJ1 88 yJ1_canEncode_9a6ad ∈ wsL_law := uc9 _ (List.mem_of_getElem? (i := 16) rfl)
theorem wd_9_17 : Cond.static yJ1_canEncode_9a6ad ∈ wsL_law := uc9 _ (List.mem_of_getElem? (i := 17) rfl)
theorem wd_9_18 : Cond.code yJ1_canEncode_9a6ad cJ1_canEncode_9a6ad 1 (some .boolean) ∈ wsL_law := uc9 _ (List.mem_of_getElem? (i := 18) rfl)
theorem wd_9_19 : Cond.methodLink RJ1 95 yJ1_indexOfChar_4cfef ∈ wsL_law := uc9 _ (List.mem_of_getElem? (i := 19) rfl)
theorem wd_9_20 : Cond.static yJ1_indexOfChar_4cfef ∈ wsL_law := uc9 _ (List.mem_of_getElem? (i := 20) rfl)
theorem wd_9_21 : Cond.code yJ1_indexOfChar_4cfef cJ1_indexOfChar_4cfef 6 (some .int) ∈ wsL_law := uc9 _ (List.mem_of_getElem? (i := 21) rfl)
theorem wd_9_22 : Cond.methodLink RJ0 640 yJ2_indexOf_4cfef ∈ wsL_law := uc9 _ (List.mem_of_getElem? (i := 22) rfl)
theorem wd_9_23 : Cond.static yJ2_indexOf_4cfef ∈ wsL_law := uc9 _ (List.mem_of_getElem? (i := 23) rfl)
theorem wd_10_0 : Cond.initialized RJ2 ∈ wsL_law := uc10 _ (List.mem_of_getElem? (i := 0) rfl)
theorem wd_10_1 : Cond.code yJ2_indexOf_4cfef cJ2_indexOf_4cfef 4 (some .int) ∈ wsL_law := uc10 _ (List.mem_of_getElem? (i := 1) rfl)
theorem wd_10_2 : Cond.methodLink RJ2 224 Lib.Math.max.name ∈ wsL_law := uc10 _ (List.mem_of_getElem? (i := 2) rfl)
theorem wd_10_3 : Cond.methodLink RJ2 183 Lib.Math.min.name ∈ wsL_law := uc10 _ (List.mem_of_getElem? (i := 3) rfl)
theorem wd_10_4 : Cond.constant RJ2 227 (65536) ∈ wsL_law := uc10 _ (List.mem_of_getElem? (i := 4) rfl)
theorem wd_10_5 : Cond.methodLink RJ2 228 yJ2_indexOfChar_4cfef ∈ wsL_law := uc10 _ (List.mem_of_getElem? (i := 5) rfl)
theorem wd_10_6 : Cond.static yJ2_indexOfChar_4cfef ∈ wsL_law := uc10 _ (List.mem_of_getElem? (i := 6) rfl)
theorem wd_10_7 : Cond.code yJ2_indexOfChar_4cfef cJ2_indexOfChar_4cfef 4 (some .int) ∈ wsL_law := uc10 _ (List.mem_of_getElem? (i := 7) rfl)
theorem wd_10_8 : Cond.methodLink RJ2 96 yJ2_checkBoundsBeginEnd_d044e ∈ wsL_law := uc10 _ (List.mem_of_getElem? (i := 8) rfl)
theorem wd_10_9 : Cond.static yJ2_checkBoundsBeginEnd_d044e ∈ wsL_law := uc10 _ (List.mem_of_getElem? (i := 9) rfl)
theorem wd_10_10 : Cond.code yJ2_checkBoundsBeginEnd_d044e cJ2_checkBoundsBeginEnd_d044e 3 none ∈ wsL_law := uc10 _ (List.mem_of_getElem? (i := 10) rfl)
theorem wd_10_11 : Cond.methodLink RJ2 48 yJ2_length_9d52b ∈ wsL_law := uc10 _ (List.mem_of_getElem? (i := 11) rfl)
theorem wd_10_12 : Cond.static yJ2_length_9d52b ∈ wsL_law := uc10 _ (List.mem_of_getElem? (i := 12) rfl)
theorem wd_10_13 : Cond.code yJ2_length_9d52b cJ2_length_9d52b 1 (some .int) ∈ wsL_law := uc10 _ (List.mem_of_getElem? (i := 13) rfl)
theorem wd_10_14 : Cond.methodLink RJ2 241 yJ0_checkBoundsBeginEnd_23922 ∈ wsL_law := uc10 _ (List.mem_of_getElem? (i := 14) rfl)
theorem wd_10_15 : Cond.static yJ0_checkBoundsBeginEnd_23922 ∈ wsL_law := uc10 _ (List.mem_of_getElem? (i := 15) rfl)
theorem wd_10_16 : Cond.code yJ0_checkBoundsBeginEnd_23922 cJ0_checkBoundsBeginEnd_23922 3 none ∈ wsL_law := uc10 _ (List.mem_of_getElem? (i := 16) rfl)
theorem wd_10_17 : Cond.fieldLink RJ0 1053 "jdk/internal/util/Preconditions" "SIOOBE_FORMATTER" "Ljava/util/function/BiFunction;" ∈ wsL_law := uc10 _ (List.mem_of_getElem? (i := 17) rfl)
theorem wd_10_18 : Cond.methodLink RJ0 1062 yJ3_checkFromToIndex_8c36e ∈ wsL_law := uc10 _ (List.mem_of_getElem? (i := 18) rfl)
theorem wd_10_19 : Cond.static yJ3_checkFromToIndex_8c36e ∈ wsL_law := uc10 _ (List.mem_of_getElem? (i := 19) rfl)
theorem wd_10_20 : Cond.initialized RJ3 ∈ wsL_law := uc10 _ (List.mem_of_getElem? (i := 20) rfl)
theorem wd_10_21 : Cond.code yJ3_checkFromToIndex_8c36e cJ3_checkFromToIndex_8c36e 4 (some .int) ∈ wsL_law := uc10 _ (List.mem_of_getElem? (i := 21) rfl)
theorem wd_10_22 : Cond.methodLink RJ2 244 yJ2_indexOfCharUnsafe_4cfef ∈ wsL_law := uc10 _ (List.mem_of_getElem? (i := 22) rfl)
theorem wd_10_23 : Cond.static yJ2_indexOfCharUnsafe_4cfef ∈ wsL_law := uc10 _ (List.mem_of_getElem? (i := 23) rfl)
theorem wd_11_0 : Cond.code yJ2_indexOfCharUnsafe_4cfef cJ2_indexOfCharUnsafe_4cfef 5 (some .int) ∈ wsL_law := uc11 _ (List.mem_of_getElem? (i := 0) rfl)
theorem wd_11_1 : Cond.methodLink RJ2 71 yJ2_getChar_3b067 ∈ wsL_law := uc11 _ (List.mem_of_getElem? (i := 1) rfl)
theorem wd_11_2 : Cond.static yJ2_getChar_3b067 ∈ wsL_law := uc11 _ (List.mem_of_getElem? (i := 2) rfl)
theorem wd_11_3 : Cond.code yJ2_getChar_3b067 cJ2_getChar_3b067 2 (some .char) ∈ wsL_law := uc11 _ (List.mem_of_getElem? (i := 3) rfl)
theorem wd_11_4 : Cond.fieldLink RJ2 44 "java/lang/StringUTF16" "$assertionsDisabled" "Z" ∈ wsL_law := uc11 _ (List.mem_of_getElem? (i := 4) rfl)
theorem wd_11_5 : Cond.fieldLink RJ2 59 "java/lang/StringUTF16" "HI_BYTE_SHIFT" "I" ∈ wsL_law := uc11 _ (List.mem_of_getElem? (i := 5) rfl)
theorem wd_11_6 : Cond.fieldLink RJ2 63 "java/lang/StringUTF16" "LO_BYTE_SHIFT" "I" ∈ wsL_law := uc11 _ (List.mem_of_getElem? (i := 6) rfl)
theorem wd_11_7 : Cond.methodLink RJ2 232 yJ2_indexOfSupplementary_4cfef ∈ wsL_law := uc11 _ (List.mem_of_getElem? (i := 7) rfl)
theorem wd_11_8 : Cond.static yJ2_indexOfSupplementary_4cfef ∈ wsL_law := uc11 _ (List.mem_of_getElem? (i := 8) rfl)
theorem wd_11_9 : Cond.code yJ2_indexOfSupplementary_4cfef cJ2_indexOfSupplementary_4cfef 7 (some .int) ∈ wsL_law := uc11 _ (List.mem_of_getElem? (i := 9) rfl)
theorem wd_11_10 : Cond.methodLink RJ2 164 yJ11_isValidCodePoint_9a6ad ∈ wsL_law := uc11 _ (List.mem_of_getElem? (i := 10) rfl)
theorem wd_11_11 : Cond.static yJ11_isValidCodePoint_9a6ad ∈ wsL_law := uc11 _ (List.mem_of_getElem? (i := 11) rfl)
theorem wd_11_12 : Cond.initialized RJ11 ∈ wsL_law := uc11 _ (List.mem_of_getElem? (i := 12) rfl)
theorem wd_11_13 : Cond.code yJ11_isValidCodePoint_9a6ad cJ11_isValidCodePoint_9a6ad 2 (some .boolean) ∈ wsL_law := uc11 _ (List.mem_of_getElem? (i := 13) rfl)
theorem wd_11_14 : Cond.methodLink RJ2 157 yJ11_highSurrogate_5068e ∈ wsL_law := uc11 _ (List.mem_of_getElem? (i := 14) rfl)
theorem wd_11_15 : Cond.static yJ11_highSurrogate_5068e ∈ wsL_law := uc11 _ (List.mem_of_getElem? (i := 15) rfl)
theorem wd_11_16 : Cond.code yJ11_highSurrogate_5068e cJ11_highSurrogate_5068e 1 (some .char) ∈ wsL_law := uc11 _ (List.mem_of_getElem? (i := 16) rfl)
theorem wd_11_17 : Cond.constant RJ11 110 (55232) ∈ wsL_law := uc11 _ (List.mem_of_getElem? (i := 17) rfl)
theorem wd_11_18 : Cond.methodLink RJ2 161 yJ11_lowSurrogate_5068e ∈ wsL_law := uc11 _ (List.mem_of_getElem? (i := 18) rfl)
theorem wd_11_19 : Cond.static yJ11_lowSurrogate_5068e ∈ wsL_law := uc11 _ (List.mem_of_getElem? (i := 19) rfl)
theorem wd_11_20 : Cond.code yJ11_lowSurrogate_5068e cJ11_lowSurrogate_5068e 1 (some .char) ∈ wsL_law := uc11 _ (List.mem_of_getElem? (i := 20) rfl)
theorem wd_11_21 : Cond.constant RJ11 76 (56320) ∈ wsL_law := uc11 _ (List.mem_of_getElem? (i := 21) rfl)
theorem wd_11_22 : Cond.methodLink RX8 40 yX8_rank ∈ wsL_law := uc11 _ (List.mem_of_getElem? (i := 22) rfl)
theorem wd_11_23 : Cond.instanceMethod yX8_rank ∈ wsL_law := uc11 _ (List.mem_of_getElem? (i := 23) rfl)
theorem wd_12_0 : Cond.selects RX8 yX8_rank yX8_rank ∈ wsL_law := uc12 _ (List.mem_of_getElem? (i := 0) rfl)
theorem wd_12_1 : Cond.code yX8_rank cX8_rank 3 none ∈ wsL_law := uc12 _ (List.mem_of_getElem? (i := 1) rfl)
theorem wd_12_2 : Cond.methodLink RX9 381 yX5_take ∈ wsL_law := uc12 _ (List.mem_of_getElem? (i := 2) rfl)
theorem wd_12_3 : Cond.instanceMethod yX5_take ∈ wsL_law := uc12 _ (List.mem_of_getElem? (i := 3) rfl)
theorem wd_12_4 : Cond.selects RX5 yX5_take yX5_take ∈ wsL_law := uc12 _ (List.mem_of_getElem? (i := 4) rfl)
theorem wd_12_5 : Cond.code yX5_take cX5_take 3 (some .int) ∈ wsL_law := uc12 _ (List.mem_of_getElem? (i := 5) rfl)
theorem wd_12_6 : Cond.fieldLink RX5 27 "WellTalk$Sayings" "count" "I" ∈ wsL_law := uc12 _ (List.mem_of_getElem? (i := 6) rfl)
theorem wd_12_7 : Cond.methodLink RX5 36 yX5_takeAll ∈ wsL_law := uc12 _ (List.mem_of_getElem? (i := 7) rfl)
theorem wd_12_8 : Cond.instanceMethod yX5_takeAll ∈ wsL_law := uc12 _ (List.mem_of_getElem? (i := 8) rfl)
theorem wd_12_9 : Cond.selects RX5 yX5_takeAll yX5_takeAll ∈ wsL_law := uc12 _ (List.mem_of_getElem? (i := 9) rfl)
theorem wd_12_10 : Cond.code yX5_takeAll cX5_takeAll 5 (some .int) ∈ wsL_law := uc12 _ (List.mem_of_getElem? (i := 10) rfl)
theorem wd_12_11 : Cond.methodLink RX5 40 yX5_takeHead ∈ wsL_law := uc12 _ (List.mem_of_getElem? (i := 11) rfl)
theorem wd_12_12 : Cond.instanceMethod yX5_takeHead ∈ wsL_law := uc12 _ (List.mem_of_getElem? (i := 12) rfl)
theorem wd_12_13 : Cond.selects RX5 yX5_takeHead yX5_takeHead ∈ wsL_law := uc12 _ (List.mem_of_getElem? (i := 13) rfl)
theorem wd_12_14 : Cond.code yX5_takeHead cX5_takeHead 4 (some .int) ∈ wsL_law := uc12 _ (List.mem_of_getElem? (i := 14) rfl)
theorem wd_12_15 : Cond.methodLink RX5 49 yX7_sign ∈ wsL_law := uc12 _ (List.mem_of_getElem? (i := 15) rfl)
theorem wd_12_16 : Cond.methodLink RX5 44 yX5_takeWord ∈ wsL_law := uc12 _ (List.mem_of_getElem? (i := 16) rfl)
theorem wd_12_17 : Cond.instanceMethod yX5_takeWord ∈ wsL_law := uc12 _ (List.mem_of_getElem? (i := 17) rfl)
theorem wd_12_18 : Cond.selects RX5 yX5_takeWord yX5_takeWord ∈ wsL_law := uc12 _ (List.mem_of_getElem? (i := 18) rfl)
theorem wd_12_19 : Cond.code yX5_takeWord cX5_takeWord 6 (some .int) ∈ wsL_law := uc12 _ (List.mem_of_getElem? (i := 19) rfl)
theorem wd_12_20 : Cond.methodLink RX9 157 yX9_changed ∈ wsL_law := uc12 _ (List.mem_of_getElem? (i := 20) rfl)
theorem wd_12_21 : Cond.instanceMethod yX9_changed ∈ wsL_law := uc12 _ (List.mem_of_getElem? (i := 21) rfl)
theorem wd_12_22 : Cond.selects RX9 yX9_changed yX9_changed ∈ wsL_law := uc12 _ (List.mem_of_getElem? (i := 22) rfl)
theorem wd_12_23 : Cond.code yX9_changed cX9_changed 1 none ∈ wsL_law := uc12 _ (List.mem_of_getElem? (i := 23) rfl)
theorem wd_13_0 : Cond.methodLink RL 17 yX10_type ∈ wsL_law := uc13 _ (List.mem_of_getElem? (i := 0) rfl)
theorem wd_13_1 : Cond.instanceMethod yX10_type ∈ wsL_law := uc13 _ (List.mem_of_getElem? (i := 1) rfl)
theorem wd_13_2 : Cond.selects RX10 yX10_type yX10_type ∈ wsL_law := uc13 _ (List.mem_of_getElem? (i := 2) rfl)
theorem wd_13_3 : Cond.code yX10_type cX10_type 3 (some .int) ∈ wsL_law := uc13 _ (List.mem_of_getElem? (i := 3) rfl)
theorem wd_13_4 : Cond.constantLong RX10 114 (255) ∈ wsL_law := uc13 _ (List.mem_of_getElem? (i := 4) rfl)
theorem wd_13_5 : Cond.methodLink RX10 111 yX10_isTwo ∈ wsL_law := uc13 _ (List.mem_of_getElem? (i := 5) rfl)
theorem wd_13_6 : Cond.static yX10_isTwo ∈ wsL_law := uc13 _ (List.mem_of_getElem? (i := 6) rfl)
theorem wd_13_7 : Cond.code yX10_isTwo cX10_isTwo 1 (some .boolean) ∈ wsL_law := uc13 _ (List.mem_of_getElem? (i := 7) rfl)
theorem wd_13_8 : Cond.methodLink RX10 83 yX10_in ∈ wsL_law := uc13 _ (List.mem_of_getElem? (i := 8) rfl)
theorem wd_13_9 : Cond.static yX10_in ∈ wsL_law := uc13 _ (List.mem_of_getElem? (i := 9) rfl)
theorem wd_13_10 : Cond.code yX10_in cX10_in 6 (some .boolean) ∈ wsL_law := uc13 _ (List.mem_of_getElem? (i := 10) rfl)
theorem wd_13_11 : Cond.methodLink RL 18 yX9_wipe ∈ wsL_law := uc13 _ (List.mem_of_getElem? (i := 11) rfl)
theorem wd_13_12 : Cond.instanceMethod yX9_wipe ∈ wsL_law := uc13 _ (List.mem_of_getElem? (i := 12) rfl)
theorem wd_13_13 : Cond.selects RX9 yX9_wipe yX9_wipe ∈ wsL_law := uc13 _ (List.mem_of_getElem? (i := 13) rfl)
theorem wd_13_14 : Cond.code yX9_wipe cX9_wipe 3 (some .int) ∈ wsL_law := uc13 _ (List.mem_of_getElem? (i := 14) rfl)
theorem wd_13_15 : Cond.methodLink RL 22 yX10_wipe ∈ wsL_law := uc13 _ (List.mem_of_getElem? (i := 15) rfl)
theorem wd_13_16 : Cond.instanceMethod yX10_wipe ∈ wsL_law := uc13 _ (List.mem_of_getElem? (i := 16) rfl)
theorem wd_13_17 : Cond.selects RX10 yX10_wipe yX10_wipe ∈ wsL_law := uc13 _ (List.mem_of_getElem? (i := 17) rfl)
theorem wd_13_18 : Cond.code yX10_wipe cX10_wipe 3 (some .int) ∈ wsL_law := uc13 _ (List.mem_of_getElem? (i := 18) rfl)
theorem wd_13_19 : Cond.methodLink RL 23 yX9_undo ∈ wsL_law := uc13 _ (List.mem_of_getElem? (i := 19) rfl)
theorem wd_13_20 : Cond.instanceMethod yX9_undo ∈ wsL_law := uc13 _ (List.mem_of_getElem? (i := 20) rfl)
theorem wd_13_21 : Cond.selects RX9 yX9_undo yX9_undo ∈ wsL_law := uc13 _ (List.mem_of_getElem? (i := 21) rfl)
theorem wd_13_22 : Cond.code yX9_undo cX9_undo 2 (some .int) ∈ wsL_law := uc13 _ (List.mem_of_getElem? (i := 22) rfl)
theorem wd_13_23 : Cond.methodLink RL 26 yX10_undo ∈ wsL_law := uc13 _ (List.mem_of_getElem? (i := 23) rfl)
theorem wd_14_0 : Cond.instanceMethod yX10_undo ∈ wsL_law := uc14 _ (List.mem_of_getElem? (i := 0) rfl)
theorem wd_14_1 : Cond.selects RX10 yX10_undo yX10_undo ∈ wsL_law := uc14 _ (List.mem_of_getElem? (i := 1) rfl)
theorem wd_14_2 : Cond.code yX10_undo cX10_undo 2 (some .int) ∈ wsL_law := uc14 _ (List.mem_of_getElem? (i := 2) rfl)
theorem wd_14_3 : Cond.methodLink RL 27 yX9_fault ∈ wsL_law := uc14 _ (List.mem_of_getElem? (i := 3) rfl)
theorem wd_14_4 : Cond.instanceMethod yX9_fault ∈ wsL_law := uc14 _ (List.mem_of_getElem? (i := 4) rfl)
theorem wd_14_5 : Cond.selects RX9 yX9_fault yX9_fault ∈ wsL_law := uc14 _ (List.mem_of_getElem? (i := 5) rfl)
theorem wd_14_6 : Cond.code yX9_fault cX9_fault 2 (some .int) ∈ wsL_law := uc14 _ (List.mem_of_getElem? (i := 6) rfl)
theorem wd_14_7 : Cond.methodLink RL 30 yX10_fault ∈ wsL_law := uc14 _ (List.mem_of_getElem? (i := 7) rfl)
theorem wd_14_8 : Cond.instanceMethod yX10_fault ∈ wsL_law := uc14 _ (List.mem_of_getElem? (i := 8) rfl)
theorem wd_14_9 : Cond.selects RX10 yX10_fault yX10_fault ∈ wsL_law := uc14 _ (List.mem_of_getElem? (i := 9) rfl)
theorem wd_14_10 : Cond.code yX10_fault cX10_fault 2 (some .int) ∈ wsL_law := uc14 _ (List.mem_of_getElem? (i := 10) rfl)
theorem wd_14_11 : Cond.methodLink RX10 147 yX10_readsText ∈ wsL_law := uc14 _ (List.mem_of_getElem? (i := 11) rfl)
theorem wd_14_12 : Cond.instanceMethod yX10_readsText ∈ wsL_law := uc14 _ (List.mem_of_getElem? (i := 12) rfl)
theorem wd_14_13 : Cond.selects RX10 yX10_readsText yX10_readsText ∈ wsL_law := uc14 _ (List.mem_of_getElem? (i := 13) rfl)
theorem wd_14_14 : Cond.code yX10_readsText cX10_readsText 2 (some .int) ∈ wsL_law := uc14 _ (List.mem_of_getElem? (i := 14) rfl)
theorem wd_14_15 : Cond.methodLink RX10 140 yX10_readsWells ∈ wsL_law := uc14 _ (List.mem_of_getElem? (i := 15) rfl)
theorem wd_14_16 : Cond.instanceMethod yX10_readsWells ∈ wsL_law := uc14 _ (List.mem_of_getElem? (i := 16) rfl)
theorem wd_14_17 : Cond.selects RX10 yX10_readsWells yX10_readsWells ∈ wsL_law := uc14 _ (List.mem_of_getElem? (i := 17) rfl)
theorem wd_14_18 : Cond.code yX10_readsWells cX10_readsWells 5 (some .int) ∈ wsL_law := uc14 _ (List.mem_of_getElem? (i := 18) rfl)
theorem wd_14_19 : Cond.fieldLink RX10 120 "WellTalkModel" "wells" "I" ∈ wsL_law := uc14 _ (List.mem_of_getElem? (i := 19) rfl)
theorem wd_14_20 : Cond.methodLink RX10 123 yX10_wellOf ∈ wsL_law := uc14 _ (List.mem_of_getElem? (i := 20) rfl)
theorem wd_14_21 : Cond.static yX10_wellOf ∈ wsL_law := uc14 _ (List.mem_of_getElem? (i := 21) rfl)
theorem wd_14_22 : Cond.code yX10_wellOf cX10_wellOf 2 (some .int) ∈ wsL_law := uc14 _ (List.mem_of_getElem? (i := 22) rfl)
theorem wd_14_23 : Cond.constantLong RX10 116 (48) ∈ wsL_law := uc14 _ (List.mem_of_getElem? (i := 23) rfl)
theorem wd_15_0 : Cond.constantLong RX10 118 (57) ∈ wsL_law := uc15 _ (List.mem_of_getElem? (i := 0) rfl)
theorem wd_15_1 : Cond.methodLink RX10 144 yX10_readsSayings ∈ wsL_law := uc15 _ (List.mem_of_getElem? (i := 1) rfl)
theorem wd_15_2 : Cond.instanceMethod yX10_readsSayings ∈ wsL_law := uc15 _ (List.mem_of_getElem? (i := 2) rfl)
theorem wd_15_3 : Cond.selects RX10 yX10_readsSayings yX10_readsSayings ∈ wsL_law := uc15 _ (List.mem_of_getElem? (i := 3) rfl)
theorem wd_15_4 : Cond.code yX10_readsSayings cX10_readsSayings 7 (some .int) ∈ wsL_law := uc15 _ (List.mem_of_getElem? (i := 4) rfl)
theorem wd_15_5 : Cond.fieldLink RX10 134 "WellTalkModel" "sayings" "I" ∈ wsL_law := uc15 _ (List.mem_of_getElem? (i := 5) rfl)
theorem wd_15_6 : Cond.methodLink RX10 137 yX10_sayingOf ∈ wsL_law := uc15 _ (List.mem_of_getElem? (i := 6) rfl)
theorem wd_15_7 : Cond.static yX10_sayingOf ∈ wsL_law := uc15 _ (List.mem_of_getElem? (i := 7) rfl)
theorem wd_15_8 : Cond.code yX10_sayingOf cX10_sayingOf 2 (some .int) ∈ wsL_law := uc15 _ (List.mem_of_getElem? (i := 8) rfl)
theorem wd_15_9 : Cond.constantLong RX10 126 (97) ∈ wsL_law := uc15 _ (List.mem_of_getElem? (i := 9) rfl)
theorem wd_15_10 : Cond.constantLong RX10 128 (120) ∈ wsL_law := uc15 _ (List.mem_of_getElem? (i := 10) rfl)
theorem wd_15_11 : Cond.constantLong RX10 130 (55) ∈ wsL_law := uc15 _ (List.mem_of_getElem? (i := 11) rfl)
theorem wd_15_12 : Cond.constantLong RX10 132 (104) ∈ wsL_law := uc15 _ (List.mem_of_getElem? (i := 12) rfl)
theorem wd_15_13 : Cond.methodLink RL 31 yX9_well ∈ wsL_law := uc15 _ (List.mem_of_getElem? (i := 13) rfl)
theorem wd_15_14 : Cond.instanceMethod yX9_well ∈ wsL_law := uc15 _ (List.mem_of_getElem? (i := 14) rfl)
theorem wd_15_15 : Cond.selects RX9 yX9_well yX9_well ∈ wsL_law := uc15 _ (List.mem_of_getElem? (i := 15) rfl)
theorem wd_15_16 : Cond.code yX9_well cX9_well 3 (some .int) ∈ wsL_law := uc15 _ (List.mem_of_getElem? (i := 16) rfl)
theorem wd_15_17 : Cond.methodLink RL 34 yX10_well ∈ wsL_law := uc15 _ (List.mem_of_getElem? (i := 17) rfl)
theorem wd_15_18 : Cond.instanceMethod yX10_well ∈ wsL_law := uc15 _ (List.mem_of_getElem? (i := 18) rfl)
theorem wd_15_19 : Cond.selects RX10 yX10_well yX10_well ∈ wsL_law := uc15 _ (List.mem_of_getElem? (i := 19) rfl)
theorem wd_15_20 : Cond.code yX10_well cX10_well 3 (some .int) ∈ wsL_law := uc15 _ (List.mem_of_getElem? (i := 20) rfl)
theorem wd_15_21 : Cond.constantLong RX10 90 (3) ∈ wsL_law := uc15 _ (List.mem_of_getElem? (i := 21) rfl)
theorem wd_15_22 : Cond.methodLink RX10 160 yX10_isWell ∈ wsL_law := uc15 _ (List.mem_of_getElem? (i := 22) rfl)
theorem wd_15_23 : Cond.instanceMethod yX10_isWell ∈ wsL_law := uc15 _ (List.mem_of_getElem? (i := 23) rfl)
theorem wd_16_0 : Cond.selects RX10 yX10_isWell yX10_isWell ∈ wsL_law := uc16 _ (List.mem_of_getElem? (i := 0) rfl)
theorem wd_16_1 : Cond.code yX10_isWell cX10_isWell 2 (some .boolean) ∈ wsL_law := uc16 _ (List.mem_of_getElem? (i := 1) rfl)
theorem wd_16_2 : Cond.methodLink RX10 163 yX10_wellBy ∈ wsL_law := uc16 _ (List.mem_of_getElem? (i := 2) rfl)
theorem wd_16_3 : Cond.instanceMethod yX10_wellBy ∈ wsL_law := uc16 _ (List.mem_of_getElem? (i := 3) rfl)
theorem wd_16_4 : Cond.selects RX10 yX10_wellBy yX10_wellBy ∈ wsL_law := uc16 _ (List.mem_of_getElem? (i := 4) rfl)
theorem wd_16_5 : Cond.code yX10_wellBy cX10_wellBy 3 (some .int) ∈ wsL_law := uc16 _ (List.mem_of_getElem? (i := 5) rfl)
theorem wd_16_6 : Cond.methodLink RX10 154 yX10_down ∈ wsL_law := uc16 _ (List.mem_of_getElem? (i := 6) rfl)
theorem wd_16_7 : Cond.instanceMethod yX10_down ∈ wsL_law := uc16 _ (List.mem_of_getElem? (i := 7) rfl)
theorem wd_16_8 : Cond.selects RX10 yX10_down yX10_down ∈ wsL_law := uc16 _ (List.mem_of_getElem? (i := 8) rfl)
theorem wd_16_9 : Cond.code yX10_down cX10_down 5 (some .int) ∈ wsL_law := uc16 _ (List.mem_of_getElem? (i := 9) rfl)
theorem wd_16_10 : Cond.methodLink RX10 157 yX10_up ∈ wsL_law := uc16 _ (List.mem_of_getElem? (i := 10) rfl)
theorem wd_16_11 : Cond.instanceMethod yX10_up ∈ wsL_law := uc16 _ (List.mem_of_getElem? (i := 11) rfl)
theorem wd_16_12 : Cond.selects RX10 yX10_up yX10_up ∈ wsL_law := uc16 _ (List.mem_of_getElem? (i := 12) rfl)
theorem wd_16_13 : Cond.code yX10_up cX10_up 5 (some .int) ∈ wsL_law := uc16 _ (List.mem_of_getElem? (i := 13) rfl)
theorem wd_16_14 : Cond.methodLink RL 35 yX9_saying ∈ wsL_law := uc16 _ (List.mem_of_getElem? (i := 14) rfl)
theorem wd_16_15 : Cond.instanceMethod yX9_saying ∈ wsL_law := uc16 _ (List.mem_of_getElem? (i := 15) rfl)
theorem wd_16_16 : Cond.selects RX9 yX9_saying yX9_saying ∈ wsL_law := uc16 _ (List.mem_of_getElem? (i := 16) rfl)
theorem wd_16_17 : Cond.code yX9_saying cX9_saying 3 (some .int) ∈ wsL_law := uc16 _ (List.mem_of_getElem? (i := 17) rfl)
theorem wd_16_18 : Cond.methodLink RX9 147 yX5_letter ∈ wsL_law := uc16 _ (List.mem_of_getElem? (i := 18) rfl)
theorem wd_16_19 : Cond.instanceMethod yX5_letter ∈ wsL_law := uc16 _ (List.mem_of_getElem? (i := 19) rfl)
theorem wd_16_20 : Cond.selects RX5 yX5_letter yX5_letter ∈ wsL_law := uc16 _ (List.mem_of_getElem? (i := 20) rfl)
theorem wd_16_21 : Cond.code yX5_letter cX5_letter 3 (some .int) ∈ wsL_law := uc16 _ (List.mem_of_getElem? (i := 21) rfl)
theorem wd_16_22 : Cond.methodLink RL 38 yX10_saying ∈ wsL_law := uc16 _ (List.mem_of_getElem? (i := 22) rfl)
theorem wd_16_23 : Cond.instanceMethod yX10_saying ∈ wsL_law := uc16 _ (List.mem_of_getElem? (i := 23) rfl)
theorem wd_17_0 : Cond.selects RX10 yX10_saying yX10_saying ∈ wsL_law := uc17 _ (List.mem_of_getElem? (i := 0) rfl)
theorem wd_17_1 : Cond.code yX10_saying cX10_saying 3 (some .int) ∈ wsL_law := uc17 _ (List.mem_of_getElem? (i := 1) rfl)
theorem wd_17_2 : Cond.constantLong RX10 152 (7) ∈ wsL_law := uc17 _ (List.mem_of_getElem? (i := 2) rfl)
theorem wd_17_3 : Cond.methodLink RX10 166 yX10_isSaying ∈ wsL_law := uc17 _ (List.mem_of_getElem? (i := 3) rfl)
theorem wd_17_4 : Cond.instanceMethod yX10_isSaying ∈ wsL_law := uc17 _ (List.mem_of_getElem? (i := 4) rfl)
theorem wd_17_5 : Cond.selects RX10 yX10_isSaying yX10_isSaying ∈ wsL_law := uc17 _ (List.mem_of_getElem? (i := 5) rfl)
theorem wd_17_6 : Cond.code yX10_isSaying cX10_isSaying 2 (some .boolean) ∈ wsL_law := uc17 _ (List.mem_of_getElem? (i := 6) rfl)
theorem wd_17_7 : Cond.methodLink RX10 169 yX10_sayingBy ∈ wsL_law := uc17 _ (List.mem_of_getElem? (i := 7) rfl)
theorem wd_17_8 : Cond.instanceMethod yX10_sayingBy ∈ wsL_law := uc17 _ (List.mem_of_getElem? (i := 8) rfl)
theorem wd_17_9 : Cond.selects RX10 yX10_sayingBy yX10_sayingBy ∈ wsL_law := uc17 _ (List.mem_of_getElem? (i := 9) rfl)
theorem wd_17_10 : Cond.code yX10_sayingBy cX10_sayingBy 3 (some .int) ∈ wsL_law := uc17 _ (List.mem_of_getElem? (i := 10) rfl)
theorem wd_17_11 : Cond.methodLink RL 39 yX9_event ∈ wsL_law := uc17 _ (List.mem_of_getElem? (i := 11) rfl)
theorem wd_17_12 : Cond.instanceMethod yX9_event ∈ wsL_law := uc17 _ (List.mem_of_getElem? (i := 12) rfl)
theorem wd_17_13 : Cond.selects RX9 yX9_event yX9_event ∈ wsL_law := uc17 _ (List.mem_of_getElem? (i := 13) rfl)
theorem wd_17_14 : Cond.code yX9_event cX9_event 4 (some .int) ∈ wsL_law := uc17 _ (List.mem_of_getElem? (i := 14) rfl)
theorem wd_17_15 : Cond.methodLink RX9 151 yX9_mayBeEvent ∈ wsL_law := uc17 _ (List.mem_of_getElem? (i := 15) rfl)
theorem wd_17_16 : Cond.static yX9_mayBeEvent ∈ wsL_law := uc17 _ (List.mem_of_getElem? (i := 16) rfl)
theorem wd_17_17 : Cond.code yX9_mayBeEvent cX9_mayBeEvent 3 (some .boolean) ∈ wsL_law := uc17 _ (List.mem_of_getElem? (i := 17) rfl)
theorem wd_17_18 : Cond.methodLink RX9 155 yX2_add ∈ wsL_law := uc17 _ (List.mem_of_getElem? (i := 18) rfl)
theorem wd_17_19 : Cond.instanceMethod yX2_add ∈ wsL_law := uc17 _ (List.mem_of_getElem? (i := 19) rfl)
theorem wd_17_20 : Cond.selects RX2 yX2_add yX2_add ∈ wsL_law := uc17 _ (List.mem_of_getElem? (i := 20) rfl)
theorem wd_17_21 : Cond.code yX2_add cX2_add 4 (some .boolean) ∈ wsL_law := uc17 _ (List.mem_of_getElem? (i := 21) rfl)
theorem wd_17_22 : Cond.fieldLink RX2 21 "WellTalk$Events" "count" "I" ∈ wsL_law := uc17 _ (List.mem_of_getElem? (i := 22) rfl)
theorem wd_17_23 : Cond.methodLink RL 43 yX10_event ∈ wsL_law := uc17 _ (List.mem_of_getElem? (i := 23) rfl)
theorem wd_18_0 : Cond.instanceMethod yX10_event ∈ wsL_law := uc18 _ (List.mem_of_getElem? (i := 0) rfl)
theorem wd_18_1 : Cond.selects RX10 yX10_event yX10_event ∈ wsL_law := uc18 _ (List.mem_of_getElem? (i := 1) rfl)
theorem wd_18_2 : Cond.code yX10_event cX10_event 4 (some .int) ∈ wsL_law := uc18 _ (List.mem_of_getElem? (i := 2) rfl)
theorem wd_18_3 : Cond.constantLong RX10 96 (2) ∈ wsL_law := uc18 _ (List.mem_of_getElem? (i := 3) rfl)
theorem wd_18_4 : Cond.fieldLink RX10 172 "WellTalkModel" "events" "I" ∈ wsL_law := uc18 _ (List.mem_of_getElem? (i := 4) rfl)
theorem wd_18_5 : Cond.methodLink RX10 175 yX10_isHour ∈ wsL_law := uc18 _ (List.mem_of_getElem? (i := 5) rfl)
theorem wd_18_6 : Cond.static yX10_isHour ∈ wsL_law := uc18 _ (List.mem_of_getElem? (i := 6) rfl)
theorem wd_18_7 : Cond.code yX10_isHour cX10_isHour 1 (some .boolean) ∈ wsL_law := uc18 _ (List.mem_of_getElem? (i := 7) rfl)
theorem wd_18_8 : Cond.constantLong RX10 150 (39) ∈ wsL_law := uc18 _ (List.mem_of_getElem? (i := 8) rfl)
theorem wd_18_9 : Cond.methodLink RX10 178 yX10_isEight ∈ wsL_law := uc18 _ (List.mem_of_getElem? (i := 9) rfl)
theorem wd_18_10 : Cond.static yX10_isEight ∈ wsL_law := uc18 _ (List.mem_of_getElem? (i := 10) rfl)
theorem wd_18_11 : Cond.code yX10_isEight cX10_isEight 1 (some .boolean) ∈ wsL_law := uc18 _ (List.mem_of_getElem? (i := 11) rfl)
theorem wd_18_12 : Cond.methodLink RX10 181 yX10_puts ∈ wsL_law := uc18 _ (List.mem_of_getElem? (i := 12) rfl)
theorem wd_18_13 : Cond.instanceMethod yX10_puts ∈ wsL_law := uc18 _ (List.mem_of_getElem? (i := 13) rfl)
theorem wd_18_14 : Cond.selects RX10 yX10_puts yX10_puts ∈ wsL_law := uc18 _ (List.mem_of_getElem? (i := 14) rfl)
theorem wd_18_15 : Cond.code yX10_puts cX10_puts 4 none ∈ wsL_law := uc18 _ (List.mem_of_getElem? (i := 15) rfl)
theorem wd_18_16 : Cond.methodLink RL 44 yX9_back ∈ wsL_law := uc18 _ (List.mem_of_getElem? (i := 16) rfl)
theorem wd_18_17 : Cond.instanceMethod yX9_back ∈ wsL_law := uc18 _ (List.mem_of_getElem? (i := 17) rfl)
theorem wd_18_18 : Cond.selects RX9 yX9_back yX9_back ∈ wsL_law := uc18 _ (List.mem_of_getElem? (i := 18) rfl)
theorem wd_18_19 : Cond.code yX9_back cX9_back 1 (some .int) ∈ wsL_law := uc18 _ (List.mem_of_getElem? (i := 19) rfl)
theorem wd_18_20 : Cond.methodLink RL 48 yX10_back ∈ wsL_law := uc18 _ (List.mem_of_getElem? (i := 20) rfl)
theorem wd_18_21 : Cond.instanceMethod yX10_back ∈ wsL_law := uc18 _ (List.mem_of_getElem? (i := 21) rfl)
theorem wd_18_22 : Cond.selects RX10 yX10_back yX10_back ∈ wsL_law := uc18 _ (List.mem_of_getElem? (i := 22) rfl)
theorem wd_18_23 : Cond.code yX10_back cX10_back 1 (some .int) ∈ wsL_law := uc18 _ (List.mem_of_getElem? (i := 23) rfl)
theorem wd_19_0 : Cond.methodLink RL 49 yX9_read ∈ wsL_law := uc19 _ (List.mem_of_getElem? (i := 0) rfl)
theorem wd_19_1 : Cond.instanceMethod yX9_read ∈ wsL_law := uc19 _ (List.mem_of_getElem? (i := 1) rfl)
theorem wd_19_2 : Cond.selects RX9 yX9_read yX9_read ∈ wsL_law := uc19 _ (List.mem_of_getElem? (i := 2) rfl)
theorem wd_19_3 : Cond.code yX9_read cX9_read 3 (some .int) ∈ wsL_law := uc19 _ (List.mem_of_getElem? (i := 3) rfl)
theorem wd_19_4 : Cond.methodLink RX9 161 yX6_isLost ∈ wsL_law := uc19 _ (List.mem_of_getElem? (i := 4) rfl)
theorem wd_19_5 : Cond.instanceMethod yX6_isLost ∈ wsL_law := uc19 _ (List.mem_of_getElem? (i := 5) rfl)
theorem wd_19_6 : Cond.selects RX6 yX6_isLost yX6_isLost ∈ wsL_law := uc19 _ (List.mem_of_getElem? (i := 6) rfl)
theorem wd_19_7 : Cond.code yX6_isLost cX6_isLost 1 (some .boolean) ∈ wsL_law := uc19 _ (List.mem_of_getElem? (i := 7) rfl)
theorem wd_19_8 : Cond.methodLink RX9 165 yX9_finding ∈ wsL_law := uc19 _ (List.mem_of_getElem? (i := 8) rfl)
theorem wd_19_9 : Cond.instanceMethod yX9_finding ∈ wsL_law := uc19 _ (List.mem_of_getElem? (i := 9) rfl)
theorem wd_19_10 : Cond.selects RX9 yX9_finding yX9_finding ∈ wsL_law := uc19 _ (List.mem_of_getElem? (i := 10) rfl)
theorem wd_19_11 : Cond.code yX9_finding cX9_finding 2 (some .int) ∈ wsL_law := uc19 _ (List.mem_of_getElem? (i := 11) rfl)
theorem wd_19_12 : Cond.fieldLink RX9 309 "WellTalk" "latestFinding" "I" ∈ wsL_law := uc19 _ (List.mem_of_getElem? (i := 12) rfl)
theorem wd_19_13 : Cond.methodLink RX9 169 yX9_addEvents ∈ wsL_law := uc19 _ (List.mem_of_getElem? (i := 13) rfl)
theorem wd_19_14 : Cond.instanceMethod yX9_addEvents ∈ wsL_law := uc19 _ (List.mem_of_getElem? (i := 14) rfl)
theorem wd_19_15 : Cond.selects RX9 yX9_addEvents yX9_addEvents ∈ wsL_law := uc19 _ (List.mem_of_getElem? (i := 15) rfl)
theorem wd_19_16 : Cond.code yX9_addEvents cX9_addEvents 7 (some .int) ∈ wsL_law := uc19 _ (List.mem_of_getElem? (i := 16) rfl)
theorem wd_19_17 : Cond.methodLink RL 52 yX10_read ∈ wsL_law := uc19 _ (List.mem_of_getElem? (i := 17) rfl)
theorem wd_19_18 : Cond.instanceMethod yX10_read ∈ wsL_law := uc19 _ (List.mem_of_getElem? (i := 18) rfl)
theorem wd_19_19 : Cond.selects RX10 yX10_read yX10_read ∈ wsL_law := uc19 _ (List.mem_of_getElem? (i := 19) rfl)
theorem wd_19_20 : Cond.code yX10_read cX10_read 5 (some .int) ∈ wsL_law := uc19 _ (List.mem_of_getElem? (i := 20) rfl)
theorem wd_19_21 : Cond.methodLink RX10 92 yX10_isSheet ∈ wsL_law := uc19 _ (List.mem_of_getElem? (i := 21) rfl)
theorem wd_19_22 : Cond.static yX10_isSheet ∈ wsL_law := uc19 _ (List.mem_of_getElem? (i := 22) rfl)
theorem wd_19_23 : Cond.code yX10_isSheet cX10_isSheet 1 (some .boolean) ∈ wsL_law := uc19 _ (List.mem_of_getElem? (i := 23) rfl)
theorem wd_20_0 : Cond.methodLink RX10 98 yX10_finds ∈ wsL_law := uc20 _ (List.mem_of_getElem? (i := 0) rfl)
theorem wd_20_1 : Cond.instanceMethod yX10_finds ∈ wsL_law := uc20 _ (List.mem_of_getElem? (i := 1) rfl)
theorem wd_20_2 : Cond.selects RX10 yX10_finds yX10_finds ∈ wsL_law := uc20 _ (List.mem_of_getElem? (i := 2) rfl)
theorem wd_20_3 : Cond.code yX10_finds cX10_finds 2 (some .int) ∈ wsL_law := uc20 _ (List.mem_of_getElem? (i := 3) rfl)
theorem wd_20_4 : Cond.fieldLink RX10 87 "WellTalkModel" "latest" "I" ∈ wsL_law := uc20 _ (List.mem_of_getElem? (i := 4) rfl)
theorem wd_20_5 : Cond.methodLink RX10 185 yX10_event ∈ wsL_law := uc20 _ (List.mem_of_getElem? (i := 5) rfl)
theorem wd_20_6 : Cond.methodLink RL 53 yX9_at ∈ wsL_law := uc20 _ (List.mem_of_getElem? (i := 6) rfl)
theorem wd_20_7 : Cond.instanceMethod yX9_at ∈ wsL_law := uc20 _ (List.mem_of_getElem? (i := 7) rfl)
theorem wd_20_8 : Cond.selects RX9 yX9_at yX9_at ∈ wsL_law := uc20 _ (List.mem_of_getElem? (i := 8) rfl)
theorem wd_20_9 : Cond.code yX9_at cX9_at 6 (some .int) ∈ wsL_law := uc20 _ (List.mem_of_getElem? (i := 9) rfl)
theorem wd_20_10 : Cond.methodLink RX9 173 yX9_refresh ∈ wsL_law := uc20 _ (List.mem_of_getElem? (i := 10) rfl)
theorem wd_20_11 : Cond.instanceMethod yX9_refresh ∈ wsL_law := uc20 _ (List.mem_of_getElem? (i := 11) rfl)
theorem wd_20_12 : Cond.selects RX9 yX9_refresh yX9_refresh ∈ wsL_law := uc20 _ (List.mem_of_getElem? (i := 12) rfl)
theorem wd_20_13 : Cond.code yX9_refresh cX9_refresh 2 none ∈ wsL_law := uc20 _ (List.mem_of_getElem? (i := 13) rfl)
theorem wd_20_14 : Cond.methodLink RX9 232 yX3_fill ∈ wsL_law := uc20 _ (List.mem_of_getElem? (i := 14) rfl)
theorem wd_20_15 : Cond.instanceMethod yX3_fill ∈ wsL_law := uc20 _ (List.mem_of_getElem? (i := 15) rfl)
theorem wd_20_16 : Cond.selects RX3 yX3_fill yX3_fill ∈ wsL_law := uc20 _ (List.mem_of_getElem? (i := 16) rfl)
theorem wd_20_17 : Cond.code yX3_fill cX3_fill 4 none ∈ wsL_law := uc20 _ (List.mem_of_getElem? (i := 17) rfl)
theorem wd_20_18 : Cond.methodLink RX3 41 yX3_put ∈ wsL_law := uc20 _ (List.mem_of_getElem? (i := 18) rfl)
theorem wd_20_19 : Cond.instanceMethod yX3_put ∈ wsL_law := uc20 _ (List.mem_of_getElem? (i := 19) rfl)
theorem wd_20_20 : Cond.selects RX3 yX3_put yX3_put ∈ wsL_law := uc20 _ (List.mem_of_getElem? (i := 20) rfl)
theorem wd_20_21 : Cond.code yX3_put cX3_put 5 none ∈ wsL_law := uc20 _ (List.mem_of_getElem? (i := 21) rfl)
theorem wd_20_22 : Cond.methodLink RX9 198 yX4_follow ∈ wsL_law := uc20 _ (List.mem_of_getElem? (i := 22) rfl)
theorem wd_20_23 : Cond.instanceMethod yX4_follow ∈ wsL_law := uc20 _ (List.mem_of_getElem? (i := 23) rfl)
theorem wd_21_0 : Cond.selects RX4 yX4_follow yX4_follow ∈ wsL_law := uc21 _ (List.mem_of_getElem? (i := 0) rfl)
theorem wd_21_1 : Cond.code yX4_follow cX4_follow 10 none ∈ wsL_law := uc21 _ (List.mem_of_getElem? (i := 1) rfl)
theorem wd_21_2 : Cond.fieldLink RX4 24 "WellTalk$Path" "place" "I" ∈ wsL_law := uc21 _ (List.mem_of_getElem? (i := 2) rfl)
theorem wd_21_3 : Cond.fieldLink RX4 28 "WellTalk$Path" "comes" "I" ∈ wsL_law := uc21 _ (List.mem_of_getElem? (i := 3) rfl)
theorem wd_21_4 : Cond.fieldLink RX4 31 "WellTalk$Path" "from" "I" ∈ wsL_law := uc21 _ (List.mem_of_getElem? (i := 4) rfl)
theorem wd_21_5 : Cond.fieldLink RX4 39 "WellTalk$Path" "rest" "I" ∈ wsL_law := uc21 _ (List.mem_of_getElem? (i := 5) rfl)
theorem wd_21_6 : Cond.fieldLink RX4 42 "WellTalk$Path" "heardAt" "I" ∈ wsL_law := uc21 _ (List.mem_of_getElem? (i := 6) rfl)
theorem wd_21_7 : Cond.fieldLink RX4 63 "WellTalk$Path" "due" "I" ∈ wsL_law := uc21 _ (List.mem_of_getElem? (i := 7) rfl)
theorem wd_21_8 : Cond.methodLink RX4 53 yX4_begin ∈ wsL_law := uc21 _ (List.mem_of_getElem? (i := 8) rfl)
theorem wd_21_9 : Cond.instanceMethod yX4_begin ∈ wsL_law := uc21 _ (List.mem_of_getElem? (i := 9) rfl)
theorem wd_21_10 : Cond.selects RX4 yX4_begin yX4_begin ∈ wsL_law := uc21 _ (List.mem_of_getElem? (i := 10) rfl)
theorem wd_21_11 : Cond.code yX4_begin cX4_begin 4 none ∈ wsL_law := uc21 _ (List.mem_of_getElem? (i := 11) rfl)
theorem wd_21_12 : Cond.methodLink RX4 57 yX8_stay ∈ wsL_law := uc21 _ (List.mem_of_getElem? (i := 12) rfl)
theorem wd_21_13 : Cond.instanceMethod yX8_stay ∈ wsL_law := uc21 _ (List.mem_of_getElem? (i := 13) rfl)
theorem wd_21_14 : Cond.selects RX8 yX8_stay yX8_stay ∈ wsL_law := uc21 _ (List.mem_of_getElem? (i := 14) rfl)
theorem wd_21_15 : Cond.code yX8_stay cX8_stay 2 (some .int) ∈ wsL_law := uc21 _ (List.mem_of_getElem? (i := 15) rfl)
theorem wd_21_16 : Cond.methodLink RX4 66 yX4_next ∈ wsL_law := uc21 _ (List.mem_of_getElem? (i := 16) rfl)
theorem wd_21_17 : Cond.instanceMethod yX4_next ∈ wsL_law := uc21 _ (List.mem_of_getElem? (i := 17) rfl)
theorem wd_21_18 : Cond.selects RX4 yX4_next yX4_next ∈ wsL_law := uc21 _ (List.mem_of_getElem? (i := 18) rfl)
theorem wd_21_19 : Cond.code yX4_next cX4_next 8 (some .int) ∈ wsL_law := uc21 _ (List.mem_of_getElem? (i := 19) rfl)
theorem wd_21_20 : Cond.methodLink RX4 73 yX4_come ∈ wsL_law := uc21 _ (List.mem_of_getElem? (i := 20) rfl)
theorem wd_21_21 : Cond.instanceMethod yX4_come ∈ wsL_law := uc21 _ (List.mem_of_getElem? (i := 21) rfl)
theorem wd_21_22 : Cond.selects RX4 yX4_come yX4_come ∈ wsL_law := uc21 _ (List.mem_of_getElem? (i := 22) rfl)
theorem wd_21_23 : Cond.code yX4_come cX4_come 4 none ∈ wsL_law := uc21 _ (List.mem_of_getElem? (i := 23) rfl)
theorem wd_22_0 : Cond.methodLink RL 56 yX10_at ∈ wsL_law := uc22 _ (List.mem_of_getElem? (i := 0) rfl)
theorem wd_22_1 : Cond.instanceMethod yX10_at ∈ wsL_law := uc22 _ (List.mem_of_getElem? (i := 1) rfl)
theorem wd_22_2 : Cond.selects RX10 yX10_at yX10_at ∈ wsL_law := uc22 _ (List.mem_of_getElem? (i := 2) rfl)
theorem wd_22_3 : Cond.code yX10_at cX10_at 4 (some .int) ∈ wsL_law := uc22 _ (List.mem_of_getElem? (i := 3) rfl)
theorem wd_22_4 : Cond.constantLong RX10 239 (4) ∈ wsL_law := uc22 _ (List.mem_of_getElem? (i := 4) rfl)
theorem wd_22_5 : Cond.methodLink RX10 236 yX10_find ∈ wsL_law := uc22 _ (List.mem_of_getElem? (i := 5) rfl)
theorem wd_22_6 : Cond.instanceMethod yX10_find ∈ wsL_law := uc22 _ (List.mem_of_getElem? (i := 6) rfl)
theorem wd_22_7 : Cond.selects RX10 yX10_find yX10_find ∈ wsL_law := uc22 _ (List.mem_of_getElem? (i := 7) rfl)
theorem wd_22_8 : Cond.code yX10_find cX10_find 1 none ∈ wsL_law := uc22 _ (List.mem_of_getElem? (i := 8) rfl)
theorem wd_22_9 : Cond.methodLink RX10 233 yX10_lives ∈ wsL_law := uc22 _ (List.mem_of_getElem? (i := 9) rfl)
theorem wd_22_10 : Cond.instanceMethod yX10_lives ∈ wsL_law := uc22 _ (List.mem_of_getElem? (i := 10) rfl)
theorem wd_22_11 : Cond.selects RX10 yX10_lives yX10_lives ∈ wsL_law := uc22 _ (List.mem_of_getElem? (i := 11) rfl)
theorem wd_22_12 : Cond.code yX10_lives cX10_lives 2 none ∈ wsL_law := uc22 _ (List.mem_of_getElem? (i := 12) rfl)
theorem wd_22_13 : Cond.methodLink RX10 230 yX10_livesOne ∈ wsL_law := uc22 _ (List.mem_of_getElem? (i := 13) rfl)
theorem wd_22_14 : Cond.instanceMethod yX10_livesOne ∈ wsL_law := uc22 _ (List.mem_of_getElem? (i := 14) rfl)
theorem wd_22_15 : Cond.selects RX10 yX10_livesOne yX10_livesOne ∈ wsL_law := uc22 _ (List.mem_of_getElem? (i := 15) rfl)
theorem wd_22_16 : Cond.code yX10_livesOne cX10_livesOne 3 none ∈ wsL_law := uc22 _ (List.mem_of_getElem? (i := 16) rfl)
theorem wd_22_17 : Cond.methodLink RX10 227 yX10_passes ∈ wsL_law := uc22 _ (List.mem_of_getElem? (i := 17) rfl)
theorem wd_22_18 : Cond.instanceMethod yX10_passes ∈ wsL_law := uc22 _ (List.mem_of_getElem? (i := 18) rfl)
theorem wd_22_19 : Cond.selects RX10 yX10_passes yX10_passes ∈ wsL_law := uc22 _ (List.mem_of_getElem? (i := 19) rfl)
theorem wd_22_20 : Cond.code yX10_passes cX10_passes 4 (some .boolean) ∈ wsL_law := uc22 _ (List.mem_of_getElem? (i := 20) rfl)
theorem wd_22_21 : Cond.methodLink RX10 208 yX10_isCovered ∈ wsL_law := uc22 _ (List.mem_of_getElem? (i := 21) rfl)
theorem wd_22_22 : Cond.instanceMethod yX10_isCovered ∈ wsL_law := uc22 _ (List.mem_of_getElem? (i := 22) rfl)
theorem wd_22_23 : Cond.selects RX10 yX10_isCovered yX10_isCovered ∈ wsL_law := uc22 _ (List.mem_of_getElem? (i := 23) rfl)
theorem wd_23_0 : Cond.code yX10_isCovered cX10_isCovered 5 (some .boolean) ∈ wsL_law := uc23 _ (List.mem_of_getElem? (i := 0) rfl)
theorem wd_23_1 : Cond.fieldLink RX10 187 "WellTalkModel" "not" "I" ∈ wsL_law := uc23 _ (List.mem_of_getElem? (i := 1) rfl)
theorem wd_23_2 : Cond.methodLink RX10 190 yX10_isIn ∈ wsL_law := uc23 _ (List.mem_of_getElem? (i := 2) rfl)
theorem wd_23_3 : Cond.static yX10_isIn ∈ wsL_law := uc23 _ (List.mem_of_getElem? (i := 3) rfl)
theorem wd_23_4 : Cond.code yX10_isIn cX10_isIn 2 (some .boolean) ∈ wsL_law := uc23 _ (List.mem_of_getElem? (i := 4) rfl)
theorem wd_23_5 : Cond.methodLink RX10 197 yX10_loses ∈ wsL_law := uc23 _ (List.mem_of_getElem? (i := 5) rfl)
theorem wd_23_6 : Cond.instanceMethod yX10_loses ∈ wsL_law := uc23 _ (List.mem_of_getElem? (i := 6) rfl)
theorem wd_23_7 : Cond.selects RX10 yX10_loses yX10_loses ∈ wsL_law := uc23 _ (List.mem_of_getElem? (i := 7) rfl)
theorem wd_23_8 : Cond.code yX10_loses cX10_loses 2 none ∈ wsL_law := uc23 _ (List.mem_of_getElem? (i := 8) rfl)
theorem wd_23_9 : Cond.methodLink RX10 215 yX10_lastWell ∈ wsL_law := uc23 _ (List.mem_of_getElem? (i := 9) rfl)
theorem wd_23_10 : Cond.instanceMethod yX10_lastWell ∈ wsL_law := uc23 _ (List.mem_of_getElem? (i := 10) rfl)
theorem wd_23_11 : Cond.selects RX10 yX10_lastWell yX10_lastWell ∈ wsL_law := uc23 _ (List.mem_of_getElem? (i := 11) rfl)
theorem wd_23_12 : Cond.code yX10_lastWell cX10_lastWell 3 (some .int) ∈ wsL_law := uc23 _ (List.mem_of_getElem? (i := 12) rfl)
theorem wd_23_13 : Cond.methodLink RX10 218 yX10_isDrought ∈ wsL_law := uc23 _ (List.mem_of_getElem? (i := 13) rfl)
theorem wd_23_14 : Cond.instanceMethod yX10_isDrought ∈ wsL_law := uc23 _ (List.mem_of_getElem? (i := 14) rfl)
theorem wd_23_15 : Cond.selects RX10 yX10_isDrought yX10_isDrought ∈ wsL_law := uc23 _ (List.mem_of_getElem? (i := 15) rfl)
theorem wd_23_16 : Cond.code yX10_isDrought cX10_isDrought 4 (some .boolean) ∈ wsL_law := uc23 _ (List.mem_of_getElem? (i := 16) rfl)
theorem wd_23_17 : Cond.methodLink RX10 221 yX10_driesUp ∈ wsL_law := uc23 _ (List.mem_of_getElem? (i := 17) rfl)
theorem wd_23_18 : Cond.instanceMethod yX10_driesUp ∈ wsL_law := uc23 _ (List.mem_of_getElem? (i := 18) rfl)
theorem wd_23_19 : Cond.selects RX10 yX10_driesUp yX10_driesUp ∈ wsL_law := uc23 _ (List.mem_of_getElem? (i := 19) rfl)
theorem wd_23_20 : Cond.code yX10_driesUp cX10_driesUp 4 (some .boolean) ∈ wsL_law := uc23 _ (List.mem_of_getElem? (i := 20) rfl)
theorem wd_23_21 : Cond.methodLink RX10 211 yX10_comes ∈ wsL_law := uc23 _ (List.mem_of_getElem? (i := 21) rfl)
theorem wd_23_22 : Cond.instanceMethod yX10_comes ∈ wsL_law := uc23 _ (List.mem_of_getElem? (i := 22) rfl)
theorem wd_23_23 : Cond.selects RX10 yX10_comes yX10_comes ∈ wsL_law := uc23 _ (List.mem_of_getElem? (i := 23) rfl)
theorem wd_24_0 : Cond.code yX10_comes cX10_comes 4 (some .boolean) ∈ wsL_law := uc24 _ (List.mem_of_getElem? (i := 0) rfl)
theorem wd_24_1 : Cond.methodLink RX10 224 yX10_goes ∈ wsL_law := uc24 _ (List.mem_of_getElem? (i := 1) rfl)
theorem wd_24_2 : Cond.instanceMethod yX10_goes ∈ wsL_law := uc24 _ (List.mem_of_getElem? (i := 2) rfl)
theorem wd_24_3 : Cond.selects RX10 yX10_goes yX10_goes ∈ wsL_law := uc24 _ (List.mem_of_getElem? (i := 3) rfl)
theorem wd_24_4 : Cond.code yX10_goes cX10_goes 5 (some .boolean) ∈ wsL_law := uc24 _ (List.mem_of_getElem? (i := 4) rfl)
theorem wd_24_5 : Cond.methodLink RX10 201 yX10_isCoin ∈ wsL_law := uc24 _ (List.mem_of_getElem? (i := 5) rfl)
theorem wd_24_6 : Cond.instanceMethod yX10_isCoin ∈ wsL_law := uc24 _ (List.mem_of_getElem? (i := 6) rfl)
theorem wd_24_7 : Cond.selects RX10 yX10_isCoin yX10_isCoin ∈ wsL_law := uc24 _ (List.mem_of_getElem? (i := 7) rfl)
theorem wd_24_8 : Cond.code yX10_isCoin cX10_isCoin 5 (some .boolean) ∈ wsL_law := uc24 _ (List.mem_of_getElem? (i := 8) rfl)
theorem wd_24_9 : Cond.fieldLink RX10 194 "WellTalkModel" "oddWell" "I" ∈ wsL_law := uc24 _ (List.mem_of_getElem? (i := 9) rfl)
theorem wd_24_10 : Cond.methodLink RX10 204 yX10_next ∈ wsL_law := uc24 _ (List.mem_of_getElem? (i := 10) rfl)
theorem wd_24_11 : Cond.instanceMethod yX10_next ∈ wsL_law := uc24 _ (List.mem_of_getElem? (i := 11) rfl)
theorem wd_24_12 : Cond.selects RX10 yX10_next yX10_next ∈ wsL_law := uc24 _ (List.mem_of_getElem? (i := 12) rfl)
theorem wd_24_13 : Cond.code yX10_next cX10_next 3 (some .int) ∈ wsL_law := uc24 _ (List.mem_of_getElem? (i := 13) rfl)
theorem wd_24_14 : Cond.methodLink RX10 241 yX10_atOf ∈ wsL_law := uc24 _ (List.mem_of_getElem? (i := 14) rfl)
theorem wd_24_15 : Cond.instanceMethod yX10_atOf ∈ wsL_law := uc24 _ (List.mem_of_getElem? (i := 15) rfl)
theorem wd_24_16 : Cond.selects RX10 yX10_atOf yX10_atOf ∈ wsL_law := uc24 _ (List.mem_of_getElem? (i := 16) rfl)
theorem wd_24_17 : Cond.code yX10_atOf cX10_atOf 6 (some .int) ∈ wsL_law := uc24 _ (List.mem_of_getElem? (i := 17) rfl)
theorem wd_24_18 : Cond.methodLink RL 57 yX9_hears ∈ wsL_law := uc24 _ (List.mem_of_getElem? (i := 18) rfl)
theorem wd_24_19 : Cond.instanceMethod yX9_hears ∈ wsL_law := uc24 _ (List.mem_of_getElem? (i := 19) rfl)
theorem wd_24_20 : Cond.selects RX9 yX9_hears yX9_hears ∈ wsL_law := uc24 _ (List.mem_of_getElem? (i := 20) rfl)
theorem wd_24_21 : Cond.code yX9_hears cX9_hears 4 (some .int) ∈ wsL_law := uc24 _ (List.mem_of_getElem? (i := 21) rfl)
theorem wd_24_22 : Cond.methodLink RX9 186 yX4_isHeardAt ∈ wsL_law := uc24 _ (List.mem_of_getElem? (i := 22) rfl)
theorem wd_24_23 : Cond.instanceMethod yX4_isHeardAt ∈ wsL_law := uc24 _ (List.mem_of_getElem? (i := 23) rfl)
theorem wd_25_0 : Cond.selects RX4 yX4_isHeardAt yX4_isHeardAt ∈ wsL_law := uc25 _ (List.mem_of_getElem? (i := 0) rfl)
theorem wd_25_1 : Cond.code yX4_isHeardAt cX4_isHeardAt 2 (some .boolean) ∈ wsL_law := uc25 _ (List.mem_of_getElem? (i := 1) rfl)
theorem wd_25_2 : Cond.methodLink RL 60 yX10_hears ∈ wsL_law := uc25 _ (List.mem_of_getElem? (i := 2) rfl)
theorem wd_25_3 : Cond.instanceMethod yX10_hears ∈ wsL_law := uc25 _ (List.mem_of_getElem? (i := 3) rfl)
theorem wd_25_4 : Cond.selects RX10 yX10_hears yX10_hears ∈ wsL_law := uc25 _ (List.mem_of_getElem? (i := 4) rfl)
theorem wd_25_5 : Cond.code yX10_hears cX10_hears 2 (some .int) ∈ wsL_law := uc25 _ (List.mem_of_getElem? (i := 5) rfl)
theorem wd_25_6 : Cond.methodLink RX10 247 yX10_hearsOf ∈ wsL_law := uc25 _ (List.mem_of_getElem? (i := 6) rfl)
theorem wd_25_7 : Cond.instanceMethod yX10_hearsOf ∈ wsL_law := uc25 _ (List.mem_of_getElem? (i := 7) rfl)
theorem wd_25_8 : Cond.selects RX10 yX10_hearsOf yX10_hearsOf ∈ wsL_law := uc25 _ (List.mem_of_getElem? (i := 8) rfl)
theorem wd_25_9 : Cond.code yX10_hearsOf cX10_hearsOf 4 (some .int) ∈ wsL_law := uc25 _ (List.mem_of_getElem? (i := 9) rfl)
theorem wd_25_10 : Cond.methodLink RX10 244 yX10_heardAt ∈ wsL_law := uc25 _ (List.mem_of_getElem? (i := 10) rfl)
theorem wd_25_11 : Cond.instanceMethod yX10_heardAt ∈ wsL_law := uc25 _ (List.mem_of_getElem? (i := 11) rfl)
theorem wd_25_12 : Cond.selects RX10 yX10_heardAt yX10_heardAt ∈ wsL_law := uc25 _ (List.mem_of_getElem? (i := 12) rfl)
theorem wd_25_13 : Cond.code yX10_heardAt cX10_heardAt 5 (some .int) ∈ wsL_law := uc25 _ (List.mem_of_getElem? (i := 13) rfl)
theorem wd_25_14 : Cond.methodLink RL 61 yX9_soon ∈ wsL_law := uc25 _ (List.mem_of_getElem? (i := 14) rfl)
theorem wd_25_15 : Cond.instanceMethod yX9_soon ∈ wsL_law := uc25 _ (List.mem_of_getElem? (i := 15) rfl)
theorem wd_25_16 : Cond.selects RX9 yX9_soon yX9_soon ∈ wsL_law := uc25 _ (List.mem_of_getElem? (i := 16) rfl)
theorem wd_25_17 : Cond.code yX9_soon cX9_soon 5 (some .int) ∈ wsL_law := uc25 _ (List.mem_of_getElem? (i := 17) rfl)
theorem wd_25_18 : Cond.methodLink RX9 189 yX4_firstHeard ∈ wsL_law := uc25 _ (List.mem_of_getElem? (i := 18) rfl)
theorem wd_25_19 : Cond.instanceMethod yX4_firstHeard ∈ wsL_law := uc25 _ (List.mem_of_getElem? (i := 19) rfl)
theorem wd_25_20 : Cond.selects RX4 yX4_firstHeard yX4_firstHeard ∈ wsL_law := uc25 _ (List.mem_of_getElem? (i := 20) rfl)
theorem wd_25_21 : Cond.code yX4_firstHeard cX4_firstHeard 3 (some .int) ∈ wsL_law := uc25 _ (List.mem_of_getElem? (i := 21) rfl)
theorem wd_25_22 : Cond.methodLink RL 64 yX10_soon ∈ wsL_law := uc25 _ (List.mem_of_getElem? (i := 22) rfl)
theorem wd_25_23 : Cond.instanceMethod yX10_soon ∈ wsL_law := uc25 _ (List.mem_of_getElem? (i := 23) rfl)
theorem wd_26_0 : Cond.selects RX10 yX10_soon yX10_soon ∈ wsL_law := uc26 _ (List.mem_of_getElem? (i := 0) rfl)
theorem wd_26_1 : Cond.code yX10_soon cX10_soon 2 (some .int) ∈ wsL_law := uc26 _ (List.mem_of_getElem? (i := 1) rfl)
theorem wd_26_2 : Cond.methodLink RX10 250 yX10_soonOf ∈ wsL_law := uc26 _ (List.mem_of_getElem? (i := 2) rfl)
theorem wd_26_3 : Cond.instanceMethod yX10_soonOf ∈ wsL_law := uc26 _ (List.mem_of_getElem? (i := 3) rfl)
theorem wd_26_4 : Cond.selects RX10 yX10_soonOf yX10_soonOf ∈ wsL_law := uc26 _ (List.mem_of_getElem? (i := 4) rfl)
theorem wd_26_5 : Cond.code yX10_soonOf cX10_soonOf 5 (some .int) ∈ wsL_law := uc26 _ (List.mem_of_getElem? (i := 5) rfl)
theorem wd_26_6 : Cond.methodLink RL 65 yX9_gone ∈ wsL_law := uc26 _ (List.mem_of_getElem? (i := 6) rfl)
theorem wd_26_7 : Cond.instanceMethod yX9_gone ∈ wsL_law := uc26 _ (List.mem_of_getElem? (i := 7) rfl)
theorem wd_26_8 : Cond.selects RX9 yX9_gone yX9_gone ∈ wsL_law := uc26 _ (List.mem_of_getElem? (i := 8) rfl)
theorem wd_26_9 : Cond.code yX9_gone cX9_gone 3 (some .int) ∈ wsL_law := uc26 _ (List.mem_of_getElem? (i := 9) rfl)
theorem wd_26_10 : Cond.methodLink RX9 192 yX4_isGone ∈ wsL_law := uc26 _ (List.mem_of_getElem? (i := 10) rfl)
theorem wd_26_11 : Cond.instanceMethod yX4_isGone ∈ wsL_law := uc26 _ (List.mem_of_getElem? (i := 11) rfl)
theorem wd_26_12 : Cond.selects RX4 yX4_isGone yX4_isGone ∈ wsL_law := uc26 _ (List.mem_of_getElem? (i := 12) rfl)
theorem wd_26_13 : Cond.code yX4_isGone cX4_isGone 1 (some .boolean) ∈ wsL_law := uc26 _ (List.mem_of_getElem? (i := 13) rfl)
theorem wd_26_14 : Cond.methodLink RL 68 yX10_gone ∈ wsL_law := uc26 _ (List.mem_of_getElem? (i := 14) rfl)
theorem wd_26_15 : Cond.instanceMethod yX10_gone ∈ wsL_law := uc26 _ (List.mem_of_getElem? (i := 15) rfl)
theorem wd_26_16 : Cond.selects RX10 yX10_gone yX10_gone ∈ wsL_law := uc26 _ (List.mem_of_getElem? (i := 16) rfl)
theorem wd_26_17 : Cond.code yX10_gone cX10_gone 1 (some .int) ∈ wsL_law := uc26 _ (List.mem_of_getElem? (i := 17) rfl)
theorem wd_26_18 : Cond.methodLink RX10 253 yX10_goneNow ∈ wsL_law := uc26 _ (List.mem_of_getElem? (i := 18) rfl)
theorem wd_26_19 : Cond.instanceMethod yX10_goneNow ∈ wsL_law := uc26 _ (List.mem_of_getElem? (i := 19) rfl)
theorem wd_26_20 : Cond.selects RX10 yX10_goneNow yX10_goneNow ∈ wsL_law := uc26 _ (List.mem_of_getElem? (i := 20) rfl)
theorem wd_26_21 : Cond.code yX10_goneNow cX10_goneNow 3 (some .int) ∈ wsL_law := uc26 _ (List.mem_of_getElem? (i := 21) rfl)
theorem wd_26_22 : Cond.methodLink RL 69 yX9_babel ∈ wsL_law := uc26 _ (List.mem_of_getElem? (i := 22) rfl)
theorem wd_26_23 : Cond.instanceMethod yX9_babel ∈ wsL_law := uc26 _ (List.mem_of_getElem? (i := 23) rfl)
theorem wd_27_0 : Cond.selects RX9 yX9_babel yX9_babel ∈ wsL_law := uc27 _ (List.mem_of_getElem? (i := 0) rfl)
theorem wd_27_1 : Cond.code yX9_babel cX9_babel 4 (some .int) ∈ wsL_law := uc27 _ (List.mem_of_getElem? (i := 1) rfl)
theorem wd_27_2 : Cond.methodLink RX9 195 yX9_leastWellOfTwo ∈ wsL_law := uc27 _ (List.mem_of_getElem? (i := 2) rfl)
theorem wd_27_3 : Cond.instanceMethod yX9_leastWellOfTwo ∈ wsL_law := uc27 _ (List.mem_of_getElem? (i := 3) rfl)
theorem wd_27_4 : Cond.selects RX9 yX9_leastWellOfTwo yX9_leastWellOfTwo ∈ wsL_law := uc27 _ (List.mem_of_getElem? (i := 4) rfl)
theorem wd_27_5 : Cond.code yX9_leastWellOfTwo cX9_leastWellOfTwo 6 (some .int) ∈ wsL_law := uc27 _ (List.mem_of_getElem? (i := 5) rfl)
theorem wd_27_6 : Cond.methodLink RL 72 yX10_babel ∈ wsL_law := uc27 _ (List.mem_of_getElem? (i := 6) rfl)
theorem wd_27_7 : Cond.instanceMethod yX10_babel ∈ wsL_law := uc27 _ (List.mem_of_getElem? (i := 7) rfl)
theorem wd_27_8 : Cond.selects RX10 yX10_babel yX10_babel ∈ wsL_law := uc27 _ (List.mem_of_getElem? (i := 8) rfl)
theorem wd_27_9 : Cond.code yX10_babel cX10_babel 2 (some .int) ∈ wsL_law := uc27 _ (List.mem_of_getElem? (i := 9) rfl)
theorem wd_27_10 : Cond.methodLink RX10 256 yX10_babelBy ∈ wsL_law := uc27 _ (List.mem_of_getElem? (i := 10) rfl)
theorem wd_27_11 : Cond.instanceMethod yX10_babelBy ∈ wsL_law := uc27 _ (List.mem_of_getElem? (i := 11) rfl)
theorem wd_27_12 : Cond.selects RX10 yX10_babelBy yX10_babelBy ∈ wsL_law := uc27 _ (List.mem_of_getElem? (i := 12) rfl)
theorem wd_27_13 : Cond.code yX10_babelBy cX10_babelBy 6 (some .int) ∈ wsL_law := uc27 _ (List.mem_of_getElem? (i := 13) rfl)
theorem wd_27_14 : Cond.methodLink RL 73 yX9_tell ∈ wsL_law := uc27 _ (List.mem_of_getElem? (i := 14) rfl)
theorem wd_27_15 : Cond.instanceMethod yX9_tell ∈ wsL_law := uc27 _ (List.mem_of_getElem? (i := 15) rfl)
theorem wd_27_16 : Cond.selects RX9 yX9_tell yX9_tell ∈ wsL_law := uc27 _ (List.mem_of_getElem? (i := 16) rfl)
theorem wd_27_17 : Cond.code yX9_tell cX9_tell 8 (some .int) ∈ wsL_law := uc27 _ (List.mem_of_getElem? (i := 17) rfl)
theorem wd_27_18 : Cond.methodLink RL 76 yX10_tell ∈ wsL_law := uc27 _ (List.mem_of_getElem? (i := 18) rfl)
theorem wd_27_19 : Cond.instanceMethod yX10_tell ∈ wsL_law := uc27 _ (List.mem_of_getElem? (i := 19) rfl)
theorem wd_27_20 : Cond.selects RX10 yX10_tell yX10_tell ∈ wsL_law := uc27 _ (List.mem_of_getElem? (i := 20) rfl)
theorem wd_27_21 : Cond.code yX10_tell cX10_tell 4 (some .int) ∈ wsL_law := uc27 _ (List.mem_of_getElem? (i := 21) rfl)
theorem wd_27_22 : Cond.methodLink RX10 259 yX10_tellOf ∈ wsL_law := uc27 _ (List.mem_of_getElem? (i := 22) rfl)
theorem wd_27_23 : Cond.instanceMethod yX10_tellOf ∈ wsL_law := uc27 _ (List.mem_of_getElem? (i := 23) rfl)
theorem wd_28_0 : Cond.selects RX10 yX10_tellOf yX10_tellOf ∈ wsL_law := uc28 _ (List.mem_of_getElem? (i := 0) rfl)
theorem wd_28_1 : Cond.code yX10_tellOf cX10_tellOf 10 (some .int) ∈ wsL_law := uc28 _ (List.mem_of_getElem? (i := 1) rfl)
theorem wd_28_2 : Cond.methodLink RL 77 yX9_toss ∈ wsL_law := uc28 _ (List.mem_of_getElem? (i := 2) rfl)
theorem wd_28_3 : Cond.instanceMethod yX9_toss ∈ wsL_law := uc28 _ (List.mem_of_getElem? (i := 3) rfl)
theorem wd_28_4 : Cond.selects RX9 yX9_toss yX9_toss ∈ wsL_law := uc28 _ (List.mem_of_getElem? (i := 4) rfl)
theorem wd_28_5 : Cond.code yX9_toss cX9_toss 3 (some .int) ∈ wsL_law := uc28 _ (List.mem_of_getElem? (i := 5) rfl)
theorem wd_28_6 : Cond.methodLink RX9 202 yX9_planCoins ∈ wsL_law := uc28 _ (List.mem_of_getElem? (i := 6) rfl)
theorem wd_28_7 : Cond.instanceMethod yX9_planCoins ∈ wsL_law := uc28 _ (List.mem_of_getElem? (i := 7) rfl)
theorem wd_28_8 : Cond.selects RX9 yX9_planCoins yX9_planCoins ∈ wsL_law := uc28 _ (List.mem_of_getElem? (i := 8) rfl)
theorem wd_28_9 : Cond.code yX9_planCoins cX9_planCoins 4 none ∈ wsL_law := uc28 _ (List.mem_of_getElem? (i := 9) rfl)
theorem wd_28_10 : Cond.methodLink RX9 383 yX0_clear ∈ wsL_law := uc28 _ (List.mem_of_getElem? (i := 10) rfl)
theorem wd_28_11 : Cond.instanceMethod yX0_clear ∈ wsL_law := uc28 _ (List.mem_of_getElem? (i := 11) rfl)
theorem wd_28_12 : Cond.selects RX0 yX0_clear yX0_clear ∈ wsL_law := uc28 _ (List.mem_of_getElem? (i := 12) rfl)
theorem wd_28_13 : Cond.code yX0_clear cX0_clear 1 none ∈ wsL_law := uc28 _ (List.mem_of_getElem? (i := 13) rfl)
theorem wd_28_14 : Cond.methodLink RX9 386 yX9_countHeard ∈ wsL_law := uc28 _ (List.mem_of_getElem? (i := 14) rfl)
theorem wd_28_15 : Cond.instanceMethod yX9_countHeard ∈ wsL_law := uc28 _ (List.mem_of_getElem? (i := 15) rfl)
theorem wd_28_16 : Cond.selects RX9 yX9_countHeard yX9_countHeard ∈ wsL_law := uc28 _ (List.mem_of_getElem? (i := 16) rfl)
theorem wd_28_17 : Cond.code yX9_countHeard cX9_countHeard 7 none ∈ wsL_law := uc28 _ (List.mem_of_getElem? (i := 17) rfl)
theorem wd_28_18 : Cond.methodLink RX9 393 yJ7_fill_53178 ∈ wsL_law := uc28 _ (List.mem_of_getElem? (i := 18) rfl)
theorem wd_28_19 : Cond.static yJ7_fill_53178 ∈ wsL_law := uc28 _ (List.mem_of_getElem? (i := 19) rfl)
theorem wd_28_20 : Cond.initialized RJ7 ∈ wsL_law := uc28 _ (List.mem_of_getElem? (i := 20) rfl)
theorem wd_28_21 : Cond.code yJ7_fill_53178 cJ7_fill_53178 4 none ∈ wsL_law := uc28 _ (List.mem_of_getElem? (i := 21) rfl)
theorem wd_28_22 : Cond.methodLink RX9 389 yX0_offer ∈ wsL_law := uc28 _ (List.mem_of_getElem? (i := 22) rfl)
theorem wd_28_23 : Cond.instanceMethod yX0_offer ∈ wsL_law := uc28 _ (List.mem_of_getElem? (i := 23) rfl)
theorem wd_29_0 : Cond.selects RX0 yX0_offer yX0_offer ∈ wsL_law := uc29 _ (List.mem_of_getElem? (i := 0) rfl)
theorem wd_29_1 : Cond.code yX0_offer cX0_offer 4 none ∈ wsL_law := uc29 _ (List.mem_of_getElem? (i := 1) rfl)
theorem wd_29_2 : Cond.methodLink RL 80 yX10_toss ∈ wsL_law := uc29 _ (List.mem_of_getElem? (i := 2) rfl)
theorem wd_29_3 : Cond.instanceMethod yX10_toss ∈ wsL_law := uc29 _ (List.mem_of_getElem? (i := 3) rfl)
theorem wd_29_4 : Cond.selects RX10 yX10_toss yX10_toss ∈ wsL_law := uc29 _ (List.mem_of_getElem? (i := 4) rfl)
theorem wd_29_5 : Cond.code yX10_toss cX10_toss 3 (some .int) ∈ wsL_law := uc29 _ (List.mem_of_getElem? (i := 5) rfl)
theorem wd_29_6 : Cond.methodLink RX10 268 yX10_tossOf ∈ wsL_law := uc29 _ (List.mem_of_getElem? (i := 6) rfl)
theorem wd_29_7 : Cond.instanceMethod yX10_tossOf ∈ wsL_law := uc29 _ (List.mem_of_getElem? (i := 7) rfl)
theorem wd_29_8 : Cond.selects RX10 yX10_tossOf yX10_tossOf ∈ wsL_law := uc29 _ (List.mem_of_getElem? (i := 8) rfl)
theorem wd_29_9 : Cond.code yX10_tossOf cX10_tossOf 7 (some .int) ∈ wsL_law := uc29 _ (List.mem_of_getElem? (i := 9) rfl)
theorem wd_29_10 : Cond.methodLink RX10 262 yX10_ones ∈ wsL_law := uc29 _ (List.mem_of_getElem? (i := 10) rfl)
theorem wd_29_11 : Cond.static yX10_ones ∈ wsL_law := uc29 _ (List.mem_of_getElem? (i := 11) rfl)
theorem wd_29_12 : Cond.code yX10_ones cX10_ones 3 (some .int) ∈ wsL_law := uc29 _ (List.mem_of_getElem? (i := 12) rfl)
theorem wd_29_13 : Cond.methodLink RX10 265 yX10_greater ∈ wsL_law := uc29 _ (List.mem_of_getElem? (i := 13) rfl)
theorem wd_29_14 : Cond.static yX10_greater ∈ wsL_law := uc29 _ (List.mem_of_getElem? (i := 14) rfl)
theorem wd_29_15 : Cond.code yX10_greater cX10_greater 2 (some .int) ∈ wsL_law := uc29 _ (List.mem_of_getElem? (i := 15) rfl)
theorem wd_29_16 : Cond.methodLink RL 81 yX9_open ∈ wsL_law := uc29 _ (List.mem_of_getElem? (i := 16) rfl)
theorem wd_29_17 : Cond.instanceMethod yX9_open ∈ wsL_law := uc29 _ (List.mem_of_getElem? (i := 17) rfl)
theorem wd_29_18 : Cond.selects RX9 yX9_open yX9_open ∈ wsL_law := uc29 _ (List.mem_of_getElem? (i := 18) rfl)
theorem wd_29_19 : Cond.code yX9_open cX9_open 4 (some .int) ∈ wsL_law := uc29 _ (List.mem_of_getElem? (i := 19) rfl)
theorem wd_29_20 : Cond.methodLink RX9 212 yX9_allHeardWithout ∈ wsL_law := uc29 _ (List.mem_of_getElem? (i := 20) rfl)
theorem wd_29_21 : Cond.instanceMethod yX9_allHeardWithout ∈ wsL_law := uc29 _ (List.mem_of_getElem? (i := 21) rfl)
theorem wd_29_22 : Cond.selects RX9 yX9_allHeardWithout yX9_allHeardWithout ∈ wsL_law := uc29 _ (List.mem_of_getElem? (i := 22) rfl)
theorem wd_29_23 : Cond.code yX9_allHeardWithout cX9_allHeardWithout 4 (some .boolean) ∈ wsL_law := uc29 _ (List.mem_of_getElem? (i := 23) rfl)
theorem wd_30_0 : Cond.methodLink RX9 215 yX9_oneLidToOpen ∈ wsL_law := uc30 _ (List.mem_of_getElem? (i := 0) rfl)
theorem wd_30_1 : Cond.instanceMethod yX9_oneLidToOpen ∈ wsL_law := uc30 _ (List.mem_of_getElem? (i := 1) rfl)
theorem wd_30_2 : Cond.selects RX9 yX9_oneLidToOpen yX9_oneLidToOpen ∈ wsL_law := uc30 _ (List.mem_of_getElem? (i := 2) rfl)
theorem wd_30_3 : Cond.code yX9_oneLidToOpen cX9_oneLidToOpen 3 (some .int) ∈ wsL_law := uc30 _ (List.mem_of_getElem? (i := 3) rfl)
theorem wd_30_4 : Cond.methodLink RX9 218 yX9_twoLidsToOpen ∈ wsL_law := uc30 _ (List.mem_of_getElem? (i := 4) rfl)
theorem wd_30_5 : Cond.instanceMethod yX9_twoLidsToOpen ∈ wsL_law := uc30 _ (List.mem_of_getElem? (i := 5) rfl)
theorem wd_30_6 : Cond.selects RX9 yX9_twoLidsToOpen yX9_twoLidsToOpen ∈ wsL_law := uc30 _ (List.mem_of_getElem? (i := 6) rfl)
theorem wd_30_7 : Cond.code yX9_twoLidsToOpen cX9_twoLidsToOpen 6 (some .int) ∈ wsL_law := uc30 _ (List.mem_of_getElem? (i := 7) rfl)
theorem wd_30_8 : Cond.methodLink RL 84 yX10_open ∈ wsL_law := uc30 _ (List.mem_of_getElem? (i := 8) rfl)
theorem wd_30_9 : Cond.instanceMethod yX10_open ∈ wsL_law := uc30 _ (List.mem_of_getElem? (i := 9) rfl)
theorem wd_30_10 : Cond.selects RX10 yX10_open yX10_open ∈ wsL_law := uc30 _ (List.mem_of_getElem? (i := 10) rfl)
theorem wd_30_11 : Cond.code yX10_open cX10_open 3 (some .int) ∈ wsL_law := uc30 _ (List.mem_of_getElem? (i := 11) rfl)
theorem wd_30_12 : Cond.constantLong RX10 277 (-1) ∈ wsL_law := uc30 _ (List.mem_of_getElem? (i := 12) rfl)
theorem wd_30_13 : Cond.methodLink RX10 279 yX10_openOf ∈ wsL_law := uc30 _ (List.mem_of_getElem? (i := 13) rfl)
theorem wd_30_14 : Cond.instanceMethod yX10_openOf ∈ wsL_law := uc30 _ (List.mem_of_getElem? (i := 14) rfl)
theorem wd_30_15 : Cond.selects RX10 yX10_openOf yX10_openOf ∈ wsL_law := uc30 _ (List.mem_of_getElem? (i := 15) rfl)
theorem wd_30_16 : Cond.code yX10_openOf cX10_openOf 5 (some .int) ∈ wsL_law := uc30 _ (List.mem_of_getElem? (i := 16) rfl)
theorem wd_30_17 : Cond.methodLink RX10 271 yX10_isOpen ∈ wsL_law := uc30 _ (List.mem_of_getElem? (i := 17) rfl)
theorem wd_30_18 : Cond.instanceMethod yX10_isOpen ∈ wsL_law := uc30 _ (List.mem_of_getElem? (i := 18) rfl)
theorem wd_30_19 : Cond.selects RX10 yX10_isOpen yX10_isOpen ∈ wsL_law := uc30 _ (List.mem_of_getElem? (i := 19) rfl)
theorem wd_30_20 : Cond.code yX10_isOpen cX10_isOpen 3 (some .boolean) ∈ wsL_law := uc30 _ (List.mem_of_getElem? (i := 20) rfl)
theorem wd_30_21 : Cond.methodLink RX10 274 yX10_isLid ∈ wsL_law := uc30 _ (List.mem_of_getElem? (i := 21) rfl)
theorem wd_30_22 : Cond.instanceMethod yX10_isLid ∈ wsL_law := uc30 _ (List.mem_of_getElem? (i := 22) rfl)
theorem wd_30_23 : Cond.selects RX10 yX10_isLid yX10_isLid ∈ wsL_law := uc30 _ (List.mem_of_getElem? (i := 23) rfl)
theorem wd_31_0 : Cond.code yX10_isLid cX10_isLid 2 (some .boolean) ∈ wsL_law := uc31 _ (List.mem_of_getElem? (i := 0) rfl)
theorem wd_31_1 : Cond.methodLink RL 85 yX9_iron ∈ wsL_law := uc31 _ (List.mem_of_getElem? (i := 1) rfl)
theorem wd_31_2 : Cond.instanceMethod yX9_iron ∈ wsL_law := uc31 _ (List.mem_of_getElem? (i := 2) rfl)
theorem wd_31_3 : Cond.selects RX9 yX9_iron yX9_iron ∈ wsL_law := uc31 _ (List.mem_of_getElem? (i := 3) rfl)
theorem wd_31_4 : Cond.code yX9_iron cX9_iron 8 (some .int) ∈ wsL_law := uc31 _ (List.mem_of_getElem? (i := 4) rfl)
theorem wd_31_5 : Cond.methodLink RX9 221 yX9_gone ∈ wsL_law := uc31 _ (List.mem_of_getElem? (i := 5) rfl)
theorem wd_31_6 : Cond.methodLink RX9 225 yJ6_bitCount_0f7a4 ∈ wsL_law := uc31 _ (List.mem_of_getElem? (i := 6) rfl)
theorem wd_31_7 : Cond.static yJ6_bitCount_0f7a4 ∈ wsL_law := uc31 _ (List.mem_of_getElem? (i := 7) rfl)
theorem wd_31_8 : Cond.initialized RJ6 ∈ wsL_law := uc31 _ (List.mem_of_getElem? (i := 8) rfl)
theorem wd_31_9 : Cond.code yJ6_bitCount_0f7a4 cJ6_bitCount_0f7a4 1 (some .int) ∈ wsL_law := uc31 _ (List.mem_of_getElem? (i := 9) rfl)
theorem wd_31_10 : Cond.constant RJ6 265 (1431655765) ∈ wsL_law := uc31 _ (List.mem_of_getElem? (i := 10) rfl)
theorem wd_31_11 : Cond.constant RJ6 266 (858993459) ∈ wsL_law := uc31 _ (List.mem_of_getElem? (i := 11) rfl)
theorem wd_31_12 : Cond.constant RJ6 267 (252645135) ∈ wsL_law := uc31 _ (List.mem_of_getElem? (i := 12) rfl)
theorem wd_31_13 : Cond.methodLink RL 88 yX10_iron ∈ wsL_law := uc31 _ (List.mem_of_getElem? (i := 13) rfl)
theorem wd_31_14 : Cond.instanceMethod yX10_iron ∈ wsL_law := uc31 _ (List.mem_of_getElem? (i := 14) rfl)
theorem wd_31_15 : Cond.selects RX10 yX10_iron yX10_iron ∈ wsL_law := uc31 _ (List.mem_of_getElem? (i := 15) rfl)
theorem wd_31_16 : Cond.code yX10_iron cX10_iron 2 (some .int) ∈ wsL_law := uc31 _ (List.mem_of_getElem? (i := 16) rfl)
theorem wd_31_17 : Cond.methodLink RX10 285 yX10_ironBy ∈ wsL_law := uc31 _ (List.mem_of_getElem? (i := 17) rfl)
theorem wd_31_18 : Cond.instanceMethod yX10_ironBy ∈ wsL_law := uc31 _ (List.mem_of_getElem? (i := 18) rfl)
theorem wd_31_19 : Cond.selects RX10 yX10_ironBy yX10_ironBy ∈ wsL_law := uc31 _ (List.mem_of_getElem? (i := 19) rfl)
theorem wd_31_20 : Cond.code yX10_ironBy cX10_ironBy 7 (some .int) ∈ wsL_law := uc31 _ (List.mem_of_getElem? (i := 20) rfl)
theorem wd_31_21 : Cond.methodLink RX10 282 yX10_lesser ∈ wsL_law := uc31 _ (List.mem_of_getElem? (i := 21) rfl)
theorem wd_31_22 : Cond.static yX10_lesser ∈ wsL_law := uc31 _ (List.mem_of_getElem? (i := 22) rfl)
theorem wd_31_23 : Cond.code yX10_lesser cX10_lesser 2 (some .int) ∈ wsL_law := uc31 _ (List.mem_of_getElem? (i := 23) rfl)
theorem wd_32_0 : Cond.methodLink RL 89 yX9_draw ∈ wsL_law := uc32 _ (List.mem_of_getElem? (i := 0) rfl)
theorem wd_32_1 : Cond.instanceMethod yX9_draw ∈ wsL_law := uc32 _ (List.mem_of_getElem? (i := 1) rfl)
theorem wd_32_2 : Cond.selects RX9 yX9_draw yX9_draw ∈ wsL_law := uc32 _ (List.mem_of_getElem? (i := 2) rfl)
theorem wd_32_3 : Cond.code yX9_draw cX9_draw 4 (some .int) ∈ wsL_law := uc32 _ (List.mem_of_getElem? (i := 3) rfl)
theorem wd_32_4 : Cond.methodLink RX9 230 yX1_add ∈ wsL_law := uc32 _ (List.mem_of_getElem? (i := 4) rfl)
theorem wd_32_5 : Cond.instanceMethod yX1_add ∈ wsL_law := uc32 _ (List.mem_of_getElem? (i := 5) rfl)
theorem wd_32_6 : Cond.selects RX1 yX1_add yX1_add ∈ wsL_law := uc32 _ (List.mem_of_getElem? (i := 6) rfl)
theorem wd_32_7 : Cond.code yX1_add cX1_add 4 (some .boolean) ∈ wsL_law := uc32 _ (List.mem_of_getElem? (i := 7) rfl)
theorem wd_32_8 : Cond.fieldLink RX1 21 "WellTalk$Draws" "count" "I" ∈ wsL_law := uc32 _ (List.mem_of_getElem? (i := 8) rfl)
theorem wd_32_9 : Cond.methodLink RL 92 yX10_draw ∈ wsL_law := uc32 _ (List.mem_of_getElem? (i := 9) rfl)
theorem wd_32_10 : Cond.instanceMethod yX10_draw ∈ wsL_law := uc32 _ (List.mem_of_getElem? (i := 10) rfl)
theorem wd_32_11 : Cond.selects RX10 yX10_draw yX10_draw ∈ wsL_law := uc32 _ (List.mem_of_getElem? (i := 11) rfl)
theorem wd_32_12 : Cond.code yX10_draw cX10_draw 4 (some .int) ∈ wsL_law := uc32 _ (List.mem_of_getElem? (i := 12) rfl)
theorem wd_32_13 : Cond.fieldLink RX10 288 "WellTalkModel" "drawings" "I" ∈ wsL_law := uc32 _ (List.mem_of_getElem? (i := 13) rfl)
theorem wd_32_14 : Cond.methodLink RL 93 yX9_forget ∈ wsL_law := uc32 _ (List.mem_of_getElem? (i := 14) rfl)
theorem wd_32_15 : Cond.instanceMethod yX9_forget ∈ wsL_law := uc32 _ (List.mem_of_getElem? (i := 15) rfl)
theorem wd_32_16 : Cond.selects RX9 yX9_forget yX9_forget ∈ wsL_law := uc32 _ (List.mem_of_getElem? (i := 16) rfl)
theorem wd_32_17 : Cond.code yX9_forget cX9_forget 2 (some .int) ∈ wsL_law := uc32 _ (List.mem_of_getElem? (i := 17) rfl)
theorem wd_32_18 : Cond.methodLink RL 96 yX10_forget ∈ wsL_law := uc32 _ (List.mem_of_getElem? (i := 18) rfl)
theorem wd_32_19 : Cond.instanceMethod yX10_forget ∈ wsL_law := uc32 _ (List.mem_of_getElem? (i := 19) rfl)
theorem wd_32_20 : Cond.selects RX10 yX10_forget yX10_forget ∈ wsL_law := uc32 _ (List.mem_of_getElem? (i := 20) rfl)
theorem wd_32_21 : Cond.code yX10_forget cX10_forget 2 (some .int) ∈ wsL_law := uc32 _ (List.mem_of_getElem? (i := 21) rfl)
theorem wd_32_22 : Cond.methodLink RL 97 yX9_never ∈ wsL_law := uc32 _ (List.mem_of_getElem? (i := 22) rfl)
theorem wd_32_23 : Cond.instanceMethod yX9_never ∈ wsL_law := uc32 _ (List.mem_of_getElem? (i := 23) rfl)
theorem wd_33_0 : Cond.selects RX9 yX9_never yX9_never ∈ wsL_law := uc33 _ (List.mem_of_getElem? (i := 0) rfl)
theorem wd_33_1 : Cond.code yX9_never cX9_never 3 (some .int) ∈ wsL_law := uc33 _ (List.mem_of_getElem? (i := 1) rfl)
theorem wd_33_2 : Cond.methodLink RX9 236 yX9_comesOut ∈ wsL_law := uc33 _ (List.mem_of_getElem? (i := 2) rfl)
theorem wd_33_3 : Cond.instanceMethod yX9_comesOut ∈ wsL_law := uc33 _ (List.mem_of_getElem? (i := 3) rfl)
theorem wd_33_4 : Cond.selects RX9 yX9_comesOut yX9_comesOut ∈ wsL_law := uc33 _ (List.mem_of_getElem? (i := 4) rfl)
theorem wd_33_5 : Cond.code yX9_comesOut cX9_comesOut 7 (some .boolean) ∈ wsL_law := uc33 _ (List.mem_of_getElem? (i := 5) rfl)
theorem wd_33_6 : Cond.methodLink RL 100 yX10_never ∈ wsL_law := uc33 _ (List.mem_of_getElem? (i := 6) rfl)
theorem wd_33_7 : Cond.instanceMethod yX10_never ∈ wsL_law := uc33 _ (List.mem_of_getElem? (i := 7) rfl)
theorem wd_33_8 : Cond.selects RX10 yX10_never yX10_never ∈ wsL_law := uc33 _ (List.mem_of_getElem? (i := 8) rfl)
theorem wd_33_9 : Cond.code yX10_never cX10_never 1 (some .int) ∈ wsL_law := uc33 _ (List.mem_of_getElem? (i := 9) rfl)
theorem wd_33_10 : Cond.methodLink RX10 295 yX10_neverNow ∈ wsL_law := uc33 _ (List.mem_of_getElem? (i := 10) rfl)
theorem wd_33_11 : Cond.instanceMethod yX10_neverNow ∈ wsL_law := uc33 _ (List.mem_of_getElem? (i := 11) rfl)
theorem wd_33_12 : Cond.selects RX10 yX10_neverNow yX10_neverNow ∈ wsL_law := uc33 _ (List.mem_of_getElem? (i := 12) rfl)
theorem wd_33_13 : Cond.code yX10_neverNow cX10_neverNow 3 (some .int) ∈ wsL_law := uc33 _ (List.mem_of_getElem? (i := 13) rfl)
theorem wd_33_14 : Cond.methodLink RX10 291 yX10_isDrawn ∈ wsL_law := uc33 _ (List.mem_of_getElem? (i := 14) rfl)
theorem wd_33_15 : Cond.instanceMethod yX10_isDrawn ∈ wsL_law := uc33 _ (List.mem_of_getElem? (i := 15) rfl)
theorem wd_33_16 : Cond.selects RX10 yX10_isDrawn yX10_isDrawn ∈ wsL_law := uc33 _ (List.mem_of_getElem? (i := 16) rfl)
theorem wd_33_17 : Cond.code yX10_isDrawn cX10_isDrawn 4 (some .boolean) ∈ wsL_law := uc33 _ (List.mem_of_getElem? (i := 17) rfl)
theorem wd_33_18 : Cond.methodLink RL 101 yX9_stone ∈ wsL_law := uc33 _ (List.mem_of_getElem? (i := 18) rfl)
theorem wd_33_19 : Cond.instanceMethod yX9_stone ∈ wsL_law := uc33 _ (List.mem_of_getElem? (i := 19) rfl)
theorem wd_33_20 : Cond.selects RX9 yX9_stone yX9_stone ∈ wsL_law := uc33 _ (List.mem_of_getElem? (i := 20) rfl)
theorem wd_33_21 : Cond.code yX9_stone cX9_stone 3 (some .int) ∈ wsL_law := uc33 _ (List.mem_of_getElem? (i := 21) rfl)
theorem wd_33_22 : Cond.methodLink RX9 240 yX9_stonesOf ∈ wsL_law := uc33 _ (List.mem_of_getElem? (i := 22) rfl)
theorem wd_33_23 : Cond.instanceMethod yX9_stonesOf ∈ wsL_law := uc33 _ (List.mem_of_getElem? (i := 23) rfl)
theorem wd_34_0 : Cond.selects RX9 yX9_stonesOf yX9_stonesOf ∈ wsL_law := uc34 _ (List.mem_of_getElem? (i := 0) rfl)
theorem wd_34_1 : Cond.code yX9_stonesOf cX9_stonesOf 4 (some .int) ∈ wsL_law := uc34 _ (List.mem_of_getElem? (i := 1) rfl)
theorem wd_34_2 : Cond.methodLink RX9 413 yX8_become ∈ wsL_law := uc34 _ (List.mem_of_getElem? (i := 2) rfl)
theorem wd_34_3 : Cond.instanceMethod yX8_become ∈ wsL_law := uc34 _ (List.mem_of_getElem? (i := 3) rfl)
theorem wd_34_4 : Cond.selects RX8 yX8_become yX8_become ∈ wsL_law := uc34 _ (List.mem_of_getElem? (i := 4) rfl)
theorem wd_34_5 : Cond.code yX8_become cX8_become 3 none ∈ wsL_law := uc34 _ (List.mem_of_getElem? (i := 5) rfl)
theorem wd_34_6 : Cond.methodLink RX9 243 yX9_heightsOf ∈ wsL_law := uc34 _ (List.mem_of_getElem? (i := 6) rfl)
theorem wd_34_7 : Cond.instanceMethod yX9_heightsOf ∈ wsL_law := uc34 _ (List.mem_of_getElem? (i := 7) rfl)
theorem wd_34_8 : Cond.selects RX9 yX9_heightsOf yX9_heightsOf ∈ wsL_law := uc34 _ (List.mem_of_getElem? (i := 8) rfl)
theorem wd_34_9 : Cond.code yX9_heightsOf cX9_heightsOf 4 (some .int) ∈ wsL_law := uc34 _ (List.mem_of_getElem? (i := 9) rfl)
theorem wd_34_10 : Cond.methodLink RX9 417 yX8_raise ∈ wsL_law := uc34 _ (List.mem_of_getElem? (i := 10) rfl)
theorem wd_34_11 : Cond.instanceMethod yX8_raise ∈ wsL_law := uc34 _ (List.mem_of_getElem? (i := 11) rfl)
theorem wd_34_12 : Cond.selects RX8 yX8_raise yX8_raise ∈ wsL_law := uc34 _ (List.mem_of_getElem? (i := 12) rfl)
theorem wd_34_13 : Cond.code yX8_raise cX8_raise 3 none ∈ wsL_law := uc34 _ (List.mem_of_getElem? (i := 13) rfl)
theorem wd_34_14 : Cond.methodLink RL 104 yX10_stone ∈ wsL_law := uc34 _ (List.mem_of_getElem? (i := 14) rfl)
theorem wd_34_15 : Cond.instanceMethod yX10_stone ∈ wsL_law := uc34 _ (List.mem_of_getElem? (i := 15) rfl)
theorem wd_34_16 : Cond.selects RX10 yX10_stone yX10_stone ∈ wsL_law := uc34 _ (List.mem_of_getElem? (i := 16) rfl)
theorem wd_34_17 : Cond.code yX10_stone cX10_stone 3 (some .int) ∈ wsL_law := uc34 _ (List.mem_of_getElem? (i := 17) rfl)
theorem wd_34_18 : Cond.methodLink RX10 304 yX10_stoneOf ∈ wsL_law := uc34 _ (List.mem_of_getElem? (i := 18) rfl)
theorem wd_34_19 : Cond.instanceMethod yX10_stoneOf ∈ wsL_law := uc34 _ (List.mem_of_getElem? (i := 19) rfl)
theorem wd_34_20 : Cond.selects RX10 yX10_stoneOf yX10_stoneOf ∈ wsL_law := uc34 _ (List.mem_of_getElem? (i := 20) rfl)
theorem wd_34_21 : Cond.code yX10_stoneOf cX10_stoneOf 3 (some .int) ∈ wsL_law := uc34 _ (List.mem_of_getElem? (i := 21) rfl)
theorem wd_34_22 : Cond.methodLink RX10 298 yX10_stonesOf ∈ wsL_law := uc34 _ (List.mem_of_getElem? (i := 22) rfl)
theorem wd_34_23 : Cond.instanceMethod yX10_stonesOf ∈ wsL_law := uc34 _ (List.mem_of_getElem? (i := 23) rfl)
theorem wd_35_0 : Cond.selects RX10 yX10_stonesOf yX10_stonesOf ∈ wsL_law := uc35 _ (List.mem_of_getElem? (i := 0) rfl)
theorem wd_35_1 : Cond.code yX10_stonesOf cX10_stonesOf 5 (some .int) ∈ wsL_law := uc35 _ (List.mem_of_getElem? (i := 1) rfl)
theorem wd_35_2 : Cond.methodLink RX10 301 yX10_stoodOf ∈ wsL_law := uc35 _ (List.mem_of_getElem? (i := 2) rfl)
theorem wd_35_3 : Cond.instanceMethod yX10_stoodOf ∈ wsL_law := uc35 _ (List.mem_of_getElem? (i := 3) rfl)
theorem wd_35_4 : Cond.selects RX10 yX10_stoodOf yX10_stoodOf ∈ wsL_law := uc35 _ (List.mem_of_getElem? (i := 4) rfl)
theorem wd_35_5 : Cond.code yX10_stoodOf cX10_stoodOf 8 (some .int) ∈ wsL_law := uc35 _ (List.mem_of_getElem? (i := 5) rfl)
theorem wd_35_6 : Cond.methodLink RL 105 yX9_bucket ∈ wsL_law := uc35 _ (List.mem_of_getElem? (i := 6) rfl)
theorem wd_35_7 : Cond.instanceMethod yX9_bucket ∈ wsL_law := uc35 _ (List.mem_of_getElem? (i := 7) rfl)
theorem wd_35_8 : Cond.selects RX9 yX9_bucket yX9_bucket ∈ wsL_law := uc35 _ (List.mem_of_getElem? (i := 8) rfl)
theorem wd_35_9 : Cond.code yX9_bucket cX9_bucket 4 (some .int) ∈ wsL_law := uc35 _ (List.mem_of_getElem? (i := 9) rfl)
theorem wd_35_10 : Cond.methodLink RL 108 yX10_bucket ∈ wsL_law := uc35 _ (List.mem_of_getElem? (i := 10) rfl)
theorem wd_35_11 : Cond.instanceMethod yX10_bucket ∈ wsL_law := uc35 _ (List.mem_of_getElem? (i := 11) rfl)
theorem wd_35_12 : Cond.selects RX10 yX10_bucket yX10_bucket ∈ wsL_law := uc35 _ (List.mem_of_getElem? (i := 12) rfl)
theorem wd_35_13 : Cond.code yX10_bucket cX10_bucket 2 (some .int) ∈ wsL_law := uc35 _ (List.mem_of_getElem? (i := 13) rfl)
theorem wd_35_14 : Cond.methodLink RX10 307 yX10_bucketOf ∈ wsL_law := uc35 _ (List.mem_of_getElem? (i := 14) rfl)
theorem wd_35_15 : Cond.instanceMethod yX10_bucketOf ∈ wsL_law := uc35 _ (List.mem_of_getElem? (i := 15) rfl)
theorem wd_35_16 : Cond.selects RX10 yX10_bucketOf yX10_bucketOf ∈ wsL_law := uc35 _ (List.mem_of_getElem? (i := 16) rfl)
theorem wd_35_17 : Cond.code yX10_bucketOf cX10_bucketOf 5 (some .int) ∈ wsL_law := uc35 _ (List.mem_of_getElem? (i := 17) rfl)
theorem wd_35_18 : Cond.methodLink RL 109 yX9_ask ∈ wsL_law := uc35 _ (List.mem_of_getElem? (i := 18) rfl)
theorem wd_35_19 : Cond.instanceMethod yX9_ask ∈ wsL_law := uc35 _ (List.mem_of_getElem? (i := 19) rfl)
theorem wd_35_20 : Cond.selects RX9 yX9_ask yX9_ask ∈ wsL_law := uc35 _ (List.mem_of_getElem? (i := 20) rfl)
theorem wd_35_21 : Cond.code yX9_ask cX9_ask 7 (some .int) ∈ wsL_law := uc35 _ (List.mem_of_getElem? (i := 21) rfl)
theorem wd_35_22 : Cond.methodLink RX9 246 yX9_countInWell ∈ wsL_law := uc35 _ (List.mem_of_getElem? (i := 22) rfl)
theorem wd_35_23 : Cond.instanceMethod yX9_countInWell ∈ wsL_law := uc35 _ (List.mem_of_getElem? (i := 23) rfl)
theorem wd_36_0 : Cond.selects RX9 yX9_countInWell yX9_countInWell ∈ wsL_law := uc36 _ (List.mem_of_getElem? (i := 0) rfl)
theorem wd_36_1 : Cond.code yX9_countInWell cX9_countInWell 6 none ∈ wsL_law := uc36 _ (List.mem_of_getElem? (i := 1) rfl)
theorem wd_36_2 : Cond.methodLink RX9 250 yX9_mostAlike ∈ wsL_law := uc36 _ (List.mem_of_getElem? (i := 2) rfl)
theorem wd_36_3 : Cond.instanceMethod yX9_mostAlike ∈ wsL_law := uc36 _ (List.mem_of_getElem? (i := 3) rfl)
theorem wd_36_4 : Cond.selects RX9 yX9_mostAlike yX9_mostAlike ∈ wsL_law := uc36 _ (List.mem_of_getElem? (i := 4) rfl)
theorem wd_36_5 : Cond.code yX9_mostAlike cX9_mostAlike 6 (some .int) ∈ wsL_law := uc36 _ (List.mem_of_getElem? (i := 5) rfl)
theorem wd_36_6 : Cond.methodLink RX9 420 Lib.Math.max.name ∈ wsL_law := uc36 _ (List.mem_of_getElem? (i := 6) rfl)
theorem wd_36_7 : Cond.methodLink RL 112 yX10_ask ∈ wsL_law := uc36 _ (List.mem_of_getElem? (i := 7) rfl)
theorem wd_36_8 : Cond.instanceMethod yX10_ask ∈ wsL_law := uc36 _ (List.mem_of_getElem? (i := 8) rfl)
theorem wd_36_9 : Cond.selects RX10 yX10_ask yX10_ask ∈ wsL_law := uc36 _ (List.mem_of_getElem? (i := 9) rfl)
theorem wd_36_10 : Cond.code yX10_ask cX10_ask 2 (some .int) ∈ wsL_law := uc36 _ (List.mem_of_getElem? (i := 10) rfl)
theorem wd_36_11 : Cond.methodLink RX10 313 yX10_askOf ∈ wsL_law := uc36 _ (List.mem_of_getElem? (i := 11) rfl)
theorem wd_36_12 : Cond.instanceMethod yX10_askOf ∈ wsL_law := uc36 _ (List.mem_of_getElem? (i := 12) rfl)
theorem wd_36_13 : Cond.selects RX10 yX10_askOf yX10_askOf ∈ wsL_law := uc36 _ (List.mem_of_getElem? (i := 13) rfl)
theorem wd_36_14 : Cond.code yX10_askOf cX10_askOf 5 (some .int) ∈ wsL_law := uc36 _ (List.mem_of_getElem? (i := 14) rfl)
theorem wd_36_15 : Cond.methodLink RX10 310 yX10_alike ∈ wsL_law := uc36 _ (List.mem_of_getElem? (i := 15) rfl)
theorem wd_36_16 : Cond.instanceMethod yX10_alike ∈ wsL_law := uc36 _ (List.mem_of_getElem? (i := 16) rfl)
theorem wd_36_17 : Cond.selects RX10 yX10_alike yX10_alike ∈ wsL_law := uc36 _ (List.mem_of_getElem? (i := 17) rfl)
theorem wd_36_18 : Cond.code yX10_alike cX10_alike 7 (some .int) ∈ wsL_law := uc36 _ (List.mem_of_getElem? (i := 18) rfl)
theorem wd_36_19 : Cond.methodLink RL 113 yX9_chance ∈ wsL_law := uc36 _ (List.mem_of_getElem? (i := 19) rfl)
theorem wd_36_20 : Cond.instanceMethod yX9_chance ∈ wsL_law := uc36 _ (List.mem_of_getElem? (i := 20) rfl)
theorem wd_36_21 : Cond.selects RX9 yX9_chance yX9_chance ∈ wsL_law := uc36 _ (List.mem_of_getElem? (i := 21) rfl)
theorem wd_36_22 : Cond.code yX9_chance cX9_chance 10 (some .long) ∈ wsL_law := uc36 _ (List.mem_of_getElem? (i := 22) rfl)
theorem wd_36_23 : Cond.constantLong RX9 253 (-9223372036854775806) ∈ wsL_law := uc36 _ (List.mem_of_getElem? (i := 23) rfl)
theorem wd_37_0 : Cond.constantLong RX9 259 (16) ∈ wsL_law := uc37 _ (List.mem_of_getElem? (i := 0) rfl)
theorem wd_37_1 : Cond.constantLong RX9 265 (2) ∈ wsL_law := uc37 _ (List.mem_of_getElem? (i := 1) rfl)
theorem wd_37_2 : Cond.methodLink RX9 255 yX9_heardWeight ∈ wsL_law := uc37 _ (List.mem_of_getElem? (i := 2) rfl)
theorem wd_37_3 : Cond.instanceMethod yX9_heardWeight ∈ wsL_law := uc37 _ (List.mem_of_getElem? (i := 3) rfl)
theorem wd_37_4 : Cond.selects RX9 yX9_heardWeight yX9_heardWeight ∈ wsL_law := uc37 _ (List.mem_of_getElem? (i := 4) rfl)
theorem wd_37_5 : Cond.code yX9_heardWeight cX9_heardWeight 10 (some .long) ∈ wsL_law := uc37 _ (List.mem_of_getElem? (i := 5) rfl)
theorem wd_37_6 : Cond.methodLink RX9 261 yX9_power ∈ wsL_law := uc37 _ (List.mem_of_getElem? (i := 6) rfl)
theorem wd_37_7 : Cond.static yX9_power ∈ wsL_law := uc37 _ (List.mem_of_getElem? (i := 7) rfl)
theorem wd_37_8 : Cond.code yX9_power cX9_power 6 (some .long) ∈ wsL_law := uc37 _ (List.mem_of_getElem? (i := 8) rfl)
theorem wd_37_9 : Cond.methodLink RL 117 yX10_chance ∈ wsL_law := uc37 _ (List.mem_of_getElem? (i := 9) rfl)
theorem wd_37_10 : Cond.instanceMethod yX10_chance ∈ wsL_law := uc37 _ (List.mem_of_getElem? (i := 10) rfl)
theorem wd_37_11 : Cond.selects RX10 yX10_chance yX10_chance ∈ wsL_law := uc37 _ (List.mem_of_getElem? (i := 11) rfl)
theorem wd_37_12 : Cond.code yX10_chance cX10_chance 5 (some .long) ∈ wsL_law := uc37 _ (List.mem_of_getElem? (i := 12) rfl)
theorem wd_37_13 : Cond.constantLong RX10 320 (16) ∈ wsL_law := uc37 _ (List.mem_of_getElem? (i := 13) rfl)
theorem wd_37_14 : Cond.methodLink RX10 322 yX10_chanceOf ∈ wsL_law := uc37 _ (List.mem_of_getElem? (i := 14) rfl)
theorem wd_37_15 : Cond.instanceMethod yX10_chanceOf ∈ wsL_law := uc37 _ (List.mem_of_getElem? (i := 15) rfl)
theorem wd_37_16 : Cond.selects RX10 yX10_chanceOf yX10_chanceOf ∈ wsL_law := uc37 _ (List.mem_of_getElem? (i := 16) rfl)
theorem wd_37_17 : Cond.code yX10_chanceOf cX10_chanceOf 11 (some .long) ∈ wsL_law := uc37 _ (List.mem_of_getElem? (i := 17) rfl)
theorem wd_37_18 : Cond.methodLink RX10 316 yX10_part ∈ wsL_law := uc37 _ (List.mem_of_getElem? (i := 18) rfl)
theorem wd_37_19 : Cond.static yX10_part ∈ wsL_law := uc37 _ (List.mem_of_getElem? (i := 19) rfl)
theorem wd_37_20 : Cond.code yX10_part cX10_part 11 (some .long) ∈ wsL_law := uc37 _ (List.mem_of_getElem? (i := 20) rfl)
theorem wd_37_21 : Cond.methodLink RX10 326 yX10_no ∈ wsL_law := uc37 _ (List.mem_of_getElem? (i := 21) rfl)
theorem wd_37_22 : Cond.static yX10_no ∈ wsL_law := uc37 _ (List.mem_of_getElem? (i := 22) rfl)
theorem wd_37_23 : Cond.code yX10_no cX10_no 1 (some .long) ∈ wsL_law := uc37 _ (List.mem_of_getElem? (i := 23) rfl)
theorem wd_38_0 : Cond.constantLong RX10 81 (-9223372036854775808) ∈ wsL_law := uc38 _ (List.mem_of_getElem? (i := 0) rfl)
theorem wd_38_1 : Cond.methodLink RL 118 yX9_day ∈ wsL_law := uc38 _ (List.mem_of_getElem? (i := 1) rfl)
theorem wd_38_2 : Cond.instanceMethod yX9_day ∈ wsL_law := uc38 _ (List.mem_of_getElem? (i := 2) rfl)
theorem wd_38_3 : Cond.selects RX9 yX9_day yX9_day ∈ wsL_law := uc38 _ (List.mem_of_getElem? (i := 3) rfl)
theorem wd_38_4 : Cond.code yX9_day cX9_day 7 (some .int) ∈ wsL_law := uc38 _ (List.mem_of_getElem? (i := 4) rfl)
theorem wd_38_5 : Cond.methodLink RX9 267 yX9_drawLots ∈ wsL_law := uc38 _ (List.mem_of_getElem? (i := 5) rfl)
theorem wd_38_6 : Cond.instanceMethod yX9_drawLots ∈ wsL_law := uc38 _ (List.mem_of_getElem? (i := 6) rfl)
theorem wd_38_7 : Cond.selects RX9 yX9_drawLots yX9_drawLots ∈ wsL_law := uc38 _ (List.mem_of_getElem? (i := 7) rfl)
theorem wd_38_8 : Cond.code yX9_drawLots cX9_drawLots 7 none ∈ wsL_law := uc38 _ (List.mem_of_getElem? (i := 8) rfl)
theorem wd_38_9 : Cond.methodLink RX9 423 yX9_nextSeed ∈ wsL_law := uc38 _ (List.mem_of_getElem? (i := 9) rfl)
theorem wd_38_10 : Cond.static yX9_nextSeed ∈ wsL_law := uc38 _ (List.mem_of_getElem? (i := 10) rfl)
theorem wd_38_11 : Cond.code yX9_nextSeed cX9_nextSeed 1 (some .int) ∈ wsL_law := uc38 _ (List.mem_of_getElem? (i := 11) rfl)
theorem wd_38_12 : Cond.constant RX9 429 (1103515245) ∈ wsL_law := uc38 _ (List.mem_of_getElem? (i := 12) rfl)
theorem wd_38_13 : Cond.methodLink RX9 426 yX9_lot ∈ wsL_law := uc38 _ (List.mem_of_getElem? (i := 13) rfl)
theorem wd_38_14 : Cond.static yX9_lot ∈ wsL_law := uc38 _ (List.mem_of_getElem? (i := 14) rfl)
theorem wd_38_15 : Cond.code yX9_lot cX9_lot 2 (some .int) ∈ wsL_law := uc38 _ (List.mem_of_getElem? (i := 15) rfl)
theorem wd_38_16 : Cond.methodLink RL 121 yX10_day ∈ wsL_law := uc38 _ (List.mem_of_getElem? (i := 16) rfl)
theorem wd_38_17 : Cond.instanceMethod yX10_day ∈ wsL_law := uc38 _ (List.mem_of_getElem? (i := 17) rfl)
theorem wd_38_18 : Cond.selects RX10 yX10_day yX10_day ∈ wsL_law := uc38 _ (List.mem_of_getElem? (i := 18) rfl)
theorem wd_38_19 : Cond.code yX10_day cX10_day 4 (some .int) ∈ wsL_law := uc38 _ (List.mem_of_getElem? (i := 19) rfl)
theorem wd_38_20 : Cond.constantLong RX10 337 (8) ∈ wsL_law := uc38 _ (List.mem_of_getElem? (i := 20) rfl)
theorem wd_38_21 : Cond.methodLink RX10 339 yX10_dayOf ∈ wsL_law := uc38 _ (List.mem_of_getElem? (i := 21) rfl)
theorem wd_38_22 : Cond.instanceMethod yX10_dayOf ∈ wsL_law := uc38 _ (List.mem_of_getElem? (i := 22) rfl)
theorem wd_38_23 : Cond.selects RX10 yX10_dayOf yX10_dayOf ∈ wsL_law := uc38 _ (List.mem_of_getElem? (i := 23) rfl)
theorem wd_39_0 : Cond.code yX10_dayOf cX10_dayOf 8 (some .int) ∈ wsL_law := uc39 _ (List.mem_of_getElem? (i := 0) rfl)
theorem wd_39_1 : Cond.fieldLink RX10 331 "WellTalkModel" "drawn" "I" ∈ wsL_law := uc39 _ (List.mem_of_getElem? (i := 1) rfl)
theorem wd_39_2 : Cond.methodLink RX10 334 yX10_lot ∈ wsL_law := uc39 _ (List.mem_of_getElem? (i := 2) rfl)
theorem wd_39_3 : Cond.instanceMethod yX10_lot ∈ wsL_law := uc39 _ (List.mem_of_getElem? (i := 3) rfl)
theorem wd_39_4 : Cond.selects RX10 yX10_lot yX10_lot ∈ wsL_law := uc39 _ (List.mem_of_getElem? (i := 4) rfl)
theorem wd_39_5 : Cond.code yX10_lot cX10_lot 2 (some .int) ∈ wsL_law := uc39 _ (List.mem_of_getElem? (i := 5) rfl)
theorem wd_39_6 : Cond.constant RX10 330 (1103515245) ∈ wsL_law := uc39 _ (List.mem_of_getElem? (i := 6) rfl)
theorem wd_39_7 : Cond.methodLink RL 122 yX9_sheet ∈ wsL_law := uc39 _ (List.mem_of_getElem? (i := 7) rfl)
theorem wd_39_8 : Cond.instanceMethod yX9_sheet ∈ wsL_law := uc39 _ (List.mem_of_getElem? (i := 8) rfl)
theorem wd_39_9 : Cond.selects RX9 yX9_sheet yX9_sheet ∈ wsL_law := uc39 _ (List.mem_of_getElem? (i := 9) rfl)
theorem wd_39_10 : Cond.code yX9_sheet cX9_sheet 4 (some .int) ∈ wsL_law := uc39 _ (List.mem_of_getElem? (i := 10) rfl)
theorem wd_39_11 : Cond.methodLink RX9 273 yX6_renew ∈ wsL_law := uc39 _ (List.mem_of_getElem? (i := 11) rfl)
theorem wd_39_12 : Cond.instanceMethod yX6_renew ∈ wsL_law := uc39 _ (List.mem_of_getElem? (i := 12) rfl)
theorem wd_39_13 : Cond.selects RX6 yX6_renew yX6_renew ∈ wsL_law := uc39 _ (List.mem_of_getElem? (i := 13) rfl)
theorem wd_39_14 : Cond.code yX6_renew cX6_renew 3 none ∈ wsL_law := uc39 _ (List.mem_of_getElem? (i := 14) rfl)
theorem wd_39_15 : Cond.fieldLink RX6 19 "WellTalk$Sheet" "size" "I" ∈ wsL_law := uc39 _ (List.mem_of_getElem? (i := 15) rfl)
theorem wd_39_16 : Cond.methodLink RX6 22 yJ7_fill_53178 ∈ wsL_law := uc39 _ (List.mem_of_getElem? (i := 16) rfl)
theorem wd_39_17 : Cond.methodLink RL 125 yX10_sheet ∈ wsL_law := uc39 _ (List.mem_of_getElem? (i := 17) rfl)
theorem wd_39_18 : Cond.instanceMethod yX10_sheet ∈ wsL_law := uc39 _ (List.mem_of_getElem? (i := 18) rfl)
theorem wd_39_19 : Cond.selects RX10 yX10_sheet yX10_sheet ∈ wsL_law := uc39 _ (List.mem_of_getElem? (i := 19) rfl)
theorem wd_39_20 : Cond.code yX10_sheet cX10_sheet 5 (some .int) ∈ wsL_law := uc39 _ (List.mem_of_getElem? (i := 20) rfl)
theorem wd_39_21 : Cond.methodLink RL 126 yX9_lose ∈ wsL_law := uc39 _ (List.mem_of_getElem? (i := 21) rfl)
theorem wd_39_22 : Cond.instanceMethod yX9_lose ∈ wsL_law := uc39 _ (List.mem_of_getElem? (i := 22) rfl)
theorem wd_39_23 : Cond.selects RX9 yX9_lose yX9_lose ∈ wsL_law := uc39 _ (List.mem_of_getElem? (i := 23) rfl)
theorem wd_40_0 : Cond.code yX9_lose cX9_lose 3 (some .int) ∈ wsL_law := uc40 _ (List.mem_of_getElem? (i := 0) rfl)
theorem wd_40_1 : Cond.methodLink RL 129 yX10_lose ∈ wsL_law := uc40 _ (List.mem_of_getElem? (i := 1) rfl)
theorem wd_40_2 : Cond.instanceMethod yX10_lose ∈ wsL_law := uc40 _ (List.mem_of_getElem? (i := 2) rfl)
theorem wd_40_3 : Cond.selects RX10 yX10_lose yX10_lose ∈ wsL_law := uc40 _ (List.mem_of_getElem? (i := 3) rfl)
theorem wd_40_4 : Cond.code yX10_lose cX10_lose 2 (some .int) ∈ wsL_law := uc40 _ (List.mem_of_getElem? (i := 4) rfl)
theorem wd_40_5 : Cond.methodLink RL 130 yX9_lay ∈ wsL_law := uc40 _ (List.mem_of_getElem? (i := 5) rfl)
theorem wd_40_6 : Cond.instanceMethod yX9_lay ∈ wsL_law := uc40 _ (List.mem_of_getElem? (i := 6) rfl)
theorem wd_40_7 : Cond.selects RX9 yX9_lay yX9_lay ∈ wsL_law := uc40 _ (List.mem_of_getElem? (i := 7) rfl)
theorem wd_40_8 : Cond.code yX9_lay cX9_lay 6 (some .int) ∈ wsL_law := uc40 _ (List.mem_of_getElem? (i := 8) rfl)
theorem wd_40_9 : Cond.methodLink RX9 278 yX9_itemFinding ∈ wsL_law := uc40 _ (List.mem_of_getElem? (i := 9) rfl)
theorem wd_40_10 : Cond.static yX9_itemFinding ∈ wsL_law := uc40 _ (List.mem_of_getElem? (i := 10) rfl)
theorem wd_40_11 : Cond.code yX9_itemFinding cX9_itemFinding 3 (some .int) ∈ wsL_law := uc40 _ (List.mem_of_getElem? (i := 11) rfl)
theorem wd_40_12 : Cond.methodLink RX9 282 yX6_put ∈ wsL_law := uc40 _ (List.mem_of_getElem? (i := 12) rfl)
theorem wd_40_13 : Cond.instanceMethod yX6_put ∈ wsL_law := uc40 _ (List.mem_of_getElem? (i := 13) rfl)
theorem wd_40_14 : Cond.selects RX6 yX6_put yX6_put ∈ wsL_law := uc40 _ (List.mem_of_getElem? (i := 14) rfl)
theorem wd_40_15 : Cond.code yX6_put cX6_put 3 none ∈ wsL_law := uc40 _ (List.mem_of_getElem? (i := 15) rfl)
theorem wd_40_16 : Cond.methodLink RL 134 yX10_lay ∈ wsL_law := uc40 _ (List.mem_of_getElem? (i := 16) rfl)
theorem wd_40_17 : Cond.instanceMethod yX10_lay ∈ wsL_law := uc40 _ (List.mem_of_getElem? (i := 17) rfl)
theorem wd_40_18 : Cond.selects RX10 yX10_lay yX10_lay ∈ wsL_law := uc40 _ (List.mem_of_getElem? (i := 18) rfl)
theorem wd_40_19 : Cond.code yX10_lay cX10_lay 6 (some .int) ∈ wsL_law := uc40 _ (List.mem_of_getElem? (i := 19) rfl)
theorem wd_40_20 : Cond.methodLink RX10 102 yX10_lacks ∈ wsL_law := uc40 _ (List.mem_of_getElem? (i := 20) rfl)
theorem wd_40_21 : Cond.instanceMethod yX10_lacks ∈ wsL_law := uc40 _ (List.mem_of_getElem? (i := 21) rfl)
theorem wd_40_22 : Cond.selects RX10 yX10_lacks yX10_lacks ∈ wsL_law := uc40 _ (List.mem_of_getElem? (i := 22) rfl)
theorem wd_40_23 : Cond.code yX10_lacks cX10_lacks 4 (some .int) ∈ wsL_law := uc40 _ (List.mem_of_getElem? (i := 23) rfl)
theorem wd_41_0 : Cond.methodLink RX10 106 yX10_cut ∈ wsL_law := uc41 _ (List.mem_of_getElem? (i := 0) rfl)
theorem wd_41_1 : Cond.static yX10_cut ∈ wsL_law := uc41 _ (List.mem_of_getElem? (i := 1) rfl)
theorem wd_41_2 : Cond.code yX10_cut cX10_cut 2 (some .int) ∈ wsL_law := uc41 _ (List.mem_of_getElem? (i := 2) rfl)
theorem wd_41_3 : Cond.methodLink RL 135 yX9_get ∈ wsL_law := uc41 _ (List.mem_of_getElem? (i := 3) rfl)
theorem wd_41_4 : Cond.instanceMethod yX9_get ∈ wsL_law := uc41 _ (List.mem_of_getElem? (i := 4) rfl)
theorem wd_41_5 : Cond.selects RX9 yX9_get yX9_get ∈ wsL_law := uc41 _ (List.mem_of_getElem? (i := 5) rfl)
theorem wd_41_6 : Cond.code yX9_get cX9_get 5 (some .int) ∈ wsL_law := uc41 _ (List.mem_of_getElem? (i := 6) rfl)
theorem wd_41_7 : Cond.constant RX9 285 (-2147483648) ∈ wsL_law := uc41 _ (List.mem_of_getElem? (i := 7) rfl)
theorem wd_41_8 : Cond.methodLink RL 138 yX10_get ∈ wsL_law := uc41 _ (List.mem_of_getElem? (i := 8) rfl)
theorem wd_41_9 : Cond.instanceMethod yX10_get ∈ wsL_law := uc41 _ (List.mem_of_getElem? (i := 9) rfl)
theorem wd_41_10 : Cond.selects RX10 yX10_get yX10_get ∈ wsL_law := uc41 _ (List.mem_of_getElem? (i := 10) rfl)
theorem wd_41_11 : Cond.code yX10_get cX10_get 4 (some .int) ∈ wsL_law := uc41 _ (List.mem_of_getElem? (i := 11) rfl)
theorem wd_41_12 : Cond.constant RX10 110 (-2147483648) ∈ wsL_law := uc41 _ (List.mem_of_getElem? (i := 12) rfl)
theorem wd_41_13 : Cond.methodLink RL 139 yX9_copy ∈ wsL_law := uc41 _ (List.mem_of_getElem? (i := 13) rfl)
theorem wd_41_14 : Cond.instanceMethod yX9_copy ∈ wsL_law := uc41 _ (List.mem_of_getElem? (i := 14) rfl)
theorem wd_41_15 : Cond.selects RX9 yX9_copy yX9_copy ∈ wsL_law := uc41 _ (List.mem_of_getElem? (i := 15) rfl)
theorem wd_41_16 : Cond.code yX9_copy cX9_copy 8 (some .int) ∈ wsL_law := uc41 _ (List.mem_of_getElem? (i := 16) rfl)
theorem wd_41_17 : Cond.methodLink RX9 295 arraycopyName ∈ wsL_law := uc41 _ (List.mem_of_getElem? (i := 17) rfl)
theorem wd_41_18 : Cond.native arraycopyName ∈ wsL_law := uc41 _ (List.mem_of_getElem? (i := 18) rfl)
theorem wd_41_19 : Cond.static arraycopyName ∈ wsL_law := uc41 _ (List.mem_of_getElem? (i := 19) rfl)
theorem wd_41_20 : Cond.initialized "java/lang/System" ∈ wsL_law := uc41 _ (List.mem_of_getElem? (i := 20) rfl)
theorem wd_41_21 : Cond.methodLink RX9 292 yX6_hasRun ∈ wsL_law := uc41 _ (List.mem_of_getElem? (i := 21) rfl)
theorem wd_41_22 : Cond.instanceMethod yX6_hasRun ∈ wsL_law := uc41 _ (List.mem_of_getElem? (i := 22) rfl)
theorem wd_41_23 : Cond.selects RX6 yX6_hasRun yX6_hasRun ∈ wsL_law := uc41 _ (List.mem_of_getElem? (i := 23) rfl)
theorem wd_42_0 : Cond.code yX6_hasRun cX6_hasRun 3 (some .boolean) ∈ wsL_law := uc42 _ (List.mem_of_getElem? (i := 0) rfl)
theorem wd_42_1 : Cond.methodLink RL 143 yX10_copy ∈ wsL_law := uc42 _ (List.mem_of_getElem? (i := 1) rfl)
theorem wd_42_2 : Cond.instanceMethod yX10_copy ∈ wsL_law := uc42 _ (List.mem_of_getElem? (i := 2) rfl)
theorem wd_42_3 : Cond.selects RX10 yX10_copy yX10_copy ∈ wsL_law := uc42 _ (List.mem_of_getElem? (i := 3) rfl)
theorem wd_42_4 : Cond.code yX10_copy cX10_copy 7 (some .int) ∈ wsL_law := uc42 _ (List.mem_of_getElem? (i := 4) rfl)
theorem wd_42_5 : Cond.methodLink RL 144 yX9_write ∈ wsL_law := uc42 _ (List.mem_of_getElem? (i := 5) rfl)
theorem wd_42_6 : Cond.instanceMethod yX9_write ∈ wsL_law := uc42 _ (List.mem_of_getElem? (i := 6) rfl)
theorem wd_42_7 : Cond.selects RX9 yX9_write yX9_write ∈ wsL_law := uc42 _ (List.mem_of_getElem? (i := 7) rfl)
theorem wd_42_8 : Cond.code yX9_write cX9_write 5 (some .int) ∈ wsL_law := uc42 _ (List.mem_of_getElem? (i := 8) rfl)
theorem wd_42_9 : Cond.methodLink RX9 301 Lib.Math.min.name ∈ wsL_law := uc42 _ (List.mem_of_getElem? (i := 9) rfl)
theorem wd_42_10 : Cond.methodLink RL 147 yX10_write ∈ wsL_law := uc42 _ (List.mem_of_getElem? (i := 10) rfl)
theorem wd_42_11 : Cond.instanceMethod yX10_write ∈ wsL_law := uc42 _ (List.mem_of_getElem? (i := 11) rfl)
theorem wd_42_12 : Cond.selects RX10 yX10_write yX10_write ∈ wsL_law := uc42 _ (List.mem_of_getElem? (i := 12) rfl)
theorem wd_42_13 : Cond.code yX10_write cX10_write 5 (some .int) ∈ wsL_law := uc42 _ (List.mem_of_getElem? (i := 13) rfl)
theorem wd_42_14 : Cond.methodLink RL 148 yX9_count ∈ wsL_law := uc42 _ (List.mem_of_getElem? (i := 14) rfl)
theorem wd_42_15 : Cond.instanceMethod yX9_count ∈ wsL_law := uc42 _ (List.mem_of_getElem? (i := 15) rfl)
theorem wd_42_16 : Cond.selects RX9 yX9_count yX9_count ∈ wsL_law := uc42 _ (List.mem_of_getElem? (i := 16) rfl)
theorem wd_42_17 : Cond.code yX9_count cX9_count 2 (some .int) ∈ wsL_law := uc42 _ (List.mem_of_getElem? (i := 17) rfl)
theorem wd_42_18 : Cond.methodLink RX9 306 yX9_timesHeard ∈ wsL_law := uc42 _ (List.mem_of_getElem? (i := 18) rfl)
theorem wd_42_19 : Cond.instanceMethod yX9_timesHeard ∈ wsL_law := uc42 _ (List.mem_of_getElem? (i := 19) rfl)
theorem wd_42_20 : Cond.selects RX9 yX9_timesHeard yX9_timesHeard ∈ wsL_law := uc42 _ (List.mem_of_getElem? (i := 20) rfl)
theorem wd_42_21 : Cond.code yX9_timesHeard cX9_timesHeard 3 (some .int) ∈ wsL_law := uc42 _ (List.mem_of_getElem? (i := 21) rfl)
theorem wd_42_22 : Cond.methodLink RX9 382 yX4_timesHeard ∈ wsL_law := uc42 _ (List.mem_of_getElem? (i := 22) rfl)
theorem wd_42_23 : Cond.instanceMethod yX4_timesHeard ∈ wsL_law := uc42 _ (List.mem_of_getElem? (i := 23) rfl)
theorem wd_43_0 : Cond.selects RX4 yX4_timesHeard yX4_timesHeard ∈ wsL_law := uc43 _ (List.mem_of_getElem? (i := 0) rfl)
theorem wd_43_1 : Cond.code yX4_timesHeard cX4_timesHeard 3 (some .int) ∈ wsL_law := uc43 _ (List.mem_of_getElem? (i := 1) rfl)
theorem wd_43_2 : Cond.methodLink RL 151 yX10_count ∈ wsL_law := uc43 _ (List.mem_of_getElem? (i := 2) rfl)
theorem wd_43_3 : Cond.instanceMethod yX10_count ∈ wsL_law := uc43 _ (List.mem_of_getElem? (i := 3) rfl)
theorem wd_43_4 : Cond.selects RX10 yX10_count yX10_count ∈ wsL_law := uc43 _ (List.mem_of_getElem? (i := 4) rfl)
theorem wd_43_5 : Cond.code yX10_count cX10_count 2 (some .int) ∈ wsL_law := uc43 _ (List.mem_of_getElem? (i := 5) rfl)
theorem wd_43_6 : Cond.methodLink RX10 342 yX10_allHeard ∈ wsL_law := uc43 _ (List.mem_of_getElem? (i := 6) rfl)
theorem wd_43_7 : Cond.instanceMethod yX10_allHeard ∈ wsL_law := uc43 _ (List.mem_of_getElem? (i := 7) rfl)
theorem wd_43_8 : Cond.selects RX10 yX10_allHeard yX10_allHeard ∈ wsL_law := uc43 _ (List.mem_of_getElem? (i := 8) rfl)
theorem wd_43_9 : Cond.code yX10_allHeard cX10_allHeard 4 (some .int) ∈ wsL_law := uc43 _ (List.mem_of_getElem? (i := 9) rfl)
theorem wd_43_10 : Cond.methodLink RL 152 yX9_digest ∈ wsL_law := uc43 _ (List.mem_of_getElem? (i := 10) rfl)
theorem wd_43_11 : Cond.instanceMethod yX9_digest ∈ wsL_law := uc43 _ (List.mem_of_getElem? (i := 11) rfl)
theorem wd_43_12 : Cond.selects RX9 yX9_digest yX9_digest ∈ wsL_law := uc43 _ (List.mem_of_getElem? (i := 12) rfl)
theorem wd_43_13 : Cond.code yX9_digest cX9_digest 4 (some .long) ∈ wsL_law := uc43 _ (List.mem_of_getElem? (i := 13) rfl)
theorem wd_43_14 : Cond.constantLong RX9 312 (17) ∈ wsL_law := uc43 _ (List.mem_of_getElem? (i := 14) rfl)
theorem wd_43_15 : Cond.constantLong RX9 314 (31) ∈ wsL_law := uc43 _ (List.mem_of_getElem? (i := 15) rfl)
theorem wd_43_16 : Cond.methodLink RX9 316 yX9_count ∈ wsL_law := uc43 _ (List.mem_of_getElem? (i := 16) rfl)
theorem wd_43_17 : Cond.methodLink RX9 318 yX9_fault ∈ wsL_law := uc43 _ (List.mem_of_getElem? (i := 17) rfl)
theorem wd_43_18 : Cond.methodLink RX9 320 yX9_withWell ∈ wsL_law := uc43 _ (List.mem_of_getElem? (i := 18) rfl)
theorem wd_43_19 : Cond.instanceMethod yX9_withWell ∈ wsL_law := uc43 _ (List.mem_of_getElem? (i := 19) rfl)
theorem wd_43_20 : Cond.selects RX9 yX9_withWell yX9_withWell ∈ wsL_law := uc43 _ (List.mem_of_getElem? (i := 20) rfl)
theorem wd_43_21 : Cond.code yX9_withWell cX9_withWell 7 (some .long) ∈ wsL_law := uc43 _ (List.mem_of_getElem? (i := 21) rfl)
theorem wd_43_22 : Cond.methodLink RX9 339 yX9_well ∈ wsL_law := uc43 _ (List.mem_of_getElem? (i := 22) rfl)
theorem wd_43_23 : Cond.methodLink RX9 341 yX9_hears ∈ wsL_law := uc43 _ (List.mem_of_getElem? (i := 23) rfl)
theorem wd_44_0 : Cond.methodLink RX9 344 yX9_soon ∈ wsL_law := uc44 _ (List.mem_of_getElem? (i := 0) rfl)
theorem wd_44_1 : Cond.methodLink RX9 347 yX9_toss ∈ wsL_law := uc44 _ (List.mem_of_getElem? (i := 1) rfl)
theorem wd_44_2 : Cond.methodLink RX9 350 yX9_open ∈ wsL_law := uc44 _ (List.mem_of_getElem? (i := 2) rfl)
theorem wd_44_3 : Cond.methodLink RX9 353 yX9_stone ∈ wsL_law := uc44 _ (List.mem_of_getElem? (i := 3) rfl)
theorem wd_44_4 : Cond.methodLink RX9 355 yX9_ask ∈ wsL_law := uc44 _ (List.mem_of_getElem? (i := 4) rfl)
theorem wd_44_5 : Cond.methodLink RX9 323 yX9_withSaying ∈ wsL_law := uc44 _ (List.mem_of_getElem? (i := 5) rfl)
theorem wd_44_6 : Cond.instanceMethod yX9_withSaying ∈ wsL_law := uc44 _ (List.mem_of_getElem? (i := 6) rfl)
theorem wd_44_7 : Cond.selects RX9 yX9_withSaying yX9_withSaying ∈ wsL_law := uc44 _ (List.mem_of_getElem? (i := 7) rfl)
theorem wd_44_8 : Cond.code yX9_withSaying cX9_withSaying 7 (some .long) ∈ wsL_law := uc44 _ (List.mem_of_getElem? (i := 8) rfl)
theorem wd_44_9 : Cond.methodLink RX9 358 yX9_saying ∈ wsL_law := uc44 _ (List.mem_of_getElem? (i := 9) rfl)
theorem wd_44_10 : Cond.methodLink RX9 361 yX9_withHour ∈ wsL_law := uc44 _ (List.mem_of_getElem? (i := 10) rfl)
theorem wd_44_11 : Cond.instanceMethod yX9_withHour ∈ wsL_law := uc44 _ (List.mem_of_getElem? (i := 11) rfl)
theorem wd_44_12 : Cond.selects RX9 yX9_withHour yX9_withHour ∈ wsL_law := uc44 _ (List.mem_of_getElem? (i := 12) rfl)
theorem wd_44_13 : Cond.code yX9_withHour cX9_withHour 8 (some .long) ∈ wsL_law := uc44 _ (List.mem_of_getElem? (i := 13) rfl)
theorem wd_44_14 : Cond.methodLink RX9 374 yX9_at ∈ wsL_law := uc44 _ (List.mem_of_getElem? (i := 14) rfl)
theorem wd_44_15 : Cond.methodLink RX9 365 yX9_tell ∈ wsL_law := uc44 _ (List.mem_of_getElem? (i := 15) rfl)
theorem wd_44_16 : Cond.methodLink RX9 368 yX9_bucket ∈ wsL_law := uc44 _ (List.mem_of_getElem? (i := 16) rfl)
theorem wd_44_17 : Cond.methodLink RX9 370 yX9_chance ∈ wsL_law := uc44 _ (List.mem_of_getElem? (i := 17) rfl)
theorem wd_44_18 : Cond.methodLink RX9 326 yX9_babel ∈ wsL_law := uc44 _ (List.mem_of_getElem? (i := 18) rfl)
theorem wd_44_19 : Cond.methodLink RX9 329 yX9_iron ∈ wsL_law := uc44 _ (List.mem_of_getElem? (i := 19) rfl)
theorem wd_44_20 : Cond.methodLink RX9 332 yX9_never ∈ wsL_law := uc44 _ (List.mem_of_getElem? (i := 20) rfl)
theorem wd_44_21 : Cond.methodLink RX9 335 yX9_day ∈ wsL_law := uc44 _ (List.mem_of_getElem? (i := 21) rfl)
theorem wd_44_22 : Cond.methodLink RL 156 yX10_digest ∈ wsL_law := uc44 _ (List.mem_of_getElem? (i := 22) rfl)
theorem wd_44_23 : Cond.instanceMethod yX10_digest ∈ wsL_law := uc44 _ (List.mem_of_getElem? (i := 23) rfl)
theorem wd_45_0 : Cond.selects RX10 yX10_digest yX10_digest ∈ wsL_law := uc45 _ (List.mem_of_getElem? (i := 0) rfl)
theorem wd_45_1 : Cond.code yX10_digest cX10_digest 4 (some .long) ∈ wsL_law := uc45 _ (List.mem_of_getElem? (i := 1) rfl)
theorem wd_45_2 : Cond.constantLong RX10 351 (17) ∈ wsL_law := uc45 _ (List.mem_of_getElem? (i := 2) rfl)
theorem wd_45_3 : Cond.constantLong RX10 345 (31) ∈ wsL_law := uc45 _ (List.mem_of_getElem? (i := 3) rfl)
theorem wd_45_4 : Cond.methodLink RX10 353 yX10_count ∈ wsL_law := uc45 _ (List.mem_of_getElem? (i := 4) rfl)
theorem wd_45_5 : Cond.methodLink RX10 356 yX10_tellsWell ∈ wsL_law := uc45 _ (List.mem_of_getElem? (i := 5) rfl)
theorem wd_45_6 : Cond.instanceMethod yX10_tellsWell ∈ wsL_law := uc45 _ (List.mem_of_getElem? (i := 6) rfl)
theorem wd_45_7 : Cond.selects RX10 yX10_tellsWell yX10_tellsWell ∈ wsL_law := uc45 _ (List.mem_of_getElem? (i := 7) rfl)
theorem wd_45_8 : Cond.code yX10_tellsWell cX10_tellsWell 7 (some .long) ∈ wsL_law := uc45 _ (List.mem_of_getElem? (i := 8) rfl)
theorem wd_45_9 : Cond.methodLink RX10 360 yX10_tellsSaying ∈ wsL_law := uc45 _ (List.mem_of_getElem? (i := 9) rfl)
theorem wd_45_10 : Cond.instanceMethod yX10_tellsSaying ∈ wsL_law := uc45 _ (List.mem_of_getElem? (i := 10) rfl)
theorem wd_45_11 : Cond.selects RX10 yX10_tellsSaying yX10_tellsSaying ∈ wsL_law := uc45 _ (List.mem_of_getElem? (i := 11) rfl)
theorem wd_45_12 : Cond.code yX10_tellsSaying cX10_tellsSaying 7 (some .long) ∈ wsL_law := uc45 _ (List.mem_of_getElem? (i := 12) rfl)
theorem wd_45_13 : Cond.methodLink RX10 347 yX10_tellsHour ∈ wsL_law := uc45 _ (List.mem_of_getElem? (i := 13) rfl)
theorem wd_45_14 : Cond.instanceMethod yX10_tellsHour ∈ wsL_law := uc45 _ (List.mem_of_getElem? (i := 14) rfl)
theorem wd_45_15 : Cond.selects RX10 yX10_tellsHour yX10_tellsHour ∈ wsL_law := uc45 _ (List.mem_of_getElem? (i := 15) rfl)
theorem wd_45_16 : Cond.code yX10_tellsHour cX10_tellsHour 8 (some .long) ∈ wsL_law := uc45 _ (List.mem_of_getElem? (i := 16) rfl)
theorem nf_0 : ("WellTalk", 112, "WellTalk$Text", "length", "I") ∈ nwF := List.mem_of_getElem? (i := 0) rfl
theorem nf_1 : ("WellTalk", 116, "WellTalk$Text", "fault", "I") ∈ nwF := List.mem_of_getElem? (i := 1) rfl
theorem nf_2 : ("WellTalk", 119, "WellTalk$Wells", "count", "I") ∈ nwF := List.mem_of_getElem? (i := 2) rfl
theorem nf_3 : ("WellTalk", 122, "WellTalk$Wells", "stone", "[I") ∈ nwF := List.mem_of_getElem? (i := 3) rfl
theorem nf_4 : ("WellTalk", 125, "WellTalk$Wells", "height", "[I") ∈ nwF := List.mem_of_getElem? (i := 4) rfl
theorem nf_5 : ("WellTalk", 128, "WellTalk$Wells", "down", "[I") ∈ nwF := List.mem_of_getElem? (i := 5) rfl
theorem nf_6 : ("WellTalk", 131, "WellTalk$Wells", "up", "[I") ∈ nwF := List.mem_of_getElem? (i := 6) rfl
theorem nf_7 : ("WellTalk", 134, "WellTalk$Sayings", "count", "I") ∈ nwF := List.mem_of_getElem? (i := 7) rfl
theorem nf_8 : ("WellTalk", 135, "WellTalk$Sayings", "hour", "[I") ∈ nwF := List.mem_of_getElem? (i := 8) rfl
theorem nf_9 : ("WellTalk", 138, "WellTalk$Sayings", "well", "[I") ∈ nwF := List.mem_of_getElem? (i := 9) rfl
theorem nf_10 : ("WellTalk", 141, "WellTalk$Sayings", "bucket", "[I") ∈ nwF := List.mem_of_getElem? (i := 10) rfl
theorem nf_11 : ("WellTalk", 144, "WellTalk$Sayings", "size", "[I") ∈ nwF := List.mem_of_getElem? (i := 11) rfl
theorem nf_12 : ("WellTalk", 160, "WellTalk$Events", "count", "I") ∈ nwF := List.mem_of_getElem? (i := 12) rfl
theorem nf_13 : ("WellTalk", 176, "WellTalk$Path", "left", "[I") ∈ nwF := List.mem_of_getElem? (i := 13) rfl
theorem nf_14 : ("WellTalk", 179, "WellTalk$Path", "well", "[I") ∈ nwF := List.mem_of_getElem? (i := 14) rfl
theorem nf_15 : ("WellTalk", 180, "WellTalk$Path", "first", "[I") ∈ nwF := List.mem_of_getElem? (i := 15) rfl
theorem nf_16 : ("WellTalk", 183, "WellTalk$Path", "heard", "[I") ∈ nwF := List.mem_of_getElem? (i := 16) rfl
theorem nf_17 : ("WellTalk", 205, "WellTalk$BestCoin", "hour", "I") ∈ nwF := List.mem_of_getElem? (i := 17) rfl
theorem nf_18 : ("WellTalk", 207, "WellTalk$BestCoin", "well", "I") ∈ nwF := List.mem_of_getElem? (i := 18) rfl
theorem nf_19 : ("WellTalk", 209, "WellTalk$BestCoin", "many", "I") ∈ nwF := List.mem_of_getElem? (i := 19) rfl
theorem nf_20 : ("WellTalk", 231, "WellTalk$Draws", "count", "I") ∈ nwF := List.mem_of_getElem? (i := 20) rfl
theorem nf_21 : ("WellTalk", 270, "WellTalk$Wells", "last", "I") ∈ nwF := List.mem_of_getElem? (i := 21) rfl
theorem nf_22 : ("WellTalk", 276, "WellTalk$Sheet", "size", "I") ∈ nwF := List.mem_of_getElem? (i := 22) rfl
theorem nf_23 : ("WellTalk", 286, "WellTalk$Sheet", "items", "[I") ∈ nwF := List.mem_of_getElem? (i := 23) rfl
theorem nf_24 : ("WellTalk", 289, "WellTalk$Sheet", "form", "I") ∈ nwF := List.mem_of_getElem? (i := 24) rfl
theorem nf_25 : ("WellTalk", 398, "WellTalk$Hours", "coins", "[I") ∈ nwF := List.mem_of_getElem? (i := 25) rfl
theorem nf_26 : ("WellTalk", 401, "WellTalk$Path", "heardAt", "I") ∈ nwF := List.mem_of_getElem? (i := 26) rfl
theorem nf_27 : ("WellTalk", 404, "WellTalk$Events", "kind", "[I") ∈ nwF := List.mem_of_getElem? (i := 27) rfl
theorem nf_28 : ("WellTalk", 407, "WellTalk$Draws", "saying", "[I") ∈ nwF := List.mem_of_getElem? (i := 28) rfl
theorem nf_29 : ("WellTalk", 409, "WellTalk$Draws", "hour", "[I") ∈ nwF := List.mem_of_getElem? (i := 29) rfl
theorem nf_30 : ("WellTalk", 410, "WellTalk$Draws", "letters", "[I") ∈ nwF := List.mem_of_getElem? (i := 30) rfl
theorem nf_31 : ("WellTalk$Hours", 22, "WellTalk$Events", "count", "I") ∈ nwF := List.mem_of_getElem? (i := 31) rfl
theorem nf_32 : ("WellTalk$Hours", 28, "WellTalk$Events", "hour", "[I") ∈ nwF := List.mem_of_getElem? (i := 32) rfl
theorem nf_33 : ("WellTalk$Hours", 35, "WellTalk$Events", "kind", "[I") ∈ nwF := List.mem_of_getElem? (i := 33) rfl
theorem nf_34 : ("WellTalk$Hours", 38, "WellTalk$Events", "well", "[I") ∈ nwF := List.mem_of_getElem? (i := 34) rfl
theorem nf_35 : ("WellTalk$Path", 34, "WellTalk$Sayings", "size", "[I") ∈ nwF := List.mem_of_getElem? (i := 35) rfl
theorem nf_36 : ("WellTalk$Path", 45, "WellTalk$Sayings", "hour", "[I") ∈ nwF := List.mem_of_getElem? (i := 36) rfl
theorem nf_37 : ("WellTalk$Path", 48, "WellTalk$Hours", "covered", "[I") ∈ nwF := List.mem_of_getElem? (i := 37) rfl
theorem nf_38 : ("WellTalk$Path", 70, "WellTalk$Wells", "stone", "[I") ∈ nwF := List.mem_of_getElem? (i := 38) rfl
theorem nf_39 : ("WellTalk$Path", 77, "WellTalk$Wells", "count", "I") ∈ nwF := List.mem_of_getElem? (i := 39) rfl
theorem nf_40 : ("WellTalk$Path", 80, "WellTalk$Hours", "dry", "[Z") ∈ nwF := List.mem_of_getElem? (i := 40) rfl
theorem nf_41 : ("WellTalk$Path", 84, "WellTalk$Wells", "last", "I") ∈ nwF := List.mem_of_getElem? (i := 41) rfl
theorem nf_42 : ("WellTalk$Path", 87, "WellTalk$Hours", "coins", "[I") ∈ nwF := List.mem_of_getElem? (i := 42) rfl
theorem nf_43 : ("WellTalk$Path", 90, "WellTalk$Wells", "up", "[I") ∈ nwF := List.mem_of_getElem? (i := 43) rfl
theorem nf_44 : ("WellTalk$Path", 93, "WellTalk$Wells", "down", "[I") ∈ nwF := List.mem_of_getElem? (i := 44) rfl
theorem nf_45 : ("WellTalk$Sayings", 31, "WellTalk$Text", "length", "I") ∈ nwF := List.mem_of_getElem? (i := 45) rfl
theorem nf_46 : ("WellTalk$Wells", 31, "WellTalk$Text", "length", "I") ∈ nwF := List.mem_of_getElem? (i := 46) rfl
theorem nm_0 : ("WellTalk", 20, yX8_init) ∈ nwM := List.mem_of_getElem? (i := 0) rfl
theorem nm_1 : ("WellTalk", 27, yX5_init) ∈ nwM := List.mem_of_getElem? (i := 1) rfl
theorem nm_2 : ("WellTalk", 34, yX2_init) ∈ nwM := List.mem_of_getElem? (i := 2) rfl
theorem nm_3 : ("WellTalk", 41, yX1_init) ∈ nwM := List.mem_of_getElem? (i := 3) rfl
theorem nm_4 : ("WellTalk", 48, yX6_init) ∈ nwM := List.mem_of_getElem? (i := 4) rfl
theorem nm_5 : ("WellTalk", 55, yX3_init) ∈ nwM := List.mem_of_getElem? (i := 5) rfl
theorem nm_6 : ("WellTalk", 62, yX4_init) ∈ nwM := List.mem_of_getElem? (i := 6) rfl
theorem nm_7 : ("WellTalk", 93, yX0_init) ∈ nwM := List.mem_of_getElem? (i := 7) rfl
theorem nm_8 : ("WellTalk$Hours", 31, yX9_in) ∈ nwM := List.mem_of_getElem? (i := 8) rfl
theorem nm_9 : ("WellTalk$Path", 96, yX9_in) ∈ nwM := List.mem_of_getElem? (i := 9) rfl
theorem nm_10 : ("WellTalk$Sayings", 61, yX9_in) ∈ nwM := List.mem_of_getElem? (i := 10) rfl
theorem nm_11 : ("WellTalk$Sheet", 28, yX9_in) ∈ nwM := List.mem_of_getElem? (i := 11) rfl
theorem nm_12 : ("WellTalk$Text", 28, yX9_in) ∈ nwM := List.mem_of_getElem? (i := 12) rfl
theorem nm_13 : ("WellTalk$Wells", 53, yX9_in) ∈ nwM := List.mem_of_getElem? (i := 13) rfl
theorem ks_0 : ("WellTalk$Sayings", 47, ";", 0) ∈ kst := List.mem_of_getElem? (i := 0) rfl
theorem ks_1 : ("WellTalk$Sayings", 53, "abcdefghijklmnopqrstuvwx", 1) ∈ kst := List.mem_of_getElem? (i := 1) rfl
theorem ks_2 : ("WellTalk$Sayings", 55, "01234567", 2) ∈ kst := List.mem_of_getElem? (i := 2) rfl
theorem ks_3 : ("WellTalk$Sayings", 57, "iw", 3) ∈ kst := List.mem_of_getElem? (i := 3) rfl
theorem ks_4 : ("WellTalk$Sayings", 59, "abcdefgh", 4) ∈ kst := List.mem_of_getElem? (i := 4) rfl
theorem ks_5 : ("WellTalk$Wells", 43, "gcs", 5) ∈ kst := List.mem_of_getElem? (i := 5) rfl
theorem ks_6 : ("WellTalk$Wells", 49, "0123456789", 6) ∈ kst := List.mem_of_getElem? (i := 6) rfl
theorem ks_7 : ("WellTalk$Wells", 51, ";", 0) ∈ kst := List.mem_of_getElem? (i := 7) rfl
theorem mf_X0_clear : mFix yX0_clear cX0_clear 1 none 0 := ⟨wd_28_13, wd_3_6, by decide +kernel⟩
theorem mv_X0_clear : mVirt yX0_clear := ⟨wd_28_11, wd_28_12⟩
theorem mf_X0_offer : mFix yX0_offer cX0_offer 4 none 3 := ⟨wd_29_1, wd_3_6, by decide +kernel⟩
theorem mv_X0_offer : mVirt yX0_offer := ⟨wd_28_23, wd_29_0⟩
theorem mf_X1_add : mFix yX1_add cX1_add 4 (some .boolean) 3 := ⟨wd_32_7, wd_2_6, by decide +kernel⟩
theorem mv_X1_add : mVirt yX1_add := ⟨wd_32_5, wd_32_6⟩
theorem mf_X2_add : mFix yX2_add cX2_add 4 (some .boolean) 3 := ⟨wd_17_21, wd_2_2, by decide +kernel⟩
theorem mv_X2_add : mVirt yX2_add := ⟨wd_17_19, wd_17_20⟩
theorem mf_X9_in : mFix yX9_in cX9_in 2 (some .boolean) 2 := ⟨wd_7_9, wd_1_2, by decide +kernel⟩
theorem mf_X3_put : mFix yX3_put cX3_put 5 none 3 := ⟨wd_20_21, wd_2_14, by decide +kernel⟩
theorem mv_X3_put : mVirt yX3_put := ⟨wd_20_19, wd_20_20⟩
theorem mf_X3_fill : mFix yX3_fill cX3_fill 4 none 2 := ⟨wd_20_17, wd_2_14, by decide +kernel⟩
theorem mv_X3_fill : mVirt yX3_fill := ⟨wd_20_15, wd_20_16⟩
theorem mf_X4_begin : mFix yX4_begin cX4_begin 4 none 3 := ⟨wd_21_11, wd_2_18, by decide +kernel⟩
theorem mv_X4_begin : mVirt yX4_begin := ⟨wd_21_9, wd_21_10⟩
theorem mf_X8_stay : mFix yX8_stay cX8_stay 2 (some .int) 1 := ⟨wd_21_15, wd_1_18, by decide +kernel⟩
theorem mv_X8_stay : mVirt yX8_stay := ⟨wd_21_13, wd_21_14⟩
theorem mf_X4_next : mFix yX4_next cX4_next 8 (some .int) 3 := ⟨wd_21_19, wd_2_18, by decide +kernel⟩
theorem mv_X4_next : mVirt yX4_next := ⟨wd_21_17, wd_21_18⟩
theorem mf_X4_come : mFix yX4_come cX4_come 4 none 3 := ⟨wd_21_23, wd_2_18, by decide +kernel⟩
theorem mv_X4_come : mVirt yX4_come := ⟨wd_21_21, wd_21_22⟩
theorem mf_X4_follow : mFix yX4_follow cX4_follow 10 none 6 := ⟨wd_21_1, wd_2_18, by decide +kernel⟩
theorem mv_X4_follow : mVirt yX4_follow := ⟨wd_20_23, wd_21_0⟩
theorem mf_X4_isHeardAt : mFix yX4_isHeardAt cX4_isHeardAt 2 (some .boolean) 1 := ⟨wd_25_1, wd_2_18, by decide +kernel⟩
theorem mv_X4_isHeardAt : mVirt yX4_isHeardAt := ⟨wd_24_23, wd_25_0⟩
theorem mf_X4_firstHeard : mFix yX4_firstHeard cX4_firstHeard 3 (some .int) 1 := ⟨wd_25_21, wd_2_18, by decide +kernel⟩
theorem mv_X4_firstHeard : mVirt yX4_firstHeard := ⟨wd_25_19, wd_25_20⟩
theorem mf_X4_timesHeard : mFix yX4_timesHeard cX4_timesHeard 3 (some .int) 0 := ⟨wd_43_1, wd_2_18, by decide +kernel⟩
theorem mv_X4_timesHeard : mVirt yX4_timesHeard := ⟨wd_42_23, wd_43_0⟩
theorem mf_X4_isGone : mFix yX4_isGone cX4_isGone 1 (some .boolean) 0 := ⟨wd_26_13, wd_2_18, by decide +kernel⟩
theorem mv_X4_isGone : mVirt yX4_isGone := ⟨wd_26_11, wd_26_12⟩
theorem mf_J0_isLatin1_aae02 : mFix yJ0_isLatin1_aae02 cJ0_isLatin1_aae02 1 (some .boolean) 0 := ⟨wd_8_21, wd_8_11, by decide +kernel⟩
theorem mv_J0_isLatin1_aae02 : mVirt yJ0_isLatin1_aae02 := ⟨wd_8_19, wd_8_20⟩
theorem mf_J0_coder_7d493 : mFix yJ0_coder_7d493 cJ0_coder_7d493 1 (some .byte) 0 := ⟨wd_9_7, wd_8_11, by decide +kernel⟩
theorem mv_J0_coder_7d493 : mVirt yJ0_coder_7d493 := ⟨wd_9_5, wd_9_6⟩
theorem mf_J0_length_8abf5 : mFix yJ0_length_8abf5 cJ0_length_8abf5 1 (some .int) 0 := ⟨wd_9_3, wd_8_11, by decide +kernel⟩
theorem mv_J0_length_8abf5 : mVirt yJ0_length_8abf5 := ⟨wd_9_1, wd_9_2⟩
theorem mf_J1_canEncode_9a6ad : mFix yJ1_canEncode_9a6ad cJ1_canEncode_9a6ad 1 (some .boolean) 1 := ⟨wd_9_18, wd_9_10, by decide +kernel⟩
theorem mf_J1_indexOfChar_4cfef : mFix yJ1_indexOfChar_4cfef cJ1_indexOfChar_4cfef 6 (some .int) 4 := ⟨wd_9_21, wd_9_10, by decide +kernel⟩
theorem mf_J1_indexOf_4cfef : mFix yJ1_indexOf_4cfef cJ1_indexOf_4cfef 4 (some .int) 4 := ⟨wd_9_11, wd_9_10, by decide +kernel⟩
theorem mf_J0_indexOf_7cf53 : mFix yJ0_indexOf_7cf53 cJ0_indexOf_7cf53 3 (some .int) 2 := ⟨wd_8_16, wd_8_11, by decide +kernel⟩
theorem mv_J0_indexOf_7cf53 : mVirt yJ0_indexOf_7cf53 := ⟨wd_8_14, wd_8_15⟩
theorem mf_J0_indexOf_0f7a4 : mFix yJ0_indexOf_0f7a4 cJ0_indexOf_0f7a4 2 (some .int) 1 := ⟨wd_8_12, wd_8_11, by decide +kernel⟩
theorem mv_J0_indexOf_0f7a4 : mVirt yJ0_indexOf_0f7a4 := ⟨wd_8_9, wd_8_10⟩
theorem mf_X7_sign : mFix yX7_sign cX7_sign 3 (some .int) 2 := ⟨wd_8_7, wd_1_14, by decide +kernel⟩
theorem mv_X7_sign : mVirt yX7_sign := ⟨wd_8_5, wd_8_6⟩
theorem mf_X5_takeHead : mFix yX5_takeHead cX5_takeHead 4 (some .int) 3 := ⟨wd_12_14, wd_1_22, by decide +kernel⟩
theorem mv_X5_takeHead : mVirt yX5_takeHead := ⟨wd_12_12, wd_12_13⟩
theorem mf_X5_takeWord : mFix yX5_takeWord cX5_takeWord 6 (some .int) 3 := ⟨wd_12_19, wd_1_22, by decide +kernel⟩
theorem mv_X5_takeWord : mVirt yX5_takeWord := ⟨wd_12_17, wd_12_18⟩
theorem mf_X5_takeAll : mFix yX5_takeAll cX5_takeAll 5 (some .int) 1 := ⟨wd_12_10, wd_1_22, by decide +kernel⟩
theorem mv_X5_takeAll : mVirt yX5_takeAll := ⟨wd_12_8, wd_12_9⟩
theorem mf_X5_take : mFix yX5_take cX5_take 3 (some .int) 1 := ⟨wd_12_5, wd_1_22, by decide +kernel⟩
theorem mv_X5_take : mVirt yX5_take := ⟨wd_12_3, wd_12_4⟩
theorem mf_X5_letter : mFix yX5_letter cX5_letter 3 (some .int) 2 := ⟨wd_16_21, wd_1_22, by decide +kernel⟩
theorem mv_X5_letter : mVirt yX5_letter := ⟨wd_16_19, wd_16_20⟩
theorem mf_J7_fill_53178 : mFix yJ7_fill_53178 cJ7_fill_53178 4 none 2 := ⟨wd_28_21, wd_28_20, by decide +kernel⟩
theorem mf_X6_renew : mFix yX6_renew cX6_renew 3 none 2 := ⟨wd_39_14, wd_2_10, by decide +kernel⟩
theorem mv_X6_renew : mVirt yX6_renew := ⟨wd_39_12, wd_39_13⟩
theorem mf_X6_isLost : mFix yX6_isLost cX6_isLost 1 (some .boolean) 0 := ⟨wd_19_7, wd_2_10, by decide +kernel⟩
theorem mv_X6_isLost : mVirt yX6_isLost := ⟨wd_19_5, wd_19_6⟩
theorem mf_X6_put : mFix yX6_put cX6_put 3 none 2 := ⟨wd_40_15, wd_2_10, by decide +kernel⟩
theorem mv_X6_put : mVirt yX6_put := ⟨wd_40_13, wd_40_14⟩
theorem mf_X6_hasRun : mFix yX6_hasRun cX6_hasRun 3 (some .boolean) 2 := ⟨wd_42_0, wd_2_10, by decide +kernel⟩
theorem mv_X6_hasRun : mVirt yX6_hasRun := ⟨wd_41_22, wd_41_23⟩
theorem mf_X7_add : mFix yX7_add cX7_add 2 (some .boolean) 1 := ⟨wd_7_13, wd_1_14, by decide +kernel⟩
theorem mv_X7_add : mVirt yX7_add := ⟨wd_7_11, wd_7_12⟩
theorem mf_X8_takeAll : mFix yX8_takeAll cX8_takeAll 4 (some .int) 1 := ⟨wd_8_3, wd_1_18, by decide +kernel⟩
theorem mv_X8_takeAll : mVirt yX8_takeAll := ⟨wd_8_1, wd_8_2⟩
theorem mf_X8_rank : mFix yX8_rank cX8_rank 3 none 0 := ⟨wd_12_1, wd_1_18, by decide +kernel⟩
theorem mv_X8_rank : mVirt yX8_rank := ⟨wd_11_23, wd_12_0⟩
theorem mf_X8_take : mFix yX8_take cX8_take 3 (some .int) 1 := ⟨wd_7_22, wd_1_18, by decide +kernel⟩
theorem mv_X8_take : mVirt yX8_take := ⟨wd_7_20, wd_7_21⟩
theorem mf_X8_become : mFix yX8_become cX8_become 3 none 1 := ⟨wd_34_5, wd_1_18, by decide +kernel⟩
theorem mv_X8_become : mVirt yX8_become := ⟨wd_34_3, wd_34_4⟩
theorem mf_X8_raise : mFix yX8_raise cX8_raise 3 none 2 := ⟨wd_34_13, wd_1_18, by decide +kernel⟩
theorem mv_X8_raise : mVirt yX8_raise := ⟨wd_34_11, wd_34_12⟩
theorem mf_X9_changed : mFix yX9_changed cX9_changed 1 none 0 := ⟨wd_12_23, wd_1_2, by decide +kernel⟩
theorem mv_X9_changed : mVirt yX9_changed := ⟨wd_12_21, wd_12_22⟩
theorem mf_X9_textChanged : mFix yX9_textChanged cX9_textChanged 2 none 1 := ⟨wd_7_18, wd_1_2, by decide +kernel⟩
theorem mv_X9_textChanged : mVirt yX9_textChanged := ⟨wd_7_16, wd_7_17⟩
theorem mf_X9_type : mFix yX9_type cX9_type 3 (some .int) 2 := ⟨wd_7_6, wd_1_2, by decide +kernel⟩
theorem mv_X9_type : mVirt yX9_type := ⟨wd_7_4, wd_7_5⟩
theorem mf_X9_wipe : mFix yX9_wipe cX9_wipe 3 (some .int) 1 := ⟨wd_13_14, wd_1_2, by decide +kernel⟩
theorem mv_X9_wipe : mVirt yX9_wipe := ⟨wd_13_12, wd_13_13⟩
theorem mf_X9_undo : mFix yX9_undo cX9_undo 2 (some .int) 1 := ⟨wd_13_22, wd_1_2, by decide +kernel⟩
theorem mv_X9_undo : mVirt yX9_undo := ⟨wd_13_20, wd_13_21⟩
theorem mf_X9_fault : mFix yX9_fault cX9_fault 2 (some .int) 1 := ⟨wd_14_6, wd_1_2, by decide +kernel⟩
theorem mv_X9_fault : mVirt yX9_fault := ⟨wd_14_4, wd_14_5⟩
theorem mf_X9_well : mFix yX9_well cX9_well 3 (some .int) 2 := ⟨wd_15_16, wd_1_2, by decide +kernel⟩
theorem mv_X9_well : mVirt yX9_well := ⟨wd_15_14, wd_15_15⟩
theorem mf_X9_saying : mFix yX9_saying cX9_saying 3 (some .int) 2 := ⟨wd_16_17, wd_1_2, by decide +kernel⟩
theorem mv_X9_saying : mVirt yX9_saying := ⟨wd_16_15, wd_16_16⟩
theorem mf_X9_mayBeEvent : mFix yX9_mayBeEvent cX9_mayBeEvent 3 (some .boolean) 3 := ⟨wd_17_17, wd_1_2, by decide +kernel⟩
theorem mf_X9_event : mFix yX9_event cX9_event 4 (some .int) 3 := ⟨wd_17_14, wd_1_2, by decide +kernel⟩
theorem mv_X9_event : mVirt yX9_event := ⟨wd_17_12, wd_17_13⟩
theorem mf_X9_back : mFix yX9_back cX9_back 1 (some .int) 0 := ⟨wd_18_19, wd_1_2, by decide +kernel⟩
theorem mv_X9_back : mVirt yX9_back := ⟨wd_18_17, wd_18_18⟩
theorem mf_X9_finding : mFix yX9_finding cX9_finding 2 (some .int) 1 := ⟨wd_19_11, wd_1_2, by decide +kernel⟩
theorem mv_X9_finding : mVirt yX9_finding := ⟨wd_19_9, wd_19_10⟩
theorem mf_X9_addEvents : mFix yX9_addEvents cX9_addEvents 7 (some .int) 1 := ⟨wd_19_16, wd_1_2, by decide +kernel⟩
theorem mv_X9_addEvents : mVirt yX9_addEvents := ⟨wd_19_14, wd_19_15⟩
theorem mf_X9_read : mFix yX9_read cX9_read 3 (some .int) 1 := ⟨wd_19_3, wd_1_2, by decide +kernel⟩
theorem mv_X9_read : mVirt yX9_read := ⟨wd_19_1, wd_19_2⟩
theorem mf_X9_refresh : mFix yX9_refresh cX9_refresh 2 none 0 := ⟨wd_20_13, wd_1_2, by decide +kernel⟩
theorem mv_X9_refresh : mVirt yX9_refresh := ⟨wd_20_11, wd_20_12⟩
theorem mf_X9_at : mFix yX9_at cX9_at 6 (some .int) 3 := ⟨wd_20_9, wd_1_2, by decide +kernel⟩
theorem mv_X9_at : mVirt yX9_at := ⟨wd_20_7, wd_20_8⟩
theorem mf_X9_hears : mFix yX9_hears cX9_hears 4 (some .int) 1 := ⟨wd_24_21, wd_1_2, by decide +kernel⟩
theorem mv_X9_hears : mVirt yX9_hears := ⟨wd_24_19, wd_24_20⟩
theorem mf_X9_soon : mFix yX9_soon cX9_soon 5 (some .int) 1 := ⟨wd_25_17, wd_1_2, by decide +kernel⟩
theorem mv_X9_soon : mVirt yX9_soon := ⟨wd_25_15, wd_25_16⟩
theorem mf_X9_gone : mFix yX9_gone cX9_gone 3 (some .int) 0 := ⟨wd_26_9, wd_1_2, by decide +kernel⟩
theorem mv_X9_gone : mVirt yX9_gone := ⟨wd_26_7, wd_26_8⟩
theorem mf_X9_leastWellOfTwo : mFix yX9_leastWellOfTwo cX9_leastWellOfTwo 6 (some .int) 1 := ⟨wd_27_5, wd_1_2, by decide +kernel⟩
theorem mv_X9_leastWellOfTwo : mVirt yX9_leastWellOfTwo := ⟨wd_27_3, wd_27_4⟩
theorem mf_X9_babel : mFix yX9_babel cX9_babel 4 (some .int) 1 := ⟨wd_27_1, wd_1_2, by decide +kernel⟩
theorem mv_X9_babel : mVirt yX9_babel := ⟨wd_26_23, wd_27_0⟩
theorem mf_X9_tell : mFix yX9_tell cX9_tell 8 (some .int) 3 := ⟨wd_27_17, wd_1_2, by decide +kernel⟩
theorem mv_X9_tell : mVirt yX9_tell := ⟨wd_27_15, wd_27_16⟩
theorem mf_X9_countHeard : mFix yX9_countHeard cX9_countHeard 7 none 2 := ⟨wd_28_17, wd_1_2, by decide +kernel⟩
theorem mv_X9_countHeard : mVirt yX9_countHeard := ⟨wd_28_15, wd_28_16⟩
theorem mf_X9_planCoins : mFix yX9_planCoins cX9_planCoins 4 none 0 := ⟨wd_28_9, wd_1_2, by decide +kernel⟩
theorem mv_X9_planCoins : mVirt yX9_planCoins := ⟨wd_28_7, wd_28_8⟩
theorem mf_X9_toss : mFix yX9_toss cX9_toss 3 (some .int) 2 := ⟨wd_28_5, wd_1_2, by decide +kernel⟩
theorem mv_X9_toss : mVirt yX9_toss := ⟨wd_28_3, wd_28_4⟩
theorem mf_X9_allHeardWithout : mFix yX9_allHeardWithout cX9_allHeardWithout 4 (some .boolean) 2 := ⟨wd_29_23, wd_1_2, by decide +kernel⟩
theorem mv_X9_allHeardWithout : mVirt yX9_allHeardWithout := ⟨wd_29_21, wd_29_22⟩
theorem mf_X9_oneLidToOpen : mFix yX9_oneLidToOpen cX9_oneLidToOpen 3 (some .int) 1 := ⟨wd_30_3, wd_1_2, by decide +kernel⟩
theorem mv_X9_oneLidToOpen : mVirt yX9_oneLidToOpen := ⟨wd_30_1, wd_30_2⟩
theorem mf_X9_twoLidsToOpen : mFix yX9_twoLidsToOpen cX9_twoLidsToOpen 6 (some .int) 2 := ⟨wd_30_7, wd_1_2, by decide +kernel⟩
theorem mv_X9_twoLidsToOpen : mVirt yX9_twoLidsToOpen := ⟨wd_30_5, wd_30_6⟩
theorem mf_X9_open : mFix yX9_open cX9_open 4 (some .int) 2 := ⟨wd_29_19, wd_1_2, by decide +kernel⟩
theorem mv_X9_open : mVirt yX9_open := ⟨wd_29_17, wd_29_18⟩
theorem mf_J6_bitCount_0f7a4 : mFix yJ6_bitCount_0f7a4 cJ6_bitCount_0f7a4 1 (some .int) 1 := ⟨wd_31_9, wd_31_8, by decide +kernel⟩
theorem mf_X9_iron : mFix yX9_iron cX9_iron 8 (some .int) 1 := ⟨wd_31_4, wd_1_2, by decide +kernel⟩
theorem mv_X9_iron : mVirt yX9_iron := ⟨wd_31_2, wd_31_3⟩
theorem mf_X9_draw : mFix yX9_draw cX9_draw 4 (some .int) 3 := ⟨wd_32_3, wd_1_2, by decide +kernel⟩
theorem mv_X9_draw : mVirt yX9_draw := ⟨wd_32_1, wd_32_2⟩
theorem mf_X9_forget : mFix yX9_forget cX9_forget 2 (some .int) 0 := ⟨wd_32_17, wd_1_2, by decide +kernel⟩
theorem mv_X9_forget : mVirt yX9_forget := ⟨wd_32_15, wd_32_16⟩
theorem mf_X9_comesOut : mFix yX9_comesOut cX9_comesOut 7 (some .boolean) 4 := ⟨wd_33_5, wd_1_2, by decide +kernel⟩
theorem mv_X9_comesOut : mVirt yX9_comesOut := ⟨wd_33_3, wd_33_4⟩
theorem mf_X9_never : mFix yX9_never cX9_never 3 (some .int) 0 := ⟨wd_33_1, wd_1_2, by decide +kernel⟩
theorem mv_X9_never : mVirt yX9_never := ⟨wd_32_23, wd_33_0⟩
theorem mf_X9_stonesOf : mFix yX9_stonesOf cX9_stonesOf 4 (some .int) 1 := ⟨wd_34_1, wd_1_2, by decide +kernel⟩
theorem mv_X9_stonesOf : mVirt yX9_stonesOf := ⟨wd_33_23, wd_34_0⟩
theorem mf_X9_heightsOf : mFix yX9_heightsOf cX9_heightsOf 4 (some .int) 1 := ⟨wd_34_9, wd_1_2, by decide +kernel⟩
theorem mv_X9_heightsOf : mVirt yX9_heightsOf := ⟨wd_34_7, wd_34_8⟩
theorem mf_X9_stone : mFix yX9_stone cX9_stone 3 (some .int) 2 := ⟨wd_33_21, wd_1_2, by decide +kernel⟩
theorem mv_X9_stone : mVirt yX9_stone := ⟨wd_33_19, wd_33_20⟩
theorem mf_X9_bucket : mFix yX9_bucket cX9_bucket 4 (some .int) 1 := ⟨wd_35_9, wd_1_2, by decide +kernel⟩
theorem mv_X9_bucket : mVirt yX9_bucket := ⟨wd_35_7, wd_35_8⟩
theorem mf_X9_countInWell : mFix yX9_countInWell cX9_countInWell 6 none 2 := ⟨wd_36_1, wd_1_2, by decide +kernel⟩
theorem mv_X9_countInWell : mVirt yX9_countInWell := ⟨wd_35_23, wd_36_0⟩
theorem mf_X9_mostAlike : mFix yX9_mostAlike cX9_mostAlike 6 (some .int) 2 := ⟨wd_36_5, wd_1_2, by decide +kernel⟩
theorem mv_X9_mostAlike : mVirt yX9_mostAlike := ⟨wd_36_3, wd_36_4⟩
theorem mf_X9_ask : mFix yX9_ask cX9_ask 7 (some .int) 1 := ⟨wd_35_21, wd_1_2, by decide +kernel⟩
theorem mv_X9_ask : mVirt yX9_ask := ⟨wd_35_19, wd_35_20⟩
theorem mf_X9_power : mFix yX9_power cX9_power 6 (some .long) 2 := ⟨wd_37_8, wd_1_2, by decide +kernel⟩
theorem mf_X9_heardWeight : mFix yX9_heardWeight cX9_heardWeight 10 (some .long) 3 := ⟨wd_37_5, wd_1_2, by decide +kernel⟩
theorem mv_X9_heardWeight : mVirt yX9_heardWeight := ⟨wd_37_3, wd_37_4⟩
theorem mf_X9_chance : mFix yX9_chance cX9_chance 10 (some .long) 4 := ⟨wd_36_22, wd_1_2, by decide +kernel⟩
theorem mv_X9_chance : mVirt yX9_chance := ⟨wd_36_20, wd_36_21⟩
theorem mf_X9_nextSeed : mFix yX9_nextSeed cX9_nextSeed 1 (some .int) 1 := ⟨wd_38_11, wd_1_2, by decide +kernel⟩
theorem mf_X9_lot : mFix yX9_lot cX9_lot 2 (some .int) 2 := ⟨wd_38_15, wd_1_2, by decide +kernel⟩
theorem mf_X9_drawLots : mFix yX9_drawLots cX9_drawLots 7 none 2 := ⟨wd_38_8, wd_1_2, by decide +kernel⟩
theorem mv_X9_drawLots : mVirt yX9_drawLots := ⟨wd_38_6, wd_38_7⟩
theorem mf_X9_day : mFix yX9_day cX9_day 7 (some .int) 3 := ⟨wd_38_4, wd_1_2, by decide +kernel⟩
theorem mv_X9_day : mVirt yX9_day := ⟨wd_38_2, wd_38_3⟩
theorem mf_X9_sheet : mFix yX9_sheet cX9_sheet 4 (some .int) 3 := ⟨wd_39_10, wd_1_2, by decide +kernel⟩
theorem mv_X9_sheet : mVirt yX9_sheet := ⟨wd_39_8, wd_39_9⟩
theorem mf_X9_lose : mFix yX9_lose cX9_lose 3 (some .int) 1 := ⟨wd_40_0, wd_1_2, by decide +kernel⟩
theorem mv_X9_lose : mVirt yX9_lose := ⟨wd_39_22, wd_39_23⟩
theorem mf_X9_itemFinding : mFix yX9_itemFinding cX9_itemFinding 3 (some .int) 3 := ⟨wd_40_11, wd_1_2, by decide +kernel⟩
theorem mf_X9_lay : mFix yX9_lay cX9_lay 6 (some .int) 4 := ⟨wd_40_8, wd_1_2, by decide +kernel⟩
theorem mv_X9_lay : mVirt yX9_lay := ⟨wd_40_6, wd_40_7⟩
theorem mf_X9_get : mFix yX9_get cX9_get 5 (some .int) 3 := ⟨wd_41_6, wd_1_2, by decide +kernel⟩
theorem mv_X9_get : mVirt yX9_get := ⟨wd_41_4, wd_41_5⟩
theorem mf_X9_copy : mFix yX9_copy cX9_copy 8 (some .int) 5 := ⟨wd_41_16, wd_1_2, by decide +kernel⟩
theorem mv_X9_copy : mVirt yX9_copy := ⟨wd_41_14, wd_41_15⟩
theorem mf_X9_write : mFix yX9_write cX9_write 5 (some .int) 2 := ⟨wd_42_8, wd_1_2, by decide +kernel⟩
theorem mv_X9_write : mVirt yX9_write := ⟨wd_42_6, wd_42_7⟩
theorem mf_X9_timesHeard : mFix yX9_timesHeard cX9_timesHeard 3 (some .int) 0 := ⟨wd_42_21, wd_1_2, by decide +kernel⟩
theorem mv_X9_timesHeard : mVirt yX9_timesHeard := ⟨wd_42_19, wd_42_20⟩
theorem mf_X9_count : mFix yX9_count cX9_count 2 (some .int) 1 := ⟨wd_42_17, wd_1_2, by decide +kernel⟩
theorem mv_X9_count : mVirt yX9_count := ⟨wd_42_15, wd_42_16⟩
theorem mf_X9_withWell : mFix yX9_withWell cX9_withWell 7 (some .long) 2 := ⟨wd_43_21, wd_1_2, by decide +kernel⟩
theorem mv_X9_withWell : mVirt yX9_withWell := ⟨wd_43_19, wd_43_20⟩
theorem mf_X9_withHour : mFix yX9_withHour cX9_withHour 8 (some .long) 3 := ⟨wd_44_13, wd_1_2, by decide +kernel⟩
theorem mv_X9_withHour : mVirt yX9_withHour := ⟨wd_44_11, wd_44_12⟩
theorem mf_X9_withSaying : mFix yX9_withSaying cX9_withSaying 7 (some .long) 2 := ⟨wd_44_8, wd_1_2, by decide +kernel⟩
theorem mv_X9_withSaying : mVirt yX9_withSaying := ⟨wd_44_6, wd_44_7⟩
theorem mf_X9_digest : mFix yX9_digest cX9_digest 4 (some .long) 0 := ⟨wd_43_13, wd_1_2, by decide +kernel⟩
theorem mv_X9_digest : mVirt yX9_digest := ⟨wd_43_11, wd_43_12⟩
theorem mf_X10_in : mFix yX10_in cX10_in 6 (some .boolean) 3 := ⟨wd_13_10, wd_1_5, by decide +kernel⟩
theorem mf_X10_no : mFix yX10_no cX10_no 1 (some .long) 1 := ⟨wd_37_23, wd_1_5, by decide +kernel⟩
theorem mf_X10_isTwo : mFix yX10_isTwo cX10_isTwo 1 (some .boolean) 1 := ⟨wd_13_7, wd_1_5, by decide +kernel⟩
theorem mf_X10_isIn : mFix yX10_isIn cX10_isIn 2 (some .boolean) 2 := ⟨wd_23_4, wd_1_5, by decide +kernel⟩
theorem mf_X10_ones : mFix yX10_ones cX10_ones 3 (some .int) 1 := ⟨wd_29_12, wd_1_5, by decide +kernel⟩
theorem mf_X10_lesser : mFix yX10_lesser cX10_lesser 2 (some .int) 2 := ⟨wd_31_23, wd_1_5, by decide +kernel⟩
theorem mf_X10_greater : mFix yX10_greater cX10_greater 2 (some .int) 2 := ⟨wd_29_15, wd_1_5, by decide +kernel⟩
theorem mf_X10_part : mFix yX10_part cX10_part 11 (some .long) 3 := ⟨wd_37_20, wd_1_5, by decide +kernel⟩
theorem mf_X10_finds : mFix yX10_finds cX10_finds 2 (some .int) 1 := ⟨wd_20_3, wd_1_5, by decide +kernel⟩
theorem mv_X10_finds : mVirt yX10_finds := ⟨wd_20_1, wd_20_2⟩
theorem mf_X10_isSheet : mFix yX10_isSheet cX10_isSheet 1 (some .boolean) 1 := ⟨wd_19_23, wd_1_5, by decide +kernel⟩
theorem mf_X10_sheet : mFix yX10_sheet cX10_sheet 5 (some .int) 3 := ⟨wd_39_20, wd_1_5, by decide +kernel⟩
theorem mv_X10_sheet : mVirt yX10_sheet := ⟨wd_39_18, wd_39_19⟩
theorem mf_X10_lose : mFix yX10_lose cX10_lose 2 (some .int) 1 := ⟨wd_40_4, wd_1_5, by decide +kernel⟩
theorem mv_X10_lose : mVirt yX10_lose := ⟨wd_40_2, wd_40_3⟩
theorem mf_X10_lacks : mFix yX10_lacks cX10_lacks 4 (some .int) 3 := ⟨wd_40_23, wd_1_5, by decide +kernel⟩
theorem mv_X10_lacks : mVirt yX10_lacks := ⟨wd_40_21, wd_40_22⟩
theorem mf_X10_cut : mFix yX10_cut cX10_cut 2 (some .int) 2 := ⟨wd_41_2, wd_1_5, by decide +kernel⟩
theorem mf_X10_lay : mFix yX10_lay cX10_lay 6 (some .int) 4 := ⟨wd_40_19, wd_1_5, by decide +kernel⟩
theorem mv_X10_lay : mVirt yX10_lay := ⟨wd_40_17, wd_40_18⟩
theorem mf_X10_get : mFix yX10_get cX10_get 4 (some .int) 3 := ⟨wd_41_11, wd_1_5, by decide +kernel⟩
theorem mv_X10_get : mVirt yX10_get := ⟨wd_41_9, wd_41_10⟩
theorem mf_X10_copy : mFix yX10_copy cX10_copy 7 (some .int) 5 := ⟨wd_42_4, wd_1_5, by decide +kernel⟩
theorem mv_X10_copy : mVirt yX10_copy := ⟨wd_42_2, wd_42_3⟩
theorem mf_X10_type : mFix yX10_type cX10_type 3 (some .int) 2 := ⟨wd_13_3, wd_1_5, by decide +kernel⟩
theorem mv_X10_type : mVirt yX10_type := ⟨wd_13_1, wd_13_2⟩
theorem mf_X10_wipe : mFix yX10_wipe cX10_wipe 3 (some .int) 1 := ⟨wd_13_18, wd_1_5, by decide +kernel⟩
theorem mv_X10_wipe : mVirt yX10_wipe := ⟨wd_13_16, wd_13_17⟩
theorem mf_X10_undo : mFix yX10_undo cX10_undo 2 (some .int) 1 := ⟨wd_14_2, wd_1_5, by decide +kernel⟩
theorem mv_X10_undo : mVirt yX10_undo := ⟨wd_14_0, wd_14_1⟩
theorem mf_X10_wellOf : mFix yX10_wellOf cX10_wellOf 2 (some .int) 2 := ⟨wd_14_22, wd_1_5, by decide +kernel⟩
theorem mf_X10_readsWells : mFix yX10_readsWells cX10_readsWells 5 (some .int) 0 := ⟨wd_14_18, wd_1_5, by decide +kernel⟩
theorem mv_X10_readsWells : mVirt yX10_readsWells := ⟨wd_14_16, wd_14_17⟩
theorem mf_X10_sayingOf : mFix yX10_sayingOf cX10_sayingOf 2 (some .int) 2 := ⟨wd_15_8, wd_1_5, by decide +kernel⟩
theorem mf_X10_readsSayings : mFix yX10_readsSayings cX10_readsSayings 7 (some .int) 0 := ⟨wd_15_4, wd_1_5, by decide +kernel⟩
theorem mv_X10_readsSayings : mVirt yX10_readsSayings := ⟨wd_15_2, wd_15_3⟩
theorem mf_X10_readsText : mFix yX10_readsText cX10_readsText 2 (some .int) 1 := ⟨wd_14_14, wd_1_5, by decide +kernel⟩
theorem mv_X10_readsText : mVirt yX10_readsText := ⟨wd_14_12, wd_14_13⟩
theorem mf_X10_fault : mFix yX10_fault cX10_fault 2 (some .int) 1 := ⟨wd_14_10, wd_1_5, by decide +kernel⟩
theorem mv_X10_fault : mVirt yX10_fault := ⟨wd_14_8, wd_14_9⟩
theorem mf_X10_isWell : mFix yX10_isWell cX10_isWell 2 (some .boolean) 1 := ⟨wd_16_1, wd_1_5, by decide +kernel⟩
theorem mv_X10_isWell : mVirt yX10_isWell := ⟨wd_15_23, wd_16_0⟩
theorem mf_X10_isSaying : mFix yX10_isSaying cX10_isSaying 2 (some .boolean) 1 := ⟨wd_17_6, wd_1_5, by decide +kernel⟩
theorem mv_X10_isSaying : mVirt yX10_isSaying := ⟨wd_17_4, wd_17_5⟩
theorem mf_X10_isHour : mFix yX10_isHour cX10_isHour 1 (some .boolean) 1 := ⟨wd_18_7, wd_1_5, by decide +kernel⟩
theorem mf_X10_isEight : mFix yX10_isEight cX10_isEight 1 (some .boolean) 1 := ⟨wd_18_11, wd_1_5, by decide +kernel⟩
theorem mf_X10_down : mFix yX10_down cX10_down 5 (some .int) 1 := ⟨wd_16_9, wd_1_5, by decide +kernel⟩
theorem mv_X10_down : mVirt yX10_down := ⟨wd_16_7, wd_16_8⟩
theorem mf_X10_up : mFix yX10_up cX10_up 5 (some .int) 1 := ⟨wd_16_13, wd_1_5, by decide +kernel⟩
theorem mv_X10_up : mVirt yX10_up := ⟨wd_16_11, wd_16_12⟩
theorem mf_X10_lastWell : mFix yX10_lastWell cX10_lastWell 3 (some .int) 0 := ⟨wd_23_12, wd_1_5, by decide +kernel⟩
theorem mv_X10_lastWell : mVirt yX10_lastWell := ⟨wd_23_10, wd_23_11⟩
theorem mf_X10_wellBy : mFix yX10_wellBy cX10_wellBy 3 (some .int) 2 := ⟨wd_16_5, wd_1_5, by decide +kernel⟩
theorem mv_X10_wellBy : mVirt yX10_wellBy := ⟨wd_16_3, wd_16_4⟩
theorem mf_X10_well : mFix yX10_well cX10_well 3 (some .int) 2 := ⟨wd_15_20, wd_1_5, by decide +kernel⟩
theorem mv_X10_well : mVirt yX10_well := ⟨wd_15_18, wd_15_19⟩
theorem mf_X10_sayingBy : mFix yX10_sayingBy cX10_sayingBy 3 (some .int) 2 := ⟨wd_17_10, wd_1_5, by decide +kernel⟩
theorem mv_X10_sayingBy : mVirt yX10_sayingBy := ⟨wd_17_8, wd_17_9⟩
theorem mf_X10_saying : mFix yX10_saying cX10_saying 3 (some .int) 2 := ⟨wd_17_1, wd_1_5, by decide +kernel⟩
theorem mv_X10_saying : mVirt yX10_saying := ⟨wd_16_23, wd_17_0⟩
theorem mf_X10_puts : mFix yX10_puts cX10_puts 4 none 3 := ⟨wd_18_15, wd_1_5, by decide +kernel⟩
theorem mv_X10_puts : mVirt yX10_puts := ⟨wd_18_13, wd_18_14⟩
theorem mf_X10_event : mFix yX10_event cX10_event 4 (some .int) 3 := ⟨wd_18_2, wd_1_5, by decide +kernel⟩
theorem mv_X10_event : mVirt yX10_event := ⟨wd_18_0, wd_18_1⟩
theorem mf_X10_back : mFix yX10_back cX10_back 1 (some .int) 0 := ⟨wd_18_23, wd_1_5, by decide +kernel⟩
theorem mv_X10_back : mVirt yX10_back := ⟨wd_18_21, wd_18_22⟩
theorem mf_X10_read : mFix yX10_read cX10_read 5 (some .int) 1 := ⟨wd_19_20, wd_1_5, by decide +kernel⟩
theorem mv_X10_read : mVirt yX10_read := ⟨wd_19_18, wd_19_19⟩
theorem mf_X10_isCovered : mFix yX10_isCovered cX10_isCovered 5 (some .boolean) 2 := ⟨wd_23_0, wd_1_5, by decide +kernel⟩
theorem mv_X10_isCovered : mVirt yX10_isCovered := ⟨wd_22_22, wd_22_23⟩
theorem mf_X10_isCoin : mFix yX10_isCoin cX10_isCoin 5 (some .boolean) 2 := ⟨wd_24_8, wd_1_5, by decide +kernel⟩
theorem mv_X10_isCoin : mVirt yX10_isCoin := ⟨wd_24_6, wd_24_7⟩
theorem mf_X10_isDrought : mFix yX10_isDrought cX10_isDrought 4 (some .boolean) 1 := ⟨wd_23_16, wd_1_5, by decide +kernel⟩
theorem mv_X10_isDrought : mVirt yX10_isDrought := ⟨wd_23_14, wd_23_15⟩
theorem mf_X10_loses : mFix yX10_loses cX10_loses 2 none 1 := ⟨wd_23_8, wd_1_5, by decide +kernel⟩
theorem mv_X10_loses : mVirt yX10_loses := ⟨wd_23_6, wd_23_7⟩
theorem mf_X10_comes : mFix yX10_comes cX10_comes 4 (some .boolean) 3 := ⟨wd_24_0, wd_1_5, by decide +kernel⟩
theorem mv_X10_comes : mVirt yX10_comes := ⟨wd_23_22, wd_23_23⟩
theorem mf_X10_next : mFix yX10_next cX10_next 3 (some .int) 2 := ⟨wd_24_13, wd_1_5, by decide +kernel⟩
theorem mv_X10_next : mVirt yX10_next := ⟨wd_24_11, wd_24_12⟩
theorem mf_X10_goes : mFix yX10_goes cX10_goes 5 (some .boolean) 2 := ⟨wd_24_4, wd_1_5, by decide +kernel⟩
theorem mv_X10_goes : mVirt yX10_goes := ⟨wd_24_2, wd_24_3⟩
theorem mf_X10_driesUp : mFix yX10_driesUp cX10_driesUp 4 (some .boolean) 3 := ⟨wd_23_20, wd_1_5, by decide +kernel⟩
theorem mv_X10_driesUp : mVirt yX10_driesUp := ⟨wd_23_18, wd_23_19⟩
theorem mf_X10_passes : mFix yX10_passes cX10_passes 4 (some .boolean) 2 := ⟨wd_22_20, wd_1_5, by decide +kernel⟩
theorem mv_X10_passes : mVirt yX10_passes := ⟨wd_22_18, wd_22_19⟩
theorem mf_X10_livesOne : mFix yX10_livesOne cX10_livesOne 3 none 1 := ⟨wd_22_16, wd_1_5, by decide +kernel⟩
theorem mv_X10_livesOne : mVirt yX10_livesOne := ⟨wd_22_14, wd_22_15⟩
theorem mf_X10_lives : mFix yX10_lives cX10_lives 2 none 0 := ⟨wd_22_12, wd_1_5, by decide +kernel⟩
theorem mv_X10_lives : mVirt yX10_lives := ⟨wd_22_10, wd_22_11⟩
theorem mf_X10_find : mFix yX10_find cX10_find 1 none 0 := ⟨wd_22_8, wd_1_5, by decide +kernel⟩
theorem mv_X10_find : mVirt yX10_find := ⟨wd_22_6, wd_22_7⟩
theorem mf_X10_atOf : mFix yX10_atOf cX10_atOf 6 (some .int) 3 := ⟨wd_24_17, wd_1_5, by decide +kernel⟩
theorem mv_X10_atOf : mVirt yX10_atOf := ⟨wd_24_15, wd_24_16⟩
theorem mf_X10_at : mFix yX10_at cX10_at 4 (some .int) 3 := ⟨wd_22_3, wd_1_5, by decide +kernel⟩
theorem mv_X10_at : mVirt yX10_at := ⟨wd_22_1, wd_22_2⟩
theorem mf_X10_heardAt : mFix yX10_heardAt cX10_heardAt 5 (some .int) 2 := ⟨wd_25_13, wd_1_5, by decide +kernel⟩
theorem mv_X10_heardAt : mVirt yX10_heardAt := ⟨wd_25_11, wd_25_12⟩
theorem mf_X10_hearsOf : mFix yX10_hearsOf cX10_hearsOf 4 (some .int) 1 := ⟨wd_25_9, wd_1_5, by decide +kernel⟩
theorem mv_X10_hearsOf : mVirt yX10_hearsOf := ⟨wd_25_7, wd_25_8⟩
theorem mf_X10_hears : mFix yX10_hears cX10_hears 2 (some .int) 1 := ⟨wd_25_5, wd_1_5, by decide +kernel⟩
theorem mv_X10_hears : mVirt yX10_hears := ⟨wd_25_3, wd_25_4⟩
theorem mf_X10_soonOf : mFix yX10_soonOf cX10_soonOf 5 (some .int) 1 := ⟨wd_26_5, wd_1_5, by decide +kernel⟩
theorem mv_X10_soonOf : mVirt yX10_soonOf := ⟨wd_26_3, wd_26_4⟩
theorem mf_X10_soon : mFix yX10_soon cX10_soon 2 (some .int) 1 := ⟨wd_26_1, wd_1_5, by decide +kernel⟩
theorem mv_X10_soon : mVirt yX10_soon := ⟨wd_25_23, wd_26_0⟩
theorem mf_X10_goneNow : mFix yX10_goneNow cX10_goneNow 3 (some .int) 0 := ⟨wd_26_21, wd_1_5, by decide +kernel⟩
theorem mv_X10_goneNow : mVirt yX10_goneNow := ⟨wd_26_19, wd_26_20⟩
theorem mf_X10_gone : mFix yX10_gone cX10_gone 1 (some .int) 0 := ⟨wd_26_17, wd_1_5, by decide +kernel⟩
theorem mv_X10_gone : mVirt yX10_gone := ⟨wd_26_15, wd_26_16⟩
theorem mf_X10_babelBy : mFix yX10_babelBy cX10_babelBy 6 (some .int) 1 := ⟨wd_27_13, wd_1_5, by decide +kernel⟩
theorem mv_X10_babelBy : mVirt yX10_babelBy := ⟨wd_27_11, wd_27_12⟩
theorem mf_X10_babel : mFix yX10_babel cX10_babel 2 (some .int) 1 := ⟨wd_27_9, wd_1_5, by decide +kernel⟩
theorem mv_X10_babel : mVirt yX10_babel := ⟨wd_27_7, wd_27_8⟩
theorem mf_X10_tellOf : mFix yX10_tellOf cX10_tellOf 10 (some .int) 3 := ⟨wd_28_1, wd_1_5, by decide +kernel⟩
theorem mv_X10_tellOf : mVirt yX10_tellOf := ⟨wd_27_23, wd_28_0⟩
theorem mf_X10_tell : mFix yX10_tell cX10_tell 4 (some .int) 3 := ⟨wd_27_21, wd_1_5, by decide +kernel⟩
theorem mv_X10_tell : mVirt yX10_tell := ⟨wd_27_19, wd_27_20⟩
theorem mf_X10_tossOf : mFix yX10_tossOf cX10_tossOf 7 (some .int) 2 := ⟨wd_29_9, wd_1_5, by decide +kernel⟩
theorem mv_X10_tossOf : mVirt yX10_tossOf := ⟨wd_29_7, wd_29_8⟩
theorem mf_X10_toss : mFix yX10_toss cX10_toss 3 (some .int) 2 := ⟨wd_29_5, wd_1_5, by decide +kernel⟩
theorem mv_X10_toss : mVirt yX10_toss := ⟨wd_29_3, wd_29_4⟩
theorem mf_X10_isOpen : mFix yX10_isOpen cX10_isOpen 3 (some .boolean) 2 := ⟨wd_30_20, wd_1_5, by decide +kernel⟩
theorem mv_X10_isOpen : mVirt yX10_isOpen := ⟨wd_30_18, wd_30_19⟩
theorem mf_X10_isLid : mFix yX10_isLid cX10_isLid 2 (some .boolean) 1 := ⟨wd_31_0, wd_1_5, by decide +kernel⟩
theorem mv_X10_isLid : mVirt yX10_isLid := ⟨wd_30_22, wd_30_23⟩
theorem mf_X10_openOf : mFix yX10_openOf cX10_openOf 5 (some .int) 2 := ⟨wd_30_16, wd_1_5, by decide +kernel⟩
theorem mv_X10_openOf : mVirt yX10_openOf := ⟨wd_30_14, wd_30_15⟩
theorem mf_X10_open : mFix yX10_open cX10_open 3 (some .int) 2 := ⟨wd_30_11, wd_1_5, by decide +kernel⟩
theorem mv_X10_open : mVirt yX10_open := ⟨wd_30_9, wd_30_10⟩
theorem mf_X10_ironBy : mFix yX10_ironBy cX10_ironBy 7 (some .int) 1 := ⟨wd_31_20, wd_1_5, by decide +kernel⟩
theorem mv_X10_ironBy : mVirt yX10_ironBy := ⟨wd_31_18, wd_31_19⟩
theorem mf_X10_iron : mFix yX10_iron cX10_iron 2 (some .int) 1 := ⟨wd_31_16, wd_1_5, by decide +kernel⟩
theorem mv_X10_iron : mVirt yX10_iron := ⟨wd_31_14, wd_31_15⟩
theorem mf_X10_draw : mFix yX10_draw cX10_draw 4 (some .int) 3 := ⟨wd_32_12, wd_1_5, by decide +kernel⟩
theorem mv_X10_draw : mVirt yX10_draw := ⟨wd_32_10, wd_32_11⟩
theorem mf_X10_forget : mFix yX10_forget cX10_forget 2 (some .int) 0 := ⟨wd_32_21, wd_1_5, by decide +kernel⟩
theorem mv_X10_forget : mVirt yX10_forget := ⟨wd_32_19, wd_32_20⟩
theorem mf_X10_isDrawn : mFix yX10_isDrawn cX10_isDrawn 4 (some .boolean) 0 := ⟨wd_33_17, wd_1_5, by decide +kernel⟩
theorem mv_X10_isDrawn : mVirt yX10_isDrawn := ⟨wd_33_15, wd_33_16⟩
theorem mf_X10_neverNow : mFix yX10_neverNow cX10_neverNow 3 (some .int) 0 := ⟨wd_33_13, wd_1_5, by decide +kernel⟩
theorem mv_X10_neverNow : mVirt yX10_neverNow := ⟨wd_33_11, wd_33_12⟩
theorem mf_X10_never : mFix yX10_never cX10_never 1 (some .int) 0 := ⟨wd_33_9, wd_1_5, by decide +kernel⟩
theorem mv_X10_never : mVirt yX10_never := ⟨wd_33_7, wd_33_8⟩
theorem mf_X10_stonesOf : mFix yX10_stonesOf cX10_stonesOf 5 (some .int) 1 := ⟨wd_35_1, wd_1_5, by decide +kernel⟩
theorem mv_X10_stonesOf : mVirt yX10_stonesOf := ⟨wd_34_23, wd_35_0⟩
theorem mf_X10_stoodOf : mFix yX10_stoodOf cX10_stoodOf 8 (some .int) 1 := ⟨wd_35_5, wd_1_5, by decide +kernel⟩
theorem mv_X10_stoodOf : mVirt yX10_stoodOf := ⟨wd_35_3, wd_35_4⟩
theorem mf_X10_stoneOf : mFix yX10_stoneOf cX10_stoneOf 3 (some .int) 2 := ⟨wd_34_21, wd_1_5, by decide +kernel⟩
theorem mv_X10_stoneOf : mVirt yX10_stoneOf := ⟨wd_34_19, wd_34_20⟩
theorem mf_X10_stone : mFix yX10_stone cX10_stone 3 (some .int) 2 := ⟨wd_34_17, wd_1_5, by decide +kernel⟩
theorem mv_X10_stone : mVirt yX10_stone := ⟨wd_34_15, wd_34_16⟩
theorem mf_X10_bucketOf : mFix yX10_bucketOf cX10_bucketOf 5 (some .int) 1 := ⟨wd_35_17, wd_1_5, by decide +kernel⟩
theorem mv_X10_bucketOf : mVirt yX10_bucketOf := ⟨wd_35_15, wd_35_16⟩
theorem mf_X10_bucket : mFix yX10_bucket cX10_bucket 2 (some .int) 1 := ⟨wd_35_13, wd_1_5, by decide +kernel⟩
theorem mv_X10_bucket : mVirt yX10_bucket := ⟨wd_35_11, wd_35_12⟩
theorem mf_X10_alike : mFix yX10_alike cX10_alike 7 (some .int) 2 := ⟨wd_36_18, wd_1_5, by decide +kernel⟩
theorem mv_X10_alike : mVirt yX10_alike := ⟨wd_36_16, wd_36_17⟩
theorem mf_X10_askOf : mFix yX10_askOf cX10_askOf 5 (some .int) 1 := ⟨wd_36_14, wd_1_5, by decide +kernel⟩
theorem mv_X10_askOf : mVirt yX10_askOf := ⟨wd_36_12, wd_36_13⟩
theorem mf_X10_ask : mFix yX10_ask cX10_ask 2 (some .int) 1 := ⟨wd_36_10, wd_1_5, by decide +kernel⟩
theorem mv_X10_ask : mVirt yX10_ask := ⟨wd_36_8, wd_36_9⟩
theorem mf_X10_chanceOf : mFix yX10_chanceOf cX10_chanceOf 11 (some .long) 4 := ⟨wd_37_17, wd_1_5, by decide +kernel⟩
theorem mv_X10_chanceOf : mVirt yX10_chanceOf := ⟨wd_37_15, wd_37_16⟩
theorem mf_X10_chance : mFix yX10_chance cX10_chance 5 (some .long) 4 := ⟨wd_37_12, wd_1_5, by decide +kernel⟩
theorem mv_X10_chance : mVirt yX10_chance := ⟨wd_37_10, wd_37_11⟩
theorem mf_X10_lot : mFix yX10_lot cX10_lot 2 (some .int) 1 := ⟨wd_39_5, wd_1_5, by decide +kernel⟩
theorem mv_X10_lot : mVirt yX10_lot := ⟨wd_39_3, wd_39_4⟩
theorem mf_X10_dayOf : mFix yX10_dayOf cX10_dayOf 8 (some .int) 3 := ⟨wd_39_0, wd_1_5, by decide +kernel⟩
theorem mv_X10_dayOf : mVirt yX10_dayOf := ⟨wd_38_22, wd_38_23⟩
theorem mf_X10_day : mFix yX10_day cX10_day 4 (some .int) 3 := ⟨wd_38_19, wd_1_5, by decide +kernel⟩
theorem mv_X10_day : mVirt yX10_day := ⟨wd_38_17, wd_38_18⟩
theorem mf_X10_write : mFix yX10_write cX10_write 5 (some .int) 2 := ⟨wd_42_13, wd_1_5, by decide +kernel⟩
theorem mv_X10_write : mVirt yX10_write := ⟨wd_42_11, wd_42_12⟩
theorem mf_X10_allHeard : mFix yX10_allHeard cX10_allHeard 4 (some .int) 0 := ⟨wd_43_9, wd_1_5, by decide +kernel⟩
theorem mv_X10_allHeard : mVirt yX10_allHeard := ⟨wd_43_7, wd_43_8⟩
theorem mf_X10_count : mFix yX10_count cX10_count 2 (some .int) 1 := ⟨wd_43_5, wd_1_5, by decide +kernel⟩
theorem mv_X10_count : mVirt yX10_count := ⟨wd_43_3, wd_43_4⟩
theorem mf_X10_tellsWell : mFix yX10_tellsWell cX10_tellsWell 7 (some .long) 2 := ⟨wd_45_8, wd_1_5, by decide +kernel⟩
theorem mv_X10_tellsWell : mVirt yX10_tellsWell := ⟨wd_45_6, wd_45_7⟩
theorem mf_X10_tellsHour : mFix yX10_tellsHour cX10_tellsHour 8 (some .long) 3 := ⟨wd_45_16, wd_1_5, by decide +kernel⟩
theorem mv_X10_tellsHour : mVirt yX10_tellsHour := ⟨wd_45_14, wd_45_15⟩
theorem mf_X10_tellsSaying : mFix yX10_tellsSaying cX10_tellsSaying 7 (some .long) 2 := ⟨wd_45_12, wd_1_5, by decide +kernel⟩
theorem mv_X10_tellsSaying : mVirt yX10_tellsSaying := ⟨wd_45_10, wd_45_11⟩
theorem mf_X10_digest : mFix yX10_digest cX10_digest 4 (some .long) 0 := ⟨wd_45_1, wd_1_5, by decide +kernel⟩
theorem mv_X10_digest : mVirt yX10_digest := ⟨wd_44_23, wd_45_0⟩
theorem ic_m1 : Int32.ofInt (-1) = (-1 : Int32) := by decide
theorem ic_0 : Int32.ofInt (0) = (0 : Int32) := by decide
theorem ic_1 : Int32.ofInt (1) = (1 : Int32) := by decide
theorem ic_2 : Int32.ofInt (2) = (2 : Int32) := by decide
theorem ic_3 : Int32.ofInt (3) = (3 : Int32) := by decide
theorem ic_4 : Int32.ofInt (4) = (4 : Int32) := by decide
theorem ic_5 : Int32.ofInt (5) = (5 : Int32) := by decide
theorem bp_m10 : (Int8.ofInt (-10)).toInt32 = (-10 : Int32) := by decide
theorem bp_m9 : (Int8.ofInt (-9)).toInt32 = (-9 : Int32) := by decide
theorem bp_m4 : (Int8.ofInt (-4)).toInt32 = (-4 : Int32) := by decide
theorem bp_m3 : (Int8.ofInt (-3)).toInt32 = (-3 : Int32) := by decide
theorem bp_m2 : (Int8.ofInt (-2)).toInt32 = (-2 : Int32) := by decide
theorem bp_6 : (Int8.ofInt (6)).toInt32 = (6 : Int32) := by decide
theorem bp_7 : (Int8.ofInt (7)).toInt32 = (7 : Int32) := by decide
theorem bp_8 : (Int8.ofInt (8)).toInt32 = (8 : Int32) := by decide
theorem bp_9 : (Int8.ofInt (9)).toInt32 = (9 : Int32) := by decide
theorem bp_10 : (Int8.ofInt (10)).toInt32 = (10 : Int32) := by decide
theorem bp_16 : (Int8.ofInt (16)).toInt32 = (16 : Int32) := by decide
theorem bp_17 : (Int8.ofInt (17)).toInt32 = (17 : Int32) := by decide
theorem bp_20 : (Int8.ofInt (20)).toInt32 = (20 : Int32) := by decide
theorem bp_23 : (Int8.ofInt (23)).toInt32 = (23 : Int32) := by decide
theorem bp_24 : (Int8.ofInt (24)).toInt32 = (24 : Int32) := by decide
theorem bp_32 : (Int8.ofInt (32)).toInt32 = (32 : Int32) := by decide
theorem bp_39 : (Int8.ofInt (39)).toInt32 = (39 : Int32) := by decide
theorem bp_40 : (Int8.ofInt (40)).toInt32 = (40 : Int32) := by decide
theorem bp_48 : (Int8.ofInt (48)).toInt32 = (48 : Int32) := by decide
theorem bp_59 : (Int8.ofInt (59)).toInt32 = (59 : Int32) := by decide
theorem bp_60 : (Int8.ofInt (60)).toInt32 = (60 : Int32) := by decide
theorem bp_63 : (Int8.ofInt (63)).toInt32 = (63 : Int32) := by decide
theorem bp_64 : (Int8.ofInt (64)).toInt32 = (64 : Int32) := by decide
theorem bp_97 : (Int8.ofInt (97)).toInt32 = (97 : Int32) := by decide
theorem bp_99 : (Int8.ofInt (99)).toInt32 = (99 : Int32) := by decide
theorem bp_103 : (Int8.ofInt (103)).toInt32 = (103 : Int32) := by decide
theorem bp_105 : (Int8.ofInt (105)).toInt32 = (105 : Int32) := by decide
theorem bp_115 : (Int8.ofInt (115)).toInt32 = (115 : Int32) := by decide
theorem bp_119 : (Int8.ofInt (119)).toInt32 = (119 : Int32) := by decide
theorem sp_255 : (Int16.ofInt (255)).toInt32 = (255 : Int32) := by decide
theorem sp_256 : (Int16.ofInt (256)).toInt32 = (256 : Int32) := by decide
theorem sp_12345 : (Int16.ofInt (12345)).toInt32 = (12345 : Int32) := by decide
theorem io_m1 (x : Int32) : x + Int32.ofInt (-1) = x + (-1 : Int32) := by rw [show Int32.ofInt (-1) = (-1 : Int32) from by decide]
theorem io_1 (x : Int32) : x + Int32.ofInt (1) = x + (1 : Int32) := by rw [show Int32.ofInt (1) = (1 : Int32) from by decide]
theorem io_2 (x : Int32) : x + Int32.ofInt (2) = x + (2 : Int32) := by rw [show Int32.ofInt (2) = (2 : Int32) from by decide]
theorem io_3 (x : Int32) : x + Int32.ofInt (3) = x + (3 : Int32) := by rw [show Int32.ofInt (3) = (3 : Int32) from by decide]
theorem lc_0 : Int64.ofNat ((0 : Fin 2) : Nat) = (0 : Int64) := by decide
theorem lc_1 : Int64.ofNat ((1 : Fin 2) : Nat) = (1 : Int64) := by decide
theorem mO : 108 < 131 ∧ kd 108 = 10 := by decide +kernel
theorem isO_w {c k : Nat} (h : isO c k) : k < 131 ∧ kd k = c := ⟨by have := h.1; omega, h.2⟩
theorem isA_ln {n k : Nat} (h : isA n k) : isA (ln k) k := ⟨h.1, h.2.1, rfl⟩
theorem inl {i : Int32} {n : Nat} (h : ¬ (i < 0 ∨ n ≤ i.toNatClampNeg)) : vp_in i n := h
def FU : Nat := 100000
def jushr (x y : Int32) : Int32 := (x.toUInt32 >>> (y.toUInt32 &&& Int32.toUInt32 31)).toInt32
def jrem (x y : Int32) : Int32 := x - x / y * y
def jremL (x y : Int64) : Int64 := x - x / y * y
def ck {α : Type} (i : Int32) (n : Nat) (k : Option α) : Option α := if ¬ (i < 0 ∨ n ≤ i.toNatClampNeg) then k else none
theorem ck_ok {α : Type} {i : Int32} {n : Nat} {k : Option α} {r : α} (h : ck i n k = some r) : vp_in i n ∧ k = some r := by
  unfold ck at h
  split at h
  · exact ⟨by assumption, h⟩
  · cases h
theorem ck_in {α : Type} {i : Int32} {n : Nat} {k : Option α} (h : vp_in i n) : ck i n k = k := if_pos h
def nz {α : Type} (y : Int32) (k : Option α) : Option α := if y = 0 then none else k
theorem nz_ok {α : Type} {y : Int32} {k : Option α} {r : α} (h : nz y k = some r) : ¬ y = 0 ∧ k = some r := by
  unfold nz at h
  split at h
  · cases h
  · exact ⟨by assumption, h⟩
theorem nz_in {α : Type} {y : Int32} {k : Option α} (h : ¬ y = 0) : nz y k = k := if_neg h
def nzL {α : Type} (y : Int64) (k : Option α) : Option α := if y = 0 then none else k
theorem nzL_ok {α : Type} {y : Int64} {k : Option α} {r : α} (h : nzL y k = some r) : ¬ y = 0 ∧ k = some r := by
  unfold nzL at h
  split at h
  · cases h
  · exact ⟨by assumption, h⟩
theorem nzL_in {α : Type} {y : Int64} {k : Option α} (h : ¬ y = 0) : nzL y k = k := if_neg h
def bz {α : Type} (x : Int32) (k : Option α) : Option α := if x = 0 ∨ x = 1 then k else none
theorem bz_ok {α : Type} {x : Int32} {k : Option α} {r : α} (h : bz x k = some r) : (x = 0 ∨ x = 1) ∧ k = some r := by
  unfold bz at h
  split at h
  · exact ⟨by assumption, h⟩
  · cases h
theorem bz_in {α : Type} {x : Int32} {k : Option α} (h : x = 0 ∨ x = 1) : bz x k = k := if_pos h
def lt {α β : Type} (x : α) (f : α → β) : β := f x
theorem lt_ok {α β : Type} {x : α} {f : α → Option β} {r : β} (h : lt x f = some r) : ∃ z, z = x ∧ f z = some r := ⟨x, rfl, h⟩
theorem bd_ok {α β : Type} {o : Option α} {f : α → Option β} {r : β} (h : o.bind f = some r) : ∃ q, o = some q ∧ f q = some r := by
  cases o with
  | none => cases h
  | some a => exact ⟨a, rfl, h⟩
def cpk {α : Type} (sp dp n : Int32) (n0 n1 : Nat) (k : Option α) : Option α := if ¬ sp < 0 ∧ ¬ dp < 0 ∧ ¬ n < 0 ∧ sp.toNatClampNeg + n.toNatClampNeg ≤ n0 ∧ dp.toNatClampNeg + n.toNatClampNeg ≤ n1 then k else none
theorem cpk_ok {α : Type} {sp dp n : Int32} {n0 n1 : Nat} {k : Option α} {r : α} (h : cpk sp dp n n0 n1 k = some r) : (¬ sp < 0 ∧ ¬ dp < 0 ∧ ¬ n < 0 ∧ sp.toNatClampNeg + n.toNatClampNeg ≤ n0 ∧ dp.toNatClampNeg + n.toNatClampNeg ≤ n1) ∧ k = some r := by
  unfold cpk at h
  split at h
  · exact ⟨by assumption, h⟩
  · cases h
def mcpy (m : Mem) (k0 sp k1 dp n : Nat) : Mem := fun a => if a = k1 then va_cpy (m k0) (m k1) sp dp n else m a
theorem sw_3 {x : Int32} (h0 : ¬ x = 0) (h1 : ¬ x = 1) (h2 : ¬ x = 2) : x.toInt < 0 ∨ 2 < x.toInt := by
  have e0 : ¬ x.toInt = 0 := fun z => h0 (Int32.toInt_inj.mp (z.trans rfl))
  have e1 : ¬ x.toInt = 1 := fun z => h1 (Int32.toInt_inj.mp (z.trans rfl))
  have e2 : ¬ x.toInt = 2 := fun z => h2 (Int32.toInt_inj.mp (z.trans rfl))
  omega
theorem sw_4 {x : Int32} (h0 : ¬ x = 0) (h1 : ¬ x = 1) (h2 : ¬ x = 2) (h3 : ¬ x = 3) : x.toInt < 0 ∨ 3 < x.toInt := by
  have e0 : ¬ x.toInt = 0 := fun z => h0 (Int32.toInt_inj.mp (z.trans rfl))
  have e1 : ¬ x.toInt = 1 := fun z => h1 (Int32.toInt_inj.mp (z.trans rfl))
  have e2 : ¬ x.toInt = 2 := fun z => h2 (Int32.toInt_inj.mp (z.trans rfl))
  have e3 : ¬ x.toInt = 3 := fun z => h3 (Int32.toInt_inj.mp (z.trans rfl))
  omega
theorem sw_9 {x : Int32} (h0 : ¬ x = 0) (h1 : ¬ x = 1) (h2 : ¬ x = 2) (h3 : ¬ x = 3) (h4 : ¬ x = 4) (h5 : ¬ x = 5) (h6 : ¬ x = 6) (h7 : ¬ x = 7) (h8 : ¬ x = 8) : x.toInt < 0 ∨ 8 < x.toInt := by
  have e0 : ¬ x.toInt = 0 := fun z => h0 (Int32.toInt_inj.mp (z.trans rfl))
  have e1 : ¬ x.toInt = 1 := fun z => h1 (Int32.toInt_inj.mp (z.trans rfl))
  have e2 : ¬ x.toInt = 2 := fun z => h2 (Int32.toInt_inj.mp (z.trans rfl))
  have e3 : ¬ x.toInt = 3 := fun z => h3 (Int32.toInt_inj.mp (z.trans rfl))
  have e4 : ¬ x.toInt = 4 := fun z => h4 (Int32.toInt_inj.mp (z.trans rfl))
  have e5 : ¬ x.toInt = 5 := fun z => h5 (Int32.toInt_inj.mp (z.trans rfl))
  have e6 : ¬ x.toInt = 6 := fun z => h6 (Int32.toInt_inj.mp (z.trans rfl))
  have e7 : ¬ x.toInt = 7 := fun z => h7 (Int32.toInt_inj.mp (z.trans rfl))
  have e8 : ¬ x.toInt = 8 := fun z => h8 (Int32.toInt_inj.mp (z.trans rfl))
  omega
theorem lk_2 {x : Int32} {a b d : Int} (h0 : ¬ x = 0) (h1 : ¬ x = 1) : Op.lookupswitch.offset [(0, a), (1, b)] d x.toInt = d :=
  (lv_osw (a := (0 : Int)) h0 (by decide)).trans ((lv_osw (a := (1 : Int)) h1 (by decide)).trans rfl)
section ROWS
variable {p : Program} {l : Launch} {e : Env} {R : Room} {s : State} {m : MethodId} {args : Array Value} {below : List Frame} {meth : Method} {c : Code} {H : Heap} {locs : List Loc}
variable {cc : ByteArray} {nL : Nat} {own : String} {g : GG} {pc : Nat} {ls : Array Slot} {rest : List Value} {mc mm m' : Mem}

theorem r_bret {r : Int32} {mc' mm' : Mem} (Z : ZZ p s m args c cc nL own g) (hr : meth.sig.returnType = some .byte) (hlk : meth.locks = false) (hP : va_P g.2.2.1 vwCl (wL g mc' mm') H) (hS : va_S (AA g s.heap.size) s.heap H locs) (hb : r = 0 ∨ r = 1) (hdg : decode cc pc = .ok (.ireturn, 1)) : W p l e R s m args below meth c H locs 0 0 (MQ below (QI g s.heap.size r (mc', mm')) args s 0 0 (AA g s.heap.size)) (F0 m pc ls [.int r]) :=
  W.zret (v := r) Z.1.1 Z.1.2.1 hr (by rcases hb with h | h <;> subst h <;> rfl) (fun t ht hW => ⟨⟨r, (mc', mm'), rfl, ⟨rfl, rfl⟩, by rw [BB, ht]; exact hP⟩, hS.F ht⟩) hS.2.2 hdg hlk
theorem rs_compact {index : Nat} {Q : State → Prop} (Z : ZZ p s m args c cc nL own g) (hS : va_S (AA g s.heap.size) s.heap H locs) (hl : Cond.fieldLink own index "java/lang/String" "COMPACT_STRINGS" "Z" ∈ wsL_law) (hdg : decode cc pc = .ok (.getstatic index, 3)) (kk : W p l e R s m args below meth c H locs 0 0 Q (F0 m (pc + 3) ls (.int 1 :: rest))) : W p l e R s m args below meth c H locs 0 0 Q (F0 m pc ls rest) :=
  va_gets Z.1.1 Z.1.2.1 Z.2.2.2.2 hS Z.1.2.2.2.1 (Z.1.2.2.2.2 _ hl) (fun _ h => h) hdg kk
theorem rs_ldc {index : Nat} {tx : String} {i : Nat} {Q : State → Prop} (Z : ZZ p s m args c cc nL own g) (hl : (own, index, tx, i) ∈ kst) (hdg : decode cc pc = .ok (.ldc index, 2)) (kk : W p l e R s m args below meth c H locs 0 0 Q (F0 m (pc + 2) ls (.ref (g.2.2.2.1 i) :: rest))) : W p l e R s m args below meth c H locs 0 0 Q (F0 m pc ls rest) :=
  va_ldcS Z.1.1 Z.1.2.1 Z.1.2.2.2.1 (Z.2.1.2.2.2 _ hl) hdg kk
theorem rs_coder {index i : Nat} {Q : State → Prop} (Z : ZZ p s m args c cc nL own g) (hS : va_S (AA g s.heap.size) s.heap H locs) (hi : i < 7) (hl : Cond.fieldLink own index "java/lang/String" "coder" "B" ∈ wsL_law) (hdg : decode cc pc = .ok (.getfield index, 3)) (kk : W p l e R s m args below meth c H locs 0 0 Q (F0 m (pc + 3) ls (.int 0 :: rest))) : W p l e R s m args below meth c H locs 0 0 Q (F0 m pc ls (.ref (g.2.2.2.1 i) :: rest)) :=
  va_getX (N := 7) (v := fun _ => .int 0) (ad := g.2.2.2.1) Z.1.1 Z.1.2.1 (fun j hj => (Z.2.2.2.1.1 j hj).2.1) hi hS Z.1.2.2.2.1 (Z.1.2.2.2.2 _ hl) (fun _ h => h) hdg kk
theorem rs_value {index i : Nat} {Q : State → Prop} (Z : ZZ p s m args c cc nL own g) (hS : va_S (AA g s.heap.size) s.heap H locs) (hi : i < 7) (hl : Cond.fieldLink own index "java/lang/String" "value" "[B" ∈ wsL_law) (hdg : decode cc pc = .ok (.getfield index, 3)) (kk : W p l e R s m args below meth c H locs 0 0 Q (F0 m (pc + 3) ls (.ref (g.2.2.2.2 i) :: rest))) : W p l e R s m args below meth c H locs 0 0 Q (F0 m pc ls (.ref (g.2.2.2.1 i) :: rest)) :=
  va_getX (N := 7) (v := fun j => .ref (g.2.2.2.2 j)) (ad := g.2.2.2.1) Z.1.1 Z.1.2.1 (fun j hj => (Z.2.2.2.1.1 j hj).2.2.1) hi hS Z.1.2.2.2.1 (Z.1.2.2.2.2 _ hl) (fun _ h => h) hdg kk
theorem rs_len {i : Nat} {Q : State → Prop} (Z : ZZ p s m args c cc nL own g) (hS : va_S (AA g s.heap.size) s.heap H locs) (hi : i < 7) (hdg : decode cc pc = .ok (.arraylength, 1)) (kk : W p l e R s m args below meth c H locs 0 0 Q (F0 m (pc + 1) ls (.int (Int32.ofNat (lenS.getD i 0)) :: rest))) : W p l e R s m args below meth c H locs 0 0 Q (F0 m pc ls (.ref (g.2.2.2.2 i) :: rest)) :=
  va_tlen Z.1.1 Z.1.2.1 (Z.2.2.2.1.1 i hi).2.2.2 hS rfl hdg kk
theorem rs_ld {i : Nat} {j : Int32} {Q : State → Prop} (Z : ZZ p s m args c cc nL own g) (hS : va_S (AA g s.heap.size) s.heap H locs) (hi : i < 7) (hin : vp_in j (lenS.getD i 0)) (hdg : decode cc pc = .ok (.baload, 1)) (kk : W p l e R s m args below meth c H locs 0 0 Q (F0 m (pc + 1) ls (.int ((bytS.getD i []).getD j.toNatClampNeg 0) :: rest))) : W p l e R s m args below meth c H locs 0 0 Q (F0 m pc ls (.int j :: .ref (g.2.2.2.2 i) :: rest)) :=
  va_tb Z.1.1 Z.1.2.1 (Z.2.2.2.1.1 i hi).2.2.2 hS hin rfl hdg kk
theorem x_QI {Q : State → Prop} (Z : ZZ p s m args c cc nL own g) (hP : va_P g.2.2.1 vwCl (wL g mc mm) H) (hS : va_S (AA g s.heap.size) s.heap H locs) {y : MethodName} {b : ByteArray} {n fr lo index k i : Nat} {ret : FieldType} {mc' mm' : Mem} {r : Int32} {As st : List Value} (hM : KI l y b n ret fr lo g (.ref (g.2.2.2.1 i) :: As) mc mm r (mc', mm')) (hi : i < 7) (hqc : y.cls = "java/lang/String") (hm : mFix y b n (some ret) k) (hv : mVirt y) (hl : Cond.methodLink own index y ∈ wsL_law) (hlen : As.length = k) (hst : st = As.reverse ++ .ref (g.2.2.2.1 i) :: rest) (hsz : ls.size = nL) (hro : (rest.map fun v => v.category).sum ≤ 8) (hR : fr + 1 ≤ R.frames ∧ 8 + (n + 11) + lo ≤ R.locals) (hdg : decode cc pc = .ok (.invokevirtual index, 3)) (kk : ∀ (H : Heap) (locs : List Loc), va_P g.2.2.1 vwCl (wL g mc' mm') H → va_S (AA g s.heap.size) s.heap H locs → W p l e R s m args below meth c H locs 0 0 Q (F0 m (pc + 3) ls (.int r :: rest))) : W p l e R s m args below meth c H locs 0 0 Q (F0 m pc ls st) := by
  subst hst
  obtain ⟨cell, h1, h2, h3, -⟩ := (Z.2.2.2.1.1 i hi).1.kept hS.2.1
  refine va_calli (va_runV (C := y.cls) (As := As) (rest := rest) Z.1 (hM H.size) ⟨x_cB Z hm hl hR, Z.1.2.2.2.2 _ hv.1, Z.1.2.2.2.2 _ hv.2⟩ ⟨PC_blind, by rw [hqc]; exact ⟨cell, h1, h2, h3⟩, fun U hU hW => ⟨rfl, x_pc Z hP hS hU hW⟩⟩ rfl hlen hsz rfl (lv_room hro) hdg ⟨Nat.zero_le _, Nat.zero_le _⟩) hS (fun q _ h => x_af hS q h) (x_af hS) (fun r' u t H1 l1 ht hvm hq hB hz hk hS1 => ?_)
  obtain ⟨rfl, rfl⟩ := hq
  exact kk H1 l1 (by rw [← ht]; exact hB) hS1
theorem ret_B {r : Int32} {q : Int32} (Z : ZZ p s m args c cc nL own g) (hr : meth.sig.returnType = some .byte) (hlk : meth.locks = false) (hP : va_P g.2.2.1 vwCl (wL g mc mm) H) (hS : va_S (AA g s.heap.size) s.heap H locs) (hbz : r = 0 ∨ r = 1) (hF : some r = some q) (hdg : decode cc pc = .ok (.ireturn, 1)) : W p l e R s m args below meth c H locs 0 0 (MQ below (QI g s.heap.size q (mc, mm)) args s 0 0 (AA g s.heap.size)) (F0 m pc ls [.int r]) := by
  obtain rfl := Option.some.inj hF
  exact r_bret Z hr hlk hP hS hbz hdg
theorem ret_BWC {r : Int32} {q : Int32 × Mem} (Z : ZZ p s m args c cc nL own g) (hr : meth.sig.returnType = some .byte) (hlk : meth.locks = false) (hP : va_P g.2.2.1 vwCl (wL g m' mm) H) (hS : va_S (AA g s.heap.size) s.heap H locs) (hbz : r = 0 ∨ r = 1) (hF : some (r, m') = some q) (hdg : decode cc pc = .ok (.ireturn, 1)) : W p l e R s m args below meth c H locs 0 0 (MQ below (QI g s.heap.size q.1 (q.2, mm)) args s 0 0 (AA g s.heap.size)) (F0 m pc ls [.int r]) := by
  obtain rfl := Option.some.inj hF
  exact r_bret Z hr hlk hP hS hbz hdg
theorem ret_BWM {r : Int32} {q : Int32 × Mem} (Z : ZZ p s m args c cc nL own g) (hr : meth.sig.returnType = some .byte) (hlk : meth.locks = false) (hP : va_P g.2.2.1 vwCl (wL g mc m') H) (hS : va_S (AA g s.heap.size) s.heap H locs) (hbz : r = 0 ∨ r = 1) (hF : some (r, m') = some q) (hdg : decode cc pc = .ok (.ireturn, 1)) : W p l e R s m args below meth c H locs 0 0 (MQ below (QI g s.heap.size q.1 (mc, q.2)) args s 0 0 (AA g s.heap.size)) (F0 m pc ls [.int r]) := by
  obtain rfl := Option.some.inj hF
  exact r_bret Z hr hlk hP hS hbz hdg
theorem ret_I {r : Int32} {q : Int32} (Z : ZZ p s m args c cc nL own g) (hr : meth.sig.returnType = some .int) (hlk : meth.locks = false) (hP : va_P g.2.2.1 vwCl (wL g mc mm) H) (hS : va_S (AA g s.heap.size) s.heap H locs) (hF : some r = some q) (hdg : decode cc pc = .ok (.ireturn, 1)) : W p l e R s m args below meth c H locs 0 0 (MQ below (QI g s.heap.size q (mc, mm)) args s 0 0 (AA g s.heap.size)) (F0 m pc ls [.int r]) := by
  obtain rfl := Option.some.inj hF
  exact r_iret Z hr hlk hP hS hdg
theorem ret_IWC {r : Int32} {q : Int32 × Mem} (Z : ZZ p s m args c cc nL own g) (hr : meth.sig.returnType = some .int) (hlk : meth.locks = false) (hP : va_P g.2.2.1 vwCl (wL g m' mm) H) (hS : va_S (AA g s.heap.size) s.heap H locs) (hF : some (r, m') = some q) (hdg : decode cc pc = .ok (.ireturn, 1)) : W p l e R s m args below meth c H locs 0 0 (MQ below (QI g s.heap.size q.1 (q.2, mm)) args s 0 0 (AA g s.heap.size)) (F0 m pc ls [.int r]) := by
  obtain rfl := Option.some.inj hF
  exact r_iret Z hr hlk hP hS hdg
theorem ret_IWM {r : Int32} {q : Int32 × Mem} (Z : ZZ p s m args c cc nL own g) (hr : meth.sig.returnType = some .int) (hlk : meth.locks = false) (hP : va_P g.2.2.1 vwCl (wL g mc m') H) (hS : va_S (AA g s.heap.size) s.heap H locs) (hF : some (r, m') = some q) (hdg : decode cc pc = .ok (.ireturn, 1)) : W p l e R s m args below meth c H locs 0 0 (MQ below (QI g s.heap.size q.1 (mc, q.2)) args s 0 0 (AA g s.heap.size)) (F0 m pc ls [.int r]) := by
  obtain rfl := Option.some.inj hF
  exact r_iret Z hr hlk hP hS hdg
theorem ret_Z {r : Int32} {q : Int32} (Z : ZZ p s m args c cc nL own g) (hr : meth.sig.returnType = some .boolean) (hlk : meth.locks = false) (hP : va_P g.2.2.1 vwCl (wL g mc mm) H) (hS : va_S (AA g s.heap.size) s.heap H locs) (hbz : r = 0 ∨ r = 1) (hF : some r = some q) (hdg : decode cc pc = .ok (.ireturn, 1)) : W p l e R s m args below meth c H locs 0 0 (MQ below (QI g s.heap.size q (mc, mm)) args s 0 0 (AA g s.heap.size)) (F0 m pc ls [.int r]) := by
  obtain rfl := Option.some.inj hF
  exact r_zret Z hr hlk hP hS hbz hdg
theorem ret_ZWC {r : Int32} {q : Int32 × Mem} (Z : ZZ p s m args c cc nL own g) (hr : meth.sig.returnType = some .boolean) (hlk : meth.locks = false) (hP : va_P g.2.2.1 vwCl (wL g m' mm) H) (hS : va_S (AA g s.heap.size) s.heap H locs) (hbz : r = 0 ∨ r = 1) (hF : some (r, m') = some q) (hdg : decode cc pc = .ok (.ireturn, 1)) : W p l e R s m args below meth c H locs 0 0 (MQ below (QI g s.heap.size q.1 (q.2, mm)) args s 0 0 (AA g s.heap.size)) (F0 m pc ls [.int r]) := by
  obtain rfl := Option.some.inj hF
  exact r_zret Z hr hlk hP hS hbz hdg
theorem ret_ZWM {r : Int32} {q : Int32 × Mem} (Z : ZZ p s m args c cc nL own g) (hr : meth.sig.returnType = some .boolean) (hlk : meth.locks = false) (hP : va_P g.2.2.1 vwCl (wL g mc m') H) (hS : va_S (AA g s.heap.size) s.heap H locs) (hbz : r = 0 ∨ r = 1) (hF : some (r, m') = some q) (hdg : decode cc pc = .ok (.ireturn, 1)) : W p l e R s m args below meth c H locs 0 0 (MQ below (QI g s.heap.size q.1 (mc, q.2)) args s 0 0 (AA g s.heap.size)) (F0 m pc ls [.int r]) := by
  obtain rfl := Option.some.inj hF
  exact r_zret Z hr hlk hP hS hbz hdg
theorem ret_J {r : Int64} {q : Int64} (Z : ZZ p s m args c cc nL own g) (hr : meth.sig.returnType = some .long) (hlk : meth.locks = false) (hP : va_P g.2.2.1 vwCl (wL g mc mm) H) (hS : va_S (AA g s.heap.size) s.heap H locs) (hF : some r = some q) (hdg : decode cc pc = .ok (.lreturn, 1)) : W p l e R s m args below meth c H locs 0 0 (MQ below (QL g s.heap.size q (mc, mm)) args s 0 0 (AA g s.heap.size)) (F0 m pc ls [.long r]) := by
  obtain rfl := Option.some.inj hF
  exact r_lret Z hr hlk hP hS hdg
theorem ret_JWC {r : Int64} {q : Int64 × Mem} (Z : ZZ p s m args c cc nL own g) (hr : meth.sig.returnType = some .long) (hlk : meth.locks = false) (hP : va_P g.2.2.1 vwCl (wL g m' mm) H) (hS : va_S (AA g s.heap.size) s.heap H locs) (hF : some (r, m') = some q) (hdg : decode cc pc = .ok (.lreturn, 1)) : W p l e R s m args below meth c H locs 0 0 (MQ below (QL g s.heap.size q.1 (q.2, mm)) args s 0 0 (AA g s.heap.size)) (F0 m pc ls [.long r]) := by
  obtain rfl := Option.some.inj hF
  exact r_lret Z hr hlk hP hS hdg
theorem ret_JWM {r : Int64} {q : Int64 × Mem} (Z : ZZ p s m args c cc nL own g) (hr : meth.sig.returnType = some .long) (hlk : meth.locks = false) (hP : va_P g.2.2.1 vwCl (wL g mc m') H) (hS : va_S (AA g s.heap.size) s.heap H locs) (hF : some (r, m') = some q) (hdg : decode cc pc = .ok (.lreturn, 1)) : W p l e R s m args below meth c H locs 0 0 (MQ below (QL g s.heap.size q.1 (mc, q.2)) args s 0 0 (AA g s.heap.size)) (F0 m pc ls [.long r]) := by
  obtain rfl := Option.some.inj hF
  exact r_lret Z hr hlk hP hS hdg
theorem ret_V {q : Unit} (Z : ZZ p s m args c cc nL own g) (hr : meth.sig.returnType = none) (hlk : meth.locks = false) (hP : va_P g.2.2.1 vwCl (wL g mc mm) H) (hS : va_S (AA g s.heap.size) s.heap H locs) (hF : some () = some q) (hdg : decode cc pc = .ok (.return_, 1)) : W p l e R s m args below meth c H locs 0 0 (MQ below (QV g s.heap.size (mc, mm)) args s 0 0 (AA g s.heap.size)) (F0 m pc ls []) := by
  obtain rfl := Option.some.inj hF
  exact r_vret Z hr hlk hP hS hdg
theorem ret_VWC {q : Mem} (Z : ZZ p s m args c cc nL own g) (hr : meth.sig.returnType = none) (hlk : meth.locks = false) (hP : va_P g.2.2.1 vwCl (wL g m' mm) H) (hS : va_S (AA g s.heap.size) s.heap H locs) (hF : some m' = some q) (hdg : decode cc pc = .ok (.return_, 1)) : W p l e R s m args below meth c H locs 0 0 (MQ below (QV g s.heap.size (q, mm)) args s 0 0 (AA g s.heap.size)) (F0 m pc ls []) := by
  obtain rfl := Option.some.inj hF
  exact r_vret Z hr hlk hP hS hdg
theorem ret_VWM {q : Mem} (Z : ZZ p s m args c cc nL own g) (hr : meth.sig.returnType = none) (hlk : meth.locks = false) (hP : va_P g.2.2.1 vwCl (wL g mc m') H) (hS : va_S (AA g s.heap.size) s.heap H locs) (hF : some m' = some q) (hdg : decode cc pc = .ok (.return_, 1)) : W p l e R s m args below meth c H locs 0 0 (MQ below (QV g s.heap.size (mc, q)) args s 0 0 (AA g s.heap.size)) (F0 m pc ls []) := by
  obtain rfl := Option.some.inj hF
  exact r_vret Z hr hlk hP hS hdg
theorem x_copy {p : Program} {l : Launch} {e : Env} {R : Room} {s : State} {m : MethodId} {args : Array Value} {below : List Frame} {meth : Method} {c : Code} {H : Heap} {locs : List Loc} {Q : State → Prop} {cc : ByteArray} {nL : Nat} {own : String} {g : GG} {pc index : Nat} {ls : Array Slot} {rest : List Value} {mc mm : Mem} (Z : ZZ p s m args c cc nL own g) (hP : va_P g.2.2.1 vwCl (wL g mc mm) H) (hS : va_S (AA g s.heap.size) s.heap H locs) {n0 n1 k0 k1 : Nat} (h0 : isA n0 k0) (h1 : isA n1 k1) {sp dp n : Int32} (hc : ¬ sp < 0 ∧ ¬ dp < 0 ∧ ¬ n < 0 ∧ sp.toNatClampNeg + n.toNatClampNeg ≤ n0 ∧ dp.toNatClampNeg + n.toNatClampNeg ≤ n1) (hl : Cond.methodLink own index arraycopyName ∈ wsL_law) (hsz : ls.size = nL) (hR : 1 ≤ R.frames ∧ (rest.map fun v => v.category).sum + (nativeFrameWords "java/lang/System" "arraycopy" 5 + 11) ≤ R.locals) (hdg : decode cc pc = .ok (.invokestatic index, 3)) (kk : ∀ (H : Heap) (locs : List Loc), va_P g.2.2.1 vwCl (wL g (mcpy mc k0 sp.toNatClampNeg k1 dp.toNatClampNeg n.toNatClampNeg) mm) H → va_S (AA g s.heap.size) s.heap H locs → W p l e R s m args below meth c H locs 0 0 Q (F0 m (pc + 3) ls rest)) : W p l e R s m args below meth c H locs 0 0 Q (F0 m pc ls (.int n :: .int dp :: .ref (g.1 k1) :: .int sp :: .ref (g.1 k0) :: rest)) :=
  va_copyi Z.1.1 Z.1.2.1 (Z.1.2.2.1.trans hsz.symm) Z.1.2.2.2.1 (Z.1.2.2.2.2 _ hl) (Z.1.2.2.2.2 _ wd_41_18) (Z.1.2.2.2.2 _ wd_41_19) (Z.1.2.2.2.2 _ wd_41_20) Z.2.1.1 hP (ZD Z) hS k0 k1 0 0 (wL_arr h0) (wL_arr h1) rfl rfl rfl hc.1 hc.2.1 hc.2.2.1 hc.2.2.2.1 hc.2.2.2.2 (fun _ _ => rfl) hR.1 hR.2 hdg (fun H1 l1 a1 a2 a3 => kk H1 l1 (by
    have e := wL_setC (g := g) (mc := mc) (mm := mm) h1.1 (va_cpy (mc k0) (mc k1) sp.toNatClampNeg dp.toNatClampNeg n.toNatClampNeg)
    rw [wE_20 h1.2.1, h1.2.2] at e
    rw [e] at a1
    exact a1) a3)
end ROWS
