set_option maxRecDepth 20000 in
theorem ggX0_survey_X2_kindOf : GoodIn wsX0_survey wsX2_kindOf := goodIn_r _ [9, 10, 11, 12, 8, 13, 14, 15, 16, 17, 18, 19, 20, 21, 22, 75, 76, 77] (by decide +kernel) (by decide +kernel)
set_option maxRecDepth 20000 in
theorem gX0_survey_X2_kindOf : GoodIn wsX0_survey (wsV RX0 34 RX2 yX2_kindOf wsX2_kindOf) := goodIn_app (goodIn_of _ (by decide +kernel)) ggX0_survey_X2_kindOf
set_option maxRecDepth 20000 in
theorem ggX0_survey_X0_takeLine : GoodIn wsX0_survey wsX0_takeLine := goodIn_r _ [27, 28, 1, 29, 30, 16, 31, 32, 19, 20, 8, 21, 14, 22, 15, 17, 63, 64, 65, 66, 67, 68, 69, 70, 71, 72, 73, 74, 75, 76, 77] (by decide +kernel) (by decide +kernel)
set_option maxRecDepth 20000 in
theorem gX0_survey_X0_takeLine : GoodIn wsX0_survey (wsV RX0 46 RX0 yX0_takeLine wsX0_takeLine) := goodIn_app (goodIn_of _ (by decide +kernel)) ggX0_survey_X0_takeLine
set_option maxRecDepth 20000 in
theorem ggX0_survey_X0_seeParts : GoodIn wsX0_survey wsX0_seeParts := goodIn_r _ [36, 37, 38, 2, 1, 28, 3, 4, 15, 16, 17, 63, 64, 65, 66, 67, 68, 69, 70, 71, 72, 73, 74] (by decide +kernel) (by decide +kernel)
set_option maxRecDepth 20000 in
theorem gX0_survey_X0_seeParts : GoodIn wsX0_survey (wsV RX0 50 RX0 yX0_seeParts wsX0_seeParts) := goodIn_app (goodIn_of _ (by decide +kernel)) ggX0_survey_X0_seeParts
set_option maxRecDepth 20000 in
theorem ggX0_survey_X0_seeInks : GoodIn wsX0_survey wsX0_seeInks := goodIn_r _ [42, 43, 44, 1, 45, 30, 16, 31, 46, 47, 48, 26, 49, 29, 15, 17, 63, 64, 65, 66, 67, 68, 69, 70, 71, 72, 73, 74] (by decide +kernel) (by decide +kernel)
set_option maxRecDepth 20000 in
theorem gX0_survey_X0_seeInks : GoodIn wsX0_survey (wsV RX0 53 RX0 yX0_seeInks wsX0_seeInks) := goodIn_app (goodIn_of _ (by decide +kernel)) ggX0_survey_X0_seeInks
set_option maxRecDepth 20000 in
theorem ggX0_survey_X0_seeGaps : GoodIn wsX0_survey wsX0_seeGaps := goodIn_r _ [53, 54, 1, 43, 30, 16, 31, 55, 56, 57, 26, 58, 46, 47, 48, 49, 29, 15, 17, 59, 60, 61, 62, 63, 64, 65, 66, 67, 68, 69, 70, 71, 72, 73, 74] (by decide +kernel) (by decide +kernel)
set_option maxRecDepth 20000 in
theorem gX0_survey_X0_seeGaps : GoodIn wsX0_survey (wsV RX0 56 RX0 yX0_seeGaps wsX0_seeGaps) := goodIn_app (goodIn_of _ (by decide +kernel)) ggX0_survey_X0_seeGaps
set_option maxRecDepth 20000 in
theorem ggX0_takeLine_X5_put : GoodIn wsX0_takeLine wsX5_put := goodIn_r _ [6] (by decide +kernel) (by decide +kernel)
set_option maxRecDepth 20000 in
theorem gX0_takeLine_X5_put_n59 : GoodIn wsX0_takeLine (wsX5_put) := ggX0_takeLine_X5_put
set_option maxRecDepth 20000 in
theorem ggX0_takeLine_X2_byteAt : GoodIn wsX0_takeLine wsX2_byteAt := goodIn_r _ [11, 12, 13, 14, 5, 15, 28, 29, 30] (by decide +kernel) (by decide +kernel)
set_option maxRecDepth 20000 in
theorem gX0_takeLine_X2_byteAt : GoodIn wsX0_takeLine (wsV RX0 63 RX2 yX2_byteAt wsX2_byteAt) := goodIn_app (goodIn_of _ (by decide +kernel)) ggX0_takeLine_X2_byteAt
set_option maxRecDepth 20000 in
theorem ggX0_seeParts_X5_pick : GoodIn wsX0_seeParts wsX5_pick := goodIn_r _ [10] (by decide +kernel) (by decide +kernel)
set_option maxRecDepth 20000 in
theorem gX0_seeParts_X5_pick_n74 : GoodIn wsX0_seeParts (wsX5_pick) := ggX0_seeParts_X5_pick
set_option maxRecDepth 20000 in
theorem ggX0_seeInks_X5_put : GoodIn wsX0_seeInks wsX5_put := goodIn_r _ [7] (by decide +kernel) (by decide +kernel)
set_option maxRecDepth 20000 in
theorem gX0_seeInks_X5_put_n59 : GoodIn wsX0_seeInks (wsX5_put) := ggX0_seeInks_X5_put
set_option maxRecDepth 20000 in
theorem ggX0_seeInks_X0_hasInk : GoodIn wsX0_seeInks wsX0_hasInk := goodIn_r _ [12, 13, 14, 6, 15, 16, 17, 18, 19, 20, 21, 22, 23, 24, 25, 26, 27] (by decide +kernel) (by decide +kernel)
set_option maxRecDepth 20000 in
theorem gX0_seeInks_X0_hasInk : GoodIn wsX0_seeInks (wsV RX0 81 RX0 yX0_hasInk wsX0_hasInk) := goodIn_app (goodIn_of _ (by decide +kernel)) ggX0_seeInks_X0_hasInk
set_option maxRecDepth 20000 in
theorem ggX0_seeInks_X5_pick : GoodIn wsX0_seeInks wsX5_pick := goodIn_r _ [15] (by decide +kernel) (by decide +kernel)
set_option maxRecDepth 20000 in
theorem gX0_seeInks_X5_pick_n74 : GoodIn wsX0_seeInks (wsX5_pick) := ggX0_seeInks_X5_pick
set_option maxRecDepth 20000 in
theorem ggX0_seeGaps_X5_put : GoodIn wsX0_seeGaps wsX5_put := goodIn_r _ [6] (by decide +kernel) (by decide +kernel)
set_option maxRecDepth 20000 in
theorem gX0_seeGaps_X5_put_n59 : GoodIn wsX0_seeGaps (wsX5_put) := ggX0_seeGaps_X5_put
set_option maxRecDepth 20000 in
theorem ggX0_seeGaps_X0_tellGaps : GoodIn wsX0_seeGaps wsX0_tellGaps := goodIn_r _ [11, 3, 1, 12, 13, 14, 10, 15, 16, 17, 5, 18, 19, 20, 21, 22, 4, 6, 23, 24, 25, 26, 27, 28, 29, 30, 31, 32, 33, 34] (by decide +kernel) (by decide +kernel)
set_option maxRecDepth 20000 in
theorem gX0_seeGaps_X0_tellGaps : GoodIn wsX0_seeGaps (wsV RX0 85 RX0 yX0_tellGaps wsX0_tellGaps) := goodIn_app (goodIn_of _ (by decide +kernel)) ggX0_seeGaps_X0_tellGaps
set_option maxRecDepth 20000 in
theorem ggX0_seeGaps_X0_gapsIn : GoodIn wsX0_seeGaps wsX0_gapsIn := goodIn_r _ [22, 1, 17, 5, 18, 23, 24, 25, 26, 27, 28, 29, 30, 31, 32, 33, 34] (by decide +kernel) (by decide +kernel)
set_option maxRecDepth 20000 in
theorem gX0_seeGaps_X0_gapsIn : GoodIn wsX0_seeGaps (wsV RX0 89 RX0 yX0_gapsIn wsX0_gapsIn) := goodIn_app (goodIn_of _ (by decide +kernel)) ggX0_seeGaps_X0_gapsIn
set_option maxRecDepth 20000 in
theorem ggX0_tellGaps_X0_hasInk : GoodIn wsX0_tellGaps wsX0_hasInk := goodIn_r _ [7, 8, 9, 10, 11, 18, 19, 20, 21, 22, 23, 24, 25, 26, 27, 28, 29] (by decide +kernel) (by decide +kernel)
set_option maxRecDepth 20000 in
theorem gX0_tellGaps_X0_hasInk : GoodIn wsX0_tellGaps (wsV RX0 81 RX0 yX0_hasInk wsX0_hasInk) := goodIn_app (goodIn_of _ (by decide +kernel)) ggX0_tellGaps_X0_hasInk
set_option maxRecDepth 20000 in
theorem ggX0_tellGaps_X0_gapsIn : GoodIn wsX0_tellGaps wsX0_gapsIn := goodIn_r _ [15, 2, 9, 10, 11, 18, 19, 20, 21, 22, 23, 24, 25, 26, 27, 28, 29] (by decide +kernel) (by decide +kernel)
set_option maxRecDepth 20000 in
theorem gX0_tellGaps_X0_gapsIn : GoodIn wsX0_tellGaps (wsV RX0 89 RX0 yX0_gapsIn wsX0_gapsIn) := goodIn_app (goodIn_of _ (by decide +kernel)) ggX0_tellGaps_X0_gapsIn
set_option maxRecDepth 20000 in
theorem ggX0_tellGaps_X5_put : GoodIn wsX0_tellGaps wsX5_put := goodIn_r _ [17] (by decide +kernel) (by decide +kernel)
set_option maxRecDepth 20000 in
theorem gX0_tellGaps_X5_put_n59 : GoodIn wsX0_tellGaps (wsX5_put) := ggX0_tellGaps_X5_put
set_option maxRecDepth 20000 in
theorem ggX0_gapsIn_X5_pick : GoodIn wsX0_gapsIn wsX5_pick := goodIn_r _ [4] (by decide +kernel) (by decide +kernel)
set_option maxRecDepth 20000 in
theorem gX0_gapsIn_X5_pick_n74 : GoodIn wsX0_gapsIn (wsX5_pick) := ggX0_gapsIn_X5_pick
set_option maxRecDepth 20000 in
theorem ggX0_byteAt_X5_pick : GoodIn wsX0_byteAt wsX5_pick := goodIn_r _ [4] (by decide +kernel) (by decide +kernel)
set_option maxRecDepth 20000 in
theorem gX0_byteAt_X5_pick_n74 : GoodIn wsX0_byteAt (wsX5_pick) := ggX0_byteAt_X5_pick
set_option maxRecDepth 20000 in
theorem ggX0_hasInk_X5_pick : GoodIn wsX0_hasInk wsX5_pick := goodIn_r _ [4] (by decide +kernel) (by decide +kernel)
set_option maxRecDepth 20000 in
theorem gX0_hasInk_X5_pick_n74 : GoodIn wsX0_hasInk (wsX5_pick) := ggX0_hasInk_X5_pick
set_option maxRecDepth 20000 in
theorem ggX0_isHead_X5_pick : GoodIn wsX0_isHead wsX5_pick := goodIn_r _ [6] (by decide +kernel) (by decide +kernel)
set_option maxRecDepth 20000 in
theorem gX0_isHead_X5_pick_n74 : GoodIn wsX0_isHead (wsX5_pick) := ggX0_isHead_X5_pick
set_option maxRecDepth 20000 in
theorem ggX0_isFoot_X5_pick : GoodIn wsX0_isFoot wsX5_pick := goodIn_r _ [6] (by decide +kernel) (by decide +kernel)
set_option maxRecDepth 20000 in
theorem gX0_isFoot_X5_pick_n74 : GoodIn wsX0_isFoot (wsX5_pick) := ggX0_isFoot_X5_pick
set_option maxRecDepth 20000 in
theorem ggX0_crossingCost_X5_pick : GoodIn wsX0_crossingCost wsX5_pick := goodIn_r _ [4] (by decide +kernel) (by decide +kernel)
set_option maxRecDepth 20000 in
theorem gX0_crossingCost_X5_pick_n74 : GoodIn wsX0_crossingCost (wsX5_pick) := ggX0_crossingCost_X5_pick
set_option maxRecDepth 20000 in
theorem ggX0_columnCost_X5_pick : GoodIn wsX0_columnCost wsX5_pick := goodIn_r _ [4] (by decide +kernel) (by decide +kernel)
set_option maxRecDepth 20000 in
theorem gX0_columnCost_X5_pick_n74 : GoodIn wsX0_columnCost (wsX5_pick) := ggX0_columnCost_X5_pick
set_option maxRecDepth 20000 in
theorem ggX0_columnCost_X0_gapsIn : GoodIn wsX0_columnCost wsX0_gapsIn := goodIn_r _ [9, 10, 2, 3, 4, 11, 12, 13, 14, 15, 16, 17, 18, 19, 20, 21, 22] (by decide +kernel) (by decide +kernel)
set_option maxRecDepth 20000 in
theorem gX0_columnCost_X0_gapsIn : GoodIn wsX0_columnCost (wsV RX0 89 RX0 yX0_gapsIn wsX0_gapsIn) := goodIn_app (goodIn_of _ (by decide +kernel)) ggX0_columnCost_X0_gapsIn
set_option maxRecDepth 20000 in
theorem ggX2_lengthOf_X5_pick : GoodIn wsX2_lengthOf wsX5_pick := goodIn_r _ [4] (by decide +kernel) (by decide +kernel)
set_option maxRecDepth 20000 in
theorem gX2_lengthOf_X5_pick_n22 : GoodIn wsX2_lengthOf (wsX5_pick) := ggX2_lengthOf_X5_pick
set_option maxRecDepth 20000 in
theorem ggX2_byteAt_X5_pick : GoodIn wsX2_byteAt wsX5_pick := goodIn_r _ [5] (by decide +kernel) (by decide +kernel)
set_option maxRecDepth 20000 in
theorem gX2_byteAt_X5_pick_n22 : GoodIn wsX2_byteAt (wsX5_pick) := ggX2_byteAt_X5_pick
set_option maxRecDepth 20000 in
theorem ggX2_putByte_X5_pick : GoodIn wsX2_putByte wsX5_pick := goodIn_r _ [5] (by decide +kernel) (by decide +kernel)
set_option maxRecDepth 20000 in
theorem gX2_putByte_X5_pick_n22 : GoodIn wsX2_putByte (wsX5_pick) := ggX2_putByte_X5_pick
set_option maxRecDepth 20000 in
theorem ggX2_putByte_X5_put : GoodIn wsX2_putByte wsX5_put := goodIn_r _ [7] (by decide +kernel) (by decide +kernel)
set_option maxRecDepth 20000 in
theorem gX2_putByte_X5_put_n26 : GoodIn wsX2_putByte (wsX5_put) := ggX2_putByte_X5_put
set_option maxRecDepth 20000 in
theorem ggX2_addLine_X5_put : GoodIn wsX2_addLine wsX5_put := goodIn_r _ [5] (by decide +kernel) (by decide +kernel)
set_option maxRecDepth 20000 in
theorem gX2_addLine_X5_put_n26 : GoodIn wsX2_addLine (wsX5_put) := ggX2_addLine_X5_put
set_option maxRecDepth 20000 in
theorem ggX2_addLine_X2_putByte : GoodIn wsX2_addLine wsX2_putByte := goodIn_r _ [10, 2, 11, 12, 4, 13, 3, 5, 14, 15, 16] (by decide +kernel) (by decide +kernel)
set_option maxRecDepth 20000 in
theorem gX2_addLine_X2_putByte : GoodIn wsX2_addLine (wsV RX2 30 RX2 yX2_putByte wsX2_putByte) := goodIn_app (goodIn_of _ (by decide +kernel)) ggX2_addLine_X2_putByte
set_option maxRecDepth 20000 in
theorem ggX2_kindOf_X2_lengthOf : GoodIn wsX2_kindOf wsX2_lengthOf := goodIn_r _ [5, 6, 7, 8, 9, 15, 16, 17] (by decide +kernel) (by decide +kernel)
set_option maxRecDepth 20000 in
theorem gX2_kindOf_X2_lengthOf : GoodIn wsX2_kindOf (wsV RX2 34 RX2 yX2_lengthOf wsX2_lengthOf) := goodIn_app (goodIn_of _ (by decide +kernel)) ggX2_kindOf_X2_lengthOf
set_option maxRecDepth 20000 in
theorem ggX2_kindOf_X2_byteAt : GoodIn wsX2_kindOf wsX2_byteAt := goodIn_r _ [13, 6, 14, 7, 8, 9, 15, 16, 17] (by decide +kernel) (by decide +kernel)
set_option maxRecDepth 20000 in
theorem gX2_kindOf_X2_byteAt : GoodIn wsX2_kindOf (wsV RX2 38 RX2 yX2_byteAt wsX2_byteAt) := goodIn_app (goodIn_of _ (by decide +kernel)) ggX2_kindOf_X2_byteAt
set_option maxRecDepth 20000 in
theorem ggX2_isBlock_X2_holds : GoodIn wsX2_isBlock wsX2_holds := goodIn_r _ [5, 6, 24, 25, 26] (by decide +kernel) (by decide +kernel)
set_option maxRecDepth 20000 in
theorem gX2_isBlock_X2_holds : GoodIn wsX2_isBlock (wsV RX2 42 RX2 yX2_holds wsX2_holds) := goodIn_app (goodIn_of _ (by decide +kernel)) ggX2_isBlock_X2_holds
set_option maxRecDepth 20000 in
theorem ggX2_isBlock_X2_kindOf : GoodIn wsX2_isBlock wsX2_kindOf := goodIn_r _ [10, 11, 12, 13, 4, 14, 15, 16, 17, 18, 19, 20, 21, 22, 23, 24, 25, 26] (by decide +kernel) (by decide +kernel)
set_option maxRecDepth 20000 in
theorem gX2_isBlock_X2_kindOf : GoodIn wsX2_isBlock (wsV RX2 46 RX2 yX2_kindOf wsX2_kindOf) := goodIn_app (goodIn_of _ (by decide +kernel)) ggX2_isBlock_X2_kindOf
set_option maxRecDepth 20000 in
theorem ggX3_readBest_X3_slotOf : GoodIn wsX3_readBest wsX3_slotOf := goodIn_r _ [5] (by decide +kernel) (by decide +kernel)
set_option maxRecDepth 20000 in
theorem gX3_readBest_X3_slotOf : GoodIn wsX3_readBest (va_wsS RX3 27 yX3_slotOf wsX3_slotOf) := goodIn_app (goodIn_of _ (by decide +kernel)) ggX3_readBest_X3_slotOf
set_option maxRecDepth 20000 in
theorem ggX3_readBest_X0_columnCost : GoodIn wsX3_readBest wsX0_columnCost := goodIn_r _ [10, 11, 12, 13, 14, 15, 16, 17, 9, 18, 19, 50, 51, 52, 53, 54, 55, 56, 57, 58, 59, 60, 61] (by decide +kernel) (by decide +kernel)
set_option maxRecDepth 20000 in
theorem gX3_readBest_X0_columnCost : GoodIn wsX3_readBest (wsV RX3 31 RX0 yX0_columnCost wsX0_columnCost) := goodIn_app (goodIn_of _ (by decide +kernel)) ggX3_readBest_X0_columnCost
set_option maxRecDepth 20000 in
theorem ggX3_readBest_X3_keep : GoodIn wsX3_readBest wsX3_keep := goodIn_r _ [23, 24, 25, 26, 27, 13, 28, 69, 70, 71] (by decide +kernel) (by decide +kernel)
set_option maxRecDepth 20000 in
theorem gX3_readBest_X3_keep : GoodIn wsX3_readBest (wsV RX3 35 RX3 yX3_keep wsX3_keep) := goodIn_app (goodIn_of _ (by decide +kernel)) ggX3_readBest_X3_keep
set_option maxRecDepth 20000 in
theorem ggX3_readBest_X3_readFrom : GoodIn wsX3_readBest wsX3_readFrom := goodIn_r _ [32, 1, 24, 33, 34, 35, 36, 25, 2, 3, 4, 5, 6, 7, 8, 9, 10, 11, 12, 13, 14, 15, 16, 17, 18, 19, 37, 38, 39, 40, 41, 20, 21, 22, 23, 26, 27, 28, 50, 51, 52, 53, 54, 55, 56, 57, 58, 59, 60, 61, 69, 70, 71] (by decide +kernel) (by decide +kernel)
set_option maxRecDepth 20000 in
theorem gX3_readBest_X3_readFrom : GoodIn wsX3_readBest (wsV RX3 39 RX3 yX3_readFrom wsX3_readFrom) := goodIn_app (goodIn_of _ (by decide +kernel)) ggX3_readBest_X3_readFrom
set_option maxRecDepth 20000 in
theorem ggX3_readBest_X3_chooseColumns : GoodIn wsX3_readBest wsX3_chooseColumns := goodIn_r _ [45, 1, 24, 25, 33, 34, 35, 36, 2, 3, 4, 5, 12, 13, 14, 62, 63, 64, 65, 66, 67, 68, 69, 70, 71] (by decide +kernel) (by decide +kernel)
set_option maxRecDepth 20000 in
theorem gX3_readBest_X3_chooseColumns : GoodIn wsX3_readBest (wsV RX3 43 RX3 yX3_chooseColumns wsX3_chooseColumns) := goodIn_app (goodIn_of _ (by decide +kernel)) ggX3_readBest_X3_chooseColumns
set_option maxRecDepth 20000 in
theorem ggX3_readBest_X3_traceCuts : GoodIn wsX3_readBest wsX3_traceCuts := goodIn_r _ [49, 26, 27, 13, 28, 2, 3, 4, 5, 12, 14, 62, 63, 64, 65, 66, 67, 68, 69, 70, 71] (by decide +kernel) (by decide +kernel)
set_option maxRecDepth 20000 in
theorem gX3_readBest_X3_traceCuts : GoodIn wsX3_readBest (wsV RX3 47 RX3 yX3_traceCuts wsX3_traceCuts) := goodIn_app (goodIn_of _ (by decide +kernel)) ggX3_readBest_X3_traceCuts
set_option maxRecDepth 20000 in
theorem ggX3_readFrom_X3_slotOf : GoodIn wsX3_readFrom wsX3_slotOf := goodIn_r _ [11] (by decide +kernel) (by decide +kernel)
set_option maxRecDepth 20000 in
theorem gX3_readFrom_X3_slotOf : GoodIn wsX3_readFrom (va_wsS RX3 27 yX3_slotOf wsX3_slotOf) := goodIn_app (goodIn_of _ (by decide +kernel)) ggX3_readFrom_X3_slotOf
set_option maxRecDepth 20000 in
theorem ggX3_readFrom_X0_columnCost : GoodIn wsX3_readFrom wsX0_columnCost := goodIn_r _ [16, 17, 18, 19, 20, 21, 22, 23, 15, 24, 25, 38, 39, 40, 41, 42, 43, 44, 45, 46, 47, 48, 49] (by decide +kernel) (by decide +kernel)
set_option maxRecDepth 20000 in
theorem gX3_readFrom_X0_columnCost : GoodIn wsX3_readFrom (wsV RX3 31 RX0 yX0_columnCost wsX0_columnCost) := goodIn_app (goodIn_of _ (by decide +kernel)) ggX3_readFrom_X0_columnCost
set_option maxRecDepth 20000 in
theorem ggX3_readFrom_X0_crossingCost : GoodIn wsX3_readFrom wsX0_crossingCost := goodIn_r _ [29, 30, 18, 19, 20, 38, 39, 40, 41, 42, 43, 44, 45, 46, 47, 48, 49] (by decide +kernel) (by decide +kernel)
set_option maxRecDepth 20000 in
theorem gX3_readFrom_X0_crossingCost : GoodIn wsX3_readFrom (wsV RX3 65 RX0 yX0_crossingCost wsX0_crossingCost) := goodIn_app (goodIn_of _ (by decide +kernel)) ggX3_readFrom_X0_crossingCost
set_option maxRecDepth 20000 in
theorem ggX3_readFrom_X5_pick : GoodIn wsX3_readFrom wsX5_pick := goodIn_r _ [20] (by decide +kernel) (by decide +kernel)
set_option maxRecDepth 20000 in
theorem gX3_readFrom_X5_pick_n69 : GoodIn wsX3_readFrom (wsX5_pick) := ggX3_readFrom_X5_pick
set_option maxRecDepth 20000 in
theorem ggX3_readFrom_X3_keep : GoodIn wsX3_readFrom wsX3_keep := goodIn_r _ [34, 2, 7, 35, 36, 19, 37, 50, 51, 52] (by decide +kernel) (by decide +kernel)
set_option maxRecDepth 20000 in
theorem gX3_readFrom_X3_keep : GoodIn wsX3_readFrom (wsV RX3 35 RX3 yX3_keep wsX3_keep) := goodIn_app (goodIn_of _ (by decide +kernel)) ggX3_readFrom_X3_keep
set_option maxRecDepth 20000 in
theorem ggX3_chooseColumns_X3_slotOf : GoodIn wsX3_chooseColumns wsX3_slotOf := goodIn_r _ [11] (by decide +kernel) (by decide +kernel)
set_option maxRecDepth 20000 in
theorem gX3_chooseColumns_X3_slotOf : GoodIn wsX3_chooseColumns (va_wsS RX3 27 yX3_slotOf wsX3_slotOf) := goodIn_app (goodIn_of _ (by decide +kernel)) ggX3_chooseColumns_X3_slotOf
set_option maxRecDepth 20000 in
theorem ggX3_chooseColumns_X5_pick : GoodIn wsX3_chooseColumns wsX5_pick := goodIn_r _ [14] (by decide +kernel) (by decide +kernel)
set_option maxRecDepth 20000 in
theorem gX3_chooseColumns_X5_pick_n69 : GoodIn wsX3_chooseColumns (wsX5_pick) := ggX3_chooseColumns_X5_pick
set_option maxRecDepth 20000 in
theorem ggX3_traceCuts_X5_put : GoodIn wsX3_traceCuts wsX5_put := goodIn_r _ [4] (by decide +kernel) (by decide +kernel)
set_option maxRecDepth 20000 in
theorem gX3_traceCuts_X5_put_n90 : GoodIn wsX3_traceCuts (wsX5_put) := ggX3_traceCuts_X5_put
set_option maxRecDepth 20000 in
theorem ggX3_traceCuts_X3_slotOf : GoodIn wsX3_traceCuts wsX3_slotOf := goodIn_r _ [8] (by decide +kernel) (by decide +kernel)
set_option maxRecDepth 20000 in
theorem gX3_traceCuts_X3_slotOf : GoodIn wsX3_traceCuts (va_wsS RX3 27 yX3_slotOf wsX3_slotOf) := goodIn_app (goodIn_of _ (by decide +kernel)) ggX3_traceCuts_X3_slotOf
set_option maxRecDepth 20000 in
theorem ggX3_traceCuts_X5_pick : GoodIn wsX3_traceCuts wsX5_pick := goodIn_r _ [10] (by decide +kernel) (by decide +kernel)
set_option maxRecDepth 20000 in
theorem gX3_traceCuts_X5_pick_n69 : GoodIn wsX3_traceCuts (wsX5_pick) := ggX3_traceCuts_X5_pick
set_option maxRecDepth 20000 in
theorem ggX3_keep_X5_put : GoodIn wsX3_keep wsX5_put := goodIn_r _ [6] (by decide +kernel) (by decide +kernel)
set_option maxRecDepth 20000 in
theorem gX3_keep_X5_put_n90 : GoodIn wsX3_keep (wsX5_put) := ggX3_keep_X5_put
set_option maxRecDepth 20000 in
theorem ggX4_lengthOf_X4_slotOf : GoodIn wsX4_lengthOf wsX4_slotOf := goodIn_r _ [6, 7, 11, 12, 13, 14, 15, 16, 17] (by decide +kernel) (by decide +kernel)
set_option maxRecDepth 20000 in
theorem gX4_lengthOf_X4_slotOf : GoodIn wsX4_lengthOf (wsV RX4 31 RX4 yX4_slotOf wsX4_slotOf) := goodIn_app (goodIn_of _ (by decide +kernel)) ggX4_lengthOf_X4_slotOf
set_option maxRecDepth 20000 in
theorem ggX4_lengthOf_X5_pick : GoodIn wsX4_lengthOf wsX5_pick := goodIn_r _ [10] (by decide +kernel) (by decide +kernel)
set_option maxRecDepth 20000 in
theorem gX4_lengthOf_X5_pick_n35 : GoodIn wsX4_lengthOf (wsX5_pick) := ggX4_lengthOf_X5_pick
set_option maxRecDepth 20000 in
theorem ggX4_byteOf_X4_slotOf : GoodIn wsX4_byteOf wsX4_slotOf := goodIn_r _ [7, 8, 12, 13, 14, 15, 16, 17, 18] (by decide +kernel) (by decide +kernel)
set_option maxRecDepth 20000 in
theorem gX4_byteOf_X4_slotOf : GoodIn wsX4_byteOf (wsV RX4 31 RX4 yX4_slotOf wsX4_slotOf) := goodIn_app (goodIn_of _ (by decide +kernel)) ggX4_byteOf_X4_slotOf
set_option maxRecDepth 20000 in
theorem ggX4_byteOf_X5_pick : GoodIn wsX4_byteOf wsX5_pick := goodIn_r _ [11] (by decide +kernel) (by decide +kernel)
set_option maxRecDepth 20000 in
theorem gX4_byteOf_X5_pick_n35 : GoodIn wsX4_byteOf (wsX5_pick) := ggX4_byteOf_X5_pick
set_option maxRecDepth 20000 in
theorem ggX4_hasHead_X4_hasText : GoodIn wsX4_hasHead wsX4_hasText := goodIn_r _ [5, 6, 7, 8, 9, 4, 10, 11, 12, 13, 14, 15, 16, 17, 18, 19, 20, 21, 22, 23, 24, 25, 26] (by decide +kernel) (by decide +kernel)
set_option maxRecDepth 20000 in
theorem gX4_hasHead_X4_hasText : GoodIn wsX4_hasHead (wsV RX4 39 RX4 yX4_hasText wsX4_hasText) := goodIn_app (goodIn_of _ (by decide +kernel)) ggX4_hasHead_X4_hasText
set_option maxRecDepth 20000 in
theorem ggX4_hasFoot_X4_hasText : GoodIn wsX4_hasFoot wsX4_hasText := goodIn_r _ [6, 7, 8, 9, 10, 5, 11, 12, 13, 14, 15, 16, 1, 17, 18, 19, 20, 21, 22, 23, 24, 25, 26] (by decide +kernel) (by decide +kernel)
set_option maxRecDepth 20000 in
theorem gX4_hasFoot_X4_hasText : GoodIn wsX4_hasFoot (wsV RX4 39 RX4 yX4_hasText wsX4_hasText) := goodIn_app (goodIn_of _ (by decide +kernel)) ggX4_hasFoot_X4_hasText
set_option maxRecDepth 20000 in
theorem ggX4_hasText_X4_lengthOf : GoodIn wsX4_hasText wsX4_lengthOf := goodIn_r _ [6, 7, 8, 9, 10, 5, 11, 12, 13, 14, 15, 16, 17, 18, 19, 20, 21, 22] (by decide +kernel) (by decide +kernel)
set_option maxRecDepth 20000 in
theorem gX4_hasText_X4_lengthOf : GoodIn wsX4_hasText (wsV RX4 43 RX4 yX4_lengthOf wsX4_lengthOf) := goodIn_app (goodIn_of _ (by decide +kernel)) ggX4_hasText_X4_lengthOf
set_option maxRecDepth 20000 in
theorem ggX4_fill_X5_put : GoodIn wsX4_fill wsX5_put := goodIn_r _ [6] (by decide +kernel) (by decide +kernel)
set_option maxRecDepth 20000 in
theorem gX4_fill_X5_put_n49 : GoodIn wsX4_fill (wsX5_put) := ggX4_fill_X5_put
set_option maxRecDepth 20000 in
theorem ggX4_fill_X4_rowOfLine : GoodIn wsX4_fill wsX4_rowOfLine := goodIn_r _ [11, 2, 12, 13, 14, 15, 16, 17, 18, 19, 20, 5, 21, 22, 23, 24, 25, 26, 27, 28, 29, 10, 30, 31, 32, 33, 34, 35, 53, 54, 55, 56, 57, 58, 59, 60, 61, 62, 63, 64, 65, 66, 67, 68, 69, 70, 71, 72, 73, 74, 75, 76, 77, 78] (by decide +kernel) (by decide +kernel)
set_option maxRecDepth 20000 in
theorem gX4_fill_X4_rowOfLine : GoodIn wsX4_fill (wsV RX4 58 RX4 yX4_rowOfLine wsX4_rowOfLine) := goodIn_app (goodIn_of _ (by decide +kernel)) ggX4_fill_X4_rowOfLine
set_option maxRecDepth 20000 in
theorem ggX4_fill_X5_pick : GoodIn wsX4_fill wsX5_pick := goodIn_r _ [21] (by decide +kernel) (by decide +kernel)
set_option maxRecDepth 20000 in
theorem gX4_fill_X5_pick_n35 : GoodIn wsX4_fill (wsX5_pick) := ggX4_fill_X5_pick
set_option maxRecDepth 20000 in
theorem ggX4_fill_X4_slotOf : GoodIn wsX4_fill wsX4_slotOf := goodIn_r _ [39, 2, 60, 61, 62, 63, 64, 65, 66] (by decide +kernel) (by decide +kernel)
set_option maxRecDepth 20000 in
theorem gX4_fill_X4_slotOf : GoodIn wsX4_fill (wsV RX4 31 RX4 yX4_slotOf wsX4_slotOf) := goodIn_app (goodIn_of _ (by decide +kernel)) ggX4_fill_X4_slotOf
set_option maxRecDepth 20000 in
theorem ggX4_fill_X4_joinCell : GoodIn wsX4_fill wsX4_joinCell := goodIn_r _ [43, 3, 28, 29, 10, 30, 31, 32, 33, 15, 34, 35, 20, 5, 21, 44, 45, 46, 47, 48, 4, 6, 49, 50, 51, 52, 60, 61, 62, 63, 64, 65, 66, 67, 68, 69, 70, 71, 72, 73, 74, 75, 76, 77, 78] (by decide +kernel) (by decide +kernel)
set_option maxRecDepth 20000 in
theorem gX4_fill_X4_joinCell : GoodIn wsX4_fill (wsV RX4 65 RX4 yX4_joinCell wsX4_joinCell) := goodIn_app (goodIn_of _ (by decide +kernel)) ggX4_fill_X4_joinCell
set_option maxRecDepth 20000 in
theorem ggX4_rowOfLine_X0_isHead : GoodIn wsX4_rowOfLine wsX0_isHead := goodIn_r _ [6, 7, 8, 9, 10, 11, 12, 42, 43, 44, 45, 46, 47, 48, 49, 50, 51, 52, 53] (by decide +kernel) (by decide +kernel)
set_option maxRecDepth 20000 in
theorem gX4_rowOfLine_X0_isHead : GoodIn wsX4_rowOfLine (wsV RX4 69 RX0 yX0_isHead wsX0_isHead) := goodIn_app (goodIn_of _ (by decide +kernel)) ggX4_rowOfLine_X0_isHead
set_option maxRecDepth 20000 in
theorem ggX4_rowOfLine_X0_isFoot : GoodIn wsX4_rowOfLine wsX0_isFoot := goodIn_r _ [16, 17, 8, 18, 10, 11, 12, 42, 43, 44, 45, 46, 47, 48, 49, 50, 51, 52, 53] (by decide +kernel) (by decide +kernel)
set_option maxRecDepth 20000 in
theorem gX4_rowOfLine_X0_isFoot : GoodIn wsX4_rowOfLine (wsV RX4 72 RX0 yX0_isFoot wsX0_isFoot) := goodIn_app (goodIn_of _ (by decide +kernel)) ggX4_rowOfLine_X0_isFoot
set_option maxRecDepth 20000 in
theorem ggX4_rowOfLine_X5_pick : GoodIn wsX4_rowOfLine wsX5_pick := goodIn_r _ [12] (by decide +kernel) (by decide +kernel)
set_option maxRecDepth 20000 in
theorem gX4_rowOfLine_X5_pick_n35 : GoodIn wsX4_rowOfLine (wsX5_pick) := ggX4_rowOfLine_X5_pick
set_option maxRecDepth 20000 in
theorem ggX4_rowOfLine_X4_firstInk : GoodIn wsX4_rowOfLine wsX4_firstInk := goodIn_r _ [22, 23, 24, 25, 5, 26, 27, 10, 11, 12, 42, 43, 44, 45, 46, 47, 48, 49, 50, 51, 52, 53] (by decide +kernel) (by decide +kernel)
set_option maxRecDepth 20000 in
theorem gX4_rowOfLine_X4_firstInk : GoodIn wsX4_rowOfLine (va_wsS RX4 75 yX4_firstInk wsX4_firstInk) := goodIn_app (goodIn_of _ (by decide +kernel)) ggX4_rowOfLine_X4_firstInk
set_option maxRecDepth 20000 in
theorem ggX4_firstInk_X0_hasInk : GoodIn wsX4_firstInk wsX0_hasInk := goodIn_r _ [5, 6, 7, 8, 9, 10, 11, 12, 13, 14, 15, 16, 17, 18, 19, 20, 21] (by decide +kernel) (by decide +kernel)
set_option maxRecDepth 20000 in
theorem gX4_firstInk_X0_hasInk : GoodIn wsX4_firstInk (wsV RX4 82 RX0 yX0_hasInk wsX0_hasInk) := goodIn_app (goodIn_of _ (by decide +kernel)) ggX4_firstInk_X0_hasInk
set_option maxRecDepth 20000 in
theorem ggX4_joinCell_X4_firstInk : GoodIn wsX4_joinCell wsX4_firstInk := goodIn_r _ [5, 6, 7, 8, 9, 10, 11, 12, 13, 14, 33, 34, 35, 36, 37, 38, 39, 40, 41, 42, 43, 44] (by decide +kernel) (by decide +kernel)
set_option maxRecDepth 20000 in
theorem gX4_joinCell_X4_firstInk : GoodIn wsX4_joinCell (va_wsS RX4 75 yX4_firstInk wsX4_firstInk) := goodIn_app (goodIn_of _ (by decide +kernel)) ggX4_joinCell_X4_firstInk
set_option maxRecDepth 20000 in
theorem ggX4_joinCell_X0_hasInk : GoodIn wsX4_joinCell wsX0_hasInk := goodIn_r _ [10, 11, 12, 13, 14, 33, 34, 35, 36, 37, 38, 39, 40, 41, 42, 43, 44] (by decide +kernel) (by decide +kernel)
set_option maxRecDepth 20000 in
theorem gX4_joinCell_X0_hasInk : GoodIn wsX4_joinCell (wsV RX4 82 RX0 yX0_hasInk wsX0_hasInk) := goodIn_app (goodIn_of _ (by decide +kernel)) ggX4_joinCell_X0_hasInk
set_option maxRecDepth 20000 in
theorem ggX4_joinCell_X5_pick : GoodIn wsX4_joinCell wsX5_pick := goodIn_r _ [14] (by decide +kernel) (by decide +kernel)
set_option maxRecDepth 20000 in
theorem gX4_joinCell_X5_pick_n35 : GoodIn wsX4_joinCell (wsX5_pick) := ggX4_joinCell_X5_pick
set_option maxRecDepth 20000 in
theorem ggX4_joinCell_X4_addByte : GoodIn wsX4_joinCell wsX4_addByte := goodIn_r _ [18, 1, 19, 12, 13, 14, 20, 21, 26, 27, 28, 29, 30, 31, 32] (by decide +kernel) (by decide +kernel)
set_option maxRecDepth 20000 in
theorem gX4_joinCell_X4_addByte : GoodIn wsX4_joinCell (wsV RX4 86 RX4 yX4_addByte wsX4_addByte) := goodIn_app (goodIn_of _ (by decide +kernel)) ggX4_joinCell_X4_addByte
set_option maxRecDepth 20000 in
theorem ggX4_joinCell_X0_byteAt : GoodIn wsX4_joinCell wsX0_byteAt := goodIn_r _ [25, 11, 12, 13, 14, 33, 34, 35, 36, 37, 38, 39, 40, 41, 42, 43, 44] (by decide +kernel) (by decide +kernel)
set_option maxRecDepth 20000 in
theorem gX4_joinCell_X0_byteAt : GoodIn wsX4_joinCell (wsV RX4 89 RX0 yX0_byteAt wsX0_byteAt) := goodIn_app (goodIn_of _ (by decide +kernel)) ggX4_joinCell_X0_byteAt
set_option maxRecDepth 20000 in
theorem ggX4_addByte_X5_pick : GoodIn wsX4_addByte wsX5_pick := goodIn_r _ [5] (by decide +kernel) (by decide +kernel)
set_option maxRecDepth 20000 in
theorem gX4_addByte_X5_pick_n35 : GoodIn wsX4_addByte (wsX5_pick) := ggX4_addByte_X5_pick
set_option maxRecDepth 20000 in
theorem ggX4_addByte_X5_put : GoodIn wsX4_addByte wsX5_put := goodIn_r _ [7] (by decide +kernel) (by decide +kernel)
set_option maxRecDepth 20000 in
theorem gX4_addByte_X5_put_n49 : GoodIn wsX4_addByte (wsX5_put) := ggX4_addByte_X5_put
set_option maxRecDepth 20000 in
theorem ggX4_goesTogetherWith_X4_hasHead : GoodIn wsX4_goesTogetherWith wsX4_hasHead := goodIn_r _ [6, 7, 8, 9, 5, 10, 1, 11, 12, 13, 14, 15, 16, 17, 18, 19, 20, 21, 22, 23, 33, 34, 35, 36, 37, 38, 39] (by decide +kernel) (by decide +kernel)
set_option maxRecDepth 20000 in
theorem gX4_goesTogetherWith_X4_hasHead : GoodIn wsX4_goesTogetherWith (wsV RX4 92 RX4 yX4_hasHead wsX4_hasHead) := goodIn_app (goodIn_of _ (by decide +kernel)) ggX4_goesTogetherWith_X4_hasHead
set_option maxRecDepth 20000 in
theorem ggX4_goesTogetherWith_X4_hasSameHead : GoodIn wsX4_goesTogetherWith wsX4_hasSameHead := goodIn_r _ [27, 1, 11, 12, 13, 5, 14, 15, 16, 17, 18, 19, 20, 21, 22, 23, 28, 29, 30, 31, 32, 33, 34, 35, 36, 37, 38, 39] (by decide +kernel) (by decide +kernel)
set_option maxRecDepth 20000 in
theorem gX4_goesTogetherWith_X4_hasSameHead : GoodIn wsX4_goesTogetherWith (wsV RX4 96 RX4 yX4_hasSameHead wsX4_hasSameHead) := goodIn_app (goodIn_of _ (by decide +kernel)) ggX4_goesTogetherWith_X4_hasSameHead
set_option maxRecDepth 20000 in
theorem ggX4_hasSameHead_X4_lengthOf : GoodIn wsX4_hasSameHead wsX4_lengthOf := goodIn_r _ [6, 7, 8, 9, 10, 5, 11, 12, 13, 14, 15, 21, 22, 23, 24, 25, 26, 27] (by decide +kernel) (by decide +kernel)
set_option maxRecDepth 20000 in
theorem gX4_hasSameHead_X4_lengthOf : GoodIn wsX4_hasSameHead (wsV RX4 43 RX4 yX4_lengthOf wsX4_lengthOf) := goodIn_app (goodIn_of _ (by decide +kernel)) ggX4_hasSameHead_X4_lengthOf
set_option maxRecDepth 20000 in
theorem ggX4_hasSameHead_X4_byteOf : GoodIn wsX4_hasSameHead wsX4_byteOf := goodIn_r _ [19, 7, 20, 8, 9, 10, 5, 11, 12, 13, 14, 15, 21, 22, 23, 24, 25, 26, 27] (by decide +kernel) (by decide +kernel)
set_option maxRecDepth 20000 in
theorem gX4_hasSameHead_X4_byteOf : GoodIn wsX4_hasSameHead (wsV RX4 100 RX4 yX4_byteOf wsX4_byteOf) := goodIn_app (goodIn_of _ (by decide +kernel)) ggX4_hasSameHead_X4_byteOf
set_option maxRecDepth 20000 in
theorem ggX4_putBehind_X4_takeRow : GoodIn wsX4_putBehind wsX4_takeRow := goodIn_r _ [6, 7, 8, 9, 10, 11, 12, 5, 13, 1, 14, 15, 16, 17, 18, 19, 20, 21, 22, 23, 24, 25, 26, 27, 28, 29, 30, 31, 32, 33] (by decide +kernel) (by decide +kernel)
set_option maxRecDepth 20000 in
theorem gX4_putBehind_X4_takeRow : GoodIn wsX4_putBehind (wsV RX4 104 RX4 yX4_takeRow wsX4_takeRow) := goodIn_app (goodIn_of _ (by decide +kernel)) ggX4_putBehind_X4_takeRow
set_option maxRecDepth 20000 in
theorem ggX4_takeRow_X4_slotOf : GoodIn wsX4_takeRow wsX4_slotOf := goodIn_r _ [8, 9, 23, 24, 25, 26, 27, 28, 29] (by decide +kernel) (by decide +kernel)
set_option maxRecDepth 20000 in
theorem gX4_takeRow_X4_slotOf : GoodIn wsX4_takeRow (wsV RX4 31 RX4 yX4_slotOf wsX4_slotOf) := goodIn_app (goodIn_of _ (by decide +kernel)) ggX4_takeRow_X4_slotOf
set_option maxRecDepth 20000 in
theorem ggX4_takeRow_X4_lengthOf : GoodIn wsX4_takeRow wsX4_lengthOf := goodIn_r _ [13, 2, 4, 5, 6, 7, 8, 9, 14, 15, 16, 23, 24, 25, 26, 27, 28, 29] (by decide +kernel) (by decide +kernel)
set_option maxRecDepth 20000 in
theorem gX4_takeRow_X4_lengthOf : GoodIn wsX4_takeRow (wsV RX4 43 RX4 yX4_lengthOf wsX4_lengthOf) := goodIn_app (goodIn_of _ (by decide +kernel)) ggX4_takeRow_X4_lengthOf
set_option maxRecDepth 20000 in
theorem ggX4_takeRow_X5_put : GoodIn wsX4_takeRow wsX5_put := goodIn_r _ [18] (by decide +kernel) (by decide +kernel)
set_option maxRecDepth 20000 in
theorem gX4_takeRow_X5_put_n49 : GoodIn wsX4_takeRow (wsX5_put) := ggX4_takeRow_X5_put
set_option maxRecDepth 20000 in
theorem ggX4_takeRow_X4_byteOf : GoodIn wsX4_takeRow wsX4_byteOf := goodIn_r _ [22, 2, 3, 4, 5, 6, 7, 8, 9, 14, 15, 16, 23, 24, 25, 26, 27, 28, 29] (by decide +kernel) (by decide +kernel)
set_option maxRecDepth 20000 in
theorem gX4_takeRow_X4_byteOf : GoodIn wsX4_takeRow (wsV RX4 100 RX4 yX4_byteOf wsX4_byteOf) := goodIn_app (goodIn_of _ (by decide +kernel)) ggX4_takeRow_X4_byteOf
set_option maxRecDepth 20000 in
theorem ggX4_valueOf_X4_byteOf : GoodIn wsX4_valueOf wsX4_byteOf := goodIn_r _ [6, 7, 8, 9, 10, 11, 5, 12, 13, 14, 15, 16, 31, 32, 33, 34, 35, 36, 37] (by decide +kernel) (by decide +kernel)
set_option maxRecDepth 20000 in
theorem gX4_valueOf_X4_byteOf : GoodIn wsX4_valueOf (wsV RX4 100 RX4 yX4_byteOf wsX4_byteOf) := goodIn_app (goodIn_of _ (by decide +kernel)) ggX4_valueOf_X4_byteOf
set_option maxRecDepth 20000 in
theorem ggX4_valueOf_X4_countDigits : GoodIn wsX4_valueOf wsX4_countDigits := goodIn_r _ [20, 2, 3, 4, 5, 6, 7, 8, 9, 10, 11, 12, 13, 14, 15, 16, 21, 22, 31, 32, 33, 34, 35, 36, 37] (by decide +kernel) (by decide +kernel)
set_option maxRecDepth 20000 in
theorem gX4_valueOf_X4_countDigits : GoodIn wsX4_valueOf (wsV RX4 108 RX4 yX4_countDigits wsX4_countDigits) := goodIn_app (goodIn_of _ (by decide +kernel)) ggX4_valueOf_X4_countDigits
set_option maxRecDepth 20000 in
theorem ggX4_valueOf_X4_readDigits : GoodIn wsX4_valueOf wsX4_readDigits := goodIn_r _ [26, 2, 3, 4, 5, 6, 7, 8, 9, 10, 11, 12, 13, 14, 15, 16, 31, 32, 33, 34, 35, 36, 37] (by decide +kernel) (by decide +kernel)
set_option maxRecDepth 20000 in
theorem gX4_valueOf_X4_readDigits : GoodIn wsX4_valueOf (wsV RX4 112 RX4 yX4_readDigits wsX4_readDigits) := goodIn_app (goodIn_of _ (by decide +kernel)) ggX4_valueOf_X4_readDigits
set_option maxRecDepth 20000 in
theorem ggX4_valueOf_X4_lengthOf : GoodIn wsX4_valueOf wsX4_lengthOf := goodIn_r _ [30, 7, 9, 10, 11, 5, 12, 13, 14, 15, 16, 31, 32, 33, 34, 35, 36, 37] (by decide +kernel) (by decide +kernel)
set_option maxRecDepth 20000 in
theorem gX4_valueOf_X4_lengthOf : GoodIn wsX4_valueOf (wsV RX4 43 RX4 yX4_lengthOf wsX4_lengthOf) := goodIn_app (goodIn_of _ (by decide +kernel)) ggX4_valueOf_X4_lengthOf
set_option maxRecDepth 20000 in
theorem ggX4_countDigits_X4_byteOf : GoodIn wsX4_countDigits wsX4_byteOf := goodIn_r _ [5, 6, 7, 8, 9, 10, 4, 11, 12, 13, 14, 15, 18, 19, 20, 21, 22, 23, 24] (by decide +kernel) (by decide +kernel)
set_option maxRecDepth 20000 in
theorem gX4_countDigits_X4_byteOf : GoodIn wsX4_countDigits (wsV RX4 100 RX4 yX4_byteOf wsX4_byteOf) := goodIn_app (goodIn_of _ (by decide +kernel)) ggX4_countDigits_X4_byteOf
set_option maxRecDepth 20000 in
theorem ggX4_countDigits_X5_isDigit : GoodIn wsX4_countDigits wsX5_isDigit := goodIn_r _ [17] (by decide +kernel) (by decide +kernel)
set_option maxRecDepth 20000 in
theorem gX4_countDigits_X5_isDigit_n116 : GoodIn wsX4_countDigits (wsX5_isDigit) := ggX4_countDigits_X5_isDigit
set_option maxRecDepth 20000 in
theorem ggX4_readDigits_X4_byteOf : GoodIn wsX4_readDigits wsX4_byteOf := goodIn_r _ [5, 6, 7, 8, 9, 10, 4, 11, 12, 13, 14, 15, 16, 17, 18, 19, 20, 21, 22] (by decide +kernel) (by decide +kernel)
set_option maxRecDepth 20000 in
theorem gX4_readDigits_X4_byteOf : GoodIn wsX4_readDigits (wsV RX4 100 RX4 yX4_byteOf wsX4_byteOf) := goodIn_app (goodIn_of _ (by decide +kernel)) ggX4_readDigits_X4_byteOf
set_option maxRecDepth 20000 in
theorem ggX4_isOfNumbers_X4_lengthOf : GoodIn wsX4_isOfNumbers wsX4_lengthOf := goodIn_r _ [7, 8, 9, 10, 11, 6, 12, 1, 13, 14, 15, 35, 36, 37, 38, 39, 40, 41] (by decide +kernel) (by decide +kernel)
set_option maxRecDepth 20000 in
theorem gX4_isOfNumbers_X4_lengthOf : GoodIn wsX4_isOfNumbers (wsV RX4 43 RX4 yX4_lengthOf wsX4_lengthOf) := goodIn_app (goodIn_of _ (by decide +kernel)) ggX4_isOfNumbers_X4_lengthOf
set_option maxRecDepth 20000 in
theorem ggX4_isOfNumbers_X4_valueOf : GoodIn wsX4_isOfNumbers wsX4_valueOf := goodIn_r _ [19, 2, 20, 21, 22, 6, 23, 8, 24, 9, 10, 11, 12, 1, 13, 14, 15, 25, 26, 27, 28, 29, 30, 31, 32, 33, 34, 3, 4, 5, 7, 35, 36, 37, 38, 39, 40, 41] (by decide +kernel) (by decide +kernel)
set_option maxRecDepth 20000 in
theorem gX4_isOfNumbers_X4_valueOf : GoodIn wsX4_isOfNumbers (wsV RX4 119 RX4 yX4_valueOf wsX4_valueOf) := goodIn_app (goodIn_of _ (by decide +kernel)) ggX4_isOfNumbers_X4_valueOf
set_option maxRecDepth 20000 in
theorem ggX4_sumOf_X4_lengthOf : GoodIn wsX4_sumOf wsX4_lengthOf := goodIn_r _ [6, 7, 8, 9, 10, 5, 11, 1, 12, 13, 14, 35, 36, 37, 38, 39, 40, 41] (by decide +kernel) (by decide +kernel)
set_option maxRecDepth 20000 in
theorem gX4_sumOf_X4_lengthOf : GoodIn wsX4_sumOf (wsV RX4 43 RX4 yX4_lengthOf wsX4_lengthOf) := goodIn_app (goodIn_of _ (by decide +kernel)) ggX4_sumOf_X4_lengthOf
set_option maxRecDepth 20000 in
theorem ggX4_sumOf_X4_valueOf : GoodIn wsX4_sumOf wsX4_valueOf := goodIn_r _ [18, 19, 20, 21, 22, 5, 23, 7, 24, 8, 9, 10, 11, 1, 12, 13, 14, 25, 26, 27, 28, 29, 30, 31, 32, 33, 34, 2, 3, 4, 6, 35, 36, 37, 38, 39, 40, 41] (by decide +kernel) (by decide +kernel)
set_option maxRecDepth 20000 in
theorem gX4_sumOf_X4_valueOf : GoodIn wsX4_sumOf (wsV RX4 119 RX4 yX4_valueOf wsX4_valueOf) := goodIn_app (goodIn_of _ (by decide +kernel)) ggX4_sumOf_X4_valueOf
set_option maxRecDepth 20000 in
theorem ggX4_laidLines_X4_hasHead : GoodIn wsX4_laidLines wsX4_hasHead := goodIn_r _ [6, 7, 8, 9, 5, 10, 11, 12, 13, 14, 15, 16, 17, 18, 19, 20, 1, 21, 22, 23, 28, 29, 30, 31, 32, 33, 34] (by decide +kernel) (by decide +kernel)
set_option maxRecDepth 20000 in
theorem gX4_laidLines_X4_hasHead : GoodIn wsX4_laidLines (wsV RX4 92 RX4 yX4_hasHead wsX4_hasHead) := goodIn_app (goodIn_of _ (by decide +kernel)) ggX4_laidLines_X4_hasHead
set_option maxRecDepth 20000 in
theorem ggX4_laidLines_X4_hasFoot : GoodIn wsX4_laidLines wsX4_hasFoot := goodIn_r _ [27, 1, 7, 8, 9, 5, 10, 11, 12, 13, 14, 15, 16, 17, 18, 19, 20, 21, 22, 23, 28, 29, 30, 31, 32, 33, 34] (by decide +kernel) (by decide +kernel)
set_option maxRecDepth 20000 in
theorem gX4_laidLines_X4_hasFoot : GoodIn wsX4_laidLines (wsV RX4 122 RX4 yX4_hasFoot wsX4_hasFoot) := goodIn_app (goodIn_of _ (by decide +kernel)) ggX4_laidLines_X4_hasFoot
set_option maxRecDepth 20000 in
theorem ggX4_measure_X4_lengthOf : GoodIn wsX4_measure wsX4_lengthOf := goodIn_r _ [14, 15, 16, 17, 18, 13, 19, 3, 20, 21, 22, 49, 50, 51, 52, 53, 54, 55] (by decide +kernel) (by decide +kernel)
set_option maxRecDepth 20000 in
theorem gX4_measure_X4_lengthOf : GoodIn wsX4_measure (wsV RX4 43 RX4 yX4_lengthOf wsX4_lengthOf) := goodIn_app (goodIn_of _ (by decide +kernel)) ggX4_measure_X4_lengthOf
set_option maxRecDepth 20000 in
theorem ggX4_measure_X5_put : GoodIn wsX4_measure wsX5_put := goodIn_r _ [24] (by decide +kernel) (by decide +kernel)
set_option maxRecDepth 20000 in
theorem gX4_measure_X5_put_n49 : GoodIn wsX4_measure (wsX5_put) := ggX4_measure_X5_put
set_option maxRecDepth 20000 in
theorem ggX4_measure_X4_isOfNumbers : GoodIn wsX4_measure wsX4_isOfNumbers := goodIn_r _ [28, 3, 29, 10, 11, 12, 13, 14, 15, 16, 17, 18, 19, 20, 21, 22, 30, 31, 32, 33, 34, 35, 36, 37, 38, 39, 40, 41, 42, 43, 44, 45, 46, 47, 48, 49, 50, 51, 52, 53, 54, 55] (by decide +kernel) (by decide +kernel)
set_option maxRecDepth 20000 in
theorem gX4_measure_X4_isOfNumbers : GoodIn wsX4_measure (wsV RX4 133 RX4 yX4_isOfNumbers wsX4_isOfNumbers) := goodIn_app (goodIn_of _ (by decide +kernel)) ggX4_measure_X4_isOfNumbers
set_option maxRecDepth 20000 in
theorem ggX4_layOn_X4_hasHead : GoodIn wsX4_layOn wsX4_hasHead := goodIn_r _ [11, 12, 13, 14, 10, 15, 16, 17, 18, 19, 20, 21, 22, 23, 24, 25, 6, 26, 27, 28, 59, 60, 61, 62, 63, 64, 65] (by decide +kernel) (by decide +kernel)
set_option maxRecDepth 20000 in
theorem gX4_layOn_X4_hasHead : GoodIn wsX4_layOn (wsV RX4 92 RX4 yX4_hasHead wsX4_hasHead) := goodIn_app (goodIn_of _ (by decide +kernel)) ggX4_layOn_X4_hasHead
set_option maxRecDepth 20000 in
theorem ggX4_layOn_X4_layRow : GoodIn wsX4_layOn wsX4_layRow := goodIn_r _ [32, 1, 16, 33, 34, 35, 36, 37, 38, 39, 40, 41, 42, 27, 43, 44, 45, 46, 47, 48, 26, 28, 17, 18, 19, 10, 20, 21, 22, 23, 24, 25, 6, 49, 50, 51, 52, 53, 54, 59, 60, 61, 62, 63, 64, 65, 66, 67, 68] (by decide +kernel) (by decide +kernel)
set_option maxRecDepth 20000 in
theorem gX4_layOn_X4_layRow : GoodIn wsX4_layOn (wsV RX4 136 RX4 yX4_layRow wsX4_layRow) := goodIn_app (goodIn_of _ (by decide +kernel)) ggX4_layOn_X4_layRow
set_option maxRecDepth 20000 in
theorem ggX4_layOn_X4_hasFoot : GoodIn wsX4_layOn wsX4_hasFoot := goodIn_r _ [58, 6, 12, 13, 14, 10, 15, 16, 17, 18, 19, 20, 21, 22, 23, 24, 25, 26, 27, 28, 59, 60, 61, 62, 63, 64, 65] (by decide +kernel) (by decide +kernel)
set_option maxRecDepth 20000 in
theorem gX4_layOn_X4_hasFoot : GoodIn wsX4_layOn (wsV RX4 122 RX4 yX4_hasFoot wsX4_hasFoot) := goodIn_app (goodIn_of _ (by decide +kernel)) ggX4_layOn_X4_hasFoot
set_option maxRecDepth 20000 in
theorem ggX4_layOn_X2_addLine : GoodIn wsX4_layOn wsX2_addLine := goodIn_r _ [39, 40, 41, 42, 27, 43, 44, 45, 46, 38, 47, 48, 26, 28, 66, 67, 68] (by decide +kernel) (by decide +kernel)
set_option maxRecDepth 20000 in
theorem gX4_layOn_X2_addLine : GoodIn wsX4_layOn (wsV RX4 140 RX2 yX2_addLine wsX2_addLine) := goodIn_app (goodIn_of _ (by decide +kernel)) ggX4_layOn_X2_addLine
set_option maxRecDepth 20000 in
theorem ggX4_layRow_X2_addLine : GoodIn wsX4_layRow wsX2_addLine := goodIn_r _ [9, 10, 11, 12, 13, 14, 15, 16, 17, 8, 18, 19, 20, 21, 46, 47, 48] (by decide +kernel) (by decide +kernel)
set_option maxRecDepth 20000 in
theorem gX4_layRow_X2_addLine : GoodIn wsX4_layRow (wsV RX4 140 RX2 yX2_addLine wsX2_addLine) := goodIn_app (goodIn_of _ (by decide +kernel)) ggX4_layRow_X2_addLine
set_option maxRecDepth 20000 in
theorem ggX4_layRow_X4_lengthOf : GoodIn wsX4_layRow wsX4_lengthOf := goodIn_r _ [26, 27, 28, 29, 30, 25, 31, 32, 20, 13, 21, 39, 40, 41, 42, 43, 44, 45] (by decide +kernel) (by decide +kernel)
set_option maxRecDepth 20000 in
theorem gX4_layRow_X4_lengthOf : GoodIn wsX4_layRow (wsV RX4 43 RX4 yX4_lengthOf wsX4_lengthOf) := goodIn_app (goodIn_of _ (by decide +kernel)) ggX4_layRow_X4_lengthOf
set_option maxRecDepth 20000 in
theorem ggX4_layRow_X5_pick : GoodIn wsX4_layRow wsX5_pick := goodIn_r _ [21] (by decide +kernel) (by decide +kernel)
set_option maxRecDepth 20000 in
theorem gX4_layRow_X5_pick_n35 : GoodIn wsX4_layRow (wsX5_pick) := ggX4_layRow_X5_pick
set_option maxRecDepth 20000 in
theorem ggX4_layRow_X4_byteOf : GoodIn wsX4_layRow wsX4_byteOf := goodIn_r _ [36, 27, 37, 28, 29, 30, 25, 31, 32, 20, 13, 21, 39, 40, 41, 42, 43, 44, 45] (by decide +kernel) (by decide +kernel)
set_option maxRecDepth 20000 in
theorem gX4_layRow_X4_byteOf : GoodIn wsX4_layRow (wsV RX4 100 RX4 yX4_byteOf wsX4_byteOf) := goodIn_app (goodIn_of _ (by decide +kernel)) ggX4_layRow_X4_byteOf
set_option maxRecDepth 20000 in
theorem ggX4_layRow_X2_putByte : GoodIn wsX4_layRow wsX2_putByte := goodIn_r _ [18, 11, 19, 20, 13, 21, 12, 14, 46, 47, 48] (by decide +kernel) (by decide +kernel)
set_option maxRecDepth 20000 in
theorem gX4_layRow_X2_putByte : GoodIn wsX4_layRow (wsV RX4 145 RX2 yX2_putByte wsX2_putByte) := goodIn_app (goodIn_of _ (by decide +kernel)) ggX4_layRow_X2_putByte
set_option maxRecDepth 20000 in
theorem ggX5_init_X2_init : GoodIn wsX5_init wsX2_init := goodIn_r _ [30, 31, 2, 3, 4, 32, 33, 72, 73, 74] (by decide +kernel) (by decide +kernel)
set_option maxRecDepth 20000 in
theorem gX5_init_X2_init : GoodIn wsX5_init (wsX2_init) := ggX5_init_X2_init
set_option maxRecDepth 20000 in
theorem ggX5_init_X0_init : GoodIn wsX5_init wsX0_init := goodIn_r _ [36, 37, 2, 3, 4, 38, 39, 40, 41, 42, 75, 76, 77, 78, 79, 80, 81, 82, 83, 84, 85, 86] (by decide +kernel) (by decide +kernel)
set_option maxRecDepth 20000 in
theorem gX5_init_X0_init : GoodIn wsX5_init (wsX0_init) := ggX5_init_X0_init
set_option maxRecDepth 20000 in
theorem ggX5_init_X3_init : GoodIn wsX5_init wsX3_init := goodIn_r _ [45, 46, 2, 3, 4, 47, 48, 49, 87, 88, 89] (by decide +kernel) (by decide +kernel)
set_option maxRecDepth 20000 in
theorem gX5_init_X3_init : GoodIn wsX5_init (wsX3_init) := ggX5_init_X3_init
set_option maxRecDepth 20000 in
theorem ggX5_init_X1_init : GoodIn wsX5_init wsX1_init := goodIn_r _ [52, 53, 2, 3, 4, 54, 90, 91, 92, 93, 94, 95, 96] (by decide +kernel) (by decide +kernel)
set_option maxRecDepth 20000 in
theorem gX5_init_X1_init : GoodIn wsX5_init (wsX1_init) := ggX5_init_X1_init
set_option maxRecDepth 20000 in
theorem ggX5_init_X4_init : GoodIn wsX5_init wsX4_init := goodIn_r _ [57, 58, 2, 3, 4, 59, 60, 61, 62, 97, 98, 99, 100, 101, 102, 103] (by decide +kernel) (by decide +kernel)
set_option maxRecDepth 20000 in
theorem gX5_init_X4_init : GoodIn wsX5_init (wsX4_init) := ggX5_init_X4_init
set_option maxRecDepth 20000 in
theorem ggX5_type_X5_byteOfWord : GoodIn wsX5_type wsX5_byteOfWord := goodIn_r _ [6] (by decide +kernel) (by decide +kernel)
set_option maxRecDepth 20000 in
theorem gX5_type_X5_byteOfWord : GoodIn wsX5_type (va_wsS RX5 54 yX5_byteOfWord wsX5_byteOfWord) := goodIn_app (goodIn_of _ (by decide +kernel)) ggX5_type_X5_byteOfWord
set_option maxRecDepth 20000 in
theorem ggX5_type_X5_isTypable : GoodIn wsX5_type wsX5_isTypable := goodIn_r _ [9] (by decide +kernel) (by decide +kernel)
set_option maxRecDepth 20000 in
theorem gX5_type_X5_isTypable : GoodIn wsX5_type (va_wsS RX5 58 yX5_isTypable wsX5_isTypable) := goodIn_app (goodIn_of _ (by decide +kernel)) ggX5_type_X5_isTypable
set_option maxRecDepth 20000 in
theorem ggX5_type_X5_put : GoodIn wsX5_type wsX5_put := goodIn_r _ [12] (by decide +kernel) (by decide +kernel)
set_option maxRecDepth 20000 in
theorem gX5_type_X5_put : GoodIn wsX5_type (va_wsS RX5 66 yX5_put wsX5_put) := goodIn_app (goodIn_of _ (by decide +kernel)) ggX5_type_X5_put
set_option maxRecDepth 20000 in
theorem ggX5_line_X2_addLine : GoodIn wsX5_line wsX2_addLine := goodIn_r _ [8, 9, 10, 11, 12, 13, 14, 15, 16, 7, 17, 18, 19, 20, 32, 33, 34] (by decide +kernel) (by decide +kernel)
set_option maxRecDepth 20000 in
theorem gX5_line_X2_addLine : GoodIn wsX5_line (wsV RX5 73 RX2 yX2_addLine wsX2_addLine) := goodIn_app (goodIn_of _ (by decide +kernel)) ggX5_line_X2_addLine
set_option maxRecDepth 20000 in
theorem ggX5_line_X5_pick : GoodIn wsX5_line wsX5_pick := goodIn_r _ [20] (by decide +kernel) (by decide +kernel)
set_option maxRecDepth 20000 in
theorem gX5_line_X5_pick : GoodIn wsX5_line (va_wsS RX5 77 yX5_pick wsX5_pick) := goodIn_app (goodIn_of _ (by decide +kernel)) ggX5_line_X5_pick
set_option maxRecDepth 20000 in
theorem ggX5_line_X2_putByte : GoodIn wsX5_line wsX2_putByte := goodIn_r _ [17, 10, 18, 19, 12, 20, 11, 13, 32, 33, 34] (by decide +kernel) (by decide +kernel)
set_option maxRecDepth 20000 in
theorem gX5_line_X2_putByte : GoodIn wsX5_line (wsV RX5 81 RX2 yX2_putByte wsX2_putByte) := goodIn_app (goodIn_of _ (by decide +kernel)) ggX5_line_X2_putByte
set_option maxRecDepth 20000 in
theorem ggX5_at_X2_holds : GoodIn wsX5_at wsX2_holds := goodIn_r _ [6, 7, 26, 27, 28] (by decide +kernel) (by decide +kernel)
set_option maxRecDepth 20000 in
theorem gX5_at_X2_holds : GoodIn wsX5_at (wsV RX5 85 RX2 yX2_holds wsX2_holds) := goodIn_app (goodIn_of _ (by decide +kernel)) ggX5_at_X2_holds
set_option maxRecDepth 20000 in
theorem ggX5_at_X2_byteAt : GoodIn wsX5_at wsX2_byteAt := goodIn_r _ [11, 12, 13, 14, 15, 16, 26, 27, 28] (by decide +kernel) (by decide +kernel)
set_option maxRecDepth 20000 in
theorem gX5_at_X2_byteAt : GoodIn wsX5_at (wsV RX5 88 RX2 yX2_byteAt wsX2_byteAt) := goodIn_app (goodIn_of _ (by decide +kernel)) ggX5_at_X2_byteAt
set_option maxRecDepth 20000 in
theorem ggX5_kind_X2_holds : GoodIn wsX5_kind wsX2_holds := goodIn_r _ [6, 7, 34, 35, 36] (by decide +kernel) (by decide +kernel)
set_option maxRecDepth 20000 in
theorem gX5_kind_X2_holds : GoodIn wsX5_kind (wsV RX5 85 RX2 yX2_holds wsX2_holds) := goodIn_app (goodIn_of _ (by decide +kernel)) ggX5_kind_X2_holds
set_option maxRecDepth 20000 in
theorem ggX5_kind_X2_kindOf : GoodIn wsX5_kind wsX2_kindOf := goodIn_r _ [11, 12, 13, 14, 5, 15, 16, 17, 18, 19, 20, 21, 22, 23, 24, 34, 35, 36] (by decide +kernel) (by decide +kernel)
set_option maxRecDepth 20000 in
theorem gX5_kind_X2_kindOf : GoodIn wsX5_kind (wsV RX5 91 RX2 yX2_kindOf wsX2_kindOf) := goodIn_app (goodIn_of _ (by decide +kernel)) ggX5_kind_X2_kindOf
set_option maxRecDepth 20000 in
theorem ggX5_set_X2_holds : GoodIn wsX5_set wsX2_holds := goodIn_r _ [6, 7, 39, 40, 41] (by decide +kernel) (by decide +kernel)
set_option maxRecDepth 20000 in
theorem gX5_set_X2_holds : GoodIn wsX5_set (wsV RX5 85 RX2 yX2_holds wsX2_holds) := goodIn_app (goodIn_of _ (by decide +kernel)) ggX5_set_X2_holds
set_option maxRecDepth 20000 in
theorem ggX5_set_X2_lengthOf : GoodIn wsX5_set wsX2_lengthOf := goodIn_r _ [11, 12, 13, 14, 15, 39, 40, 41] (by decide +kernel) (by decide +kernel)
set_option maxRecDepth 20000 in
theorem gX5_set_X2_lengthOf : GoodIn wsX5_set (wsV RX5 95 RX2 yX2_lengthOf wsX2_lengthOf) := goodIn_app (goodIn_of _ (by decide +kernel)) ggX5_set_X2_lengthOf
set_option maxRecDepth 20000 in
theorem ggX5_set_X5_isTypable : GoodIn wsX5_set wsX5_isTypable := goodIn_r _ [18] (by decide +kernel) (by decide +kernel)
set_option maxRecDepth 20000 in
theorem gX5_set_X5_isTypable : GoodIn wsX5_set (va_wsS RX5 58 yX5_isTypable wsX5_isTypable) := goodIn_app (goodIn_of _ (by decide +kernel)) ggX5_set_X5_isTypable
set_option maxRecDepth 20000 in
theorem ggX5_set_X2_byteAt : GoodIn wsX5_set wsX2_byteAt := goodIn_r _ [22, 12, 23, 13, 14, 15, 39, 40, 41] (by decide +kernel) (by decide +kernel)
set_option maxRecDepth 20000 in
theorem gX5_set_X2_byteAt : GoodIn wsX5_set (wsV RX5 88 RX2 yX2_byteAt wsX2_byteAt) := goodIn_app (goodIn_of _ (by decide +kernel)) ggX5_set_X2_byteAt
set_option maxRecDepth 20000 in
theorem ggX5_set_X2_putByte : GoodIn wsX5_set wsX2_putByte := goodIn_r _ [27, 12, 23, 13, 14, 15, 28, 29, 39, 40, 41] (by decide +kernel) (by decide +kernel)
set_option maxRecDepth 20000 in
theorem gX5_set_X2_putByte : GoodIn wsX5_set (wsV RX5 81 RX2 yX2_putByte wsX2_putByte) := goodIn_app (goodIn_of _ (by decide +kernel)) ggX5_set_X2_putByte
set_option maxRecDepth 20000 in
theorem ggX5_cost_X2_isBlock : GoodIn wsX5_cost wsX2_isBlock := goodIn_r _ [7, 8, 9, 10, 6, 11, 12, 13, 14, 15, 16, 17, 18, 19, 20, 21, 22, 23, 24, 25, 26, 27, 28, 29, 103, 104, 105] (by decide +kernel) (by decide +kernel)
set_option maxRecDepth 20000 in
theorem gX5_cost_X2_isBlock : GoodIn wsX5_cost (wsV RX5 98 RX2 yX2_isBlock wsX2_isBlock) := goodIn_app (goodIn_of _ (by decide +kernel)) ggX5_cost_X2_isBlock
set_option maxRecDepth 20000 in
theorem ggX5_cost_X0_survey : GoodIn wsX5_cost wsX0_survey := goodIn_r _ [34, 35, 36, 37, 38, 39, 14, 15, 6, 16, 17, 18, 19, 20, 21, 22, 23, 24, 25, 26, 27, 28, 29, 40, 41, 42, 33, 43, 44, 45, 46, 47, 48, 49, 50, 51, 52, 53, 54, 55, 56, 57, 58, 59, 60, 61, 62, 63, 64, 65, 66, 67, 68, 69, 70, 71, 72, 73, 74, 75, 76, 77, 78, 106, 107, 108, 109, 110, 111, 112, 113, 114, 115, 116, 117, 103, 104, 105] (by decide +kernel) (by decide +kernel)
set_option maxRecDepth 20000 in
theorem gX5_cost_X0_survey : GoodIn wsX5_cost (wsV RX5 102 RX0 yX0_survey wsX0_survey) := goodIn_app (goodIn_of _ (by decide +kernel)) ggX5_cost_X0_survey
set_option maxRecDepth 20000 in
theorem ggX5_cost_X5_costOfReading : GoodIn wsX5_cost wsX5_costOfReading := goodIn_r _ [82, 2, 83, 84, 23, 85, 86, 87, 88, 33, 89, 60, 22, 24, 75, 76, 77, 78, 70, 90, 91, 92, 93, 61, 94, 95, 96, 97, 98, 99, 100, 101, 102, 106, 107, 108, 109, 110, 111, 112, 113, 114, 115, 116, 117] (by decide +kernel) (by decide +kernel)
set_option maxRecDepth 20000 in
theorem gX5_cost_X5_costOfReading : GoodIn wsX5_cost (wsV RX5 106 RX5 yX5_costOfReading wsX5_costOfReading) := goodIn_app (goodIn_of _ (by decide +kernel)) ggX5_cost_X5_costOfReading
set_option maxRecDepth 20000 in
theorem ggX5_find_X2_isBlock : GoodIn wsX5_find wsX2_isBlock := goodIn_r _ [8, 9, 10, 11, 7, 12, 13, 14, 15, 16, 17, 18, 19, 20, 21, 22, 23, 24, 25, 26, 27, 28, 29, 30, 189, 190, 191] (by decide +kernel) (by decide +kernel)
set_option maxRecDepth 20000 in
theorem gX5_find_X2_isBlock : GoodIn wsX5_find (wsV RX5 98 RX2 yX2_isBlock wsX2_isBlock) := goodIn_app (goodIn_of _ (by decide +kernel)) ggX5_find_X2_isBlock
set_option maxRecDepth 20000 in
theorem ggX5_find_X5_readCandidate : GoodIn wsX5_find wsX5_readCandidate := goodIn_r _ [34, 35, 1, 36, 37, 3, 38, 39, 40, 41, 42, 43, 44, 45, 46, 47, 15, 16, 7, 17, 18, 19, 20, 21, 22, 23, 24, 25, 26, 27, 28, 29, 30, 48, 49, 50, 51, 52, 53, 54, 55, 56, 57, 58, 59, 60, 61, 62, 63, 64, 65, 66, 67, 68, 69, 70, 71, 72, 73, 74, 75, 76, 77, 78, 79, 80, 81, 82, 83, 84, 85, 86, 87, 88, 89, 90, 91, 92, 93, 94, 95, 96, 97, 98, 99, 100, 101, 102, 103, 104, 105, 106, 107, 108, 109, 110, 111, 112, 113, 114, 115, 116, 117, 118, 119, 120, 121, 122, 123, 124, 125, 126, 127, 128, 129, 130, 131, 132, 133, 134, 135, 136, 137, 138, 139, 140, 141, 142, 143, 144, 145, 146, 147, 148, 149, 150, 151, 152, 153, 154, 155, 156, 157, 158, 159, 160, 161, 162, 163, 164, 165, 166, 167, 173, 174, 175, 176, 177, 178, 179, 180, 181, 192, 193, 194, 195, 196, 197, 198, 199, 200, 201, 202, 203, 189, 190, 191, 204, 205, 206, 207, 208, 209, 210, 211, 212, 213, 182, 183, 184, 185, 186, 187, 188] (by decide +kernel) (by decide +kernel)
set_option maxRecDepth 20000 in
theorem gX5_find_X5_readCandidate : GoodIn wsX5_find (wsV RX5 109 RX5 yX5_readCandidate wsX5_readCandidate) := goodIn_app (goodIn_of _ (by decide +kernel)) ggX5_find_X5_readCandidate
set_option maxRecDepth 20000 in
theorem ggX5_find_X5_keepFound : GoodIn wsX5_find wsX5_keepFound := goodIn_r _ [171, 172, 37, 173, 174, 175, 176, 177, 178, 179, 180, 181] (by decide +kernel) (by decide +kernel)
set_option maxRecDepth 20000 in
theorem gX5_find_X5_keepFound : GoodIn wsX5_find (wsV RX5 112 RX5 yX5_keepFound wsX5_keepFound) := goodIn_app (goodIn_of _ (by decide +kernel)) ggX5_find_X5_keepFound
set_option maxRecDepth 20000 in
theorem ggX5_more_X2_isBlock : GoodIn wsX5_more wsX2_isBlock := goodIn_r _ [8, 9, 10, 11, 7, 12, 13, 14, 15, 16, 17, 18, 19, 20, 21, 22, 23, 24, 25, 26, 27, 28, 29, 30, 221, 222, 223] (by decide +kernel) (by decide +kernel)
set_option maxRecDepth 20000 in
theorem gX5_more_X2_isBlock : GoodIn wsX5_more (wsV RX5 98 RX2 yX2_isBlock wsX2_isBlock) := goodIn_app (goodIn_of _ (by decide +kernel)) ggX5_more_X2_isBlock
set_option maxRecDepth 20000 in
theorem ggX5_more_X5_readCandidate : GoodIn wsX5_more wsX5_readCandidate := goodIn_r _ [34, 35, 1, 36, 37, 3, 38, 39, 40, 41, 42, 43, 44, 45, 46, 47, 15, 16, 7, 17, 18, 19, 20, 21, 22, 23, 24, 25, 26, 27, 28, 29, 30, 48, 49, 50, 51, 52, 53, 54, 55, 56, 57, 58, 59, 60, 61, 62, 63, 64, 65, 66, 67, 68, 69, 70, 71, 72, 73, 74, 75, 76, 77, 78, 79, 80, 81, 82, 83, 84, 85, 86, 87, 88, 89, 90, 91, 92, 93, 94, 95, 96, 97, 98, 99, 100, 101, 102, 103, 104, 105, 106, 107, 108, 109, 110, 111, 112, 113, 114, 115, 116, 117, 118, 119, 120, 121, 122, 123, 124, 125, 126, 127, 128, 129, 130, 131, 132, 133, 134, 135, 136, 137, 138, 139, 140, 141, 142, 143, 144, 145, 146, 147, 148, 149, 150, 151, 152, 153, 154, 155, 156, 157, 158, 159, 160, 161, 162, 163, 164, 165, 166, 167, 205, 206, 207, 208, 209, 210, 211, 212, 213, 224, 225, 226, 227, 228, 229, 230, 231, 232, 233, 234, 235, 221, 222, 223, 236, 237, 238, 239, 240, 241, 242, 243, 244, 245, 214, 215, 216, 217, 218, 219, 220] (by decide +kernel) (by decide +kernel)
set_option maxRecDepth 20000 in
theorem gX5_more_X5_readCandidate : GoodIn wsX5_more (wsV RX5 109 RX5 yX5_readCandidate wsX5_readCandidate) := goodIn_app (goodIn_of _ (by decide +kernel)) ggX5_more_X5_readCandidate
set_option maxRecDepth 20000 in
theorem ggX5_more_X4_goesTogetherWith : GoodIn wsX5_more wsX4_goesTogetherWith := goodIn_r _ [171, 132, 172, 173, 174, 130, 175, 176, 177, 178, 179, 180, 181, 182, 183, 134, 151, 152, 153, 154, 133, 23, 24, 25, 184, 185, 186, 187, 188, 189, 190, 191, 163, 214, 215, 216, 217, 218, 219, 220] (by decide +kernel) (by decide +kernel)
set_option maxRecDepth 20000 in
theorem gX5_more_X4_goesTogetherWith : GoodIn wsX5_more (wsV RX5 118 RX4 yX4_goesTogetherWith wsX4_goesTogetherWith) := goodIn_app (goodIn_of _ (by decide +kernel)) ggX5_more_X4_goesTogetherWith
set_option maxRecDepth 20000 in
theorem ggX5_more_X4_putBehind : GoodIn wsX5_more wsX4_putBehind := goodIn_r _ [195, 133, 196, 197, 198, 130, 199, 132, 134, 163, 151, 152, 153, 154, 180, 181, 182, 183, 23, 24, 25, 54, 55, 188, 189, 190, 191, 214, 215, 216, 217, 218, 219, 220] (by decide +kernel) (by decide +kernel)
set_option maxRecDepth 20000 in
theorem gX5_more_X4_putBehind : GoodIn wsX5_more (wsV RX5 125 RX4 yX4_putBehind wsX4_putBehind) := goodIn_app (goodIn_of _ (by decide +kernel)) ggX5_more_X4_putBehind
set_option maxRecDepth 20000 in
theorem ggX5_more_X5_keepFound : GoodIn wsX5_more wsX5_keepFound := goodIn_r _ [203, 204, 37, 205, 206, 207, 208, 209, 210, 211, 212, 213] (by decide +kernel) (by decide +kernel)
set_option maxRecDepth 20000 in
theorem gX5_more_X5_keepFound : GoodIn wsX5_more (wsV RX5 112 RX5 yX5_keepFound wsX5_keepFound) := goodIn_app (goodIn_of _ (by decide +kernel)) ggX5_more_X5_keepFound
set_option maxRecDepth 20000 in
theorem ggX5_cutAt_X5_pick : GoodIn wsX5_cutAt wsX5_pick := goodIn_r _ [5] (by decide +kernel) (by decide +kernel)
set_option maxRecDepth 20000 in
theorem gX5_cutAt_X5_pick : GoodIn wsX5_cutAt (va_wsS RX5 77 yX5_pick wsX5_pick) := goodIn_app (goodIn_of _ (by decide +kernel)) ggX5_cutAt_X5_pick
set_option maxRecDepth 20000 in
theorem ggX5_size_X4_hasHead : GoodIn wsX5_size wsX4_hasHead := goodIn_r _ [6, 7, 8, 9, 5, 10, 11, 12, 13, 14, 15, 16, 17, 18, 19, 20, 21, 22, 23, 24, 38, 39, 40, 41, 42, 43, 44] (by decide +kernel) (by decide +kernel)
set_option maxRecDepth 20000 in
theorem gX5_size_X4_hasHead : GoodIn wsX5_size (wsV RX5 148 RX4 yX4_hasHead wsX4_hasHead) := goodIn_app (goodIn_of _ (by decide +kernel)) ggX5_size_X4_hasHead
set_option maxRecDepth 20000 in
theorem ggX5_size_X4_hasFoot : GoodIn wsX5_size wsX4_hasFoot := goodIn_r _ [28, 21, 7, 8, 9, 5, 10, 11, 12, 13, 14, 15, 16, 17, 18, 19, 20, 22, 23, 24, 38, 39, 40, 41, 42, 43, 44] (by decide +kernel) (by decide +kernel)
set_option maxRecDepth 20000 in
theorem gX5_size_X4_hasFoot : GoodIn wsX5_size (wsV RX5 152 RX4 yX4_hasFoot wsX4_hasFoot) := goodIn_app (goodIn_of _ (by decide +kernel)) ggX5_size_X4_hasFoot
set_option maxRecDepth 20000 in
theorem ggX5_cell_X4_holds : GoodIn wsX5_cell wsX4_holds := goodIn_r _ [6, 7, 8, 35, 36, 37, 38, 39, 40, 41] (by decide +kernel) (by decide +kernel)
set_option maxRecDepth 20000 in
theorem gX5_cell_X4_holds : GoodIn wsX5_cell (wsV RX5 155 RX4 yX4_holds wsX4_holds) := goodIn_app (goodIn_of _ (by decide +kernel)) ggX5_cell_X4_holds
set_option maxRecDepth 20000 in
theorem ggX5_cell_X4_lengthOf : GoodIn wsX5_cell wsX4_lengthOf := goodIn_r _ [12, 13, 14, 15, 16, 5, 17, 8, 18, 19, 20, 35, 36, 37, 38, 39, 40, 41] (by decide +kernel) (by decide +kernel)
set_option maxRecDepth 20000 in
theorem gX5_cell_X4_lengthOf : GoodIn wsX5_cell (wsV RX5 157 RX4 yX4_lengthOf wsX4_lengthOf) := goodIn_app (goodIn_of _ (by decide +kernel)) ggX5_cell_X4_lengthOf
set_option maxRecDepth 20000 in
theorem ggX5_cell_X4_byteOf : GoodIn wsX5_cell wsX4_byteOf := goodIn_r _ [24, 13, 25, 14, 15, 16, 5, 17, 8, 18, 19, 20, 35, 36, 37, 38, 39, 40, 41] (by decide +kernel) (by decide +kernel)
set_option maxRecDepth 20000 in
theorem gX5_cell_X4_byteOf : GoodIn wsX5_cell (wsV RX5 159 RX4 yX4_byteOf wsX4_byteOf) := goodIn_app (goodIn_of _ (by decide +kernel)) ggX5_cell_X4_byteOf
set_option maxRecDepth 20000 in
theorem ggX5_value_X4_holds : GoodIn wsX5_value wsX4_holds := goodIn_r _ [7, 8, 9, 51, 52, 53, 54, 55, 56, 57] (by decide +kernel) (by decide +kernel)
set_option maxRecDepth 20000 in
theorem gX5_value_X4_holds : GoodIn wsX5_value (wsV RX5 155 RX4 yX4_holds wsX4_holds) := goodIn_app (goodIn_of _ (by decide +kernel)) ggX5_value_X4_holds
set_option maxRecDepth 20000 in
theorem ggX5_value_X4_valueOf : GoodIn wsX5_value wsX4_valueOf := goodIn_r _ [13, 14, 15, 16, 17, 6, 18, 19, 20, 21, 22, 23, 24, 9, 25, 26, 27, 28, 29, 30, 31, 32, 33, 34, 35, 36, 37, 38, 39, 40, 41, 51, 52, 53, 54, 55, 56, 57] (by decide +kernel) (by decide +kernel)
set_option maxRecDepth 20000 in
theorem gX5_value_X4_valueOf : GoodIn wsX5_value (wsV RX5 164 RX4 yX4_valueOf wsX4_valueOf) := goodIn_app (goodIn_of _ (by decide +kernel)) ggX5_value_X4_valueOf
set_option maxRecDepth 20000 in
theorem ggX5_numbers_X4_holds : GoodIn wsX5_numbers wsX4_holds := goodIn_r _ [6, 7, 8, 54, 55, 56, 57, 58, 59, 60] (by decide +kernel) (by decide +kernel)
set_option maxRecDepth 20000 in
theorem gX5_numbers_X4_holds : GoodIn wsX5_numbers (wsV RX5 155 RX4 yX4_holds wsX4_holds) := goodIn_app (goodIn_of _ (by decide +kernel)) ggX5_numbers_X4_holds
set_option maxRecDepth 20000 in
theorem ggX5_numbers_X4_isOfNumbers : GoodIn wsX5_numbers wsX4_isOfNumbers := goodIn_r _ [12, 8, 13, 14, 15, 16, 5, 17, 18, 19, 20, 21, 22, 23, 24, 25, 26, 27, 28, 29, 30, 31, 32, 33, 34, 35, 36, 37, 38, 39, 40, 41, 42, 43, 44, 54, 55, 56, 57, 58, 59, 60] (by decide +kernel) (by decide +kernel)
set_option maxRecDepth 20000 in
theorem gX5_numbers_X4_isOfNumbers : GoodIn wsX5_numbers (wsV RX5 167 RX4 yX4_isOfNumbers wsX4_isOfNumbers) := goodIn_app (goodIn_of _ (by decide +kernel)) ggX5_numbers_X4_isOfNumbers
set_option maxRecDepth 20000 in
theorem ggX5_sum_X4_holds : GoodIn wsX5_sum wsX4_holds := goodIn_r _ [8, 9, 10, 60, 61, 62, 63, 64, 65, 66] (by decide +kernel) (by decide +kernel)
set_option maxRecDepth 20000 in
theorem gX5_sum_X4_holds : GoodIn wsX5_sum (wsV RX5 155 RX4 yX4_holds wsX4_holds) := goodIn_app (goodIn_of _ (by decide +kernel)) ggX5_sum_X4_holds
set_option maxRecDepth 20000 in
theorem ggX5_sum_X4_isOfNumbers : GoodIn wsX5_sum wsX4_isOfNumbers := goodIn_r _ [14, 10, 15, 16, 17, 18, 7, 19, 20, 21, 22, 23, 24, 25, 26, 27, 28, 29, 30, 31, 32, 33, 34, 35, 36, 37, 38, 39, 40, 41, 42, 43, 44, 45, 46, 60, 61, 62, 63, 64, 65, 66] (by decide +kernel) (by decide +kernel)
set_option maxRecDepth 20000 in
theorem gX5_sum_X4_isOfNumbers : GoodIn wsX5_sum (wsV RX5 167 RX4 yX4_isOfNumbers wsX4_isOfNumbers) := goodIn_app (goodIn_of _ (by decide +kernel)) ggX5_sum_X4_isOfNumbers
set_option maxRecDepth 20000 in
theorem ggX5_sum_X4_sumOf : GoodIn wsX5_sum wsX4_sumOf := goodIn_r _ [50, 10, 16, 17, 18, 7, 19, 20, 21, 22, 23, 24, 25, 26, 27, 28, 29, 30, 31, 15, 32, 33, 34, 35, 36, 37, 38, 39, 40, 41, 42, 43, 44, 45, 46, 60, 61, 62, 63, 64, 65, 66] (by decide +kernel) (by decide +kernel)
set_option maxRecDepth 20000 in
theorem gX5_sum_X4_sumOf : GoodIn wsX5_sum (wsV RX5 174 RX4 yX4_sumOf wsX4_sumOf) := goodIn_app (goodIn_of _ (by decide +kernel)) ggX5_sum_X4_sumOf
set_option maxRecDepth 20000 in
theorem ggX5_agrees_X4_holds : GoodIn wsX5_agrees wsX4_holds := goodIn_r _ [7, 8, 9, 60, 61, 62, 63, 64, 65, 66] (by decide +kernel) (by decide +kernel)
set_option maxRecDepth 20000 in
theorem gX5_agrees_X4_holds : GoodIn wsX5_agrees (wsV RX5 155 RX4 yX4_holds wsX4_holds) := goodIn_app (goodIn_of _ (by decide +kernel)) ggX5_agrees_X4_holds
set_option maxRecDepth 20000 in
theorem ggX5_agrees_X4_valueOf : GoodIn wsX5_agrees wsX4_valueOf := goodIn_r _ [13, 14, 15, 16, 17, 6, 18, 19, 20, 21, 22, 23, 24, 9, 25, 26, 27, 28, 29, 30, 31, 32, 33, 34, 35, 36, 37, 38, 39, 40, 41, 60, 61, 62, 63, 64, 65, 66] (by decide +kernel) (by decide +kernel)
set_option maxRecDepth 20000 in
theorem gX5_agrees_X4_valueOf : GoodIn wsX5_agrees (wsV RX5 164 RX4 yX4_valueOf wsX4_valueOf) := goodIn_app (goodIn_of _ (by decide +kernel)) ggX5_agrees_X4_valueOf
set_option maxRecDepth 20000 in
theorem ggX5_agrees_X4_isOfNumbers : GoodIn wsX5_agrees wsX4_isOfNumbers := goodIn_r _ [45, 9, 14, 38, 39, 40, 6, 41, 19, 21, 22, 23, 24, 25, 26, 27, 46, 11, 12, 13, 15, 16, 17, 18, 20, 28, 29, 30, 31, 32, 33, 34, 35, 36, 37, 60, 61, 62, 63, 64, 65, 66] (by decide +kernel) (by decide +kernel)
set_option maxRecDepth 20000 in
theorem gX5_agrees_X4_isOfNumbers : GoodIn wsX5_agrees (wsV RX5 167 RX4 yX4_isOfNumbers wsX4_isOfNumbers) := goodIn_app (goodIn_of _ (by decide +kernel)) ggX5_agrees_X4_isOfNumbers
set_option maxRecDepth 20000 in
theorem ggX5_agrees_X4_sumOf : GoodIn wsX5_agrees wsX4_sumOf := goodIn_r _ [50, 9, 38, 39, 40, 6, 41, 19, 21, 22, 23, 24, 25, 26, 27, 46, 11, 12, 13, 14, 15, 16, 17, 18, 20, 28, 29, 30, 31, 32, 33, 34, 35, 36, 37, 60, 61, 62, 63, 64, 65, 66] (by decide +kernel) (by decide +kernel)
set_option maxRecDepth 20000 in
theorem gX5_agrees_X4_sumOf : GoodIn wsX5_agrees (wsV RX5 174 RX4 yX4_sumOf wsX4_sumOf) := goodIn_app (goodIn_of _ (by decide +kernel)) ggX5_agrees_X4_sumOf
set_option maxRecDepth 20000 in
theorem ggX5_lay_X4_measure : GoodIn wsX5_lay wsX4_measure := goodIn_r _ [7, 8, 9, 10, 11, 12, 13, 14, 15, 16, 17, 18, 19, 6, 20, 21, 22, 23, 24, 25, 26, 27, 28, 29, 30, 31, 32, 33, 34, 35, 36, 37, 38, 39, 40, 41, 42, 43, 44, 45, 46, 47, 48, 49, 50, 51, 52, 53, 54, 101, 102, 103, 104, 105, 106, 107] (by decide +kernel) (by decide +kernel)
set_option maxRecDepth 20000 in
theorem gX5_lay_X4_measure : GoodIn wsX5_lay (wsV RX5 179 RX4 yX4_measure wsX4_measure) := goodIn_app (goodIn_of _ (by decide +kernel)) ggX5_lay_X4_measure
set_option maxRecDepth 20000 in
theorem ggX5_lay_X4_laidLines : GoodIn wsX5_lay wsX4_laidLines := goodIn_r _ [58, 10, 59, 60, 61, 6, 62, 63, 64, 65, 66, 8, 17, 18, 19, 20, 21, 22, 23, 24, 25, 26, 27, 28, 67, 68, 69, 70, 101, 102, 103, 104, 105, 106, 107] (by decide +kernel) (by decide +kernel)
set_option maxRecDepth 20000 in
theorem gX5_lay_X4_laidLines : GoodIn wsX5_lay (wsV RX5 182 RX4 yX4_laidLines wsX4_laidLines) := goodIn_app (goodIn_of _ (by decide +kernel)) ggX5_lay_X4_laidLines
set_option maxRecDepth 20000 in
theorem ggX5_lay_X4_layOn : GoodIn wsX5_lay wsX4_layOn := goodIn_r _ [74, 9, 11, 12, 13, 14, 10, 59, 60, 61, 6, 62, 63, 64, 65, 66, 8, 17, 18, 19, 20, 21, 22, 23, 24, 25, 26, 27, 28, 75, 76, 77, 78, 15, 16, 79, 80, 81, 82, 83, 84, 85, 29, 30, 86, 87, 88, 89, 90, 40, 41, 42, 43, 44, 91, 67, 68, 69, 70, 101, 102, 103, 104, 105, 106, 107, 108, 109, 110] (by decide +kernel) (by decide +kernel)
set_option maxRecDepth 20000 in
theorem gX5_lay_X4_layOn : GoodIn wsX5_lay (wsV RX5 189 RX4 yX4_layOn wsX4_layOn) := goodIn_app (goodIn_of _ (by decide +kernel)) ggX5_lay_X4_layOn
set_option maxRecDepth 20000 in
theorem ggX5_costOfReading_X5_isCut : GoodIn wsX5_costOfReading wsX5_isCut := goodIn_r _ [5] (by decide +kernel) (by decide +kernel)
set_option maxRecDepth 20000 in
theorem gX5_costOfReading_X5_isCut : GoodIn wsX5_costOfReading (va_wsS RX5 193 yX5_isCut wsX5_isCut) := goodIn_app (goodIn_of _ (by decide +kernel)) ggX5_costOfReading_X5_isCut
set_option maxRecDepth 20000 in
theorem ggX5_costOfReading_X0_columnCost : GoodIn wsX5_costOfReading wsX0_columnCost := goodIn_r _ [10, 11, 12, 4, 13, 14, 15, 16, 9, 17, 18, 33, 34, 35, 36, 37, 38, 39, 40, 41, 42, 43, 44] (by decide +kernel) (by decide +kernel)
set_option maxRecDepth 20000 in
theorem gX5_costOfReading_X0_columnCost : GoodIn wsX5_costOfReading (wsV RX5 200 RX0 yX0_columnCost wsX0_columnCost) := goodIn_app (goodIn_of _ (by decide +kernel)) ggX5_costOfReading_X0_columnCost
set_option maxRecDepth 20000 in
theorem ggX5_costOfReading_X0_crossingCost : GoodIn wsX5_costOfReading wsX0_crossingCost := goodIn_r _ [22, 23, 12, 4, 13, 33, 34, 35, 36, 37, 38, 39, 40, 41, 42, 43, 44] (by decide +kernel) (by decide +kernel)
set_option maxRecDepth 20000 in
theorem gX5_costOfReading_X0_crossingCost : GoodIn wsX5_costOfReading (wsV RX5 203 RX0 yX0_crossingCost wsX0_crossingCost) := goodIn_app (goodIn_of _ (by decide +kernel)) ggX5_costOfReading_X0_crossingCost
set_option maxRecDepth 20000 in
theorem ggX5_readCandidate_X0_survey : GoodIn wsX5_readCandidate wsX0_survey := goodIn_r _ [10, 11, 12, 13, 14, 15, 16, 17, 18, 19, 20, 21, 22, 23, 24, 25, 26, 27, 28, 29, 30, 31, 32, 33, 34, 35, 9, 36, 37, 38, 39, 40, 41, 42, 43, 44, 45, 46, 47, 48, 49, 50, 51, 52, 53, 54, 55, 56, 57, 58, 59, 60, 61, 62, 63, 64, 65, 66, 67, 68, 69, 70, 71, 162, 163, 164, 165, 166, 167, 168, 169, 170, 171, 172, 173, 174, 175, 176] (by decide +kernel) (by decide +kernel)
set_option maxRecDepth 20000 in
theorem gX5_readCandidate_X0_survey : GoodIn wsX5_readCandidate (wsV RX5 102 RX0 yX0_survey wsX0_survey) := goodIn_app (goodIn_of _ (by decide +kernel)) ggX5_readCandidate_X0_survey
set_option maxRecDepth 20000 in
theorem ggX5_readCandidate_X3_readBest : GoodIn wsX5_readCandidate wsX3_readBest := goodIn_r _ [76, 77, 78, 79, 75, 80, 81, 82, 83, 9, 84, 53, 25, 26, 27, 68, 69, 70, 71, 63, 85, 86, 87, 88, 89, 90, 91, 39, 40, 92, 93, 94, 95, 96, 97, 98, 99, 100, 101, 102, 103, 54, 104, 105, 106, 107, 108, 109, 110, 111, 162, 163, 164, 165, 166, 167, 168, 169, 170, 171, 172, 173, 177, 178, 179, 180, 181, 182, 183, 184, 185, 186] (by decide +kernel) (by decide +kernel)
set_option maxRecDepth 20000 in
theorem gX5_readCandidate_X3_readBest : GoodIn wsX5_readCandidate (wsV RX5 206 RX3 yX3_readBest wsX3_readBest) := goodIn_app (goodIn_of _ (by decide +kernel)) ggX5_readCandidate_X3_readBest
set_option maxRecDepth 20000 in
theorem ggX5_readCandidate_X4_fill : GoodIn wsX5_readCandidate wsX4_fill := goodIn_r _ [116, 117, 118, 119, 39, 26, 40, 120, 121, 122, 115, 123, 124, 125, 126, 9, 127, 46, 37, 13, 25, 27, 128, 129, 130, 131, 47, 14, 132, 133, 134, 135, 56, 57, 58, 38, 136, 137, 138, 139, 140, 141, 142, 143, 144, 145, 146, 147, 148, 149, 150, 151, 152, 177, 178, 179, 180, 181, 182, 183, 187, 188, 189, 190, 191, 192, 193, 162, 163, 164, 165, 166, 167, 168, 169, 170, 171, 172, 173] (by decide +kernel) (by decide +kernel)
set_option maxRecDepth 20000 in
theorem gX5_readCandidate_X4_fill : GoodIn wsX5_readCandidate (wsV RX5 210 RX4 yX4_fill wsX4_fill) := goodIn_app (goodIn_of _ (by decide +kernel)) ggX5_readCandidate_X4_fill
set_option maxRecDepth 20000 in
theorem ggX6_type_X6_in : GoodIn wsX6_type wsX6_in := goodIn_r _ [10] (by decide +kernel) (by decide +kernel)
set_option maxRecDepth 20000 in
theorem gX6_type_X6_in : GoodIn wsX6_type (va_wsS RX6 58 yX6_in wsX6_in) := goodIn_app (goodIn_of _ (by decide +kernel)) ggX6_type_X6_in
set_option maxRecDepth 20000 in
theorem ggX6_at_X6_in : GoodIn wsX6_at wsX6_in := goodIn_r _ [6] (by decide +kernel) (by decide +kernel)
set_option maxRecDepth 20000 in
theorem gX6_at_X6_in : GoodIn wsX6_at (va_wsS RX6 58 yX6_in wsX6_in) := goodIn_app (goodIn_of _ (by decide +kernel)) ggX6_at_X6_in
set_option maxRecDepth 20000 in
theorem ggX6_at_X6_byteAt : GoodIn wsX6_at wsX6_byteAt := goodIn_r _ [10, 11, 12, 13, 14, 15, 16, 17, 18, 19, 20, 21, 22, 23, 24, 25, 26, 27, 28, 29, 30, 31, 32, 33, 34, 35, 36, 37, 38, 39, 40, 41, 42, 43, 44, 45, 46] (by decide +kernel) (by decide +kernel)
set_option maxRecDepth 20000 in
theorem gX6_at_X6_byteAt : GoodIn wsX6_at (wsV RX6 77 RX6 yX6_byteAt wsX6_byteAt) := goodIn_app (goodIn_of _ (by decide +kernel)) ggX6_at_X6_byteAt
set_option maxRecDepth 20000 in
theorem ggX6_isBlank_X6_byteAt : GoodIn wsX6_isBlank wsX6_byteAt := goodIn_r _ [5, 6, 7, 8, 9, 10, 11, 12, 13, 14, 15, 16, 17, 18, 19, 20, 21, 22, 23, 24, 25, 26, 27, 28, 29, 30, 31, 32, 33, 34, 35, 36, 37, 38, 39, 40, 41] (by decide +kernel) (by decide +kernel)
set_option maxRecDepth 20000 in
theorem gX6_isBlank_X6_byteAt : GoodIn wsX6_isBlank (wsV RX6 77 RX6 yX6_byteAt wsX6_byteAt) := goodIn_app (goodIn_of _ (by decide +kernel)) ggX6_isBlank_X6_byteAt
set_option maxRecDepth 20000 in
theorem ggX6_kindOf_X6_byteAt : GoodIn wsX6_kindOf wsX6_byteAt := goodIn_r _ [6, 1, 7, 8, 9, 10, 11, 12, 13, 14, 15, 16, 17, 18, 19, 20, 21, 22, 23, 24, 25, 26, 27, 28, 29, 30, 31, 32, 33, 34, 35, 36, 37, 38, 39, 40, 41] (by decide +kernel) (by decide +kernel)
set_option maxRecDepth 20000 in
theorem gX6_kindOf_X6_byteAt : GoodIn wsX6_kindOf (wsV RX6 77 RX6 yX6_byteAt wsX6_byteAt) := goodIn_app (goodIn_of _ (by decide +kernel)) ggX6_kindOf_X6_byteAt
set_option maxRecDepth 20000 in
theorem ggX6_kind_X6_in : GoodIn wsX6_kind wsX6_in := goodIn_r _ [5] (by decide +kernel) (by decide +kernel)
set_option maxRecDepth 20000 in
theorem gX6_kind_X6_in : GoodIn wsX6_kind (va_wsS RX6 58 yX6_in wsX6_in) := goodIn_app (goodIn_of _ (by decide +kernel)) ggX6_kind_X6_in
set_option maxRecDepth 20000 in
theorem ggX6_kind_X6_kindOf : GoodIn wsX6_kind wsX6_kindOf := goodIn_r _ [9, 10, 11, 12, 13, 4, 14, 15, 16, 17, 18, 19, 20, 21, 22, 23, 24, 25, 26, 27, 28, 29, 30, 31, 32, 33, 34, 35, 36, 37, 38, 39, 40, 41, 42, 43, 44, 45, 46, 47, 48, 49] (by decide +kernel) (by decide +kernel)
set_option maxRecDepth 20000 in
theorem gX6_kind_X6_kindOf : GoodIn wsX6_kind (wsV RX6 81 RX6 yX6_kindOf wsX6_kindOf) := goodIn_app (goodIn_of _ (by decide +kernel)) ggX6_kind_X6_kindOf
set_option maxRecDepth 20000 in
theorem ggX6_set_X6_in : GoodIn wsX6_set wsX6_in := goodIn_r _ [9] (by decide +kernel) (by decide +kernel)
set_option maxRecDepth 20000 in
theorem gX6_set_X6_in : GoodIn wsX6_set (va_wsS RX6 58 yX6_in wsX6_in) := goodIn_app (goodIn_of _ (by decide +kernel)) ggX6_set_X6_in
set_option maxRecDepth 20000 in
theorem ggX6_look_X6_in : GoodIn wsX6_look wsX6_in := goodIn_r _ [9] (by decide +kernel) (by decide +kernel)
set_option maxRecDepth 20000 in
theorem gX6_look_X6_in : GoodIn wsX6_look (va_wsS RX6 58 yX6_in wsX6_in) := goodIn_app (goodIn_of _ (by decide +kernel)) ggX6_look_X6_in
set_option maxRecDepth 20000 in
theorem ggX6_look_X6_kindOf : GoodIn wsX6_look wsX6_kindOf := goodIn_r _ [13, 14, 15, 16, 17, 8, 18, 19, 24, 25, 26, 27, 28, 29, 30, 31, 32, 33, 34, 35, 36, 37, 38, 39, 40, 41, 42, 43, 44, 45, 46, 47, 48, 49, 50, 51, 52, 53, 54, 55, 56, 57] (by decide +kernel) (by decide +kernel)
set_option maxRecDepth 20000 in
theorem gX6_look_X6_kindOf : GoodIn wsX6_look (wsV RX6 81 RX6 yX6_kindOf wsX6_kindOf) := goodIn_app (goodIn_of _ (by decide +kernel)) ggX6_look_X6_kindOf
set_option maxRecDepth 20000 in
theorem ggX6_look_X6_isBlank : GoodIn wsX6_look wsX6_isBlank := goodIn_r _ [23, 15, 16, 17, 8, 18, 14, 19, 24, 25, 26, 27, 28, 29, 30, 31, 32, 33, 34, 35, 36, 37, 38, 39, 40, 41, 42, 43, 44, 45, 46, 47, 48, 49, 50, 51, 52, 53, 54, 55, 56, 57] (by decide +kernel) (by decide +kernel)
set_option maxRecDepth 20000 in
theorem gX6_look_X6_isBlank : GoodIn wsX6_look (wsV RX6 85 RX6 yX6_isBlank wsX6_isBlank) := goodIn_app (goodIn_of _ (by decide +kernel)) ggX6_look_X6_isBlank
set_option maxRecDepth 20000 in
theorem ggX6_cutCost_X6_isBlank : GoodIn wsX6_cutCost wsX6_isBlank := goodIn_r _ [8, 9, 10, 11, 7, 12, 13, 14, 15, 16, 17, 18, 19, 20, 21, 22, 23, 24, 25, 26, 27, 28, 29, 30, 31, 32, 33, 34, 35, 36, 37, 38, 39, 40, 41, 42, 43, 44, 45, 46, 47, 48] (by decide +kernel) (by decide +kernel)
set_option maxRecDepth 20000 in
theorem gX6_cutCost_X6_isBlank : GoodIn wsX6_cutCost (wsV RX6 85 RX6 yX6_isBlank wsX6_isBlank) := goodIn_app (goodIn_of _ (by decide +kernel)) ggX6_cutCost_X6_isBlank
set_option maxRecDepth 20000 in
theorem ggX6_columnCost_X6_isBlank : GoodIn wsX6_columnCost wsX6_isBlank := goodIn_r _ [8, 9, 10, 11, 7, 12, 13, 14, 15, 16, 17, 18, 19, 20, 21, 22, 23, 24, 25, 26, 27, 28, 29, 30, 31, 32, 33, 34, 35, 36, 37, 38, 39, 40, 41, 42, 43, 44, 45, 46, 47, 48] (by decide +kernel) (by decide +kernel)
set_option maxRecDepth 20000 in
theorem gX6_columnCost_X6_isBlank : GoodIn wsX6_columnCost (wsV RX6 85 RX6 yX6_isBlank wsX6_isBlank) := goodIn_app (goodIn_of _ (by decide +kernel)) ggX6_columnCost_X6_isBlank
set_option maxRecDepth 20000 in
theorem ggX6_cost_X6_look : GoodIn wsX6_cost wsX6_look := goodIn_r _ [6, 7, 8, 9, 1, 10, 11, 12, 5, 13, 14, 15, 16, 17, 18, 19, 20, 21, 22, 23, 24, 25, 26, 27, 36, 37, 38, 39, 40, 41, 42, 43, 44, 45, 46, 47, 48, 49, 50, 51, 52, 53, 54, 55, 56, 57, 58, 59, 60, 61, 62, 63, 64, 65, 66, 67, 68, 69] (by decide +kernel) (by decide +kernel)
set_option maxRecDepth 20000 in
theorem gX6_cost_X6_look : GoodIn wsX6_cost (wsV RX6 98 RX6 yX6_look wsX6_look) := goodIn_app (goodIn_of _ (by decide +kernel)) ggX6_cost_X6_look
set_option maxRecDepth 20000 in
theorem ggX6_cost_X6_cutCost : GoodIn wsX6_cost wsX6_cutCost := goodIn_r _ [31, 8, 9, 10, 24, 25, 26, 5, 27, 19, 20, 21, 22, 18, 23, 36, 37, 38, 39, 40, 41, 42, 43, 44, 45, 46, 47, 48, 49, 50, 51, 52, 53, 54, 55, 56, 57, 58, 59, 60, 61, 62, 63, 64, 65, 66, 67, 68, 69] (by decide +kernel) (by decide +kernel)
set_option maxRecDepth 20000 in
theorem gX6_cost_X6_cutCost : GoodIn wsX6_cost (wsV RX6 101 RX6 yX6_cutCost wsX6_cutCost) := goodIn_app (goodIn_of _ (by decide +kernel)) ggX6_cost_X6_cutCost
set_option maxRecDepth 20000 in
theorem ggX6_cost_X6_columnCost : GoodIn wsX6_cost wsX6_columnCost := goodIn_r _ [35, 8, 9, 10, 24, 25, 26, 5, 27, 19, 20, 21, 22, 18, 23, 36, 37, 38, 39, 40, 41, 42, 43, 44, 45, 46, 47, 48, 49, 50, 51, 52, 53, 54, 55, 56, 57, 58, 59, 60, 61, 62, 63, 64, 65, 66, 67, 68, 69] (by decide +kernel) (by decide +kernel)
set_option maxRecDepth 20000 in
theorem gX6_cost_X6_columnCost : GoodIn wsX6_cost (wsV RX6 104 RX6 yX6_columnCost wsX6_columnCost) := goodIn_app (goodIn_of _ (by decide +kernel)) ggX6_cost_X6_columnCost
set_option maxRecDepth 20000 in
theorem ggX6_reckon_X6_cutCost : GoodIn wsX6_reckon wsX6_cutCost := goodIn_r _ [11, 12, 13, 14, 15, 16, 17, 10, 18, 19, 20, 21, 22, 23, 24, 33, 34, 35, 36, 37, 38, 39, 40, 41, 42, 43, 44, 45, 46, 47, 48, 49, 50, 51, 52, 53, 54, 55, 56, 57, 58, 59, 60, 61, 62, 63, 64, 65, 66] (by decide +kernel) (by decide +kernel)
set_option maxRecDepth 20000 in
theorem gX6_reckon_X6_cutCost : GoodIn wsX6_reckon (wsV RX6 101 RX6 yX6_cutCost wsX6_cutCost) := goodIn_app (goodIn_of _ (by decide +kernel)) ggX6_reckon_X6_cutCost
set_option maxRecDepth 20000 in
theorem ggX6_reckon_X6_columnCost : GoodIn wsX6_reckon wsX6_columnCost := goodIn_r _ [28, 12, 13, 14, 15, 16, 17, 10, 18, 19, 20, 21, 22, 23, 24, 33, 34, 35, 36, 37, 38, 39, 40, 41, 42, 43, 44, 45, 46, 47, 48, 49, 50, 51, 52, 53, 54, 55, 56, 57, 58, 59, 60, 61, 62, 63, 64, 65, 66] (by decide +kernel) (by decide +kernel)
set_option maxRecDepth 20000 in
theorem gX6_reckon_X6_columnCost : GoodIn wsX6_reckon (wsV RX6 104 RX6 yX6_columnCost wsX6_columnCost) := goodIn_app (goodIn_of _ (by decide +kernel)) ggX6_reckon_X6_columnCost
set_option maxRecDepth 20000 in
theorem ggX6_reckon_X6_take : GoodIn wsX6_reckon wsX6_take := goodIn_r _ [32, 5, 4, 6, 33, 34, 35, 36, 37, 38, 39, 40, 41, 42, 43, 44, 45, 46, 47, 48, 49, 50, 51, 52, 53, 54, 55, 56, 57, 58, 59, 60, 61, 62, 63, 64, 65, 66] (by decide +kernel) (by decide +kernel)
set_option maxRecDepth 20000 in
theorem gX6_reckon_X6_take : GoodIn wsX6_reckon (wsV RX6 108 RX6 yX6_take wsX6_take) := goodIn_app (goodIn_of _ (by decide +kernel)) ggX6_reckon_X6_take
set_option maxRecDepth 20000 in
theorem ggX6_readBest_X6_reckon : GoodIn wsX6_readBest wsX6_reckon := goodIn_r _ [13, 8, 14, 15, 5, 1, 6, 16, 17, 18, 12, 19, 20, 21, 22, 23, 24, 25, 26, 27, 28, 29, 30, 31, 32, 33, 34, 35, 36, 37, 38, 39, 40, 45, 46, 47, 48, 49, 50, 51, 52, 53, 54, 55, 56, 57, 58, 59, 60, 61, 62, 63, 64, 65, 66, 67, 68, 69, 70, 71, 72, 73, 74, 75, 76, 77, 78] (by decide +kernel) (by decide +kernel)
set_option maxRecDepth 20000 in
theorem gX6_readBest_X6_reckon : GoodIn wsX6_readBest (wsV RX6 112 RX6 yX6_reckon wsX6_reckon) := goodIn_app (goodIn_of _ (by decide +kernel)) ggX6_readBest_X6_reckon
set_option maxRecDepth 20000 in
theorem ggX6_readBest_X6_isWay : GoodIn wsX6_readBest wsX6_isWay := goodIn_r _ [44, 5, 1, 15, 8, 14, 45, 46, 47, 48, 49, 50, 51, 52, 53, 54, 55, 56, 57, 58, 59, 60, 61, 62, 63, 64, 65, 66, 67, 68, 69, 70, 71, 72, 73, 74, 75, 76, 77, 78] (by decide +kernel) (by decide +kernel)
set_option maxRecDepth 20000 in
theorem gX6_readBest_X6_isWay : GoodIn wsX6_readBest (wsV RX6 124 RX6 yX6_isWay wsX6_isWay) := goodIn_app (goodIn_of _ (by decide +kernel)) ggX6_readBest_X6_isWay
set_option maxRecDepth 20000 in
theorem ggX6_join_X6_isBlank : GoodIn wsX6_join wsX6_isBlank := goodIn_r _ [9, 10, 11, 12, 8, 13, 14, 15, 16, 17, 18, 19, 20, 21, 22, 23, 24, 25, 26, 27, 28, 29, 30, 31, 32, 33, 34, 35, 36, 37, 38, 39, 40, 41, 42, 43, 44, 45, 46, 47, 48, 49] (by decide +kernel) (by decide +kernel)
set_option maxRecDepth 20000 in
theorem gX6_join_X6_isBlank : GoodIn wsX6_join (wsV RX6 85 RX6 yX6_isBlank wsX6_isBlank) := goodIn_app (goodIn_of _ (by decide +kernel)) ggX6_join_X6_isBlank
set_option maxRecDepth 20000 in
theorem ggX6_join_X6_byteAt : GoodIn wsX6_join wsX6_byteAt := goodIn_r _ [13, 14, 15, 16, 17, 18, 19, 20, 21, 22, 23, 24, 25, 26, 27, 28, 29, 30, 31, 32, 33, 34, 35, 36, 37, 38, 39, 40, 41, 42, 43, 44, 45, 46, 47, 48, 49] (by decide +kernel) (by decide +kernel)
set_option maxRecDepth 20000 in
theorem gX6_join_X6_byteAt : GoodIn wsX6_join (wsV RX6 77 RX6 yX6_byteAt wsX6_byteAt) := goodIn_app (goodIn_of _ (by decide +kernel)) ggX6_join_X6_byteAt
set_option maxRecDepth 20000 in
theorem ggX6_isEmptyCell_X6_isBlank : GoodIn wsX6_isEmptyCell wsX6_isBlank := goodIn_r _ [6, 7, 8, 9, 5, 10, 11, 12, 13, 14, 15, 16, 17, 18, 19, 20, 21, 22, 23, 24, 25, 26, 27, 28, 29, 30, 31, 32, 33, 34, 35, 36, 37, 38, 39, 40, 41, 42, 43, 44, 45, 46] (by decide +kernel) (by decide +kernel)
set_option maxRecDepth 20000 in
theorem gX6_isEmptyCell_X6_isBlank : GoodIn wsX6_isEmptyCell (wsV RX6 85 RX6 yX6_isBlank wsX6_isBlank) := goodIn_app (goodIn_of _ (by decide +kernel)) ggX6_isEmptyCell_X6_isBlank
set_option maxRecDepth 20000 in
theorem ggX6_joinLine_X6_join : GoodIn wsX6_joinLine wsX6_join := goodIn_r _ [6, 7, 8, 9, 10, 11, 12, 13, 5, 14, 15, 16, 17, 18, 19, 20, 21, 22, 23, 24, 25, 26, 27, 28, 29, 30, 31, 32, 33, 34, 35, 36, 37, 38, 39, 40, 41, 42, 43, 44, 45, 46, 47, 48, 49, 50, 51, 52, 53, 54] (by decide +kernel) (by decide +kernel)
set_option maxRecDepth 20000 in
theorem gX6_joinLine_X6_join : GoodIn wsX6_joinLine (wsV RX6 132 RX6 yX6_join wsX6_join) := goodIn_app (goodIn_of _ (by decide +kernel)) ggX6_joinLine_X6_join
set_option maxRecDepth 20000 in
theorem ggX6_readRows_X6_plainsIn : GoodIn wsX6_readRows wsX6_plainsIn := goodIn_r _ [14, 9, 40, 41, 42, 43, 44, 45, 46, 47, 48, 49, 50, 51, 52, 53, 54, 55, 56, 57, 58, 59, 60, 61, 62, 63, 64, 65, 66, 67, 68, 69, 70, 71, 72, 73] (by decide +kernel) (by decide +kernel)
set_option maxRecDepth 20000 in
theorem gX6_readRows_X6_plainsIn : GoodIn wsX6_readRows (wsV RX6 138 RX6 yX6_plainsIn wsX6_plainsIn) := goodIn_app (goodIn_of _ (by decide +kernel)) ggX6_readRows_X6_plainsIn
set_option maxRecDepth 20000 in
theorem ggX6_readRows_X6_joinLine : GoodIn wsX6_readRows wsX6_joinLine := goodIn_r _ [18, 19, 20, 21, 22, 13, 23, 24, 1, 8, 25, 26, 27, 28, 29, 30, 31, 32, 33, 34, 35, 40, 41, 42, 43, 44, 45, 46, 47, 48, 49, 50, 51, 52, 53, 54, 55, 56, 57, 58, 59, 60, 61, 62, 63, 64, 65, 66, 67, 68, 69, 70, 71, 72, 73] (by decide +kernel) (by decide +kernel)
set_option maxRecDepth 20000 in
theorem gX6_readRows_X6_joinLine : GoodIn wsX6_readRows (wsV RX6 150 RX6 yX6_joinLine wsX6_joinLine) := goodIn_app (goodIn_of _ (by decide +kernel)) ggX6_readRows_X6_joinLine
set_option maxRecDepth 20000 in
theorem ggX6_readRows_X6_isEmptyCell : GoodIn wsX6_readRows wsX6_isEmptyCell := goodIn_r _ [39, 24, 26, 27, 28, 13, 29, 30, 31, 32, 33, 34, 35, 40, 41, 42, 43, 44, 45, 46, 47, 48, 49, 50, 51, 52, 53, 54, 55, 56, 57, 58, 59, 60, 61, 62, 63, 64, 65, 66, 67, 68, 69, 70, 71, 72, 73] (by decide +kernel) (by decide +kernel)
set_option maxRecDepth 20000 in
theorem gX6_readRows_X6_isEmptyCell : GoodIn wsX6_readRows (wsV RX6 154 RX6 yX6_isEmptyCell wsX6_isEmptyCell) := goodIn_app (goodIn_of _ (by decide +kernel)) ggX6_readRows_X6_isEmptyCell
set_option maxRecDepth 20000 in
theorem ggX6_find_X6_look : GoodIn wsX6_find wsX6_look := goodIn_r _ [10, 11, 12, 13, 14, 15, 16, 17, 9, 18, 19, 20, 21, 22, 23, 24, 25, 26, 27, 28, 29, 30, 31, 32, 105, 106, 107, 108, 109, 110, 111, 112, 113, 114, 115, 116, 117, 118, 119, 120, 121, 122, 123, 124, 125, 126, 127, 128, 129, 130, 131, 132, 133, 134, 135, 136, 137, 138] (by decide +kernel) (by decide +kernel)
set_option maxRecDepth 20000 in
theorem gX6_find_X6_look : GoodIn wsX6_find (wsV RX6 98 RX6 yX6_look wsX6_look) := goodIn_app (goodIn_of _ (by decide +kernel)) ggX6_find_X6_look
set_option maxRecDepth 20000 in
theorem ggX6_find_X6_readBest : GoodIn wsX6_find wsX6_readBest := goodIn_r _ [36, 37, 38, 39, 4, 40, 41, 42, 14, 43, 44, 45, 9, 46, 47, 48, 49, 50, 51, 52, 12, 13, 15, 29, 30, 31, 32, 24, 25, 26, 27, 23, 28, 53, 54, 55, 56, 57, 58, 59, 60, 61, 62, 63, 64, 105, 106, 107, 108, 109, 110, 111, 112, 113, 114, 115, 116, 117, 118, 119, 120, 121, 122, 123, 124, 125, 126, 127, 128, 129, 130, 131, 132, 133, 134, 135, 136, 137, 138] (by decide +kernel) (by decide +kernel)
set_option maxRecDepth 20000 in
theorem gX6_find_X6_readBest : GoodIn wsX6_find (wsV RX6 163 RX6 yX6_readBest wsX6_readBest) := goodIn_app (goodIn_of _ (by decide +kernel)) ggX6_find_X6_readBest
set_option maxRecDepth 20000 in
theorem ggX6_find_X6_readRows : GoodIn wsX6_find wsX6_readRows := goodIn_r _ [68, 69, 2, 12, 13, 70, 71, 72, 73, 15, 74, 75, 76, 9, 77, 78, 79, 80, 81, 4, 82, 83, 84, 85, 42, 86, 29, 30, 31, 32, 24, 25, 26, 27, 23, 28, 87, 88, 89, 90, 105, 106, 107, 108, 109, 110, 111, 112, 113, 114, 115, 116, 117, 118, 119, 120, 121, 122, 123, 124, 125, 126, 127, 128, 129, 130, 131, 132, 133, 134, 135, 136, 137, 138] (by decide +kernel) (by decide +kernel)
set_option maxRecDepth 20000 in
theorem gX6_find_X6_readRows : GoodIn wsX6_find (wsV RX6 166 RX6 yX6_readRows wsX6_readRows) := goodIn_app (goodIn_of _ (by decide +kernel)) ggX6_find_X6_readRows
set_option maxRecDepth 20000 in
theorem ggX6_find_X6_keepFound : GoodIn wsX6_find wsX6_keepFound := goodIn_r _ [94, 95, 96, 38, 39, 70, 71, 72, 4, 97, 98, 42, 105, 106, 107, 108, 109, 110, 111, 112, 113, 114, 115, 116, 117, 118, 119, 120, 121, 122, 123, 124, 125, 126, 127, 128, 129, 130, 131, 132, 133, 134, 135, 136, 137, 138] (by decide +kernel) (by decide +kernel)
set_option maxRecDepth 20000 in
theorem gX6_find_X6_keepFound : GoodIn wsX6_find (wsV RX6 170 RX6 yX6_keepFound wsX6_keepFound) := goodIn_app (goodIn_of _ (by decide +kernel)) ggX6_find_X6_keepFound
set_option maxRecDepth 20000 in
theorem ggX6_find_X6_copyRow : GoodIn wsX6_find wsX6_copyRow := goodIn_r _ [102, 103, 69, 104, 86, 105, 106, 107, 108, 109, 110, 111, 112, 113, 114, 115, 116, 117, 118, 119, 120, 121, 122, 123, 124, 125, 126, 127, 128, 129, 130, 131, 132, 133, 134, 135, 136, 137, 138] (by decide +kernel) (by decide +kernel)
set_option maxRecDepth 20000 in
theorem gX6_find_X6_copyRow : GoodIn wsX6_find (wsV RX6 182 RX6 yX6_copyRow wsX6_copyRow) := goodIn_app (goodIn_of _ (by decide +kernel)) ggX6_find_X6_copyRow
set_option maxRecDepth 20000 in
theorem ggX6_more_X6_look : GoodIn wsX6_more wsX6_look := goodIn_r _ [10, 11, 12, 13, 14, 15, 16, 17, 9, 18, 19, 20, 21, 22, 23, 24, 25, 26, 27, 28, 29, 30, 31, 32, 109, 110, 111, 112, 113, 114, 115, 116, 117, 118, 119, 120, 121, 122, 123, 124, 125, 126, 127, 128, 129, 130, 131, 132, 133, 134, 135, 136, 137, 138, 139, 140, 141, 142] (by decide +kernel) (by decide +kernel)
set_option maxRecDepth 20000 in
theorem gX6_more_X6_look : GoodIn wsX6_more (wsV RX6 98 RX6 yX6_look wsX6_look) := goodIn_app (goodIn_of _ (by decide +kernel)) ggX6_more_X6_look
set_option maxRecDepth 20000 in
theorem ggX6_more_X6_readBest : GoodIn wsX6_more wsX6_readBest := goodIn_r _ [36, 37, 38, 39, 2, 40, 41, 42, 14, 43, 44, 45, 9, 46, 47, 48, 49, 50, 51, 52, 12, 13, 15, 29, 30, 31, 32, 24, 25, 26, 27, 23, 28, 53, 54, 55, 56, 57, 58, 59, 60, 61, 62, 63, 64, 109, 110, 111, 112, 113, 114, 115, 116, 117, 118, 119, 120, 121, 122, 123, 124, 125, 126, 127, 128, 129, 130, 131, 132, 133, 134, 135, 136, 137, 138, 139, 140, 141, 142] (by decide +kernel) (by decide +kernel)
set_option maxRecDepth 20000 in
theorem gX6_more_X6_readBest : GoodIn wsX6_more (wsV RX6 163 RX6 yX6_readBest wsX6_readBest) := goodIn_app (goodIn_of _ (by decide +kernel)) ggX6_more_X6_readBest
set_option maxRecDepth 20000 in
theorem ggX6_more_X6_readRows : GoodIn wsX6_more wsX6_readRows := goodIn_r _ [68, 69, 5, 12, 13, 70, 71, 72, 73, 15, 74, 75, 76, 9, 77, 78, 79, 80, 81, 2, 82, 83, 84, 85, 42, 86, 29, 30, 31, 32, 24, 25, 26, 27, 23, 28, 87, 88, 89, 90, 109, 110, 111, 112, 113, 114, 115, 116, 117, 118, 119, 120, 121, 122, 123, 124, 125, 126, 127, 128, 129, 130, 131, 132, 133, 134, 135, 136, 137, 138, 139, 140, 141, 142] (by decide +kernel) (by decide +kernel)
set_option maxRecDepth 20000 in
theorem gX6_more_X6_readRows : GoodIn wsX6_more (wsV RX6 166 RX6 yX6_readRows wsX6_readRows) := goodIn_app (goodIn_of _ (by decide +kernel)) ggX6_more_X6_readRows
set_option maxRecDepth 20000 in
theorem ggX6_more_X6_goTogether : GoodIn wsX6_more wsX6_goTogether := goodIn_r _ [94, 2, 69, 95, 86, 96, 109, 110, 111, 112, 113, 114, 115, 116, 117, 118, 119, 120, 121, 122, 123, 124, 125, 126, 127, 128, 129, 130, 131, 132, 133, 134, 135, 136, 137, 138, 139, 140, 141, 142] (by decide +kernel) (by decide +kernel)
set_option maxRecDepth 20000 in
theorem gX6_more_X6_goTogether : GoodIn wsX6_more (wsV RX6 185 RX6 yX6_goTogether wsX6_goTogether) := goodIn_app (goodIn_of _ (by decide +kernel)) ggX6_more_X6_goTogether
set_option maxRecDepth 20000 in
theorem ggX6_more_X6_keepFound : GoodIn wsX6_more wsX6_keepFound := goodIn_r _ [100, 101, 102, 38, 39, 70, 71, 72, 2, 103, 104, 42, 109, 110, 111, 112, 113, 114, 115, 116, 117, 118, 119, 120, 121, 122, 123, 124, 125, 126, 127, 128, 129, 130, 131, 132, 133, 134, 135, 136, 137, 138, 139, 140, 141, 142] (by decide +kernel) (by decide +kernel)
set_option maxRecDepth 20000 in
theorem gX6_more_X6_keepFound : GoodIn wsX6_more (wsV RX6 170 RX6 yX6_keepFound wsX6_keepFound) := goodIn_app (goodIn_of _ (by decide +kernel)) ggX6_more_X6_keepFound
set_option maxRecDepth 20000 in
theorem ggX6_more_X6_copyRow : GoodIn wsX6_more wsX6_copyRow := goodIn_r _ [108, 95, 69, 96, 86, 109, 110, 111, 112, 113, 114, 115, 116, 117, 118, 119, 120, 121, 122, 123, 124, 125, 126, 127, 128, 129, 130, 131, 132, 133, 134, 135, 136, 137, 138, 139, 140, 141, 142] (by decide +kernel) (by decide +kernel)
set_option maxRecDepth 20000 in
theorem gX6_more_X6_copyRow : GoodIn wsX6_more (wsV RX6 182 RX6 yX6_copyRow wsX6_copyRow) := goodIn_app (goodIn_of _ (by decide +kernel)) ggX6_more_X6_copyRow
set_option maxRecDepth 20000 in
theorem ggX6_told_X6_in : GoodIn wsX6_told wsX6_in := goodIn_r _ [7] (by decide +kernel) (by decide +kernel)
set_option maxRecDepth 20000 in
theorem gX6_told_X6_in : GoodIn wsX6_told (va_wsS RX6 58 yX6_in wsX6_in) := goodIn_app (goodIn_of _ (by decide +kernel)) ggX6_told_X6_in
set_option maxRecDepth 20000 in
theorem ggX6_cutAt_X6_in : GoodIn wsX6_cutAt wsX6_in := goodIn_r _ [7] (by decide +kernel) (by decide +kernel)
set_option maxRecDepth 20000 in
theorem gX6_cutAt_X6_in : GoodIn wsX6_cutAt (va_wsS RX6 58 yX6_in wsX6_in) := goodIn_app (goodIn_of _ (by decide +kernel)) ggX6_cutAt_X6_in
set_option maxRecDepth 20000 in
theorem ggX6_size_X6_in : GoodIn wsX6_size wsX6_in := goodIn_r _ [8] (by decide +kernel) (by decide +kernel)
set_option maxRecDepth 20000 in
theorem gX6_size_X6_in : GoodIn wsX6_size (va_wsS RX6 58 yX6_in wsX6_in) := goodIn_app (goodIn_of _ (by decide +kernel)) ggX6_size_X6_in
set_option maxRecDepth 20000 in
theorem ggX6_size_X6_hasSome : GoodIn wsX6_size wsX6_hasSome := goodIn_r _ [12, 3, 13, 14, 15, 16, 17, 18, 19, 20, 21, 22, 23, 24, 25, 26, 27, 28, 29, 30, 31, 32, 33, 34, 35, 36, 37, 38, 39, 40, 41, 42, 43, 44, 45, 46, 47] (by decide +kernel) (by decide +kernel)
set_option maxRecDepth 20000 in
theorem gX6_size_X6_hasSome : GoodIn wsX6_size (wsV RX6 192 RX6 yX6_hasSome wsX6_hasSome) := goodIn_app (goodIn_of _ (by decide +kernel)) ggX6_size_X6_hasSome
set_option maxRecDepth 20000 in
theorem ggX6_cellAt_X6_in : GoodIn wsX6_cellAt wsX6_in := goodIn_r _ [7] (by decide +kernel) (by decide +kernel)
set_option maxRecDepth 20000 in
theorem gX6_cellAt_X6_in : GoodIn wsX6_cellAt (va_wsS RX6 58 yX6_in wsX6_in) := goodIn_app (goodIn_of _ (by decide +kernel)) ggX6_cellAt_X6_in
set_option maxRecDepth 20000 in
theorem ggX6_cell_X6_cellAt : GoodIn wsX6_cell wsX6_cellAt := goodIn_r _ [8, 9, 10, 11, 12, 13, 7, 14, 15, 16, 17, 18, 19, 20, 21, 22, 23, 24, 25, 26, 27, 28, 29, 30, 31, 32, 33, 34, 35, 36, 37, 38, 39, 40, 41, 42, 43, 44, 45, 46, 47, 48] (by decide +kernel) (by decide +kernel)
set_option maxRecDepth 20000 in
theorem gX6_cell_X6_cellAt : GoodIn wsX6_cell (wsV RX6 196 RX6 yX6_cellAt wsX6_cellAt) := goodIn_app (goodIn_of _ (by decide +kernel)) ggX6_cell_X6_cellAt
set_option maxRecDepth 20000 in
theorem ggX6_cell_X6_in : GoodIn wsX6_cell wsX6_in := goodIn_r _ [14] (by decide +kernel) (by decide +kernel)
set_option maxRecDepth 20000 in
theorem gX6_cell_X6_in : GoodIn wsX6_cell (va_wsS RX6 58 yX6_in wsX6_in) := goodIn_app (goodIn_of _ (by decide +kernel)) ggX6_cell_X6_in
set_option maxRecDepth 20000 in
theorem ggX6_isDigit_X6_in : GoodIn wsX6_isDigit wsX6_in := goodIn_r _ [6] (by decide +kernel) (by decide +kernel)
set_option maxRecDepth 20000 in
theorem gX6_isDigit_X6_in : GoodIn wsX6_isDigit (va_wsS RX6 58 yX6_in wsX6_in) := goodIn_app (goodIn_of _ (by decide +kernel)) ggX6_isDigit_X6_in
set_option maxRecDepth 20000 in
theorem ggX6_isNumber_X6_isDigit : GoodIn wsX6_isNumber wsX6_isDigit := goodIn_r _ [7, 8, 9, 10, 11, 6, 12] (by decide +kernel) (by decide +kernel)
set_option maxRecDepth 20000 in
theorem gX6_isNumber_X6_isDigit : GoodIn wsX6_isNumber (va_wsS RX6 205 yX6_isDigit wsX6_isDigit) := goodIn_app (goodIn_of _ (by decide +kernel)) ggX6_isNumber_X6_isDigit
set_option maxRecDepth 20000 in
theorem ggX6_value_X6_cellAt : GoodIn wsX6_value wsX6_cellAt := goodIn_r _ [8, 9, 10, 11, 12, 13, 7, 14, 26, 27, 28, 29, 30, 31, 32, 33, 34, 35, 36, 37, 38, 39, 40, 41, 42, 43, 44, 45, 46, 47, 48, 49, 50, 51, 52, 53, 54, 55, 56, 57, 58, 59] (by decide +kernel) (by decide +kernel)
set_option maxRecDepth 20000 in
theorem gX6_value_X6_cellAt : GoodIn wsX6_value (wsV RX6 196 RX6 yX6_cellAt wsX6_cellAt) := goodIn_app (goodIn_of _ (by decide +kernel)) ggX6_value_X6_cellAt
set_option maxRecDepth 20000 in
theorem ggX6_value_X6_isNumber : GoodIn wsX6_value wsX6_isNumber := goodIn_r _ [18, 19, 20, 2, 21, 22, 7, 23, 24, 25, 12, 13, 14, 26, 27, 28, 29, 30, 31, 32, 33, 34, 35, 36, 37, 38, 39, 40, 41, 42, 43, 44, 45, 46, 47, 48, 49, 50, 51, 52, 53, 54, 55, 56, 57, 58, 59] (by decide +kernel) (by decide +kernel)
set_option maxRecDepth 20000 in
theorem gX6_value_X6_isNumber : GoodIn wsX6_value (wsV RX6 212 RX6 yX6_isNumber wsX6_isNumber) := goodIn_app (goodIn_of _ (by decide +kernel)) ggX6_value_X6_isNumber
set_option maxRecDepth 20000 in
theorem ggX6_isColumn_X6_in : GoodIn wsX6_isColumn wsX6_in := goodIn_r _ [6] (by decide +kernel) (by decide +kernel)
set_option maxRecDepth 20000 in
theorem gX6_isColumn_X6_in : GoodIn wsX6_isColumn (va_wsS RX6 58 yX6_in wsX6_in) := goodIn_app (goodIn_of _ (by decide +kernel)) ggX6_isColumn_X6_in
set_option maxRecDepth 20000 in
theorem ggX6_areNumbers_X6_isNumber : GoodIn wsX6_areNumbers wsX6_isNumber := goodIn_r _ [7, 2, 8, 9, 10, 11, 6, 12, 13, 14, 15, 16, 17, 18, 19, 20, 21, 22, 23, 24, 25, 26, 27, 28, 29, 30, 31, 32, 33, 34, 35, 36, 37, 38, 39, 40, 41, 42, 43, 44, 45, 46, 47, 48, 49, 50, 51] (by decide +kernel) (by decide +kernel)
set_option maxRecDepth 20000 in
theorem gX6_areNumbers_X6_isNumber : GoodIn wsX6_areNumbers (wsV RX6 212 RX6 yX6_isNumber wsX6_isNumber) := goodIn_app (goodIn_of _ (by decide +kernel)) ggX6_areNumbers_X6_isNumber
set_option maxRecDepth 20000 in
theorem ggX6_numbers_X6_isColumn : GoodIn wsX6_numbers wsX6_isColumn := goodIn_r _ [5, 6, 7, 8, 9, 4, 10, 28, 29, 30, 31, 32, 33, 34, 35, 36, 37, 38, 39, 40, 41, 42, 43, 44, 45, 46, 47, 48, 49, 50, 51, 52, 53, 54, 55, 56, 57, 58, 59, 60, 61] (by decide +kernel) (by decide +kernel)
set_option maxRecDepth 20000 in
theorem gX6_numbers_X6_isColumn : GoodIn wsX6_numbers (wsV RX6 216 RX6 yX6_isColumn wsX6_isColumn) := goodIn_app (goodIn_of _ (by decide +kernel)) ggX6_numbers_X6_isColumn
set_option maxRecDepth 20000 in
theorem ggX6_numbers_X6_areNumbers : GoodIn wsX6_numbers wsX6_areNumbers := goodIn_r _ [14, 15, 16, 17, 18, 19, 4, 20, 21, 22, 23, 24, 25, 26, 27, 8, 9, 10, 28, 29, 30, 31, 32, 33, 34, 35, 36, 37, 38, 39, 40, 41, 42, 43, 44, 45, 46, 47, 48, 49, 50, 51, 52, 53, 54, 55, 56, 57, 58, 59, 60, 61] (by decide +kernel) (by decide +kernel)
set_option maxRecDepth 20000 in
theorem gX6_numbers_X6_areNumbers : GoodIn wsX6_numbers (wsV RX6 219 RX6 yX6_areNumbers wsX6_areNumbers) := goodIn_app (goodIn_of _ (by decide +kernel)) ggX6_numbers_X6_areNumbers
set_option maxRecDepth 20000 in
theorem ggX6_sumOf_X6_isNumber : GoodIn wsX6_sumOf wsX6_isNumber := goodIn_r _ [7, 8, 9, 2, 10, 11, 6, 12, 13, 14, 15, 16, 17, 18, 19, 20, 21, 22, 23, 24, 25, 26, 27, 28, 29, 30, 31, 32, 33, 34, 35, 36, 37, 38, 39, 40, 41, 42, 43, 44, 45, 46, 47, 48, 49, 50, 51] (by decide +kernel) (by decide +kernel)
set_option maxRecDepth 20000 in
theorem gX6_sumOf_X6_isNumber : GoodIn wsX6_sumOf (wsV RX6 212 RX6 yX6_isNumber wsX6_isNumber) := goodIn_app (goodIn_of _ (by decide +kernel)) ggX6_sumOf_X6_isNumber
set_option maxRecDepth 20000 in
theorem ggX6_sum_X6_isColumn : GoodIn wsX6_sum wsX6_isColumn := goodIn_r _ [7, 8, 9, 10, 11, 6, 12, 34, 35, 36, 37, 38, 39, 40, 41, 42, 43, 44, 45, 46, 47, 48, 49, 50, 51, 52, 53, 54, 55, 56, 57, 58, 59, 60, 61, 62, 63, 64, 65, 66, 67] (by decide +kernel) (by decide +kernel)
set_option maxRecDepth 20000 in
theorem gX6_sum_X6_isColumn : GoodIn wsX6_sum (wsV RX6 216 RX6 yX6_isColumn wsX6_isColumn) := goodIn_app (goodIn_of _ (by decide +kernel)) ggX6_sum_X6_isColumn
set_option maxRecDepth 20000 in
theorem ggX6_sum_X6_areNumbers : GoodIn wsX6_sum wsX6_areNumbers := goodIn_r _ [16, 17, 18, 19, 20, 21, 6, 22, 23, 24, 25, 26, 27, 28, 29, 10, 11, 12, 34, 35, 36, 37, 38, 39, 40, 41, 42, 43, 44, 45, 46, 47, 48, 49, 50, 51, 52, 53, 54, 55, 56, 57, 58, 59, 60, 61, 62, 63, 64, 65, 66, 67] (by decide +kernel) (by decide +kernel)
set_option maxRecDepth 20000 in
theorem gX6_sum_X6_areNumbers : GoodIn wsX6_sum (wsV RX6 219 RX6 yX6_areNumbers wsX6_areNumbers) := goodIn_app (goodIn_of _ (by decide +kernel)) ggX6_sum_X6_areNumbers
set_option maxRecDepth 20000 in
theorem ggX6_sum_X6_sumOf : GoodIn wsX6_sum wsX6_sumOf := goodIn_r _ [33, 17, 24, 19, 20, 21, 6, 22, 18, 23, 25, 26, 27, 28, 29, 10, 11, 12, 34, 35, 36, 37, 38, 39, 40, 41, 42, 43, 44, 45, 46, 47, 48, 49, 50, 51, 52, 53, 54, 55, 56, 57, 58, 59, 60, 61, 62, 63, 64, 65, 66, 67] (by decide +kernel) (by decide +kernel)
set_option maxRecDepth 20000 in
theorem gX6_sum_X6_sumOf : GoodIn wsX6_sum (wsV RX6 224 RX6 yX6_sumOf wsX6_sumOf) := goodIn_app (goodIn_of _ (by decide +kernel)) ggX6_sum_X6_sumOf
set_option maxRecDepth 20000 in
theorem ggX6_agrees_X6_isColumn : GoodIn wsX6_agrees wsX6_isColumn := goodIn_r _ [6, 7, 8, 9, 10, 5, 11, 32, 33, 34, 35, 36, 37, 38, 39, 40, 41, 42, 43, 44, 45, 46, 47, 48, 49, 50, 51, 52, 53, 54, 55, 56, 57, 58, 59, 60, 61, 62, 63, 64, 65] (by decide +kernel) (by decide +kernel)
set_option maxRecDepth 20000 in
theorem gX6_agrees_X6_isColumn : GoodIn wsX6_agrees (wsV RX6 216 RX6 yX6_isColumn wsX6_isColumn) := goodIn_app (goodIn_of _ (by decide +kernel)) ggX6_agrees_X6_isColumn
set_option maxRecDepth 20000 in
theorem ggX6_agrees_X6_areNumbers : GoodIn wsX6_agrees wsX6_areNumbers := goodIn_r _ [15, 16, 17, 18, 19, 20, 5, 21, 22, 1, 23, 24, 25, 26, 27, 9, 10, 11, 32, 33, 34, 35, 36, 37, 38, 39, 40, 41, 42, 43, 44, 45, 46, 47, 48, 49, 50, 51, 52, 53, 54, 55, 56, 57, 58, 59, 60, 61, 62, 63, 64, 65] (by decide +kernel) (by decide +kernel)
set_option maxRecDepth 20000 in
theorem gX6_agrees_X6_areNumbers : GoodIn wsX6_agrees (wsV RX6 219 RX6 yX6_areNumbers wsX6_areNumbers) := goodIn_app (goodIn_of _ (by decide +kernel)) ggX6_agrees_X6_areNumbers
set_option maxRecDepth 20000 in
theorem ggX6_agrees_X6_sumOf : GoodIn wsX6_agrees wsX6_sumOf := goodIn_r _ [31, 16, 1, 18, 19, 20, 5, 21, 17, 22, 23, 24, 25, 26, 27, 9, 10, 11, 32, 33, 34, 35, 36, 37, 38, 39, 40, 41, 42, 43, 44, 45, 46, 47, 48, 49, 50, 51, 52, 53, 54, 55, 56, 57, 58, 59, 60, 61, 62, 63, 64, 65] (by decide +kernel) (by decide +kernel)
set_option maxRecDepth 20000 in
theorem gX6_agrees_X6_sumOf : GoodIn wsX6_agrees (wsV RX6 224 RX6 yX6_sumOf wsX6_sumOf) := goodIn_app (goodIn_of _ (by decide +kernel)) ggX6_agrees_X6_sumOf
set_option maxRecDepth 20000 in
theorem ggX6_agrees_X6_isNumber : GoodIn wsX6_agrees wsX6_isNumber := goodIn_r _ [21, 17, 22, 1, 23, 24, 5, 25, 26, 27, 9, 10, 11, 32, 33, 34, 35, 36, 37, 38, 39, 40, 41, 42, 43, 44, 45, 46, 47, 48, 49, 50, 51, 52, 53, 54, 55, 56, 57, 58, 59, 60, 61, 62, 63, 64, 65] (by decide +kernel) (by decide +kernel)
set_option maxRecDepth 20000 in
theorem gX6_agrees_X6_isNumber : GoodIn wsX6_agrees (wsV RX6 212 RX6 yX6_isNumber wsX6_isNumber) := goodIn_app (goodIn_of _ (by decide +kernel)) ggX6_agrees_X6_isNumber
set_option maxRecDepth 20000 in
theorem ggX6_widthOf_X6_cellAt : GoodIn wsX6_widthOf wsX6_cellAt := goodIn_r _ [7, 8, 1, 9, 10, 11, 6, 12, 13, 14, 15, 16, 17, 18, 19, 20, 21, 22, 23, 24, 25, 26, 27, 28, 29, 30, 31, 32, 33, 34, 35, 36, 37, 38, 39, 40, 41, 42, 43, 44, 45, 46] (by decide +kernel) (by decide +kernel)
set_option maxRecDepth 20000 in
theorem gX6_widthOf_X6_cellAt : GoodIn wsX6_widthOf (wsV RX6 196 RX6 yX6_cellAt wsX6_cellAt) := goodIn_app (goodIn_of _ (by decide +kernel)) ggX6_widthOf_X6_cellAt
set_option maxRecDepth 20000 in
theorem ggX6_layRow_X6_cellAt : GoodIn wsX6_layRow wsX6_cellAt := goodIn_r _ [11, 12, 13, 1, 14, 15, 10, 16, 35, 36, 37, 38, 39, 40, 41, 42, 43, 44, 45, 46, 47, 48, 49, 50, 51, 52, 53, 54, 55, 56, 57, 58, 59, 60, 61, 62, 63, 64, 65, 66, 67, 68] (by decide +kernel) (by decide +kernel)
set_option maxRecDepth 20000 in
theorem gX6_layRow_X6_cellAt : GoodIn wsX6_layRow (wsV RX6 196 RX6 yX6_cellAt wsX6_cellAt) := goodIn_app (goodIn_of _ (by decide +kernel)) ggX6_layRow_X6_cellAt
set_option maxRecDepth 20000 in
theorem ggX6_layRow_X6_widthOf : GoodIn wsX6_layRow wsX6_widthOf := goodIn_r _ [20, 13, 2, 7, 8, 9, 10, 11, 12, 1, 14, 15, 16, 35, 36, 37, 38, 39, 40, 41, 42, 43, 44, 45, 46, 47, 48, 49, 50, 51, 52, 53, 54, 55, 56, 57, 58, 59, 60, 61, 62, 63, 64, 65, 66, 67, 68] (by decide +kernel) (by decide +kernel)
set_option maxRecDepth 20000 in
theorem gX6_layRow_X6_widthOf : GoodIn wsX6_layRow (wsV RX6 230 RX6 yX6_widthOf wsX6_widthOf) := goodIn_app (goodIn_of _ (by decide +kernel)) ggX6_layRow_X6_widthOf
set_option maxRecDepth 20000 in
theorem ggX6_layRow_X6_areNumbers : GoodIn wsX6_layRow wsX6_areNumbers := goodIn_r _ [24, 13, 2, 25, 26, 27, 10, 28, 5, 29, 30, 31, 32, 33, 34, 14, 15, 16, 35, 36, 37, 38, 39, 40, 41, 42, 43, 44, 45, 46, 47, 48, 49, 50, 51, 52, 53, 54, 55, 56, 57, 58, 59, 60, 61, 62, 63, 64, 65, 66, 67, 68] (by decide +kernel) (by decide +kernel)
set_option maxRecDepth 20000 in
theorem gX6_layRow_X6_areNumbers : GoodIn wsX6_layRow (wsV RX6 219 RX6 yX6_areNumbers wsX6_areNumbers) := goodIn_app (goodIn_of _ (by decide +kernel)) ggX6_layRow_X6_areNumbers
set_option maxRecDepth 20000 in
theorem ggX6_lay_X6_widthOf : GoodIn wsX6_lay wsX6_widthOf := goodIn_r _ [9, 3, 10, 11, 12, 13, 8, 14, 1, 2, 15, 16, 17, 47, 48, 49, 50, 51, 52, 53, 54, 55, 56, 57, 58, 59, 60, 61, 62, 63, 64, 65, 66, 67, 68, 69, 70, 71, 72, 73, 74, 75, 76, 77, 78, 79, 80] (by decide +kernel) (by decide +kernel)
set_option maxRecDepth 20000 in
theorem gX6_lay_X6_widthOf : GoodIn wsX6_lay (wsV RX6 230 RX6 yX6_widthOf wsX6_widthOf) := goodIn_app (goodIn_of _ (by decide +kernel)) ggX6_lay_X6_widthOf
set_option maxRecDepth 20000 in
theorem ggX6_lay_X6_hasSome : GoodIn wsX6_lay wsX6_hasSome := goodIn_r _ [21, 2, 10, 47, 48, 49, 50, 51, 52, 53, 54, 55, 56, 57, 58, 59, 60, 61, 62, 63, 64, 65, 66, 67, 68, 69, 70, 71, 72, 73, 74, 75, 76, 77, 78, 79, 80] (by decide +kernel) (by decide +kernel)
set_option maxRecDepth 20000 in
theorem gX6_lay_X6_hasSome : GoodIn wsX6_lay (wsV RX6 192 RX6 yX6_hasSome wsX6_hasSome) := goodIn_app (goodIn_of _ (by decide +kernel)) ggX6_lay_X6_hasSome
set_option maxRecDepth 20000 in
theorem ggX6_lay_X6_layRow : GoodIn wsX6_lay wsX6_layRow := goodIn_r _ [25, 2, 10, 26, 4, 27, 28, 11, 12, 13, 8, 14, 1, 3, 15, 16, 17, 5, 6, 7, 9, 29, 30, 31, 32, 33, 34, 35, 36, 37, 38, 39, 40, 41, 42, 47, 48, 49, 50, 51, 52, 53, 54, 55, 56, 57, 58, 59, 60, 61, 62, 63, 64, 65, 66, 67, 68, 69, 70, 71, 72, 73, 74, 75, 76, 77, 78, 79, 80] (by decide +kernel) (by decide +kernel)
set_option maxRecDepth 20000 in
theorem gX6_lay_X6_layRow : GoodIn wsX6_lay (wsV RX6 233 RX6 yX6_layRow wsX6_layRow) := goodIn_app (goodIn_of _ (by decide +kernel)) ggX6_lay_X6_layRow
set_option maxRecDepth 20000 in
theorem ggX6_lay_X6_layRule : GoodIn wsX6_lay wsX6_layRule := goodIn_r _ [46, 26, 4, 28, 47, 48, 49, 50, 51, 52, 53, 54, 55, 56, 57, 58, 59, 60, 61, 62, 63, 64, 65, 66, 67, 68, 69, 70, 71, 72, 73, 74, 75, 76, 77, 78, 79, 80] (by decide +kernel) (by decide +kernel)
set_option maxRecDepth 20000 in
theorem gX6_lay_X6_layRule : GoodIn wsX6_lay (wsV RX6 237 RX6 yX6_layRule wsX6_layRule) := goodIn_app (goodIn_of _ (by decide +kernel)) ggX6_lay_X6_layRule
