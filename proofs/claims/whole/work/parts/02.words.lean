set_option maxRecDepth 20000 in
theorem ggX0_noteGrown_X0_note : GoodIn wsX0_noteGrown wsX0_note := goodIn_r _ [5, 6, 7, 8, 9, 10, 11, 12, 13, 14] (by decide +kernel) (by decide +kernel)
set_option maxRecDepth 20000 in
theorem gX0_noteGrown_X0_note : GoodIn wsX0_noteGrown (wsV RX0 29 RX0 yX0_note wsX0_note) := goodIn_app (goodIn_of _ (by decide +kernel)) ggX0_noteGrown_X0_note
set_option maxRecDepth 20000 in
theorem ggX0_noteFlipped_X0_note : GoodIn wsX0_noteFlipped wsX0_note := goodIn_r _ [5, 6, 7, 8, 9, 10, 11, 12, 13, 14] (by decide +kernel) (by decide +kernel)
set_option maxRecDepth 20000 in
theorem gX0_noteFlipped_X0_note : GoodIn wsX0_noteFlipped (wsV RX0 29 RX0 yX0_note wsX0_note) := goodIn_app (goodIn_of _ (by decide +kernel)) ggX0_noteFlipped_X0_note
set_option maxRecDepth 20000 in
theorem ggX0_noteCut_X0_note : GoodIn wsX0_noteCut wsX0_note := goodIn_r _ [6, 7, 8, 9, 10, 18, 19, 20, 21, 22] (by decide +kernel) (by decide +kernel)
set_option maxRecDepth 20000 in
theorem gX0_noteCut_X0_note : GoodIn wsX0_noteCut (wsV RX0 29 RX0 yX0_note wsX0_note) := goodIn_app (goodIn_of _ (by decide +kernel)) ggX0_noteCut_X0_note
set_option maxRecDepth 20000 in
theorem ggX0_noteCut_X8_levelAt : GoodIn wsX0_noteCut wsX8_levelAt := goodIn_r _ [15, 16, 17, 23, 24] (by decide +kernel) (by decide +kernel)
set_option maxRecDepth 20000 in
theorem gX0_noteCut_X8_levelAt : GoodIn wsX0_noteCut (wsV RX0 38 RX8 yX8_levelAt wsX8_levelAt) := goodIn_app (goodIn_of _ (by decide +kernel)) ggX0_noteCut_X8_levelAt
set_option maxRecDepth 20000 in
theorem ggX0_takeBackLast_X8_shorten : GoodIn wsX0_takeBackLast wsX8_shorten := goodIn_r _ [9, 10, 11, 12, 13, 14, 39, 40] (by decide +kernel) (by decide +kernel)
set_option maxRecDepth 20000 in
theorem gX0_takeBackLast_X8_shorten : GoodIn wsX0_takeBackLast (wsV RX0 42 RX8 yX8_shorten wsX8_shorten) := goodIn_app (goodIn_of _ (by decide +kernel)) ggX0_takeBackLast_X8_shorten
set_option maxRecDepth 20000 in
theorem ggX0_takeBackLast_X8_turnOver : GoodIn wsX0_takeBackLast wsX8_turnOver := goodIn_r _ [18, 19, 20, 21, 22, 8, 23, 10, 39, 40] (by decide +kernel) (by decide +kernel)
set_option maxRecDepth 20000 in
theorem gX0_takeBackLast_X8_turnOver : GoodIn wsX0_takeBackLast (wsV RX0 46 RX8 yX8_turnOver wsX8_turnOver) := goodIn_app (goodIn_of _ (by decide +kernel)) ggX0_takeBackLast_X8_turnOver
set_option maxRecDepth 20000 in
theorem ggX0_takeBackLast_X0_bringBack : GoodIn wsX0_takeBackLast wsX0_bringBack := goodIn_r _ [28, 4, 29, 30, 31, 32, 8, 33, 10, 19, 34, 35, 36, 37, 38, 39, 40] (by decide +kernel) (by decide +kernel)
set_option maxRecDepth 20000 in
theorem gX0_takeBackLast_X0_bringBack : GoodIn wsX0_takeBackLast (wsV RX0 49 RX0 yX0_bringBack wsX0_bringBack) := goodIn_app (goodIn_of _ (by decide +kernel)) ggX0_takeBackLast_X0_bringBack
set_option maxRecDepth 20000 in
theorem ggX0_bringBack_X8_extend : GoodIn wsX0_bringBack wsX8_extend := goodIn_r _ [7, 8, 9, 15, 16] (by decide +kernel) (by decide +kernel)
set_option maxRecDepth 20000 in
theorem gX0_bringBack_X8_extend : GoodIn wsX0_bringBack (wsV RX0 53 RX8 yX8_extend wsX8_extend) := goodIn_app (goodIn_of _ (by decide +kernel)) ggX0_bringBack_X8_extend
set_option maxRecDepth 20000 in
theorem ggX1_ticksOfLetter_X1_bitsOfFrame : GoodIn wsX1_ticksOfLetter wsX1_bitsOfFrame := goodIn_r _ [6, 7, 8, 9, 10, 11, 12, 13, 14] (by decide +kernel) (by decide +kernel)
set_option maxRecDepth 20000 in
theorem gX1_ticksOfLetter_X1_bitsOfFrame : GoodIn wsX1_ticksOfLetter (wsV RX1 27 RX1 yX1_bitsOfFrame wsX1_bitsOfFrame) := goodIn_app (goodIn_of _ (by decide +kernel)) ggX1_ticksOfLetter_X1_bitsOfFrame
set_option maxRecDepth 20000 in
theorem ggX2_add_X2_isFull : GoodIn wsX2_add wsX2_isFull := goodIn_r _ [8, 2, 9, 10, 11] (by decide +kernel) (by decide +kernel)
set_option maxRecDepth 20000 in
theorem gX2_add_X2_isFull : GoodIn wsX2_add (wsV RX2 22 RX2 yX2_isFull wsX2_isFull) := goodIn_app (goodIn_of _ (by decide +kernel)) ggX2_add_X2_isFull
set_option maxRecDepth 20000 in
theorem ggX2_refuters_X4_letterAt : GoodIn wsX2_refuters wsX4_letterAt := goodIn_r _ [8, 9, 10, 14, 15, 16, 17, 18, 19, 20, 21] (by decide +kernel) (by decide +kernel)
set_option maxRecDepth 20000 in
theorem gX2_refuters_X4_letterAt : GoodIn wsX2_refuters (wsV RX2 26 RX4 yX4_letterAt wsX4_letterAt) := goodIn_app (goodIn_of _ (by decide +kernel)) ggX2_refuters_X4_letterAt
set_option maxRecDepth 20000 in
theorem ggX3_init_X1_init : GoodIn wsX3_init wsX1_init := goodIn_r _ [17, 18, 2, 3, 19, 20, 21, 22, 23, 24, 25, 26, 27, 28] (by decide +kernel) (by decide +kernel)
set_option maxRecDepth 20000 in
theorem gX3_init_X1_init_n11 : GoodIn wsX3_init (wsX1_init) := ggX3_init_X1_init
set_option maxRecDepth 20000 in
theorem ggX3_rank_X4_listenTo : GoodIn wsX3_rank wsX4_listenTo := goodIn_r _ [10, 11, 12, 13, 14, 15, 16, 17, 18, 19, 20, 21, 22, 23, 24, 25, 26, 27, 28, 118, 119, 120, 121, 122, 123, 124, 125, 126, 127, 128, 129, 130, 131] (by decide +kernel) (by decide +kernel)
set_option maxRecDepth 20000 in
theorem gX3_rank_X4_listenTo : GoodIn wsX3_rank (wsV RX3 41 RX4 yX4_listenTo wsX4_listenTo) := goodIn_app (goodIn_of _ (by decide +kernel)) ggX3_rank_X4_listenTo
set_option maxRecDepth 20000 in
theorem ggX3_rank_X1_become : GoodIn wsX3_rank wsX1_become := goodIn_r _ [33, 34, 35, 36, 37, 38, 132, 133, 134, 135, 136] (by decide +kernel) (by decide +kernel)
set_option maxRecDepth 20000 in
theorem gX3_rank_X1_become : GoodIn wsX3_rank (wsV RX3 47 RX1 yX1_become wsX1_become) := goodIn_app (goodIn_of _ (by decide +kernel)) ggX3_rank_X1_become
set_option maxRecDepth 20000 in
theorem ggX3_rank_X4_read : GoodIn wsX3_rank wsX4_read := goodIn_r _ [42, 43, 44, 45, 46, 47, 48, 49, 50, 51, 9, 52, 12, 11, 53, 54, 55, 16, 56, 18, 21, 57, 58, 59, 25, 60, 27, 28, 61, 62, 63, 64, 65, 66, 67, 68, 69, 70, 71, 32, 72, 35, 36, 37, 73, 74, 75, 76, 34, 77, 78, 79, 80, 81, 82, 83, 84, 85, 86, 87, 20, 118, 119, 120, 121, 122, 123, 124, 125, 132, 133, 134, 135, 136, 128, 129, 130, 131, 126, 127] (by decide +kernel) (by decide +kernel)
set_option maxRecDepth 20000 in
theorem gX3_rank_X4_read : GoodIn wsX3_rank (wsV RX3 51 RX4 yX4_read wsX4_read) := goodIn_app (goodIn_of _ (by decide +kernel)) ggX3_rank_X4_read
set_option maxRecDepth 20000 in
theorem ggX3_rank_X4_fits : GoodIn wsX3_rank wsX4_fits := goodIn_r _ [91, 44, 43, 118, 119, 120, 121, 122, 123, 124, 125] (by decide +kernel) (by decide +kernel)
set_option maxRecDepth 20000 in
theorem gX3_rank_X4_fits : GoodIn wsX3_rank (wsV RX3 55 RX4 yX4_fits wsX4_fits) := goodIn_app (goodIn_of _ (by decide +kernel)) ggX3_rank_X4_fits
set_option maxRecDepth 20000 in
theorem ggX3_rank_X3_isBetter : GoodIn wsX3_rank wsX3_isBetter := goodIn_r _ [96, 2, 3, 4, 110, 111, 112, 113, 114, 115, 116, 117, 118, 119, 120, 121, 122, 123, 124, 125] (by decide +kernel) (by decide +kernel)
set_option maxRecDepth 20000 in
theorem gX3_rank_X3_isBetter : GoodIn wsX3_rank (wsV RX3 58 RX3 yX3_isBetter wsX3_isBetter) := goodIn_app (goodIn_of _ (by decide +kernel)) ggX3_rank_X3_isBetter
set_option maxRecDepth 20000 in
theorem ggX3_rank_X3_becomeBest : GoodIn wsX3_rank wsX3_becomeBest := goodIn_r _ [100, 5, 2, 3, 4, 101, 102, 103, 104, 105, 106, 107, 108, 32, 109, 34, 35, 36, 37, 38, 110, 111, 112, 113, 114, 115, 116, 117, 118, 119, 120, 121, 122, 123, 124, 125, 132, 133, 134, 135, 136] (by decide +kernel) (by decide +kernel)
set_option maxRecDepth 20000 in
theorem gX3_rank_X3_becomeBest : GoodIn wsX3_rank (wsV RX3 62 RX3 yX3_becomeBest wsX3_becomeBest) := goodIn_app (goodIn_of _ (by decide +kernel)) ggX3_rank_X3_becomeBest
set_option maxRecDepth 20000 in
theorem ggX3_countAlike_X1_become : GoodIn wsX3_countAlike wsX1_become := goodIn_r _ [6, 7, 8, 9, 10, 11, 90, 91, 92, 93, 94] (by decide +kernel) (by decide +kernel)
set_option maxRecDepth 20000 in
theorem gX3_countAlike_X1_become : GoodIn wsX3_countAlike (wsV RX3 47 RX1 yX1_become wsX1_become) := goodIn_app (goodIn_of _ (by decide +kernel)) ggX3_countAlike_X1_become
set_option maxRecDepth 20000 in
theorem ggX3_countAlike_X4_read : GoodIn wsX3_countAlike wsX4_read := goodIn_r _ [16, 17, 18, 19, 20, 21, 22, 23, 24, 25, 15, 26, 27, 28, 29, 30, 31, 32, 33, 34, 35, 36, 37, 38, 39, 40, 41, 42, 43, 44, 45, 46, 47, 48, 49, 50, 51, 52, 53, 5, 54, 8, 9, 10, 55, 56, 57, 58, 7, 59, 60, 61, 62, 63, 64, 65, 66, 67, 68, 69, 70, 95, 96, 97, 98, 99, 100, 101, 102, 90, 91, 92, 93, 94, 103, 104, 105, 106, 107, 108] (by decide +kernel) (by decide +kernel)
set_option maxRecDepth 20000 in
theorem gX3_countAlike_X4_read : GoodIn wsX3_countAlike (wsV RX3 51 RX4 yX4_read wsX4_read) := goodIn_app (goodIn_of _ (by decide +kernel)) ggX3_countAlike_X4_read
set_option maxRecDepth 20000 in
theorem ggX3_countAlike_X4_fits : GoodIn wsX3_countAlike wsX4_fits := goodIn_r _ [74, 18, 17, 95, 96, 97, 98, 99, 100, 101, 102] (by decide +kernel) (by decide +kernel)
set_option maxRecDepth 20000 in
theorem gX3_countAlike_X4_fits : GoodIn wsX3_countAlike (wsV RX3 55 RX4 yX4_fits wsX4_fits) := goodIn_app (goodIn_of _ (by decide +kernel)) ggX3_countAlike_X4_fits
set_option maxRecDepth 20000 in
theorem ggX3_countAlike_X3_readsLikeBest : GoodIn wsX3_countAlike wsX3_readsLikeBest := goodIn_r _ [79, 80, 81, 95, 96, 97, 98, 99, 100, 101, 102, 82, 83, 84, 85, 86, 87, 88, 89] (by decide +kernel) (by decide +kernel)
set_option maxRecDepth 20000 in
theorem gX3_countAlike_X3_readsLikeBest : GoodIn wsX3_countAlike (wsV RX3 66 RX3 yX3_readsLikeBest wsX3_readsLikeBest) := goodIn_app (goodIn_of _ (by decide +kernel)) ggX3_countAlike_X3_readsLikeBest
set_option maxRecDepth 20000 in
theorem ggX3_sift_X4_listenTo : GoodIn wsX3_sift wsX4_listenTo := goodIn_r _ [8, 9, 10, 11, 12, 13, 14, 15, 16, 17, 18, 19, 20, 21, 22, 23, 24, 25, 26, 114, 115, 116, 117, 118, 119, 120, 121, 122, 123, 124, 125, 126, 127] (by decide +kernel) (by decide +kernel)
set_option maxRecDepth 20000 in
theorem gX3_sift_X4_listenTo : GoodIn wsX3_sift (wsV RX3 41 RX4 yX4_listenTo wsX4_listenTo) := goodIn_app (goodIn_of _ (by decide +kernel)) ggX3_sift_X4_listenTo
set_option maxRecDepth 20000 in
theorem ggX3_sift_X1_become : GoodIn wsX3_sift wsX1_become := goodIn_r _ [31, 32, 33, 34, 35, 36, 128, 129, 130, 131, 132] (by decide +kernel) (by decide +kernel)
set_option maxRecDepth 20000 in
theorem gX3_sift_X1_become : GoodIn wsX3_sift (wsV RX3 47 RX1 yX1_become wsX1_become) := goodIn_app (goodIn_of _ (by decide +kernel)) ggX3_sift_X1_become
set_option maxRecDepth 20000 in
theorem ggX3_sift_X4_read : GoodIn wsX3_sift wsX4_read := goodIn_r _ [40, 41, 42, 43, 44, 45, 46, 47, 48, 49, 7, 50, 10, 9, 51, 52, 53, 14, 54, 16, 19, 55, 56, 57, 23, 58, 25, 26, 59, 60, 61, 62, 63, 64, 65, 66, 67, 68, 69, 30, 70, 33, 34, 35, 71, 72, 73, 74, 32, 75, 76, 77, 78, 79, 80, 81, 82, 83, 84, 85, 18, 114, 115, 116, 117, 118, 119, 120, 121, 128, 129, 130, 131, 132, 124, 125, 126, 127, 122, 123] (by decide +kernel) (by decide +kernel)
set_option maxRecDepth 20000 in
theorem gX3_sift_X4_read : GoodIn wsX3_sift (wsV RX3 51 RX4 yX4_read wsX4_read) := goodIn_app (goodIn_of _ (by decide +kernel)) ggX3_sift_X4_read
set_option maxRecDepth 20000 in
theorem ggX3_sift_X4_fits : GoodIn wsX3_sift wsX4_fits := goodIn_r _ [89, 42, 41, 114, 115, 116, 117, 118, 119, 120, 121] (by decide +kernel) (by decide +kernel)
set_option maxRecDepth 20000 in
theorem gX3_sift_X4_fits : GoodIn wsX3_sift (wsV RX3 55 RX4 yX4_fits wsX4_fits) := goodIn_app (goodIn_of _ (by decide +kernel)) ggX3_sift_X4_fits
set_option maxRecDepth 20000 in
theorem ggX3_sift_X2_refuters : GoodIn wsX3_sift wsX2_refuters := goodIn_r _ [94, 95, 96, 97, 98, 99, 100, 7, 101, 41, 45, 133, 134, 135, 114, 115, 116, 117, 118, 119, 120, 121] (by decide +kernel) (by decide +kernel)
set_option maxRecDepth 20000 in
theorem gX3_sift_X2_refuters : GoodIn wsX3_sift (wsV RX3 69 RX2 yX2_refuters wsX2_refuters) := goodIn_app (goodIn_of _ (by decide +kernel)) ggX3_sift_X2_refuters
set_option maxRecDepth 20000 in
theorem ggX3_sift_X1_code : GoodIn wsX3_sift wsX1_code := goodIn_r _ [105, 32, 33, 34, 35, 36, 128, 129, 130, 131, 132] (by decide +kernel) (by decide +kernel)
set_option maxRecDepth 20000 in
theorem gX3_sift_X1_code : GoodIn wsX3_sift (wsV RX3 75 RX1 yX1_code wsX1_code) := goodIn_app (goodIn_of _ (by decide +kernel)) ggX3_sift_X1_code
set_option maxRecDepth 20000 in
theorem ggX3_sixtiethsRuledOut_X4_listenTo : GoodIn wsX3_sixtiethsRuledOut wsX4_listenTo := goodIn_r _ [6, 7, 8, 9, 10, 11, 12, 13, 14, 15, 16, 17, 18, 19, 20, 21, 22, 23, 24, 115, 116, 117, 118, 119, 120, 121, 122, 123, 124, 125, 126, 127, 128] (by decide +kernel) (by decide +kernel)
set_option maxRecDepth 20000 in
theorem gX3_sixtiethsRuledOut_X4_listenTo : GoodIn wsX3_sixtiethsRuledOut (wsV RX3 41 RX4 yX4_listenTo wsX4_listenTo) := goodIn_app (goodIn_of _ (by decide +kernel)) ggX3_sixtiethsRuledOut_X4_listenTo
set_option maxRecDepth 20000 in
theorem ggX3_sixtiethsRuledOut_X1_become : GoodIn wsX3_sixtiethsRuledOut wsX1_become := goodIn_r _ [29, 30, 31, 32, 33, 34, 129, 130, 131, 132, 133] (by decide +kernel) (by decide +kernel)
set_option maxRecDepth 20000 in
theorem gX3_sixtiethsRuledOut_X1_become : GoodIn wsX3_sixtiethsRuledOut (wsV RX3 47 RX1 yX1_become wsX1_become) := goodIn_app (goodIn_of _ (by decide +kernel)) ggX3_sixtiethsRuledOut_X1_become
set_option maxRecDepth 20000 in
theorem ggX3_sixtiethsRuledOut_X4_read : GoodIn wsX3_sixtiethsRuledOut wsX4_read := goodIn_r _ [38, 39, 40, 41, 42, 43, 44, 45, 46, 47, 5, 48, 8, 7, 49, 50, 51, 12, 52, 14, 17, 53, 54, 55, 21, 56, 23, 24, 57, 58, 59, 60, 61, 62, 63, 64, 65, 66, 67, 28, 68, 31, 32, 33, 69, 70, 71, 72, 30, 73, 74, 75, 76, 77, 78, 79, 80, 81, 82, 83, 16, 115, 116, 117, 118, 119, 120, 121, 122, 129, 130, 131, 132, 133, 125, 126, 127, 128, 123, 124] (by decide +kernel) (by decide +kernel)
set_option maxRecDepth 20000 in
theorem gX3_sixtiethsRuledOut_X4_read : GoodIn wsX3_sixtiethsRuledOut (wsV RX3 51 RX4 yX4_read wsX4_read) := goodIn_app (goodIn_of _ (by decide +kernel)) ggX3_sixtiethsRuledOut_X4_read
set_option maxRecDepth 20000 in
theorem ggX3_sixtiethsRuledOut_X4_fits : GoodIn wsX3_sixtiethsRuledOut wsX4_fits := goodIn_r _ [87, 40, 39, 115, 116, 117, 118, 119, 120, 121, 122] (by decide +kernel) (by decide +kernel)
set_option maxRecDepth 20000 in
theorem gX3_sixtiethsRuledOut_X4_fits : GoodIn wsX3_sixtiethsRuledOut (wsV RX3 55 RX4 yX4_fits wsX4_fits) := goodIn_app (goodIn_of _ (by decide +kernel)) ggX3_sixtiethsRuledOut_X4_fits
set_option maxRecDepth 20000 in
theorem ggX3_sixtiethsRuledOut_X2_refuters : GoodIn wsX3_sixtiethsRuledOut wsX2_refuters := goodIn_r _ [92, 93, 94, 95, 96, 97, 98, 5, 99, 39, 43, 134, 135, 136, 115, 116, 117, 118, 119, 120, 121, 122] (by decide +kernel) (by decide +kernel)
set_option maxRecDepth 20000 in
theorem gX3_sixtiethsRuledOut_X2_refuters : GoodIn wsX3_sixtiethsRuledOut (wsV RX3 69 RX2 yX2_refuters wsX2_refuters) := goodIn_app (goodIn_of _ (by decide +kernel)) ggX3_sixtiethsRuledOut_X2_refuters
set_option maxRecDepth 20000 in
theorem ggX3_sixtiethsRuledOut_J6_bitCount_0f7a4 : GoodIn wsX3_sixtiethsRuledOut wsJ6_bitCount_0f7a4 := goodIn_r _ [103, 104, 105, 106] (by decide +kernel) (by decide +kernel)
set_option maxRecDepth 20000 in
theorem gX3_sixtiethsRuledOut_J6_bitCount_0f7a4 : GoodIn wsX3_sixtiethsRuledOut (va_wsS RX3 79 yJ6_bitCount_0f7a4 wsJ6_bitCount_0f7a4) := goodIn_app (goodIn_of _ (by decide +kernel)) ggX3_sixtiethsRuledOut_J6_bitCount_0f7a4
set_option maxRecDepth 20000 in
theorem ggX3_becomeBest_X1_code : GoodIn wsX3_becomeBest wsX1_code := goodIn_r _ [14, 15, 16, 17, 18, 19, 36, 37, 38, 39, 40] (by decide +kernel) (by decide +kernel)
set_option maxRecDepth 20000 in
theorem gX3_becomeBest_X1_code : GoodIn wsX3_becomeBest (wsV RX3 75 RX1 yX1_code wsX1_code) := goodIn_app (goodIn_of _ (by decide +kernel)) ggX3_becomeBest_X1_code
set_option maxRecDepth 20000 in
theorem ggX4_init_X5_init : GoodIn wsX4_init wsX5_init := goodIn_r _ [20, 21, 2, 3, 8, 22, 23, 24, 25, 31, 32, 33, 34] (by decide +kernel) (by decide +kernel)
set_option maxRecDepth 20000 in
theorem gX4_init_X5_init_n11 : GoodIn wsX4_init (wsX5_init) := ggX4_init_X5_init
set_option maxRecDepth 20000 in
theorem ggX4_init_X8_init : GoodIn wsX4_init wsX8_init := goodIn_r _ [27, 28, 2, 3, 8, 29, 30, 43, 44] (by decide +kernel) (by decide +kernel)
set_option maxRecDepth 20000 in
theorem gX4_init_X8_init_n40 : GoodIn wsX4_init (wsX8_init) := ggX4_init_X8_init
set_option maxRecDepth 20000 in
theorem ggX4_listenTo_X5_mark : GoodIn wsX4_listenTo wsX5_mark := goodIn_r _ [7, 8, 9, 10, 11, 12, 13, 14, 15, 16, 17, 18, 27, 28, 29, 30, 31, 32] (by decide +kernel) (by decide +kernel)
set_option maxRecDepth 20000 in
theorem gX4_listenTo_X5_mark : GoodIn wsX4_listenTo (wsV RX4 45 RX5 yX5_mark wsX5_mark) := goodIn_app (goodIn_of _ (by decide +kernel)) ggX4_listenTo_X5_mark
set_option maxRecDepth 20000 in
theorem ggX4_read_X4_nextStart : GoodIn wsX4_read wsX4_nextStart := goodIn_r _ [11, 12, 13, 14, 15, 16, 17, 18, 19, 20, 21, 22, 23, 24, 25, 26, 27, 61, 62, 63, 64, 65, 66, 67, 68, 74, 75, 76, 77, 78, 79] (by decide +kernel) (by decide +kernel)
set_option maxRecDepth 20000 in
theorem gX4_read_X4_nextStart : GoodIn wsX4_read (wsV RX4 54 RX4 yX4_nextStart wsX4_nextStart) := goodIn_app (goodIn_of _ (by decide +kernel)) ggX4_read_X4_nextStart
set_option maxRecDepth 20000 in
theorem ggX4_read_X4_readFrame : GoodIn wsX4_read wsX4_readFrame := goodIn_r _ [31, 13, 2, 4, 12, 32, 33, 34, 35, 36, 37, 38, 39, 40, 41, 42, 43, 44, 45, 46, 47, 48, 21, 22, 23, 24, 25, 26, 27, 49, 50, 51, 52, 53, 54, 10, 55, 56, 57, 58, 17, 59, 19, 60, 20, 61, 62, 63, 64, 65, 66, 67, 68, 69, 70, 71, 72, 73, 78, 79, 74, 75, 76, 77] (by decide +kernel) (by decide +kernel)
set_option maxRecDepth 20000 in
theorem gX4_read_X4_readFrame : GoodIn wsX4_read (wsV RX4 58 RX4 yX4_readFrame wsX4_readFrame) := goodIn_app (goodIn_of _ (by decide +kernel)) ggX4_read_X4_readFrame
set_option maxRecDepth 20000 in
theorem ggX4_read_X1_bitsOfFrame : GoodIn wsX4_read wsX1_bitsOfFrame := goodIn_r _ [40, 41, 42, 43, 69, 70, 71, 72, 73] (by decide +kernel) (by decide +kernel)
set_option maxRecDepth 20000 in
theorem gX4_read_X1_bitsOfFrame : GoodIn wsX4_read (wsV RX4 62 RX1 yX1_bitsOfFrame wsX1_bitsOfFrame) := goodIn_app (goodIn_of _ (by decide +kernel)) ggX4_read_X1_bitsOfFrame
set_option maxRecDepth 20000 in
theorem ggX4_read_X1_tickOfBit : GoodIn wsX4_read wsX1_tickOfBit := goodIn_r _ [47, 48, 69, 70, 71, 72, 73] (by decide +kernel) (by decide +kernel)
set_option maxRecDepth 20000 in
theorem gX4_read_X1_tickOfBit : GoodIn wsX4_read (wsV RX4 66 RX1 yX1_tickOfBit wsX1_tickOfBit) := goodIn_app (goodIn_of _ (by decide +kernel)) ggX4_read_X1_tickOfBit
set_option maxRecDepth 20000 in
theorem ggX4_nextStart_X5_nextEdge : GoodIn wsX4_nextStart wsX5_nextEdge := goodIn_r _ [7, 8, 9, 25, 26, 27, 28] (by decide +kernel) (by decide +kernel)
set_option maxRecDepth 20000 in
theorem gX4_nextStart_X5_nextEdge : GoodIn wsX4_nextStart (wsV RX4 69 RX5 yX5_nextEdge wsX5_nextEdge) := goodIn_app (goodIn_of _ (by decide +kernel)) ggX4_nextStart_X5_nextEdge
set_option maxRecDepth 20000 in
theorem ggX4_nextStart_X8_levelAt : GoodIn wsX4_nextStart wsX8_levelAt := goodIn_r _ [14, 15, 16, 29, 30] (by decide +kernel) (by decide +kernel)
set_option maxRecDepth 20000 in
theorem gX4_nextStart_X8_levelAt : GoodIn wsX4_nextStart (wsV RX4 73 RX8 yX8_levelAt wsX8_levelAt) := goodIn_app (goodIn_of _ (by decide +kernel)) ggX4_nextStart_X8_levelAt
set_option maxRecDepth 20000 in
theorem ggX4_readFrame_X1_bitsOfFrame : GoodIn wsX4_readFrame wsX1_bitsOfFrame := goodIn_r _ [13, 14, 15, 16, 53, 54, 55, 56, 57] (by decide +kernel) (by decide +kernel)
set_option maxRecDepth 20000 in
theorem gX4_readFrame_X1_bitsOfFrame : GoodIn wsX4_readFrame (wsV RX4 62 RX1 yX1_bitsOfFrame wsX1_bitsOfFrame) := goodIn_app (goodIn_of _ (by decide +kernel)) ggX4_readFrame_X1_bitsOfFrame
set_option maxRecDepth 20000 in
theorem ggX4_readFrame_X1_tickOfBit : GoodIn wsX4_readFrame wsX1_tickOfBit := goodIn_r _ [20, 21, 53, 54, 55, 56, 57] (by decide +kernel) (by decide +kernel)
set_option maxRecDepth 20000 in
theorem gX4_readFrame_X1_tickOfBit : GoodIn wsX4_readFrame (wsV RX4 66 RX1 yX1_tickOfBit wsX1_tickOfBit) := goodIn_app (goodIn_of _ (by decide +kernel)) ggX4_readFrame_X1_tickOfBit
set_option maxRecDepth 20000 in
theorem ggX4_readFrame_X8_levelAt : GoodIn wsX4_readFrame wsX8_levelAt := goodIn_r _ [26, 27, 28, 58, 59] (by decide +kernel) (by decide +kernel)
set_option maxRecDepth 20000 in
theorem gX4_readFrame_X8_levelAt : GoodIn wsX4_readFrame (wsV RX4 73 RX8 yX8_levelAt wsX8_levelAt) := goodIn_app (goodIn_of _ (by decide +kernel)) ggX4_readFrame_X8_levelAt
set_option maxRecDepth 20000 in
theorem ggX4_readFrame_X8_has : GoodIn wsX4_readFrame wsX8_has := goodIn_r _ [32, 27, 58, 59] (by decide +kernel) (by decide +kernel)
set_option maxRecDepth 20000 in
theorem gX4_readFrame_X8_has : GoodIn wsX4_readFrame (wsV RX4 76 RX8 yX8_has wsX8_has) := goodIn_app (goodIn_of _ (by decide +kernel)) ggX4_readFrame_X8_has
set_option maxRecDepth 20000 in
theorem ggX4_readFrame_X4_failureOfBit : GoodIn wsX4_readFrame wsX4_failureOfBit := goodIn_r _ [36, 53, 54, 55, 56, 57] (by decide +kernel) (by decide +kernel)
set_option maxRecDepth 20000 in
theorem gX4_readFrame_X4_failureOfBit : GoodIn wsX4_readFrame (va_wsS RX4 80 yX4_failureOfBit wsX4_failureOfBit) := goodIn_app (goodIn_of _ (by decide +kernel)) ggX4_readFrame_X4_failureOfBit
set_option maxRecDepth 20000 in
theorem ggX4_readFrame_X5_inset : GoodIn wsX4_readFrame wsX5_inset := goodIn_r _ [41, 42, 43, 44, 60, 61, 62, 63] (by decide +kernel) (by decide +kernel)
set_option maxRecDepth 20000 in
theorem gX4_readFrame_X5_inset : GoodIn wsX4_readFrame (wsV RX4 87 RX5 yX5_inset wsX5_inset) := goodIn_app (goodIn_of _ (by decide +kernel)) ggX4_readFrame_X5_inset
set_option maxRecDepth 20000 in
theorem ggX5_mark_X8_isEdge : GoodIn wsX5_mark wsX8_isEdge := goodIn_r _ [9, 10, 11, 12, 13] (by decide +kernel) (by decide +kernel)
set_option maxRecDepth 20000 in
theorem gX5_mark_X8_isEdge : GoodIn wsX5_mark (wsV RX5 28 RX8 yX8_isEdge wsX8_isEdge) := goodIn_app (goodIn_of _ (by decide +kernel)) ggX5_mark_X8_isEdge
set_option maxRecDepth 20000 in
theorem ggX5_ticksOfRun_X5_nextEdge : GoodIn wsX5_ticksOfRun wsX5_nextEdge := goodIn_r _ [6, 7, 8, 13, 14, 15, 16] (by decide +kernel) (by decide +kernel)
set_option maxRecDepth 20000 in
theorem gX5_ticksOfRun_X5_nextEdge : GoodIn wsX5_ticksOfRun (wsV RX5 38 RX5 yX5_nextEdge wsX5_nextEdge) := goodIn_app (goodIn_of _ (by decide +kernel)) ggX5_ticksOfRun_X5_nextEdge
set_option maxRecDepth 20000 in
theorem ggX5_ticksOfRun_X5_lengthFrom : GoodIn wsX5_ticksOfRun wsX5_lengthFrom := goodIn_r _ [12, 7, 8, 13, 14, 15, 16] (by decide +kernel) (by decide +kernel)
set_option maxRecDepth 20000 in
theorem gX5_ticksOfRun_X5_lengthFrom : GoodIn wsX5_ticksOfRun (wsV RX5 42 RX5 yX5_lengthFrom wsX5_lengthFrom) := goodIn_app (goodIn_of _ (by decide +kernel)) ggX5_ticksOfRun_X5_lengthFrom
set_option maxRecDepth 20000 in
theorem ggX5_offBy_X5_nextEdge : GoodIn wsX5_offBy wsX5_nextEdge := goodIn_r _ [6, 7, 8, 20, 21, 22, 23] (by decide +kernel) (by decide +kernel)
set_option maxRecDepth 20000 in
theorem gX5_offBy_X5_nextEdge : GoodIn wsX5_offBy (wsV RX5 38 RX5 yX5_nextEdge wsX5_nextEdge) := goodIn_app (goodIn_of _ (by decide +kernel)) ggX5_offBy_X5_nextEdge
set_option maxRecDepth 20000 in
theorem ggX5_offBy_X5_lengthFrom : GoodIn wsX5_offBy wsX5_lengthFrom := goodIn_r _ [12, 7, 8, 20, 21, 22, 23] (by decide +kernel) (by decide +kernel)
set_option maxRecDepth 20000 in
theorem gX5_offBy_X5_lengthFrom : GoodIn wsX5_offBy (wsV RX5 42 RX5 yX5_lengthFrom wsX5_lengthFrom) := goodIn_app (goodIn_of _ (by decide +kernel)) ggX5_offBy_X5_lengthFrom
set_option maxRecDepth 20000 in
theorem ggX5_offBy_X5_offOfRun : GoodIn wsX5_offBy wsX5_offOfRun := goodIn_r _ [15, 16, 17, 18, 19] (by decide +kernel) (by decide +kernel)
set_option maxRecDepth 20000 in
theorem gX5_offBy_X5_offOfRun : GoodIn wsX5_offBy (va_wsS RX5 45 yX5_offOfRun wsX5_offOfRun) := goodIn_app (goodIn_of _ (by decide +kernel)) ggX5_offBy_X5_offOfRun
set_option maxRecDepth 20000 in
theorem ggX5_width_X5_offBy : GoodIn wsX5_width wsX5_offBy := goodIn_r _ [5, 6, 7, 8, 9, 4, 10, 11, 12, 13, 14, 15, 16, 17, 18, 19, 20, 21, 22, 23, 24, 25, 26, 27] (by decide +kernel) (by decide +kernel)
set_option maxRecDepth 20000 in
theorem gX5_width_X5_offBy : GoodIn wsX5_width (wsV RX5 48 RX5 yX5_offBy wsX5_offBy) := goodIn_app (goodIn_of _ (by decide +kernel)) ggX5_width_X5_offBy
set_option maxRecDepth 20000 in
theorem ggX6_init_X8_init : GoodIn wsX6_init wsX8_init := goodIn_r _ [11, 12, 2, 3, 13, 14, 15, 16, 17] (by decide +kernel) (by decide +kernel)
set_option maxRecDepth 20000 in
theorem gX6_init_X8_init_n11 : GoodIn wsX6_init (wsX8_init) := ggX6_init_X8_init
set_option maxRecDepth 20000 in
theorem ggX6_isUsed_X6_has : GoodIn wsX6_isUsed wsX6_has := goodIn_r _ [6] (by decide +kernel) (by decide +kernel)
set_option maxRecDepth 20000 in
theorem gX6_isUsed_X6_has : GoodIn wsX6_isUsed (wsV RX6 22 RX6 yX6_has wsX6_has) := goodIn_app (goodIn_of _ (by decide +kernel)) ggX6_isUsed_X6_has
set_option maxRecDepth 20000 in
theorem ggX6_store_X6_has : GoodIn wsX6_store wsX6_has := goodIn_r _ [7] (by decide +kernel) (by decide +kernel)
set_option maxRecDepth 20000 in
theorem gX6_store_X6_has : GoodIn wsX6_store (wsV RX6 22 RX6 yX6_has wsX6_has) := goodIn_app (goodIn_of _ (by decide +kernel)) ggX6_store_X6_has
set_option maxRecDepth 20000 in
theorem ggX6_store_X8_copy : GoodIn wsX6_store wsX8_copy := goodIn_r _ [12, 13, 14, 15, 16, 17, 18, 21, 22] (by decide +kernel) (by decide +kernel)
set_option maxRecDepth 20000 in
theorem gX6_store_X8_copy : GoodIn wsX6_store (wsV RX6 26 RX8 yX8_copy wsX8_copy) := goodIn_app (goodIn_of _ (by decide +kernel)) ggX6_store_X8_copy
set_option maxRecDepth 20000 in
theorem ggX6_restore_X6_isUsed : GoodIn wsX6_restore wsX6_isUsed := goodIn_r _ [6, 7, 8, 9, 10, 5, 11, 23, 24] (by decide +kernel) (by decide +kernel)
set_option maxRecDepth 20000 in
theorem gX6_restore_X6_isUsed : GoodIn wsX6_restore (wsV RX6 30 RX6 yX6_isUsed wsX6_isUsed) := goodIn_app (goodIn_of _ (by decide +kernel)) ggX6_restore_X6_isUsed
set_option maxRecDepth 20000 in
theorem ggX6_restore_X8_copy : GoodIn wsX6_restore wsX8_copy := goodIn_r _ [16, 17, 18, 19, 20, 21, 22, 25, 26] (by decide +kernel) (by decide +kernel)
set_option maxRecDepth 20000 in
theorem gX6_restore_X8_copy : GoodIn wsX6_restore (wsV RX6 26 RX8 yX8_copy wsX8_copy) := goodIn_app (goodIn_of _ (by decide +kernel)) ggX6_restore_X8_copy
set_option maxRecDepth 20000 in
theorem ggX7_add_X7_isFull : GoodIn wsX7_add wsX7_isFull := goodIn_r _ [7, 2, 8, 9] (by decide +kernel) (by decide +kernel)
set_option maxRecDepth 20000 in
theorem gX7_add_X7_isFull : GoodIn wsX7_add (wsV RX7 19 RX7 yX7_isFull wsX7_isFull) := goodIn_app (goodIn_of _ (by decide +kernel)) ggX7_add_X7_isFull
set_option maxRecDepth 20000 in
theorem ggX7_firstFault_X7_signAt : GoodIn wsX7_firstFault wsX7_signAt := goodIn_r _ [6, 1, 7, 20, 21] (by decide +kernel) (by decide +kernel)
set_option maxRecDepth 20000 in
theorem gX7_firstFault_X7_signAt : GoodIn wsX7_firstFault (wsV RX7 23 RX7 yX7_signAt wsX7_signAt) := goodIn_app (goodIn_of _ (by decide +kernel)) ggX7_firstFault_X7_signAt
set_option maxRecDepth 20000 in
theorem ggX7_firstFault_X7_faultOfRun : GoodIn wsX7_firstFault wsX7_faultOfRun := goodIn_r _ [11, 2, 3, 4, 5, 6, 1, 7, 12, 13, 14, 15, 20, 21] (by decide +kernel) (by decide +kernel)
set_option maxRecDepth 20000 in
theorem gX7_firstFault_X7_faultOfRun : GoodIn wsX7_firstFault (wsV RX7 27 RX7 yX7_faultOfRun wsX7_faultOfRun) := goodIn_app (goodIn_of _ (by decide +kernel)) ggX7_firstFault_X7_faultOfRun
set_option maxRecDepth 20000 in
theorem ggX7_firstFault_X7_ticksToldAt : GoodIn wsX7_firstFault wsX7_ticksToldAt := goodIn_r _ [19, 12, 13, 14, 5, 15, 2, 3, 4, 6, 1, 7, 20, 21] (by decide +kernel) (by decide +kernel)
set_option maxRecDepth 20000 in
theorem gX7_firstFault_X7_ticksToldAt : GoodIn wsX7_firstFault (wsV RX7 31 RX7 yX7_ticksToldAt wsX7_ticksToldAt) := goodIn_app (goodIn_of _ (by decide +kernel)) ggX7_firstFault_X7_ticksToldAt
set_option maxRecDepth 20000 in
theorem ggX7_layOn_X7_signAt : GoodIn wsX7_layOn wsX7_signAt := goodIn_r _ [6, 1, 7, 31, 32] (by decide +kernel) (by decide +kernel)
set_option maxRecDepth 20000 in
theorem gX7_layOn_X7_signAt : GoodIn wsX7_layOn (wsV RX7 23 RX7 yX7_signAt wsX7_signAt) := goodIn_app (goodIn_of _ (by decide +kernel)) ggX7_layOn_X7_signAt
set_option maxRecDepth 20000 in
theorem ggX7_layOn_X8_shorten : GoodIn wsX7_layOn wsX8_shorten := goodIn_r _ [12, 13, 14, 15, 16, 17, 33, 34] (by decide +kernel) (by decide +kernel)
set_option maxRecDepth 20000 in
theorem gX7_layOn_X8_shorten : GoodIn wsX7_layOn (wsV RX7 34 RX8 yX8_shorten wsX8_shorten) := goodIn_app (goodIn_of _ (by decide +kernel)) ggX7_layOn_X8_shorten
set_option maxRecDepth 20000 in
theorem ggX7_layOn_X7_ticksToldAt : GoodIn wsX7_layOn wsX7_ticksToldAt := goodIn_r _ [21, 22, 23, 24, 5, 25, 2, 3, 4, 6, 1, 7, 31, 32] (by decide +kernel) (by decide +kernel)
set_option maxRecDepth 20000 in
theorem gX7_layOn_X7_ticksToldAt : GoodIn wsX7_layOn (wsV RX7 31 RX7 yX7_ticksToldAt wsX7_ticksToldAt) := goodIn_app (goodIn_of _ (by decide +kernel)) ggX7_layOn_X7_ticksToldAt
set_option maxRecDepth 20000 in
theorem ggX7_layOn_X8_extend : GoodIn wsX7_layOn wsX8_extend := goodIn_r _ [29, 13, 30, 33, 34] (by decide +kernel) (by decide +kernel)
set_option maxRecDepth 20000 in
theorem gX7_layOn_X8_extend : GoodIn wsX7_layOn (wsV RX7 40 RX8 yX8_extend wsX8_extend) := goodIn_app (goodIn_of _ (by decide +kernel)) ggX7_layOn_X8_extend
set_option maxRecDepth 20000 in
theorem ggX7_faultOfRun_X7_signAt : GoodIn wsX7_faultOfRun wsX7_signAt := goodIn_r _ [5, 6, 7, 12, 13] (by decide +kernel) (by decide +kernel)
set_option maxRecDepth 20000 in
theorem gX7_faultOfRun_X7_signAt : GoodIn wsX7_faultOfRun (wsV RX7 23 RX7 yX7_signAt wsX7_signAt) := goodIn_app (goodIn_of _ (by decide +kernel)) ggX7_faultOfRun_X7_signAt
set_option maxRecDepth 20000 in
theorem ggX7_faultOfRun_X7_figureAt : GoodIn wsX7_faultOfRun wsX7_figureAt := goodIn_r _ [11, 1, 2, 3, 4, 5, 6, 7, 12, 13] (by decide +kernel) (by decide +kernel)
set_option maxRecDepth 20000 in
theorem gX7_faultOfRun_X7_figureAt : GoodIn wsX7_faultOfRun (wsV RX7 44 RX7 yX7_figureAt wsX7_figureAt) := goodIn_app (goodIn_of _ (by decide +kernel)) ggX7_faultOfRun_X7_figureAt
set_option maxRecDepth 20000 in
theorem ggX7_ticksToldAt_X7_figureAt : GoodIn wsX7_ticksToldAt wsX7_figureAt := goodIn_r _ [5, 6, 7, 8, 4, 9, 10, 11, 12, 13] (by decide +kernel) (by decide +kernel)
set_option maxRecDepth 20000 in
theorem gX7_ticksToldAt_X7_figureAt : GoodIn wsX7_ticksToldAt (wsV RX7 44 RX7 yX7_figureAt wsX7_figureAt) := goodIn_app (goodIn_of _ (by decide +kernel)) ggX7_ticksToldAt_X7_figureAt
set_option maxRecDepth 20000 in
theorem ggX7_figureAt_X7_signAt : GoodIn wsX7_figureAt wsX7_signAt := goodIn_r _ [5, 6, 7, 8, 9] (by decide +kernel) (by decide +kernel)
set_option maxRecDepth 20000 in
theorem gX7_figureAt_X7_signAt : GoodIn wsX7_figureAt (wsV RX7 23 RX7 yX7_signAt wsX7_signAt) := goodIn_app (goodIn_of _ (by decide +kernel)) ggX7_figureAt_X7_signAt
set_option maxRecDepth 20000 in
theorem ggX8_extendByLetter_X8_extend : GoodIn wsX8_extendByLetter wsX8_extend := goodIn_r _ [5, 6, 7, 24, 25] (by decide +kernel) (by decide +kernel)
set_option maxRecDepth 20000 in
theorem gX8_extendByLetter_X8_extend : GoodIn wsX8_extendByLetter (wsV RX8 27 RX8 yX8_extend wsX8_extend) := goodIn_app (goodIn_of _ (by decide +kernel)) ggX8_extendByLetter_X8_extend
set_option maxRecDepth 20000 in
theorem ggX8_extendByLetter_X1_levelOf : GoodIn wsX8_extendByLetter wsX1_levelOf := goodIn_r _ [12, 13, 19, 20, 21, 22, 23] (by decide +kernel) (by decide +kernel)
set_option maxRecDepth 20000 in
theorem gX8_extendByLetter_X1_levelOf : GoodIn wsX8_extendByLetter (wsV RX8 34 RX1 yX1_levelOf wsX1_levelOf) := goodIn_app (goodIn_of _ (by decide +kernel)) ggX8_extendByLetter_X1_levelOf
set_option maxRecDepth 20000 in
theorem ggX8_extendByLetter_X1_parityFor : GoodIn wsX8_extendByLetter wsX1_parityFor := goodIn_r _ [17, 18, 19, 20, 21, 22, 23] (by decide +kernel) (by decide +kernel)
set_option maxRecDepth 20000 in
theorem gX8_extendByLetter_X1_parityFor : GoodIn wsX8_extendByLetter (wsV RX8 41 RX1 yX1_parityFor wsX1_parityFor) := goodIn_app (goodIn_of _ (by decide +kernel)) ggX8_extendByLetter_X1_parityFor
set_option maxRecDepth 20000 in
theorem ggX8_turnOver_X8_has : GoodIn wsX8_turnOver wsX8_has := goodIn_r _ [6, 7, 8, 9] (by decide +kernel) (by decide +kernel)
set_option maxRecDepth 20000 in
theorem gX8_turnOver_X8_has : GoodIn wsX8_turnOver (wsV RX8 47 RX8 yX8_has wsX8_has) := goodIn_app (goodIn_of _ (by decide +kernel)) ggX8_turnOver_X8_has
set_option maxRecDepth 20000 in
theorem ggX9_init_X7_init : GoodIn wsX9_init wsX7_init := goodIn_r _ [41, 42, 2, 3, 37, 43, 44, 114, 115] (by decide +kernel) (by decide +kernel)
set_option maxRecDepth 20000 in
theorem gX9_init_X7_init_n9 : GoodIn wsX9_init (wsX7_init) := ggX9_init_X7_init
set_option maxRecDepth 20000 in
theorem ggX9_init_X8_init : GoodIn wsX9_init wsX8_init := goodIn_r _ [46, 47, 2, 3, 37, 48, 49, 127, 128] (by decide +kernel) (by decide +kernel)
set_option maxRecDepth 20000 in
theorem gX9_init_X8_init_n18 : GoodIn wsX9_init (wsX8_init) := ggX9_init_X8_init
set_option maxRecDepth 20000 in
theorem ggX9_init_X6_init : GoodIn wsX9_init wsX6_init := goodIn_r _ [51, 52, 2, 3, 53, 9, 10, 54, 55, 56, 45, 46, 47, 37, 48, 49, 127, 128, 129, 130] (by decide +kernel) (by decide +kernel)
set_option maxRecDepth 20000 in
theorem gX9_init_X6_init_n28 : GoodIn wsX9_init (wsX6_init) := ggX9_init_X6_init
set_option maxRecDepth 20000 in
theorem ggX9_init_X0_init : GoodIn wsX9_init wsX0_init := goodIn_r _ [58, 59, 2, 3, 37, 60, 61, 62, 63, 64, 65, 131, 132, 133, 134, 135] (by decide +kernel) (by decide +kernel)
set_option maxRecDepth 20000 in
theorem gX9_init_X0_init_n35 : GoodIn wsX9_init (wsX0_init) := ggX9_init_X0_init
set_option maxRecDepth 20000 in
theorem ggX9_init_X2_init : GoodIn wsX9_init wsX2_init := goodIn_r _ [67, 68, 2, 3, 37, 69, 70, 71, 136, 137, 138] (by decide +kernel) (by decide +kernel)
set_option maxRecDepth 20000 in
theorem gX9_init_X2_init_n42 : GoodIn wsX9_init (wsX2_init) := ggX9_init_X2_init
set_option maxRecDepth 20000 in
theorem ggX9_init_X1_init : GoodIn wsX9_init wsX1_init := goodIn_r _ [73, 74, 2, 3, 75, 76, 77, 78, 79, 139, 140, 141, 142, 143] (by decide +kernel) (by decide +kernel)
set_option maxRecDepth 20000 in
theorem gX9_init_X1_init_n49 : GoodIn wsX9_init (wsX1_init) := ggX9_init_X1_init
set_option maxRecDepth 20000 in
theorem ggX9_init_X4_init : GoodIn wsX9_init wsX4_init := goodIn_r _ [81, 82, 2, 3, 83, 84, 85, 86, 37, 87, 88, 89, 90, 91, 92, 93, 9, 10, 94, 95, 96, 97, 98, 99, 100, 101, 45, 46, 47, 48, 49, 160, 161, 162, 163, 144, 145, 146, 147, 148, 149, 150, 151, 127, 128] (by decide +kernel) (by decide +kernel)
set_option maxRecDepth 20000 in
theorem gX9_init_X4_init_n56 : GoodIn wsX9_init (wsX4_init) := ggX9_init_X4_init
set_option maxRecDepth 20000 in
theorem ggX9_init_X3_init : GoodIn wsX9_init wsX3_init := goodIn_r _ [103, 104, 2, 3, 105, 26, 27, 106, 37, 107, 108, 109, 110, 111, 112, 113, 72, 73, 74, 75, 76, 77, 78, 79, 139, 140, 141, 142, 143, 152, 153, 154, 155, 156, 157, 158, 159] (by decide +kernel) (by decide +kernel)
set_option maxRecDepth 20000 in
theorem gX9_init_X3_init_n63 : GoodIn wsX9_init (wsX3_init) := ggX9_init_X3_init
set_option maxRecDepth 20000 in
theorem ggX9_write_X9_isLetter : GoodIn wsX9_write wsX9_isLetter := goodIn_r _ [5] (by decide +kernel) (by decide +kernel)
set_option maxRecDepth 20000 in
theorem gX9_write_X9_isLetter : GoodIn wsX9_write (va_wsS RX9 76 yX9_isLetter wsX9_isLetter) := goodIn_app (goodIn_of _ (by decide +kernel)) ggX9_write_X9_isLetter
set_option maxRecDepth 20000 in
theorem ggX9_write_X7_isFull : GoodIn wsX9_write wsX7_isFull := goodIn_r _ [10, 11, 29, 30] (by decide +kernel) (by decide +kernel)
set_option maxRecDepth 20000 in
theorem gX9_write_X7_isFull : GoodIn wsX9_write (wsV RX9 80 RX7 yX7_isFull wsX7_isFull) := goodIn_app (goodIn_of _ (by decide +kernel)) ggX9_write_X7_isFull
set_option maxRecDepth 20000 in
theorem ggX9_write_X7_add : GoodIn wsX9_write wsX7_add := goodIn_r _ [15, 16, 11, 17, 7, 8, 9, 10, 29, 30] (by decide +kernel) (by decide +kernel)
set_option maxRecDepth 20000 in
theorem gX9_write_X7_add : GoodIn wsX9_write (wsV RX9 84 RX7 yX7_add wsX7_add) := goodIn_app (goodIn_of _ (by decide +kernel)) ggX9_write_X7_add
set_option maxRecDepth 20000 in
theorem ggX9_fault_X7_firstFault : GoodIn wsX9_fault wsX7_firstFault := goodIn_r _ [6, 7, 8, 9, 10, 5, 11, 12, 13, 14, 15, 16, 17, 18, 19, 20, 21, 22, 23, 24, 36, 37] (by decide +kernel) (by decide +kernel)
set_option maxRecDepth 20000 in
theorem gX9_fault_X7_firstFault : GoodIn wsX9_fault (wsV RX9 92 RX7 yX7_firstFault wsX7_firstFault) := goodIn_app (goodIn_of _ (by decide +kernel)) ggX9_fault_X7_firstFault
set_option maxRecDepth 20000 in
theorem ggX9_take_X7_firstFault : GoodIn wsX9_take wsX7_firstFault := goodIn_r _ [9, 10, 11, 12, 13, 8, 14, 15, 16, 17, 18, 19, 20, 21, 22, 23, 24, 25, 26, 27, 72, 73] (by decide +kernel) (by decide +kernel)
set_option maxRecDepth 20000 in
theorem gX9_take_X7_firstFault : GoodIn wsX9_take (wsV RX9 92 RX7 yX7_firstFault wsX7_firstFault) := goodIn_app (goodIn_of _ (by decide +kernel)) ggX9_take_X7_firstFault
set_option maxRecDepth 20000 in
theorem ggX9_take_X7_layOn : GoodIn wsX9_take wsX7_layOn := goodIn_r _ [31, 10, 11, 12, 13, 8, 14, 15, 32, 33, 34, 35, 36, 37, 38, 39, 40, 41, 24, 25, 26, 27, 20, 21, 22, 23, 42, 43, 44, 45, 46, 72, 73, 70, 71] (by decide +kernel) (by decide +kernel)
set_option maxRecDepth 20000 in
theorem gX9_take_X7_layOn : GoodIn wsX9_take (wsV RX9 96 RX7 yX7_layOn wsX7_layOn) := goodIn_app (goodIn_of _ (by decide +kernel)) ggX9_take_X7_layOn
set_option maxRecDepth 20000 in
theorem ggX9_take_X0_clear : GoodIn wsX9_take wsX0_clear := goodIn_r _ [51, 52, 74, 75, 76, 77, 78] (by decide +kernel) (by decide +kernel)
set_option maxRecDepth 20000 in
theorem gX9_take_X0_clear : GoodIn wsX9_take (wsV RX9 100 RX0 yX0_clear wsX0_clear) := goodIn_app (goodIn_of _ (by decide +kernel)) ggX9_take_X0_clear
set_option maxRecDepth 20000 in
theorem ggX9_take_X6_clear : GoodIn wsX9_take wsX6_clear := goodIn_r _ [57, 58, 79, 80] (by decide +kernel) (by decide +kernel)
set_option maxRecDepth 20000 in
theorem gX9_take_X6_clear : GoodIn wsX9_take (wsV RX9 103 RX6 yX6_clear wsX6_clear) := goodIn_app (goodIn_of _ (by decide +kernel)) ggX9_take_X6_clear
set_option maxRecDepth 20000 in
theorem ggX9_about_X4_listenTo : GoodIn wsX9_about wsX4_listenTo := goodIn_r _ [11, 12, 13, 14, 15, 16, 17, 18, 19, 20, 21, 22, 23, 24, 25, 26, 27, 28, 29, 184, 185, 186, 187, 188, 189, 190, 191, 182, 183, 210, 211, 212, 213] (by decide +kernel) (by decide +kernel)
set_option maxRecDepth 20000 in
theorem gX9_about_X4_listenTo : GoodIn wsX9_about (wsV RX9 107 RX4 yX4_listenTo wsX4_listenTo) := goodIn_app (goodIn_of _ (by decide +kernel)) ggX9_about_X4_listenTo
set_option maxRecDepth 20000 in
theorem ggX9_about_X5_edges : GoodIn wsX9_about wsX5_edges := goodIn_r _ [33, 20, 34, 35, 36, 37, 210, 211, 212, 213] (by decide +kernel) (by decide +kernel)
set_option maxRecDepth 20000 in
theorem gX9_about_X5_edges : GoodIn wsX9_about (wsV RX9 114 RX5 yX5_edges wsX5_edges) := goodIn_app (goodIn_of _ (by decide +kernel)) ggX9_about_X5_edges
set_option maxRecDepth 20000 in
theorem ggX9_about_X3_rank : GoodIn wsX9_about wsX3_rank := goodIn_r _ [42, 43, 44, 45, 46, 47, 48, 8, 9, 10, 11, 12, 13, 14, 15, 16, 17, 18, 19, 20, 21, 22, 23, 24, 25, 26, 27, 28, 29, 49, 50, 51, 52, 53, 54, 55, 56, 57, 58, 59, 60, 61, 62, 63, 64, 65, 66, 67, 68, 69, 70, 71, 72, 73, 74, 75, 76, 77, 78, 79, 80, 81, 82, 83, 84, 85, 86, 36, 87, 88, 89, 90, 91, 92, 93, 94, 95, 96, 97, 98, 99, 100, 101, 102, 103, 104, 105, 106, 107, 108, 109, 110, 111, 112, 113, 41, 114, 115, 116, 117, 118, 119, 120, 121, 122, 123, 124, 125, 126, 127, 192, 193, 194, 195, 196, 197, 198, 199, 184, 185, 186, 187, 188, 189, 190, 191, 182, 183, 210, 211, 212, 213, 214, 215, 216, 217, 218] (by decide +kernel) (by decide +kernel)
set_option maxRecDepth 20000 in
theorem gX9_about_X3_rank : GoodIn wsX9_about (wsV RX9 119 RX3 yX3_rank wsX3_rank) := goodIn_app (goodIn_of _ (by decide +kernel)) ggX9_about_X3_rank
set_option maxRecDepth 20000 in
theorem ggX9_about_X3_countAlike : GoodIn wsX9_about wsX3_countAlike := goodIn_r _ [131, 47, 49, 50, 51, 52, 53, 54, 55, 56, 57, 58, 59, 60, 61, 10, 62, 63, 64, 65, 66, 67, 68, 69, 70, 71, 72, 13, 12, 73, 74, 75, 17, 76, 19, 22, 77, 78, 79, 26, 80, 28, 29, 81, 82, 83, 84, 85, 86, 36, 87, 88, 89, 90, 91, 92, 93, 94, 95, 96, 97, 98, 99, 100, 101, 102, 103, 104, 105, 106, 21, 107, 108, 109, 110, 132, 133, 134, 41, 135, 46, 119, 192, 193, 194, 195, 196, 197, 198, 199, 214, 215, 216, 217, 218, 184, 185, 186, 187, 188, 189, 190, 191, 210, 211, 212, 213, 182, 183] (by decide +kernel) (by decide +kernel)
set_option maxRecDepth 20000 in
theorem gX9_about_X3_countAlike : GoodIn wsX9_about (wsV RX9 129 RX3 yX3_countAlike wsX3_countAlike) := goodIn_app (goodIn_of _ (by decide +kernel)) ggX9_about_X3_countAlike
set_option maxRecDepth 20000 in
theorem ggX9_about_X5_width : GoodIn wsX9_about wsX5_width := goodIn_r _ [139, 140, 141, 142, 17, 143, 20, 144, 74, 75, 76, 19, 22, 145, 146, 147, 148, 149, 150, 151, 152, 86, 36, 87, 210, 211, 212, 213] (by decide +kernel) (by decide +kernel)
set_option maxRecDepth 20000 in
theorem gX9_about_X5_width : GoodIn wsX9_about (wsV RX9 133 RX5 yX5_width wsX5_width) := goodIn_app (goodIn_of _ (by decide +kernel)) ggX9_about_X5_width
set_option maxRecDepth 20000 in
theorem ggX9_about_X3_sift : GoodIn wsX9_about wsX3_sift := goodIn_r _ [156, 157, 158, 47, 48, 8, 9, 10, 11, 12, 13, 14, 15, 16, 17, 18, 19, 20, 21, 22, 23, 24, 25, 26, 27, 28, 29, 49, 50, 51, 52, 53, 54, 55, 56, 57, 58, 59, 60, 61, 62, 63, 64, 65, 66, 67, 68, 69, 70, 71, 72, 73, 74, 75, 76, 77, 78, 79, 80, 81, 82, 83, 84, 85, 86, 36, 87, 88, 89, 90, 91, 92, 93, 94, 95, 96, 97, 98, 99, 100, 101, 102, 103, 104, 105, 106, 107, 108, 109, 110, 159, 160, 161, 162, 163, 164, 165, 166, 167, 168, 169, 170, 124, 125, 126, 127, 192, 193, 194, 195, 196, 197, 198, 199, 184, 185, 186, 187, 188, 189, 190, 191, 182, 183, 210, 211, 212, 213, 214, 215, 216, 217, 218, 205, 206, 207] (by decide +kernel) (by decide +kernel)
set_option maxRecDepth 20000 in
theorem gX9_about_X3_sift : GoodIn wsX9_about (wsV RX9 136 RX3 yX3_sift wsX3_sift) := goodIn_app (goodIn_of _ (by decide +kernel)) ggX9_about_X3_sift
set_option maxRecDepth 20000 in
theorem ggX9_level_X8_has : GoodIn wsX9_level wsX8_has := goodIn_r _ [6, 7, 24, 25] (by decide +kernel) (by decide +kernel)
set_option maxRecDepth 20000 in
theorem gX9_level_X8_has : GoodIn wsX9_level (wsV RX9 150 RX8 yX8_has wsX8_has) := goodIn_app (goodIn_of _ (by decide +kernel)) ggX9_level_X8_has
set_option maxRecDepth 20000 in
theorem ggX9_level_X8_levelAt : GoodIn wsX9_level wsX8_levelAt := goodIn_r _ [11, 7, 12, 24, 25] (by decide +kernel) (by decide +kernel)
set_option maxRecDepth 20000 in
theorem gX9_level_X8_levelAt : GoodIn wsX9_level (wsV RX9 153 RX8 yX8_levelAt wsX8_levelAt) := goodIn_app (goodIn_of _ (by decide +kernel)) ggX9_level_X8_levelAt
set_option maxRecDepth 20000 in
theorem ggX9_run_X4_listenTo : GoodIn wsX9_run wsX4_listenTo := goodIn_r _ [7, 8, 9, 10, 11, 12, 13, 14, 15, 16, 17, 18, 19, 20, 21, 22, 23, 24, 25, 49, 50, 51, 52, 53, 54, 55, 56, 57, 58, 59, 60, 61, 62] (by decide +kernel) (by decide +kernel)
set_option maxRecDepth 20000 in
theorem gX9_run_X4_listenTo : GoodIn wsX9_run (wsV RX9 107 RX4 yX4_listenTo wsX4_listenTo) := goodIn_app (goodIn_of _ (by decide +kernel)) ggX9_run_X4_listenTo
set_option maxRecDepth 20000 in
theorem ggX9_run_X5_ticksOfRun : GoodIn wsX9_run wsX5_ticksOfRun := goodIn_r _ [29, 16, 30, 31, 32, 13, 33, 15, 18, 34, 35, 36, 37, 59, 60, 61, 62] (by decide +kernel) (by decide +kernel)
set_option maxRecDepth 20000 in
theorem gX9_run_X5_ticksOfRun : GoodIn wsX9_run (wsV RX9 157 RX5 yX5_ticksOfRun wsX5_ticksOfRun) := goodIn_app (goodIn_of _ (by decide +kernel)) ggX9_run_X5_ticksOfRun
set_option maxRecDepth 20000 in
theorem ggX9_off_X4_listenTo : GoodIn wsX9_off wsX4_listenTo := goodIn_r _ [7, 8, 9, 10, 11, 12, 13, 14, 15, 16, 17, 18, 19, 20, 21, 22, 23, 24, 25, 56, 57, 58, 59, 60, 61, 62, 63, 64, 65, 66, 67, 68, 69] (by decide +kernel) (by decide +kernel)
set_option maxRecDepth 20000 in
theorem gX9_off_X4_listenTo : GoodIn wsX9_off (wsV RX9 107 RX4 yX4_listenTo wsX4_listenTo) := goodIn_app (goodIn_of _ (by decide +kernel)) ggX9_off_X4_listenTo
set_option maxRecDepth 20000 in
theorem ggX9_off_X5_offBy : GoodIn wsX9_off wsX5_offBy := goodIn_r _ [29, 16, 30, 31, 32, 13, 33, 15, 18, 34, 35, 36, 37, 38, 39, 40, 41, 42, 43, 44, 66, 67, 68, 69] (by decide +kernel) (by decide +kernel)
set_option maxRecDepth 20000 in
theorem gX9_off_X5_offBy : GoodIn wsX9_off (wsV RX9 160 RX5 yX5_offBy wsX5_offBy) := goodIn_app (goodIn_of _ (by decide +kernel)) ggX9_off_X5_offBy
set_option maxRecDepth 20000 in
theorem ggX9_hear_X9_isLevel : GoodIn wsX9_hear wsX9_isLevel := goodIn_r _ [6] (by decide +kernel) (by decide +kernel)
set_option maxRecDepth 20000 in
theorem gX9_hear_X9_isLevel : GoodIn wsX9_hear (va_wsS RX9 163 yX9_isLevel wsX9_isLevel) := goodIn_app (goodIn_of _ (by decide +kernel)) ggX9_hear_X9_isLevel
set_option maxRecDepth 20000 in
theorem ggX9_hear_X8_hasPlaceFor : GoodIn wsX9_hear wsX8_hasPlaceFor := goodIn_r _ [11, 12, 42, 43] (by decide +kernel) (by decide +kernel)
set_option maxRecDepth 20000 in
theorem gX9_hear_X8_hasPlaceFor : GoodIn wsX9_hear (wsV RX9 166 RX8 yX8_hasPlaceFor wsX8_hasPlaceFor) := goodIn_app (goodIn_of _ (by decide +kernel)) ggX9_hear_X8_hasPlaceFor
set_option maxRecDepth 20000 in
theorem ggX9_hear_X8_extend : GoodIn wsX9_hear wsX8_extend := goodIn_r _ [16, 12, 17, 42, 43] (by decide +kernel) (by decide +kernel)
set_option maxRecDepth 20000 in
theorem gX9_hear_X8_extend : GoodIn wsX9_hear (wsV RX9 169 RX8 yX8_extend wsX8_extend) := goodIn_app (goodIn_of _ (by decide +kernel)) ggX9_hear_X8_extend
set_option maxRecDepth 20000 in
theorem ggX9_hear_X0_noteGrown : GoodIn wsX9_hear wsX0_noteGrown := goodIn_r _ [22, 23, 24, 25, 21, 26, 27, 28, 29, 30, 44, 45, 46, 47, 48] (by decide +kernel) (by decide +kernel)
set_option maxRecDepth 20000 in
theorem gX9_hear_X0_noteGrown : GoodIn wsX9_hear (wsV RX9 173 RX0 yX0_noteGrown wsX0_noteGrown) := goodIn_app (goodIn_of _ (by decide +kernel)) ggX9_hear_X0_noteGrown
set_option maxRecDepth 20000 in
theorem ggX9_send_X1_isToldBy : GoodIn wsX9_send wsX1_isToldBy := goodIn_r _ [8, 9, 10, 11, 12, 13, 75, 76, 77, 78, 79] (by decide +kernel) (by decide +kernel)
set_option maxRecDepth 20000 in
theorem gX9_send_X1_isToldBy : GoodIn wsX9_send (wsV RX9 176 RX1 yX1_isToldBy wsX1_isToldBy) := goodIn_app (goodIn_of _ (by decide +kernel)) ggX9_send_X1_isToldBy
set_option maxRecDepth 20000 in
theorem ggX9_send_X9_isLetter : GoodIn wsX9_send wsX9_isLetter := goodIn_r _ [17] (by decide +kernel) (by decide +kernel)
set_option maxRecDepth 20000 in
theorem gX9_send_X9_isLetter : GoodIn wsX9_send (va_wsS RX9 76 yX9_isLetter wsX9_isLetter) := goodIn_app (goodIn_of _ (by decide +kernel)) ggX9_send_X9_isLetter
set_option maxRecDepth 20000 in
theorem ggX9_send_X1_ticksOfLetter : GoodIn wsX9_send wsX1_ticksOfLetter := goodIn_r _ [21, 9, 22, 23, 24, 7, 25, 10, 11, 12, 75, 76, 77, 78, 79] (by decide +kernel) (by decide +kernel)
set_option maxRecDepth 20000 in
theorem gX9_send_X1_ticksOfLetter : GoodIn wsX9_send (wsV RX9 179 RX1 yX1_ticksOfLetter wsX1_ticksOfLetter) := goodIn_app (goodIn_of _ (by decide +kernel)) ggX9_send_X1_ticksOfLetter
set_option maxRecDepth 20000 in
theorem ggX9_send_X8_hasPlaceFor : GoodIn wsX9_send wsX8_hasPlaceFor := goodIn_r _ [30, 31, 73, 74] (by decide +kernel) (by decide +kernel)
set_option maxRecDepth 20000 in
theorem gX9_send_X8_hasPlaceFor : GoodIn wsX9_send (wsV RX9 166 RX8 yX8_hasPlaceFor wsX8_hasPlaceFor) := goodIn_app (goodIn_of _ (by decide +kernel)) ggX9_send_X8_hasPlaceFor
set_option maxRecDepth 20000 in
theorem ggX9_send_X8_extendByLetter : GoodIn wsX9_send wsX8_extendByLetter := goodIn_r _ [35, 36, 37, 38, 29, 39, 31, 40, 41, 42, 43, 7, 44, 13, 45, 46, 47, 48, 11, 75, 76, 77, 78, 79, 73, 74] (by decide +kernel) (by decide +kernel)
set_option maxRecDepth 20000 in
theorem gX9_send_X8_extendByLetter : GoodIn wsX9_send (wsV RX9 182 RX8 yX8_extendByLetter wsX8_extendByLetter) := goodIn_app (goodIn_of _ (by decide +kernel)) ggX9_send_X8_extendByLetter
set_option maxRecDepth 20000 in
theorem ggX9_send_X0_noteGrown : GoodIn wsX9_send wsX0_noteGrown := goodIn_r _ [53, 54, 55, 56, 52, 57, 58, 59, 60, 61, 80, 81, 82, 83, 84] (by decide +kernel) (by decide +kernel)
set_option maxRecDepth 20000 in
theorem gX9_send_X0_noteGrown : GoodIn wsX9_send (wsV RX9 173 RX0 yX0_noteGrown wsX0_noteGrown) := goodIn_app (goodIn_of _ (by decide +kernel)) ggX9_send_X0_noteGrown
set_option maxRecDepth 20000 in
theorem ggX9_flip_X8_has : GoodIn wsX9_flip wsX8_has := goodIn_r _ [7, 8, 43, 44] (by decide +kernel) (by decide +kernel)
set_option maxRecDepth 20000 in
theorem gX9_flip_X8_has : GoodIn wsX9_flip (wsV RX9 150 RX8 yX8_has wsX8_has) := goodIn_app (goodIn_of _ (by decide +kernel)) ggX9_flip_X8_has
set_option maxRecDepth 20000 in
theorem ggX9_flip_X8_turnOver : GoodIn wsX9_flip wsX8_turnOver := goodIn_r _ [12, 13, 14, 4, 5, 6, 7, 8, 43, 44] (by decide +kernel) (by decide +kernel)
set_option maxRecDepth 20000 in
theorem gX9_flip_X8_turnOver : GoodIn wsX9_flip (wsV RX9 186 RX8 yX8_turnOver wsX8_turnOver) := goodIn_app (goodIn_of _ (by decide +kernel)) ggX9_flip_X8_turnOver
set_option maxRecDepth 20000 in
theorem ggX9_flip_X0_noteFlipped : GoodIn wsX9_flip wsX0_noteFlipped := goodIn_r _ [19, 20, 21, 22, 18, 23, 24, 25, 26, 27, 45, 46, 47, 48, 49] (by decide +kernel) (by decide +kernel)
set_option maxRecDepth 20000 in
theorem gX9_flip_X0_noteFlipped : GoodIn wsX9_flip (wsV RX9 189 RX0 yX0_noteFlipped wsX0_noteFlipped) := goodIn_app (goodIn_of _ (by decide +kernel)) ggX9_flip_X0_noteFlipped
set_option maxRecDepth 20000 in
theorem ggX9_flip_X8_levelAt : GoodIn wsX9_flip wsX8_levelAt := goodIn_r _ [31, 8, 13, 43, 44] (by decide +kernel) (by decide +kernel)
set_option maxRecDepth 20000 in
theorem gX9_flip_X8_levelAt : GoodIn wsX9_flip (wsV RX9 153 RX8 yX8_levelAt wsX8_levelAt) := goodIn_app (goodIn_of _ (by decide +kernel)) ggX9_flip_X8_levelAt
set_option maxRecDepth 20000 in
theorem ggX9_cut_X0_noteCut : GoodIn wsX9_cut wsX0_noteCut := goodIn_r _ [7, 8, 9, 10, 11, 6, 12, 13, 14, 15, 16, 17, 18, 19, 20, 21, 22, 23, 45, 46, 47, 48, 49, 43, 44] (by decide +kernel) (by decide +kernel)
set_option maxRecDepth 20000 in
theorem gX9_cut_X0_noteCut : GoodIn wsX9_cut (wsV RX9 192 RX0 yX0_noteCut wsX0_noteCut) := goodIn_app (goodIn_of _ (by decide +kernel)) ggX9_cut_X0_noteCut
set_option maxRecDepth 20000 in
theorem ggX9_cut_X8_shorten : GoodIn wsX9_cut wsX8_shorten := goodIn_r _ [27, 22, 28, 29, 30, 31, 43, 44] (by decide +kernel) (by decide +kernel)
set_option maxRecDepth 20000 in
theorem gX9_cut_X8_shorten : GoodIn wsX9_cut (wsV RX9 196 RX8 yX8_shorten wsX8_shorten) := goodIn_app (goodIn_of _ (by decide +kernel)) ggX9_cut_X8_shorten
set_option maxRecDepth 20000 in
theorem ggX9_undo_X0_takeBackLast : GoodIn wsX9_undo wsX0_takeBackLast := goodIn_r _ [7, 8, 9, 10, 11, 12, 13, 14, 15, 16, 17, 18, 19, 20, 21, 22, 23, 24, 25, 26, 27, 28, 29, 30, 31, 32, 33, 6, 34, 35, 36, 37, 38, 39, 51, 52, 53, 54, 55, 56, 57] (by decide +kernel) (by decide +kernel)
set_option maxRecDepth 20000 in
theorem gX9_undo_X0_takeBackLast : GoodIn wsX9_undo (wsV RX9 199 RX0 yX0_takeBackLast wsX0_takeBackLast) := goodIn_app (goodIn_of _ (by decide +kernel)) ggX9_undo_X0_takeBackLast
set_option maxRecDepth 20000 in
theorem ggX9_guess_X1_isToldBy : GoodIn wsX9_guess wsX1_isToldBy := goodIn_r _ [8, 9, 10, 11, 12, 13, 109, 110, 111, 112, 113] (by decide +kernel) (by decide +kernel)
set_option maxRecDepth 20000 in
theorem gX9_guess_X1_isToldBy : GoodIn wsX9_guess (wsV RX9 176 RX1 yX1_isToldBy wsX1_isToldBy) := goodIn_app (goodIn_of _ (by decide +kernel)) ggX9_guess_X1_isToldBy
set_option maxRecDepth 20000 in
theorem ggX9_guess_X4_listenTo : GoodIn wsX9_guess wsX4_listenTo := goodIn_r _ [18, 19, 20, 21, 22, 23, 24, 25, 26, 27, 28, 29, 30, 31, 32, 33, 34, 35, 36, 101, 102, 103, 104, 105, 106, 107, 108, 114, 115, 116, 117, 118, 119] (by decide +kernel) (by decide +kernel)
set_option maxRecDepth 20000 in
theorem gX9_guess_X4_listenTo : GoodIn wsX9_guess (wsV RX9 107 RX4 yX4_listenTo wsX4_listenTo) := goodIn_app (goodIn_of _ (by decide +kernel)) ggX9_guess_X4_listenTo
set_option maxRecDepth 20000 in
theorem ggX9_guess_X4_read : GoodIn wsX9_guess wsX4_read := goodIn_r _ [40, 41, 42, 43, 44, 45, 46, 47, 48, 49, 17, 50, 20, 19, 51, 52, 53, 24, 54, 26, 29, 55, 56, 57, 33, 58, 35, 36, 59, 60, 61, 62, 63, 64, 65, 66, 67, 68, 69, 7, 70, 10, 11, 12, 71, 72, 73, 74, 9, 75, 76, 77, 78, 79, 80, 81, 82, 83, 84, 85, 28, 101, 102, 103, 104, 105, 106, 107, 108, 109, 110, 111, 112, 113, 116, 117, 118, 119, 114, 115] (by decide +kernel) (by decide +kernel)
set_option maxRecDepth 20000 in
theorem gX9_guess_X4_read : GoodIn wsX9_guess (wsV RX9 202 RX4 yX4_read wsX4_read) := goodIn_app (goodIn_of _ (by decide +kernel)) ggX9_guess_X4_read
set_option maxRecDepth 20000 in
theorem ggX9_guess_X4_fits : GoodIn wsX9_guess wsX4_fits := goodIn_r _ [89, 42, 41, 101, 102, 103, 104, 105, 106, 107, 108] (by decide +kernel) (by decide +kernel)
set_option maxRecDepth 20000 in
theorem gX9_guess_X4_fits : GoodIn wsX9_guess (wsV RX9 209 RX4 yX4_fits wsX4_fits) := goodIn_app (goodIn_of _ (by decide +kernel)) ggX9_guess_X4_fits
set_option maxRecDepth 20000 in
theorem ggX9_letter_X1_isToldBy : GoodIn wsX9_letter wsX1_isToldBy := goodIn_r _ [8, 9, 10, 11, 12, 13, 105, 106, 107, 108, 109] (by decide +kernel) (by decide +kernel)
set_option maxRecDepth 20000 in
theorem gX9_letter_X1_isToldBy : GoodIn wsX9_letter (wsV RX9 176 RX1 yX1_isToldBy wsX1_isToldBy) := goodIn_app (goodIn_of _ (by decide +kernel)) ggX9_letter_X1_isToldBy
set_option maxRecDepth 20000 in
theorem ggX9_letter_X4_listenTo : GoodIn wsX9_letter wsX4_listenTo := goodIn_r _ [18, 19, 20, 21, 22, 23, 24, 25, 26, 27, 28, 29, 30, 31, 32, 33, 34, 35, 36, 110, 111, 112, 113, 114, 115, 116, 117, 118, 119, 120, 121, 122, 123] (by decide +kernel) (by decide +kernel)
set_option maxRecDepth 20000 in
theorem gX9_letter_X4_listenTo : GoodIn wsX9_letter (wsV RX9 107 RX4 yX4_listenTo wsX4_listenTo) := goodIn_app (goodIn_of _ (by decide +kernel)) ggX9_letter_X4_listenTo
set_option maxRecDepth 20000 in
theorem ggX9_letter_X4_read : GoodIn wsX9_letter wsX4_read := goodIn_r _ [40, 41, 42, 43, 44, 45, 46, 47, 48, 49, 17, 50, 20, 19, 51, 52, 53, 24, 54, 26, 29, 55, 56, 57, 33, 58, 35, 36, 59, 60, 61, 62, 63, 64, 65, 66, 67, 68, 69, 7, 70, 10, 11, 12, 71, 72, 73, 74, 9, 75, 76, 77, 78, 79, 80, 81, 82, 83, 84, 85, 28, 110, 111, 112, 113, 114, 115, 116, 117, 105, 106, 107, 108, 109, 120, 121, 122, 123, 118, 119] (by decide +kernel) (by decide +kernel)
set_option maxRecDepth 20000 in
theorem gX9_letter_X4_read : GoodIn wsX9_letter (wsV RX9 202 RX4 yX4_read wsX4_read) := goodIn_app (goodIn_of _ (by decide +kernel)) ggX9_letter_X4_read
set_option maxRecDepth 20000 in
theorem ggX9_letter_X4_startAt : GoodIn wsX9_letter wsX4_startAt := goodIn_r _ [89, 41, 46, 110, 111, 112, 113, 114, 115, 116, 117] (by decide +kernel) (by decide +kernel)
set_option maxRecDepth 20000 in
theorem gX9_letter_X4_startAt : GoodIn wsX9_letter (wsV RX9 220 RX4 yX4_startAt wsX4_startAt) := goodIn_app (goodIn_of _ (by decide +kernel)) ggX9_letter_X4_startAt
set_option maxRecDepth 20000 in
theorem ggX9_letter_X4_letterAt : GoodIn wsX9_letter wsX4_letterAt := goodIn_r _ [93, 41, 45, 110, 111, 112, 113, 114, 115, 116, 117] (by decide +kernel) (by decide +kernel)
set_option maxRecDepth 20000 in
theorem gX9_letter_X4_letterAt : GoodIn wsX9_letter (wsV RX9 223 RX4 yX4_letterAt wsX4_letterAt) := goodIn_app (goodIn_of _ (by decide +kernel)) ggX9_letter_X4_letterAt
set_option maxRecDepth 20000 in
theorem ggX9_judge_X9_withoutLastDoings : GoodIn wsX9_judge wsX9_withoutLastDoings := goodIn_r _ [7, 3] (by decide +kernel) (by decide +kernel)
set_option maxRecDepth 20000 in
theorem gX9_judge_X9_withoutLastDoings : GoodIn wsX9_judge (va_wsS RX9 226 yX9_withoutLastDoings wsX9_withoutLastDoings) := goodIn_app (goodIn_of _ (by decide +kernel)) ggX9_judge_X9_withoutLastDoings
set_option maxRecDepth 20000 in
theorem ggX9_judge_X8_copy : GoodIn wsX9_judge wsX8_copy := goodIn_r _ [12, 13, 14, 15, 16, 17, 18, 189, 190] (by decide +kernel) (by decide +kernel)
set_option maxRecDepth 20000 in
theorem gX9_judge_X8_copy : GoodIn wsX9_judge (wsV RX9 230 RX8 yX8_copy wsX8_copy) := goodIn_app (goodIn_of _ (by decide +kernel)) ggX9_judge_X8_copy
set_option maxRecDepth 20000 in
theorem ggX9_judge_X9_isSo : GoodIn wsX9_judge wsX9_isSo := goodIn_r _ [22, 23, 1, 24, 25, 26, 27, 6, 28, 29, 30, 31, 32, 33, 34, 11, 35, 13, 36, 37, 38, 39, 14, 40, 41, 42, 43, 44, 45, 46, 47, 48, 49, 50, 51, 52, 53, 54, 55, 56, 57, 58, 59, 60, 61, 62, 63, 64, 65, 66, 67, 68, 69, 70, 71, 72, 73, 74, 75, 76, 77, 78, 79, 80, 81, 82, 83, 84, 85, 86, 87, 88, 89, 90, 91, 92, 93, 94, 95, 96, 97, 98, 99, 100, 101, 102, 103, 104, 105, 106, 107, 108, 109, 110, 111, 112, 113, 114, 115, 116, 117, 118, 119, 120, 121, 122, 123, 124, 125, 126, 127, 128, 129, 130, 131, 132, 133, 134, 135, 136, 137, 138, 139, 140, 141, 142, 143, 144, 145, 146, 147, 148, 149, 150, 151, 152, 153, 154, 155, 156, 157, 158, 159, 160, 161, 162, 163, 164, 165, 166, 167, 168, 169, 170, 171, 172, 173, 16, 17, 18, 174, 175, 176, 177, 178, 179, 180, 181, 182, 183, 184, 185, 186, 187, 188, 191, 192, 193, 194, 195, 196, 197, 198, 199, 200, 201, 202, 203, 204, 205, 206, 189, 190, 207, 208, 209, 210, 211, 212, 213, 214, 215] (by decide +kernel) (by decide +kernel)
set_option maxRecDepth 20000 in
theorem gX9_judge_X9_isSo : GoodIn wsX9_judge (wsV RX9 235 RX9 yX9_isSo wsX9_isSo) := goodIn_app (goodIn_of _ (by decide +kernel)) ggX9_judge_X9_isSo
set_option maxRecDepth 20000 in
theorem ggX9_know_X9_isLetter : GoodIn wsX9_know wsX9_isLetter := goodIn_r _ [5] (by decide +kernel) (by decide +kernel)
set_option maxRecDepth 20000 in
theorem gX9_know_X9_isLetter : GoodIn wsX9_know (va_wsS RX9 76 yX9_isLetter wsX9_isLetter) := goodIn_app (goodIn_of _ (by decide +kernel)) ggX9_know_X9_isLetter
set_option maxRecDepth 20000 in
theorem ggX9_know_X2_isFull : GoodIn wsX9_know wsX2_isFull := goodIn_r _ [10, 11, 30, 31, 32] (by decide +kernel) (by decide +kernel)
set_option maxRecDepth 20000 in
theorem gX9_know_X2_isFull : GoodIn wsX9_know (wsV RX9 239 RX2 yX2_isFull wsX2_isFull) := goodIn_app (goodIn_of _ (by decide +kernel)) ggX9_know_X2_isFull
set_option maxRecDepth 20000 in
theorem ggX9_know_X2_add : GoodIn wsX9_know wsX2_add := goodIn_r _ [15, 16, 11, 17, 18, 7, 8, 9, 10, 30, 31, 32] (by decide +kernel) (by decide +kernel)
set_option maxRecDepth 20000 in
theorem gX9_know_X2_add : GoodIn wsX9_know (wsV RX9 240 RX2 yX2_add wsX2_add) := goodIn_app (goodIn_of _ (by decide +kernel)) ggX9_know_X2_add
set_option maxRecDepth 20000 in
theorem ggX9_share_X3_sixtiethsRuledOut : GoodIn wsX9_share wsX3_sixtiethsRuledOut := goodIn_r _ [9, 10, 11, 12, 13, 14, 15, 16, 17, 18, 19, 20, 21, 22, 23, 24, 25, 26, 27, 28, 29, 30, 31, 32, 33, 34, 35, 36, 37, 38, 39, 40, 41, 42, 43, 44, 45, 46, 47, 48, 49, 50, 51, 52, 53, 54, 55, 56, 57, 58, 59, 60, 61, 62, 63, 64, 65, 66, 67, 68, 69, 70, 71, 72, 73, 74, 75, 76, 77, 78, 79, 80, 81, 82, 83, 84, 85, 86, 87, 88, 89, 90, 91, 92, 93, 94, 95, 96, 97, 98, 99, 100, 101, 102, 103, 104, 105, 106, 107, 108, 109, 110, 111, 112, 113, 114, 115, 137, 138, 139, 140, 141, 142, 143, 144, 145, 146, 147, 148, 149, 150, 151, 152, 153, 154, 155, 156, 157, 158, 159, 160, 161, 162, 163, 134, 135, 136] (by decide +kernel) (by decide +kernel)
set_option maxRecDepth 20000 in
theorem gX9_share_X3_sixtiethsRuledOut : GoodIn wsX9_share (wsV RX9 242 RX3 yX3_sixtiethsRuledOut wsX3_sixtiethsRuledOut) := goodIn_app (goodIn_of _ (by decide +kernel)) ggX9_share_X3_sixtiethsRuledOut
set_option maxRecDepth 20000 in
theorem ggX9_share_X9_inLeastTerms : GoodIn wsX9_share wsX9_inLeastTerms := goodIn_r _ [119, 120, 121, 118, 122] (by decide +kernel) (by decide +kernel)
set_option maxRecDepth 20000 in
theorem gX9_share_X9_inLeastTerms : GoodIn wsX9_share (va_wsS RX9 246 yX9_inLeastTerms wsX9_inLeastTerms) := goodIn_app (goodIn_of _ (by decide +kernel)) ggX9_share_X9_inLeastTerms
set_option maxRecDepth 20000 in
theorem ggX9_chance_X1_isToldBy : GoodIn wsX9_chance wsX1_isToldBy := goodIn_r _ [6, 7, 8, 9, 10, 11, 135, 136, 137, 138, 139] (by decide +kernel) (by decide +kernel)
set_option maxRecDepth 20000 in
theorem gX9_chance_X1_isToldBy : GoodIn wsX9_chance (wsV RX9 176 RX1 yX1_isToldBy wsX1_isToldBy) := goodIn_app (goodIn_of _ (by decide +kernel)) ggX9_chance_X1_isToldBy
set_option maxRecDepth 20000 in
theorem ggX9_chance_X9_findShakyTicks : GoodIn wsX9_chance wsX9_findShakyTicks := goodIn_r _ [16, 17, 18, 19, 20, 21, 22, 23, 24, 25, 124, 125, 126, 127, 128, 129, 130, 131, 132, 133, 134, 140, 141] (by decide +kernel) (by decide +kernel)
set_option maxRecDepth 20000 in
theorem gX9_chance_X9_findShakyTicks : GoodIn wsX9_chance (wsV RX9 250 RX9 yX9_findShakyTicks wsX9_findShakyTicks) := goodIn_app (goodIn_of _ (by decide +kernel)) ggX9_chance_X9_findShakyTicks
set_option maxRecDepth 20000 in
theorem ggX9_chance_X9_fitsWithFlips : GoodIn wsX9_chance wsX9_fitsWithFlips := goodIn_r _ [29, 30, 17, 18, 31, 1, 32, 33, 34, 22, 35, 24, 25, 36, 37, 38, 39, 40, 41, 42, 43, 44, 45, 46, 47, 48, 49, 50, 51, 52, 53, 54, 55, 56, 57, 58, 59, 60, 61, 62, 63, 64, 20, 21, 23, 65, 66, 67, 68, 69, 70, 71, 72, 73, 74, 75, 76, 77, 78, 79, 80, 81, 82, 83, 84, 85, 86, 87, 88, 89, 90, 91, 92, 93, 94, 95, 96, 97, 5, 98, 8, 9, 10, 99, 100, 101, 102, 7, 103, 104, 105, 106, 107, 108, 109, 110, 111, 112, 113, 114, 124, 125, 126, 127, 128, 129, 130, 131, 132, 133, 134, 140, 141, 142, 143, 144, 145, 146, 147, 148, 149, 150, 151, 152, 153, 135, 136, 137, 138, 139] (by decide +kernel) (by decide +kernel)
set_option maxRecDepth 20000 in
theorem gX9_chance_X9_fitsWithFlips : GoodIn wsX9_chance (wsV RX9 253 RX9 yX9_fitsWithFlips wsX9_fitsWithFlips) := goodIn_app (goodIn_of _ (by decide +kernel)) ggX9_chance_X9_fitsWithFlips
set_option maxRecDepth 20000 in
theorem ggX9_chance_X9_weightOf : GoodIn wsX9_chance wsX9_weightOf := goodIn_r _ [117] (by decide +kernel) (by decide +kernel)
set_option maxRecDepth 20000 in
theorem gX9_chance_X9_weightOf : GoodIn wsX9_chance (va_wsS RX9 256 yX9_weightOf wsX9_weightOf) := goodIn_app (goodIn_of _ (by decide +kernel)) ggX9_chance_X9_weightOf
set_option maxRecDepth 20000 in
theorem ggX9_chance_X9_inLeastTerms : GoodIn wsX9_chance wsX9_inLeastTerms := goodIn_r _ [120, 121, 122, 15, 123] (by decide +kernel) (by decide +kernel)
set_option maxRecDepth 20000 in
theorem gX9_chance_X9_inLeastTerms : GoodIn wsX9_chance (va_wsS RX9 246 yX9_inLeastTerms wsX9_inLeastTerms) := goodIn_app (goodIn_of _ (by decide +kernel)) ggX9_chance_X9_inLeastTerms
set_option maxRecDepth 20000 in
theorem ggX9_drawn_X1_isToldBy : GoodIn wsX9_drawn wsX1_isToldBy := goodIn_r _ [12, 13, 14, 15, 16, 17, 154, 155, 156, 157, 158] (by decide +kernel) (by decide +kernel)
set_option maxRecDepth 20000 in
theorem gX9_drawn_X1_isToldBy : GoodIn wsX9_drawn (wsV RX9 176 RX1 yX1_isToldBy wsX1_isToldBy) := goodIn_app (goodIn_of _ (by decide +kernel)) ggX9_drawn_X1_isToldBy
set_option maxRecDepth 20000 in
theorem ggX9_drawn_X8_copy : GoodIn wsX9_drawn wsX8_copy := goodIn_r _ [22, 23, 24, 25, 26, 27, 28, 159, 160] (by decide +kernel) (by decide +kernel)
set_option maxRecDepth 20000 in
theorem gX9_drawn_X8_copy : GoodIn wsX9_drawn (wsV RX9 230 RX8 yX8_copy wsX8_copy) := goodIn_app (goodIn_of _ (by decide +kernel)) ggX9_drawn_X8_copy
set_option maxRecDepth 20000 in
theorem ggX9_drawn_X9_doDrawn : GoodIn wsX9_drawn wsX9_doDrawn := goodIn_r _ [33, 2, 1, 34, 35, 36, 37, 11, 38, 13, 39, 40, 41, 42, 14, 15, 16, 43, 44, 45, 21, 46, 23, 47, 48, 49, 50, 51, 52, 53, 54, 24, 55, 56, 57, 58, 17, 59, 60, 61, 62, 63, 64, 65, 66, 67, 68, 69, 70, 71, 135, 136, 137, 138, 139, 140, 141, 142, 143, 144, 145, 154, 155, 156, 157, 158, 159, 160] (by decide +kernel) (by decide +kernel)
set_option maxRecDepth 20000 in
theorem gX9_drawn_X9_doDrawn : GoodIn wsX9_drawn (wsV RX9 264 RX9 yX9_doDrawn wsX9_doDrawn) := goodIn_app (goodIn_of _ (by decide +kernel)) ggX9_drawn_X9_doDrawn
set_option maxRecDepth 20000 in
theorem ggX9_drawn_X4_listenTo : GoodIn wsX9_drawn wsX4_listenTo := goodIn_r _ [76, 77, 78, 79, 80, 81, 82, 83, 84, 85, 86, 87, 88, 89, 90, 21, 91, 23, 24, 146, 147, 148, 149, 150, 151, 152, 153, 159, 160, 161, 162, 163, 164] (by decide +kernel) (by decide +kernel)
set_option maxRecDepth 20000 in
theorem gX9_drawn_X4_listenTo : GoodIn wsX9_drawn (wsV RX9 107 RX4 yX4_listenTo wsX4_listenTo) := goodIn_app (goodIn_of _ (by decide +kernel)) ggX9_drawn_X4_listenTo
set_option maxRecDepth 20000 in
theorem ggX9_drawn_X4_read : GoodIn wsX9_drawn wsX4_read := goodIn_r _ [95, 96, 97, 98, 99, 100, 101, 102, 103, 104, 75, 105, 78, 77, 106, 107, 108, 82, 109, 84, 87, 110, 111, 112, 21, 113, 23, 24, 114, 115, 116, 117, 118, 119, 120, 121, 122, 40, 41, 11, 42, 14, 15, 16, 123, 124, 125, 126, 13, 127, 64, 65, 66, 128, 129, 130, 131, 132, 133, 134, 86, 146, 147, 148, 149, 150, 151, 152, 153, 154, 155, 156, 157, 158, 161, 162, 163, 164, 159, 160] (by decide +kernel) (by decide +kernel)
set_option maxRecDepth 20000 in
theorem gX9_drawn_X4_read : GoodIn wsX9_drawn (wsV RX9 202 RX4 yX4_read wsX4_read) := goodIn_app (goodIn_of _ (by decide +kernel)) ggX9_drawn_X4_read
set_option maxRecDepth 20000 in
theorem ggX9_keep_X6_has : GoodIn wsX9_keep wsX6_has := goodIn_r _ [7] (by decide +kernel) (by decide +kernel)
set_option maxRecDepth 20000 in
theorem gX9_keep_X6_has : GoodIn wsX9_keep (wsV RX9 267 RX6 yX6_has wsX6_has) := goodIn_app (goodIn_of _ (by decide +kernel)) ggX9_keep_X6_has
set_option maxRecDepth 20000 in
theorem ggX9_keep_X6_store : GoodIn wsX9_keep wsX6_store := goodIn_r _ [11, 12, 13, 14, 4, 5, 6, 7, 15, 16, 17, 18, 19, 20, 21, 22, 23, 24, 25, 39, 40, 37, 38] (by decide +kernel) (by decide +kernel)
set_option maxRecDepth 20000 in
theorem gX9_keep_X6_store : GoodIn wsX9_keep (wsV RX9 268 RX6 yX6_store wsX6_store) := goodIn_app (goodIn_of _ (by decide +kernel)) ggX9_keep_X6_store
set_option maxRecDepth 20000 in
theorem ggX9_again_X6_has : GoodIn wsX9_again wsX6_has := goodIn_r _ [8] (by decide +kernel) (by decide +kernel)
set_option maxRecDepth 20000 in
theorem gX9_again_X6_has : GoodIn wsX9_again (wsV RX9 267 RX6 yX6_has wsX6_has) := goodIn_app (goodIn_of _ (by decide +kernel)) ggX9_again_X6_has
set_option maxRecDepth 20000 in
theorem ggX9_again_X6_isUsed : GoodIn wsX9_again wsX6_isUsed := goodIn_r _ [12, 13, 14, 5, 6, 7, 8, 51, 52] (by decide +kernel) (by decide +kernel)
set_option maxRecDepth 20000 in
theorem gX9_again_X6_isUsed : GoodIn wsX9_again (wsV RX9 272 RX6 yX6_isUsed wsX6_isUsed) := goodIn_app (goodIn_of _ (by decide +kernel)) ggX9_again_X6_isUsed
set_option maxRecDepth 20000 in
theorem ggX9_again_X6_restore : GoodIn wsX9_again wsX6_restore := goodIn_r _ [18, 19, 20, 10, 11, 7, 12, 13, 14, 5, 6, 8, 21, 22, 23, 24, 25, 26, 27, 28, 29, 30, 31, 51, 52, 49, 50] (by decide +kernel) (by decide +kernel)
set_option maxRecDepth 20000 in
theorem gX9_again_X6_restore : GoodIn wsX9_again (wsV RX9 275 RX6 yX6_restore wsX6_restore) := goodIn_app (goodIn_of _ (by decide +kernel)) ggX9_again_X6_restore
set_option maxRecDepth 20000 in
theorem ggX9_again_X0_clear : GoodIn wsX9_again wsX0_clear := goodIn_r _ [36, 37, 53, 54, 55, 56, 57] (by decide +kernel) (by decide +kernel)
set_option maxRecDepth 20000 in
theorem gX9_again_X0_clear : GoodIn wsX9_again (wsV RX9 100 RX0 yX0_clear wsX0_clear) := goodIn_app (goodIn_of _ (by decide +kernel)) ggX9_again_X0_clear
set_option maxRecDepth 20000 in
theorem ggX9_isSo_X9_couldHear : GoodIn wsX9_isSo wsX9_couldHear := goodIn_r _ [8, 2, 9, 10, 7, 11, 12, 13, 14, 15, 16, 17, 18, 19, 20, 21, 22, 164, 165, 166, 167, 168, 169, 170, 171, 172, 173, 174, 191, 192] (by decide +kernel) (by decide +kernel)
set_option maxRecDepth 20000 in
theorem gX9_isSo_X9_couldHear : GoodIn wsX9_isSo (wsV RX9 278 RX9 yX9_couldHear wsX9_couldHear) := goodIn_app (goodIn_of _ (by decide +kernel)) ggX9_isSo_X9_couldHear
set_option maxRecDepth 20000 in
theorem ggX9_isSo_X9_couldFlip : GoodIn wsX9_isSo wsX9_couldFlip := goodIn_r _ [26, 2, 27, 28, 29, 15, 30, 17, 31, 32, 33, 34, 22, 35, 164, 165, 166, 167, 168, 169, 170, 171, 172, 173, 174, 191, 192] (by decide +kernel) (by decide +kernel)
set_option maxRecDepth 20000 in
theorem gX9_isSo_X9_couldFlip : GoodIn wsX9_isSo (wsV RX9 281 RX9 yX9_couldFlip wsX9_couldFlip) := goodIn_app (goodIn_of _ (by decide +kernel)) ggX9_isSo_X9_couldFlip
set_option maxRecDepth 20000 in
theorem ggX9_isSo_X4_listenTo : GoodIn wsX9_isSo wsX4_listenTo := goodIn_r _ [40, 41, 42, 43, 44, 45, 46, 47, 48, 49, 50, 51, 52, 53, 54, 15, 55, 17, 22, 175, 176, 177, 178, 179, 180, 181, 182, 191, 192, 193, 194, 195, 196] (by decide +kernel) (by decide +kernel)
set_option maxRecDepth 20000 in
theorem gX9_isSo_X4_listenTo : GoodIn wsX9_isSo (wsV RX9 107 RX4 yX4_listenTo wsX4_listenTo) := goodIn_app (goodIn_of _ (by decide +kernel)) ggX9_isSo_X4_listenTo
set_option maxRecDepth 20000 in
theorem ggX9_isSo_X5_edges : GoodIn wsX9_isSo wsX5_edges := goodIn_r _ [59, 49, 60, 61, 62, 63, 193, 194, 195, 196] (by decide +kernel) (by decide +kernel)
set_option maxRecDepth 20000 in
theorem gX9_isSo_X5_edges : GoodIn wsX9_isSo (wsV RX9 114 RX5 yX5_edges wsX5_edges) := goodIn_app (goodIn_of _ (by decide +kernel)) ggX9_isSo_X5_edges
set_option maxRecDepth 20000 in
theorem ggX9_isSo_X9_couldCut : GoodIn wsX9_isSo wsX9_couldCut := goodIn_r _ [67, 2, 68, 69, 70, 15, 71, 17, 72, 61, 62, 63, 164, 165, 166, 167, 168, 169, 170, 171, 172, 173, 174, 191, 192] (by decide +kernel) (by decide +kernel)
set_option maxRecDepth 20000 in
theorem gX9_isSo_X9_couldCut : GoodIn wsX9_isSo (wsV RX9 284 RX9 yX9_couldCut wsX9_couldCut) := goodIn_app (goodIn_of _ (by decide +kernel)) ggX9_isSo_X9_couldCut
set_option maxRecDepth 20000 in
theorem ggX9_isSo_X9_isBestBit : GoodIn wsX9_isSo wsX9_isBestBit := goodIn_r _ [76, 3, 2, 1, 77, 78, 79, 80, 81, 82, 83, 84, 85, 86, 87, 37, 38, 39, 40, 41, 42, 43, 44, 45, 46, 47, 48, 49, 50, 51, 52, 53, 54, 15, 55, 17, 22, 88, 89, 90, 91, 92, 93, 94, 95, 96, 97, 98, 99, 100, 101, 102, 103, 104, 105, 106, 107, 108, 109, 110, 111, 112, 113, 114, 115, 116, 117, 118, 119, 120, 121, 122, 123, 124, 125, 62, 126, 127, 128, 129, 130, 131, 132, 133, 134, 135, 28, 29, 30, 136, 137, 138, 139, 140, 141, 142, 143, 144, 145, 146, 147, 148, 149, 150, 151, 152, 153, 154, 155, 156, 157, 158, 159, 160, 161, 162, 163, 164, 165, 166, 167, 168, 169, 170, 171, 172, 173, 174, 183, 184, 185, 186, 187, 188, 189, 190, 175, 176, 177, 178, 179, 180, 181, 182, 191, 192, 193, 194, 195, 196, 197, 198, 199, 200, 201] (by decide +kernel) (by decide +kernel)
set_option maxRecDepth 20000 in
theorem gX9_isSo_X9_isBestBit : GoodIn wsX9_isSo (wsV RX9 287 RX9 yX9_isBestBit wsX9_isBestBit) := goodIn_app (goodIn_of _ (by decide +kernel)) ggX9_isSo_X9_isBestBit
set_option maxRecDepth 20000 in
theorem ggX9_isSo_X3_rank : GoodIn wsX9_isSo wsX3_rank := goodIn_r _ [81, 82, 83, 84, 85, 86, 87, 37, 38, 39, 40, 41, 42, 43, 44, 45, 46, 47, 48, 49, 50, 51, 52, 53, 54, 15, 55, 17, 22, 88, 89, 90, 91, 92, 93, 94, 95, 96, 97, 98, 99, 100, 101, 102, 103, 104, 105, 106, 107, 108, 109, 110, 111, 112, 113, 114, 115, 116, 117, 118, 119, 120, 121, 122, 123, 124, 125, 62, 126, 127, 128, 129, 130, 131, 132, 133, 134, 135, 28, 29, 30, 136, 137, 138, 139, 140, 141, 142, 143, 144, 145, 146, 147, 148, 149, 80, 150, 151, 152, 153, 154, 155, 156, 157, 158, 159, 160, 161, 162, 163, 183, 184, 185, 186, 187, 188, 189, 190, 175, 176, 177, 178, 179, 180, 181, 182, 191, 192, 193, 194, 195, 196, 197, 198, 199, 200, 201] (by decide +kernel) (by decide +kernel)
set_option maxRecDepth 20000 in
theorem gX9_isSo_X3_rank : GoodIn wsX9_isSo (wsV RX9 119 RX3 yX3_rank wsX3_rank) := goodIn_app (goodIn_of _ (by decide +kernel)) ggX9_isSo_X3_rank
set_option maxRecDepth 20000 in
theorem ggX9_couldHear_X9_isLevel : GoodIn wsX9_couldHear wsX9_isLevel := goodIn_r _ [5] (by decide +kernel) (by decide +kernel)
set_option maxRecDepth 20000 in
theorem gX9_couldHear_X9_isLevel : GoodIn wsX9_couldHear (va_wsS RX9 163 yX9_isLevel wsX9_isLevel) := goodIn_app (goodIn_of _ (by decide +kernel)) ggX9_couldHear_X9_isLevel
set_option maxRecDepth 20000 in
theorem ggX9_couldHear_X8_hasPlaceFor : GoodIn wsX9_couldHear wsX8_hasPlaceFor := goodIn_r _ [10, 11, 28, 29] (by decide +kernel) (by decide +kernel)
set_option maxRecDepth 20000 in
theorem gX9_couldHear_X8_hasPlaceFor : GoodIn wsX9_couldHear (wsV RX9 166 RX8 yX8_hasPlaceFor wsX8_hasPlaceFor) := goodIn_app (goodIn_of _ (by decide +kernel)) ggX9_couldHear_X8_hasPlaceFor
set_option maxRecDepth 20000 in
theorem ggX9_couldHear_X8_extend : GoodIn wsX9_couldHear wsX8_extend := goodIn_r _ [15, 11, 16, 28, 29] (by decide +kernel) (by decide +kernel)
set_option maxRecDepth 20000 in
theorem gX9_couldHear_X8_extend : GoodIn wsX9_couldHear (wsV RX9 169 RX8 yX8_extend wsX8_extend) := goodIn_app (goodIn_of _ (by decide +kernel)) ggX9_couldHear_X8_extend
set_option maxRecDepth 20000 in
theorem ggX9_couldFlip_X8_has : GoodIn wsX9_couldFlip wsX8_has := goodIn_r _ [6, 7, 25, 26] (by decide +kernel) (by decide +kernel)
set_option maxRecDepth 20000 in
theorem gX9_couldFlip_X8_has : GoodIn wsX9_couldFlip (wsV RX9 150 RX8 yX8_has wsX8_has) := goodIn_app (goodIn_of _ (by decide +kernel)) ggX9_couldFlip_X8_has
set_option maxRecDepth 20000 in
theorem ggX9_couldFlip_X8_turnOver : GoodIn wsX9_couldFlip wsX8_turnOver := goodIn_r _ [11, 12, 13, 3, 4, 5, 6, 7, 25, 26] (by decide +kernel) (by decide +kernel)
set_option maxRecDepth 20000 in
theorem gX9_couldFlip_X8_turnOver : GoodIn wsX9_couldFlip (wsV RX9 186 RX8 yX8_turnOver wsX8_turnOver) := goodIn_app (goodIn_of _ (by decide +kernel)) ggX9_couldFlip_X8_turnOver
set_option maxRecDepth 20000 in
theorem ggX9_couldCut_X8_shorten : GoodIn wsX9_couldCut wsX8_shorten := goodIn_r _ [6, 7, 8, 9, 10, 11, 23, 24] (by decide +kernel) (by decide +kernel)
set_option maxRecDepth 20000 in
theorem gX9_couldCut_X8_shorten : GoodIn wsX9_couldCut (wsV RX9 196 RX8 yX8_shorten wsX8_shorten) := goodIn_app (goodIn_of _ (by decide +kernel)) ggX9_couldCut_X8_shorten
set_option maxRecDepth 20000 in
theorem ggX9_isBestBit_X3_rank : GoodIn wsX9_isBestBit wsX3_rank := goodIn_r _ [8, 9, 10, 11, 12, 13, 14, 15, 16, 17, 18, 19, 20, 21, 22, 23, 24, 25, 26, 27, 28, 29, 30, 31, 32, 33, 34, 35, 36, 37, 38, 39, 40, 41, 42, 43, 44, 45, 46, 47, 48, 49, 50, 51, 52, 53, 54, 55, 56, 57, 58, 59, 60, 61, 62, 63, 64, 65, 66, 67, 68, 69, 70, 71, 72, 73, 74, 75, 76, 77, 78, 79, 80, 81, 82, 83, 84, 85, 86, 87, 88, 89, 90, 91, 92, 93, 94, 95, 96, 97, 98, 99, 100, 101, 102, 7, 103, 104, 105, 106, 107, 108, 109, 110, 111, 112, 113, 114, 115, 116, 128, 129, 130, 131, 132, 133, 134, 135, 136, 137, 138, 139, 140, 141, 142, 143, 144, 145, 146, 147, 148, 149, 150, 151, 152, 153, 154] (by decide +kernel) (by decide +kernel)
set_option maxRecDepth 20000 in
theorem gX9_isBestBit_X3_rank : GoodIn wsX9_isBestBit (wsV RX9 119 RX3 yX3_rank wsX3_rank) := goodIn_app (goodIn_of _ (by decide +kernel)) ggX9_isBestBit_X3_rank
set_option maxRecDepth 20000 in
theorem ggX9_findShakyTicks_X8_isEdge : GoodIn wsX9_findShakyTicks wsX8_isEdge := goodIn_r _ [7, 8, 9, 21, 22] (by decide +kernel) (by decide +kernel)
set_option maxRecDepth 20000 in
theorem gX9_findShakyTicks_X8_isEdge : GoodIn wsX9_findShakyTicks (wsV RX9 293 RX8 yX8_isEdge wsX8_isEdge) := goodIn_app (goodIn_of _ (by decide +kernel)) ggX9_findShakyTicks_X8_isEdge
set_option maxRecDepth 20000 in
theorem ggX9_fitsWithFlips_X8_copy : GoodIn wsX9_fitsWithFlips wsX8_copy := goodIn_r _ [10, 11, 12, 13, 14, 15, 16, 111, 112] (by decide +kernel) (by decide +kernel)
set_option maxRecDepth 20000 in
theorem gX9_fitsWithFlips_X8_copy : GoodIn wsX9_fitsWithFlips (wsV RX9 230 RX8 yX8_copy wsX8_copy) := goodIn_app (goodIn_of _ (by decide +kernel)) ggX9_fitsWithFlips_X8_copy
set_option maxRecDepth 20000 in
theorem ggX9_fitsWithFlips_X8_turnOver : GoodIn wsX9_fitsWithFlips wsX8_turnOver := goodIn_r _ [20, 12, 21, 22, 23, 9, 24, 11, 111, 112] (by decide +kernel) (by decide +kernel)
set_option maxRecDepth 20000 in
theorem gX9_fitsWithFlips_X8_turnOver : GoodIn wsX9_fitsWithFlips (wsV RX9 186 RX8 yX8_turnOver wsX8_turnOver) := goodIn_app (goodIn_of _ (by decide +kernel)) ggX9_fitsWithFlips_X8_turnOver
set_option maxRecDepth 20000 in
theorem ggX9_fitsWithFlips_X4_listenTo : GoodIn wsX9_fitsWithFlips wsX4_listenTo := goodIn_r _ [29, 30, 31, 32, 33, 34, 35, 36, 37, 38, 39, 40, 41, 42, 43, 9, 44, 11, 12, 113, 114, 115, 116, 117, 118, 119, 120, 111, 112, 121, 122, 123, 124] (by decide +kernel) (by decide +kernel)
set_option maxRecDepth 20000 in
theorem gX9_fitsWithFlips_X4_listenTo : GoodIn wsX9_fitsWithFlips (wsV RX9 107 RX4 yX4_listenTo wsX4_listenTo) := goodIn_app (goodIn_of _ (by decide +kernel)) ggX9_fitsWithFlips_X4_listenTo
set_option maxRecDepth 20000 in
theorem ggX9_fitsWithFlips_X4_read : GoodIn wsX9_fitsWithFlips wsX4_read := goodIn_r _ [48, 49, 50, 51, 52, 53, 54, 55, 56, 57, 28, 58, 31, 30, 59, 60, 61, 35, 62, 37, 40, 63, 64, 65, 9, 66, 11, 12, 67, 68, 69, 70, 71, 72, 73, 74, 75, 76, 77, 78, 79, 80, 81, 82, 83, 84, 85, 86, 87, 88, 22, 23, 24, 89, 90, 91, 92, 93, 94, 95, 39, 113, 114, 115, 116, 117, 118, 119, 120, 125, 126, 127, 128, 129, 121, 122, 123, 124, 111, 112] (by decide +kernel) (by decide +kernel)
set_option maxRecDepth 20000 in
theorem gX9_fitsWithFlips_X4_read : GoodIn wsX9_fitsWithFlips (wsV RX9 202 RX4 yX4_read wsX4_read) := goodIn_app (goodIn_of _ (by decide +kernel)) ggX9_fitsWithFlips_X4_read
set_option maxRecDepth 20000 in
theorem ggX9_fitsWithFlips_X4_fits : GoodIn wsX9_fitsWithFlips wsX4_fits := goodIn_r _ [99, 50, 49, 113, 114, 115, 116, 117, 118, 119, 120] (by decide +kernel) (by decide +kernel)
set_option maxRecDepth 20000 in
theorem gX9_fitsWithFlips_X4_fits : GoodIn wsX9_fitsWithFlips (wsV RX9 209 RX4 yX4_fits wsX4_fits) := goodIn_app (goodIn_of _ (by decide +kernel)) ggX9_fitsWithFlips_X4_fits
set_option maxRecDepth 20000 in
theorem ggX9_doDrawn_X1_ticksOfLetter : GoodIn wsX9_doDrawn wsX1_ticksOfLetter := goodIn_r _ [8, 9, 10, 11, 12, 7, 13, 14, 15, 16, 61, 62, 63, 64, 65] (by decide +kernel) (by decide +kernel)
set_option maxRecDepth 20000 in
theorem gX9_doDrawn_X1_ticksOfLetter : GoodIn wsX9_doDrawn (wsV RX9 179 RX1 yX1_ticksOfLetter wsX1_ticksOfLetter) := goodIn_app (goodIn_of _ (by decide +kernel)) ggX9_doDrawn_X1_ticksOfLetter
set_option maxRecDepth 20000 in
theorem ggX9_doDrawn_X8_hasPlaceFor : GoodIn wsX9_doDrawn wsX8_hasPlaceFor := goodIn_r _ [21, 22, 66, 67] (by decide +kernel) (by decide +kernel)
set_option maxRecDepth 20000 in
theorem gX9_doDrawn_X8_hasPlaceFor : GoodIn wsX9_doDrawn (wsV RX9 166 RX8 yX8_hasPlaceFor wsX8_hasPlaceFor) := goodIn_app (goodIn_of _ (by decide +kernel)) ggX9_doDrawn_X8_hasPlaceFor
set_option maxRecDepth 20000 in
theorem ggX9_doDrawn_X8_extendByLetter : GoodIn wsX9_doDrawn wsX8_extendByLetter := goodIn_r _ [26, 27, 28, 29, 20, 30, 22, 31, 32, 33, 34, 7, 35, 36, 37, 38, 39, 40, 15, 61, 62, 63, 64, 65, 66, 67] (by decide +kernel) (by decide +kernel)
set_option maxRecDepth 20000 in
theorem gX9_doDrawn_X8_extendByLetter : GoodIn wsX9_doDrawn (wsV RX9 182 RX8 yX8_extendByLetter wsX8_extendByLetter) := goodIn_app (goodIn_of _ (by decide +kernel)) ggX9_doDrawn_X8_extendByLetter
set_option maxRecDepth 20000 in
theorem ggX9_doDrawn_X8_has : GoodIn wsX9_doDrawn wsX8_has := goodIn_r _ [44, 22, 66, 67] (by decide +kernel) (by decide +kernel)
set_option maxRecDepth 20000 in
theorem gX9_doDrawn_X8_has : GoodIn wsX9_doDrawn (wsV RX9 150 RX8 yX8_has wsX8_has) := goodIn_app (goodIn_of _ (by decide +kernel)) ggX9_doDrawn_X8_has
set_option maxRecDepth 20000 in
theorem ggX9_doDrawn_X8_turnOver : GoodIn wsX9_doDrawn wsX8_turnOver := goodIn_r _ [48, 31, 49, 42, 43, 20, 44, 22, 66, 67] (by decide +kernel) (by decide +kernel)
set_option maxRecDepth 20000 in
theorem gX9_doDrawn_X8_turnOver : GoodIn wsX9_doDrawn (wsV RX9 186 RX8 yX8_turnOver wsX8_turnOver) := goodIn_app (goodIn_of _ (by decide +kernel)) ggX9_doDrawn_X8_turnOver
set_option maxRecDepth 20000 in
theorem ggX9_inLeastTerms_X9_greatestCommonDivisor : GoodIn wsX9_inLeastTerms wsX9_greatestCommonDivisor := goodIn_r _ [4] (by decide +kernel) (by decide +kernel)
set_option maxRecDepth 20000 in
theorem gX9_inLeastTerms_X9_greatestCommonDivisor : GoodIn wsX9_inLeastTerms (va_wsS RX9 297 yX9_greatestCommonDivisor wsX9_greatestCommonDivisor) := goodIn_app (goodIn_of _ (by decide +kernel)) ggX9_inLeastTerms_X9_greatestCommonDivisor
set_option maxRecDepth 20000 in
theorem ggX10_isTick_X10_in : GoodIn wsX10_isTick wsX10_in := goodIn_r _ [4] (by decide +kernel) (by decide +kernel)
set_option maxRecDepth 20000 in
theorem gX10_isTick_X10_in : GoodIn wsX10_isTick (va_wsS RX10 53 yX10_in wsX10_in) := goodIn_app (goodIn_of _ (by decide +kernel)) ggX10_isTick_X10_in
set_option maxRecDepth 20000 in
theorem ggX10_write_X10_in : GoodIn wsX10_write wsX10_in := goodIn_r _ [7] (by decide +kernel) (by decide +kernel)
set_option maxRecDepth 20000 in
theorem gX10_write_X10_in : GoodIn wsX10_write (va_wsS RX10 53 yX10_in wsX10_in) := goodIn_app (goodIn_of _ (by decide +kernel)) ggX10_write_X10_in
set_option maxRecDepth 20000 in
theorem ggX10_takeLetter_X10_in : GoodIn wsX10_takeLetter wsX10_in := goodIn_r _ [10] (by decide +kernel) (by decide +kernel)
set_option maxRecDepth 20000 in
theorem gX10_takeLetter_X10_in : GoodIn wsX10_takeLetter (va_wsS RX10 53 yX10_in wsX10_in) := goodIn_app (goodIn_of _ (by decide +kernel)) ggX10_takeLetter_X10_in
set_option maxRecDepth 20000 in
theorem ggX10_readText_X10_takeLetter : GoodIn wsX10_readText wsX10_takeLetter := goodIn_r _ [9, 2, 10, 11, 12, 1, 13, 14, 15, 8, 16, 17, 18, 19, 20, 21, 22, 23, 24, 25, 26, 27, 28, 29, 30, 31, 32, 33, 34, 35, 36, 37, 38, 39, 40, 41, 42, 43, 44, 45, 46, 47, 48, 49, 50, 51] (by decide +kernel) (by decide +kernel)
set_option maxRecDepth 20000 in
theorem gX10_readText_X10_takeLetter : GoodIn wsX10_readText (wsV RX10 77 RX10 yX10_takeLetter wsX10_takeLetter) := goodIn_app (goodIn_of _ (by decide +kernel)) ggX10_readText_X10_takeLetter
set_option maxRecDepth 20000 in
theorem ggX10_fault_X10_readText : GoodIn wsX10_fault wsX10_readText := goodIn_r _ [5, 6, 7, 8, 9, 10, 11, 12, 4, 13, 14, 15, 16, 17, 18, 19, 20, 21, 22, 23, 24, 25, 26, 27, 28, 29, 30, 31, 32, 33, 34, 35, 36, 37, 38, 39, 40, 41, 42, 43, 44, 45, 46, 47, 48, 49, 50, 51, 52, 53, 54, 55] (by decide +kernel) (by decide +kernel)
set_option maxRecDepth 20000 in
theorem gX10_fault_X10_readText : GoodIn wsX10_fault (wsV RX10 81 RX10 yX10_readText wsX10_readText) := goodIn_app (goodIn_of _ (by decide +kernel)) ggX10_fault_X10_readText
set_option maxRecDepth 20000 in
theorem ggX10_take_X10_readText : GoodIn wsX10_take wsX10_readText := goodIn_r _ [10, 2, 11, 12, 13, 14, 15, 16, 9, 17, 18, 19, 20, 3, 21, 22, 23, 24, 25, 26, 27, 28, 29, 30, 31, 32, 33, 34, 35, 36, 37, 38, 39, 40, 41, 42, 43, 44, 45, 46, 47, 48, 49, 50, 51, 52, 53, 54, 55, 56, 57, 58] (by decide +kernel) (by decide +kernel)
set_option maxRecDepth 20000 in
theorem gX10_take_X10_readText : GoodIn wsX10_take (wsV RX10 81 RX10 yX10_readText wsX10_readText) := goodIn_app (goodIn_of _ (by decide +kernel)) ggX10_take_X10_readText
set_option maxRecDepth 20000 in
theorem ggX10_layCode_X10_in : GoodIn wsX10_layCode wsX10_in := goodIn_r _ [13] (by decide +kernel) (by decide +kernel)
set_option maxRecDepth 20000 in
theorem gX10_layCode_X10_in : GoodIn wsX10_layCode (va_wsS RX10 53 yX10_in wsX10_in) := goodIn_app (goodIn_of _ (by decide +kernel)) ggX10_layCode_X10_in
set_option maxRecDepth 20000 in
theorem ggX10_frameAt_X10_frameBits : GoodIn wsX10_frameAt wsX10_frameBits := goodIn_r _ [14, 4, 5, 15, 26, 27, 28, 29, 30, 31, 32, 33, 34, 35, 36, 37, 38, 39, 40, 41, 42, 43, 44, 45, 46, 47, 48, 49, 50, 51, 52, 53, 54, 55, 56, 57, 58, 59, 60] (by decide +kernel) (by decide +kernel)
set_option maxRecDepth 20000 in
theorem gX10_frameAt_X10_frameBits : GoodIn wsX10_frameAt (wsV RX10 114 RX10 yX10_frameBits wsX10_frameBits) := goodIn_app (goodIn_of _ (by decide +kernel)) ggX10_frameAt_X10_frameBits
set_option maxRecDepth 20000 in
theorem ggX10_frameAt_X10_isTick : GoodIn wsX10_frameAt wsX10_isTick := goodIn_r _ [18, 19, 20, 13, 21] (by decide +kernel) (by decide +kernel)
set_option maxRecDepth 20000 in
theorem gX10_frameAt_X10_isTick : GoodIn wsX10_frameAt (va_wsS RX10 117 yX10_isTick wsX10_isTick) := goodIn_app (goodIn_of _ (by decide +kernel)) ggX10_frameAt_X10_isTick
set_option maxRecDepth 20000 in
theorem ggX10_frameAt_X10_failsBy : GoodIn wsX10_frameAt wsX10_failsBy := goodIn_r _ [25, 4, 5, 26, 27, 28, 29, 30, 31, 32, 33, 34, 35, 36, 37, 38, 39, 40, 41, 42, 43, 44, 45, 46, 47, 48, 49, 50, 51, 52, 53, 54, 55, 56, 57, 58, 59, 60] (by decide +kernel) (by decide +kernel)
set_option maxRecDepth 20000 in
theorem gX10_frameAt_X10_failsBy : GoodIn wsX10_frameAt (wsV RX10 121 RX10 yX10_failsBy wsX10_failsBy) := goodIn_app (goodIn_of _ (by decide +kernel)) ggX10_frameAt_X10_failsBy
set_option maxRecDepth 20000 in
theorem ggX10_read_X10_frameAt : GoodIn wsX10_read wsX10_frameAt := goodIn_r _ [11, 4, 6, 5, 12, 13, 14, 15, 1, 16, 17, 18, 19, 10, 20, 21, 22, 23, 24, 25, 26, 27, 28, 29, 30, 31, 32, 33, 34, 35, 36, 37, 38, 39, 40, 41, 42, 43, 44, 45, 46, 47, 48, 49, 50, 51, 52, 53, 54, 55, 56, 57, 58, 59, 60, 61, 62, 63, 64, 65, 66] (by decide +kernel) (by decide +kernel)
set_option maxRecDepth 20000 in
theorem gX10_read_X10_frameAt : GoodIn wsX10_read (wsV RX10 134 RX10 yX10_frameAt wsX10_frameAt) := goodIn_app (goodIn_of _ (by decide +kernel)) ggX10_read_X10_frameAt
set_option maxRecDepth 20000 in
theorem ggX10_read_X10_frameBits : GoodIn wsX10_read wsX10_frameBits := goodIn_r _ [20, 12, 13, 21, 32, 33, 34, 35, 36, 37, 38, 39, 40, 41, 42, 43, 44, 45, 46, 47, 48, 49, 50, 51, 52, 53, 54, 55, 56, 57, 58, 59, 60, 61, 62, 63, 64, 65, 66] (by decide +kernel) (by decide +kernel)
set_option maxRecDepth 20000 in
theorem gX10_read_X10_frameBits : GoodIn wsX10_read (wsV RX10 114 RX10 yX10_frameBits wsX10_frameBits) := goodIn_app (goodIn_of _ (by decide +kernel)) ggX10_read_X10_frameBits
set_option maxRecDepth 20000 in
theorem ggX10_best_X10_layDeep : GoodIn wsX10_best wsX10_layDeep := goodIn_r _ [11, 12, 58, 59, 60, 61, 62, 63, 64, 65, 66, 67, 68, 69, 70, 71, 72, 73, 74, 75, 76, 77, 78, 79, 80, 81, 82, 83, 84, 85, 86, 87, 88, 89, 90, 91, 92] (by decide +kernel) (by decide +kernel)
set_option maxRecDepth 20000 in
theorem gX10_best_X10_layDeep : GoodIn wsX10_best (wsV RX10 141 RX10 yX10_layDeep wsX10_layDeep) := goodIn_app (goodIn_of _ (by decide +kernel)) ggX10_best_X10_layDeep
set_option maxRecDepth 20000 in
theorem ggX10_best_X10_codeOf : GoodIn wsX10_best wsX10_codeOf := goodIn_r _ [15] (by decide +kernel) (by decide +kernel)
set_option maxRecDepth 20000 in
theorem gX10_best_X10_codeOf : GoodIn wsX10_best (va_wsS RX10 148 yX10_codeOf wsX10_codeOf) := goodIn_app (goodIn_of _ (by decide +kernel)) ggX10_best_X10_codeOf
set_option maxRecDepth 20000 in
theorem ggX10_best_X10_layCode : GoodIn wsX10_best wsX10_layCode := goodIn_r _ [19, 20, 21, 22, 23, 24, 25, 26, 27, 28, 29, 30, 10, 31, 58, 59, 60, 61, 62, 63, 64, 65, 66, 67, 68, 69, 70, 71, 72, 73, 74, 75, 76, 77, 78, 79, 80, 81, 82, 83, 84, 85, 86, 87, 88, 89, 90, 91, 92] (by decide +kernel) (by decide +kernel)
set_option maxRecDepth 20000 in
theorem gX10_best_X10_layCode : GoodIn wsX10_best (wsV RX10 152 RX10 yX10_layCode wsX10_layCode) := goodIn_app (goodIn_of _ (by decide +kernel)) ggX10_best_X10_layCode
set_option maxRecDepth 20000 in
theorem ggX10_best_X10_read : GoodIn wsX10_best wsX10_read := goodIn_r _ [35, 4, 36, 37, 3, 24, 20, 38, 39, 40, 10, 41, 21, 22, 12, 6, 42, 43, 44, 45, 46, 23, 47, 48, 49, 29, 30, 31, 50, 51, 52, 53, 58, 59, 60, 61, 62, 63, 64, 65, 66, 67, 68, 69, 70, 71, 72, 73, 74, 75, 76, 77, 78, 79, 80, 81, 82, 83, 84, 85, 86, 87, 88, 89, 90, 91, 92] (by decide +kernel) (by decide +kernel)
set_option maxRecDepth 20000 in
theorem gX10_best_X10_read : GoodIn wsX10_best (wsV RX10 155 RX10 yX10_read wsX10_read) := goodIn_app (goodIn_of _ (by decide +kernel)) ggX10_best_X10_read
set_option maxRecDepth 20000 in
theorem ggX10_best_X10_fits : GoodIn wsX10_best wsX10_fits := goodIn_r _ [57, 36, 4, 58, 59, 60, 61, 62, 63, 64, 65, 66, 67, 68, 69, 70, 71, 72, 73, 74, 75, 76, 77, 78, 79, 80, 81, 82, 83, 84, 85, 86, 87, 88, 89, 90, 91, 92] (by decide +kernel) (by decide +kernel)
set_option maxRecDepth 20000 in
theorem gX10_best_X10_fits : GoodIn wsX10_best (wsV RX10 158 RX10 yX10_fits wsX10_fits) := goodIn_app (goodIn_of _ (by decide +kernel)) ggX10_best_X10_fits
set_option maxRecDepth 20000 in
theorem ggX10_alikes_X10_best : GoodIn wsX10_alikes wsX10_best := goodIn_r _ [7, 8, 9, 10, 11, 12, 13, 14, 15, 16, 6, 17, 18, 19, 20, 21, 22, 23, 24, 25, 26, 27, 28, 29, 30, 31, 32, 33, 34, 35, 36, 37, 38, 39, 40, 41, 42, 43, 44, 45, 46, 47, 48, 49, 50, 51, 52, 53, 54, 55, 56, 57, 58, 59, 60, 61, 62, 63, 68, 69, 70, 71, 72, 73, 74, 75, 76, 77, 78, 79, 80, 81, 82, 83, 84, 85, 86, 87, 88, 89, 90, 91, 92, 93, 94, 95, 96, 97, 98, 99, 100, 101, 102] (by decide +kernel) (by decide +kernel)
set_option maxRecDepth 20000 in
theorem gX10_alikes_X10_best : GoodIn wsX10_alikes (wsV RX10 165 RX10 yX10_best wsX10_best) := goodIn_app (goodIn_of _ (by decide +kernel)) ggX10_alikes_X10_best
set_option maxRecDepth 20000 in
theorem ggX10_alikes_X10_codeOf : GoodIn wsX10_alikes wsX10_codeOf := goodIn_r _ [21] (by decide +kernel) (by decide +kernel)
set_option maxRecDepth 20000 in
theorem gX10_alikes_X10_codeOf : GoodIn wsX10_alikes (va_wsS RX10 148 yX10_codeOf wsX10_codeOf) := goodIn_app (goodIn_of _ (by decide +kernel)) ggX10_alikes_X10_codeOf
set_option maxRecDepth 20000 in
theorem ggX10_alikes_X10_layCode : GoodIn wsX10_alikes wsX10_layCode := goodIn_r _ [25, 26, 27, 28, 29, 30, 31, 32, 33, 34, 35, 36, 6, 37, 68, 69, 70, 71, 72, 73, 74, 75, 76, 77, 78, 79, 80, 81, 82, 83, 84, 85, 86, 87, 88, 89, 90, 91, 92, 93, 94, 95, 96, 97, 98, 99, 100, 101, 102] (by decide +kernel) (by decide +kernel)
set_option maxRecDepth 20000 in
theorem gX10_alikes_X10_layCode : GoodIn wsX10_alikes (wsV RX10 152 RX10 yX10_layCode wsX10_layCode) := goodIn_app (goodIn_of _ (by decide +kernel)) ggX10_alikes_X10_layCode
set_option maxRecDepth 20000 in
theorem ggX10_alikes_X10_read : GoodIn wsX10_alikes wsX10_read := goodIn_r _ [41, 11, 42, 43, 10, 30, 26, 44, 45, 46, 6, 47, 27, 28, 18, 13, 48, 49, 50, 51, 52, 29, 53, 54, 55, 35, 36, 37, 56, 57, 58, 59, 68, 69, 70, 71, 72, 73, 74, 75, 76, 77, 78, 79, 80, 81, 82, 83, 84, 85, 86, 87, 88, 89, 90, 91, 92, 93, 94, 95, 96, 97, 98, 99, 100, 101, 102] (by decide +kernel) (by decide +kernel)
set_option maxRecDepth 20000 in
theorem gX10_alikes_X10_read : GoodIn wsX10_alikes (wsV RX10 155 RX10 yX10_read wsX10_read) := goodIn_app (goodIn_of _ (by decide +kernel)) ggX10_alikes_X10_read
set_option maxRecDepth 20000 in
theorem ggX10_alikes_X10_fits : GoodIn wsX10_alikes wsX10_fits := goodIn_r _ [63, 42, 11, 68, 69, 70, 71, 72, 73, 74, 75, 76, 77, 78, 79, 80, 81, 82, 83, 84, 85, 86, 87, 88, 89, 90, 91, 92, 93, 94, 95, 96, 97, 98, 99, 100, 101, 102] (by decide +kernel) (by decide +kernel)
set_option maxRecDepth 20000 in
theorem gX10_alikes_X10_fits : GoodIn wsX10_alikes (wsV RX10 158 RX10 yX10_fits wsX10_fits) := goodIn_app (goodIn_of _ (by decide +kernel)) ggX10_alikes_X10_fits
set_option maxRecDepth 20000 in
theorem ggX10_alikes_X10_isAsBest : GoodIn wsX10_alikes wsX10_isAsBest := goodIn_r _ [67, 11, 9, 13, 12, 68, 69, 70, 71, 72, 73, 74, 75, 76, 77, 78, 79, 80, 81, 82, 83, 84, 85, 86, 87, 88, 89, 90, 91, 92, 93, 94, 95, 96, 97, 98, 99, 100, 101, 102] (by decide +kernel) (by decide +kernel)
set_option maxRecDepth 20000 in
theorem gX10_alikes_X10_isAsBest : GoodIn wsX10_alikes (wsV RX10 169 RX10 yX10_isAsBest wsX10_isAsBest) := goodIn_app (goodIn_of _ (by decide +kernel)) ggX10_alikes_X10_isAsBest
set_option maxRecDepth 20000 in
theorem ggX10_offBy_X10_edges : GoodIn wsX10_offBy wsX10_edges := goodIn_r _ [5] (by decide +kernel) (by decide +kernel)
set_option maxRecDepth 20000 in
theorem gX10_offBy_X10_edges : GoodIn wsX10_offBy (va_wsS RX10 172 yX10_edges wsX10_edges) := goodIn_app (goodIn_of _ (by decide +kernel)) ggX10_offBy_X10_edges
set_option maxRecDepth 20000 in
theorem ggX10_offBy_X10_runOf : GoodIn wsX10_offBy wsX10_runOf := goodIn_r _ [9, 1, 13, 14, 15, 16, 17, 18, 19, 20, 21, 22, 23, 24, 25, 26, 27, 28, 29, 30, 31, 32, 33, 34, 35, 36, 37, 38, 39, 40, 41, 42, 43, 44, 45, 46, 47] (by decide +kernel) (by decide +kernel)
set_option maxRecDepth 20000 in
theorem gX10_offBy_X10_runOf : GoodIn wsX10_offBy (wsV RX10 175 RX10 yX10_runOf wsX10_runOf) := goodIn_app (goodIn_of _ (by decide +kernel)) ggX10_offBy_X10_runOf
set_option maxRecDepth 20000 in
theorem ggX10_offBy_X10_offOf : GoodIn wsX10_offBy wsX10_offOf := goodIn_r _ [12] (by decide +kernel) (by decide +kernel)
set_option maxRecDepth 20000 in
theorem gX10_offBy_X10_offOf : GoodIn wsX10_offBy (va_wsS RX10 178 yX10_offOf wsX10_offOf) := goodIn_app (goodIn_of _ (by decide +kernel)) ggX10_offBy_X10_offOf
set_option maxRecDepth 20000 in
theorem ggX10_width_X10_offBy : GoodIn wsX10_width wsX10_offBy := goodIn_r _ [5, 6, 7, 8, 4, 9, 10, 11, 12, 13, 14, 15, 16, 17, 18, 19, 20, 21, 22, 23, 24, 25, 26, 27, 28, 29, 30, 31, 32, 33, 34, 35, 36, 37, 38, 39, 40, 41, 42, 43, 44, 45, 46, 47, 48, 49, 50, 51] (by decide +kernel) (by decide +kernel)
set_option maxRecDepth 20000 in
theorem gX10_width_X10_offBy : GoodIn wsX10_width (wsV RX10 182 RX10 yX10_offBy wsX10_offBy) := goodIn_app (goodIn_of _ (by decide +kernel)) ggX10_width_X10_offBy
set_option maxRecDepth 20000 in
theorem ggX10_left_X10_codeOf : GoodIn wsX10_left wsX10_codeOf := goodIn_r _ [5] (by decide +kernel) (by decide +kernel)
set_option maxRecDepth 20000 in
theorem gX10_left_X10_codeOf : GoodIn wsX10_left (va_wsS RX10 148 yX10_codeOf wsX10_codeOf) := goodIn_app (goodIn_of _ (by decide +kernel)) ggX10_left_X10_codeOf
set_option maxRecDepth 20000 in
theorem ggX10_left_X10_layCode : GoodIn wsX10_left wsX10_layCode := goodIn_r _ [9, 10, 11, 12, 13, 14, 15, 16, 17, 18, 19, 20, 4, 21, 59, 60, 61, 62, 63, 64, 65, 66, 67, 68, 69, 70, 71, 72, 73, 74, 75, 76, 77, 78, 79, 80, 81, 82, 83, 84, 85, 86, 87, 88, 89, 90, 91, 92, 93] (by decide +kernel) (by decide +kernel)
set_option maxRecDepth 20000 in
theorem gX10_left_X10_layCode : GoodIn wsX10_left (wsV RX10 152 RX10 yX10_layCode wsX10_layCode) := goodIn_app (goodIn_of _ (by decide +kernel)) ggX10_left_X10_layCode
set_option maxRecDepth 20000 in
theorem ggX10_left_X10_read : GoodIn wsX10_left wsX10_read := goodIn_r _ [25, 26, 27, 28, 29, 14, 10, 30, 31, 32, 4, 33, 11, 12, 34, 35, 36, 37, 38, 39, 40, 13, 41, 42, 43, 19, 20, 21, 44, 45, 46, 47, 59, 60, 61, 62, 63, 64, 65, 66, 67, 68, 69, 70, 71, 72, 73, 74, 75, 76, 77, 78, 79, 80, 81, 82, 83, 84, 85, 86, 87, 88, 89, 90, 91, 92, 93] (by decide +kernel) (by decide +kernel)
set_option maxRecDepth 20000 in
theorem gX10_left_X10_read : GoodIn wsX10_left (wsV RX10 155 RX10 yX10_read wsX10_read) := goodIn_app (goodIn_of _ (by decide +kernel)) ggX10_left_X10_read
set_option maxRecDepth 20000 in
theorem ggX10_left_X10_fits : GoodIn wsX10_left wsX10_fits := goodIn_r _ [51, 27, 26, 59, 60, 61, 62, 63, 64, 65, 66, 67, 68, 69, 70, 71, 72, 73, 74, 75, 76, 77, 78, 79, 80, 81, 82, 83, 84, 85, 86, 87, 88, 89, 90, 91, 92, 93] (by decide +kernel) (by decide +kernel)
set_option maxRecDepth 20000 in
theorem gX10_left_X10_fits : GoodIn wsX10_left (wsV RX10 158 RX10 yX10_fits wsX10_fits) := goodIn_app (goodIn_of _ (by decide +kernel)) ggX10_left_X10_fits
set_option maxRecDepth 20000 in
theorem ggX10_left_X10_isSo : GoodIn wsX10_left wsX10_isSo := goodIn_r _ [55, 56, 57, 26, 35, 58, 59, 60, 61, 62, 63, 64, 65, 66, 67, 68, 69, 70, 71, 72, 73, 74, 75, 76, 77, 78, 79, 80, 81, 82, 83, 84, 85, 86, 87, 88, 89, 90, 91, 92, 93] (by decide +kernel) (by decide +kernel)
set_option maxRecDepth 20000 in
theorem gX10_left_X10_isSo : GoodIn wsX10_left (wsV RX10 188 RX10 yX10_isSo wsX10_isSo) := goodIn_app (goodIn_of _ (by decide +kernel)) ggX10_left_X10_isSo
set_option maxRecDepth 20000 in
theorem ggX10_fit_X10_best : GoodIn wsX10_fit wsX10_best := goodIn_r _ [7, 2, 8, 9, 10, 11, 12, 13, 14, 15, 6, 16, 17, 18, 19, 20, 21, 22, 23, 24, 25, 26, 27, 28, 29, 30, 31, 32, 33, 34, 35, 36, 37, 38, 39, 40, 41, 42, 43, 44, 45, 46, 47, 48, 49, 50, 51, 52, 53, 54, 55, 56, 57, 58, 59, 60, 61, 62, 63, 64, 65, 66, 67, 68, 69, 70, 71, 72, 73, 74, 75, 76, 77, 78, 79, 80, 81, 82, 83, 84, 85, 86, 87, 88, 89, 90, 91, 92, 93, 94, 95, 96, 97] (by decide +kernel) (by decide +kernel)
set_option maxRecDepth 20000 in
theorem gX10_fit_X10_best : GoodIn wsX10_fit (wsV RX10 165 RX10 yX10_best wsX10_best) := goodIn_app (goodIn_of _ (by decide +kernel)) ggX10_fit_X10_best
set_option maxRecDepth 20000 in
theorem ggX10_about_X10_edges : GoodIn wsX10_about wsX10_edges := goodIn_r _ [8] (by decide +kernel) (by decide +kernel)
set_option maxRecDepth 20000 in
theorem gX10_about_X10_edges : GoodIn wsX10_about (va_wsS RX10 172 yX10_edges wsX10_edges) := goodIn_app (goodIn_of _ (by decide +kernel)) ggX10_about_X10_edges
set_option maxRecDepth 20000 in
theorem ggX10_about_X10_fit : GoodIn wsX10_about wsX10_fit := goodIn_r _ [12, 1, 13, 14, 15, 16, 7, 17, 18, 19, 20, 21, 22, 23, 24, 25, 26, 27, 28, 29, 30, 31, 32, 33, 34, 35, 36, 37, 38, 39, 40, 41, 42, 43, 44, 45, 46, 47, 48, 49, 50, 51, 52, 53, 54, 55, 56, 57, 58, 59, 60, 61, 62, 63, 64, 65, 66, 67, 68, 69, 70, 71, 72, 107, 108, 109, 110, 111, 112, 113, 114, 115, 116, 117, 118, 119, 120, 121, 122, 123, 124, 125, 126, 127, 128, 129, 130, 131, 132, 133, 134, 135, 136, 137, 138, 139, 140, 141] (by decide +kernel) (by decide +kernel)
set_option maxRecDepth 20000 in
theorem gX10_about_X10_fit : GoodIn wsX10_about (wsV RX10 191 RX10 yX10_fit wsX10_fit) := goodIn_app (goodIn_of _ (by decide +kernel)) ggX10_about_X10_fit
set_option maxRecDepth 20000 in
theorem ggX10_about_X10_best : GoodIn wsX10_about wsX10_best := goodIn_r _ [17, 13, 18, 19, 20, 21, 22, 23, 24, 25, 7, 26, 27, 28, 29, 30, 31, 32, 33, 34, 35, 36, 37, 38, 39, 40, 41, 42, 43, 44, 45, 46, 47, 48, 49, 50, 51, 52, 53, 54, 55, 56, 57, 58, 59, 60, 61, 62, 63, 64, 65, 66, 67, 68, 69, 70, 71, 72, 107, 108, 109, 110, 111, 112, 113, 114, 115, 116, 117, 118, 119, 120, 121, 122, 123, 124, 125, 126, 127, 128, 129, 130, 131, 132, 133, 134, 135, 136, 137, 138, 139, 140, 141] (by decide +kernel) (by decide +kernel)
set_option maxRecDepth 20000 in
theorem gX10_about_X10_best : GoodIn wsX10_about (wsV RX10 165 RX10 yX10_best wsX10_best) := goodIn_app (goodIn_of _ (by decide +kernel)) ggX10_about_X10_best
set_option maxRecDepth 20000 in
theorem ggX10_about_X10_alikes : GoodIn wsX10_about wsX10_alikes := goodIn_r _ [76, 77, 1, 14, 15, 16, 7, 17, 13, 18, 19, 20, 21, 22, 23, 24, 25, 26, 27, 28, 29, 30, 31, 32, 33, 34, 35, 36, 37, 38, 39, 40, 41, 42, 43, 44, 45, 46, 47, 48, 49, 50, 51, 52, 53, 54, 55, 56, 57, 58, 59, 60, 61, 62, 63, 64, 65, 66, 67, 68, 69, 70, 71, 72, 78, 79, 80, 81, 107, 108, 109, 110, 111, 112, 113, 114, 115, 116, 117, 118, 119, 120, 121, 122, 123, 124, 125, 126, 127, 128, 129, 130, 131, 132, 133, 134, 135, 136, 137, 138, 139, 140, 141] (by decide +kernel) (by decide +kernel)
set_option maxRecDepth 20000 in
theorem gX10_about_X10_alikes : GoodIn wsX10_about (wsV RX10 194 RX10 yX10_alikes wsX10_alikes) := goodIn_app (goodIn_of _ (by decide +kernel)) ggX10_about_X10_alikes
set_option maxRecDepth 20000 in
theorem ggX10_about_X10_width : GoodIn wsX10_about wsX10_width := goodIn_r _ [85, 86, 87, 88, 7, 89, 1, 5, 6, 8, 90, 91, 92, 93, 94, 95, 96, 107, 108, 109, 110, 111, 112, 113, 114, 115, 116, 117, 118, 119, 120, 121, 122, 123, 124, 125, 126, 127, 128, 129, 130, 131, 132, 133, 134, 135, 136, 137, 138, 139, 140, 141] (by decide +kernel) (by decide +kernel)
set_option maxRecDepth 20000 in
theorem gX10_about_X10_width : GoodIn wsX10_about (wsV RX10 197 RX10 yX10_width wsX10_width) := goodIn_app (goodIn_of _ (by decide +kernel)) ggX10_about_X10_width
set_option maxRecDepth 20000 in
theorem ggX10_about_X10_left : GoodIn wsX10_about wsX10_left := goodIn_r _ [100, 1, 28, 29, 7, 30, 31, 32, 33, 34, 35, 36, 37, 38, 39, 40, 41, 42, 43, 44, 45, 46, 47, 48, 49, 50, 20, 51, 52, 19, 53, 54, 55, 56, 27, 22, 57, 58, 59, 60, 61, 62, 63, 64, 65, 66, 67, 68, 69, 70, 71, 72, 101, 102, 103, 104, 3, 105, 106, 107, 108, 109, 110, 111, 112, 113, 114, 115, 116, 117, 118, 119, 120, 121, 122, 123, 124, 125, 126, 127, 128, 129, 130, 131, 132, 133, 134, 135, 136, 137, 138, 139, 140, 141] (by decide +kernel) (by decide +kernel)
set_option maxRecDepth 20000 in
theorem gX10_about_X10_left : GoodIn wsX10_about (wsV RX10 200 RX10 yX10_left wsX10_left) := goodIn_app (goodIn_of _ (by decide +kernel)) ggX10_about_X10_left
set_option maxRecDepth 20000 in
theorem ggX10_level_X10_isTick : GoodIn wsX10_level wsX10_isTick := goodIn_r _ [5, 6, 7, 4, 8] (by decide +kernel) (by decide +kernel)
set_option maxRecDepth 20000 in
theorem gX10_level_X10_isTick : GoodIn wsX10_level (va_wsS RX10 117 yX10_isTick wsX10_isTick) := goodIn_app (goodIn_of _ (by decide +kernel)) ggX10_level_X10_isTick
set_option maxRecDepth 20000 in
theorem ggX10_run_X10_runOf : GoodIn wsX10_run wsX10_runOf := goodIn_r _ [5, 6, 7, 8, 9, 10, 11, 12, 13, 14, 15, 16, 17, 18, 19, 20, 21, 22, 23, 24, 25, 26, 27, 28, 29, 30, 31, 32, 33, 34, 35, 36, 37, 38, 39, 40, 41] (by decide +kernel) (by decide +kernel)
set_option maxRecDepth 20000 in
theorem gX10_run_X10_runOf : GoodIn wsX10_run (wsV RX10 175 RX10 yX10_runOf wsX10_runOf) := goodIn_app (goodIn_of _ (by decide +kernel)) ggX10_run_X10_runOf
set_option maxRecDepth 20000 in
theorem ggX10_off_X10_in : GoodIn wsX10_off wsX10_in := goodIn_r _ [5] (by decide +kernel) (by decide +kernel)
set_option maxRecDepth 20000 in
theorem gX10_off_X10_in : GoodIn wsX10_off (va_wsS RX10 53 yX10_in wsX10_in) := goodIn_app (goodIn_of _ (by decide +kernel)) ggX10_off_X10_in
set_option maxRecDepth 20000 in
theorem ggX10_off_X10_offBy : GoodIn wsX10_off wsX10_offBy := goodIn_r _ [9, 10, 11, 12, 4, 13, 14, 15, 16, 17, 18, 19, 20, 21, 22, 23, 24, 25, 26, 27, 28, 29, 30, 31, 32, 33, 34, 35, 36, 37, 38, 39, 40, 41, 42, 43, 44, 45, 46, 47, 48, 49, 50, 51, 52, 53, 54, 55] (by decide +kernel) (by decide +kernel)
set_option maxRecDepth 20000 in
theorem gX10_off_X10_offBy : GoodIn wsX10_off (wsV RX10 182 RX10 yX10_offBy wsX10_offBy) := goodIn_app (goodIn_of _ (by decide +kernel)) ggX10_off_X10_offBy
set_option maxRecDepth 20000 in
theorem ggX10_hear_X10_in : GoodIn wsX10_hear wsX10_in := goodIn_r _ [6] (by decide +kernel) (by decide +kernel)
set_option maxRecDepth 20000 in
theorem gX10_hear_X10_in : GoodIn wsX10_hear (va_wsS RX10 53 yX10_in wsX10_in) := goodIn_app (goodIn_of _ (by decide +kernel)) ggX10_hear_X10_in
set_option maxRecDepth 20000 in
theorem ggX10_hear_X10_note : GoodIn wsX10_hear wsX10_note := goodIn_r _ [10, 11, 12, 2, 13, 17, 18, 19, 20, 21, 22, 23, 24, 25, 26, 27, 28, 29, 30, 31, 32, 33, 34, 35, 36, 37, 38, 39, 40, 41, 42, 43, 44, 45, 46, 47, 48, 49, 50, 51] (by decide +kernel) (by decide +kernel)
set_option maxRecDepth 20000 in
theorem gX10_hear_X10_note : GoodIn wsX10_hear (wsV RX10 209 RX10 yX10_note wsX10_note) := goodIn_app (goodIn_of _ (by decide +kernel)) ggX10_hear_X10_note
set_option maxRecDepth 20000 in
theorem ggX10_hear_X10_hearOn : GoodIn wsX10_hear wsX10_hearOn := goodIn_r _ [16] (by decide +kernel) (by decide +kernel)
set_option maxRecDepth 20000 in
theorem gX10_hear_X10_hearOn : GoodIn wsX10_hear (va_wsS RX10 212 yX10_hearOn wsX10_hearOn) := goodIn_app (goodIn_of _ (by decide +kernel)) ggX10_hear_X10_hearOn
set_option maxRecDepth 20000 in
theorem ggX10_hasRoom_X10_frameBits : GoodIn wsX10_hasRoom wsX10_frameBits := goodIn_r _ [6, 7, 8, 9, 10, 11, 12, 13, 14, 15, 16, 17, 18, 19, 20, 21, 22, 23, 24, 25, 26, 27, 28, 29, 30, 31, 32, 33, 34, 35, 36, 37, 38, 39, 40, 41, 42, 43, 44] (by decide +kernel) (by decide +kernel)
set_option maxRecDepth 20000 in
theorem gX10_hasRoom_X10_frameBits : GoodIn wsX10_hasRoom (wsV RX10 114 RX10 yX10_frameBits wsX10_frameBits) := goodIn_app (goodIn_of _ (by decide +kernel)) ggX10_hasRoom_X10_frameBits
set_option maxRecDepth 20000 in
theorem ggX10_sendOn_X10_hearOn : GoodIn wsX10_sendOn wsX10_hearOn := goodIn_r _ [9] (by decide +kernel) (by decide +kernel)
set_option maxRecDepth 20000 in
theorem gX10_sendOn_X10_hearOn : GoodIn wsX10_sendOn (va_wsS RX10 212 yX10_hearOn wsX10_hearOn) := goodIn_app (goodIn_of _ (by decide +kernel)) ggX10_sendOn_X10_hearOn
set_option maxRecDepth 20000 in
theorem ggX10_send_X10_layCode : GoodIn wsX10_send wsX10_layCode := goodIn_r _ [7, 8, 9, 10, 11, 12, 13, 14, 15, 16, 17, 18, 6, 19, 42, 43, 44, 45, 46, 47, 48, 49, 50, 51, 52, 53, 54, 55, 56, 57, 58, 59, 60, 61, 62, 63, 64, 65, 66, 67, 68, 69, 70, 71, 72, 73, 74, 75, 76] (by decide +kernel) (by decide +kernel)
set_option maxRecDepth 20000 in
theorem gX10_send_X10_layCode : GoodIn wsX10_send (wsV RX10 152 RX10 yX10_layCode wsX10_layCode) := goodIn_app (goodIn_of _ (by decide +kernel)) ggX10_send_X10_layCode
set_option maxRecDepth 20000 in
theorem ggX10_send_X10_in : GoodIn wsX10_send wsX10_in := goodIn_r _ [19] (by decide +kernel) (by decide +kernel)
set_option maxRecDepth 20000 in
theorem gX10_send_X10_in : GoodIn wsX10_send (va_wsS RX10 53 yX10_in wsX10_in) := goodIn_app (goodIn_of _ (by decide +kernel)) ggX10_send_X10_in
set_option maxRecDepth 20000 in
theorem ggX10_send_X10_hasRoom : GoodIn wsX10_send wsX10_hasRoom := goodIn_r _ [23, 8, 24, 25, 26, 6, 27, 9, 10, 11, 42, 43, 44, 45, 46, 47, 48, 49, 50, 51, 52, 53, 54, 55, 56, 57, 58, 59, 60, 61, 62, 63, 64, 65, 66, 67, 68, 69, 70, 71, 72, 73, 74, 75, 76] (by decide +kernel) (by decide +kernel)
set_option maxRecDepth 20000 in
theorem gX10_send_X10_hasRoom : GoodIn wsX10_send (wsV RX10 216 RX10 yX10_hasRoom wsX10_hasRoom) := goodIn_app (goodIn_of _ (by decide +kernel)) ggX10_send_X10_hasRoom
set_option maxRecDepth 20000 in
theorem ggX10_send_X10_note : GoodIn wsX10_send wsX10_note := goodIn_r _ [31, 32, 33, 2, 34, 42, 43, 44, 45, 46, 47, 48, 49, 50, 51, 52, 53, 54, 55, 56, 57, 58, 59, 60, 61, 62, 63, 64, 65, 66, 67, 68, 69, 70, 71, 72, 73, 74, 75, 76] (by decide +kernel) (by decide +kernel)
set_option maxRecDepth 20000 in
theorem gX10_send_X10_note : GoodIn wsX10_send (wsV RX10 209 RX10 yX10_note wsX10_note) := goodIn_app (goodIn_of _ (by decide +kernel)) ggX10_send_X10_note
set_option maxRecDepth 20000 in
theorem ggX10_send_X10_sendOn : GoodIn wsX10_send wsX10_sendOn := goodIn_r _ [38, 12, 8, 9, 10, 11, 39, 40, 6, 41, 42, 43, 44, 45, 46, 47, 48, 49, 50, 51, 52, 53, 54, 55, 56, 57, 58, 59, 60, 61, 62, 63, 64, 65, 66, 67, 68, 69, 70, 71, 72, 73, 74, 75, 76] (by decide +kernel) (by decide +kernel)
set_option maxRecDepth 20000 in
theorem gX10_send_X10_sendOn : GoodIn wsX10_send (wsV RX10 220 RX10 yX10_sendOn wsX10_sendOn) := goodIn_app (goodIn_of _ (by decide +kernel)) ggX10_send_X10_sendOn
set_option maxRecDepth 20000 in
theorem ggX10_flip_X10_isTick : GoodIn wsX10_flip wsX10_isTick := goodIn_r _ [5, 6, 7, 4, 8] (by decide +kernel) (by decide +kernel)
set_option maxRecDepth 20000 in
theorem gX10_flip_X10_isTick : GoodIn wsX10_flip (va_wsS RX10 117 yX10_isTick wsX10_isTick) := goodIn_app (goodIn_of _ (by decide +kernel)) ggX10_flip_X10_isTick
set_option maxRecDepth 20000 in
theorem ggX10_flip_X10_note : GoodIn wsX10_flip wsX10_note := goodIn_r _ [12, 13, 14, 1, 15, 16, 17, 18, 19, 20, 21, 22, 23, 24, 25, 26, 27, 28, 29, 30, 31, 32, 33, 34, 35, 36, 37, 38, 39, 40, 41, 42, 43, 44, 45, 46, 47, 48, 49, 50] (by decide +kernel) (by decide +kernel)
set_option maxRecDepth 20000 in
theorem gX10_flip_X10_note : GoodIn wsX10_flip (wsV RX10 209 RX10 yX10_note wsX10_note) := goodIn_app (goodIn_of _ (by decide +kernel)) ggX10_flip_X10_note
set_option maxRecDepth 20000 in
theorem ggX10_cut_X10_in : GoodIn wsX10_cut wsX10_in := goodIn_r _ [5] (by decide +kernel) (by decide +kernel)
set_option maxRecDepth 20000 in
theorem gX10_cut_X10_in : GoodIn wsX10_cut (va_wsS RX10 53 yX10_in wsX10_in) := goodIn_app (goodIn_of _ (by decide +kernel)) ggX10_cut_X10_in
set_option maxRecDepth 20000 in
theorem ggX10_cut_X10_note : GoodIn wsX10_cut wsX10_note := goodIn_r _ [9, 10, 11, 1, 12, 16, 17, 18, 19, 20, 21, 22, 23, 24, 25, 26, 27, 28, 29, 30, 31, 32, 33, 34, 35, 36, 37, 38, 39, 40, 41, 42, 43, 44, 45, 46, 47, 48, 49, 50] (by decide +kernel) (by decide +kernel)
set_option maxRecDepth 20000 in
theorem gX10_cut_X10_note : GoodIn wsX10_cut (wsV RX10 209 RX10 yX10_note wsX10_note) := goodIn_app (goodIn_of _ (by decide +kernel)) ggX10_cut_X10_note
set_option maxRecDepth 20000 in
theorem ggX10_cut_X10_cutOn : GoodIn wsX10_cut wsX10_cutOn := goodIn_r _ [15] (by decide +kernel) (by decide +kernel)
set_option maxRecDepth 20000 in
theorem gX10_cut_X10_cutOn : GoodIn wsX10_cut (va_wsS RX10 224 yX10_cutOn wsX10_cutOn) := goodIn_app (goodIn_of _ (by decide +kernel)) ggX10_cut_X10_cutOn
set_option maxRecDepth 20000 in
theorem ggX10_guess_X10_layCode : GoodIn wsX10_guess wsX10_layCode := goodIn_r _ [11, 12, 13, 14, 15, 16, 17, 18, 19, 20, 21, 22, 10, 23, 54, 55, 56, 57, 58, 59, 60, 61, 62, 63, 64, 65, 66, 67, 68, 69, 70, 71, 72, 73, 74, 75, 76, 77, 78, 79, 80, 81, 82, 83, 84, 85, 86, 87, 88] (by decide +kernel) (by decide +kernel)
set_option maxRecDepth 20000 in
theorem gX10_guess_X10_layCode : GoodIn wsX10_guess (wsV RX10 152 RX10 yX10_layCode wsX10_layCode) := goodIn_app (goodIn_of _ (by decide +kernel)) ggX10_guess_X10_layCode
set_option maxRecDepth 20000 in
theorem ggX10_guess_X10_in : GoodIn wsX10_guess wsX10_in := goodIn_r _ [23] (by decide +kernel) (by decide +kernel)
set_option maxRecDepth 20000 in
theorem gX10_guess_X10_in : GoodIn wsX10_guess (va_wsS RX10 53 yX10_in wsX10_in) := goodIn_app (goodIn_of _ (by decide +kernel)) ggX10_guess_X10_in
set_option maxRecDepth 20000 in
theorem ggX10_guess_X10_layDeep : GoodIn wsX10_guess wsX10_layDeep := goodIn_r _ [27, 28, 54, 55, 56, 57, 58, 59, 60, 61, 62, 63, 64, 65, 66, 67, 68, 69, 70, 71, 72, 73, 74, 75, 76, 77, 78, 79, 80, 81, 82, 83, 84, 85, 86, 87, 88] (by decide +kernel) (by decide +kernel)
set_option maxRecDepth 20000 in
theorem gX10_guess_X10_layDeep : GoodIn wsX10_guess (wsV RX10 141 RX10 yX10_layDeep wsX10_layDeep) := goodIn_app (goodIn_of _ (by decide +kernel)) ggX10_guess_X10_layDeep
set_option maxRecDepth 20000 in
theorem ggX10_guess_X10_read : GoodIn wsX10_guess wsX10_read := goodIn_r _ [32, 3, 4, 5, 6, 16, 12, 33, 34, 35, 10, 36, 13, 14, 28, 37, 38, 39, 40, 41, 42, 15, 43, 44, 45, 21, 22, 23, 46, 47, 48, 49, 54, 55, 56, 57, 58, 59, 60, 61, 62, 63, 64, 65, 66, 67, 68, 69, 70, 71, 72, 73, 74, 75, 76, 77, 78, 79, 80, 81, 82, 83, 84, 85, 86, 87, 88] (by decide +kernel) (by decide +kernel)
set_option maxRecDepth 20000 in
theorem gX10_guess_X10_read : GoodIn wsX10_guess (wsV RX10 155 RX10 yX10_read wsX10_read) := goodIn_app (goodIn_of _ (by decide +kernel)) ggX10_guess_X10_read
set_option maxRecDepth 20000 in
theorem ggX10_guess_X10_fits : GoodIn wsX10_guess wsX10_fits := goodIn_r _ [53, 4, 3, 54, 55, 56, 57, 58, 59, 60, 61, 62, 63, 64, 65, 66, 67, 68, 69, 70, 71, 72, 73, 74, 75, 76, 77, 78, 79, 80, 81, 82, 83, 84, 85, 86, 87, 88] (by decide +kernel) (by decide +kernel)
set_option maxRecDepth 20000 in
theorem gX10_guess_X10_fits : GoodIn wsX10_guess (wsV RX10 158 RX10 yX10_fits wsX10_fits) := goodIn_app (goodIn_of _ (by decide +kernel)) ggX10_guess_X10_fits
set_option maxRecDepth 20000 in
theorem ggX10_letter_X10_layCode : GoodIn wsX10_letter wsX10_layCode := goodIn_r _ [9, 10, 11, 12, 13, 14, 15, 16, 17, 18, 19, 20, 8, 21, 45, 46, 47, 48, 49, 50, 51, 52, 53, 54, 55, 56, 57, 58, 59, 60, 61, 62, 63, 64, 65, 66, 67, 68, 69, 70, 71, 72, 73, 74, 75, 76, 77, 78, 79] (by decide +kernel) (by decide +kernel)
set_option maxRecDepth 20000 in
theorem gX10_letter_X10_layCode : GoodIn wsX10_letter (wsV RX10 152 RX10 yX10_layCode wsX10_layCode) := goodIn_app (goodIn_of _ (by decide +kernel)) ggX10_letter_X10_layCode
set_option maxRecDepth 20000 in
theorem ggX10_letter_X10_read : GoodIn wsX10_letter wsX10_read := goodIn_r _ [25, 2, 26, 27, 28, 14, 10, 29, 30, 31, 8, 32, 11, 12, 33, 4, 3, 34, 35, 36, 37, 13, 38, 39, 40, 19, 20, 21, 41, 42, 43, 44, 45, 46, 47, 48, 49, 50, 51, 52, 53, 54, 55, 56, 57, 58, 59, 60, 61, 62, 63, 64, 65, 66, 67, 68, 69, 70, 71, 72, 73, 74, 75, 76, 77, 78, 79] (by decide +kernel) (by decide +kernel)
set_option maxRecDepth 20000 in
theorem gX10_letter_X10_read : GoodIn wsX10_letter (wsV RX10 155 RX10 yX10_read wsX10_read) := goodIn_app (goodIn_of _ (by decide +kernel)) ggX10_letter_X10_read
set_option maxRecDepth 20000 in
theorem ggX10_letter_X10_in : GoodIn wsX10_letter wsX10_in := goodIn_r _ [21] (by decide +kernel) (by decide +kernel)
set_option maxRecDepth 20000 in
theorem gX10_letter_X10_in : GoodIn wsX10_letter (va_wsS RX10 53 yX10_in wsX10_in) := goodIn_app (goodIn_of _ (by decide +kernel)) ggX10_letter_X10_in
set_option maxRecDepth 20000 in
theorem ggX10_judged_X10_hearOn : GoodIn wsX10_judged wsX10_hearOn := goodIn_r _ [6] (by decide +kernel) (by decide +kernel)
set_option maxRecDepth 20000 in
theorem gX10_judged_X10_hearOn : GoodIn wsX10_judged (va_wsS RX10 212 yX10_hearOn wsX10_hearOn) := goodIn_app (goodIn_of _ (by decide +kernel)) ggX10_judged_X10_hearOn
set_option maxRecDepth 20000 in
theorem ggX10_judged_X10_isTick : GoodIn wsX10_judged wsX10_isTick := goodIn_r _ [9, 10, 11, 5, 12] (by decide +kernel) (by decide +kernel)
set_option maxRecDepth 20000 in
theorem gX10_judged_X10_isTick : GoodIn wsX10_judged (va_wsS RX10 117 yX10_isTick wsX10_isTick) := goodIn_app (goodIn_of _ (by decide +kernel)) ggX10_judged_X10_isTick
set_option maxRecDepth 20000 in
theorem ggX10_judged_X10_edges : GoodIn wsX10_judged wsX10_edges := goodIn_r _ [15] (by decide +kernel) (by decide +kernel)
set_option maxRecDepth 20000 in
theorem gX10_judged_X10_edges : GoodIn wsX10_judged (va_wsS RX10 172 yX10_edges wsX10_edges) := goodIn_app (goodIn_of _ (by decide +kernel)) ggX10_judged_X10_edges
set_option maxRecDepth 20000 in
theorem ggX10_judged_X10_in : GoodIn wsX10_judged wsX10_in := goodIn_r _ [12] (by decide +kernel) (by decide +kernel)
set_option maxRecDepth 20000 in
theorem gX10_judged_X10_in : GoodIn wsX10_judged (va_wsS RX10 53 yX10_in wsX10_in) := goodIn_app (goodIn_of _ (by decide +kernel)) ggX10_judged_X10_in
set_option maxRecDepth 20000 in
theorem ggX10_judged_X10_cutOn : GoodIn wsX10_judged wsX10_cutOn := goodIn_r _ [18] (by decide +kernel) (by decide +kernel)
set_option maxRecDepth 20000 in
theorem gX10_judged_X10_cutOn : GoodIn wsX10_judged (va_wsS RX10 224 yX10_cutOn wsX10_cutOn) := goodIn_app (goodIn_of _ (by decide +kernel)) ggX10_judged_X10_cutOn
set_option maxRecDepth 20000 in
theorem ggX10_judged_X10_best : GoodIn wsX10_judged wsX10_best := goodIn_r _ [22, 23, 24, 25, 26, 2, 27, 28, 29, 30, 5, 31, 32, 33, 34, 35, 36, 37, 38, 39, 40, 41, 42, 43, 44, 45, 46, 47, 48, 10, 11, 12, 49, 50, 51, 52, 53, 54, 55, 56, 57, 58, 59, 60, 61, 62, 63, 7, 8, 9, 64, 65, 66, 67, 68, 69, 70, 71, 72, 73, 74, 75, 76, 77, 78, 79, 80, 81, 82, 83, 84, 85, 86, 87, 88, 89, 90, 91, 92, 93, 94, 95, 96, 97, 98, 99, 100, 101, 102, 103, 104, 105, 106] (by decide +kernel) (by decide +kernel)
set_option maxRecDepth 20000 in
theorem gX10_judged_X10_best : GoodIn wsX10_judged (wsV RX10 165 RX10 yX10_best wsX10_best) := goodIn_app (goodIn_of _ (by decide +kernel)) ggX10_judged_X10_best
set_option maxRecDepth 20000 in
theorem ggX10_judge_X10_in : GoodIn wsX10_judge wsX10_in := goodIn_r _ [8] (by decide +kernel) (by decide +kernel)
set_option maxRecDepth 20000 in
theorem gX10_judge_X10_in : GoodIn wsX10_judge (va_wsS RX10 53 yX10_in wsX10_in) := goodIn_app (goodIn_of _ (by decide +kernel)) ggX10_judge_X10_in
set_option maxRecDepth 20000 in
theorem ggX10_judge_X10_tenThousands : GoodIn wsX10_judge wsX10_tenThousands := goodIn_r _ [11, 4] (by decide +kernel) (by decide +kernel)
set_option maxRecDepth 20000 in
theorem gX10_judge_X10_tenThousands : GoodIn wsX10_judge (va_wsS RX10 233 yX10_tenThousands wsX10_tenThousands) := goodIn_app (goodIn_of _ (by decide +kernel)) ggX10_judge_X10_tenThousands
set_option maxRecDepth 20000 in
theorem ggX10_judge_X10_copy : GoodIn wsX10_judge wsX10_copy := goodIn_r _ [14] (by decide +kernel) (by decide +kernel)
set_option maxRecDepth 20000 in
theorem gX10_judge_X10_copy : GoodIn wsX10_judge (va_wsS RX10 237 yX10_copy wsX10_copy) := goodIn_app (goodIn_of _ (by decide +kernel)) ggX10_judge_X10_copy
set_option maxRecDepth 20000 in
theorem ggX10_judge_X10_judged : GoodIn wsX10_judge wsX10_judged := goodIn_r _ [18, 3, 19, 20, 21, 7, 22, 23, 24, 25, 5, 6, 8, 26, 27, 28, 29, 30, 31, 32, 33, 34, 35, 36, 37, 38, 39, 40, 41, 42, 43, 44, 45, 46, 47, 48, 49, 50, 51, 52, 53, 54, 55, 56, 57, 58, 59, 60, 61, 62, 63, 64, 65, 66, 67, 68, 69, 70, 71, 72, 73, 74, 75, 76, 77, 78, 79, 80, 81, 82, 83, 84, 85, 86, 87, 88, 89, 90, 91, 92, 93, 94, 95, 96, 97, 98, 99, 100, 101, 102, 103, 104, 105, 106, 107, 108, 109, 110, 111, 112, 113, 114, 115, 116, 117, 118, 119] (by decide +kernel) (by decide +kernel)
set_option maxRecDepth 20000 in
theorem gX10_judge_X10_judged : GoodIn wsX10_judge (wsV RX10 241 RX10 yX10_judged wsX10_judged) := goodIn_app (goodIn_of _ (by decide +kernel)) ggX10_judge_X10_judged
set_option maxRecDepth 20000 in
theorem ggX10_know_X10_in : GoodIn wsX10_know wsX10_in := goodIn_r _ [9] (by decide +kernel) (by decide +kernel)
set_option maxRecDepth 20000 in
theorem gX10_know_X10_in : GoodIn wsX10_know (va_wsS RX10 53 yX10_in wsX10_in) := goodIn_app (goodIn_of _ (by decide +kernel)) ggX10_know_X10_in
set_option maxRecDepth 20000 in
theorem ggX10_share_X10_in : GoodIn wsX10_share wsX10_in := goodIn_r _ [6] (by decide +kernel) (by decide +kernel)
set_option maxRecDepth 20000 in
theorem gX10_share_X10_in : GoodIn wsX10_share (va_wsS RX10 53 yX10_in wsX10_in) := goodIn_app (goodIn_of _ (by decide +kernel)) ggX10_share_X10_in
set_option maxRecDepth 20000 in
theorem ggX10_share_X10_left : GoodIn wsX10_share wsX10_left := goodIn_r _ [10, 11, 12, 13, 5, 14, 15, 16, 17, 18, 19, 20, 21, 22, 23, 24, 25, 26, 27, 3, 4, 6, 28, 29, 30, 31, 32, 33, 34, 35, 36, 37, 38, 39, 40, 41, 42, 43, 44, 45, 46, 47, 48, 49, 50, 51, 52, 53, 54, 55, 56, 57, 58, 59, 60, 61, 1, 62, 63, 73, 74, 75, 76, 77, 78, 79, 80, 81, 82, 83, 84, 85, 86, 87, 88, 89, 90, 91, 92, 93, 94, 95, 96, 97, 98, 99, 100, 101, 102, 103, 104, 105, 106, 107] (by decide +kernel) (by decide +kernel)
set_option maxRecDepth 20000 in
theorem gX10_share_X10_left : GoodIn wsX10_share (wsV RX10 200 RX10 yX10_left wsX10_left) := goodIn_app (goodIn_of _ (by decide +kernel)) ggX10_share_X10_left
set_option maxRecDepth 20000 in
theorem ggX10_share_X10_ones : GoodIn wsX10_share wsX10_ones := goodIn_r _ [66] (by decide +kernel) (by decide +kernel)
set_option maxRecDepth 20000 in
theorem gX10_share_X10_ones : GoodIn wsX10_share (va_wsS RX10 245 yX10_ones wsX10_ones) := goodIn_app (goodIn_of _ (by decide +kernel)) ggX10_share_X10_ones
set_option maxRecDepth 20000 in
theorem ggX10_share_X10_factorial : GoodIn wsX10_share wsX10_factorial := goodIn_r _ [69] (by decide +kernel) (by decide +kernel)
set_option maxRecDepth 20000 in
theorem gX10_share_X10_factorial : GoodIn wsX10_share (va_wsS RX10 248 yX10_factorial wsX10_factorial) := goodIn_app (goodIn_of _ (by decide +kernel)) ggX10_share_X10_factorial
set_option maxRecDepth 20000 in
theorem ggX10_share_X10_fraction : GoodIn wsX10_share wsX10_fraction := goodIn_r _ [72] (by decide +kernel) (by decide +kernel)
set_option maxRecDepth 20000 in
theorem gX10_share_X10_fraction : GoodIn wsX10_share (va_wsS RX10 251 yX10_fraction wsX10_fraction) := goodIn_app (goodIn_of _ (by decide +kernel)) ggX10_share_X10_fraction
set_option maxRecDepth 20000 in
theorem ggX10_flipSome_X10_copy : GoodIn wsX10_flipSome wsX10_copy := goodIn_r _ [6] (by decide +kernel) (by decide +kernel)
set_option maxRecDepth 20000 in
theorem gX10_flipSome_X10_copy : GoodIn wsX10_flipSome (va_wsS RX10 237 yX10_copy wsX10_copy) := goodIn_app (goodIn_of _ (by decide +kernel)) ggX10_flipSome_X10_copy
set_option maxRecDepth 20000 in
theorem ggX10_chance_X10_layCode : GoodIn wsX10_chance wsX10_layCode := goodIn_r _ [9, 10, 11, 12, 13, 14, 15, 16, 17, 18, 19, 20, 8, 21, 71, 72, 73, 74, 75, 76, 77, 78, 79, 80, 81, 82, 83, 84, 85, 86, 87, 88, 89, 90, 91, 92, 93, 94, 95, 96, 97, 98, 99, 100, 101, 102, 103, 104, 105] (by decide +kernel) (by decide +kernel)
set_option maxRecDepth 20000 in
theorem gX10_chance_X10_layCode : GoodIn wsX10_chance (wsV RX10 152 RX10 yX10_layCode wsX10_layCode) := goodIn_app (goodIn_of _ (by decide +kernel)) ggX10_chance_X10_layCode
set_option maxRecDepth 20000 in
theorem ggX10_chance_X10_in : GoodIn wsX10_chance wsX10_in := goodIn_r _ [21] (by decide +kernel) (by decide +kernel)
set_option maxRecDepth 20000 in
theorem gX10_chance_X10_in : GoodIn wsX10_chance (va_wsS RX10 53 yX10_in wsX10_in) := goodIn_app (goodIn_of _ (by decide +kernel)) ggX10_chance_X10_in
set_option maxRecDepth 20000 in
theorem ggX10_chance_X10_edges : GoodIn wsX10_chance wsX10_edges := goodIn_r _ [24] (by decide +kernel) (by decide +kernel)
set_option maxRecDepth 20000 in
theorem gX10_chance_X10_edges : GoodIn wsX10_chance (va_wsS RX10 172 yX10_edges wsX10_edges) := goodIn_app (goodIn_of _ (by decide +kernel)) ggX10_chance_X10_edges
set_option maxRecDepth 20000 in
theorem ggX10_chance_X10_flipSome : GoodIn wsX10_chance wsX10_flipSome := goodIn_r _ [28, 3, 4, 29, 30, 8, 31, 71, 72, 73, 74, 75, 76, 77, 78, 79, 80, 81, 82, 83, 84, 85, 86, 87, 88, 89, 90, 91, 92, 93, 94, 95, 96, 97, 98, 99, 100, 101, 102, 103, 104, 105] (by decide +kernel) (by decide +kernel)
set_option maxRecDepth 20000 in
theorem gX10_chance_X10_flipSome : GoodIn wsX10_chance (wsV RX10 259 RX10 yX10_flipSome wsX10_flipSome) := goodIn_app (goodIn_of _ (by decide +kernel)) ggX10_chance_X10_flipSome
set_option maxRecDepth 20000 in
theorem ggX10_chance_X10_read : GoodIn wsX10_chance wsX10_read := goodIn_r _ [35, 36, 37, 38, 39, 14, 10, 40, 41, 42, 8, 43, 11, 12, 44, 45, 46, 47, 48, 49, 50, 13, 51, 52, 53, 19, 20, 21, 54, 55, 56, 57, 71, 72, 73, 74, 75, 76, 77, 78, 79, 80, 81, 82, 83, 84, 85, 86, 87, 88, 89, 90, 91, 92, 93, 94, 95, 96, 97, 98, 99, 100, 101, 102, 103, 104, 105] (by decide +kernel) (by decide +kernel)
set_option maxRecDepth 20000 in
theorem gX10_chance_X10_read : GoodIn wsX10_chance (wsV RX10 155 RX10 yX10_read wsX10_read) := goodIn_app (goodIn_of _ (by decide +kernel)) ggX10_chance_X10_read
set_option maxRecDepth 20000 in
theorem ggX10_chance_X10_fits : GoodIn wsX10_chance wsX10_fits := goodIn_r _ [61, 37, 36, 71, 72, 73, 74, 75, 76, 77, 78, 79, 80, 81, 82, 83, 84, 85, 86, 87, 88, 89, 90, 91, 92, 93, 94, 95, 96, 97, 98, 99, 100, 101, 102, 103, 104, 105] (by decide +kernel) (by decide +kernel)
set_option maxRecDepth 20000 in
theorem gX10_chance_X10_fits : GoodIn wsX10_chance (wsV RX10 158 RX10 yX10_fits wsX10_fits) := goodIn_app (goodIn_of _ (by decide +kernel)) ggX10_chance_X10_fits
set_option maxRecDepth 20000 in
theorem ggX10_chance_X10_ones : GoodIn wsX10_chance wsX10_ones := goodIn_r _ [64] (by decide +kernel) (by decide +kernel)
set_option maxRecDepth 20000 in
theorem gX10_chance_X10_ones : GoodIn wsX10_chance (va_wsS RX10 245 yX10_ones wsX10_ones) := goodIn_app (goodIn_of _ (by decide +kernel)) ggX10_chance_X10_ones
set_option maxRecDepth 20000 in
theorem ggX10_chance_X10_power : GoodIn wsX10_chance wsX10_power := goodIn_r _ [67] (by decide +kernel) (by decide +kernel)
set_option maxRecDepth 20000 in
theorem gX10_chance_X10_power : GoodIn wsX10_chance (va_wsS RX10 263 yX10_power wsX10_power) := goodIn_app (goodIn_of _ (by decide +kernel)) ggX10_chance_X10_power
set_option maxRecDepth 20000 in
theorem ggX10_chance_X10_fraction : GoodIn wsX10_chance wsX10_fraction := goodIn_r _ [70] (by decide +kernel) (by decide +kernel)
set_option maxRecDepth 20000 in
theorem gX10_chance_X10_fraction : GoodIn wsX10_chance (va_wsS RX10 251 yX10_fraction wsX10_fraction) := goodIn_app (goodIn_of _ (by decide +kernel)) ggX10_chance_X10_fraction
set_option maxRecDepth 20000 in
theorem ggX10_drawn_X10_layCode : GoodIn wsX10_drawn wsX10_layCode := goodIn_r _ [13, 14, 15, 16, 17, 18, 19, 20, 21, 22, 23, 24, 12, 25, 65, 66, 67, 68, 69, 70, 71, 72, 73, 74, 75, 76, 77, 78, 79, 80, 81, 82, 83, 84, 85, 86, 87, 88, 89, 90, 91, 92, 93, 94, 95, 96, 97, 98, 99] (by decide +kernel) (by decide +kernel)
set_option maxRecDepth 20000 in
theorem gX10_drawn_X10_layCode : GoodIn wsX10_drawn (wsV RX10 152 RX10 yX10_layCode wsX10_layCode) := goodIn_app (goodIn_of _ (by decide +kernel)) ggX10_drawn_X10_layCode
set_option maxRecDepth 20000 in
theorem ggX10_drawn_X10_in : GoodIn wsX10_drawn wsX10_in := goodIn_r _ [25] (by decide +kernel) (by decide +kernel)
set_option maxRecDepth 20000 in
theorem gX10_drawn_X10_in : GoodIn wsX10_drawn (va_wsS RX10 53 yX10_in wsX10_in) := goodIn_app (goodIn_of _ (by decide +kernel)) ggX10_drawn_X10_in
set_option maxRecDepth 20000 in
theorem ggX10_drawn_X10_copy : GoodIn wsX10_drawn wsX10_copy := goodIn_r _ [28] (by decide +kernel) (by decide +kernel)
set_option maxRecDepth 20000 in
theorem gX10_drawn_X10_copy : GoodIn wsX10_drawn (va_wsS RX10 237 yX10_copy wsX10_copy) := goodIn_app (goodIn_of _ (by decide +kernel)) ggX10_drawn_X10_copy
set_option maxRecDepth 20000 in
theorem ggX10_drawn_X10_hasRoom : GoodIn wsX10_drawn wsX10_hasRoom := goodIn_r _ [32, 14, 33, 34, 35, 12, 36, 15, 16, 17, 65, 66, 67, 68, 69, 70, 71, 72, 73, 74, 75, 76, 77, 78, 79, 80, 81, 82, 83, 84, 85, 86, 87, 88, 89, 90, 91, 92, 93, 94, 95, 96, 97, 98, 99] (by decide +kernel) (by decide +kernel)
set_option maxRecDepth 20000 in
theorem gX10_drawn_X10_hasRoom : GoodIn wsX10_drawn (wsV RX10 216 RX10 yX10_hasRoom wsX10_hasRoom) := goodIn_app (goodIn_of _ (by decide +kernel)) ggX10_drawn_X10_hasRoom
set_option maxRecDepth 20000 in
theorem ggX10_drawn_X10_sendOn : GoodIn wsX10_drawn wsX10_sendOn := goodIn_r _ [40, 18, 14, 15, 16, 17, 41, 42, 12, 43, 65, 66, 67, 68, 69, 70, 71, 72, 73, 74, 75, 76, 77, 78, 79, 80, 81, 82, 83, 84, 85, 86, 87, 88, 89, 90, 91, 92, 93, 94, 95, 96, 97, 98, 99] (by decide +kernel) (by decide +kernel)
set_option maxRecDepth 20000 in
theorem gX10_drawn_X10_sendOn : GoodIn wsX10_drawn (wsV RX10 220 RX10 yX10_sendOn wsX10_sendOn) := goodIn_app (goodIn_of _ (by decide +kernel)) ggX10_drawn_X10_sendOn
set_option maxRecDepth 20000 in
theorem ggX10_drawn_X10_isTick : GoodIn wsX10_drawn wsX10_isTick := goodIn_r _ [46, 23, 24, 12, 25] (by decide +kernel) (by decide +kernel)
set_option maxRecDepth 20000 in
theorem gX10_drawn_X10_isTick : GoodIn wsX10_drawn (va_wsS RX10 117 yX10_isTick wsX10_isTick) := goodIn_app (goodIn_of _ (by decide +kernel)) ggX10_drawn_X10_isTick
set_option maxRecDepth 20000 in
theorem ggX10_drawn_X10_read : GoodIn wsX10_drawn wsX10_read := goodIn_r _ [50, 8, 51, 52, 53, 18, 14, 54, 55, 56, 12, 57, 15, 16, 58, 59, 60, 33, 34, 35, 36, 17, 44, 45, 46, 23, 24, 25, 61, 62, 63, 64, 65, 66, 67, 68, 69, 70, 71, 72, 73, 74, 75, 76, 77, 78, 79, 80, 81, 82, 83, 84, 85, 86, 87, 88, 89, 90, 91, 92, 93, 94, 95, 96, 97, 98, 99] (by decide +kernel) (by decide +kernel)
set_option maxRecDepth 20000 in
theorem gX10_drawn_X10_read : GoodIn wsX10_drawn (wsV RX10 155 RX10 yX10_read wsX10_read) := goodIn_app (goodIn_of _ (by decide +kernel)) ggX10_drawn_X10_read
set_option maxRecDepth 20000 in
theorem ggX10_keep_X10_in : GoodIn wsX10_keep wsX10_in := goodIn_r _ [7] (by decide +kernel) (by decide +kernel)
set_option maxRecDepth 20000 in
theorem gX10_keep_X10_in : GoodIn wsX10_keep (va_wsS RX10 53 yX10_in wsX10_in) := goodIn_app (goodIn_of _ (by decide +kernel)) ggX10_keep_X10_in
set_option maxRecDepth 20000 in
theorem ggX10_again_X10_in : GoodIn wsX10_again wsX10_in := goodIn_r _ [8] (by decide +kernel) (by decide +kernel)
set_option maxRecDepth 20000 in
theorem gX10_again_X10_in : GoodIn wsX10_again (va_wsS RX10 53 yX10_in wsX10_in) := goodIn_app (goodIn_of _ (by decide +kernel)) ggX10_again_X10_in
set_option maxRecDepth 20000 in
theorem ggL_law_X9_init : GoodIn wsL_law wsX9_init := goodIn_r _ [9, 10, 11, 12, 13, 14, 15, 16, 17, 18, 19, 20, 21, 22, 23, 24, 25, 26, 27, 28, 29, 30, 31, 32, 33, 34, 35, 36, 37, 38, 39, 40, 41, 42, 43, 44, 45, 46, 47, 48, 49, 50, 51, 52, 53, 54, 55, 56, 57, 58, 59, 60, 61, 62, 63, 64, 65, 66, 67, 68, 69, 70, 71, 72, 73, 74, 75, 76, 77, 78, 79, 80, 81, 82, 83, 84, 85, 86, 87, 88, 89, 90, 91, 92, 93, 94, 95, 96, 97, 98, 99, 100, 101, 102, 103, 104, 105, 106, 107, 108, 109, 110, 111, 112, 113, 114, 115, 116, 117, 118, 119, 120, 121, 122, 898, 899, 852, 853, 854, 855, 856, 857, 858, 859, 860, 861, 862, 900, 901, 902, 903, 904, 905, 906, 907, 908, 909, 910, 911, 912, 913, 914, 915, 916, 917, 918, 919, 920, 921, 922, 923, 924, 925, 926, 927, 928, 929, 930, 931, 932, 933, 934, 935, 936] (by decide +kernel) (by decide +kernel)
set_option maxRecDepth 20000 in
theorem gL_law_X9_init : GoodIn wsL_law (wsX9_init) := ggL_law_X9_init
set_option maxRecDepth 20000 in
theorem ggL_law_X10_init : GoodIn wsL_law wsX10_init := goodIn_r _ [125, 126, 11, 12, 46, 127, 128, 129, 130, 131, 64, 132, 133, 134, 135, 136, 137, 138, 139, 140, 863, 864, 865, 866, 867, 868, 869, 870, 871, 872, 873, 874, 875, 876, 877, 878, 879, 880, 881, 882, 883, 884, 885, 886, 887, 888, 889, 890, 891, 892, 893, 894, 895, 896, 897] (by decide +kernel) (by decide +kernel)
set_option maxRecDepth 20000 in
theorem gL_law_X10_init : GoodIn wsL_law (wsX10_init) := ggL_law_X10_init
set_option maxRecDepth 20000 in
theorem ggL_law_X9_write : GoodIn wsL_law wsX9_write := goodIn_r _ [144, 16, 145, 146, 2, 147, 148, 149, 150, 15, 151, 53, 152, 153, 154, 155, 52, 156, 852, 853, 854, 855, 856, 857, 858, 859, 860, 861, 862, 898, 899] (by decide +kernel) (by decide +kernel)
set_option maxRecDepth 20000 in
theorem gL_law_X9_write : GoodIn wsL_law (wsV RL 13 RX9 yX9_write wsX9_write) := goodIn_app (goodIn_of _ (by decide +kernel)) ggL_law_X9_write
set_option maxRecDepth 20000 in
theorem ggL_law_X10_write : GoodIn wsL_law wsX10_write := goodIn_r _ [160, 161, 162, 127, 163, 164, 5, 165, 863, 864, 865, 866, 867, 868, 869, 870, 871, 872, 873, 874, 875, 876, 877, 878, 879, 880, 881, 882, 883, 884, 885, 886, 887, 888, 889, 890, 891, 892, 893, 894, 895, 896, 897] (by decide +kernel) (by decide +kernel)
set_option maxRecDepth 20000 in
theorem gL_law_X10_write : GoodIn wsL_law (wsV RL 17 RX10 yX10_write wsX10_write) := goodIn_app (goodIn_of _ (by decide +kernel)) ggL_law_X10_write
set_option maxRecDepth 20000 in
theorem ggL_law_X9_wipe : GoodIn wsL_law wsX9_wipe := goodIn_r _ [169, 16, 852, 853, 854, 855, 856, 857, 858, 859, 860, 861, 862, 898, 899] (by decide +kernel) (by decide +kernel)
set_option maxRecDepth 20000 in
theorem gL_law_X9_wipe : GoodIn wsL_law (wsV RL 18 RX9 yX9_wipe wsX9_wipe) := goodIn_app (goodIn_of _ (by decide +kernel)) ggL_law_X9_wipe
set_option maxRecDepth 20000 in
theorem ggL_law_X10_wipe : GoodIn wsL_law wsX10_wipe := goodIn_r _ [173, 162, 863, 864, 865, 866, 867, 868, 869, 870, 871, 872, 873, 874, 875, 876, 877, 878, 879, 880, 881, 882, 883, 884, 885, 886, 887, 888, 889, 890, 891, 892, 893, 894, 895, 896, 897] (by decide +kernel) (by decide +kernel)
set_option maxRecDepth 20000 in
theorem gL_law_X10_wipe : GoodIn wsL_law (wsV RL 22 RX10 yX10_wipe wsX10_wipe) := goodIn_app (goodIn_of _ (by decide +kernel)) ggL_law_X10_wipe
set_option maxRecDepth 20000 in
theorem ggL_law_X9_fault : GoodIn wsL_law wsX9_fault := goodIn_r _ [177, 16, 178, 179, 180, 15, 181, 53, 182, 183, 184, 185, 52, 186, 187, 188, 189, 190, 191, 192, 193, 194, 195, 196, 197, 852, 853, 854, 855, 856, 857, 858, 859, 860, 861, 862, 898, 899] (by decide +kernel) (by decide +kernel)
set_option maxRecDepth 20000 in
theorem gL_law_X9_fault : GoodIn wsL_law (wsV RL 23 RX9 yX9_fault wsX9_fault) := goodIn_app (goodIn_of _ (by decide +kernel)) ggL_law_X9_fault
set_option maxRecDepth 20000 in
theorem ggL_law_X10_fault : GoodIn wsL_law wsX10_fault := goodIn_r _ [201, 202, 203, 204, 5, 205, 206, 207, 162, 127, 208, 209, 210, 211, 212, 213, 214, 140, 163, 164, 165, 863, 864, 865, 866, 867, 868, 869, 870, 871, 872, 873, 874, 875, 876, 877, 878, 879, 880, 881, 882, 883, 884, 885, 886, 887, 888, 889, 890, 891, 892, 893, 894, 895, 896, 897] (by decide +kernel) (by decide +kernel)
set_option maxRecDepth 20000 in
theorem gL_law_X10_fault : GoodIn wsL_law (wsV RL 26 RX10 yX10_fault wsX10_fault) := goodIn_app (goodIn_of _ (by decide +kernel)) ggL_law_X10_fault
set_option maxRecDepth 20000 in
theorem ggL_law_X9_take : GoodIn wsL_law wsX9_take := goodIn_r _ [218, 16, 20, 29, 25, 178, 179, 180, 15, 181, 53, 182, 183, 184, 185, 52, 186, 187, 188, 189, 190, 191, 192, 193, 194, 195, 196, 197, 219, 220, 221, 222, 223, 224, 225, 19, 226, 58, 227, 228, 229, 230, 231, 232, 233, 234, 57, 235, 236, 237, 28, 238, 74, 239, 240, 241, 24, 242, 65, 852, 853, 854, 855, 856, 857, 858, 859, 860, 861, 862, 900, 901, 898, 899, 904, 905, 906, 907, 908, 902, 903] (by decide +kernel) (by decide +kernel)
set_option maxRecDepth 20000 in
theorem gL_law_X9_take : GoodIn wsL_law (wsV RL 27 RX9 yX9_take wsX9_take) := goodIn_app (goodIn_of _ (by decide +kernel)) ggL_law_X9_take
set_option maxRecDepth 20000 in
theorem ggL_law_X10_take : GoodIn wsL_law wsX10_take := goodIn_r _ [246, 128, 206, 140, 247, 132, 202, 203, 204, 5, 205, 207, 162, 127, 208, 209, 210, 211, 212, 213, 214, 163, 164, 165, 863, 864, 865, 866, 867, 868, 869, 870, 871, 872, 873, 874, 875, 876, 877, 878, 879, 880, 881, 882, 883, 884, 885, 886, 887, 888, 889, 890, 891, 892, 893, 894, 895, 896, 897] (by decide +kernel) (by decide +kernel)
set_option maxRecDepth 20000 in
theorem gL_law_X10_take : GoodIn wsL_law (wsV RL 30 RX10 yX10_take wsX10_take) := goodIn_app (goodIn_of _ (by decide +kernel)) ggL_law_X10_take
set_option maxRecDepth 20000 in
theorem ggL_law_X9_about : GoodIn wsL_law wsX9_about := goodIn_r _ [251, 20, 41, 45, 33, 29, 16, 252, 253, 254, 40, 255, 103, 95, 256, 257, 258, 94, 259, 109, 110, 107, 108, 260, 261, 262, 19, 263, 58, 57, 264, 265, 266, 267, 268, 228, 229, 230, 269, 270, 271, 44, 272, 117, 118, 119, 120, 115, 273, 274, 275, 276, 36, 277, 84, 85, 86, 87, 88, 278, 279, 280, 281, 98, 99, 100, 101, 96, 97, 282, 283, 284, 285, 286, 287, 288, 289, 290, 291, 292, 293, 294, 295, 296, 297, 298, 299, 300, 301, 302, 303, 304, 305, 306, 307, 308, 309, 310, 311, 312, 313, 314, 315, 316, 317, 318, 319, 320, 321, 322, 323, 324, 325, 326, 327, 328, 329, 330, 331, 116, 332, 333, 334, 335, 336, 337, 338, 339, 340, 341, 342, 343, 344, 345, 346, 347, 348, 349, 350, 351, 352, 353, 354, 355, 356, 357, 358, 359, 360, 361, 362, 363, 364, 365, 366, 367, 368, 121, 122, 369, 370, 371, 32, 372, 80, 78, 79, 373, 374, 375, 376, 852, 853, 854, 855, 856, 857, 858, 859, 860, 861, 862, 900, 901, 917, 918, 919, 920, 921, 922, 923, 924, 925, 926, 927, 928, 929, 930, 931, 932, 904, 905, 906, 907, 908, 909, 910, 911, 898, 899, 933, 934, 935, 936, 912, 913, 914, 915, 916] (by decide +kernel) (by decide +kernel)
set_option maxRecDepth 20000 in
theorem gL_law_X9_about : GoodIn wsL_law (wsV RL 31 RX9 yX9_about wsX9_about) := goodIn_app (goodIn_of _ (by decide +kernel)) ggL_law_X9_about
set_option maxRecDepth 20000 in
theorem ggL_law_X10_about : GoodIn wsL_law wsX10_about := goodIn_r _ [380, 128, 247, 381, 162, 382, 383, 5, 384, 385, 386, 387, 388, 389, 390, 391, 392, 393, 394, 395, 396, 137, 135, 397, 398, 399, 400, 138, 401, 402, 403, 404, 405, 406, 407, 408, 409, 410, 411, 412, 413, 414, 415, 416, 163, 164, 165, 417, 418, 419, 420, 421, 422, 423, 424, 425, 426, 136, 427, 428, 429, 430, 431, 432, 433, 434, 435, 436, 437, 438, 439, 440, 441, 442, 443, 444, 445, 446, 447, 448, 449, 450, 451, 452, 453, 454, 455, 456, 457, 458, 459, 460, 461, 462, 463, 464, 465, 466, 467, 468, 469, 470, 471, 472, 473, 133, 134, 863, 864, 865, 866, 867, 868, 869, 870, 871, 872, 873, 874, 875, 876, 877, 878, 879, 880, 881, 882, 883, 884, 885, 886, 887, 888, 889, 890, 891, 892, 893, 894, 895, 896, 897] (by decide +kernel) (by decide +kernel)
set_option maxRecDepth 20000 in
theorem gL_law_X10_about : GoodIn wsL_law (wsV RL 34 RX10 yX10_about wsX10_about) := goodIn_app (goodIn_of _ (by decide +kernel)) ggL_law_X10_about
set_option maxRecDepth 20000 in
theorem ggL_law_X9_level : GoodIn wsL_law wsX9_level := goodIn_r _ [477, 20, 478, 310, 311, 19, 312, 58, 479, 291, 292, 293, 57, 852, 853, 854, 855, 856, 857, 858, 859, 860, 861, 862, 900, 901] (by decide +kernel) (by decide +kernel)
set_option maxRecDepth 20000 in
theorem gL_law_X9_level : GoodIn wsL_law (wsV RL 35 RX9 yX9_level wsX9_level) := goodIn_app (goodIn_of _ (by decide +kernel)) ggL_law_X9_level
set_option maxRecDepth 20000 in
theorem ggL_law_X10_level : GoodIn wsL_law wsX10_level := goodIn_r _ [483, 128, 431, 432, 5, 433, 163, 164, 165, 863, 864, 865, 866, 867, 868, 869, 870, 871, 872, 873, 874, 875, 876, 877, 878, 879, 880, 881, 882, 883, 884, 885, 886, 887, 888, 889, 890, 891, 892, 893, 894, 895, 896, 897] (by decide +kernel) (by decide +kernel)
set_option maxRecDepth 20000 in
theorem gL_law_X10_level : GoodIn wsL_law (wsV RL 38 RX10 yX10_level wsX10_level) := goodIn_app (goodIn_of _ (by decide +kernel)) ggL_law_X10_level
set_option maxRecDepth 20000 in
theorem ggL_law_X9_run : GoodIn wsL_law wsX9_run := goodIn_r _ [487, 41, 20, 252, 253, 254, 40, 255, 103, 95, 256, 257, 258, 94, 259, 109, 110, 107, 108, 260, 261, 262, 19, 263, 58, 57, 488, 489, 490, 491, 356, 287, 288, 289, 357, 358, 359, 360, 852, 853, 854, 855, 856, 857, 858, 859, 860, 861, 862, 917, 918, 919, 920, 921, 922, 923, 924, 900, 901, 933, 934, 935, 936] (by decide +kernel) (by decide +kernel)
set_option maxRecDepth 20000 in
theorem gL_law_X9_run : GoodIn wsL_law (wsV RL 39 RX9 yX9_run wsX9_run) := goodIn_app (goodIn_of _ (by decide +kernel)) ggL_law_X9_run
set_option maxRecDepth 20000 in
theorem ggL_law_X10_run : GoodIn wsL_law wsX10_run := goodIn_r _ [495, 459, 460, 461, 5, 462, 128, 863, 864, 865, 866, 867, 868, 869, 870, 871, 872, 873, 874, 875, 876, 877, 878, 879, 880, 881, 882, 883, 884, 885, 886, 887, 888, 889, 890, 891, 892, 893, 894, 895, 896, 897] (by decide +kernel) (by decide +kernel)
set_option maxRecDepth 20000 in
theorem gL_law_X10_run : GoodIn wsL_law (wsV RL 42 RX10 yX10_run wsX10_run) := goodIn_app (goodIn_of _ (by decide +kernel)) ggL_law_X10_run
set_option maxRecDepth 20000 in
theorem ggL_law_X9_off : GoodIn wsL_law wsX9_off := goodIn_r _ [499, 41, 20, 252, 253, 254, 40, 255, 103, 95, 256, 257, 258, 94, 259, 109, 110, 107, 108, 260, 261, 262, 19, 263, 58, 57, 500, 353, 354, 355, 356, 287, 288, 289, 357, 358, 359, 360, 361, 362, 363, 364, 299, 229, 300, 852, 853, 854, 855, 856, 857, 858, 859, 860, 861, 862, 917, 918, 919, 920, 921, 922, 923, 924, 900, 901, 933, 934, 935, 936] (by decide +kernel) (by decide +kernel)
set_option maxRecDepth 20000 in
theorem gL_law_X9_off : GoodIn wsL_law (wsV RL 43 RX9 yX9_off wsX9_off) := goodIn_app (goodIn_of _ (by decide +kernel)) ggL_law_X9_off
set_option maxRecDepth 20000 in
theorem ggL_law_X10_off : GoodIn wsL_law wsX10_off := goodIn_r _ [504, 413, 163, 164, 5, 165, 455, 456, 457, 458, 128, 382, 383, 384, 459, 460, 461, 462, 463, 464, 465, 863, 864, 865, 866, 867, 868, 869, 870, 871, 872, 873, 874, 875, 876, 877, 878, 879, 880, 881, 882, 883, 884, 885, 886, 887, 888, 889, 890, 891, 892, 893, 894, 895, 896, 897] (by decide +kernel) (by decide +kernel)
set_option maxRecDepth 20000 in
theorem gL_law_X10_off : GoodIn wsL_law (wsV RL 46 RX10 yX10_off wsX10_off) := goodIn_app (goodIn_of _ (by decide +kernel)) ggL_law_X10_off
set_option maxRecDepth 20000 in
theorem ggL_law_X9_hear : GoodIn wsL_law wsX9_hear := goodIn_r _ [508, 20, 29, 509, 510, 2, 511, 512, 513, 514, 19, 515, 58, 516, 232, 233, 234, 57, 517, 518, 519, 28, 520, 521, 522, 523, 524, 74, 73, 69, 70, 852, 853, 854, 855, 856, 857, 858, 859, 860, 861, 862, 900, 901, 904, 905, 906, 907, 908] (by decide +kernel) (by decide +kernel)
set_option maxRecDepth 20000 in
theorem gL_law_X9_hear : GoodIn wsL_law (wsV RL 47 RX9 yX9_hear wsX9_hear) := goodIn_app (goodIn_of _ (by decide +kernel)) ggL_law_X9_hear
set_option maxRecDepth 20000 in
theorem ggL_law_X10_hear : GoodIn wsL_law wsX10_hear := goodIn_r _ [528, 529, 128, 163, 164, 5, 165, 530, 531, 532, 533, 130, 534, 247, 535, 536, 537, 863, 864, 865, 866, 867, 868, 869, 870, 871, 872, 873, 874, 875, 876, 877, 878, 879, 880, 881, 882, 883, 884, 885, 886, 887, 888, 889, 890, 891, 892, 893, 894, 895, 896, 897] (by decide +kernel) (by decide +kernel)
set_option maxRecDepth 20000 in
theorem gL_law_X10_hear : GoodIn wsL_law (wsV RL 51 RX10 yX10_hear wsX10_hear) := goodIn_app (goodIn_of _ (by decide +kernel)) ggL_law_X10_hear
set_option maxRecDepth 20000 in
theorem ggL_law_X9_send : GoodIn wsL_law wsX9_send := goodIn_r _ [541, 37, 20, 29, 542, 543, 544, 36, 545, 84, 85, 86, 87, 88, 145, 146, 2, 147, 546, 547, 548, 549, 550, 302, 303, 304, 512, 513, 514, 19, 515, 58, 551, 552, 553, 554, 555, 232, 233, 234, 57, 556, 557, 558, 559, 560, 561, 562, 563, 517, 518, 519, 28, 520, 521, 522, 523, 524, 74, 73, 69, 70, 852, 853, 854, 855, 856, 857, 858, 859, 860, 861, 862, 900, 901, 912, 913, 914, 915, 916, 904, 905, 906, 907, 908] (by decide +kernel) (by decide +kernel)
set_option maxRecDepth 20000 in
theorem gL_law_X9_send : GoodIn wsL_law (wsV RL 52 RX9 yX9_send wsX9_send) := goodIn_app (goodIn_of _ (by decide +kernel)) ggL_law_X9_send
set_option maxRecDepth 20000 in
theorem ggL_law_X10_send : GoodIn wsL_law wsX10_send := goodIn_r _ [567, 161, 128, 404, 405, 406, 5, 407, 408, 409, 410, 411, 412, 413, 414, 415, 416, 163, 164, 165, 568, 569, 570, 571, 427, 428, 429, 430, 530, 531, 532, 533, 130, 534, 247, 572, 573, 574, 575, 535, 536, 537, 863, 864, 865, 866, 867, 868, 869, 870, 871, 872, 873, 874, 875, 876, 877, 878, 879, 880, 881, 882, 883, 884, 885, 886, 887, 888, 889, 890, 891, 892, 893, 894, 895, 896, 897] (by decide +kernel) (by decide +kernel)
set_option maxRecDepth 20000 in
theorem gL_law_X10_send : GoodIn wsL_law (wsV RL 55 RX10 yX10_send wsX10_send) := goodIn_app (goodIn_of _ (by decide +kernel)) ggL_law_X10_send
set_option maxRecDepth 20000 in
theorem ggL_law_X9_flip : GoodIn wsL_law wsX9_flip := goodIn_r _ [579, 20, 29, 478, 310, 311, 19, 312, 58, 580, 581, 582, 583, 57, 584, 585, 586, 587, 28, 588, 521, 522, 523, 524, 74, 73, 69, 70, 479, 291, 292, 293, 852, 853, 854, 855, 856, 857, 858, 859, 860, 861, 862, 900, 901, 904, 905, 906, 907, 908] (by decide +kernel) (by decide +kernel)
set_option maxRecDepth 20000 in
theorem gL_law_X9_flip : GoodIn wsL_law (wsV RL 56 RX9 yX9_flip wsX9_flip) := goodIn_app (goodIn_of _ (by decide +kernel)) ggL_law_X9_flip
set_option maxRecDepth 20000 in
theorem ggL_law_X10_flip : GoodIn wsL_law wsX10_flip := goodIn_r _ [592, 128, 431, 432, 5, 433, 163, 164, 165, 530, 531, 532, 533, 130, 534, 247, 863, 864, 865, 866, 867, 868, 869, 870, 871, 872, 873, 874, 875, 876, 877, 878, 879, 880, 881, 882, 883, 884, 885, 886, 887, 888, 889, 890, 891, 892, 893, 894, 895, 896, 897] (by decide +kernel) (by decide +kernel)
set_option maxRecDepth 20000 in
theorem gL_law_X10_flip : GoodIn wsL_law (wsV RL 59 RX10 yX10_flip wsX10_flip) := goodIn_app (goodIn_of _ (by decide +kernel)) ggL_law_X10_flip
set_option maxRecDepth 20000 in
theorem ggL_law_X9_cut : GoodIn wsL_law wsX9_cut := goodIn_r _ [596, 20, 29, 597, 598, 599, 28, 600, 72, 521, 522, 523, 524, 74, 73, 69, 70, 601, 291, 292, 19, 293, 58, 57, 602, 224, 225, 226, 227, 228, 229, 230, 852, 853, 854, 855, 856, 857, 858, 859, 860, 861, 862, 900, 901, 904, 905, 906, 907, 908] (by decide +kernel) (by decide +kernel)
set_option maxRecDepth 20000 in
theorem gL_law_X9_cut : GoodIn wsL_law (wsV RL 60 RX9 yX9_cut wsX9_cut) := goodIn_app (goodIn_of _ (by decide +kernel)) ggL_law_X9_cut
set_option maxRecDepth 20000 in
theorem ggL_law_X10_cut : GoodIn wsL_law wsX10_cut := goodIn_r _ [606, 128, 163, 164, 5, 165, 530, 531, 532, 533, 130, 534, 247, 607, 608, 609, 863, 864, 865, 866, 867, 868, 869, 870, 871, 872, 873, 874, 875, 876, 877, 878, 879, 880, 881, 882, 883, 884, 885, 886, 887, 888, 889, 890, 891, 892, 893, 894, 895, 896, 897] (by decide +kernel) (by decide +kernel)
set_option maxRecDepth 20000 in
theorem gL_law_X10_cut : GoodIn wsL_law (wsV RL 63 RX10 yX10_cut wsX10_cut) := goodIn_app (goodIn_of _ (by decide +kernel)) ggL_law_X10_cut
set_option maxRecDepth 20000 in
theorem ggL_law_X9_undo : GoodIn wsL_law wsX9_undo := goodIn_r _ [613, 29, 20, 614, 615, 616, 28, 617, 74, 73, 69, 70, 618, 224, 225, 19, 226, 58, 227, 228, 229, 230, 619, 581, 582, 583, 57, 584, 310, 311, 312, 620, 621, 622, 623, 72, 624, 232, 233, 234, 852, 853, 854, 855, 856, 857, 858, 859, 860, 861, 862, 904, 905, 906, 907, 908, 900, 901] (by decide +kernel) (by decide +kernel)
set_option maxRecDepth 20000 in
theorem gL_law_X9_undo : GoodIn wsL_law (wsV RL 64 RX9 yX9_undo wsX9_undo) := goodIn_app (goodIn_of _ (by decide +kernel)) ggL_law_X9_undo
set_option maxRecDepth 20000 in
theorem ggL_law_X10_undo : GoodIn wsL_law wsX10_undo := goodIn_r _ [628, 247, 534, 128, 130, 863, 864, 865, 866, 867, 868, 869, 870, 871, 872, 873, 874, 875, 876, 877, 878, 879, 880, 881, 882, 883, 884, 885, 886, 887, 888, 889, 890, 891, 892, 893, 894, 895, 896, 897] (by decide +kernel) (by decide +kernel)
set_option maxRecDepth 20000 in
theorem gL_law_X10_undo : GoodIn wsL_law (wsV RL 67 RX10 yX10_undo wsX10_undo) := goodIn_app (goodIn_of _ (by decide +kernel)) ggL_law_X10_undo
set_option maxRecDepth 20000 in
theorem ggL_law_X9_guess : GoodIn wsL_law wsX9_guess := goodIn_r _ [632, 37, 41, 20, 542, 543, 544, 36, 545, 84, 85, 86, 87, 88, 252, 253, 254, 40, 255, 103, 95, 256, 257, 258, 94, 259, 109, 110, 107, 108, 260, 261, 262, 19, 263, 58, 57, 633, 279, 280, 281, 98, 99, 100, 101, 96, 97, 282, 283, 284, 285, 286, 287, 288, 289, 290, 291, 292, 293, 294, 295, 296, 297, 298, 299, 229, 300, 301, 302, 303, 304, 305, 306, 307, 308, 309, 310, 311, 312, 313, 314, 315, 316, 317, 318, 319, 634, 321, 322, 323, 852, 853, 854, 855, 856, 857, 858, 859, 860, 861, 862, 917, 918, 919, 920, 921, 922, 923, 924, 912, 913, 914, 915, 916, 900, 901, 933, 934, 935, 936] (by decide +kernel) (by decide +kernel)
set_option maxRecDepth 20000 in
theorem gL_law_X9_guess : GoodIn wsL_law (wsV RL 68 RX9 yX9_guess wsX9_guess) := goodIn_app (goodIn_of _ (by decide +kernel)) ggL_law_X9_guess
set_option maxRecDepth 20000 in
theorem ggL_law_X10_guess : GoodIn wsL_law wsX10_guess := goodIn_r _ [638, 639, 128, 396, 421, 422, 395, 404, 405, 406, 5, 407, 408, 409, 410, 411, 412, 413, 414, 415, 416, 163, 164, 165, 397, 398, 399, 400, 138, 417, 418, 419, 420, 423, 424, 425, 426, 135, 136, 427, 428, 429, 430, 431, 432, 433, 434, 435, 436, 437, 438, 439, 440, 441, 863, 864, 865, 866, 867, 868, 869, 870, 871, 872, 873, 874, 875, 876, 877, 878, 879, 880, 881, 882, 883, 884, 885, 886, 887, 888, 889, 890, 891, 892, 893, 894, 895, 896, 897] (by decide +kernel) (by decide +kernel)
set_option maxRecDepth 20000 in
theorem gL_law_X10_guess : GoodIn wsL_law (wsV RL 71 RX10 yX10_guess wsX10_guess) := goodIn_app (goodIn_of _ (by decide +kernel)) ggL_law_X10_guess
set_option maxRecDepth 20000 in
theorem ggL_law_X9_letter : GoodIn wsL_law wsX9_letter := goodIn_r _ [643, 37, 41, 20, 542, 543, 544, 36, 545, 84, 85, 86, 87, 88, 252, 253, 254, 40, 255, 103, 95, 256, 257, 258, 94, 259, 109, 110, 107, 108, 260, 261, 262, 19, 263, 58, 57, 633, 279, 280, 281, 98, 99, 100, 101, 96, 97, 282, 283, 284, 285, 286, 287, 288, 289, 290, 291, 292, 293, 294, 295, 296, 297, 298, 299, 229, 300, 301, 302, 303, 304, 305, 306, 307, 308, 309, 310, 311, 312, 313, 314, 315, 316, 317, 318, 319, 644, 645, 646, 647, 648, 374, 375, 376, 852, 853, 854, 855, 856, 857, 858, 859, 860, 861, 862, 912, 913, 914, 915, 916, 917, 918, 919, 920, 921, 922, 923, 924, 900, 901, 933, 934, 935, 936] (by decide +kernel) (by decide +kernel)
set_option maxRecDepth 20000 in
theorem gL_law_X9_letter : GoodIn wsL_law (wsV RL 72 RX9 yX9_letter wsX9_letter) := goodIn_app (goodIn_of _ (by decide +kernel)) ggL_law_X9_letter
set_option maxRecDepth 20000 in
theorem ggL_law_X10_letter : GoodIn wsL_law wsX10_letter := goodIn_r _ [652, 128, 396, 136, 135, 404, 405, 406, 5, 407, 408, 409, 410, 411, 412, 413, 414, 415, 416, 163, 164, 165, 417, 418, 419, 420, 421, 422, 395, 423, 424, 425, 426, 138, 427, 428, 429, 430, 431, 432, 433, 434, 435, 436, 437, 863, 864, 865, 866, 867, 868, 869, 870, 871, 872, 873, 874, 875, 876, 877, 878, 879, 880, 881, 882, 883, 884, 885, 886, 887, 888, 889, 890, 891, 892, 893, 894, 895, 896, 897] (by decide +kernel) (by decide +kernel)
set_option maxRecDepth 20000 in
theorem gL_law_X10_letter : GoodIn wsL_law (wsV RL 76 RX10 yX10_letter wsX10_letter) := goodIn_app (goodIn_of _ (by decide +kernel)) ggL_law_X10_letter
set_option maxRecDepth 20000 in
theorem ggL_law_X9_judge : GoodIn wsL_law wsX9_judge := goodIn_r _ [656, 21, 20, 657, 658, 659, 2, 660, 661, 662, 663, 19, 664, 58, 57, 665, 333, 334, 335, 666, 667, 668, 669, 41, 45, 670, 671, 672, 673, 509, 510, 511, 512, 513, 514, 515, 516, 232, 233, 234, 674, 675, 676, 677, 478, 310, 311, 312, 580, 581, 582, 583, 584, 252, 253, 254, 40, 255, 103, 95, 256, 257, 258, 94, 259, 109, 110, 107, 108, 260, 261, 262, 263, 264, 265, 266, 267, 268, 228, 229, 230, 678, 679, 680, 681, 602, 224, 225, 226, 227, 682, 683, 684, 685, 269, 270, 271, 44, 272, 117, 118, 119, 120, 115, 273, 274, 275, 276, 36, 277, 84, 85, 86, 87, 88, 278, 279, 280, 281, 98, 99, 100, 101, 96, 97, 282, 283, 284, 285, 286, 287, 288, 289, 290, 291, 292, 293, 294, 295, 296, 297, 298, 299, 300, 301, 302, 303, 304, 305, 306, 307, 308, 309, 313, 314, 315, 316, 317, 318, 319, 320, 321, 322, 323, 324, 325, 326, 327, 328, 329, 330, 331, 116, 332, 336, 337, 338, 339, 852, 853, 854, 855, 856, 857, 858, 859, 860, 861, 862, 900, 901, 917, 918, 919, 920, 921, 922, 923, 924, 925, 926, 927, 928, 929, 930, 931, 932, 933, 934, 935, 936, 912, 913, 914, 915, 916] (by decide +kernel) (by decide +kernel)
set_option maxRecDepth 20000 in
theorem gL_law_X9_judge : GoodIn wsL_law (wsV RL 79 RX9 yX9_judge wsX9_judge) := goodIn_app (goodIn_of _ (by decide +kernel)) ggL_law_X9_judge
set_option maxRecDepth 20000 in
theorem ggL_law_X10_judge : GoodIn wsL_law wsX10_judge := goodIn_r _ [689, 690, 128, 129, 691, 163, 164, 5, 165, 692, 693, 694, 695, 696, 697, 698, 699, 700, 701, 137, 535, 536, 537, 431, 432, 433, 382, 383, 384, 607, 608, 609, 390, 391, 392, 393, 389, 394, 395, 396, 135, 397, 398, 399, 400, 138, 401, 402, 403, 404, 405, 406, 407, 408, 409, 410, 411, 412, 413, 414, 415, 416, 417, 418, 419, 420, 421, 422, 423, 424, 425, 426, 136, 427, 428, 429, 430, 434, 435, 436, 437, 438, 439, 440, 441, 863, 864, 865, 866, 867, 868, 869, 870, 871, 872, 873, 874, 875, 876, 877, 878, 879, 880, 881, 882, 883, 884, 885, 886, 887, 888, 889, 890, 891, 892, 893, 894, 895, 896, 897] (by decide +kernel) (by decide +kernel)
set_option maxRecDepth 20000 in
theorem gL_law_X10_judge : GoodIn wsL_law (wsV RL 83 RX10 yX10_judge wsX10_judge) := goodIn_app (goodIn_of _ (by decide +kernel)) ggL_law_X10_judge
set_option maxRecDepth 20000 in
theorem ggL_law_X9_know : GoodIn wsL_law wsX9_know := goodIn_r _ [705, 33, 145, 146, 2, 147, 706, 707, 708, 32, 709, 80, 710, 711, 712, 713, 78, 79, 714, 852, 853, 854, 855, 856, 857, 858, 859, 860, 861, 862, 909, 910, 911] (by decide +kernel) (by decide +kernel)
set_option maxRecDepth 20000 in
theorem gL_law_X9_know : GoodIn wsL_law (wsV RL 84 RX9 yX9_know wsX9_know) := goodIn_app (goodIn_of _ (by decide +kernel)) ggL_law_X9_know
set_option maxRecDepth 20000 in
theorem ggL_law_X10_know : GoodIn wsL_law wsX10_know := goodIn_r _ [718, 214, 161, 381, 133, 134, 163, 164, 5, 165, 863, 864, 865, 866, 867, 868, 869, 870, 871, 872, 873, 874, 875, 876, 877, 878, 879, 880, 881, 882, 883, 884, 885, 886, 887, 888, 889, 890, 891, 892, 893, 894, 895, 896, 897] (by decide +kernel) (by decide +kernel)
set_option maxRecDepth 20000 in
theorem gL_law_X10_know : GoodIn wsL_law (wsV RL 87 RX10 yX10_know wsX10_know) := goodIn_app (goodIn_of _ (by decide +kernel)) ggL_law_X10_know
set_option maxRecDepth 20000 in
theorem ggL_law_X9_forget : GoodIn wsL_law wsX9_forget := goodIn_r _ [722, 33, 852, 853, 854, 855, 856, 857, 858, 859, 860, 861, 862, 909, 910, 911] (by decide +kernel) (by decide +kernel)
set_option maxRecDepth 20000 in
theorem gL_law_X9_forget : GoodIn wsL_law (wsV RL 88 RX9 yX9_forget wsX9_forget) := goodIn_app (goodIn_of _ (by decide +kernel)) ggL_law_X9_forget
set_option maxRecDepth 20000 in
theorem ggL_law_X10_forget : GoodIn wsL_law wsX10_forget := goodIn_r _ [726, 381, 863, 864, 865, 866, 867, 868, 869, 870, 871, 872, 873, 874, 875, 876, 877, 878, 879, 880, 881, 882, 883, 884, 885, 886, 887, 888, 889, 890, 891, 892, 893, 894, 895, 896, 897] (by decide +kernel) (by decide +kernel)
set_option maxRecDepth 20000 in
theorem gL_law_X10_forget : GoodIn wsL_law (wsV RL 91 RX10 yX10_forget wsX10_forget) := goodIn_app (goodIn_of _ (by decide +kernel)) ggL_law_X10_forget
set_option maxRecDepth 20000 in
theorem ggL_law_X9_share : GoodIn wsL_law wsX9_share := goodIn_r _ [730, 33, 45, 20, 41, 731, 732, 733, 44, 734, 115, 273, 253, 254, 40, 255, 103, 95, 256, 257, 258, 94, 259, 109, 110, 107, 108, 260, 261, 262, 19, 263, 58, 57, 274, 275, 276, 36, 277, 84, 85, 86, 87, 88, 278, 279, 280, 281, 98, 99, 100, 101, 96, 97, 282, 283, 284, 285, 286, 287, 288, 289, 290, 291, 292, 293, 294, 295, 296, 297, 298, 299, 229, 300, 301, 302, 303, 304, 305, 306, 307, 308, 309, 310, 311, 312, 313, 314, 315, 316, 317, 318, 319, 320, 321, 322, 323, 369, 370, 371, 32, 372, 80, 78, 79, 373, 374, 375, 376, 735, 736, 737, 738, 739, 740, 741, 742, 743, 2, 744, 745, 746, 747, 852, 853, 854, 855, 856, 857, 858, 859, 860, 861, 862, 909, 910, 911, 925, 926, 927, 928, 929, 930, 931, 932, 917, 918, 919, 920, 921, 922, 923, 924, 900, 901, 933, 934, 935, 936, 912, 913, 914, 915, 916] (by decide +kernel) (by decide +kernel)
set_option maxRecDepth 20000 in
theorem gL_law_X9_share : GoodIn wsL_law (wsV RL 92 RX9 yX9_share wsX9_share) := goodIn_app (goodIn_of _ (by decide +kernel)) ggL_law_X9_share
set_option maxRecDepth 20000 in
theorem ggL_law_X10_share : GoodIn wsL_law wsX10_share := goodIn_r _ [751, 381, 139, 163, 164, 5, 165, 466, 467, 468, 469, 128, 401, 402, 403, 404, 405, 406, 407, 408, 409, 410, 411, 412, 413, 414, 415, 416, 417, 418, 419, 420, 396, 421, 422, 395, 423, 424, 425, 426, 138, 135, 136, 427, 428, 429, 430, 431, 432, 433, 434, 435, 436, 437, 438, 439, 440, 441, 470, 471, 472, 473, 133, 134, 752, 753, 754, 755, 756, 757, 758, 759, 760, 863, 864, 865, 866, 867, 868, 869, 870, 871, 872, 873, 874, 875, 876, 877, 878, 879, 880, 881, 882, 883, 884, 885, 886, 887, 888, 889, 890, 891, 892, 893, 894, 895, 896, 897] (by decide +kernel) (by decide +kernel)
set_option maxRecDepth 20000 in
theorem gL_law_X10_share : GoodIn wsL_law (wsV RL 96 RX10 yX10_share wsX10_share) := goodIn_app (goodIn_of _ (by decide +kernel)) ggL_law_X10_share
set_option maxRecDepth 20000 in
theorem ggL_law_X9_chance : GoodIn wsL_law wsX9_chance := goodIn_r _ [764, 37, 542, 543, 544, 36, 545, 84, 85, 86, 87, 88, 765, 766, 767, 2, 768, 20, 47, 769, 261, 262, 19, 263, 58, 57, 770, 771, 772, 773, 21, 41, 661, 662, 663, 664, 665, 333, 334, 335, 580, 581, 582, 583, 584, 310, 311, 312, 252, 253, 254, 40, 255, 103, 95, 256, 257, 258, 94, 259, 109, 110, 107, 108, 260, 633, 279, 280, 281, 98, 99, 100, 101, 96, 97, 282, 283, 284, 285, 286, 287, 288, 289, 290, 291, 292, 293, 294, 295, 296, 297, 298, 299, 229, 300, 301, 302, 303, 304, 305, 306, 307, 308, 309, 313, 314, 315, 316, 317, 318, 319, 634, 321, 322, 323, 774, 775, 776, 742, 743, 744, 745, 746, 747, 852, 853, 854, 855, 856, 857, 858, 859, 860, 861, 862, 912, 913, 914, 915, 916, 900, 901, 917, 918, 919, 920, 921, 922, 923, 924, 933, 934, 935, 936] (by decide +kernel) (by decide +kernel)
set_option maxRecDepth 20000 in
theorem gL_law_X9_chance : GoodIn wsL_law (wsV RL 97 RX9 yX9_chance wsX9_chance) := goodIn_app (goodIn_of _ (by decide +kernel)) ggL_law_X9_chance
set_option maxRecDepth 20000 in
theorem ggL_law_X10_chance : GoodIn wsL_law wsX10_chance := goodIn_r _ [780, 781, 782, 128, 129, 404, 405, 406, 5, 407, 408, 409, 410, 411, 412, 413, 414, 415, 416, 163, 164, 165, 382, 383, 384, 783, 784, 785, 786, 695, 696, 697, 417, 418, 419, 420, 396, 421, 422, 395, 423, 424, 425, 426, 138, 135, 136, 427, 428, 429, 430, 431, 432, 433, 434, 435, 436, 437, 438, 439, 440, 441, 752, 753, 754, 787, 788, 789, 758, 759, 760, 863, 864, 865, 866, 867, 868, 869, 870, 871, 872, 873, 874, 875, 876, 877, 878, 879, 880, 881, 882, 883, 884, 885, 886, 887, 888, 889, 890, 891, 892, 893, 894, 895, 896, 897] (by decide +kernel) (by decide +kernel)
set_option maxRecDepth 20000 in
theorem gL_law_X10_chance : GoodIn wsL_law (wsV RL 101 RX10 yX10_chance wsX10_chance) := goodIn_app (goodIn_of _ (by decide +kernel)) ggL_law_X10_chance
set_option maxRecDepth 20000 in
theorem ggL_law_X9_seed : GoodIn wsL_law wsX9_seed := goodIn_r _ [793, 48, 852, 853, 854, 855, 856, 857, 858, 859, 860, 861, 862] (by decide +kernel) (by decide +kernel)
set_option maxRecDepth 20000 in
theorem gL_law_X9_seed : GoodIn wsL_law (wsV RL 102 RX9 yX9_seed wsX9_seed) := goodIn_app (goodIn_of _ (by decide +kernel)) ggL_law_X9_seed
set_option maxRecDepth 20000 in
theorem ggL_law_X10_seed : GoodIn wsL_law wsX10_seed := goodIn_r _ [797, 798, 863, 864, 865, 866, 867, 868, 869, 870, 871, 872, 873, 874, 875, 876, 877, 878, 879, 880, 881, 882, 883, 884, 885, 886, 887, 888, 889, 890, 891, 892, 893, 894, 895, 896, 897] (by decide +kernel) (by decide +kernel)
set_option maxRecDepth 20000 in
theorem gL_law_X10_seed : GoodIn wsL_law (wsV RL 106 RX10 yX10_seed wsX10_seed) := goodIn_app (goodIn_of _ (by decide +kernel)) ggL_law_X10_seed
set_option maxRecDepth 20000 in
theorem ggL_law_X9_drawn : GoodIn wsL_law wsX9_drawn := goodIn_r _ [802, 37, 21, 20, 48, 803, 804, 41, 542, 543, 544, 36, 545, 84, 85, 86, 87, 88, 661, 662, 663, 19, 664, 58, 57, 665, 333, 334, 335, 805, 806, 807, 2, 808, 809, 546, 547, 548, 549, 550, 302, 303, 304, 512, 513, 514, 515, 551, 552, 553, 554, 555, 232, 233, 234, 556, 557, 558, 559, 560, 561, 562, 563, 478, 310, 311, 312, 580, 581, 582, 583, 584, 252, 253, 254, 40, 255, 103, 95, 256, 257, 258, 94, 259, 109, 110, 107, 108, 260, 261, 262, 263, 633, 279, 280, 281, 98, 99, 100, 101, 96, 97, 282, 283, 284, 285, 286, 287, 288, 289, 290, 291, 292, 293, 294, 295, 296, 297, 298, 299, 229, 300, 301, 305, 306, 307, 308, 309, 313, 314, 315, 316, 317, 318, 319, 852, 853, 854, 855, 856, 857, 858, 859, 860, 861, 862, 917, 918, 919, 920, 921, 922, 923, 924, 912, 913, 914, 915, 916, 900, 901, 933, 934, 935, 936] (by decide +kernel) (by decide +kernel)
set_option maxRecDepth 20000 in
theorem gL_law_X9_drawn : GoodIn wsL_law (wsV RL 107 RX9 yX9_drawn wsX9_drawn) := goodIn_app (goodIn_of _ (by decide +kernel)) ggL_law_X9_drawn
set_option maxRecDepth 20000 in
theorem ggL_law_X10_drawn : GoodIn wsL_law wsX10_drawn := goodIn_r _ [813, 782, 128, 129, 798, 814, 815, 816, 396, 404, 405, 406, 5, 407, 408, 409, 410, 411, 412, 413, 414, 415, 416, 163, 164, 165, 695, 696, 697, 568, 569, 570, 571, 427, 428, 429, 430, 572, 573, 574, 575, 535, 536, 537, 431, 432, 433, 417, 418, 419, 420, 421, 422, 395, 423, 424, 425, 426, 138, 135, 136, 434, 435, 436, 437, 863, 864, 865, 866, 867, 868, 869, 870, 871, 872, 873, 874, 875, 876, 877, 878, 879, 880, 881, 882, 883, 884, 885, 886, 887, 888, 889, 890, 891, 892, 893, 894, 895, 896, 897] (by decide +kernel) (by decide +kernel)
set_option maxRecDepth 20000 in
theorem gL_law_X10_drawn : GoodIn wsL_law (wsV RL 110 RX10 yX10_drawn wsX10_drawn) := goodIn_app (goodIn_of _ (by decide +kernel)) ggL_law_X10_drawn
set_option maxRecDepth 20000 in
theorem ggL_law_X9_keep : GoodIn wsL_law wsX9_keep := goodIn_r _ [820, 25, 20, 821, 822, 823, 24, 824, 825, 826, 827, 828, 63, 65, 829, 830, 662, 663, 19, 664, 58, 57, 665, 333, 334, 335, 852, 853, 854, 855, 856, 857, 858, 859, 860, 861, 862, 900, 901, 902, 903] (by decide +kernel) (by decide +kernel)
set_option maxRecDepth 20000 in
theorem gL_law_X9_keep : GoodIn wsL_law (wsV RL 111 RX9 yX9_keep wsX9_keep) := goodIn_app (goodIn_of _ (by decide +kernel)) ggL_law_X9_keep
set_option maxRecDepth 20000 in
theorem ggL_law_X10_keep : GoodIn wsL_law wsX10_keep := goodIn_r _ [834, 132, 131, 128, 163, 164, 5, 165, 863, 864, 865, 866, 867, 868, 869, 870, 871, 872, 873, 874, 875, 876, 877, 878, 879, 880, 881, 882, 883, 884, 885, 886, 887, 888, 889, 890, 891, 892, 893, 894, 895, 896, 897] (by decide +kernel) (by decide +kernel)
set_option maxRecDepth 20000 in
theorem gL_law_X10_keep : GoodIn wsL_law (wsV RL 114 RX10 yX10_keep wsX10_keep) := goodIn_app (goodIn_of _ (by decide +kernel)) ggL_law_X10_keep
set_option maxRecDepth 20000 in
theorem ggL_law_X9_again : GoodIn wsL_law wsX9_again := goodIn_r _ [838, 25, 20, 29, 821, 822, 823, 24, 824, 839, 840, 841, 842, 65, 829, 843, 844, 845, 846, 63, 847, 830, 662, 663, 19, 664, 58, 57, 665, 333, 334, 335, 235, 236, 237, 28, 238, 74, 852, 853, 854, 855, 856, 857, 858, 859, 860, 861, 862, 900, 901, 902, 903, 904, 905, 906, 907, 908] (by decide +kernel) (by decide +kernel)
set_option maxRecDepth 20000 in
theorem gL_law_X9_again : GoodIn wsL_law (wsV RL 115 RX9 yX9_again wsX9_again) := goodIn_app (goodIn_of _ (by decide +kernel)) ggL_law_X9_again
set_option maxRecDepth 20000 in
theorem ggL_law_X10_again : GoodIn wsL_law wsX10_again := goodIn_r _ [851, 132, 128, 131, 247, 163, 164, 5, 165, 863, 864, 865, 866, 867, 868, 869, 870, 871, 872, 873, 874, 875, 876, 877, 878, 879, 880, 881, 882, 883, 884, 885, 886, 887, 888, 889, 890, 891, 892, 893, 894, 895, 896, 897] (by decide +kernel) (by decide +kernel)
set_option maxRecDepth 20000 in
theorem gL_law_X10_again : GoodIn wsL_law (wsV RL 118 RX10 yX10_again wsX10_again) := goodIn_app (goodIn_of _ (by decide +kernel)) ggL_law_X10_again
