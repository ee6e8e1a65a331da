/-! THE LAW'S WORDS are good for what it calls (begun out of the printed names) -/
set_option maxRecDepth 20000 in
theorem ggL_isTree_X4_count : GoodIn wsL_isTree wsX4_count := goodIn_r _ [5, 6, 7, 8, 9, 10, 11, 12, 13, 14, 15, 16, 17, 18, 19, 20, 21, 22, 23, 24, 25, 26, 27, 28, 29, 30, 31, 32, 33, 34, 35, 36, 37, 38, 39, 40, 41, 42, 43, 44, 45, 46, 47, 48, 49, 50, 51, 4, 52, 53, 54, 55, 56, 57, 58, 59, 60, 61, 62, 63, 64, 65, 66, 67, 68, 69, 70, 71, 72, 73, 173, 174, 175, 176, 177, 178, 179, 180, 181, 182, 183, 184, 185, 186, 187, 188, 189, 190, 191, 192, 193, 194, 195, 196, 197, 198, 199, 200] (by decide +kernel) (by decide +kernel)
set_option maxRecDepth 20000 in
theorem gL_isTree_X4_count : GoodIn wsL_isTree (wsV RL 9 RX4 yX4_count wsX4_count) := goodIn_app (goodIn_of _ (by decide +kernel)) ggL_isTree_X4_count
set_option maxRecDepth 20000 in
theorem ggL_isTree_X4_district : GoodIn wsL_isTree wsX4_district := goodIn_r _ [77, 9, 12, 78, 6, 79, 64, 65, 43, 66, 45, 50, 73, 68, 69, 70, 71, 51, 4, 52, 80, 81, 82, 27, 83, 29, 84, 85, 86, 17, 18, 19, 20, 21, 22, 23, 173, 174, 175, 176, 177, 178, 185, 186, 187, 188, 189, 190, 191, 192, 193, 179, 180, 181, 182, 183, 184] (by decide +kernel) (by decide +kernel)
set_option maxRecDepth 20000 in
theorem gL_isTree_X4_district : GoodIn wsL_isTree (wsV RL 47 RX4 yX4_district wsX4_district) := goodIn_app (goodIn_of _ (by decide +kernel)) ggL_isTree_X4_district
set_option maxRecDepth 20000 in
theorem ggL_isTree_L_bits : GoodIn wsL_isTree wsL_bits := goodIn_r _ [90] (by decide +kernel) (by decide +kernel)
set_option maxRecDepth 20000 in
theorem gL_isTree_L_bits : GoodIn wsL_isTree (va_wsS RL 62 yL_bits wsL_bits) := goodIn_app (goodIn_of _ (by decide +kernel)) ggL_isTree_L_bits
set_option maxRecDepth 20000 in
theorem ggL_isTree_X4_road : GoodIn wsL_isTree wsX4_road := goodIn_r _ [94, 6, 95, 96, 97, 9, 11, 98, 99, 100, 43, 101, 45, 102, 51, 4, 52, 103, 104, 105, 27, 106, 29, 107, 108, 40, 41, 42, 44, 109, 110, 111, 112, 50, 113, 114, 115, 116, 35, 117, 118, 119, 120, 121, 122, 18, 19, 20, 21, 22, 23, 173, 174, 175, 176, 177, 178, 179, 180, 181, 182, 183, 184, 185, 186, 187, 188, 189, 190, 191, 192, 193] (by decide +kernel) (by decide +kernel)
set_option maxRecDepth 20000 in
theorem gL_isTree_X4_road : GoodIn wsL_isTree (wsV RL 28 RX4 yX4_road wsX4_road) := goodIn_app (goodIn_of _ (by decide +kernel)) ggL_isTree_X4_road
set_option maxRecDepth 20000 in
theorem ggL_isTree_X4_square : GoodIn wsL_isTree wsX4_square := goodIn_r _ [126, 6, 9, 127, 128, 129, 130, 131, 43, 132, 133, 134, 47, 48, 49, 45, 50, 51, 4, 52, 17, 18, 19, 20, 21, 22, 23, 135, 32, 33, 27, 34, 35, 29, 30, 36, 37, 38, 39, 40, 41, 42, 44, 46, 53, 54, 55, 56, 173, 174, 175, 176, 177, 178, 185, 186, 187, 188, 189, 190, 191, 192, 193, 179, 180, 181, 182, 183, 184] (by decide +kernel) (by decide +kernel)
set_option maxRecDepth 20000 in
theorem gL_isTree_X4_square : GoodIn wsL_isTree (wsV RL 38 RX4 yX4_square wsX4_square) := goodIn_app (goodIn_of _ (by decide +kernel)) ggL_isTree_X4_square
set_option maxRecDepth 20000 in
theorem ggL_isTree_X4_way : GoodIn wsL_isTree wsX4_way := goodIn_r _ [139, 6, 9, 129, 130, 131, 43, 132, 133, 140, 141, 142, 27, 143, 35, 51, 4, 52, 144, 145, 146, 147, 148, 29, 84, 107, 108, 149, 150, 151, 152, 153, 154, 155, 156, 157, 117, 118, 119, 120, 121, 17, 18, 19, 20, 21, 22, 23, 173, 174, 175, 176, 177, 178, 179, 180, 181, 182, 183, 184, 185, 186, 187, 188, 189, 190, 191, 192, 193] (by decide +kernel) (by decide +kernel)
set_option maxRecDepth 20000 in
theorem gL_isTree_X4_way : GoodIn wsL_isTree (wsV RL 50 RX4 yX4_way wsX4_way) := goodIn_app (goodIn_of _ (by decide +kernel)) ggL_isTree_X4_way
set_option maxRecDepth 20000 in
theorem ggL_isTree_X4_cutOff : GoodIn wsL_isTree wsX4_cutOff := goodIn_r _ [161, 6, 9, 129, 130, 131, 43, 132, 133, 98, 99, 100, 101, 45, 162, 118, 119, 27, 120, 121, 35, 51, 4, 52, 173, 174, 175, 176, 177, 178, 179, 180, 181, 182, 183, 184, 185, 186, 187, 188, 189, 190, 191, 192, 193] (by decide +kernel) (by decide +kernel)
set_option maxRecDepth 20000 in
theorem gL_isTree_X4_cutOff : GoodIn wsL_isTree (wsV RL 65 RX4 yX4_cutOff wsX4_cutOff) := goodIn_app (goodIn_of _ (by decide +kernel)) ggL_isTree_X4_cutOff
set_option maxRecDepth 20000 in
theorem ggL_isTree_X4_bestBuilt : GoodIn wsL_isTree wsX4_bestBuilt := goodIn_r _ [166, 9, 6, 7, 167, 168, 169, 27, 170, 85, 122, 18, 19, 20, 21, 22, 23, 171, 141, 142, 143, 35, 51, 4, 52, 172, 155, 156, 157, 29, 84, 117, 118, 119, 120, 121, 173, 174, 175, 176, 177, 178, 179, 180, 181, 182, 183, 184, 185, 186, 187, 188, 189, 190, 191, 192, 193] (by decide +kernel) (by decide +kernel)
set_option maxRecDepth 20000 in
theorem gL_isTree_X4_bestBuilt : GoodIn wsL_isTree (wsV RL 56 RX4 yX4_bestBuilt wsX4_bestBuilt) := goodIn_app (goodIn_of _ (by decide +kernel)) ggL_isTree_X4_bestBuilt
