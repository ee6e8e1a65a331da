/-! THE LAW'S WORDS are good for what it calls (begun out of the printed names) -/
set_option maxRecDepth 20000 in
theorem ggL_areAlike_X4_count : GoodIn wsL_areAlike wsX4_count := goodIn_r _ [5, 6, 7, 8, 9, 10, 11, 12, 13, 14, 15, 16, 17, 18, 19, 20, 21, 22, 23, 24, 25, 26, 27, 28, 29, 30, 31, 32, 33, 34, 35, 36, 37, 38, 39, 40, 41, 42, 43, 44, 45, 46, 47, 48, 49, 50, 51, 4, 52, 53, 54, 55, 56, 57, 58, 59, 60, 61, 62, 63, 64, 65, 66, 67, 68, 69, 70, 71, 72, 73, 201, 202, 203, 204, 205, 206, 207, 208, 209, 210, 211, 212, 213, 214, 215, 216, 217, 218, 219, 220, 221, 222, 223, 224, 225, 226, 227, 228] (by decide +kernel) (by decide +kernel)
set_option maxRecDepth 20000 in
theorem gL_areAlike_X4_count : GoodIn wsL_areAlike (wsV RL 9 RX4 yX4_count wsX4_count) := goodIn_app (goodIn_of _ (by decide +kernel)) ggL_areAlike_X4_count
set_option maxRecDepth 20000 in
theorem ggL_areAlike_X4_road : GoodIn wsL_areAlike wsX4_road := goodIn_r _ [77, 6, 78, 79, 80, 9, 11, 81, 82, 83, 43, 84, 45, 85, 51, 4, 52, 86, 87, 88, 27, 89, 29, 90, 91, 40, 41, 42, 44, 92, 93, 94, 95, 50, 96, 97, 98, 99, 35, 100, 101, 102, 103, 104, 105, 18, 19, 20, 21, 22, 23, 201, 202, 203, 204, 205, 206, 207, 208, 209, 210, 211, 212, 213, 214, 215, 216, 217, 218, 219, 220, 221] (by decide +kernel) (by decide +kernel)
set_option maxRecDepth 20000 in
theorem gL_areAlike_X4_road : GoodIn wsL_areAlike (wsV RL 28 RX4 yX4_road wsX4_road) := goodIn_app (goodIn_of _ (by decide +kernel)) ggL_areAlike_X4_road
set_option maxRecDepth 20000 in
theorem ggL_areAlike_X4_square : GoodIn wsL_areAlike wsX4_square := goodIn_r _ [109, 6, 9, 110, 111, 112, 113, 114, 43, 115, 116, 117, 47, 48, 49, 45, 50, 51, 4, 52, 17, 18, 19, 20, 21, 22, 23, 118, 32, 33, 27, 34, 35, 29, 30, 36, 37, 38, 39, 40, 41, 42, 44, 46, 53, 54, 55, 56, 201, 202, 203, 204, 205, 206, 213, 214, 215, 216, 217, 218, 219, 220, 221, 207, 208, 209, 210, 211, 212] (by decide +kernel) (by decide +kernel)
set_option maxRecDepth 20000 in
theorem gL_areAlike_X4_square : GoodIn wsL_areAlike (wsV RL 38 RX4 yX4_square wsX4_square) := goodIn_app (goodIn_of _ (by decide +kernel)) ggL_areAlike_X4_square
set_option maxRecDepth 20000 in
theorem ggL_areAlike_L_there : GoodIn wsL_areAlike wsL_there := goodIn_r _ [122] (by decide +kernel) (by decide +kernel)
set_option maxRecDepth 20000 in
theorem gL_areAlike_L_there : GoodIn wsL_areAlike (va_wsS RL 41 yL_there wsL_there) := goodIn_app (goodIn_of _ (by decide +kernel)) ggL_areAlike_L_there
set_option maxRecDepth 20000 in
theorem ggL_areAlike_X4_needed : GoodIn wsL_areAlike wsX4_needed := goodIn_r _ [126, 6, 9, 111, 112, 113, 114, 43, 115, 116, 127, 128, 129, 27, 130, 62, 61, 131, 132, 133, 134, 29, 135, 136, 137, 51, 4, 52, 201, 202, 203, 204, 205, 206, 213, 214, 215, 216, 217, 218, 219, 220, 221, 207, 208, 209, 210, 211, 212] (by decide +kernel) (by decide +kernel)
set_option maxRecDepth 20000 in
theorem gL_areAlike_X4_needed : GoodIn wsL_areAlike (wsV RL 44 RX4 yX4_needed wsX4_needed) := goodIn_app (goodIn_of _ (by decide +kernel)) ggL_areAlike_X4_needed
