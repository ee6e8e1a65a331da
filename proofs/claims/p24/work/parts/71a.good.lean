/-! THE LAW'S WORDS are good for what it calls (begun out of the printed names) -/
theorem inlX0 : ∀ w ∈ wsX00, w ∈ wsL_law := fun _ h => List.mem_append_left _ (List.mem_append_right _ h)
theorem inlX1 : ∀ w ∈ wsX10, w ∈ wsL_law := fun _ h => List.mem_append_left _ (List.mem_append_left _ (List.mem_append_right _ h))
theorem inlX2 : ∀ w ∈ wsX20, w ∈ wsL_law := fun _ h => List.mem_append_left _ (List.mem_append_left _ (List.mem_append_left _ (List.mem_append_right _ h)))
theorem inlX3 : ∀ w ∈ wsX30, w ∈ wsL_law := fun _ h => List.mem_append_left _ (List.mem_append_left _ (List.mem_append_left _ (List.mem_append_left _ (List.mem_append_right _ h))))
theorem inlX4 : ∀ w ∈ wsX40, w ∈ wsL_law := fun _ h => List.mem_append_left _ (List.mem_append_left _ (List.mem_append_left _ (List.mem_append_left _ (List.mem_append_left _ (List.mem_append_right _ h)))))
set_option maxRecDepth 20000 in
theorem ggL_isStep_X4_count : GoodIn wsL_isStep wsX4_count := goodIn_r _ [5, 6, 7, 8, 9, 10, 11, 12, 13, 14, 15, 16, 17, 18, 19, 20, 21, 22, 23, 24, 25, 26, 27, 28, 29, 30, 31, 32, 33, 34, 35, 36, 37, 38, 39, 40, 41, 42, 43, 44, 45, 46, 47, 48, 49, 50, 51, 4, 52, 53, 54, 55, 56, 57, 58, 59, 60, 61, 62, 63, 64, 65, 66, 67, 68, 69, 70, 71, 72, 73, 199, 200, 201, 202, 203, 204, 205, 206, 207, 208, 209, 210, 211, 212, 213, 214, 215, 216, 217, 218, 219, 220, 221, 222, 223, 224, 225, 226] (by decide +kernel) (by decide +kernel)
set_option maxRecDepth 20000 in
theorem gL_isStep_X4_count : GoodIn wsL_isStep (wsV RL 9 RX4 yX4_count wsX4_count) := goodIn_app (goodIn_of _ (by decide +kernel)) ggL_isStep_X4_count
set_option maxRecDepth 20000 in
theorem ggL_isStep_L_up : GoodIn wsL_isStep wsL_up := goodIn_r _ [77, 78] (by decide +kernel) (by decide +kernel)
set_option maxRecDepth 20000 in
theorem gL_isStep_L_up : GoodIn wsL_isStep (va_wsS RL 15 yL_up wsL_up) := goodIn_app (goodIn_of _ (by decide +kernel)) ggL_isStep_L_up
set_option maxRecDepth 20000 in
theorem ggL_isStep_X4_ifBuilt : GoodIn wsL_isStep wsX4_ifBuilt := goodIn_r _ [82, 6, 9, 12, 10, 83, 84, 85, 43, 86, 87, 88, 89, 90, 27, 91, 29, 92, 93, 94, 95, 96, 97, 35, 51, 4, 52, 17, 18, 19, 20, 21, 22, 23, 98, 99, 100, 101, 199, 200, 201, 202, 203, 204, 211, 212, 213, 214, 215, 216, 217, 218, 219, 205, 206, 207, 208, 209, 210] (by decide +kernel) (by decide +kernel)
set_option maxRecDepth 20000 in
theorem gL_isStep_X4_ifBuilt : GoodIn wsL_isStep (wsV RL 21 RX4 yX4_ifBuilt wsX4_ifBuilt) := goodIn_app (goodIn_of _ (by decide +kernel)) ggL_isStep_X4_ifBuilt
set_option maxRecDepth 20000 in
theorem ggL_isStep_X4_build : GoodIn wsL_isStep wsX4_build := goodIn_r _ [105, 6, 8, 15, 9, 10, 83, 84, 85, 43, 86, 87, 106, 107, 108, 109, 110, 111, 112, 113, 114, 115, 116, 117, 118, 119, 120, 45, 121, 122, 123, 124, 125, 126, 71, 50, 127, 128, 129, 130, 131, 132, 38, 133, 134, 37, 39, 135, 136, 137, 27, 138, 139, 140, 141, 142, 143, 29, 30, 35, 51, 4, 52, 40, 41, 42, 44, 53, 54, 55, 56, 144, 145, 146, 147, 148, 149, 150, 151, 92, 97, 152, 153, 154, 155, 156, 157, 62, 158, 61, 199, 200, 201, 202, 203, 204, 205, 206, 207, 208, 209, 210, 211, 212, 213, 214, 215, 216, 217, 218, 219, 225, 226] (by decide +kernel) (by decide +kernel)
set_option maxRecDepth 20000 in
theorem gL_isStep_X4_build : GoodIn wsL_isStep (wsV RL 25 RX4 yX4_build wsX4_build) := goodIn_app (goodIn_of _ (by decide +kernel)) ggL_isStep_X4_build
set_option maxRecDepth 20000 in
theorem ggL_isStep_X4_road : GoodIn wsL_isStep wsX4_road := goodIn_r _ [162, 6, 163, 164, 165, 9, 11, 166, 167, 168, 43, 169, 45, 146, 51, 4, 52, 170, 171, 172, 27, 173, 29, 152, 153, 40, 41, 42, 44, 174, 175, 176, 177, 50, 178, 179, 180, 181, 35, 93, 94, 95, 96, 97, 182, 18, 19, 20, 21, 22, 23, 199, 200, 201, 202, 203, 204, 205, 206, 207, 208, 209, 210, 211, 212, 213, 214, 215, 216, 217, 218, 219] (by decide +kernel) (by decide +kernel)
set_option maxRecDepth 20000 in
theorem gL_isStep_X4_road : GoodIn wsL_isStep (wsV RL 28 RX4 yX4_road wsX4_road) := goodIn_app (goodIn_of _ (by decide +kernel)) ggL_isStep_X4_road
set_option maxRecDepth 20000 in
theorem ggL_isStep_X4_lose : GoodIn wsL_isStep wsX4_lose := goodIn_r _ [186, 6, 15, 9, 10, 166, 167, 168, 43, 169, 45, 106, 107, 108, 109, 110, 111, 112, 113, 114, 115, 116, 117, 118, 119, 120, 87, 121, 122, 123, 124, 125, 126, 71, 50, 187, 188, 189, 190, 135, 136, 137, 27, 138, 139, 140, 141, 142, 143, 29, 30, 35, 51, 4, 52, 40, 41, 42, 44, 53, 54, 55, 56, 144, 145, 146, 147, 148, 149, 150, 151, 92, 97, 152, 153, 154, 155, 156, 157, 62, 158, 61, 199, 200, 201, 202, 203, 204, 211, 212, 213, 214, 215, 216, 217, 218, 219, 205, 206, 207, 208, 209, 210, 225, 226] (by decide +kernel) (by decide +kernel)
set_option maxRecDepth 20000 in
theorem gL_isStep_X4_lose : GoodIn wsL_isStep (wsV RL 31 RX4 yX4_lose wsX4_lose) := goodIn_app (goodIn_of _ (by decide +kernel)) ggL_isStep_X4_lose
set_option maxRecDepth 20000 in
theorem ggL_isStep_X4_undo : GoodIn wsL_isStep wsX4_undo := goodIn_r _ [194, 15, 16, 6, 9, 195, 196, 197, 109, 198, 111, 112, 117, 118, 119, 43, 120, 87, 45, 121, 122, 123, 124, 125, 126, 71, 50, 135, 136, 137, 27, 138, 139, 140, 141, 142, 143, 29, 30, 35, 51, 4, 52, 40, 41, 42, 44, 53, 54, 55, 56, 144, 145, 146, 147, 148, 149, 150, 151, 92, 97, 152, 153, 154, 155, 156, 157, 62, 158, 61, 199, 200, 201, 202, 203, 204, 225, 226, 205, 206, 207, 208, 209, 210, 211, 212, 213, 214, 215, 216, 217, 218, 219] (by decide +kernel) (by decide +kernel)
set_option maxRecDepth 20000 in
theorem gL_isStep_X4_undo : GoodIn wsL_isStep (wsV RL 34 RX4 yX4_undo wsX4_undo) := goodIn_app (goodIn_of _ (by decide +kernel)) ggL_isStep_X4_undo
