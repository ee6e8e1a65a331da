/-! THE LAW'S WORDS are good for what it calls (begun out of the printed names) -/
set_option maxRecDepth 20000 in
theorem ggL_areAlike_X4_district : GoodIn wsL_areAlike wsX4_district := goodIn_r _ [141, 9, 12, 142, 6, 143, 64, 65, 43, 66, 45, 50, 73, 68, 69, 70, 71, 51, 4, 52, 144, 132, 133, 27, 134, 29, 135, 136, 137, 17, 18, 19, 20, 21, 22, 23, 201, 202, 203, 204, 205, 206, 213, 214, 215, 216, 217, 218, 219, 220, 221, 207, 208, 209, 210, 211, 212] (by decide +kernel) (by decide +kernel)
set_option maxRecDepth 20000 in
theorem gL_areAlike_X4_district : GoodIn wsL_areAlike (wsV RL 47 RX4 yX4_district wsX4_district) := goodIn_app (goodIn_of _ (by decide +kernel)) ggL_areAlike_X4_district
set_option maxRecDepth 20000 in
theorem ggL_areAlike_L_up : GoodIn wsL_areAlike wsL_up := goodIn_r _ [147, 148] (by decide +kernel) (by decide +kernel)
set_option maxRecDepth 20000 in
theorem gL_areAlike_L_up : GoodIn wsL_areAlike (va_wsS RL 15 yL_up wsL_up) := goodIn_app (goodIn_of _ (by decide +kernel)) ggL_areAlike_L_up
set_option maxRecDepth 20000 in
theorem ggL_areAlike_X4_way : GoodIn wsL_areAlike wsX4_way := goodIn_r _ [152, 6, 9, 112, 113, 114, 43, 115, 116, 153, 154, 155, 27, 156, 35, 51, 4, 52, 157, 158, 159, 160, 161, 29, 135, 90, 91, 162, 163, 164, 165, 166, 167, 168, 169, 170, 100, 101, 102, 103, 104, 17, 18, 19, 20, 21, 22, 23, 201, 202, 203, 204, 205, 206, 207, 208, 209, 210, 211, 212, 213, 214, 215, 216, 217, 218, 219, 220, 221] (by decide +kernel) (by decide +kernel)
set_option maxRecDepth 20000 in
theorem gL_areAlike_X4_way : GoodIn wsL_areAlike (wsV RL 50 RX4 yX4_way wsX4_way) := goodIn_app (goodIn_of _ (by decide +kernel)) ggL_areAlike_X4_way
set_option maxRecDepth 20000 in
theorem ggL_areAlike_X4_must : GoodIn wsL_areAlike wsX4_must := goodIn_r _ [174, 6, 9, 112, 113, 114, 43, 115, 116, 175, 176, 177, 27, 178, 29, 135, 179, 168, 169, 170, 100, 101, 102, 103, 104, 35, 51, 4, 52, 180, 181, 182, 183, 105, 18, 19, 20, 21, 22, 23, 201, 202, 203, 204, 205, 206, 207, 208, 209, 210, 211, 212, 213, 214, 215, 216, 217, 218, 219, 220, 221] (by decide +kernel) (by decide +kernel)
set_option maxRecDepth 20000 in
theorem gL_areAlike_X4_must : GoodIn wsL_areAlike (wsV RL 53 RX4 yX4_must wsX4_must) := goodIn_app (goodIn_of _ (by decide +kernel)) ggL_areAlike_X4_must
set_option maxRecDepth 20000 in
theorem ggL_areAlike_X4_bestBuilt : GoodIn wsL_areAlike wsX4_bestBuilt := goodIn_r _ [187, 9, 6, 7, 188, 189, 190, 27, 191, 136, 105, 18, 19, 20, 21, 22, 23, 192, 154, 155, 156, 35, 51, 4, 52, 179, 168, 169, 170, 29, 135, 100, 101, 102, 103, 104, 201, 202, 203, 204, 205, 206, 207, 208, 209, 210, 211, 212, 213, 214, 215, 216, 217, 218, 219, 220, 221] (by decide +kernel) (by decide +kernel)
set_option maxRecDepth 20000 in
theorem gL_areAlike_X4_bestBuilt : GoodIn wsL_areAlike (wsV RL 56 RX4 yX4_bestBuilt wsX4_bestBuilt) := goodIn_app (goodIn_of _ (by decide +kernel)) ggL_areAlike_X4_bestBuilt
set_option maxRecDepth 20000 in
theorem ggL_areAlike_X4_worstLoss : GoodIn wsL_areAlike wsX4_worstLoss := goodIn_r _ [196, 6, 8, 9, 96, 97, 98, 27, 99, 29, 90, 35, 100, 101, 102, 103, 104, 51, 4, 52, 105, 18, 19, 20, 21, 22, 23, 201, 202, 203, 204, 205, 206, 207, 208, 209, 210, 211, 212, 213, 214, 215, 216, 217, 218, 219, 220, 221] (by decide +kernel) (by decide +kernel)
set_option maxRecDepth 20000 in
theorem gL_areAlike_X4_worstLoss : GoodIn wsL_areAlike (wsV RL 59 RX4 yX4_worstLoss wsX4_worstLoss) := goodIn_app (goodIn_of _ (by decide +kernel)) ggL_areAlike_X4_worstLoss
set_option maxRecDepth 20000 in
theorem ggL_areAlike_X4_ifBuilt : GoodIn wsL_areAlike wsX4_ifBuilt := goodIn_r _ [200, 6, 9, 12, 10, 112, 113, 114, 43, 115, 116, 167, 168, 169, 27, 170, 29, 135, 100, 101, 102, 103, 104, 35, 51, 4, 52, 17, 18, 19, 20, 21, 22, 23, 153, 154, 155, 156, 201, 202, 203, 204, 205, 206, 213, 214, 215, 216, 217, 218, 219, 220, 221, 207, 208, 209, 210, 211, 212] (by decide +kernel) (by decide +kernel)
set_option maxRecDepth 20000 in
theorem gL_areAlike_X4_ifBuilt : GoodIn wsL_areAlike (wsV RL 21 RX4 yX4_ifBuilt wsX4_ifBuilt) := goodIn_app (goodIn_of _ (by decide +kernel)) ggL_areAlike_X4_ifBuilt
