theorem inlX0 : ∀ w ∈ wsX00, w ∈ wsL_law := fun _ h => List.mem_append_left _ (List.mem_append_right _ h)
theorem inlX1 : ∀ w ∈ wsX10, w ∈ wsL_law := fun _ h => List.mem_append_left _ (List.mem_append_left _ (List.mem_append_right _ h))
theorem inlX2 : ∀ w ∈ wsX20, w ∈ wsL_law := fun _ h => List.mem_append_left _ (List.mem_append_left _ (List.mem_append_left _ (List.mem_append_right _ h)))
theorem inlX3 : ∀ w ∈ wsX30, w ∈ wsL_law := fun _ h => List.mem_append_left _ (List.mem_append_left _ (List.mem_append_left _ (List.mem_append_left _ (List.mem_append_right _ h))))
theorem inlX4 : ∀ w ∈ wsX40, w ∈ wsL_law := fun _ h => List.mem_append_left _ (List.mem_append_left _ (List.mem_append_left _ (List.mem_append_left _ (List.mem_append_left _ (List.mem_append_left _ (List.mem_append_right _ h))))))
theorem inlX5 : ∀ w ∈ wsX50, w ∈ wsL_law := fun _ h => List.mem_append_left _ (List.mem_append_left _ (List.mem_append_left _ (List.mem_append_left _ (List.mem_append_left _ (List.mem_append_right _ h)))))
set_option maxRecDepth 20000 in
theorem ggL_law_X4_init : GoodIn wsL_law wsX4_init := goodIn_r _ [9, 10, 11, 12, 13, 14, 15, 16, 17, 18, 19, 20, 21, 22, 23, 24, 25, 26, 27, 28, 29, 30, 31, 32, 33, 34, 35, 36, 37, 38, 39, 40, 41, 42, 43, 44, 45, 46, 47, 48, 49, 50, 51, 52, 53, 54, 55, 56, 57, 58, 59, 60, 61, 62, 2, 63, 64, 65, 66, 67, 68, 69, 70, 71, 72, 73, 74, 75, 76, 77, 78, 79, 80, 81, 82, 83, 84, 85, 86, 87, 88, 89, 90, 91, 92, 93, 94, 95, 96, 97, 98, 99, 100, 101, 102, 103, 675, 676, 677, 678, 679, 680, 656, 657, 658, 659, 660, 661, 681, 682, 683, 684, 685, 686, 687, 688, 689, 690, 691, 692, 693, 694, 695, 696] (by decide +kernel) (by decide +kernel)
set_option maxRecDepth 20000 in
theorem gL_law_X4_init : GoodIn wsL_law (wsX4_init) := ggL_law_X4_init
set_option maxRecDepth 20000 in
theorem ggL_law_X5_init : GoodIn wsL_law wsX5_init := goodIn_r _ [106, 107, 11, 12, 37, 108, 109, 110, 111, 112, 113, 114, 115, 662, 663, 664, 665, 666, 667, 668, 669, 670, 671, 672, 673, 674] (by decide +kernel) (by decide +kernel)
set_option maxRecDepth 20000 in
theorem gL_law_X5_init : GoodIn wsL_law (wsX5_init) := ggL_law_X5_init
set_option maxRecDepth 20000 in
theorem ggL_law_X4_squares : GoodIn wsL_law wsX4_squares := goodIn_r _ [119, 16, 120, 28, 20, 121, 122, 123, 15, 124, 36, 39, 125, 126, 127, 27, 128, 103, 102, 129, 130, 131, 132, 133, 134, 135, 136, 35, 38, 137, 138, 139, 140, 40, 41, 141, 53, 54, 19, 55, 56, 57, 58, 59, 60, 51, 61, 46, 62, 2, 63, 64, 65, 66, 67, 68, 69, 70, 71, 72, 73, 74, 75, 76, 77, 78, 79, 80, 49, 81, 82, 83, 84, 85, 86, 87, 47, 48, 656, 657, 658, 659, 660, 661, 675, 676, 677, 678, 679, 680, 695, 696, 681, 682, 683, 684, 685, 686, 687, 688, 689] (by decide +kernel) (by decide +kernel)
set_option maxRecDepth 20000 in
theorem gL_law_X4_squares : GoodIn wsL_law (wsV RL 13 RX4 yX4_squares wsX4_squares) := goodIn_app (goodIn_of _ (by decide +kernel)) ggL_law_X4_squares
set_option maxRecDepth 20000 in
theorem ggL_law_X5_squares : GoodIn wsL_law wsX5_squares := goodIn_r _ [145, 146, 147, 108, 148, 149, 5, 150, 151, 152, 153, 154, 109, 155, 156, 157, 158, 159, 110, 662, 663, 664, 665, 666, 667, 668, 669, 670, 671, 672, 673, 674] (by decide +kernel) (by decide +kernel)
set_option maxRecDepth 20000 in
theorem gL_law_X5_squares : GoodIn wsL_law (wsV RL 17 RX5 yX5_squares wsX5_squares) := goodIn_app (goodIn_of _ (by decide +kernel)) ggL_law_X5_squares
set_option maxRecDepth 20000 in
theorem ggL_law_X4_build : GoodIn wsL_law wsX4_build := goodIn_r _ [163, 16, 164, 28, 20, 165, 166, 167, 168, 15, 169, 35, 125, 126, 127, 27, 128, 103, 102, 129, 130, 131, 132, 133, 134, 135, 136, 36, 38, 137, 138, 139, 140, 39, 40, 41, 170, 171, 172, 173, 174, 175, 176, 177, 178, 179, 180, 141, 53, 54, 19, 55, 56, 57, 58, 59, 60, 51, 61, 46, 62, 2, 63, 64, 65, 66, 67, 68, 69, 70, 71, 72, 73, 74, 75, 76, 77, 78, 79, 80, 49, 81, 82, 83, 84, 85, 86, 87, 47, 48, 656, 657, 658, 659, 660, 661, 675, 676, 677, 678, 679, 680, 681, 682, 683, 684, 685, 686, 687, 688, 689, 695, 696] (by decide +kernel) (by decide +kernel)
set_option maxRecDepth 20000 in
theorem gL_law_X4_build : GoodIn wsL_law (wsV RL 18 RX4 yX4_build wsX4_build) := goodIn_app (goodIn_of _ (by decide +kernel)) ggL_law_X4_build
set_option maxRecDepth 20000 in
theorem ggL_law_X5_build : GoodIn wsL_law wsX5_build := goodIn_r _ [184, 185, 108, 186, 187, 188, 5, 189, 148, 149, 150, 151, 152, 153, 154, 109, 190, 191, 192, 193, 194, 195, 196, 197, 198, 199, 200, 201, 202, 203, 204, 205, 206, 207, 208, 209, 155, 156, 157, 158, 159, 110, 662, 663, 664, 665, 666, 667, 668, 669, 670, 671, 672, 673, 674] (by decide +kernel) (by decide +kernel)
set_option maxRecDepth 20000 in
theorem gL_law_X5_build : GoodIn wsL_law (wsV RL 22 RX5 yX5_build wsX5_build) := goodIn_app (goodIn_of _ (by decide +kernel)) ggL_law_X5_build
set_option maxRecDepth 20000 in
theorem ggL_law_X4_lose : GoodIn wsL_law wsX4_lose := goodIn_r _ [213, 16, 28, 20, 165, 214, 215, 216, 15, 217, 36, 125, 126, 127, 27, 128, 103, 102, 129, 130, 131, 132, 133, 134, 135, 136, 35, 38, 137, 138, 139, 140, 39, 40, 41, 218, 219, 220, 221, 141, 53, 54, 19, 55, 56, 57, 58, 59, 60, 51, 61, 46, 62, 2, 63, 64, 65, 66, 67, 68, 69, 70, 71, 72, 73, 74, 75, 76, 77, 78, 79, 80, 49, 81, 82, 83, 84, 85, 86, 87, 47, 48, 656, 657, 658, 659, 660, 661, 681, 682, 683, 684, 685, 686, 687, 688, 689, 675, 676, 677, 678, 679, 680, 695, 696] (by decide +kernel) (by decide +kernel)
set_option maxRecDepth 20000 in
theorem gL_law_X4_lose : GoodIn wsL_law (wsV RL 23 RX4 yX4_lose wsX4_lose) := goodIn_app (goodIn_of _ (by decide +kernel)) ggL_law_X4_lose
set_option maxRecDepth 20000 in
theorem ggL_law_X5_lose : GoodIn wsL_law wsX5_lose := goodIn_r _ [225, 108, 226, 227, 228, 5, 229, 148, 149, 150, 151, 152, 153, 154, 109, 194, 195, 196, 197, 198, 199, 200, 201, 202, 203, 204, 205, 206, 207, 208, 209, 155, 156, 157, 158, 159, 110, 662, 663, 664, 665, 666, 667, 668, 669, 670, 671, 672, 673, 674] (by decide +kernel) (by decide +kernel)
set_option maxRecDepth 20000 in
theorem gL_law_X5_lose : GoodIn wsL_law (wsV RL 26 RX5 yX5_lose wsX5_lose) := goodIn_app (goodIn_of _ (by decide +kernel)) ggL_law_X5_lose
set_option maxRecDepth 20000 in
theorem ggL_law_X4_read : GoodIn wsL_law wsX4_read := goodIn_r _ [233, 24, 28, 16, 234, 20, 164, 235, 236, 237, 23, 238, 95, 96, 93, 92, 239, 240, 241, 242, 243, 244, 245, 246, 247, 248, 249, 250, 251, 252, 253, 254, 255, 256, 257, 258, 94, 259, 260, 261, 2, 262, 263, 264, 265, 266, 267, 268, 269, 270, 166, 167, 168, 15, 169, 35, 271, 272, 273, 274, 125, 126, 127, 27, 128, 103, 102, 129, 130, 131, 132, 133, 134, 135, 136, 36, 38, 137, 138, 139, 140, 39, 40, 41, 275, 276, 277, 278, 170, 171, 172, 173, 174, 175, 176, 177, 178, 179, 180, 141, 53, 54, 19, 55, 56, 57, 58, 59, 60, 51, 61, 46, 62, 63, 64, 65, 66, 67, 68, 69, 70, 71, 72, 73, 74, 75, 76, 77, 78, 79, 80, 49, 81, 82, 83, 84, 85, 86, 87, 47, 48, 656, 657, 658, 659, 660, 661, 690, 691, 692, 693, 694, 675, 676, 677, 678, 679, 680, 695, 696, 681, 682, 683, 684, 685, 686, 687, 688, 689] (by decide +kernel) (by decide +kernel)
set_option maxRecDepth 20000 in
theorem gL_law_X4_read : GoodIn wsL_law (wsV RL 27 RX4 yX4_read wsX4_read) := goodIn_app (goodIn_of _ (by decide +kernel)) ggL_law_X4_read
set_option maxRecDepth 20000 in
theorem ggL_law_X5_read : GoodIn wsL_law wsX5_read := goodIn_r _ [282, 108, 283, 115, 284, 285, 286, 287, 5, 288, 289, 290, 291, 292, 293, 294, 295, 296, 297, 298, 114, 299, 300, 301, 302, 148, 149, 150, 303, 304, 305, 306, 307, 308, 309, 310, 186, 187, 188, 189, 311, 312, 313, 314, 151, 152, 153, 154, 109, 190, 191, 192, 193, 155, 156, 157, 158, 159, 110, 662, 663, 664, 665, 666, 667, 668, 669, 670, 671, 672, 673, 674] (by decide +kernel) (by decide +kernel)
set_option maxRecDepth 20000 in
theorem gL_law_X5_read : GoodIn wsL_law (wsV RL 31 RX5 yX5_read wsX5_read) := goodIn_app (goodIn_of _ (by decide +kernel)) ggL_law_X5_read
set_option maxRecDepth 20000 in
theorem ggL_law_X4_road : GoodIn wsL_law wsX4_road := goodIn_r _ [318, 16, 319, 320, 321, 20, 322, 214, 215, 216, 15, 217, 36, 74, 62, 2, 63, 323, 324, 325, 19, 326, 51, 81, 82, 64, 65, 66, 67, 327, 328, 329, 330, 41, 331, 332, 333, 334, 46, 335, 336, 337, 338, 49, 339, 340, 341, 342, 343, 344, 345, 656, 657, 658, 659, 660, 661, 675, 676, 677, 678, 679, 680, 681, 682, 683, 684, 685, 686, 687, 688, 689] (by decide +kernel) (by decide +kernel)
set_option maxRecDepth 20000 in
theorem gL_law_X4_road : GoodIn wsL_law (wsV RL 32 RX4 yX4_road wsX4_road) := goodIn_app (goodIn_of _ (by decide +kernel)) ggL_law_X4_road
set_option maxRecDepth 20000 in
theorem ggL_law_X5_road : GoodIn wsL_law wsX5_road := goodIn_r _ [349, 108, 226, 227, 228, 5, 229, 148, 149, 150, 350, 351, 352, 353, 202, 203, 204, 205, 206, 207, 208, 209, 354, 355, 356, 357, 113, 358, 359, 360, 361, 362, 363, 364, 365, 366, 367, 368, 369, 662, 663, 664, 665, 666, 667, 668, 669, 670, 671, 672, 673, 674] (by decide +kernel) (by decide +kernel)
set_option maxRecDepth 20000 in
theorem gL_law_X5_road : GoodIn wsL_law (wsV RL 36 RX5 yX5_road wsX5_road) := goodIn_app (goodIn_of _ (by decide +kernel)) ggL_law_X5_road
set_option maxRecDepth 20000 in
theorem ggL_law_X4_square : GoodIn wsL_law wsX4_square := goodIn_r _ [373, 16, 20, 374, 375, 166, 167, 168, 15, 169, 35, 376, 377, 378, 379, 36, 41, 62, 2, 63, 380, 340, 341, 342, 343, 344, 345, 381, 382, 383, 19, 384, 46, 51, 61, 385, 179, 176, 180, 64, 65, 66, 67, 386, 68, 69, 70, 71, 656, 657, 658, 659, 660, 661, 681, 682, 683, 684, 685, 686, 687, 688, 689, 675, 676, 677, 678, 679, 680] (by decide +kernel) (by decide +kernel)
set_option maxRecDepth 20000 in
theorem gL_law_X4_square : GoodIn wsL_law (wsV RL 37 RX4 yX4_square wsX4_square) := goodIn_app (goodIn_of _ (by decide +kernel)) ggL_law_X4_square
set_option maxRecDepth 20000 in
theorem ggL_law_X5_square : GoodIn wsL_law wsX5_square := goodIn_r _ [390, 186, 187, 188, 5, 189, 108, 148, 149, 150, 391, 392, 393, 394, 206, 207, 208, 209, 395, 396, 397, 398, 194, 195, 196, 197, 198, 199, 200, 201, 202, 203, 204, 205, 399, 400, 401, 402, 403, 404, 405, 406, 407, 408, 409, 410, 411, 412, 413, 414, 350, 351, 352, 353, 415, 416, 417, 418, 419, 420, 421, 662, 663, 664, 665, 666, 667, 668, 669, 670, 671, 672, 673, 674] (by decide +kernel) (by decide +kernel)
set_option maxRecDepth 20000 in
theorem gL_law_X5_square : GoodIn wsL_law (wsV RL 40 RX5 yX5_square wsX5_square) := goodIn_app (goodIn_of _ (by decide +kernel)) ggL_law_X5_square
set_option maxRecDepth 20000 in
theorem ggL_law_X4_district : GoodIn wsL_law wsX4_district := goodIn_r _ [425, 20, 426, 427, 16, 428, 429, 430, 15, 431, 36, 41, 432, 433, 434, 435, 40, 62, 2, 63, 436, 437, 438, 19, 439, 51, 80, 79, 440, 380, 340, 341, 342, 343, 344, 345, 656, 657, 658, 659, 660, 661, 681, 682, 683, 684, 685, 686, 687, 688, 689, 675, 676, 677, 678, 679, 680] (by decide +kernel) (by decide +kernel)
set_option maxRecDepth 20000 in
theorem gL_law_X4_district : GoodIn wsL_law (wsV RL 41 RX4 yX4_district wsX4_district) := goodIn_app (goodIn_of _ (by decide +kernel)) ggL_law_X4_district
set_option maxRecDepth 20000 in
theorem ggL_law_X5_district : GoodIn wsL_law wsX5_district := goodIn_r _ [444, 445, 446, 447, 5, 448, 108, 418, 419, 420, 421, 411, 412, 413, 414, 350, 351, 352, 353, 202, 203, 204, 205, 206, 207, 208, 209, 148, 149, 150, 449, 450, 451, 452, 453, 454, 455, 456, 391, 392, 393, 394, 457, 458, 459, 460, 367, 368, 369, 662, 663, 664, 665, 666, 667, 668, 669, 670, 671, 672, 673, 674] (by decide +kernel) (by decide +kernel)
set_option maxRecDepth 20000 in
theorem gL_law_X5_district : GoodIn wsL_law (wsV RL 44 RX5 yX5_district wsX5_district) := goodIn_app (goodIn_of _ (by decide +kernel)) ggL_law_X5_district
set_option maxRecDepth 20000 in
theorem ggL_law_X4_count : GoodIn wsL_law wsX4_count := goodIn_r _ [464, 16, 120, 164, 20, 165, 322, 426, 24, 234, 28, 465, 380, 340, 341, 342, 343, 344, 345, 466, 467, 468, 19, 469, 51, 61, 470, 382, 383, 384, 46, 385, 179, 176, 180, 64, 65, 66, 15, 67, 36, 386, 377, 378, 379, 41, 62, 2, 63, 68, 69, 70, 71, 471, 472, 473, 474, 48, 87, 475, 429, 430, 431, 476, 433, 434, 435, 40, 477, 432, 656, 657, 658, 659, 660, 661, 675, 676, 677, 678, 679, 680, 681, 682, 683, 684, 685, 686, 687, 688, 689, 690, 691, 692, 693, 694, 695, 696] (by decide +kernel) (by decide +kernel)
set_option maxRecDepth 20000 in
theorem gL_law_X4_count : GoodIn wsL_law (wsV RL 45 RX4 yX4_count wsX4_count) := goodIn_app (goodIn_of _ (by decide +kernel)) ggL_law_X4_count
set_option maxRecDepth 20000 in
theorem ggL_law_X5_count : GoodIn wsL_law wsX5_count := goodIn_r _ [481, 108, 482, 284, 159, 194, 195, 196, 5, 197, 198, 199, 200, 201, 202, 203, 204, 205, 206, 207, 208, 209, 411, 412, 413, 414, 350, 351, 352, 353, 367, 368, 369, 483, 484, 485, 486, 395, 396, 397, 398, 399, 400, 401, 402, 445, 446, 447, 448, 418, 419, 420, 421, 487, 488, 489, 490, 449, 450, 451, 452, 453, 454, 455, 456, 662, 663, 664, 665, 666, 667, 668, 669, 670, 671, 672, 673, 674] (by decide +kernel) (by decide +kernel)
set_option maxRecDepth 20000 in
theorem gL_law_X5_count : GoodIn wsL_law (wsV RL 48 RX5 yX5_count wsX5_count) := goodIn_app (goodIn_of _ (by decide +kernel)) ggL_law_X5_count
set_option maxRecDepth 20000 in
theorem ggL_law_X4_way : GoodIn wsL_law wsX4_way := goodIn_r _ [494, 16, 20, 166, 167, 168, 15, 169, 35, 495, 496, 497, 19, 498, 46, 62, 2, 63, 499, 500, 501, 502, 50, 51, 80, 81, 82, 503, 504, 505, 506, 507, 508, 509, 510, 511, 335, 336, 337, 338, 49, 380, 340, 341, 342, 343, 344, 345, 656, 657, 658, 659, 660, 661, 675, 676, 677, 678, 679, 680, 681, 682, 683, 684, 685, 686, 687, 688, 689] (by decide +kernel) (by decide +kernel)
set_option maxRecDepth 20000 in
theorem gL_law_X4_way : GoodIn wsL_law (wsV RL 49 RX4 yX4_way wsX4_way) := goodIn_app (goodIn_of _ (by decide +kernel)) ggL_law_X4_way
set_option maxRecDepth 20000 in
theorem ggL_law_X5_way : GoodIn wsL_law wsX5_way := goodIn_r _ [515, 146, 113, 186, 187, 188, 5, 189, 108, 148, 149, 150, 516, 517, 518, 519, 399, 400, 401, 402, 202, 203, 204, 205, 206, 207, 208, 209, 359, 360, 361, 362, 358, 520, 521, 522, 523, 367, 368, 369, 662, 663, 664, 665, 666, 667, 668, 669, 670, 671, 672, 673, 674] (by decide +kernel) (by decide +kernel)
set_option maxRecDepth 20000 in
theorem gL_law_X5_way : GoodIn wsL_law (wsV RL 52 RX5 yX5_way wsX5_way) := goodIn_app (goodIn_of _ (by decide +kernel)) ggL_law_X5_way
set_option maxRecDepth 20000 in
theorem ggL_law_X4_must : GoodIn wsL_law wsX4_must := goodIn_r _ [527, 16, 20, 166, 167, 168, 15, 169, 35, 528, 529, 530, 19, 531, 51, 80, 532, 509, 510, 511, 335, 336, 337, 338, 49, 46, 62, 2, 63, 533, 534, 535, 536, 339, 340, 341, 342, 343, 344, 345, 656, 657, 658, 659, 660, 661, 675, 676, 677, 678, 679, 680, 681, 682, 683, 684, 685, 686, 687, 688, 689] (by decide +kernel) (by decide +kernel)
set_option maxRecDepth 20000 in
theorem gL_law_X4_must : GoodIn wsL_law (wsV RL 53 RX4 yX4_must wsX4_must) := goodIn_app (goodIn_of _ (by decide +kernel)) ggL_law_X4_must
set_option maxRecDepth 20000 in
theorem ggL_law_X5_must : GoodIn wsL_law wsX5_must := goodIn_r _ [540, 108, 186, 187, 188, 5, 189, 148, 149, 150, 516, 517, 518, 519, 399, 400, 401, 402, 202, 203, 204, 205, 206, 207, 208, 209, 520, 521, 522, 523, 662, 663, 664, 665, 666, 667, 668, 669, 670, 671, 672, 673, 674] (by decide +kernel) (by decide +kernel)
set_option maxRecDepth 20000 in
theorem gL_law_X5_must : GoodIn wsL_law (wsV RL 56 RX5 yX5_must wsX5_must) := goodIn_app (goodIn_of _ (by decide +kernel)) ggL_law_X5_must
set_option maxRecDepth 20000 in
theorem ggL_law_X4_cutOff : GoodIn wsL_law wsX4_cutOff := goodIn_r _ [544, 16, 20, 166, 167, 168, 15, 169, 35, 214, 215, 216, 217, 36, 545, 336, 337, 19, 338, 49, 46, 62, 2, 63, 656, 657, 658, 659, 660, 661, 675, 676, 677, 678, 679, 680, 681, 682, 683, 684, 685, 686, 687, 688, 689] (by decide +kernel) (by decide +kernel)
set_option maxRecDepth 20000 in
theorem gL_law_X4_cutOff : GoodIn wsL_law (wsV RL 57 RX4 yX4_cutOff wsX4_cutOff) := goodIn_app (goodIn_of _ (by decide +kernel)) ggL_law_X4_cutOff
set_option maxRecDepth 20000 in
theorem ggL_law_X5_cutOff : GoodIn wsL_law wsX5_cutOff := goodIn_r _ [549, 186, 187, 188, 5, 189, 108, 148, 149, 150, 226, 227, 228, 229, 399, 400, 401, 402, 202, 203, 204, 205, 206, 207, 208, 209, 662, 663, 664, 665, 666, 667, 668, 669, 670, 671, 672, 673, 674] (by decide +kernel) (by decide +kernel)
set_option maxRecDepth 20000 in
theorem gL_law_X5_cutOff : GoodIn wsL_law (wsV RL 60 RX5 yX5_cutOff wsX5_cutOff) := goodIn_app (goodIn_of _ (by decide +kernel)) ggL_law_X5_cutOff
set_option maxRecDepth 20000 in
theorem ggL_law_X4_ifBuilt : GoodIn wsL_law wsX4_ifBuilt := goodIn_r _ [553, 16, 20, 426, 165, 166, 167, 168, 15, 169, 35, 508, 509, 510, 19, 511, 51, 80, 335, 336, 337, 338, 49, 46, 62, 2, 63, 380, 340, 341, 342, 343, 344, 345, 495, 496, 497, 498, 656, 657, 658, 659, 660, 661, 681, 682, 683, 684, 685, 686, 687, 688, 689, 675, 676, 677, 678, 679, 680] (by decide +kernel) (by decide +kernel)
set_option maxRecDepth 20000 in
theorem gL_law_X4_ifBuilt : GoodIn wsL_law (wsV RL 61 RX4 yX4_ifBuilt wsX4_ifBuilt) := goodIn_app (goodIn_of _ (by decide +kernel)) ggL_law_X4_ifBuilt
set_option maxRecDepth 20000 in
theorem ggL_law_X5_ifBuilt : GoodIn wsL_law wsX5_ifBuilt := goodIn_r _ [557, 146, 186, 187, 188, 5, 189, 108, 148, 149, 150, 516, 517, 518, 519, 399, 400, 401, 402, 202, 203, 204, 205, 206, 207, 208, 209, 520, 521, 522, 523, 367, 368, 369, 445, 446, 447, 448, 418, 419, 420, 421, 411, 412, 413, 414, 350, 351, 352, 353, 194, 195, 196, 197, 198, 199, 200, 201, 662, 663, 664, 665, 666, 667, 668, 669, 670, 671, 672, 673, 674] (by decide +kernel) (by decide +kernel)
set_option maxRecDepth 20000 in
theorem gL_law_X5_ifBuilt : GoodIn wsL_law (wsV RL 64 RX5 yX5_ifBuilt wsX5_ifBuilt) := goodIn_app (goodIn_of _ (by decide +kernel)) ggL_law_X5_ifBuilt
set_option maxRecDepth 20000 in
theorem ggL_law_X4_bestBuilt : GoodIn wsL_law wsX4_bestBuilt := goodIn_r _ [561, 20, 16, 120, 562, 563, 564, 19, 565, 79, 339, 340, 341, 342, 343, 344, 345, 566, 496, 497, 498, 46, 62, 2, 63, 532, 509, 510, 511, 51, 80, 335, 336, 337, 338, 49, 656, 657, 658, 659, 660, 661, 675, 676, 677, 678, 679, 680, 681, 682, 683, 684, 685, 686, 687, 688, 689] (by decide +kernel) (by decide +kernel)
set_option maxRecDepth 20000 in
theorem gL_law_X4_bestBuilt : GoodIn wsL_law (wsV RL 65 RX4 yX4_bestBuilt wsX4_bestBuilt) := goodIn_app (goodIn_of _ (by decide +kernel)) ggL_law_X4_bestBuilt
set_option maxRecDepth 20000 in
theorem ggL_law_X5_bestBuilt : GoodIn wsL_law wsX5_bestBuilt := goodIn_r _ [570, 146, 358, 108, 148, 149, 5, 150, 411, 412, 413, 414, 350, 351, 352, 353, 202, 203, 204, 205, 206, 207, 208, 209, 367, 368, 369, 516, 517, 518, 519, 399, 400, 401, 402, 520, 521, 522, 523, 662, 663, 664, 665, 666, 667, 668, 669, 670, 671, 672, 673, 674] (by decide +kernel) (by decide +kernel)
set_option maxRecDepth 20000 in
theorem gL_law_X5_bestBuilt : GoodIn wsL_law (wsV RL 68 RX5 yX5_bestBuilt wsX5_bestBuilt) := goodIn_app (goodIn_of _ (by decide +kernel)) ggL_law_X5_bestBuilt
set_option maxRecDepth 20000 in
theorem ggL_law_X4_worstLoss : GoodIn wsL_law wsX4_worstLoss := goodIn_r _ [574, 16, 164, 20, 331, 332, 333, 19, 334, 51, 81, 46, 335, 336, 337, 338, 49, 62, 2, 63, 339, 340, 341, 342, 343, 344, 345, 656, 657, 658, 659, 660, 661, 675, 676, 677, 678, 679, 680, 681, 682, 683, 684, 685, 686, 687, 688, 689] (by decide +kernel) (by decide +kernel)
set_option maxRecDepth 20000 in
theorem gL_law_X4_worstLoss : GoodIn wsL_law (wsV RL 69 RX4 yX4_worstLoss wsX4_worstLoss) := goodIn_app (goodIn_of _ (by decide +kernel)) ggL_law_X4_worstLoss
set_option maxRecDepth 20000 in
theorem ggL_law_X5_worstLoss : GoodIn wsL_law wsX5_worstLoss := goodIn_r _ [578, 108, 148, 149, 5, 150, 363, 364, 365, 366, 350, 351, 352, 353, 202, 203, 204, 205, 206, 207, 208, 209, 367, 368, 369, 662, 663, 664, 665, 666, 667, 668, 669, 670, 671, 672, 673, 674] (by decide +kernel) (by decide +kernel)
set_option maxRecDepth 20000 in
theorem gL_law_X5_worstLoss : GoodIn wsL_law (wsV RL 72 RX5 yX5_worstLoss wsX5_worstLoss) := goodIn_app (goodIn_of _ (by decide +kernel)) ggL_law_X5_worstLoss
set_option maxRecDepth 20000 in
theorem ggL_law_X4_needed : GoodIn wsL_law wsX4_needed := goodIn_r _ [582, 16, 20, 375, 166, 167, 168, 15, 169, 35, 583, 584, 585, 19, 586, 87, 48, 587, 437, 438, 439, 51, 80, 79, 440, 62, 2, 63, 656, 657, 658, 659, 660, 661, 681, 682, 683, 684, 685, 686, 687, 688, 689, 675, 676, 677, 678, 679, 680] (by decide +kernel) (by decide +kernel)
set_option maxRecDepth 20000 in
theorem gL_law_X4_needed : GoodIn wsL_law (wsV RL 73 RX4 yX4_needed wsX4_needed) := goodIn_app (goodIn_of _ (by decide +kernel)) ggL_law_X4_needed
set_option maxRecDepth 20000 in
theorem ggL_law_X5_needed : GoodIn wsL_law wsX5_needed := goodIn_r _ [591, 186, 187, 188, 5, 189, 108, 148, 149, 150, 399, 400, 401, 402, 202, 203, 204, 205, 206, 207, 208, 209, 445, 446, 447, 448, 418, 419, 420, 421, 411, 412, 413, 414, 350, 351, 352, 353, 449, 450, 451, 452, 391, 392, 393, 394, 662, 663, 664, 665, 666, 667, 668, 669, 670, 671, 672, 673, 674] (by decide +kernel) (by decide +kernel)
set_option maxRecDepth 20000 in
theorem gL_law_X5_needed : GoodIn wsL_law (wsV RL 76 RX5 yX5_needed wsX5_needed) := goodIn_app (goodIn_of _ (by decide +kernel)) ggL_law_X5_needed
set_option maxRecDepth 20000 in
theorem ggL_law_X4_put : GoodIn wsL_law wsX4_put := goodIn_r _ [595, 24, 234, 596, 597, 2, 598, 599, 600, 601, 602, 603, 604, 23, 605, 93, 92, 606, 656, 657, 658, 659, 660, 661, 690, 691, 692, 693, 694] (by decide +kernel) (by decide +kernel)
set_option maxRecDepth 20000 in
theorem gL_law_X4_put : GoodIn wsL_law (wsV RL 79 RX4 yX4_put wsX4_put) := goodIn_app (goodIn_of _ (by decide +kernel)) ggL_law_X4_put
set_option maxRecDepth 20000 in
theorem ggL_law_X5_put : GoodIn wsL_law wsX5_put := goodIn_r _ [610, 611, 612, 613, 284, 114, 148, 149, 5, 150, 662, 663, 664, 665, 666, 667, 668, 669, 670, 671, 672, 673, 674] (by decide +kernel) (by decide +kernel)
set_option maxRecDepth 20000 in
theorem gL_law_X5_put : GoodIn wsL_law (wsV RL 83 RX5 yX5_put wsX5_put) := goodIn_app (goodIn_of _ (by decide +kernel)) ggL_law_X5_put
set_option maxRecDepth 20000 in
theorem ggL_law_X4_wipe : GoodIn wsL_law wsX4_wipe := goodIn_r _ [617, 24, 234, 656, 657, 658, 659, 660, 661, 690, 691, 692, 693, 694] (by decide +kernel) (by decide +kernel)
set_option maxRecDepth 20000 in
theorem gL_law_X4_wipe : GoodIn wsL_law (wsV RL 84 RX4 yX4_wipe wsX4_wipe) := goodIn_app (goodIn_of _ (by decide +kernel)) ggL_law_X4_wipe
set_option maxRecDepth 20000 in
theorem ggL_law_X5_wipe : GoodIn wsL_law wsX5_wipe := goodIn_r _ [621, 284, 662, 663, 664, 665, 666, 667, 668, 669, 670, 671, 672, 673, 674] (by decide +kernel) (by decide +kernel)
set_option maxRecDepth 20000 in
theorem gL_law_X5_wipe : GoodIn wsL_law (wsV RL 87 RX5 yX5_wipe wsX5_wipe) := goodIn_app (goodIn_of _ (by decide +kernel)) ggL_law_X5_wipe
set_option maxRecDepth 20000 in
theorem ggL_law_X4_fault : GoodIn wsL_law wsX4_fault := goodIn_r _ [625, 24, 235, 236, 237, 23, 238, 95, 96, 93, 92, 239, 240, 241, 242, 243, 244, 245, 246, 247, 248, 249, 250, 251, 252, 253, 254, 255, 256, 257, 258, 94, 656, 657, 658, 659, 660, 661, 690, 691, 692, 693, 694] (by decide +kernel) (by decide +kernel)
set_option maxRecDepth 20000 in
theorem gL_law_X4_fault : GoodIn wsL_law (wsV RL 88 RX4 yX4_fault wsX4_fault) := goodIn_app (goodIn_of _ (by decide +kernel)) ggL_law_X4_fault
set_option maxRecDepth 20000 in
theorem ggL_law_X5_fault : GoodIn wsL_law wsX5_fault := goodIn_r _ [288, 289, 283, 284, 290, 291, 292, 5, 293, 294, 115, 295, 296, 297, 298, 114, 299, 300, 301, 302, 148, 149, 150, 303, 304, 305, 306, 662, 663, 664, 665, 666, 667, 668, 669, 670, 671, 672, 673, 674] (by decide +kernel) (by decide +kernel)
set_option maxRecDepth 20000 in
theorem gL_law_X5_fault : GoodIn wsL_law (wsV RL 91 RX5 yX5_fault wsX5_fault) := goodIn_app (goodIn_of _ (by decide +kernel)) ggL_law_X5_fault
set_option maxRecDepth 20000 in
theorem ggL_law_X4_undo : GoodIn wsL_law wsX4_undo := goodIn_r _ [630, 28, 465, 16, 20, 631, 632, 633, 27, 634, 103, 102, 133, 134, 135, 15, 136, 35, 36, 38, 137, 138, 139, 140, 39, 40, 41, 141, 53, 54, 19, 55, 56, 57, 58, 59, 60, 51, 61, 46, 62, 2, 63, 64, 65, 66, 67, 68, 69, 70, 71, 72, 73, 74, 75, 76, 77, 78, 79, 80, 49, 81, 82, 83, 84, 85, 86, 87, 47, 48, 656, 657, 658, 659, 660, 661, 695, 696, 675, 676, 677, 678, 679, 680, 681, 682, 683, 684, 685, 686, 687, 688, 689] (by decide +kernel) (by decide +kernel)
set_option maxRecDepth 20000 in
theorem gL_law_X4_undo : GoodIn wsL_law (wsV RL 92 RX4 yX4_undo wsX4_undo) := goodIn_app (goodIn_of _ (by decide +kernel)) ggL_law_X4_undo
set_option maxRecDepth 20000 in
theorem ggL_law_X5_undo : GoodIn wsL_law wsX5_undo := goodIn_r _ [638, 159, 108, 110, 662, 663, 664, 665, 666, 667, 668, 669, 670, 671, 672, 673, 674] (by decide +kernel) (by decide +kernel)
set_option maxRecDepth 20000 in
theorem gL_law_X5_undo : GoodIn wsL_law (wsV RL 95 RX5 yX5_undo wsX5_undo) := goodIn_app (goodIn_of _ (by decide +kernel)) ggL_law_X5_undo
set_option maxRecDepth 20000 in
theorem ggL_law_X4_save : GoodIn wsL_law wsX4_save := goodIn_r _ [642, 29, 16, 31, 164, 643, 134, 135, 15, 136, 35, 36, 38, 137, 138, 139, 140, 39, 40, 41, 656, 657, 658, 659, 660, 661, 675, 676, 677, 678, 679, 680] (by decide +kernel) (by decide +kernel)
set_option maxRecDepth 20000 in
theorem gL_law_X4_save : GoodIn wsL_law (wsV RL 96 RX4 yX4_save wsX4_save) := goodIn_app (goodIn_of _ (by decide +kernel)) ggL_law_X4_save
set_option maxRecDepth 20000 in
theorem ggL_law_X5_save : GoodIn wsL_law wsX5_save := goodIn_r _ [647, 111, 108, 112, 148, 149, 5, 150, 662, 663, 664, 665, 666, 667, 668, 669, 670, 671, 672, 673, 674] (by decide +kernel) (by decide +kernel)
set_option maxRecDepth 20000 in
theorem gL_law_X5_save : GoodIn wsL_law (wsV RL 99 RX5 yX5_save wsX5_save) := goodIn_app (goodIn_of _ (by decide +kernel)) ggL_law_X5_save
set_option maxRecDepth 20000 in
theorem ggL_law_X4_restore : GoodIn wsL_law wsX4_restore := goodIn_r _ [651, 31, 28, 16, 29, 20, 164, 125, 126, 127, 27, 128, 103, 102, 129, 130, 131, 132, 133, 134, 135, 15, 136, 35, 36, 38, 137, 138, 139, 140, 39, 40, 41, 643, 141, 53, 54, 19, 55, 56, 57, 58, 59, 60, 51, 61, 46, 62, 2, 63, 64, 65, 66, 67, 68, 69, 70, 71, 72, 73, 74, 75, 76, 77, 78, 79, 80, 49, 81, 82, 83, 84, 85, 86, 87, 47, 48, 656, 657, 658, 659, 660, 661, 675, 676, 677, 678, 679, 680, 695, 696, 681, 682, 683, 684, 685, 686, 687, 688, 689] (by decide +kernel) (by decide +kernel)
set_option maxRecDepth 20000 in
theorem gL_law_X4_restore : GoodIn wsL_law (wsV RL 100 RX4 yX4_restore wsX4_restore) := goodIn_app (goodIn_of _ (by decide +kernel)) ggL_law_X4_restore
set_option maxRecDepth 20000 in
theorem ggL_law_X5_restore : GoodIn wsL_law wsX5_restore := goodIn_r _ [655, 112, 108, 111, 148, 149, 5, 150, 151, 152, 153, 154, 109, 155, 156, 157, 158, 159, 110, 662, 663, 664, 665, 666, 667, 668, 669, 670, 671, 672, 673, 674] (by decide +kernel) (by decide +kernel)
set_option maxRecDepth 20000 in
theorem gL_law_X5_restore : GoodIn wsL_law (wsV RL 103 RX5 yX5_restore wsX5_restore) := goodIn_app (goodIn_of _ (by decide +kernel)) ggL_law_X5_restore
