/-! THE LAW'S WORDS are good for isStep, chunk by chunk -/
theorem gz_isStep_0 : GoodIn wsL_law [.code yL_isStep cL_isStep 13 (some .boolean)] := goodIn_r _ [137] (by decide +kernel) (by decide +kernel)
set_option maxRecDepth 20000 in
theorem gz_isStep_r1 : GoodIn wsL_law wsL_isStep_r1 := goodIn_r _ [138, 139, 140, 2, 141, 12, 113, 142, 16, 143, 144, 145, 20, 146, 24, 147, 148, 149, 150, 151, 152, 153, 154, 155] (by decide +kernel) (by decide +kernel)
set_option maxRecDepth 20000 in
theorem gz_isStep_r2 : GoodIn wsL_law wsL_isStep_r2 := goodIn_r _ [156, 157, 15, 158, 47, 57, 159, 160, 161, 162, 42, 163, 164, 165, 166, 60, 61, 62, 11, 63, 32, 167, 168, 169] (by decide +kernel) (by decide +kernel)
set_option maxRecDepth 20000 in
theorem gz_isStep_r3 : GoodIn wsL_law wsL_isStep_r3 := goodIn_r _ [170, 37, 58, 59, 64, 65, 66, 67, 171, 172, 173, 174, 44, 83, 175, 176, 177, 178, 179, 180, 181, 182, 36, 183] (by decide +kernel) (by decide +kernel)
set_option maxRecDepth 20000 in
theorem gz_isStep_r4 : GoodIn wsL_law wsL_isStep_r4 := goodIn_r _ [184, 105, 106, 102, 107, 108, 185, 186, 187, 188, 189, 190, 191, 192, 31, 193, 194, 195, 196, 76, 197, 198, 199, 200] (by decide +kernel) (by decide +kernel)
set_option maxRecDepth 20000 in
theorem gz_isStep_r5 : GoodIn wsL_law wsL_isStep_r5 := goodIn_r _ [45, 201, 202, 203, 204, 205, 206, 207, 208, 118, 119, 120, 23, 121, 99, 98, 122, 123, 124, 125, 126, 127, 128, 129] (by decide +kernel) (by decide +kernel)
set_option maxRecDepth 20000 in
theorem gz_isStep_r6 : GoodIn wsL_law wsL_isStep_r6 := goodIn_r _ [34, 130, 131, 132, 133, 35, 209, 210, 211, 212, 213, 214, 215, 216, 134, 49, 50, 51, 52, 53, 54, 55, 56, 68] (by decide +kernel) (by decide +kernel)
set_option maxRecDepth 20000 in
theorem gz_isStep_r7 : GoodIn wsL_law wsL_isStep_r7 := goodIn_r _ [69, 70, 71, 72, 73, 74, 75, 77, 78, 79, 80, 81, 82, 43, 217, 218, 219, 220, 221, 222, 223, 224, 225, 226] (by decide +kernel) (by decide +kernel)
set_option maxRecDepth 20000 in
theorem gz_isStep_r8 : GoodIn wsL_law wsL_isStep_r8 := goodIn_r _ [227, 228, 229, 230, 231, 232, 233, 234, 235, 236, 237, 238, 239, 240, 241, 242, 243, 244, 245, 246, 247, 248, 249, 250] (by decide +kernel) (by decide +kernel)
set_option maxRecDepth 20000 in
theorem gz_isStep_r9 : GoodIn wsL_law wsL_isStep_r9 := goodIn_r _ [251, 252, 253, 254, 255, 256] (by decide +kernel) (by decide +kernel)
theorem gzX4 : GoodIn wsL_law wsX40 := goodIn_sub inlX4 (by decide +kernel)
theorem gzX3 : GoodIn wsL_law wsX30 := goodIn_sub inlX3 (by decide +kernel)
theorem gzX2 : GoodIn wsL_law wsX20 := goodIn_sub inlX2 (by decide +kernel)
theorem gzX1 : GoodIn wsL_law wsX10 := goodIn_sub inlX1 (by decide +kernel)
theorem gzX0 : GoodIn wsL_law wsX00 := goodIn_sub inlX0 (by decide +kernel)
theorem ggL_law_L_isStep : GoodIn wsL_law wsL_isStep := goodIn_app (a := [.code yL_isStep cL_isStep 13 (some .boolean)]) gz_isStep_0 (goodIn_app (goodIn_app (goodIn_app (goodIn_app (goodIn_app (goodIn_app gz_isStep_r1 (goodIn_app gz_isStep_r2 (goodIn_app gz_isStep_r3 (goodIn_app gz_isStep_r4 (goodIn_app gz_isStep_r5 (goodIn_app gz_isStep_r6 (goodIn_app gz_isStep_r7 (goodIn_app gz_isStep_r8 (gz_isStep_r9))))))))) gzX4) gzX3) gzX2) gzX1) gzX0)
set_option maxRecDepth 20000 in
theorem gL_law_L_isStep : GoodIn wsL_law (va_wsS RL 76 yL_isStep wsL_isStep) := goodIn_app (goodIn_of _ (by decide +kernel)) ggL_law_L_isStep
