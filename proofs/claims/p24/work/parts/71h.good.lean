/-! THE LAW'S WORDS are good for areAlike, chunk by chunk -/
theorem gz_areAlike_0 : GoodIn wsL_law [.code yL_areAlike cL_areAlike 9 (some .boolean)] := goodIn_r _ [312] (by decide +kernel) (by decide +kernel)
set_option maxRecDepth 20000 in
theorem gz_areAlike_r1 : GoodIn wsL_law wsL_areAlike_r1 := goodIn_r _ [138, 139, 140, 2, 141, 12, 113, 142, 16, 143, 144, 145, 20, 146, 24, 147, 148, 149, 150, 151, 152, 153, 154, 155] (by decide +kernel) (by decide +kernel)
set_option maxRecDepth 20000 in
theorem gz_areAlike_r2 : GoodIn wsL_law wsL_areAlike_r2 := goodIn_r _ [156, 157, 15, 158, 47, 57, 159, 160, 161, 162, 42, 163, 164, 165, 166, 60, 61, 62, 11, 63, 32, 167, 168, 169] (by decide +kernel) (by decide +kernel)
set_option maxRecDepth 20000 in
theorem gz_areAlike_r3 : GoodIn wsL_law wsL_areAlike_r3 := goodIn_r _ [170, 37, 58, 59, 64, 65, 66, 67, 171, 172, 173, 174, 44, 83, 175, 176, 177, 178, 179, 180, 181, 182, 36, 183] (by decide +kernel) (by decide +kernel)
set_option maxRecDepth 20000 in
theorem gz_areAlike_r4 : GoodIn wsL_law wsL_areAlike_r4 := goodIn_r _ [184, 217, 218, 219, 220, 221, 222, 223, 224, 225, 226, 227, 70, 228, 229, 230, 231, 77, 78, 232, 233, 234, 235, 236] (by decide +kernel) (by decide +kernel)
set_option maxRecDepth 20000 in
theorem gz_areAlike_r5 : GoodIn wsL_law wsL_areAlike_r5 := goodIn_r _ [237, 238, 239, 197, 198, 199, 200, 45, 240, 274, 275, 276, 277, 278, 279, 189, 190, 191, 192, 31, 280, 281, 313, 314] (by decide +kernel) (by decide +kernel)
set_option maxRecDepth 20000 in
theorem gz_areAlike_r6 : GoodIn wsL_law wsL_areAlike_r6 := goodIn_r _ [102, 315, 316, 317, 318, 319, 320, 321, 322, 323, 324, 267, 268, 269, 76, 75, 270, 260, 261, 262, 263, 264, 265, 266] (by decide +kernel) (by decide +kernel)
set_option maxRecDepth 20000 in
theorem gz_areAlike_r7 : GoodIn wsL_law wsL_areAlike_r7 := goodIn_r _ [105, 106, 107, 108, 282, 283, 284, 285, 201, 202, 203, 204, 286, 287, 288, 289, 46, 290, 291, 292, 293, 294, 193, 194] (by decide +kernel) (by decide +kernel)
set_option maxRecDepth 20000 in
theorem gz_areAlike_r8 : GoodIn wsL_law wsL_areAlike_r8 := goodIn_r _ [195, 196, 325, 326, 327, 328, 329, 330, 331, 332, 309, 333, 334, 335, 336, 300, 301, 302, 303, 304, 305, 306, 307, 308] (by decide +kernel) (by decide +kernel)
set_option maxRecDepth 20000 in
theorem gz_areAlike_r9 : GoodIn wsL_law wsL_areAlike_r9 := goodIn_r _ [337, 338, 339, 340, 185, 186, 187, 188] (by decide +kernel) (by decide +kernel)
theorem ggL_law_L_areAlike : GoodIn wsL_law wsL_areAlike := goodIn_app (a := [.code yL_areAlike cL_areAlike 9 (some .boolean)]) gz_areAlike_0 (goodIn_app (goodIn_app (goodIn_app (goodIn_app (goodIn_app (goodIn_app gz_areAlike_r1 (goodIn_app gz_areAlike_r2 (goodIn_app gz_areAlike_r3 (goodIn_app gz_areAlike_r4 (goodIn_app gz_areAlike_r5 (goodIn_app gz_areAlike_r6 (goodIn_app gz_areAlike_r7 (goodIn_app gz_areAlike_r8 (gz_areAlike_r9))))))))) gzX4) gzX3) gzX2) gzX1) gzX0)
set_option maxRecDepth 20000 in
theorem gL_law_L_areAlike : GoodIn wsL_law (va_wsS RL 84 yL_areAlike wsL_areAlike) := goodIn_app (goodIn_of _ (by decide +kernel)) ggL_law_L_areAlike
