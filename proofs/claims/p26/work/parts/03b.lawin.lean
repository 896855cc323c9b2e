set_option maxRecDepth 20000 in
theorem lwin_wsL_law0_r1 : GoodIn lw_tbl wsL_law0_r1 := goodIn_r _ [34, 35, 23, 36, 37, 38, 39, 40, 41, 42, 43, 24, 129, 86, 87, 25, 130, 131, 45, 46, 47, 85, 48, 50] (by decide +kernel) (by decide +kernel)
set_option maxRecDepth 20000 in
theorem lwin_wsL_law0_r2 : GoodIn lw_tbl wsL_law0_r2 := goodIn_r _ [52, 54, 56, 58, 89, 90, 91, 92, 94, 109, 110, 111, 112, 60, 62, 64, 113, 115, 0, 116, 117, 119, 1, 120] (by decide +kernel) (by decide +kernel)
set_option maxRecDepth 20000 in
theorem lwin_wsL_law0_r3 : GoodIn lw_tbl wsL_law0_r3 := goodIn_r _ [121, 123, 2, 124, 125, 126, 127, 128, 96, 98, 219, 220, 22, 221, 222, 223, 224, 225, 139, 140, 141, 142, 143, 144] (by decide +kernel) (by decide +kernel)
set_option maxRecDepth 20000 in
theorem lwin_wsL_law0_r4 : GoodIn lw_tbl wsL_law0_r4 := goodIn_r _ [145, 146, 29, 226, 227, 228, 215, 216, 217, 218, 229, 230, 231, 232, 233, 234, 235, 236, 237, 238, 239, 240, 241, 242] (by decide +kernel) (by decide +kernel)
set_option maxRecDepth 20000 in
theorem lwin_wsL_law0_r5 : GoodIn lw_tbl wsL_law0_r5 := goodIn_r _ [243, 244, 245, 246, 247, 248, 249, 251, 4, 252, 253, 254, 255, 256, 257, 258, 259, 260, 261, 262, 263, 264, 266, 5] (by decide +kernel) (by decide +kernel)
set_option maxRecDepth 20000 in
theorem lwin_wsL_law0_r6 : GoodIn lw_tbl wsL_law0_r6 := goodIn_r _ [267, 268, 30, 284, 285, 286, 287, 292, 293, 31, 294, 288, 290, 6, 291, 295, 296, 297, 298, 299, 300, 301, 302, 303] (by decide +kernel) (by decide +kernel)
set_option maxRecDepth 20000 in
theorem lwin_wsL_law0_r7 : GoodIn lw_tbl wsL_law0_r7 := goodIn_r _ [32, 319, 320, 321, 322, 323, 324, 325, 326, 327, 329, 7, 330, 331, 333, 8, 334, 335, 337, 9, 338, 339, 341, 10] (by decide +kernel) (by decide +kernel)
set_option maxRecDepth 20000 in
theorem lwin_wsL_law0_r8 : GoodIn lw_tbl wsL_law0_r8 := goodIn_r _ [342, 343, 345, 11, 346, 347, 349, 12, 350, 351, 353, 13, 354, 355, 356, 357, 358, 360, 14, 361, 362, 364, 15, 365] (by decide +kernel) (by decide +kernel)
set_option maxRecDepth 20000 in
theorem lwin_wsL_law0_r9 : GoodIn lw_tbl wsL_law0_r9 := goodIn_r _ [366, 367, 368, 369, 370, 371, 372, 373, 375, 16, 376, 378, 379, 380, 381, 382, 383, 384, 385, 386, 387, 388, 389, 390] (by decide +kernel) (by decide +kernel)
set_option maxRecDepth 20000 in
theorem lwin_wsL_law0_r10 : GoodIn lw_tbl wsL_law0_r10 := goodIn_r _ [391, 393, 17, 394, 395, 397, 18, 398, 399, 400, 401, 402, 403, 404, 405, 406, 407, 409, 19, 410, 411, 412, 413, 414] (by decide +kernel) (by decide +kernel)
set_option maxRecDepth 20000 in
theorem lwin_wsL_law0_r11 : GoodIn lw_tbl wsL_law0_r11 := goodIn_r _ [421, 33, 415, 416, 417, 418, 419, 420, 437, 438, 439, 440, 441, 442, 443, 444, 445, 446, 447, 448, 449, 450, 451, 452] (by decide +kernel) (by decide +kernel)
set_option maxRecDepth 20000 in
theorem lwin_wsL_law0_r12 : GoodIn lw_tbl wsL_law0_r12 := goodIn_r _ [454, 20, 455, 456, 457, 458, 459, 460, 461, 462, 463, 464, 495, 496, 497, 483, 484, 485, 486, 473, 475, 21, 476, 477] (by decide +kernel) (by decide +kernel)
set_option maxRecDepth 20000 in
theorem lwin_wsL_law0_r13 : GoodIn lw_tbl wsL_law0_r13 := goodIn_r _ [469, 470, 471, 472, 498, 499, 500, 501, 502, 503, 504, 505, 466, 467, 468, 479, 480, 481, 482, 487, 488, 489, 490, 491] (by decide +kernel) (by decide +kernel)
set_option maxRecDepth 20000 in
theorem lwin_wsL_law0_r14 : GoodIn lw_tbl wsL_law0_r14 := goodIn_r _ [492, 493, 494] (by decide +kernel) (by decide +kernel)
theorem lwin_wsX00 : GoodIn lw_tbl wsX00 := goodIn_sub (by decide +kernel) (by decide +kernel)
theorem lwin_wsX10 : GoodIn lw_tbl wsX10 := goodIn_sub (by decide +kernel) (by decide +kernel)
theorem lwin_wsX20 : GoodIn lw_tbl wsX20 := goodIn_sub (by decide +kernel) (by decide +kernel)
theorem lwin_wsX30 : GoodIn lw_tbl wsX30 := goodIn_sub (by decide +kernel) (by decide +kernel)
theorem wsL_law_good0 : GoodIn lw_tbl wsL_law0 := goodIn_app (goodIn_app (goodIn_app (goodIn_app (goodIn_app lwin_wsL_law0_r1 (goodIn_app lwin_wsL_law0_r2 (goodIn_app lwin_wsL_law0_r3 (goodIn_app lwin_wsL_law0_r4 (goodIn_app lwin_wsL_law0_r5 (goodIn_app lwin_wsL_law0_r6 (goodIn_app lwin_wsL_law0_r7 (goodIn_app lwin_wsL_law0_r8 (goodIn_app lwin_wsL_law0_r9 (goodIn_app lwin_wsL_law0_r10 (goodIn_app lwin_wsL_law0_r11 (goodIn_app lwin_wsL_law0_r12 (goodIn_app lwin_wsL_law0_r13 (lwin_wsL_law0_r14)))))))))))))) lwin_wsX20) lwin_wsX00) lwin_wsX10) (fun _ h => nomatch h)
theorem wsL_law_in0 : ∀ w ∈ wsL_law0, w ∈ lw_tbl := fun w h => (wsL_law_good0 w h).1
