set_option maxRecDepth 20000 in
theorem lwin_wsL_law0_r1 : GoodIn lw_tbl wsL_law0_r1 := goodIn_r _ [48, 49, 36, 547, 548, 39, 760, 50, 51, 52, 53, 54, 55, 56, 57, 37, 143, 100, 101, 38, 144, 145, 59, 60] (by decide +kernel) (by decide +kernel)
set_option maxRecDepth 20000 in
theorem lwin_wsL_law0_r2 : GoodIn lw_tbl wsL_law0_r2 := goodIn_r _ [61, 99, 62, 64, 66, 68, 70, 72, 103, 104, 105, 106, 108, 123, 124, 125, 126, 74, 76, 78, 127, 129, 0, 130] (by decide +kernel) (by decide +kernel)
set_option maxRecDepth 20000 in
theorem lwin_wsL_law0_r3 : GoodIn lw_tbl wsL_law0_r3 := goodIn_r _ [131, 133, 1, 134, 135, 137, 2, 138, 139, 140, 141, 142, 110, 112, 549, 550, 551, 552, 558, 559, 560, 561, 562, 563] (by decide +kernel) (by decide +kernel)
set_option maxRecDepth 20000 in
theorem lwin_wsL_law0_r4 : GoodIn lw_tbl wsL_law0_r4 := goodIn_r _ [564, 565, 566, 553, 555, 22, 556, 557, 568, 569, 570, 571, 572, 573, 200, 201, 35, 202, 203, 204, 205, 206, 207, 208] (by decide +kernel) (by decide +kernel)
set_option maxRecDepth 20000 in
theorem lwin_wsL_law0_r5 : GoodIn lw_tbl wsL_law0_r5 := goodIn_r _ [209, 210, 211, 43, 616, 617, 618, 619, 620, 621, 622, 623, 625, 23, 626, 574, 612, 613, 614, 615, 280, 281, 282, 283] (by decide +kernel) (by decide +kernel)
set_option maxRecDepth 20000 in
theorem lwin_wsL_law0_r6 : GoodIn lw_tbl wsL_law0_r6 := goodIn_r _ [284, 285, 286, 287, 288, 309, 45, 289, 291, 5, 292, 293, 44, 325, 326, 327, 328, 329, 330, 331, 332, 333, 335, 6] (by decide +kernel) (by decide +kernel)
set_option maxRecDepth 20000 in
theorem lwin_wsL_law0_r7 : GoodIn lw_tbl wsL_law0_r7 := goodIn_r _ [336, 337, 339, 7, 340, 341, 343, 8, 344, 345, 347, 9, 348, 349, 351, 10, 352, 169, 171, 3, 172, 353, 355, 11] (by decide +kernel) (by decide +kernel)
set_option maxRecDepth 20000 in
theorem lwin_wsL_law0_r8 : GoodIn lw_tbl wsL_law0_r8 := goodIn_r _ [356, 357, 359, 12, 360, 361, 194, 46, 195, 362, 364, 13, 365, 366, 368, 14, 369, 627, 628, 629, 630, 631, 633, 24] (by decide +kernel) (by decide +kernel)
set_option maxRecDepth 20000 in
theorem lwin_wsL_law0_r9 : GoodIn lw_tbl wsL_law0_r9 := goodIn_r _ [634, 635, 637, 25, 638, 567, 639, 641, 26, 642, 643, 645, 27, 646, 647, 649, 28, 650, 651, 653, 29, 654, 370, 371] (by decide +kernel) (by decide +kernel)
set_option maxRecDepth 20000 in
theorem lwin_wsL_law0_r10 : GoodIn lw_tbl wsL_law0_r10 := goodIn_r _ [372, 373, 374, 375, 376, 377, 379, 15, 380, 382, 383, 384, 385, 386, 388, 16, 389, 390, 392, 17, 393, 394, 396, 18] (by decide +kernel) (by decide +kernel)
set_option maxRecDepth 20000 in
theorem lwin_wsL_law0_r11 : GoodIn lw_tbl wsL_law0_r11 := goodIn_r _ [397, 398, 399, 400, 401, 402, 403, 404, 655, 656, 657, 658, 659, 661, 30, 662, 663, 665, 31, 666, 667, 669, 32, 670] (by decide +kernel) (by decide +kernel)
set_option maxRecDepth 20000 in
theorem lwin_wsL_law0_r12 : GoodIn lw_tbl wsL_law0_r12 := goodIn_r _ [405, 406, 407, 408, 409, 410, 411, 412, 413, 414, 415, 416, 418, 19, 419, 671, 672, 673, 674, 675, 677, 33, 678, 420] (by decide +kernel) (by decide +kernel)
set_option maxRecDepth 20000 in
theorem lwin_wsL_law0_r13 : GoodIn lw_tbl wsL_law0_r13 := goodIn_r _ [421, 422, 423, 424, 425, 426, 189, 190, 191, 192, 193, 679, 680, 681, 682, 427, 428, 429, 430, 431, 432, 433, 434, 435] (by decide +kernel) (by decide +kernel)
set_option maxRecDepth 20000 in
theorem lwin_wsL_law0_r14 : GoodIn lw_tbl wsL_law0_r14 := goodIn_r _ [436, 437, 438, 440, 20, 441, 683, 684, 685, 686, 442, 443, 444, 445, 446, 447, 448, 449, 450, 451, 452, 453, 165, 166] (by decide +kernel) (by decide +kernel)
set_option maxRecDepth 20000 in
theorem lwin_wsL_law0_r15 : GoodIn lw_tbl wsL_law0_r15 := goodIn_r _ [167, 168, 687, 688, 689, 690, 454, 455, 456, 457, 458, 459, 460, 691, 692, 693, 694, 461, 462, 463, 464, 465, 466, 467] (by decide +kernel) (by decide +kernel)
set_option maxRecDepth 20000 in
theorem lwin_wsL_law0_r16 : GoodIn lw_tbl wsL_law0_r16 := goodIn_r _ [695, 696, 697, 698, 468, 469, 470, 471, 472, 473, 474, 475, 482, 47, 476, 477, 478, 479, 480, 481, 699, 700, 701, 702] (by decide +kernel) (by decide +kernel)
set_option maxRecDepth 20000 in
theorem lwin_wsL_law0_r17 : GoodIn lw_tbl wsL_law0_r17 := goodIn_r _ [703, 498, 499, 500, 501, 502, 503, 504, 704, 705, 706, 707, 153, 154, 155, 156, 708, 709, 710, 711, 506, 507, 508, 509] (by decide +kernel) (by decide +kernel)
set_option maxRecDepth 20000 in
theorem lwin_wsL_law0_r18 : GoodIn lw_tbl wsL_law0_r18 := goodIn_r _ [510, 511, 512, 513, 515, 21, 516, 517, 712, 713, 714, 715, 716, 718, 34, 719, 519, 520, 521, 522, 523, 524, 525, 720] (by decide +kernel) (by decide +kernel)
set_option maxRecDepth 20000 in
theorem lwin_wsL_law0_r19 : GoodIn lw_tbl wsL_law0_r19 := goodIn_r _ [721, 722, 723, 526, 527, 528, 529, 530, 531, 532, 724, 725, 726, 727, 533, 534, 535, 536, 537, 538, 539, 728, 729, 730] (by decide +kernel) (by decide +kernel)
set_option maxRecDepth 20000 in
theorem lwin_wsL_law0_r20 : GoodIn lw_tbl wsL_law0_r20 := goodIn_r _ [731, 540, 541, 542, 543, 544, 545, 546, 732, 733, 734, 735, 157, 158, 159, 160, 161, 162, 163, 164, 736, 737, 738, 739] (by decide +kernel) (by decide +kernel)
set_option maxRecDepth 20000 in
theorem lwin_wsL_law0_r21 : GoodIn lw_tbl wsL_law0_r21 := goodIn_r _ [173, 174, 175, 176, 740, 741, 742, 743, 177, 178, 179, 180, 744, 745, 746, 747, 181, 182, 183, 184, 748, 749, 750, 751] (by decide +kernel) (by decide +kernel)
set_option maxRecDepth 20000 in
theorem lwin_wsL_law0_r22 : GoodIn lw_tbl wsL_law0_r22 := goodIn_r _ [185, 186, 187, 188, 752, 753, 754, 755, 196, 197, 198, 199, 756, 757, 758, 759] (by decide +kernel) (by decide +kernel)
theorem lwin_wsX00 : GoodIn lw_tbl wsX00 := goodIn_sub (by decide +kernel) (by decide +kernel)
theorem lwin_wsX10 : GoodIn lw_tbl wsX10 := goodIn_sub (by decide +kernel) (by decide +kernel)
theorem lwin_wsX20 : GoodIn lw_tbl wsX20 := goodIn_sub (by decide +kernel) (by decide +kernel)
theorem lwin_wsX30 : GoodIn lw_tbl wsX30 := goodIn_sub (by decide +kernel) (by decide +kernel)
theorem wsL_law_good0 : GoodIn lw_tbl wsL_law0 := goodIn_app (goodIn_app (goodIn_app (goodIn_app (goodIn_app (goodIn_app lwin_wsL_law0_r1 (goodIn_app lwin_wsL_law0_r2 (goodIn_app lwin_wsL_law0_r3 (goodIn_app lwin_wsL_law0_r4 (goodIn_app lwin_wsL_law0_r5 (goodIn_app lwin_wsL_law0_r6 (goodIn_app lwin_wsL_law0_r7 (goodIn_app lwin_wsL_law0_r8 (goodIn_app lwin_wsL_law0_r9 (goodIn_app lwin_wsL_law0_r10 (goodIn_app lwin_wsL_law0_r11 (goodIn_app lwin_wsL_law0_r12 (goodIn_app lwin_wsL_law0_r13 (goodIn_app lwin_wsL_law0_r14 (goodIn_app lwin_wsL_law0_r15 (goodIn_app lwin_wsL_law0_r16 (goodIn_app lwin_wsL_law0_r17 (goodIn_app lwin_wsL_law0_r18 (goodIn_app lwin_wsL_law0_r19 (goodIn_app lwin_wsL_law0_r20 (goodIn_app lwin_wsL_law0_r21 (lwin_wsL_law0_r22)))))))))))))))))))))) lwin_wsX20) lwin_wsX30) lwin_wsX00) lwin_wsX10) (fun _ h => nomatch h)
theorem wsL_law_in0 : ∀ w ∈ wsL_law0, w ∈ lw_tbl := fun w h => (wsL_law_good0 w h).1
