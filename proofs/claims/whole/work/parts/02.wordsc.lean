set_option maxRecDepth 20000 in
theorem wl_wsL_law_r19 : ∀ w ∈ wsL_law_r19, w ∈ lw_tbl := mem_r wsL_law_r19 [688, 689, 690, 691, 693, 30, 694, 379, 380, 381, 382, 695, 696, 697, 698, 699, 701, 31, 702, 383, 384, 385, 386, 387] (by decide +kernel)
set_option maxRecDepth 20000 in
theorem wl_wsL_law_r20 : ∀ w ∈ wsL_law_r20, w ∈ lw_tbl := mem_r wsL_law_r20 [388, 389, 390, 391, 392, 393, 394, 395, 703, 704, 705, 706, 707, 709, 32, 710, 396, 397, 398, 399, 400, 401, 402, 403] (by decide +kernel)
set_option maxRecDepth 20000 in
theorem wl_wsL_law_r21 : ∀ w ∈ wsL_law_r21, w ∈ lw_tbl := mem_r wsL_law_r21 [404, 405, 711, 712, 713, 714, 715, 716, 717, 718, 719, 720, 406, 407, 408, 409, 721, 722, 723, 724, 410, 411, 412, 413] (by decide +kernel)
set_option maxRecDepth 20000 in
theorem wl_wsL_law_r22 : ∀ w ∈ wsL_law_r22, w ∈ lw_tbl := mem_r wsL_law_r22 [98, 414, 415, 416, 417, 725, 726, 727, 728, 496, 418, 419, 420, 421, 729, 730, 731, 732, 422, 423, 424, 425, 102, 100] (by decide +kernel)
set_option maxRecDepth 20000 in
theorem wl_wsL_law_r23 : ∀ w ∈ wsL_law_r23, w ∈ lw_tbl := mem_r wsL_law_r23 [426, 427, 428, 429, 430, 432, 5, 433, 434, 436, 6, 437, 438, 440, 7, 441, 442, 443, 444, 445, 447, 8, 448, 449] (by decide +kernel)
set_option maxRecDepth 20000 in
theorem wl_wsL_law_r24 : ∀ w ∈ wsL_law_r24, w ∈ lw_tbl := mem_r wsL_law_r24 [451, 9, 452, 454, 456, 10, 457, 104, 458, 459, 460, 461, 733, 734, 735, 736, 497, 737, 739, 33, 740, 741, 743, 34] (by decide +kernel)
set_option maxRecDepth 20000 in
theorem wl_wsL_law_r25 : ∀ w ∈ wsL_law_r25, w ∈ lw_tbl := mem_r wsL_law_r25 [744, 745, 747, 35, 748, 749, 750, 751, 752, 754, 36, 755, 756, 758, 37, 759, 462, 463, 464, 465, 760, 761, 762, 763] (by decide +kernel)
set_option maxRecDepth 20000 in
theorem wl_wsL_law_r26 : ∀ w ∈ wsL_law_r26, w ∈ lw_tbl := mem_r wsL_law_r26 [466, 467, 468, 469, 764, 765, 766, 767, 768, 770, 38, 771, 470, 471, 472, 473, 474, 475, 476, 477, 478, 479, 480, 481] (by decide +kernel)
set_option maxRecDepth 20000 in
theorem wl_wsL_law_r27 : ∀ w ∈ wsL_law_r27, w ∈ lw_tbl := mem_r wsL_law_r27 [482, 483, 772, 773, 774, 775, 776, 777] (by decide +kernel)
