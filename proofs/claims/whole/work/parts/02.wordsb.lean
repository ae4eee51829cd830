set_option maxRecDepth 20000 in
theorem wl_wsL_law_r10 : ∀ w ∈ wsL_law_r10, w ∈ lw_tbl := mem_r wsL_law_r10 [243, 244, 245, 246, 247, 617, 618, 619, 620, 252, 253, 254, 255, 256, 257, 258, 259, 260, 261, 262, 263, 264, 265, 48] (by decide +kernel)
set_option maxRecDepth 20000 in
theorem wl_wsL_law_r11 : ∀ w ∈ wsL_law_r11, w ∈ lw_tbl := mem_r wsL_law_r11 [266, 267, 268, 269, 621, 622, 623, 624, 270, 271, 272, 273, 274, 275, 276, 277, 278, 279, 280, 281, 282, 283, 284, 285] (by decide +kernel)
set_option maxRecDepth 20000 in
theorem wl_wsL_law_r12 : ∀ w ∈ wsL_law_r12, w ∈ lw_tbl := mem_r wsL_law_r12 [625, 626, 627, 628, 286, 287, 288, 289, 290, 291, 292, 293, 294, 295, 296, 297, 629, 630, 631, 632, 298, 299, 300, 301] (by decide +kernel)
set_option maxRecDepth 20000 in
theorem wl_wsL_law_r13 : ∀ w ∈ wsL_law_r13, w ∈ lw_tbl := mem_r wsL_law_r13 [79, 328, 74, 302, 303, 304, 305, 306, 77, 70, 307, 308, 49, 309, 310, 312, 3, 313, 314, 315, 316, 317, 318, 321] (by decide +kernel)
set_option maxRecDepth 20000 in
theorem wl_wsL_law_r14 : ∀ w ∈ wsL_law_r14, w ∈ lw_tbl := mem_r wsL_law_r14 [322, 323, 324, 327, 329, 330, 331, 332, 333, 334, 633, 634, 635, 636, 503, 637, 639, 24, 640, 641, 642, 644, 25, 645] (by decide +kernel)
set_option maxRecDepth 20000 in
theorem wl_wsL_law_r15 : ∀ w ∈ wsL_law_r15, w ∈ lw_tbl := mem_r wsL_law_r15 [500, 501, 502, 646, 647, 648, 649, 651, 26, 652, 653, 655, 27, 656, 657, 658, 659, 660, 662, 28, 663, 664, 665, 666] (by decide +kernel)
set_option maxRecDepth 20000 in
theorem wl_wsL_law_r16 : ∀ w ∈ wsL_law_r16, w ∈ lw_tbl := mem_r wsL_law_r16 [335, 336, 337, 338, 339, 340, 341, 667, 668, 669, 670, 342, 343, 344, 345, 346, 671, 672, 673, 674, 347, 348, 349, 350] (by decide +kernel)
set_option maxRecDepth 20000 in
theorem wl_wsL_law_r17 : ∀ w ∈ wsL_law_r17, w ∈ lw_tbl := mem_r wsL_law_r17 [133, 135, 351, 352, 353, 354, 355, 78, 71, 356, 357, 359, 4, 360, 365, 366, 367, 361, 362, 363, 364, 368, 369, 675] (by decide +kernel)
set_option maxRecDepth 20000 in
theorem wl_wsL_law_r18 : ∀ w ∈ wsL_law_r18, w ∈ lw_tbl := mem_r wsL_law_r18 [676, 677, 678, 370, 371, 372, 373, 129, 131, 72, 679, 680, 681, 682, 683, 685, 29, 686, 374, 375, 376, 377, 378, 687] (by decide +kernel)
