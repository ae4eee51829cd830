theorem mem_r {big : List Cond} (ws : List Cond) (ps : List Nat) (hp : ws = ps.filterMap (fun i => big[i]?)) : ∀ w ∈ ws, w ∈ big := by
  intro w hw
  rw [hp] at hw
  obtain ⟨i, -, hi⟩ := List.mem_filterMap.mp hw
  exact List.mem_of_getElem? hi
set_option maxRecDepth 20000 in
theorem wl_wsL_law_r1 : ∀ w ∈ wsL_law_r1, w ∈ lw_tbl := mem_r wsL_law_r1 [50, 51, 40, 484, 485, 46, 52, 53, 54, 55, 56, 57, 58, 59, 41, 155, 156, 157, 158, 159, 160, 161, 162, 91] (by decide +kernel)
set_option maxRecDepth 20000 in
theorem wl_wsL_law_r2 : ∀ w ∈ wsL_law_r2, w ∈ lw_tbl := mem_r wsL_law_r2 [92, 43, 163, 121, 122, 44, 164, 145, 146, 45, 165, 60, 61, 62, 63, 69, 73, 89, 75, 76, 66, 68, 67, 42] (by decide +kernel)
set_option maxRecDepth 20000 in
theorem wl_wsL_law_r3 : ∀ w ∈ wsL_law_r3, w ∈ lw_tbl := mem_r wsL_law_r3 [94, 95, 96, 97, 99, 101, 120, 103, 105, 106, 124, 125, 126, 127, 128, 130, 132, 134, 148, 149, 150, 151, 486, 487] (by decide +kernel)
set_option maxRecDepth 20000 in
theorem wl_wsL_law_r4 : ∀ w ∈ wsL_law_r4, w ∈ lw_tbl := mem_r wsL_law_r4 [488, 489, 490, 491, 492, 494, 495, 498, 499, 504, 505, 189, 190, 191, 192, 193, 195, 0, 196, 197, 198, 199, 200, 201] (by decide +kernel)
set_option maxRecDepth 20000 in
theorem wl_wsL_law_r5 : ∀ w ∈ wsL_law_r5, w ∈ lw_tbl := mem_r wsL_law_r5 [202, 203, 204, 208, 209, 206, 207, 210, 211, 212, 213, 214, 216, 1, 217, 228, 229, 47, 230, 218, 219, 220, 221, 222] (by decide +kernel)
set_option maxRecDepth 20000 in
theorem wl_wsL_law_r6 : ∀ w ∈ wsL_law_r6, w ∈ lw_tbl := mem_r wsL_law_r6 [223, 224, 226, 2, 227, 539, 540, 541, 542, 543, 545, 11, 546, 547, 549, 12, 550, 551, 553, 13, 554, 562, 590, 555] (by decide +kernel)
set_option maxRecDepth 20000 in
theorem wl_wsL_law_r7 : ∀ w ∈ wsL_law_r7, w ∈ lw_tbl := mem_r wsL_law_r7 [557, 14, 558, 563, 559, 560, 561, 564, 565, 566, 567, 568, 569, 570, 572, 15, 573, 574, 576, 16, 577, 578, 580, 17] (by decide +kernel)
set_option maxRecDepth 20000 in
theorem wl_wsL_law_r8 : ∀ w ∈ wsL_law_r8, w ∈ lw_tbl := mem_r wsL_law_r8 [581, 582, 584, 18, 585, 586, 588, 19, 589, 591, 593, 20, 594, 595, 597, 21, 598, 493, 599, 600, 601, 602, 604, 22] (by decide +kernel)
set_option maxRecDepth 20000 in
theorem wl_wsL_law_r9 : ∀ w ∈ wsL_law_r9, w ∈ lw_tbl := mem_r wsL_law_r9 [605, 606, 608, 23, 609, 610, 611, 612, 231, 232, 233, 234, 235, 236, 237, 238, 239, 613, 614, 615, 616, 240, 241, 242] (by decide +kernel)
