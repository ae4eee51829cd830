set_option maxRecDepth 20000 in
theorem wl_wsX40 : ∀ w ∈ wsX40, w ∈ lw_tbl := mem_r wsX40 [166, 168, 170, 172, 174, 176, 178, 180, 182, 184, 186] (by decide +kernel)
set_option maxRecDepth 20000 in
theorem wl_wsX50 : ∀ w ∈ wsX50, w ∈ lw_tbl := mem_r wsX50 [506, 508, 510, 512, 514, 516, 518, 520, 522, 524, 526, 528, 530, 532, 534, 536] (by decide +kernel)
set_option maxRecDepth 20000 in
theorem wl_wsX00 : ∀ w ∈ wsX00, w ∈ lw_tbl := mem_r wsX00 [80, 82, 84, 86] (by decide +kernel)
set_option maxRecDepth 20000 in
theorem wl_wsX30 : ∀ w ∈ wsX30, w ∈ lw_tbl := mem_r wsX30 [107, 109, 111, 113, 115, 117] (by decide +kernel)
set_option maxRecDepth 20000 in
theorem wl_wsX20 : ∀ w ∈ wsX20, w ∈ lw_tbl := mem_r wsX20 [136, 138, 140, 142] (by decide +kernel)
set_option maxRecDepth 20000 in
theorem wl_wsX10 : ∀ w ∈ wsX10, w ∈ lw_tbl := mem_r wsX10 [152] (by decide +kernel)
theorem wl_app {a b : List Cond} (ha : ∀ w ∈ a, w ∈ lw_tbl) (hb : ∀ w ∈ b, w ∈ lw_tbl) : ∀ w ∈ a ++ b, w ∈ lw_tbl := fun w h => (List.mem_append.mp h).elim (ha w) (hb w)
theorem wsL_law_in : ∀ w ∈ wsL_law, w ∈ lw_tbl := wl_app (wl_app (wl_app (wl_app (wl_app (wl_app (wl_app (wl_app wl_wsL_law_r1 (wl_app wl_wsL_law_r2 (wl_app wl_wsL_law_r3 (wl_app wl_wsL_law_r4 (wl_app wl_wsL_law_r5 (wl_app wl_wsL_law_r6 (wl_app wl_wsL_law_r7 (wl_app wl_wsL_law_r8 (wl_app wl_wsL_law_r9 (wl_app wl_wsL_law_r10 (wl_app wl_wsL_law_r11 (wl_app wl_wsL_law_r12 (wl_app wl_wsL_law_r13 (wl_app wl_wsL_law_r14 (wl_app wl_wsL_law_r15 (wl_app wl_wsL_law_r16 (wl_app wl_wsL_law_r17 (wl_app wl_wsL_law_r18 (wl_app wl_wsL_law_r19 (wl_app wl_wsL_law_r20 (wl_app wl_wsL_law_r21 (wl_app wl_wsL_law_r22 (wl_app wl_wsL_law_r23 (wl_app wl_wsL_law_r24 (wl_app wl_wsL_law_r25 (wl_app wl_wsL_law_r26 (wl_wsL_law_r27))))))))))))))))))))))))))) wl_wsX40) wl_wsX50) wl_wsX00) wl_wsX30) wl_wsX20) wl_wsX10) (fun _ h => absurd h List.not_mem_nil)
