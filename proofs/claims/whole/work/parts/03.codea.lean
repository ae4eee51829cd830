theorem inlX0 : ∀ w ∈ wsX00, w ∈ wsL_law := fun _ h => List.mem_append_left _ (List.mem_append_left _ (List.mem_append_left _ (List.mem_append_left _ (List.mem_append_right _ h))))
theorem inX0 : ∀ w ∈ wsX00, w ∈ lw_tbl := fun w h => wsL_law_in w (inlX0 w h)
theorem inlX1 : ∀ w ∈ wsX10, w ∈ wsL_law := fun _ h => List.mem_append_left _ (List.mem_append_right _ h)
theorem inX1 : ∀ w ∈ wsX10, w ∈ lw_tbl := fun w h => wsL_law_in w (inlX1 w h)
theorem inlX2 : ∀ w ∈ wsX20, w ∈ wsL_law := fun _ h => List.mem_append_left _ (List.mem_append_left _ (List.mem_append_right _ h))
theorem inX2 : ∀ w ∈ wsX20, w ∈ lw_tbl := fun w h => wsL_law_in w (inlX2 w h)
theorem inlX3 : ∀ w ∈ wsX30, w ∈ wsL_law := fun _ h => List.mem_append_left _ (List.mem_append_left _ (List.mem_append_left _ (List.mem_append_right _ h)))
theorem inX3 : ∀ w ∈ wsX30, w ∈ lw_tbl := fun w h => wsL_law_in w (inlX3 w h)
theorem inlX4 : ∀ w ∈ wsX40, w ∈ wsL_law := fun _ h => List.mem_append_left _ (List.mem_append_left _ (List.mem_append_left _ (List.mem_append_left _ (List.mem_append_left _ (List.mem_append_left _ (List.mem_append_right _ h))))))
theorem inX4 : ∀ w ∈ wsX40, w ∈ lw_tbl := fun w h => wsL_law_in w (inlX4 w h)
theorem inlX5 : ∀ w ∈ wsX50, w ∈ wsL_law := fun _ h => List.mem_append_left _ (List.mem_append_left _ (List.mem_append_left _ (List.mem_append_left _ (List.mem_append_left _ (List.mem_append_right _ h)))))
theorem inX5 : ∀ w ∈ wsX50, w ∈ lw_tbl := fun w h => wsL_law_in w (inlX5 w h)
theorem inJ6 : ∀ w ∈ wsJ60, w ∈ lw_tbl := by decide +kernel
theorem inJ9 : ∀ w ∈ wsJ90, w ∈ lw_tbl := by decide +kernel
theorem inJ10 : ∀ w ∈ wsJ100, w ∈ lw_tbl := by decide +kernel
theorem inJ7 : ∀ w ∈ wsJ70, w ∈ lw_tbl := by decide +kernel
theorem dX0_init_0 : decode cX0_init 0 = .ok (.aload_n 0, 1) := by decide +kernel
theorem dX0_init_1 : decode cX0_init 1 = .ok (.invokespecial 3, 3) := by decide +kernel
theorem dX0_init_4 : decode cX0_init 4 = .ok (.aload_n 0, 1) := by decide +kernel
theorem dX0_init_5 : decode cX0_init 5 = .ok (.iconst 0, 1) := by decide +kernel
theorem dX0_init_6 : decode cX0_init 6 = .ok (.putfield 9, 3) := by decide +kernel
theorem dX0_init_9 : decode cX0_init 9 = .ok (.aload_n 0, 1) := by decide +kernel
theorem dX0_init_10 : decode cX0_init 10 = .ok (.iconst 0, 1) := by decide +kernel
theorem dX0_init_11 : decode cX0_init 11 = .ok (.putfield 15, 3) := by decide +kernel
theorem dX0_init_14 : decode cX0_init 14 = .ok (.aload_n 0, 1) := by decide +kernel
theorem dX0_init_15 : decode cX0_init 15 = .ok (.bipush 50, 2) := by decide +kernel
theorem dX0_init_17 : decode cX0_init 17 = .ok (.newarray .int, 2) := by decide +kernel
theorem dX0_init_19 : decode cX0_init 19 = .ok (.putfield 18, 3) := by decide +kernel
theorem dX0_init_22 : decode cX0_init 22 = .ok (.aload_n 0, 1) := by decide +kernel
theorem dX0_init_23 : decode cX0_init 23 = .ok (.bipush 6, 2) := by decide +kernel
theorem dX0_init_25 : decode cX0_init 25 = .ok (.newarray .int, 2) := by decide +kernel
theorem dX0_init_27 : decode cX0_init 27 = .ok (.putfield 22, 3) := by decide +kernel
theorem dX0_init_30 : decode cX0_init 30 = .ok (.getstatic 25, 3) := by decide +kernel
theorem dX0_init_33 : decode cX0_init 33 = .ok (.iconst 0, 1) := by decide +kernel
theorem dX0_init_34 : decode cX0_init 34 = .ok (.aload_n 0, 1) := by decide +kernel
theorem dX0_init_35 : decode cX0_init 35 = .ok (.getfield 22, 3) := by decide +kernel
theorem dX0_init_38 : decode cX0_init 38 = .ok (.iconst 0, 1) := by decide +kernel
theorem dX0_init_39 : decode cX0_init 39 = .ok (.bipush 6, 2) := by decide +kernel
theorem dX0_init_41 : decode cX0_init 41 = .ok (.invokestatic 28, 3) := by decide +kernel
theorem dX0_init_44 : decode cX0_init 44 = .ok (.return_, 1) := by decide +kernel
theorem dX0_copyFrom_0 : decode cX0_copyFrom 0 = .ok (.aload_n 0, 1) := by decide +kernel
theorem dX0_copyFrom_1 : decode cX0_copyFrom 1 = .ok (.aload_n 1, 1) := by decide +kernel
theorem dX0_copyFrom_2 : decode cX0_copyFrom 2 = .ok (.getfield 9, 3) := by decide +kernel
theorem dX0_copyFrom_5 : decode cX0_copyFrom 5 = .ok (.putfield 9, 3) := by decide +kernel
theorem dX0_copyFrom_8 : decode cX0_copyFrom 8 = .ok (.aload_n 0, 1) := by decide +kernel
theorem dX0_copyFrom_9 : decode cX0_copyFrom 9 = .ok (.aload_n 1, 1) := by decide +kernel
theorem dX0_copyFrom_10 : decode cX0_copyFrom 10 = .ok (.getfield 15, 3) := by decide +kernel
theorem dX0_copyFrom_13 : decode cX0_copyFrom 13 = .ok (.putfield 15, 3) := by decide +kernel
theorem dX0_copyFrom_16 : decode cX0_copyFrom 16 = .ok (.aload_n 1, 1) := by decide +kernel
theorem dX0_copyFrom_17 : decode cX0_copyFrom 17 = .ok (.getfield 18, 3) := by decide +kernel
theorem dX0_copyFrom_20 : decode cX0_copyFrom 20 = .ok (.iconst 0, 1) := by decide +kernel
theorem dX0_copyFrom_21 : decode cX0_copyFrom 21 = .ok (.aload_n 0, 1) := by decide +kernel
theorem dX0_copyFrom_22 : decode cX0_copyFrom 22 = .ok (.getfield 18, 3) := by decide +kernel
theorem dX0_copyFrom_25 : decode cX0_copyFrom 25 = .ok (.iconst 0, 1) := by decide +kernel
theorem dX0_copyFrom_26 : decode cX0_copyFrom 26 = .ok (.bipush 50, 2) := by decide +kernel
theorem dX0_copyFrom_28 : decode cX0_copyFrom 28 = .ok (.invokestatic 28, 3) := by decide +kernel
theorem dX0_copyFrom_31 : decode cX0_copyFrom 31 = .ok (.aload_n 1, 1) := by decide +kernel
theorem dX0_copyFrom_32 : decode cX0_copyFrom 32 = .ok (.getfield 22, 3) := by decide +kernel
theorem dX0_copyFrom_35 : decode cX0_copyFrom 35 = .ok (.iconst 0, 1) := by decide +kernel
theorem dX0_copyFrom_36 : decode cX0_copyFrom 36 = .ok (.aload_n 0, 1) := by decide +kernel
theorem dX0_copyFrom_37 : decode cX0_copyFrom 37 = .ok (.getfield 22, 3) := by decide +kernel
theorem dX0_copyFrom_40 : decode cX0_copyFrom 40 = .ok (.iconst 0, 1) := by decide +kernel
theorem dX0_copyFrom_41 : decode cX0_copyFrom 41 = .ok (.bipush 6, 2) := by decide +kernel
theorem dX0_copyFrom_43 : decode cX0_copyFrom 43 = .ok (.invokestatic 28, 3) := by decide +kernel
theorem dX0_copyFrom_46 : decode cX0_copyFrom 46 = .ok (.return_, 1) := by decide +kernel
set_option maxRecDepth 20000 in
theorem ggX0_hasSpan_X4_within : GoodIn wsX0_hasSpan wsX4_within := goodIn_r _ [4] (by decide +kernel) (by decide +kernel)
set_option maxRecDepth 20000 in
theorem gX0_hasSpan_X4_within_n34 : GoodIn wsX0_hasSpan (wsX4_within) := ggX0_hasSpan_X4_within
theorem dX0_hasSpan_0 : decode cX0_hasSpan 0 = .ok (.iload_n 1, 1) := by decide +kernel
theorem dX0_hasSpan_1 : decode cX0_hasSpan 1 = .ok (.iconst 0, 1) := by decide +kernel
theorem dX0_hasSpan_2 : decode cX0_hasSpan 2 = .ok (.aload_n 0, 1) := by decide +kernel
theorem dX0_hasSpan_3 : decode cX0_hasSpan 3 = .ok (.getfield 9, 3) := by decide +kernel
theorem dX0_hasSpan_6 : decode cX0_hasSpan 6 = .ok (.iconst 1, 1) := by decide +kernel
theorem dX0_hasSpan_7 : decode cX0_hasSpan 7 = .ok (.isub, 1) := by decide +kernel
theorem dX0_hasSpan_8 : decode cX0_hasSpan 8 = .ok (.invokestatic 34, 3) := by decide +kernel
theorem dX0_hasSpan_11 : decode cX0_hasSpan 11 = .ok (.ireturn, 1) := by decide +kernel
set_option maxRecDepth 20000 in
theorem ggX0_hasNode_X4_within : GoodIn wsX0_hasNode wsX4_within := goodIn_r _ [4] (by decide +kernel) (by decide +kernel)
set_option maxRecDepth 20000 in
theorem gX0_hasNode_X4_within_n34 : GoodIn wsX0_hasNode (wsX4_within) := ggX0_hasNode_X4_within
theorem dX0_hasNode_0 : decode cX0_hasNode 0 = .ok (.iload_n 1, 1) := by decide +kernel
theorem dX0_hasNode_1 : decode cX0_hasNode 1 = .ok (.iconst 0, 1) := by decide +kernel
theorem dX0_hasNode_2 : decode cX0_hasNode 2 = .ok (.aload_n 0, 1) := by decide +kernel
theorem dX0_hasNode_3 : decode cX0_hasNode 3 = .ok (.getfield 9, 3) := by decide +kernel
theorem dX0_hasNode_6 : decode cX0_hasNode 6 = .ok (.invokestatic 34, 3) := by decide +kernel
theorem dX0_hasNode_9 : decode cX0_hasNode 9 = .ok (.ireturn, 1) := by decide +kernel
theorem dX0_hasPump_0 : decode cX0_hasPump 0 = .ok (.aload_n 0, 1) := by decide +kernel
theorem dX0_hasPump_1 : decode cX0_hasPump 1 = .ok (.getfield 15, 3) := by decide +kernel
theorem dX0_hasPump_4 : decode cX0_hasPump 4 = .ok (.iconst 1, 1) := by decide +kernel
theorem dX0_hasPump_5 : decode cX0_hasPump 5 = .ok (.iload_n 1, 1) := by decide +kernel
theorem dX0_hasPump_6 : decode cX0_hasPump 6 = .ok (.ishl, 1) := by decide +kernel
theorem dX0_hasPump_7 : decode cX0_hasPump 7 = .ok (.iand, 1) := by decide +kernel
theorem dX0_hasPump_8 : decode cX0_hasPump 8 = .ok (.ifCond .eq 7, 3) := by decide +kernel
theorem dX0_hasPump_11 : decode cX0_hasPump 11 = .ok (.iconst 1, 1) := by decide +kernel
theorem dX0_hasPump_12 : decode cX0_hasPump 12 = .ok (.goto 4, 3) := by decide +kernel
theorem dX0_hasPump_15 : decode cX0_hasPump 15 = .ok (.iconst 0, 1) := by decide +kernel
theorem dX0_hasPump_16 : decode cX0_hasPump 16 = .ok (.ireturn, 1) := by decide +kernel
theorem dX0_fact_0 : decode cX0_fact 0 = .ok (.aload_n 0, 1) := by decide +kernel
theorem dX0_fact_1 : decode cX0_fact 1 = .ok (.getfield 18, 3) := by decide +kernel
theorem dX0_fact_4 : decode cX0_fact 4 = .ok (.iload_n 1, 1) := by decide +kernel
theorem dX0_fact_5 : decode cX0_fact 5 = .ok (.iconst 5, 1) := by decide +kernel
theorem dX0_fact_6 : decode cX0_fact 6 = .ok (.imul, 1) := by decide +kernel
theorem dX0_fact_7 : decode cX0_fact 7 = .ok (.iload_n 2, 1) := by decide +kernel
theorem dX0_fact_8 : decode cX0_fact 8 = .ok (.iadd, 1) := by decide +kernel
theorem dX0_fact_9 : decode cX0_fact 9 = .ok (.iaload, 1) := by decide +kernel
theorem dX0_fact_10 : decode cX0_fact 10 = .ok (.ireturn, 1) := by decide +kernel
theorem dX0_setFact_0 : decode cX0_setFact 0 = .ok (.aload_n 0, 1) := by decide +kernel
theorem dX0_setFact_1 : decode cX0_setFact 1 = .ok (.getfield 18, 3) := by decide +kernel
theorem dX0_setFact_4 : decode cX0_setFact 4 = .ok (.iload_n 1, 1) := by decide +kernel
theorem dX0_setFact_5 : decode cX0_setFact 5 = .ok (.iconst 5, 1) := by decide +kernel
theorem dX0_setFact_6 : decode cX0_setFact 6 = .ok (.imul, 1) := by decide +kernel
theorem dX0_setFact_7 : decode cX0_setFact 7 = .ok (.iload_n 2, 1) := by decide +kernel
theorem dX0_setFact_8 : decode cX0_setFact 8 = .ok (.iadd, 1) := by decide +kernel
theorem dX0_setFact_9 : decode cX0_setFact 9 = .ok (.iload_n 3, 1) := by decide +kernel
theorem dX0_setFact_10 : decode cX0_setFact 10 = .ok (.iastore, 1) := by decide +kernel
theorem dX0_setFact_11 : decode cX0_setFact 11 = .ok (.return_, 1) := by decide +kernel
set_option maxRecDepth 20000 in
theorem ggX0_addSpan_X4_within : GoodIn wsX0_addSpan wsX4_within := goodIn_r _ [6] (by decide +kernel) (by decide +kernel)
set_option maxRecDepth 20000 in
theorem gX0_addSpan_X4_within_n34 : GoodIn wsX0_addSpan (wsX4_within) := ggX0_addSpan_X4_within
set_option maxRecDepth 20000 in
theorem ggX0_addSpan_X0_setFact : GoodIn wsX0_addSpan wsX0_setFact := goodIn_r _ [11, 12, 13, 14, 15, 16] (by decide +kernel) (by decide +kernel)
set_option maxRecDepth 20000 in
theorem gX0_addSpan_X0_setFact : GoodIn wsX0_addSpan (wsV RX0 40 RX0 yX0_setFact wsX0_setFact) := goodIn_app (goodIn_of _ (by decide +kernel)) ggX0_addSpan_X0_setFact
theorem dX0_addSpan_0 : decode cX0_addSpan 0 = .ok (.iload_n 1, 1) := by decide +kernel
theorem dX0_addSpan_1 : decode cX0_addSpan 1 = .ok (.iconst 1, 1) := by decide +kernel
theorem dX0_addSpan_2 : decode cX0_addSpan 2 = .ok (.bipush 30, 2) := by decide +kernel
theorem dX0_addSpan_4 : decode cX0_addSpan 4 = .ok (.invokestatic 34, 3) := by decide +kernel
theorem dX0_addSpan_7 : decode cX0_addSpan 7 = .ok (.ifCond .eq 33, 3) := by decide +kernel
theorem dX0_addSpan_10 : decode cX0_addSpan 10 = .ok (.iload_n 2, 1) := by decide +kernel
theorem dX0_addSpan_11 : decode cX0_addSpan 11 = .ok (.iconst 0, 1) := by decide +kernel
theorem dX0_addSpan_12 : decode cX0_addSpan 12 = .ok (.iconst 3, 1) := by decide +kernel
theorem dX0_addSpan_13 : decode cX0_addSpan 13 = .ok (.invokestatic 34, 3) := by decide +kernel
theorem dX0_addSpan_16 : decode cX0_addSpan 16 = .ok (.ifCond .eq 24, 3) := by decide +kernel
theorem dX0_addSpan_19 : decode cX0_addSpan 19 = .ok (.iload_n 3, 1) := by decide +kernel
theorem dX0_addSpan_20 : decode cX0_addSpan 20 = .ok (.bipush (-50), 2) := by decide +kernel
theorem dX0_addSpan_22 : decode cX0_addSpan 22 = .ok (.bipush 50, 2) := by decide +kernel
theorem dX0_addSpan_24 : decode cX0_addSpan 24 = .ok (.invokestatic 34, 3) := by decide +kernel
theorem dX0_addSpan_27 : decode cX0_addSpan 27 = .ok (.ifCond .eq 13, 3) := by decide +kernel
theorem dX0_addSpan_30 : decode cX0_addSpan 30 = .ok (.iload 4, 2) := by decide +kernel
theorem dX0_addSpan_32 : decode cX0_addSpan 32 = .ok (.iconst 0, 1) := by decide +kernel
theorem dX0_addSpan_33 : decode cX0_addSpan 33 = .ok (.iconst 1, 1) := by decide +kernel
theorem dX0_addSpan_34 : decode cX0_addSpan 34 = .ok (.invokestatic 34, 3) := by decide +kernel
theorem dX0_addSpan_37 : decode cX0_addSpan 37 = .ok (.ifCond .ne 6, 3) := by decide +kernel
theorem dX0_addSpan_40 : decode cX0_addSpan 40 = .ok (.ldc 38, 2) := by decide +kernel
theorem dX0_addSpan_42 : decode cX0_addSpan 42 = .ok (.ireturn, 1) := by decide +kernel
theorem dX0_addSpan_43 : decode cX0_addSpan 43 = .ok (.aload_n 0, 1) := by decide +kernel
theorem dX0_addSpan_44 : decode cX0_addSpan 44 = .ok (.getfield 9, 3) := by decide +kernel
theorem dX0_addSpan_47 : decode cX0_addSpan 47 = .ok (.bipush 10, 2) := by decide +kernel
theorem dX0_addSpan_49 : decode cX0_addSpan 49 = .ok (.if_icmp .lt 6, 3) := by decide +kernel
theorem dX0_addSpan_52 : decode cX0_addSpan 52 = .ok (.ldc 39, 2) := by decide +kernel
theorem dX0_addSpan_54 : decode cX0_addSpan 54 = .ok (.ireturn, 1) := by decide +kernel
theorem dX0_addSpan_55 : decode cX0_addSpan 55 = .ok (.aload_n 0, 1) := by decide +kernel
theorem dX0_addSpan_56 : decode cX0_addSpan 56 = .ok (.aload_n 0, 1) := by decide +kernel
theorem dX0_addSpan_57 : decode cX0_addSpan 57 = .ok (.getfield 9, 3) := by decide +kernel
theorem dX0_addSpan_60 : decode cX0_addSpan 60 = .ok (.iconst 0, 1) := by decide +kernel
theorem dX0_addSpan_61 : decode cX0_addSpan 61 = .ok (.iload_n 1, 1) := by decide +kernel
theorem dX0_addSpan_62 : decode cX0_addSpan 62 = .ok (.invokevirtual 40, 3) := by decide +kernel
theorem dX0_addSpan_65 : decode cX0_addSpan 65 = .ok (.aload_n 0, 1) := by decide +kernel
theorem dX0_addSpan_66 : decode cX0_addSpan 66 = .ok (.aload_n 0, 1) := by decide +kernel
theorem dX0_addSpan_67 : decode cX0_addSpan 67 = .ok (.getfield 9, 3) := by decide +kernel
theorem dX0_addSpan_70 : decode cX0_addSpan 70 = .ok (.iconst 1, 1) := by decide +kernel
theorem dX0_addSpan_71 : decode cX0_addSpan 71 = .ok (.iload_n 2, 1) := by decide +kernel
theorem dX0_addSpan_72 : decode cX0_addSpan 72 = .ok (.invokevirtual 40, 3) := by decide +kernel
theorem dX0_addSpan_75 : decode cX0_addSpan 75 = .ok (.aload_n 0, 1) := by decide +kernel
theorem dX0_addSpan_76 : decode cX0_addSpan 76 = .ok (.aload_n 0, 1) := by decide +kernel
theorem dX0_addSpan_77 : decode cX0_addSpan 77 = .ok (.getfield 9, 3) := by decide +kernel
theorem dX0_addSpan_80 : decode cX0_addSpan 80 = .ok (.iconst 2, 1) := by decide +kernel
theorem dX0_addSpan_81 : decode cX0_addSpan 81 = .ok (.iload_n 3, 1) := by decide +kernel
theorem dX0_addSpan_82 : decode cX0_addSpan 82 = .ok (.invokevirtual 40, 3) := by decide +kernel
theorem dX0_addSpan_85 : decode cX0_addSpan 85 = .ok (.aload_n 0, 1) := by decide +kernel
theorem dX0_addSpan_86 : decode cX0_addSpan 86 = .ok (.aload_n 0, 1) := by decide +kernel
theorem dX0_addSpan_87 : decode cX0_addSpan 87 = .ok (.getfield 9, 3) := by decide +kernel
theorem dX0_addSpan_90 : decode cX0_addSpan 90 = .ok (.iconst 3, 1) := by decide +kernel
theorem dX0_addSpan_91 : decode cX0_addSpan 91 = .ok (.iload 4, 2) := by decide +kernel
theorem dX0_addSpan_93 : decode cX0_addSpan 93 = .ok (.invokevirtual 40, 3) := by decide +kernel
theorem dX0_addSpan_96 : decode cX0_addSpan 96 = .ok (.aload_n 0, 1) := by decide +kernel
theorem dX0_addSpan_97 : decode cX0_addSpan 97 = .ok (.aload_n 0, 1) := by decide +kernel
theorem dX0_addSpan_98 : decode cX0_addSpan 98 = .ok (.getfield 9, 3) := by decide +kernel
theorem dX0_addSpan_101 : decode cX0_addSpan 101 = .ok (.iconst 4, 1) := by decide +kernel
theorem dX0_addSpan_102 : decode cX0_addSpan 102 = .ok (.iconst 0, 1) := by decide +kernel
theorem dX0_addSpan_103 : decode cX0_addSpan 103 = .ok (.invokevirtual 40, 3) := by decide +kernel
theorem dX0_addSpan_106 : decode cX0_addSpan 106 = .ok (.aload_n 0, 1) := by decide +kernel
theorem dX0_addSpan_107 : decode cX0_addSpan 107 = .ok (.dup, 1) := by decide +kernel
theorem dX0_addSpan_108 : decode cX0_addSpan 108 = .ok (.getfield 9, 3) := by decide +kernel
theorem dX0_addSpan_111 : decode cX0_addSpan 111 = .ok (.iconst 1, 1) := by decide +kernel
theorem dX0_addSpan_112 : decode cX0_addSpan 112 = .ok (.iadd, 1) := by decide +kernel
theorem dX0_addSpan_113 : decode cX0_addSpan 113 = .ok (.putfield 9, 3) := by decide +kernel
theorem dX0_addSpan_116 : decode cX0_addSpan 116 = .ok (.aload_n 0, 1) := by decide +kernel
theorem dX0_addSpan_117 : decode cX0_addSpan 117 = .ok (.getfield 9, 3) := by decide +kernel
theorem dX0_addSpan_120 : decode cX0_addSpan 120 = .ok (.iconst 1, 1) := by decide +kernel
theorem dX0_addSpan_121 : decode cX0_addSpan 121 = .ok (.isub, 1) := by decide +kernel
theorem dX0_addSpan_122 : decode cX0_addSpan 122 = .ok (.ireturn, 1) := by decide +kernel
theorem dX0_cutLast_0 : decode cX0_cutLast 0 = .ok (.aload_n 0, 1) := by decide +kernel
theorem dX0_cutLast_1 : decode cX0_cutLast 1 = .ok (.getfield 9, 3) := by decide +kernel
theorem dX0_cutLast_4 : decode cX0_cutLast 4 = .ok (.ifCond .ne 6, 3) := by decide +kernel
theorem dX0_cutLast_7 : decode cX0_cutLast 7 = .ok (.ldc 44, 2) := by decide +kernel
theorem dX0_cutLast_9 : decode cX0_cutLast 9 = .ok (.ireturn, 1) := by decide +kernel
theorem dX0_cutLast_10 : decode cX0_cutLast 10 = .ok (.aload_n 0, 1) := by decide +kernel
theorem dX0_cutLast_11 : decode cX0_cutLast 11 = .ok (.dup, 1) := by decide +kernel
theorem dX0_cutLast_12 : decode cX0_cutLast 12 = .ok (.getfield 15, 3) := by decide +kernel
theorem dX0_cutLast_15 : decode cX0_cutLast 15 = .ok (.iconst 1, 1) := by decide +kernel
theorem dX0_cutLast_16 : decode cX0_cutLast 16 = .ok (.aload_n 0, 1) := by decide +kernel
theorem dX0_cutLast_17 : decode cX0_cutLast 17 = .ok (.getfield 9, 3) := by decide +kernel
theorem dX0_cutLast_20 : decode cX0_cutLast 20 = .ok (.ishl, 1) := by decide +kernel
theorem dX0_cutLast_21 : decode cX0_cutLast 21 = .ok (.iconst (-1), 1) := by decide +kernel
theorem dX0_cutLast_22 : decode cX0_cutLast 22 = .ok (.ixor, 1) := by decide +kernel
theorem dX0_cutLast_23 : decode cX0_cutLast 23 = .ok (.iand, 1) := by decide +kernel
theorem dX0_cutLast_24 : decode cX0_cutLast 24 = .ok (.putfield 15, 3) := by decide +kernel
theorem dX0_cutLast_27 : decode cX0_cutLast 27 = .ok (.aload_n 0, 1) := by decide +kernel
theorem dX0_cutLast_28 : decode cX0_cutLast 28 = .ok (.dup, 1) := by decide +kernel
theorem dX0_cutLast_29 : decode cX0_cutLast 29 = .ok (.getfield 9, 3) := by decide +kernel
theorem dX0_cutLast_32 : decode cX0_cutLast 32 = .ok (.iconst 1, 1) := by decide +kernel
theorem dX0_cutLast_33 : decode cX0_cutLast 33 = .ok (.isub, 1) := by decide +kernel
theorem dX0_cutLast_34 : decode cX0_cutLast 34 = .ok (.putfield 9, 3) := by decide +kernel
theorem dX0_cutLast_37 : decode cX0_cutLast 37 = .ok (.aload_n 0, 1) := by decide +kernel
theorem dX0_cutLast_38 : decode cX0_cutLast 38 = .ok (.getfield 9, 3) := by decide +kernel
theorem dX0_cutLast_41 : decode cX0_cutLast 41 = .ok (.ireturn, 1) := by decide +kernel
set_option maxRecDepth 20000 in
theorem ggX0_changeSetting_X4_within : GoodIn wsX0_changeSetting wsX4_within := goodIn_r _ [5] (by decide +kernel) (by decide +kernel)
set_option maxRecDepth 20000 in
theorem gX0_changeSetting_X4_within_n34 : GoodIn wsX0_changeSetting (wsX4_within) := ggX0_changeSetting_X4_within
theorem dX0_changeSetting_0 : decode cX0_changeSetting 0 = .ok (.iload_n 1, 1) := by decide +kernel
theorem dX0_changeSetting_1 : decode cX0_changeSetting 1 = .ok (.iconst 0, 1) := by decide +kernel
theorem dX0_changeSetting_2 : decode cX0_changeSetting 2 = .ok (.iconst 5, 1) := by decide +kernel
theorem dX0_changeSetting_3 : decode cX0_changeSetting 3 = .ok (.invokestatic 34, 3) := by decide +kernel
theorem dX0_changeSetting_6 : decode cX0_changeSetting 6 = .ok (.ifCond .eq 20, 3) := by decide +kernel
theorem dX0_changeSetting_9 : decode cX0_changeSetting 9 = .ok (.iload_n 2, 1) := by decide +kernel
theorem dX0_changeSetting_10 : decode cX0_changeSetting 10 = .ok (.getstatic 45, 3) := by decide +kernel
theorem dX0_changeSetting_13 : decode cX0_changeSetting 13 = .ok (.iload_n 1, 1) := by decide +kernel
theorem dX0_changeSetting_14 : decode cX0_changeSetting 14 = .ok (.iaload, 1) := by decide +kernel
theorem dX0_changeSetting_15 : decode cX0_changeSetting 15 = .ok (.getstatic 48, 3) := by decide +kernel
theorem dX0_changeSetting_18 : decode cX0_changeSetting 18 = .ok (.iload_n 1, 1) := by decide +kernel
theorem dX0_changeSetting_19 : decode cX0_changeSetting 19 = .ok (.iaload, 1) := by decide +kernel
theorem dX0_changeSetting_20 : decode cX0_changeSetting 20 = .ok (.invokestatic 34, 3) := by decide +kernel
theorem dX0_changeSetting_23 : decode cX0_changeSetting 23 = .ok (.ifCond .ne 6, 3) := by decide +kernel
theorem dX0_changeSetting_26 : decode cX0_changeSetting 26 = .ok (.ldc 38, 2) := by decide +kernel
theorem dX0_changeSetting_28 : decode cX0_changeSetting 28 = .ok (.ireturn, 1) := by decide +kernel
theorem dX0_changeSetting_29 : decode cX0_changeSetting 29 = .ok (.aload_n 0, 1) := by decide +kernel
theorem dX0_changeSetting_30 : decode cX0_changeSetting 30 = .ok (.getfield 22, 3) := by decide +kernel
theorem dX0_changeSetting_33 : decode cX0_changeSetting 33 = .ok (.iload_n 1, 1) := by decide +kernel
theorem dX0_changeSetting_34 : decode cX0_changeSetting 34 = .ok (.iaload, 1) := by decide +kernel
theorem dX0_changeSetting_35 : decode cX0_changeSetting 35 = .ok (.istore_n 3, 1) := by decide +kernel
theorem dX0_changeSetting_36 : decode cX0_changeSetting 36 = .ok (.aload_n 0, 1) := by decide +kernel
theorem dX0_changeSetting_37 : decode cX0_changeSetting 37 = .ok (.getfield 22, 3) := by decide +kernel
theorem dX0_changeSetting_40 : decode cX0_changeSetting 40 = .ok (.iload_n 1, 1) := by decide +kernel
theorem dX0_changeSetting_41 : decode cX0_changeSetting 41 = .ok (.iload_n 2, 1) := by decide +kernel
theorem dX0_changeSetting_42 : decode cX0_changeSetting 42 = .ok (.iastore, 1) := by decide +kernel
theorem dX0_changeSetting_43 : decode cX0_changeSetting 43 = .ok (.iload_n 3, 1) := by decide +kernel
theorem dX0_changeSetting_44 : decode cX0_changeSetting 44 = .ok (.ireturn, 1) := by decide +kernel
set_option maxRecDepth 20000 in
theorem ggX0_turnPump_X0_hasNode : GoodIn wsX0_turnPump wsX0_hasNode := goodIn_r _ [7, 8, 9, 10, 11, 19, 20, 21, 22] (by decide +kernel) (by decide +kernel)
set_option maxRecDepth 20000 in
theorem gX0_turnPump_X0_hasNode : GoodIn wsX0_turnPump (wsV RX0 51 RX0 yX0_hasNode wsX0_hasNode) := goodIn_app (goodIn_of _ (by decide +kernel)) ggX0_turnPump_X0_hasNode
set_option maxRecDepth 20000 in
theorem ggX0_turnPump_J6_bitCount_0f7a4 : GoodIn wsX0_turnPump wsJ6_bitCount_0f7a4 := goodIn_r _ [15, 16, 17, 18] (by decide +kernel) (by decide +kernel)
set_option maxRecDepth 20000 in
theorem gX0_turnPump_J6_bitCount_0f7a4 : GoodIn wsX0_turnPump (va_wsS RX0 55 yJ6_bitCount_0f7a4 wsJ6_bitCount_0f7a4) := goodIn_app (goodIn_of _ (by decide +kernel)) ggX0_turnPump_J6_bitCount_0f7a4
theorem dX0_turnPump_0 : decode cX0_turnPump 0 = .ok (.aload_n 0, 1) := by decide +kernel
theorem dX0_turnPump_1 : decode cX0_turnPump 1 = .ok (.iload_n 1, 1) := by decide +kernel
theorem dX0_turnPump_2 : decode cX0_turnPump 2 = .ok (.invokevirtual 51, 3) := by decide +kernel
theorem dX0_turnPump_5 : decode cX0_turnPump 5 = .ok (.ifCond .ne 6, 3) := by decide +kernel
theorem dX0_turnPump_8 : decode cX0_turnPump 8 = .ok (.ldc 38, 2) := by decide +kernel
theorem dX0_turnPump_10 : decode cX0_turnPump 10 = .ok (.ireturn, 1) := by decide +kernel
theorem dX0_turnPump_11 : decode cX0_turnPump 11 = .ok (.aload_n 0, 1) := by decide +kernel
theorem dX0_turnPump_12 : decode cX0_turnPump 12 = .ok (.dup, 1) := by decide +kernel
theorem dX0_turnPump_13 : decode cX0_turnPump 13 = .ok (.getfield 15, 3) := by decide +kernel
theorem dX0_turnPump_16 : decode cX0_turnPump 16 = .ok (.iconst 1, 1) := by decide +kernel
theorem dX0_turnPump_17 : decode cX0_turnPump 17 = .ok (.iload_n 1, 1) := by decide +kernel
theorem dX0_turnPump_18 : decode cX0_turnPump 18 = .ok (.ishl, 1) := by decide +kernel
theorem dX0_turnPump_19 : decode cX0_turnPump 19 = .ok (.ixor, 1) := by decide +kernel
theorem dX0_turnPump_20 : decode cX0_turnPump 20 = .ok (.putfield 15, 3) := by decide +kernel
theorem dX0_turnPump_23 : decode cX0_turnPump 23 = .ok (.aload_n 0, 1) := by decide +kernel
theorem dX0_turnPump_24 : decode cX0_turnPump 24 = .ok (.getfield 15, 3) := by decide +kernel
theorem dX0_turnPump_27 : decode cX0_turnPump 27 = .ok (.invokestatic 55, 3) := by decide +kernel
theorem dX0_turnPump_30 : decode cX0_turnPump 30 = .ok (.ireturn, 1) := by decide +kernel
set_option maxRecDepth 20000 in
theorem ggX0_burstSpan_X0_hasSpan : GoodIn wsX0_burstSpan wsX0_hasSpan := goodIn_r _ [6, 7, 8, 9, 10, 20, 21, 22, 23] (by decide +kernel) (by decide +kernel)
set_option maxRecDepth 20000 in
theorem gX0_burstSpan_X0_hasSpan : GoodIn wsX0_burstSpan (wsV RX0 61 RX0 yX0_hasSpan wsX0_hasSpan) := goodIn_app (goodIn_of _ (by decide +kernel)) ggX0_burstSpan_X0_hasSpan
set_option maxRecDepth 20000 in
theorem ggX0_burstSpan_X0_fact : GoodIn wsX0_burstSpan wsX0_fact := goodIn_r _ [14, 15, 20, 21, 22, 23] (by decide +kernel) (by decide +kernel)
set_option maxRecDepth 20000 in
theorem gX0_burstSpan_X0_fact : GoodIn wsX0_burstSpan (wsV RX0 64 RX0 yX0_fact wsX0_fact) := goodIn_app (goodIn_of _ (by decide +kernel)) ggX0_burstSpan_X0_fact
set_option maxRecDepth 20000 in
theorem ggX0_burstSpan_X0_setFact : GoodIn wsX0_burstSpan wsX0_setFact := goodIn_r _ [19, 15, 20, 21, 22, 23] (by decide +kernel) (by decide +kernel)
set_option maxRecDepth 20000 in
theorem gX0_burstSpan_X0_setFact : GoodIn wsX0_burstSpan (wsV RX0 40 RX0 yX0_setFact wsX0_setFact) := goodIn_app (goodIn_of _ (by decide +kernel)) ggX0_burstSpan_X0_setFact
theorem dX0_burstSpan_0 : decode cX0_burstSpan 0 = .ok (.aload_n 0, 1) := by decide +kernel
theorem dX0_burstSpan_1 : decode cX0_burstSpan 1 = .ok (.iload_n 1, 1) := by decide +kernel
theorem dX0_burstSpan_2 : decode cX0_burstSpan 2 = .ok (.invokevirtual 61, 3) := by decide +kernel
theorem dX0_burstSpan_5 : decode cX0_burstSpan 5 = .ok (.ifCond .ne 6, 3) := by decide +kernel
theorem dX0_burstSpan_8 : decode cX0_burstSpan 8 = .ok (.ldc 38, 2) := by decide +kernel
theorem dX0_burstSpan_10 : decode cX0_burstSpan 10 = .ok (.ireturn, 1) := by decide +kernel
theorem dX0_burstSpan_11 : decode cX0_burstSpan 11 = .ok (.iconst 1, 1) := by decide +kernel
theorem dX0_burstSpan_12 : decode cX0_burstSpan 12 = .ok (.aload_n 0, 1) := by decide +kernel
theorem dX0_burstSpan_13 : decode cX0_burstSpan 13 = .ok (.iload_n 1, 1) := by decide +kernel
theorem dX0_burstSpan_14 : decode cX0_burstSpan 14 = .ok (.iconst 4, 1) := by decide +kernel
theorem dX0_burstSpan_15 : decode cX0_burstSpan 15 = .ok (.invokevirtual 64, 3) := by decide +kernel
theorem dX0_burstSpan_18 : decode cX0_burstSpan 18 = .ok (.isub, 1) := by decide +kernel
theorem dX0_burstSpan_19 : decode cX0_burstSpan 19 = .ok (.istore_n 2, 1) := by decide +kernel
theorem dX0_burstSpan_20 : decode cX0_burstSpan 20 = .ok (.aload_n 0, 1) := by decide +kernel
theorem dX0_burstSpan_21 : decode cX0_burstSpan 21 = .ok (.iload_n 1, 1) := by decide +kernel
theorem dX0_burstSpan_22 : decode cX0_burstSpan 22 = .ok (.iconst 4, 1) := by decide +kernel
theorem dX0_burstSpan_23 : decode cX0_burstSpan 23 = .ok (.iconst 1, 1) := by decide +kernel
theorem dX0_burstSpan_24 : decode cX0_burstSpan 24 = .ok (.invokevirtual 40, 3) := by decide +kernel
theorem dX0_burstSpan_27 : decode cX0_burstSpan 27 = .ok (.iload_n 2, 1) := by decide +kernel
theorem dX0_burstSpan_28 : decode cX0_burstSpan 28 = .ok (.ireturn, 1) := by decide +kernel
set_option maxRecDepth 20000 in
theorem ggX0_mendSpan_X0_hasSpan : GoodIn wsX0_mendSpan wsX0_hasSpan := goodIn_r _ [8, 9, 10, 11, 12, 26, 27, 28, 29] (by decide +kernel) (by decide +kernel)
set_option maxRecDepth 20000 in
theorem gX0_mendSpan_X0_hasSpan : GoodIn wsX0_mendSpan (wsV RX0 61 RX0 yX0_hasSpan wsX0_hasSpan) := goodIn_app (goodIn_of _ (by decide +kernel)) ggX0_mendSpan_X0_hasSpan
set_option maxRecDepth 20000 in
theorem ggX0_mendSpan_X0_fact : GoodIn wsX0_mendSpan wsX0_fact := goodIn_r _ [16, 17, 26, 27, 28, 29] (by decide +kernel) (by decide +kernel)
set_option maxRecDepth 20000 in
theorem gX0_mendSpan_X0_fact : GoodIn wsX0_mendSpan (wsV RX0 64 RX0 yX0_fact wsX0_fact) := goodIn_app (goodIn_of _ (by decide +kernel)) ggX0_mendSpan_X0_fact
set_option maxRecDepth 20000 in
theorem ggX0_mendSpan_X0_hosesOf : GoodIn wsX0_mendSpan wsX0_hosesOf := goodIn_r _ [21, 13, 14, 15, 7, 16, 17, 26, 27, 28, 29] (by decide +kernel) (by decide +kernel)
set_option maxRecDepth 20000 in
theorem gX0_mendSpan_X0_hosesOf : GoodIn wsX0_mendSpan (wsV RX0 68 RX0 yX0_hosesOf wsX0_hosesOf) := goodIn_app (goodIn_of _ (by decide +kernel)) ggX0_mendSpan_X0_hosesOf
set_option maxRecDepth 20000 in
theorem ggX0_mendSpan_X0_setFact : GoodIn wsX0_mendSpan wsX0_setFact := goodIn_r _ [25, 17, 26, 27, 28, 29] (by decide +kernel) (by decide +kernel)
set_option maxRecDepth 20000 in
theorem gX0_mendSpan_X0_setFact : GoodIn wsX0_mendSpan (wsV RX0 40 RX0 yX0_setFact wsX0_setFact) := goodIn_app (goodIn_of _ (by decide +kernel)) ggX0_mendSpan_X0_setFact
theorem dX0_mendSpan_0 : decode cX0_mendSpan 0 = .ok (.aload_n 0, 1) := by decide +kernel
theorem dX0_mendSpan_1 : decode cX0_mendSpan 1 = .ok (.iload_n 1, 1) := by decide +kernel
theorem dX0_mendSpan_2 : decode cX0_mendSpan 2 = .ok (.invokevirtual 61, 3) := by decide +kernel
theorem dX0_mendSpan_5 : decode cX0_mendSpan 5 = .ok (.ifCond .ne 6, 3) := by decide +kernel
theorem dX0_mendSpan_8 : decode cX0_mendSpan 8 = .ok (.ldc 38, 2) := by decide +kernel
theorem dX0_mendSpan_10 : decode cX0_mendSpan 10 = .ok (.ireturn, 1) := by decide +kernel
theorem dX0_mendSpan_11 : decode cX0_mendSpan 11 = .ok (.aload_n 0, 1) := by decide +kernel
theorem dX0_mendSpan_12 : decode cX0_mendSpan 12 = .ok (.iload_n 1, 1) := by decide +kernel
theorem dX0_mendSpan_13 : decode cX0_mendSpan 13 = .ok (.iconst 4, 1) := by decide +kernel
theorem dX0_mendSpan_14 : decode cX0_mendSpan 14 = .ok (.invokevirtual 64, 3) := by decide +kernel
theorem dX0_mendSpan_17 : decode cX0_mendSpan 17 = .ok (.ifCond .eq 17, 3) := by decide +kernel
theorem dX0_mendSpan_20 : decode cX0_mendSpan 20 = .ok (.aload_n 0, 1) := by decide +kernel
theorem dX0_mendSpan_21 : decode cX0_mendSpan 21 = .ok (.getfield 22, 3) := by decide +kernel
theorem dX0_mendSpan_24 : decode cX0_mendSpan 24 = .ok (.iconst 5, 1) := by decide +kernel
theorem dX0_mendSpan_25 : decode cX0_mendSpan 25 = .ok (.iaload, 1) := by decide +kernel
theorem dX0_mendSpan_26 : decode cX0_mendSpan 26 = .ok (.aload_n 0, 1) := by decide +kernel
theorem dX0_mendSpan_27 : decode cX0_mendSpan 27 = .ok (.iload_n 1, 1) := by decide +kernel
theorem dX0_mendSpan_28 : decode cX0_mendSpan 28 = .ok (.invokevirtual 68, 3) := by decide +kernel
theorem dX0_mendSpan_31 : decode cX0_mendSpan 31 = .ok (.if_icmp .ge 6, 3) := by decide +kernel
theorem dX0_mendSpan_34 : decode cX0_mendSpan 34 = .ok (.ldc 44, 2) := by decide +kernel
theorem dX0_mendSpan_36 : decode cX0_mendSpan 36 = .ok (.ireturn, 1) := by decide +kernel
theorem dX0_mendSpan_37 : decode cX0_mendSpan 37 = .ok (.aload_n 0, 1) := by decide +kernel
theorem dX0_mendSpan_38 : decode cX0_mendSpan 38 = .ok (.iload_n 1, 1) := by decide +kernel
theorem dX0_mendSpan_39 : decode cX0_mendSpan 39 = .ok (.iconst 4, 1) := by decide +kernel
theorem dX0_mendSpan_40 : decode cX0_mendSpan 40 = .ok (.iconst 0, 1) := by decide +kernel
theorem dX0_mendSpan_41 : decode cX0_mendSpan 41 = .ok (.invokevirtual 40, 3) := by decide +kernel
theorem dX0_mendSpan_44 : decode cX0_mendSpan 44 = .ok (.aload_n 0, 1) := by decide +kernel
theorem dX0_mendSpan_45 : decode cX0_mendSpan 45 = .ok (.getfield 22, 3) := by decide +kernel
theorem dX0_mendSpan_48 : decode cX0_mendSpan 48 = .ok (.iconst 5, 1) := by decide +kernel
theorem dX0_mendSpan_49 : decode cX0_mendSpan 49 = .ok (.dup2, 1) := by decide +kernel
theorem dX0_mendSpan_50 : decode cX0_mendSpan 50 = .ok (.iaload, 1) := by decide +kernel
theorem dX0_mendSpan_51 : decode cX0_mendSpan 51 = .ok (.aload_n 0, 1) := by decide +kernel
theorem dX0_mendSpan_52 : decode cX0_mendSpan 52 = .ok (.iload_n 1, 1) := by decide +kernel
theorem dX0_mendSpan_53 : decode cX0_mendSpan 53 = .ok (.invokevirtual 68, 3) := by decide +kernel
theorem dX0_mendSpan_56 : decode cX0_mendSpan 56 = .ok (.isub, 1) := by decide +kernel
theorem dX0_mendSpan_57 : decode cX0_mendSpan 57 = .ok (.iastore, 1) := by decide +kernel
theorem dX0_mendSpan_58 : decode cX0_mendSpan 58 = .ok (.aload_n 0, 1) := by decide +kernel
theorem dX0_mendSpan_59 : decode cX0_mendSpan 59 = .ok (.getfield 22, 3) := by decide +kernel
theorem dX0_mendSpan_62 : decode cX0_mendSpan 62 = .ok (.iconst 5, 1) := by decide +kernel
theorem dX0_mendSpan_63 : decode cX0_mendSpan 63 = .ok (.iaload, 1) := by decide +kernel
theorem dX0_mendSpan_64 : decode cX0_mendSpan 64 = .ok (.ireturn, 1) := by decide +kernel
set_option maxRecDepth 20000 in
theorem ggX0_hosesOf_X0_fact : GoodIn wsX0_hosesOf wsX0_fact := goodIn_r _ [5, 6, 7, 8, 9, 10] (by decide +kernel) (by decide +kernel)
set_option maxRecDepth 20000 in
theorem gX0_hosesOf_X0_fact : GoodIn wsX0_hosesOf (wsV RX0 64 RX0 yX0_fact wsX0_fact) := goodIn_app (goodIn_of _ (by decide +kernel)) ggX0_hosesOf_X0_fact
theorem dX0_hosesOf_0 : decode cX0_hosesOf 0 = .ok (.aload_n 0, 1) := by decide +kernel
theorem dX0_hosesOf_1 : decode cX0_hosesOf 1 = .ok (.iload_n 1, 1) := by decide +kernel
theorem dX0_hosesOf_2 : decode cX0_hosesOf 2 = .ok (.iconst 3, 1) := by decide +kernel
theorem dX0_hosesOf_3 : decode cX0_hosesOf 3 = .ok (.invokevirtual 64, 3) := by decide +kernel
theorem dX0_hosesOf_6 : decode cX0_hosesOf 6 = .ok (.iconst 1, 1) := by decide +kernel
theorem dX0_hosesOf_7 : decode cX0_hosesOf 7 = .ok (.if_icmp .ne 14, 3) := by decide +kernel
theorem dX0_hosesOf_10 : decode cX0_hosesOf 10 = .ok (.iconst 2, 1) := by decide +kernel
theorem dX0_hosesOf_11 : decode cX0_hosesOf 11 = .ok (.aload_n 0, 1) := by decide +kernel
theorem dX0_hosesOf_12 : decode cX0_hosesOf 12 = .ok (.iload_n 1, 1) := by decide +kernel
theorem dX0_hosesOf_13 : decode cX0_hosesOf 13 = .ok (.iconst 0, 1) := by decide +kernel
theorem dX0_hosesOf_14 : decode cX0_hosesOf 14 = .ok (.invokevirtual 64, 3) := by decide +kernel
theorem dX0_hosesOf_17 : decode cX0_hosesOf 17 = .ok (.imul, 1) := by decide +kernel
theorem dX0_hosesOf_18 : decode cX0_hosesOf 18 = .ok (.goto 9, 3) := by decide +kernel
theorem dX0_hosesOf_21 : decode cX0_hosesOf 21 = .ok (.aload_n 0, 1) := by decide +kernel
theorem dX0_hosesOf_22 : decode cX0_hosesOf 22 = .ok (.iload_n 1, 1) := by decide +kernel
theorem dX0_hosesOf_23 : decode cX0_hosesOf 23 = .ok (.iconst 0, 1) := by decide +kernel
theorem dX0_hosesOf_24 : decode cX0_hosesOf 24 = .ok (.invokevirtual 64, 3) := by decide +kernel
theorem dX0_hosesOf_27 : decode cX0_hosesOf 27 = .ok (.ireturn, 1) := by decide +kernel
set_option maxRecDepth 20000 in
theorem ggX0_allLengths_X0_hosesOf : GoodIn wsX0_allLengths wsX0_hosesOf := goodIn_r _ [6, 7, 8, 9, 5, 10, 11, 12, 13, 14, 15] (by decide +kernel) (by decide +kernel)
set_option maxRecDepth 20000 in
theorem gX0_allLengths_X0_hosesOf : GoodIn wsX0_allLengths (wsV RX0 68 RX0 yX0_hosesOf wsX0_hosesOf) := goodIn_app (goodIn_of _ (by decide +kernel)) ggX0_allLengths_X0_hosesOf
theorem dX0_allLengths_0 : decode cX0_allLengths 0 = .ok (.iconst 0, 1) := by decide +kernel
theorem dX0_allLengths_1 : decode cX0_allLengths 1 = .ok (.istore_n 1, 1) := by decide +kernel
theorem dX0_allLengths_2 : decode cX0_allLengths 2 = .ok (.iconst 0, 1) := by decide +kernel
theorem dX0_allLengths_3 : decode cX0_allLengths 3 = .ok (.istore_n 2, 1) := by decide +kernel
theorem dX0_allLengths_4 : decode cX0_allLengths 4 = .ok (.iload_n 2, 1) := by decide +kernel
theorem dX0_allLengths_5 : decode cX0_allLengths 5 = .ok (.aload_n 0, 1) := by decide +kernel
theorem dX0_allLengths_6 : decode cX0_allLengths 6 = .ok (.getfield 9, 3) := by decide +kernel
theorem dX0_allLengths_9 : decode cX0_allLengths 9 = .ok (.if_icmp .ge 17, 3) := by decide +kernel
theorem dX0_allLengths_12 : decode cX0_allLengths 12 = .ok (.iload_n 1, 1) := by decide +kernel
theorem dX0_allLengths_13 : decode cX0_allLengths 13 = .ok (.aload_n 0, 1) := by decide +kernel
theorem dX0_allLengths_14 : decode cX0_allLengths 14 = .ok (.iload_n 2, 1) := by decide +kernel
theorem dX0_allLengths_15 : decode cX0_allLengths 15 = .ok (.invokevirtual 68, 3) := by decide +kernel
theorem dX0_allLengths_18 : decode cX0_allLengths 18 = .ok (.iadd, 1) := by decide +kernel
theorem dX0_allLengths_19 : decode cX0_allLengths 19 = .ok (.istore_n 1, 1) := by decide +kernel
theorem dX0_allLengths_20 : decode cX0_allLengths 20 = .ok (.iinc 2 1, 3) := by decide +kernel
theorem dX0_allLengths_23 : decode cX0_allLengths 23 = .ok (.goto (-19), 3) := by decide +kernel
theorem dX0_allLengths_26 : decode cX0_allLengths 26 = .ok (.iload_n 1, 1) := by decide +kernel
theorem dX0_allLengths_27 : decode cX0_allLengths 27 = .ok (.ireturn, 1) := by decide +kernel
set_option maxRecDepth 20000 in
theorem ggX0_burstSpans_X0_fact : GoodIn wsX0_burstSpans wsX0_fact := goodIn_r _ [6, 7, 8, 9, 10, 11] (by decide +kernel) (by decide +kernel)
set_option maxRecDepth 20000 in
theorem gX0_burstSpans_X0_fact : GoodIn wsX0_burstSpans (wsV RX0 64 RX0 yX0_fact wsX0_fact) := goodIn_app (goodIn_of _ (by decide +kernel)) ggX0_burstSpans_X0_fact
theorem dX0_burstSpans_0 : decode cX0_burstSpans 0 = .ok (.iconst 0, 1) := by decide +kernel
theorem dX0_burstSpans_1 : decode cX0_burstSpans 1 = .ok (.istore_n 1, 1) := by decide +kernel
theorem dX0_burstSpans_2 : decode cX0_burstSpans 2 = .ok (.iconst 0, 1) := by decide +kernel
theorem dX0_burstSpans_3 : decode cX0_burstSpans 3 = .ok (.istore_n 2, 1) := by decide +kernel
theorem dX0_burstSpans_4 : decode cX0_burstSpans 4 = .ok (.iload_n 2, 1) := by decide +kernel
theorem dX0_burstSpans_5 : decode cX0_burstSpans 5 = .ok (.aload_n 0, 1) := by decide +kernel
theorem dX0_burstSpans_6 : decode cX0_burstSpans 6 = .ok (.getfield 9, 3) := by decide +kernel
theorem dX0_burstSpans_9 : decode cX0_burstSpans 9 = .ok (.if_icmp .ge 18, 3) := by decide +kernel
theorem dX0_burstSpans_12 : decode cX0_burstSpans 12 = .ok (.iload_n 1, 1) := by decide +kernel
theorem dX0_burstSpans_13 : decode cX0_burstSpans 13 = .ok (.aload_n 0, 1) := by decide +kernel
theorem dX0_burstSpans_14 : decode cX0_burstSpans 14 = .ok (.iload_n 2, 1) := by decide +kernel
theorem dX0_burstSpans_15 : decode cX0_burstSpans 15 = .ok (.iconst 4, 1) := by decide +kernel
theorem dX0_burstSpans_16 : decode cX0_burstSpans 16 = .ok (.invokevirtual 64, 3) := by decide +kernel
theorem dX0_burstSpans_19 : decode cX0_burstSpans 19 = .ok (.iadd, 1) := by decide +kernel
theorem dX0_burstSpans_20 : decode cX0_burstSpans 20 = .ok (.istore_n 1, 1) := by decide +kernel
theorem dX0_burstSpans_21 : decode cX0_burstSpans 21 = .ok (.iinc 2 1, 3) := by decide +kernel
theorem dX0_burstSpans_24 : decode cX0_burstSpans 24 = .ok (.goto (-20), 3) := by decide +kernel
theorem dX0_burstSpans_27 : decode cX0_burstSpans 27 = .ok (.iload_n 1, 1) := by decide +kernel
theorem dX0_burstSpans_28 : decode cX0_burstSpans 28 = .ok (.ireturn, 1) := by decide +kernel
set_option maxRecDepth 20000 in
theorem ggX0_lossBy_X0_fact : GoodIn wsX0_lossBy wsX0_fact := goodIn_r _ [5, 6, 7, 8, 9, 10] (by decide +kernel) (by decide +kernel)
set_option maxRecDepth 20000 in
theorem gX0_lossBy_X0_fact : GoodIn wsX0_lossBy (wsV RX0 64 RX0 yX0_fact wsX0_fact) := goodIn_app (goodIn_of _ (by decide +kernel)) ggX0_lossBy_X0_fact
theorem dX0_lossBy_0 : decode cX0_lossBy 0 = .ok (.aload_n 0, 1) := by decide +kernel
theorem dX0_lossBy_1 : decode cX0_lossBy 1 = .ok (.iload_n 1, 1) := by decide +kernel
theorem dX0_lossBy_2 : decode cX0_lossBy 2 = .ok (.iconst 3, 1) := by decide +kernel
theorem dX0_lossBy_3 : decode cX0_lossBy 3 = .ok (.invokevirtual 64, 3) := by decide +kernel
theorem dX0_lossBy_6 : decode cX0_lossBy 6 = .ok (.iconst 1, 1) := by decide +kernel
theorem dX0_lossBy_7 : decode cX0_lossBy 7 = .ok (.if_icmp .ne 11, 3) := by decide +kernel
theorem dX0_lossBy_10 : decode cX0_lossBy 10 = .ok (.iload_n 2, 1) := by decide +kernel
theorem dX0_lossBy_11 : decode cX0_lossBy 11 = .ok (.iconst 1, 1) := by decide +kernel
theorem dX0_lossBy_12 : decode cX0_lossBy 12 = .ok (.iadd, 1) := by decide +kernel
theorem dX0_lossBy_13 : decode cX0_lossBy 13 = .ok (.iconst 2, 1) := by decide +kernel
theorem dX0_lossBy_14 : decode cX0_lossBy 14 = .ok (.idiv, 1) := by decide +kernel
theorem dX0_lossBy_15 : decode cX0_lossBy 15 = .ok (.goto 4, 3) := by decide +kernel
theorem dX0_lossBy_18 : decode cX0_lossBy 18 = .ok (.iload_n 2, 1) := by decide +kernel
theorem dX0_lossBy_19 : decode cX0_lossBy 19 = .ok (.istore_n 3, 1) := by decide +kernel
theorem dX0_lossBy_20 : decode cX0_lossBy 20 = .ok (.aload_n 0, 1) := by decide +kernel
theorem dX0_lossBy_21 : decode cX0_lossBy 21 = .ok (.iload_n 1, 1) := by decide +kernel
theorem dX0_lossBy_22 : decode cX0_lossBy 22 = .ok (.iconst 0, 1) := by decide +kernel
theorem dX0_lossBy_23 : decode cX0_lossBy 23 = .ok (.invokevirtual 64, 3) := by decide +kernel
theorem dX0_lossBy_26 : decode cX0_lossBy 26 = .ok (.getstatic 71, 3) := by decide +kernel
theorem dX0_lossBy_29 : decode cX0_lossBy 29 = .ok (.aload_n 0, 1) := by decide +kernel
theorem dX0_lossBy_30 : decode cX0_lossBy 30 = .ok (.iload_n 1, 1) := by decide +kernel
theorem dX0_lossBy_31 : decode cX0_lossBy 31 = .ok (.iconst 1, 1) := by decide +kernel
theorem dX0_lossBy_32 : decode cX0_lossBy 32 = .ok (.invokevirtual 64, 3) := by decide +kernel
theorem dX0_lossBy_35 : decode cX0_lossBy 35 = .ok (.iaload, 1) := by decide +kernel
theorem dX0_lossBy_36 : decode cX0_lossBy 36 = .ok (.imul, 1) := by decide +kernel
theorem dX0_lossBy_37 : decode cX0_lossBy 37 = .ok (.iload_n 3, 1) := by decide +kernel
theorem dX0_lossBy_38 : decode cX0_lossBy 38 = .ok (.imul, 1) := by decide +kernel
theorem dX0_lossBy_39 : decode cX0_lossBy 39 = .ok (.iload_n 3, 1) := by decide +kernel
theorem dX0_lossBy_40 : decode cX0_lossBy 40 = .ok (.imul, 1) := by decide +kernel
theorem dX0_lossBy_41 : decode cX0_lossBy 41 = .ok (.bipush 100, 2) := by decide +kernel
theorem dX0_lossBy_43 : decode cX0_lossBy 43 = .ok (.idiv, 1) := by decide +kernel
theorem dX0_lossBy_44 : decode cX0_lossBy 44 = .ok (.aload_n 0, 1) := by decide +kernel
theorem dX0_lossBy_45 : decode cX0_lossBy 45 = .ok (.iload_n 1, 1) := by decide +kernel
theorem dX0_lossBy_46 : decode cX0_lossBy 46 = .ok (.iconst 2, 1) := by decide +kernel
theorem dX0_lossBy_47 : decode cX0_lossBy 47 = .ok (.invokevirtual 64, 3) := by decide +kernel
theorem dX0_lossBy_50 : decode cX0_lossBy 50 = .ok (.iadd, 1) := by decide +kernel
theorem dX0_lossBy_51 : decode cX0_lossBy 51 = .ok (.ireturn, 1) := by decide +kernel
set_option maxRecDepth 20000 in
theorem ggX0_failureOf_X0_fact : GoodIn wsX0_failureOf wsX0_fact := goodIn_r _ [5, 6, 11, 12, 13, 14] (by decide +kernel) (by decide +kernel)
set_option maxRecDepth 20000 in
theorem gX0_failureOf_X0_fact : GoodIn wsX0_failureOf (wsV RX0 64 RX0 yX0_fact wsX0_fact) := goodIn_app (goodIn_of _ (by decide +kernel)) ggX0_failureOf_X0_fact
set_option maxRecDepth 20000 in
theorem ggX0_failureOf_X0_lossBy : GoodIn wsX0_failureOf wsX0_lossBy := goodIn_r _ [10, 1, 2, 3, 4, 5, 6, 11, 12, 13, 14] (by decide +kernel) (by decide +kernel)
set_option maxRecDepth 20000 in
theorem gX0_failureOf_X0_lossBy : GoodIn wsX0_failureOf (wsV RX0 77 RX0 yX0_lossBy wsX0_lossBy) := goodIn_app (goodIn_of _ (by decide +kernel)) ggX0_failureOf_X0_lossBy
theorem dX0_failureOf_0 : decode cX0_failureOf 0 = .ok (.aload_n 0, 1) := by decide +kernel
theorem dX0_failureOf_1 : decode cX0_failureOf 1 = .ok (.iload_n 1, 1) := by decide +kernel
theorem dX0_failureOf_2 : decode cX0_failureOf 2 = .ok (.iconst 4, 1) := by decide +kernel
theorem dX0_failureOf_3 : decode cX0_failureOf 3 = .ok (.invokevirtual 64, 3) := by decide +kernel
theorem dX0_failureOf_6 : decode cX0_failureOf 6 = .ok (.iconst 1, 1) := by decide +kernel
theorem dX0_failureOf_7 : decode cX0_failureOf 7 = .ok (.if_icmp .ne 5, 3) := by decide +kernel
theorem dX0_failureOf_10 : decode cX0_failureOf 10 = .ok (.iconst 1, 1) := by decide +kernel
theorem dX0_failureOf_11 : decode cX0_failureOf 11 = .ok (.ireturn, 1) := by decide +kernel
theorem dX0_failureOf_12 : decode cX0_failureOf 12 = .ok (.iload_n 2, 1) := by decide +kernel
theorem dX0_failureOf_13 : decode cX0_failureOf 13 = .ok (.getstatic 74, 3) := by decide +kernel
theorem dX0_failureOf_16 : decode cX0_failureOf 16 = .ok (.aload_n 0, 1) := by decide +kernel
theorem dX0_failureOf_17 : decode cX0_failureOf 17 = .ok (.iload_n 1, 1) := by decide +kernel
theorem dX0_failureOf_18 : decode cX0_failureOf 18 = .ok (.iconst 1, 1) := by decide +kernel
theorem dX0_failureOf_19 : decode cX0_failureOf 19 = .ok (.invokevirtual 64, 3) := by decide +kernel
theorem dX0_failureOf_22 : decode cX0_failureOf 22 = .ok (.iaload, 1) := by decide +kernel
theorem dX0_failureOf_23 : decode cX0_failureOf 23 = .ok (.if_icmp .le 5, 3) := by decide +kernel
theorem dX0_failureOf_26 : decode cX0_failureOf 26 = .ok (.iconst 4, 1) := by decide +kernel
theorem dX0_failureOf_27 : decode cX0_failureOf 27 = .ok (.ireturn, 1) := by decide +kernel
theorem dX0_failureOf_28 : decode cX0_failureOf 28 = .ok (.iload_n 2, 1) := by decide +kernel
theorem dX0_failureOf_29 : decode cX0_failureOf 29 = .ok (.aload_n 0, 1) := by decide +kernel
theorem dX0_failureOf_30 : decode cX0_failureOf 30 = .ok (.iload_n 1, 1) := by decide +kernel
theorem dX0_failureOf_31 : decode cX0_failureOf 31 = .ok (.iload_n 3, 1) := by decide +kernel
theorem dX0_failureOf_32 : decode cX0_failureOf 32 = .ok (.invokevirtual 77, 3) := by decide +kernel
theorem dX0_failureOf_35 : decode cX0_failureOf 35 = .ok (.isub, 1) := by decide +kernel
theorem dX0_failureOf_36 : decode cX0_failureOf 36 = .ok (.ifCond .ge 7, 3) := by decide +kernel
theorem dX0_failureOf_39 : decode cX0_failureOf 39 = .ok (.iconst 3, 1) := by decide +kernel
theorem dX0_failureOf_40 : decode cX0_failureOf 40 = .ok (.goto 4, 3) := by decide +kernel
theorem dX0_failureOf_43 : decode cX0_failureOf 43 = .ok (.iconst 0, 1) := by decide +kernel
theorem dX0_failureOf_44 : decode cX0_failureOf 44 = .ok (.ireturn, 1) := by decide +kernel
theorem dX1_init_0 : decode cX1_init 0 = .ok (.aload_n 0, 1) := by decide +kernel
theorem dX1_init_1 : decode cX1_init 1 = .ok (.invokespecial 3, 3) := by decide +kernel
theorem dX1_init_4 : decode cX1_init 4 = .ok (.aload_n 0, 1) := by decide +kernel
theorem dX1_init_5 : decode cX1_init 5 = .ok (.bipush 11, 2) := by decide +kernel
theorem dX1_init_7 : decode cX1_init 7 = .ok (.newarray .int, 2) := by decide +kernel
theorem dX1_init_9 : decode cX1_init 9 = .ok (.putfield 9, 3) := by decide +kernel
theorem dX1_init_12 : decode cX1_init 12 = .ok (.return_, 1) := by decide +kernel
set_option maxRecDepth 20000 in
theorem ggX1_bestSet_J7_fill_53178 : GoodIn wsX1_bestSet wsJ7_fill_53178 := goodIn_r _ [8] (by decide +kernel) (by decide +kernel)
set_option maxRecDepth 20000 in
theorem gX1_bestSet_J7_fill_53178 : GoodIn wsX1_bestSet (va_wsS RX1 16 yJ7_fill_53178 wsJ7_fill_53178) := goodIn_app (goodIn_of _ (by decide +kernel)) ggX1_bestSet_J7_fill_53178
set_option maxRecDepth 20000 in
theorem ggX1_bestSet_X1_leadOn : GoodIn wsX1_bestSet wsX1_leadOn := goodIn_r _ [13, 4, 3, 1, 14, 15, 16, 17, 18, 19, 20, 21, 22, 23, 24, 25, 26, 27, 28, 29, 30, 31, 32, 34, 35, 36, 37, 33] (by decide +kernel) (by decide +kernel)
set_option maxRecDepth 20000 in
theorem gX1_bestSet_X1_leadOn : GoodIn wsX1_bestSet (wsV RX1 27 RX1 yX1_leadOn wsX1_leadOn) := goodIn_app (goodIn_of _ (by decide +kernel)) ggX1_bestSet_X1_leadOn
theorem dX1_bestSet_0 : decode cX1_bestSet 0 = .ok (.aload_n 0, 1) := by decide +kernel
theorem dX1_bestSet_1 : decode cX1_bestSet 1 = .ok (.getfield 9, 3) := by decide +kernel
theorem dX1_bestSet_4 : decode cX1_bestSet 4 = .ok (.ldc 15, 2) := by decide +kernel
theorem dX1_bestSet_6 : decode cX1_bestSet 6 = .ok (.invokestatic 16, 3) := by decide +kernel
theorem dX1_bestSet_9 : decode cX1_bestSet 9 = .ok (.aload_n 0, 1) := by decide +kernel
theorem dX1_bestSet_10 : decode cX1_bestSet 10 = .ok (.aload_n 1, 1) := by decide +kernel
theorem dX1_bestSet_11 : decode cX1_bestSet 11 = .ok (.iload_n 2, 1) := by decide +kernel
theorem dX1_bestSet_12 : decode cX1_bestSet 12 = .ok (.iconst 0, 1) := by decide +kernel
theorem dX1_bestSet_13 : decode cX1_bestSet 13 = .ok (.aload_n 1, 1) := by decide +kernel
theorem dX1_bestSet_14 : decode cX1_bestSet 14 = .ok (.getfield 22, 3) := by decide +kernel
theorem dX1_bestSet_17 : decode cX1_bestSet 17 = .ok (.iconst 1, 1) := by decide +kernel
theorem dX1_bestSet_18 : decode cX1_bestSet 18 = .ok (.iaload, 1) := by decide +kernel
theorem dX1_bestSet_19 : decode cX1_bestSet 19 = .ok (.iconst 0, 1) := by decide +kernel
theorem dX1_bestSet_20 : decode cX1_bestSet 20 = .ok (.invokevirtual 27, 3) := by decide +kernel
theorem dX1_bestSet_23 : decode cX1_bestSet 23 = .ok (.iconst 0, 1) := by decide +kernel
theorem dX1_bestSet_24 : decode cX1_bestSet 24 = .ok (.istore_n 3, 1) := by decide +kernel
theorem dX1_bestSet_25 : decode cX1_bestSet 25 = .ok (.iload_n 3, 1) := by decide +kernel
theorem dX1_bestSet_26 : decode cX1_bestSet 26 = .ok (.aload_n 1, 1) := by decide +kernel
theorem dX1_bestSet_27 : decode cX1_bestSet 27 = .ok (.getfield 31, 3) := by decide +kernel
theorem dX1_bestSet_30 : decode cX1_bestSet 30 = .ok (.if_icmp .ge 39, 3) := by decide +kernel
theorem dX1_bestSet_33 : decode cX1_bestSet 33 = .ok (.aload_n 0, 1) := by decide +kernel
theorem dX1_bestSet_34 : decode cX1_bestSet 34 = .ok (.getfield 9, 3) := by decide +kernel
theorem dX1_bestSet_37 : decode cX1_bestSet 37 = .ok (.iload_n 3, 1) := by decide +kernel
theorem dX1_bestSet_38 : decode cX1_bestSet 38 = .ok (.iaload, 1) := by decide +kernel
theorem dX1_bestSet_39 : decode cX1_bestSet 39 = .ok (.ldc 15, 2) := by decide +kernel
theorem dX1_bestSet_41 : decode cX1_bestSet 41 = .ok (.if_icmp .eq 22, 3) := by decide +kernel
theorem dX1_bestSet_44 : decode cX1_bestSet 44 = .ok (.aload_n 0, 1) := by decide +kernel
theorem dX1_bestSet_45 : decode cX1_bestSet 45 = .ok (.aload_n 1, 1) := by decide +kernel
theorem dX1_bestSet_46 : decode cX1_bestSet 46 = .ok (.iload_n 2, 1) := by decide +kernel
theorem dX1_bestSet_47 : decode cX1_bestSet 47 = .ok (.iload_n 3, 1) := by decide +kernel
theorem dX1_bestSet_48 : decode cX1_bestSet 48 = .ok (.aload_n 1, 1) := by decide +kernel
theorem dX1_bestSet_49 : decode cX1_bestSet 49 = .ok (.getfield 22, 3) := by decide +kernel
theorem dX1_bestSet_52 : decode cX1_bestSet 52 = .ok (.iconst 3, 1) := by decide +kernel
theorem dX1_bestSet_53 : decode cX1_bestSet 53 = .ok (.iaload, 1) := by decide +kernel
theorem dX1_bestSet_54 : decode cX1_bestSet 54 = .ok (.aload_n 0, 1) := by decide +kernel
theorem dX1_bestSet_55 : decode cX1_bestSet 55 = .ok (.getfield 9, 3) := by decide +kernel
theorem dX1_bestSet_58 : decode cX1_bestSet 58 = .ok (.iload_n 3, 1) := by decide +kernel
theorem dX1_bestSet_59 : decode cX1_bestSet 59 = .ok (.iaload, 1) := by decide +kernel
theorem dX1_bestSet_60 : decode cX1_bestSet 60 = .ok (.invokevirtual 27, 3) := by decide +kernel
theorem dX1_bestSet_63 : decode cX1_bestSet 63 = .ok (.iinc 3 1, 3) := by decide +kernel
theorem dX1_bestSet_66 : decode cX1_bestSet 66 = .ok (.goto (-41), 3) := by decide +kernel
theorem dX1_bestSet_69 : decode cX1_bestSet 69 = .ok (.aload_n 0, 1) := by decide +kernel
theorem dX1_bestSet_70 : decode cX1_bestSet 70 = .ok (.getfield 9, 3) := by decide +kernel
theorem dX1_bestSet_73 : decode cX1_bestSet 73 = .ok (.aload_n 1, 1) := by decide +kernel
theorem dX1_bestSet_74 : decode cX1_bestSet 74 = .ok (.getfield 31, 3) := by decide +kernel
theorem dX1_bestSet_77 : decode cX1_bestSet 77 = .ok (.iaload, 1) := by decide +kernel
theorem dX1_bestSet_78 : decode cX1_bestSet 78 = .ok (.ireturn, 1) := by decide +kernel
set_option maxRecDepth 20000 in
theorem ggX1_leadOn_X0_failureOf : GoodIn wsX1_leadOn wsX0_failureOf := goodIn_r _ [12, 13, 14, 15, 11, 16, 17, 18, 19, 20, 21, 23, 24, 25, 26] (by decide +kernel) (by decide +kernel)
set_option maxRecDepth 20000 in
theorem gX1_leadOn_X0_failureOf : GoodIn wsX1_leadOn (wsV RX1 41 RX0 yX0_failureOf wsX0_failureOf) := goodIn_app (goodIn_of _ (by decide +kernel)) ggX1_leadOn_X0_failureOf
set_option maxRecDepth 20000 in
theorem ggX1_leadOn_X0_lossBy : GoodIn wsX1_leadOn wsX0_lossBy := goodIn_r _ [21, 13, 14, 15, 11, 16, 17, 23, 24, 25, 26] (by decide +kernel) (by decide +kernel)
set_option maxRecDepth 20000 in
theorem gX1_leadOn_X0_lossBy : GoodIn wsX1_leadOn (wsV RX1 45 RX0 yX0_lossBy wsX0_lossBy) := goodIn_app (goodIn_of _ (by decide +kernel)) ggX1_leadOn_X0_lossBy
theorem dX1_leadOn_0 : decode cX1_leadOn 0 = .ok (.iload 4, 2) := by decide +kernel
theorem dX1_leadOn_2 : decode cX1_leadOn 2 = .ok (.istore 6, 2) := by decide +kernel
theorem dX1_leadOn_4 : decode cX1_leadOn 4 = .ok (.iload_n 3, 1) := by decide +kernel
theorem dX1_leadOn_5 : decode cX1_leadOn 5 = .ok (.istore 7, 2) := by decide +kernel
theorem dX1_leadOn_7 : decode cX1_leadOn 7 = .ok (.iload 7, 2) := by decide +kernel
theorem dX1_leadOn_9 : decode cX1_leadOn 9 = .ok (.aload_n 1, 1) := by decide +kernel
theorem dX1_leadOn_10 : decode cX1_leadOn 10 = .ok (.getfield 31, 3) := by decide +kernel
theorem dX1_leadOn_13 : decode cX1_leadOn 13 = .ok (.if_icmp .ge 84, 3) := by decide +kernel
theorem dX1_leadOn_16 : decode cX1_leadOn 16 = .ok (.iload 6, 2) := by decide +kernel
theorem dX1_leadOn_18 : decode cX1_leadOn 18 = .ok (.aload_n 1, 1) := by decide +kernel
theorem dX1_leadOn_19 : decode cX1_leadOn 19 = .ok (.getfield 22, 3) := by decide +kernel
theorem dX1_leadOn_22 : decode cX1_leadOn 22 = .ok (.iconst 4, 1) := by decide +kernel
theorem dX1_leadOn_23 : decode cX1_leadOn 23 = .ok (.iaload, 1) := by decide +kernel
theorem dX1_leadOn_24 : decode cX1_leadOn 24 = .ok (.if_icmp .lt 42, 3) := by decide +kernel
theorem dX1_leadOn_27 : decode cX1_leadOn 27 = .ok (.iload 6, 2) := by decide +kernel
theorem dX1_leadOn_29 : decode cX1_leadOn 29 = .ok (.aload_n 1, 1) := by decide +kernel
theorem dX1_leadOn_30 : decode cX1_leadOn 30 = .ok (.getfield 22, 3) := by decide +kernel
theorem dX1_leadOn_33 : decode cX1_leadOn 33 = .ok (.iconst 3, 1) := by decide +kernel
theorem dX1_leadOn_34 : decode cX1_leadOn 34 = .ok (.iaload, 1) := by decide +kernel
theorem dX1_leadOn_35 : decode cX1_leadOn 35 = .ok (.if_icmp .ge 31, 3) := by decide +kernel
theorem dX1_leadOn_38 : decode cX1_leadOn 38 = .ok (.aload_n 0, 1) := by decide +kernel
theorem dX1_leadOn_39 : decode cX1_leadOn 39 = .ok (.getfield 9, 3) := by decide +kernel
theorem dX1_leadOn_42 : decode cX1_leadOn 42 = .ok (.iload 7, 2) := by decide +kernel
theorem dX1_leadOn_44 : decode cX1_leadOn 44 = .ok (.aload_n 0, 1) := by decide +kernel
theorem dX1_leadOn_45 : decode cX1_leadOn 45 = .ok (.getfield 9, 3) := by decide +kernel
theorem dX1_leadOn_48 : decode cX1_leadOn 48 = .ok (.iload 7, 2) := by decide +kernel
theorem dX1_leadOn_50 : decode cX1_leadOn 50 = .ok (.iaload, 1) := by decide +kernel
theorem dX1_leadOn_51 : decode cX1_leadOn 51 = .ok (.iload 5, 2) := by decide +kernel
theorem dX1_leadOn_53 : decode cX1_leadOn 53 = .ok (.sipush 2048, 3) := by decide +kernel
theorem dX1_leadOn_56 : decode cX1_leadOn 56 = .ok (.iadd, 1) := by decide +kernel
theorem dX1_leadOn_57 : decode cX1_leadOn 57 = .ok (.iconst 1, 1) := by decide +kernel
theorem dX1_leadOn_58 : decode cX1_leadOn 58 = .ok (.iload 7, 2) := by decide +kernel
theorem dX1_leadOn_60 : decode cX1_leadOn 60 = .ok (.ishl, 1) := by decide +kernel
theorem dX1_leadOn_61 : decode cX1_leadOn 61 = .ok (.iadd, 1) := by decide +kernel
theorem dX1_leadOn_62 : decode cX1_leadOn 62 = .ok (.invokestatic 35, 3) := by decide +kernel
theorem dX1_leadOn_65 : decode cX1_leadOn 65 = .ok (.iastore, 1) := by decide +kernel
theorem dX1_leadOn_66 : decode cX1_leadOn 66 = .ok (.aload_n 1, 1) := by decide +kernel
theorem dX1_leadOn_67 : decode cX1_leadOn 67 = .ok (.iload 7, 2) := by decide +kernel
theorem dX1_leadOn_69 : decode cX1_leadOn 69 = .ok (.iload 6, 2) := by decide +kernel
theorem dX1_leadOn_71 : decode cX1_leadOn 71 = .ok (.iload_n 2, 1) := by decide +kernel
theorem dX1_leadOn_72 : decode cX1_leadOn 72 = .ok (.invokevirtual 41, 3) := by decide +kernel
theorem dX1_leadOn_75 : decode cX1_leadOn 75 = .ok (.ifCond .eq 4, 3) := by decide +kernel
theorem dX1_leadOn_78 : decode cX1_leadOn 78 = .ok (.return_, 1) := by decide +kernel
theorem dX1_leadOn_79 : decode cX1_leadOn 79 = .ok (.iload 6, 2) := by decide +kernel
theorem dX1_leadOn_81 : decode cX1_leadOn 81 = .ok (.aload_n 1, 1) := by decide +kernel
theorem dX1_leadOn_82 : decode cX1_leadOn 82 = .ok (.iload 7, 2) := by decide +kernel
theorem dX1_leadOn_84 : decode cX1_leadOn 84 = .ok (.iload_n 2, 1) := by decide +kernel
theorem dX1_leadOn_85 : decode cX1_leadOn 85 = .ok (.invokevirtual 45, 3) := by decide +kernel
theorem dX1_leadOn_88 : decode cX1_leadOn 88 = .ok (.isub, 1) := by decide +kernel
theorem dX1_leadOn_89 : decode cX1_leadOn 89 = .ok (.istore 6, 2) := by decide +kernel
theorem dX1_leadOn_91 : decode cX1_leadOn 91 = .ok (.iinc 7 1, 3) := by decide +kernel
theorem dX1_leadOn_94 : decode cX1_leadOn 94 = .ok (.goto (-87), 3) := by decide +kernel
theorem dX1_leadOn_97 : decode cX1_leadOn 97 = .ok (.iload 6, 2) := by decide +kernel
theorem dX1_leadOn_99 : decode cX1_leadOn 99 = .ok (.aload_n 1, 1) := by decide +kernel
theorem dX1_leadOn_100 : decode cX1_leadOn 100 = .ok (.getfield 22, 3) := by decide +kernel
theorem dX1_leadOn_103 : decode cX1_leadOn 103 = .ok (.iconst 2, 1) := by decide +kernel
theorem dX1_leadOn_104 : decode cX1_leadOn 104 = .ok (.iaload, 1) := by decide +kernel
theorem dX1_leadOn_105 : decode cX1_leadOn 105 = .ok (.if_icmp .lt 26, 3) := by decide +kernel
theorem dX1_leadOn_108 : decode cX1_leadOn 108 = .ok (.aload_n 0, 1) := by decide +kernel
theorem dX1_leadOn_109 : decode cX1_leadOn 109 = .ok (.getfield 9, 3) := by decide +kernel
theorem dX1_leadOn_112 : decode cX1_leadOn 112 = .ok (.aload_n 1, 1) := by decide +kernel
theorem dX1_leadOn_113 : decode cX1_leadOn 113 = .ok (.getfield 31, 3) := by decide +kernel
theorem dX1_leadOn_116 : decode cX1_leadOn 116 = .ok (.aload_n 0, 1) := by decide +kernel
theorem dX1_leadOn_117 : decode cX1_leadOn 117 = .ok (.getfield 9, 3) := by decide +kernel
theorem dX1_leadOn_120 : decode cX1_leadOn 120 = .ok (.aload_n 1, 1) := by decide +kernel
theorem dX1_leadOn_121 : decode cX1_leadOn 121 = .ok (.getfield 31, 3) := by decide +kernel
theorem dX1_leadOn_124 : decode cX1_leadOn 124 = .ok (.iaload, 1) := by decide +kernel
theorem dX1_leadOn_125 : decode cX1_leadOn 125 = .ok (.iload 5, 2) := by decide +kernel
theorem dX1_leadOn_127 : decode cX1_leadOn 127 = .ok (.invokestatic 35, 3) := by decide +kernel
theorem dX1_leadOn_130 : decode cX1_leadOn 130 = .ok (.iastore, 1) := by decide +kernel
theorem dX1_leadOn_131 : decode cX1_leadOn 131 = .ok (.return_, 1) := by decide +kernel
theorem dX2_init_0 : decode cX2_init 0 = .ok (.aload_n 0, 1) := by decide +kernel
theorem dX2_init_1 : decode cX2_init 1 = .ok (.invokespecial 3, 3) := by decide +kernel
theorem dX2_init_4 : decode cX2_init 4 = .ok (.aload_n 0, 1) := by decide +kernel
theorem dX2_init_5 : decode cX2_init 5 = .ok (.ldc 9, 2) := by decide +kernel
theorem dX2_init_7 : decode cX2_init 7 = .ok (.putfield 10, 3) := by decide +kernel
theorem dX2_init_10 : decode cX2_init 10 = .ok (.aload_n 0, 1) := by decide +kernel
theorem dX2_init_11 : decode cX2_init 11 = .ok (.iconst 0, 1) := by decide +kernel
theorem dX2_init_12 : decode cX2_init 12 = .ok (.putfield 16, 3) := by decide +kernel
theorem dX2_init_15 : decode cX2_init 15 = .ok (.aload_n 0, 1) := by decide +kernel
theorem dX2_init_16 : decode cX2_init 16 = .ok (.bipush 11, 2) := by decide +kernel
theorem dX2_init_18 : decode cX2_init 18 = .ok (.newarray .int, 2) := by decide +kernel
theorem dX2_init_20 : decode cX2_init 20 = .ok (.putfield 19, 3) := by decide +kernel
theorem dX2_init_23 : decode cX2_init 23 = .ok (.aload_n 0, 1) := by decide +kernel
theorem dX2_init_24 : decode cX2_init 24 = .ok (.bipush 11, 2) := by decide +kernel
theorem dX2_init_26 : decode cX2_init 26 = .ok (.newarray .int, 2) := by decide +kernel
theorem dX2_init_28 : decode cX2_init 28 = .ok (.putfield 23, 3) := by decide +kernel
theorem dX2_init_31 : decode cX2_init 31 = .ok (.return_, 1) := by decide +kernel
set_option maxRecDepth 20000 in
theorem ggX2_follow_J7_fill_53178 : GoodIn wsX2_follow wsJ7_fill_53178 := goodIn_r _ [11] (by decide +kernel) (by decide +kernel)
set_option maxRecDepth 20000 in
theorem gX2_follow_J7_fill_53178 : GoodIn wsX2_follow (va_wsS RX2 26 yJ7_fill_53178 wsJ7_fill_53178) := goodIn_app (goodIn_of _ (by decide +kernel)) ggX2_follow_J7_fill_53178
set_option maxRecDepth 20000 in
theorem ggX2_follow_X2_failureAt : GoodIn wsX2_follow wsX2_failureAt := goodIn_r _ [16, 6, 17, 18, 19, 20, 3, 7, 21, 22, 23, 24, 25, 26, 27, 28, 29, 30, 31, 32, 33, 34, 35, 36, 37, 38, 39, 45, 46, 47, 48, 41, 42, 43, 44] (by decide +kernel) (by decide +kernel)
set_option maxRecDepth 20000 in
theorem gX2_follow_X2_failureAt : GoodIn wsX2_follow (wsV RX2 40 RX2 yX2_failureAt wsX2_failureAt) := goodIn_app (goodIn_of _ (by decide +kernel)) ggX2_follow_X2_failureAt
set_option maxRecDepth 20000 in
theorem ggX2_follow_X0_lossBy : GoodIn wsX2_follow wsX0_lossBy := goodIn_r _ [39, 31, 32, 33, 24, 34, 35, 45, 46, 47, 48] (by decide +kernel) (by decide +kernel)
set_option maxRecDepth 20000 in
theorem gX2_follow_X0_lossBy : GoodIn wsX2_follow (wsV RX2 44 RX0 yX0_lossBy wsX0_lossBy) := goodIn_app (goodIn_of _ (by decide +kernel)) ggX2_follow_X0_lossBy
theorem dX2_follow_0 : decode cX2_follow 0 = .ok (.aload_n 0, 1) := by decide +kernel
theorem dX2_follow_1 : decode cX2_follow 1 = .ok (.getfield 19, 3) := by decide +kernel
theorem dX2_follow_4 : decode cX2_follow 4 = .ok (.ldc 9, 2) := by decide +kernel
theorem dX2_follow_6 : decode cX2_follow 6 = .ok (.invokestatic 26, 3) := by decide +kernel
theorem dX2_follow_9 : decode cX2_follow 9 = .ok (.aload_n 0, 1) := by decide +kernel
theorem dX2_follow_10 : decode cX2_follow 10 = .ok (.getfield 23, 3) := by decide +kernel
theorem dX2_follow_13 : decode cX2_follow 13 = .ok (.ldc 9, 2) := by decide +kernel
theorem dX2_follow_15 : decode cX2_follow 15 = .ok (.invokestatic 26, 3) := by decide +kernel
theorem dX2_follow_18 : decode cX2_follow 18 = .ok (.aload_n 0, 1) := by decide +kernel
theorem dX2_follow_19 : decode cX2_follow 19 = .ok (.ldc 9, 2) := by decide +kernel
theorem dX2_follow_21 : decode cX2_follow 21 = .ok (.putfield 10, 3) := by decide +kernel
theorem dX2_follow_24 : decode cX2_follow 24 = .ok (.aload_n 0, 1) := by decide +kernel
theorem dX2_follow_25 : decode cX2_follow 25 = .ok (.iconst 0, 1) := by decide +kernel
theorem dX2_follow_26 : decode cX2_follow 26 = .ok (.putfield 16, 3) := by decide +kernel
theorem dX2_follow_29 : decode cX2_follow 29 = .ok (.aload_n 1, 1) := by decide +kernel
theorem dX2_follow_30 : decode cX2_follow 30 = .ok (.getfield 32, 3) := by decide +kernel
theorem dX2_follow_33 : decode cX2_follow 33 = .ok (.iconst 1, 1) := by decide +kernel
theorem dX2_follow_34 : decode cX2_follow 34 = .ok (.iaload, 1) := by decide +kernel
theorem dX2_follow_35 : decode cX2_follow 35 = .ok (.istore_n 3, 1) := by decide +kernel
theorem dX2_follow_36 : decode cX2_follow 36 = .ok (.iconst 0, 1) := by decide +kernel
theorem dX2_follow_37 : decode cX2_follow 37 = .ok (.istore 4, 2) := by decide +kernel
theorem dX2_follow_39 : decode cX2_follow 39 = .ok (.iload 4, 2) := by decide +kernel
theorem dX2_follow_41 : decode cX2_follow 41 = .ok (.aload_n 1, 1) := by decide +kernel
theorem dX2_follow_42 : decode cX2_follow 42 = .ok (.getfield 37, 3) := by decide +kernel
theorem dX2_follow_45 : decode cX2_follow 45 = .ok (.if_icmp .gt 78, 3) := by decide +kernel
theorem dX2_follow_48 : decode cX2_follow 48 = .ok (.aload_n 0, 1) := by decide +kernel
theorem dX2_follow_49 : decode cX2_follow 49 = .ok (.getfield 16, 3) := by decide +kernel
theorem dX2_follow_52 : decode cX2_follow 52 = .ok (.ifCond .ne 71, 3) := by decide +kernel
theorem dX2_follow_55 : decode cX2_follow 55 = .ok (.aload_n 0, 1) := by decide +kernel
theorem dX2_follow_56 : decode cX2_follow 56 = .ok (.getfield 19, 3) := by decide +kernel
theorem dX2_follow_59 : decode cX2_follow 59 = .ok (.iload 4, 2) := by decide +kernel
theorem dX2_follow_61 : decode cX2_follow 61 = .ok (.iload_n 3, 1) := by decide +kernel
theorem dX2_follow_62 : decode cX2_follow 62 = .ok (.iastore, 1) := by decide +kernel
theorem dX2_follow_63 : decode cX2_follow 63 = .ok (.aload_n 0, 1) := by decide +kernel
theorem dX2_follow_64 : decode cX2_follow 64 = .ok (.aload_n 0, 1) := by decide +kernel
theorem dX2_follow_65 : decode cX2_follow 65 = .ok (.aload_n 1, 1) := by decide +kernel
theorem dX2_follow_66 : decode cX2_follow 66 = .ok (.iload 4, 2) := by decide +kernel
theorem dX2_follow_68 : decode cX2_follow 68 = .ok (.iload_n 3, 1) := by decide +kernel
theorem dX2_follow_69 : decode cX2_follow 69 = .ok (.iload_n 2, 1) := by decide +kernel
theorem dX2_follow_70 : decode cX2_follow 70 = .ok (.invokevirtual 40, 3) := by decide +kernel
theorem dX2_follow_73 : decode cX2_follow 73 = .ok (.putfield 16, 3) := by decide +kernel
theorem dX2_follow_76 : decode cX2_follow 76 = .ok (.aload_n 0, 1) := by decide +kernel
theorem dX2_follow_77 : decode cX2_follow 77 = .ok (.getfield 16, 3) := by decide +kernel
theorem dX2_follow_80 : decode cX2_follow 80 = .ok (.ifCond .eq 12, 3) := by decide +kernel
theorem dX2_follow_83 : decode cX2_follow 83 = .ok (.aload_n 0, 1) := by decide +kernel
theorem dX2_follow_84 : decode cX2_follow 84 = .ok (.iload 4, 2) := by decide +kernel
theorem dX2_follow_86 : decode cX2_follow 86 = .ok (.putfield 10, 3) := by decide +kernel
theorem dX2_follow_89 : decode cX2_follow 89 = .ok (.goto 28, 3) := by decide +kernel
theorem dX2_follow_92 : decode cX2_follow 92 = .ok (.iload 4, 2) := by decide +kernel
theorem dX2_follow_94 : decode cX2_follow 94 = .ok (.aload_n 1, 1) := by decide +kernel
theorem dX2_follow_95 : decode cX2_follow 95 = .ok (.getfield 37, 3) := by decide +kernel
theorem dX2_follow_98 : decode cX2_follow 98 = .ok (.if_icmp .ge 19, 3) := by decide +kernel
theorem dX2_follow_101 : decode cX2_follow 101 = .ok (.aload_n 0, 1) := by decide +kernel
theorem dX2_follow_102 : decode cX2_follow 102 = .ok (.getfield 23, 3) := by decide +kernel
theorem dX2_follow_105 : decode cX2_follow 105 = .ok (.iload 4, 2) := by decide +kernel
theorem dX2_follow_107 : decode cX2_follow 107 = .ok (.iaload, 1) := by decide +kernel
theorem dX2_follow_108 : decode cX2_follow 108 = .ok (.aload_n 1, 1) := by decide +kernel
theorem dX2_follow_109 : decode cX2_follow 109 = .ok (.iload 4, 2) := by decide +kernel
theorem dX2_follow_111 : decode cX2_follow 111 = .ok (.iload_n 2, 1) := by decide +kernel
theorem dX2_follow_112 : decode cX2_follow 112 = .ok (.invokevirtual 44, 3) := by decide +kernel
theorem dX2_follow_115 : decode cX2_follow 115 = .ok (.isub, 1) := by decide +kernel
theorem dX2_follow_116 : decode cX2_follow 116 = .ok (.istore_n 3, 1) := by decide +kernel
theorem dX2_follow_117 : decode cX2_follow 117 = .ok (.iinc 4 1, 3) := by decide +kernel
theorem dX2_follow_120 : decode cX2_follow 120 = .ok (.goto (-81), 3) := by decide +kernel
theorem dX2_follow_123 : decode cX2_follow 123 = .ok (.return_, 1) := by decide +kernel
set_option maxRecDepth 20000 in
theorem ggX2_failureAt_X0_hasPump : GoodIn wsX2_failureAt wsX0_hasPump := goodIn_r _ [12, 13, 27, 28, 29, 30] (by decide +kernel) (by decide +kernel)
set_option maxRecDepth 20000 in
theorem gX2_failureAt_X0_hasPump : GoodIn wsX2_failureAt (wsV RX2 48 RX0 yX0_hasPump wsX0_hasPump) := goodIn_app (goodIn_of _ (by decide +kernel)) ggX2_failureAt_X0_hasPump
set_option maxRecDepth 20000 in
theorem ggX2_failureAt_X0_failureOf : GoodIn wsX2_failureAt wsX0_failureOf := goodIn_r _ [17, 18, 19, 20, 11, 21, 22, 23, 24, 25, 26, 27, 28, 29, 30] (by decide +kernel) (by decide +kernel)
set_option maxRecDepth 20000 in
theorem gX2_failureAt_X0_failureOf : GoodIn wsX2_failureAt (wsV RX2 57 RX0 yX0_failureOf wsX0_failureOf) := goodIn_app (goodIn_of _ (by decide +kernel)) ggX2_failureAt_X0_failureOf
theorem dX2_failureAt_0 : decode cX2_failureAt 0 = .ok (.aload_n 1, 1) := by decide +kernel
theorem dX2_failureAt_1 : decode cX2_failureAt 1 = .ok (.iload_n 2, 1) := by decide +kernel
theorem dX2_failureAt_2 : decode cX2_failureAt 2 = .ok (.invokevirtual 48, 3) := by decide +kernel
theorem dX2_failureAt_5 : decode cX2_failureAt 5 = .ok (.istore 5, 2) := by decide +kernel
theorem dX2_failureAt_7 : decode cX2_failureAt 7 = .ok (.iload 5, 2) := by decide +kernel
theorem dX2_failureAt_9 : decode cX2_failureAt 9 = .ok (.ifCond .eq 15, 3) := by decide +kernel
theorem dX2_failureAt_12 : decode cX2_failureAt 12 = .ok (.iload_n 3, 1) := by decide +kernel
theorem dX2_failureAt_13 : decode cX2_failureAt 13 = .ok (.aload_n 1, 1) := by decide +kernel
theorem dX2_failureAt_14 : decode cX2_failureAt 14 = .ok (.getfield 32, 3) := by decide +kernel
theorem dX2_failureAt_17 : decode cX2_failureAt 17 = .ok (.iconst 4, 1) := by decide +kernel
theorem dX2_failureAt_18 : decode cX2_failureAt 18 = .ok (.iaload, 1) := by decide +kernel
theorem dX2_failureAt_19 : decode cX2_failureAt 19 = .ok (.if_icmp .ge 5, 3) := by decide +kernel
theorem dX2_failureAt_22 : decode cX2_failureAt 22 = .ok (.iconst 2, 1) := by decide +kernel
theorem dX2_failureAt_23 : decode cX2_failureAt 23 = .ok (.ireturn, 1) := by decide +kernel
theorem dX2_failureAt_24 : decode cX2_failureAt 24 = .ok (.iload 5, 2) := by decide +kernel
theorem dX2_failureAt_26 : decode cX2_failureAt 26 = .ok (.ifCond .eq 16, 3) := by decide +kernel
theorem dX2_failureAt_29 : decode cX2_failureAt 29 = .ok (.iload_n 3, 1) := by decide +kernel
theorem dX2_failureAt_30 : decode cX2_failureAt 30 = .ok (.aload_n 1, 1) := by decide +kernel
theorem dX2_failureAt_31 : decode cX2_failureAt 31 = .ok (.getfield 32, 3) := by decide +kernel
theorem dX2_failureAt_34 : decode cX2_failureAt 34 = .ok (.iconst 3, 1) := by decide +kernel
theorem dX2_failureAt_35 : decode cX2_failureAt 35 = .ok (.iaload, 1) := by decide +kernel
theorem dX2_failureAt_36 : decode cX2_failureAt 36 = .ok (.invokestatic 52, 3) := by decide +kernel
theorem dX2_failureAt_39 : decode cX2_failureAt 39 = .ok (.goto 4, 3) := by decide +kernel
theorem dX2_failureAt_42 : decode cX2_failureAt 42 = .ok (.iload_n 3, 1) := by decide +kernel
theorem dX2_failureAt_43 : decode cX2_failureAt 43 = .ok (.istore 6, 2) := by decide +kernel
theorem dX2_failureAt_45 : decode cX2_failureAt 45 = .ok (.aload_n 0, 1) := by decide +kernel
theorem dX2_failureAt_46 : decode cX2_failureAt 46 = .ok (.getfield 23, 3) := by decide +kernel
theorem dX2_failureAt_49 : decode cX2_failureAt 49 = .ok (.iload_n 2, 1) := by decide +kernel
theorem dX2_failureAt_50 : decode cX2_failureAt 50 = .ok (.iload 6, 2) := by decide +kernel
theorem dX2_failureAt_52 : decode cX2_failureAt 52 = .ok (.iastore, 1) := by decide +kernel
theorem dX2_failureAt_53 : decode cX2_failureAt 53 = .ok (.iload_n 2, 1) := by decide +kernel
theorem dX2_failureAt_54 : decode cX2_failureAt 54 = .ok (.aload_n 1, 1) := by decide +kernel
theorem dX2_failureAt_55 : decode cX2_failureAt 55 = .ok (.getfield 37, 3) := by decide +kernel
theorem dX2_failureAt_58 : decode cX2_failureAt 58 = .ok (.if_icmp .ge 13, 3) := by decide +kernel
theorem dX2_failureAt_61 : decode cX2_failureAt 61 = .ok (.aload_n 1, 1) := by decide +kernel
theorem dX2_failureAt_62 : decode cX2_failureAt 62 = .ok (.iload_n 2, 1) := by decide +kernel
theorem dX2_failureAt_63 : decode cX2_failureAt 63 = .ok (.iload 6, 2) := by decide +kernel
theorem dX2_failureAt_65 : decode cX2_failureAt 65 = .ok (.iload 4, 2) := by decide +kernel
theorem dX2_failureAt_67 : decode cX2_failureAt 67 = .ok (.invokevirtual 57, 3) := by decide +kernel
theorem dX2_failureAt_70 : decode cX2_failureAt 70 = .ok (.ireturn, 1) := by decide +kernel
theorem dX2_failureAt_71 : decode cX2_failureAt 71 = .ok (.iload 6, 2) := by decide +kernel
theorem dX2_failureAt_73 : decode cX2_failureAt 73 = .ok (.aload_n 1, 1) := by decide +kernel
theorem dX2_failureAt_74 : decode cX2_failureAt 74 = .ok (.getfield 32, 3) := by decide +kernel
theorem dX2_failureAt_77 : decode cX2_failureAt 77 = .ok (.iconst 2, 1) := by decide +kernel
theorem dX2_failureAt_78 : decode cX2_failureAt 78 = .ok (.iaload, 1) := by decide +kernel
theorem dX2_failureAt_79 : decode cX2_failureAt 79 = .ok (.if_icmp .ge 7, 3) := by decide +kernel
theorem dX2_failureAt_82 : decode cX2_failureAt 82 = .ok (.iconst 5, 1) := by decide +kernel
theorem dX2_failureAt_83 : decode cX2_failureAt 83 = .ok (.goto 4, 3) := by decide +kernel
theorem dX2_failureAt_86 : decode cX2_failureAt 86 = .ok (.iconst 0, 1) := by decide +kernel
theorem dX2_failureAt_87 : decode cX2_failureAt 87 = .ok (.ireturn, 1) := by decide +kernel
theorem dX3_init_0 : decode cX3_init 0 = .ok (.aload_n 0, 1) := by decide +kernel
theorem dX3_init_1 : decode cX3_init 1 = .ok (.invokespecial 3, 3) := by decide +kernel
theorem dX3_init_4 : decode cX3_init 4 = .ok (.aload_n 0, 1) := by decide +kernel
theorem dX3_init_5 : decode cX3_init 5 = .ok (.iconst 0, 1) := by decide +kernel
theorem dX3_init_6 : decode cX3_init 6 = .ok (.putfield 9, 3) := by decide +kernel
theorem dX3_init_9 : decode cX3_init 9 = .ok (.aload_n 0, 1) := by decide +kernel
theorem dX3_init_10 : decode cX3_init 10 = .ok (.iconst 0, 1) := by decide +kernel
theorem dX3_init_11 : decode cX3_init 11 = .ok (.putfield 15, 3) := by decide +kernel
theorem dX3_init_14 : decode cX3_init 14 = .ok (.aload_n 0, 1) := by decide +kernel
theorem dX3_init_15 : decode cX3_init 15 = .ok (.iconst 0, 1) := by decide +kernel
theorem dX3_init_16 : decode cX3_init 16 = .ok (.putfield 18, 3) := by decide +kernel
theorem dX3_init_19 : decode cX3_init 19 = .ok (.aload_n 0, 1) := by decide +kernel
theorem dX3_init_20 : decode cX3_init 20 = .ok (.bipush 60, 2) := by decide +kernel
theorem dX3_init_22 : decode cX3_init 22 = .ok (.newarray .byte, 2) := by decide +kernel
theorem dX3_init_24 : decode cX3_init 24 = .ok (.putfield 21, 3) := by decide +kernel
theorem dX3_init_27 : decode cX3_init 27 = .ok (.aload_n 0, 1) := by decide +kernel
theorem dX3_init_28 : decode cX3_init 28 = .ok (.bipush 120, 2) := by decide +kernel
theorem dX3_init_30 : decode cX3_init 30 = .ok (.newarray .byte, 2) := by decide +kernel
theorem dX3_init_32 : decode cX3_init 32 = .ok (.putfield 25, 3) := by decide +kernel
theorem dX3_init_35 : decode cX3_init 35 = .ok (.aload_n 0, 1) := by decide +kernel
theorem dX3_init_36 : decode cX3_init 36 = .ok (.sipush 240, 3) := by decide +kernel
theorem dX3_init_39 : decode cX3_init 39 = .ok (.newarray .int, 2) := by decide +kernel
theorem dX3_init_41 : decode cX3_init 41 = .ok (.putfield 28, 3) := by decide +kernel
theorem dX3_init_44 : decode cX3_init 44 = .ok (.return_, 1) := by decide +kernel
theorem dX3_put_0 : decode cX3_put 0 = .ok (.aload_n 0, 1) := by decide +kernel
theorem dX3_put_1 : decode cX3_put 1 = .ok (.getfield 25, 3) := by decide +kernel
theorem dX3_put_4 : decode cX3_put 4 = .ok (.aload_n 0, 1) := by decide +kernel
theorem dX3_put_5 : decode cX3_put 5 = .ok (.getfield 9, 3) := by decide +kernel
theorem dX3_put_8 : decode cX3_put 8 = .ok (.iload_n 1, 1) := by decide +kernel
theorem dX3_put_9 : decode cX3_put 9 = .ok (.i2b, 1) := by decide +kernel
theorem dX3_put_10 : decode cX3_put 10 = .ok (.bastore, 1) := by decide +kernel
theorem dX3_put_11 : decode cX3_put 11 = .ok (.aload_n 0, 1) := by decide +kernel
theorem dX3_put_12 : decode cX3_put 12 = .ok (.dup, 1) := by decide +kernel
theorem dX3_put_13 : decode cX3_put 13 = .ok (.getfield 9, 3) := by decide +kernel
theorem dX3_put_16 : decode cX3_put 16 = .ok (.iconst 1, 1) := by decide +kernel
theorem dX3_put_17 : decode cX3_put 17 = .ok (.iadd, 1) := by decide +kernel
theorem dX3_put_18 : decode cX3_put 18 = .ok (.putfield 9, 3) := by decide +kernel
theorem dX3_put_21 : decode cX3_put 21 = .ok (.return_, 1) := by decide +kernel
theorem dX3_number_0 : decode cX3_number 0 = .ok (.aload_n 0, 1) := by decide +kernel
theorem dX3_number_1 : decode cX3_number 1 = .ok (.getfield 28, 3) := by decide +kernel
theorem dX3_number_4 : decode cX3_number 4 = .ok (.iload_n 1, 1) := by decide +kernel
theorem dX3_number_5 : decode cX3_number 5 = .ok (.iconst 4, 1) := by decide +kernel
theorem dX3_number_6 : decode cX3_number 6 = .ok (.imul, 1) := by decide +kernel
theorem dX3_number_7 : decode cX3_number 7 = .ok (.iload_n 2, 1) := by decide +kernel
theorem dX3_number_8 : decode cX3_number 8 = .ok (.iadd, 1) := by decide +kernel
theorem dX3_number_9 : decode cX3_number 9 = .ok (.iaload, 1) := by decide +kernel
theorem dX3_number_10 : decode cX3_number 10 = .ok (.ireturn, 1) := by decide +kernel
set_option maxRecDepth 20000 in
theorem ggX3_isRead_X3_skipBlanks : GoodIn wsX3_isRead wsX3_skipBlanks := goodIn_r _ [8, 2, 3, 9, 34, 35, 36, 37, 38, 39] (by decide +kernel) (by decide +kernel)
set_option maxRecDepth 20000 in
theorem gX3_isRead_X3_skipBlanks : GoodIn wsX3_isRead (wsV RX3 32 RX3 yX3_skipBlanks wsX3_skipBlanks) := goodIn_app (goodIn_of _ (by decide +kernel)) ggX3_isRead_X3_skipBlanks
set_option maxRecDepth 20000 in
theorem ggX3_isRead_X3_takesOrder : GoodIn wsX3_isRead wsX3_takesOrder := goodIn_r _ [13, 14, 1, 2, 15, 16, 17, 7, 18, 3, 9, 19, 20, 21, 4, 5, 6, 8, 22, 23, 24, 25, 26, 27, 28, 29, 30, 31, 32, 33, 34, 35, 36, 37, 38, 39] (by decide +kernel) (by decide +kernel)
set_option maxRecDepth 20000 in
theorem gX3_isRead_X3_takesOrder : GoodIn wsX3_isRead (wsV RX3 35 RX3 yX3_takesOrder wsX3_takesOrder) := goodIn_app (goodIn_of _ (by decide +kernel)) ggX3_isRead_X3_takesOrder
theorem dX3_isRead_0 : decode cX3_isRead 0 = .ok (.aload_n 0, 1) := by decide +kernel
theorem dX3_isRead_1 : decode cX3_isRead 1 = .ok (.iconst 0, 1) := by decide +kernel
theorem dX3_isRead_2 : decode cX3_isRead 2 = .ok (.putfield 15, 3) := by decide +kernel
theorem dX3_isRead_5 : decode cX3_isRead 5 = .ok (.aload_n 0, 1) := by decide +kernel
theorem dX3_isRead_6 : decode cX3_isRead 6 = .ok (.iconst 0, 1) := by decide +kernel
theorem dX3_isRead_7 : decode cX3_isRead 7 = .ok (.putfield 18, 3) := by decide +kernel
theorem dX3_isRead_10 : decode cX3_isRead 10 = .ok (.aload_n 0, 1) := by decide +kernel
theorem dX3_isRead_11 : decode cX3_isRead 11 = .ok (.invokevirtual 32, 3) := by decide +kernel
theorem dX3_isRead_14 : decode cX3_isRead 14 = .ok (.aload_n 0, 1) := by decide +kernel
theorem dX3_isRead_15 : decode cX3_isRead 15 = .ok (.getfield 18, 3) := by decide +kernel
theorem dX3_isRead_18 : decode cX3_isRead 18 = .ok (.aload_n 0, 1) := by decide +kernel
theorem dX3_isRead_19 : decode cX3_isRead 19 = .ok (.getfield 9, 3) := by decide +kernel
theorem dX3_isRead_22 : decode cX3_isRead 22 = .ok (.if_icmp .ge 38, 3) := by decide +kernel
theorem dX3_isRead_25 : decode cX3_isRead 25 = .ok (.aload_n 0, 1) := by decide +kernel
theorem dX3_isRead_26 : decode cX3_isRead 26 = .ok (.getfield 15, 3) := by decide +kernel
theorem dX3_isRead_29 : decode cX3_isRead 29 = .ok (.bipush 60, 2) := by decide +kernel
theorem dX3_isRead_31 : decode cX3_isRead 31 = .ok (.if_icmp .ge 29, 3) := by decide +kernel
theorem dX3_isRead_34 : decode cX3_isRead 34 = .ok (.aload_n 0, 1) := by decide +kernel
theorem dX3_isRead_35 : decode cX3_isRead 35 = .ok (.invokevirtual 35, 3) := by decide +kernel
theorem dX3_isRead_38 : decode cX3_isRead 38 = .ok (.ifCond .ne 5, 3) := by decide +kernel
theorem dX3_isRead_41 : decode cX3_isRead 41 = .ok (.iconst 0, 1) := by decide +kernel
theorem dX3_isRead_42 : decode cX3_isRead 42 = .ok (.ireturn, 1) := by decide +kernel
theorem dX3_isRead_43 : decode cX3_isRead 43 = .ok (.aload_n 0, 1) := by decide +kernel
theorem dX3_isRead_44 : decode cX3_isRead 44 = .ok (.dup, 1) := by decide +kernel
theorem dX3_isRead_45 : decode cX3_isRead 45 = .ok (.getfield 15, 3) := by decide +kernel
theorem dX3_isRead_48 : decode cX3_isRead 48 = .ok (.iconst 1, 1) := by decide +kernel
theorem dX3_isRead_49 : decode cX3_isRead 49 = .ok (.iadd, 1) := by decide +kernel
theorem dX3_isRead_50 : decode cX3_isRead 50 = .ok (.putfield 15, 3) := by decide +kernel
theorem dX3_isRead_53 : decode cX3_isRead 53 = .ok (.aload_n 0, 1) := by decide +kernel
theorem dX3_isRead_54 : decode cX3_isRead 54 = .ok (.invokevirtual 32, 3) := by decide +kernel
theorem dX3_isRead_57 : decode cX3_isRead 57 = .ok (.goto (-43), 3) := by decide +kernel
theorem dX3_isRead_60 : decode cX3_isRead 60 = .ok (.aload_n 0, 1) := by decide +kernel
theorem dX3_isRead_61 : decode cX3_isRead 61 = .ok (.getfield 15, 3) := by decide +kernel
theorem dX3_isRead_64 : decode cX3_isRead 64 = .ok (.ifCond .le 7, 3) := by decide +kernel
theorem dX3_isRead_67 : decode cX3_isRead 67 = .ok (.iconst 1, 1) := by decide +kernel
theorem dX3_isRead_68 : decode cX3_isRead 68 = .ok (.goto 4, 3) := by decide +kernel
theorem dX3_isRead_71 : decode cX3_isRead 71 = .ok (.iconst 0, 1) := by decide +kernel
theorem dX3_isRead_72 : decode cX3_isRead 72 = .ok (.ireturn, 1) := by decide +kernel
set_option maxRecDepth 20000 in
theorem ggX3_takesOrder_X3_byteHere : GoodIn wsX3_takesOrder wsX3_byteHere := goodIn_r _ [8, 3, 9, 10, 30, 31, 32, 33, 34, 35] (by decide +kernel) (by decide +kernel)
set_option maxRecDepth 20000 in
theorem gX3_takesOrder_X3_byteHere : GoodIn wsX3_takesOrder (wsV RX3 39 RX3 yX3_byteHere wsX3_byteHere) := goodIn_app (goodIn_of _ (by decide +kernel)) ggX3_takesOrder_X3_byteHere
set_option maxRecDepth 20000 in
theorem ggX3_takesOrder_X3_numbersOf : GoodIn wsX3_takesOrder wsX3_numbersOf := goodIn_r _ [13] (by decide +kernel) (by decide +kernel)
set_option maxRecDepth 20000 in
theorem gX3_takesOrder_X3_numbersOf : GoodIn wsX3_takesOrder (va_wsS RX3 43 yX3_numbersOf wsX3_numbersOf) := goodIn_app (goodIn_of _ (by decide +kernel)) ggX3_takesOrder_X3_numbersOf
set_option maxRecDepth 20000 in
theorem ggX3_takesOrder_X3_skipBlanks : GoodIn wsX3_takesOrder wsX3_skipBlanks := goodIn_r _ [17, 3, 9, 10, 30, 31, 32, 33, 34, 35] (by decide +kernel) (by decide +kernel)
set_option maxRecDepth 20000 in
theorem gX3_takesOrder_X3_skipBlanks : GoodIn wsX3_takesOrder (wsV RX3 32 RX3 yX3_skipBlanks wsX3_skipBlanks) := goodIn_app (goodIn_of _ (by decide +kernel)) ggX3_takesOrder_X3_skipBlanks
set_option maxRecDepth 20000 in
theorem ggX3_takesOrder_X3_takesNumber : GoodIn wsX3_takesOrder wsX3_takesNumber := goodIn_r _ [21, 3, 22, 2, 4, 5, 6, 7, 8, 9, 10, 23, 24, 25, 26, 27, 28, 29, 30, 31, 32, 33, 34, 35] (by decide +kernel) (by decide +kernel)
set_option maxRecDepth 20000 in
theorem gX3_takesOrder_X3_takesNumber : GoodIn wsX3_takesOrder (wsV RX3 47 RX3 yX3_takesNumber wsX3_takesNumber) := goodIn_app (goodIn_of _ (by decide +kernel)) ggX3_takesOrder_X3_takesNumber
theorem dX3_takesOrder_0 : decode cX3_takesOrder 0 = .ok (.aload_n 0, 1) := by decide +kernel
theorem dX3_takesOrder_1 : decode cX3_takesOrder 1 = .ok (.invokevirtual 39, 3) := by decide +kernel
theorem dX3_takesOrder_4 : decode cX3_takesOrder 4 = .ok (.istore_n 1, 1) := by decide +kernel
theorem dX3_takesOrder_5 : decode cX3_takesOrder 5 = .ok (.iload_n 1, 1) := by decide +kernel
theorem dX3_takesOrder_6 : decode cX3_takesOrder 6 = .ok (.invokestatic 43, 3) := by decide +kernel
theorem dX3_takesOrder_9 : decode cX3_takesOrder 9 = .ok (.istore_n 2, 1) := by decide +kernel
theorem dX3_takesOrder_10 : decode cX3_takesOrder 10 = .ok (.iload_n 2, 1) := by decide +kernel
theorem dX3_takesOrder_11 : decode cX3_takesOrder 11 = .ok (.ifCond .ge 5, 3) := by decide +kernel
theorem dX3_takesOrder_14 : decode cX3_takesOrder 14 = .ok (.iconst 0, 1) := by decide +kernel
theorem dX3_takesOrder_15 : decode cX3_takesOrder 15 = .ok (.ireturn, 1) := by decide +kernel
theorem dX3_takesOrder_16 : decode cX3_takesOrder 16 = .ok (.aload_n 0, 1) := by decide +kernel
theorem dX3_takesOrder_17 : decode cX3_takesOrder 17 = .ok (.getfield 21, 3) := by decide +kernel
theorem dX3_takesOrder_20 : decode cX3_takesOrder 20 = .ok (.aload_n 0, 1) := by decide +kernel
theorem dX3_takesOrder_21 : decode cX3_takesOrder 21 = .ok (.getfield 15, 3) := by decide +kernel
theorem dX3_takesOrder_24 : decode cX3_takesOrder 24 = .ok (.iload_n 1, 1) := by decide +kernel
theorem dX3_takesOrder_25 : decode cX3_takesOrder 25 = .ok (.i2b, 1) := by decide +kernel
theorem dX3_takesOrder_26 : decode cX3_takesOrder 26 = .ok (.bastore, 1) := by decide +kernel
theorem dX3_takesOrder_27 : decode cX3_takesOrder 27 = .ok (.aload_n 0, 1) := by decide +kernel
theorem dX3_takesOrder_28 : decode cX3_takesOrder 28 = .ok (.dup, 1) := by decide +kernel
theorem dX3_takesOrder_29 : decode cX3_takesOrder 29 = .ok (.getfield 18, 3) := by decide +kernel
theorem dX3_takesOrder_32 : decode cX3_takesOrder 32 = .ok (.iconst 1, 1) := by decide +kernel
theorem dX3_takesOrder_33 : decode cX3_takesOrder 33 = .ok (.iadd, 1) := by decide +kernel
theorem dX3_takesOrder_34 : decode cX3_takesOrder 34 = .ok (.putfield 18, 3) := by decide +kernel
theorem dX3_takesOrder_37 : decode cX3_takesOrder 37 = .ok (.iconst 0, 1) := by decide +kernel
theorem dX3_takesOrder_38 : decode cX3_takesOrder 38 = .ok (.istore_n 3, 1) := by decide +kernel
theorem dX3_takesOrder_39 : decode cX3_takesOrder 39 = .ok (.iload_n 3, 1) := by decide +kernel
theorem dX3_takesOrder_40 : decode cX3_takesOrder 40 = .ok (.iload_n 2, 1) := by decide +kernel
theorem dX3_takesOrder_41 : decode cX3_takesOrder 41 = .ok (.if_icmp .ge 39, 3) := by decide +kernel
theorem dX3_takesOrder_44 : decode cX3_takesOrder 44 = .ok (.aload_n 0, 1) := by decide +kernel
theorem dX3_takesOrder_45 : decode cX3_takesOrder 45 = .ok (.invokevirtual 32, 3) := by decide +kernel
theorem dX3_takesOrder_48 : decode cX3_takesOrder 48 = .ok (.aload_n 0, 1) := by decide +kernel
theorem dX3_takesOrder_49 : decode cX3_takesOrder 49 = .ok (.iload_n 3, 1) := by decide +kernel
theorem dX3_takesOrder_50 : decode cX3_takesOrder 50 = .ok (.iload_n 1, 1) := by decide +kernel
theorem dX3_takesOrder_51 : decode cX3_takesOrder 51 = .ok (.bipush 104, 2) := by decide +kernel
theorem dX3_takesOrder_53 : decode cX3_takesOrder 53 = .ok (.if_icmp .ne 12, 3) := by decide +kernel
theorem dX3_takesOrder_56 : decode cX3_takesOrder 56 = .ok (.iload_n 3, 1) := by decide +kernel
theorem dX3_takesOrder_57 : decode cX3_takesOrder 57 = .ok (.iconst 2, 1) := by decide +kernel
theorem dX3_takesOrder_58 : decode cX3_takesOrder 58 = .ok (.if_icmp .ne 7, 3) := by decide +kernel
theorem dX3_takesOrder_61 : decode cX3_takesOrder 61 = .ok (.iconst 1, 1) := by decide +kernel
theorem dX3_takesOrder_62 : decode cX3_takesOrder 62 = .ok (.goto 4, 3) := by decide +kernel
theorem dX3_takesOrder_65 : decode cX3_takesOrder 65 = .ok (.iconst 0, 1) := by decide +kernel
theorem dX3_takesOrder_66 : decode cX3_takesOrder 66 = .ok (.invokevirtual 47, 3) := by decide +kernel
theorem dX3_takesOrder_69 : decode cX3_takesOrder 69 = .ok (.ifCond .ne 5, 3) := by decide +kernel
theorem dX3_takesOrder_72 : decode cX3_takesOrder 72 = .ok (.iconst 0, 1) := by decide +kernel
theorem dX3_takesOrder_73 : decode cX3_takesOrder 73 = .ok (.ireturn, 1) := by decide +kernel
theorem dX3_takesOrder_74 : decode cX3_takesOrder 74 = .ok (.iinc 3 1, 3) := by decide +kernel
theorem dX3_takesOrder_77 : decode cX3_takesOrder 77 = .ok (.goto (-38), 3) := by decide +kernel
theorem dX3_takesOrder_80 : decode cX3_takesOrder 80 = .ok (.aload_n 0, 1) := by decide +kernel
theorem dX3_takesOrder_81 : decode cX3_takesOrder 81 = .ok (.invokevirtual 32, 3) := by decide +kernel
theorem dX3_takesOrder_84 : decode cX3_takesOrder 84 = .ok (.aload_n 0, 1) := by decide +kernel
theorem dX3_takesOrder_85 : decode cX3_takesOrder 85 = .ok (.invokevirtual 39, 3) := by decide +kernel
theorem dX3_takesOrder_88 : decode cX3_takesOrder 88 = .ok (.bipush 59, 2) := by decide +kernel
theorem dX3_takesOrder_90 : decode cX3_takesOrder 90 = .ok (.if_icmp .eq 5, 3) := by decide +kernel
theorem dX3_takesOrder_93 : decode cX3_takesOrder 93 = .ok (.iconst 0, 1) := by decide +kernel
theorem dX3_takesOrder_94 : decode cX3_takesOrder 94 = .ok (.ireturn, 1) := by decide +kernel
theorem dX3_takesOrder_95 : decode cX3_takesOrder 95 = .ok (.aload_n 0, 1) := by decide +kernel
theorem dX3_takesOrder_96 : decode cX3_takesOrder 96 = .ok (.dup, 1) := by decide +kernel
theorem dX3_takesOrder_97 : decode cX3_takesOrder 97 = .ok (.getfield 18, 3) := by decide +kernel
theorem dX3_takesOrder_100 : decode cX3_takesOrder 100 = .ok (.iconst 1, 1) := by decide +kernel
theorem dX3_takesOrder_101 : decode cX3_takesOrder 101 = .ok (.iadd, 1) := by decide +kernel
theorem dX3_takesOrder_102 : decode cX3_takesOrder 102 = .ok (.putfield 18, 3) := by decide +kernel
theorem dX3_takesOrder_105 : decode cX3_takesOrder 105 = .ok (.iconst 1, 1) := by decide +kernel
theorem dX3_takesOrder_106 : decode cX3_takesOrder 106 = .ok (.ireturn, 1) := by decide +kernel
theorem dX3_numbersOf_0 : decode cX3_numbersOf 0 = .ok (.iload_n 0, 1) := by decide +kernel
theorem dX3_numbersOf_1 : decode cX3_numbersOf 1 = .ok (.lookupswitch 67 #[(99, 65), (104, 59), (107, 61), (109, 63), (112, 63), (120, 63)], 59) := by decide +kernel
theorem dX3_numbersOf_60 : decode cX3_numbersOf 60 = .ok (.iconst 4, 1) := by decide +kernel
theorem dX3_numbersOf_61 : decode cX3_numbersOf 61 = .ok (.ireturn, 1) := by decide +kernel
theorem dX3_numbersOf_62 : decode cX3_numbersOf 62 = .ok (.iconst 2, 1) := by decide +kernel
theorem dX3_numbersOf_63 : decode cX3_numbersOf 63 = .ok (.ireturn, 1) := by decide +kernel
theorem dX3_numbersOf_64 : decode cX3_numbersOf 64 = .ok (.iconst 1, 1) := by decide +kernel
theorem dX3_numbersOf_65 : decode cX3_numbersOf 65 = .ok (.ireturn, 1) := by decide +kernel
theorem dX3_numbersOf_66 : decode cX3_numbersOf 66 = .ok (.iconst 0, 1) := by decide +kernel
theorem dX3_numbersOf_67 : decode cX3_numbersOf 67 = .ok (.ireturn, 1) := by decide +kernel
theorem dX3_numbersOf_68 : decode cX3_numbersOf 68 = .ok (.iconst (-1), 1) := by decide +kernel
theorem dX3_numbersOf_69 : decode cX3_numbersOf 69 = .ok (.ireturn, 1) := by decide +kernel
set_option maxRecDepth 20000 in
theorem ggX3_takesNumber_X3_byteHere : GoodIn wsX3_takesNumber wsX3_byteHere := goodIn_r _ [8, 1, 9, 10, 18, 19, 20, 21, 22, 23] (by decide +kernel) (by decide +kernel)
set_option maxRecDepth 20000 in
theorem gX3_takesNumber_X3_byteHere : GoodIn wsX3_takesNumber (wsV RX3 39 RX3 yX3_byteHere wsX3_byteHere) := goodIn_app (goodIn_of _ (by decide +kernel)) ggX3_takesNumber_X3_byteHere
set_option maxRecDepth 20000 in
theorem ggX3_takesNumber_X3_isFigureHere : GoodIn wsX3_takesNumber wsX3_isFigureHere := goodIn_r _ [14, 4, 5, 6, 7, 8, 1, 9, 10, 15, 16, 17, 18, 19, 20, 21, 22, 23] (by decide +kernel) (by decide +kernel)
set_option maxRecDepth 20000 in
theorem gX3_takesNumber_X3_isFigureHere : GoodIn wsX3_takesNumber (wsV RX3 51 RX3 yX3_isFigureHere wsX3_isFigureHere) := goodIn_app (goodIn_of _ (by decide +kernel)) ggX3_takesNumber_X3_isFigureHere
theorem dX3_takesNumber_0 : decode cX3_takesNumber 0 = .ok (.iload_n 2, 1) := by decide +kernel
theorem dX3_takesNumber_1 : decode cX3_takesNumber 1 = .ok (.ifCond .eq 16, 3) := by decide +kernel
theorem dX3_takesNumber_4 : decode cX3_takesNumber 4 = .ok (.aload_n 0, 1) := by decide +kernel
theorem dX3_takesNumber_5 : decode cX3_takesNumber 5 = .ok (.invokevirtual 39, 3) := by decide +kernel
theorem dX3_takesNumber_8 : decode cX3_takesNumber 8 = .ok (.bipush 45, 2) := by decide +kernel
theorem dX3_takesNumber_10 : decode cX3_takesNumber 10 = .ok (.if_icmp .ne 7, 3) := by decide +kernel
theorem dX3_takesNumber_13 : decode cX3_takesNumber 13 = .ok (.iconst 1, 1) := by decide +kernel
theorem dX3_takesNumber_14 : decode cX3_takesNumber 14 = .ok (.goto 4, 3) := by decide +kernel
theorem dX3_takesNumber_17 : decode cX3_takesNumber 17 = .ok (.iconst 0, 1) := by decide +kernel
theorem dX3_takesNumber_18 : decode cX3_takesNumber 18 = .ok (.istore_n 3, 1) := by decide +kernel
theorem dX3_takesNumber_19 : decode cX3_takesNumber 19 = .ok (.iload_n 3, 1) := by decide +kernel
theorem dX3_takesNumber_20 : decode cX3_takesNumber 20 = .ok (.ifCond .eq 13, 3) := by decide +kernel
theorem dX3_takesNumber_23 : decode cX3_takesNumber 23 = .ok (.aload_n 0, 1) := by decide +kernel
theorem dX3_takesNumber_24 : decode cX3_takesNumber 24 = .ok (.dup, 1) := by decide +kernel
theorem dX3_takesNumber_25 : decode cX3_takesNumber 25 = .ok (.getfield 18, 3) := by decide +kernel
theorem dX3_takesNumber_28 : decode cX3_takesNumber 28 = .ok (.iconst 1, 1) := by decide +kernel
theorem dX3_takesNumber_29 : decode cX3_takesNumber 29 = .ok (.iadd, 1) := by decide +kernel
theorem dX3_takesNumber_30 : decode cX3_takesNumber 30 = .ok (.putfield 18, 3) := by decide +kernel
theorem dX3_takesNumber_33 : decode cX3_takesNumber 33 = .ok (.aload_n 0, 1) := by decide +kernel
theorem dX3_takesNumber_34 : decode cX3_takesNumber 34 = .ok (.invokevirtual 51, 3) := by decide +kernel
theorem dX3_takesNumber_37 : decode cX3_takesNumber 37 = .ok (.ifCond .ne 5, 3) := by decide +kernel
theorem dX3_takesNumber_40 : decode cX3_takesNumber 40 = .ok (.iconst 0, 1) := by decide +kernel
theorem dX3_takesNumber_41 : decode cX3_takesNumber 41 = .ok (.ireturn, 1) := by decide +kernel
theorem dX3_takesNumber_42 : decode cX3_takesNumber 42 = .ok (.iconst 0, 1) := by decide +kernel
theorem dX3_takesNumber_43 : decode cX3_takesNumber 43 = .ok (.istore 4, 2) := by decide +kernel
theorem dX3_takesNumber_45 : decode cX3_takesNumber 45 = .ok (.iconst 0, 1) := by decide +kernel
theorem dX3_takesNumber_46 : decode cX3_takesNumber 46 = .ok (.istore 5, 2) := by decide +kernel
theorem dX3_takesNumber_48 : decode cX3_takesNumber 48 = .ok (.iload 5, 2) := by decide +kernel
theorem dX3_takesNumber_50 : decode cX3_takesNumber 50 = .ok (.iconst 3, 1) := by decide +kernel
theorem dX3_takesNumber_51 : decode cX3_takesNumber 51 = .ok (.if_icmp .ge 41, 3) := by decide +kernel
theorem dX3_takesNumber_54 : decode cX3_takesNumber 54 = .ok (.aload_n 0, 1) := by decide +kernel
theorem dX3_takesNumber_55 : decode cX3_takesNumber 55 = .ok (.invokevirtual 51, 3) := by decide +kernel
theorem dX3_takesNumber_58 : decode cX3_takesNumber 58 = .ok (.ifCond .eq 34, 3) := by decide +kernel
theorem dX3_takesNumber_61 : decode cX3_takesNumber 61 = .ok (.bipush 10, 2) := by decide +kernel
theorem dX3_takesNumber_63 : decode cX3_takesNumber 63 = .ok (.iload 4, 2) := by decide +kernel
theorem dX3_takesNumber_65 : decode cX3_takesNumber 65 = .ok (.imul, 1) := by decide +kernel
theorem dX3_takesNumber_66 : decode cX3_takesNumber 66 = .ok (.aload_n 0, 1) := by decide +kernel
theorem dX3_takesNumber_67 : decode cX3_takesNumber 67 = .ok (.invokevirtual 39, 3) := by decide +kernel
theorem dX3_takesNumber_70 : decode cX3_takesNumber 70 = .ok (.iadd, 1) := by decide +kernel
theorem dX3_takesNumber_71 : decode cX3_takesNumber 71 = .ok (.bipush 48, 2) := by decide +kernel
theorem dX3_takesNumber_73 : decode cX3_takesNumber 73 = .ok (.isub, 1) := by decide +kernel
theorem dX3_takesNumber_74 : decode cX3_takesNumber 74 = .ok (.istore 4, 2) := by decide +kernel
theorem dX3_takesNumber_76 : decode cX3_takesNumber 76 = .ok (.aload_n 0, 1) := by decide +kernel
theorem dX3_takesNumber_77 : decode cX3_takesNumber 77 = .ok (.dup, 1) := by decide +kernel
theorem dX3_takesNumber_78 : decode cX3_takesNumber 78 = .ok (.getfield 18, 3) := by decide +kernel
theorem dX3_takesNumber_81 : decode cX3_takesNumber 81 = .ok (.iconst 1, 1) := by decide +kernel
theorem dX3_takesNumber_82 : decode cX3_takesNumber 82 = .ok (.iadd, 1) := by decide +kernel
theorem dX3_takesNumber_83 : decode cX3_takesNumber 83 = .ok (.putfield 18, 3) := by decide +kernel
theorem dX3_takesNumber_86 : decode cX3_takesNumber 86 = .ok (.iinc 5 1, 3) := by decide +kernel
theorem dX3_takesNumber_89 : decode cX3_takesNumber 89 = .ok (.goto (-41), 3) := by decide +kernel
theorem dX3_takesNumber_92 : decode cX3_takesNumber 92 = .ok (.aload_n 0, 1) := by decide +kernel
theorem dX3_takesNumber_93 : decode cX3_takesNumber 93 = .ok (.getfield 28, 3) := by decide +kernel
theorem dX3_takesNumber_96 : decode cX3_takesNumber 96 = .ok (.aload_n 0, 1) := by decide +kernel
theorem dX3_takesNumber_97 : decode cX3_takesNumber 97 = .ok (.getfield 15, 3) := by decide +kernel
theorem dX3_takesNumber_100 : decode cX3_takesNumber 100 = .ok (.iconst 4, 1) := by decide +kernel
theorem dX3_takesNumber_101 : decode cX3_takesNumber 101 = .ok (.imul, 1) := by decide +kernel
theorem dX3_takesNumber_102 : decode cX3_takesNumber 102 = .ok (.iload_n 1, 1) := by decide +kernel
theorem dX3_takesNumber_103 : decode cX3_takesNumber 103 = .ok (.iadd, 1) := by decide +kernel
theorem dX3_takesNumber_104 : decode cX3_takesNumber 104 = .ok (.iload_n 3, 1) := by decide +kernel
theorem dX3_takesNumber_105 : decode cX3_takesNumber 105 = .ok (.ifCond .eq 9, 3) := by decide +kernel
theorem dX3_takesNumber_108 : decode cX3_takesNumber 108 = .ok (.iload 4, 2) := by decide +kernel
theorem dX3_takesNumber_110 : decode cX3_takesNumber 110 = .ok (.ineg, 1) := by decide +kernel
theorem dX3_takesNumber_111 : decode cX3_takesNumber 111 = .ok (.goto 5, 3) := by decide +kernel
theorem dX3_takesNumber_114 : decode cX3_takesNumber 114 = .ok (.iload 4, 2) := by decide +kernel
theorem dX3_takesNumber_116 : decode cX3_takesNumber 116 = .ok (.iastore, 1) := by decide +kernel
theorem dX3_takesNumber_117 : decode cX3_takesNumber 117 = .ok (.aload_n 0, 1) := by decide +kernel
theorem dX3_takesNumber_118 : decode cX3_takesNumber 118 = .ok (.invokevirtual 51, 3) := by decide +kernel
theorem dX3_takesNumber_121 : decode cX3_takesNumber 121 = .ok (.ifCond .ne 7, 3) := by decide +kernel
theorem dX3_takesNumber_124 : decode cX3_takesNumber 124 = .ok (.iconst 1, 1) := by decide +kernel
theorem dX3_takesNumber_125 : decode cX3_takesNumber 125 = .ok (.goto 4, 3) := by decide +kernel
theorem dX3_takesNumber_128 : decode cX3_takesNumber 128 = .ok (.iconst 0, 1) := by decide +kernel
theorem dX3_takesNumber_129 : decode cX3_takesNumber 129 = .ok (.ireturn, 1) := by decide +kernel
set_option maxRecDepth 20000 in
theorem ggX3_isFigureHere_X3_byteHere : GoodIn wsX3_isFigureHere wsX3_byteHere := goodIn_r _ [5, 6, 7, 8, 12, 13, 14, 15, 16, 17] (by decide +kernel) (by decide +kernel)
set_option maxRecDepth 20000 in
theorem gX3_isFigureHere_X3_byteHere : GoodIn wsX3_isFigureHere (wsV RX3 39 RX3 yX3_byteHere wsX3_byteHere) := goodIn_app (goodIn_of _ (by decide +kernel)) ggX3_isFigureHere_X3_byteHere
set_option maxRecDepth 20000 in
theorem ggX3_isFigureHere_X4_within : GoodIn wsX3_isFigureHere wsX4_within := goodIn_r _ [11] (by decide +kernel) (by decide +kernel)
set_option maxRecDepth 20000 in
theorem gX3_isFigureHere_X4_within_n54 : GoodIn wsX3_isFigureHere (wsX4_within) := ggX3_isFigureHere_X4_within
theorem dX3_isFigureHere_0 : decode cX3_isFigureHere 0 = .ok (.aload_n 0, 1) := by decide +kernel
theorem dX3_isFigureHere_1 : decode cX3_isFigureHere 1 = .ok (.invokevirtual 39, 3) := by decide +kernel
theorem dX3_isFigureHere_4 : decode cX3_isFigureHere 4 = .ok (.bipush 48, 2) := by decide +kernel
theorem dX3_isFigureHere_6 : decode cX3_isFigureHere 6 = .ok (.bipush 57, 2) := by decide +kernel
theorem dX3_isFigureHere_8 : decode cX3_isFigureHere 8 = .ok (.invokestatic 54, 3) := by decide +kernel
theorem dX3_isFigureHere_11 : decode cX3_isFigureHere 11 = .ok (.ireturn, 1) := by decide +kernel
theorem dX3_byteHere_0 : decode cX3_byteHere 0 = .ok (.aload_n 0, 1) := by decide +kernel
theorem dX3_byteHere_1 : decode cX3_byteHere 1 = .ok (.getfield 18, 3) := by decide +kernel
theorem dX3_byteHere_4 : decode cX3_byteHere 4 = .ok (.aload_n 0, 1) := by decide +kernel
theorem dX3_byteHere_5 : decode cX3_byteHere 5 = .ok (.getfield 9, 3) := by decide +kernel
theorem dX3_byteHere_8 : decode cX3_byteHere 8 = .ok (.if_icmp .ge 15, 3) := by decide +kernel
theorem dX3_byteHere_11 : decode cX3_byteHere 11 = .ok (.aload_n 0, 1) := by decide +kernel
theorem dX3_byteHere_12 : decode cX3_byteHere 12 = .ok (.getfield 25, 3) := by decide +kernel
theorem dX3_byteHere_15 : decode cX3_byteHere 15 = .ok (.aload_n 0, 1) := by decide +kernel
theorem dX3_byteHere_16 : decode cX3_byteHere 16 = .ok (.getfield 18, 3) := by decide +kernel
theorem dX3_byteHere_19 : decode cX3_byteHere 19 = .ok (.baload, 1) := by decide +kernel
theorem dX3_byteHere_20 : decode cX3_byteHere 20 = .ok (.goto 4, 3) := by decide +kernel
theorem dX3_byteHere_23 : decode cX3_byteHere 23 = .ok (.iconst (-1), 1) := by decide +kernel
theorem dX3_byteHere_24 : decode cX3_byteHere 24 = .ok (.ireturn, 1) := by decide +kernel
theorem dX3_skipBlanks_0 : decode cX3_skipBlanks 0 = .ok (.aload_n 0, 1) := by decide +kernel
theorem dX3_skipBlanks_1 : decode cX3_skipBlanks 1 = .ok (.getfield 18, 3) := by decide +kernel
theorem dX3_skipBlanks_4 : decode cX3_skipBlanks 4 = .ok (.aload_n 0, 1) := by decide +kernel
theorem dX3_skipBlanks_5 : decode cX3_skipBlanks 5 = .ok (.getfield 9, 3) := by decide +kernel
theorem dX3_skipBlanks_8 : decode cX3_skipBlanks 8 = .ok (.if_icmp .ge 30, 3) := by decide +kernel
