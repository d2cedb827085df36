theorem inlX0 : ∀ w ∈ wsX00, w ∈ wsL_law := fun _ h => List.mem_append_left _ (List.mem_append_left _ (List.mem_append_left _ (List.mem_append_left _ (List.mem_append_right _ h))))
theorem inX0 : ∀ w ∈ wsX00, w ∈ lw_tbl := fun w h => wsL_law_in w (inlX0 w h)
theorem inlX1 : ∀ w ∈ wsX10, w ∈ wsL_law := fun _ h => List.mem_append_left _ (List.mem_append_left _ (List.mem_append_right _ h))
theorem inX1 : ∀ w ∈ wsX10, w ∈ lw_tbl := fun w h => wsL_law_in w (inlX1 w h)
theorem inlX2 : ∀ w ∈ wsX20, w ∈ wsL_law := fun _ h => List.mem_append_left _ (List.mem_append_left _ (List.mem_append_left _ (List.mem_append_right _ h)))
theorem inX2 : ∀ w ∈ wsX20, w ∈ lw_tbl := fun w h => wsL_law_in w (inlX2 w h)
theorem inlX3 : ∀ w ∈ wsX30, w ∈ wsL_law := fun _ h => List.mem_append_left _ (List.mem_append_left _ (List.mem_append_left _ (List.mem_append_left _ (List.mem_append_left _ (List.mem_append_left _ (List.mem_append_left _ (List.mem_append_right _ h)))))))
theorem inX3 : ∀ w ∈ wsX30, w ∈ lw_tbl := fun w h => wsL_law_in w (inlX3 w h)
theorem inlX4 : ∀ w ∈ wsX40, w ∈ wsL_law := fun _ h => List.mem_append_left _ (List.mem_append_right _ h)
theorem inX4 : ∀ w ∈ wsX40, w ∈ lw_tbl := fun w h => wsL_law_in w (inlX4 w h)
theorem inlX5 : ∀ w ∈ wsX50, w ∈ wsL_law := fun _ h => List.mem_append_left _ (List.mem_append_left _ (List.mem_append_left _ (List.mem_append_left _ (List.mem_append_left _ (List.mem_append_right _ h)))))
theorem inX5 : ∀ w ∈ wsX50, w ∈ lw_tbl := fun w h => wsL_law_in w (inlX5 w h)
theorem inlX6 : ∀ w ∈ wsX60, w ∈ wsL_law := fun _ h => List.mem_append_left _ (List.mem_append_left _ (List.mem_append_left _ (List.mem_append_left _ (List.mem_append_left _ (List.mem_append_left _ (List.mem_append_left _ (List.mem_append_left _ (List.mem_append_right _ h))))))))
theorem inX6 : ∀ w ∈ wsX60, w ∈ lw_tbl := fun w h => wsL_law_in w (inlX6 w h)
theorem inlX7 : ∀ w ∈ wsX70, w ∈ wsL_law := fun _ h => List.mem_append_left _ (List.mem_append_left _ (List.mem_append_left _ (List.mem_append_left _ (List.mem_append_left _ (List.mem_append_left _ (List.mem_append_right _ h))))))
theorem inX7 : ∀ w ∈ wsX70, w ∈ lw_tbl := fun w h => wsL_law_in w (inlX7 w h)
theorem inlX8 : ∀ w ∈ wsX80, w ∈ wsL_law := fun _ h => List.mem_append_left _ (List.mem_append_left _ (List.mem_append_left _ (List.mem_append_left _ (List.mem_append_left _ (List.mem_append_left _ (List.mem_append_left _ (List.mem_append_left _ (List.mem_append_left _ (List.mem_append_left _ (List.mem_append_right _ h))))))))))
theorem inX8 : ∀ w ∈ wsX80, w ∈ lw_tbl := fun w h => wsL_law_in w (inlX8 w h)
theorem inlX9 : ∀ w ∈ wsX90, w ∈ wsL_law := fun _ h => List.mem_append_left _ (List.mem_append_left _ (List.mem_append_left _ (List.mem_append_left _ (List.mem_append_left _ (List.mem_append_left _ (List.mem_append_left _ (List.mem_append_left _ (List.mem_append_left _ (List.mem_append_right _ h)))))))))
theorem inX9 : ∀ w ∈ wsX90, w ∈ lw_tbl := fun w h => wsL_law_in w (inlX9 w h)
theorem inJ6 : ∀ w ∈ wsJ60, w ∈ lw_tbl := by decide +kernel
theorem inJ9 : ∀ w ∈ wsJ90, w ∈ lw_tbl := by decide +kernel
theorem inJ0 : ∀ w ∈ wsJ00, w ∈ lw_tbl := by decide +kernel
theorem inJ1 : ∀ w ∈ wsJ10, w ∈ lw_tbl := by decide +kernel
theorem inJ2 : ∀ w ∈ wsJ20, w ∈ lw_tbl := by decide +kernel
theorem inJ10 : ∀ w ∈ wsJ100, w ∈ lw_tbl := by decide +kernel
theorem inJ3 : ∀ w ∈ wsJ30, w ∈ lw_tbl := by decide +kernel
theorem dX0_init_0 : decode cX0_init 0 = .ok (.aload_n 0, 1) := by decide +kernel
theorem dX0_init_1 : decode cX0_init 1 = .ok (.invokespecial 3, 3) := by decide +kernel
theorem dX0_init_4 : decode cX0_init 4 = .ok (.aload_n 0, 1) := by decide +kernel
theorem dX0_init_5 : decode cX0_init 5 = .ok (.iconst 0, 1) := by decide +kernel
theorem dX0_init_6 : decode cX0_init 6 = .ok (.putfield 9, 3) := by decide +kernel
theorem dX0_init_9 : decode cX0_init 9 = .ok (.aload_n 0, 1) := by decide +kernel
theorem dX0_init_10 : decode cX0_init 10 = .ok (.iconst 4, 1) := by decide +kernel
theorem dX0_init_11 : decode cX0_init 11 = .ok (.newarray .int, 2) := by decide +kernel
theorem dX0_init_13 : decode cX0_init 13 = .ok (.putfield 15, 3) := by decide +kernel
theorem dX0_init_16 : decode cX0_init 16 = .ok (.aload_n 0, 1) := by decide +kernel
theorem dX0_init_17 : decode cX0_init 17 = .ok (.iconst 4, 1) := by decide +kernel
theorem dX0_init_18 : decode cX0_init 18 = .ok (.newarray .int, 2) := by decide +kernel
theorem dX0_init_20 : decode cX0_init 20 = .ok (.putfield 19, 3) := by decide +kernel
theorem dX0_init_23 : decode cX0_init 23 = .ok (.aload_n 0, 1) := by decide +kernel
theorem dX0_init_24 : decode cX0_init 24 = .ok (.iconst 4, 1) := by decide +kernel
theorem dX0_init_25 : decode cX0_init 25 = .ok (.newarray .int, 2) := by decide +kernel
theorem dX0_init_27 : decode cX0_init 27 = .ok (.putfield 22, 3) := by decide +kernel
theorem dX0_init_30 : decode cX0_init 30 = .ok (.aload_n 0, 1) := by decide +kernel
theorem dX0_init_31 : decode cX0_init 31 = .ok (.bipush 64, 2) := by decide +kernel
theorem dX0_init_33 : decode cX0_init 33 = .ok (.newarray .int, 2) := by decide +kernel
theorem dX0_init_35 : decode cX0_init 35 = .ok (.putfield 25, 3) := by decide +kernel
theorem dX0_init_38 : decode cX0_init 38 = .ok (.aload_n 0, 1) := by decide +kernel
theorem dX0_init_39 : decode cX0_init 39 = .ok (.iconst 0, 1) := by decide +kernel
theorem dX0_init_40 : decode cX0_init 40 = .ok (.putfield 28, 3) := by decide +kernel
theorem dX0_init_43 : decode cX0_init 43 = .ok (.aload_n 0, 1) := by decide +kernel
theorem dX0_init_44 : decode cX0_init 44 = .ok (.bipush 20, 2) := by decide +kernel
theorem dX0_init_46 : decode cX0_init 46 = .ok (.newarray .int, 2) := by decide +kernel
theorem dX0_init_48 : decode cX0_init 48 = .ok (.putfield 31, 3) := by decide +kernel
theorem dX0_init_51 : decode cX0_init 51 = .ok (.aload_n 0, 1) := by decide +kernel
theorem dX0_init_52 : decode cX0_init 52 = .ok (.bipush 20, 2) := by decide +kernel
theorem dX0_init_54 : decode cX0_init 54 = .ok (.newarray .int, 2) := by decide +kernel
theorem dX0_init_56 : decode cX0_init 56 = .ok (.putfield 34, 3) := by decide +kernel
theorem dX0_init_59 : decode cX0_init 59 = .ok (.aload_n 0, 1) := by decide +kernel
theorem dX0_init_60 : decode cX0_init 60 = .ok (.bipush 20, 2) := by decide +kernel
theorem dX0_init_62 : decode cX0_init 62 = .ok (.newarray .int, 2) := by decide +kernel
theorem dX0_init_64 : decode cX0_init 64 = .ok (.putfield 37, 3) := by decide +kernel
theorem dX0_init_67 : decode cX0_init 67 = .ok (.aload_n 0, 1) := by decide +kernel
theorem dX0_init_68 : decode cX0_init 68 = .ok (.sipush 320, 3) := by decide +kernel
theorem dX0_init_71 : decode cX0_init 71 = .ok (.newarray .int, 2) := by decide +kernel
theorem dX0_init_73 : decode cX0_init 73 = .ok (.putfield 40, 3) := by decide +kernel
theorem dX0_init_76 : decode cX0_init 76 = .ok (.return_, 1) := by decide +kernel
theorem dX0_hasLine_0 : decode cX0_hasLine 0 = .ok (.iload_n 1, 1) := by decide +kernel
theorem dX0_hasLine_1 : decode cX0_hasLine 1 = .ok (.ifCond .lt 15, 3) := by decide +kernel
theorem dX0_hasLine_4 : decode cX0_hasLine 4 = .ok (.iload_n 1, 1) := by decide +kernel
theorem dX0_hasLine_5 : decode cX0_hasLine 5 = .ok (.aload_n 0, 1) := by decide +kernel
theorem dX0_hasLine_6 : decode cX0_hasLine 6 = .ok (.getfield 9, 3) := by decide +kernel
theorem dX0_hasLine_9 : decode cX0_hasLine 9 = .ok (.if_icmp .ge 7, 3) := by decide +kernel
theorem dX0_hasLine_12 : decode cX0_hasLine 12 = .ok (.iconst 1, 1) := by decide +kernel
theorem dX0_hasLine_13 : decode cX0_hasLine 13 = .ok (.goto 4, 3) := by decide +kernel
theorem dX0_hasLine_16 : decode cX0_hasLine 16 = .ok (.iconst 0, 1) := by decide +kernel
theorem dX0_hasLine_17 : decode cX0_hasLine 17 = .ok (.ireturn, 1) := by decide +kernel
theorem dX0_hasRelease_0 : decode cX0_hasRelease 0 = .ok (.iload_n 1, 1) := by decide +kernel
theorem dX0_hasRelease_1 : decode cX0_hasRelease 1 = .ok (.ifCond .lt 15, 3) := by decide +kernel
theorem dX0_hasRelease_4 : decode cX0_hasRelease 4 = .ok (.iload_n 1, 1) := by decide +kernel
theorem dX0_hasRelease_5 : decode cX0_hasRelease 5 = .ok (.aload_n 0, 1) := by decide +kernel
theorem dX0_hasRelease_6 : decode cX0_hasRelease 6 = .ok (.getfield 28, 3) := by decide +kernel
theorem dX0_hasRelease_9 : decode cX0_hasRelease 9 = .ok (.if_icmp .ge 7, 3) := by decide +kernel
theorem dX0_hasRelease_12 : decode cX0_hasRelease 12 = .ok (.iconst 1, 1) := by decide +kernel
theorem dX0_hasRelease_13 : decode cX0_hasRelease 13 = .ok (.goto 4, 3) := by decide +kernel
theorem dX0_hasRelease_16 : decode cX0_hasRelease 16 = .ok (.iconst 0, 1) := by decide +kernel
theorem dX0_hasRelease_17 : decode cX0_hasRelease 17 = .ok (.ireturn, 1) := by decide +kernel
theorem dX0_become_0 : decode cX0_become 0 = .ok (.aload_n 0, 1) := by decide +kernel
theorem dX0_become_1 : decode cX0_become 1 = .ok (.aload_n 1, 1) := by decide +kernel
theorem dX0_become_2 : decode cX0_become 2 = .ok (.getfield 9, 3) := by decide +kernel
theorem dX0_become_5 : decode cX0_become 5 = .ok (.putfield 9, 3) := by decide +kernel
theorem dX0_become_8 : decode cX0_become 8 = .ok (.aload_n 1, 1) := by decide +kernel
theorem dX0_become_9 : decode cX0_become 9 = .ok (.getfield 15, 3) := by decide +kernel
theorem dX0_become_12 : decode cX0_become 12 = .ok (.iconst 0, 1) := by decide +kernel
theorem dX0_become_13 : decode cX0_become 13 = .ok (.aload_n 0, 1) := by decide +kernel
theorem dX0_become_14 : decode cX0_become 14 = .ok (.getfield 15, 3) := by decide +kernel
theorem dX0_become_17 : decode cX0_become 17 = .ok (.iconst 0, 1) := by decide +kernel
theorem dX0_become_18 : decode cX0_become 18 = .ok (.iconst 4, 1) := by decide +kernel
theorem dX0_become_19 : decode cX0_become 19 = .ok (.invokestatic 43, 3) := by decide +kernel
theorem dX0_become_22 : decode cX0_become 22 = .ok (.aload_n 1, 1) := by decide +kernel
theorem dX0_become_23 : decode cX0_become 23 = .ok (.getfield 19, 3) := by decide +kernel
theorem dX0_become_26 : decode cX0_become 26 = .ok (.iconst 0, 1) := by decide +kernel
theorem dX0_become_27 : decode cX0_become 27 = .ok (.aload_n 0, 1) := by decide +kernel
theorem dX0_become_28 : decode cX0_become 28 = .ok (.getfield 19, 3) := by decide +kernel
theorem dX0_become_31 : decode cX0_become 31 = .ok (.iconst 0, 1) := by decide +kernel
theorem dX0_become_32 : decode cX0_become 32 = .ok (.iconst 4, 1) := by decide +kernel
theorem dX0_become_33 : decode cX0_become 33 = .ok (.invokestatic 43, 3) := by decide +kernel
theorem dX0_become_36 : decode cX0_become 36 = .ok (.aload_n 1, 1) := by decide +kernel
theorem dX0_become_37 : decode cX0_become 37 = .ok (.getfield 22, 3) := by decide +kernel
theorem dX0_become_40 : decode cX0_become 40 = .ok (.iconst 0, 1) := by decide +kernel
theorem dX0_become_41 : decode cX0_become 41 = .ok (.aload_n 0, 1) := by decide +kernel
theorem dX0_become_42 : decode cX0_become 42 = .ok (.getfield 22, 3) := by decide +kernel
theorem dX0_become_45 : decode cX0_become 45 = .ok (.iconst 0, 1) := by decide +kernel
theorem dX0_become_46 : decode cX0_become 46 = .ok (.iconst 4, 1) := by decide +kernel
theorem dX0_become_47 : decode cX0_become 47 = .ok (.invokestatic 43, 3) := by decide +kernel
theorem dX0_become_50 : decode cX0_become 50 = .ok (.aload_n 1, 1) := by decide +kernel
theorem dX0_become_51 : decode cX0_become 51 = .ok (.getfield 25, 3) := by decide +kernel
theorem dX0_become_54 : decode cX0_become 54 = .ok (.iconst 0, 1) := by decide +kernel
theorem dX0_become_55 : decode cX0_become 55 = .ok (.aload_n 0, 1) := by decide +kernel
theorem dX0_become_56 : decode cX0_become 56 = .ok (.getfield 25, 3) := by decide +kernel
theorem dX0_become_59 : decode cX0_become 59 = .ok (.iconst 0, 1) := by decide +kernel
theorem dX0_become_60 : decode cX0_become 60 = .ok (.bipush 64, 2) := by decide +kernel
theorem dX0_become_62 : decode cX0_become 62 = .ok (.invokestatic 43, 3) := by decide +kernel
theorem dX0_become_65 : decode cX0_become 65 = .ok (.aload_n 0, 1) := by decide +kernel
theorem dX0_become_66 : decode cX0_become 66 = .ok (.aload_n 1, 1) := by decide +kernel
theorem dX0_become_67 : decode cX0_become 67 = .ok (.getfield 28, 3) := by decide +kernel
theorem dX0_become_70 : decode cX0_become 70 = .ok (.putfield 28, 3) := by decide +kernel
theorem dX0_become_73 : decode cX0_become 73 = .ok (.aload_n 1, 1) := by decide +kernel
theorem dX0_become_74 : decode cX0_become 74 = .ok (.getfield 31, 3) := by decide +kernel
theorem dX0_become_77 : decode cX0_become 77 = .ok (.iconst 0, 1) := by decide +kernel
theorem dX0_become_78 : decode cX0_become 78 = .ok (.aload_n 0, 1) := by decide +kernel
theorem dX0_become_79 : decode cX0_become 79 = .ok (.getfield 31, 3) := by decide +kernel
theorem dX0_become_82 : decode cX0_become 82 = .ok (.iconst 0, 1) := by decide +kernel
theorem dX0_become_83 : decode cX0_become 83 = .ok (.bipush 20, 2) := by decide +kernel
theorem dX0_become_85 : decode cX0_become 85 = .ok (.invokestatic 43, 3) := by decide +kernel
theorem dX0_become_88 : decode cX0_become 88 = .ok (.aload_n 1, 1) := by decide +kernel
theorem dX0_become_89 : decode cX0_become 89 = .ok (.getfield 34, 3) := by decide +kernel
theorem dX0_become_92 : decode cX0_become 92 = .ok (.iconst 0, 1) := by decide +kernel
theorem dX0_become_93 : decode cX0_become 93 = .ok (.aload_n 0, 1) := by decide +kernel
theorem dX0_become_94 : decode cX0_become 94 = .ok (.getfield 34, 3) := by decide +kernel
theorem dX0_become_97 : decode cX0_become 97 = .ok (.iconst 0, 1) := by decide +kernel
theorem dX0_become_98 : decode cX0_become 98 = .ok (.bipush 20, 2) := by decide +kernel
theorem dX0_become_100 : decode cX0_become 100 = .ok (.invokestatic 43, 3) := by decide +kernel
theorem dX0_become_103 : decode cX0_become 103 = .ok (.aload_n 1, 1) := by decide +kernel
theorem dX0_become_104 : decode cX0_become 104 = .ok (.getfield 37, 3) := by decide +kernel
theorem dX0_become_107 : decode cX0_become 107 = .ok (.iconst 0, 1) := by decide +kernel
theorem dX0_become_108 : decode cX0_become 108 = .ok (.aload_n 0, 1) := by decide +kernel
theorem dX0_become_109 : decode cX0_become 109 = .ok (.getfield 37, 3) := by decide +kernel
theorem dX0_become_112 : decode cX0_become 112 = .ok (.iconst 0, 1) := by decide +kernel
theorem dX0_become_113 : decode cX0_become 113 = .ok (.bipush 20, 2) := by decide +kernel
theorem dX0_become_115 : decode cX0_become 115 = .ok (.invokestatic 43, 3) := by decide +kernel
theorem dX0_become_118 : decode cX0_become 118 = .ok (.aload_n 1, 1) := by decide +kernel
theorem dX0_become_119 : decode cX0_become 119 = .ok (.getfield 40, 3) := by decide +kernel
theorem dX0_become_122 : decode cX0_become 122 = .ok (.iconst 0, 1) := by decide +kernel
theorem dX0_become_123 : decode cX0_become 123 = .ok (.aload_n 0, 1) := by decide +kernel
theorem dX0_become_124 : decode cX0_become 124 = .ok (.getfield 40, 3) := by decide +kernel
theorem dX0_become_127 : decode cX0_become 127 = .ok (.iconst 0, 1) := by decide +kernel
theorem dX0_become_128 : decode cX0_become 128 = .ok (.sipush 320, 3) := by decide +kernel
theorem dX0_become_131 : decode cX0_become 131 = .ok (.invokestatic 43, 3) := by decide +kernel
theorem dX0_become_134 : decode cX0_become 134 = .ok (.return_, 1) := by decide +kernel
set_option maxRecDepth 20000 in
theorem ggX0_addLine_X8_firstOnes : GoodIn wsX0_addLine wsX8_firstOnes := goodIn_r _ [13] (by decide +kernel) (by decide +kernel)
set_option maxRecDepth 20000 in
theorem gX0_addLine_X8_firstOnes_n49 : GoodIn wsX0_addLine (wsX8_firstOnes) := ggX0_addLine_X8_firstOnes
theorem dX0_addLine_0 : decode cX0_addLine 0 = .ok (.aload_n 0, 1) := by decide +kernel
theorem dX0_addLine_1 : decode cX0_addLine 1 = .ok (.getfield 9, 3) := by decide +kernel
theorem dX0_addLine_4 : decode cX0_addLine 4 = .ok (.istore_n 3, 1) := by decide +kernel
theorem dX0_addLine_5 : decode cX0_addLine 5 = .ok (.aload_n 0, 1) := by decide +kernel
theorem dX0_addLine_6 : decode cX0_addLine 6 = .ok (.getfield 15, 3) := by decide +kernel
theorem dX0_addLine_9 : decode cX0_addLine 9 = .ok (.iload_n 3, 1) := by decide +kernel
theorem dX0_addLine_10 : decode cX0_addLine 10 = .ok (.iload_n 1, 1) := by decide +kernel
theorem dX0_addLine_11 : decode cX0_addLine 11 = .ok (.iastore, 1) := by decide +kernel
theorem dX0_addLine_12 : decode cX0_addLine 12 = .ok (.aload_n 0, 1) := by decide +kernel
theorem dX0_addLine_13 : decode cX0_addLine 13 = .ok (.getfield 19, 3) := by decide +kernel
theorem dX0_addLine_16 : decode cX0_addLine 16 = .ok (.iload_n 3, 1) := by decide +kernel
theorem dX0_addLine_17 : decode cX0_addLine 17 = .ok (.iload_n 1, 1) := by decide +kernel
theorem dX0_addLine_18 : decode cX0_addLine 18 = .ok (.invokestatic 49, 3) := by decide +kernel
theorem dX0_addLine_21 : decode cX0_addLine 21 = .ok (.iastore, 1) := by decide +kernel
theorem dX0_addLine_22 : decode cX0_addLine 22 = .ok (.aload_n 0, 1) := by decide +kernel
theorem dX0_addLine_23 : decode cX0_addLine 23 = .ok (.getfield 22, 3) := by decide +kernel
theorem dX0_addLine_26 : decode cX0_addLine 26 = .ok (.iload_n 3, 1) := by decide +kernel
theorem dX0_addLine_27 : decode cX0_addLine 27 = .ok (.iconst 0, 1) := by decide +kernel
theorem dX0_addLine_28 : decode cX0_addLine 28 = .ok (.iastore, 1) := by decide +kernel
theorem dX0_addLine_29 : decode cX0_addLine 29 = .ok (.aload_n 2, 1) := by decide +kernel
theorem dX0_addLine_30 : decode cX0_addLine 30 = .ok (.getfield 53, 3) := by decide +kernel
theorem dX0_addLine_33 : decode cX0_addLine 33 = .ok (.iload_n 1, 1) := by decide +kernel
theorem dX0_addLine_34 : decode cX0_addLine 34 = .ok (.bipush 16, 2) := by decide +kernel
theorem dX0_addLine_36 : decode cX0_addLine 36 = .ok (.imul, 1) := by decide +kernel
theorem dX0_addLine_37 : decode cX0_addLine 37 = .ok (.aload_n 0, 1) := by decide +kernel
theorem dX0_addLine_38 : decode cX0_addLine 38 = .ok (.getfield 25, 3) := by decide +kernel
theorem dX0_addLine_41 : decode cX0_addLine 41 = .ok (.iload_n 3, 1) := by decide +kernel
theorem dX0_addLine_42 : decode cX0_addLine 42 = .ok (.bipush 16, 2) := by decide +kernel
theorem dX0_addLine_44 : decode cX0_addLine 44 = .ok (.imul, 1) := by decide +kernel
theorem dX0_addLine_45 : decode cX0_addLine 45 = .ok (.bipush 16, 2) := by decide +kernel
theorem dX0_addLine_47 : decode cX0_addLine 47 = .ok (.invokestatic 43, 3) := by decide +kernel
theorem dX0_addLine_50 : decode cX0_addLine 50 = .ok (.aload_n 0, 1) := by decide +kernel
theorem dX0_addLine_51 : decode cX0_addLine 51 = .ok (.iload_n 3, 1) := by decide +kernel
theorem dX0_addLine_52 : decode cX0_addLine 52 = .ok (.iconst 1, 1) := by decide +kernel
theorem dX0_addLine_53 : decode cX0_addLine 53 = .ok (.iadd, 1) := by decide +kernel
theorem dX0_addLine_54 : decode cX0_addLine 54 = .ok (.putfield 9, 3) := by decide +kernel
theorem dX0_addLine_57 : decode cX0_addLine 57 = .ok (.iload_n 3, 1) := by decide +kernel
theorem dX0_addLine_58 : decode cX0_addLine 58 = .ok (.ireturn, 1) := by decide +kernel
set_option maxRecDepth 20000 in
theorem ggX0_putOn_X7_putOn : GoodIn wsX0_putOn wsX7_putOn := goodIn_r _ [7, 8, 9, 10, 11, 12, 23, 24, 25, 26, 27, 28, 29, 30, 31, 32] (by decide +kernel) (by decide +kernel)
set_option maxRecDepth 20000 in
theorem gX0_putOn_X7_putOn : GoodIn wsX0_putOn (wsV RX0 58 RX7 yX7_putOn wsX7_putOn) := goodIn_app (goodIn_of _ (by decide +kernel)) ggX0_putOn_X7_putOn
theorem dX0_putOn_0 : decode cX0_putOn 0 = .ok (.aload_n 3, 1) := by decide +kernel
theorem dX0_putOn_1 : decode cX0_putOn 1 = .ok (.iload_n 2, 1) := by decide +kernel
theorem dX0_putOn_2 : decode cX0_putOn 2 = .ok (.aload_n 0, 1) := by decide +kernel
theorem dX0_putOn_3 : decode cX0_putOn 3 = .ok (.getfield 25, 3) := by decide +kernel
theorem dX0_putOn_6 : decode cX0_putOn 6 = .ok (.iload_n 1, 1) := by decide +kernel
theorem dX0_putOn_7 : decode cX0_putOn 7 = .ok (.invokevirtual 58, 3) := by decide +kernel
theorem dX0_putOn_10 : decode cX0_putOn 10 = .ok (.aload_n 0, 1) := by decide +kernel
theorem dX0_putOn_11 : decode cX0_putOn 11 = .ok (.getfield 19, 3) := by decide +kernel
theorem dX0_putOn_14 : decode cX0_putOn 14 = .ok (.iload_n 1, 1) := by decide +kernel
theorem dX0_putOn_15 : decode cX0_putOn 15 = .ok (.dup2, 1) := by decide +kernel
theorem dX0_putOn_16 : decode cX0_putOn 16 = .ok (.iaload, 1) := by decide +kernel
theorem dX0_putOn_17 : decode cX0_putOn 17 = .ok (.iconst 1, 1) := by decide +kernel
theorem dX0_putOn_18 : decode cX0_putOn 18 = .ok (.iload_n 2, 1) := by decide +kernel
theorem dX0_putOn_19 : decode cX0_putOn 19 = .ok (.ishl, 1) := by decide +kernel
theorem dX0_putOn_20 : decode cX0_putOn 20 = .ok (.ior, 1) := by decide +kernel
theorem dX0_putOn_21 : decode cX0_putOn 21 = .ok (.iastore, 1) := by decide +kernel
theorem dX0_putOn_22 : decode cX0_putOn 22 = .ok (.return_, 1) := by decide +kernel
set_option maxRecDepth 20000 in
theorem ggX0_takeOff_X7_takeOff : GoodIn wsX0_takeOff wsX7_takeOff := goodIn_r _ [7, 8, 9, 10, 11, 12, 23, 24, 25, 26, 27, 28, 29, 30, 31, 32] (by decide +kernel) (by decide +kernel)
set_option maxRecDepth 20000 in
theorem gX0_takeOff_X7_takeOff : GoodIn wsX0_takeOff (wsV RX0 62 RX7 yX7_takeOff wsX7_takeOff) := goodIn_app (goodIn_of _ (by decide +kernel)) ggX0_takeOff_X7_takeOff
theorem dX0_takeOff_0 : decode cX0_takeOff 0 = .ok (.aload_n 3, 1) := by decide +kernel
theorem dX0_takeOff_1 : decode cX0_takeOff 1 = .ok (.iload_n 2, 1) := by decide +kernel
theorem dX0_takeOff_2 : decode cX0_takeOff 2 = .ok (.aload_n 0, 1) := by decide +kernel
theorem dX0_takeOff_3 : decode cX0_takeOff 3 = .ok (.getfield 25, 3) := by decide +kernel
theorem dX0_takeOff_6 : decode cX0_takeOff 6 = .ok (.iload_n 1, 1) := by decide +kernel
theorem dX0_takeOff_7 : decode cX0_takeOff 7 = .ok (.invokevirtual 62, 3) := by decide +kernel
theorem dX0_takeOff_10 : decode cX0_takeOff 10 = .ok (.aload_n 0, 1) := by decide +kernel
theorem dX0_takeOff_11 : decode cX0_takeOff 11 = .ok (.getfield 19, 3) := by decide +kernel
theorem dX0_takeOff_14 : decode cX0_takeOff 14 = .ok (.iload_n 1, 1) := by decide +kernel
theorem dX0_takeOff_15 : decode cX0_takeOff 15 = .ok (.dup2, 1) := by decide +kernel
theorem dX0_takeOff_16 : decode cX0_takeOff 16 = .ok (.iaload, 1) := by decide +kernel
theorem dX0_takeOff_17 : decode cX0_takeOff 17 = .ok (.iconst 1, 1) := by decide +kernel
theorem dX0_takeOff_18 : decode cX0_takeOff 18 = .ok (.iload_n 2, 1) := by decide +kernel
theorem dX0_takeOff_19 : decode cX0_takeOff 19 = .ok (.ishl, 1) := by decide +kernel
theorem dX0_takeOff_20 : decode cX0_takeOff 20 = .ok (.iconst (-1), 1) := by decide +kernel
theorem dX0_takeOff_21 : decode cX0_takeOff 21 = .ok (.ixor, 1) := by decide +kernel
theorem dX0_takeOff_22 : decode cX0_takeOff 22 = .ok (.iand, 1) := by decide +kernel
theorem dX0_takeOff_23 : decode cX0_takeOff 23 = .ok (.iastore, 1) := by decide +kernel
theorem dX0_takeOff_24 : decode cX0_takeOff 24 = .ok (.return_, 1) := by decide +kernel
theorem dX0_lastDay_0 : decode cX0_lastDay 0 = .ok (.aload_n 0, 1) := by decide +kernel
theorem dX0_lastDay_1 : decode cX0_lastDay 1 = .ok (.getfield 28, 3) := by decide +kernel
theorem dX0_lastDay_4 : decode cX0_lastDay 4 = .ok (.ifCond .ne 7, 3) := by decide +kernel
theorem dX0_lastDay_7 : decode cX0_lastDay 7 = .ok (.iconst 0, 1) := by decide +kernel
theorem dX0_lastDay_8 : decode cX0_lastDay 8 = .ok (.goto 14, 3) := by decide +kernel
theorem dX0_lastDay_11 : decode cX0_lastDay 11 = .ok (.aload_n 0, 1) := by decide +kernel
theorem dX0_lastDay_12 : decode cX0_lastDay 12 = .ok (.getfield 34, 3) := by decide +kernel
theorem dX0_lastDay_15 : decode cX0_lastDay 15 = .ok (.aload_n 0, 1) := by decide +kernel
theorem dX0_lastDay_16 : decode cX0_lastDay 16 = .ok (.getfield 28, 3) := by decide +kernel
theorem dX0_lastDay_19 : decode cX0_lastDay 19 = .ok (.iconst 1, 1) := by decide +kernel
theorem dX0_lastDay_20 : decode cX0_lastDay 20 = .ok (.isub, 1) := by decide +kernel
theorem dX0_lastDay_21 : decode cX0_lastDay 21 = .ok (.iaload, 1) := by decide +kernel
theorem dX0_lastDay_22 : decode cX0_lastDay 22 = .ok (.ireturn, 1) := by decide +kernel
theorem dX0_addRelease_0 : decode cX0_addRelease 0 = .ok (.aload_n 0, 1) := by decide +kernel
theorem dX0_addRelease_1 : decode cX0_addRelease 1 = .ok (.getfield 28, 3) := by decide +kernel
theorem dX0_addRelease_4 : decode cX0_addRelease 4 = .ok (.istore_n 3, 1) := by decide +kernel
theorem dX0_addRelease_5 : decode cX0_addRelease 5 = .ok (.aload_n 0, 1) := by decide +kernel
theorem dX0_addRelease_6 : decode cX0_addRelease 6 = .ok (.getfield 31, 3) := by decide +kernel
theorem dX0_addRelease_9 : decode cX0_addRelease 9 = .ok (.iload_n 3, 1) := by decide +kernel
theorem dX0_addRelease_10 : decode cX0_addRelease 10 = .ok (.iload_n 1, 1) := by decide +kernel
theorem dX0_addRelease_11 : decode cX0_addRelease 11 = .ok (.iastore, 1) := by decide +kernel
theorem dX0_addRelease_12 : decode cX0_addRelease 12 = .ok (.aload_n 0, 1) := by decide +kernel
theorem dX0_addRelease_13 : decode cX0_addRelease 13 = .ok (.getfield 34, 3) := by decide +kernel
theorem dX0_addRelease_16 : decode cX0_addRelease 16 = .ok (.iload_n 3, 1) := by decide +kernel
theorem dX0_addRelease_17 : decode cX0_addRelease 17 = .ok (.iload_n 2, 1) := by decide +kernel
theorem dX0_addRelease_18 : decode cX0_addRelease 18 = .ok (.iastore, 1) := by decide +kernel
theorem dX0_addRelease_19 : decode cX0_addRelease 19 = .ok (.aload_n 0, 1) := by decide +kernel
theorem dX0_addRelease_20 : decode cX0_addRelease 20 = .ok (.getfield 37, 3) := by decide +kernel
theorem dX0_addRelease_23 : decode cX0_addRelease 23 = .ok (.iload_n 3, 1) := by decide +kernel
theorem dX0_addRelease_24 : decode cX0_addRelease 24 = .ok (.aload_n 0, 1) := by decide +kernel
theorem dX0_addRelease_25 : decode cX0_addRelease 25 = .ok (.getfield 19, 3) := by decide +kernel
theorem dX0_addRelease_28 : decode cX0_addRelease 28 = .ok (.iload_n 1, 1) := by decide +kernel
theorem dX0_addRelease_29 : decode cX0_addRelease 29 = .ok (.iaload, 1) := by decide +kernel
theorem dX0_addRelease_30 : decode cX0_addRelease 30 = .ok (.iastore, 1) := by decide +kernel
theorem dX0_addRelease_31 : decode cX0_addRelease 31 = .ok (.aload_n 0, 1) := by decide +kernel
theorem dX0_addRelease_32 : decode cX0_addRelease 32 = .ok (.getfield 25, 3) := by decide +kernel
theorem dX0_addRelease_35 : decode cX0_addRelease 35 = .ok (.iload_n 1, 1) := by decide +kernel
theorem dX0_addRelease_36 : decode cX0_addRelease 36 = .ok (.bipush 16, 2) := by decide +kernel
theorem dX0_addRelease_38 : decode cX0_addRelease 38 = .ok (.imul, 1) := by decide +kernel
theorem dX0_addRelease_39 : decode cX0_addRelease 39 = .ok (.aload_n 0, 1) := by decide +kernel
theorem dX0_addRelease_40 : decode cX0_addRelease 40 = .ok (.getfield 40, 3) := by decide +kernel
theorem dX0_addRelease_43 : decode cX0_addRelease 43 = .ok (.iload_n 3, 1) := by decide +kernel
theorem dX0_addRelease_44 : decode cX0_addRelease 44 = .ok (.bipush 16, 2) := by decide +kernel
theorem dX0_addRelease_46 : decode cX0_addRelease 46 = .ok (.imul, 1) := by decide +kernel
theorem dX0_addRelease_47 : decode cX0_addRelease 47 = .ok (.bipush 16, 2) := by decide +kernel
theorem dX0_addRelease_49 : decode cX0_addRelease 49 = .ok (.invokestatic 43, 3) := by decide +kernel
theorem dX0_addRelease_52 : decode cX0_addRelease 52 = .ok (.aload_n 0, 1) := by decide +kernel
theorem dX0_addRelease_53 : decode cX0_addRelease 53 = .ok (.iload_n 3, 1) := by decide +kernel
theorem dX0_addRelease_54 : decode cX0_addRelease 54 = .ok (.iconst 1, 1) := by decide +kernel
theorem dX0_addRelease_55 : decode cX0_addRelease 55 = .ok (.iadd, 1) := by decide +kernel
theorem dX0_addRelease_56 : decode cX0_addRelease 56 = .ok (.putfield 28, 3) := by decide +kernel
theorem dX0_addRelease_59 : decode cX0_addRelease 59 = .ok (.iload_n 3, 1) := by decide +kernel
theorem dX0_addRelease_60 : decode cX0_addRelease 60 = .ok (.ireturn, 1) := by decide +kernel
theorem dX0_nextOfLine_0 : decode cX0_nextOfLine 0 = .ok (.iload_n 1, 1) := by decide +kernel
theorem dX0_nextOfLine_1 : decode cX0_nextOfLine 1 = .ok (.iconst 1, 1) := by decide +kernel
theorem dX0_nextOfLine_2 : decode cX0_nextOfLine 2 = .ok (.iadd, 1) := by decide +kernel
theorem dX0_nextOfLine_3 : decode cX0_nextOfLine 3 = .ok (.istore_n 2, 1) := by decide +kernel
theorem dX0_nextOfLine_4 : decode cX0_nextOfLine 4 = .ok (.iload_n 2, 1) := by decide +kernel
theorem dX0_nextOfLine_5 : decode cX0_nextOfLine 5 = .ok (.aload_n 0, 1) := by decide +kernel
theorem dX0_nextOfLine_6 : decode cX0_nextOfLine 6 = .ok (.getfield 28, 3) := by decide +kernel
theorem dX0_nextOfLine_9 : decode cX0_nextOfLine 9 = .ok (.if_icmp .ge 26, 3) := by decide +kernel
theorem dX0_nextOfLine_12 : decode cX0_nextOfLine 12 = .ok (.aload_n 0, 1) := by decide +kernel
theorem dX0_nextOfLine_13 : decode cX0_nextOfLine 13 = .ok (.getfield 31, 3) := by decide +kernel
theorem dX0_nextOfLine_16 : decode cX0_nextOfLine 16 = .ok (.iload_n 2, 1) := by decide +kernel
theorem dX0_nextOfLine_17 : decode cX0_nextOfLine 17 = .ok (.iaload, 1) := by decide +kernel
theorem dX0_nextOfLine_18 : decode cX0_nextOfLine 18 = .ok (.aload_n 0, 1) := by decide +kernel
theorem dX0_nextOfLine_19 : decode cX0_nextOfLine 19 = .ok (.getfield 31, 3) := by decide +kernel
theorem dX0_nextOfLine_22 : decode cX0_nextOfLine 22 = .ok (.iload_n 1, 1) := by decide +kernel
theorem dX0_nextOfLine_23 : decode cX0_nextOfLine 23 = .ok (.iaload, 1) := by decide +kernel
theorem dX0_nextOfLine_24 : decode cX0_nextOfLine 24 = .ok (.if_icmp .ne 5, 3) := by decide +kernel
theorem dX0_nextOfLine_27 : decode cX0_nextOfLine 27 = .ok (.iload_n 2, 1) := by decide +kernel
theorem dX0_nextOfLine_28 : decode cX0_nextOfLine 28 = .ok (.ireturn, 1) := by decide +kernel
theorem dX0_nextOfLine_29 : decode cX0_nextOfLine 29 = .ok (.iinc 2 1, 3) := by decide +kernel
theorem dX0_nextOfLine_32 : decode cX0_nextOfLine 32 = .ok (.goto (-28), 3) := by decide +kernel
theorem dX0_nextOfLine_35 : decode cX0_nextOfLine 35 = .ok (.iconst (-1), 1) := by decide +kernel
theorem dX0_nextOfLine_36 : decode cX0_nextOfLine 36 = .ok (.ireturn, 1) := by decide +kernel
theorem dX1_init_0 : decode cX1_init 0 = .ok (.aload_n 0, 1) := by decide +kernel
theorem dX1_init_1 : decode cX1_init 1 = .ok (.invokespecial 3, 3) := by decide +kernel
theorem dX1_init_4 : decode cX1_init 4 = .ok (.aload_n 0, 1) := by decide +kernel
theorem dX1_init_5 : decode cX1_init 5 = .ok (.iconst 0, 1) := by decide +kernel
theorem dX1_init_6 : decode cX1_init 6 = .ok (.putfield 9, 3) := by decide +kernel
theorem dX1_init_9 : decode cX1_init 9 = .ok (.aload_n 0, 1) := by decide +kernel
theorem dX1_init_10 : decode cX1_init 10 = .ok (.bipush 10, 2) := by decide +kernel
theorem dX1_init_12 : decode cX1_init 12 = .ok (.newarray .int, 2) := by decide +kernel
theorem dX1_init_14 : decode cX1_init 14 = .ok (.putfield 15, 3) := by decide +kernel
theorem dX1_init_17 : decode cX1_init 17 = .ok (.aload_n 0, 1) := by decide +kernel
theorem dX1_init_18 : decode cX1_init 18 = .ok (.iconst 0, 1) := by decide +kernel
theorem dX1_init_19 : decode cX1_init 19 = .ok (.putfield 19, 3) := by decide +kernel
theorem dX1_init_22 : decode cX1_init 22 = .ok (.aload_n 0, 1) := by decide +kernel
theorem dX1_init_23 : decode cX1_init 23 = .ok (.iconst 0, 1) := by decide +kernel
theorem dX1_init_24 : decode cX1_init 24 = .ok (.putfield 22, 3) := by decide +kernel
theorem dX1_init_27 : decode cX1_init 27 = .ok (.aload_n 0, 1) := by decide +kernel
theorem dX1_init_28 : decode cX1_init 28 = .ok (.iconst 0, 1) := by decide +kernel
theorem dX1_init_29 : decode cX1_init 29 = .ok (.putfield 25, 3) := by decide +kernel
theorem dX1_init_32 : decode cX1_init 32 = .ok (.aload_n 0, 1) := by decide +kernel
theorem dX1_init_33 : decode cX1_init 33 = .ok (.iconst 0, 1) := by decide +kernel
theorem dX1_init_34 : decode cX1_init 34 = .ok (.putfield 28, 3) := by decide +kernel
theorem dX1_init_37 : decode cX1_init 37 = .ok (.aload_n 0, 1) := by decide +kernel
theorem dX1_init_38 : decode cX1_init 38 = .ok (.aload_n 1, 1) := by decide +kernel
theorem dX1_init_39 : decode cX1_init 39 = .ok (.putfield 31, 3) := by decide +kernel
theorem dX1_init_42 : decode cX1_init 42 = .ok (.aload_n 0, 1) := by decide +kernel
theorem dX1_init_43 : decode cX1_init 43 = .ok (.aload_n 2, 1) := by decide +kernel
theorem dX1_init_44 : decode cX1_init 44 = .ok (.putfield 35, 3) := by decide +kernel
theorem dX1_init_47 : decode cX1_init 47 = .ok (.return_, 1) := by decide +kernel
set_option maxRecDepth 20000 in
theorem ggX1_lookAt_X7_faultsIn : GoodIn wsX1_lookAt wsX7_faultsIn := goodIn_r _ [13, 14, 15, 16, 17, 18, 19, 20, 21, 12, 22, 23, 89, 90, 91, 92, 93, 94, 95, 96, 97, 98] (by decide +kernel) (by decide +kernel)
set_option maxRecDepth 20000 in
theorem gX1_lookAt_X7_faultsIn : GoodIn wsX1_lookAt (wsV RX1 50 RX7 yX7_faultsIn wsX7_faultsIn) := goodIn_app (goodIn_of _ (by decide +kernel)) ggX1_lookAt_X7_faultsIn
set_option maxRecDepth 20000 in
theorem ggX1_lookAt_X8_has : GoodIn wsX1_lookAt wsX8_has := goodIn_r _ [18] (by decide +kernel) (by decide +kernel)
set_option maxRecDepth 20000 in
theorem gX1_lookAt_X8_has_n62 : GoodIn wsX1_lookAt (wsX8_has) := ggX1_lookAt_X8_has
set_option maxRecDepth 20000 in
theorem ggX1_lookAt_X2_needsOf : GoodIn wsX1_lookAt wsX2_needsOf := goodIn_r _ [28, 29, 30, 31, 32, 16, 17, 18, 33, 34, 35, 12, 36, 37, 38, 39, 40, 41, 42, 27, 43, 44, 45, 46, 47, 48, 49, 50, 51, 52, 53, 54, 55, 56, 57, 58, 59, 60, 61, 62, 63, 64, 65, 66, 75, 76, 77, 78, 79, 80, 81, 82, 83, 84, 85, 86, 87, 88, 89, 90, 91, 92, 93, 94, 95, 96, 97, 98] (by decide +kernel) (by decide +kernel)
set_option maxRecDepth 20000 in
theorem gX1_lookAt_X2_needsOf : GoodIn wsX1_lookAt (wsV RX1 66 RX2 yX2_needsOf wsX2_needsOf) := goodIn_app (goodIn_of _ (by decide +kernel)) ggX1_lookAt_X2_needsOf
theorem dX1_lookAt_0 : decode cX1_lookAt 0 = .ok (.aload_n 0, 1) := by decide +kernel
theorem dX1_lookAt_1 : decode cX1_lookAt 1 = .ok (.iload_n 1, 1) := by decide +kernel
theorem dX1_lookAt_2 : decode cX1_lookAt 2 = .ok (.putfield 9, 3) := by decide +kernel
theorem dX1_lookAt_5 : decode cX1_lookAt 5 = .ok (.aload_n 0, 1) := by decide +kernel
theorem dX1_lookAt_6 : decode cX1_lookAt 6 = .ok (.iconst 0, 1) := by decide +kernel
theorem dX1_lookAt_7 : decode cX1_lookAt 7 = .ok (.putfield 19, 3) := by decide +kernel
theorem dX1_lookAt_10 : decode cX1_lookAt 10 = .ok (.aload_n 0, 1) := by decide +kernel
theorem dX1_lookAt_11 : decode cX1_lookAt 11 = .ok (.getfield 31, 3) := by decide +kernel
theorem dX1_lookAt_14 : decode cX1_lookAt 14 = .ok (.aload_n 0, 1) := by decide +kernel
theorem dX1_lookAt_15 : decode cX1_lookAt 15 = .ok (.getfield 35, 3) := by decide +kernel
theorem dX1_lookAt_18 : decode cX1_lookAt 18 = .ok (.getfield 39, 3) := by decide +kernel
theorem dX1_lookAt_21 : decode cX1_lookAt 21 = .ok (.getfield 45, 3) := by decide +kernel
theorem dX1_lookAt_24 : decode cX1_lookAt 24 = .ok (.iload_n 1, 1) := by decide +kernel
theorem dX1_lookAt_25 : decode cX1_lookAt 25 = .ok (.iaload, 1) := by decide +kernel
theorem dX1_lookAt_26 : decode cX1_lookAt 26 = .ok (.invokevirtual 50, 3) := by decide +kernel
theorem dX1_lookAt_29 : decode cX1_lookAt 29 = .ok (.iload_n 2, 1) := by decide +kernel
theorem dX1_lookAt_30 : decode cX1_lookAt 30 = .ok (.iand, 1) := by decide +kernel
theorem dX1_lookAt_31 : decode cX1_lookAt 31 = .ok (.istore_n 3, 1) := by decide +kernel
theorem dX1_lookAt_32 : decode cX1_lookAt 32 = .ok (.iconst 0, 1) := by decide +kernel
theorem dX1_lookAt_33 : decode cX1_lookAt 33 = .ok (.istore 4, 2) := by decide +kernel
theorem dX1_lookAt_35 : decode cX1_lookAt 35 = .ok (.iload 4, 2) := by decide +kernel
theorem dX1_lookAt_37 : decode cX1_lookAt 37 = .ok (.aload_n 0, 1) := by decide +kernel
theorem dX1_lookAt_38 : decode cX1_lookAt 38 = .ok (.getfield 31, 3) := by decide +kernel
theorem dX1_lookAt_41 : decode cX1_lookAt 41 = .ok (.getfield 56, 3) := by decide +kernel
theorem dX1_lookAt_44 : decode cX1_lookAt 44 = .ok (.if_icmp .ge 104, 3) := by decide +kernel
theorem dX1_lookAt_47 : decode cX1_lookAt 47 = .ok (.aload_n 0, 1) := by decide +kernel
theorem dX1_lookAt_48 : decode cX1_lookAt 48 = .ok (.getfield 31, 3) := by decide +kernel
theorem dX1_lookAt_51 : decode cX1_lookAt 51 = .ok (.getfield 59, 3) := by decide +kernel
theorem dX1_lookAt_54 : decode cX1_lookAt 54 = .ok (.iload 4, 2) := by decide +kernel
theorem dX1_lookAt_56 : decode cX1_lookAt 56 = .ok (.iaload, 1) := by decide +kernel
theorem dX1_lookAt_57 : decode cX1_lookAt 57 = .ok (.istore 5, 2) := by decide +kernel
theorem dX1_lookAt_59 : decode cX1_lookAt 59 = .ok (.aload_n 0, 1) := by decide +kernel
theorem dX1_lookAt_60 : decode cX1_lookAt 60 = .ok (.getfield 15, 3) := by decide +kernel
theorem dX1_lookAt_63 : decode cX1_lookAt 63 = .ok (.iload 4, 2) := by decide +kernel
theorem dX1_lookAt_65 : decode cX1_lookAt 65 = .ok (.iconst (-1), 1) := by decide +kernel
theorem dX1_lookAt_66 : decode cX1_lookAt 66 = .ok (.iastore, 1) := by decide +kernel
theorem dX1_lookAt_67 : decode cX1_lookAt 67 = .ok (.iload_n 3, 1) := by decide +kernel
theorem dX1_lookAt_68 : decode cX1_lookAt 68 = .ok (.iload 4, 2) := by decide +kernel
theorem dX1_lookAt_70 : decode cX1_lookAt 70 = .ok (.invokestatic 62, 3) := by decide +kernel
theorem dX1_lookAt_73 : decode cX1_lookAt 73 = .ok (.ifCond .eq 45, 3) := by decide +kernel
theorem dX1_lookAt_76 : decode cX1_lookAt 76 = .ok (.iload 5, 2) := by decide +kernel
theorem dX1_lookAt_78 : decode cX1_lookAt 78 = .ok (.iconst (-1), 1) := by decide +kernel
theorem dX1_lookAt_79 : decode cX1_lookAt 79 = .ok (.if_icmp .eq 39, 3) := by decide +kernel
theorem dX1_lookAt_82 : decode cX1_lookAt 82 = .ok (.aload_n 0, 1) := by decide +kernel
theorem dX1_lookAt_83 : decode cX1_lookAt 83 = .ok (.getfield 35, 3) := by decide +kernel
theorem dX1_lookAt_86 : decode cX1_lookAt 86 = .ok (.iload_n 1, 1) := by decide +kernel
theorem dX1_lookAt_87 : decode cX1_lookAt 87 = .ok (.iload 5, 2) := by decide +kernel
theorem dX1_lookAt_89 : decode cX1_lookAt 89 = .ok (.invokevirtual 66, 3) := by decide +kernel
theorem dX1_lookAt_92 : decode cX1_lookAt 92 = .ok (.istore 6, 2) := by decide +kernel
theorem dX1_lookAt_94 : decode cX1_lookAt 94 = .ok (.aload_n 0, 1) := by decide +kernel
theorem dX1_lookAt_95 : decode cX1_lookAt 95 = .ok (.getfield 15, 3) := by decide +kernel
theorem dX1_lookAt_98 : decode cX1_lookAt 98 = .ok (.iload 4, 2) := by decide +kernel
theorem dX1_lookAt_100 : decode cX1_lookAt 100 = .ok (.iload 6, 2) := by decide +kernel
theorem dX1_lookAt_102 : decode cX1_lookAt 102 = .ok (.iconst (-1), 1) := by decide +kernel
theorem dX1_lookAt_103 : decode cX1_lookAt 103 = .ok (.if_icmp .ne 7, 3) := by decide +kernel
theorem dX1_lookAt_106 : decode cX1_lookAt 106 = .ok (.iconst (-1), 1) := by decide +kernel
theorem dX1_lookAt_107 : decode cX1_lookAt 107 = .ok (.goto 10, 3) := by decide +kernel
theorem dX1_lookAt_110 : decode cX1_lookAt 110 = .ok (.iload 6, 2) := by decide +kernel
theorem dX1_lookAt_112 : decode cX1_lookAt 112 = .ok (.iconst 1, 1) := by decide +kernel
theorem dX1_lookAt_113 : decode cX1_lookAt 113 = .ok (.iload 5, 2) := by decide +kernel
theorem dX1_lookAt_115 : decode cX1_lookAt 115 = .ok (.ishl, 1) := by decide +kernel
theorem dX1_lookAt_116 : decode cX1_lookAt 116 = .ok (.ior, 1) := by decide +kernel
theorem dX1_lookAt_117 : decode cX1_lookAt 117 = .ok (.iastore, 1) := by decide +kernel
theorem dX1_lookAt_118 : decode cX1_lookAt 118 = .ok (.aload_n 0, 1) := by decide +kernel
theorem dX1_lookAt_119 : decode cX1_lookAt 119 = .ok (.getfield 15, 3) := by decide +kernel
theorem dX1_lookAt_122 : decode cX1_lookAt 122 = .ok (.iload 4, 2) := by decide +kernel
theorem dX1_lookAt_124 : decode cX1_lookAt 124 = .ok (.iaload, 1) := by decide +kernel
theorem dX1_lookAt_125 : decode cX1_lookAt 125 = .ok (.iconst (-1), 1) := by decide +kernel
theorem dX1_lookAt_126 : decode cX1_lookAt 126 = .ok (.if_icmp .eq 16, 3) := by decide +kernel
theorem dX1_lookAt_129 : decode cX1_lookAt 129 = .ok (.aload_n 0, 1) := by decide +kernel
theorem dX1_lookAt_130 : decode cX1_lookAt 130 = .ok (.dup, 1) := by decide +kernel
theorem dX1_lookAt_131 : decode cX1_lookAt 131 = .ok (.getfield 19, 3) := by decide +kernel
theorem dX1_lookAt_134 : decode cX1_lookAt 134 = .ok (.iconst 1, 1) := by decide +kernel
theorem dX1_lookAt_135 : decode cX1_lookAt 135 = .ok (.iload 4, 2) := by decide +kernel
theorem dX1_lookAt_137 : decode cX1_lookAt 137 = .ok (.ishl, 1) := by decide +kernel
theorem dX1_lookAt_138 : decode cX1_lookAt 138 = .ok (.ior, 1) := by decide +kernel
theorem dX1_lookAt_139 : decode cX1_lookAt 139 = .ok (.putfield 19, 3) := by decide +kernel
theorem dX1_lookAt_142 : decode cX1_lookAt 142 = .ok (.iinc 4 1, 3) := by decide +kernel
theorem dX1_lookAt_145 : decode cX1_lookAt 145 = .ok (.goto (-110), 3) := by decide +kernel
theorem dX1_lookAt_148 : decode cX1_lookAt 148 = .ok (.return_, 1) := by decide +kernel
set_option maxRecDepth 20000 in
theorem ggX1_allFixes_X8_has : GoodIn wsX1_allFixes wsX8_has := goodIn_r _ [6] (by decide +kernel) (by decide +kernel)
set_option maxRecDepth 20000 in
theorem gX1_allFixes_X8_has_n62 : GoodIn wsX1_allFixes (wsX8_has) := ggX1_allFixes_X8_has
theorem dX1_allFixes_0 : decode cX1_allFixes 0 = .ok (.iconst 0, 1) := by decide +kernel
theorem dX1_allFixes_1 : decode cX1_allFixes 1 = .ok (.istore_n 2, 1) := by decide +kernel
theorem dX1_allFixes_2 : decode cX1_allFixes 2 = .ok (.iconst 0, 1) := by decide +kernel
theorem dX1_allFixes_3 : decode cX1_allFixes 3 = .ok (.istore_n 3, 1) := by decide +kernel
theorem dX1_allFixes_4 : decode cX1_allFixes 4 = .ok (.iload_n 3, 1) := by decide +kernel
theorem dX1_allFixes_5 : decode cX1_allFixes 5 = .ok (.aload_n 0, 1) := by decide +kernel
theorem dX1_allFixes_6 : decode cX1_allFixes 6 = .ok (.getfield 31, 3) := by decide +kernel
theorem dX1_allFixes_9 : decode cX1_allFixes 9 = .ok (.getfield 56, 3) := by decide +kernel
theorem dX1_allFixes_12 : decode cX1_allFixes 12 = .ok (.if_icmp .ge 26, 3) := by decide +kernel
theorem dX1_allFixes_15 : decode cX1_allFixes 15 = .ok (.iload_n 1, 1) := by decide +kernel
theorem dX1_allFixes_16 : decode cX1_allFixes 16 = .ok (.iload_n 3, 1) := by decide +kernel
theorem dX1_allFixes_17 : decode cX1_allFixes 17 = .ok (.invokestatic 62, 3) := by decide +kernel
theorem dX1_allFixes_20 : decode cX1_allFixes 20 = .ok (.ifCond .eq 12, 3) := by decide +kernel
theorem dX1_allFixes_23 : decode cX1_allFixes 23 = .ok (.iload_n 2, 1) := by decide +kernel
theorem dX1_allFixes_24 : decode cX1_allFixes 24 = .ok (.aload_n 0, 1) := by decide +kernel
theorem dX1_allFixes_25 : decode cX1_allFixes 25 = .ok (.getfield 15, 3) := by decide +kernel
theorem dX1_allFixes_28 : decode cX1_allFixes 28 = .ok (.iload_n 3, 1) := by decide +kernel
theorem dX1_allFixes_29 : decode cX1_allFixes 29 = .ok (.iaload, 1) := by decide +kernel
theorem dX1_allFixes_30 : decode cX1_allFixes 30 = .ok (.ior, 1) := by decide +kernel
theorem dX1_allFixes_31 : decode cX1_allFixes 31 = .ok (.istore_n 2, 1) := by decide +kernel
theorem dX1_allFixes_32 : decode cX1_allFixes 32 = .ok (.iinc 3 1, 3) := by decide +kernel
theorem dX1_allFixes_35 : decode cX1_allFixes 35 = .ok (.goto (-31), 3) := by decide +kernel
theorem dX1_allFixes_38 : decode cX1_allFixes 38 = .ok (.iload_n 2, 1) := by decide +kernel
theorem dX1_allFixes_39 : decode cX1_allFixes 39 = .ok (.ireturn, 1) := by decide +kernel
set_option maxRecDepth 20000 in
theorem ggX1_costOf_X1_allFixes : GoodIn wsX1_costOf wsX1_allFixes := goodIn_r _ [8, 9, 10, 11, 12, 13, 14, 46, 47, 48, 49, 50, 51, 52, 53, 54, 55, 56, 57, 58, 59, 60, 61, 62, 63] (by decide +kernel) (by decide +kernel)
set_option maxRecDepth 20000 in
theorem gX1_costOf_X1_allFixes : GoodIn wsX1_costOf (wsV RX1 70 RX1 yX1_allFixes wsX1_allFixes) := goodIn_app (goodIn_of _ (by decide +kernel)) ggX1_costOf_X1_allFixes
set_option maxRecDepth 20000 in
theorem ggX1_costOf_X2_allGoOn : GoodIn wsX1_costOf wsX2_allGoOn := goodIn_r _ [19, 20, 21, 22, 23, 24, 25, 18, 26, 27, 28, 29, 30, 31, 32, 12, 13, 14, 33, 34, 35, 36, 37, 38, 39, 40, 41, 42, 43, 44, 45, 64, 65, 66, 67, 54, 55, 56, 57, 58, 59, 60, 61, 62, 63, 68, 69, 70, 71, 72, 73, 74, 75, 76, 77] (by decide +kernel) (by decide +kernel)
set_option maxRecDepth 20000 in
theorem gX1_costOf_X2_allGoOn : GoodIn wsX1_costOf (wsV RX1 73 RX2 yX2_allGoOn wsX2_allGoOn) := goodIn_app (goodIn_of _ (by decide +kernel)) ggX1_costOf_X2_allGoOn
theorem dX1_costOf_0 : decode cX1_costOf 0 = .ok (.iload_n 1, 1) := by decide +kernel
theorem dX1_costOf_1 : decode cX1_costOf 1 = .ok (.aload_n 0, 1) := by decide +kernel
theorem dX1_costOf_2 : decode cX1_costOf 2 = .ok (.getfield 19, 3) := by decide +kernel
theorem dX1_costOf_5 : decode cX1_costOf 5 = .ok (.iconst (-1), 1) := by decide +kernel
theorem dX1_costOf_6 : decode cX1_costOf 6 = .ok (.ixor, 1) := by decide +kernel
theorem dX1_costOf_7 : decode cX1_costOf 7 = .ok (.iand, 1) := by decide +kernel
theorem dX1_costOf_8 : decode cX1_costOf 8 = .ok (.ifCond .eq 5, 3) := by decide +kernel
theorem dX1_costOf_11 : decode cX1_costOf 11 = .ok (.iconst (-1), 1) := by decide +kernel
theorem dX1_costOf_12 : decode cX1_costOf 12 = .ok (.ireturn, 1) := by decide +kernel
theorem dX1_costOf_13 : decode cX1_costOf 13 = .ok (.aload_n 0, 1) := by decide +kernel
theorem dX1_costOf_14 : decode cX1_costOf 14 = .ok (.iload_n 1, 1) := by decide +kernel
theorem dX1_costOf_15 : decode cX1_costOf 15 = .ok (.invokevirtual 70, 3) := by decide +kernel
theorem dX1_costOf_18 : decode cX1_costOf 18 = .ok (.istore_n 2, 1) := by decide +kernel
theorem dX1_costOf_19 : decode cX1_costOf 19 = .ok (.aload_n 0, 1) := by decide +kernel
theorem dX1_costOf_20 : decode cX1_costOf 20 = .ok (.getfield 35, 3) := by decide +kernel
theorem dX1_costOf_23 : decode cX1_costOf 23 = .ok (.aload_n 0, 1) := by decide +kernel
theorem dX1_costOf_24 : decode cX1_costOf 24 = .ok (.getfield 9, 3) := by decide +kernel
theorem dX1_costOf_27 : decode cX1_costOf 27 = .ok (.iload_n 2, 1) := by decide +kernel
theorem dX1_costOf_28 : decode cX1_costOf 28 = .ok (.invokevirtual 73, 3) := by decide +kernel
theorem dX1_costOf_31 : decode cX1_costOf 31 = .ok (.ifCond .eq 7, 3) := by decide +kernel
theorem dX1_costOf_34 : decode cX1_costOf 34 = .ok (.iload_n 2, 1) := by decide +kernel
theorem dX1_costOf_35 : decode cX1_costOf 35 = .ok (.goto 4, 3) := by decide +kernel
theorem dX1_costOf_38 : decode cX1_costOf 38 = .ok (.iconst (-1), 1) := by decide +kernel
theorem dX1_costOf_39 : decode cX1_costOf 39 = .ok (.ireturn, 1) := by decide +kernel
set_option maxRecDepth 20000 in
theorem ggX1_findBest_X8_firstOnes : GoodIn wsX1_findBest wsX8_firstOnes := goodIn_r _ [9] (by decide +kernel) (by decide +kernel)
set_option maxRecDepth 20000 in
theorem gX1_findBest_X8_firstOnes_n76 : GoodIn wsX1_findBest (wsX8_firstOnes) := ggX1_findBest_X8_firstOnes
set_option maxRecDepth 20000 in
theorem ggX1_findBest_X1_wouldBeBetter : GoodIn wsX1_findBest wsX1_wouldBeBetter := goodIn_r _ [14, 4, 2, 3, 15, 16, 17, 18, 19, 20, 21, 22, 8, 23, 24, 25, 26, 13, 27, 5, 28, 29, 30, 31, 32, 33, 34, 35, 36, 37, 38, 39, 40, 41, 78, 79, 80, 81, 82, 83, 84, 85, 86, 87, 88, 89, 90, 91, 92, 93, 94, 95] (by decide +kernel) (by decide +kernel)
set_option maxRecDepth 20000 in
theorem gX1_findBest_X1_wouldBeBetter : GoodIn wsX1_findBest (wsV RX1 79 RX1 yX1_wouldBeBetter wsX1_wouldBeBetter) := goodIn_app (goodIn_of _ (by decide +kernel)) ggX1_findBest_X1_wouldBeBetter
set_option maxRecDepth 20000 in
theorem ggX1_findBest_X1_costOf : GoodIn wsX1_findBest wsX1_costOf := goodIn_r _ [45, 6, 46, 47, 24, 25, 26, 13, 27, 4, 5, 28, 22, 8, 23, 48, 49, 50, 51, 52, 53, 54, 55, 56, 57, 58, 59, 60, 61, 62, 63, 64, 65, 66, 67, 68, 18, 69, 70, 71, 72, 73, 74, 75, 76, 77, 78, 79, 80, 81, 82, 83, 84, 85, 86, 87, 88, 89, 90, 91, 92, 93, 94, 95, 96, 97, 98, 99, 100, 101, 102, 103, 104, 105, 106, 107, 108, 109] (by decide +kernel) (by decide +kernel)
set_option maxRecDepth 20000 in
theorem gX1_findBest_X1_costOf : GoodIn wsX1_findBest (wsV RX1 83 RX1 yX1_costOf wsX1_costOf) := goodIn_app (goodIn_of _ (by decide +kernel)) ggX1_findBest_X1_costOf
set_option maxRecDepth 20000 in
theorem ggX1_findBest_X7_weightOf : GoodIn wsX1_findBest wsX7_weightOf := goodIn_r _ [19, 20, 21, 22, 8, 23, 86, 87, 88, 89, 90, 91, 92, 93, 94, 95] (by decide +kernel) (by decide +kernel)
set_option maxRecDepth 20000 in
theorem gX1_findBest_X7_weightOf : GoodIn wsX1_findBest (wsV RX1 86 RX7 yX7_weightOf wsX7_weightOf) := goodIn_app (goodIn_of _ (by decide +kernel)) ggX1_findBest_X7_weightOf
set_option maxRecDepth 20000 in
theorem ggX1_findBest_X1_allFixes : GoodIn wsX1_findBest wsX1_allFixes := goodIn_r _ [27, 4, 5, 28, 22, 8, 23, 78, 79, 80, 81, 82, 83, 84, 85, 86, 87, 88, 89, 90, 91, 92, 93, 94, 95] (by decide +kernel) (by decide +kernel)
set_option maxRecDepth 20000 in
theorem gX1_findBest_X1_allFixes : GoodIn wsX1_findBest (wsV RX1 70 RX1 yX1_allFixes wsX1_allFixes) := goodIn_app (goodIn_of _ (by decide +kernel)) ggX1_findBest_X1_allFixes
theorem dX1_findBest_0 : decode cX1_findBest 0 = .ok (.aload_n 0, 1) := by decide +kernel
theorem dX1_findBest_1 : decode cX1_findBest 1 = .ok (.iconst 0, 1) := by decide +kernel
theorem dX1_findBest_2 : decode cX1_findBest 2 = .ok (.putfield 22, 3) := by decide +kernel
theorem dX1_findBest_5 : decode cX1_findBest 5 = .ok (.aload_n 0, 1) := by decide +kernel
theorem dX1_findBest_6 : decode cX1_findBest 6 = .ok (.iconst 0, 1) := by decide +kernel
theorem dX1_findBest_7 : decode cX1_findBest 7 = .ok (.putfield 25, 3) := by decide +kernel
theorem dX1_findBest_10 : decode cX1_findBest 10 = .ok (.aload_n 0, 1) := by decide +kernel
theorem dX1_findBest_11 : decode cX1_findBest 11 = .ok (.iconst 0, 1) := by decide +kernel
theorem dX1_findBest_12 : decode cX1_findBest 12 = .ok (.putfield 28, 3) := by decide +kernel
theorem dX1_findBest_15 : decode cX1_findBest 15 = .ok (.iconst 1, 1) := by decide +kernel
theorem dX1_findBest_16 : decode cX1_findBest 16 = .ok (.istore_n 3, 1) := by decide +kernel
theorem dX1_findBest_17 : decode cX1_findBest 17 = .ok (.iload_n 3, 1) := by decide +kernel
theorem dX1_findBest_18 : decode cX1_findBest 18 = .ok (.aload_n 0, 1) := by decide +kernel
theorem dX1_findBest_19 : decode cX1_findBest 19 = .ok (.getfield 31, 3) := by decide +kernel
theorem dX1_findBest_22 : decode cX1_findBest 22 = .ok (.getfield 56, 3) := by decide +kernel
theorem dX1_findBest_25 : decode cX1_findBest 25 = .ok (.invokestatic 76, 3) := by decide +kernel
theorem dX1_findBest_28 : decode cX1_findBest 28 = .ok (.if_icmp .gt 65, 3) := by decide +kernel
theorem dX1_findBest_31 : decode cX1_findBest 31 = .ok (.iload_n 3, 1) := by decide +kernel
theorem dX1_findBest_32 : decode cX1_findBest 32 = .ok (.aload_n 0, 1) := by decide +kernel
theorem dX1_findBest_33 : decode cX1_findBest 33 = .ok (.getfield 19, 3) := by decide +kernel
theorem dX1_findBest_36 : decode cX1_findBest 36 = .ok (.iconst (-1), 1) := by decide +kernel
theorem dX1_findBest_37 : decode cX1_findBest 37 = .ok (.ixor, 1) := by decide +kernel
theorem dX1_findBest_38 : decode cX1_findBest 38 = .ok (.iand, 1) := by decide +kernel
theorem dX1_findBest_39 : decode cX1_findBest 39 = .ok (.ifCond .ne 48, 3) := by decide +kernel
theorem dX1_findBest_42 : decode cX1_findBest 42 = .ok (.aload_n 0, 1) := by decide +kernel
theorem dX1_findBest_43 : decode cX1_findBest 43 = .ok (.iload_n 3, 1) := by decide +kernel
theorem dX1_findBest_44 : decode cX1_findBest 44 = .ok (.iload_n 1, 1) := by decide +kernel
theorem dX1_findBest_45 : decode cX1_findBest 45 = .ok (.iload_n 2, 1) := by decide +kernel
theorem dX1_findBest_46 : decode cX1_findBest 46 = .ok (.invokevirtual 79, 3) := by decide +kernel
theorem dX1_findBest_49 : decode cX1_findBest 49 = .ok (.ifCond .eq 38, 3) := by decide +kernel
theorem dX1_findBest_52 : decode cX1_findBest 52 = .ok (.aload_n 0, 1) := by decide +kernel
theorem dX1_findBest_53 : decode cX1_findBest 53 = .ok (.iload_n 3, 1) := by decide +kernel
theorem dX1_findBest_54 : decode cX1_findBest 54 = .ok (.invokevirtual 83, 3) := by decide +kernel
theorem dX1_findBest_57 : decode cX1_findBest 57 = .ok (.iconst (-1), 1) := by decide +kernel
theorem dX1_findBest_58 : decode cX1_findBest 58 = .ok (.if_icmp .eq 29, 3) := by decide +kernel
theorem dX1_findBest_61 : decode cX1_findBest 61 = .ok (.aload_n 0, 1) := by decide +kernel
theorem dX1_findBest_62 : decode cX1_findBest 62 = .ok (.iload_n 3, 1) := by decide +kernel
theorem dX1_findBest_63 : decode cX1_findBest 63 = .ok (.putfield 22, 3) := by decide +kernel
theorem dX1_findBest_66 : decode cX1_findBest 66 = .ok (.aload_n 0, 1) := by decide +kernel
theorem dX1_findBest_67 : decode cX1_findBest 67 = .ok (.aload_n 0, 1) := by decide +kernel
theorem dX1_findBest_68 : decode cX1_findBest 68 = .ok (.getfield 31, 3) := by decide +kernel
theorem dX1_findBest_71 : decode cX1_findBest 71 = .ok (.iload_n 3, 1) := by decide +kernel
theorem dX1_findBest_72 : decode cX1_findBest 72 = .ok (.invokevirtual 86, 3) := by decide +kernel
theorem dX1_findBest_75 : decode cX1_findBest 75 = .ok (.putfield 25, 3) := by decide +kernel
theorem dX1_findBest_78 : decode cX1_findBest 78 = .ok (.aload_n 0, 1) := by decide +kernel
theorem dX1_findBest_79 : decode cX1_findBest 79 = .ok (.aload_n 0, 1) := by decide +kernel
theorem dX1_findBest_80 : decode cX1_findBest 80 = .ok (.iload_n 3, 1) := by decide +kernel
theorem dX1_findBest_81 : decode cX1_findBest 81 = .ok (.invokevirtual 70, 3) := by decide +kernel
theorem dX1_findBest_84 : decode cX1_findBest 84 = .ok (.putfield 28, 3) := by decide +kernel
theorem dX1_findBest_87 : decode cX1_findBest 87 = .ok (.iinc 3 1, 3) := by decide +kernel
theorem dX1_findBest_90 : decode cX1_findBest 90 = .ok (.goto (-73), 3) := by decide +kernel
theorem dX1_findBest_93 : decode cX1_findBest 93 = .ok (.return_, 1) := by decide +kernel
set_option maxRecDepth 20000 in
theorem ggX1_wouldBeBetter_X7_weightOf : GoodIn wsX1_wouldBeBetter wsX7_weightOf := goodIn_r _ [8, 9, 10, 11, 12, 13, 42, 43, 44, 45, 46, 47, 48, 49, 50, 51] (by decide +kernel) (by decide +kernel)
set_option maxRecDepth 20000 in
theorem gX1_wouldBeBetter_X7_weightOf : GoodIn wsX1_wouldBeBetter (wsV RX1 86 RX7 yX7_weightOf wsX7_weightOf) := goodIn_app (goodIn_of _ (by decide +kernel)) ggX1_wouldBeBetter_X7_weightOf
set_option maxRecDepth 20000 in
theorem ggX1_wouldBeBetter_X1_allFixes : GoodIn wsX1_wouldBeBetter wsX1_allFixes := goodIn_r _ [18, 1, 19, 20, 11, 12, 13, 34, 35, 36, 37, 38, 39, 40, 41, 42, 43, 44, 45, 46, 47, 48, 49, 50, 51] (by decide +kernel) (by decide +kernel)
set_option maxRecDepth 20000 in
theorem gX1_wouldBeBetter_X1_allFixes : GoodIn wsX1_wouldBeBetter (wsV RX1 70 RX1 yX1_allFixes wsX1_allFixes) := goodIn_app (goodIn_of _ (by decide +kernel)) ggX1_wouldBeBetter_X1_allFixes
set_option maxRecDepth 20000 in
theorem ggX1_wouldBeBetter_J6_bitCount_0f7a4 : GoodIn wsX1_wouldBeBetter wsJ6_bitCount_0f7a4 := goodIn_r _ [24, 25, 26, 27] (by decide +kernel) (by decide +kernel)
set_option maxRecDepth 20000 in
theorem gX1_wouldBeBetter_J6_bitCount_0f7a4 : GoodIn wsX1_wouldBeBetter (va_wsS RX1 89 yJ6_bitCount_0f7a4 wsJ6_bitCount_0f7a4) := goodIn_app (goodIn_of _ (by decide +kernel)) ggX1_wouldBeBetter_J6_bitCount_0f7a4
set_option maxRecDepth 20000 in
theorem ggX1_wouldBeBetter_X7_riskOf : GoodIn wsX1_wouldBeBetter wsX7_riskOf := goodIn_r _ [31, 32, 33, 11, 12, 13, 42, 43, 44, 45, 46, 47, 48, 49, 50, 51] (by decide +kernel) (by decide +kernel)
set_option maxRecDepth 20000 in
theorem gX1_wouldBeBetter_X7_riskOf : GoodIn wsX1_wouldBeBetter (wsV RX1 94 RX7 yX7_riskOf wsX7_riskOf) := goodIn_app (goodIn_of _ (by decide +kernel)) ggX1_wouldBeBetter_X7_riskOf
theorem dX1_wouldBeBetter_0 : decode cX1_wouldBeBetter 0 = .ok (.aload_n 0, 1) := by decide +kernel
theorem dX1_wouldBeBetter_1 : decode cX1_wouldBeBetter 1 = .ok (.getfield 31, 3) := by decide +kernel
theorem dX1_wouldBeBetter_4 : decode cX1_wouldBeBetter 4 = .ok (.iload_n 1, 1) := by decide +kernel
theorem dX1_wouldBeBetter_5 : decode cX1_wouldBeBetter 5 = .ok (.invokevirtual 86, 3) := by decide +kernel
theorem dX1_wouldBeBetter_8 : decode cX1_wouldBeBetter 8 = .ok (.istore 4, 2) := by decide +kernel
theorem dX1_wouldBeBetter_10 : decode cX1_wouldBeBetter 10 = .ok (.iload 4, 2) := by decide +kernel
theorem dX1_wouldBeBetter_12 : decode cX1_wouldBeBetter 12 = .ok (.aload_n 0, 1) := by decide +kernel
theorem dX1_wouldBeBetter_13 : decode cX1_wouldBeBetter 13 = .ok (.getfield 25, 3) := by decide +kernel
theorem dX1_wouldBeBetter_16 : decode cX1_wouldBeBetter 16 = .ok (.if_icmp .ge 5, 3) := by decide +kernel
theorem dX1_wouldBeBetter_19 : decode cX1_wouldBeBetter 19 = .ok (.iconst 0, 1) := by decide +kernel
theorem dX1_wouldBeBetter_20 : decode cX1_wouldBeBetter 20 = .ok (.ireturn, 1) := by decide +kernel
theorem dX1_wouldBeBetter_21 : decode cX1_wouldBeBetter 21 = .ok (.aload_n 0, 1) := by decide +kernel
theorem dX1_wouldBeBetter_22 : decode cX1_wouldBeBetter 22 = .ok (.iload_n 1, 1) := by decide +kernel
theorem dX1_wouldBeBetter_23 : decode cX1_wouldBeBetter 23 = .ok (.invokevirtual 70, 3) := by decide +kernel
theorem dX1_wouldBeBetter_26 : decode cX1_wouldBeBetter 26 = .ok (.istore 5, 2) := by decide +kernel
theorem dX1_wouldBeBetter_28 : decode cX1_wouldBeBetter 28 = .ok (.iload 5, 2) := by decide +kernel
theorem dX1_wouldBeBetter_30 : decode cX1_wouldBeBetter 30 = .ok (.invokestatic 89, 3) := by decide +kernel
theorem dX1_wouldBeBetter_33 : decode cX1_wouldBeBetter 33 = .ok (.istore 6, 2) := by decide +kernel
theorem dX1_wouldBeBetter_35 : decode cX1_wouldBeBetter 35 = .ok (.iload 4, 2) := by decide +kernel
theorem dX1_wouldBeBetter_37 : decode cX1_wouldBeBetter 37 = .ok (.aload_n 0, 1) := by decide +kernel
theorem dX1_wouldBeBetter_38 : decode cX1_wouldBeBetter 38 = .ok (.getfield 25, 3) := by decide +kernel
theorem dX1_wouldBeBetter_41 : decode cX1_wouldBeBetter 41 = .ok (.if_icmp .ne 17, 3) := by decide +kernel
theorem dX1_wouldBeBetter_44 : decode cX1_wouldBeBetter 44 = .ok (.iload 6, 2) := by decide +kernel
theorem dX1_wouldBeBetter_46 : decode cX1_wouldBeBetter 46 = .ok (.aload_n 0, 1) := by decide +kernel
theorem dX1_wouldBeBetter_47 : decode cX1_wouldBeBetter 47 = .ok (.getfield 28, 3) := by decide +kernel
theorem dX1_wouldBeBetter_50 : decode cX1_wouldBeBetter 50 = .ok (.invokestatic 89, 3) := by decide +kernel
theorem dX1_wouldBeBetter_53 : decode cX1_wouldBeBetter 53 = .ok (.if_icmp .lt 5, 3) := by decide +kernel
theorem dX1_wouldBeBetter_56 : decode cX1_wouldBeBetter 56 = .ok (.iconst 0, 1) := by decide +kernel
theorem dX1_wouldBeBetter_57 : decode cX1_wouldBeBetter 57 = .ok (.ireturn, 1) := by decide +kernel
theorem dX1_wouldBeBetter_58 : decode cX1_wouldBeBetter 58 = .ok (.iload 6, 2) := by decide +kernel
theorem dX1_wouldBeBetter_60 : decode cX1_wouldBeBetter 60 = .ok (.iload_n 2, 1) := by decide +kernel
theorem dX1_wouldBeBetter_61 : decode cX1_wouldBeBetter 61 = .ok (.if_icmp .gt 20, 3) := by decide +kernel
theorem dX1_wouldBeBetter_64 : decode cX1_wouldBeBetter 64 = .ok (.aload_n 0, 1) := by decide +kernel
theorem dX1_wouldBeBetter_65 : decode cX1_wouldBeBetter 65 = .ok (.getfield 31, 3) := by decide +kernel
theorem dX1_wouldBeBetter_68 : decode cX1_wouldBeBetter 68 = .ok (.iload 5, 2) := by decide +kernel
theorem dX1_wouldBeBetter_70 : decode cX1_wouldBeBetter 70 = .ok (.invokevirtual 94, 3) := by decide +kernel
theorem dX1_wouldBeBetter_73 : decode cX1_wouldBeBetter 73 = .ok (.iload_n 3, 1) := by decide +kernel
theorem dX1_wouldBeBetter_74 : decode cX1_wouldBeBetter 74 = .ok (.if_icmp .gt 7, 3) := by decide +kernel
theorem dX1_wouldBeBetter_77 : decode cX1_wouldBeBetter 77 = .ok (.iconst 1, 1) := by decide +kernel
theorem dX1_wouldBeBetter_78 : decode cX1_wouldBeBetter 78 = .ok (.goto 4, 3) := by decide +kernel
theorem dX1_wouldBeBetter_81 : decode cX1_wouldBeBetter 81 = .ok (.iconst 0, 1) := by decide +kernel
theorem dX1_wouldBeBetter_82 : decode cX1_wouldBeBetter 82 = .ok (.ireturn, 1) := by decide +kernel
theorem dX2_init_0 : decode cX2_init 0 = .ok (.aload_n 0, 1) := by decide +kernel
theorem dX2_init_1 : decode cX2_init 1 = .ok (.invokespecial 3, 3) := by decide +kernel
theorem dX2_init_4 : decode cX2_init 4 = .ok (.aload_n 0, 1) := by decide +kernel
theorem dX2_init_5 : decode cX2_init 5 = .ok (.bipush 16, 2) := by decide +kernel
theorem dX2_init_7 : decode cX2_init 7 = .ok (.newarray .int, 2) := by decide +kernel
theorem dX2_init_9 : decode cX2_init 9 = .ok (.putfield 9, 3) := by decide +kernel
theorem dX2_init_12 : decode cX2_init 12 = .ok (.aload_n 0, 1) := by decide +kernel
theorem dX2_init_13 : decode cX2_init 13 = .ok (.bipush 16, 2) := by decide +kernel
theorem dX2_init_15 : decode cX2_init 15 = .ok (.newarray .int, 2) := by decide +kernel
theorem dX2_init_17 : decode cX2_init 17 = .ok (.putfield 15, 3) := by decide +kernel
theorem dX2_init_20 : decode cX2_init 20 = .ok (.aload_n 0, 1) := by decide +kernel
theorem dX2_init_21 : decode cX2_init 21 = .ok (.aload_n 1, 1) := by decide +kernel
theorem dX2_init_22 : decode cX2_init 22 = .ok (.putfield 18, 3) := by decide +kernel
theorem dX2_init_25 : decode cX2_init 25 = .ok (.aload_n 0, 1) := by decide +kernel
theorem dX2_init_26 : decode cX2_init 26 = .ok (.aload_n 2, 1) := by decide +kernel
theorem dX2_init_27 : decode cX2_init 27 = .ok (.putfield 22, 3) := by decide +kernel
theorem dX2_init_30 : decode cX2_init 30 = .ok (.return_, 1) := by decide +kernel
theorem dX2_lay_0 : decode cX2_lay 0 = .ok (.aload_n 0, 1) := by decide +kernel
theorem dX2_lay_1 : decode cX2_lay 1 = .ok (.getfield 22, 3) := by decide +kernel
theorem dX2_lay_4 : decode cX2_lay 4 = .ok (.getfield 26, 3) := by decide +kernel
theorem dX2_lay_7 : decode cX2_lay 7 = .ok (.iload_n 1, 1) := by decide +kernel
theorem dX2_lay_8 : decode cX2_lay 8 = .ok (.bipush 16, 2) := by decide +kernel
theorem dX2_lay_10 : decode cX2_lay 10 = .ok (.imul, 1) := by decide +kernel
theorem dX2_lay_11 : decode cX2_lay 11 = .ok (.aload_n 2, 1) := by decide +kernel
theorem dX2_lay_12 : decode cX2_lay 12 = .ok (.iconst 0, 1) := by decide +kernel
theorem dX2_lay_13 : decode cX2_lay 13 = .ok (.bipush 16, 2) := by decide +kernel
theorem dX2_lay_15 : decode cX2_lay 15 = .ok (.invokestatic 31, 3) := by decide +kernel
theorem dX2_lay_18 : decode cX2_lay 18 = .ok (.return_, 1) := by decide +kernel
set_option maxRecDepth 20000 in
theorem ggX2_goesOn_X7_clashOf : GoodIn wsX2_goesOn wsX7_clashOf := goodIn_r _ [6, 7, 8, 9, 10, 11, 12, 22, 23, 24, 25, 26, 27, 28, 29, 30, 31] (by decide +kernel) (by decide +kernel)
set_option maxRecDepth 20000 in
theorem gX2_goesOn_X7_clashOf : GoodIn wsX2_goesOn (wsV RX2 37 RX7 yX7_clashOf wsX7_clashOf) := goodIn_app (goodIn_of _ (by decide +kernel)) ggX2_goesOn_X7_clashOf
set_option maxRecDepth 20000 in
theorem ggX2_goesOn_X7_putOn : GoodIn wsX2_goesOn wsX7_putOn := goodIn_r _ [16, 7, 17, 10, 11, 12, 22, 23, 24, 25, 26, 27, 28, 29, 30, 31] (by decide +kernel) (by decide +kernel)
set_option maxRecDepth 20000 in
theorem gX2_goesOn_X7_putOn : GoodIn wsX2_goesOn (wsV RX2 43 RX7 yX7_putOn wsX7_putOn) := goodIn_app (goodIn_of _ (by decide +kernel)) ggX2_goesOn_X7_putOn
theorem dX2_goesOn_0 : decode cX2_goesOn 0 = .ok (.aload_n 0, 1) := by decide +kernel
theorem dX2_goesOn_1 : decode cX2_goesOn 1 = .ok (.getfield 18, 3) := by decide +kernel
theorem dX2_goesOn_4 : decode cX2_goesOn 4 = .ok (.iload_n 1, 1) := by decide +kernel
theorem dX2_goesOn_5 : decode cX2_goesOn 5 = .ok (.aload_n 2, 1) := by decide +kernel
theorem dX2_goesOn_6 : decode cX2_goesOn 6 = .ok (.iconst 0, 1) := by decide +kernel
theorem dX2_goesOn_7 : decode cX2_goesOn 7 = .ok (.invokevirtual 37, 3) := by decide +kernel
theorem dX2_goesOn_10 : decode cX2_goesOn 10 = .ok (.ifCond .eq 5, 3) := by decide +kernel
theorem dX2_goesOn_13 : decode cX2_goesOn 13 = .ok (.iconst 0, 1) := by decide +kernel
theorem dX2_goesOn_14 : decode cX2_goesOn 14 = .ok (.ireturn, 1) := by decide +kernel
theorem dX2_goesOn_15 : decode cX2_goesOn 15 = .ok (.aload_n 0, 1) := by decide +kernel
theorem dX2_goesOn_16 : decode cX2_goesOn 16 = .ok (.getfield 18, 3) := by decide +kernel
theorem dX2_goesOn_19 : decode cX2_goesOn 19 = .ok (.iload_n 1, 1) := by decide +kernel
theorem dX2_goesOn_20 : decode cX2_goesOn 20 = .ok (.aload_n 2, 1) := by decide +kernel
theorem dX2_goesOn_21 : decode cX2_goesOn 21 = .ok (.iconst 0, 1) := by decide +kernel
theorem dX2_goesOn_22 : decode cX2_goesOn 22 = .ok (.invokevirtual 43, 3) := by decide +kernel
theorem dX2_goesOn_25 : decode cX2_goesOn 25 = .ok (.iconst 1, 1) := by decide +kernel
theorem dX2_goesOn_26 : decode cX2_goesOn 26 = .ok (.ireturn, 1) := by decide +kernel
set_option maxRecDepth 20000 in
theorem ggX2_allGoOn_X2_lay : GoodIn wsX2_allGoOn wsX2_lay := goodIn_r _ [8, 9, 10, 11, 12, 13, 14, 31, 32, 33, 34, 45, 46, 47, 48, 49, 50, 51, 52, 53, 54] (by decide +kernel) (by decide +kernel)
set_option maxRecDepth 20000 in
theorem gX2_allGoOn_X2_lay : GoodIn wsX2_allGoOn (wsV RX2 47 RX2 yX2_lay wsX2_lay) := goodIn_app (goodIn_of _ (by decide +kernel)) ggX2_allGoOn_X2_lay
set_option maxRecDepth 20000 in
theorem ggX2_allGoOn_X8_has : GoodIn wsX2_allGoOn wsX8_has := goodIn_r _ [17] (by decide +kernel) (by decide +kernel)
set_option maxRecDepth 20000 in
theorem gX2_allGoOn_X8_has_n55 : GoodIn wsX2_allGoOn (wsX8_has) := ggX2_allGoOn_X8_has
set_option maxRecDepth 20000 in
theorem ggX2_allGoOn_X7_clashOf : GoodIn wsX2_allGoOn wsX7_clashOf := goodIn_r _ [22, 23, 24, 25, 15, 16, 17, 35, 36, 37, 38, 39, 40, 41, 42, 43, 44] (by decide +kernel) (by decide +kernel)
set_option maxRecDepth 20000 in
theorem gX2_allGoOn_X7_clashOf : GoodIn wsX2_allGoOn (wsV RX2 37 RX7 yX7_clashOf wsX7_clashOf) := goodIn_app (goodIn_of _ (by decide +kernel)) ggX2_allGoOn_X7_clashOf
set_option maxRecDepth 20000 in
theorem ggX2_allGoOn_X7_putOn : GoodIn wsX2_allGoOn wsX7_putOn := goodIn_r _ [29, 23, 30, 15, 16, 17, 35, 36, 37, 38, 39, 40, 41, 42, 43, 44] (by decide +kernel) (by decide +kernel)
set_option maxRecDepth 20000 in
theorem gX2_allGoOn_X7_putOn : GoodIn wsX2_allGoOn (wsV RX2 43 RX7 yX7_putOn wsX7_putOn) := goodIn_app (goodIn_of _ (by decide +kernel)) ggX2_allGoOn_X7_putOn
theorem dX2_allGoOn_0 : decode cX2_allGoOn 0 = .ok (.aload_n 0, 1) := by decide +kernel
theorem dX2_allGoOn_1 : decode cX2_allGoOn 1 = .ok (.iload_n 1, 1) := by decide +kernel
theorem dX2_allGoOn_2 : decode cX2_allGoOn 2 = .ok (.aload_n 0, 1) := by decide +kernel
theorem dX2_allGoOn_3 : decode cX2_allGoOn 3 = .ok (.getfield 9, 3) := by decide +kernel
theorem dX2_allGoOn_6 : decode cX2_allGoOn 6 = .ok (.invokevirtual 47, 3) := by decide +kernel
theorem dX2_allGoOn_9 : decode cX2_allGoOn 9 = .ok (.iconst 0, 1) := by decide +kernel
theorem dX2_allGoOn_10 : decode cX2_allGoOn 10 = .ok (.istore_n 3, 1) := by decide +kernel
theorem dX2_allGoOn_11 : decode cX2_allGoOn 11 = .ok (.iload_n 3, 1) := by decide +kernel
theorem dX2_allGoOn_12 : decode cX2_allGoOn 12 = .ok (.aload_n 0, 1) := by decide +kernel
theorem dX2_allGoOn_13 : decode cX2_allGoOn 13 = .ok (.getfield 18, 3) := by decide +kernel
theorem dX2_allGoOn_16 : decode cX2_allGoOn 16 = .ok (.getfield 51, 3) := by decide +kernel
theorem dX2_allGoOn_19 : decode cX2_allGoOn 19 = .ok (.if_icmp .ge 48, 3) := by decide +kernel
theorem dX2_allGoOn_22 : decode cX2_allGoOn 22 = .ok (.iload_n 2, 1) := by decide +kernel
theorem dX2_allGoOn_23 : decode cX2_allGoOn 23 = .ok (.iload_n 3, 1) := by decide +kernel
theorem dX2_allGoOn_24 : decode cX2_allGoOn 24 = .ok (.invokestatic 55, 3) := by decide +kernel
theorem dX2_allGoOn_27 : decode cX2_allGoOn 27 = .ok (.ifCond .eq 34, 3) := by decide +kernel
theorem dX2_allGoOn_30 : decode cX2_allGoOn 30 = .ok (.aload_n 0, 1) := by decide +kernel
theorem dX2_allGoOn_31 : decode cX2_allGoOn 31 = .ok (.getfield 18, 3) := by decide +kernel
theorem dX2_allGoOn_34 : decode cX2_allGoOn 34 = .ok (.iload_n 3, 1) := by decide +kernel
theorem dX2_allGoOn_35 : decode cX2_allGoOn 35 = .ok (.aload_n 0, 1) := by decide +kernel
theorem dX2_allGoOn_36 : decode cX2_allGoOn 36 = .ok (.getfield 9, 3) := by decide +kernel
theorem dX2_allGoOn_39 : decode cX2_allGoOn 39 = .ok (.iconst 0, 1) := by decide +kernel
theorem dX2_allGoOn_40 : decode cX2_allGoOn 40 = .ok (.invokevirtual 37, 3) := by decide +kernel
theorem dX2_allGoOn_43 : decode cX2_allGoOn 43 = .ok (.ifCond .eq 5, 3) := by decide +kernel
theorem dX2_allGoOn_46 : decode cX2_allGoOn 46 = .ok (.iconst 0, 1) := by decide +kernel
theorem dX2_allGoOn_47 : decode cX2_allGoOn 47 = .ok (.ireturn, 1) := by decide +kernel
theorem dX2_allGoOn_48 : decode cX2_allGoOn 48 = .ok (.aload_n 0, 1) := by decide +kernel
theorem dX2_allGoOn_49 : decode cX2_allGoOn 49 = .ok (.getfield 18, 3) := by decide +kernel
theorem dX2_allGoOn_52 : decode cX2_allGoOn 52 = .ok (.iload_n 3, 1) := by decide +kernel
theorem dX2_allGoOn_53 : decode cX2_allGoOn 53 = .ok (.aload_n 0, 1) := by decide +kernel
theorem dX2_allGoOn_54 : decode cX2_allGoOn 54 = .ok (.getfield 9, 3) := by decide +kernel
theorem dX2_allGoOn_57 : decode cX2_allGoOn 57 = .ok (.iconst 0, 1) := by decide +kernel
theorem dX2_allGoOn_58 : decode cX2_allGoOn 58 = .ok (.invokevirtual 43, 3) := by decide +kernel
theorem dX2_allGoOn_61 : decode cX2_allGoOn 61 = .ok (.iinc 3 1, 3) := by decide +kernel
theorem dX2_allGoOn_64 : decode cX2_allGoOn 64 = .ok (.goto (-53), 3) := by decide +kernel
theorem dX2_allGoOn_67 : decode cX2_allGoOn 67 = .ok (.iconst 1, 1) := by decide +kernel
theorem dX2_allGoOn_68 : decode cX2_allGoOn 68 = .ok (.ireturn, 1) := by decide +kernel
set_option maxRecDepth 20000 in
theorem ggX2_needsOf_X8_has : GoodIn wsX2_needsOf wsX8_has := goodIn_r _ [7] (by decide +kernel) (by decide +kernel)
set_option maxRecDepth 20000 in
theorem gX2_needsOf_X8_has_n55 : GoodIn wsX2_needsOf (wsX8_has) := ggX2_needsOf_X8_has
set_option maxRecDepth 20000 in
theorem ggX2_needsOf_X7_clashOf : GoodIn wsX2_needsOf wsX7_clashOf := goodIn_r _ [12, 13, 14, 15, 5, 6, 7, 58, 59, 60, 61, 62, 63, 64, 65, 66, 67] (by decide +kernel) (by decide +kernel)
set_option maxRecDepth 20000 in
theorem gX2_needsOf_X7_clashOf : GoodIn wsX2_needsOf (wsV RX2 37 RX7 yX7_clashOf wsX7_clashOf) := goodIn_app (goodIn_of _ (by decide +kernel)) ggX2_needsOf_X7_clashOf
set_option maxRecDepth 20000 in
theorem ggX2_needsOf_X2_settersOf : GoodIn wsX2_needsOf wsX2_settersOf := goodIn_r _ [20, 3, 5, 6, 7, 21, 22, 23, 11, 24, 13, 44, 45, 46, 47, 58, 59, 60, 61, 62, 63, 64, 65, 66, 67] (by decide +kernel) (by decide +kernel)
set_option maxRecDepth 20000 in
theorem gX2_needsOf_X2_settersOf : GoodIn wsX2_needsOf (wsV RX2 62 RX2 yX2_settersOf wsX2_settersOf) := goodIn_app (goodIn_of _ (by decide +kernel)) ggX2_needsOf_X2_settersOf
set_option maxRecDepth 20000 in
theorem ggX2_needsOf_X2_allGoOn : GoodIn wsX2_needsOf wsX2_allGoOn := goodIn_r _ [28, 29, 3, 30, 31, 32, 33, 19, 34, 1, 4, 35, 36, 37, 38, 5, 6, 7, 8, 9, 10, 11, 12, 13, 14, 15, 39, 40, 41, 42, 43, 44, 45, 46, 47, 58, 59, 60, 61, 62, 63, 64, 65, 66, 67, 48, 49, 50, 51, 52, 53, 54, 55, 56, 57] (by decide +kernel) (by decide +kernel)
set_option maxRecDepth 20000 in
theorem gX2_needsOf_X2_allGoOn : GoodIn wsX2_needsOf (wsV RX2 66 RX2 yX2_allGoOn wsX2_allGoOn) := goodIn_app (goodIn_of _ (by decide +kernel)) ggX2_needsOf_X2_allGoOn
theorem dX2_needsOf_0 : decode cX2_needsOf 0 = .ok (.aload_n 0, 1) := by decide +kernel
theorem dX2_needsOf_1 : decode cX2_needsOf 1 = .ok (.getfield 22, 3) := by decide +kernel
theorem dX2_needsOf_4 : decode cX2_needsOf 4 = .ok (.getfield 59, 3) := by decide +kernel
theorem dX2_needsOf_7 : decode cX2_needsOf 7 = .ok (.iload_n 1, 1) := by decide +kernel
theorem dX2_needsOf_8 : decode cX2_needsOf 8 = .ok (.iaload, 1) := by decide +kernel
theorem dX2_needsOf_9 : decode cX2_needsOf 9 = .ok (.istore_n 3, 1) := by decide +kernel
theorem dX2_needsOf_10 : decode cX2_needsOf 10 = .ok (.iload_n 3, 1) := by decide +kernel
theorem dX2_needsOf_11 : decode cX2_needsOf 11 = .ok (.iload_n 2, 1) := by decide +kernel
theorem dX2_needsOf_12 : decode cX2_needsOf 12 = .ok (.invokestatic 55, 3) := by decide +kernel
theorem dX2_needsOf_15 : decode cX2_needsOf 15 = .ok (.ifCond .eq 5, 3) := by decide +kernel
theorem dX2_needsOf_18 : decode cX2_needsOf 18 = .ok (.iconst (-1), 1) := by decide +kernel
theorem dX2_needsOf_19 : decode cX2_needsOf 19 = .ok (.ireturn, 1) := by decide +kernel
theorem dX2_needsOf_20 : decode cX2_needsOf 20 = .ok (.iconst 1, 1) := by decide +kernel
theorem dX2_needsOf_21 : decode cX2_needsOf 21 = .ok (.iload_n 2, 1) := by decide +kernel
theorem dX2_needsOf_22 : decode cX2_needsOf 22 = .ok (.ishl, 1) := by decide +kernel
theorem dX2_needsOf_23 : decode cX2_needsOf 23 = .ok (.istore 4, 2) := by decide +kernel
theorem dX2_needsOf_25 : decode cX2_needsOf 25 = .ok (.iload_n 2, 1) := by decide +kernel
theorem dX2_needsOf_26 : decode cX2_needsOf 26 = .ok (.istore 5, 2) := by decide +kernel
theorem dX2_needsOf_28 : decode cX2_needsOf 28 = .ok (.iload 5, 2) := by decide +kernel
theorem dX2_needsOf_30 : decode cX2_needsOf 30 = .ok (.ifCond .lt 66, 3) := by decide +kernel
theorem dX2_needsOf_33 : decode cX2_needsOf 33 = .ok (.iload 4, 2) := by decide +kernel
theorem dX2_needsOf_35 : decode cX2_needsOf 35 = .ok (.iload 5, 2) := by decide +kernel
theorem dX2_needsOf_37 : decode cX2_needsOf 37 = .ok (.invokestatic 55, 3) := by decide +kernel
theorem dX2_needsOf_40 : decode cX2_needsOf 40 = .ok (.ifCond .eq 50, 3) := by decide +kernel
theorem dX2_needsOf_43 : decode cX2_needsOf 43 = .ok (.aload_n 0, 1) := by decide +kernel
theorem dX2_needsOf_44 : decode cX2_needsOf 44 = .ok (.iload 5, 2) := by decide +kernel
theorem dX2_needsOf_46 : decode cX2_needsOf 46 = .ok (.aload_n 0, 1) := by decide +kernel
theorem dX2_needsOf_47 : decode cX2_needsOf 47 = .ok (.getfield 18, 3) := by decide +kernel
theorem dX2_needsOf_50 : decode cX2_needsOf 50 = .ok (.iload 5, 2) := by decide +kernel
theorem dX2_needsOf_52 : decode cX2_needsOf 52 = .ok (.aload_n 0, 1) := by decide +kernel
theorem dX2_needsOf_53 : decode cX2_needsOf 53 = .ok (.getfield 22, 3) := by decide +kernel
theorem dX2_needsOf_56 : decode cX2_needsOf 56 = .ok (.getfield 26, 3) := by decide +kernel
theorem dX2_needsOf_59 : decode cX2_needsOf 59 = .ok (.iload_n 1, 1) := by decide +kernel
theorem dX2_needsOf_60 : decode cX2_needsOf 60 = .ok (.invokevirtual 37, 3) := by decide +kernel
theorem dX2_needsOf_63 : decode cX2_needsOf 63 = .ok (.invokevirtual 62, 3) := by decide +kernel
theorem dX2_needsOf_66 : decode cX2_needsOf 66 = .ok (.istore 6, 2) := by decide +kernel
theorem dX2_needsOf_68 : decode cX2_needsOf 68 = .ok (.iload 6, 2) := by decide +kernel
theorem dX2_needsOf_70 : decode cX2_needsOf 70 = .ok (.iconst (-1), 1) := by decide +kernel
theorem dX2_needsOf_71 : decode cX2_needsOf 71 = .ok (.if_icmp .eq 10, 3) := by decide +kernel
theorem dX2_needsOf_74 : decode cX2_needsOf 74 = .ok (.iload 6, 2) := by decide +kernel
theorem dX2_needsOf_76 : decode cX2_needsOf 76 = .ok (.iload_n 3, 1) := by decide +kernel
theorem dX2_needsOf_77 : decode cX2_needsOf 77 = .ok (.iand, 1) := by decide +kernel
theorem dX2_needsOf_78 : decode cX2_needsOf 78 = .ok (.ifCond .eq 5, 3) := by decide +kernel
theorem dX2_needsOf_81 : decode cX2_needsOf 81 = .ok (.iconst (-1), 1) := by decide +kernel
theorem dX2_needsOf_82 : decode cX2_needsOf 82 = .ok (.ireturn, 1) := by decide +kernel
theorem dX2_needsOf_83 : decode cX2_needsOf 83 = .ok (.iload 4, 2) := by decide +kernel
theorem dX2_needsOf_85 : decode cX2_needsOf 85 = .ok (.iload 6, 2) := by decide +kernel
theorem dX2_needsOf_87 : decode cX2_needsOf 87 = .ok (.ior, 1) := by decide +kernel
theorem dX2_needsOf_88 : decode cX2_needsOf 88 = .ok (.istore 4, 2) := by decide +kernel
theorem dX2_needsOf_90 : decode cX2_needsOf 90 = .ok (.iinc 5 (-1), 3) := by decide +kernel
theorem dX2_needsOf_93 : decode cX2_needsOf 93 = .ok (.goto (-65), 3) := by decide +kernel
theorem dX2_needsOf_96 : decode cX2_needsOf 96 = .ok (.aload_n 0, 1) := by decide +kernel
theorem dX2_needsOf_97 : decode cX2_needsOf 97 = .ok (.iload_n 1, 1) := by decide +kernel
theorem dX2_needsOf_98 : decode cX2_needsOf 98 = .ok (.iload 4, 2) := by decide +kernel
theorem dX2_needsOf_100 : decode cX2_needsOf 100 = .ok (.invokevirtual 66, 3) := by decide +kernel
theorem dX2_needsOf_103 : decode cX2_needsOf 103 = .ok (.ifCond .eq 14, 3) := by decide +kernel
theorem dX2_needsOf_106 : decode cX2_needsOf 106 = .ok (.iload 4, 2) := by decide +kernel
theorem dX2_needsOf_108 : decode cX2_needsOf 108 = .ok (.iconst 1, 1) := by decide +kernel
theorem dX2_needsOf_109 : decode cX2_needsOf 109 = .ok (.iload_n 2, 1) := by decide +kernel
theorem dX2_needsOf_110 : decode cX2_needsOf 110 = .ok (.ishl, 1) := by decide +kernel
theorem dX2_needsOf_111 : decode cX2_needsOf 111 = .ok (.iconst (-1), 1) := by decide +kernel
theorem dX2_needsOf_112 : decode cX2_needsOf 112 = .ok (.ixor, 1) := by decide +kernel
theorem dX2_needsOf_113 : decode cX2_needsOf 113 = .ok (.iand, 1) := by decide +kernel
theorem dX2_needsOf_114 : decode cX2_needsOf 114 = .ok (.goto 4, 3) := by decide +kernel
theorem dX2_needsOf_117 : decode cX2_needsOf 117 = .ok (.iconst (-1), 1) := by decide +kernel
theorem dX2_needsOf_118 : decode cX2_needsOf 118 = .ok (.ireturn, 1) := by decide +kernel
set_option maxRecDepth 20000 in
theorem ggX2_settersOf_X8_has : GoodIn wsX2_settersOf wsX8_has := goodIn_r _ [4] (by decide +kernel) (by decide +kernel)
set_option maxRecDepth 20000 in
theorem gX2_settersOf_X8_has_n55 : GoodIn wsX2_settersOf (wsX8_has) := ggX2_settersOf_X8_has
set_option maxRecDepth 20000 in
theorem ggX2_settersOf_X7_lastSetter : GoodIn wsX2_settersOf wsX7_lastSetter := goodIn_r _ [9, 10, 2, 3, 4, 15, 16, 17, 18, 19, 20, 21, 22, 23, 24] (by decide +kernel) (by decide +kernel)
set_option maxRecDepth 20000 in
theorem gX2_settersOf_X7_lastSetter : GoodIn wsX2_settersOf (wsV RX2 69 RX7 yX7_lastSetter wsX7_lastSetter) := goodIn_app (goodIn_of _ (by decide +kernel)) ggX2_settersOf_X7_lastSetter
theorem dX2_settersOf_0 : decode cX2_settersOf 0 = .ok (.iconst 0, 1) := by decide +kernel
theorem dX2_settersOf_1 : decode cX2_settersOf 1 = .ok (.istore_n 3, 1) := by decide +kernel
theorem dX2_settersOf_2 : decode cX2_settersOf 2 = .ok (.iconst 0, 1) := by decide +kernel
theorem dX2_settersOf_3 : decode cX2_settersOf 3 = .ok (.istore 4, 2) := by decide +kernel
theorem dX2_settersOf_5 : decode cX2_settersOf 5 = .ok (.iload 4, 2) := by decide +kernel
theorem dX2_settersOf_7 : decode cX2_settersOf 7 = .ok (.bipush 16, 2) := by decide +kernel
theorem dX2_settersOf_9 : decode cX2_settersOf 9 = .ok (.if_icmp .ge 45, 3) := by decide +kernel
theorem dX2_settersOf_12 : decode cX2_settersOf 12 = .ok (.iload_n 2, 1) := by decide +kernel
theorem dX2_settersOf_13 : decode cX2_settersOf 13 = .ok (.iload 4, 2) := by decide +kernel
theorem dX2_settersOf_15 : decode cX2_settersOf 15 = .ok (.invokestatic 55, 3) := by decide +kernel
theorem dX2_settersOf_18 : decode cX2_settersOf 18 = .ok (.ifCond .eq 30, 3) := by decide +kernel
theorem dX2_settersOf_21 : decode cX2_settersOf 21 = .ok (.aload_n 0, 1) := by decide +kernel
theorem dX2_settersOf_22 : decode cX2_settersOf 22 = .ok (.getfield 18, 3) := by decide +kernel
theorem dX2_settersOf_25 : decode cX2_settersOf 25 = .ok (.iload_n 1, 1) := by decide +kernel
theorem dX2_settersOf_26 : decode cX2_settersOf 26 = .ok (.iload 4, 2) := by decide +kernel
theorem dX2_settersOf_28 : decode cX2_settersOf 28 = .ok (.invokevirtual 69, 3) := by decide +kernel
theorem dX2_settersOf_31 : decode cX2_settersOf 31 = .ok (.istore 5, 2) := by decide +kernel
theorem dX2_settersOf_33 : decode cX2_settersOf 33 = .ok (.iload 5, 2) := by decide +kernel
theorem dX2_settersOf_35 : decode cX2_settersOf 35 = .ok (.iconst (-1), 1) := by decide +kernel
theorem dX2_settersOf_36 : decode cX2_settersOf 36 = .ok (.if_icmp .ne 5, 3) := by decide +kernel
theorem dX2_settersOf_39 : decode cX2_settersOf 39 = .ok (.iconst (-1), 1) := by decide +kernel
theorem dX2_settersOf_40 : decode cX2_settersOf 40 = .ok (.ireturn, 1) := by decide +kernel
theorem dX2_settersOf_41 : decode cX2_settersOf 41 = .ok (.iload_n 3, 1) := by decide +kernel
theorem dX2_settersOf_42 : decode cX2_settersOf 42 = .ok (.iconst 1, 1) := by decide +kernel
theorem dX2_settersOf_43 : decode cX2_settersOf 43 = .ok (.iload 5, 2) := by decide +kernel
theorem dX2_settersOf_45 : decode cX2_settersOf 45 = .ok (.ishl, 1) := by decide +kernel
theorem dX2_settersOf_46 : decode cX2_settersOf 46 = .ok (.ior, 1) := by decide +kernel
theorem dX2_settersOf_47 : decode cX2_settersOf 47 = .ok (.istore_n 3, 1) := by decide +kernel
theorem dX2_settersOf_48 : decode cX2_settersOf 48 = .ok (.iinc 4 1, 3) := by decide +kernel
theorem dX2_settersOf_51 : decode cX2_settersOf 51 = .ok (.goto (-46), 3) := by decide +kernel
theorem dX2_settersOf_54 : decode cX2_settersOf 54 = .ok (.iload_n 3, 1) := by decide +kernel
theorem dX2_settersOf_55 : decode cX2_settersOf 55 = .ok (.ireturn, 1) := by decide +kernel
set_option maxRecDepth 20000 in
theorem ggX2_areApart_X2_lay : GoodIn wsX2_areApart wsX2_lay := goodIn_r _ [7, 8, 9, 10, 11, 12, 13, 35, 36, 37, 38, 39, 40, 41, 42, 43, 44, 45, 46, 47, 48] (by decide +kernel) (by decide +kernel)
set_option maxRecDepth 20000 in
theorem gX2_areApart_X2_lay : GoodIn wsX2_areApart (wsV RX2 47 RX2 yX2_lay wsX2_lay) := goodIn_app (goodIn_of _ (by decide +kernel)) ggX2_areApart_X2_lay
set_option maxRecDepth 20000 in
theorem ggX2_areApart_X2_goesOn : GoodIn wsX2_areApart wsX2_goesOn := goodIn_r _ [17, 18, 19, 20, 21, 22, 23, 24, 25, 26, 27, 28, 29, 30, 31, 32, 33, 34, 35, 36, 37, 38, 49, 50, 51, 52, 53, 54, 55, 56, 57, 58] (by decide +kernel) (by decide +kernel)
set_option maxRecDepth 20000 in
theorem gX2_areApart_X2_goesOn : GoodIn wsX2_areApart (wsV RX2 72 RX2 yX2_goesOn wsX2_goesOn) := goodIn_app (goodIn_of _ (by decide +kernel)) ggX2_areApart_X2_goesOn
theorem dX2_areApart_0 : decode cX2_areApart 0 = .ok (.aload_n 0, 1) := by decide +kernel
theorem dX2_areApart_1 : decode cX2_areApart 1 = .ok (.iload_n 1, 1) := by decide +kernel
theorem dX2_areApart_2 : decode cX2_areApart 2 = .ok (.aload_n 0, 1) := by decide +kernel
theorem dX2_areApart_3 : decode cX2_areApart 3 = .ok (.getfield 9, 3) := by decide +kernel
theorem dX2_areApart_6 : decode cX2_areApart 6 = .ok (.invokevirtual 47, 3) := by decide +kernel
theorem dX2_areApart_9 : decode cX2_areApart 9 = .ok (.aload_n 0, 1) := by decide +kernel
theorem dX2_areApart_10 : decode cX2_areApart 10 = .ok (.iload_n 1, 1) := by decide +kernel
theorem dX2_areApart_11 : decode cX2_areApart 11 = .ok (.aload_n 0, 1) := by decide +kernel
theorem dX2_areApart_12 : decode cX2_areApart 12 = .ok (.getfield 15, 3) := by decide +kernel
theorem dX2_areApart_15 : decode cX2_areApart 15 = .ok (.invokevirtual 47, 3) := by decide +kernel
theorem dX2_areApart_18 : decode cX2_areApart 18 = .ok (.aload_n 0, 1) := by decide +kernel
theorem dX2_areApart_19 : decode cX2_areApart 19 = .ok (.iload_n 2, 1) := by decide +kernel
theorem dX2_areApart_20 : decode cX2_areApart 20 = .ok (.aload_n 0, 1) := by decide +kernel
theorem dX2_areApart_21 : decode cX2_areApart 21 = .ok (.getfield 9, 3) := by decide +kernel
theorem dX2_areApart_24 : decode cX2_areApart 24 = .ok (.invokevirtual 72, 3) := by decide +kernel
theorem dX2_areApart_27 : decode cX2_areApart 27 = .ok (.ifCond .eq 39, 3) := by decide +kernel
theorem dX2_areApart_30 : decode cX2_areApart 30 = .ok (.aload_n 0, 1) := by decide +kernel
theorem dX2_areApart_31 : decode cX2_areApart 31 = .ok (.iload_n 3, 1) := by decide +kernel
theorem dX2_areApart_32 : decode cX2_areApart 32 = .ok (.aload_n 0, 1) := by decide +kernel
theorem dX2_areApart_33 : decode cX2_areApart 33 = .ok (.getfield 9, 3) := by decide +kernel
theorem dX2_areApart_36 : decode cX2_areApart 36 = .ok (.invokevirtual 72, 3) := by decide +kernel
theorem dX2_areApart_39 : decode cX2_areApart 39 = .ok (.ifCond .eq 27, 3) := by decide +kernel
theorem dX2_areApart_42 : decode cX2_areApart 42 = .ok (.aload_n 0, 1) := by decide +kernel
theorem dX2_areApart_43 : decode cX2_areApart 43 = .ok (.iload_n 3, 1) := by decide +kernel
theorem dX2_areApart_44 : decode cX2_areApart 44 = .ok (.aload_n 0, 1) := by decide +kernel
theorem dX2_areApart_45 : decode cX2_areApart 45 = .ok (.getfield 15, 3) := by decide +kernel
theorem dX2_areApart_48 : decode cX2_areApart 48 = .ok (.invokevirtual 72, 3) := by decide +kernel
theorem dX2_areApart_51 : decode cX2_areApart 51 = .ok (.ifCond .eq 15, 3) := by decide +kernel
theorem dX2_areApart_54 : decode cX2_areApart 54 = .ok (.aload_n 0, 1) := by decide +kernel
theorem dX2_areApart_55 : decode cX2_areApart 55 = .ok (.iload_n 2, 1) := by decide +kernel
theorem dX2_areApart_56 : decode cX2_areApart 56 = .ok (.aload_n 0, 1) := by decide +kernel
theorem dX2_areApart_57 : decode cX2_areApart 57 = .ok (.getfield 15, 3) := by decide +kernel
theorem dX2_areApart_60 : decode cX2_areApart 60 = .ok (.invokevirtual 72, 3) := by decide +kernel
theorem dX2_areApart_63 : decode cX2_areApart 63 = .ok (.ifCond .ne 5, 3) := by decide +kernel
theorem dX2_areApart_66 : decode cX2_areApart 66 = .ok (.iconst 0, 1) := by decide +kernel
theorem dX2_areApart_67 : decode cX2_areApart 67 = .ok (.ireturn, 1) := by decide +kernel
theorem dX2_areApart_68 : decode cX2_areApart 68 = .ok (.iconst 0, 1) := by decide +kernel
theorem dX2_areApart_69 : decode cX2_areApart 69 = .ok (.istore 4, 2) := by decide +kernel
theorem dX2_areApart_71 : decode cX2_areApart 71 = .ok (.iload 4, 2) := by decide +kernel
theorem dX2_areApart_73 : decode cX2_areApart 73 = .ok (.bipush 16, 2) := by decide +kernel
theorem dX2_areApart_75 : decode cX2_areApart 75 = .ok (.if_icmp .ge 28, 3) := by decide +kernel
theorem dX2_areApart_78 : decode cX2_areApart 78 = .ok (.aload_n 0, 1) := by decide +kernel
theorem dX2_areApart_79 : decode cX2_areApart 79 = .ok (.getfield 9, 3) := by decide +kernel
theorem dX2_areApart_82 : decode cX2_areApart 82 = .ok (.iload 4, 2) := by decide +kernel
theorem dX2_areApart_84 : decode cX2_areApart 84 = .ok (.iaload, 1) := by decide +kernel
theorem dX2_areApart_85 : decode cX2_areApart 85 = .ok (.aload_n 0, 1) := by decide +kernel
theorem dX2_areApart_86 : decode cX2_areApart 86 = .ok (.getfield 15, 3) := by decide +kernel
theorem dX2_areApart_89 : decode cX2_areApart 89 = .ok (.iload 4, 2) := by decide +kernel
theorem dX2_areApart_91 : decode cX2_areApart 91 = .ok (.iaload, 1) := by decide +kernel
theorem dX2_areApart_92 : decode cX2_areApart 92 = .ok (.if_icmp .eq 5, 3) := by decide +kernel
theorem dX2_areApart_95 : decode cX2_areApart 95 = .ok (.iconst 0, 1) := by decide +kernel
theorem dX2_areApart_96 : decode cX2_areApart 96 = .ok (.ireturn, 1) := by decide +kernel
theorem dX2_areApart_97 : decode cX2_areApart 97 = .ok (.iinc 4 1, 3) := by decide +kernel
theorem dX2_areApart_100 : decode cX2_areApart 100 = .ok (.goto (-29), 3) := by decide +kernel
theorem dX2_areApart_103 : decode cX2_areApart 103 = .ok (.iconst 1, 1) := by decide +kernel
theorem dX2_areApart_104 : decode cX2_areApart 104 = .ok (.ireturn, 1) := by decide +kernel
set_option maxRecDepth 20000 in
theorem ggX2_readyOn_X8_has : GoodIn wsX2_readyOn wsX8_has := goodIn_r _ [8] (by decide +kernel) (by decide +kernel)
set_option maxRecDepth 20000 in
theorem gX2_readyOn_X8_has_n55 : GoodIn wsX2_readyOn (wsX8_has) := ggX2_readyOn_X8_has
set_option maxRecDepth 20000 in
theorem ggX2_readyOn_X7_clashOf : GoodIn wsX2_readyOn wsX7_clashOf := goodIn_r _ [13, 14, 15, 16, 6, 7, 8, 21, 22, 23, 24, 25, 26, 27, 28, 29, 30] (by decide +kernel) (by decide +kernel)
set_option maxRecDepth 20000 in
theorem gX2_readyOn_X7_clashOf : GoodIn wsX2_readyOn (wsV RX2 37 RX7 yX7_clashOf wsX7_clashOf) := goodIn_app (goodIn_of _ (by decide +kernel)) ggX2_readyOn_X7_clashOf
theorem dX2_readyOn_0 : decode cX2_readyOn 0 = .ok (.iconst 0, 1) := by decide +kernel
theorem dX2_readyOn_1 : decode cX2_readyOn 1 = .ok (.istore_n 2, 1) := by decide +kernel
theorem dX2_readyOn_2 : decode cX2_readyOn 2 = .ok (.iconst 0, 1) := by decide +kernel
theorem dX2_readyOn_3 : decode cX2_readyOn 3 = .ok (.istore_n 3, 1) := by decide +kernel
theorem dX2_readyOn_4 : decode cX2_readyOn 4 = .ok (.iload_n 3, 1) := by decide +kernel
theorem dX2_readyOn_5 : decode cX2_readyOn 5 = .ok (.aload_n 0, 1) := by decide +kernel
theorem dX2_readyOn_6 : decode cX2_readyOn 6 = .ok (.getfield 18, 3) := by decide +kernel
theorem dX2_readyOn_9 : decode cX2_readyOn 9 = .ok (.getfield 51, 3) := by decide +kernel
theorem dX2_readyOn_12 : decode cX2_readyOn 12 = .ok (.if_icmp .ge 50, 3) := by decide +kernel
theorem dX2_readyOn_15 : decode cX2_readyOn 15 = .ok (.aload_n 0, 1) := by decide +kernel
theorem dX2_readyOn_16 : decode cX2_readyOn 16 = .ok (.getfield 22, 3) := by decide +kernel
theorem dX2_readyOn_19 : decode cX2_readyOn 19 = .ok (.getfield 59, 3) := by decide +kernel
theorem dX2_readyOn_22 : decode cX2_readyOn 22 = .ok (.iload_n 1, 1) := by decide +kernel
theorem dX2_readyOn_23 : decode cX2_readyOn 23 = .ok (.iaload, 1) := by decide +kernel
theorem dX2_readyOn_24 : decode cX2_readyOn 24 = .ok (.iload_n 3, 1) := by decide +kernel
theorem dX2_readyOn_25 : decode cX2_readyOn 25 = .ok (.invokestatic 55, 3) := by decide +kernel
theorem dX2_readyOn_28 : decode cX2_readyOn 28 = .ok (.ifCond .ne 28, 3) := by decide +kernel
theorem dX2_readyOn_31 : decode cX2_readyOn 31 = .ok (.aload_n 0, 1) := by decide +kernel
theorem dX2_readyOn_32 : decode cX2_readyOn 32 = .ok (.getfield 18, 3) := by decide +kernel
theorem dX2_readyOn_35 : decode cX2_readyOn 35 = .ok (.iload_n 3, 1) := by decide +kernel
theorem dX2_readyOn_36 : decode cX2_readyOn 36 = .ok (.aload_n 0, 1) := by decide +kernel
theorem dX2_readyOn_37 : decode cX2_readyOn 37 = .ok (.getfield 22, 3) := by decide +kernel
theorem dX2_readyOn_40 : decode cX2_readyOn 40 = .ok (.getfield 26, 3) := by decide +kernel
theorem dX2_readyOn_43 : decode cX2_readyOn 43 = .ok (.iload_n 1, 1) := by decide +kernel
theorem dX2_readyOn_44 : decode cX2_readyOn 44 = .ok (.invokevirtual 37, 3) := by decide +kernel
theorem dX2_readyOn_47 : decode cX2_readyOn 47 = .ok (.ifCond .ne 9, 3) := by decide +kernel
theorem dX2_readyOn_50 : decode cX2_readyOn 50 = .ok (.iload_n 2, 1) := by decide +kernel
theorem dX2_readyOn_51 : decode cX2_readyOn 51 = .ok (.iconst 1, 1) := by decide +kernel
theorem dX2_readyOn_52 : decode cX2_readyOn 52 = .ok (.iload_n 3, 1) := by decide +kernel
theorem dX2_readyOn_53 : decode cX2_readyOn 53 = .ok (.ishl, 1) := by decide +kernel
theorem dX2_readyOn_54 : decode cX2_readyOn 54 = .ok (.ior, 1) := by decide +kernel
theorem dX2_readyOn_55 : decode cX2_readyOn 55 = .ok (.istore_n 2, 1) := by decide +kernel
theorem dX2_readyOn_56 : decode cX2_readyOn 56 = .ok (.iinc 3 1, 3) := by decide +kernel
theorem dX2_readyOn_59 : decode cX2_readyOn 59 = .ok (.goto (-55), 3) := by decide +kernel
theorem dX2_readyOn_62 : decode cX2_readyOn 62 = .ok (.iload_n 2, 1) := by decide +kernel
theorem dX2_readyOn_63 : decode cX2_readyOn 63 = .ok (.ireturn, 1) := by decide +kernel
set_option maxRecDepth 20000 in
theorem ggX2_inReach_X2_lay : GoodIn wsX2_inReach wsX2_lay := goodIn_r _ [9, 2, 10, 11, 12, 13, 14, 36, 37, 38, 39, 40, 41, 42, 43, 44, 45, 46, 47, 48, 49] (by decide +kernel) (by decide +kernel)
set_option maxRecDepth 20000 in
theorem gX2_inReach_X2_lay : GoodIn wsX2_inReach (wsV RX2 47 RX2 yX2_lay wsX2_lay) := goodIn_app (goodIn_of _ (by decide +kernel)) ggX2_inReach_X2_lay
set_option maxRecDepth 20000 in
theorem ggX2_inReach_X2_leastReady : GoodIn wsX2_inReach wsX2_leastReady := goodIn_r _ [18, 4, 19, 1, 20, 21, 22, 23, 24, 25, 26, 27, 28, 29, 30, 36, 37, 38, 39, 50, 51, 52, 53, 54, 55, 56, 57, 58, 59] (by decide +kernel) (by decide +kernel)
set_option maxRecDepth 20000 in
theorem gX2_inReach_X2_leastReady : GoodIn wsX2_inReach (wsV RX2 76 RX2 yX2_leastReady wsX2_leastReady) := goodIn_app (goodIn_of _ (by decide +kernel)) ggX2_inReach_X2_leastReady
set_option maxRecDepth 20000 in
theorem ggX2_inReach_X7_putOn : GoodIn wsX2_inReach wsX7_putOn := goodIn_r _ [34, 28, 35, 20, 21, 22, 50, 51, 52, 53, 54, 55, 56, 57, 58, 59] (by decide +kernel) (by decide +kernel)
set_option maxRecDepth 20000 in
theorem gX2_inReach_X7_putOn : GoodIn wsX2_inReach (wsV RX2 43 RX7 yX7_putOn wsX7_putOn) := goodIn_app (goodIn_of _ (by decide +kernel)) ggX2_inReach_X7_putOn
theorem dX2_inReach_0 : decode cX2_inReach 0 = .ok (.aload_n 0, 1) := by decide +kernel
theorem dX2_inReach_1 : decode cX2_inReach 1 = .ok (.iload_n 1, 1) := by decide +kernel
theorem dX2_inReach_2 : decode cX2_inReach 2 = .ok (.aload_n 0, 1) := by decide +kernel
theorem dX2_inReach_3 : decode cX2_inReach 3 = .ok (.getfield 9, 3) := by decide +kernel
theorem dX2_inReach_6 : decode cX2_inReach 6 = .ok (.invokevirtual 47, 3) := by decide +kernel
theorem dX2_inReach_9 : decode cX2_inReach 9 = .ok (.iconst 0, 1) := by decide +kernel
theorem dX2_inReach_10 : decode cX2_inReach 10 = .ok (.istore_n 2, 1) := by decide +kernel
theorem dX2_inReach_11 : decode cX2_inReach 11 = .ok (.iconst 0, 1) := by decide +kernel
theorem dX2_inReach_12 : decode cX2_inReach 12 = .ok (.istore_n 3, 1) := by decide +kernel
theorem dX2_inReach_13 : decode cX2_inReach 13 = .ok (.iload_n 3, 1) := by decide +kernel
theorem dX2_inReach_14 : decode cX2_inReach 14 = .ok (.bipush 24, 2) := by decide +kernel
theorem dX2_inReach_16 : decode cX2_inReach 16 = .ok (.if_icmp .ge 55, 3) := by decide +kernel
theorem dX2_inReach_19 : decode cX2_inReach 19 = .ok (.aload_n 0, 1) := by decide +kernel
theorem dX2_inReach_20 : decode cX2_inReach 20 = .ok (.aload_n 0, 1) := by decide +kernel
theorem dX2_inReach_21 : decode cX2_inReach 21 = .ok (.getfield 22, 3) := by decide +kernel
theorem dX2_inReach_24 : decode cX2_inReach 24 = .ok (.getfield 59, 3) := by decide +kernel
theorem dX2_inReach_27 : decode cX2_inReach 27 = .ok (.iload_n 1, 1) := by decide +kernel
theorem dX2_inReach_28 : decode cX2_inReach 28 = .ok (.iaload, 1) := by decide +kernel
theorem dX2_inReach_29 : decode cX2_inReach 29 = .ok (.iload_n 2, 1) := by decide +kernel
theorem dX2_inReach_30 : decode cX2_inReach 30 = .ok (.ior, 1) := by decide +kernel
theorem dX2_inReach_31 : decode cX2_inReach 31 = .ok (.invokevirtual 76, 3) := by decide +kernel
theorem dX2_inReach_34 : decode cX2_inReach 34 = .ok (.istore 4, 2) := by decide +kernel
theorem dX2_inReach_36 : decode cX2_inReach 36 = .ok (.iload 4, 2) := by decide +kernel
theorem dX2_inReach_38 : decode cX2_inReach 38 = .ok (.iconst (-1), 1) := by decide +kernel
theorem dX2_inReach_39 : decode cX2_inReach 39 = .ok (.if_icmp .ne 5, 3) := by decide +kernel
theorem dX2_inReach_42 : decode cX2_inReach 42 = .ok (.iload_n 2, 1) := by decide +kernel
theorem dX2_inReach_43 : decode cX2_inReach 43 = .ok (.ireturn, 1) := by decide +kernel
theorem dX2_inReach_44 : decode cX2_inReach 44 = .ok (.aload_n 0, 1) := by decide +kernel
theorem dX2_inReach_45 : decode cX2_inReach 45 = .ok (.getfield 18, 3) := by decide +kernel
theorem dX2_inReach_48 : decode cX2_inReach 48 = .ok (.iload 4, 2) := by decide +kernel
theorem dX2_inReach_50 : decode cX2_inReach 50 = .ok (.aload_n 0, 1) := by decide +kernel
theorem dX2_inReach_51 : decode cX2_inReach 51 = .ok (.getfield 9, 3) := by decide +kernel
theorem dX2_inReach_54 : decode cX2_inReach 54 = .ok (.iconst 0, 1) := by decide +kernel
theorem dX2_inReach_55 : decode cX2_inReach 55 = .ok (.invokevirtual 43, 3) := by decide +kernel
theorem dX2_inReach_58 : decode cX2_inReach 58 = .ok (.iload_n 2, 1) := by decide +kernel
theorem dX2_inReach_59 : decode cX2_inReach 59 = .ok (.iconst 1, 1) := by decide +kernel
theorem dX2_inReach_60 : decode cX2_inReach 60 = .ok (.iload 4, 2) := by decide +kernel
theorem dX2_inReach_62 : decode cX2_inReach 62 = .ok (.ishl, 1) := by decide +kernel
theorem dX2_inReach_63 : decode cX2_inReach 63 = .ok (.ior, 1) := by decide +kernel
theorem dX2_inReach_64 : decode cX2_inReach 64 = .ok (.istore_n 2, 1) := by decide +kernel
theorem dX2_inReach_65 : decode cX2_inReach 65 = .ok (.iinc 3 1, 3) := by decide +kernel
theorem dX2_inReach_68 : decode cX2_inReach 68 = .ok (.goto (-55), 3) := by decide +kernel
theorem dX2_inReach_71 : decode cX2_inReach 71 = .ok (.iload_n 2, 1) := by decide +kernel
theorem dX2_inReach_72 : decode cX2_inReach 72 = .ok (.ireturn, 1) := by decide +kernel
set_option maxRecDepth 20000 in
theorem ggX2_leastReady_X8_has : GoodIn wsX2_leastReady wsX8_has := goodIn_r _ [6] (by decide +kernel) (by decide +kernel)
set_option maxRecDepth 20000 in
theorem gX2_leastReady_X8_has_n55 : GoodIn wsX2_leastReady (wsX8_has) := ggX2_leastReady_X8_has
set_option maxRecDepth 20000 in
theorem ggX2_leastReady_X7_clashOf : GoodIn wsX2_leastReady wsX7_clashOf := goodIn_r _ [11, 12, 13, 14, 4, 5, 6, 19, 20, 21, 22, 23, 24, 25, 26, 27, 28] (by decide +kernel) (by decide +kernel)
set_option maxRecDepth 20000 in
theorem gX2_leastReady_X7_clashOf : GoodIn wsX2_leastReady (wsV RX2 37 RX7 yX7_clashOf wsX7_clashOf) := goodIn_app (goodIn_of _ (by decide +kernel)) ggX2_leastReady_X7_clashOf
theorem dX2_leastReady_0 : decode cX2_leastReady 0 = .ok (.iconst 0, 1) := by decide +kernel
theorem dX2_leastReady_1 : decode cX2_leastReady 1 = .ok (.istore_n 2, 1) := by decide +kernel
theorem dX2_leastReady_2 : decode cX2_leastReady 2 = .ok (.iload_n 2, 1) := by decide +kernel
theorem dX2_leastReady_3 : decode cX2_leastReady 3 = .ok (.aload_n 0, 1) := by decide +kernel
theorem dX2_leastReady_4 : decode cX2_leastReady 4 = .ok (.getfield 18, 3) := by decide +kernel
theorem dX2_leastReady_7 : decode cX2_leastReady 7 = .ok (.getfield 51, 3) := by decide +kernel
theorem dX2_leastReady_10 : decode cX2_leastReady 10 = .ok (.if_icmp .ge 35, 3) := by decide +kernel
theorem dX2_leastReady_13 : decode cX2_leastReady 13 = .ok (.iload_n 1, 1) := by decide +kernel
theorem dX2_leastReady_14 : decode cX2_leastReady 14 = .ok (.iload_n 2, 1) := by decide +kernel
theorem dX2_leastReady_15 : decode cX2_leastReady 15 = .ok (.invokestatic 55, 3) := by decide +kernel
theorem dX2_leastReady_18 : decode cX2_leastReady 18 = .ok (.ifCond .ne 21, 3) := by decide +kernel
theorem dX2_leastReady_21 : decode cX2_leastReady 21 = .ok (.aload_n 0, 1) := by decide +kernel
theorem dX2_leastReady_22 : decode cX2_leastReady 22 = .ok (.getfield 18, 3) := by decide +kernel
theorem dX2_leastReady_25 : decode cX2_leastReady 25 = .ok (.iload_n 2, 1) := by decide +kernel
theorem dX2_leastReady_26 : decode cX2_leastReady 26 = .ok (.aload_n 0, 1) := by decide +kernel
theorem dX2_leastReady_27 : decode cX2_leastReady 27 = .ok (.getfield 9, 3) := by decide +kernel
theorem dX2_leastReady_30 : decode cX2_leastReady 30 = .ok (.iconst 0, 1) := by decide +kernel
theorem dX2_leastReady_31 : decode cX2_leastReady 31 = .ok (.invokevirtual 37, 3) := by decide +kernel
theorem dX2_leastReady_34 : decode cX2_leastReady 34 = .ok (.ifCond .ne 5, 3) := by decide +kernel
theorem dX2_leastReady_37 : decode cX2_leastReady 37 = .ok (.iload_n 2, 1) := by decide +kernel
theorem dX2_leastReady_38 : decode cX2_leastReady 38 = .ok (.ireturn, 1) := by decide +kernel
theorem dX2_leastReady_39 : decode cX2_leastReady 39 = .ok (.iinc 2 1, 3) := by decide +kernel
theorem dX2_leastReady_42 : decode cX2_leastReady 42 = .ok (.goto (-40), 3) := by decide +kernel
theorem dX2_leastReady_45 : decode cX2_leastReady 45 = .ok (.iconst (-1), 1) := by decide +kernel
theorem dX2_leastReady_46 : decode cX2_leastReady 46 = .ok (.ireturn, 1) := by decide +kernel
theorem dX3_init_0 : decode cX3_init 0 = .ok (.aload_n 0, 1) := by decide +kernel
theorem dX3_init_1 : decode cX3_init 1 = .ok (.invokespecial 3, 3) := by decide +kernel
theorem dX3_init_4 : decode cX3_init 4 = .ok (.aload_n 0, 1) := by decide +kernel
theorem dX3_init_5 : decode cX3_init 5 = .ok (.iconst 0, 1) := by decide +kernel
theorem dX3_init_6 : decode cX3_init 6 = .ok (.putfield 9, 3) := by decide +kernel
theorem dX3_init_9 : decode cX3_init 9 = .ok (.aload_n 0, 1) := by decide +kernel
theorem dX3_init_10 : decode cX3_init 10 = .ok (.iconst 0, 1) := by decide +kernel
theorem dX3_init_11 : decode cX3_init 11 = .ok (.putfield 15, 3) := by decide +kernel
theorem dX3_init_14 : decode cX3_init 14 = .ok (.aload_n 0, 1) := by decide +kernel
theorem dX3_init_15 : decode cX3_init 15 = .ok (.iconst 0, 1) := by decide +kernel
theorem dX3_init_16 : decode cX3_init 16 = .ok (.putfield 18, 3) := by decide +kernel
theorem dX3_init_19 : decode cX3_init 19 = .ok (.aload_n 0, 1) := by decide +kernel
theorem dX3_init_20 : decode cX3_init 20 = .ok (.iconst 0, 1) := by decide +kernel
theorem dX3_init_21 : decode cX3_init 21 = .ok (.putfield 21, 3) := by decide +kernel
theorem dX3_init_24 : decode cX3_init 24 = .ok (.aload_n 0, 1) := by decide +kernel
theorem dX3_init_25 : decode cX3_init 25 = .ok (.iconst 0, 1) := by decide +kernel
theorem dX3_init_26 : decode cX3_init 26 = .ok (.putfield 24, 3) := by decide +kernel
theorem dX3_init_29 : decode cX3_init 29 = .ok (.aload_n 0, 1) := by decide +kernel
theorem dX3_init_30 : decode cX3_init 30 = .ok (.iconst 0, 1) := by decide +kernel
theorem dX3_init_31 : decode cX3_init 31 = .ok (.putfield 27, 3) := by decide +kernel
theorem dX3_init_34 : decode cX3_init 34 = .ok (.aload_n 0, 1) := by decide +kernel
theorem dX3_init_35 : decode cX3_init 35 = .ok (.iconst (-1), 1) := by decide +kernel
theorem dX3_init_36 : decode cX3_init 36 = .ok (.putfield 30, 3) := by decide +kernel
theorem dX3_init_39 : decode cX3_init 39 = .ok (.aload_n 0, 1) := by decide +kernel
theorem dX3_init_40 : decode cX3_init 40 = .ok (.aload_n 1, 1) := by decide +kernel
theorem dX3_init_41 : decode cX3_init 41 = .ok (.putfield 33, 3) := by decide +kernel
theorem dX3_init_44 : decode cX3_init 44 = .ok (.return_, 1) := by decide +kernel
set_option maxRecDepth 20000 in
theorem ggX3_begin_X3_step : GoodIn wsX3_begin wsX3_step := goodIn_r _ [9, 10, 11, 2, 12, 13, 14, 15, 16, 8, 17, 18, 19, 20, 21, 22, 23, 24, 25, 26, 27] (by decide +kernel) (by decide +kernel)
set_option maxRecDepth 20000 in
theorem gX3_begin_X3_step : GoodIn wsX3_begin (wsV RX3 37 RX3 yX3_step wsX3_step) := goodIn_app (goodIn_of _ (by decide +kernel)) ggX3_begin_X3_step
theorem dX3_begin_0 : decode cX3_begin 0 = .ok (.aload_n 0, 1) := by decide +kernel
theorem dX3_begin_1 : decode cX3_begin 1 = .ok (.iload_n 1, 1) := by decide +kernel
theorem dX3_begin_2 : decode cX3_begin 2 = .ok (.putfield 9, 3) := by decide +kernel
theorem dX3_begin_5 : decode cX3_begin 5 = .ok (.aload_n 0, 1) := by decide +kernel
theorem dX3_begin_6 : decode cX3_begin 6 = .ok (.iconst 0, 1) := by decide +kernel
theorem dX3_begin_7 : decode cX3_begin 7 = .ok (.putfield 21, 3) := by decide +kernel
theorem dX3_begin_10 : decode cX3_begin 10 = .ok (.aload_n 0, 1) := by decide +kernel
theorem dX3_begin_11 : decode cX3_begin 11 = .ok (.iconst 0, 1) := by decide +kernel
theorem dX3_begin_12 : decode cX3_begin 12 = .ok (.putfield 27, 3) := by decide +kernel
theorem dX3_begin_15 : decode cX3_begin 15 = .ok (.aload_n 0, 1) := by decide +kernel
theorem dX3_begin_16 : decode cX3_begin 16 = .ok (.iconst (-1), 1) := by decide +kernel
theorem dX3_begin_17 : decode cX3_begin 17 = .ok (.putfield 30, 3) := by decide +kernel
theorem dX3_begin_20 : decode cX3_begin 20 = .ok (.aload_n 0, 1) := by decide +kernel
theorem dX3_begin_21 : decode cX3_begin 21 = .ok (.invokevirtual 37, 3) := by decide +kernel
theorem dX3_begin_24 : decode cX3_begin 24 = .ok (.return_, 1) := by decide +kernel
theorem dX3_atEnd_0 : decode cX3_atEnd 0 = .ok (.aload_n 0, 1) := by decide +kernel
theorem dX3_atEnd_1 : decode cX3_atEnd 1 = .ok (.getfield 15, 3) := by decide +kernel
theorem dX3_atEnd_4 : decode cX3_atEnd 4 = .ok (.ifCond .ne 7, 3) := by decide +kernel
theorem dX3_atEnd_7 : decode cX3_atEnd 7 = .ok (.iconst 1, 1) := by decide +kernel
theorem dX3_atEnd_8 : decode cX3_atEnd 8 = .ok (.goto 4, 3) := by decide +kernel
theorem dX3_atEnd_11 : decode cX3_atEnd 11 = .ok (.iconst 0, 1) := by decide +kernel
theorem dX3_atEnd_12 : decode cX3_atEnd 12 = .ok (.ireturn, 1) := by decide +kernel
set_option maxRecDepth 20000 in
theorem ggX3_step_X3_kindOf : GoodIn wsX3_step wsX3_kindOf := goodIn_r _ [10] (by decide +kernel) (by decide +kernel)
set_option maxRecDepth 20000 in
theorem gX3_step_X3_kindOf : GoodIn wsX3_step (va_wsS RX3 49 yX3_kindOf wsX3_kindOf) := goodIn_app (goodIn_of _ (by decide +kernel)) ggX3_step_X3_kindOf
theorem dX3_step_0 : decode cX3_step 0 = .ok (.aload_n 0, 1) := by decide +kernel
theorem dX3_step_1 : decode cX3_step 1 = .ok (.getfield 33, 3) := by decide +kernel
theorem dX3_step_4 : decode cX3_step 4 = .ok (.getfield 40, 3) := by decide +kernel
theorem dX3_step_7 : decode cX3_step 7 = .ok (.istore_n 1, 1) := by decide +kernel
theorem dX3_step_8 : decode cX3_step 8 = .ok (.aload_n 0, 1) := by decide +kernel
theorem dX3_step_9 : decode cX3_step 9 = .ok (.getfield 21, 3) := by decide +kernel
theorem dX3_step_12 : decode cX3_step 12 = .ok (.istore_n 2, 1) := by decide +kernel
theorem dX3_step_13 : decode cX3_step 13 = .ok (.iload_n 2, 1) := by decide +kernel
theorem dX3_step_14 : decode cX3_step 14 = .ok (.iload_n 1, 1) := by decide +kernel
theorem dX3_step_15 : decode cX3_step 15 = .ok (.if_icmp .ge 23, 3) := by decide +kernel
theorem dX3_step_18 : decode cX3_step 18 = .ok (.aload_n 0, 1) := by decide +kernel
theorem dX3_step_19 : decode cX3_step 19 = .ok (.getfield 33, 3) := by decide +kernel
theorem dX3_step_22 : decode cX3_step 22 = .ok (.getfield 45, 3) := by decide +kernel
theorem dX3_step_25 : decode cX3_step 25 = .ok (.iload_n 2, 1) := by decide +kernel
theorem dX3_step_26 : decode cX3_step 26 = .ok (.iaload, 1) := by decide +kernel
theorem dX3_step_27 : decode cX3_step 27 = .ok (.bipush 32, 2) := by decide +kernel
theorem dX3_step_29 : decode cX3_step 29 = .ok (.if_icmp .ne 9, 3) := by decide +kernel
theorem dX3_step_32 : decode cX3_step 32 = .ok (.iinc 2 1, 3) := by decide +kernel
theorem dX3_step_35 : decode cX3_step 35 = .ok (.goto (-22), 3) := by decide +kernel
theorem dX3_step_38 : decode cX3_step 38 = .ok (.aload_n 0, 1) := by decide +kernel
theorem dX3_step_39 : decode cX3_step 39 = .ok (.iload_n 2, 1) := by decide +kernel
theorem dX3_step_40 : decode cX3_step 40 = .ok (.putfield 18, 3) := by decide +kernel
theorem dX3_step_43 : decode cX3_step 43 = .ok (.aload_n 0, 1) := by decide +kernel
theorem dX3_step_44 : decode cX3_step 44 = .ok (.iload_n 2, 1) := by decide +kernel
theorem dX3_step_45 : decode cX3_step 45 = .ok (.iload_n 1, 1) := by decide +kernel
theorem dX3_step_46 : decode cX3_step 46 = .ok (.if_icmp .ge 18, 3) := by decide +kernel
theorem dX3_step_49 : decode cX3_step 49 = .ok (.aload_n 0, 1) := by decide +kernel
theorem dX3_step_50 : decode cX3_step 50 = .ok (.getfield 33, 3) := by decide +kernel
theorem dX3_step_53 : decode cX3_step 53 = .ok (.getfield 45, 3) := by decide +kernel
theorem dX3_step_56 : decode cX3_step 56 = .ok (.iload_n 2, 1) := by decide +kernel
theorem dX3_step_57 : decode cX3_step 57 = .ok (.iaload, 1) := by decide +kernel
theorem dX3_step_58 : decode cX3_step 58 = .ok (.invokestatic 49, 3) := by decide +kernel
theorem dX3_step_61 : decode cX3_step 61 = .ok (.goto 4, 3) := by decide +kernel
theorem dX3_step_64 : decode cX3_step 64 = .ok (.iconst 0, 1) := by decide +kernel
theorem dX3_step_65 : decode cX3_step 65 = .ok (.putfield 15, 3) := by decide +kernel
theorem dX3_step_68 : decode cX3_step 68 = .ok (.aload_n 0, 1) := by decide +kernel
theorem dX3_step_69 : decode cX3_step 69 = .ok (.getfield 15, 3) := by decide +kernel
theorem dX3_step_72 : decode cX3_step 72 = .ok (.iconst 3, 1) := by decide +kernel
theorem dX3_step_73 : decode cX3_step 73 = .ok (.if_icmp .ne 9, 3) := by decide +kernel
theorem dX3_step_76 : decode cX3_step 76 = .ok (.iinc 2 1, 3) := by decide +kernel
theorem dX3_step_79 : decode cX3_step 79 = .ok (.goto 40, 3) := by decide +kernel
theorem dX3_step_82 : decode cX3_step 82 = .ok (.aload_n 0, 1) := by decide +kernel
theorem dX3_step_83 : decode cX3_step 83 = .ok (.getfield 15, 3) := by decide +kernel
theorem dX3_step_86 : decode cX3_step 86 = .ok (.ifCond .eq 33, 3) := by decide +kernel
theorem dX3_step_89 : decode cX3_step 89 = .ok (.iload_n 2, 1) := by decide +kernel
theorem dX3_step_90 : decode cX3_step 90 = .ok (.iload_n 1, 1) := by decide +kernel
theorem dX3_step_91 : decode cX3_step 91 = .ok (.if_icmp .ge 28, 3) := by decide +kernel
theorem dX3_step_94 : decode cX3_step 94 = .ok (.aload_n 0, 1) := by decide +kernel
theorem dX3_step_95 : decode cX3_step 95 = .ok (.getfield 33, 3) := by decide +kernel
theorem dX3_step_98 : decode cX3_step 98 = .ok (.getfield 45, 3) := by decide +kernel
theorem dX3_step_101 : decode cX3_step 101 = .ok (.iload_n 2, 1) := by decide +kernel
theorem dX3_step_102 : decode cX3_step 102 = .ok (.iaload, 1) := by decide +kernel
theorem dX3_step_103 : decode cX3_step 103 = .ok (.invokestatic 49, 3) := by decide +kernel
theorem dX3_step_106 : decode cX3_step 106 = .ok (.aload_n 0, 1) := by decide +kernel
theorem dX3_step_107 : decode cX3_step 107 = .ok (.getfield 15, 3) := by decide +kernel
theorem dX3_step_110 : decode cX3_step 110 = .ok (.if_icmp .ne 9, 3) := by decide +kernel
theorem dX3_step_113 : decode cX3_step 113 = .ok (.iinc 2 1, 3) := by decide +kernel
theorem dX3_step_116 : decode cX3_step 116 = .ok (.goto (-27), 3) := by decide +kernel
theorem dX3_step_119 : decode cX3_step 119 = .ok (.aload_n 0, 1) := by decide +kernel
theorem dX3_step_120 : decode cX3_step 120 = .ok (.iload_n 2, 1) := by decide +kernel
theorem dX3_step_121 : decode cX3_step 121 = .ok (.putfield 21, 3) := by decide +kernel
theorem dX3_step_124 : decode cX3_step 124 = .ok (.return_, 1) := by decide +kernel
theorem dX3_kindOf_0 : decode cX3_kindOf 0 = .ok (.iload_n 0, 1) := by decide +kernel
theorem dX3_kindOf_1 : decode cX3_kindOf 1 = .ok (.bipush 97, 2) := by decide +kernel
theorem dX3_kindOf_3 : decode cX3_kindOf 3 = .ok (.if_icmp .lt 11, 3) := by decide +kernel
theorem dX3_kindOf_6 : decode cX3_kindOf 6 = .ok (.iload_n 0, 1) := by decide +kernel
theorem dX3_kindOf_7 : decode cX3_kindOf 7 = .ok (.bipush 122, 2) := by decide +kernel
theorem dX3_kindOf_9 : decode cX3_kindOf 9 = .ok (.if_icmp .gt 5, 3) := by decide +kernel
theorem dX3_kindOf_12 : decode cX3_kindOf 12 = .ok (.iconst 1, 1) := by decide +kernel
theorem dX3_kindOf_13 : decode cX3_kindOf 13 = .ok (.ireturn, 1) := by decide +kernel
theorem dX3_kindOf_14 : decode cX3_kindOf 14 = .ok (.iload_n 0, 1) := by decide +kernel
theorem dX3_kindOf_15 : decode cX3_kindOf 15 = .ok (.bipush 48, 2) := by decide +kernel
theorem dX3_kindOf_17 : decode cX3_kindOf 17 = .ok (.if_icmp .lt 13, 3) := by decide +kernel
theorem dX3_kindOf_20 : decode cX3_kindOf 20 = .ok (.iload_n 0, 1) := by decide +kernel
theorem dX3_kindOf_21 : decode cX3_kindOf 21 = .ok (.bipush 57, 2) := by decide +kernel
theorem dX3_kindOf_23 : decode cX3_kindOf 23 = .ok (.if_icmp .gt 7, 3) := by decide +kernel
theorem dX3_kindOf_26 : decode cX3_kindOf 26 = .ok (.iconst 2, 1) := by decide +kernel
theorem dX3_kindOf_27 : decode cX3_kindOf 27 = .ok (.goto 4, 3) := by decide +kernel
theorem dX3_kindOf_30 : decode cX3_kindOf 30 = .ok (.iconst 3, 1) := by decide +kernel
theorem dX3_kindOf_31 : decode cX3_kindOf 31 = .ok (.ireturn, 1) := by decide +kernel
set_option maxRecDepth 20000 in
theorem ggX3_isWord_J0_length_8abf5 : GoodIn wsX3_isWord wsJ0_length_8abf5 := goodIn_r _ [10, 11, 12, 13, 14, 9, 15, 16, 17] (by decide +kernel) (by decide +kernel)
set_option maxRecDepth 20000 in
theorem gX3_isWord_J0_length_8abf5 : GoodIn wsX3_isWord (wsV RX3 53 RJ0 yJ0_length_8abf5 wsJ0_length_8abf5) := goodIn_app (goodIn_of _ (by decide +kernel)) ggX3_isWord_J0_length_8abf5
set_option maxRecDepth 20000 in
theorem ggX3_isWord_J0_charAt_5068e : GoodIn wsX3_isWord wsJ0_charAt_5068e := goodIn_r _ [21, 11, 22, 23, 24, 9, 25, 16, 17, 26, 27, 28, 29, 30, 31, 32, 33, 34, 35, 36, 37, 38, 39, 40, 41, 42, 43, 44, 45, 46, 47, 48, 49, 50, 51, 52, 53, 54] (by decide +kernel) (by decide +kernel)
set_option maxRecDepth 20000 in
theorem gX3_isWord_J0_charAt_5068e : GoodIn wsX3_isWord (wsV RX3 58 RJ0 yJ0_charAt_5068e wsJ0_charAt_5068e) := goodIn_app (goodIn_of _ (by decide +kernel)) ggX3_isWord_J0_charAt_5068e
theorem dX3_isWord_0 : decode cX3_isWord 0 = .ok (.aload_n 0, 1) := by decide +kernel
theorem dX3_isWord_1 : decode cX3_isWord 1 = .ok (.getfield 15, 3) := by decide +kernel
theorem dX3_isWord_4 : decode cX3_isWord 4 = .ok (.iconst 1, 1) := by decide +kernel
theorem dX3_isWord_5 : decode cX3_isWord 5 = .ok (.if_icmp .ne 19, 3) := by decide +kernel
theorem dX3_isWord_8 : decode cX3_isWord 8 = .ok (.aload_n 0, 1) := by decide +kernel
theorem dX3_isWord_9 : decode cX3_isWord 9 = .ok (.getfield 21, 3) := by decide +kernel
theorem dX3_isWord_12 : decode cX3_isWord 12 = .ok (.aload_n 0, 1) := by decide +kernel
theorem dX3_isWord_13 : decode cX3_isWord 13 = .ok (.getfield 18, 3) := by decide +kernel
theorem dX3_isWord_16 : decode cX3_isWord 16 = .ok (.isub, 1) := by decide +kernel
theorem dX3_isWord_17 : decode cX3_isWord 17 = .ok (.aload_n 1, 1) := by decide +kernel
theorem dX3_isWord_18 : decode cX3_isWord 18 = .ok (.invokevirtual 53, 3) := by decide +kernel
theorem dX3_isWord_21 : decode cX3_isWord 21 = .ok (.if_icmp .eq 5, 3) := by decide +kernel
theorem dX3_isWord_24 : decode cX3_isWord 24 = .ok (.iconst 0, 1) := by decide +kernel
theorem dX3_isWord_25 : decode cX3_isWord 25 = .ok (.ireturn, 1) := by decide +kernel
theorem dX3_isWord_26 : decode cX3_isWord 26 = .ok (.iconst 0, 1) := by decide +kernel
theorem dX3_isWord_27 : decode cX3_isWord 27 = .ok (.istore_n 2, 1) := by decide +kernel
theorem dX3_isWord_28 : decode cX3_isWord 28 = .ok (.iload_n 2, 1) := by decide +kernel
theorem dX3_isWord_29 : decode cX3_isWord 29 = .ok (.aload_n 1, 1) := by decide +kernel
theorem dX3_isWord_30 : decode cX3_isWord 30 = .ok (.invokevirtual 53, 3) := by decide +kernel
theorem dX3_isWord_33 : decode cX3_isWord 33 = .ok (.if_icmp .ge 33, 3) := by decide +kernel
theorem dX3_isWord_36 : decode cX3_isWord 36 = .ok (.aload_n 0, 1) := by decide +kernel
theorem dX3_isWord_37 : decode cX3_isWord 37 = .ok (.getfield 33, 3) := by decide +kernel
theorem dX3_isWord_40 : decode cX3_isWord 40 = .ok (.getfield 45, 3) := by decide +kernel
theorem dX3_isWord_43 : decode cX3_isWord 43 = .ok (.aload_n 0, 1) := by decide +kernel
theorem dX3_isWord_44 : decode cX3_isWord 44 = .ok (.getfield 18, 3) := by decide +kernel
theorem dX3_isWord_47 : decode cX3_isWord 47 = .ok (.iload_n 2, 1) := by decide +kernel
theorem dX3_isWord_48 : decode cX3_isWord 48 = .ok (.iadd, 1) := by decide +kernel
theorem dX3_isWord_49 : decode cX3_isWord 49 = .ok (.iaload, 1) := by decide +kernel
theorem dX3_isWord_50 : decode cX3_isWord 50 = .ok (.aload_n 1, 1) := by decide +kernel
theorem dX3_isWord_51 : decode cX3_isWord 51 = .ok (.iload_n 2, 1) := by decide +kernel
theorem dX3_isWord_52 : decode cX3_isWord 52 = .ok (.invokevirtual 58, 3) := by decide +kernel
theorem dX3_isWord_55 : decode cX3_isWord 55 = .ok (.if_icmp .eq 5, 3) := by decide +kernel
theorem dX3_isWord_58 : decode cX3_isWord 58 = .ok (.iconst 0, 1) := by decide +kernel
theorem dX3_isWord_59 : decode cX3_isWord 59 = .ok (.ireturn, 1) := by decide +kernel
theorem dX3_isWord_60 : decode cX3_isWord 60 = .ok (.iinc 2 1, 3) := by decide +kernel
theorem dX3_isWord_63 : decode cX3_isWord 63 = .ok (.goto (-35), 3) := by decide +kernel
theorem dX3_isWord_66 : decode cX3_isWord 66 = .ok (.iconst 1, 1) := by decide +kernel
theorem dX3_isWord_67 : decode cX3_isWord 67 = .ok (.ireturn, 1) := by decide +kernel
theorem dX3_isSign_0 : decode cX3_isSign 0 = .ok (.aload_n 0, 1) := by decide +kernel
theorem dX3_isSign_1 : decode cX3_isSign 1 = .ok (.getfield 15, 3) := by decide +kernel
theorem dX3_isSign_4 : decode cX3_isSign 4 = .ok (.iconst 3, 1) := by decide +kernel
theorem dX3_isSign_5 : decode cX3_isSign 5 = .ok (.if_icmp .ne 23, 3) := by decide +kernel
theorem dX3_isSign_8 : decode cX3_isSign 8 = .ok (.aload_n 0, 1) := by decide +kernel
theorem dX3_isSign_9 : decode cX3_isSign 9 = .ok (.getfield 33, 3) := by decide +kernel
theorem dX3_isSign_12 : decode cX3_isSign 12 = .ok (.getfield 45, 3) := by decide +kernel
theorem dX3_isSign_15 : decode cX3_isSign 15 = .ok (.aload_n 0, 1) := by decide +kernel
theorem dX3_isSign_16 : decode cX3_isSign 16 = .ok (.getfield 18, 3) := by decide +kernel
theorem dX3_isSign_19 : decode cX3_isSign 19 = .ok (.iaload, 1) := by decide +kernel
theorem dX3_isSign_20 : decode cX3_isSign 20 = .ok (.iload_n 1, 1) := by decide +kernel
theorem dX3_isSign_21 : decode cX3_isSign 21 = .ok (.if_icmp .ne 7, 3) := by decide +kernel
theorem dX3_isSign_24 : decode cX3_isSign 24 = .ok (.iconst 1, 1) := by decide +kernel
theorem dX3_isSign_25 : decode cX3_isSign 25 = .ok (.goto 4, 3) := by decide +kernel
theorem dX3_isSign_28 : decode cX3_isSign 28 = .ok (.iconst 0, 1) := by decide +kernel
theorem dX3_isSign_29 : decode cX3_isSign 29 = .ok (.ireturn, 1) := by decide +kernel
set_option maxRecDepth 20000 in
theorem ggX3_takeWord_X3_isWord : GoodIn wsX3_takeWord wsX3_isWord := goodIn_r _ [5, 6, 7, 8, 9, 10, 11, 12, 13, 14, 15, 16, 17, 18, 19, 20, 21, 22, 23, 24, 25, 26, 27, 28, 29, 30, 31, 32, 33, 34, 35, 36, 37, 38, 39, 40, 41, 42, 43, 44, 45, 46, 47, 48, 49, 50, 51, 52, 53, 54, 55, 56, 57, 58, 59, 68, 69, 70, 71, 72, 73, 74, 75, 76, 77] (by decide +kernel) (by decide +kernel)
set_option maxRecDepth 20000 in
theorem gX3_takeWord_X3_isWord : GoodIn wsX3_takeWord (wsV RX3 62 RX3 yX3_isWord wsX3_isWord) := goodIn_app (goodIn_of _ (by decide +kernel)) ggX3_takeWord_X3_isWord
set_option maxRecDepth 20000 in
theorem ggX3_takeWord_X3_step : GoodIn wsX3_takeWord wsX3_step := goodIn_r _ [63, 9, 64, 7, 10, 8, 6, 65, 66, 4, 67, 68, 69, 70, 71, 72, 73, 74, 75, 76, 77] (by decide +kernel) (by decide +kernel)
set_option maxRecDepth 20000 in
theorem gX3_takeWord_X3_step : GoodIn wsX3_takeWord (wsV RX3 37 RX3 yX3_step wsX3_step) := goodIn_app (goodIn_of _ (by decide +kernel)) ggX3_takeWord_X3_step
theorem dX3_takeWord_0 : decode cX3_takeWord 0 = .ok (.aload_n 0, 1) := by decide +kernel
theorem dX3_takeWord_1 : decode cX3_takeWord 1 = .ok (.aload_n 1, 1) := by decide +kernel
theorem dX3_takeWord_2 : decode cX3_takeWord 2 = .ok (.invokevirtual 62, 3) := by decide +kernel
theorem dX3_takeWord_5 : decode cX3_takeWord 5 = .ok (.ifCond .ne 5, 3) := by decide +kernel
theorem dX3_takeWord_8 : decode cX3_takeWord 8 = .ok (.iconst 0, 1) := by decide +kernel
theorem dX3_takeWord_9 : decode cX3_takeWord 9 = .ok (.ireturn, 1) := by decide +kernel
theorem dX3_takeWord_10 : decode cX3_takeWord 10 = .ok (.aload_n 0, 1) := by decide +kernel
theorem dX3_takeWord_11 : decode cX3_takeWord 11 = .ok (.invokevirtual 37, 3) := by decide +kernel
theorem dX3_takeWord_14 : decode cX3_takeWord 14 = .ok (.iconst 1, 1) := by decide +kernel
theorem dX3_takeWord_15 : decode cX3_takeWord 15 = .ok (.ireturn, 1) := by decide +kernel
set_option maxRecDepth 20000 in
theorem ggX3_takeSign_X3_isSign : GoodIn wsX3_takeSign wsX3_isSign := goodIn_r _ [5, 6, 7, 8, 9, 19, 20, 21, 22, 23, 24, 25, 26, 27, 28] (by decide +kernel) (by decide +kernel)
set_option maxRecDepth 20000 in
theorem gX3_takeSign_X3_isSign : GoodIn wsX3_takeSign (wsV RX3 66 RX3 yX3_isSign wsX3_isSign) := goodIn_app (goodIn_of _ (by decide +kernel)) ggX3_takeSign_X3_isSign
set_option maxRecDepth 20000 in
theorem ggX3_takeSign_X3_step : GoodIn wsX3_takeSign wsX3_step := goodIn_r _ [13, 7, 14, 15, 8, 9, 6, 16, 17, 4, 18, 19, 20, 21, 22, 23, 24, 25, 26, 27, 28] (by decide +kernel) (by decide +kernel)
set_option maxRecDepth 20000 in
theorem gX3_takeSign_X3_step : GoodIn wsX3_takeSign (wsV RX3 37 RX3 yX3_step wsX3_step) := goodIn_app (goodIn_of _ (by decide +kernel)) ggX3_takeSign_X3_step
theorem dX3_takeSign_0 : decode cX3_takeSign 0 = .ok (.aload_n 0, 1) := by decide +kernel
theorem dX3_takeSign_1 : decode cX3_takeSign 1 = .ok (.iload_n 1, 1) := by decide +kernel
theorem dX3_takeSign_2 : decode cX3_takeSign 2 = .ok (.invokevirtual 66, 3) := by decide +kernel
theorem dX3_takeSign_5 : decode cX3_takeSign 5 = .ok (.ifCond .ne 5, 3) := by decide +kernel
theorem dX3_takeSign_8 : decode cX3_takeSign 8 = .ok (.iconst 0, 1) := by decide +kernel
theorem dX3_takeSign_9 : decode cX3_takeSign 9 = .ok (.ireturn, 1) := by decide +kernel
theorem dX3_takeSign_10 : decode cX3_takeSign 10 = .ok (.aload_n 0, 1) := by decide +kernel
theorem dX3_takeSign_11 : decode cX3_takeSign 11 = .ok (.invokevirtual 37, 3) := by decide +kernel
theorem dX3_takeSign_14 : decode cX3_takeSign 14 = .ok (.iconst 1, 1) := by decide +kernel
theorem dX3_takeSign_15 : decode cX3_takeSign 15 = .ok (.ireturn, 1) := by decide +kernel
set_option maxRecDepth 20000 in
theorem ggX3_needWord_X3_takeWord : GoodIn wsX3_needWord wsX3_takeWord := goodIn_r _ [5, 6, 7, 8, 4, 9, 10, 11, 12, 13, 14, 15, 16, 17, 18, 19, 20, 21, 22, 23, 24, 25, 26, 27, 28, 29, 30, 31, 32, 33, 34, 35, 36, 37, 38, 39, 40, 41, 42, 43, 44, 45, 46, 47, 48, 49, 50, 51, 52, 53, 54, 55, 56, 57, 58, 59, 60, 61, 62, 63, 64, 65, 66, 67, 68, 69, 70, 71, 78, 79, 80, 81, 82, 83, 84, 85, 86, 87] (by decide +kernel) (by decide +kernel)
set_option maxRecDepth 20000 in
theorem gX3_needWord_X3_takeWord : GoodIn wsX3_needWord (wsV RX3 70 RX3 yX3_takeWord wsX3_takeWord) := goodIn_app (goodIn_of _ (by decide +kernel)) ggX3_needWord_X3_takeWord
set_option maxRecDepth 20000 in
theorem ggX3_needWord_X3_refuse : GoodIn wsX3_needWord wsX3_refuse := goodIn_r _ [75, 76, 12, 77, 78, 79, 80, 81, 82, 83, 84, 85] (by decide +kernel) (by decide +kernel)
set_option maxRecDepth 20000 in
theorem gX3_needWord_X3_refuse : GoodIn wsX3_needWord (wsV RX3 73 RX3 yX3_refuse wsX3_refuse) := goodIn_app (goodIn_of _ (by decide +kernel)) ggX3_needWord_X3_refuse
theorem dX3_needWord_0 : decode cX3_needWord 0 = .ok (.aload_n 0, 1) := by decide +kernel
theorem dX3_needWord_1 : decode cX3_needWord 1 = .ok (.aload_n 1, 1) := by decide +kernel
theorem dX3_needWord_2 : decode cX3_needWord 2 = .ok (.invokevirtual 70, 3) := by decide +kernel
theorem dX3_needWord_5 : decode cX3_needWord 5 = .ok (.ifCond .ne 11, 3) := by decide +kernel
theorem dX3_needWord_8 : decode cX3_needWord 8 = .ok (.aload_n 0, 1) := by decide +kernel
theorem dX3_needWord_9 : decode cX3_needWord 9 = .ok (.iconst 1, 1) := by decide +kernel
theorem dX3_needWord_10 : decode cX3_needWord 10 = .ok (.invokevirtual 73, 3) := by decide +kernel
theorem dX3_needWord_13 : decode cX3_needWord 13 = .ok (.ifCond .eq 7, 3) := by decide +kernel
theorem dX3_needWord_16 : decode cX3_needWord 16 = .ok (.iconst 1, 1) := by decide +kernel
theorem dX3_needWord_17 : decode cX3_needWord 17 = .ok (.goto 4, 3) := by decide +kernel
theorem dX3_needWord_20 : decode cX3_needWord 20 = .ok (.iconst 0, 1) := by decide +kernel
theorem dX3_needWord_21 : decode cX3_needWord 21 = .ok (.ireturn, 1) := by decide +kernel
set_option maxRecDepth 20000 in
theorem ggX3_needSign_X3_takeSign : GoodIn wsX3_needSign wsX3_takeSign := goodIn_r _ [5, 6, 7, 8, 4, 9, 10, 11, 12, 13, 14, 15, 16, 17, 18, 19, 20, 21, 22, 29, 30, 31, 32, 33, 34, 35, 36, 37, 38] (by decide +kernel) (by decide +kernel)
set_option maxRecDepth 20000 in
theorem gX3_needSign_X3_takeSign : GoodIn wsX3_needSign (wsV RX3 77 RX3 yX3_takeSign wsX3_takeSign) := goodIn_app (goodIn_of _ (by decide +kernel)) ggX3_needSign_X3_takeSign
set_option maxRecDepth 20000 in
theorem ggX3_needSign_X3_refuse : GoodIn wsX3_needSign wsX3_refuse := goodIn_r _ [26, 27, 13, 28, 29, 30, 31, 32, 33, 34, 35, 36] (by decide +kernel) (by decide +kernel)
set_option maxRecDepth 20000 in
theorem gX3_needSign_X3_refuse : GoodIn wsX3_needSign (wsV RX3 73 RX3 yX3_refuse wsX3_refuse) := goodIn_app (goodIn_of _ (by decide +kernel)) ggX3_needSign_X3_refuse
theorem dX3_needSign_0 : decode cX3_needSign 0 = .ok (.aload_n 0, 1) := by decide +kernel
theorem dX3_needSign_1 : decode cX3_needSign 1 = .ok (.iload_n 1, 1) := by decide +kernel
theorem dX3_needSign_2 : decode cX3_needSign 2 = .ok (.invokevirtual 77, 3) := by decide +kernel
theorem dX3_needSign_5 : decode cX3_needSign 5 = .ok (.ifCond .ne 11, 3) := by decide +kernel
theorem dX3_needSign_8 : decode cX3_needSign 8 = .ok (.aload_n 0, 1) := by decide +kernel
theorem dX3_needSign_9 : decode cX3_needSign 9 = .ok (.iconst 1, 1) := by decide +kernel
theorem dX3_needSign_10 : decode cX3_needSign 10 = .ok (.invokevirtual 73, 3) := by decide +kernel
theorem dX3_needSign_13 : decode cX3_needSign 13 = .ok (.ifCond .eq 7, 3) := by decide +kernel
theorem dX3_needSign_16 : decode cX3_needSign 16 = .ok (.iconst 1, 1) := by decide +kernel
theorem dX3_needSign_17 : decode cX3_needSign 17 = .ok (.goto 4, 3) := by decide +kernel
theorem dX3_needSign_20 : decode cX3_needSign 20 = .ok (.iconst 0, 1) := by decide +kernel
theorem dX3_needSign_21 : decode cX3_needSign 21 = .ok (.ireturn, 1) := by decide +kernel
set_option maxRecDepth 20000 in
theorem ggX3_needNumber_X3_fits : GoodIn wsX3_needNumber wsX3_fits := goodIn_r _ [6, 7, 1, 8, 9, 10, 11, 12, 13, 14, 15, 5, 16, 17, 18, 27, 28, 29, 30, 31, 32, 33, 34, 35, 36] (by decide +kernel) (by decide +kernel)
set_option maxRecDepth 20000 in
theorem gX3_needNumber_X3_fits : GoodIn wsX3_needNumber (wsV RX3 80 RX3 yX3_fits wsX3_fits) := goodIn_app (goodIn_of _ (by decide +kernel)) ggX3_needNumber_X3_fits
set_option maxRecDepth 20000 in
theorem ggX3_needNumber_X3_step : GoodIn wsX3_needNumber wsX3_step := goodIn_r _ [22, 10, 23, 9, 11, 8, 7, 24, 25, 5, 26, 27, 28, 29, 30, 31, 32, 33, 34, 35, 36] (by decide +kernel) (by decide +kernel)
set_option maxRecDepth 20000 in
theorem gX3_needNumber_X3_step : GoodIn wsX3_needNumber (wsV RX3 37 RX3 yX3_step wsX3_step) := goodIn_app (goodIn_of _ (by decide +kernel)) ggX3_needNumber_X3_step
theorem dX3_needNumber_0 : decode cX3_needNumber 0 = .ok (.aload_n 0, 1) := by decide +kernel
theorem dX3_needNumber_1 : decode cX3_needNumber 1 = .ok (.iload_n 1, 1) := by decide +kernel
theorem dX3_needNumber_2 : decode cX3_needNumber 2 = .ok (.iload_n 2, 1) := by decide +kernel
theorem dX3_needNumber_3 : decode cX3_needNumber 3 = .ok (.invokevirtual 80, 3) := by decide +kernel
theorem dX3_needNumber_6 : decode cX3_needNumber 6 = .ok (.ifCond .ne 5, 3) := by decide +kernel
theorem dX3_needNumber_9 : decode cX3_needNumber 9 = .ok (.iconst (-1), 1) := by decide +kernel
theorem dX3_needNumber_10 : decode cX3_needNumber 10 = .ok (.ireturn, 1) := by decide +kernel
theorem dX3_needNumber_11 : decode cX3_needNumber 11 = .ok (.aload_n 0, 1) := by decide +kernel
theorem dX3_needNumber_12 : decode cX3_needNumber 12 = .ok (.invokevirtual 37, 3) := by decide +kernel
theorem dX3_needNumber_15 : decode cX3_needNumber 15 = .ok (.aload_n 0, 1) := by decide +kernel
theorem dX3_needNumber_16 : decode cX3_needNumber 16 = .ok (.getfield 24, 3) := by decide +kernel
theorem dX3_needNumber_19 : decode cX3_needNumber 19 = .ok (.ireturn, 1) := by decide +kernel
set_option maxRecDepth 20000 in
theorem ggX3_needNew_X3_fits : GoodIn wsX3_needNew wsX3_fits := goodIn_r _ [6, 7, 1, 8, 9, 10, 11, 12, 13, 14, 15, 5, 16, 17, 18, 30, 31, 32, 33, 34, 35, 36, 37, 38, 39] (by decide +kernel) (by decide +kernel)
set_option maxRecDepth 20000 in
theorem gX3_needNew_X3_fits : GoodIn wsX3_needNew (wsV RX3 80 RX3 yX3_fits wsX3_fits) := goodIn_app (goodIn_of _ (by decide +kernel)) ggX3_needNew_X3_fits
set_option maxRecDepth 20000 in
theorem ggX3_needNew_X8_has : GoodIn wsX3_needNew wsX8_has := goodIn_r _ [21] (by decide +kernel) (by decide +kernel)
set_option maxRecDepth 20000 in
theorem gX3_needNew_X8_has_n84 : GoodIn wsX3_needNew (wsX8_has) := ggX3_needNew_X8_has
set_option maxRecDepth 20000 in
theorem ggX3_needNew_X3_refuse : GoodIn wsX3_needNew wsX3_refuse := goodIn_r _ [16, 17, 8, 18, 30, 31, 32, 33, 34, 35, 36, 37] (by decide +kernel) (by decide +kernel)
set_option maxRecDepth 20000 in
theorem gX3_needNew_X3_refuse : GoodIn wsX3_needNew (wsV RX3 73 RX3 yX3_refuse wsX3_refuse) := goodIn_app (goodIn_of _ (by decide +kernel)) ggX3_needNew_X3_refuse
set_option maxRecDepth 20000 in
theorem ggX3_needNew_X3_step : GoodIn wsX3_needNew wsX3_step := goodIn_r _ [25, 10, 26, 9, 11, 8, 7, 27, 28, 5, 29, 30, 31, 32, 33, 34, 35, 36, 37, 38, 39] (by decide +kernel) (by decide +kernel)
set_option maxRecDepth 20000 in
theorem gX3_needNew_X3_step : GoodIn wsX3_needNew (wsV RX3 37 RX3 yX3_step wsX3_step) := goodIn_app (goodIn_of _ (by decide +kernel)) ggX3_needNew_X3_step
theorem dX3_needNew_0 : decode cX3_needNew 0 = .ok (.aload_n 0, 1) := by decide +kernel
theorem dX3_needNew_1 : decode cX3_needNew 1 = .ok (.iload_n 1, 1) := by decide +kernel
theorem dX3_needNew_2 : decode cX3_needNew 2 = .ok (.iload_n 2, 1) := by decide +kernel
theorem dX3_needNew_3 : decode cX3_needNew 3 = .ok (.invokevirtual 80, 3) := by decide +kernel
theorem dX3_needNew_6 : decode cX3_needNew 6 = .ok (.ifCond .ne 5, 3) := by decide +kernel
theorem dX3_needNew_9 : decode cX3_needNew 9 = .ok (.iconst (-1), 1) := by decide +kernel
theorem dX3_needNew_10 : decode cX3_needNew 10 = .ok (.ireturn, 1) := by decide +kernel
theorem dX3_needNew_11 : decode cX3_needNew 11 = .ok (.aload_n 0, 1) := by decide +kernel
theorem dX3_needNew_12 : decode cX3_needNew 12 = .ok (.getfield 24, 3) := by decide +kernel
theorem dX3_needNew_15 : decode cX3_needNew 15 = .ok (.bipush 16, 2) := by decide +kernel
theorem dX3_needNew_17 : decode cX3_needNew 17 = .ok (.if_icmp .ge 22, 3) := by decide +kernel
theorem dX3_needNew_20 : decode cX3_needNew 20 = .ok (.iload_n 3, 1) := by decide +kernel
theorem dX3_needNew_21 : decode cX3_needNew 21 = .ok (.aload_n 0, 1) := by decide +kernel
theorem dX3_needNew_22 : decode cX3_needNew 22 = .ok (.getfield 24, 3) := by decide +kernel
theorem dX3_needNew_25 : decode cX3_needNew 25 = .ok (.invokestatic 84, 3) := by decide +kernel
theorem dX3_needNew_28 : decode cX3_needNew 28 = .ok (.ifCond .eq 11, 3) := by decide +kernel
theorem dX3_needNew_31 : decode cX3_needNew 31 = .ok (.aload_n 0, 1) := by decide +kernel
theorem dX3_needNew_32 : decode cX3_needNew 32 = .ok (.iconst 4, 1) := by decide +kernel
theorem dX3_needNew_33 : decode cX3_needNew 33 = .ok (.invokevirtual 73, 3) := by decide +kernel
theorem dX3_needNew_36 : decode cX3_needNew 36 = .ok (.pop, 1) := by decide +kernel
theorem dX3_needNew_37 : decode cX3_needNew 37 = .ok (.iconst (-1), 1) := by decide +kernel
theorem dX3_needNew_38 : decode cX3_needNew 38 = .ok (.ireturn, 1) := by decide +kernel
theorem dX3_needNew_39 : decode cX3_needNew 39 = .ok (.aload_n 0, 1) := by decide +kernel
theorem dX3_needNew_40 : decode cX3_needNew 40 = .ok (.invokevirtual 37, 3) := by decide +kernel
theorem dX3_needNew_43 : decode cX3_needNew 43 = .ok (.aload_n 0, 1) := by decide +kernel
theorem dX3_needNew_44 : decode cX3_needNew 44 = .ok (.getfield 24, 3) := by decide +kernel
theorem dX3_needNew_47 : decode cX3_needNew 47 = .ok (.ireturn, 1) := by decide +kernel
set_option maxRecDepth 20000 in
theorem ggX3_fits_X3_refuse : GoodIn wsX3_fits wsX3_refuse := goodIn_r _ [12, 13, 3, 14, 15, 16, 17, 18, 19, 20, 21, 22] (by decide +kernel) (by decide +kernel)
set_option maxRecDepth 20000 in
theorem gX3_fits_X3_refuse : GoodIn wsX3_fits (wsV RX3 73 RX3 yX3_refuse wsX3_refuse) := goodIn_app (goodIn_of _ (by decide +kernel)) ggX3_fits_X3_refuse
theorem dX3_fits_0 : decode cX3_fits 0 = .ok (.aload_n 0, 1) := by decide +kernel
theorem dX3_fits_1 : decode cX3_fits 1 = .ok (.getfield 15, 3) := by decide +kernel
theorem dX3_fits_4 : decode cX3_fits 4 = .ok (.iconst 2, 1) := by decide +kernel
theorem dX3_fits_5 : decode cX3_fits 5 = .ok (.if_icmp .eq 9, 3) := by decide +kernel
theorem dX3_fits_8 : decode cX3_fits 8 = .ok (.aload_n 0, 1) := by decide +kernel
theorem dX3_fits_9 : decode cX3_fits 9 = .ok (.iconst 1, 1) := by decide +kernel
theorem dX3_fits_10 : decode cX3_fits 10 = .ok (.invokevirtual 73, 3) := by decide +kernel
theorem dX3_fits_13 : decode cX3_fits 13 = .ok (.ireturn, 1) := by decide +kernel
theorem dX3_fits_14 : decode cX3_fits 14 = .ok (.aload_n 0, 1) := by decide +kernel
theorem dX3_fits_15 : decode cX3_fits 15 = .ok (.iconst 0, 1) := by decide +kernel
theorem dX3_fits_16 : decode cX3_fits 16 = .ok (.putfield 24, 3) := by decide +kernel
theorem dX3_fits_19 : decode cX3_fits 19 = .ok (.aload_n 0, 1) := by decide +kernel
theorem dX3_fits_20 : decode cX3_fits 20 = .ok (.getfield 18, 3) := by decide +kernel
theorem dX3_fits_23 : decode cX3_fits 23 = .ok (.istore_n 3, 1) := by decide +kernel
theorem dX3_fits_24 : decode cX3_fits 24 = .ok (.iload_n 3, 1) := by decide +kernel
theorem dX3_fits_25 : decode cX3_fits 25 = .ok (.aload_n 0, 1) := by decide +kernel
theorem dX3_fits_26 : decode cX3_fits 26 = .ok (.getfield 21, 3) := by decide +kernel
theorem dX3_fits_29 : decode cX3_fits 29 = .ok (.if_icmp .ge 43, 3) := by decide +kernel
theorem dX3_fits_32 : decode cX3_fits 32 = .ok (.iload_n 3, 1) := by decide +kernel
theorem dX3_fits_33 : decode cX3_fits 33 = .ok (.aload_n 0, 1) := by decide +kernel
theorem dX3_fits_34 : decode cX3_fits 34 = .ok (.getfield 18, 3) := by decide +kernel
theorem dX3_fits_37 : decode cX3_fits 37 = .ok (.iconst 3, 1) := by decide +kernel
theorem dX3_fits_38 : decode cX3_fits 38 = .ok (.iadd, 1) := by decide +kernel
theorem dX3_fits_39 : decode cX3_fits 39 = .ok (.if_icmp .ge 33, 3) := by decide +kernel
theorem dX3_fits_42 : decode cX3_fits 42 = .ok (.aload_n 0, 1) := by decide +kernel
theorem dX3_fits_43 : decode cX3_fits 43 = .ok (.bipush 10, 2) := by decide +kernel
theorem dX3_fits_45 : decode cX3_fits 45 = .ok (.aload_n 0, 1) := by decide +kernel
theorem dX3_fits_46 : decode cX3_fits 46 = .ok (.getfield 24, 3) := by decide +kernel
theorem dX3_fits_49 : decode cX3_fits 49 = .ok (.imul, 1) := by decide +kernel
theorem dX3_fits_50 : decode cX3_fits 50 = .ok (.aload_n 0, 1) := by decide +kernel
theorem dX3_fits_51 : decode cX3_fits 51 = .ok (.getfield 33, 3) := by decide +kernel
theorem dX3_fits_54 : decode cX3_fits 54 = .ok (.getfield 45, 3) := by decide +kernel
theorem dX3_fits_57 : decode cX3_fits 57 = .ok (.iload_n 3, 1) := by decide +kernel
theorem dX3_fits_58 : decode cX3_fits 58 = .ok (.iaload, 1) := by decide +kernel
theorem dX3_fits_59 : decode cX3_fits 59 = .ok (.iadd, 1) := by decide +kernel
theorem dX3_fits_60 : decode cX3_fits 60 = .ok (.bipush 48, 2) := by decide +kernel
theorem dX3_fits_62 : decode cX3_fits 62 = .ok (.isub, 1) := by decide +kernel
theorem dX3_fits_63 : decode cX3_fits 63 = .ok (.putfield 24, 3) := by decide +kernel
theorem dX3_fits_66 : decode cX3_fits 66 = .ok (.iinc 3 1, 3) := by decide +kernel
theorem dX3_fits_69 : decode cX3_fits 69 = .ok (.goto (-45), 3) := by decide +kernel
theorem dX3_fits_72 : decode cX3_fits 72 = .ok (.aload_n 0, 1) := by decide +kernel
theorem dX3_fits_73 : decode cX3_fits 73 = .ok (.getfield 21, 3) := by decide +kernel
theorem dX3_fits_76 : decode cX3_fits 76 = .ok (.aload_n 0, 1) := by decide +kernel
theorem dX3_fits_77 : decode cX3_fits 77 = .ok (.getfield 18, 3) := by decide +kernel
theorem dX3_fits_80 : decode cX3_fits 80 = .ok (.isub, 1) := by decide +kernel
theorem dX3_fits_81 : decode cX3_fits 81 = .ok (.aload_n 0, 1) := by decide +kernel
theorem dX3_fits_82 : decode cX3_fits 82 = .ok (.getfield 9, 3) := by decide +kernel
theorem dX3_fits_85 : decode cX3_fits 85 = .ok (.if_icmp .gt 23, 3) := by decide +kernel
theorem dX3_fits_88 : decode cX3_fits 88 = .ok (.aload_n 0, 1) := by decide +kernel
theorem dX3_fits_89 : decode cX3_fits 89 = .ok (.getfield 24, 3) := by decide +kernel
theorem dX3_fits_92 : decode cX3_fits 92 = .ok (.iload_n 1, 1) := by decide +kernel
theorem dX3_fits_93 : decode cX3_fits 93 = .ok (.if_icmp .lt 15, 3) := by decide +kernel
theorem dX3_fits_96 : decode cX3_fits 96 = .ok (.aload_n 0, 1) := by decide +kernel
theorem dX3_fits_97 : decode cX3_fits 97 = .ok (.getfield 24, 3) := by decide +kernel
theorem dX3_fits_100 : decode cX3_fits 100 = .ok (.iload_n 2, 1) := by decide +kernel
theorem dX3_fits_101 : decode cX3_fits 101 = .ok (.if_icmp .gt 7, 3) := by decide +kernel
theorem dX3_fits_104 : decode cX3_fits 104 = .ok (.iconst 1, 1) := by decide +kernel
theorem dX3_fits_105 : decode cX3_fits 105 = .ok (.goto 4, 3) := by decide +kernel
theorem dX3_fits_108 : decode cX3_fits 108 = .ok (.iconst 0, 1) := by decide +kernel
theorem dX3_fits_109 : decode cX3_fits 109 = .ok (.istore_n 3, 1) := by decide +kernel
theorem dX3_fits_110 : decode cX3_fits 110 = .ok (.iload_n 3, 1) := by decide +kernel
theorem dX3_fits_111 : decode cX3_fits 111 = .ok (.ifCond .ne 11, 3) := by decide +kernel
theorem dX3_fits_114 : decode cX3_fits 114 = .ok (.aload_n 0, 1) := by decide +kernel
theorem dX3_fits_115 : decode cX3_fits 115 = .ok (.iconst 2, 1) := by decide +kernel
theorem dX3_fits_116 : decode cX3_fits 116 = .ok (.invokevirtual 73, 3) := by decide +kernel
theorem dX3_fits_119 : decode cX3_fits 119 = .ok (.ifCond .eq 7, 3) := by decide +kernel
theorem dX3_fits_122 : decode cX3_fits 122 = .ok (.iconst 1, 1) := by decide +kernel
theorem dX3_fits_123 : decode cX3_fits 123 = .ok (.goto 4, 3) := by decide +kernel
theorem dX3_fits_126 : decode cX3_fits 126 = .ok (.iconst 0, 1) := by decide +kernel
theorem dX3_fits_127 : decode cX3_fits 127 = .ok (.ireturn, 1) := by decide +kernel
theorem dX3_refuse_0 : decode cX3_refuse 0 = .ok (.aload_n 0, 1) := by decide +kernel
theorem dX3_refuse_1 : decode cX3_refuse 1 = .ok (.iload_n 1, 1) := by decide +kernel
theorem dX3_refuse_2 : decode cX3_refuse 2 = .ok (.putfield 27, 3) := by decide +kernel
theorem dX3_refuse_5 : decode cX3_refuse 5 = .ok (.aload_n 0, 1) := by decide +kernel
theorem dX3_refuse_6 : decode cX3_refuse 6 = .ok (.aload_n 0, 1) := by decide +kernel
theorem dX3_refuse_7 : decode cX3_refuse 7 = .ok (.getfield 18, 3) := by decide +kernel
theorem dX3_refuse_10 : decode cX3_refuse 10 = .ok (.putfield 30, 3) := by decide +kernel
theorem dX3_refuse_13 : decode cX3_refuse 13 = .ok (.iconst 0, 1) := by decide +kernel
theorem dX3_refuse_14 : decode cX3_refuse 14 = .ok (.ireturn, 1) := by decide +kernel
theorem dX4_init_0 : decode cX4_init 0 = .ok (.aload_n 0, 1) := by decide +kernel
theorem dX4_init_1 : decode cX4_init 1 = .ok (.invokespecial 3, 3) := by decide +kernel
theorem dX4_init_4 : decode cX4_init 4 = .ok (.aload_n 0, 1) := by decide +kernel
theorem dX4_init_5 : decode cX4_init 5 = .ok (.bipush 8, 2) := by decide +kernel
theorem dX4_init_7 : decode cX4_init 7 = .ok (.newarray .int, 2) := by decide +kernel
theorem dX4_init_9 : decode cX4_init 9 = .ok (.putfield 9, 3) := by decide +kernel
theorem dX4_init_12 : decode cX4_init 12 = .ok (.aload_n 0, 1) := by decide +kernel
theorem dX4_init_13 : decode cX4_init 13 = .ok (.iconst 0, 1) := by decide +kernel
theorem dX4_init_14 : decode cX4_init 14 = .ok (.putfield 15, 3) := by decide +kernel
theorem dX4_init_17 : decode cX4_init 17 = .ok (.aload_n 0, 1) := by decide +kernel
theorem dX4_init_18 : decode cX4_init 18 = .ok (.sipush 256, 3) := by decide +kernel
theorem dX4_init_21 : decode cX4_init 21 = .ok (.newarray .boolean, 2) := by decide +kernel
theorem dX4_init_23 : decode cX4_init 23 = .ok (.putfield 19, 3) := by decide +kernel
theorem dX4_init_26 : decode cX4_init 26 = .ok (.aload_n 0, 1) := by decide +kernel
theorem dX4_init_27 : decode cX4_init 27 = .ok (.sipush 256, 3) := by decide +kernel
theorem dX4_init_30 : decode cX4_init 30 = .ok (.newarray .int, 2) := by decide +kernel
theorem dX4_init_32 : decode cX4_init 32 = .ok (.putfield 23, 3) := by decide +kernel
theorem dX4_init_35 : decode cX4_init 35 = .ok (.aload_n 0, 1) := by decide +kernel
theorem dX4_init_36 : decode cX4_init 36 = .ok (.sipush 256, 3) := by decide +kernel
theorem dX4_init_39 : decode cX4_init 39 = .ok (.newarray .int, 2) := by decide +kernel
theorem dX4_init_41 : decode cX4_init 41 = .ok (.putfield 26, 3) := by decide +kernel
theorem dX4_init_44 : decode cX4_init 44 = .ok (.aload_n 0, 1) := by decide +kernel
theorem dX4_init_45 : decode cX4_init 45 = .ok (.sipush 4096, 3) := by decide +kernel
theorem dX4_init_48 : decode cX4_init 48 = .ok (.newarray .int, 2) := by decide +kernel
theorem dX4_init_50 : decode cX4_init 50 = .ok (.putfield 29, 3) := by decide +kernel
theorem dX4_init_53 : decode cX4_init 53 = .ok (.aload_n 0, 1) := by decide +kernel
theorem dX4_init_54 : decode cX4_init 54 = .ok (.aload_n 1, 1) := by decide +kernel
theorem dX4_init_55 : decode cX4_init 55 = .ok (.putfield 32, 3) := by decide +kernel
theorem dX4_init_58 : decode cX4_init 58 = .ok (.return_, 1) := by decide +kernel
set_option maxRecDepth 20000 in
theorem ggX4_build_X8_has : GoodIn wsX4_build wsX8_has := goodIn_r _ [15] (by decide +kernel) (by decide +kernel)
set_option maxRecDepth 20000 in
theorem gX4_build_X8_has_n41 : GoodIn wsX4_build (wsX8_has) := ggX4_build_X8_has
set_option maxRecDepth 20000 in
theorem ggX4_build_X8_firstOnes : GoodIn wsX4_build wsX8_firstOnes := goodIn_r _ [17] (by decide +kernel) (by decide +kernel)
set_option maxRecDepth 20000 in
theorem gX4_build_X8_firstOnes_n45 : GoodIn wsX4_build (wsX8_firstOnes) := ggX4_build_X8_firstOnes
set_option maxRecDepth 20000 in
theorem ggX4_build_X4_goFurther : GoodIn wsX4_build wsX4_goFurther := goodIn_r _ [22, 1, 2, 4, 8, 6, 5, 9, 10, 11, 12, 13, 14, 15, 23, 24, 25, 26, 27, 28, 29, 30, 31, 32, 33, 34, 35, 40, 41, 42, 43, 44, 45, 46, 47, 48, 49, 50, 51, 52, 53, 54, 55, 56] (by decide +kernel) (by decide +kernel)
set_option maxRecDepth 20000 in
theorem gX4_build_X4_goFurther : GoodIn wsX4_build (wsV RX4 55 RX4 yX4_goFurther wsX4_goFurther) := goodIn_app (goodIn_of _ (by decide +kernel)) ggX4_build_X4_goFurther
set_option maxRecDepth 20000 in
theorem ggX4_build_X4_countWays : GoodIn wsX4_build wsX4_countWays := goodIn_r _ [39, 7, 1, 6, 13, 14, 15, 40, 41, 42, 43, 44, 45, 46] (by decide +kernel) (by decide +kernel)
set_option maxRecDepth 20000 in
theorem gX4_build_X4_countWays : GoodIn wsX4_build (wsV RX4 59 RX4 yX4_countWays wsX4_countWays) := goodIn_app (goodIn_of _ (by decide +kernel)) ggX4_build_X4_countWays
theorem dX4_build_0 : decode cX4_build 0 = .ok (.aload_n 0, 1) := by decide +kernel
theorem dX4_build_1 : decode cX4_build 1 = .ok (.iconst 0, 1) := by decide +kernel
theorem dX4_build_2 : decode cX4_build 2 = .ok (.putfield 15, 3) := by decide +kernel
theorem dX4_build_5 : decode cX4_build 5 = .ok (.iconst 0, 1) := by decide +kernel
theorem dX4_build_6 : decode cX4_build 6 = .ok (.istore 4, 2) := by decide +kernel
theorem dX4_build_8 : decode cX4_build 8 = .ok (.iload 4, 2) := by decide +kernel
theorem dX4_build_10 : decode cX4_build 10 = .ok (.aload_n 0, 1) := by decide +kernel
theorem dX4_build_11 : decode cX4_build 11 = .ok (.getfield 32, 3) := by decide +kernel
theorem dX4_build_14 : decode cX4_build 14 = .ok (.getfield 36, 3) := by decide +kernel
theorem dX4_build_17 : decode cX4_build 17 = .ok (.if_icmp .ge 48, 3) := by decide +kernel
theorem dX4_build_20 : decode cX4_build 20 = .ok (.aload_n 0, 1) := by decide +kernel
theorem dX4_build_21 : decode cX4_build 21 = .ok (.getfield 15, 3) := by decide +kernel
theorem dX4_build_24 : decode cX4_build 24 = .ok (.bipush 8, 2) := by decide +kernel
theorem dX4_build_26 : decode cX4_build 26 = .ok (.if_icmp .ge 39, 3) := by decide +kernel
theorem dX4_build_29 : decode cX4_build 29 = .ok (.iload_n 1, 1) := by decide +kernel
theorem dX4_build_30 : decode cX4_build 30 = .ok (.iload 4, 2) := by decide +kernel
theorem dX4_build_32 : decode cX4_build 32 = .ok (.invokestatic 41, 3) := by decide +kernel
theorem dX4_build_35 : decode cX4_build 35 = .ok (.ifCond .eq 24, 3) := by decide +kernel
theorem dX4_build_38 : decode cX4_build 38 = .ok (.aload_n 0, 1) := by decide +kernel
theorem dX4_build_39 : decode cX4_build 39 = .ok (.getfield 9, 3) := by decide +kernel
theorem dX4_build_42 : decode cX4_build 42 = .ok (.aload_n 0, 1) := by decide +kernel
theorem dX4_build_43 : decode cX4_build 43 = .ok (.getfield 15, 3) := by decide +kernel
theorem dX4_build_46 : decode cX4_build 46 = .ok (.iload 4, 2) := by decide +kernel
theorem dX4_build_48 : decode cX4_build 48 = .ok (.iastore, 1) := by decide +kernel
theorem dX4_build_49 : decode cX4_build 49 = .ok (.aload_n 0, 1) := by decide +kernel
theorem dX4_build_50 : decode cX4_build 50 = .ok (.dup, 1) := by decide +kernel
theorem dX4_build_51 : decode cX4_build 51 = .ok (.getfield 15, 3) := by decide +kernel
theorem dX4_build_54 : decode cX4_build 54 = .ok (.iconst 1, 1) := by decide +kernel
theorem dX4_build_55 : decode cX4_build 55 = .ok (.iadd, 1) := by decide +kernel
theorem dX4_build_56 : decode cX4_build 56 = .ok (.putfield 15, 3) := by decide +kernel
theorem dX4_build_59 : decode cX4_build 59 = .ok (.iinc 4 1, 3) := by decide +kernel
theorem dX4_build_62 : decode cX4_build 62 = .ok (.goto (-54), 3) := by decide +kernel
theorem dX4_build_65 : decode cX4_build 65 = .ok (.aload_n 0, 1) := by decide +kernel
theorem dX4_build_66 : decode cX4_build 66 = .ok (.getfield 15, 3) := by decide +kernel
theorem dX4_build_69 : decode cX4_build 69 = .ok (.invokestatic 45, 3) := by decide +kernel
theorem dX4_build_72 : decode cX4_build 72 = .ok (.istore 4, 2) := by decide +kernel
theorem dX4_build_74 : decode cX4_build 74 = .ok (.iconst 0, 1) := by decide +kernel
theorem dX4_build_75 : decode cX4_build 75 = .ok (.istore 5, 2) := by decide +kernel
theorem dX4_build_77 : decode cX4_build 77 = .ok (.iload 5, 2) := by decide +kernel
theorem dX4_build_79 : decode cX4_build 79 = .ok (.iload 4, 2) := by decide +kernel
theorem dX4_build_81 : decode cX4_build 81 = .ok (.if_icmp .gt 33, 3) := by decide +kernel
theorem dX4_build_84 : decode cX4_build 84 = .ok (.aload_n 0, 1) := by decide +kernel
theorem dX4_build_85 : decode cX4_build 85 = .ok (.getfield 19, 3) := by decide +kernel
theorem dX4_build_88 : decode cX4_build 88 = .ok (.iload 5, 2) := by decide +kernel
theorem dX4_build_90 : decode cX4_build 90 = .ok (.iconst 0, 1) := by decide +kernel
theorem dX4_build_91 : decode cX4_build 91 = .ok (.bastore, 1) := by decide +kernel
theorem dX4_build_92 : decode cX4_build 92 = .ok (.aload_n 0, 1) := by decide +kernel
theorem dX4_build_93 : decode cX4_build 93 = .ok (.getfield 23, 3) := by decide +kernel
theorem dX4_build_96 : decode cX4_build 96 = .ok (.iload 5, 2) := by decide +kernel
theorem dX4_build_98 : decode cX4_build 98 = .ok (.iconst 0, 1) := by decide +kernel
theorem dX4_build_99 : decode cX4_build 99 = .ok (.iastore, 1) := by decide +kernel
theorem dX4_build_100 : decode cX4_build 100 = .ok (.aload_n 0, 1) := by decide +kernel
theorem dX4_build_101 : decode cX4_build 101 = .ok (.getfield 26, 3) := by decide +kernel
theorem dX4_build_104 : decode cX4_build 104 = .ok (.iload 5, 2) := by decide +kernel
theorem dX4_build_106 : decode cX4_build 106 = .ok (.iconst 0, 1) := by decide +kernel
theorem dX4_build_107 : decode cX4_build 107 = .ok (.iastore, 1) := by decide +kernel
theorem dX4_build_108 : decode cX4_build 108 = .ok (.iinc 5 1, 3) := by decide +kernel
theorem dX4_build_111 : decode cX4_build 111 = .ok (.goto (-34), 3) := by decide +kernel
theorem dX4_build_114 : decode cX4_build 114 = .ok (.aload_n 0, 1) := by decide +kernel
theorem dX4_build_115 : decode cX4_build 115 = .ok (.getfield 19, 3) := by decide +kernel
theorem dX4_build_118 : decode cX4_build 118 = .ok (.iconst 0, 1) := by decide +kernel
theorem dX4_build_119 : decode cX4_build 119 = .ok (.iconst 1, 1) := by decide +kernel
theorem dX4_build_120 : decode cX4_build 120 = .ok (.bastore, 1) := by decide +kernel
theorem dX4_build_121 : decode cX4_build 121 = .ok (.aload_n 2, 1) := by decide +kernel
theorem dX4_build_122 : decode cX4_build 122 = .ok (.iload_n 3, 1) := by decide +kernel
theorem dX4_build_123 : decode cX4_build 123 = .ok (.bipush 16, 2) := by decide +kernel
theorem dX4_build_125 : decode cX4_build 125 = .ok (.imul, 1) := by decide +kernel
theorem dX4_build_126 : decode cX4_build 126 = .ok (.aload_n 0, 1) := by decide +kernel
theorem dX4_build_127 : decode cX4_build 127 = .ok (.getfield 29, 3) := by decide +kernel
theorem dX4_build_130 : decode cX4_build 130 = .ok (.iconst 0, 1) := by decide +kernel
theorem dX4_build_131 : decode cX4_build 131 = .ok (.bipush 16, 2) := by decide +kernel
theorem dX4_build_133 : decode cX4_build 133 = .ok (.invokestatic 49, 3) := by decide +kernel
theorem dX4_build_136 : decode cX4_build 136 = .ok (.iconst 0, 1) := by decide +kernel
theorem dX4_build_137 : decode cX4_build 137 = .ok (.istore 5, 2) := by decide +kernel
theorem dX4_build_139 : decode cX4_build 139 = .ok (.iload 5, 2) := by decide +kernel
theorem dX4_build_141 : decode cX4_build 141 = .ok (.iload 4, 2) := by decide +kernel
theorem dX4_build_143 : decode cX4_build 143 = .ok (.if_icmp .gt 25, 3) := by decide +kernel
theorem dX4_build_146 : decode cX4_build 146 = .ok (.aload_n 0, 1) := by decide +kernel
theorem dX4_build_147 : decode cX4_build 147 = .ok (.getfield 19, 3) := by decide +kernel
theorem dX4_build_150 : decode cX4_build 150 = .ok (.iload 5, 2) := by decide +kernel
theorem dX4_build_152 : decode cX4_build 152 = .ok (.baload, 1) := by decide +kernel
theorem dX4_build_153 : decode cX4_build 153 = .ok (.ifCond .eq 9, 3) := by decide +kernel
theorem dX4_build_156 : decode cX4_build 156 = .ok (.aload_n 0, 1) := by decide +kernel
theorem dX4_build_157 : decode cX4_build 157 = .ok (.iload 5, 2) := by decide +kernel
theorem dX4_build_159 : decode cX4_build 159 = .ok (.invokevirtual 55, 3) := by decide +kernel
theorem dX4_build_162 : decode cX4_build 162 = .ok (.iinc 5 1, 3) := by decide +kernel
theorem dX4_build_165 : decode cX4_build 165 = .ok (.goto (-26), 3) := by decide +kernel
theorem dX4_build_168 : decode cX4_build 168 = .ok (.aload_n 0, 1) := by decide +kernel
theorem dX4_build_169 : decode cX4_build 169 = .ok (.iload 4, 2) := by decide +kernel
theorem dX4_build_171 : decode cX4_build 171 = .ok (.invokevirtual 59, 3) := by decide +kernel
theorem dX4_build_174 : decode cX4_build 174 = .ok (.return_, 1) := by decide +kernel
set_option maxRecDepth 20000 in
theorem ggX4_goFurther_X8_has : GoodIn wsX4_goFurther wsX8_has := goodIn_r _ [13] (by decide +kernel) (by decide +kernel)
set_option maxRecDepth 20000 in
theorem gX4_goFurther_X8_has_n41 : GoodIn wsX4_goFurther (wsX8_has) := ggX4_goFurther_X8_has
set_option maxRecDepth 20000 in
theorem ggX4_goFurther_X7_clashOf : GoodIn wsX4_goFurther wsX7_clashOf := goodIn_r _ [18, 19, 20, 21, 11, 12, 13, 34, 35, 36, 37, 38, 39, 40, 41, 42, 43] (by decide +kernel) (by decide +kernel)
set_option maxRecDepth 20000 in
theorem gX4_goFurther_X7_clashOf : GoodIn wsX4_goFurther (wsV RX4 62 RX7 yX7_clashOf wsX7_clashOf) := goodIn_app (goodIn_of _ (by decide +kernel)) ggX4_goFurther_X7_clashOf
set_option maxRecDepth 20000 in
theorem ggX4_goFurther_X7_putOn : GoodIn wsX4_goFurther wsX7_putOn := goodIn_r _ [25, 19, 26, 11, 12, 13, 34, 35, 36, 37, 38, 39, 40, 41, 42, 43] (by decide +kernel) (by decide +kernel)
set_option maxRecDepth 20000 in
theorem gX4_goFurther_X7_putOn : GoodIn wsX4_goFurther (wsV RX4 66 RX7 yX7_putOn wsX7_putOn) := goodIn_app (goodIn_of _ (by decide +kernel)) ggX4_goFurther_X7_putOn
theorem dX4_goFurther_0 : decode cX4_goFurther 0 = .ok (.iconst 0, 1) := by decide +kernel
theorem dX4_goFurther_1 : decode cX4_goFurther 1 = .ok (.istore_n 2, 1) := by decide +kernel
theorem dX4_goFurther_2 : decode cX4_goFurther 2 = .ok (.iload_n 2, 1) := by decide +kernel
theorem dX4_goFurther_3 : decode cX4_goFurther 3 = .ok (.aload_n 0, 1) := by decide +kernel
theorem dX4_goFurther_4 : decode cX4_goFurther 4 = .ok (.getfield 15, 3) := by decide +kernel
theorem dX4_goFurther_7 : decode cX4_goFurther 7 = .ok (.if_icmp .ge 111, 3) := by decide +kernel
theorem dX4_goFurther_10 : decode cX4_goFurther 10 = .ok (.iload_n 1, 1) := by decide +kernel
theorem dX4_goFurther_11 : decode cX4_goFurther 11 = .ok (.iload_n 2, 1) := by decide +kernel
theorem dX4_goFurther_12 : decode cX4_goFurther 12 = .ok (.invokestatic 41, 3) := by decide +kernel
theorem dX4_goFurther_15 : decode cX4_goFurther 15 = .ok (.ifCond .ne 97, 3) := by decide +kernel
theorem dX4_goFurther_18 : decode cX4_goFurther 18 = .ok (.aload_n 0, 1) := by decide +kernel
theorem dX4_goFurther_19 : decode cX4_goFurther 19 = .ok (.getfield 32, 3) := by decide +kernel
theorem dX4_goFurther_22 : decode cX4_goFurther 22 = .ok (.aload_n 0, 1) := by decide +kernel
theorem dX4_goFurther_23 : decode cX4_goFurther 23 = .ok (.getfield 9, 3) := by decide +kernel
theorem dX4_goFurther_26 : decode cX4_goFurther 26 = .ok (.iload_n 2, 1) := by decide +kernel
theorem dX4_goFurther_27 : decode cX4_goFurther 27 = .ok (.iaload, 1) := by decide +kernel
theorem dX4_goFurther_28 : decode cX4_goFurther 28 = .ok (.aload_n 0, 1) := by decide +kernel
theorem dX4_goFurther_29 : decode cX4_goFurther 29 = .ok (.getfield 29, 3) := by decide +kernel
theorem dX4_goFurther_32 : decode cX4_goFurther 32 = .ok (.iload_n 1, 1) := by decide +kernel
theorem dX4_goFurther_33 : decode cX4_goFurther 33 = .ok (.invokevirtual 62, 3) := by decide +kernel
theorem dX4_goFurther_36 : decode cX4_goFurther 36 = .ok (.ifCond .ne 76, 3) := by decide +kernel
theorem dX4_goFurther_39 : decode cX4_goFurther 39 = .ok (.iload_n 1, 1) := by decide +kernel
theorem dX4_goFurther_40 : decode cX4_goFurther 40 = .ok (.iconst 1, 1) := by decide +kernel
theorem dX4_goFurther_41 : decode cX4_goFurther 41 = .ok (.iload_n 2, 1) := by decide +kernel
theorem dX4_goFurther_42 : decode cX4_goFurther 42 = .ok (.ishl, 1) := by decide +kernel
theorem dX4_goFurther_43 : decode cX4_goFurther 43 = .ok (.ior, 1) := by decide +kernel
theorem dX4_goFurther_44 : decode cX4_goFurther 44 = .ok (.istore_n 3, 1) := by decide +kernel
theorem dX4_goFurther_45 : decode cX4_goFurther 45 = .ok (.aload_n 0, 1) := by decide +kernel
theorem dX4_goFurther_46 : decode cX4_goFurther 46 = .ok (.getfield 23, 3) := by decide +kernel
theorem dX4_goFurther_49 : decode cX4_goFurther 49 = .ok (.iload_n 1, 1) := by decide +kernel
theorem dX4_goFurther_50 : decode cX4_goFurther 50 = .ok (.dup2, 1) := by decide +kernel
theorem dX4_goFurther_51 : decode cX4_goFurther 51 = .ok (.iaload, 1) := by decide +kernel
theorem dX4_goFurther_52 : decode cX4_goFurther 52 = .ok (.iconst 1, 1) := by decide +kernel
theorem dX4_goFurther_53 : decode cX4_goFurther 53 = .ok (.iload_n 2, 1) := by decide +kernel
theorem dX4_goFurther_54 : decode cX4_goFurther 54 = .ok (.ishl, 1) := by decide +kernel
theorem dX4_goFurther_55 : decode cX4_goFurther 55 = .ok (.ior, 1) := by decide +kernel
theorem dX4_goFurther_56 : decode cX4_goFurther 56 = .ok (.iastore, 1) := by decide +kernel
theorem dX4_goFurther_57 : decode cX4_goFurther 57 = .ok (.aload_n 0, 1) := by decide +kernel
theorem dX4_goFurther_58 : decode cX4_goFurther 58 = .ok (.getfield 19, 3) := by decide +kernel
theorem dX4_goFurther_61 : decode cX4_goFurther 61 = .ok (.iload_n 3, 1) := by decide +kernel
theorem dX4_goFurther_62 : decode cX4_goFurther 62 = .ok (.baload, 1) := by decide +kernel
theorem dX4_goFurther_63 : decode cX4_goFurther 63 = .ok (.ifCond .ne 49, 3) := by decide +kernel
theorem dX4_goFurther_66 : decode cX4_goFurther 66 = .ok (.aload_n 0, 1) := by decide +kernel
theorem dX4_goFurther_67 : decode cX4_goFurther 67 = .ok (.getfield 19, 3) := by decide +kernel
theorem dX4_goFurther_70 : decode cX4_goFurther 70 = .ok (.iload_n 3, 1) := by decide +kernel
theorem dX4_goFurther_71 : decode cX4_goFurther 71 = .ok (.iconst 1, 1) := by decide +kernel
theorem dX4_goFurther_72 : decode cX4_goFurther 72 = .ok (.bastore, 1) := by decide +kernel
theorem dX4_goFurther_73 : decode cX4_goFurther 73 = .ok (.aload_n 0, 1) := by decide +kernel
theorem dX4_goFurther_74 : decode cX4_goFurther 74 = .ok (.getfield 29, 3) := by decide +kernel
theorem dX4_goFurther_77 : decode cX4_goFurther 77 = .ok (.iload_n 1, 1) := by decide +kernel
theorem dX4_goFurther_78 : decode cX4_goFurther 78 = .ok (.bipush 16, 2) := by decide +kernel
theorem dX4_goFurther_80 : decode cX4_goFurther 80 = .ok (.imul, 1) := by decide +kernel
theorem dX4_goFurther_81 : decode cX4_goFurther 81 = .ok (.aload_n 0, 1) := by decide +kernel
theorem dX4_goFurther_82 : decode cX4_goFurther 82 = .ok (.getfield 29, 3) := by decide +kernel
theorem dX4_goFurther_85 : decode cX4_goFurther 85 = .ok (.iload_n 3, 1) := by decide +kernel
theorem dX4_goFurther_86 : decode cX4_goFurther 86 = .ok (.bipush 16, 2) := by decide +kernel
theorem dX4_goFurther_88 : decode cX4_goFurther 88 = .ok (.imul, 1) := by decide +kernel
theorem dX4_goFurther_89 : decode cX4_goFurther 89 = .ok (.bipush 16, 2) := by decide +kernel
theorem dX4_goFurther_91 : decode cX4_goFurther 91 = .ok (.invokestatic 49, 3) := by decide +kernel
theorem dX4_goFurther_94 : decode cX4_goFurther 94 = .ok (.aload_n 0, 1) := by decide +kernel
theorem dX4_goFurther_95 : decode cX4_goFurther 95 = .ok (.getfield 32, 3) := by decide +kernel
theorem dX4_goFurther_98 : decode cX4_goFurther 98 = .ok (.aload_n 0, 1) := by decide +kernel
theorem dX4_goFurther_99 : decode cX4_goFurther 99 = .ok (.getfield 9, 3) := by decide +kernel
theorem dX4_goFurther_102 : decode cX4_goFurther 102 = .ok (.iload_n 2, 1) := by decide +kernel
theorem dX4_goFurther_103 : decode cX4_goFurther 103 = .ok (.iaload, 1) := by decide +kernel
theorem dX4_goFurther_104 : decode cX4_goFurther 104 = .ok (.aload_n 0, 1) := by decide +kernel
theorem dX4_goFurther_105 : decode cX4_goFurther 105 = .ok (.getfield 29, 3) := by decide +kernel
theorem dX4_goFurther_108 : decode cX4_goFurther 108 = .ok (.iload_n 3, 1) := by decide +kernel
theorem dX4_goFurther_109 : decode cX4_goFurther 109 = .ok (.invokevirtual 66, 3) := by decide +kernel
theorem dX4_goFurther_112 : decode cX4_goFurther 112 = .ok (.iinc 2 1, 3) := by decide +kernel
theorem dX4_goFurther_115 : decode cX4_goFurther 115 = .ok (.goto (-113), 3) := by decide +kernel
theorem dX4_goFurther_118 : decode cX4_goFurther 118 = .ok (.return_, 1) := by decide +kernel
set_option maxRecDepth 20000 in
theorem ggX4_countWays_X8_has : GoodIn wsX4_countWays wsX8_has := goodIn_r _ [6] (by decide +kernel) (by decide +kernel)
set_option maxRecDepth 20000 in
theorem gX4_countWays_X8_has_n41 : GoodIn wsX4_countWays (wsX8_has) := ggX4_countWays_X8_has
theorem dX4_countWays_0 : decode cX4_countWays 0 = .ok (.aload_n 0, 1) := by decide +kernel
theorem dX4_countWays_1 : decode cX4_countWays 1 = .ok (.getfield 26, 3) := by decide +kernel
theorem dX4_countWays_4 : decode cX4_countWays 4 = .ok (.iload_n 1, 1) := by decide +kernel
theorem dX4_countWays_5 : decode cX4_countWays 5 = .ok (.iconst 1, 1) := by decide +kernel
theorem dX4_countWays_6 : decode cX4_countWays 6 = .ok (.iastore, 1) := by decide +kernel
theorem dX4_countWays_7 : decode cX4_countWays 7 = .ok (.iload_n 1, 1) := by decide +kernel
theorem dX4_countWays_8 : decode cX4_countWays 8 = .ok (.iconst 1, 1) := by decide +kernel
theorem dX4_countWays_9 : decode cX4_countWays 9 = .ok (.isub, 1) := by decide +kernel
theorem dX4_countWays_10 : decode cX4_countWays 10 = .ok (.istore_n 2, 1) := by decide +kernel
theorem dX4_countWays_11 : decode cX4_countWays 11 = .ok (.iload_n 2, 1) := by decide +kernel
theorem dX4_countWays_12 : decode cX4_countWays 12 = .ok (.ifCond .lt 57, 3) := by decide +kernel
theorem dX4_countWays_15 : decode cX4_countWays 15 = .ok (.iconst 0, 1) := by decide +kernel
theorem dX4_countWays_16 : decode cX4_countWays 16 = .ok (.istore_n 3, 1) := by decide +kernel
theorem dX4_countWays_17 : decode cX4_countWays 17 = .ok (.iload_n 3, 1) := by decide +kernel
theorem dX4_countWays_18 : decode cX4_countWays 18 = .ok (.aload_n 0, 1) := by decide +kernel
theorem dX4_countWays_19 : decode cX4_countWays 19 = .ok (.getfield 15, 3) := by decide +kernel
theorem dX4_countWays_22 : decode cX4_countWays 22 = .ok (.if_icmp .ge 41, 3) := by decide +kernel
theorem dX4_countWays_25 : decode cX4_countWays 25 = .ok (.aload_n 0, 1) := by decide +kernel
theorem dX4_countWays_26 : decode cX4_countWays 26 = .ok (.getfield 23, 3) := by decide +kernel
theorem dX4_countWays_29 : decode cX4_countWays 29 = .ok (.iload_n 2, 1) := by decide +kernel
theorem dX4_countWays_30 : decode cX4_countWays 30 = .ok (.iaload, 1) := by decide +kernel
theorem dX4_countWays_31 : decode cX4_countWays 31 = .ok (.iload_n 3, 1) := by decide +kernel
theorem dX4_countWays_32 : decode cX4_countWays 32 = .ok (.invokestatic 41, 3) := by decide +kernel
theorem dX4_countWays_35 : decode cX4_countWays 35 = .ok (.ifCond .eq 22, 3) := by decide +kernel
theorem dX4_countWays_38 : decode cX4_countWays 38 = .ok (.aload_n 0, 1) := by decide +kernel
theorem dX4_countWays_39 : decode cX4_countWays 39 = .ok (.getfield 26, 3) := by decide +kernel
theorem dX4_countWays_42 : decode cX4_countWays 42 = .ok (.iload_n 2, 1) := by decide +kernel
theorem dX4_countWays_43 : decode cX4_countWays 43 = .ok (.dup2, 1) := by decide +kernel
theorem dX4_countWays_44 : decode cX4_countWays 44 = .ok (.iaload, 1) := by decide +kernel
theorem dX4_countWays_45 : decode cX4_countWays 45 = .ok (.aload_n 0, 1) := by decide +kernel
theorem dX4_countWays_46 : decode cX4_countWays 46 = .ok (.getfield 26, 3) := by decide +kernel
theorem dX4_countWays_49 : decode cX4_countWays 49 = .ok (.iload_n 2, 1) := by decide +kernel
theorem dX4_countWays_50 : decode cX4_countWays 50 = .ok (.iconst 1, 1) := by decide +kernel
theorem dX4_countWays_51 : decode cX4_countWays 51 = .ok (.iload_n 3, 1) := by decide +kernel
theorem dX4_countWays_52 : decode cX4_countWays 52 = .ok (.ishl, 1) := by decide +kernel
theorem dX4_countWays_53 : decode cX4_countWays 53 = .ok (.ior, 1) := by decide +kernel
theorem dX4_countWays_54 : decode cX4_countWays 54 = .ok (.iaload, 1) := by decide +kernel
theorem dX4_countWays_55 : decode cX4_countWays 55 = .ok (.iadd, 1) := by decide +kernel
theorem dX4_countWays_56 : decode cX4_countWays 56 = .ok (.iastore, 1) := by decide +kernel
theorem dX4_countWays_57 : decode cX4_countWays 57 = .ok (.iinc 3 1, 3) := by decide +kernel
theorem dX4_countWays_60 : decode cX4_countWays 60 = .ok (.goto (-43), 3) := by decide +kernel
theorem dX4_countWays_63 : decode cX4_countWays 63 = .ok (.iinc 2 (-1), 3) := by decide +kernel
theorem dX4_countWays_66 : decode cX4_countWays 66 = .ok (.goto (-55), 3) := by decide +kernel
theorem dX4_countWays_69 : decode cX4_countWays 69 = .ok (.return_, 1) := by decide +kernel
theorem dX4_howMany_0 : decode cX4_howMany 0 = .ok (.aload_n 0, 1) := by decide +kernel
theorem dX4_howMany_1 : decode cX4_howMany 1 = .ok (.getfield 26, 3) := by decide +kernel
theorem dX4_howMany_4 : decode cX4_howMany 4 = .ok (.iconst 0, 1) := by decide +kernel
theorem dX4_howMany_5 : decode cX4_howMany 5 = .ok (.iaload, 1) := by decide +kernel
theorem dX4_howMany_6 : decode cX4_howMany 6 = .ok (.ireturn, 1) := by decide +kernel
set_option maxRecDepth 20000 in
theorem ggX4_memberOf_X4_waysBy : GoodIn wsX4_memberOf wsX4_waysBy := goodIn_r _ [8, 9, 1, 10, 11, 12, 13, 14, 15, 16, 17, 18, 19] (by decide +kernel) (by decide +kernel)
set_option maxRecDepth 20000 in
theorem gX4_memberOf_X4_waysBy : GoodIn wsX4_memberOf (wsV RX4 70 RX4 yX4_waysBy wsX4_waysBy) := goodIn_app (goodIn_of _ (by decide +kernel)) ggX4_memberOf_X4_waysBy
theorem dX4_memberOf_0 : decode cX4_memberOf 0 = .ok (.iload_n 1, 1) := by decide +kernel
theorem dX4_memberOf_1 : decode cX4_memberOf 1 = .ok (.aload_n 0, 1) := by decide +kernel
theorem dX4_memberOf_2 : decode cX4_memberOf 2 = .ok (.getfield 26, 3) := by decide +kernel
theorem dX4_memberOf_5 : decode cX4_memberOf 5 = .ok (.iconst 0, 1) := by decide +kernel
theorem dX4_memberOf_6 : decode cX4_memberOf 6 = .ok (.iaload, 1) := by decide +kernel
theorem dX4_memberOf_7 : decode cX4_memberOf 7 = .ok (.if_icmp .ge 15, 3) := by decide +kernel
theorem dX4_memberOf_10 : decode cX4_memberOf 10 = .ok (.iload_n 2, 1) := by decide +kernel
theorem dX4_memberOf_11 : decode cX4_memberOf 11 = .ok (.ifCond .lt 11, 3) := by decide +kernel
theorem dX4_memberOf_14 : decode cX4_memberOf 14 = .ok (.iload_n 2, 1) := by decide +kernel
theorem dX4_memberOf_15 : decode cX4_memberOf 15 = .ok (.aload_n 0, 1) := by decide +kernel
theorem dX4_memberOf_16 : decode cX4_memberOf 16 = .ok (.getfield 15, 3) := by decide +kernel
theorem dX4_memberOf_19 : decode cX4_memberOf 19 = .ok (.if_icmp .lt 5, 3) := by decide +kernel
theorem dX4_memberOf_22 : decode cX4_memberOf 22 = .ok (.iconst (-1), 1) := by decide +kernel
theorem dX4_memberOf_23 : decode cX4_memberOf 23 = .ok (.ireturn, 1) := by decide +kernel
theorem dX4_memberOf_24 : decode cX4_memberOf 24 = .ok (.iconst 0, 1) := by decide +kernel
theorem dX4_memberOf_25 : decode cX4_memberOf 25 = .ok (.istore_n 3, 1) := by decide +kernel
theorem dX4_memberOf_26 : decode cX4_memberOf 26 = .ok (.iconst 0, 1) := by decide +kernel
theorem dX4_memberOf_27 : decode cX4_memberOf 27 = .ok (.istore 4, 2) := by decide +kernel
theorem dX4_memberOf_29 : decode cX4_memberOf 29 = .ok (.iload_n 1, 1) := by decide +kernel
theorem dX4_memberOf_30 : decode cX4_memberOf 30 = .ok (.istore 5, 2) := by decide +kernel
theorem dX4_memberOf_32 : decode cX4_memberOf 32 = .ok (.iconst 0, 1) := by decide +kernel
theorem dX4_memberOf_33 : decode cX4_memberOf 33 = .ok (.istore 6, 2) := by decide +kernel
theorem dX4_memberOf_35 : decode cX4_memberOf 35 = .ok (.iload 6, 2) := by decide +kernel
theorem dX4_memberOf_37 : decode cX4_memberOf 37 = .ok (.iload_n 2, 1) := by decide +kernel
theorem dX4_memberOf_38 : decode cX4_memberOf 38 = .ok (.if_icmp .gt 69, 3) := by decide +kernel
theorem dX4_memberOf_41 : decode cX4_memberOf 41 = .ok (.iconst 0, 1) := by decide +kernel
theorem dX4_memberOf_42 : decode cX4_memberOf 42 = .ok (.istore 4, 2) := by decide +kernel
theorem dX4_memberOf_44 : decode cX4_memberOf 44 = .ok (.iload 4, 2) := by decide +kernel
theorem dX4_memberOf_46 : decode cX4_memberOf 46 = .ok (.aload_n 0, 1) := by decide +kernel
theorem dX4_memberOf_47 : decode cX4_memberOf 47 = .ok (.getfield 15, 3) := by decide +kernel
theorem dX4_memberOf_50 : decode cX4_memberOf 50 = .ok (.if_icmp .ge 33, 3) := by decide +kernel
theorem dX4_memberOf_53 : decode cX4_memberOf 53 = .ok (.iload 5, 2) := by decide +kernel
theorem dX4_memberOf_55 : decode cX4_memberOf 55 = .ok (.aload_n 0, 1) := by decide +kernel
theorem dX4_memberOf_56 : decode cX4_memberOf 56 = .ok (.iload_n 3, 1) := by decide +kernel
theorem dX4_memberOf_57 : decode cX4_memberOf 57 = .ok (.iload 4, 2) := by decide +kernel
theorem dX4_memberOf_59 : decode cX4_memberOf 59 = .ok (.invokevirtual 70, 3) := by decide +kernel
theorem dX4_memberOf_62 : decode cX4_memberOf 62 = .ok (.if_icmp .lt 21, 3) := by decide +kernel
theorem dX4_memberOf_65 : decode cX4_memberOf 65 = .ok (.iload 5, 2) := by decide +kernel
theorem dX4_memberOf_67 : decode cX4_memberOf 67 = .ok (.aload_n 0, 1) := by decide +kernel
theorem dX4_memberOf_68 : decode cX4_memberOf 68 = .ok (.iload_n 3, 1) := by decide +kernel
theorem dX4_memberOf_69 : decode cX4_memberOf 69 = .ok (.iload 4, 2) := by decide +kernel
theorem dX4_memberOf_71 : decode cX4_memberOf 71 = .ok (.invokevirtual 70, 3) := by decide +kernel
theorem dX4_memberOf_74 : decode cX4_memberOf 74 = .ok (.isub, 1) := by decide +kernel
theorem dX4_memberOf_75 : decode cX4_memberOf 75 = .ok (.istore 5, 2) := by decide +kernel
theorem dX4_memberOf_77 : decode cX4_memberOf 77 = .ok (.iinc 4 1, 3) := by decide +kernel
theorem dX4_memberOf_80 : decode cX4_memberOf 80 = .ok (.goto (-36), 3) := by decide +kernel
theorem dX4_memberOf_83 : decode cX4_memberOf 83 = .ok (.iload 4, 2) := by decide +kernel
theorem dX4_memberOf_85 : decode cX4_memberOf 85 = .ok (.aload_n 0, 1) := by decide +kernel
theorem dX4_memberOf_86 : decode cX4_memberOf 86 = .ok (.getfield 15, 3) := by decide +kernel
theorem dX4_memberOf_89 : decode cX4_memberOf 89 = .ok (.if_icmp .lt 5, 3) := by decide +kernel
theorem dX4_memberOf_92 : decode cX4_memberOf 92 = .ok (.iconst (-1), 1) := by decide +kernel
theorem dX4_memberOf_93 : decode cX4_memberOf 93 = .ok (.ireturn, 1) := by decide +kernel
theorem dX4_memberOf_94 : decode cX4_memberOf 94 = .ok (.iload_n 3, 1) := by decide +kernel
theorem dX4_memberOf_95 : decode cX4_memberOf 95 = .ok (.iconst 1, 1) := by decide +kernel
theorem dX4_memberOf_96 : decode cX4_memberOf 96 = .ok (.iload 4, 2) := by decide +kernel
theorem dX4_memberOf_98 : decode cX4_memberOf 98 = .ok (.ishl, 1) := by decide +kernel
theorem dX4_memberOf_99 : decode cX4_memberOf 99 = .ok (.ior, 1) := by decide +kernel
theorem dX4_memberOf_100 : decode cX4_memberOf 100 = .ok (.istore_n 3, 1) := by decide +kernel
theorem dX4_memberOf_101 : decode cX4_memberOf 101 = .ok (.iinc 6 1, 3) := by decide +kernel
theorem dX4_memberOf_104 : decode cX4_memberOf 104 = .ok (.goto (-69), 3) := by decide +kernel
theorem dX4_memberOf_107 : decode cX4_memberOf 107 = .ok (.aload_n 0, 1) := by decide +kernel
theorem dX4_memberOf_108 : decode cX4_memberOf 108 = .ok (.getfield 9, 3) := by decide +kernel
theorem dX4_memberOf_111 : decode cX4_memberOf 111 = .ok (.iload 4, 2) := by decide +kernel
theorem dX4_memberOf_113 : decode cX4_memberOf 113 = .ok (.iaload, 1) := by decide +kernel
theorem dX4_memberOf_114 : decode cX4_memberOf 114 = .ok (.ireturn, 1) := by decide +kernel
set_option maxRecDepth 20000 in
theorem ggX4_waysBy_X8_has : GoodIn wsX4_waysBy wsX8_has := goodIn_r _ [5] (by decide +kernel) (by decide +kernel)
set_option maxRecDepth 20000 in
theorem gX4_waysBy_X8_has_n41 : GoodIn wsX4_waysBy (wsX8_has) := ggX4_waysBy_X8_has
theorem dX4_waysBy_0 : decode cX4_waysBy 0 = .ok (.aload_n 0, 1) := by decide +kernel
theorem dX4_waysBy_1 : decode cX4_waysBy 1 = .ok (.getfield 23, 3) := by decide +kernel
theorem dX4_waysBy_4 : decode cX4_waysBy 4 = .ok (.iload_n 1, 1) := by decide +kernel
theorem dX4_waysBy_5 : decode cX4_waysBy 5 = .ok (.iaload, 1) := by decide +kernel
theorem dX4_waysBy_6 : decode cX4_waysBy 6 = .ok (.iload_n 2, 1) := by decide +kernel
theorem dX4_waysBy_7 : decode cX4_waysBy 7 = .ok (.invokestatic 41, 3) := by decide +kernel
theorem dX4_waysBy_10 : decode cX4_waysBy 10 = .ok (.ifCond .eq 16, 3) := by decide +kernel
theorem dX4_waysBy_13 : decode cX4_waysBy 13 = .ok (.aload_n 0, 1) := by decide +kernel
theorem dX4_waysBy_14 : decode cX4_waysBy 14 = .ok (.getfield 26, 3) := by decide +kernel
theorem dX4_waysBy_17 : decode cX4_waysBy 17 = .ok (.iload_n 1, 1) := by decide +kernel
theorem dX4_waysBy_18 : decode cX4_waysBy 18 = .ok (.iconst 1, 1) := by decide +kernel
theorem dX4_waysBy_19 : decode cX4_waysBy 19 = .ok (.iload_n 2, 1) := by decide +kernel
theorem dX4_waysBy_20 : decode cX4_waysBy 20 = .ok (.ishl, 1) := by decide +kernel
theorem dX4_waysBy_21 : decode cX4_waysBy 21 = .ok (.ior, 1) := by decide +kernel
theorem dX4_waysBy_22 : decode cX4_waysBy 22 = .ok (.iaload, 1) := by decide +kernel
theorem dX4_waysBy_23 : decode cX4_waysBy 23 = .ok (.goto 4, 3) := by decide +kernel
theorem dX4_waysBy_26 : decode cX4_waysBy 26 = .ok (.iconst 0, 1) := by decide +kernel
theorem dX4_waysBy_27 : decode cX4_waysBy 27 = .ok (.ireturn, 1) := by decide +kernel
theorem dX5_init_0 : decode cX5_init 0 = .ok (.aload_n 0, 1) := by decide +kernel
theorem dX5_init_1 : decode cX5_init 1 = .ok (.invokespecial 3, 3) := by decide +kernel
theorem dX5_init_4 : decode cX5_init 4 = .ok (.aload_n 0, 1) := by decide +kernel
theorem dX5_init_5 : decode cX5_init 5 = .ok (.iconst 0, 1) := by decide +kernel
theorem dX5_init_6 : decode cX5_init 6 = .ok (.putfield 9, 3) := by decide +kernel
theorem dX5_init_9 : decode cX5_init 9 = .ok (.aload_n 0, 1) := by decide +kernel
theorem dX5_init_10 : decode cX5_init 10 = .ok (.iconst 0, 1) := by decide +kernel
theorem dX5_init_11 : decode cX5_init 11 = .ok (.putfield 15, 3) := by decide +kernel
theorem dX5_init_14 : decode cX5_init 14 = .ok (.aload_n 0, 1) := by decide +kernel
theorem dX5_init_15 : decode cX5_init 15 = .ok (.bipush 8, 2) := by decide +kernel
theorem dX5_init_17 : decode cX5_init 17 = .ok (.newarray .int, 2) := by decide +kernel
theorem dX5_init_19 : decode cX5_init 19 = .ok (.putfield 18, 3) := by decide +kernel
theorem dX5_init_22 : decode cX5_init 22 = .ok (.aload_n 0, 1) := by decide +kernel
theorem dX5_init_23 : decode cX5_init 23 = .ok (.bipush 8, 2) := by decide +kernel
theorem dX5_init_25 : decode cX5_init 25 = .ok (.newarray .int, 2) := by decide +kernel
theorem dX5_init_27 : decode cX5_init 27 = .ok (.putfield 22, 3) := by decide +kernel
theorem dX5_init_30 : decode cX5_init 30 = .ok (.aload_n 0, 1) := by decide +kernel
theorem dX5_init_31 : decode cX5_init 31 = .ok (.iconst (-1), 1) := by decide +kernel
theorem dX5_init_32 : decode cX5_init 32 = .ok (.putfield 25, 3) := by decide +kernel
theorem dX5_init_35 : decode cX5_init 35 = .ok (.aload_n 0, 1) := by decide +kernel
theorem dX5_init_36 : decode cX5_init 36 = .ok (.iconst (-1), 1) := by decide +kernel
theorem dX5_init_37 : decode cX5_init 37 = .ok (.putfield 28, 3) := by decide +kernel
theorem dX5_init_40 : decode cX5_init 40 = .ok (.aload_n 0, 1) := by decide +kernel
theorem dX5_init_41 : decode cX5_init 41 = .ok (.iconst 0, 1) := by decide +kernel
theorem dX5_init_42 : decode cX5_init 42 = .ok (.putfield 31, 3) := by decide +kernel
theorem dX5_init_45 : decode cX5_init 45 = .ok (.return_, 1) := by decide +kernel
theorem dX5_become_0 : decode cX5_become 0 = .ok (.aload_n 0, 1) := by decide +kernel
theorem dX5_become_1 : decode cX5_become 1 = .ok (.aload_n 1, 1) := by decide +kernel
theorem dX5_become_2 : decode cX5_become 2 = .ok (.getfield 9, 3) := by decide +kernel
theorem dX5_become_5 : decode cX5_become 5 = .ok (.putfield 9, 3) := by decide +kernel
theorem dX5_become_8 : decode cX5_become 8 = .ok (.aload_n 0, 1) := by decide +kernel
theorem dX5_become_9 : decode cX5_become 9 = .ok (.aload_n 1, 1) := by decide +kernel
theorem dX5_become_10 : decode cX5_become 10 = .ok (.getfield 15, 3) := by decide +kernel
theorem dX5_become_13 : decode cX5_become 13 = .ok (.putfield 15, 3) := by decide +kernel
theorem dX5_become_16 : decode cX5_become 16 = .ok (.aload_n 1, 1) := by decide +kernel
theorem dX5_become_17 : decode cX5_become 17 = .ok (.getfield 18, 3) := by decide +kernel
theorem dX5_become_20 : decode cX5_become 20 = .ok (.iconst 0, 1) := by decide +kernel
theorem dX5_become_21 : decode cX5_become 21 = .ok (.aload_n 0, 1) := by decide +kernel
theorem dX5_become_22 : decode cX5_become 22 = .ok (.getfield 18, 3) := by decide +kernel
theorem dX5_become_25 : decode cX5_become 25 = .ok (.iconst 0, 1) := by decide +kernel
theorem dX5_become_26 : decode cX5_become 26 = .ok (.bipush 8, 2) := by decide +kernel
theorem dX5_become_28 : decode cX5_become 28 = .ok (.invokestatic 34, 3) := by decide +kernel
theorem dX5_become_31 : decode cX5_become 31 = .ok (.aload_n 1, 1) := by decide +kernel
theorem dX5_become_32 : decode cX5_become 32 = .ok (.getfield 22, 3) := by decide +kernel
theorem dX5_become_35 : decode cX5_become 35 = .ok (.iconst 0, 1) := by decide +kernel
theorem dX5_become_36 : decode cX5_become 36 = .ok (.aload_n 0, 1) := by decide +kernel
theorem dX5_become_37 : decode cX5_become 37 = .ok (.getfield 22, 3) := by decide +kernel
theorem dX5_become_40 : decode cX5_become 40 = .ok (.iconst 0, 1) := by decide +kernel
theorem dX5_become_41 : decode cX5_become 41 = .ok (.bipush 8, 2) := by decide +kernel
theorem dX5_become_43 : decode cX5_become 43 = .ok (.invokestatic 34, 3) := by decide +kernel
theorem dX5_become_46 : decode cX5_become 46 = .ok (.aload_n 0, 1) := by decide +kernel
theorem dX5_become_47 : decode cX5_become 47 = .ok (.aload_n 1, 1) := by decide +kernel
theorem dX5_become_48 : decode cX5_become 48 = .ok (.getfield 25, 3) := by decide +kernel
theorem dX5_become_51 : decode cX5_become 51 = .ok (.putfield 25, 3) := by decide +kernel
theorem dX5_become_54 : decode cX5_become 54 = .ok (.aload_n 0, 1) := by decide +kernel
theorem dX5_become_55 : decode cX5_become 55 = .ok (.aload_n 1, 1) := by decide +kernel
theorem dX5_become_56 : decode cX5_become 56 = .ok (.getfield 28, 3) := by decide +kernel
theorem dX5_become_59 : decode cX5_become 59 = .ok (.putfield 28, 3) := by decide +kernel
theorem dX5_become_62 : decode cX5_become 62 = .ok (.aload_n 0, 1) := by decide +kernel
theorem dX5_become_63 : decode cX5_become 63 = .ok (.aload_n 1, 1) := by decide +kernel
theorem dX5_become_64 : decode cX5_become 64 = .ok (.getfield 31, 3) := by decide +kernel
theorem dX5_become_67 : decode cX5_become 67 = .ok (.putfield 31, 3) := by decide +kernel
theorem dX5_become_70 : decode cX5_become 70 = .ok (.return_, 1) := by decide +kernel
set_option maxRecDepth 20000 in
theorem ggX5_readFrom_X3_atEnd : GoodIn wsX5_readFrom wsX3_atEnd := goodIn_r _ [10, 11, 145, 146, 147, 148, 149, 150, 151, 152] (by decide +kernel) (by decide +kernel)
set_option maxRecDepth 20000 in
theorem gX5_readFrom_X3_atEnd : GoodIn wsX5_readFrom (wsV RX5 40 RX3 yX3_atEnd wsX3_atEnd) := goodIn_app (goodIn_of _ (by decide +kernel)) ggX5_readFrom_X3_atEnd
set_option maxRecDepth 20000 in
theorem ggX5_readFrom_X5_readClause : GoodIn wsX5_readFrom wsX5_readClause := goodIn_r _ [16, 2, 3, 4, 5, 17, 18, 19, 9, 20, 11, 21, 22, 23, 24, 25, 26, 27, 28, 29, 30, 31, 32, 33, 34, 35, 36, 37, 38, 39, 40, 41, 42, 43, 44, 45, 46, 47, 48, 49, 50, 51, 52, 53, 54, 55, 56, 57, 58, 59, 60, 61, 62, 63, 64, 65, 66, 67, 68, 69, 70, 71, 72, 73, 74, 75, 76, 15, 77, 78, 79, 80, 81, 82, 83, 84, 85, 86, 87, 88, 89, 90, 91, 92, 93, 94, 95, 96, 97, 98, 99, 100, 101, 102, 103, 104, 105, 106, 107, 108, 109, 110, 111, 112, 113, 114, 115, 116, 117, 118, 119, 120, 121, 122, 123, 124, 125, 126, 127, 128, 129, 130, 131, 132, 138, 139, 140, 141, 142, 143, 144, 145, 146, 147, 148, 149, 150, 151, 152, 153, 154] (by decide +kernel) (by decide +kernel)
set_option maxRecDepth 20000 in
theorem gX5_readFrom_X5_readClause : GoodIn wsX5_readFrom (wsV RX5 46 RX5 yX5_readClause wsX5_readClause) := goodIn_app (goodIn_of _ (by decide +kernel)) ggX5_readFrom_X5_readClause
set_option maxRecDepth 20000 in
theorem ggX5_readFrom_X3_needSign : GoodIn wsX5_readFrom wsX3_needSign := goodIn_r _ [136, 137, 126, 127, 9, 128, 129, 130, 131, 132, 11, 23, 24, 22, 104, 81, 82, 83, 84, 21, 85, 86, 87, 98, 99, 100, 101, 102, 103, 145, 146, 147, 148, 149, 150, 151, 152, 153, 154] (by decide +kernel) (by decide +kernel)
set_option maxRecDepth 20000 in
theorem gX5_readFrom_X3_needSign : GoodIn wsX5_readFrom (wsV RX5 50 RX3 yX3_needSign wsX3_needSign) := goodIn_app (goodIn_of _ (by decide +kernel)) ggX5_readFrom_X3_needSign
theorem dX5_readFrom_0 : decode cX5_readFrom 0 = .ok (.aload_n 0, 1) := by decide +kernel
theorem dX5_readFrom_1 : decode cX5_readFrom 1 = .ok (.iconst 0, 1) := by decide +kernel
theorem dX5_readFrom_2 : decode cX5_readFrom 2 = .ok (.putfield 9, 3) := by decide +kernel
theorem dX5_readFrom_5 : decode cX5_readFrom 5 = .ok (.aload_n 0, 1) := by decide +kernel
theorem dX5_readFrom_6 : decode cX5_readFrom 6 = .ok (.iconst 0, 1) := by decide +kernel
theorem dX5_readFrom_7 : decode cX5_readFrom 7 = .ok (.putfield 15, 3) := by decide +kernel
theorem dX5_readFrom_10 : decode cX5_readFrom 10 = .ok (.aload_n 0, 1) := by decide +kernel
theorem dX5_readFrom_11 : decode cX5_readFrom 11 = .ok (.iconst (-1), 1) := by decide +kernel
theorem dX5_readFrom_12 : decode cX5_readFrom 12 = .ok (.putfield 25, 3) := by decide +kernel
theorem dX5_readFrom_15 : decode cX5_readFrom 15 = .ok (.aload_n 0, 1) := by decide +kernel
theorem dX5_readFrom_16 : decode cX5_readFrom 16 = .ok (.iconst (-1), 1) := by decide +kernel
theorem dX5_readFrom_17 : decode cX5_readFrom 17 = .ok (.putfield 28, 3) := by decide +kernel
theorem dX5_readFrom_20 : decode cX5_readFrom 20 = .ok (.aload_n 0, 1) := by decide +kernel
theorem dX5_readFrom_21 : decode cX5_readFrom 21 = .ok (.iconst 0, 1) := by decide +kernel
theorem dX5_readFrom_22 : decode cX5_readFrom 22 = .ok (.putfield 31, 3) := by decide +kernel
theorem dX5_readFrom_25 : decode cX5_readFrom 25 = .ok (.iconst 0, 1) := by decide +kernel
theorem dX5_readFrom_26 : decode cX5_readFrom 26 = .ok (.istore_n 2, 1) := by decide +kernel
theorem dX5_readFrom_27 : decode cX5_readFrom 27 = .ok (.iload_n 2, 1) := by decide +kernel
theorem dX5_readFrom_28 : decode cX5_readFrom 28 = .ok (.sipush 500, 3) := by decide +kernel
theorem dX5_readFrom_31 : decode cX5_readFrom 31 = .ok (.if_icmp .ge 45, 3) := by decide +kernel
theorem dX5_readFrom_34 : decode cX5_readFrom 34 = .ok (.aload_n 1, 1) := by decide +kernel
theorem dX5_readFrom_35 : decode cX5_readFrom 35 = .ok (.invokevirtual 40, 3) := by decide +kernel
theorem dX5_readFrom_38 : decode cX5_readFrom 38 = .ok (.ifCond .ne 38, 3) := by decide +kernel
theorem dX5_readFrom_41 : decode cX5_readFrom 41 = .ok (.aload_n 0, 1) := by decide +kernel
theorem dX5_readFrom_42 : decode cX5_readFrom 42 = .ok (.aload_n 1, 1) := by decide +kernel
theorem dX5_readFrom_43 : decode cX5_readFrom 43 = .ok (.invokevirtual 46, 3) := by decide +kernel
theorem dX5_readFrom_46 : decode cX5_readFrom 46 = .ok (.ifCond .eq 12, 3) := by decide +kernel
theorem dX5_readFrom_49 : decode cX5_readFrom 49 = .ok (.aload_n 1, 1) := by decide +kernel
theorem dX5_readFrom_50 : decode cX5_readFrom 50 = .ok (.bipush 59, 2) := by decide +kernel
theorem dX5_readFrom_52 : decode cX5_readFrom 52 = .ok (.invokevirtual 50, 3) := by decide +kernel
theorem dX5_readFrom_55 : decode cX5_readFrom 55 = .ok (.ifCond .ne 5, 3) := by decide +kernel
theorem dX5_readFrom_58 : decode cX5_readFrom 58 = .ok (.iconst 0, 1) := by decide +kernel
theorem dX5_readFrom_59 : decode cX5_readFrom 59 = .ok (.ireturn, 1) := by decide +kernel
theorem dX5_readFrom_60 : decode cX5_readFrom 60 = .ok (.aload_n 0, 1) := by decide +kernel
theorem dX5_readFrom_61 : decode cX5_readFrom 61 = .ok (.dup, 1) := by decide +kernel
theorem dX5_readFrom_62 : decode cX5_readFrom 62 = .ok (.getfield 9, 3) := by decide +kernel
theorem dX5_readFrom_65 : decode cX5_readFrom 65 = .ok (.iconst 1, 1) := by decide +kernel
theorem dX5_readFrom_66 : decode cX5_readFrom 66 = .ok (.iadd, 1) := by decide +kernel
theorem dX5_readFrom_67 : decode cX5_readFrom 67 = .ok (.putfield 9, 3) := by decide +kernel
theorem dX5_readFrom_70 : decode cX5_readFrom 70 = .ok (.iinc 2 1, 3) := by decide +kernel
theorem dX5_readFrom_73 : decode cX5_readFrom 73 = .ok (.goto (-46), 3) := by decide +kernel
theorem dX5_readFrom_76 : decode cX5_readFrom 76 = .ok (.iconst 1, 1) := by decide +kernel
theorem dX5_readFrom_77 : decode cX5_readFrom 77 = .ok (.ireturn, 1) := by decide +kernel
set_option maxRecDepth 20000 in
theorem ggX5_readClause_X3_isWord : GoodIn wsX5_readClause wsX3_isWord := goodIn_r _ [9, 10, 11, 12, 13, 14, 15, 16, 17, 18, 19, 20, 21, 22, 23, 24, 25, 26, 27, 28, 29, 30, 31, 32, 33, 34, 35, 36, 37, 38, 39, 40, 41, 42, 43, 44, 45, 46, 47, 48, 49, 50, 51, 52, 53, 54, 55, 56, 57, 58, 59, 60, 61, 62, 63, 131, 132, 133, 134, 135, 136, 137, 138, 139, 140] (by decide +kernel) (by decide +kernel)
set_option maxRecDepth 20000 in
theorem gX5_readClause_X3_isWord : GoodIn wsX5_readClause (wsV RX5 56 RX3 yX3_isWord wsX3_isWord) := goodIn_app (goodIn_of _ (by decide +kernel)) ggX5_readClause_X3_isWord
set_option maxRecDepth 20000 in
theorem ggX5_readClause_X5_readFreeze : GoodIn wsX5_readClause wsX5_readFreeze := goodIn_r _ [68, 69, 1, 70, 71, 72, 73, 8, 74, 13, 75, 11, 14, 12, 10, 76, 77, 78, 79, 80, 81, 82, 83, 84, 85, 86, 87, 88, 89, 90, 91, 92, 93, 94, 95, 124, 125, 126, 127, 128, 129, 130, 131, 132, 133, 134, 135, 136, 137, 138, 139, 140] (by decide +kernel) (by decide +kernel)
set_option maxRecDepth 20000 in
theorem gX5_readClause_X5_readFreeze : GoodIn wsX5_readClause (wsV RX5 60 RX5 yX5_readFreeze wsX5_readFreeze) := goodIn_app (goodIn_of _ (by decide +kernel)) ggX5_readClause_X5_readFreeze
set_option maxRecDepth 20000 in
theorem ggX5_readClause_X3_refuse : GoodIn wsX5_readClause wsX3_refuse := goodIn_r _ [92, 93, 12, 94, 131, 132, 133, 134, 135, 136, 137, 138] (by decide +kernel) (by decide +kernel)
set_option maxRecDepth 20000 in
theorem gX5_readClause_X3_refuse : GoodIn wsX5_readClause (wsV RX5 63 RX3 yX3_refuse wsX3_refuse) := goodIn_app (goodIn_of _ (by decide +kernel)) ggX5_readClause_X3_refuse
set_option maxRecDepth 20000 in
theorem ggX5_readClause_X5_readRisk : GoodIn wsX5_readClause wsX5_readRisk := goodIn_r _ [100, 2, 71, 72, 73, 8, 74, 13, 75, 11, 14, 12, 10, 76, 77, 78, 79, 80, 81, 82, 83, 84, 85, 86, 87, 88, 89, 90, 91, 92, 93, 94, 95, 124, 125, 126, 127, 128, 129, 130, 131, 132, 133, 134, 135, 136, 137, 138, 139, 140] (by decide +kernel) (by decide +kernel)
set_option maxRecDepth 20000 in
theorem gX5_readClause_X5_readRisk : GoodIn wsX5_readClause (wsV RX5 69 RX5 yX5_readRisk wsX5_readRisk) := goodIn_app (goodIn_of _ (by decide +kernel)) ggX5_readClause_X5_readRisk
set_option maxRecDepth 20000 in
theorem ggX5_readClause_X5_readWeight : GoodIn wsX5_readClause wsX5_readWeight := goodIn_r _ [104, 3, 71, 72, 73, 8, 74, 13, 75, 11, 14, 12, 10, 76, 77, 78, 79, 80, 81, 82, 83, 84, 85, 86, 87, 88, 89, 90, 91, 92, 93, 94, 95, 124, 125, 126, 127, 128, 129, 130, 131, 132, 133, 134, 135, 136, 137, 138, 139, 140] (by decide +kernel) (by decide +kernel)
set_option maxRecDepth 20000 in
theorem gX5_readClause_X5_readWeight : GoodIn wsX5_readClause (wsV RX5 74 RX5 yX5_readWeight wsX5_readWeight) := goodIn_app (goodIn_of _ (by decide +kernel)) ggX5_readClause_X5_readWeight
set_option maxRecDepth 20000 in
theorem ggX5_readClause_X5_readLines : GoodIn wsX5_readClause wsX5_readLines := goodIn_r _ [108, 4, 71, 72, 73, 8, 74, 13, 75, 11, 14, 12, 10, 76, 77, 78, 109, 110, 111, 112, 83, 84, 85, 86, 87, 88, 89, 90, 91, 92, 93, 94, 113, 114, 115, 95, 116, 117, 118, 119, 120, 121, 122, 123, 124, 125, 126, 127, 128, 129, 130, 131, 132, 133, 134, 135, 136, 137, 138, 139, 140] (by decide +kernel) (by decide +kernel)
set_option maxRecDepth 20000 in
theorem gX5_readClause_X5_readLines : GoodIn wsX5_readClause (wsV RX5 79 RX5 yX5_readLines wsX5_readLines) := goodIn_app (goodIn_of _ (by decide +kernel)) ggX5_readClause_X5_readLines
theorem dX5_readClause_0 : decode cX5_readClause 0 = .ok (.aload_n 1, 1) := by decide +kernel
theorem dX5_readClause_1 : decode cX5_readClause 1 = .ok (.ldc 54, 2) := by decide +kernel
theorem dX5_readClause_3 : decode cX5_readClause 3 = .ok (.invokevirtual 56, 3) := by decide +kernel
theorem dX5_readClause_6 : decode cX5_readClause 6 = .ok (.ifCond .eq 26, 3) := by decide +kernel
theorem dX5_readClause_9 : decode cX5_readClause 9 = .ok (.aload_n 0, 1) := by decide +kernel
theorem dX5_readClause_10 : decode cX5_readClause 10 = .ok (.getfield 15, 3) := by decide +kernel
theorem dX5_readClause_13 : decode cX5_readClause 13 = .ok (.bipush 8, 2) := by decide +kernel
theorem dX5_readClause_15 : decode cX5_readClause 15 = .ok (.if_icmp .ge 11, 3) := by decide +kernel
theorem dX5_readClause_18 : decode cX5_readClause 18 = .ok (.aload_n 0, 1) := by decide +kernel
theorem dX5_readClause_19 : decode cX5_readClause 19 = .ok (.aload_n 1, 1) := by decide +kernel
theorem dX5_readClause_20 : decode cX5_readClause 20 = .ok (.invokevirtual 60, 3) := by decide +kernel
theorem dX5_readClause_23 : decode cX5_readClause 23 = .ok (.goto 8, 3) := by decide +kernel
theorem dX5_readClause_26 : decode cX5_readClause 26 = .ok (.aload_n 1, 1) := by decide +kernel
theorem dX5_readClause_27 : decode cX5_readClause 27 = .ok (.iconst 3, 1) := by decide +kernel
theorem dX5_readClause_28 : decode cX5_readClause 28 = .ok (.invokevirtual 63, 3) := by decide +kernel
theorem dX5_readClause_31 : decode cX5_readClause 31 = .ok (.ireturn, 1) := by decide +kernel
theorem dX5_readClause_32 : decode cX5_readClause 32 = .ok (.aload_n 1, 1) := by decide +kernel
theorem dX5_readClause_33 : decode cX5_readClause 33 = .ok (.ldc 67, 2) := by decide +kernel
theorem dX5_readClause_35 : decode cX5_readClause 35 = .ok (.invokevirtual 56, 3) := by decide +kernel
theorem dX5_readClause_38 : decode cX5_readClause 38 = .ok (.ifCond .eq 25, 3) := by decide +kernel
theorem dX5_readClause_41 : decode cX5_readClause 41 = .ok (.aload_n 0, 1) := by decide +kernel
theorem dX5_readClause_42 : decode cX5_readClause 42 = .ok (.getfield 25, 3) := by decide +kernel
theorem dX5_readClause_45 : decode cX5_readClause 45 = .ok (.iconst (-1), 1) := by decide +kernel
theorem dX5_readClause_46 : decode cX5_readClause 46 = .ok (.if_icmp .ne 11, 3) := by decide +kernel
theorem dX5_readClause_49 : decode cX5_readClause 49 = .ok (.aload_n 0, 1) := by decide +kernel
theorem dX5_readClause_50 : decode cX5_readClause 50 = .ok (.aload_n 1, 1) := by decide +kernel
theorem dX5_readClause_51 : decode cX5_readClause 51 = .ok (.invokevirtual 69, 3) := by decide +kernel
theorem dX5_readClause_54 : decode cX5_readClause 54 = .ok (.goto 8, 3) := by decide +kernel
theorem dX5_readClause_57 : decode cX5_readClause 57 = .ok (.aload_n 1, 1) := by decide +kernel
theorem dX5_readClause_58 : decode cX5_readClause 58 = .ok (.iconst 3, 1) := by decide +kernel
theorem dX5_readClause_59 : decode cX5_readClause 59 = .ok (.invokevirtual 63, 3) := by decide +kernel
theorem dX5_readClause_62 : decode cX5_readClause 62 = .ok (.ireturn, 1) := by decide +kernel
theorem dX5_readClause_63 : decode cX5_readClause 63 = .ok (.aload_n 1, 1) := by decide +kernel
theorem dX5_readClause_64 : decode cX5_readClause 64 = .ok (.ldc 72, 2) := by decide +kernel
theorem dX5_readClause_66 : decode cX5_readClause 66 = .ok (.invokevirtual 56, 3) := by decide +kernel
theorem dX5_readClause_69 : decode cX5_readClause 69 = .ok (.ifCond .eq 25, 3) := by decide +kernel
theorem dX5_readClause_72 : decode cX5_readClause 72 = .ok (.aload_n 0, 1) := by decide +kernel
theorem dX5_readClause_73 : decode cX5_readClause 73 = .ok (.getfield 28, 3) := by decide +kernel
theorem dX5_readClause_76 : decode cX5_readClause 76 = .ok (.iconst (-1), 1) := by decide +kernel
theorem dX5_readClause_77 : decode cX5_readClause 77 = .ok (.if_icmp .ne 11, 3) := by decide +kernel
theorem dX5_readClause_80 : decode cX5_readClause 80 = .ok (.aload_n 0, 1) := by decide +kernel
theorem dX5_readClause_81 : decode cX5_readClause 81 = .ok (.aload_n 1, 1) := by decide +kernel
theorem dX5_readClause_82 : decode cX5_readClause 82 = .ok (.invokevirtual 74, 3) := by decide +kernel
theorem dX5_readClause_85 : decode cX5_readClause 85 = .ok (.goto 8, 3) := by decide +kernel
theorem dX5_readClause_88 : decode cX5_readClause 88 = .ok (.aload_n 1, 1) := by decide +kernel
theorem dX5_readClause_89 : decode cX5_readClause 89 = .ok (.iconst 3, 1) := by decide +kernel
theorem dX5_readClause_90 : decode cX5_readClause 90 = .ok (.invokevirtual 63, 3) := by decide +kernel
theorem dX5_readClause_93 : decode cX5_readClause 93 = .ok (.ireturn, 1) := by decide +kernel
theorem dX5_readClause_94 : decode cX5_readClause 94 = .ok (.aload_n 1, 1) := by decide +kernel
theorem dX5_readClause_95 : decode cX5_readClause 95 = .ok (.ldc 77, 2) := by decide +kernel
theorem dX5_readClause_97 : decode cX5_readClause 97 = .ok (.invokevirtual 56, 3) := by decide +kernel
theorem dX5_readClause_100 : decode cX5_readClause 100 = .ok (.ifCond .eq 24, 3) := by decide +kernel
theorem dX5_readClause_103 : decode cX5_readClause 103 = .ok (.aload_n 0, 1) := by decide +kernel
theorem dX5_readClause_104 : decode cX5_readClause 104 = .ok (.getfield 31, 3) := by decide +kernel
theorem dX5_readClause_107 : decode cX5_readClause 107 = .ok (.ifCond .ne 11, 3) := by decide +kernel
theorem dX5_readClause_110 : decode cX5_readClause 110 = .ok (.aload_n 0, 1) := by decide +kernel
theorem dX5_readClause_111 : decode cX5_readClause 111 = .ok (.aload_n 1, 1) := by decide +kernel
theorem dX5_readClause_112 : decode cX5_readClause 112 = .ok (.invokevirtual 79, 3) := by decide +kernel
theorem dX5_readClause_115 : decode cX5_readClause 115 = .ok (.goto 8, 3) := by decide +kernel
theorem dX5_readClause_118 : decode cX5_readClause 118 = .ok (.aload_n 1, 1) := by decide +kernel
theorem dX5_readClause_119 : decode cX5_readClause 119 = .ok (.iconst 3, 1) := by decide +kernel
theorem dX5_readClause_120 : decode cX5_readClause 120 = .ok (.invokevirtual 63, 3) := by decide +kernel
theorem dX5_readClause_123 : decode cX5_readClause 123 = .ok (.ireturn, 1) := by decide +kernel
theorem dX5_readClause_124 : decode cX5_readClause 124 = .ok (.aload_n 1, 1) := by decide +kernel
theorem dX5_readClause_125 : decode cX5_readClause 125 = .ok (.iconst 1, 1) := by decide +kernel
theorem dX5_readClause_126 : decode cX5_readClause 126 = .ok (.invokevirtual 63, 3) := by decide +kernel
theorem dX5_readClause_129 : decode cX5_readClause 129 = .ok (.ireturn, 1) := by decide +kernel
set_option maxRecDepth 20000 in
theorem ggX5_readFreeze_X3_step : GoodIn wsX5_readFreeze wsX3_step := goodIn_r _ [8, 9, 10, 11, 12, 13, 14, 15, 16, 7, 17, 42, 43, 44, 45, 46, 47, 48, 49, 50, 51] (by decide +kernel) (by decide +kernel)
set_option maxRecDepth 20000 in
theorem gX5_readFreeze_X3_step : GoodIn wsX5_readFreeze (wsV RX5 82 RX3 yX3_step wsX3_step) := goodIn_app (goodIn_of _ (by decide +kernel)) ggX5_readFreeze_X3_step
set_option maxRecDepth 20000 in
theorem ggX5_readFreeze_X3_needNumber : GoodIn wsX5_readFreeze wsX3_needNumber := goodIn_r _ [21, 22, 23, 24, 25, 7, 26, 14, 13, 11, 9, 12, 27, 28, 29, 30, 31, 32, 33, 34, 5, 6, 8, 10, 15, 16, 17, 42, 43, 44, 45, 46, 47, 48, 49, 50, 51] (by decide +kernel) (by decide +kernel)
set_option maxRecDepth 20000 in
theorem gX5_readFreeze_X3_needNumber : GoodIn wsX5_readFreeze (wsV RX5 85 RX3 yX3_needNumber wsX3_needNumber) := goodIn_app (goodIn_of _ (by decide +kernel)) ggX5_readFreeze_X3_needNumber
theorem dX5_readFreeze_0 : decode cX5_readFreeze 0 = .ok (.aload_n 1, 1) := by decide +kernel
theorem dX5_readFreeze_1 : decode cX5_readFreeze 1 = .ok (.invokevirtual 82, 3) := by decide +kernel
theorem dX5_readFreeze_4 : decode cX5_readFreeze 4 = .ok (.aload_n 1, 1) := by decide +kernel
theorem dX5_readFreeze_5 : decode cX5_readFreeze 5 = .ok (.iconst 0, 1) := by decide +kernel
theorem dX5_readFreeze_6 : decode cX5_readFreeze 6 = .ok (.sipush 999, 3) := by decide +kernel
theorem dX5_readFreeze_9 : decode cX5_readFreeze 9 = .ok (.invokevirtual 85, 3) := by decide +kernel
theorem dX5_readFreeze_12 : decode cX5_readFreeze 12 = .ok (.istore_n 2, 1) := by decide +kernel
theorem dX5_readFreeze_13 : decode cX5_readFreeze 13 = .ok (.iload_n 2, 1) := by decide +kernel
theorem dX5_readFreeze_14 : decode cX5_readFreeze 14 = .ok (.iconst (-1), 1) := by decide +kernel
theorem dX5_readFreeze_15 : decode cX5_readFreeze 15 = .ok (.if_icmp .ne 5, 3) := by decide +kernel
theorem dX5_readFreeze_18 : decode cX5_readFreeze 18 = .ok (.iconst 0, 1) := by decide +kernel
theorem dX5_readFreeze_19 : decode cX5_readFreeze 19 = .ok (.ireturn, 1) := by decide +kernel
theorem dX5_readFreeze_20 : decode cX5_readFreeze 20 = .ok (.aload_n 1, 1) := by decide +kernel
theorem dX5_readFreeze_21 : decode cX5_readFreeze 21 = .ok (.iload_n 2, 1) := by decide +kernel
theorem dX5_readFreeze_22 : decode cX5_readFreeze 22 = .ok (.sipush 999, 3) := by decide +kernel
theorem dX5_readFreeze_25 : decode cX5_readFreeze 25 = .ok (.invokevirtual 85, 3) := by decide +kernel
theorem dX5_readFreeze_28 : decode cX5_readFreeze 28 = .ok (.istore_n 3, 1) := by decide +kernel
theorem dX5_readFreeze_29 : decode cX5_readFreeze 29 = .ok (.iload_n 3, 1) := by decide +kernel
theorem dX5_readFreeze_30 : decode cX5_readFreeze 30 = .ok (.iconst (-1), 1) := by decide +kernel
theorem dX5_readFreeze_31 : decode cX5_readFreeze 31 = .ok (.if_icmp .ne 5, 3) := by decide +kernel
theorem dX5_readFreeze_34 : decode cX5_readFreeze 34 = .ok (.iconst 0, 1) := by decide +kernel
theorem dX5_readFreeze_35 : decode cX5_readFreeze 35 = .ok (.ireturn, 1) := by decide +kernel
theorem dX5_readFreeze_36 : decode cX5_readFreeze 36 = .ok (.aload_n 0, 1) := by decide +kernel
theorem dX5_readFreeze_37 : decode cX5_readFreeze 37 = .ok (.getfield 18, 3) := by decide +kernel
theorem dX5_readFreeze_40 : decode cX5_readFreeze 40 = .ok (.aload_n 0, 1) := by decide +kernel
theorem dX5_readFreeze_41 : decode cX5_readFreeze 41 = .ok (.getfield 15, 3) := by decide +kernel
theorem dX5_readFreeze_44 : decode cX5_readFreeze 44 = .ok (.iload_n 2, 1) := by decide +kernel
theorem dX5_readFreeze_45 : decode cX5_readFreeze 45 = .ok (.iastore, 1) := by decide +kernel
theorem dX5_readFreeze_46 : decode cX5_readFreeze 46 = .ok (.aload_n 0, 1) := by decide +kernel
theorem dX5_readFreeze_47 : decode cX5_readFreeze 47 = .ok (.getfield 22, 3) := by decide +kernel
theorem dX5_readFreeze_50 : decode cX5_readFreeze 50 = .ok (.aload_n 0, 1) := by decide +kernel
theorem dX5_readFreeze_51 : decode cX5_readFreeze 51 = .ok (.getfield 15, 3) := by decide +kernel
theorem dX5_readFreeze_54 : decode cX5_readFreeze 54 = .ok (.iload_n 3, 1) := by decide +kernel
theorem dX5_readFreeze_55 : decode cX5_readFreeze 55 = .ok (.iastore, 1) := by decide +kernel
theorem dX5_readFreeze_56 : decode cX5_readFreeze 56 = .ok (.aload_n 0, 1) := by decide +kernel
theorem dX5_readFreeze_57 : decode cX5_readFreeze 57 = .ok (.dup, 1) := by decide +kernel
theorem dX5_readFreeze_58 : decode cX5_readFreeze 58 = .ok (.getfield 15, 3) := by decide +kernel
theorem dX5_readFreeze_61 : decode cX5_readFreeze 61 = .ok (.iconst 1, 1) := by decide +kernel
theorem dX5_readFreeze_62 : decode cX5_readFreeze 62 = .ok (.iadd, 1) := by decide +kernel
theorem dX5_readFreeze_63 : decode cX5_readFreeze 63 = .ok (.putfield 15, 3) := by decide +kernel
theorem dX5_readFreeze_66 : decode cX5_readFreeze 66 = .ok (.iconst 1, 1) := by decide +kernel
theorem dX5_readFreeze_67 : decode cX5_readFreeze 67 = .ok (.ireturn, 1) := by decide +kernel
set_option maxRecDepth 20000 in
theorem ggX5_readRisk_X3_step : GoodIn wsX5_readRisk wsX3_step := goodIn_r _ [6, 7, 8, 9, 10, 11, 12, 13, 14, 5, 15, 40, 41, 42, 43, 44, 45, 46, 47, 48, 49] (by decide +kernel) (by decide +kernel)
set_option maxRecDepth 20000 in
theorem gX5_readRisk_X3_step : GoodIn wsX5_readRisk (wsV RX5 82 RX3 yX3_step wsX3_step) := goodIn_app (goodIn_of _ (by decide +kernel)) ggX5_readRisk_X3_step
set_option maxRecDepth 20000 in
theorem ggX5_readRisk_X3_needNumber : GoodIn wsX5_readRisk wsX3_needNumber := goodIn_r _ [19, 20, 21, 22, 23, 5, 24, 12, 11, 9, 7, 10, 25, 26, 27, 28, 29, 30, 31, 32, 3, 4, 6, 8, 13, 14, 15, 40, 41, 42, 43, 44, 45, 46, 47, 48, 49] (by decide +kernel) (by decide +kernel)
set_option maxRecDepth 20000 in
theorem gX5_readRisk_X3_needNumber : GoodIn wsX5_readRisk (wsV RX5 85 RX3 yX3_needNumber wsX3_needNumber) := goodIn_app (goodIn_of _ (by decide +kernel)) ggX5_readRisk_X3_needNumber
theorem dX5_readRisk_0 : decode cX5_readRisk 0 = .ok (.aload_n 1, 1) := by decide +kernel
theorem dX5_readRisk_1 : decode cX5_readRisk 1 = .ok (.invokevirtual 82, 3) := by decide +kernel
theorem dX5_readRisk_4 : decode cX5_readRisk 4 = .ok (.aload_n 0, 1) := by decide +kernel
theorem dX5_readRisk_5 : decode cX5_readRisk 5 = .ok (.aload_n 1, 1) := by decide +kernel
theorem dX5_readRisk_6 : decode cX5_readRisk 6 = .ok (.iconst 0, 1) := by decide +kernel
theorem dX5_readRisk_7 : decode cX5_readRisk 7 = .ok (.bipush 99, 2) := by decide +kernel
theorem dX5_readRisk_9 : decode cX5_readRisk 9 = .ok (.invokevirtual 85, 3) := by decide +kernel
theorem dX5_readRisk_12 : decode cX5_readRisk 12 = .ok (.putfield 25, 3) := by decide +kernel
theorem dX5_readRisk_15 : decode cX5_readRisk 15 = .ok (.aload_n 0, 1) := by decide +kernel
theorem dX5_readRisk_16 : decode cX5_readRisk 16 = .ok (.getfield 25, 3) := by decide +kernel
theorem dX5_readRisk_19 : decode cX5_readRisk 19 = .ok (.iconst (-1), 1) := by decide +kernel
theorem dX5_readRisk_20 : decode cX5_readRisk 20 = .ok (.if_icmp .eq 7, 3) := by decide +kernel
theorem dX5_readRisk_23 : decode cX5_readRisk 23 = .ok (.iconst 1, 1) := by decide +kernel
theorem dX5_readRisk_24 : decode cX5_readRisk 24 = .ok (.goto 4, 3) := by decide +kernel
theorem dX5_readRisk_27 : decode cX5_readRisk 27 = .ok (.iconst 0, 1) := by decide +kernel
theorem dX5_readRisk_28 : decode cX5_readRisk 28 = .ok (.ireturn, 1) := by decide +kernel
set_option maxRecDepth 20000 in
theorem ggX5_readWeight_X3_step : GoodIn wsX5_readWeight wsX3_step := goodIn_r _ [6, 7, 8, 9, 10, 11, 12, 13, 14, 5, 15, 40, 41, 42, 43, 44, 45, 46, 47, 48, 49] (by decide +kernel) (by decide +kernel)
set_option maxRecDepth 20000 in
theorem gX5_readWeight_X3_step : GoodIn wsX5_readWeight (wsV RX5 82 RX3 yX3_step wsX3_step) := goodIn_app (goodIn_of _ (by decide +kernel)) ggX5_readWeight_X3_step
set_option maxRecDepth 20000 in
theorem ggX5_readWeight_X3_needNumber : GoodIn wsX5_readWeight wsX3_needNumber := goodIn_r _ [19, 20, 21, 22, 23, 5, 24, 12, 11, 9, 7, 10, 25, 26, 27, 28, 29, 30, 31, 32, 3, 4, 6, 8, 13, 14, 15, 40, 41, 42, 43, 44, 45, 46, 47, 48, 49] (by decide +kernel) (by decide +kernel)
set_option maxRecDepth 20000 in
theorem gX5_readWeight_X3_needNumber : GoodIn wsX5_readWeight (wsV RX5 85 RX3 yX3_needNumber wsX3_needNumber) := goodIn_app (goodIn_of _ (by decide +kernel)) ggX5_readWeight_X3_needNumber
theorem dX5_readWeight_0 : decode cX5_readWeight 0 = .ok (.aload_n 1, 1) := by decide +kernel
theorem dX5_readWeight_1 : decode cX5_readWeight 1 = .ok (.invokevirtual 82, 3) := by decide +kernel
theorem dX5_readWeight_4 : decode cX5_readWeight 4 = .ok (.aload_n 0, 1) := by decide +kernel
theorem dX5_readWeight_5 : decode cX5_readWeight 5 = .ok (.aload_n 1, 1) := by decide +kernel
theorem dX5_readWeight_6 : decode cX5_readWeight 6 = .ok (.iconst 0, 1) := by decide +kernel
theorem dX5_readWeight_7 : decode cX5_readWeight 7 = .ok (.bipush 99, 2) := by decide +kernel
theorem dX5_readWeight_9 : decode cX5_readWeight 9 = .ok (.invokevirtual 85, 3) := by decide +kernel
theorem dX5_readWeight_12 : decode cX5_readWeight 12 = .ok (.putfield 28, 3) := by decide +kernel
theorem dX5_readWeight_15 : decode cX5_readWeight 15 = .ok (.aload_n 0, 1) := by decide +kernel
theorem dX5_readWeight_16 : decode cX5_readWeight 16 = .ok (.getfield 28, 3) := by decide +kernel
theorem dX5_readWeight_19 : decode cX5_readWeight 19 = .ok (.iconst (-1), 1) := by decide +kernel
theorem dX5_readWeight_20 : decode cX5_readWeight 20 = .ok (.if_icmp .eq 7, 3) := by decide +kernel
theorem dX5_readWeight_23 : decode cX5_readWeight 23 = .ok (.iconst 1, 1) := by decide +kernel
theorem dX5_readWeight_24 : decode cX5_readWeight 24 = .ok (.goto 4, 3) := by decide +kernel
theorem dX5_readWeight_27 : decode cX5_readWeight 27 = .ok (.iconst 0, 1) := by decide +kernel
theorem dX5_readWeight_28 : decode cX5_readWeight 28 = .ok (.ireturn, 1) := by decide +kernel
set_option maxRecDepth 20000 in
theorem ggX5_readLines_X3_step : GoodIn wsX5_readLines wsX3_step := goodIn_r _ [6, 7, 8, 9, 10, 11, 12, 13, 14, 5, 15, 51, 52, 53, 54, 55, 56, 57, 58, 59, 60] (by decide +kernel) (by decide +kernel)
set_option maxRecDepth 20000 in
theorem gX5_readLines_X3_step : GoodIn wsX5_readLines (wsV RX5 82 RX3 yX3_step wsX3_step) := goodIn_app (goodIn_of _ (by decide +kernel)) ggX5_readLines_X3_step
set_option maxRecDepth 20000 in
theorem ggX5_readLines_X3_needNew : GoodIn wsX5_readLines wsX3_needNew := goodIn_r _ [19, 20, 21, 22, 23, 5, 24, 12, 11, 9, 7, 10, 25, 26, 27, 28, 29, 30, 31, 32, 33, 34, 35, 3, 4, 6, 8, 13, 14, 15, 51, 52, 53, 54, 55, 56, 57, 58, 59, 60] (by decide +kernel) (by decide +kernel)
set_option maxRecDepth 20000 in
theorem gX5_readLines_X3_needNew : GoodIn wsX5_readLines (wsV RX5 89 RX3 yX3_needNew wsX3_needNew) := goodIn_app (goodIn_of _ (by decide +kernel)) ggX5_readLines_X3_needNew
set_option maxRecDepth 20000 in
theorem ggX5_readLines_X3_takeSign : GoodIn wsX5_readLines wsX3_takeSign := goodIn_r _ [39, 40, 41, 42, 5, 43, 12, 7, 10, 11, 35, 3, 4, 6, 8, 9, 13, 14, 15, 51, 52, 53, 54, 55, 56, 57, 58, 59, 60] (by decide +kernel) (by decide +kernel)
set_option maxRecDepth 20000 in
theorem gX5_readLines_X3_takeSign : GoodIn wsX5_readLines (wsV RX5 93 RX3 yX3_takeSign wsX3_takeSign) := goodIn_app (goodIn_of _ (by decide +kernel)) ggX5_readLines_X3_takeSign
theorem dX5_readLines_0 : decode cX5_readLines 0 = .ok (.aload_n 1, 1) := by decide +kernel
theorem dX5_readLines_1 : decode cX5_readLines 1 = .ok (.invokevirtual 82, 3) := by decide +kernel
theorem dX5_readLines_4 : decode cX5_readLines 4 = .ok (.iconst 0, 1) := by decide +kernel
theorem dX5_readLines_5 : decode cX5_readLines 5 = .ok (.istore_n 2, 1) := by decide +kernel
theorem dX5_readLines_6 : decode cX5_readLines 6 = .ok (.iload_n 2, 1) := by decide +kernel
theorem dX5_readLines_7 : decode cX5_readLines 7 = .ok (.iconst 4, 1) := by decide +kernel
theorem dX5_readLines_8 : decode cX5_readLines 8 = .ok (.if_icmp .gt 50, 3) := by decide +kernel
theorem dX5_readLines_11 : decode cX5_readLines 11 = .ok (.aload_n 1, 1) := by decide +kernel
theorem dX5_readLines_12 : decode cX5_readLines 12 = .ok (.iconst 0, 1) := by decide +kernel
theorem dX5_readLines_13 : decode cX5_readLines 13 = .ok (.iconst 3, 1) := by decide +kernel
theorem dX5_readLines_14 : decode cX5_readLines 14 = .ok (.aload_n 0, 1) := by decide +kernel
theorem dX5_readLines_15 : decode cX5_readLines 15 = .ok (.getfield 31, 3) := by decide +kernel
theorem dX5_readLines_18 : decode cX5_readLines 18 = .ok (.invokevirtual 89, 3) := by decide +kernel
theorem dX5_readLines_21 : decode cX5_readLines 21 = .ok (.istore_n 3, 1) := by decide +kernel
theorem dX5_readLines_22 : decode cX5_readLines 22 = .ok (.iload_n 3, 1) := by decide +kernel
theorem dX5_readLines_23 : decode cX5_readLines 23 = .ok (.iconst (-1), 1) := by decide +kernel
theorem dX5_readLines_24 : decode cX5_readLines 24 = .ok (.if_icmp .ne 5, 3) := by decide +kernel
theorem dX5_readLines_27 : decode cX5_readLines 27 = .ok (.iconst 0, 1) := by decide +kernel
theorem dX5_readLines_28 : decode cX5_readLines 28 = .ok (.ireturn, 1) := by decide +kernel
theorem dX5_readLines_29 : decode cX5_readLines 29 = .ok (.aload_n 0, 1) := by decide +kernel
theorem dX5_readLines_30 : decode cX5_readLines 30 = .ok (.dup, 1) := by decide +kernel
theorem dX5_readLines_31 : decode cX5_readLines 31 = .ok (.getfield 31, 3) := by decide +kernel
theorem dX5_readLines_34 : decode cX5_readLines 34 = .ok (.iconst 1, 1) := by decide +kernel
theorem dX5_readLines_35 : decode cX5_readLines 35 = .ok (.iload_n 3, 1) := by decide +kernel
theorem dX5_readLines_36 : decode cX5_readLines 36 = .ok (.ishl, 1) := by decide +kernel
theorem dX5_readLines_37 : decode cX5_readLines 37 = .ok (.ior, 1) := by decide +kernel
theorem dX5_readLines_38 : decode cX5_readLines 38 = .ok (.putfield 31, 3) := by decide +kernel
theorem dX5_readLines_41 : decode cX5_readLines 41 = .ok (.aload_n 1, 1) := by decide +kernel
theorem dX5_readLines_42 : decode cX5_readLines 42 = .ok (.bipush 44, 2) := by decide +kernel
theorem dX5_readLines_44 : decode cX5_readLines 44 = .ok (.invokevirtual 93, 3) := by decide +kernel
theorem dX5_readLines_47 : decode cX5_readLines 47 = .ok (.ifCond .ne 5, 3) := by decide +kernel
theorem dX5_readLines_50 : decode cX5_readLines 50 = .ok (.iconst 1, 1) := by decide +kernel
theorem dX5_readLines_51 : decode cX5_readLines 51 = .ok (.ireturn, 1) := by decide +kernel
theorem dX5_readLines_52 : decode cX5_readLines 52 = .ok (.iinc 2 1, 3) := by decide +kernel
theorem dX5_readLines_55 : decode cX5_readLines 55 = .ok (.goto (-49), 3) := by decide +kernel
theorem dX5_readLines_58 : decode cX5_readLines 58 = .ok (.iconst 0, 1) := by decide +kernel
theorem dX5_readLines_59 : decode cX5_readLines 59 = .ok (.ireturn, 1) := by decide +kernel
theorem dX5_isFrozen_0 : decode cX5_isFrozen 0 = .ok (.iconst 0, 1) := by decide +kernel
theorem dX5_isFrozen_1 : decode cX5_isFrozen 1 = .ok (.istore_n 2, 1) := by decide +kernel
theorem dX5_isFrozen_2 : decode cX5_isFrozen 2 = .ok (.iload_n 2, 1) := by decide +kernel
theorem dX5_isFrozen_3 : decode cX5_isFrozen 3 = .ok (.aload_n 0, 1) := by decide +kernel
theorem dX5_isFrozen_4 : decode cX5_isFrozen 4 = .ok (.getfield 15, 3) := by decide +kernel
theorem dX5_isFrozen_7 : decode cX5_isFrozen 7 = .ok (.if_icmp .ge 31, 3) := by decide +kernel
theorem dX5_isFrozen_10 : decode cX5_isFrozen 10 = .ok (.iload_n 1, 1) := by decide +kernel
theorem dX5_isFrozen_11 : decode cX5_isFrozen 11 = .ok (.aload_n 0, 1) := by decide +kernel
theorem dX5_isFrozen_12 : decode cX5_isFrozen 12 = .ok (.getfield 18, 3) := by decide +kernel
theorem dX5_isFrozen_15 : decode cX5_isFrozen 15 = .ok (.iload_n 2, 1) := by decide +kernel
theorem dX5_isFrozen_16 : decode cX5_isFrozen 16 = .ok (.iaload, 1) := by decide +kernel
theorem dX5_isFrozen_17 : decode cX5_isFrozen 17 = .ok (.if_icmp .lt 15, 3) := by decide +kernel
theorem dX5_isFrozen_20 : decode cX5_isFrozen 20 = .ok (.iload_n 1, 1) := by decide +kernel
theorem dX5_isFrozen_21 : decode cX5_isFrozen 21 = .ok (.aload_n 0, 1) := by decide +kernel
theorem dX5_isFrozen_22 : decode cX5_isFrozen 22 = .ok (.getfield 22, 3) := by decide +kernel
theorem dX5_isFrozen_25 : decode cX5_isFrozen 25 = .ok (.iload_n 2, 1) := by decide +kernel
theorem dX5_isFrozen_26 : decode cX5_isFrozen 26 = .ok (.iaload, 1) := by decide +kernel
theorem dX5_isFrozen_27 : decode cX5_isFrozen 27 = .ok (.if_icmp .gt 5, 3) := by decide +kernel
theorem dX5_isFrozen_30 : decode cX5_isFrozen 30 = .ok (.iconst 1, 1) := by decide +kernel
theorem dX5_isFrozen_31 : decode cX5_isFrozen 31 = .ok (.ireturn, 1) := by decide +kernel
theorem dX5_isFrozen_32 : decode cX5_isFrozen 32 = .ok (.iinc 2 1, 3) := by decide +kernel
theorem dX5_isFrozen_35 : decode cX5_isFrozen 35 = .ok (.goto (-33), 3) := by decide +kernel
theorem dX5_isFrozen_38 : decode cX5_isFrozen 38 = .ok (.iconst 0, 1) := by decide +kernel
theorem dX5_isFrozen_39 : decode cX5_isFrozen 39 = .ok (.ireturn, 1) := by decide +kernel
set_option maxRecDepth 20000 in
theorem ggX5_allowsLine_X8_has : GoodIn wsX5_allowsLine wsX8_has := goodIn_r _ [4] (by decide +kernel) (by decide +kernel)
set_option maxRecDepth 20000 in
theorem gX5_allowsLine_X8_has_n96 : GoodIn wsX5_allowsLine (wsX8_has) := ggX5_allowsLine_X8_has
theorem dX5_allowsLine_0 : decode cX5_allowsLine 0 = .ok (.aload_n 0, 1) := by decide +kernel
theorem dX5_allowsLine_1 : decode cX5_allowsLine 1 = .ok (.getfield 31, 3) := by decide +kernel
theorem dX5_allowsLine_4 : decode cX5_allowsLine 4 = .ok (.ifCond .eq 14, 3) := by decide +kernel
theorem dX5_allowsLine_7 : decode cX5_allowsLine 7 = .ok (.aload_n 0, 1) := by decide +kernel
theorem dX5_allowsLine_8 : decode cX5_allowsLine 8 = .ok (.getfield 31, 3) := by decide +kernel
theorem dX5_allowsLine_11 : decode cX5_allowsLine 11 = .ok (.iload_n 1, 1) := by decide +kernel
theorem dX5_allowsLine_12 : decode cX5_allowsLine 12 = .ok (.invokestatic 96, 3) := by decide +kernel
theorem dX5_allowsLine_15 : decode cX5_allowsLine 15 = .ok (.ifCond .eq 7, 3) := by decide +kernel
theorem dX5_allowsLine_18 : decode cX5_allowsLine 18 = .ok (.iconst 1, 1) := by decide +kernel
theorem dX5_allowsLine_19 : decode cX5_allowsLine 19 = .ok (.goto 4, 3) := by decide +kernel
theorem dX5_allowsLine_22 : decode cX5_allowsLine 22 = .ok (.iconst 0, 1) := by decide +kernel
theorem dX5_allowsLine_23 : decode cX5_allowsLine 23 = .ok (.ireturn, 1) := by decide +kernel
theorem dX5_allowsRisk_0 : decode cX5_allowsRisk 0 = .ok (.aload_n 0, 1) := by decide +kernel
theorem dX5_allowsRisk_1 : decode cX5_allowsRisk 1 = .ok (.getfield 25, 3) := by decide +kernel
theorem dX5_allowsRisk_4 : decode cX5_allowsRisk 4 = .ok (.iconst (-1), 1) := by decide +kernel
theorem dX5_allowsRisk_5 : decode cX5_allowsRisk 5 = .ok (.if_icmp .eq 11, 3) := by decide +kernel
theorem dX5_allowsRisk_8 : decode cX5_allowsRisk 8 = .ok (.iload_n 1, 1) := by decide +kernel
theorem dX5_allowsRisk_9 : decode cX5_allowsRisk 9 = .ok (.aload_n 0, 1) := by decide +kernel
theorem dX5_allowsRisk_10 : decode cX5_allowsRisk 10 = .ok (.getfield 25, 3) := by decide +kernel
theorem dX5_allowsRisk_13 : decode cX5_allowsRisk 13 = .ok (.if_icmp .gt 7, 3) := by decide +kernel
theorem dX5_allowsRisk_16 : decode cX5_allowsRisk 16 = .ok (.iconst 1, 1) := by decide +kernel
theorem dX5_allowsRisk_17 : decode cX5_allowsRisk 17 = .ok (.goto 4, 3) := by decide +kernel
theorem dX5_allowsRisk_20 : decode cX5_allowsRisk 20 = .ok (.iconst 0, 1) := by decide +kernel
theorem dX5_allowsRisk_21 : decode cX5_allowsRisk 21 = .ok (.ireturn, 1) := by decide +kernel
theorem dX5_allowsWeight_0 : decode cX5_allowsWeight 0 = .ok (.aload_n 0, 1) := by decide +kernel
theorem dX5_allowsWeight_1 : decode cX5_allowsWeight 1 = .ok (.getfield 28, 3) := by decide +kernel
theorem dX5_allowsWeight_4 : decode cX5_allowsWeight 4 = .ok (.iconst (-1), 1) := by decide +kernel
theorem dX5_allowsWeight_5 : decode cX5_allowsWeight 5 = .ok (.if_icmp .eq 11, 3) := by decide +kernel
theorem dX5_allowsWeight_8 : decode cX5_allowsWeight 8 = .ok (.iload_n 1, 1) := by decide +kernel
theorem dX5_allowsWeight_9 : decode cX5_allowsWeight 9 = .ok (.aload_n 0, 1) := by decide +kernel
theorem dX5_allowsWeight_10 : decode cX5_allowsWeight 10 = .ok (.getfield 28, 3) := by decide +kernel
theorem dX5_allowsWeight_13 : decode cX5_allowsWeight 13 = .ok (.if_icmp .lt 7, 3) := by decide +kernel
theorem dX5_allowsWeight_16 : decode cX5_allowsWeight 16 = .ok (.iconst 1, 1) := by decide +kernel
theorem dX5_allowsWeight_17 : decode cX5_allowsWeight 17 = .ok (.goto 4, 3) := by decide +kernel
theorem dX5_allowsWeight_20 : decode cX5_allowsWeight 20 = .ok (.iconst 0, 1) := by decide +kernel
theorem dX5_allowsWeight_21 : decode cX5_allowsWeight 21 = .ok (.ireturn, 1) := by decide +kernel
theorem dX6_init_0 : decode cX6_init 0 = .ok (.aload_n 0, 1) := by decide +kernel
theorem dX6_init_1 : decode cX6_init 1 = .ok (.invokespecial 3, 3) := by decide +kernel
theorem dX6_init_4 : decode cX6_init 4 = .ok (.aload_n 0, 1) := by decide +kernel
theorem dX6_init_5 : decode cX6_init 5 = .ok (.sipush 500, 3) := by decide +kernel
theorem dX6_init_8 : decode cX6_init 8 = .ok (.newarray .int, 2) := by decide +kernel
theorem dX6_init_10 : decode cX6_init 10 = .ok (.putfield 9, 3) := by decide +kernel
theorem dX6_init_13 : decode cX6_init 13 = .ok (.aload_n 0, 1) := by decide +kernel
theorem dX6_init_14 : decode cX6_init 14 = .ok (.iconst 0, 1) := by decide +kernel
theorem dX6_init_15 : decode cX6_init 15 = .ok (.putfield 15, 3) := by decide +kernel
theorem dX6_init_18 : decode cX6_init 18 = .ok (.return_, 1) := by decide +kernel
theorem dX6_append_0 : decode cX6_append 0 = .ok (.iload_n 1, 1) := by decide +kernel
theorem dX6_append_1 : decode cX6_append 1 = .ok (.iconst 1, 1) := by decide +kernel
theorem dX6_append_2 : decode cX6_append 2 = .ok (.isub, 1) := by decide +kernel
theorem dX6_append_3 : decode cX6_append 3 = .ok (.istore 4, 2) := by decide +kernel
theorem dX6_append_5 : decode cX6_append 5 = .ok (.iload 4, 2) := by decide +kernel
theorem dX6_append_7 : decode cX6_append 7 = .ok (.ifCond .lt 50, 3) := by decide +kernel
theorem dX6_append_10 : decode cX6_append 10 = .ok (.aload_n 0, 1) := by decide +kernel
theorem dX6_append_11 : decode cX6_append 11 = .ok (.getfield 15, 3) := by decide +kernel
theorem dX6_append_14 : decode cX6_append 14 = .ok (.sipush 500, 3) := by decide +kernel
theorem dX6_append_17 : decode cX6_append 17 = .ok (.if_icmp .ge 40, 3) := by decide +kernel
theorem dX6_append_20 : decode cX6_append 20 = .ok (.aload_n 0, 1) := by decide +kernel
theorem dX6_append_21 : decode cX6_append 21 = .ok (.getfield 9, 3) := by decide +kernel
theorem dX6_append_24 : decode cX6_append 24 = .ok (.aload_n 0, 1) := by decide +kernel
theorem dX6_append_25 : decode cX6_append 25 = .ok (.getfield 15, 3) := by decide +kernel
theorem dX6_append_28 : decode cX6_append 28 = .ok (.lload_n 2, 1) := by decide +kernel
theorem dX6_append_29 : decode cX6_append 29 = .ok (.bipush 8, 2) := by decide +kernel
theorem dX6_append_31 : decode cX6_append 31 = .ok (.iload 4, 2) := by decide +kernel
theorem dX6_append_33 : decode cX6_append 33 = .ok (.imul, 1) := by decide +kernel
theorem dX6_append_34 : decode cX6_append 34 = .ok (.lushr, 1) := by decide +kernel
theorem dX6_append_35 : decode cX6_append 35 = .ok (.l2i, 1) := by decide +kernel
theorem dX6_append_36 : decode cX6_append 36 = .ok (.sipush 255, 3) := by decide +kernel
theorem dX6_append_39 : decode cX6_append 39 = .ok (.iand, 1) := by decide +kernel
theorem dX6_append_40 : decode cX6_append 40 = .ok (.iastore, 1) := by decide +kernel
theorem dX6_append_41 : decode cX6_append 41 = .ok (.aload_n 0, 1) := by decide +kernel
theorem dX6_append_42 : decode cX6_append 42 = .ok (.dup, 1) := by decide +kernel
theorem dX6_append_43 : decode cX6_append 43 = .ok (.getfield 15, 3) := by decide +kernel
theorem dX6_append_46 : decode cX6_append 46 = .ok (.iconst 1, 1) := by decide +kernel
theorem dX6_append_47 : decode cX6_append 47 = .ok (.iadd, 1) := by decide +kernel
theorem dX6_append_48 : decode cX6_append 48 = .ok (.putfield 15, 3) := by decide +kernel
theorem dX6_append_51 : decode cX6_append 51 = .ok (.iinc 4 (-1), 3) := by decide +kernel
theorem dX6_append_54 : decode cX6_append 54 = .ok (.goto (-49), 3) := by decide +kernel
theorem dX6_append_57 : decode cX6_append 57 = .ok (.return_, 1) := by decide +kernel
theorem dX7_init_0 : decode cX7_init 0 = .ok (.aload_n 0, 1) := by decide +kernel
theorem dX7_init_1 : decode cX7_init 1 = .ok (.invokespecial 3, 3) := by decide +kernel
theorem dX7_init_4 : decode cX7_init 4 = .ok (.aload_n 0, 1) := by decide +kernel
theorem dX7_init_5 : decode cX7_init 5 = .ok (.iconst 0, 1) := by decide +kernel
theorem dX7_init_6 : decode cX7_init 6 = .ok (.putfield 9, 3) := by decide +kernel
theorem dX7_init_9 : decode cX7_init 9 = .ok (.aload_n 0, 1) := by decide +kernel
theorem dX7_init_10 : decode cX7_init 10 = .ok (.bipush 24, 2) := by decide +kernel
theorem dX7_init_12 : decode cX7_init 12 = .ok (.newarray .int, 2) := by decide +kernel
theorem dX7_init_14 : decode cX7_init 14 = .ok (.putfield 15, 3) := by decide +kernel
theorem dX7_init_17 : decode cX7_init 17 = .ok (.aload_n 0, 1) := by decide +kernel
theorem dX7_init_18 : decode cX7_init 18 = .ok (.bipush 24, 2) := by decide +kernel
theorem dX7_init_20 : decode cX7_init 20 = .ok (.newarray .int, 2) := by decide +kernel
theorem dX7_init_22 : decode cX7_init 22 = .ok (.putfield 19, 3) := by decide +kernel
theorem dX7_init_25 : decode cX7_init 25 = .ok (.aload_n 0, 1) := by decide +kernel
theorem dX7_init_26 : decode cX7_init 26 = .ok (.bipush 24, 2) := by decide +kernel
theorem dX7_init_28 : decode cX7_init 28 = .ok (.newarray .int, 2) := by decide +kernel
theorem dX7_init_30 : decode cX7_init 30 = .ok (.putfield 22, 3) := by decide +kernel
theorem dX7_init_33 : decode cX7_init 33 = .ok (.aload_n 0, 1) := by decide +kernel
theorem dX7_init_34 : decode cX7_init 34 = .ok (.sipush 384, 3) := by decide +kernel
theorem dX7_init_37 : decode cX7_init 37 = .ok (.newarray .int, 2) := by decide +kernel
theorem dX7_init_39 : decode cX7_init 39 = .ok (.putfield 25, 3) := by decide +kernel
theorem dX7_init_42 : decode cX7_init 42 = .ok (.aload_n 0, 1) := by decide +kernel
theorem dX7_init_43 : decode cX7_init 43 = .ok (.sipush 400, 3) := by decide +kernel
theorem dX7_init_46 : decode cX7_init 46 = .ok (.newarray .int, 2) := by decide +kernel
theorem dX7_init_48 : decode cX7_init 48 = .ok (.putfield 28, 3) := by decide +kernel
theorem dX7_init_51 : decode cX7_init 51 = .ok (.aload_n 0, 1) := by decide +kernel
theorem dX7_init_52 : decode cX7_init 52 = .ok (.iconst 0, 1) := by decide +kernel
theorem dX7_init_53 : decode cX7_init 53 = .ok (.putfield 31, 3) := by decide +kernel
theorem dX7_init_56 : decode cX7_init 56 = .ok (.aload_n 0, 1) := by decide +kernel
theorem dX7_init_57 : decode cX7_init 57 = .ok (.bipush 10, 2) := by decide +kernel
theorem dX7_init_59 : decode cX7_init 59 = .ok (.newarray .int, 2) := by decide +kernel
theorem dX7_init_61 : decode cX7_init 61 = .ok (.putfield 34, 3) := by decide +kernel
theorem dX7_init_64 : decode cX7_init 64 = .ok (.aload_n 0, 1) := by decide +kernel
theorem dX7_init_65 : decode cX7_init 65 = .ok (.bipush 10, 2) := by decide +kernel
theorem dX7_init_67 : decode cX7_init 67 = .ok (.newarray .int, 2) := by decide +kernel
theorem dX7_init_69 : decode cX7_init 69 = .ok (.putfield 37, 3) := by decide +kernel
theorem dX7_init_72 : decode cX7_init 72 = .ok (.aload_n 0, 1) := by decide +kernel
theorem dX7_init_73 : decode cX7_init 73 = .ok (.bipush 10, 2) := by decide +kernel
theorem dX7_init_75 : decode cX7_init 75 = .ok (.newarray .int, 2) := by decide +kernel
theorem dX7_init_77 : decode cX7_init 77 = .ok (.putfield 40, 3) := by decide +kernel
theorem dX7_init_80 : decode cX7_init 80 = .ok (.return_, 1) := by decide +kernel
theorem dX7_hasChange_0 : decode cX7_hasChange 0 = .ok (.iload_n 1, 1) := by decide +kernel
theorem dX7_hasChange_1 : decode cX7_hasChange 1 = .ok (.ifCond .lt 15, 3) := by decide +kernel
theorem dX7_hasChange_4 : decode cX7_hasChange 4 = .ok (.iload_n 1, 1) := by decide +kernel
theorem dX7_hasChange_5 : decode cX7_hasChange 5 = .ok (.aload_n 0, 1) := by decide +kernel
theorem dX7_hasChange_6 : decode cX7_hasChange 6 = .ok (.getfield 9, 3) := by decide +kernel
theorem dX7_hasChange_9 : decode cX7_hasChange 9 = .ok (.if_icmp .ge 7, 3) := by decide +kernel
theorem dX7_hasChange_12 : decode cX7_hasChange 12 = .ok (.iconst 1, 1) := by decide +kernel
theorem dX7_hasChange_13 : decode cX7_hasChange 13 = .ok (.goto 4, 3) := by decide +kernel
theorem dX7_hasChange_16 : decode cX7_hasChange 16 = .ok (.iconst 0, 1) := by decide +kernel
theorem dX7_hasChange_17 : decode cX7_hasChange 17 = .ok (.ireturn, 1) := by decide +kernel
set_option maxRecDepth 20000 in
theorem ggX7_hasChanges_X8_firstOnes : GoodIn wsX7_hasChanges wsX8_firstOnes := goodIn_r _ [4] (by decide +kernel) (by decide +kernel)
set_option maxRecDepth 20000 in
theorem gX7_hasChanges_X8_firstOnes_n43 : GoodIn wsX7_hasChanges (wsX8_firstOnes) := ggX7_hasChanges_X8_firstOnes
theorem dX7_hasChanges_0 : decode cX7_hasChanges 0 = .ok (.iload_n 1, 1) := by decide +kernel
theorem dX7_hasChanges_1 : decode cX7_hasChanges 1 = .ok (.aload_n 0, 1) := by decide +kernel
theorem dX7_hasChanges_2 : decode cX7_hasChanges 2 = .ok (.getfield 9, 3) := by decide +kernel
theorem dX7_hasChanges_5 : decode cX7_hasChanges 5 = .ok (.invokestatic 43, 3) := by decide +kernel
theorem dX7_hasChanges_8 : decode cX7_hasChanges 8 = .ok (.iconst (-1), 1) := by decide +kernel
theorem dX7_hasChanges_9 : decode cX7_hasChanges 9 = .ok (.ixor, 1) := by decide +kernel
theorem dX7_hasChanges_10 : decode cX7_hasChanges 10 = .ok (.iand, 1) := by decide +kernel
theorem dX7_hasChanges_11 : decode cX7_hasChanges 11 = .ok (.ifCond .ne 7, 3) := by decide +kernel
theorem dX7_hasChanges_14 : decode cX7_hasChanges 14 = .ok (.iconst 1, 1) := by decide +kernel
theorem dX7_hasChanges_15 : decode cX7_hasChanges 15 = .ok (.goto 4, 3) := by decide +kernel
theorem dX7_hasChanges_18 : decode cX7_hasChanges 18 = .ok (.iconst 0, 1) := by decide +kernel
theorem dX7_hasChanges_19 : decode cX7_hasChanges 19 = .ok (.ireturn, 1) := by decide +kernel
theorem dX7_hasFault_0 : decode cX7_hasFault 0 = .ok (.iload_n 1, 1) := by decide +kernel
theorem dX7_hasFault_1 : decode cX7_hasFault 1 = .ok (.ifCond .lt 15, 3) := by decide +kernel
theorem dX7_hasFault_4 : decode cX7_hasFault 4 = .ok (.iload_n 1, 1) := by decide +kernel
