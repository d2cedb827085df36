theorem dX9_whence_12 : decode cX9_whence 12 = .ok (.ifCond .ne 7, 3) := by decide +kernel
theorem dX9_whence_15 : decode cX9_whence 15 = .ok (.sipush (-1001), 3) := by decide +kernel
theorem dX9_whence_18 : decode cX9_whence 18 = .ok (.ireturn, 1) := by decide +kernel
theorem dX9_whence_19 : decode cX9_whence 19 = .ok (.iconst (-1), 1) := by decide +kernel
theorem dX9_whence_20 : decode cX9_whence 20 = .ok (.istore_n 3, 1) := by decide +kernel
theorem dX9_whence_21 : decode cX9_whence 21 = .ok (.iconst 0, 1) := by decide +kernel
theorem dX9_whence_22 : decode cX9_whence 22 = .ok (.istore 4, 2) := by decide +kernel
theorem dX9_whence_24 : decode cX9_whence 24 = .ok (.iload 4, 2) := by decide +kernel
theorem dX9_whence_26 : decode cX9_whence 26 = .ok (.aload_n 0, 1) := by decide +kernel
theorem dX9_whence_27 : decode cX9_whence 27 = .ok (.getfield 114, 3) := by decide +kernel
theorem dX9_whence_30 : decode cX9_whence 30 = .ok (.if_icmp .ge 83, 3) := by decide +kernel
theorem dX9_whence_33 : decode cX9_whence 33 = .ok (.aload_n 0, 1) := by decide +kernel
theorem dX9_whence_34 : decode cX9_whence 34 = .ok (.getfield 31, 3) := by decide +kernel
theorem dX9_whence_37 : decode cX9_whence 37 = .ok (.iload_n 1, 1) := by decide +kernel
theorem dX9_whence_38 : decode cX9_whence 38 = .ok (.iaload, 1) := by decide +kernel
theorem dX9_whence_39 : decode cX9_whence 39 = .ok (.iload 4, 2) := by decide +kernel
theorem dX9_whence_41 : decode cX9_whence 41 = .ok (.invokestatic 190, 3) := by decide +kernel
theorem dX9_whence_44 : decode cX9_whence 44 = .ok (.ifCond .eq 48, 3) := by decide +kernel
theorem dX9_whence_47 : decode cX9_whence 47 = .ok (.aload_n 0, 1) := by decide +kernel
theorem dX9_whence_48 : decode cX9_whence 48 = .ok (.getfield 7, 3) := by decide +kernel
theorem dX9_whence_51 : decode cX9_whence 51 = .ok (.bipush 16, 2) := by decide +kernel
theorem dX9_whence_53 : decode cX9_whence 53 = .ok (.iload 4, 2) := by decide +kernel
theorem dX9_whence_55 : decode cX9_whence 55 = .ok (.imul, 1) := by decide +kernel
theorem dX9_whence_56 : decode cX9_whence 56 = .ok (.iload_n 2, 1) := by decide +kernel
theorem dX9_whence_57 : decode cX9_whence 57 = .ok (.iadd, 1) := by decide +kernel
theorem dX9_whence_58 : decode cX9_whence 58 = .ok (.iaload, 1) := by decide +kernel
theorem dX9_whence_59 : decode cX9_whence 59 = .ok (.ifCond .le 33, 3) := by decide +kernel
theorem dX9_whence_62 : decode cX9_whence 62 = .ok (.aload_n 0, 1) := by decide +kernel
theorem dX9_whence_63 : decode cX9_whence 63 = .ok (.getfield 7, 3) := by decide +kernel
theorem dX9_whence_66 : decode cX9_whence 66 = .ok (.bipush 16, 2) := by decide +kernel
theorem dX9_whence_68 : decode cX9_whence 68 = .ok (.iload 4, 2) := by decide +kernel
theorem dX9_whence_70 : decode cX9_whence 70 = .ok (.imul, 1) := by decide +kernel
theorem dX9_whence_71 : decode cX9_whence 71 = .ok (.iload_n 2, 1) := by decide +kernel
theorem dX9_whence_72 : decode cX9_whence 72 = .ok (.iadd, 1) := by decide +kernel
theorem dX9_whence_73 : decode cX9_whence 73 = .ok (.iaload, 1) := by decide +kernel
theorem dX9_whence_74 : decode cX9_whence 74 = .ok (.aload_n 0, 1) := by decide +kernel
theorem dX9_whence_75 : decode cX9_whence 75 = .ok (.getfield 34, 3) := by decide +kernel
theorem dX9_whence_78 : decode cX9_whence 78 = .ok (.bipush 16, 2) := by decide +kernel
theorem dX9_whence_80 : decode cX9_whence 80 = .ok (.iload_n 1, 1) := by decide +kernel
theorem dX9_whence_81 : decode cX9_whence 81 = .ok (.imul, 1) := by decide +kernel
theorem dX9_whence_82 : decode cX9_whence 82 = .ok (.iload_n 2, 1) := by decide +kernel
theorem dX9_whence_83 : decode cX9_whence 83 = .ok (.iadd, 1) := by decide +kernel
theorem dX9_whence_84 : decode cX9_whence 84 = .ok (.iaload, 1) := by decide +kernel
theorem dX9_whence_85 : decode cX9_whence 85 = .ok (.if_icmp .ne 7, 3) := by decide +kernel
theorem dX9_whence_88 : decode cX9_whence 88 = .ok (.iconst 1, 1) := by decide +kernel
theorem dX9_whence_89 : decode cX9_whence 89 = .ok (.goto 4, 3) := by decide +kernel
theorem dX9_whence_92 : decode cX9_whence 92 = .ok (.iconst 0, 1) := by decide +kernel
theorem dX9_whence_93 : decode cX9_whence 93 = .ok (.istore 5, 2) := by decide +kernel
theorem dX9_whence_95 : decode cX9_whence 95 = .ok (.iload 5, 2) := by decide +kernel
theorem dX9_whence_97 : decode cX9_whence 97 = .ok (.ifCond .eq 8, 3) := by decide +kernel
theorem dX9_whence_100 : decode cX9_whence 100 = .ok (.iload 4, 2) := by decide +kernel
theorem dX9_whence_102 : decode cX9_whence 102 = .ok (.goto 4, 3) := by decide +kernel
theorem dX9_whence_105 : decode cX9_whence 105 = .ok (.iload_n 3, 1) := by decide +kernel
theorem dX9_whence_106 : decode cX9_whence 106 = .ok (.istore_n 3, 1) := by decide +kernel
theorem dX9_whence_107 : decode cX9_whence 107 = .ok (.iinc 4 1, 3) := by decide +kernel
theorem dX9_whence_110 : decode cX9_whence 110 = .ok (.goto (-86), 3) := by decide +kernel
theorem dX9_whence_113 : decode cX9_whence 113 = .ok (.iload_n 3, 1) := by decide +kernel
theorem dX9_whence_114 : decode cX9_whence 114 = .ok (.ireturn, 1) := by decide +kernel
set_option maxRecDepth 20000 in
theorem ggX9_strayed_X9_isLine : GoodIn wsX9_strayed wsX9_isLine := goodIn_r _ [8, 9, 10, 11, 7, 12, 21, 22, 23, 24, 25, 26, 27, 28, 29, 30, 31, 32, 33, 34, 35, 36, 37, 38, 39, 40, 41, 42, 43, 44, 45, 46, 47, 48, 49, 50, 51, 52, 53, 54, 55, 56, 57, 58, 59, 60, 61, 62, 63, 64, 65, 66, 67, 68, 69, 70, 71, 72, 73, 74, 75] (by decide +kernel) (by decide +kernel)
set_option maxRecDepth 20000 in
theorem gX9_strayed_X9_isLine : GoodIn wsX9_strayed (wsV RX9 266 RX9 yX9_isLine wsX9_isLine) := goodIn_app (goodIn_of _ (by decide +kernel)) ggX9_strayed_X9_isLine
set_option maxRecDepth 20000 in
theorem ggX9_strayed_X9_has : GoodIn wsX9_strayed wsX9_has := goodIn_r _ [15] (by decide +kernel) (by decide +kernel)
set_option maxRecDepth 20000 in
theorem gX9_strayed_X9_has : GoodIn wsX9_strayed (va_wsS RX9 190 yX9_has wsX9_has) := goodIn_app (goodIn_of _ (by decide +kernel)) ggX9_strayed_X9_has
set_option maxRecDepth 20000 in
theorem ggX9_strayed_X9_aheadOf : GoodIn wsX9_strayed wsX9_aheadOf := goodIn_r _ [19, 20, 21, 22, 23, 24, 25, 26, 27, 28, 29, 30, 31, 32, 33, 34, 35, 36, 37, 38, 39, 40, 41, 42, 43, 44, 45, 46, 47, 48, 49, 50, 51, 52, 53, 54, 55, 56, 57, 58, 59, 60, 61, 62, 63, 64, 65, 66, 67, 68, 69, 70, 71, 72, 73, 74, 75] (by decide +kernel) (by decide +kernel)
set_option maxRecDepth 20000 in
theorem gX9_strayed_X9_aheadOf : GoodIn wsX9_strayed (wsV RX9 260 RX9 yX9_aheadOf wsX9_aheadOf) := goodIn_app (goodIn_of _ (by decide +kernel)) ggX9_strayed_X9_aheadOf
theorem dX9_strayed_0 : decode cX9_strayed 0 = .ok (.aload_n 0, 1) := by decide +kernel
theorem dX9_strayed_1 : decode cX9_strayed 1 = .ok (.iload_n 1, 1) := by decide +kernel
theorem dX9_strayed_2 : decode cX9_strayed 2 = .ok (.invokevirtual 266, 3) := by decide +kernel
theorem dX9_strayed_5 : decode cX9_strayed 5 = .ok (.ifCond .ne 7, 3) := by decide +kernel
theorem dX9_strayed_8 : decode cX9_strayed 8 = .ok (.sipush (-1001), 3) := by decide +kernel
theorem dX9_strayed_11 : decode cX9_strayed 11 = .ok (.ireturn, 1) := by decide +kernel
theorem dX9_strayed_12 : decode cX9_strayed 12 = .ok (.iconst 0, 1) := by decide +kernel
theorem dX9_strayed_13 : decode cX9_strayed 13 = .ok (.istore_n 2, 1) := by decide +kernel
theorem dX9_strayed_14 : decode cX9_strayed 14 = .ok (.iconst 0, 1) := by decide +kernel
theorem dX9_strayed_15 : decode cX9_strayed 15 = .ok (.istore_n 3, 1) := by decide +kernel
theorem dX9_strayed_16 : decode cX9_strayed 16 = .ok (.iload_n 3, 1) := by decide +kernel
theorem dX9_strayed_17 : decode cX9_strayed 17 = .ok (.aload_n 0, 1) := by decide +kernel
theorem dX9_strayed_18 : decode cX9_strayed 18 = .ok (.getfield 114, 3) := by decide +kernel
theorem dX9_strayed_21 : decode cX9_strayed 21 = .ok (.if_icmp .ge 30, 3) := by decide +kernel
theorem dX9_strayed_24 : decode cX9_strayed 24 = .ok (.aload_n 0, 1) := by decide +kernel
theorem dX9_strayed_25 : decode cX9_strayed 25 = .ok (.getfield 31, 3) := by decide +kernel
theorem dX9_strayed_28 : decode cX9_strayed 28 = .ok (.iload_n 1, 1) := by decide +kernel
theorem dX9_strayed_29 : decode cX9_strayed 29 = .ok (.iaload, 1) := by decide +kernel
theorem dX9_strayed_30 : decode cX9_strayed 30 = .ok (.iload_n 3, 1) := by decide +kernel
theorem dX9_strayed_31 : decode cX9_strayed 31 = .ok (.invokestatic 190, 3) := by decide +kernel
theorem dX9_strayed_34 : decode cX9_strayed 34 = .ok (.ifCond .eq 9, 3) := by decide +kernel
theorem dX9_strayed_37 : decode cX9_strayed 37 = .ok (.iload_n 3, 1) := by decide +kernel
theorem dX9_strayed_38 : decode cX9_strayed 38 = .ok (.iconst 1, 1) := by decide +kernel
theorem dX9_strayed_39 : decode cX9_strayed 39 = .ok (.iadd, 1) := by decide +kernel
theorem dX9_strayed_40 : decode cX9_strayed 40 = .ok (.goto 4, 3) := by decide +kernel
theorem dX9_strayed_43 : decode cX9_strayed 43 = .ok (.iload_n 2, 1) := by decide +kernel
theorem dX9_strayed_44 : decode cX9_strayed 44 = .ok (.istore_n 2, 1) := by decide +kernel
theorem dX9_strayed_45 : decode cX9_strayed 45 = .ok (.iinc 3 1, 3) := by decide +kernel
theorem dX9_strayed_48 : decode cX9_strayed 48 = .ok (.goto (-32), 3) := by decide +kernel
theorem dX9_strayed_51 : decode cX9_strayed 51 = .ok (.iconst 0, 1) := by decide +kernel
theorem dX9_strayed_52 : decode cX9_strayed 52 = .ok (.istore_n 3, 1) := by decide +kernel
theorem dX9_strayed_53 : decode cX9_strayed 53 = .ok (.iconst 0, 1) := by decide +kernel
theorem dX9_strayed_54 : decode cX9_strayed 54 = .ok (.istore 4, 2) := by decide +kernel
theorem dX9_strayed_56 : decode cX9_strayed 56 = .ok (.iload 4, 2) := by decide +kernel
theorem dX9_strayed_58 : decode cX9_strayed 58 = .ok (.bipush 16, 2) := by decide +kernel
theorem dX9_strayed_60 : decode cX9_strayed 60 = .ok (.if_icmp .ge 42, 3) := by decide +kernel
theorem dX9_strayed_63 : decode cX9_strayed 63 = .ok (.iload_n 3, 1) := by decide +kernel
theorem dX9_strayed_64 : decode cX9_strayed 64 = .ok (.aload_n 0, 1) := by decide +kernel
theorem dX9_strayed_65 : decode cX9_strayed 65 = .ok (.getfield 34, 3) := by decide +kernel
theorem dX9_strayed_68 : decode cX9_strayed 68 = .ok (.bipush 16, 2) := by decide +kernel
theorem dX9_strayed_70 : decode cX9_strayed 70 = .ok (.iload_n 1, 1) := by decide +kernel
theorem dX9_strayed_71 : decode cX9_strayed 71 = .ok (.imul, 1) := by decide +kernel
theorem dX9_strayed_72 : decode cX9_strayed 72 = .ok (.iload 4, 2) := by decide +kernel
theorem dX9_strayed_74 : decode cX9_strayed 74 = .ok (.iadd, 1) := by decide +kernel
theorem dX9_strayed_75 : decode cX9_strayed 75 = .ok (.iaload, 1) := by decide +kernel
theorem dX9_strayed_76 : decode cX9_strayed 76 = .ok (.aload_n 0, 1) := by decide +kernel
theorem dX9_strayed_77 : decode cX9_strayed 77 = .ok (.iload_n 2, 1) := by decide +kernel
theorem dX9_strayed_78 : decode cX9_strayed 78 = .ok (.iload 4, 2) := by decide +kernel
theorem dX9_strayed_80 : decode cX9_strayed 80 = .ok (.invokevirtual 260, 3) := by decide +kernel
theorem dX9_strayed_83 : decode cX9_strayed 83 = .ok (.if_icmp .eq 10, 3) := by decide +kernel
theorem dX9_strayed_86 : decode cX9_strayed 86 = .ok (.iconst 1, 1) := by decide +kernel
theorem dX9_strayed_87 : decode cX9_strayed 87 = .ok (.iload 4, 2) := by decide +kernel
theorem dX9_strayed_89 : decode cX9_strayed 89 = .ok (.ishl, 1) := by decide +kernel
theorem dX9_strayed_90 : decode cX9_strayed 90 = .ok (.goto 4, 3) := by decide +kernel
theorem dX9_strayed_93 : decode cX9_strayed 93 = .ok (.iconst 0, 1) := by decide +kernel
theorem dX9_strayed_94 : decode cX9_strayed 94 = .ok (.ior, 1) := by decide +kernel
theorem dX9_strayed_95 : decode cX9_strayed 95 = .ok (.istore_n 3, 1) := by decide +kernel
theorem dX9_strayed_96 : decode cX9_strayed 96 = .ok (.iinc 4 1, 3) := by decide +kernel
theorem dX9_strayed_99 : decode cX9_strayed 99 = .ok (.goto (-43), 3) := by decide +kernel
theorem dX9_strayed_102 : decode cX9_strayed 102 = .ok (.iload_n 3, 1) := by decide +kernel
theorem dX9_strayed_103 : decode cX9_strayed 103 = .ok (.ireturn, 1) := by decide +kernel
set_option maxRecDepth 20000 in
theorem ggX9_bestCut_X9_in : GoodIn wsX9_bestCut wsX9_in := goodIn_r _ [5] (by decide +kernel) (by decide +kernel)
set_option maxRecDepth 20000 in
theorem gX9_bestCut_X9_in : GoodIn wsX9_bestCut (va_wsS RX9 117 yX9_in wsX9_in) := goodIn_app (goodIn_of _ (by decide +kernel)) ggX9_bestCut_X9_in
set_option maxRecDepth 20000 in
theorem ggX9_bestCut_X9_faultsIn : GoodIn wsX9_bestCut wsX9_faultsIn := goodIn_r _ [9, 10, 11, 12, 13, 14, 4, 15, 21, 22, 23, 24, 25, 26, 27, 28, 29, 30, 31, 32, 33, 34, 35, 36, 37, 38, 39, 40, 41, 42, 43, 44, 45, 46, 47, 48, 49, 50, 51, 52, 53, 54, 55, 56, 57, 58, 59, 60, 61, 62, 63, 64, 65, 66, 67, 68, 69, 70, 71, 72, 73, 74, 75] (by decide +kernel) (by decide +kernel)
set_option maxRecDepth 20000 in
theorem gX9_bestCut_X9_faultsIn : GoodIn wsX9_bestCut (wsV RX9 269 RX9 yX9_faultsIn wsX9_faultsIn) := goodIn_app (goodIn_of _ (by decide +kernel)) ggX9_bestCut_X9_faultsIn
set_option maxRecDepth 20000 in
theorem ggX9_bestCut_X9_weightOf : GoodIn wsX9_bestCut wsX9_weightOf := goodIn_r _ [19, 10, 20, 13, 14, 4, 15, 21, 22, 23, 24, 25, 26, 27, 28, 29, 30, 31, 32, 33, 34, 35, 36, 37, 38, 39, 40, 41, 42, 43, 44, 45, 46, 47, 48, 49, 50, 51, 52, 53, 54, 55, 56, 57, 58, 59, 60, 61, 62, 63, 64, 65, 66, 67, 68, 69, 70, 71, 72, 73, 74, 75] (by decide +kernel) (by decide +kernel)
set_option maxRecDepth 20000 in
theorem gX9_bestCut_X9_weightOf : GoodIn wsX9_bestCut (wsV RX9 314 RX9 yX9_weightOf wsX9_weightOf) := goodIn_app (goodIn_of _ (by decide +kernel)) ggX9_bestCut_X9_weightOf
theorem dX9_bestCut_0 : decode cX9_bestCut 0 = .ok (.iload_n 1, 1) := by decide +kernel
theorem dX9_bestCut_1 : decode cX9_bestCut 1 = .ok (.i2l, 1) := by decide +kernel
theorem dX9_bestCut_2 : decode cX9_bestCut 2 = .ok (.lconst 0, 1) := by decide +kernel
theorem dX9_bestCut_3 : decode cX9_bestCut 3 = .ok (.aload_n 0, 1) := by decide +kernel
theorem dX9_bestCut_4 : decode cX9_bestCut 4 = .ok (.getfield 114, 3) := by decide +kernel
theorem dX9_bestCut_7 : decode cX9_bestCut 7 = .ok (.i2l, 1) := by decide +kernel
theorem dX9_bestCut_8 : decode cX9_bestCut 8 = .ok (.invokestatic 117, 3) := by decide +kernel
theorem dX9_bestCut_11 : decode cX9_bestCut 11 = .ok (.ifCond .eq 28, 3) := by decide +kernel
theorem dX9_bestCut_14 : decode cX9_bestCut 14 = .ok (.iload_n 2, 1) := by decide +kernel
theorem dX9_bestCut_15 : decode cX9_bestCut 15 = .ok (.i2l, 1) := by decide +kernel
theorem dX9_bestCut_16 : decode cX9_bestCut 16 = .ok (.iload_n 1, 1) := by decide +kernel
theorem dX9_bestCut_17 : decode cX9_bestCut 17 = .ok (.i2l, 1) := by decide +kernel
theorem dX9_bestCut_18 : decode cX9_bestCut 18 = .ok (.aload_n 0, 1) := by decide +kernel
theorem dX9_bestCut_19 : decode cX9_bestCut 19 = .ok (.getfield 114, 3) := by decide +kernel
theorem dX9_bestCut_22 : decode cX9_bestCut 22 = .ok (.i2l, 1) := by decide +kernel
theorem dX9_bestCut_23 : decode cX9_bestCut 23 = .ok (.invokestatic 117, 3) := by decide +kernel
theorem dX9_bestCut_26 : decode cX9_bestCut 26 = .ok (.ifCond .eq 13, 3) := by decide +kernel
theorem dX9_bestCut_29 : decode cX9_bestCut 29 = .ok (.iload_n 3, 1) := by decide +kernel
theorem dX9_bestCut_30 : decode cX9_bestCut 30 = .ok (.i2l, 1) := by decide +kernel
theorem dX9_bestCut_31 : decode cX9_bestCut 31 = .ok (.lconst 0, 1) := by decide +kernel
theorem dX9_bestCut_32 : decode cX9_bestCut 32 = .ok (.lconst 1, 1) := by decide +kernel
theorem dX9_bestCut_33 : decode cX9_bestCut 33 = .ok (.invokestatic 117, 3) := by decide +kernel
theorem dX9_bestCut_36 : decode cX9_bestCut 36 = .ok (.ifCond .ne 7, 3) := by decide +kernel
theorem dX9_bestCut_39 : decode cX9_bestCut 39 = .ok (.sipush (-1002), 3) := by decide +kernel
theorem dX9_bestCut_42 : decode cX9_bestCut 42 = .ok (.ireturn, 1) := by decide +kernel
theorem dX9_bestCut_43 : decode cX9_bestCut 43 = .ok (.iload_n 1, 1) := by decide +kernel
theorem dX9_bestCut_44 : decode cX9_bestCut 44 = .ok (.istore 4, 2) := by decide +kernel
theorem dX9_bestCut_46 : decode cX9_bestCut 46 = .ok (.aload_n 0, 1) := by decide +kernel
theorem dX9_bestCut_47 : decode cX9_bestCut 47 = .ok (.aload_n 0, 1) := by decide +kernel
theorem dX9_bestCut_48 : decode cX9_bestCut 48 = .ok (.iconst 1, 1) := by decide +kernel
theorem dX9_bestCut_49 : decode cX9_bestCut 49 = .ok (.iload_n 1, 1) := by decide +kernel
theorem dX9_bestCut_50 : decode cX9_bestCut 50 = .ok (.ishl, 1) := by decide +kernel
theorem dX9_bestCut_51 : decode cX9_bestCut 51 = .ok (.iconst 1, 1) := by decide +kernel
theorem dX9_bestCut_52 : decode cX9_bestCut 52 = .ok (.isub, 1) := by decide +kernel
theorem dX9_bestCut_53 : decode cX9_bestCut 53 = .ok (.invokevirtual 269, 3) := by decide +kernel
theorem dX9_bestCut_56 : decode cX9_bestCut 56 = .ok (.invokevirtual 314, 3) := by decide +kernel
theorem dX9_bestCut_59 : decode cX9_bestCut 59 = .ok (.istore 5, 2) := by decide +kernel
theorem dX9_bestCut_61 : decode cX9_bestCut 61 = .ok (.iload_n 1, 1) := by decide +kernel
theorem dX9_bestCut_62 : decode cX9_bestCut 62 = .ok (.iconst 1, 1) := by decide +kernel
theorem dX9_bestCut_63 : decode cX9_bestCut 63 = .ok (.iadd, 1) := by decide +kernel
theorem dX9_bestCut_64 : decode cX9_bestCut 64 = .ok (.istore 6, 2) := by decide +kernel
theorem dX9_bestCut_66 : decode cX9_bestCut 66 = .ok (.iload 6, 2) := by decide +kernel
theorem dX9_bestCut_68 : decode cX9_bestCut 68 = .ok (.iload_n 2, 1) := by decide +kernel
theorem dX9_bestCut_69 : decode cX9_bestCut 69 = .ok (.if_icmp .gt 57, 3) := by decide +kernel
theorem dX9_bestCut_72 : decode cX9_bestCut 72 = .ok (.aload_n 0, 1) := by decide +kernel
theorem dX9_bestCut_73 : decode cX9_bestCut 73 = .ok (.aload_n 0, 1) := by decide +kernel
theorem dX9_bestCut_74 : decode cX9_bestCut 74 = .ok (.iconst 1, 1) := by decide +kernel
theorem dX9_bestCut_75 : decode cX9_bestCut 75 = .ok (.iload 6, 2) := by decide +kernel
theorem dX9_bestCut_77 : decode cX9_bestCut 77 = .ok (.ishl, 1) := by decide +kernel
theorem dX9_bestCut_78 : decode cX9_bestCut 78 = .ok (.iconst 1, 1) := by decide +kernel
theorem dX9_bestCut_79 : decode cX9_bestCut 79 = .ok (.isub, 1) := by decide +kernel
theorem dX9_bestCut_80 : decode cX9_bestCut 80 = .ok (.invokevirtual 269, 3) := by decide +kernel
theorem dX9_bestCut_83 : decode cX9_bestCut 83 = .ok (.invokevirtual 314, 3) := by decide +kernel
theorem dX9_bestCut_86 : decode cX9_bestCut 86 = .ok (.istore 7, 2) := by decide +kernel
theorem dX9_bestCut_88 : decode cX9_bestCut 88 = .ok (.iload 7, 2) := by decide +kernel
theorem dX9_bestCut_90 : decode cX9_bestCut 90 = .ok (.iload 5, 2) := by decide +kernel
theorem dX9_bestCut_92 : decode cX9_bestCut 92 = .ok (.if_icmp .gt 8, 3) := by decide +kernel
theorem dX9_bestCut_95 : decode cX9_bestCut 95 = .ok (.iload 6, 2) := by decide +kernel
theorem dX9_bestCut_97 : decode cX9_bestCut 97 = .ok (.goto 5, 3) := by decide +kernel
theorem dX9_bestCut_100 : decode cX9_bestCut 100 = .ok (.iload 4, 2) := by decide +kernel
theorem dX9_bestCut_102 : decode cX9_bestCut 102 = .ok (.istore 4, 2) := by decide +kernel
theorem dX9_bestCut_104 : decode cX9_bestCut 104 = .ok (.iload 7, 2) := by decide +kernel
theorem dX9_bestCut_106 : decode cX9_bestCut 106 = .ok (.iload 5, 2) := by decide +kernel
theorem dX9_bestCut_108 : decode cX9_bestCut 108 = .ok (.if_icmp .gt 8, 3) := by decide +kernel
theorem dX9_bestCut_111 : decode cX9_bestCut 111 = .ok (.iload 7, 2) := by decide +kernel
theorem dX9_bestCut_113 : decode cX9_bestCut 113 = .ok (.goto 5, 3) := by decide +kernel
theorem dX9_bestCut_116 : decode cX9_bestCut 116 = .ok (.iload 5, 2) := by decide +kernel
theorem dX9_bestCut_118 : decode cX9_bestCut 118 = .ok (.istore 5, 2) := by decide +kernel
theorem dX9_bestCut_120 : decode cX9_bestCut 120 = .ok (.iinc 6 1, 3) := by decide +kernel
theorem dX9_bestCut_123 : decode cX9_bestCut 123 = .ok (.goto (-57), 3) := by decide +kernel
theorem dX9_bestCut_126 : decode cX9_bestCut 126 = .ok (.iload_n 3, 1) := by decide +kernel
theorem dX9_bestCut_127 : decode cX9_bestCut 127 = .ok (.ifCond .ne 8, 3) := by decide +kernel
theorem dX9_bestCut_130 : decode cX9_bestCut 130 = .ok (.iload 4, 2) := by decide +kernel
theorem dX9_bestCut_132 : decode cX9_bestCut 132 = .ok (.goto 5, 3) := by decide +kernel
theorem dX9_bestCut_135 : decode cX9_bestCut 135 = .ok (.iload 5, 2) := by decide +kernel
theorem dX9_bestCut_137 : decode cX9_bestCut 137 = .ok (.ireturn, 1) := by decide +kernel
set_option maxRecDepth 20000 in
theorem ggX9_up_X9_isRelease : GoodIn wsX9_up wsX9_isRelease := goodIn_r _ [7, 1, 8, 9, 6, 10, 35, 36, 37, 38, 39, 40, 41, 42, 43, 44, 45, 46, 47, 48, 49, 50, 51, 52, 53, 54, 55, 56, 57, 58, 59, 60, 61, 62, 63, 64, 65, 66, 67, 68, 69, 70, 71, 72, 73, 74, 75, 76, 77, 78, 79, 80, 81, 82, 83, 84, 85, 86, 87, 88, 89] (by decide +kernel) (by decide +kernel)
set_option maxRecDepth 20000 in
theorem gX9_up_X9_isRelease : GoodIn wsX9_up (wsV RX9 320 RX9 yX9_isRelease wsX9_isRelease) := goodIn_app (goodIn_of _ (by decide +kernel)) ggX9_up_X9_isRelease
set_option maxRecDepth 20000 in
theorem ggX9_up_X9_isFault : GoodIn wsX9_up wsX9_isFault := goodIn_r _ [14, 15, 8, 9, 6, 10, 35, 36, 37, 38, 39, 40, 41, 42, 43, 44, 45, 46, 47, 48, 49, 50, 51, 52, 53, 54, 55, 56, 57, 58, 59, 60, 61, 62, 63, 64, 65, 66, 67, 68, 69, 70, 71, 72, 73, 74, 75, 76, 77, 78, 79, 80, 81, 82, 83, 84, 85, 86, 87, 88, 89] (by decide +kernel) (by decide +kernel)
set_option maxRecDepth 20000 in
theorem gX9_up_X9_isFault : GoodIn wsX9_up (wsV RX9 263 RX9 yX9_isFault wsX9_isFault) := goodIn_app (goodIn_of _ (by decide +kernel)) ggX9_up_X9_isFault
set_option maxRecDepth 20000 in
theorem ggX9_up_X9_in : GoodIn wsX9_up wsX9_in := goodIn_r _ [10] (by decide +kernel) (by decide +kernel)
set_option maxRecDepth 20000 in
theorem gX9_up_X9_in : GoodIn wsX9_up (va_wsS RX9 117 yX9_in wsX9_in) := goodIn_app (goodIn_of _ (by decide +kernel)) ggX9_up_X9_in
set_option maxRecDepth 20000 in
theorem ggX9_up_X9_isFree : GoodIn wsX9_up wsX9_isFree := goodIn_r _ [19, 2, 20, 21, 22, 6, 23, 15, 24, 25, 26, 27, 28, 35, 36, 37, 38, 39, 40, 41, 42, 43, 44, 45, 46, 47, 48, 49, 50, 51, 52, 53, 54, 55, 56, 57, 58, 59, 60, 61, 62, 63, 64, 65, 66, 67, 68, 69, 70, 71, 72, 73, 74, 75, 76, 77, 78, 79, 80, 81, 82, 83, 84, 85, 86, 87, 88, 89] (by decide +kernel) (by decide +kernel)
set_option maxRecDepth 20000 in
theorem gX9_up_X9_isFree : GoodIn wsX9_up (wsV RX9 323 RX9 yX9_isFree wsX9_isFree) := goodIn_app (goodIn_of _ (by decide +kernel)) ggX9_up_X9_isFree
set_option maxRecDepth 20000 in
theorem ggX9_up_X9_faultsIn : GoodIn wsX9_up wsX9_faultsIn := goodIn_r _ [23, 15, 24, 25, 26, 27, 6, 28, 35, 36, 37, 38, 39, 40, 41, 42, 43, 44, 45, 46, 47, 48, 49, 50, 51, 52, 53, 54, 55, 56, 57, 58, 59, 60, 61, 62, 63, 64, 65, 66, 67, 68, 69, 70, 71, 72, 73, 74, 75, 76, 77, 78, 79, 80, 81, 82, 83, 84, 85, 86, 87, 88, 89] (by decide +kernel) (by decide +kernel)
set_option maxRecDepth 20000 in
theorem gX9_up_X9_faultsIn : GoodIn wsX9_up (wsV RX9 269 RX9 yX9_faultsIn wsX9_faultsIn) := goodIn_app (goodIn_of _ (by decide +kernel)) ggX9_up_X9_faultsIn
set_option maxRecDepth 20000 in
theorem ggX9_up_X9_riskOf : GoodIn wsX9_up wsX9_riskOf := goodIn_r _ [32, 33, 34, 26, 27, 6, 28, 35, 36, 37, 38, 39, 40, 41, 42, 43, 44, 45, 46, 47, 48, 49, 50, 51, 52, 53, 54, 55, 56, 57, 58, 59, 60, 61, 62, 63, 64, 65, 66, 67, 68, 69, 70, 71, 72, 73, 74, 75, 76, 77, 78, 79, 80, 81, 82, 83, 84, 85, 86, 87, 88, 89] (by decide +kernel) (by decide +kernel)
set_option maxRecDepth 20000 in
theorem gX9_up_X9_riskOf : GoodIn wsX9_up (wsV RX9 272 RX9 yX9_riskOf wsX9_riskOf) := goodIn_app (goodIn_of _ (by decide +kernel)) ggX9_up_X9_riskOf
theorem dX9_up_0 : decode cX9_up 0 = .ok (.aload_n 0, 1) := by decide +kernel
theorem dX9_up_1 : decode cX9_up 1 = .ok (.iload_n 1, 1) := by decide +kernel
theorem dX9_up_2 : decode cX9_up 2 = .ok (.invokevirtual 320, 3) := by decide +kernel
theorem dX9_up_5 : decode cX9_up 5 = .ok (.ifCond .eq 11, 3) := by decide +kernel
theorem dX9_up_8 : decode cX9_up 8 = .ok (.aload_n 0, 1) := by decide +kernel
theorem dX9_up_9 : decode cX9_up 9 = .ok (.iload_n 2, 1) := by decide +kernel
theorem dX9_up_10 : decode cX9_up 10 = .ok (.invokevirtual 263, 3) := by decide +kernel
theorem dX9_up_13 : decode cX9_up 13 = .ok (.ifCond .ne 7, 3) := by decide +kernel
theorem dX9_up_16 : decode cX9_up 16 = .ok (.sipush (-1001), 3) := by decide +kernel
theorem dX9_up_19 : decode cX9_up 19 = .ok (.ireturn, 1) := by decide +kernel
theorem dX9_up_20 : decode cX9_up 20 = .ok (.iload_n 3, 1) := by decide +kernel
theorem dX9_up_21 : decode cX9_up 21 = .ok (.i2l, 1) := by decide +kernel
theorem dX9_up_22 : decode cX9_up 22 = .ok (.lconst 0, 1) := by decide +kernel
theorem dX9_up_23 : decode cX9_up 23 = .ok (.lconst 1, 1) := by decide +kernel
theorem dX9_up_24 : decode cX9_up 24 = .ok (.invokestatic 117, 3) := by decide +kernel
theorem dX9_up_27 : decode cX9_up 27 = .ok (.ifCond .ne 7, 3) := by decide +kernel
theorem dX9_up_30 : decode cX9_up 30 = .ok (.sipush (-1002), 3) := by decide +kernel
theorem dX9_up_33 : decode cX9_up 33 = .ok (.ireturn, 1) := by decide +kernel
theorem dX9_up_34 : decode cX9_up 34 = .ok (.aload_n 0, 1) := by decide +kernel
theorem dX9_up_35 : decode cX9_up 35 = .ok (.iload_n 1, 1) := by decide +kernel
theorem dX9_up_36 : decode cX9_up 36 = .ok (.iload_n 2, 1) := by decide +kernel
theorem dX9_up_37 : decode cX9_up 37 = .ok (.invokevirtual 323, 3) := by decide +kernel
theorem dX9_up_40 : decode cX9_up 40 = .ok (.ifCond .eq 7, 3) := by decide +kernel
theorem dX9_up_43 : decode cX9_up 43 = .ok (.sipush (-1003), 3) := by decide +kernel
theorem dX9_up_46 : decode cX9_up 46 = .ok (.ireturn, 1) := by decide +kernel
theorem dX9_up_47 : decode cX9_up 47 = .ok (.iconst (-1), 1) := by decide +kernel
theorem dX9_up_48 : decode cX9_up 48 = .ok (.istore 4, 2) := by decide +kernel
theorem dX9_up_50 : decode cX9_up 50 = .ok (.iconst (-1), 1) := by decide +kernel
theorem dX9_up_51 : decode cX9_up 51 = .ok (.istore 5, 2) := by decide +kernel
theorem dX9_up_53 : decode cX9_up 53 = .ok (.iload_n 1, 1) := by decide +kernel
theorem dX9_up_54 : decode cX9_up 54 = .ok (.iconst 1, 1) := by decide +kernel
theorem dX9_up_55 : decode cX9_up 55 = .ok (.iadd, 1) := by decide +kernel
theorem dX9_up_56 : decode cX9_up 56 = .ok (.istore 6, 2) := by decide +kernel
theorem dX9_up_58 : decode cX9_up 58 = .ok (.iload 6, 2) := by decide +kernel
theorem dX9_up_60 : decode cX9_up 60 = .ok (.aload_n 0, 1) := by decide +kernel
theorem dX9_up_61 : decode cX9_up 61 = .ok (.getfield 129, 3) := by decide +kernel
theorem dX9_up_64 : decode cX9_up 64 = .ok (.if_icmp .ge 148, 3) := by decide +kernel
theorem dX9_up_67 : decode cX9_up 67 = .ok (.aload_n 0, 1) := by decide +kernel
theorem dX9_up_68 : decode cX9_up 68 = .ok (.iload 6, 2) := by decide +kernel
theorem dX9_up_70 : decode cX9_up 70 = .ok (.iload_n 2, 1) := by decide +kernel
theorem dX9_up_71 : decode cX9_up 71 = .ok (.invokevirtual 323, 3) := by decide +kernel
theorem dX9_up_74 : decode cX9_up 74 = .ok (.ifCond .eq 34, 3) := by decide +kernel
theorem dX9_up_77 : decode cX9_up 77 = .ok (.aload_n 0, 1) := by decide +kernel
theorem dX9_up_78 : decode cX9_up 78 = .ok (.aload_n 0, 1) := by decide +kernel
theorem dX9_up_79 : decode cX9_up 79 = .ok (.getfield 46, 3) := by decide +kernel
theorem dX9_up_82 : decode cX9_up 82 = .ok (.iload 6, 2) := by decide +kernel
theorem dX9_up_84 : decode cX9_up 84 = .ok (.iaload, 1) := by decide +kernel
theorem dX9_up_85 : decode cX9_up 85 = .ok (.invokevirtual 269, 3) := by decide +kernel
theorem dX9_up_88 : decode cX9_up 88 = .ok (.aload_n 0, 1) := by decide +kernel
theorem dX9_up_89 : decode cX9_up 89 = .ok (.aload_n 0, 1) := by decide +kernel
theorem dX9_up_90 : decode cX9_up 90 = .ok (.getfield 46, 3) := by decide +kernel
theorem dX9_up_93 : decode cX9_up 93 = .ok (.iload_n 1, 1) := by decide +kernel
theorem dX9_up_94 : decode cX9_up 94 = .ok (.iaload, 1) := by decide +kernel
theorem dX9_up_95 : decode cX9_up 95 = .ok (.invokevirtual 269, 3) := by decide +kernel
theorem dX9_up_98 : decode cX9_up 98 = .ok (.iconst (-1), 1) := by decide +kernel
theorem dX9_up_99 : decode cX9_up 99 = .ok (.ixor, 1) := by decide +kernel
theorem dX9_up_100 : decode cX9_up 100 = .ok (.iand, 1) := by decide +kernel
theorem dX9_up_101 : decode cX9_up 101 = .ok (.ifCond .ne 7, 3) := by decide +kernel
theorem dX9_up_104 : decode cX9_up 104 = .ok (.iconst 1, 1) := by decide +kernel
theorem dX9_up_105 : decode cX9_up 105 = .ok (.goto 4, 3) := by decide +kernel
theorem dX9_up_108 : decode cX9_up 108 = .ok (.iconst 0, 1) := by decide +kernel
theorem dX9_up_109 : decode cX9_up 109 = .ok (.istore 7, 2) := by decide +kernel
theorem dX9_up_111 : decode cX9_up 111 = .ok (.aload_n 0, 1) := by decide +kernel
theorem dX9_up_112 : decode cX9_up 112 = .ok (.aload_n 0, 1) := by decide +kernel
theorem dX9_up_113 : decode cX9_up 113 = .ok (.getfield 46, 3) := by decide +kernel
theorem dX9_up_116 : decode cX9_up 116 = .ok (.iload 6, 2) := by decide +kernel
theorem dX9_up_118 : decode cX9_up 118 = .ok (.iaload, 1) := by decide +kernel
theorem dX9_up_119 : decode cX9_up 119 = .ok (.aload_n 0, 1) := by decide +kernel
theorem dX9_up_120 : decode cX9_up 120 = .ok (.getfield 46, 3) := by decide +kernel
theorem dX9_up_123 : decode cX9_up 123 = .ok (.iload_n 1, 1) := by decide +kernel
theorem dX9_up_124 : decode cX9_up 124 = .ok (.iaload, 1) := by decide +kernel
theorem dX9_up_125 : decode cX9_up 125 = .ok (.iconst (-1), 1) := by decide +kernel
theorem dX9_up_126 : decode cX9_up 126 = .ok (.ixor, 1) := by decide +kernel
theorem dX9_up_127 : decode cX9_up 127 = .ok (.iand, 1) := by decide +kernel
theorem dX9_up_128 : decode cX9_up 128 = .ok (.invokevirtual 272, 3) := by decide +kernel
theorem dX9_up_131 : decode cX9_up 131 = .ok (.aload_n 0, 1) := by decide +kernel
theorem dX9_up_132 : decode cX9_up 132 = .ok (.aload_n 0, 1) := by decide +kernel
theorem dX9_up_133 : decode cX9_up 133 = .ok (.getfield 46, 3) := by decide +kernel
theorem dX9_up_136 : decode cX9_up 136 = .ok (.iload_n 1, 1) := by decide +kernel
theorem dX9_up_137 : decode cX9_up 137 = .ok (.iaload, 1) := by decide +kernel
theorem dX9_up_138 : decode cX9_up 138 = .ok (.aload_n 0, 1) := by decide +kernel
theorem dX9_up_139 : decode cX9_up 139 = .ok (.getfield 46, 3) := by decide +kernel
theorem dX9_up_142 : decode cX9_up 142 = .ok (.iload 6, 2) := by decide +kernel
theorem dX9_up_144 : decode cX9_up 144 = .ok (.iaload, 1) := by decide +kernel
theorem dX9_up_145 : decode cX9_up 145 = .ok (.iconst (-1), 1) := by decide +kernel
theorem dX9_up_146 : decode cX9_up 146 = .ok (.ixor, 1) := by decide +kernel
theorem dX9_up_147 : decode cX9_up 147 = .ok (.iand, 1) := by decide +kernel
theorem dX9_up_148 : decode cX9_up 148 = .ok (.invokevirtual 272, 3) := by decide +kernel
theorem dX9_up_151 : decode cX9_up 151 = .ok (.iadd, 1) := by decide +kernel
theorem dX9_up_152 : decode cX9_up 152 = .ok (.istore 8, 2) := by decide +kernel
theorem dX9_up_154 : decode cX9_up 154 = .ok (.iload 7, 2) := by decide +kernel
theorem dX9_up_156 : decode cX9_up 156 = .ok (.ifCond .eq 19, 3) := by decide +kernel
theorem dX9_up_159 : decode cX9_up 159 = .ok (.iload 4, 2) := by decide +kernel
theorem dX9_up_161 : decode cX9_up 161 = .ok (.ifCond .lt 10, 3) := by decide +kernel
theorem dX9_up_164 : decode cX9_up 164 = .ok (.iload 8, 2) := by decide +kernel
theorem dX9_up_166 : decode cX9_up 166 = .ok (.iload 5, 2) := by decide +kernel
theorem dX9_up_168 : decode cX9_up 168 = .ok (.if_icmp .ge 7, 3) := by decide +kernel
theorem dX9_up_171 : decode cX9_up 171 = .ok (.iconst 1, 1) := by decide +kernel
theorem dX9_up_172 : decode cX9_up 172 = .ok (.goto 4, 3) := by decide +kernel
theorem dX9_up_175 : decode cX9_up 175 = .ok (.iconst 0, 1) := by decide +kernel
theorem dX9_up_176 : decode cX9_up 176 = .ok (.istore 9, 2) := by decide +kernel
theorem dX9_up_178 : decode cX9_up 178 = .ok (.iload 9, 2) := by decide +kernel
theorem dX9_up_180 : decode cX9_up 180 = .ok (.ifCond .eq 8, 3) := by decide +kernel
theorem dX9_up_183 : decode cX9_up 183 = .ok (.iload 6, 2) := by decide +kernel
theorem dX9_up_185 : decode cX9_up 185 = .ok (.goto 5, 3) := by decide +kernel
theorem dX9_up_188 : decode cX9_up 188 = .ok (.iload 4, 2) := by decide +kernel
theorem dX9_up_190 : decode cX9_up 190 = .ok (.istore 4, 2) := by decide +kernel
theorem dX9_up_192 : decode cX9_up 192 = .ok (.iload 9, 2) := by decide +kernel
theorem dX9_up_194 : decode cX9_up 194 = .ok (.ifCond .eq 8, 3) := by decide +kernel
theorem dX9_up_197 : decode cX9_up 197 = .ok (.iload 8, 2) := by decide +kernel
theorem dX9_up_199 : decode cX9_up 199 = .ok (.goto 5, 3) := by decide +kernel
theorem dX9_up_202 : decode cX9_up 202 = .ok (.iload 5, 2) := by decide +kernel
theorem dX9_up_204 : decode cX9_up 204 = .ok (.istore 5, 2) := by decide +kernel
theorem dX9_up_206 : decode cX9_up 206 = .ok (.iinc 6 1, 3) := by decide +kernel
theorem dX9_up_209 : decode cX9_up 209 = .ok (.goto (-151), 3) := by decide +kernel
theorem dX9_up_212 : decode cX9_up 212 = .ok (.iload_n 3, 1) := by decide +kernel
theorem dX9_up_213 : decode cX9_up 213 = .ok (.ifCond .ne 8, 3) := by decide +kernel
theorem dX9_up_216 : decode cX9_up 216 = .ok (.iload 4, 2) := by decide +kernel
theorem dX9_up_218 : decode cX9_up 218 = .ok (.goto 5, 3) := by decide +kernel
theorem dX9_up_221 : decode cX9_up 221 = .ok (.iload 5, 2) := by decide +kernel
theorem dX9_up_223 : decode cX9_up 223 = .ok (.ireturn, 1) := by decide +kernel
set_option maxRecDepth 20000 in
theorem ggX9_spans_X9_isFault : GoodIn wsX9_spans wsX9_isFault := goodIn_r _ [7, 8, 9, 10, 6, 11, 31, 32, 33, 34, 35, 36, 37, 38, 39, 40, 41, 42, 43, 44, 45, 46, 47, 48, 49, 50, 51, 52, 53, 54, 55, 56, 57, 58, 59, 60, 61, 62, 63, 64, 65, 66, 67, 68, 69, 70, 71, 72, 73, 74, 75, 76, 77, 78, 79, 80, 81, 82, 83, 84, 85] (by decide +kernel) (by decide +kernel)
set_option maxRecDepth 20000 in
theorem gX9_spans_X9_isFault : GoodIn wsX9_spans (wsV RX9 263 RX9 yX9_isFault wsX9_isFault) := goodIn_app (goodIn_of _ (by decide +kernel)) ggX9_spans_X9_isFault
set_option maxRecDepth 20000 in
theorem ggX9_spans_X9_isLine : GoodIn wsX9_spans wsX9_isLine := goodIn_r _ [15, 16, 9, 10, 6, 11, 31, 32, 33, 34, 35, 36, 37, 38, 39, 40, 41, 42, 43, 44, 45, 46, 47, 48, 49, 50, 51, 52, 53, 54, 55, 56, 57, 58, 59, 60, 61, 62, 63, 64, 65, 66, 67, 68, 69, 70, 71, 72, 73, 74, 75, 76, 77, 78, 79, 80, 81, 82, 83, 84, 85] (by decide +kernel) (by decide +kernel)
set_option maxRecDepth 20000 in
theorem gX9_spans_X9_isLine : GoodIn wsX9_spans (wsV RX9 266 RX9 yX9_isLine wsX9_isLine) := goodIn_app (goodIn_of _ (by decide +kernel)) ggX9_spans_X9_isLine
set_option maxRecDepth 20000 in
theorem ggX9_spans_X9_in : GoodIn wsX9_spans wsX9_in := goodIn_r _ [11] (by decide +kernel) (by decide +kernel)
set_option maxRecDepth 20000 in
theorem gX9_spans_X9_in : GoodIn wsX9_spans (va_wsS RX9 117 yX9_in wsX9_in) := goodIn_app (goodIn_of _ (by decide +kernel)) ggX9_spans_X9_in
set_option maxRecDepth 20000 in
theorem ggX9_spans_X9_isFree : GoodIn wsX9_spans wsX9_isFree := goodIn_r _ [20, 21, 22, 23, 24, 6, 25, 8, 26, 27, 28, 29, 30, 31, 32, 33, 34, 35, 36, 37, 38, 39, 40, 41, 42, 43, 44, 45, 46, 47, 48, 49, 50, 51, 52, 53, 54, 55, 56, 57, 58, 59, 60, 61, 62, 63, 64, 65, 66, 67, 68, 69, 70, 71, 72, 73, 74, 75, 76, 77, 78, 79, 80, 81, 82, 83, 84, 85] (by decide +kernel) (by decide +kernel)
set_option maxRecDepth 20000 in
theorem gX9_spans_X9_isFree : GoodIn wsX9_spans (wsV RX9 323 RX9 yX9_isFree wsX9_isFree) := goodIn_app (goodIn_of _ (by decide +kernel)) ggX9_spans_X9_isFree
theorem dX9_spans_0 : decode cX9_spans 0 = .ok (.aload_n 0, 1) := by decide +kernel
theorem dX9_spans_1 : decode cX9_spans 1 = .ok (.iload_n 1, 1) := by decide +kernel
theorem dX9_spans_2 : decode cX9_spans 2 = .ok (.invokevirtual 263, 3) := by decide +kernel
theorem dX9_spans_5 : decode cX9_spans 5 = .ok (.ifCond .eq 11, 3) := by decide +kernel
theorem dX9_spans_8 : decode cX9_spans 8 = .ok (.aload_n 0, 1) := by decide +kernel
theorem dX9_spans_9 : decode cX9_spans 9 = .ok (.iload_n 2, 1) := by decide +kernel
theorem dX9_spans_10 : decode cX9_spans 10 = .ok (.invokevirtual 266, 3) := by decide +kernel
theorem dX9_spans_13 : decode cX9_spans 13 = .ok (.ifCond .ne 7, 3) := by decide +kernel
theorem dX9_spans_16 : decode cX9_spans 16 = .ok (.sipush (-1001), 3) := by decide +kernel
theorem dX9_spans_19 : decode cX9_spans 19 = .ok (.ireturn, 1) := by decide +kernel
theorem dX9_spans_20 : decode cX9_spans 20 = .ok (.iload 4, 2) := by decide +kernel
theorem dX9_spans_22 : decode cX9_spans 22 = .ok (.i2l, 1) := by decide +kernel
theorem dX9_spans_23 : decode cX9_spans 23 = .ok (.lconst 0, 1) := by decide +kernel
theorem dX9_spans_24 : decode cX9_spans 24 = .ok (.lconst 1, 1) := by decide +kernel
theorem dX9_spans_25 : decode cX9_spans 25 = .ok (.invokestatic 117, 3) := by decide +kernel
theorem dX9_spans_28 : decode cX9_spans 28 = .ok (.ifCond .ne 7, 3) := by decide +kernel
theorem dX9_spans_31 : decode cX9_spans 31 = .ok (.sipush (-1002), 3) := by decide +kernel
theorem dX9_spans_34 : decode cX9_spans 34 = .ok (.ireturn, 1) := by decide +kernel
theorem dX9_spans_35 : decode cX9_spans 35 = .ok (.iconst 0, 1) := by decide +kernel
theorem dX9_spans_36 : decode cX9_spans 36 = .ok (.istore 5, 2) := by decide +kernel
theorem dX9_spans_38 : decode cX9_spans 38 = .ok (.iconst 0, 1) := by decide +kernel
theorem dX9_spans_39 : decode cX9_spans 39 = .ok (.istore 6, 2) := by decide +kernel
theorem dX9_spans_41 : decode cX9_spans 41 = .ok (.iconst (-1), 1) := by decide +kernel
theorem dX9_spans_42 : decode cX9_spans 42 = .ok (.istore 7, 2) := by decide +kernel
theorem dX9_spans_44 : decode cX9_spans 44 = .ok (.iconst (-1), 1) := by decide +kernel
theorem dX9_spans_45 : decode cX9_spans 45 = .ok (.istore 8, 2) := by decide +kernel
theorem dX9_spans_47 : decode cX9_spans 47 = .ok (.iconst 0, 1) := by decide +kernel
theorem dX9_spans_48 : decode cX9_spans 48 = .ok (.istore 9, 2) := by decide +kernel
theorem dX9_spans_50 : decode cX9_spans 50 = .ok (.iload 9, 2) := by decide +kernel
theorem dX9_spans_52 : decode cX9_spans 52 = .ok (.aload_n 0, 1) := by decide +kernel
theorem dX9_spans_53 : decode cX9_spans 53 = .ok (.getfield 129, 3) := by decide +kernel
theorem dX9_spans_56 : decode cX9_spans 56 = .ok (.if_icmp .ge 110, 3) := by decide +kernel
theorem dX9_spans_59 : decode cX9_spans 59 = .ok (.aload_n 0, 1) := by decide +kernel
theorem dX9_spans_60 : decode cX9_spans 60 = .ok (.getfield 40, 3) := by decide +kernel
theorem dX9_spans_63 : decode cX9_spans 63 = .ok (.iload 9, 2) := by decide +kernel
theorem dX9_spans_65 : decode cX9_spans 65 = .ok (.iaload, 1) := by decide +kernel
theorem dX9_spans_66 : decode cX9_spans 66 = .ok (.iload_n 2, 1) := by decide +kernel
theorem dX9_spans_67 : decode cX9_spans 67 = .ok (.if_icmp .ne 93, 3) := by decide +kernel
theorem dX9_spans_70 : decode cX9_spans 70 = .ok (.aload_n 0, 1) := by decide +kernel
theorem dX9_spans_71 : decode cX9_spans 71 = .ok (.iload 9, 2) := by decide +kernel
theorem dX9_spans_73 : decode cX9_spans 73 = .ok (.iload_n 1, 1) := by decide +kernel
theorem dX9_spans_74 : decode cX9_spans 74 = .ok (.invokevirtual 323, 3) := by decide +kernel
theorem dX9_spans_77 : decode cX9_spans 77 = .ok (.istore 10, 2) := by decide +kernel
theorem dX9_spans_79 : decode cX9_spans 79 = .ok (.iload 5, 2) := by decide +kernel
theorem dX9_spans_81 : decode cX9_spans 81 = .ok (.iload 10, 2) := by decide +kernel
theorem dX9_spans_83 : decode cX9_spans 83 = .ok (.ifCond .ne 12, 3) := by decide +kernel
theorem dX9_spans_86 : decode cX9_spans 86 = .ok (.iload 6, 2) := by decide +kernel
theorem dX9_spans_88 : decode cX9_spans 88 = .ok (.ifCond .ne 7, 3) := by decide +kernel
theorem dX9_spans_91 : decode cX9_spans 91 = .ok (.iconst 1, 1) := by decide +kernel
theorem dX9_spans_92 : decode cX9_spans 92 = .ok (.goto 4, 3) := by decide +kernel
theorem dX9_spans_95 : decode cX9_spans 95 = .ok (.iconst 0, 1) := by decide +kernel
theorem dX9_spans_96 : decode cX9_spans 96 = .ok (.iadd, 1) := by decide +kernel
theorem dX9_spans_97 : decode cX9_spans 97 = .ok (.istore 5, 2) := by decide +kernel
theorem dX9_spans_99 : decode cX9_spans 99 = .ok (.iload 10, 2) := by decide +kernel
theorem dX9_spans_101 : decode cX9_spans 101 = .ok (.ifCond .ne 21, 3) := by decide +kernel
theorem dX9_spans_104 : decode cX9_spans 104 = .ok (.iload 6, 2) := by decide +kernel
theorem dX9_spans_106 : decode cX9_spans 106 = .ok (.ifCond .ne 16, 3) := by decide +kernel
theorem dX9_spans_109 : decode cX9_spans 109 = .ok (.iload 5, 2) := by decide +kernel
theorem dX9_spans_111 : decode cX9_spans 111 = .ok (.iconst 1, 1) := by decide +kernel
theorem dX9_spans_112 : decode cX9_spans 112 = .ok (.isub, 1) := by decide +kernel
theorem dX9_spans_113 : decode cX9_spans 113 = .ok (.iload_n 3, 1) := by decide +kernel
theorem dX9_spans_114 : decode cX9_spans 114 = .ok (.if_icmp .ne 8, 3) := by decide +kernel
theorem dX9_spans_117 : decode cX9_spans 117 = .ok (.iload 9, 2) := by decide +kernel
theorem dX9_spans_119 : decode cX9_spans 119 = .ok (.goto 5, 3) := by decide +kernel
theorem dX9_spans_122 : decode cX9_spans 122 = .ok (.iload 7, 2) := by decide +kernel
theorem dX9_spans_124 : decode cX9_spans 124 = .ok (.istore 7, 2) := by decide +kernel
theorem dX9_spans_126 : decode cX9_spans 126 = .ok (.iload 10, 2) := by decide +kernel
theorem dX9_spans_128 : decode cX9_spans 128 = .ok (.ifCond .ne 16, 3) := by decide +kernel
theorem dX9_spans_131 : decode cX9_spans 131 = .ok (.iload 5, 2) := by decide +kernel
theorem dX9_spans_133 : decode cX9_spans 133 = .ok (.iconst 1, 1) := by decide +kernel
theorem dX9_spans_134 : decode cX9_spans 134 = .ok (.isub, 1) := by decide +kernel
theorem dX9_spans_135 : decode cX9_spans 135 = .ok (.iload_n 3, 1) := by decide +kernel
theorem dX9_spans_136 : decode cX9_spans 136 = .ok (.if_icmp .ne 8, 3) := by decide +kernel
theorem dX9_spans_139 : decode cX9_spans 139 = .ok (.iload 9, 2) := by decide +kernel
theorem dX9_spans_141 : decode cX9_spans 141 = .ok (.goto 5, 3) := by decide +kernel
theorem dX9_spans_144 : decode cX9_spans 144 = .ok (.iload 8, 2) := by decide +kernel
theorem dX9_spans_146 : decode cX9_spans 146 = .ok (.istore 8, 2) := by decide +kernel
theorem dX9_spans_148 : decode cX9_spans 148 = .ok (.iload 10, 2) := by decide +kernel
theorem dX9_spans_150 : decode cX9_spans 150 = .ok (.ifCond .ne 7, 3) := by decide +kernel
theorem dX9_spans_153 : decode cX9_spans 153 = .ok (.iconst 1, 1) := by decide +kernel
theorem dX9_spans_154 : decode cX9_spans 154 = .ok (.goto 4, 3) := by decide +kernel
theorem dX9_spans_157 : decode cX9_spans 157 = .ok (.iconst 0, 1) := by decide +kernel
theorem dX9_spans_158 : decode cX9_spans 158 = .ok (.istore 6, 2) := by decide +kernel
theorem dX9_spans_160 : decode cX9_spans 160 = .ok (.iinc 9 1, 3) := by decide +kernel
theorem dX9_spans_163 : decode cX9_spans 163 = .ok (.goto (-113), 3) := by decide +kernel
theorem dX9_spans_166 : decode cX9_spans 166 = .ok (.iload_n 3, 1) := by decide +kernel
theorem dX9_spans_167 : decode cX9_spans 167 = .ok (.iconst (-1), 1) := by decide +kernel
theorem dX9_spans_168 : decode cX9_spans 168 = .ok (.if_icmp .ne 8, 3) := by decide +kernel
theorem dX9_spans_171 : decode cX9_spans 171 = .ok (.iload 5, 2) := by decide +kernel
theorem dX9_spans_173 : decode cX9_spans 173 = .ok (.goto 15, 3) := by decide +kernel
theorem dX9_spans_176 : decode cX9_spans 176 = .ok (.iload 4, 2) := by decide +kernel
theorem dX9_spans_178 : decode cX9_spans 178 = .ok (.ifCond .ne 8, 3) := by decide +kernel
theorem dX9_spans_181 : decode cX9_spans 181 = .ok (.iload 7, 2) := by decide +kernel
theorem dX9_spans_183 : decode cX9_spans 183 = .ok (.goto 5, 3) := by decide +kernel
theorem dX9_spans_186 : decode cX9_spans 186 = .ok (.iload 8, 2) := by decide +kernel
theorem dX9_spans_188 : decode cX9_spans 188 = .ok (.ireturn, 1) := by decide +kernel
set_option maxRecDepth 20000 in
theorem ggX9_takeFreeze_X9_breaks : GoodIn wsX9_takeFreeze wsX9_breaks := goodIn_r _ [11, 12, 30, 31, 32, 33, 34, 35, 36, 37, 38, 39, 40, 41, 42, 43, 44, 45, 46, 47, 48, 49, 50, 51, 52, 53, 54, 55, 56, 57, 58, 59, 60, 61, 62, 63, 64, 65, 66, 67, 68, 69, 70, 71, 72, 73, 74, 75, 76, 77, 78, 79, 80, 81, 82, 83, 84] (by decide +kernel) (by decide +kernel)
set_option maxRecDepth 20000 in
theorem gX9_takeFreeze_X9_breaks : GoodIn wsX9_takeFreeze (wsV RX9 171 RX9 yX9_breaks wsX9_breaks) := goodIn_app (goodIn_of _ (by decide +kernel)) ggX9_takeFreeze_X9_breaks
set_option maxRecDepth 20000 in
theorem ggX9_takeFreeze_X9_takeNumber : GoodIn wsX9_takeFreeze wsX9_takeNumber := goodIn_r _ [16, 17, 18, 2, 19, 4, 20, 21, 22, 23, 24, 25, 10, 26, 27, 28, 29, 7, 8, 9, 11, 12, 30, 31, 32, 33, 34, 35, 36, 37, 38, 39, 40, 41, 42, 43, 44, 45, 46, 47, 48, 49, 50, 51, 52, 53, 54, 55, 56, 57, 58, 59, 60, 61, 62, 63, 64, 65, 66, 67, 68, 69, 70, 71, 72, 73, 74, 75, 76, 77, 78, 79, 80, 81, 82, 83, 84] (by decide +kernel) (by decide +kernel)
set_option maxRecDepth 20000 in
theorem gX9_takeFreeze_X9_takeNumber : GoodIn wsX9_takeFreeze (wsV RX9 184 RX9 yX9_takeNumber wsX9_takeNumber) := goodIn_app (goodIn_of _ (by decide +kernel)) ggX9_takeFreeze_X9_takeNumber
theorem dX9_takeFreeze_0 : decode cX9_takeFreeze 0 = .ok (.aload_n 0, 1) := by decide +kernel
theorem dX9_takeFreeze_1 : decode cX9_takeFreeze 1 = .ok (.getfield 351, 3) := by decide +kernel
theorem dX9_takeFreeze_4 : decode cX9_takeFreeze 4 = .ok (.bipush 8, 2) := by decide +kernel
theorem dX9_takeFreeze_6 : decode cX9_takeFreeze 6 = .ok (.if_icmp .ne 13, 3) := by decide +kernel
theorem dX9_takeFreeze_9 : decode cX9_takeFreeze 9 = .ok (.aload_n 0, 1) := by decide +kernel
theorem dX9_takeFreeze_10 : decode cX9_takeFreeze 10 = .ok (.iconst 3, 1) := by decide +kernel
theorem dX9_takeFreeze_11 : decode cX9_takeFreeze 11 = .ok (.aload_n 0, 1) := by decide +kernel
theorem dX9_takeFreeze_12 : decode cX9_takeFreeze 12 = .ok (.getfield 141, 3) := by decide +kernel
theorem dX9_takeFreeze_15 : decode cX9_takeFreeze 15 = .ok (.invokevirtual 171, 3) := by decide +kernel
theorem dX9_takeFreeze_18 : decode cX9_takeFreeze 18 = .ok (.ireturn, 1) := by decide +kernel
theorem dX9_takeFreeze_19 : decode cX9_takeFreeze 19 = .ok (.aload_n 0, 1) := by decide +kernel
theorem dX9_takeFreeze_20 : decode cX9_takeFreeze 20 = .ok (.aload_n 0, 1) := by decide +kernel
theorem dX9_takeFreeze_21 : decode cX9_takeFreeze 21 = .ok (.getfield 152, 3) := by decide +kernel
theorem dX9_takeFreeze_24 : decode cX9_takeFreeze 24 = .ok (.putfield 141, 3) := by decide +kernel
theorem dX9_takeFreeze_27 : decode cX9_takeFreeze 27 = .ok (.aload_n 0, 1) := by decide +kernel
theorem dX9_takeFreeze_28 : decode cX9_takeFreeze 28 = .ok (.iconst 0, 1) := by decide +kernel
theorem dX9_takeFreeze_29 : decode cX9_takeFreeze 29 = .ok (.sipush 999, 3) := by decide +kernel
theorem dX9_takeFreeze_32 : decode cX9_takeFreeze 32 = .ok (.invokevirtual 184, 3) := by decide +kernel
theorem dX9_takeFreeze_35 : decode cX9_takeFreeze 35 = .ok (.istore_n 1, 1) := by decide +kernel
theorem dX9_takeFreeze_36 : decode cX9_takeFreeze 36 = .ok (.aload_n 0, 1) := by decide +kernel
theorem dX9_takeFreeze_37 : decode cX9_takeFreeze 37 = .ok (.getfield 178, 3) := by decide +kernel
theorem dX9_takeFreeze_40 : decode cX9_takeFreeze 40 = .ok (.istore_n 2, 1) := by decide +kernel
theorem dX9_takeFreeze_41 : decode cX9_takeFreeze 41 = .ok (.iload_n 1, 1) := by decide +kernel
theorem dX9_takeFreeze_42 : decode cX9_takeFreeze 42 = .ok (.ifCond .le 7, 3) := by decide +kernel
theorem dX9_takeFreeze_45 : decode cX9_takeFreeze 45 = .ok (.iload_n 1, 1) := by decide +kernel
theorem dX9_takeFreeze_46 : decode cX9_takeFreeze 46 = .ok (.goto 11, 3) := by decide +kernel
theorem dX9_takeFreeze_49 : decode cX9_takeFreeze 49 = .ok (.aload_n 0, 1) := by decide +kernel
theorem dX9_takeFreeze_50 : decode cX9_takeFreeze 50 = .ok (.iload_n 2, 1) := by decide +kernel
theorem dX9_takeFreeze_51 : decode cX9_takeFreeze 51 = .ok (.sipush 999, 3) := by decide +kernel
theorem dX9_takeFreeze_54 : decode cX9_takeFreeze 54 = .ok (.invokevirtual 184, 3) := by decide +kernel
theorem dX9_takeFreeze_57 : decode cX9_takeFreeze 57 = .ok (.istore_n 1, 1) := by decide +kernel
theorem dX9_takeFreeze_58 : decode cX9_takeFreeze 58 = .ok (.aload_n 0, 1) := by decide +kernel
theorem dX9_takeFreeze_59 : decode cX9_takeFreeze 59 = .ok (.getfield 101, 3) := by decide +kernel
theorem dX9_takeFreeze_62 : decode cX9_takeFreeze 62 = .ok (.aload_n 0, 1) := by decide +kernel
theorem dX9_takeFreeze_63 : decode cX9_takeFreeze 63 = .ok (.getfield 351, 3) := by decide +kernel
theorem dX9_takeFreeze_66 : decode cX9_takeFreeze 66 = .ok (.iload_n 2, 1) := by decide +kernel
theorem dX9_takeFreeze_67 : decode cX9_takeFreeze 67 = .ok (.iastore, 1) := by decide +kernel
theorem dX9_takeFreeze_68 : decode cX9_takeFreeze 68 = .ok (.aload_n 0, 1) := by decide +kernel
theorem dX9_takeFreeze_69 : decode cX9_takeFreeze 69 = .ok (.getfield 104, 3) := by decide +kernel
theorem dX9_takeFreeze_72 : decode cX9_takeFreeze 72 = .ok (.aload_n 0, 1) := by decide +kernel
theorem dX9_takeFreeze_73 : decode cX9_takeFreeze 73 = .ok (.getfield 351, 3) := by decide +kernel
theorem dX9_takeFreeze_76 : decode cX9_takeFreeze 76 = .ok (.aload_n 0, 1) := by decide +kernel
theorem dX9_takeFreeze_77 : decode cX9_takeFreeze 77 = .ok (.getfield 178, 3) := by decide +kernel
theorem dX9_takeFreeze_80 : decode cX9_takeFreeze 80 = .ok (.iastore, 1) := by decide +kernel
theorem dX9_takeFreeze_81 : decode cX9_takeFreeze 81 = .ok (.aload_n 0, 1) := by decide +kernel
theorem dX9_takeFreeze_82 : decode cX9_takeFreeze 82 = .ok (.dup, 1) := by decide +kernel
theorem dX9_takeFreeze_83 : decode cX9_takeFreeze 83 = .ok (.getfield 351, 3) := by decide +kernel
theorem dX9_takeFreeze_86 : decode cX9_takeFreeze 86 = .ok (.iconst 1, 1) := by decide +kernel
theorem dX9_takeFreeze_87 : decode cX9_takeFreeze 87 = .ok (.iadd, 1) := by decide +kernel
theorem dX9_takeFreeze_88 : decode cX9_takeFreeze 88 = .ok (.putfield 351, 3) := by decide +kernel
theorem dX9_takeFreeze_91 : decode cX9_takeFreeze 91 = .ok (.iload_n 1, 1) := by decide +kernel
theorem dX9_takeFreeze_92 : decode cX9_takeFreeze 92 = .ok (.ireturn, 1) := by decide +kernel
set_option maxRecDepth 20000 in
theorem ggX9_takeOnly_X9_takeNumber : GoodIn wsX9_takeOnly wsX9_takeNumber := goodIn_r _ [9, 10, 11, 12, 3, 2, 13, 14, 15, 16, 17, 18, 8, 19, 20, 21, 22, 23, 24, 25, 26, 27, 35, 36, 37, 38, 39, 40, 41, 42, 43, 44, 45, 46, 47, 48, 49, 50, 51, 52, 53, 54, 55, 56, 57, 58, 59, 60, 61, 62, 63, 64, 65, 66, 67, 68, 69, 70, 71, 72, 73, 74, 75, 76, 77, 78, 79, 80, 81, 82, 83, 84, 85, 86, 87, 88, 89] (by decide +kernel) (by decide +kernel)
set_option maxRecDepth 20000 in
theorem gX9_takeOnly_X9_takeNumber : GoodIn wsX9_takeOnly (wsV RX9 184 RX9 yX9_takeNumber wsX9_takeNumber) := goodIn_app (goodIn_of _ (by decide +kernel)) ggX9_takeOnly_X9_takeNumber
set_option maxRecDepth 20000 in
theorem ggX9_takeOnly_X9_has : GoodIn wsX9_takeOnly wsX9_has := goodIn_r _ [30] (by decide +kernel) (by decide +kernel)
set_option maxRecDepth 20000 in
theorem gX9_takeOnly_X9_has : GoodIn wsX9_takeOnly (va_wsS RX9 190 yX9_has wsX9_has) := goodIn_app (goodIn_of _ (by decide +kernel)) ggX9_takeOnly_X9_has
set_option maxRecDepth 20000 in
theorem ggX9_takeOnly_X9_breaks : GoodIn wsX9_takeOnly wsX9_breaks := goodIn_r _ [26, 27, 35, 36, 37, 38, 39, 40, 41, 42, 43, 44, 45, 46, 47, 48, 49, 50, 51, 52, 53, 54, 55, 56, 57, 58, 59, 60, 61, 62, 63, 64, 65, 66, 67, 68, 69, 70, 71, 72, 73, 74, 75, 76, 77, 78, 79, 80, 81, 82, 83, 84, 85, 86, 87, 88, 89] (by decide +kernel) (by decide +kernel)
set_option maxRecDepth 20000 in
theorem gX9_takeOnly_X9_breaks : GoodIn wsX9_takeOnly (wsV RX9 171 RX9 yX9_breaks wsX9_breaks) := goodIn_app (goodIn_of _ (by decide +kernel)) ggX9_takeOnly_X9_breaks
set_option maxRecDepth 20000 in
theorem ggX9_takeOnly_X9_isComma : GoodIn wsX9_takeOnly wsX9_isComma := goodIn_r _ [34, 12, 16, 17, 18, 8, 19, 13, 14, 35, 36, 37, 38, 39, 40, 41, 42, 43, 44, 45, 46, 47, 48, 49, 50, 51, 52, 53, 54, 55, 56, 57, 58, 59, 60, 61, 62, 63, 64, 65, 66, 67, 68, 69, 70, 71, 72, 73, 74, 75, 76, 77, 78, 79, 80, 81, 82, 83, 84, 85, 86, 87, 88, 89] (by decide +kernel) (by decide +kernel)
set_option maxRecDepth 20000 in
theorem gX9_takeOnly_X9_isComma : GoodIn wsX9_takeOnly (wsV RX9 197 RX9 yX9_isComma wsX9_isComma) := goodIn_app (goodIn_of _ (by decide +kernel)) ggX9_takeOnly_X9_isComma
theorem dX9_takeOnly_0 : decode cX9_takeOnly 0 = .ok (.aload_n 0, 1) := by decide +kernel
theorem dX9_takeOnly_1 : decode cX9_takeOnly 1 = .ok (.iconst 0, 1) := by decide +kernel
theorem dX9_takeOnly_2 : decode cX9_takeOnly 2 = .ok (.putfield 187, 3) := by decide +kernel
theorem dX9_takeOnly_5 : decode cX9_takeOnly 5 = .ok (.iconst 1, 1) := by decide +kernel
theorem dX9_takeOnly_6 : decode cX9_takeOnly 6 = .ok (.istore_n 1, 1) := by decide +kernel
theorem dX9_takeOnly_7 : decode cX9_takeOnly 7 = .ok (.iload_n 1, 1) := by decide +kernel
theorem dX9_takeOnly_8 : decode cX9_takeOnly 8 = .ok (.ifCond .eq 71, 3) := by decide +kernel
theorem dX9_takeOnly_11 : decode cX9_takeOnly 11 = .ok (.aload_n 0, 1) := by decide +kernel
theorem dX9_takeOnly_12 : decode cX9_takeOnly 12 = .ok (.iconst 0, 1) := by decide +kernel
theorem dX9_takeOnly_13 : decode cX9_takeOnly 13 = .ok (.iconst 3, 1) := by decide +kernel
theorem dX9_takeOnly_14 : decode cX9_takeOnly 14 = .ok (.invokevirtual 184, 3) := by decide +kernel
theorem dX9_takeOnly_17 : decode cX9_takeOnly 17 = .ok (.istore_n 2, 1) := by decide +kernel
theorem dX9_takeOnly_18 : decode cX9_takeOnly 18 = .ok (.iload_n 2, 1) := by decide +kernel
theorem dX9_takeOnly_19 : decode cX9_takeOnly 19 = .ok (.ifCond .ne 29, 3) := by decide +kernel
theorem dX9_takeOnly_22 : decode cX9_takeOnly 22 = .ok (.aload_n 0, 1) := by decide +kernel
theorem dX9_takeOnly_23 : decode cX9_takeOnly 23 = .ok (.getfield 187, 3) := by decide +kernel
theorem dX9_takeOnly_26 : decode cX9_takeOnly 26 = .ok (.aload_n 0, 1) := by decide +kernel
theorem dX9_takeOnly_27 : decode cX9_takeOnly 27 = .ok (.getfield 178, 3) := by decide +kernel
theorem dX9_takeOnly_30 : decode cX9_takeOnly 30 = .ok (.invokestatic 190, 3) := by decide +kernel
theorem dX9_takeOnly_33 : decode cX9_takeOnly 33 = .ok (.ifCond .eq 15, 3) := by decide +kernel
theorem dX9_takeOnly_36 : decode cX9_takeOnly 36 = .ok (.aload_n 0, 1) := by decide +kernel
theorem dX9_takeOnly_37 : decode cX9_takeOnly 37 = .ok (.iconst 4, 1) := by decide +kernel
theorem dX9_takeOnly_38 : decode cX9_takeOnly 38 = .ok (.aload_n 0, 1) := by decide +kernel
theorem dX9_takeOnly_39 : decode cX9_takeOnly 39 = .ok (.getfield 175, 3) := by decide +kernel
theorem dX9_takeOnly_42 : decode cX9_takeOnly 42 = .ok (.invokevirtual 171, 3) := by decide +kernel
theorem dX9_takeOnly_45 : decode cX9_takeOnly 45 = .ok (.goto 4, 3) := by decide +kernel
theorem dX9_takeOnly_48 : decode cX9_takeOnly 48 = .ok (.iload_n 2, 1) := by decide +kernel
theorem dX9_takeOnly_49 : decode cX9_takeOnly 49 = .ok (.istore_n 2, 1) := by decide +kernel
theorem dX9_takeOnly_50 : decode cX9_takeOnly 50 = .ok (.iload_n 2, 1) := by decide +kernel
theorem dX9_takeOnly_51 : decode cX9_takeOnly 51 = .ok (.ifCond .le 5, 3) := by decide +kernel
theorem dX9_takeOnly_54 : decode cX9_takeOnly 54 = .ok (.iload_n 2, 1) := by decide +kernel
theorem dX9_takeOnly_55 : decode cX9_takeOnly 55 = .ok (.ireturn, 1) := by decide +kernel
theorem dX9_takeOnly_56 : decode cX9_takeOnly 56 = .ok (.aload_n 0, 1) := by decide +kernel
theorem dX9_takeOnly_57 : decode cX9_takeOnly 57 = .ok (.dup, 1) := by decide +kernel
theorem dX9_takeOnly_58 : decode cX9_takeOnly 58 = .ok (.getfield 187, 3) := by decide +kernel
theorem dX9_takeOnly_61 : decode cX9_takeOnly 61 = .ok (.iconst 1, 1) := by decide +kernel
theorem dX9_takeOnly_62 : decode cX9_takeOnly 62 = .ok (.aload_n 0, 1) := by decide +kernel
theorem dX9_takeOnly_63 : decode cX9_takeOnly 63 = .ok (.getfield 178, 3) := by decide +kernel
theorem dX9_takeOnly_66 : decode cX9_takeOnly 66 = .ok (.ishl, 1) := by decide +kernel
theorem dX9_takeOnly_67 : decode cX9_takeOnly 67 = .ok (.ior, 1) := by decide +kernel
theorem dX9_takeOnly_68 : decode cX9_takeOnly 68 = .ok (.putfield 187, 3) := by decide +kernel
theorem dX9_takeOnly_71 : decode cX9_takeOnly 71 = .ok (.aload_n 0, 1) := by decide +kernel
theorem dX9_takeOnly_72 : decode cX9_takeOnly 72 = .ok (.invokevirtual 197, 3) := by decide +kernel
theorem dX9_takeOnly_75 : decode cX9_takeOnly 75 = .ok (.istore_n 1, 1) := by decide +kernel
theorem dX9_takeOnly_76 : decode cX9_takeOnly 76 = .ok (.goto (-69), 3) := by decide +kernel
theorem dX9_takeOnly_79 : decode cX9_takeOnly 79 = .ok (.aload_n 0, 1) := by decide +kernel
theorem dX9_takeOnly_80 : decode cX9_takeOnly 80 = .ok (.aload_n 0, 1) := by decide +kernel
theorem dX9_takeOnly_81 : decode cX9_takeOnly 81 = .ok (.getfield 187, 3) := by decide +kernel
theorem dX9_takeOnly_84 : decode cX9_takeOnly 84 = .ok (.putfield 354, 3) := by decide +kernel
theorem dX9_takeOnly_87 : decode cX9_takeOnly 87 = .ok (.iconst 0, 1) := by decide +kernel
theorem dX9_takeOnly_88 : decode cX9_takeOnly 88 = .ok (.ireturn, 1) := by decide +kernel
set_option maxRecDepth 20000 in
theorem ggX9_takeRule_X9_readWord : GoodIn wsX9_takeRule wsX9_readWord := goodIn_r _ [12, 1, 5, 6, 13, 14, 15, 16, 17, 18, 19, 20, 21, 22, 23, 11, 24, 25, 26, 27, 70, 71, 72, 73, 74, 75, 76, 77, 78, 79, 80, 81, 82, 83, 84, 85, 86, 87, 88, 89, 90, 91, 92, 93, 94, 95, 96, 97, 98, 99, 100, 101, 102, 103, 104, 105, 106, 107, 108, 109, 110, 111, 112, 113, 114, 115, 116, 117, 118, 119, 120, 121, 122, 123, 124] (by decide +kernel) (by decide +kernel)
set_option maxRecDepth 20000 in
theorem gX9_takeRule_X9_readWord : GoodIn wsX9_takeRule (wsV RX9 204 RX9 yX9_readWord wsX9_readWord) := goodIn_app (goodIn_of _ (by decide +kernel)) ggX9_takeRule_X9_readWord
set_option maxRecDepth 20000 in
theorem ggX9_takeRule_X9_code : GoodIn wsX9_takeRule wsX9_code := goodIn_r _ [30, 19, 20] (by decide +kernel) (by decide +kernel)
set_option maxRecDepth 20000 in
theorem gX9_takeRule_X9_code : GoodIn wsX9_takeRule (va_wsS RX9 207 yX9_code wsX9_code) := goodIn_app (goodIn_of _ (by decide +kernel)) ggX9_takeRule_X9_code
set_option maxRecDepth 20000 in
theorem ggX9_takeRule_X9_longer : GoodIn wsX9_takeRule wsX9_longer := goodIn_r _ [33, 19, 20] (by decide +kernel) (by decide +kernel)
set_option maxRecDepth 20000 in
theorem gX9_takeRule_X9_longer : GoodIn wsX9_takeRule (va_wsS RX9 211 yX9_longer wsX9_longer) := goodIn_app (goodIn_of _ (by decide +kernel)) ggX9_takeRule_X9_longer
set_option maxRecDepth 20000 in
theorem ggX9_takeRule_X9_breaks : GoodIn wsX9_takeRule wsX9_breaks := goodIn_r _ [37, 38, 70, 71, 72, 73, 74, 75, 76, 77, 78, 79, 80, 81, 82, 83, 84, 85, 86, 87, 88, 89, 90, 91, 92, 93, 94, 95, 96, 97, 98, 99, 100, 101, 102, 103, 104, 105, 106, 107, 108, 109, 110, 111, 112, 113, 114, 115, 116, 117, 118, 119, 120, 121, 122, 123, 124] (by decide +kernel) (by decide +kernel)
set_option maxRecDepth 20000 in
theorem gX9_takeRule_X9_breaks : GoodIn wsX9_takeRule (wsV RX9 171 RX9 yX9_breaks wsX9_breaks) := goodIn_app (goodIn_of _ (by decide +kernel)) ggX9_takeRule_X9_breaks
set_option maxRecDepth 20000 in
theorem ggX9_takeRule_X9_takeFreeze : GoodIn wsX9_takeRule wsX9_takeFreeze := goodIn_r _ [42, 43, 5, 6, 7, 44, 45, 34, 35, 36, 11, 37, 38, 46, 47, 48, 49, 50, 51, 52, 13, 14, 53, 21, 22, 23, 24, 25, 26, 27, 70, 71, 72, 73, 74, 75, 76, 77, 78, 79, 80, 81, 82, 83, 84, 85, 86, 87, 88, 89, 90, 91, 92, 93, 94, 95, 96, 97, 98, 99, 100, 101, 102, 103, 104, 105, 106, 107, 108, 109, 110, 111, 112, 113, 114, 115, 116, 117, 118, 119, 120, 121, 122, 123, 124] (by decide +kernel) (by decide +kernel)
set_option maxRecDepth 20000 in
theorem gX9_takeRule_X9_takeFreeze : GoodIn wsX9_takeRule (wsV RX9 363 RX9 yX9_takeFreeze wsX9_takeFreeze) := goodIn_app (goodIn_of _ (by decide +kernel)) ggX9_takeRule_X9_takeFreeze
set_option maxRecDepth 20000 in
theorem ggX9_takeRule_X9_takeOnly : GoodIn wsX9_takeRule wsX9_takeOnly := goodIn_r _ [57, 58, 7, 52, 4, 46, 47, 48, 11, 49, 50, 51, 5, 13, 14, 53, 21, 22, 23, 24, 25, 26, 27, 34, 35, 36, 37, 38, 59, 60, 61, 62, 63, 64, 65, 70, 71, 72, 73, 74, 75, 76, 77, 78, 79, 80, 81, 82, 83, 84, 85, 86, 87, 88, 89, 90, 91, 92, 93, 94, 95, 96, 97, 98, 99, 100, 101, 102, 103, 104, 105, 106, 107, 108, 109, 110, 111, 112, 113, 114, 115, 116, 117, 118, 119, 120, 121, 122, 123, 124] (by decide +kernel) (by decide +kernel)
set_option maxRecDepth 20000 in
theorem gX9_takeRule_X9_takeOnly : GoodIn wsX9_takeRule (wsV RX9 366 RX9 yX9_takeOnly wsX9_takeOnly) := goodIn_app (goodIn_of _ (by decide +kernel)) ggX9_takeRule_X9_takeOnly
set_option maxRecDepth 20000 in
theorem ggX9_takeRule_X9_takeNumber : GoodIn wsX9_takeRule wsX9_takeNumber := goodIn_r _ [49, 50, 51, 5, 52, 7, 13, 14, 53, 21, 22, 23, 11, 24, 25, 26, 27, 34, 35, 36, 37, 38, 70, 71, 72, 73, 74, 75, 76, 77, 78, 79, 80, 81, 82, 83, 84, 85, 86, 87, 88, 89, 90, 91, 92, 93, 94, 95, 96, 97, 98, 99, 100, 101, 102, 103, 104, 105, 106, 107, 108, 109, 110, 111, 112, 113, 114, 115, 116, 117, 118, 119, 120, 121, 122, 123, 124] (by decide +kernel) (by decide +kernel)
set_option maxRecDepth 20000 in
theorem gX9_takeRule_X9_takeNumber : GoodIn wsX9_takeRule (wsV RX9 184 RX9 yX9_takeNumber wsX9_takeNumber) := goodIn_app (goodIn_of _ (by decide +kernel)) ggX9_takeRule_X9_takeNumber
set_option maxRecDepth 20000 in
theorem ggX9_takeRule_X9_takeStop : GoodIn wsX9_takeRule wsX9_takeStop := goodIn_r _ [69, 5, 21, 22, 23, 11, 24, 13, 14, 34, 35, 36, 37, 38, 70, 71, 72, 73, 74, 75, 76, 77, 78, 79, 80, 81, 82, 83, 84, 85, 86, 87, 88, 89, 90, 91, 92, 93, 94, 95, 96, 97, 98, 99, 100, 101, 102, 103, 104, 105, 106, 107, 108, 109, 110, 111, 112, 113, 114, 115, 116, 117, 118, 119, 120, 121, 122, 123, 124] (by decide +kernel) (by decide +kernel)
set_option maxRecDepth 20000 in
theorem gX9_takeRule_X9_takeStop : GoodIn wsX9_takeRule (wsV RX9 222 RX9 yX9_takeStop wsX9_takeStop) := goodIn_app (goodIn_of _ (by decide +kernel)) ggX9_takeRule_X9_takeStop
theorem dX9_takeRule_0 : decode cX9_takeRule 0 = .ok (.aload_n 0, 1) := by decide +kernel
theorem dX9_takeRule_1 : decode cX9_takeRule 1 = .ok (.invokevirtual 204, 3) := by decide +kernel
theorem dX9_takeRule_4 : decode cX9_takeRule 4 = .ok (.bipush 102, 2) := by decide +kernel
theorem dX9_takeRule_6 : decode cX9_takeRule 6 = .ok (.bipush 114, 2) := by decide +kernel
theorem dX9_takeRule_8 : decode cX9_takeRule 8 = .ok (.bipush 101, 2) := by decide +kernel
theorem dX9_takeRule_10 : decode cX9_takeRule 10 = .ok (.bipush 101, 2) := by decide +kernel
theorem dX9_takeRule_12 : decode cX9_takeRule 12 = .ok (.invokestatic 207, 3) := by decide +kernel
theorem dX9_takeRule_15 : decode cX9_takeRule 15 = .ok (.bipush 122, 2) := by decide +kernel
theorem dX9_takeRule_17 : decode cX9_takeRule 17 = .ok (.invokestatic 211, 3) := by decide +kernel
theorem dX9_takeRule_20 : decode cX9_takeRule 20 = .ok (.bipush 101, 2) := by decide +kernel
theorem dX9_takeRule_22 : decode cX9_takeRule 22 = .ok (.invokestatic 211, 3) := by decide +kernel
theorem dX9_takeRule_25 : decode cX9_takeRule 25 = .ok (.lstore_n 1, 1) := by decide +kernel
theorem dX9_takeRule_26 : decode cX9_takeRule 26 = .ok (.aload_n 0, 1) := by decide +kernel
theorem dX9_takeRule_27 : decode cX9_takeRule 27 = .ok (.getfield 148, 3) := by decide +kernel
theorem dX9_takeRule_30 : decode cX9_takeRule 30 = .ok (.lload_n 1, 1) := by decide +kernel
theorem dX9_takeRule_31 : decode cX9_takeRule 31 = .ok (.lcmp, 1) := by decide +kernel
theorem dX9_takeRule_32 : decode cX9_takeRule 32 = .ok (.ifCond .ne 7, 3) := by decide +kernel
theorem dX9_takeRule_35 : decode cX9_takeRule 35 = .ok (.iconst 0, 1) := by decide +kernel
theorem dX9_takeRule_36 : decode cX9_takeRule 36 = .ok (.goto 78, 3) := by decide +kernel
theorem dX9_takeRule_39 : decode cX9_takeRule 39 = .ok (.aload_n 0, 1) := by decide +kernel
theorem dX9_takeRule_40 : decode cX9_takeRule 40 = .ok (.getfield 148, 3) := by decide +kernel
theorem dX9_takeRule_43 : decode cX9_takeRule 43 = .ok (.bipush 114, 2) := by decide +kernel
theorem dX9_takeRule_45 : decode cX9_takeRule 45 = .ok (.bipush 105, 2) := by decide +kernel
theorem dX9_takeRule_47 : decode cX9_takeRule 47 = .ok (.bipush 115, 2) := by decide +kernel
theorem dX9_takeRule_49 : decode cX9_takeRule 49 = .ok (.bipush 107, 2) := by decide +kernel
theorem dX9_takeRule_51 : decode cX9_takeRule 51 = .ok (.invokestatic 207, 3) := by decide +kernel
theorem dX9_takeRule_54 : decode cX9_takeRule 54 = .ok (.lcmp, 1) := by decide +kernel
theorem dX9_takeRule_55 : decode cX9_takeRule 55 = .ok (.ifCond .ne 7, 3) := by decide +kernel
theorem dX9_takeRule_58 : decode cX9_takeRule 58 = .ok (.iconst 1, 1) := by decide +kernel
theorem dX9_takeRule_59 : decode cX9_takeRule 59 = .ok (.goto 55, 3) := by decide +kernel
theorem dX9_takeRule_62 : decode cX9_takeRule 62 = .ok (.aload_n 0, 1) := by decide +kernel
theorem dX9_takeRule_63 : decode cX9_takeRule 63 = .ok (.getfield 148, 3) := by decide +kernel
theorem dX9_takeRule_66 : decode cX9_takeRule 66 = .ok (.bipush 119, 2) := by decide +kernel
theorem dX9_takeRule_68 : decode cX9_takeRule 68 = .ok (.bipush 101, 2) := by decide +kernel
theorem dX9_takeRule_70 : decode cX9_takeRule 70 = .ok (.bipush 105, 2) := by decide +kernel
theorem dX9_takeRule_72 : decode cX9_takeRule 72 = .ok (.bipush 103, 2) := by decide +kernel
theorem dX9_takeRule_74 : decode cX9_takeRule 74 = .ok (.invokestatic 207, 3) := by decide +kernel
theorem dX9_takeRule_77 : decode cX9_takeRule 77 = .ok (.bipush 104, 2) := by decide +kernel
theorem dX9_takeRule_79 : decode cX9_takeRule 79 = .ok (.invokestatic 211, 3) := by decide +kernel
theorem dX9_takeRule_82 : decode cX9_takeRule 82 = .ok (.lcmp, 1) := by decide +kernel
theorem dX9_takeRule_83 : decode cX9_takeRule 83 = .ok (.ifCond .ne 7, 3) := by decide +kernel
theorem dX9_takeRule_86 : decode cX9_takeRule 86 = .ok (.iconst 2, 1) := by decide +kernel
theorem dX9_takeRule_87 : decode cX9_takeRule 87 = .ok (.goto 27, 3) := by decide +kernel
theorem dX9_takeRule_90 : decode cX9_takeRule 90 = .ok (.aload_n 0, 1) := by decide +kernel
theorem dX9_takeRule_91 : decode cX9_takeRule 91 = .ok (.getfield 148, 3) := by decide +kernel
theorem dX9_takeRule_94 : decode cX9_takeRule 94 = .ok (.bipush 111, 2) := by decide +kernel
theorem dX9_takeRule_96 : decode cX9_takeRule 96 = .ok (.bipush 110, 2) := by decide +kernel
theorem dX9_takeRule_98 : decode cX9_takeRule 98 = .ok (.bipush 108, 2) := by decide +kernel
theorem dX9_takeRule_100 : decode cX9_takeRule 100 = .ok (.bipush 121, 2) := by decide +kernel
theorem dX9_takeRule_102 : decode cX9_takeRule 102 = .ok (.invokestatic 207, 3) := by decide +kernel
theorem dX9_takeRule_105 : decode cX9_takeRule 105 = .ok (.lcmp, 1) := by decide +kernel
theorem dX9_takeRule_106 : decode cX9_takeRule 106 = .ok (.ifCond .ne 7, 3) := by decide +kernel
theorem dX9_takeRule_109 : decode cX9_takeRule 109 = .ok (.iconst 3, 1) := by decide +kernel
theorem dX9_takeRule_110 : decode cX9_takeRule 110 = .ok (.goto 4, 3) := by decide +kernel
theorem dX9_takeRule_113 : decode cX9_takeRule 113 = .ok (.iconst (-1), 1) := by decide +kernel
theorem dX9_takeRule_114 : decode cX9_takeRule 114 = .ok (.istore_n 3, 1) := by decide +kernel
theorem dX9_takeRule_115 : decode cX9_takeRule 115 = .ok (.iload_n 3, 1) := by decide +kernel
theorem dX9_takeRule_116 : decode cX9_takeRule 116 = .ok (.iconst 1, 1) := by decide +kernel
theorem dX9_takeRule_117 : decode cX9_takeRule 117 = .ok (.if_icmp .ne 10, 3) := by decide +kernel
theorem dX9_takeRule_120 : decode cX9_takeRule 120 = .ok (.aload_n 0, 1) := by decide +kernel
theorem dX9_takeRule_121 : decode cX9_takeRule 121 = .ok (.getfield 357, 3) := by decide +kernel
theorem dX9_takeRule_124 : decode cX9_takeRule 124 = .ok (.ifCond .ge 27, 3) := by decide +kernel
theorem dX9_takeRule_127 : decode cX9_takeRule 127 = .ok (.iload_n 3, 1) := by decide +kernel
theorem dX9_takeRule_128 : decode cX9_takeRule 128 = .ok (.iconst 2, 1) := by decide +kernel
theorem dX9_takeRule_129 : decode cX9_takeRule 129 = .ok (.if_icmp .ne 10, 3) := by decide +kernel
theorem dX9_takeRule_132 : decode cX9_takeRule 132 = .ok (.aload_n 0, 1) := by decide +kernel
theorem dX9_takeRule_133 : decode cX9_takeRule 133 = .ok (.getfield 360, 3) := by decide +kernel
theorem dX9_takeRule_136 : decode cX9_takeRule 136 = .ok (.ifCond .ge 15, 3) := by decide +kernel
theorem dX9_takeRule_139 : decode cX9_takeRule 139 = .ok (.iload_n 3, 1) := by decide +kernel
theorem dX9_takeRule_140 : decode cX9_takeRule 140 = .ok (.iconst 3, 1) := by decide +kernel
theorem dX9_takeRule_141 : decode cX9_takeRule 141 = .ok (.if_icmp .ne 14, 3) := by decide +kernel
theorem dX9_takeRule_144 : decode cX9_takeRule 144 = .ok (.aload_n 0, 1) := by decide +kernel
theorem dX9_takeRule_145 : decode cX9_takeRule 145 = .ok (.getfield 354, 3) := by decide +kernel
theorem dX9_takeRule_148 : decode cX9_takeRule 148 = .ok (.ifCond .eq 7, 3) := by decide +kernel
theorem dX9_takeRule_151 : decode cX9_takeRule 151 = .ok (.iconst 1, 1) := by decide +kernel
theorem dX9_takeRule_152 : decode cX9_takeRule 152 = .ok (.goto 4, 3) := by decide +kernel
theorem dX9_takeRule_155 : decode cX9_takeRule 155 = .ok (.iconst 0, 1) := by decide +kernel
theorem dX9_takeRule_156 : decode cX9_takeRule 156 = .ok (.istore 4, 2) := by decide +kernel
theorem dX9_takeRule_158 : decode cX9_takeRule 158 = .ok (.iload_n 3, 1) := by decide +kernel
theorem dX9_takeRule_159 : decode cX9_takeRule 159 = .ok (.ifCond .lt 8, 3) := by decide +kernel
theorem dX9_takeRule_162 : decode cX9_takeRule 162 = .ok (.iload 4, 2) := by decide +kernel
theorem dX9_takeRule_164 : decode cX9_takeRule 164 = .ok (.ifCond .eq 21, 3) := by decide +kernel
theorem dX9_takeRule_167 : decode cX9_takeRule 167 = .ok (.aload_n 0, 1) := by decide +kernel
theorem dX9_takeRule_168 : decode cX9_takeRule 168 = .ok (.iload_n 3, 1) := by decide +kernel
theorem dX9_takeRule_169 : decode cX9_takeRule 169 = .ok (.ifCond .ge 7, 3) := by decide +kernel
theorem dX9_takeRule_172 : decode cX9_takeRule 172 = .ok (.iconst 1, 1) := by decide +kernel
theorem dX9_takeRule_173 : decode cX9_takeRule 173 = .ok (.goto 4, 3) := by decide +kernel
theorem dX9_takeRule_176 : decode cX9_takeRule 176 = .ok (.iconst 3, 1) := by decide +kernel
theorem dX9_takeRule_177 : decode cX9_takeRule 177 = .ok (.aload_n 0, 1) := by decide +kernel
theorem dX9_takeRule_178 : decode cX9_takeRule 178 = .ok (.getfield 141, 3) := by decide +kernel
theorem dX9_takeRule_181 : decode cX9_takeRule 181 = .ok (.invokevirtual 171, 3) := by decide +kernel
theorem dX9_takeRule_184 : decode cX9_takeRule 184 = .ok (.ireturn, 1) := by decide +kernel
theorem dX9_takeRule_185 : decode cX9_takeRule 185 = .ok (.iconst 0, 1) := by decide +kernel
theorem dX9_takeRule_186 : decode cX9_takeRule 186 = .ok (.istore 5, 2) := by decide +kernel
theorem dX9_takeRule_188 : decode cX9_takeRule 188 = .ok (.iload_n 3, 1) := by decide +kernel
theorem dX9_takeRule_189 : decode cX9_takeRule 189 = .ok (.ifCond .ne 12, 3) := by decide +kernel
theorem dX9_takeRule_192 : decode cX9_takeRule 192 = .ok (.aload_n 0, 1) := by decide +kernel
theorem dX9_takeRule_193 : decode cX9_takeRule 193 = .ok (.invokevirtual 363, 3) := by decide +kernel
theorem dX9_takeRule_196 : decode cX9_takeRule 196 = .ok (.istore 5, 2) := by decide +kernel
theorem dX9_takeRule_198 : decode cX9_takeRule 198 = .ok (.goto 72, 3) := by decide +kernel
theorem dX9_takeRule_201 : decode cX9_takeRule 201 = .ok (.aload_n 0, 1) := by decide +kernel
theorem dX9_takeRule_202 : decode cX9_takeRule 202 = .ok (.aload_n 0, 1) := by decide +kernel
theorem dX9_takeRule_203 : decode cX9_takeRule 203 = .ok (.getfield 152, 3) := by decide +kernel
theorem dX9_takeRule_206 : decode cX9_takeRule 206 = .ok (.putfield 141, 3) := by decide +kernel
theorem dX9_takeRule_209 : decode cX9_takeRule 209 = .ok (.iload_n 3, 1) := by decide +kernel
theorem dX9_takeRule_210 : decode cX9_takeRule 210 = .ok (.iconst 3, 1) := by decide +kernel
theorem dX9_takeRule_211 : decode cX9_takeRule 211 = .ok (.if_icmp .ne 10, 3) := by decide +kernel
theorem dX9_takeRule_214 : decode cX9_takeRule 214 = .ok (.aload_n 0, 1) := by decide +kernel
theorem dX9_takeRule_215 : decode cX9_takeRule 215 = .ok (.invokevirtual 366, 3) := by decide +kernel
theorem dX9_takeRule_218 : decode cX9_takeRule 218 = .ok (.goto 10, 3) := by decide +kernel
theorem dX9_takeRule_221 : decode cX9_takeRule 221 = .ok (.aload_n 0, 1) := by decide +kernel
theorem dX9_takeRule_222 : decode cX9_takeRule 222 = .ok (.iconst 0, 1) := by decide +kernel
theorem dX9_takeRule_223 : decode cX9_takeRule 223 = .ok (.bipush 99, 2) := by decide +kernel
theorem dX9_takeRule_225 : decode cX9_takeRule 225 = .ok (.invokevirtual 184, 3) := by decide +kernel
theorem dX9_takeRule_228 : decode cX9_takeRule 228 = .ok (.istore 5, 2) := by decide +kernel
theorem dX9_takeRule_230 : decode cX9_takeRule 230 = .ok (.aload_n 0, 1) := by decide +kernel
theorem dX9_takeRule_231 : decode cX9_takeRule 231 = .ok (.iload_n 3, 1) := by decide +kernel
theorem dX9_takeRule_232 : decode cX9_takeRule 232 = .ok (.iconst 1, 1) := by decide +kernel
theorem dX9_takeRule_233 : decode cX9_takeRule 233 = .ok (.if_icmp .ne 10, 3) := by decide +kernel
theorem dX9_takeRule_236 : decode cX9_takeRule 236 = .ok (.aload_n 0, 1) := by decide +kernel
theorem dX9_takeRule_237 : decode cX9_takeRule 237 = .ok (.getfield 178, 3) := by decide +kernel
theorem dX9_takeRule_240 : decode cX9_takeRule 240 = .ok (.goto 7, 3) := by decide +kernel
theorem dX9_takeRule_243 : decode cX9_takeRule 243 = .ok (.aload_n 0, 1) := by decide +kernel
theorem dX9_takeRule_244 : decode cX9_takeRule 244 = .ok (.getfield 357, 3) := by decide +kernel
theorem dX9_takeRule_247 : decode cX9_takeRule 247 = .ok (.putfield 357, 3) := by decide +kernel
theorem dX9_takeRule_250 : decode cX9_takeRule 250 = .ok (.aload_n 0, 1) := by decide +kernel
theorem dX9_takeRule_251 : decode cX9_takeRule 251 = .ok (.iload_n 3, 1) := by decide +kernel
theorem dX9_takeRule_252 : decode cX9_takeRule 252 = .ok (.iconst 2, 1) := by decide +kernel
theorem dX9_takeRule_253 : decode cX9_takeRule 253 = .ok (.if_icmp .ne 10, 3) := by decide +kernel
theorem dX9_takeRule_256 : decode cX9_takeRule 256 = .ok (.aload_n 0, 1) := by decide +kernel
theorem dX9_takeRule_257 : decode cX9_takeRule 257 = .ok (.getfield 178, 3) := by decide +kernel
theorem dX9_takeRule_260 : decode cX9_takeRule 260 = .ok (.goto 7, 3) := by decide +kernel
theorem dX9_takeRule_263 : decode cX9_takeRule 263 = .ok (.aload_n 0, 1) := by decide +kernel
theorem dX9_takeRule_264 : decode cX9_takeRule 264 = .ok (.getfield 360, 3) := by decide +kernel
theorem dX9_takeRule_267 : decode cX9_takeRule 267 = .ok (.putfield 360, 3) := by decide +kernel
theorem dX9_takeRule_270 : decode cX9_takeRule 270 = .ok (.iload 5, 2) := by decide +kernel
theorem dX9_takeRule_272 : decode cX9_takeRule 272 = .ok (.ifCond .le 8, 3) := by decide +kernel
theorem dX9_takeRule_275 : decode cX9_takeRule 275 = .ok (.iload 5, 2) := by decide +kernel
theorem dX9_takeRule_277 : decode cX9_takeRule 277 = .ok (.goto 7, 3) := by decide +kernel
theorem dX9_takeRule_280 : decode cX9_takeRule 280 = .ok (.aload_n 0, 1) := by decide +kernel
theorem dX9_takeRule_281 : decode cX9_takeRule 281 = .ok (.invokevirtual 222, 3) := by decide +kernel
theorem dX9_takeRule_284 : decode cX9_takeRule 284 = .ok (.ireturn, 1) := by decide +kernel
set_option maxRecDepth 20000 in
theorem ggX9_policy_X9_here : GoodIn wsX9_policy wsX9_here := goodIn_r _ [21, 3, 1, 22, 80, 81, 82, 83, 84, 85, 86, 87, 88, 89, 90, 91, 92, 93, 94, 95, 96, 97, 98, 99, 100, 101, 102, 103, 104, 105, 106, 107, 108, 109, 110, 111, 112, 113, 114, 115, 116, 117, 118, 119, 120, 121, 122, 123, 124, 125, 126, 127, 128, 129, 130, 131, 132, 133, 134] (by decide +kernel) (by decide +kernel)
set_option maxRecDepth 20000 in
theorem gX9_policy_X9_here : GoodIn wsX9_policy (wsV RX9 144 RX9 yX9_here wsX9_here) := goodIn_app (goodIn_of _ (by decide +kernel)) ggX9_policy_X9_here
set_option maxRecDepth 20000 in
theorem ggX9_policy_X9_takeRule : GoodIn wsX9_policy wsX9_takeRule := goodIn_r _ [26, 27, 6, 7, 8, 3, 28, 29, 30, 31, 32, 20, 33, 1, 22, 34, 35, 36, 37, 38, 39, 17, 18, 19, 21, 40, 41, 42, 43, 44, 45, 46, 47, 48, 49, 50, 51, 52, 2, 53, 54, 55, 56, 5, 11, 13, 57, 58, 59, 60, 61, 62, 63, 4, 64, 65, 66, 67, 68, 69, 70, 71, 72, 73, 74, 75, 76, 77, 78, 79, 80, 81, 82, 83, 84, 85, 86, 87, 88, 89, 90, 91, 92, 93, 94, 95, 96, 97, 98, 99, 100, 101, 102, 103, 104, 105, 106, 107, 108, 109, 110, 111, 112, 113, 114, 115, 116, 117, 118, 119, 120, 121, 122, 123, 124, 125, 126, 127, 128, 129, 130, 131, 132, 133, 134] (by decide +kernel) (by decide +kernel)
set_option maxRecDepth 20000 in
theorem gX9_policy_X9_takeRule : GoodIn wsX9_policy (wsV RX9 369 RX9 yX9_takeRule wsX9_takeRule) := goodIn_app (goodIn_of _ (by decide +kernel)) ggX9_policy_X9_takeRule
theorem dX9_policy_0 : decode cX9_policy 0 = .ok (.aload_n 0, 1) := by decide +kernel
theorem dX9_policy_1 : decode cX9_policy 1 = .ok (.getfield 136, 3) := by decide +kernel
theorem dX9_policy_4 : decode cX9_policy 4 = .ok (.bipush 120, 2) := by decide +kernel
theorem dX9_policy_6 : decode cX9_policy 6 = .ok (.if_icmp .le 7, 3) := by decide +kernel
theorem dX9_policy_9 : decode cX9_policy 9 = .ok (.sipush (-1003), 3) := by decide +kernel
theorem dX9_policy_12 : decode cX9_policy 12 = .ok (.ireturn, 1) := by decide +kernel
theorem dX9_policy_13 : decode cX9_policy 13 = .ok (.aload_n 0, 1) := by decide +kernel
theorem dX9_policy_14 : decode cX9_policy 14 = .ok (.iconst (-1), 1) := by decide +kernel
theorem dX9_policy_15 : decode cX9_policy 15 = .ok (.putfield 55, 3) := by decide +kernel
theorem dX9_policy_18 : decode cX9_policy 18 = .ok (.aload_n 0, 1) := by decide +kernel
theorem dX9_policy_19 : decode cX9_policy 19 = .ok (.iconst 0, 1) := by decide +kernel
theorem dX9_policy_20 : decode cX9_policy 20 = .ok (.putfield 141, 3) := by decide +kernel
theorem dX9_policy_23 : decode cX9_policy 23 = .ok (.aload_n 0, 1) := by decide +kernel
theorem dX9_policy_24 : decode cX9_policy 24 = .ok (.iconst 3, 1) := by decide +kernel
theorem dX9_policy_25 : decode cX9_policy 25 = .ok (.putfield 181, 3) := by decide +kernel
theorem dX9_policy_28 : decode cX9_policy 28 = .ok (.aload_n 0, 1) := by decide +kernel
theorem dX9_policy_29 : decode cX9_policy 29 = .ok (.iconst 0, 1) := by decide +kernel
theorem dX9_policy_30 : decode cX9_policy 30 = .ok (.putfield 351, 3) := by decide +kernel
theorem dX9_policy_33 : decode cX9_policy 33 = .ok (.aload_n 0, 1) := by decide +kernel
theorem dX9_policy_34 : decode cX9_policy 34 = .ok (.iconst (-1), 1) := by decide +kernel
theorem dX9_policy_35 : decode cX9_policy 35 = .ok (.putfield 357, 3) := by decide +kernel
theorem dX9_policy_38 : decode cX9_policy 38 = .ok (.aload_n 0, 1) := by decide +kernel
theorem dX9_policy_39 : decode cX9_policy 39 = .ok (.iconst (-1), 1) := by decide +kernel
theorem dX9_policy_40 : decode cX9_policy 40 = .ok (.putfield 360, 3) := by decide +kernel
theorem dX9_policy_43 : decode cX9_policy 43 = .ok (.aload_n 0, 1) := by decide +kernel
theorem dX9_policy_44 : decode cX9_policy 44 = .ok (.iconst 0, 1) := by decide +kernel
theorem dX9_policy_45 : decode cX9_policy 45 = .ok (.putfield 354, 3) := by decide +kernel
theorem dX9_policy_48 : decode cX9_policy 48 = .ok (.iconst 0, 1) := by decide +kernel
theorem dX9_policy_49 : decode cX9_policy 49 = .ok (.istore_n 1, 1) := by decide +kernel
theorem dX9_policy_50 : decode cX9_policy 50 = .ok (.iconst 0, 1) := by decide +kernel
theorem dX9_policy_51 : decode cX9_policy 51 = .ok (.istore_n 2, 1) := by decide +kernel
theorem dX9_policy_52 : decode cX9_policy 52 = .ok (.iload_n 2, 1) := by decide +kernel
theorem dX9_policy_53 : decode cX9_policy 53 = .ok (.ifCond .ne 21, 3) := by decide +kernel
theorem dX9_policy_56 : decode cX9_policy 56 = .ok (.aload_n 0, 1) := by decide +kernel
theorem dX9_policy_57 : decode cX9_policy 57 = .ok (.invokevirtual 144, 3) := by decide +kernel
theorem dX9_policy_60 : decode cX9_policy 60 = .ok (.ifCond .lt 14, 3) := by decide +kernel
theorem dX9_policy_63 : decode cX9_policy 63 = .ok (.aload_n 0, 1) := by decide +kernel
theorem dX9_policy_64 : decode cX9_policy 64 = .ok (.invokevirtual 369, 3) := by decide +kernel
theorem dX9_policy_67 : decode cX9_policy 67 = .ok (.istore_n 2, 1) := by decide +kernel
theorem dX9_policy_68 : decode cX9_policy 68 = .ok (.iinc 1 1, 3) := by decide +kernel
theorem dX9_policy_71 : decode cX9_policy 71 = .ok (.goto (-19), 3) := by decide +kernel
theorem dX9_policy_74 : decode cX9_policy 74 = .ok (.aload_n 0, 1) := by decide +kernel
theorem dX9_policy_75 : decode cX9_policy 75 = .ok (.iconst 0, 1) := by decide +kernel
theorem dX9_policy_76 : decode cX9_policy 76 = .ok (.putfield 136, 3) := by decide +kernel
theorem dX9_policy_79 : decode cX9_policy 79 = .ok (.iload_n 2, 1) := by decide +kernel
theorem dX9_policy_80 : decode cX9_policy 80 = .ok (.ifCond .le 8, 3) := by decide +kernel
theorem dX9_policy_83 : decode cX9_policy 83 = .ok (.bipush (-10), 2) := by decide +kernel
theorem dX9_policy_85 : decode cX9_policy 85 = .ok (.iload_n 2, 1) := by decide +kernel
theorem dX9_policy_86 : decode cX9_policy 86 = .ok (.isub, 1) := by decide +kernel
theorem dX9_policy_87 : decode cX9_policy 87 = .ok (.ireturn, 1) := by decide +kernel
theorem dX9_policy_88 : decode cX9_policy 88 = .ok (.aload_n 0, 1) := by decide +kernel
theorem dX9_policy_89 : decode cX9_policy 89 = .ok (.aload_n 0, 1) := by decide +kernel
theorem dX9_policy_90 : decode cX9_policy 90 = .ok (.getfield 351, 3) := by decide +kernel
theorem dX9_policy_93 : decode cX9_policy 93 = .ok (.putfield 372, 3) := by decide +kernel
theorem dX9_policy_96 : decode cX9_policy 96 = .ok (.iconst 0, 1) := by decide +kernel
theorem dX9_policy_97 : decode cX9_policy 97 = .ok (.istore_n 3, 1) := by decide +kernel
theorem dX9_policy_98 : decode cX9_policy 98 = .ok (.iload_n 3, 1) := by decide +kernel
theorem dX9_policy_99 : decode cX9_policy 99 = .ok (.aload_n 0, 1) := by decide +kernel
theorem dX9_policy_100 : decode cX9_policy 100 = .ok (.getfield 372, 3) := by decide +kernel
theorem dX9_policy_103 : decode cX9_policy 103 = .ok (.if_icmp .ge 33, 3) := by decide +kernel
theorem dX9_policy_106 : decode cX9_policy 106 = .ok (.aload_n 0, 1) := by decide +kernel
theorem dX9_policy_107 : decode cX9_policy 107 = .ok (.getfield 89, 3) := by decide +kernel
theorem dX9_policy_110 : decode cX9_policy 110 = .ok (.iload_n 3, 1) := by decide +kernel
theorem dX9_policy_111 : decode cX9_policy 111 = .ok (.aload_n 0, 1) := by decide +kernel
theorem dX9_policy_112 : decode cX9_policy 112 = .ok (.getfield 101, 3) := by decide +kernel
theorem dX9_policy_115 : decode cX9_policy 115 = .ok (.iload_n 3, 1) := by decide +kernel
theorem dX9_policy_116 : decode cX9_policy 116 = .ok (.iaload, 1) := by decide +kernel
theorem dX9_policy_117 : decode cX9_policy 117 = .ok (.iastore, 1) := by decide +kernel
theorem dX9_policy_118 : decode cX9_policy 118 = .ok (.aload_n 0, 1) := by decide +kernel
theorem dX9_policy_119 : decode cX9_policy 119 = .ok (.getfield 92, 3) := by decide +kernel
theorem dX9_policy_122 : decode cX9_policy 122 = .ok (.iload_n 3, 1) := by decide +kernel
theorem dX9_policy_123 : decode cX9_policy 123 = .ok (.aload_n 0, 1) := by decide +kernel
theorem dX9_policy_124 : decode cX9_policy 124 = .ok (.getfield 104, 3) := by decide +kernel
theorem dX9_policy_127 : decode cX9_policy 127 = .ok (.iload_n 3, 1) := by decide +kernel
theorem dX9_policy_128 : decode cX9_policy 128 = .ok (.iaload, 1) := by decide +kernel
theorem dX9_policy_129 : decode cX9_policy 129 = .ok (.iastore, 1) := by decide +kernel
theorem dX9_policy_130 : decode cX9_policy 130 = .ok (.iinc 3 1, 3) := by decide +kernel
theorem dX9_policy_133 : decode cX9_policy 133 = .ok (.goto (-35), 3) := by decide +kernel
theorem dX9_policy_136 : decode cX9_policy 136 = .ok (.aload_n 0, 1) := by decide +kernel
theorem dX9_policy_137 : decode cX9_policy 137 = .ok (.aload_n 0, 1) := by decide +kernel
theorem dX9_policy_138 : decode cX9_policy 138 = .ok (.getfield 357, 3) := by decide +kernel
theorem dX9_policy_141 : decode cX9_policy 141 = .ok (.putfield 95, 3) := by decide +kernel
theorem dX9_policy_144 : decode cX9_policy 144 = .ok (.aload_n 0, 1) := by decide +kernel
theorem dX9_policy_145 : decode cX9_policy 145 = .ok (.aload_n 0, 1) := by decide +kernel
theorem dX9_policy_146 : decode cX9_policy 146 = .ok (.getfield 360, 3) := by decide +kernel
theorem dX9_policy_149 : decode cX9_policy 149 = .ok (.putfield 98, 3) := by decide +kernel
theorem dX9_policy_152 : decode cX9_policy 152 = .ok (.aload_n 0, 1) := by decide +kernel
theorem dX9_policy_153 : decode cX9_policy 153 = .ok (.aload_n 0, 1) := by decide +kernel
theorem dX9_policy_154 : decode cX9_policy 154 = .ok (.getfield 354, 3) := by decide +kernel
theorem dX9_policy_157 : decode cX9_policy 157 = .ok (.putfield 375, 3) := by decide +kernel
theorem dX9_policy_160 : decode cX9_policy 160 = .ok (.iload_n 1, 1) := by decide +kernel
theorem dX9_policy_161 : decode cX9_policy 161 = .ok (.ireturn, 1) := by decide +kernel
set_option maxRecDepth 20000 in
theorem ggX9_lets_X9_isLine : GoodIn wsX9_lets wsX9_isLine := goodIn_r _ [14, 15, 16, 17, 13, 18, 83, 84, 85, 86, 87, 88, 89, 90, 91, 92, 93, 94, 95, 96, 97, 98, 99, 100, 101, 102, 103, 104, 105, 106, 107, 108, 109, 110, 111, 112, 113, 114, 115, 116, 117, 118, 119, 120, 121, 122, 123, 124, 125, 126, 127, 128, 129, 130, 131, 132, 133, 134, 135, 136, 137] (by decide +kernel) (by decide +kernel)
set_option maxRecDepth 20000 in
theorem gX9_lets_X9_isLine : GoodIn wsX9_lets (wsV RX9 266 RX9 yX9_isLine wsX9_isLine) := goodIn_app (goodIn_of _ (by decide +kernel)) ggX9_lets_X9_isLine
set_option maxRecDepth 20000 in
theorem ggX9_lets_X9_isChange : GoodIn wsX9_lets wsX9_isChange := goodIn_r _ [22, 23, 16, 17, 13, 18, 83, 84, 85, 86, 87, 88, 89, 90, 91, 92, 93, 94, 95, 96, 97, 98, 99, 100, 101, 102, 103, 104, 105, 106, 107, 108, 109, 110, 111, 112, 113, 114, 115, 116, 117, 118, 119, 120, 121, 122, 123, 124, 125, 126, 127, 128, 129, 130, 131, 132, 133, 134, 135, 136, 137] (by decide +kernel) (by decide +kernel)
set_option maxRecDepth 20000 in
theorem gX9_lets_X9_isChange : GoodIn wsX9_lets (wsV RX9 243 RX9 yX9_isChange wsX9_isChange) := goodIn_app (goodIn_of _ (by decide +kernel)) ggX9_lets_X9_isChange
set_option maxRecDepth 20000 in
theorem ggX9_lets_X9_isDay : GoodIn wsX9_lets wsX9_isDay := goodIn_r _ [26, 27, 16, 17, 13, 18] (by decide +kernel) (by decide +kernel)
set_option maxRecDepth 20000 in
theorem gX9_lets_X9_isDay : GoodIn wsX9_lets (va_wsS RX9 317 yX9_isDay wsX9_isDay) := goodIn_app (goodIn_of _ (by decide +kernel)) ggX9_lets_X9_isDay
set_option maxRecDepth 20000 in
theorem ggX9_lets_X9_needsOf : GoodIn wsX9_lets wsX9_needsOf := goodIn_r _ [31, 5, 32, 33, 13, 34, 35, 36, 37, 38, 39, 40, 41, 42, 43, 44, 45, 46, 47, 48, 49, 50, 51, 52, 53, 54, 55, 56, 57, 58, 59, 60, 61, 62, 63, 23, 64, 65, 66, 67, 83, 84, 85, 86, 87, 88, 89, 90, 91, 92, 93, 94, 95, 96, 97, 98, 99, 100, 101, 102, 103, 104, 105, 106, 107, 108, 109, 110, 111, 112, 113, 114, 115, 116, 117, 118, 119, 120, 121, 122, 123, 124, 125, 126, 127, 128, 129, 130, 131, 132, 133, 134, 135, 136, 137] (by decide +kernel) (by decide +kernel)
set_option maxRecDepth 20000 in
theorem gX9_lets_X9_needsOf : GoodIn wsX9_lets (wsV RX9 295 RX9 yX9_needsOf wsX9_needsOf) := goodIn_app (goodIn_of _ (by decide +kernel)) ggX9_lets_X9_needsOf
set_option maxRecDepth 20000 in
theorem ggX9_lets_X9_has : GoodIn wsX9_lets wsX9_has := goodIn_r _ [34] (by decide +kernel) (by decide +kernel)
set_option maxRecDepth 20000 in
theorem gX9_lets_X9_has : GoodIn wsX9_lets (va_wsS RX9 190 yX9_has wsX9_has) := goodIn_app (goodIn_of _ (by decide +kernel)) ggX9_lets_X9_has
set_option maxRecDepth 20000 in
theorem ggX9_lets_X9_in : GoodIn wsX9_lets wsX9_in := goodIn_r _ [18] (by decide +kernel) (by decide +kernel)
set_option maxRecDepth 20000 in
theorem gX9_lets_X9_in : GoodIn wsX9_lets (va_wsS RX9 117 yX9_in wsX9_in) := goodIn_app (goodIn_of _ (by decide +kernel)) ggX9_lets_X9_in
set_option maxRecDepth 20000 in
theorem ggX9_lets_X9_faultsIn : GoodIn wsX9_lets wsX9_faultsIn := goodIn_r _ [71, 6, 72, 7, 32, 33, 13, 34, 83, 84, 85, 86, 87, 88, 89, 90, 91, 92, 93, 94, 95, 96, 97, 98, 99, 100, 101, 102, 103, 104, 105, 106, 107, 108, 109, 110, 111, 112, 113, 114, 115, 116, 117, 118, 119, 120, 121, 122, 123, 124, 125, 126, 127, 128, 129, 130, 131, 132, 133, 134, 135, 136, 137] (by decide +kernel) (by decide +kernel)
set_option maxRecDepth 20000 in
theorem gX9_lets_X9_faultsIn : GoodIn wsX9_lets (wsV RX9 269 RX9 yX9_faultsIn wsX9_faultsIn) := goodIn_app (goodIn_of _ (by decide +kernel)) ggX9_lets_X9_faultsIn
set_option maxRecDepth 20000 in
theorem ggX9_lets_X9_riskOf : GoodIn wsX9_lets wsX9_riskOf := goodIn_r _ [76, 23, 77, 32, 33, 13, 34, 83, 84, 85, 86, 87, 88, 89, 90, 91, 92, 93, 94, 95, 96, 97, 98, 99, 100, 101, 102, 103, 104, 105, 106, 107, 108, 109, 110, 111, 112, 113, 114, 115, 116, 117, 118, 119, 120, 121, 122, 123, 124, 125, 126, 127, 128, 129, 130, 131, 132, 133, 134, 135, 136, 137] (by decide +kernel) (by decide +kernel)
set_option maxRecDepth 20000 in
theorem gX9_lets_X9_riskOf : GoodIn wsX9_lets (wsV RX9 272 RX9 yX9_riskOf wsX9_riskOf) := goodIn_app (goodIn_of _ (by decide +kernel)) ggX9_lets_X9_riskOf
set_option maxRecDepth 20000 in
theorem ggX9_lets_X9_weightOf : GoodIn wsX9_lets wsX9_weightOf := goodIn_r _ [81, 6, 82, 32, 33, 13, 34, 83, 84, 85, 86, 87, 88, 89, 90, 91, 92, 93, 94, 95, 96, 97, 98, 99, 100, 101, 102, 103, 104, 105, 106, 107, 108, 109, 110, 111, 112, 113, 114, 115, 116, 117, 118, 119, 120, 121, 122, 123, 124, 125, 126, 127, 128, 129, 130, 131, 132, 133, 134, 135, 136, 137] (by decide +kernel) (by decide +kernel)
set_option maxRecDepth 20000 in
theorem gX9_lets_X9_weightOf : GoodIn wsX9_lets (wsV RX9 314 RX9 yX9_weightOf wsX9_weightOf) := goodIn_app (goodIn_of _ (by decide +kernel)) ggX9_lets_X9_weightOf
theorem dX9_lets_0 : decode cX9_lets 0 = .ok (.aload_n 0, 1) := by decide +kernel
theorem dX9_lets_1 : decode cX9_lets 1 = .ok (.iload_n 1, 1) := by decide +kernel
theorem dX9_lets_2 : decode cX9_lets 2 = .ok (.invokevirtual 266, 3) := by decide +kernel
theorem dX9_lets_5 : decode cX9_lets 5 = .ok (.ifCond .eq 11, 3) := by decide +kernel
theorem dX9_lets_8 : decode cX9_lets 8 = .ok (.aload_n 0, 1) := by decide +kernel
theorem dX9_lets_9 : decode cX9_lets 9 = .ok (.iload_n 2, 1) := by decide +kernel
theorem dX9_lets_10 : decode cX9_lets 10 = .ok (.invokevirtual 243, 3) := by decide +kernel
theorem dX9_lets_13 : decode cX9_lets 13 = .ok (.ifCond .ne 7, 3) := by decide +kernel
theorem dX9_lets_16 : decode cX9_lets 16 = .ok (.sipush (-1001), 3) := by decide +kernel
theorem dX9_lets_19 : decode cX9_lets 19 = .ok (.ireturn, 1) := by decide +kernel
theorem dX9_lets_20 : decode cX9_lets 20 = .ok (.iload_n 3, 1) := by decide +kernel
theorem dX9_lets_21 : decode cX9_lets 21 = .ok (.invokestatic 317, 3) := by decide +kernel
theorem dX9_lets_24 : decode cX9_lets 24 = .ok (.ifCond .ne 7, 3) := by decide +kernel
theorem dX9_lets_27 : decode cX9_lets 27 = .ok (.sipush (-1002), 3) := by decide +kernel
theorem dX9_lets_30 : decode cX9_lets 30 = .ok (.ireturn, 1) := by decide +kernel
theorem dX9_lets_31 : decode cX9_lets 31 = .ok (.aload_n 0, 1) := by decide +kernel
theorem dX9_lets_32 : decode cX9_lets 32 = .ok (.iload_n 1, 1) := by decide +kernel
theorem dX9_lets_33 : decode cX9_lets 33 = .ok (.iload_n 2, 1) := by decide +kernel
theorem dX9_lets_34 : decode cX9_lets 34 = .ok (.invokevirtual 295, 3) := by decide +kernel
theorem dX9_lets_37 : decode cX9_lets 37 = .ok (.istore 4, 2) := by decide +kernel
theorem dX9_lets_39 : decode cX9_lets 39 = .ok (.iload 4, 2) := by decide +kernel
theorem dX9_lets_41 : decode cX9_lets 41 = .ok (.ifCond .ge 7, 3) := by decide +kernel
theorem dX9_lets_44 : decode cX9_lets 44 = .ok (.sipush (-1003), 3) := by decide +kernel
theorem dX9_lets_47 : decode cX9_lets 47 = .ok (.ireturn, 1) := by decide +kernel
theorem dX9_lets_48 : decode cX9_lets 48 = .ok (.aload_n 0, 1) := by decide +kernel
theorem dX9_lets_49 : decode cX9_lets 49 = .ok (.getfield 375, 3) := by decide +kernel
theorem dX9_lets_52 : decode cX9_lets 52 = .ok (.ifCond .eq 14, 3) := by decide +kernel
theorem dX9_lets_55 : decode cX9_lets 55 = .ok (.aload_n 0, 1) := by decide +kernel
theorem dX9_lets_56 : decode cX9_lets 56 = .ok (.getfield 375, 3) := by decide +kernel
theorem dX9_lets_59 : decode cX9_lets 59 = .ok (.iload_n 1, 1) := by decide +kernel
theorem dX9_lets_60 : decode cX9_lets 60 = .ok (.invokestatic 190, 3) := by decide +kernel
theorem dX9_lets_63 : decode cX9_lets 63 = .ok (.ifCond .eq 7, 3) := by decide +kernel
theorem dX9_lets_66 : decode cX9_lets 66 = .ok (.iconst 1, 1) := by decide +kernel
theorem dX9_lets_67 : decode cX9_lets 67 = .ok (.goto 4, 3) := by decide +kernel
theorem dX9_lets_70 : decode cX9_lets 70 = .ok (.iconst 0, 1) := by decide +kernel
theorem dX9_lets_71 : decode cX9_lets 71 = .ok (.istore 5, 2) := by decide +kernel
theorem dX9_lets_73 : decode cX9_lets 73 = .ok (.iconst 0, 1) := by decide +kernel
theorem dX9_lets_74 : decode cX9_lets 74 = .ok (.istore 6, 2) := by decide +kernel
theorem dX9_lets_76 : decode cX9_lets 76 = .ok (.iload 6, 2) := by decide +kernel
theorem dX9_lets_78 : decode cX9_lets 78 = .ok (.aload_n 0, 1) := by decide +kernel
theorem dX9_lets_79 : decode cX9_lets 79 = .ok (.getfield 372, 3) := by decide +kernel
theorem dX9_lets_82 : decode cX9_lets 82 = .ok (.if_icmp .ge 45, 3) := by decide +kernel
theorem dX9_lets_85 : decode cX9_lets 85 = .ok (.iload 5, 2) := by decide +kernel
theorem dX9_lets_87 : decode cX9_lets 87 = .ok (.ifCond .eq 31, 3) := by decide +kernel
theorem dX9_lets_90 : decode cX9_lets 90 = .ok (.iload_n 3, 1) := by decide +kernel
theorem dX9_lets_91 : decode cX9_lets 91 = .ok (.i2l, 1) := by decide +kernel
theorem dX9_lets_92 : decode cX9_lets 92 = .ok (.aload_n 0, 1) := by decide +kernel
theorem dX9_lets_93 : decode cX9_lets 93 = .ok (.getfield 89, 3) := by decide +kernel
theorem dX9_lets_96 : decode cX9_lets 96 = .ok (.iload 6, 2) := by decide +kernel
theorem dX9_lets_98 : decode cX9_lets 98 = .ok (.iaload, 1) := by decide +kernel
theorem dX9_lets_99 : decode cX9_lets 99 = .ok (.i2l, 1) := by decide +kernel
theorem dX9_lets_100 : decode cX9_lets 100 = .ok (.aload_n 0, 1) := by decide +kernel
theorem dX9_lets_101 : decode cX9_lets 101 = .ok (.getfield 92, 3) := by decide +kernel
theorem dX9_lets_104 : decode cX9_lets 104 = .ok (.iload 6, 2) := by decide +kernel
theorem dX9_lets_106 : decode cX9_lets 106 = .ok (.iaload, 1) := by decide +kernel
theorem dX9_lets_107 : decode cX9_lets 107 = .ok (.i2l, 1) := by decide +kernel
theorem dX9_lets_108 : decode cX9_lets 108 = .ok (.invokestatic 117, 3) := by decide +kernel
theorem dX9_lets_111 : decode cX9_lets 111 = .ok (.ifCond .ne 7, 3) := by decide +kernel
theorem dX9_lets_114 : decode cX9_lets 114 = .ok (.iconst 1, 1) := by decide +kernel
theorem dX9_lets_115 : decode cX9_lets 115 = .ok (.goto 4, 3) := by decide +kernel
theorem dX9_lets_118 : decode cX9_lets 118 = .ok (.iconst 0, 1) := by decide +kernel
theorem dX9_lets_119 : decode cX9_lets 119 = .ok (.istore 5, 2) := by decide +kernel
theorem dX9_lets_121 : decode cX9_lets 121 = .ok (.iinc 6 1, 3) := by decide +kernel
theorem dX9_lets_124 : decode cX9_lets 124 = .ok (.goto (-48), 3) := by decide +kernel
theorem dX9_lets_127 : decode cX9_lets 127 = .ok (.iload 4, 2) := by decide +kernel
theorem dX9_lets_129 : decode cX9_lets 129 = .ok (.iconst 1, 1) := by decide +kernel
theorem dX9_lets_130 : decode cX9_lets 130 = .ok (.iload_n 2, 1) := by decide +kernel
theorem dX9_lets_131 : decode cX9_lets 131 = .ok (.ishl, 1) := by decide +kernel
theorem dX9_lets_132 : decode cX9_lets 132 = .ok (.ior, 1) := by decide +kernel
theorem dX9_lets_133 : decode cX9_lets 133 = .ok (.istore 6, 2) := by decide +kernel
theorem dX9_lets_135 : decode cX9_lets 135 = .ok (.iconst 0, 1) := by decide +kernel
theorem dX9_lets_136 : decode cX9_lets 136 = .ok (.istore 7, 2) := by decide +kernel
theorem dX9_lets_138 : decode cX9_lets 138 = .ok (.aload_n 0, 1) := by decide +kernel
theorem dX9_lets_139 : decode cX9_lets 139 = .ok (.aload_n 0, 1) := by decide +kernel
theorem dX9_lets_140 : decode cX9_lets 140 = .ok (.getfield 31, 3) := by decide +kernel
theorem dX9_lets_143 : decode cX9_lets 143 = .ok (.iload_n 1, 1) := by decide +kernel
theorem dX9_lets_144 : decode cX9_lets 144 = .ok (.iaload, 1) := by decide +kernel
theorem dX9_lets_145 : decode cX9_lets 145 = .ok (.invokevirtual 269, 3) := by decide +kernel
theorem dX9_lets_148 : decode cX9_lets 148 = .ok (.istore 8, 2) := by decide +kernel
theorem dX9_lets_150 : decode cX9_lets 150 = .ok (.iconst 0, 1) := by decide +kernel
theorem dX9_lets_151 : decode cX9_lets 151 = .ok (.istore 9, 2) := by decide +kernel
theorem dX9_lets_153 : decode cX9_lets 153 = .ok (.iload 9, 2) := by decide +kernel
theorem dX9_lets_155 : decode cX9_lets 155 = .ok (.aload_n 0, 1) := by decide +kernel
theorem dX9_lets_156 : decode cX9_lets 156 = .ok (.getfield 123, 3) := by decide +kernel
theorem dX9_lets_159 : decode cX9_lets 159 = .ok (.if_icmp .ge 57, 3) := by decide +kernel
theorem dX9_lets_162 : decode cX9_lets 162 = .ok (.iload 7, 2) := by decide +kernel
theorem dX9_lets_164 : decode cX9_lets 164 = .ok (.iload 8, 2) := by decide +kernel
theorem dX9_lets_166 : decode cX9_lets 166 = .ok (.iload 9, 2) := by decide +kernel
theorem dX9_lets_168 : decode cX9_lets 168 = .ok (.invokestatic 190, 3) := by decide +kernel
theorem dX9_lets_171 : decode cX9_lets 171 = .ok (.ifCond .eq 35, 3) := by decide +kernel
theorem dX9_lets_174 : decode cX9_lets 174 = .ok (.aload_n 0, 1) := by decide +kernel
theorem dX9_lets_175 : decode cX9_lets 175 = .ok (.getfield 25, 3) := by decide +kernel
theorem dX9_lets_178 : decode cX9_lets 178 = .ok (.iload 9, 2) := by decide +kernel
theorem dX9_lets_180 : decode cX9_lets 180 = .ok (.iaload, 1) := by decide +kernel
theorem dX9_lets_181 : decode cX9_lets 181 = .ok (.ifCond .lt 25, 3) := by decide +kernel
theorem dX9_lets_184 : decode cX9_lets 184 = .ok (.iload 6, 2) := by decide +kernel
theorem dX9_lets_186 : decode cX9_lets 186 = .ok (.aload_n 0, 1) := by decide +kernel
theorem dX9_lets_187 : decode cX9_lets 187 = .ok (.getfield 25, 3) := by decide +kernel
theorem dX9_lets_190 : decode cX9_lets 190 = .ok (.iload 9, 2) := by decide +kernel
theorem dX9_lets_192 : decode cX9_lets 192 = .ok (.iaload, 1) := by decide +kernel
theorem dX9_lets_193 : decode cX9_lets 193 = .ok (.invokestatic 190, 3) := by decide +kernel
theorem dX9_lets_196 : decode cX9_lets 196 = .ok (.ifCond .eq 10, 3) := by decide +kernel
theorem dX9_lets_199 : decode cX9_lets 199 = .ok (.iconst 1, 1) := by decide +kernel
theorem dX9_lets_200 : decode cX9_lets 200 = .ok (.iload 9, 2) := by decide +kernel
theorem dX9_lets_202 : decode cX9_lets 202 = .ok (.ishl, 1) := by decide +kernel
theorem dX9_lets_203 : decode cX9_lets 203 = .ok (.goto 4, 3) := by decide +kernel
theorem dX9_lets_206 : decode cX9_lets 206 = .ok (.iconst 0, 1) := by decide +kernel
theorem dX9_lets_207 : decode cX9_lets 207 = .ok (.ior, 1) := by decide +kernel
theorem dX9_lets_208 : decode cX9_lets 208 = .ok (.istore 7, 2) := by decide +kernel
theorem dX9_lets_210 : decode cX9_lets 210 = .ok (.iinc 9 1, 3) := by decide +kernel
theorem dX9_lets_213 : decode cX9_lets 213 = .ok (.goto (-60), 3) := by decide +kernel
theorem dX9_lets_216 : decode cX9_lets 216 = .ok (.iload 5, 2) := by decide +kernel
theorem dX9_lets_218 : decode cX9_lets 218 = .ok (.ifCond .eq 27, 3) := by decide +kernel
theorem dX9_lets_221 : decode cX9_lets 221 = .ok (.aload_n 0, 1) := by decide +kernel
theorem dX9_lets_222 : decode cX9_lets 222 = .ok (.getfield 95, 3) := by decide +kernel
theorem dX9_lets_225 : decode cX9_lets 225 = .ok (.ifCond .lt 16, 3) := by decide +kernel
theorem dX9_lets_228 : decode cX9_lets 228 = .ok (.aload_n 0, 1) := by decide +kernel
theorem dX9_lets_229 : decode cX9_lets 229 = .ok (.iload 6, 2) := by decide +kernel
theorem dX9_lets_231 : decode cX9_lets 231 = .ok (.invokevirtual 272, 3) := by decide +kernel
theorem dX9_lets_234 : decode cX9_lets 234 = .ok (.aload_n 0, 1) := by decide +kernel
theorem dX9_lets_235 : decode cX9_lets 235 = .ok (.getfield 95, 3) := by decide +kernel
theorem dX9_lets_238 : decode cX9_lets 238 = .ok (.if_icmp .gt 7, 3) := by decide +kernel
theorem dX9_lets_241 : decode cX9_lets 241 = .ok (.iconst 1, 1) := by decide +kernel
theorem dX9_lets_242 : decode cX9_lets 242 = .ok (.goto 4, 3) := by decide +kernel
theorem dX9_lets_245 : decode cX9_lets 245 = .ok (.iconst 0, 1) := by decide +kernel
theorem dX9_lets_246 : decode cX9_lets 246 = .ok (.istore 5, 2) := by decide +kernel
theorem dX9_lets_248 : decode cX9_lets 248 = .ok (.iload 5, 2) := by decide +kernel
theorem dX9_lets_250 : decode cX9_lets 250 = .ok (.ifCond .eq 27, 3) := by decide +kernel
theorem dX9_lets_253 : decode cX9_lets 253 = .ok (.aload_n 0, 1) := by decide +kernel
theorem dX9_lets_254 : decode cX9_lets 254 = .ok (.getfield 98, 3) := by decide +kernel
theorem dX9_lets_257 : decode cX9_lets 257 = .ok (.ifCond .lt 16, 3) := by decide +kernel
theorem dX9_lets_260 : decode cX9_lets 260 = .ok (.aload_n 0, 1) := by decide +kernel
theorem dX9_lets_261 : decode cX9_lets 261 = .ok (.iload 7, 2) := by decide +kernel
theorem dX9_lets_263 : decode cX9_lets 263 = .ok (.invokevirtual 314, 3) := by decide +kernel
theorem dX9_lets_266 : decode cX9_lets 266 = .ok (.aload_n 0, 1) := by decide +kernel
theorem dX9_lets_267 : decode cX9_lets 267 = .ok (.getfield 98, 3) := by decide +kernel
theorem dX9_lets_270 : decode cX9_lets 270 = .ok (.if_icmp .lt 7, 3) := by decide +kernel
theorem dX9_lets_273 : decode cX9_lets 273 = .ok (.iconst 1, 1) := by decide +kernel
theorem dX9_lets_274 : decode cX9_lets 274 = .ok (.goto 4, 3) := by decide +kernel
theorem dX9_lets_277 : decode cX9_lets 277 = .ok (.iconst 0, 1) := by decide +kernel
theorem dX9_lets_278 : decode cX9_lets 278 = .ok (.ireturn, 1) := by decide +kernel
set_option maxRecDepth 20000 in
theorem ggX9_keep_X9_in : GoodIn wsX9_keep wsX9_in := goodIn_r _ [16] (by decide +kernel) (by decide +kernel)
set_option maxRecDepth 20000 in
theorem gX9_keep_X9_in : GoodIn wsX9_keep (va_wsS RX9 117 yX9_in wsX9_in) := goodIn_app (goodIn_of _ (by decide +kernel)) ggX9_keep_X9_in
theorem dX9_keep_0 : decode cX9_keep 0 = .ok (.iload_n 1, 1) := by decide +kernel
theorem dX9_keep_1 : decode cX9_keep 1 = .ok (.i2l, 1) := by decide +kernel
theorem dX9_keep_2 : decode cX9_keep 2 = .ok (.lconst 0, 1) := by decide +kernel
theorem dX9_keep_3 : decode cX9_keep 3 = .ok (.lconst 1, 1) := by decide +kernel
theorem dX9_keep_4 : decode cX9_keep 4 = .ok (.invokestatic 117, 3) := by decide +kernel
theorem dX9_keep_7 : decode cX9_keep 7 = .ok (.ifCond .ne 7, 3) := by decide +kernel
theorem dX9_keep_10 : decode cX9_keep 10 = .ok (.sipush (-1001), 3) := by decide +kernel
theorem dX9_keep_13 : decode cX9_keep 13 = .ok (.ireturn, 1) := by decide +kernel
theorem dX9_keep_14 : decode cX9_keep 14 = .ok (.sipush 500, 3) := by decide +kernel
theorem dX9_keep_17 : decode cX9_keep 17 = .ok (.iload_n 1, 1) := by decide +kernel
theorem dX9_keep_18 : decode cX9_keep 18 = .ok (.imul, 1) := by decide +kernel
theorem dX9_keep_19 : decode cX9_keep 19 = .ok (.istore_n 2, 1) := by decide +kernel
theorem dX9_keep_20 : decode cX9_keep 20 = .ok (.aload_n 0, 1) := by decide +kernel
theorem dX9_keep_21 : decode cX9_keep 21 = .ok (.getfield 107, 3) := by decide +kernel
theorem dX9_keep_24 : decode cX9_keep 24 = .ok (.iload_n 2, 1) := by decide +kernel
theorem dX9_keep_25 : decode cX9_keep 25 = .ok (.aload_n 0, 1) := by decide +kernel
theorem dX9_keep_26 : decode cX9_keep 26 = .ok (.getfield 126, 3) := by decide +kernel
theorem dX9_keep_29 : decode cX9_keep 29 = .ok (.iastore, 1) := by decide +kernel
theorem dX9_keep_30 : decode cX9_keep 30 = .ok (.aload_n 0, 1) := by decide +kernel
theorem dX9_keep_31 : decode cX9_keep 31 = .ok (.getfield 107, 3) := by decide +kernel
theorem dX9_keep_34 : decode cX9_keep 34 = .ok (.iload_n 2, 1) := by decide +kernel
theorem dX9_keep_35 : decode cX9_keep 35 = .ok (.iconst 1, 1) := by decide +kernel
theorem dX9_keep_36 : decode cX9_keep 36 = .ok (.iadd, 1) := by decide +kernel
theorem dX9_keep_37 : decode cX9_keep 37 = .ok (.aload_n 0, 1) := by decide +kernel
theorem dX9_keep_38 : decode cX9_keep 38 = .ok (.getfield 129, 3) := by decide +kernel
theorem dX9_keep_41 : decode cX9_keep 41 = .ok (.iastore, 1) := by decide +kernel
theorem dX9_keep_42 : decode cX9_keep 42 = .ok (.iconst 0, 1) := by decide +kernel
theorem dX9_keep_43 : decode cX9_keep 43 = .ok (.istore_n 3, 1) := by decide +kernel
theorem dX9_keep_44 : decode cX9_keep 44 = .ok (.iload_n 3, 1) := by decide +kernel
theorem dX9_keep_45 : decode cX9_keep 45 = .ok (.iconst 4, 1) := by decide +kernel
theorem dX9_keep_46 : decode cX9_keep 46 = .ok (.if_icmp .ge 59, 3) := by decide +kernel
theorem dX9_keep_49 : decode cX9_keep 49 = .ok (.aload_n 0, 1) := by decide +kernel
theorem dX9_keep_50 : decode cX9_keep 50 = .ok (.getfield 107, 3) := by decide +kernel
theorem dX9_keep_53 : decode cX9_keep 53 = .ok (.iload_n 2, 1) := by decide +kernel
theorem dX9_keep_54 : decode cX9_keep 54 = .ok (.iconst 2, 1) := by decide +kernel
theorem dX9_keep_55 : decode cX9_keep 55 = .ok (.iadd, 1) := by decide +kernel
theorem dX9_keep_56 : decode cX9_keep 56 = .ok (.iload_n 3, 1) := by decide +kernel
theorem dX9_keep_57 : decode cX9_keep 57 = .ok (.iadd, 1) := by decide +kernel
theorem dX9_keep_58 : decode cX9_keep 58 = .ok (.aload_n 0, 1) := by decide +kernel
theorem dX9_keep_59 : decode cX9_keep 59 = .ok (.getfield 28, 3) := by decide +kernel
theorem dX9_keep_62 : decode cX9_keep 62 = .ok (.iload_n 3, 1) := by decide +kernel
theorem dX9_keep_63 : decode cX9_keep 63 = .ok (.iaload, 1) := by decide +kernel
theorem dX9_keep_64 : decode cX9_keep 64 = .ok (.iastore, 1) := by decide +kernel
theorem dX9_keep_65 : decode cX9_keep 65 = .ok (.aload_n 0, 1) := by decide +kernel
theorem dX9_keep_66 : decode cX9_keep 66 = .ok (.getfield 107, 3) := by decide +kernel
theorem dX9_keep_69 : decode cX9_keep 69 = .ok (.iload_n 2, 1) := by decide +kernel
theorem dX9_keep_70 : decode cX9_keep 70 = .ok (.bipush 6, 2) := by decide +kernel
theorem dX9_keep_72 : decode cX9_keep 72 = .ok (.iadd, 1) := by decide +kernel
theorem dX9_keep_73 : decode cX9_keep 73 = .ok (.iload_n 3, 1) := by decide +kernel
theorem dX9_keep_74 : decode cX9_keep 74 = .ok (.iadd, 1) := by decide +kernel
theorem dX9_keep_75 : decode cX9_keep 75 = .ok (.aload_n 0, 1) := by decide +kernel
theorem dX9_keep_76 : decode cX9_keep 76 = .ok (.getfield 31, 3) := by decide +kernel
theorem dX9_keep_79 : decode cX9_keep 79 = .ok (.iload_n 3, 1) := by decide +kernel
theorem dX9_keep_80 : decode cX9_keep 80 = .ok (.iaload, 1) := by decide +kernel
theorem dX9_keep_81 : decode cX9_keep 81 = .ok (.iastore, 1) := by decide +kernel
theorem dX9_keep_82 : decode cX9_keep 82 = .ok (.aload_n 0, 1) := by decide +kernel
theorem dX9_keep_83 : decode cX9_keep 83 = .ok (.getfield 107, 3) := by decide +kernel
theorem dX9_keep_86 : decode cX9_keep 86 = .ok (.iload_n 2, 1) := by decide +kernel
theorem dX9_keep_87 : decode cX9_keep 87 = .ok (.bipush 10, 2) := by decide +kernel
theorem dX9_keep_89 : decode cX9_keep 89 = .ok (.iadd, 1) := by decide +kernel
theorem dX9_keep_90 : decode cX9_keep 90 = .ok (.iload_n 3, 1) := by decide +kernel
theorem dX9_keep_91 : decode cX9_keep 91 = .ok (.iadd, 1) := by decide +kernel
theorem dX9_keep_92 : decode cX9_keep 92 = .ok (.aload_n 0, 1) := by decide +kernel
theorem dX9_keep_93 : decode cX9_keep 93 = .ok (.getfield 37, 3) := by decide +kernel
theorem dX9_keep_96 : decode cX9_keep 96 = .ok (.iload_n 3, 1) := by decide +kernel
theorem dX9_keep_97 : decode cX9_keep 97 = .ok (.iaload, 1) := by decide +kernel
theorem dX9_keep_98 : decode cX9_keep 98 = .ok (.iastore, 1) := by decide +kernel
theorem dX9_keep_99 : decode cX9_keep 99 = .ok (.iinc 3 1, 3) := by decide +kernel
theorem dX9_keep_102 : decode cX9_keep 102 = .ok (.goto (-58), 3) := by decide +kernel
theorem dX9_keep_105 : decode cX9_keep 105 = .ok (.iconst 0, 1) := by decide +kernel
theorem dX9_keep_106 : decode cX9_keep 106 = .ok (.istore_n 3, 1) := by decide +kernel
theorem dX9_keep_107 : decode cX9_keep 107 = .ok (.iload_n 3, 1) := by decide +kernel
theorem dX9_keep_108 : decode cX9_keep 108 = .ok (.bipush 64, 2) := by decide +kernel
theorem dX9_keep_110 : decode cX9_keep 110 = .ok (.if_icmp .ge 26, 3) := by decide +kernel
theorem dX9_keep_113 : decode cX9_keep 113 = .ok (.aload_n 0, 1) := by decide +kernel
theorem dX9_keep_114 : decode cX9_keep 114 = .ok (.getfield 107, 3) := by decide +kernel
theorem dX9_keep_117 : decode cX9_keep 117 = .ok (.iload_n 2, 1) := by decide +kernel
theorem dX9_keep_118 : decode cX9_keep 118 = .ok (.bipush 14, 2) := by decide +kernel
theorem dX9_keep_120 : decode cX9_keep 120 = .ok (.iadd, 1) := by decide +kernel
theorem dX9_keep_121 : decode cX9_keep 121 = .ok (.iload_n 3, 1) := by decide +kernel
theorem dX9_keep_122 : decode cX9_keep 122 = .ok (.iadd, 1) := by decide +kernel
theorem dX9_keep_123 : decode cX9_keep 123 = .ok (.aload_n 0, 1) := by decide +kernel
theorem dX9_keep_124 : decode cX9_keep 124 = .ok (.getfield 34, 3) := by decide +kernel
theorem dX9_keep_127 : decode cX9_keep 127 = .ok (.iload_n 3, 1) := by decide +kernel
theorem dX9_keep_128 : decode cX9_keep 128 = .ok (.iaload, 1) := by decide +kernel
theorem dX9_keep_129 : decode cX9_keep 129 = .ok (.iastore, 1) := by decide +kernel
theorem dX9_keep_130 : decode cX9_keep 130 = .ok (.iinc 3 1, 3) := by decide +kernel
theorem dX9_keep_133 : decode cX9_keep 133 = .ok (.goto (-26), 3) := by decide +kernel
theorem dX9_keep_136 : decode cX9_keep 136 = .ok (.iconst 0, 1) := by decide +kernel
theorem dX9_keep_137 : decode cX9_keep 137 = .ok (.istore_n 3, 1) := by decide +kernel
theorem dX9_keep_138 : decode cX9_keep 138 = .ok (.iload_n 3, 1) := by decide +kernel
theorem dX9_keep_139 : decode cX9_keep 139 = .ok (.bipush 20, 2) := by decide +kernel
theorem dX9_keep_141 : decode cX9_keep 141 = .ok (.if_icmp .ge 60, 3) := by decide +kernel
theorem dX9_keep_144 : decode cX9_keep 144 = .ok (.aload_n 0, 1) := by decide +kernel
theorem dX9_keep_145 : decode cX9_keep 145 = .ok (.getfield 107, 3) := by decide +kernel
theorem dX9_keep_148 : decode cX9_keep 148 = .ok (.iload_n 2, 1) := by decide +kernel
theorem dX9_keep_149 : decode cX9_keep 149 = .ok (.bipush 78, 2) := by decide +kernel
theorem dX9_keep_151 : decode cX9_keep 151 = .ok (.iadd, 1) := by decide +kernel
theorem dX9_keep_152 : decode cX9_keep 152 = .ok (.iload_n 3, 1) := by decide +kernel
theorem dX9_keep_153 : decode cX9_keep 153 = .ok (.iadd, 1) := by decide +kernel
theorem dX9_keep_154 : decode cX9_keep 154 = .ok (.aload_n 0, 1) := by decide +kernel
theorem dX9_keep_155 : decode cX9_keep 155 = .ok (.getfield 40, 3) := by decide +kernel
theorem dX9_keep_158 : decode cX9_keep 158 = .ok (.iload_n 3, 1) := by decide +kernel
theorem dX9_keep_159 : decode cX9_keep 159 = .ok (.iaload, 1) := by decide +kernel
theorem dX9_keep_160 : decode cX9_keep 160 = .ok (.iastore, 1) := by decide +kernel
theorem dX9_keep_161 : decode cX9_keep 161 = .ok (.aload_n 0, 1) := by decide +kernel
theorem dX9_keep_162 : decode cX9_keep 162 = .ok (.getfield 107, 3) := by decide +kernel
theorem dX9_keep_165 : decode cX9_keep 165 = .ok (.iload_n 2, 1) := by decide +kernel
theorem dX9_keep_166 : decode cX9_keep 166 = .ok (.bipush 98, 2) := by decide +kernel
theorem dX9_keep_168 : decode cX9_keep 168 = .ok (.iadd, 1) := by decide +kernel
theorem dX9_keep_169 : decode cX9_keep 169 = .ok (.iload_n 3, 1) := by decide +kernel
theorem dX9_keep_170 : decode cX9_keep 170 = .ok (.iadd, 1) := by decide +kernel
theorem dX9_keep_171 : decode cX9_keep 171 = .ok (.aload_n 0, 1) := by decide +kernel
theorem dX9_keep_172 : decode cX9_keep 172 = .ok (.getfield 43, 3) := by decide +kernel
theorem dX9_keep_175 : decode cX9_keep 175 = .ok (.iload_n 3, 1) := by decide +kernel
theorem dX9_keep_176 : decode cX9_keep 176 = .ok (.iaload, 1) := by decide +kernel
theorem dX9_keep_177 : decode cX9_keep 177 = .ok (.iastore, 1) := by decide +kernel
theorem dX9_keep_178 : decode cX9_keep 178 = .ok (.aload_n 0, 1) := by decide +kernel
theorem dX9_keep_179 : decode cX9_keep 179 = .ok (.getfield 107, 3) := by decide +kernel
theorem dX9_keep_182 : decode cX9_keep 182 = .ok (.iload_n 2, 1) := by decide +kernel
theorem dX9_keep_183 : decode cX9_keep 183 = .ok (.bipush 118, 2) := by decide +kernel
theorem dX9_keep_185 : decode cX9_keep 185 = .ok (.iadd, 1) := by decide +kernel
theorem dX9_keep_186 : decode cX9_keep 186 = .ok (.iload_n 3, 1) := by decide +kernel
theorem dX9_keep_187 : decode cX9_keep 187 = .ok (.iadd, 1) := by decide +kernel
theorem dX9_keep_188 : decode cX9_keep 188 = .ok (.aload_n 0, 1) := by decide +kernel
theorem dX9_keep_189 : decode cX9_keep 189 = .ok (.getfield 46, 3) := by decide +kernel
theorem dX9_keep_192 : decode cX9_keep 192 = .ok (.iload_n 3, 1) := by decide +kernel
theorem dX9_keep_193 : decode cX9_keep 193 = .ok (.iaload, 1) := by decide +kernel
theorem dX9_keep_194 : decode cX9_keep 194 = .ok (.iastore, 1) := by decide +kernel
theorem dX9_keep_195 : decode cX9_keep 195 = .ok (.iinc 3 1, 3) := by decide +kernel
theorem dX9_keep_198 : decode cX9_keep 198 = .ok (.goto (-60), 3) := by decide +kernel
theorem dX9_keep_201 : decode cX9_keep 201 = .ok (.iconst 0, 1) := by decide +kernel
theorem dX9_keep_202 : decode cX9_keep 202 = .ok (.istore_n 3, 1) := by decide +kernel
theorem dX9_keep_203 : decode cX9_keep 203 = .ok (.iload_n 3, 1) := by decide +kernel
theorem dX9_keep_204 : decode cX9_keep 204 = .ok (.sipush 320, 3) := by decide +kernel
theorem dX9_keep_207 : decode cX9_keep 207 = .ok (.if_icmp .ge 27, 3) := by decide +kernel
theorem dX9_keep_210 : decode cX9_keep 210 = .ok (.aload_n 0, 1) := by decide +kernel
theorem dX9_keep_211 : decode cX9_keep 211 = .ok (.getfield 107, 3) := by decide +kernel
theorem dX9_keep_214 : decode cX9_keep 214 = .ok (.iload_n 2, 1) := by decide +kernel
theorem dX9_keep_215 : decode cX9_keep 215 = .ok (.sipush 138, 3) := by decide +kernel
theorem dX9_keep_218 : decode cX9_keep 218 = .ok (.iadd, 1) := by decide +kernel
theorem dX9_keep_219 : decode cX9_keep 219 = .ok (.iload_n 3, 1) := by decide +kernel
theorem dX9_keep_220 : decode cX9_keep 220 = .ok (.iadd, 1) := by decide +kernel
theorem dX9_keep_221 : decode cX9_keep 221 = .ok (.aload_n 0, 1) := by decide +kernel
theorem dX9_keep_222 : decode cX9_keep 222 = .ok (.getfield 49, 3) := by decide +kernel
theorem dX9_keep_225 : decode cX9_keep 225 = .ok (.iload_n 3, 1) := by decide +kernel
theorem dX9_keep_226 : decode cX9_keep 226 = .ok (.iaload, 1) := by decide +kernel
theorem dX9_keep_227 : decode cX9_keep 227 = .ok (.iastore, 1) := by decide +kernel
theorem dX9_keep_228 : decode cX9_keep 228 = .ok (.iinc 3 1, 3) := by decide +kernel
theorem dX9_keep_231 : decode cX9_keep 231 = .ok (.goto (-28), 3) := by decide +kernel
theorem dX9_keep_234 : decode cX9_keep 234 = .ok (.aload_n 0, 1) := by decide +kernel
theorem dX9_keep_235 : decode cX9_keep 235 = .ok (.getfield 110, 3) := by decide +kernel
theorem dX9_keep_238 : decode cX9_keep 238 = .ok (.iload_n 1, 1) := by decide +kernel
theorem dX9_keep_239 : decode cX9_keep 239 = .ok (.iconst 1, 1) := by decide +kernel
theorem dX9_keep_240 : decode cX9_keep 240 = .ok (.bastore, 1) := by decide +kernel
theorem dX9_keep_241 : decode cX9_keep 241 = .ok (.iconst 1, 1) := by decide +kernel
theorem dX9_keep_242 : decode cX9_keep 242 = .ok (.ireturn, 1) := by decide +kernel
set_option maxRecDepth 20000 in
theorem ggX9_goBack_X9_in : GoodIn wsX9_goBack wsX9_in := goodIn_r _ [16] (by decide +kernel) (by decide +kernel)
set_option maxRecDepth 20000 in
theorem gX9_goBack_X9_in : GoodIn wsX9_goBack (va_wsS RX9 117 yX9_in wsX9_in) := goodIn_app (goodIn_of _ (by decide +kernel)) ggX9_goBack_X9_in
theorem dX9_goBack_0 : decode cX9_goBack 0 = .ok (.iload_n 1, 1) := by decide +kernel
theorem dX9_goBack_1 : decode cX9_goBack 1 = .ok (.i2l, 1) := by decide +kernel
theorem dX9_goBack_2 : decode cX9_goBack 2 = .ok (.lconst 0, 1) := by decide +kernel
theorem dX9_goBack_3 : decode cX9_goBack 3 = .ok (.lconst 1, 1) := by decide +kernel
theorem dX9_goBack_4 : decode cX9_goBack 4 = .ok (.invokestatic 117, 3) := by decide +kernel
theorem dX9_goBack_7 : decode cX9_goBack 7 = .ok (.ifCond .ne 7, 3) := by decide +kernel
theorem dX9_goBack_10 : decode cX9_goBack 10 = .ok (.sipush (-1001), 3) := by decide +kernel
theorem dX9_goBack_13 : decode cX9_goBack 13 = .ok (.ireturn, 1) := by decide +kernel
theorem dX9_goBack_14 : decode cX9_goBack 14 = .ok (.aload_n 0, 1) := by decide +kernel
theorem dX9_goBack_15 : decode cX9_goBack 15 = .ok (.getfield 110, 3) := by decide +kernel
theorem dX9_goBack_18 : decode cX9_goBack 18 = .ok (.iload_n 1, 1) := by decide +kernel
theorem dX9_goBack_19 : decode cX9_goBack 19 = .ok (.baload, 1) := by decide +kernel
theorem dX9_goBack_20 : decode cX9_goBack 20 = .ok (.ifCond .ne 7, 3) := by decide +kernel
theorem dX9_goBack_23 : decode cX9_goBack 23 = .ok (.sipush (-1003), 3) := by decide +kernel
theorem dX9_goBack_26 : decode cX9_goBack 26 = .ok (.ireturn, 1) := by decide +kernel
theorem dX9_goBack_27 : decode cX9_goBack 27 = .ok (.sipush 500, 3) := by decide +kernel
theorem dX9_goBack_30 : decode cX9_goBack 30 = .ok (.iload_n 1, 1) := by decide +kernel
theorem dX9_goBack_31 : decode cX9_goBack 31 = .ok (.imul, 1) := by decide +kernel
theorem dX9_goBack_32 : decode cX9_goBack 32 = .ok (.istore_n 2, 1) := by decide +kernel
theorem dX9_goBack_33 : decode cX9_goBack 33 = .ok (.aload_n 0, 1) := by decide +kernel
theorem dX9_goBack_34 : decode cX9_goBack 34 = .ok (.aload_n 0, 1) := by decide +kernel
theorem dX9_goBack_35 : decode cX9_goBack 35 = .ok (.getfield 107, 3) := by decide +kernel
theorem dX9_goBack_38 : decode cX9_goBack 38 = .ok (.iload_n 2, 1) := by decide +kernel
theorem dX9_goBack_39 : decode cX9_goBack 39 = .ok (.iaload, 1) := by decide +kernel
theorem dX9_goBack_40 : decode cX9_goBack 40 = .ok (.putfield 126, 3) := by decide +kernel
theorem dX9_goBack_43 : decode cX9_goBack 43 = .ok (.aload_n 0, 1) := by decide +kernel
theorem dX9_goBack_44 : decode cX9_goBack 44 = .ok (.aload_n 0, 1) := by decide +kernel
theorem dX9_goBack_45 : decode cX9_goBack 45 = .ok (.getfield 107, 3) := by decide +kernel
theorem dX9_goBack_48 : decode cX9_goBack 48 = .ok (.iload_n 2, 1) := by decide +kernel
theorem dX9_goBack_49 : decode cX9_goBack 49 = .ok (.iconst 1, 1) := by decide +kernel
theorem dX9_goBack_50 : decode cX9_goBack 50 = .ok (.iadd, 1) := by decide +kernel
theorem dX9_goBack_51 : decode cX9_goBack 51 = .ok (.iaload, 1) := by decide +kernel
theorem dX9_goBack_52 : decode cX9_goBack 52 = .ok (.putfield 129, 3) := by decide +kernel
theorem dX9_goBack_55 : decode cX9_goBack 55 = .ok (.iconst 0, 1) := by decide +kernel
theorem dX9_goBack_56 : decode cX9_goBack 56 = .ok (.istore_n 3, 1) := by decide +kernel
theorem dX9_goBack_57 : decode cX9_goBack 57 = .ok (.iload_n 3, 1) := by decide +kernel
theorem dX9_goBack_58 : decode cX9_goBack 58 = .ok (.iconst 4, 1) := by decide +kernel
theorem dX9_goBack_59 : decode cX9_goBack 59 = .ok (.if_icmp .ge 59, 3) := by decide +kernel
theorem dX9_goBack_62 : decode cX9_goBack 62 = .ok (.aload_n 0, 1) := by decide +kernel
theorem dX9_goBack_63 : decode cX9_goBack 63 = .ok (.getfield 28, 3) := by decide +kernel
theorem dX9_goBack_66 : decode cX9_goBack 66 = .ok (.iload_n 3, 1) := by decide +kernel
theorem dX9_goBack_67 : decode cX9_goBack 67 = .ok (.aload_n 0, 1) := by decide +kernel
theorem dX9_goBack_68 : decode cX9_goBack 68 = .ok (.getfield 107, 3) := by decide +kernel
theorem dX9_goBack_71 : decode cX9_goBack 71 = .ok (.iload_n 2, 1) := by decide +kernel
theorem dX9_goBack_72 : decode cX9_goBack 72 = .ok (.iconst 2, 1) := by decide +kernel
theorem dX9_goBack_73 : decode cX9_goBack 73 = .ok (.iadd, 1) := by decide +kernel
theorem dX9_goBack_74 : decode cX9_goBack 74 = .ok (.iload_n 3, 1) := by decide +kernel
theorem dX9_goBack_75 : decode cX9_goBack 75 = .ok (.iadd, 1) := by decide +kernel
theorem dX9_goBack_76 : decode cX9_goBack 76 = .ok (.iaload, 1) := by decide +kernel
theorem dX9_goBack_77 : decode cX9_goBack 77 = .ok (.iastore, 1) := by decide +kernel
theorem dX9_goBack_78 : decode cX9_goBack 78 = .ok (.aload_n 0, 1) := by decide +kernel
theorem dX9_goBack_79 : decode cX9_goBack 79 = .ok (.getfield 31, 3) := by decide +kernel
theorem dX9_goBack_82 : decode cX9_goBack 82 = .ok (.iload_n 3, 1) := by decide +kernel
theorem dX9_goBack_83 : decode cX9_goBack 83 = .ok (.aload_n 0, 1) := by decide +kernel
theorem dX9_goBack_84 : decode cX9_goBack 84 = .ok (.getfield 107, 3) := by decide +kernel
theorem dX9_goBack_87 : decode cX9_goBack 87 = .ok (.iload_n 2, 1) := by decide +kernel
theorem dX9_goBack_88 : decode cX9_goBack 88 = .ok (.bipush 6, 2) := by decide +kernel
theorem dX9_goBack_90 : decode cX9_goBack 90 = .ok (.iadd, 1) := by decide +kernel
theorem dX9_goBack_91 : decode cX9_goBack 91 = .ok (.iload_n 3, 1) := by decide +kernel
theorem dX9_goBack_92 : decode cX9_goBack 92 = .ok (.iadd, 1) := by decide +kernel
theorem dX9_goBack_93 : decode cX9_goBack 93 = .ok (.iaload, 1) := by decide +kernel
theorem dX9_goBack_94 : decode cX9_goBack 94 = .ok (.iastore, 1) := by decide +kernel
theorem dX9_goBack_95 : decode cX9_goBack 95 = .ok (.aload_n 0, 1) := by decide +kernel
theorem dX9_goBack_96 : decode cX9_goBack 96 = .ok (.getfield 37, 3) := by decide +kernel
theorem dX9_goBack_99 : decode cX9_goBack 99 = .ok (.iload_n 3, 1) := by decide +kernel
theorem dX9_goBack_100 : decode cX9_goBack 100 = .ok (.aload_n 0, 1) := by decide +kernel
theorem dX9_goBack_101 : decode cX9_goBack 101 = .ok (.getfield 107, 3) := by decide +kernel
theorem dX9_goBack_104 : decode cX9_goBack 104 = .ok (.iload_n 2, 1) := by decide +kernel
theorem dX9_goBack_105 : decode cX9_goBack 105 = .ok (.bipush 10, 2) := by decide +kernel
theorem dX9_goBack_107 : decode cX9_goBack 107 = .ok (.iadd, 1) := by decide +kernel
theorem dX9_goBack_108 : decode cX9_goBack 108 = .ok (.iload_n 3, 1) := by decide +kernel
theorem dX9_goBack_109 : decode cX9_goBack 109 = .ok (.iadd, 1) := by decide +kernel
theorem dX9_goBack_110 : decode cX9_goBack 110 = .ok (.iaload, 1) := by decide +kernel
theorem dX9_goBack_111 : decode cX9_goBack 111 = .ok (.iastore, 1) := by decide +kernel
theorem dX9_goBack_112 : decode cX9_goBack 112 = .ok (.iinc 3 1, 3) := by decide +kernel
theorem dX9_goBack_115 : decode cX9_goBack 115 = .ok (.goto (-58), 3) := by decide +kernel
theorem dX9_goBack_118 : decode cX9_goBack 118 = .ok (.iconst 0, 1) := by decide +kernel
theorem dX9_goBack_119 : decode cX9_goBack 119 = .ok (.istore_n 3, 1) := by decide +kernel
theorem dX9_goBack_120 : decode cX9_goBack 120 = .ok (.iload_n 3, 1) := by decide +kernel
theorem dX9_goBack_121 : decode cX9_goBack 121 = .ok (.bipush 64, 2) := by decide +kernel
theorem dX9_goBack_123 : decode cX9_goBack 123 = .ok (.if_icmp .ge 26, 3) := by decide +kernel
theorem dX9_goBack_126 : decode cX9_goBack 126 = .ok (.aload_n 0, 1) := by decide +kernel
theorem dX9_goBack_127 : decode cX9_goBack 127 = .ok (.getfield 34, 3) := by decide +kernel
theorem dX9_goBack_130 : decode cX9_goBack 130 = .ok (.iload_n 3, 1) := by decide +kernel
theorem dX9_goBack_131 : decode cX9_goBack 131 = .ok (.aload_n 0, 1) := by decide +kernel
theorem dX9_goBack_132 : decode cX9_goBack 132 = .ok (.getfield 107, 3) := by decide +kernel
theorem dX9_goBack_135 : decode cX9_goBack 135 = .ok (.iload_n 2, 1) := by decide +kernel
theorem dX9_goBack_136 : decode cX9_goBack 136 = .ok (.bipush 14, 2) := by decide +kernel
theorem dX9_goBack_138 : decode cX9_goBack 138 = .ok (.iadd, 1) := by decide +kernel
theorem dX9_goBack_139 : decode cX9_goBack 139 = .ok (.iload_n 3, 1) := by decide +kernel
theorem dX9_goBack_140 : decode cX9_goBack 140 = .ok (.iadd, 1) := by decide +kernel
theorem dX9_goBack_141 : decode cX9_goBack 141 = .ok (.iaload, 1) := by decide +kernel
theorem dX9_goBack_142 : decode cX9_goBack 142 = .ok (.iastore, 1) := by decide +kernel
theorem dX9_goBack_143 : decode cX9_goBack 143 = .ok (.iinc 3 1, 3) := by decide +kernel
theorem dX9_goBack_146 : decode cX9_goBack 146 = .ok (.goto (-26), 3) := by decide +kernel
theorem dX9_goBack_149 : decode cX9_goBack 149 = .ok (.iconst 0, 1) := by decide +kernel
theorem dX9_goBack_150 : decode cX9_goBack 150 = .ok (.istore_n 3, 1) := by decide +kernel
theorem dX9_goBack_151 : decode cX9_goBack 151 = .ok (.iload_n 3, 1) := by decide +kernel
theorem dX9_goBack_152 : decode cX9_goBack 152 = .ok (.bipush 20, 2) := by decide +kernel
theorem dX9_goBack_154 : decode cX9_goBack 154 = .ok (.if_icmp .ge 60, 3) := by decide +kernel
theorem dX9_goBack_157 : decode cX9_goBack 157 = .ok (.aload_n 0, 1) := by decide +kernel
theorem dX9_goBack_158 : decode cX9_goBack 158 = .ok (.getfield 40, 3) := by decide +kernel
theorem dX9_goBack_161 : decode cX9_goBack 161 = .ok (.iload_n 3, 1) := by decide +kernel
theorem dX9_goBack_162 : decode cX9_goBack 162 = .ok (.aload_n 0, 1) := by decide +kernel
theorem dX9_goBack_163 : decode cX9_goBack 163 = .ok (.getfield 107, 3) := by decide +kernel
theorem dX9_goBack_166 : decode cX9_goBack 166 = .ok (.iload_n 2, 1) := by decide +kernel
theorem dX9_goBack_167 : decode cX9_goBack 167 = .ok (.bipush 78, 2) := by decide +kernel
theorem dX9_goBack_169 : decode cX9_goBack 169 = .ok (.iadd, 1) := by decide +kernel
theorem dX9_goBack_170 : decode cX9_goBack 170 = .ok (.iload_n 3, 1) := by decide +kernel
theorem dX9_goBack_171 : decode cX9_goBack 171 = .ok (.iadd, 1) := by decide +kernel
theorem dX9_goBack_172 : decode cX9_goBack 172 = .ok (.iaload, 1) := by decide +kernel
theorem dX9_goBack_173 : decode cX9_goBack 173 = .ok (.iastore, 1) := by decide +kernel
theorem dX9_goBack_174 : decode cX9_goBack 174 = .ok (.aload_n 0, 1) := by decide +kernel
theorem dX9_goBack_175 : decode cX9_goBack 175 = .ok (.getfield 43, 3) := by decide +kernel
theorem dX9_goBack_178 : decode cX9_goBack 178 = .ok (.iload_n 3, 1) := by decide +kernel
theorem dX9_goBack_179 : decode cX9_goBack 179 = .ok (.aload_n 0, 1) := by decide +kernel
theorem dX9_goBack_180 : decode cX9_goBack 180 = .ok (.getfield 107, 3) := by decide +kernel
theorem dX9_goBack_183 : decode cX9_goBack 183 = .ok (.iload_n 2, 1) := by decide +kernel
theorem dX9_goBack_184 : decode cX9_goBack 184 = .ok (.bipush 98, 2) := by decide +kernel
theorem dX9_goBack_186 : decode cX9_goBack 186 = .ok (.iadd, 1) := by decide +kernel
theorem dX9_goBack_187 : decode cX9_goBack 187 = .ok (.iload_n 3, 1) := by decide +kernel
theorem dX9_goBack_188 : decode cX9_goBack 188 = .ok (.iadd, 1) := by decide +kernel
theorem dX9_goBack_189 : decode cX9_goBack 189 = .ok (.iaload, 1) := by decide +kernel
theorem dX9_goBack_190 : decode cX9_goBack 190 = .ok (.iastore, 1) := by decide +kernel
theorem dX9_goBack_191 : decode cX9_goBack 191 = .ok (.aload_n 0, 1) := by decide +kernel
theorem dX9_goBack_192 : decode cX9_goBack 192 = .ok (.getfield 46, 3) := by decide +kernel
theorem dX9_goBack_195 : decode cX9_goBack 195 = .ok (.iload_n 3, 1) := by decide +kernel
theorem dX9_goBack_196 : decode cX9_goBack 196 = .ok (.aload_n 0, 1) := by decide +kernel
theorem dX9_goBack_197 : decode cX9_goBack 197 = .ok (.getfield 107, 3) := by decide +kernel
theorem dX9_goBack_200 : decode cX9_goBack 200 = .ok (.iload_n 2, 1) := by decide +kernel
theorem dX9_goBack_201 : decode cX9_goBack 201 = .ok (.bipush 118, 2) := by decide +kernel
theorem dX9_goBack_203 : decode cX9_goBack 203 = .ok (.iadd, 1) := by decide +kernel
theorem dX9_goBack_204 : decode cX9_goBack 204 = .ok (.iload_n 3, 1) := by decide +kernel
theorem dX9_goBack_205 : decode cX9_goBack 205 = .ok (.iadd, 1) := by decide +kernel
theorem dX9_goBack_206 : decode cX9_goBack 206 = .ok (.iaload, 1) := by decide +kernel
theorem dX9_goBack_207 : decode cX9_goBack 207 = .ok (.iastore, 1) := by decide +kernel
theorem dX9_goBack_208 : decode cX9_goBack 208 = .ok (.iinc 3 1, 3) := by decide +kernel
theorem dX9_goBack_211 : decode cX9_goBack 211 = .ok (.goto (-60), 3) := by decide +kernel
theorem dX9_goBack_214 : decode cX9_goBack 214 = .ok (.iconst 0, 1) := by decide +kernel
theorem dX9_goBack_215 : decode cX9_goBack 215 = .ok (.istore_n 3, 1) := by decide +kernel
theorem dX9_goBack_216 : decode cX9_goBack 216 = .ok (.iload_n 3, 1) := by decide +kernel
theorem dX9_goBack_217 : decode cX9_goBack 217 = .ok (.sipush 320, 3) := by decide +kernel
theorem dX9_goBack_220 : decode cX9_goBack 220 = .ok (.if_icmp .ge 27, 3) := by decide +kernel
theorem dX9_goBack_223 : decode cX9_goBack 223 = .ok (.aload_n 0, 1) := by decide +kernel
theorem dX9_goBack_224 : decode cX9_goBack 224 = .ok (.getfield 49, 3) := by decide +kernel
theorem dX9_goBack_227 : decode cX9_goBack 227 = .ok (.iload_n 3, 1) := by decide +kernel
theorem dX9_goBack_228 : decode cX9_goBack 228 = .ok (.aload_n 0, 1) := by decide +kernel
theorem dX9_goBack_229 : decode cX9_goBack 229 = .ok (.getfield 107, 3) := by decide +kernel
theorem dX9_goBack_232 : decode cX9_goBack 232 = .ok (.iload_n 2, 1) := by decide +kernel
theorem dX9_goBack_233 : decode cX9_goBack 233 = .ok (.sipush 138, 3) := by decide +kernel
theorem dX9_goBack_236 : decode cX9_goBack 236 = .ok (.iadd, 1) := by decide +kernel
theorem dX9_goBack_237 : decode cX9_goBack 237 = .ok (.iload_n 3, 1) := by decide +kernel
theorem dX9_goBack_238 : decode cX9_goBack 238 = .ok (.iadd, 1) := by decide +kernel
theorem dX9_goBack_239 : decode cX9_goBack 239 = .ok (.iaload, 1) := by decide +kernel
theorem dX9_goBack_240 : decode cX9_goBack 240 = .ok (.iastore, 1) := by decide +kernel
theorem dX9_goBack_241 : decode cX9_goBack 241 = .ok (.iinc 3 1, 3) := by decide +kernel
theorem dX9_goBack_244 : decode cX9_goBack 244 = .ok (.goto (-28), 3) := by decide +kernel
theorem dX9_goBack_247 : decode cX9_goBack 247 = .ok (.iconst 1, 1) := by decide +kernel
theorem dX9_goBack_248 : decode cX9_goBack 248 = .ok (.ireturn, 1) := by decide +kernel
theorem dJ6_bitCount_0f7a4_0 : decode cJ6_bitCount_0f7a4 0 = .ok (.iload_n 0, 1) := by decide +kernel
theorem dJ6_bitCount_0f7a4_1 : decode cJ6_bitCount_0f7a4 1 = .ok (.iload_n 0, 1) := by decide +kernel
theorem dJ6_bitCount_0f7a4_2 : decode cJ6_bitCount_0f7a4 2 = .ok (.iconst 1, 1) := by decide +kernel
theorem dJ6_bitCount_0f7a4_3 : decode cJ6_bitCount_0f7a4 3 = .ok (.iushr, 1) := by decide +kernel
theorem dJ6_bitCount_0f7a4_4 : decode cJ6_bitCount_0f7a4 4 = .ok (.ldc_w 265, 3) := by decide +kernel
theorem dJ6_bitCount_0f7a4_7 : decode cJ6_bitCount_0f7a4 7 = .ok (.iand, 1) := by decide +kernel
theorem dJ6_bitCount_0f7a4_8 : decode cJ6_bitCount_0f7a4 8 = .ok (.isub, 1) := by decide +kernel
theorem dJ6_bitCount_0f7a4_9 : decode cJ6_bitCount_0f7a4 9 = .ok (.istore_n 0, 1) := by decide +kernel
theorem dJ6_bitCount_0f7a4_10 : decode cJ6_bitCount_0f7a4 10 = .ok (.iload_n 0, 1) := by decide +kernel
theorem dJ6_bitCount_0f7a4_11 : decode cJ6_bitCount_0f7a4 11 = .ok (.ldc_w 266, 3) := by decide +kernel
theorem dJ6_bitCount_0f7a4_14 : decode cJ6_bitCount_0f7a4 14 = .ok (.iand, 1) := by decide +kernel
theorem dJ6_bitCount_0f7a4_15 : decode cJ6_bitCount_0f7a4 15 = .ok (.iload_n 0, 1) := by decide +kernel
theorem dJ6_bitCount_0f7a4_16 : decode cJ6_bitCount_0f7a4 16 = .ok (.iconst 2, 1) := by decide +kernel
theorem dJ6_bitCount_0f7a4_17 : decode cJ6_bitCount_0f7a4 17 = .ok (.iushr, 1) := by decide +kernel
theorem dJ6_bitCount_0f7a4_18 : decode cJ6_bitCount_0f7a4 18 = .ok (.ldc_w 266, 3) := by decide +kernel
theorem dJ6_bitCount_0f7a4_21 : decode cJ6_bitCount_0f7a4 21 = .ok (.iand, 1) := by decide +kernel
theorem dJ6_bitCount_0f7a4_22 : decode cJ6_bitCount_0f7a4 22 = .ok (.iadd, 1) := by decide +kernel
theorem dJ6_bitCount_0f7a4_23 : decode cJ6_bitCount_0f7a4 23 = .ok (.istore_n 0, 1) := by decide +kernel
theorem dJ6_bitCount_0f7a4_24 : decode cJ6_bitCount_0f7a4 24 = .ok (.iload_n 0, 1) := by decide +kernel
theorem dJ6_bitCount_0f7a4_25 : decode cJ6_bitCount_0f7a4 25 = .ok (.iload_n 0, 1) := by decide +kernel
theorem dJ6_bitCount_0f7a4_26 : decode cJ6_bitCount_0f7a4 26 = .ok (.iconst 4, 1) := by decide +kernel
theorem dJ6_bitCount_0f7a4_27 : decode cJ6_bitCount_0f7a4 27 = .ok (.iushr, 1) := by decide +kernel
theorem dJ6_bitCount_0f7a4_28 : decode cJ6_bitCount_0f7a4 28 = .ok (.iadd, 1) := by decide +kernel
theorem dJ6_bitCount_0f7a4_29 : decode cJ6_bitCount_0f7a4 29 = .ok (.ldc_w 267, 3) := by decide +kernel
theorem dJ6_bitCount_0f7a4_32 : decode cJ6_bitCount_0f7a4 32 = .ok (.iand, 1) := by decide +kernel
theorem dJ6_bitCount_0f7a4_33 : decode cJ6_bitCount_0f7a4 33 = .ok (.istore_n 0, 1) := by decide +kernel
theorem dJ6_bitCount_0f7a4_34 : decode cJ6_bitCount_0f7a4 34 = .ok (.iload_n 0, 1) := by decide +kernel
theorem dJ6_bitCount_0f7a4_35 : decode cJ6_bitCount_0f7a4 35 = .ok (.iload_n 0, 1) := by decide +kernel
theorem dJ6_bitCount_0f7a4_36 : decode cJ6_bitCount_0f7a4 36 = .ok (.bipush 8, 2) := by decide +kernel
theorem dJ6_bitCount_0f7a4_38 : decode cJ6_bitCount_0f7a4 38 = .ok (.iushr, 1) := by decide +kernel
theorem dJ6_bitCount_0f7a4_39 : decode cJ6_bitCount_0f7a4 39 = .ok (.iadd, 1) := by decide +kernel
theorem dJ6_bitCount_0f7a4_40 : decode cJ6_bitCount_0f7a4 40 = .ok (.istore_n 0, 1) := by decide +kernel
theorem dJ6_bitCount_0f7a4_41 : decode cJ6_bitCount_0f7a4 41 = .ok (.iload_n 0, 1) := by decide +kernel
theorem dJ6_bitCount_0f7a4_42 : decode cJ6_bitCount_0f7a4 42 = .ok (.iload_n 0, 1) := by decide +kernel
theorem dJ6_bitCount_0f7a4_43 : decode cJ6_bitCount_0f7a4 43 = .ok (.bipush 16, 2) := by decide +kernel
theorem dJ6_bitCount_0f7a4_45 : decode cJ6_bitCount_0f7a4 45 = .ok (.iushr, 1) := by decide +kernel
theorem dJ6_bitCount_0f7a4_46 : decode cJ6_bitCount_0f7a4 46 = .ok (.iadd, 1) := by decide +kernel
theorem dJ6_bitCount_0f7a4_47 : decode cJ6_bitCount_0f7a4 47 = .ok (.istore_n 0, 1) := by decide +kernel
theorem dJ6_bitCount_0f7a4_48 : decode cJ6_bitCount_0f7a4 48 = .ok (.iload_n 0, 1) := by decide +kernel
theorem dJ6_bitCount_0f7a4_49 : decode cJ6_bitCount_0f7a4 49 = .ok (.bipush 63, 2) := by decide +kernel
theorem dJ6_bitCount_0f7a4_51 : decode cJ6_bitCount_0f7a4 51 = .ok (.iand, 1) := by decide +kernel
theorem dJ6_bitCount_0f7a4_52 : decode cJ6_bitCount_0f7a4 52 = .ok (.ireturn, 1) := by decide +kernel
theorem dJ9_max_7cf53_0 : decode cJ9_max_7cf53 0 = .ok (.iload_n 0, 1) := by decide +kernel
theorem dJ9_max_7cf53_1 : decode cJ9_max_7cf53 1 = .ok (.iload_n 1, 1) := by decide +kernel
theorem dJ9_max_7cf53_2 : decode cJ9_max_7cf53 2 = .ok (.if_icmp .lt 7, 3) := by decide +kernel
theorem dJ9_max_7cf53_5 : decode cJ9_max_7cf53 5 = .ok (.iload_n 0, 1) := by decide +kernel
theorem dJ9_max_7cf53_6 : decode cJ9_max_7cf53 6 = .ok (.goto 4, 3) := by decide +kernel
theorem dJ9_max_7cf53_9 : decode cJ9_max_7cf53 9 = .ok (.iload_n 1, 1) := by decide +kernel
theorem dJ9_max_7cf53_10 : decode cJ9_max_7cf53 10 = .ok (.ireturn, 1) := by decide +kernel
theorem dJ9_min_7cf53_0 : decode cJ9_min_7cf53 0 = .ok (.iload_n 0, 1) := by decide +kernel
theorem dJ9_min_7cf53_1 : decode cJ9_min_7cf53 1 = .ok (.iload_n 1, 1) := by decide +kernel
theorem dJ9_min_7cf53_2 : decode cJ9_min_7cf53 2 = .ok (.if_icmp .gt 7, 3) := by decide +kernel
theorem dJ9_min_7cf53_5 : decode cJ9_min_7cf53 5 = .ok (.iload_n 0, 1) := by decide +kernel
theorem dJ9_min_7cf53_6 : decode cJ9_min_7cf53 6 = .ok (.goto 4, 3) := by decide +kernel
theorem dJ9_min_7cf53_9 : decode cJ9_min_7cf53 9 = .ok (.iload_n 1, 1) := by decide +kernel
theorem dJ9_min_7cf53_10 : decode cJ9_min_7cf53 10 = .ok (.ireturn, 1) := by decide +kernel
set_option maxRecDepth 20000 in
theorem ggJ0_length_8abf5_J0_coder_7d493 : GoodIn wsJ0_length_8abf5 wsJ0_coder_7d493 := goodIn_r _ [6, 7, 8] (by decide +kernel) (by decide +kernel)
set_option maxRecDepth 20000 in
theorem gJ0_length_8abf5_J0_coder_7d493 : GoodIn wsJ0_length_8abf5 (wsV RJ0 335 RJ0 yJ0_coder_7d493 wsJ0_coder_7d493) := goodIn_app (goodIn_of _ (by decide +kernel)) ggJ0_length_8abf5_J0_coder_7d493
theorem dJ0_length_8abf5_0 : decode cJ0_length_8abf5 0 = .ok (.aload_n 0, 1) := by decide +kernel
theorem dJ0_length_8abf5_1 : decode cJ0_length_8abf5 1 = .ok (.getfield 9, 3) := by decide +kernel
theorem dJ0_length_8abf5_4 : decode cJ0_length_8abf5 4 = .ok (.arraylength, 1) := by decide +kernel
theorem dJ0_length_8abf5_5 : decode cJ0_length_8abf5 5 = .ok (.aload_n 0, 1) := by decide +kernel
theorem dJ0_length_8abf5_6 : decode cJ0_length_8abf5 6 = .ok (.invokevirtual 335, 3) := by decide +kernel
theorem dJ0_length_8abf5_9 : decode cJ0_length_8abf5 9 = .ok (.ishr, 1) := by decide +kernel
theorem dJ0_length_8abf5_10 : decode cJ0_length_8abf5 10 = .ok (.ireturn, 1) := by decide +kernel
set_option maxRecDepth 20000 in
theorem ggJ0_charAt_5068e_J0_isLatin1_aae02 : GoodIn wsJ0_charAt_5068e wsJ0_isLatin1_aae02 := goodIn_r _ [6, 7, 8] (by decide +kernel) (by decide +kernel)
set_option maxRecDepth 20000 in
theorem gJ0_charAt_5068e_J0_isLatin1_aae02 : GoodIn wsJ0_charAt_5068e (wsV RJ0 492 RJ0 yJ0_isLatin1_aae02 wsJ0_isLatin1_aae02) := goodIn_app (goodIn_of _ (by decide +kernel)) ggJ0_charAt_5068e_J0_isLatin1_aae02
set_option maxRecDepth 20000 in
theorem ggJ0_charAt_5068e_J1_charAt_3b067 : GoodIn wsJ0_charAt_5068e wsJ1_charAt_3b067 := goodIn_r _ [12, 13, 14, 5, 15, 16, 17, 18, 19, 20] (by decide +kernel) (by decide +kernel)
set_option maxRecDepth 20000 in
theorem gJ0_charAt_5068e_J1_charAt_3b067 : GoodIn wsJ0_charAt_5068e (va_wsS RJ0 495 yJ1_charAt_3b067 wsJ1_charAt_3b067) := goodIn_app (goodIn_of _ (by decide +kernel)) ggJ0_charAt_5068e_J1_charAt_3b067
set_option maxRecDepth 20000 in
theorem ggJ0_charAt_5068e_J2_charAt_3b067 : GoodIn wsJ0_charAt_5068e wsJ2_charAt_3b067 := goodIn_r _ [24, 25, 26, 23, 27, 28, 29, 30, 31, 14, 5, 15, 16, 17, 18, 19, 20, 32, 33, 34, 35, 36, 37] (by decide +kernel) (by decide +kernel)
set_option maxRecDepth 20000 in
theorem gJ0_charAt_5068e_J2_charAt_3b067 : GoodIn wsJ0_charAt_5068e (va_wsS RJ0 498 yJ2_charAt_3b067 wsJ2_charAt_3b067) := goodIn_app (goodIn_of _ (by decide +kernel)) ggJ0_charAt_5068e_J2_charAt_3b067
theorem dJ0_charAt_5068e_0 : decode cJ0_charAt_5068e 0 = .ok (.aload_n 0, 1) := by decide +kernel
theorem dJ0_charAt_5068e_1 : decode cJ0_charAt_5068e 1 = .ok (.invokevirtual 492, 3) := by decide +kernel
theorem dJ0_charAt_5068e_4 : decode cJ0_charAt_5068e 4 = .ok (.ifCond .eq 12, 3) := by decide +kernel
theorem dJ0_charAt_5068e_7 : decode cJ0_charAt_5068e 7 = .ok (.aload_n 0, 1) := by decide +kernel
theorem dJ0_charAt_5068e_8 : decode cJ0_charAt_5068e 8 = .ok (.getfield 9, 3) := by decide +kernel
theorem dJ0_charAt_5068e_11 : decode cJ0_charAt_5068e 11 = .ok (.iload_n 1, 1) := by decide +kernel
theorem dJ0_charAt_5068e_12 : decode cJ0_charAt_5068e 12 = .ok (.invokestatic 495, 3) := by decide +kernel
theorem dJ0_charAt_5068e_15 : decode cJ0_charAt_5068e 15 = .ok (.ireturn, 1) := by decide +kernel
theorem dJ0_charAt_5068e_16 : decode cJ0_charAt_5068e 16 = .ok (.aload_n 0, 1) := by decide +kernel
theorem dJ0_charAt_5068e_17 : decode cJ0_charAt_5068e 17 = .ok (.getfield 9, 3) := by decide +kernel
theorem dJ0_charAt_5068e_20 : decode cJ0_charAt_5068e 20 = .ok (.iload_n 1, 1) := by decide +kernel
theorem dJ0_charAt_5068e_21 : decode cJ0_charAt_5068e 21 = .ok (.invokestatic 498, 3) := by decide +kernel
theorem dJ0_charAt_5068e_24 : decode cJ0_charAt_5068e 24 = .ok (.ireturn, 1) := by decide +kernel
theorem dJ0_coder_7d493_0 : decode cJ0_coder_7d493 0 = .ok (.getstatic 38, 3) := by decide +kernel
theorem dJ0_coder_7d493_3 : decode cJ0_coder_7d493 3 = .ok (.ifCond .eq 10, 3) := by decide +kernel
theorem dJ0_coder_7d493_6 : decode cJ0_coder_7d493 6 = .ok (.aload_n 0, 1) := by decide +kernel
theorem dJ0_coder_7d493_7 : decode cJ0_coder_7d493 7 = .ok (.getfield 15, 3) := by decide +kernel
theorem dJ0_coder_7d493_10 : decode cJ0_coder_7d493 10 = .ok (.goto 4, 3) := by decide +kernel
theorem dJ0_coder_7d493_13 : decode cJ0_coder_7d493 13 = .ok (.iconst 1, 1) := by decide +kernel
theorem dJ0_coder_7d493_14 : decode cJ0_coder_7d493 14 = .ok (.ireturn, 1) := by decide +kernel
theorem dJ0_isLatin1_aae02_0 : decode cJ0_isLatin1_aae02 0 = .ok (.getstatic 38, 3) := by decide +kernel
theorem dJ0_isLatin1_aae02_3 : decode cJ0_isLatin1_aae02 3 = .ok (.ifCond .eq 14, 3) := by decide +kernel
theorem dJ0_isLatin1_aae02_6 : decode cJ0_isLatin1_aae02 6 = .ok (.aload_n 0, 1) := by decide +kernel
theorem dJ0_isLatin1_aae02_7 : decode cJ0_isLatin1_aae02 7 = .ok (.getfield 15, 3) := by decide +kernel
theorem dJ0_isLatin1_aae02_10 : decode cJ0_isLatin1_aae02 10 = .ok (.ifCond .ne 7, 3) := by decide +kernel
theorem dJ0_isLatin1_aae02_13 : decode cJ0_isLatin1_aae02 13 = .ok (.iconst 1, 1) := by decide +kernel
theorem dJ0_isLatin1_aae02_14 : decode cJ0_isLatin1_aae02 14 = .ok (.goto 4, 3) := by decide +kernel
theorem dJ0_isLatin1_aae02_17 : decode cJ0_isLatin1_aae02 17 = .ok (.iconst 0, 1) := by decide +kernel
theorem dJ0_isLatin1_aae02_18 : decode cJ0_isLatin1_aae02 18 = .ok (.ireturn, 1) := by decide +kernel
set_option maxRecDepth 20000 in
theorem ggJ0_checkIndex_df160_J3_checkIndex_8e157 : GoodIn wsJ0_checkIndex_df160 wsJ3_checkIndex_8e157 := goodIn_r _ [5] (by decide +kernel) (by decide +kernel)
set_option maxRecDepth 20000 in
theorem gJ0_checkIndex_df160_J3_checkIndex_8e157 : GoodIn wsJ0_checkIndex_df160 (va_wsS RJ0 1059 yJ3_checkIndex_8e157 wsJ3_checkIndex_8e157) := goodIn_app (goodIn_of _ (by decide +kernel)) ggJ0_checkIndex_df160_J3_checkIndex_8e157
theorem dJ0_checkIndex_df160_0 : decode cJ0_checkIndex_df160 0 = .ok (.iload_n 0, 1) := by decide +kernel
theorem dJ0_checkIndex_df160_1 : decode cJ0_checkIndex_df160 1 = .ok (.iload_n 1, 1) := by decide +kernel
theorem dJ0_checkIndex_df160_2 : decode cJ0_checkIndex_df160 2 = .ok (.getstatic 1053, 3) := by decide +kernel
theorem dJ0_checkIndex_df160_5 : decode cJ0_checkIndex_df160 5 = .ok (.invokestatic 1059, 3) := by decide +kernel
theorem dJ0_checkIndex_df160_8 : decode cJ0_checkIndex_df160 8 = .ok (.pop, 1) := by decide +kernel
theorem dJ0_checkIndex_df160_9 : decode cJ0_checkIndex_df160 9 = .ok (.return_, 1) := by decide +kernel
set_option maxRecDepth 20000 in
theorem ggJ1_charAt_3b067_J0_checkIndex_df160 : GoodIn wsJ1_charAt_3b067 wsJ0_checkIndex_df160 := goodIn_r _ [4, 5, 6, 7, 8, 9] (by decide +kernel) (by decide +kernel)
set_option maxRecDepth 20000 in
theorem gJ1_charAt_3b067_J0_checkIndex_df160 : GoodIn wsJ1_charAt_3b067 (va_wsS RJ1 9 yJ0_checkIndex_df160 wsJ0_checkIndex_df160) := goodIn_app (goodIn_of _ (by decide +kernel)) ggJ1_charAt_3b067_J0_checkIndex_df160
theorem dJ1_charAt_3b067_0 : decode cJ1_charAt_3b067 0 = .ok (.iload_n 1, 1) := by decide +kernel
theorem dJ1_charAt_3b067_1 : decode cJ1_charAt_3b067 1 = .ok (.aload_n 0, 1) := by decide +kernel
theorem dJ1_charAt_3b067_2 : decode cJ1_charAt_3b067 2 = .ok (.arraylength, 1) := by decide +kernel
theorem dJ1_charAt_3b067_3 : decode cJ1_charAt_3b067 3 = .ok (.invokestatic 9, 3) := by decide +kernel
theorem dJ1_charAt_3b067_6 : decode cJ1_charAt_3b067 6 = .ok (.aload_n 0, 1) := by decide +kernel
theorem dJ1_charAt_3b067_7 : decode cJ1_charAt_3b067 7 = .ok (.iload_n 1, 1) := by decide +kernel
theorem dJ1_charAt_3b067_8 : decode cJ1_charAt_3b067 8 = .ok (.baload, 1) := by decide +kernel
theorem dJ1_charAt_3b067_9 : decode cJ1_charAt_3b067 9 = .ok (.sipush 255, 3) := by decide +kernel
theorem dJ1_charAt_3b067_12 : decode cJ1_charAt_3b067 12 = .ok (.iand, 1) := by decide +kernel
theorem dJ1_charAt_3b067_13 : decode cJ1_charAt_3b067 13 = .ok (.i2c, 1) := by decide +kernel
theorem dJ1_charAt_3b067_14 : decode cJ1_charAt_3b067 14 = .ok (.ireturn, 1) := by decide +kernel
set_option maxRecDepth 20000 in
theorem ggJ2_getChar_3b067_J2_length_9d52b : GoodIn wsJ2_getChar_3b067 wsJ2_length_9d52b := goodIn_r _ [7] (by decide +kernel) (by decide +kernel)
set_option maxRecDepth 20000 in
theorem gJ2_getChar_3b067_J2_length_9d52b : GoodIn wsJ2_getChar_3b067 (va_wsS RJ2 48 yJ2_length_9d52b wsJ2_length_9d52b) := goodIn_app (goodIn_of _ (by decide +kernel)) ggJ2_getChar_3b067_J2_length_9d52b
theorem dJ2_getChar_3b067_0 : decode cJ2_getChar_3b067 0 = .ok (.getstatic 44, 3) := by decide +kernel
theorem dJ2_getChar_3b067_3 : decode cJ2_getChar_3b067 3 = .ok (.ifCond .ne 25, 3) := by decide +kernel
theorem dJ2_getChar_3b067_6 : decode cJ2_getChar_3b067 6 = .ok (.iload_n 1, 1) := by decide +kernel
theorem dJ2_getChar_3b067_7 : decode cJ2_getChar_3b067 7 = .ok (.ifCond .lt 11, 3) := by decide +kernel
theorem dJ2_getChar_3b067_10 : decode cJ2_getChar_3b067 10 = .ok (.iload_n 1, 1) := by decide +kernel
theorem dJ2_getChar_3b067_11 : decode cJ2_getChar_3b067 11 = .ok (.aload_n 0, 1) := by decide +kernel
theorem dJ2_getChar_3b067_12 : decode cJ2_getChar_3b067 12 = .ok (.invokestatic 48, 3) := by decide +kernel
theorem dJ2_getChar_3b067_15 : decode cJ2_getChar_3b067 15 = .ok (.if_icmp .lt 13, 3) := by decide +kernel
theorem dJ2_getChar_3b067_18 : decode cJ2_getChar_3b067 18 = .ok (.new 52, 3) := by decide +kernel
theorem dJ2_getChar_3b067_21 : decode cJ2_getChar_3b067 21 = .ok (.dup, 1) := by decide +kernel
theorem dJ2_getChar_3b067_22 : decode cJ2_getChar_3b067 22 = .ok (.ldc 54, 2) := by decide +kernel
theorem dJ2_getChar_3b067_24 : decode cJ2_getChar_3b067 24 = .ok (.invokespecial 56, 3) := by decide +kernel
theorem dJ2_getChar_3b067_27 : decode cJ2_getChar_3b067 27 = .ok (.athrow, 1) := by decide +kernel
theorem dJ2_getChar_3b067_28 : decode cJ2_getChar_3b067 28 = .ok (.iload_n 1, 1) := by decide +kernel
theorem dJ2_getChar_3b067_29 : decode cJ2_getChar_3b067 29 = .ok (.iconst 1, 1) := by decide +kernel
theorem dJ2_getChar_3b067_30 : decode cJ2_getChar_3b067 30 = .ok (.ishl, 1) := by decide +kernel
theorem dJ2_getChar_3b067_31 : decode cJ2_getChar_3b067 31 = .ok (.istore_n 1, 1) := by decide +kernel
theorem dJ2_getChar_3b067_32 : decode cJ2_getChar_3b067 32 = .ok (.aload_n 0, 1) := by decide +kernel
theorem dJ2_getChar_3b067_33 : decode cJ2_getChar_3b067 33 = .ok (.iload_n 1, 1) := by decide +kernel
theorem dJ2_getChar_3b067_34 : decode cJ2_getChar_3b067 34 = .ok (.iinc 1 1, 3) := by decide +kernel
theorem dJ2_getChar_3b067_37 : decode cJ2_getChar_3b067 37 = .ok (.baload, 1) := by decide +kernel
theorem dJ2_getChar_3b067_38 : decode cJ2_getChar_3b067 38 = .ok (.sipush 255, 3) := by decide +kernel
theorem dJ2_getChar_3b067_41 : decode cJ2_getChar_3b067 41 = .ok (.iand, 1) := by decide +kernel
theorem dJ2_getChar_3b067_42 : decode cJ2_getChar_3b067 42 = .ok (.getstatic 59, 3) := by decide +kernel
theorem dJ2_getChar_3b067_45 : decode cJ2_getChar_3b067 45 = .ok (.ishl, 1) := by decide +kernel
theorem dJ2_getChar_3b067_46 : decode cJ2_getChar_3b067 46 = .ok (.aload_n 0, 1) := by decide +kernel
theorem dJ2_getChar_3b067_47 : decode cJ2_getChar_3b067 47 = .ok (.iload_n 1, 1) := by decide +kernel
theorem dJ2_getChar_3b067_48 : decode cJ2_getChar_3b067 48 = .ok (.baload, 1) := by decide +kernel
theorem dJ2_getChar_3b067_49 : decode cJ2_getChar_3b067 49 = .ok (.sipush 255, 3) := by decide +kernel
theorem dJ2_getChar_3b067_52 : decode cJ2_getChar_3b067 52 = .ok (.iand, 1) := by decide +kernel
theorem dJ2_getChar_3b067_53 : decode cJ2_getChar_3b067 53 = .ok (.getstatic 63, 3) := by decide +kernel
theorem dJ2_getChar_3b067_56 : decode cJ2_getChar_3b067 56 = .ok (.ishl, 1) := by decide +kernel
theorem dJ2_getChar_3b067_57 : decode cJ2_getChar_3b067 57 = .ok (.ior, 1) := by decide +kernel
theorem dJ2_getChar_3b067_58 : decode cJ2_getChar_3b067 58 = .ok (.i2c, 1) := by decide +kernel
theorem dJ2_getChar_3b067_59 : decode cJ2_getChar_3b067 59 = .ok (.ireturn, 1) := by decide +kernel
theorem dJ2_length_9d52b_0 : decode cJ2_length_9d52b 0 = .ok (.aload_n 0, 1) := by decide +kernel
theorem dJ2_length_9d52b_1 : decode cJ2_length_9d52b 1 = .ok (.arraylength, 1) := by decide +kernel
theorem dJ2_length_9d52b_2 : decode cJ2_length_9d52b 2 = .ok (.iconst 1, 1) := by decide +kernel
theorem dJ2_length_9d52b_3 : decode cJ2_length_9d52b 3 = .ok (.ishr, 1) := by decide +kernel
theorem dJ2_length_9d52b_4 : decode cJ2_length_9d52b 4 = .ok (.ireturn, 1) := by decide +kernel
set_option maxRecDepth 20000 in
theorem ggJ2_charAt_3b067_J2_checkIndex_2214a : GoodIn wsJ2_charAt_3b067 wsJ2_checkIndex_2214a := goodIn_r _ [4, 5, 6, 3, 7, 8, 9, 10, 11, 12, 13, 14, 15, 16] (by decide +kernel) (by decide +kernel)
set_option maxRecDepth 20000 in
theorem gJ2_charAt_3b067_J2_checkIndex_2214a : GoodIn wsJ2_charAt_3b067 (va_wsS RJ2 67 yJ2_checkIndex_2214a wsJ2_checkIndex_2214a) := goodIn_app (goodIn_of _ (by decide +kernel)) ggJ2_charAt_3b067_J2_checkIndex_2214a
set_option maxRecDepth 20000 in
theorem ggJ2_charAt_3b067_J2_getChar_3b067 : GoodIn wsJ2_charAt_3b067 wsJ2_getChar_3b067 := goodIn_r _ [19, 20, 21, 22, 5, 6, 3, 7] (by decide +kernel) (by decide +kernel)
set_option maxRecDepth 20000 in
theorem gJ2_charAt_3b067_J2_getChar_3b067 : GoodIn wsJ2_charAt_3b067 (va_wsS RJ2 71 yJ2_getChar_3b067 wsJ2_getChar_3b067) := goodIn_app (goodIn_of _ (by decide +kernel)) ggJ2_charAt_3b067_J2_getChar_3b067
theorem dJ2_charAt_3b067_0 : decode cJ2_charAt_3b067 0 = .ok (.iload_n 1, 1) := by decide +kernel
theorem dJ2_charAt_3b067_1 : decode cJ2_charAt_3b067 1 = .ok (.aload_n 0, 1) := by decide +kernel
theorem dJ2_charAt_3b067_2 : decode cJ2_charAt_3b067 2 = .ok (.invokestatic 67, 3) := by decide +kernel
theorem dJ2_charAt_3b067_5 : decode cJ2_charAt_3b067 5 = .ok (.aload_n 0, 1) := by decide +kernel
theorem dJ2_charAt_3b067_6 : decode cJ2_charAt_3b067 6 = .ok (.iload_n 1, 1) := by decide +kernel
theorem dJ2_charAt_3b067_7 : decode cJ2_charAt_3b067 7 = .ok (.invokestatic 71, 3) := by decide +kernel
theorem dJ2_charAt_3b067_10 : decode cJ2_charAt_3b067 10 = .ok (.ireturn, 1) := by decide +kernel
set_option maxRecDepth 20000 in
theorem ggJ2_checkIndex_2214a_J2_length_9d52b : GoodIn wsJ2_checkIndex_2214a wsJ2_length_9d52b := goodIn_r _ [4] (by decide +kernel) (by decide +kernel)
set_option maxRecDepth 20000 in
theorem gJ2_checkIndex_2214a_J2_length_9d52b : GoodIn wsJ2_checkIndex_2214a (va_wsS RJ2 48 yJ2_length_9d52b wsJ2_length_9d52b) := goodIn_app (goodIn_of _ (by decide +kernel)) ggJ2_checkIndex_2214a_J2_length_9d52b
set_option maxRecDepth 20000 in
theorem ggJ2_checkIndex_2214a_J0_checkIndex_df160 : GoodIn wsJ2_checkIndex_2214a wsJ0_checkIndex_df160 := goodIn_r _ [8, 9, 10, 11, 12, 13] (by decide +kernel) (by decide +kernel)
set_option maxRecDepth 20000 in
theorem gJ2_checkIndex_2214a_J0_checkIndex_df160 : GoodIn wsJ2_checkIndex_2214a (va_wsS RJ2 414 yJ0_checkIndex_df160 wsJ0_checkIndex_df160) := goodIn_app (goodIn_of _ (by decide +kernel)) ggJ2_checkIndex_2214a_J0_checkIndex_df160
theorem dJ2_checkIndex_2214a_0 : decode cJ2_checkIndex_2214a 0 = .ok (.iload_n 0, 1) := by decide +kernel
theorem dJ2_checkIndex_2214a_1 : decode cJ2_checkIndex_2214a 1 = .ok (.aload_n 1, 1) := by decide +kernel
theorem dJ2_checkIndex_2214a_2 : decode cJ2_checkIndex_2214a 2 = .ok (.invokestatic 48, 3) := by decide +kernel
theorem dJ2_checkIndex_2214a_5 : decode cJ2_checkIndex_2214a 5 = .ok (.invokestatic 414, 3) := by decide +kernel
theorem dJ2_checkIndex_2214a_8 : decode cJ2_checkIndex_2214a 8 = .ok (.return_, 1) := by decide +kernel
theorem dJ3_checkIndex_8e157_0 : decode cJ3_checkIndex_8e157 0 = .ok (.iload_n 0, 1) := by decide +kernel
theorem dJ3_checkIndex_8e157_1 : decode cJ3_checkIndex_8e157 1 = .ok (.ifCond .lt 8, 3) := by decide +kernel
theorem dJ3_checkIndex_8e157_4 : decode cJ3_checkIndex_8e157 4 = .ok (.iload_n 0, 1) := by decide +kernel
theorem dJ3_checkIndex_8e157_5 : decode cJ3_checkIndex_8e157 5 = .ok (.iload_n 1, 1) := by decide +kernel
theorem dJ3_checkIndex_8e157_6 : decode cJ3_checkIndex_8e157 6 = .ok (.if_icmp .lt 10, 3) := by decide +kernel
theorem dJ3_checkIndex_8e157_9 : decode cJ3_checkIndex_8e157 9 = .ok (.aload_n 2, 1) := by decide +kernel
theorem dJ3_checkIndex_8e157_10 : decode cJ3_checkIndex_8e157 10 = .ok (.iload_n 0, 1) := by decide +kernel
theorem dJ3_checkIndex_8e157_11 : decode cJ3_checkIndex_8e157 11 = .ok (.iload_n 1, 1) := by decide +kernel
theorem dJ3_checkIndex_8e157_12 : decode cJ3_checkIndex_8e157 12 = .ok (.invokestatic 95, 3) := by decide +kernel
theorem dJ3_checkIndex_8e157_15 : decode cJ3_checkIndex_8e157 15 = .ok (.athrow, 1) := by decide +kernel
theorem dJ3_checkIndex_8e157_16 : decode cJ3_checkIndex_8e157 16 = .ok (.iload_n 0, 1) := by decide +kernel
theorem dJ3_checkIndex_8e157_17 : decode cJ3_checkIndex_8e157 17 = .ok (.ireturn, 1) := by decide +kernel
set_option maxRecDepth 20000 in
theorem ggL_law_X8_init : GoodIn wsL_law wsX8_init := goodIn_r _ [9, 10, 11, 12, 13, 14, 15, 16, 17, 18, 19, 20, 21, 22, 23, 24, 25, 26, 27, 28, 29, 30, 31, 32, 33, 34, 35, 36, 37, 38, 39, 40, 41, 42, 43, 44, 45, 46, 47, 48, 49, 50, 51, 52, 53, 54, 55, 56, 57, 58, 59, 60, 61, 62, 63, 64, 65, 66, 67, 68, 69, 70, 71, 72, 73, 74, 75, 76, 77, 78, 79, 80, 81, 82, 83, 84, 85, 86, 87, 88, 89, 90, 91, 92, 93, 94, 95, 96, 97, 98, 99, 100, 101, 102, 103, 104, 105, 106, 107, 108, 109, 110, 111, 112, 113, 114, 115, 116, 117, 118, 119, 120, 121, 122, 123, 124, 125, 126, 127, 128, 129, 130, 131, 132, 133, 134, 135, 136, 1284, 1285, 1215, 1216, 1217, 1218, 1219, 1220, 1221, 1222, 1223, 1224, 1225, 1226, 1227, 1228, 1286, 1287, 1288, 1289, 1290, 1291, 1292, 1293, 1294, 1295, 1296, 1297, 1298, 1299, 1300, 1301, 1302, 1303, 1304, 1305, 1306, 1307, 1308, 1309, 1310, 1311, 1312, 1313, 1314, 1315, 1316, 1317, 1318, 1319, 1320, 1321, 1322, 1323, 1324, 1325, 1326, 1327, 1328, 1329, 1330, 1331, 1332, 1333, 1334, 1335, 1336, 1337, 1338, 1339] (by decide +kernel) (by decide +kernel)
set_option maxRecDepth 20000 in
theorem gL_law_X8_init : GoodIn wsL_law (wsX8_init) := ggL_law_X8_init
set_option maxRecDepth 20000 in
theorem ggL_law_X9_init : GoodIn wsL_law wsX9_init := goodIn_r _ [139, 140, 11, 12, 54, 141, 142, 143, 144, 145, 146, 147, 148, 149, 150, 151, 152, 153, 154, 155, 156, 157, 158, 159, 160, 161, 162, 163, 164, 165, 166, 167, 168, 169, 170, 171, 172, 173, 131, 174, 175, 1229, 1230, 1231, 1232, 1233, 1234, 1235, 1236, 1237, 1238, 1239, 1240, 1241, 1242, 1243, 1244, 1245, 1246, 1247, 1248, 1249, 1250, 1251, 1252, 1253, 1254, 1255, 1256, 1257, 1258, 1259, 1260, 1261, 1262, 1263, 1264, 1265, 1266, 1267, 1268, 1269, 1270, 1271, 1272, 1273, 1274, 1275, 1276, 1277, 1278, 1279, 1280, 1281, 1282, 1283] (by decide +kernel) (by decide +kernel)
set_option maxRecDepth 20000 in
theorem gL_law_X9_init : GoodIn wsL_law (wsX9_init) := ggL_law_X9_init
set_option maxRecDepth 20000 in
theorem ggL_law_X8_feed : GoodIn wsL_law wsX8_feed := goodIn_r _ [179, 16, 180, 181, 182, 183, 15, 184, 56, 55, 1215, 1216, 1217, 1218, 1219, 1220, 1221, 1222, 1223, 1224, 1225, 1226, 1227, 1228, 1284, 1285] (by decide +kernel) (by decide +kernel)
set_option maxRecDepth 20000 in
theorem gL_law_X8_feed : GoodIn wsL_law (wsV RL 15 RX8 yX8_feed wsX8_feed) := goodIn_app (goodIn_of _ (by decide +kernel)) ggL_law_X8_feed
set_option maxRecDepth 20000 in
theorem ggL_law_X9_feed : GoodIn wsL_law wsX9_feed := goodIn_r _ [188, 189, 190, 155, 191, 192, 193, 5, 194, 1229, 1230, 1231, 1232, 1233, 1234, 1235, 1236, 1237, 1238, 1239, 1240, 1241, 1242, 1243, 1244, 1245, 1246, 1247, 1248, 1249, 1250, 1251, 1252, 1253, 1254, 1255, 1256, 1257, 1258, 1259, 1260, 1261, 1262, 1263, 1264, 1265, 1266, 1267, 1268, 1269, 1270, 1271, 1272, 1273, 1274, 1275, 1276, 1277, 1278, 1279, 1280, 1281, 1282, 1283] (by decide +kernel) (by decide +kernel)
set_option maxRecDepth 20000 in
theorem gL_law_X9_feed : GoodIn wsL_law (wsV RL 19 RX9 yX9_feed wsX9_feed) := goodIn_app (goodIn_of _ (by decide +kernel)) ggL_law_X9_feed
set_option maxRecDepth 20000 in
theorem ggL_law_X8_trunk : GoodIn wsL_law wsX8_trunk := goodIn_r _ [198, 20, 25, 16, 180, 199, 50, 200, 24, 34, 201, 202, 49, 203, 204, 205, 206, 19, 207, 61, 64, 66, 67, 208, 209, 210, 211, 68, 212, 213, 63, 62, 214, 215, 216, 217, 218, 219, 23, 220, 72, 78, 221, 222, 223, 224, 225, 226, 227, 228, 229, 230, 231, 232, 233, 234, 235, 236, 237, 238, 239, 240, 241, 242, 243, 244, 245, 246, 247, 248, 249, 250, 251, 252, 253, 254, 255, 256, 257, 258, 259, 260, 261, 262, 263, 264, 265, 266, 267, 268, 269, 270, 271, 272, 273, 274, 275, 276, 277, 278, 279, 280, 281, 75, 282, 283, 284, 285, 286, 287, 288, 289, 290, 73, 74, 76, 291, 292, 293, 294, 295, 296, 297, 298, 299, 300, 301, 302, 303, 65, 304, 305, 306, 307, 308, 309, 2, 310, 311, 312, 313, 314, 315, 316, 317, 318, 319, 320, 321, 322, 323, 324, 325, 326, 327, 328, 329, 330, 331, 332, 333, 334, 335, 77, 336, 337, 338, 339, 340, 341, 342, 343, 344, 345, 346, 347, 79, 80, 81, 348, 349, 350, 351, 352, 353, 354, 355, 356, 1215, 1216, 1217, 1218, 1219, 1220, 1221, 1222, 1223, 1224, 1225, 1226, 1227, 1228, 1284, 1285, 1286, 1287, 1288, 1289, 1290, 1291, 1292, 1293, 1311, 1312, 1313, 1314, 1315, 1316, 1317, 1318, 1319, 1320, 1294, 1295, 1296, 1297, 1298, 1299, 1300, 1301, 1302, 1303] (by decide +kernel) (by decide +kernel)
set_option maxRecDepth 20000 in
theorem gL_law_X8_trunk : GoodIn wsL_law (wsV RL 20 RX8 yX8_trunk wsX8_trunk) := goodIn_app (goodIn_of _ (by decide +kernel)) ggL_law_X8_trunk
set_option maxRecDepth 20000 in
theorem ggL_law_X9_trunk : GoodIn wsL_law wsX9_trunk := goodIn_r _ [360, 156, 361, 362, 363, 364, 190, 175, 365, 366, 367, 5, 368, 155, 369, 370, 371, 372, 373, 374, 375, 376, 377, 378, 379, 380, 381, 382, 383, 384, 192, 193, 194, 385, 386, 387, 388, 389, 390, 391, 392, 393, 394, 395, 396, 397, 398, 157, 158, 159, 399, 400, 401, 402, 403, 404, 405, 406, 407, 408, 409, 410, 411, 412, 413, 414, 415, 416, 417, 418, 419, 420, 421, 422, 423, 424, 425, 426, 427, 428, 429, 430, 431, 432, 433, 434, 160, 161, 162, 435, 436, 437, 438, 439, 141, 142, 143, 144, 145, 146, 440, 441, 174, 442, 443, 444, 445, 163, 446, 447, 448, 449, 1229, 1230, 1231, 1232, 1233, 1234, 1235, 1236, 1237, 1238, 1239, 1240, 1241, 1242, 1243, 1244, 1245, 1246, 1247, 1248, 1249, 1250, 1251, 1252, 1253, 1254, 1255, 1256, 1257, 1258, 1259, 1260, 1261, 1262, 1263, 1264, 1265, 1266, 1267, 1268, 1269, 1270, 1271, 1272, 1273, 1274, 1275, 1276, 1277, 1278, 1279, 1280, 1281, 1282, 1283] (by decide +kernel) (by decide +kernel)
set_option maxRecDepth 20000 in
theorem gL_law_X9_trunk : GoodIn wsL_law (wsV RL 24 RX9 yX9_trunk wsX9_trunk) := goodIn_app (goodIn_of _ (by decide +kernel)) ggL_law_X9_trunk
set_option maxRecDepth 20000 in
theorem ggL_law_X8_policy : GoodIn wsL_law wsX8_policy := goodIn_r _ [453, 16, 180, 20, 30, 199, 50, 200, 29, 454, 204, 205, 206, 19, 207, 61, 64, 66, 67, 208, 209, 210, 211, 68, 212, 213, 63, 62, 214, 215, 216, 455, 456, 457, 28, 458, 85, 86, 89, 90, 91, 459, 222, 223, 224, 460, 461, 462, 463, 464, 226, 227, 228, 229, 230, 231, 232, 233, 234, 235, 236, 237, 238, 239, 240, 241, 242, 243, 244, 245, 246, 247, 248, 249, 250, 251, 252, 253, 254, 255, 256, 257, 258, 259, 260, 261, 262, 263, 264, 265, 266, 267, 268, 269, 270, 271, 272, 273, 274, 275, 276, 277, 465, 466, 467, 468, 87, 88, 469, 470, 312, 313, 314, 65, 304, 305, 306, 307, 308, 283, 284, 285, 471, 472, 473, 474, 475, 476, 477, 478, 479, 480, 481, 482, 483, 484, 301, 302, 303, 309, 2, 310, 485, 316, 317, 318, 319, 320, 321, 322, 486, 328, 329, 330, 331, 487, 488, 489, 490, 491, 337, 338, 339, 1215, 1216, 1217, 1218, 1219, 1220, 1221, 1222, 1223, 1224, 1225, 1226, 1227, 1228, 1284, 1285, 1286, 1287, 1288, 1289, 1290, 1291, 1292, 1293, 1304, 1305, 1306, 1307, 1308, 1309, 1310] (by decide +kernel) (by decide +kernel)
set_option maxRecDepth 20000 in
theorem gL_law_X8_policy : GoodIn wsL_law (wsV RL 25 RX8 yX8_policy wsX8_policy) := goodIn_app (goodIn_of _ (by decide +kernel)) ggL_law_X8_policy
set_option maxRecDepth 20000 in
theorem ggL_law_X9_policy : GoodIn wsL_law wsX9_policy := goodIn_r _ [495, 190, 156, 361, 362, 496, 497, 498, 499, 500, 167, 171, 168, 172, 169, 170, 501, 365, 366, 367, 5, 368, 155, 502, 503, 504, 505, 373, 374, 399, 375, 376, 377, 378, 379, 380, 381, 382, 383, 384, 192, 193, 194, 385, 386, 387, 388, 389, 390, 391, 392, 393, 394, 506, 507, 508, 509, 410, 411, 412, 413, 414, 415, 409, 510, 511, 512, 513, 404, 416, 417, 418, 419, 420, 421, 422, 427, 428, 429, 430, 1229, 1230, 1231, 1232, 1233, 1234, 1235, 1236, 1237, 1238, 1239, 1240, 1241, 1242, 1243, 1244, 1245, 1246, 1247, 1248, 1249, 1250, 1251, 1252, 1253, 1254, 1255, 1256, 1257, 1258, 1259, 1260, 1261, 1262, 1263, 1264, 1265, 1266, 1267, 1268, 1269, 1270, 1271, 1272, 1273, 1274, 1275, 1276, 1277, 1278, 1279, 1280, 1281, 1282, 1283] (by decide +kernel) (by decide +kernel)
set_option maxRecDepth 20000 in
theorem gL_law_X9_policy : GoodIn wsL_law (wsV RL 28 RX9 yX9_policy wsX9_policy) := goodIn_app (goodIn_of _ (by decide +kernel)) ggL_law_X9_policy
set_option maxRecDepth 20000 in
theorem ggL_law_X8_breach : GoodIn wsL_law wsX8_breach := goodIn_r _ [517, 50, 1215, 1216, 1217, 1218, 1219, 1220, 1221, 1222, 1223, 1224, 1225, 1226, 1227, 1228] (by decide +kernel) (by decide +kernel)
set_option maxRecDepth 20000 in
theorem gL_law_X8_breach : GoodIn wsL_law (wsV RL 29 RX8 yX8_breach wsX8_breach) := goodIn_app (goodIn_of _ (by decide +kernel)) ggL_law_X8_breach
set_option maxRecDepth 20000 in
theorem ggL_law_X9_breach : GoodIn wsL_law wsX9_breach := goodIn_r _ [521, 156, 1229, 1230, 1231, 1232, 1233, 1234, 1235, 1236, 1237, 1238, 1239, 1240, 1241, 1242, 1243, 1244, 1245, 1246, 1247, 1248, 1249, 1250, 1251, 1252, 1253, 1254, 1255, 1256, 1257, 1258, 1259, 1260, 1261, 1262, 1263, 1264, 1265, 1266, 1267, 1268, 1269, 1270, 1271, 1272, 1273, 1274, 1275, 1276, 1277, 1278, 1279, 1280, 1281, 1282, 1283] (by decide +kernel) (by decide +kernel)
set_option maxRecDepth 20000 in
theorem gL_law_X9_breach : GoodIn wsL_law (wsV RL 32 RX9 yX9_breach wsX9_breach) := goodIn_app (goodIn_of _ (by decide +kernel)) ggL_law_X9_breach
set_option maxRecDepth 20000 in
theorem ggL_law_X8_change : GoodIn wsL_law wsX8_change := goodIn_r _ [525, 24, 526, 527, 528, 529, 530, 531, 23, 532, 72, 533, 534, 535, 536, 78, 80, 537, 538, 539, 540, 541, 542, 543, 544, 81, 309, 2, 310, 1215, 1216, 1217, 1218, 1219, 1220, 1221, 1222, 1223, 1224, 1225, 1226, 1227, 1228, 1294, 1295, 1296, 1297, 1298, 1299, 1300, 1301, 1302, 1303] (by decide +kernel) (by decide +kernel)
set_option maxRecDepth 20000 in
theorem gL_law_X8_change : GoodIn wsL_law (wsV RL 33 RX8 yX8_change wsX8_change) := goodIn_app (goodIn_of _ (by decide +kernel)) ggL_law_X8_change
set_option maxRecDepth 20000 in
theorem ggL_law_X9_change : GoodIn wsL_law wsX9_change := goodIn_r _ [548, 142, 143, 145, 146, 549, 550, 551, 5, 552, 175, 192, 193, 194, 553, 554, 555, 556, 141, 557, 558, 559, 560, 439, 1229, 1230, 1231, 1232, 1233, 1234, 1235, 1236, 1237, 1238, 1239, 1240, 1241, 1242, 1243, 1244, 1245, 1246, 1247, 1248, 1249, 1250, 1251, 1252, 1253, 1254, 1255, 1256, 1257, 1258, 1259, 1260, 1261, 1262, 1263, 1264, 1265, 1266, 1267, 1268, 1269, 1270, 1271, 1272, 1273, 1274, 1275, 1276, 1277, 1278, 1279, 1280, 1281, 1282, 1283] (by decide +kernel) (by decide +kernel)
set_option maxRecDepth 20000 in
theorem gL_law_X9_change : GoodIn wsL_law (wsV RL 37 RX9 yX9_change wsX9_change) := goodIn_app (goodIn_of _ (by decide +kernel)) ggL_law_X9_change
set_option maxRecDepth 20000 in
theorem ggL_law_X8_sets : GoodIn wsL_law wsX8_sets := goodIn_r _ [564, 24, 565, 529, 530, 531, 23, 532, 72, 566, 567, 2, 568, 1215, 1216, 1217, 1218, 1219, 1220, 1221, 1222, 1223, 1224, 1225, 1226, 1227, 1228, 1294, 1295, 1296, 1297, 1298, 1299, 1300, 1301, 1302, 1303] (by decide +kernel) (by decide +kernel)
set_option maxRecDepth 20000 in
theorem gL_law_X8_sets : GoodIn wsL_law (wsV RL 38 RX8 yX8_sets wsX8_sets) := goodIn_app (goodIn_of _ (by decide +kernel)) ggL_law_X8_sets
set_option maxRecDepth 20000 in
theorem ggL_law_X9_sets : GoodIn wsL_law wsX9_sets := goodIn_r _ [572, 141, 549, 550, 551, 5, 552, 175, 192, 193, 194, 573, 574, 575, 576, 1229, 1230, 1231, 1232, 1233, 1234, 1235, 1236, 1237, 1238, 1239, 1240, 1241, 1242, 1243, 1244, 1245, 1246, 1247, 1248, 1249, 1250, 1251, 1252, 1253, 1254, 1255, 1256, 1257, 1258, 1259, 1260, 1261, 1262, 1263, 1264, 1265, 1266, 1267, 1268, 1269, 1270, 1271, 1272, 1273, 1274, 1275, 1276, 1277, 1278, 1279, 1280, 1281, 1282, 1283] (by decide +kernel) (by decide +kernel)
set_option maxRecDepth 20000 in
theorem gL_law_X9_sets : GoodIn wsL_law (wsV RL 41 RX9 yX9_sets wsX9_sets) := goodIn_app (goodIn_of _ (by decide +kernel)) ggL_law_X9_sets
set_option maxRecDepth 20000 in
theorem ggL_law_X8_ahead : GoodIn wsL_law wsX8_ahead := goodIn_r _ [580, 24, 203, 581, 566, 567, 2, 568, 1215, 1216, 1217, 1218, 1219, 1220, 1221, 1222, 1223, 1224, 1225, 1226, 1227, 1228, 1294, 1295, 1296, 1297, 1298, 1299, 1300, 1301, 1302, 1303] (by decide +kernel) (by decide +kernel)
set_option maxRecDepth 20000 in
theorem gL_law_X8_ahead : GoodIn wsL_law (wsV RL 42 RX8 yX8_ahead wsX8_ahead) := goodIn_app (goodIn_of _ (by decide +kernel)) ggL_law_X8_ahead
set_option maxRecDepth 20000 in
theorem ggL_law_X9_ahead : GoodIn wsL_law wsX9_ahead := goodIn_r _ [585, 175, 192, 193, 5, 194, 573, 574, 575, 576, 586, 587, 588, 589, 163, 1229, 1230, 1231, 1232, 1233, 1234, 1235, 1236, 1237, 1238, 1239, 1240, 1241, 1242, 1243, 1244, 1245, 1246, 1247, 1248, 1249, 1250, 1251, 1252, 1253, 1254, 1255, 1256, 1257, 1258, 1259, 1260, 1261, 1262, 1263, 1264, 1265, 1266, 1267, 1268, 1269, 1270, 1271, 1272, 1273, 1274, 1275, 1276, 1277, 1278, 1279, 1280, 1281, 1282, 1283] (by decide +kernel) (by decide +kernel)
set_option maxRecDepth 20000 in
theorem gL_law_X9_ahead : GoodIn wsL_law (wsV RL 45 RX9 yX9_ahead wsX9_ahead) := goodIn_app (goodIn_of _ (by decide +kernel)) ggL_law_X9_ahead
set_option maxRecDepth 20000 in
theorem ggL_law_X8_fault : GoodIn wsL_law wsX8_fault := goodIn_r _ [593, 24, 594, 595, 596, 597, 598, 599, 23, 600, 78, 1215, 1216, 1217, 1218, 1219, 1220, 1221, 1222, 1223, 1224, 1225, 1226, 1227, 1228, 1294, 1295, 1296, 1297, 1298, 1299, 1300, 1301, 1302, 1303] (by decide +kernel) (by decide +kernel)
set_option maxRecDepth 20000 in
theorem gL_law_X8_fault : GoodIn wsL_law (wsV RL 46 RX8 yX8_fault wsX8_fault) := goodIn_app (goodIn_of _ (by decide +kernel)) ggL_law_X8_fault
set_option maxRecDepth 20000 in
theorem ggL_law_X9_fault : GoodIn wsL_law wsX9_fault := goodIn_r _ [604, 144, 145, 146, 605, 606, 607, 5, 608, 439, 192, 193, 194, 1229, 1230, 1231, 1232, 1233, 1234, 1235, 1236, 1237, 1238, 1239, 1240, 1241, 1242, 1243, 1244, 1245, 1246, 1247, 1248, 1249, 1250, 1251, 1252, 1253, 1254, 1255, 1256, 1257, 1258, 1259, 1260, 1261, 1262, 1263, 1264, 1265, 1266, 1267, 1268, 1269, 1270, 1271, 1272, 1273, 1274, 1275, 1276, 1277, 1278, 1279, 1280, 1281, 1282, 1283] (by decide +kernel) (by decide +kernel)
set_option maxRecDepth 20000 in
theorem gL_law_X9_fault : GoodIn wsL_law (wsV RL 49 RX9 yX9_fault wsX9_fault) := goodIn_app (goodIn_of _ (by decide +kernel)) ggL_law_X9_fault
set_option maxRecDepth 20000 in
theorem ggL_law_X8_count : GoodIn wsL_law wsX8_count := goodIn_r _ [612, 24, 203, 613, 34, 201, 202, 16, 180, 1215, 1216, 1217, 1218, 1219, 1220, 1221, 1222, 1223, 1224, 1225, 1226, 1227, 1228, 1294, 1295, 1296, 1297, 1298, 1299, 1300, 1301, 1302, 1303, 1311, 1312, 1313, 1314, 1315, 1316, 1317, 1318, 1319, 1320, 1284, 1285] (by decide +kernel) (by decide +kernel)
set_option maxRecDepth 20000 in
theorem gL_law_X8_count : GoodIn wsL_law (wsV RL 50 RX8 yX8_count wsX8_count) := goodIn_app (goodIn_of _ (by decide +kernel)) ggL_law_X8_count
set_option maxRecDepth 20000 in
theorem ggL_law_X9_count : GoodIn wsL_law wsX9_count := goodIn_r _ [617, 175, 439, 440, 441, 190, 1229, 1230, 1231, 1232, 1233, 1234, 1235, 1236, 1237, 1238, 1239, 1240, 1241, 1242, 1243, 1244, 1245, 1246, 1247, 1248, 1249, 1250, 1251, 1252, 1253, 1254, 1255, 1256, 1257, 1258, 1259, 1260, 1261, 1262, 1263, 1264, 1265, 1266, 1267, 1268, 1269, 1270, 1271, 1272, 1273, 1274, 1275, 1276, 1277, 1278, 1279, 1280, 1281, 1282, 1283] (by decide +kernel) (by decide +kernel)
set_option maxRecDepth 20000 in
theorem gL_law_X9_count : GoodIn wsL_law (wsV RL 54 RX9 yX9_count wsX9_count) := goodIn_app (goodIn_of _ (by decide +kernel)) ggL_law_X9_count
set_option maxRecDepth 20000 in
theorem ggL_law_X8_cut : GoodIn wsL_law wsX8_cut := goodIn_r _ [621, 24, 203, 34, 201, 622, 623, 624, 33, 625, 95, 96, 97, 98, 626, 99, 627, 337, 338, 339, 628, 2, 629, 1215, 1216, 1217, 1218, 1219, 1220, 1221, 1222, 1223, 1224, 1225, 1226, 1227, 1228, 1294, 1295, 1296, 1297, 1298, 1299, 1300, 1301, 1302, 1303, 1311, 1312, 1313, 1314, 1315, 1316, 1317, 1318, 1319, 1320] (by decide +kernel) (by decide +kernel)
set_option maxRecDepth 20000 in
theorem gL_law_X8_cut : GoodIn wsL_law (wsV RL 55 RX8 yX8_cut wsX8_cut) := goodIn_app (goodIn_of _ (by decide +kernel)) ggL_law_X8_cut
set_option maxRecDepth 20000 in
theorem ggL_law_X9_cut : GoodIn wsL_law wsX9_cut := goodIn_r _ [633, 175, 440, 147, 148, 150, 149, 192, 193, 5, 194, 586, 587, 588, 589, 163, 1229, 1230, 1231, 1232, 1233, 1234, 1235, 1236, 1237, 1238, 1239, 1240, 1241, 1242, 1243, 1244, 1245, 1246, 1247, 1248, 1249, 1250, 1251, 1252, 1253, 1254, 1255, 1256, 1257, 1258, 1259, 1260, 1261, 1262, 1263, 1264, 1265, 1266, 1267, 1268, 1269, 1270, 1271, 1272, 1273, 1274, 1275, 1276, 1277, 1278, 1279, 1280, 1281, 1282, 1283] (by decide +kernel) (by decide +kernel)
set_option maxRecDepth 20000 in
theorem gL_law_X9_cut : GoodIn wsL_law (wsV RL 58 RX9 yX9_cut wsX9_cut) := goodIn_app (goodIn_of _ (by decide +kernel)) ggL_law_X9_cut
set_option maxRecDepth 20000 in
theorem ggL_law_X8_line : GoodIn wsL_law wsX8_line := goodIn_r _ [637, 34, 638, 639, 24, 640, 641, 642, 643, 33, 644, 95, 645, 646, 647, 23, 648, 78, 80, 309, 2, 310, 541, 542, 543, 544, 81, 649, 650, 651, 652, 72, 75, 1215, 1216, 1217, 1218, 1219, 1220, 1221, 1222, 1223, 1224, 1225, 1226, 1227, 1228, 1311, 1312, 1313, 1314, 1315, 1316, 1317, 1318, 1319, 1320, 1294, 1295, 1296, 1297, 1298, 1299, 1300, 1301, 1302, 1303] (by decide +kernel) (by decide +kernel)
set_option maxRecDepth 20000 in
theorem gL_law_X8_line : GoodIn wsL_law (wsV RL 59 RX8 yX8_line wsX8_line) := goodIn_app (goodIn_of _ (by decide +kernel)) ggL_law_X8_line
set_option maxRecDepth 20000 in
theorem ggL_law_X9_line : GoodIn wsL_law wsX9_line := goodIn_r _ [656, 147, 148, 150, 657, 658, 659, 5, 660, 440, 192, 193, 194, 661, 662, 663, 664, 439, 145, 146, 416, 417, 418, 665, 666, 667, 668, 175, 143, 1229, 1230, 1231, 1232, 1233, 1234, 1235, 1236, 1237, 1238, 1239, 1240, 1241, 1242, 1243, 1244, 1245, 1246, 1247, 1248, 1249, 1250, 1251, 1252, 1253, 1254, 1255, 1256, 1257, 1258, 1259, 1260, 1261, 1262, 1263, 1264, 1265, 1266, 1267, 1268, 1269, 1270, 1271, 1272, 1273, 1274, 1275, 1276, 1277, 1278, 1279, 1280, 1281, 1282, 1283] (by decide +kernel) (by decide +kernel)
set_option maxRecDepth 20000 in
theorem gL_law_X9_line : GoodIn wsL_law (wsV RL 62 RX9 yX9_line wsX9_line) := goodIn_app (goodIn_of _ (by decide +kernel)) ggL_law_X9_line
set_option maxRecDepth 20000 in
theorem ggL_law_X8_value : GoodIn wsL_law wsX8_value := goodIn_r _ [672, 34, 673, 641, 642, 643, 33, 644, 95, 566, 567, 2, 568, 1215, 1216, 1217, 1218, 1219, 1220, 1221, 1222, 1223, 1224, 1225, 1226, 1227, 1228, 1311, 1312, 1313, 1314, 1315, 1316, 1317, 1318, 1319, 1320] (by decide +kernel) (by decide +kernel)
set_option maxRecDepth 20000 in
theorem gL_law_X8_value : GoodIn wsL_law (wsV RL 63 RX8 yX8_value wsX8_value) := goodIn_app (goodIn_of _ (by decide +kernel)) ggL_law_X8_value
set_option maxRecDepth 20000 in
theorem ggL_law_X9_value : GoodIn wsL_law wsX9_value := goodIn_r _ [677, 149, 657, 658, 659, 5, 660, 440, 192, 193, 194, 573, 574, 575, 576, 1229, 1230, 1231, 1232, 1233, 1234, 1235, 1236, 1237, 1238, 1239, 1240, 1241, 1242, 1243, 1244, 1245, 1246, 1247, 1248, 1249, 1250, 1251, 1252, 1253, 1254, 1255, 1256, 1257, 1258, 1259, 1260, 1261, 1262, 1263, 1264, 1265, 1266, 1267, 1268, 1269, 1270, 1271, 1272, 1273, 1274, 1275, 1276, 1277, 1278, 1279, 1280, 1281, 1282, 1283] (by decide +kernel) (by decide +kernel)
set_option maxRecDepth 20000 in
theorem gL_law_X9_value : GoodIn wsL_law (wsV RL 66 RX9 yX9_value wsX9_value) := goodIn_app (goodIn_of _ (by decide +kernel)) ggL_law_X9_value
set_option maxRecDepth 20000 in
theorem ggL_law_X8_clash : GoodIn wsL_law wsX8_clash := goodIn_r _ [681, 34, 24, 639, 673, 641, 642, 643, 33, 644, 95, 529, 530, 531, 23, 532, 72, 682, 309, 2, 310, 683, 684, 685, 686, 73, 74, 77, 1215, 1216, 1217, 1218, 1219, 1220, 1221, 1222, 1223, 1224, 1225, 1226, 1227, 1228, 1311, 1312, 1313, 1314, 1315, 1316, 1317, 1318, 1319, 1320, 1294, 1295, 1296, 1297, 1298, 1299, 1300, 1301, 1302, 1303] (by decide +kernel) (by decide +kernel)
set_option maxRecDepth 20000 in
theorem gL_law_X8_clash : GoodIn wsL_law (wsV RL 67 RX8 yX8_clash wsX8_clash) := goodIn_app (goodIn_of _ (by decide +kernel)) ggL_law_X8_clash
set_option maxRecDepth 20000 in
theorem ggL_law_X9_clash : GoodIn wsL_law wsX9_clash := goodIn_r _ [690, 148, 657, 658, 659, 5, 660, 440, 192, 193, 194, 549, 550, 551, 552, 175, 416, 417, 418, 691, 692, 693, 694, 164, 149, 695, 696, 697, 698, 142, 553, 554, 555, 556, 141, 586, 587, 588, 589, 163, 1229, 1230, 1231, 1232, 1233, 1234, 1235, 1236, 1237, 1238, 1239, 1240, 1241, 1242, 1243, 1244, 1245, 1246, 1247, 1248, 1249, 1250, 1251, 1252, 1253, 1254, 1255, 1256, 1257, 1258, 1259, 1260, 1261, 1262, 1263, 1264, 1265, 1266, 1267, 1268, 1269, 1270, 1271, 1272, 1273, 1274, 1275, 1276, 1277, 1278, 1279, 1280, 1281, 1282, 1283] (by decide +kernel) (by decide +kernel)
set_option maxRecDepth 20000 in
theorem gL_law_X9_clash : GoodIn wsL_law (wsV RL 70 RX9 yX9_clash wsX9_clash) := goodIn_app (goodIn_of _ (by decide +kernel)) ggL_law_X9_clash
set_option maxRecDepth 20000 in
theorem ggL_law_X8_pick : GoodIn wsL_law wsX8_pick := goodIn_r _ [702, 34, 24, 639, 673, 641, 642, 643, 33, 644, 95, 529, 530, 531, 23, 532, 72, 682, 309, 2, 310, 683, 684, 685, 686, 73, 74, 77, 703, 704, 705, 706, 99, 97, 707, 341, 342, 343, 76, 708, 709, 710, 711, 712, 713, 714, 1215, 1216, 1217, 1218, 1219, 1220, 1221, 1222, 1223, 1224, 1225, 1226, 1227, 1228, 1311, 1312, 1313, 1314, 1315, 1316, 1317, 1318, 1319, 1320, 1294, 1295, 1296, 1297, 1298, 1299, 1300, 1301, 1302, 1303] (by decide +kernel) (by decide +kernel)
set_option maxRecDepth 20000 in
theorem gL_law_X8_pick : GoodIn wsL_law (wsV RL 71 RX8 yX8_pick wsX8_pick) := goodIn_app (goodIn_of _ (by decide +kernel)) ggL_law_X8_pick
set_option maxRecDepth 20000 in
theorem ggL_law_X9_pick : GoodIn wsL_law wsX9_pick := goodIn_r _ [718, 148, 657, 658, 659, 5, 660, 440, 192, 193, 194, 549, 550, 551, 552, 175, 691, 692, 693, 694, 164, 149, 416, 417, 418, 695, 696, 697, 698, 142, 553, 554, 555, 556, 141, 586, 587, 588, 589, 163, 719, 720, 721, 722, 723, 724, 725, 726, 727, 728, 729, 1229, 1230, 1231, 1232, 1233, 1234, 1235, 1236, 1237, 1238, 1239, 1240, 1241, 1242, 1243, 1244, 1245, 1246, 1247, 1248, 1249, 1250, 1251, 1252, 1253, 1254, 1255, 1256, 1257, 1258, 1259, 1260, 1261, 1262, 1263, 1264, 1265, 1266, 1267, 1268, 1269, 1270, 1271, 1272, 1273, 1274, 1275, 1276, 1277, 1278, 1279, 1280, 1281, 1282, 1283] (by decide +kernel) (by decide +kernel)
set_option maxRecDepth 20000 in
theorem gL_law_X9_pick : GoodIn wsL_law (wsV RL 74 RX9 yX9_pick wsX9_pick) := goodIn_app (goodIn_of _ (by decide +kernel)) ggL_law_X9_pick
set_option maxRecDepth 20000 in
theorem ggL_law_X8_undo : GoodIn wsL_law wsX8_undo := goodIn_r _ [733, 34, 24, 639, 673, 641, 642, 643, 33, 644, 95, 529, 530, 531, 23, 532, 72, 682, 309, 2, 310, 734, 735, 736, 737, 73, 76, 738, 739, 740, 741, 99, 97, 742, 743, 744, 745, 77, 708, 709, 710, 711, 712, 713, 714, 1215, 1216, 1217, 1218, 1219, 1220, 1221, 1222, 1223, 1224, 1225, 1226, 1227, 1228, 1311, 1312, 1313, 1314, 1315, 1316, 1317, 1318, 1319, 1320, 1294, 1295, 1296, 1297, 1298, 1299, 1300, 1301, 1302, 1303] (by decide +kernel) (by decide +kernel)
set_option maxRecDepth 20000 in
theorem gL_law_X8_undo : GoodIn wsL_law (wsV RL 75 RX8 yX8_undo wsX8_undo) := goodIn_app (goodIn_of _ (by decide +kernel)) ggL_law_X8_undo
set_option maxRecDepth 20000 in
theorem ggL_law_X9_undo : GoodIn wsL_law wsX9_undo := goodIn_r _ [749, 148, 141, 149, 657, 658, 659, 5, 660, 440, 192, 193, 194, 549, 550, 551, 552, 175, 416, 417, 418, 586, 587, 588, 589, 163, 727, 728, 729, 1229, 1230, 1231, 1232, 1233, 1234, 1235, 1236, 1237, 1238, 1239, 1240, 1241, 1242, 1243, 1244, 1245, 1246, 1247, 1248, 1249, 1250, 1251, 1252, 1253, 1254, 1255, 1256, 1257, 1258, 1259, 1260, 1261, 1262, 1263, 1264, 1265, 1266, 1267, 1268, 1269, 1270, 1271, 1272, 1273, 1274, 1275, 1276, 1277, 1278, 1279, 1280, 1281, 1282, 1283] (by decide +kernel) (by decide +kernel)
set_option maxRecDepth 20000 in
theorem gL_law_X9_undo : GoodIn wsL_law (wsV RL 78 RX9 yX9_undo wsX9_undo) := goodIn_app (goodIn_of _ (by decide +kernel)) ggL_law_X9_undo
set_option maxRecDepth 20000 in
theorem ggL_law_X8_needs : GoodIn wsL_law wsX8_needs := goodIn_r _ [753, 34, 24, 40, 641, 642, 643, 33, 644, 95, 529, 530, 531, 23, 532, 72, 754, 755, 756, 39, 757, 112, 758, 111, 759, 309, 2, 310, 760, 684, 685, 686, 73, 74, 77, 761, 762, 763, 764, 765, 766, 767, 768, 769, 770, 771, 772, 109, 773, 774, 775, 776, 777, 778, 337, 338, 339, 779, 341, 342, 343, 76, 1215, 1216, 1217, 1218, 1219, 1220, 1221, 1222, 1223, 1224, 1225, 1226, 1227, 1228, 1311, 1312, 1313, 1314, 1315, 1316, 1317, 1318, 1319, 1320, 1294, 1295, 1296, 1297, 1298, 1299, 1300, 1301, 1302, 1303, 1321, 1322, 1323, 1324] (by decide +kernel) (by decide +kernel)
set_option maxRecDepth 20000 in
theorem gL_law_X8_needs : GoodIn wsL_law (wsV RL 79 RX8 yX8_needs wsX8_needs) := goodIn_app (goodIn_of _ (by decide +kernel)) ggL_law_X8_needs
set_option maxRecDepth 20000 in
theorem ggL_law_X9_needs : GoodIn wsL_law wsX9_needs := goodIn_r _ [783, 657, 658, 659, 5, 660, 440, 192, 193, 194, 549, 550, 551, 552, 175, 784, 785, 786, 787, 148, 416, 417, 418, 691, 692, 693, 694, 164, 149, 695, 696, 697, 698, 142, 553, 554, 555, 556, 141, 586, 587, 588, 589, 163, 446, 447, 448, 449, 788, 789, 790, 791, 719, 720, 721, 722, 1229, 1230, 1231, 1232, 1233, 1234, 1235, 1236, 1237, 1238, 1239, 1240, 1241, 1242, 1243, 1244, 1245, 1246, 1247, 1248, 1249, 1250, 1251, 1252, 1253, 1254, 1255, 1256, 1257, 1258, 1259, 1260, 1261, 1262, 1263, 1264, 1265, 1266, 1267, 1268, 1269, 1270, 1271, 1272, 1273, 1274, 1275, 1276, 1277, 1278, 1279, 1280, 1281, 1282, 1283] (by decide +kernel) (by decide +kernel)
set_option maxRecDepth 20000 in
theorem gL_law_X9_needs : GoodIn wsL_law (wsV RL 82 RX9 yX9_needs wsX9_needs) := goodIn_app (goodIn_of _ (by decide +kernel)) ggL_law_X9_needs
set_option maxRecDepth 20000 in
theorem ggL_law_X8_carry : GoodIn wsL_law wsX8_carry := goodIn_r _ [795, 34, 24, 40, 203, 641, 642, 643, 33, 644, 95, 529, 530, 531, 23, 532, 72, 754, 755, 756, 39, 757, 112, 758, 111, 759, 309, 2, 310, 760, 684, 685, 686, 73, 74, 77, 761, 762, 763, 764, 765, 766, 767, 768, 769, 770, 771, 772, 109, 773, 774, 775, 776, 777, 778, 337, 338, 339, 779, 341, 342, 343, 76, 682, 703, 704, 705, 706, 99, 97, 707, 708, 709, 710, 711, 712, 713, 714, 1215, 1216, 1217, 1218, 1219, 1220, 1221, 1222, 1223, 1224, 1225, 1226, 1227, 1228, 1294, 1295, 1296, 1297, 1298, 1299, 1300, 1301, 1302, 1303, 1311, 1312, 1313, 1314, 1315, 1316, 1317, 1318, 1319, 1320, 1321, 1322, 1323, 1324] (by decide +kernel) (by decide +kernel)
set_option maxRecDepth 20000 in
theorem gL_law_X8_carry : GoodIn wsL_law (wsV RL 83 RX8 yX8_carry wsX8_carry) := goodIn_app (goodIn_of _ (by decide +kernel)) ggL_law_X8_carry
set_option maxRecDepth 20000 in
theorem ggL_law_X9_carry : GoodIn wsL_law wsX9_carry := goodIn_r _ [799, 657, 658, 659, 5, 660, 440, 192, 193, 194, 549, 550, 551, 552, 175, 784, 785, 786, 787, 148, 416, 417, 418, 691, 692, 693, 694, 164, 149, 695, 696, 697, 698, 142, 553, 554, 555, 556, 141, 586, 587, 588, 589, 163, 446, 447, 448, 449, 788, 789, 790, 791, 719, 720, 721, 722, 723, 724, 725, 726, 727, 728, 729, 1229, 1230, 1231, 1232, 1233, 1234, 1235, 1236, 1237, 1238, 1239, 1240, 1241, 1242, 1243, 1244, 1245, 1246, 1247, 1248, 1249, 1250, 1251, 1252, 1253, 1254, 1255, 1256, 1257, 1258, 1259, 1260, 1261, 1262, 1263, 1264, 1265, 1266, 1267, 1268, 1269, 1270, 1271, 1272, 1273, 1274, 1275, 1276, 1277, 1278, 1279, 1280, 1281, 1282, 1283] (by decide +kernel) (by decide +kernel)
set_option maxRecDepth 20000 in
theorem gL_law_X9_carry : GoodIn wsL_law (wsV RL 86 RX9 yX9_carry wsX9_carry) := goodIn_app (goodIn_of _ (by decide +kernel)) ggL_law_X9_carry
set_option maxRecDepth 20000 in
theorem ggL_law_X8_apart : GoodIn wsL_law wsX8_apart := goodIn_r _ [803, 34, 24, 639, 40, 641, 642, 643, 33, 644, 95, 529, 530, 531, 23, 532, 72, 682, 309, 2, 310, 804, 805, 806, 39, 807, 109, 110, 774, 775, 776, 777, 112, 759, 778, 337, 338, 339, 808, 809, 810, 811, 111, 760, 684, 685, 686, 73, 74, 77, 779, 341, 342, 343, 76, 1215, 1216, 1217, 1218, 1219, 1220, 1221, 1222, 1223, 1224, 1225, 1226, 1227, 1228, 1311, 1312, 1313, 1314, 1315, 1316, 1317, 1318, 1319, 1320, 1294, 1295, 1296, 1297, 1298, 1299, 1300, 1301, 1302, 1303, 1321, 1322, 1323, 1324] (by decide +kernel) (by decide +kernel)
set_option maxRecDepth 20000 in
theorem gL_law_X8_apart : GoodIn wsL_law (wsV RL 87 RX8 yX8_apart wsX8_apart) := goodIn_app (goodIn_of _ (by decide +kernel)) ggL_law_X8_apart
set_option maxRecDepth 20000 in
theorem ggL_law_X9_apart : GoodIn wsL_law wsX9_apart := goodIn_r _ [815, 148, 165, 164, 657, 658, 659, 5, 660, 440, 192, 193, 194, 549, 550, 551, 552, 175, 416, 417, 418, 816, 817, 818, 819, 691, 692, 693, 694, 149, 695, 696, 697, 698, 142, 553, 554, 555, 556, 141, 586, 587, 588, 589, 163, 719, 720, 721, 722, 1229, 1230, 1231, 1232, 1233, 1234, 1235, 1236, 1237, 1238, 1239, 1240, 1241, 1242, 1243, 1244, 1245, 1246, 1247, 1248, 1249, 1250, 1251, 1252, 1253, 1254, 1255, 1256, 1257, 1258, 1259, 1260, 1261, 1262, 1263, 1264, 1265, 1266, 1267, 1268, 1269, 1270, 1271, 1272, 1273, 1274, 1275, 1276, 1277, 1278, 1279, 1280, 1281, 1282, 1283] (by decide +kernel) (by decide +kernel)
set_option maxRecDepth 20000 in
theorem gL_law_X9_apart : GoodIn wsL_law (wsV RL 91 RX9 yX9_apart wsX9_apart) := goodIn_app (goodIn_of _ (by decide +kernel)) ggL_law_X9_apart
set_option maxRecDepth 20000 in
theorem ggL_law_X8_cost : GoodIn wsL_law wsX8_cost := goodIn_r _ [823, 34, 24, 44, 641, 642, 643, 33, 644, 95, 824, 825, 826, 23, 827, 78, 628, 2, 629, 828, 829, 830, 43, 831, 117, 119, 123, 124, 832, 833, 834, 118, 835, 646, 647, 648, 80, 309, 310, 541, 542, 543, 544, 81, 836, 755, 756, 39, 757, 112, 758, 111, 759, 760, 684, 685, 686, 73, 74, 77, 761, 762, 763, 764, 765, 766, 767, 768, 769, 770, 771, 772, 109, 773, 774, 775, 776, 777, 778, 337, 338, 339, 779, 341, 342, 343, 76, 837, 838, 839, 840, 841, 842, 843, 844, 845, 1215, 1216, 1217, 1218, 1219, 1220, 1221, 1222, 1223, 1224, 1225, 1226, 1227, 1228, 1311, 1312, 1313, 1314, 1315, 1316, 1317, 1318, 1319, 1320, 1294, 1295, 1296, 1297, 1298, 1299, 1300, 1301, 1302, 1303, 1325, 1326, 1327, 1328, 1329, 1330, 1331, 1332, 1321, 1322, 1323, 1324] (by decide +kernel) (by decide +kernel)
set_option maxRecDepth 20000 in
theorem gL_law_X8_cost : GoodIn wsL_law (wsV RL 92 RX8 yX8_cost wsX8_cost) := goodIn_app (goodIn_of _ (by decide +kernel)) ggL_law_X8_cost
set_option maxRecDepth 20000 in
theorem ggL_law_X9_cost : GoodIn wsL_law wsX9_cost := goodIn_r _ [849, 657, 658, 659, 5, 660, 440, 192, 193, 194, 850, 851, 852, 853, 439, 854, 855, 856, 857, 148, 146, 661, 662, 663, 664, 145, 416, 417, 418, 784, 785, 786, 787, 691, 692, 693, 694, 164, 149, 695, 696, 697, 698, 142, 553, 554, 555, 556, 141, 586, 587, 588, 589, 163, 446, 447, 448, 449, 788, 789, 790, 791, 175, 719, 720, 721, 722, 1229, 1230, 1231, 1232, 1233, 1234, 1235, 1236, 1237, 1238, 1239, 1240, 1241, 1242, 1243, 1244, 1245, 1246, 1247, 1248, 1249, 1250, 1251, 1252, 1253, 1254, 1255, 1256, 1257, 1258, 1259, 1260, 1261, 1262, 1263, 1264, 1265, 1266, 1267, 1268, 1269, 1270, 1271, 1272, 1273, 1274, 1275, 1276, 1277, 1278, 1279, 1280, 1281, 1282, 1283] (by decide +kernel) (by decide +kernel)
set_option maxRecDepth 20000 in
theorem gL_law_X9_cost : GoodIn wsL_law (wsV RL 95 RX9 yX9_cost wsX9_cost) := goodIn_app (goodIn_of _ (by decide +kernel)) ggL_law_X9_cost
set_option maxRecDepth 20000 in
theorem ggL_law_X8_best : GoodIn wsL_law wsX8_best := goodIn_r _ [861, 34, 44, 24, 613, 862, 863, 864, 641, 642, 643, 33, 644, 95, 865, 628, 2, 629, 828, 829, 830, 43, 831, 117, 119, 123, 124, 832, 833, 834, 118, 835, 646, 647, 23, 648, 78, 80, 309, 310, 541, 542, 543, 544, 81, 836, 755, 756, 39, 757, 112, 758, 111, 759, 760, 684, 685, 686, 73, 74, 77, 761, 762, 763, 764, 765, 766, 767, 768, 769, 770, 771, 772, 109, 773, 774, 775, 776, 777, 778, 337, 338, 339, 779, 341, 342, 343, 76, 866, 867, 868, 869, 120, 121, 122, 870, 871, 872, 873, 874, 875, 876, 877, 79, 841, 842, 843, 844, 878, 709, 710, 711, 712, 713, 714, 879, 650, 651, 652, 72, 75, 880, 838, 839, 840, 845, 1215, 1216, 1217, 1218, 1219, 1220, 1221, 1222, 1223, 1224, 1225, 1226, 1227, 1228, 1294, 1295, 1296, 1297, 1298, 1299, 1300, 1301, 1302, 1303, 1325, 1326, 1327, 1328, 1329, 1330, 1331, 1332, 1311, 1312, 1313, 1314, 1315, 1316, 1317, 1318, 1319, 1320, 1321, 1322, 1323, 1324] (by decide +kernel) (by decide +kernel)
set_option maxRecDepth 20000 in
theorem gL_law_X8_best : GoodIn wsL_law (wsV RL 96 RX8 yX8_best wsX8_best) := goodIn_app (goodIn_of _ (by decide +kernel)) ggL_law_X8_best
set_option maxRecDepth 20000 in
theorem ggL_law_X9_best : GoodIn wsL_law wsX9_best := goodIn_r _ [884, 885, 886, 887, 439, 657, 658, 659, 5, 660, 440, 192, 193, 194, 854, 855, 856, 857, 148, 146, 661, 662, 663, 664, 145, 416, 417, 418, 784, 785, 786, 787, 691, 692, 693, 694, 164, 149, 695, 696, 697, 698, 142, 553, 554, 555, 556, 141, 586, 587, 588, 589, 163, 446, 447, 448, 449, 788, 789, 790, 791, 175, 719, 720, 721, 722, 727, 728, 729, 665, 666, 667, 668, 143, 888, 889, 890, 891, 144, 1229, 1230, 1231, 1232, 1233, 1234, 1235, 1236, 1237, 1238, 1239, 1240, 1241, 1242, 1243, 1244, 1245, 1246, 1247, 1248, 1249, 1250, 1251, 1252, 1253, 1254, 1255, 1256, 1257, 1258, 1259, 1260, 1261, 1262, 1263, 1264, 1265, 1266, 1267, 1268, 1269, 1270, 1271, 1272, 1273, 1274, 1275, 1276, 1277, 1278, 1279, 1280, 1281, 1282, 1283] (by decide +kernel) (by decide +kernel)
set_option maxRecDepth 20000 in
theorem gL_law_X9_best : GoodIn wsL_law (wsV RL 100 RX9 yX9_best wsX9_best) := goodIn_app (goodIn_of _ (by decide +kernel)) ggL_law_X9_best
set_option maxRecDepth 20000 in
theorem ggL_law_X8_later : GoodIn wsL_law wsX8_later := goodIn_r _ [895, 34, 638, 24, 203, 896, 897, 898, 899, 639, 641, 642, 643, 33, 644, 95, 900, 901, 902, 23, 903, 904, 646, 647, 648, 78, 80, 309, 2, 310, 541, 542, 543, 544, 81, 905, 875, 876, 877, 79, 865, 628, 629, 1215, 1216, 1217, 1218, 1219, 1220, 1221, 1222, 1223, 1224, 1225, 1226, 1227, 1228, 1311, 1312, 1313, 1314, 1315, 1316, 1317, 1318, 1319, 1320, 1294, 1295, 1296, 1297, 1298, 1299, 1300, 1301, 1302, 1303] (by decide +kernel) (by decide +kernel)
set_option maxRecDepth 20000 in
theorem gL_law_X8_later : GoodIn wsL_law (wsV RL 101 RX8 yX8_later wsX8_later) := goodIn_app (goodIn_of _ (by decide +kernel)) ggL_law_X8_later
set_option maxRecDepth 20000 in
theorem ggL_law_X9_later : GoodIn wsL_law wsX9_later := goodIn_r _ [909, 885, 147, 175, 148, 657, 658, 659, 5, 660, 440, 192, 193, 194, 661, 662, 663, 664, 439, 145, 146, 416, 417, 418, 888, 889, 890, 891, 144, 1229, 1230, 1231, 1232, 1233, 1234, 1235, 1236, 1237, 1238, 1239, 1240, 1241, 1242, 1243, 1244, 1245, 1246, 1247, 1248, 1249, 1250, 1251, 1252, 1253, 1254, 1255, 1256, 1257, 1258, 1259, 1260, 1261, 1262, 1263, 1264, 1265, 1266, 1267, 1268, 1269, 1270, 1271, 1272, 1273, 1274, 1275, 1276, 1277, 1278, 1279, 1280, 1281, 1282, 1283] (by decide +kernel) (by decide +kernel)
set_option maxRecDepth 20000 in
theorem gL_law_X9_later : GoodIn wsL_law (wsV RL 104 RX9 yX9_later wsX9_later) := goodIn_app (goodIn_of _ (by decide +kernel)) ggL_law_X9_later
set_option maxRecDepth 20000 in
theorem ggL_law_X8_release : GoodIn wsL_law wsX8_release := goodIn_r _ [913, 34, 202, 641, 642, 643, 33, 644, 95, 914, 915, 2, 916, 917, 918, 919, 920, 100, 102, 921, 922, 923, 924, 101, 103, 97, 99, 104, 627, 337, 338, 339, 1215, 1216, 1217, 1218, 1219, 1220, 1221, 1222, 1223, 1224, 1225, 1226, 1227, 1228, 1311, 1312, 1313, 1314, 1315, 1316, 1317, 1318, 1319, 1320] (by decide +kernel) (by decide +kernel)
set_option maxRecDepth 20000 in
theorem gL_law_X8_release : GoodIn wsL_law (wsV RL 105 RX8 yX8_release wsX8_release) := goodIn_app (goodIn_of _ (by decide +kernel)) ggL_law_X8_release
set_option maxRecDepth 20000 in
theorem ggL_law_X9_release : GoodIn wsL_law wsX9_release := goodIn_r _ [928, 441, 152, 151, 153, 148, 154, 149, 657, 658, 659, 5, 660, 440, 192, 193, 194, 929, 930, 931, 932, 1229, 1230, 1231, 1232, 1233, 1234, 1235, 1236, 1237, 1238, 1239, 1240, 1241, 1242, 1243, 1244, 1245, 1246, 1247, 1248, 1249, 1250, 1251, 1252, 1253, 1254, 1255, 1256, 1257, 1258, 1259, 1260, 1261, 1262, 1263, 1264, 1265, 1266, 1267, 1268, 1269, 1270, 1271, 1272, 1273, 1274, 1275, 1276, 1277, 1278, 1279, 1280, 1281, 1282, 1283] (by decide +kernel) (by decide +kernel)
set_option maxRecDepth 20000 in
theorem gL_law_X9_release : GoodIn wsL_law (wsV RL 108 RX9 yX9_release wsX9_release) := goodIn_app (goodIn_of _ (by decide +kernel)) ggL_law_X9_release
set_option maxRecDepth 20000 in
theorem ggL_law_X8_released : GoodIn wsL_law wsX8_released := goodIn_r _ [936, 34, 937, 938, 939, 24, 940, 941, 942, 33, 943, 100, 645, 646, 647, 23, 648, 78, 80, 309, 2, 310, 541, 542, 543, 544, 81, 1215, 1216, 1217, 1218, 1219, 1220, 1221, 1222, 1223, 1224, 1225, 1226, 1227, 1228, 1311, 1312, 1313, 1314, 1315, 1316, 1317, 1318, 1319, 1320, 1294, 1295, 1296, 1297, 1298, 1299, 1300, 1301, 1302, 1303] (by decide +kernel) (by decide +kernel)
set_option maxRecDepth 20000 in
theorem gL_law_X8_released : GoodIn wsL_law (wsV RL 109 RX8 yX8_released wsX8_released) := goodIn_app (goodIn_of _ (by decide +kernel)) ggL_law_X8_released
set_option maxRecDepth 20000 in
theorem ggL_law_X9_released : GoodIn wsL_law wsX9_released := goodIn_r _ [947, 151, 152, 153, 948, 949, 950, 5, 951, 441, 192, 193, 194, 661, 662, 663, 664, 439, 145, 146, 416, 417, 418, 1229, 1230, 1231, 1232, 1233, 1234, 1235, 1236, 1237, 1238, 1239, 1240, 1241, 1242, 1243, 1244, 1245, 1246, 1247, 1248, 1249, 1250, 1251, 1252, 1253, 1254, 1255, 1256, 1257, 1258, 1259, 1260, 1261, 1262, 1263, 1264, 1265, 1266, 1267, 1268, 1269, 1270, 1271, 1272, 1273, 1274, 1275, 1276, 1277, 1278, 1279, 1280, 1281, 1282, 1283] (by decide +kernel) (by decide +kernel)
set_option maxRecDepth 20000 in
theorem gL_law_X9_released : GoodIn wsL_law (wsV RL 112 RX9 yX9_released wsX9_released) := goodIn_app (goodIn_of _ (by decide +kernel)) ggL_law_X9_released
set_option maxRecDepth 20000 in
theorem ggL_law_X8_notes : GoodIn wsL_law wsX8_notes := goodIn_r _ [955, 34, 939, 24, 940, 941, 942, 33, 943, 100, 645, 646, 647, 23, 648, 78, 80, 309, 2, 310, 541, 542, 543, 544, 81, 1215, 1216, 1217, 1218, 1219, 1220, 1221, 1222, 1223, 1224, 1225, 1226, 1227, 1228, 1311, 1312, 1313, 1314, 1315, 1316, 1317, 1318, 1319, 1320, 1294, 1295, 1296, 1297, 1298, 1299, 1300, 1301, 1302, 1303] (by decide +kernel) (by decide +kernel)
set_option maxRecDepth 20000 in
theorem gL_law_X8_notes : GoodIn wsL_law (wsV RL 113 RX8 yX8_notes wsX8_notes) := goodIn_app (goodIn_of _ (by decide +kernel)) ggL_law_X8_notes
set_option maxRecDepth 20000 in
theorem ggL_law_X9_notes : GoodIn wsL_law wsX9_notes := goodIn_r _ [959, 153, 948, 949, 950, 5, 951, 441, 192, 193, 194, 661, 662, 663, 664, 439, 145, 146, 416, 417, 418, 1229, 1230, 1231, 1232, 1233, 1234, 1235, 1236, 1237, 1238, 1239, 1240, 1241, 1242, 1243, 1244, 1245, 1246, 1247, 1248, 1249, 1250, 1251, 1252, 1253, 1254, 1255, 1256, 1257, 1258, 1259, 1260, 1261, 1262, 1263, 1264, 1265, 1266, 1267, 1268, 1269, 1270, 1271, 1272, 1273, 1274, 1275, 1276, 1277, 1278, 1279, 1280, 1281, 1282, 1283] (by decide +kernel) (by decide +kernel)
set_option maxRecDepth 20000 in
theorem gL_law_X9_notes : GoodIn wsL_law (wsV RL 116 RX9 yX9_notes wsX9_notes) := goodIn_app (goodIn_of _ (by decide +kernel)) ggL_law_X9_notes
set_option maxRecDepth 20000 in
theorem ggL_law_X8_differs : GoodIn wsL_law wsX8_differs := goodIn_r _ [963, 34, 964, 940, 941, 942, 33, 943, 100, 1215, 1216, 1217, 1218, 1219, 1220, 1221, 1222, 1223, 1224, 1225, 1226, 1227, 1228, 1311, 1312, 1313, 1314, 1315, 1316, 1317, 1318, 1319, 1320] (by decide +kernel) (by decide +kernel)
set_option maxRecDepth 20000 in
theorem gL_law_X8_differs : GoodIn wsL_law (wsV RL 117 RX8 yX8_differs wsX8_differs) := goodIn_app (goodIn_of _ (by decide +kernel)) ggL_law_X8_differs
set_option maxRecDepth 20000 in
theorem ggL_law_X9_differs : GoodIn wsL_law wsX9_differs := goodIn_r _ [968, 154, 948, 949, 950, 5, 951, 441, 192, 193, 194, 1229, 1230, 1231, 1232, 1233, 1234, 1235, 1236, 1237, 1238, 1239, 1240, 1241, 1242, 1243, 1244, 1245, 1246, 1247, 1248, 1249, 1250, 1251, 1252, 1253, 1254, 1255, 1256, 1257, 1258, 1259, 1260, 1261, 1262, 1263, 1264, 1265, 1266, 1267, 1268, 1269, 1270, 1271, 1272, 1273, 1274, 1275, 1276, 1277, 1278, 1279, 1280, 1281, 1282, 1283] (by decide +kernel) (by decide +kernel)
set_option maxRecDepth 20000 in
theorem gL_law_X9_differs : GoodIn wsL_law (wsV RL 120 RX9 yX9_differs wsX9_differs) := goodIn_app (goodIn_of _ (by decide +kernel)) ggL_law_X9_differs
set_option maxRecDepth 20000 in
theorem ggL_law_X8_freed : GoodIn wsL_law wsX8_freed := goodIn_r _ [972, 24, 34, 202, 937, 597, 598, 599, 23, 600, 78, 641, 642, 643, 33, 644, 95, 973, 974, 975, 2, 976, 939, 645, 646, 647, 648, 80, 309, 310, 541, 542, 543, 544, 81, 682, 1215, 1216, 1217, 1218, 1219, 1220, 1221, 1222, 1223, 1224, 1225, 1226, 1227, 1228, 1311, 1312, 1313, 1314, 1315, 1316, 1317, 1318, 1319, 1320, 1294, 1295, 1296, 1297, 1298, 1299, 1300, 1301, 1302, 1303] (by decide +kernel) (by decide +kernel)
set_option maxRecDepth 20000 in
theorem gL_law_X8_freed : GoodIn wsL_law (wsV RL 121 RX8 yX8_freed wsX8_freed) := goodIn_app (goodIn_of _ (by decide +kernel)) ggL_law_X8_freed
set_option maxRecDepth 20000 in
theorem ggL_law_X9_freed : GoodIn wsL_law wsX9_freed := goodIn_r _ [980, 441, 151, 605, 606, 607, 5, 608, 439, 192, 193, 194, 657, 658, 659, 660, 440, 981, 982, 983, 984, 153, 661, 662, 663, 664, 145, 146, 416, 417, 418, 1229, 1230, 1231, 1232, 1233, 1234, 1235, 1236, 1237, 1238, 1239, 1240, 1241, 1242, 1243, 1244, 1245, 1246, 1247, 1248, 1249, 1250, 1251, 1252, 1253, 1254, 1255, 1256, 1257, 1258, 1259, 1260, 1261, 1262, 1263, 1264, 1265, 1266, 1267, 1268, 1269, 1270, 1271, 1272, 1273, 1274, 1275, 1276, 1277, 1278, 1279, 1280, 1281, 1282, 1283] (by decide +kernel) (by decide +kernel)
set_option maxRecDepth 20000 in
theorem gL_law_X9_freed : GoodIn wsL_law (wsV RL 124 RX9 yX9_freed wsX9_freed) := goodIn_app (goodIn_of _ (by decide +kernel)) ggL_law_X9_freed
set_option maxRecDepth 20000 in
theorem ggL_law_X8_danger : GoodIn wsL_law wsX8_danger := goodIn_r _ [988, 24, 34, 202, 938, 896, 897, 898, 899, 989, 990, 991, 597, 598, 599, 23, 600, 78, 914, 915, 2, 916, 973, 974, 975, 976, 939, 645, 646, 647, 648, 80, 309, 310, 541, 542, 543, 544, 81, 682, 992, 993, 994, 33, 995, 100, 101, 1215, 1216, 1217, 1218, 1219, 1220, 1221, 1222, 1223, 1224, 1225, 1226, 1227, 1228, 1311, 1312, 1313, 1314, 1315, 1316, 1317, 1318, 1319, 1320, 1294, 1295, 1296, 1297, 1298, 1299, 1300, 1301, 1302, 1303] (by decide +kernel) (by decide +kernel)
set_option maxRecDepth 20000 in
theorem gL_law_X8_danger : GoodIn wsL_law (wsV RL 125 RX8 yX8_danger wsX8_danger) := goodIn_app (goodIn_of _ (by decide +kernel)) ggL_law_X8_danger
set_option maxRecDepth 20000 in
theorem ggL_law_X9_danger : GoodIn wsL_law wsX9_danger := goodIn_r _ [999, 440, 441, 151, 152, 605, 606, 607, 5, 608, 439, 192, 193, 194, 929, 930, 931, 932, 981, 982, 983, 984, 153, 661, 662, 663, 664, 145, 146, 416, 417, 418, 1229, 1230, 1231, 1232, 1233, 1234, 1235, 1236, 1237, 1238, 1239, 1240, 1241, 1242, 1243, 1244, 1245, 1246, 1247, 1248, 1249, 1250, 1251, 1252, 1253, 1254, 1255, 1256, 1257, 1258, 1259, 1260, 1261, 1262, 1263, 1264, 1265, 1266, 1267, 1268, 1269, 1270, 1271, 1272, 1273, 1274, 1275, 1276, 1277, 1278, 1279, 1280, 1281, 1282, 1283] (by decide +kernel) (by decide +kernel)
set_option maxRecDepth 20000 in
theorem gL_law_X9_danger : GoodIn wsL_law (wsV RL 128 RX9 yX9_danger wsX9_danger) := goodIn_app (goodIn_of _ (by decide +kernel)) ggL_law_X9_danger
set_option maxRecDepth 20000 in
theorem ggL_law_X8_every : GoodIn wsL_law wsX8_every := goodIn_r _ [1003, 34, 640, 641, 642, 643, 33, 644, 95, 1215, 1216, 1217, 1218, 1219, 1220, 1221, 1222, 1223, 1224, 1225, 1226, 1227, 1228, 1311, 1312, 1313, 1314, 1315, 1316, 1317, 1318, 1319, 1320] (by decide +kernel) (by decide +kernel)
set_option maxRecDepth 20000 in
theorem gL_law_X8_every : GoodIn wsL_law (wsV RL 129 RX8 yX8_every wsX8_every) := goodIn_app (goodIn_of _ (by decide +kernel)) ggL_law_X8_every
set_option maxRecDepth 20000 in
theorem ggL_law_X9_every : GoodIn wsL_law wsX9_every := goodIn_r _ [1007, 886, 150, 657, 658, 659, 5, 660, 440, 192, 193, 194, 1229, 1230, 1231, 1232, 1233, 1234, 1235, 1236, 1237, 1238, 1239, 1240, 1241, 1242, 1243, 1244, 1245, 1246, 1247, 1248, 1249, 1250, 1251, 1252, 1253, 1254, 1255, 1256, 1257, 1258, 1259, 1260, 1261, 1262, 1263, 1264, 1265, 1266, 1267, 1268, 1269, 1270, 1271, 1272, 1273, 1274, 1275, 1276, 1277, 1278, 1279, 1280, 1281, 1282, 1283] (by decide +kernel) (by decide +kernel)
set_option maxRecDepth 20000 in
theorem gL_law_X9_every : GoodIn wsL_law (wsV RL 132 RX9 yX9_every wsX9_every) := goodIn_app (goodIn_of _ (by decide +kernel)) ggL_law_X9_every
set_option maxRecDepth 20000 in
theorem ggL_law_X8_soonest : GoodIn wsL_law wsX8_soonest := goodIn_r _ [1011, 24, 34, 201, 639, 989, 990, 898, 991, 597, 598, 599, 23, 600, 78, 914, 915, 2, 916, 645, 646, 647, 648, 80, 309, 310, 541, 542, 543, 544, 81, 682, 1012, 1013, 1014, 1015, 640, 44, 828, 829, 830, 43, 831, 117, 119, 123, 124, 832, 833, 834, 118, 835, 836, 755, 756, 39, 757, 112, 758, 111, 759, 760, 684, 685, 686, 73, 74, 77, 761, 762, 763, 764, 765, 766, 767, 768, 769, 770, 771, 772, 109, 773, 774, 775, 776, 777, 778, 337, 338, 339, 779, 341, 342, 343, 76, 837, 838, 839, 840, 841, 842, 843, 844, 845, 1215, 1216, 1217, 1218, 1219, 1220, 1221, 1222, 1223, 1224, 1225, 1226, 1227, 1228, 1311, 1312, 1313, 1314, 1315, 1316, 1317, 1318, 1319, 1320, 1294, 1295, 1296, 1297, 1298, 1299, 1300, 1301, 1302, 1303, 1325, 1326, 1327, 1328, 1329, 1330, 1331, 1332, 1321, 1322, 1323, 1324] (by decide +kernel) (by decide +kernel)
set_option maxRecDepth 20000 in
theorem gL_law_X8_soonest : GoodIn wsL_law (wsV RL 133 RX8 yX8_soonest wsX8_soonest) := goodIn_app (goodIn_of _ (by decide +kernel)) ggL_law_X8_soonest
set_option maxRecDepth 20000 in
theorem ggL_law_X9_soonest : GoodIn wsL_law wsX9_soonest := goodIn_r _ [1019, 440, 148, 150, 605, 606, 607, 5, 608, 439, 192, 193, 194, 929, 930, 931, 932, 661, 662, 663, 664, 145, 146, 416, 417, 418, 854, 855, 856, 857, 784, 785, 786, 787, 691, 692, 693, 694, 164, 149, 695, 696, 697, 698, 142, 553, 554, 555, 556, 141, 586, 587, 588, 589, 163, 446, 447, 448, 449, 788, 789, 790, 791, 175, 719, 720, 721, 722, 1229, 1230, 1231, 1232, 1233, 1234, 1235, 1236, 1237, 1238, 1239, 1240, 1241, 1242, 1243, 1244, 1245, 1246, 1247, 1248, 1249, 1250, 1251, 1252, 1253, 1254, 1255, 1256, 1257, 1258, 1259, 1260, 1261, 1262, 1263, 1264, 1265, 1266, 1267, 1268, 1269, 1270, 1271, 1272, 1273, 1274, 1275, 1276, 1277, 1278, 1279, 1280, 1281, 1282, 1283] (by decide +kernel) (by decide +kernel)
set_option maxRecDepth 20000 in
theorem gL_law_X9_soonest : GoodIn wsL_law (wsV RL 136 RX9 yX9_soonest wsX9_soonest) := goodIn_app (goodIn_of _ (by decide +kernel)) ggL_law_X9_soonest
set_option maxRecDepth 20000 in
theorem ggL_law_X8_ready : GoodIn wsL_law wsX8_ready := goodIn_r _ [1023, 34, 40, 641, 642, 643, 33, 644, 95, 1024, 1025, 1026, 39, 1027, 109, 112, 758, 111, 774, 775, 776, 777, 759, 778, 337, 338, 339, 1028, 1029, 1030, 1031, 773, 309, 2, 310, 760, 684, 685, 23, 686, 73, 74, 77, 779, 341, 342, 343, 76, 1032, 1033, 1034, 1035, 1215, 1216, 1217, 1218, 1219, 1220, 1221, 1222, 1223, 1224, 1225, 1226, 1227, 1228, 1311, 1312, 1313, 1314, 1315, 1316, 1317, 1318, 1319, 1320, 1321, 1322, 1323, 1324, 1294, 1295, 1296, 1297, 1298, 1299, 1300, 1301, 1302, 1303] (by decide +kernel) (by decide +kernel)
set_option maxRecDepth 20000 in
theorem gL_law_X8_ready : GoodIn wsL_law (wsV RL 137 RX8 yX8_ready wsX8_ready) := goodIn_app (goodIn_of _ (by decide +kernel)) ggL_law_X8_ready
set_option maxRecDepth 20000 in
theorem ggL_law_X9_ready : GoodIn wsL_law wsX9_ready := goodIn_r _ [1039, 148, 657, 658, 659, 5, 660, 440, 192, 193, 194, 691, 692, 693, 694, 164, 149, 1040, 1041, 1042, 1043, 175, 416, 417, 418, 695, 696, 697, 698, 142, 553, 554, 555, 556, 141, 586, 587, 588, 589, 163, 719, 720, 721, 722, 1229, 1230, 1231, 1232, 1233, 1234, 1235, 1236, 1237, 1238, 1239, 1240, 1241, 1242, 1243, 1244, 1245, 1246, 1247, 1248, 1249, 1250, 1251, 1252, 1253, 1254, 1255, 1256, 1257, 1258, 1259, 1260, 1261, 1262, 1263, 1264, 1265, 1266, 1267, 1268, 1269, 1270, 1271, 1272, 1273, 1274, 1275, 1276, 1277, 1278, 1279, 1280, 1281, 1282, 1283] (by decide +kernel) (by decide +kernel)
set_option maxRecDepth 20000 in
theorem gL_law_X9_ready : GoodIn wsL_law (wsV RL 141 RX9 yX9_ready wsX9_ready) := goodIn_app (goodIn_of _ (by decide +kernel)) ggL_law_X9_ready
set_option maxRecDepth 20000 in
theorem ggL_law_X8_orders : GoodIn wsL_law wsX8_orders := goodIn_r _ [1047, 48, 34, 673, 1048, 1049, 1050, 2, 1051, 24, 639, 641, 642, 643, 33, 644, 95, 1052, 1053, 1054, 23, 1055, 72, 628, 629, 708, 709, 710, 711, 712, 713, 714, 1056, 1057, 1058, 47, 1059, 130, 136, 1060, 129, 132, 133, 134, 135, 1061, 337, 338, 339, 309, 310, 1062, 1063, 1064, 1065, 1066, 684, 685, 686, 73, 74, 77, 1067, 341, 342, 343, 76, 1068, 1069, 1070, 1071, 1072, 1073, 1074, 1075, 1215, 1216, 1217, 1218, 1219, 1220, 1221, 1222, 1223, 1224, 1225, 1226, 1227, 1228, 1311, 1312, 1313, 1314, 1315, 1316, 1317, 1318, 1319, 1320, 1294, 1295, 1296, 1297, 1298, 1299, 1300, 1301, 1302, 1303, 1333, 1334, 1335, 1336, 1337, 1338, 1339] (by decide +kernel) (by decide +kernel)
set_option maxRecDepth 20000 in
theorem gL_law_X8_orders : GoodIn wsL_law (wsV RL 142 RX8 yX8_orders wsX8_orders) := goodIn_app (goodIn_of _ (by decide +kernel)) ggL_law_X8_orders
set_option maxRecDepth 20000 in
theorem ggL_law_X9_orders : GoodIn wsL_law wsX9_orders := goodIn_r _ [1079, 657, 658, 659, 5, 660, 440, 192, 193, 194, 1080, 1081, 1082, 1083, 175, 1084, 1085, 1086, 1087, 148, 727, 728, 729, 1088, 1089, 1090, 1091, 1092, 1093, 1094, 1095, 1096, 166, 416, 417, 418, 1097, 1098, 1099, 1100, 691, 692, 693, 694, 164, 149, 695, 696, 697, 698, 142, 553, 554, 555, 556, 141, 586, 587, 588, 589, 163, 719, 720, 721, 722, 1101, 1102, 1103, 1104, 1229, 1230, 1231, 1232, 1233, 1234, 1235, 1236, 1237, 1238, 1239, 1240, 1241, 1242, 1243, 1244, 1245, 1246, 1247, 1248, 1249, 1250, 1251, 1252, 1253, 1254, 1255, 1256, 1257, 1258, 1259, 1260, 1261, 1262, 1263, 1264, 1265, 1266, 1267, 1268, 1269, 1270, 1271, 1272, 1273, 1274, 1275, 1276, 1277, 1278, 1279, 1280, 1281, 1282, 1283] (by decide +kernel) (by decide +kernel)
set_option maxRecDepth 20000 in
theorem gL_law_X9_orders : GoodIn wsL_law (wsV RL 145 RX9 yX9_orders wsX9_orders) := goodIn_app (goodIn_of _ (by decide +kernel)) ggL_law_X9_orders
set_option maxRecDepth 20000 in
theorem ggL_law_X8_order : GoodIn wsL_law wsX8_order := goodIn_r _ [1108, 48, 34, 673, 1048, 1049, 1050, 2, 1051, 24, 639, 641, 642, 643, 33, 644, 95, 1052, 1053, 1054, 23, 1055, 72, 628, 629, 708, 709, 710, 711, 712, 713, 714, 1056, 1057, 1058, 47, 1059, 130, 136, 1060, 129, 132, 133, 134, 135, 1061, 337, 338, 339, 309, 310, 1062, 1063, 1064, 1065, 1066, 684, 685, 686, 73, 74, 77, 1067, 341, 342, 343, 76, 1068, 1069, 1070, 1071, 1109, 1110, 1111, 1112, 1113, 1114, 1115, 1116, 1215, 1216, 1217, 1218, 1219, 1220, 1221, 1222, 1223, 1224, 1225, 1226, 1227, 1228, 1311, 1312, 1313, 1314, 1315, 1316, 1317, 1318, 1319, 1320, 1294, 1295, 1296, 1297, 1298, 1299, 1300, 1301, 1302, 1303, 1333, 1334, 1335, 1336, 1337, 1338, 1339] (by decide +kernel) (by decide +kernel)
set_option maxRecDepth 20000 in
theorem gL_law_X8_order : GoodIn wsL_law (wsV RL 146 RX8 yX8_order wsX8_order) := goodIn_app (goodIn_of _ (by decide +kernel)) ggL_law_X8_order
set_option maxRecDepth 20000 in
theorem ggL_law_X9_order : GoodIn wsL_law wsX9_order := goodIn_r _ [1120, 166, 657, 658, 659, 5, 660, 440, 192, 193, 194, 1080, 1081, 1082, 1083, 175, 1084, 1085, 1086, 1087, 148, 727, 728, 729, 1088, 1089, 1090, 1091, 1092, 1093, 1094, 1095, 1096, 416, 417, 418, 1097, 1098, 1099, 1100, 691, 692, 693, 694, 164, 149, 695, 696, 697, 698, 142, 553, 554, 555, 556, 141, 586, 587, 588, 589, 163, 719, 720, 721, 722, 1101, 1102, 1103, 1104, 1229, 1230, 1231, 1232, 1233, 1234, 1235, 1236, 1237, 1238, 1239, 1240, 1241, 1242, 1243, 1244, 1245, 1246, 1247, 1248, 1249, 1250, 1251, 1252, 1253, 1254, 1255, 1256, 1257, 1258, 1259, 1260, 1261, 1262, 1263, 1264, 1265, 1266, 1267, 1268, 1269, 1270, 1271, 1272, 1273, 1274, 1275, 1276, 1277, 1278, 1279, 1280, 1281, 1282, 1283] (by decide +kernel) (by decide +kernel)
set_option maxRecDepth 20000 in
theorem gL_law_X9_order : GoodIn wsL_law (wsV RL 149 RX9 yX9_order wsX9_order) := goodIn_app (goodIn_of _ (by decide +kernel)) ggL_law_X9_order
set_option maxRecDepth 20000 in
theorem ggL_law_X8_whence : GoodIn wsL_law wsX8_whence := goodIn_r _ [1124, 34, 673, 24, 203, 639, 526, 565, 641, 642, 643, 33, 644, 95, 566, 567, 2, 568, 682, 309, 310, 1215, 1216, 1217, 1218, 1219, 1220, 1221, 1222, 1223, 1224, 1225, 1226, 1227, 1228, 1311, 1312, 1313, 1314, 1315, 1316, 1317, 1318, 1319, 1320, 1294, 1295, 1296, 1297, 1298, 1299, 1300, 1301, 1302, 1303] (by decide +kernel) (by decide +kernel)
set_option maxRecDepth 20000 in
theorem gL_law_X8_whence : GoodIn wsL_law (wsV RL 150 RX8 yX8_whence wsX8_whence) := goodIn_app (goodIn_of _ (by decide +kernel)) ggL_law_X8_whence
set_option maxRecDepth 20000 in
theorem ggL_law_X9_whence : GoodIn wsL_law wsX9_whence := goodIn_r _ [1128, 175, 148, 141, 149, 657, 658, 659, 5, 660, 440, 192, 193, 194, 573, 574, 575, 576, 416, 417, 418, 1229, 1230, 1231, 1232, 1233, 1234, 1235, 1236, 1237, 1238, 1239, 1240, 1241, 1242, 1243, 1244, 1245, 1246, 1247, 1248, 1249, 1250, 1251, 1252, 1253, 1254, 1255, 1256, 1257, 1258, 1259, 1260, 1261, 1262, 1263, 1264, 1265, 1266, 1267, 1268, 1269, 1270, 1271, 1272, 1273, 1274, 1275, 1276, 1277, 1278, 1279, 1280, 1281, 1282, 1283] (by decide +kernel) (by decide +kernel)
set_option maxRecDepth 20000 in
theorem gL_law_X9_whence : GoodIn wsL_law (wsV RL 153 RX9 yX9_whence wsX9_whence) := goodIn_app (goodIn_of _ (by decide +kernel)) ggL_law_X9_whence
set_option maxRecDepth 20000 in
theorem ggL_law_X8_strayed : GoodIn wsL_law wsX8_strayed := goodIn_r _ [1132, 34, 24, 203, 639, 673, 581, 641, 642, 643, 33, 644, 95, 682, 309, 2, 310, 1215, 1216, 1217, 1218, 1219, 1220, 1221, 1222, 1223, 1224, 1225, 1226, 1227, 1228, 1294, 1295, 1296, 1297, 1298, 1299, 1300, 1301, 1302, 1303, 1311, 1312, 1313, 1314, 1315, 1316, 1317, 1318, 1319, 1320] (by decide +kernel) (by decide +kernel)
set_option maxRecDepth 20000 in
theorem gL_law_X8_strayed : GoodIn wsL_law (wsV RL 154 RX8 yX8_strayed wsX8_strayed) := goodIn_app (goodIn_of _ (by decide +kernel)) ggL_law_X8_strayed
set_option maxRecDepth 20000 in
theorem ggL_law_X9_strayed : GoodIn wsL_law wsX9_strayed := goodIn_r _ [1136, 175, 148, 149, 657, 658, 659, 5, 660, 440, 192, 193, 194, 416, 417, 418, 586, 587, 588, 589, 163, 1229, 1230, 1231, 1232, 1233, 1234, 1235, 1236, 1237, 1238, 1239, 1240, 1241, 1242, 1243, 1244, 1245, 1246, 1247, 1248, 1249, 1250, 1251, 1252, 1253, 1254, 1255, 1256, 1257, 1258, 1259, 1260, 1261, 1262, 1263, 1264, 1265, 1266, 1267, 1268, 1269, 1270, 1271, 1272, 1273, 1274, 1275, 1276, 1277, 1278, 1279, 1280, 1281, 1282, 1283] (by decide +kernel) (by decide +kernel)
set_option maxRecDepth 20000 in
theorem gL_law_X9_strayed : GoodIn wsL_law (wsV RL 157 RX9 yX9_strayed wsX9_strayed) := goodIn_app (goodIn_of _ (by decide +kernel)) ggL_law_X9_strayed
set_option maxRecDepth 20000 in
theorem ggL_law_X8_bestCut : GoodIn wsL_law wsX8_bestCut := goodIn_r _ [1140, 24, 203, 865, 628, 2, 629, 900, 901, 902, 23, 903, 904, 646, 647, 648, 78, 80, 309, 310, 541, 542, 543, 544, 81, 905, 875, 876, 877, 79, 1215, 1216, 1217, 1218, 1219, 1220, 1221, 1222, 1223, 1224, 1225, 1226, 1227, 1228, 1294, 1295, 1296, 1297, 1298, 1299, 1300, 1301, 1302, 1303] (by decide +kernel) (by decide +kernel)
set_option maxRecDepth 20000 in
theorem gL_law_X8_bestCut : GoodIn wsL_law (wsV RL 158 RX8 yX8_bestCut wsX8_bestCut) := goodIn_app (goodIn_of _ (by decide +kernel)) ggL_law_X8_bestCut
set_option maxRecDepth 20000 in
theorem ggL_law_X9_bestCut : GoodIn wsL_law wsX9_bestCut := goodIn_r _ [1144, 175, 192, 193, 5, 194, 661, 662, 663, 664, 439, 145, 146, 416, 417, 418, 888, 889, 890, 891, 144, 1229, 1230, 1231, 1232, 1233, 1234, 1235, 1236, 1237, 1238, 1239, 1240, 1241, 1242, 1243, 1244, 1245, 1246, 1247, 1248, 1249, 1250, 1251, 1252, 1253, 1254, 1255, 1256, 1257, 1258, 1259, 1260, 1261, 1262, 1263, 1264, 1265, 1266, 1267, 1268, 1269, 1270, 1271, 1272, 1273, 1274, 1275, 1276, 1277, 1278, 1279, 1280, 1281, 1282, 1283] (by decide +kernel) (by decide +kernel)
set_option maxRecDepth 20000 in
theorem gL_law_X9_bestCut : GoodIn wsL_law (wsV RL 161 RX9 yX9_bestCut wsX9_bestCut) := goodIn_app (goodIn_of _ (by decide +kernel)) ggL_law_X9_bestCut
set_option maxRecDepth 20000 in
theorem ggL_law_X8_up : GoodIn wsL_law wsX8_up := goodIn_r _ [1148, 34, 24, 202, 939, 940, 941, 942, 33, 943, 100, 597, 598, 599, 23, 600, 78, 973, 974, 975, 2, 976, 645, 646, 647, 648, 80, 309, 310, 541, 542, 543, 544, 81, 682, 1149, 1150, 1151, 1152, 649, 650, 651, 652, 72, 75, 1215, 1216, 1217, 1218, 1219, 1220, 1221, 1222, 1223, 1224, 1225, 1226, 1227, 1228, 1311, 1312, 1313, 1314, 1315, 1316, 1317, 1318, 1319, 1320, 1294, 1295, 1296, 1297, 1298, 1299, 1300, 1301, 1302, 1303] (by decide +kernel) (by decide +kernel)
set_option maxRecDepth 20000 in
theorem gL_law_X8_up : GoodIn wsL_law (wsV RL 162 RX8 yX8_up wsX8_up) := goodIn_app (goodIn_of _ (by decide +kernel)) ggL_law_X8_up
set_option maxRecDepth 20000 in
theorem ggL_law_X9_up : GoodIn wsL_law wsX9_up := goodIn_r _ [1156, 441, 153, 948, 949, 950, 5, 951, 192, 193, 194, 605, 606, 607, 608, 439, 981, 982, 983, 984, 661, 662, 663, 664, 145, 146, 416, 417, 418, 665, 666, 667, 668, 175, 143, 1229, 1230, 1231, 1232, 1233, 1234, 1235, 1236, 1237, 1238, 1239, 1240, 1241, 1242, 1243, 1244, 1245, 1246, 1247, 1248, 1249, 1250, 1251, 1252, 1253, 1254, 1255, 1256, 1257, 1258, 1259, 1260, 1261, 1262, 1263, 1264, 1265, 1266, 1267, 1268, 1269, 1270, 1271, 1272, 1273, 1274, 1275, 1276, 1277, 1278, 1279, 1280, 1281, 1282, 1283] (by decide +kernel) (by decide +kernel)
set_option maxRecDepth 20000 in
theorem gL_law_X9_up : GoodIn wsL_law (wsV RL 165 RX9 yX9_up wsX9_up) := goodIn_app (goodIn_of _ (by decide +kernel)) ggL_law_X9_up
set_option maxRecDepth 20000 in
theorem ggL_law_X8_spans : GoodIn wsL_law wsX8_spans := goodIn_r _ [1160, 24, 34, 202, 937, 597, 598, 599, 23, 600, 78, 641, 642, 643, 33, 644, 95, 973, 974, 975, 2, 976, 939, 645, 646, 647, 648, 80, 309, 310, 541, 542, 543, 544, 81, 682, 1215, 1216, 1217, 1218, 1219, 1220, 1221, 1222, 1223, 1224, 1225, 1226, 1227, 1228, 1311, 1312, 1313, 1314, 1315, 1316, 1317, 1318, 1319, 1320, 1294, 1295, 1296, 1297, 1298, 1299, 1300, 1301, 1302, 1303] (by decide +kernel) (by decide +kernel)
set_option maxRecDepth 20000 in
theorem gL_law_X8_spans : GoodIn wsL_law (wsV RL 166 RX8 yX8_spans wsX8_spans) := goodIn_app (goodIn_of _ (by decide +kernel)) ggL_law_X8_spans
set_option maxRecDepth 20000 in
theorem ggL_law_X9_spans : GoodIn wsL_law wsX9_spans := goodIn_r _ [1164, 441, 151, 605, 606, 607, 5, 608, 439, 192, 193, 194, 657, 658, 659, 660, 440, 981, 982, 983, 984, 153, 661, 662, 663, 664, 145, 146, 416, 417, 418, 1229, 1230, 1231, 1232, 1233, 1234, 1235, 1236, 1237, 1238, 1239, 1240, 1241, 1242, 1243, 1244, 1245, 1246, 1247, 1248, 1249, 1250, 1251, 1252, 1253, 1254, 1255, 1256, 1257, 1258, 1259, 1260, 1261, 1262, 1263, 1264, 1265, 1266, 1267, 1268, 1269, 1270, 1271, 1272, 1273, 1274, 1275, 1276, 1277, 1278, 1279, 1280, 1281, 1282, 1283] (by decide +kernel) (by decide +kernel)
set_option maxRecDepth 20000 in
theorem gL_law_X9_spans : GoodIn wsL_law (wsV RL 169 RX9 yX9_spans wsX9_spans) := goodIn_app (goodIn_of _ (by decide +kernel)) ggL_law_X9_spans
set_option maxRecDepth 20000 in
theorem ggL_law_X8_lets : GoodIn wsL_law wsX8_lets := goodIn_r _ [1168, 34, 24, 40, 639, 29, 641, 642, 643, 33, 644, 95, 529, 530, 531, 23, 532, 72, 914, 915, 2, 916, 754, 755, 756, 39, 757, 112, 758, 111, 759, 309, 310, 760, 684, 685, 686, 73, 74, 77, 761, 762, 763, 764, 765, 766, 767, 768, 769, 770, 771, 772, 109, 773, 774, 775, 776, 777, 778, 337, 338, 339, 779, 341, 342, 343, 76, 645, 646, 647, 648, 78, 80, 541, 542, 543, 544, 81, 1169, 1170, 1171, 1172, 28, 1173, 86, 87, 88, 1174, 1175, 1176, 1177, 91, 649, 650, 651, 652, 75, 1178, 1179, 1180, 1181, 89, 1182, 875, 876, 877, 79, 1183, 1184, 1185, 1186, 90, 1215, 1216, 1217, 1218, 1219, 1220, 1221, 1222, 1223, 1224, 1225, 1226, 1227, 1228, 1311, 1312, 1313, 1314, 1315, 1316, 1317, 1318, 1319, 1320, 1294, 1295, 1296, 1297, 1298, 1299, 1300, 1301, 1302, 1303, 1321, 1322, 1323, 1324, 1304, 1305, 1306, 1307, 1308, 1309, 1310] (by decide +kernel) (by decide +kernel)
set_option maxRecDepth 20000 in
theorem gL_law_X8_lets : GoodIn wsL_law (wsV RL 170 RX8 yX8_lets wsX8_lets) := goodIn_app (goodIn_of _ (by decide +kernel)) ggL_law_X8_lets
set_option maxRecDepth 20000 in
theorem ggL_law_X9_lets : GoodIn wsL_law wsX9_lets := goodIn_r _ [1190, 501, 500, 167, 168, 148, 439, 146, 169, 170, 657, 658, 659, 5, 660, 440, 192, 193, 194, 549, 550, 551, 552, 175, 929, 930, 931, 932, 784, 785, 786, 787, 416, 417, 418, 691, 692, 693, 694, 164, 149, 695, 696, 697, 698, 142, 553, 554, 555, 556, 141, 586, 587, 588, 589, 163, 446, 447, 448, 449, 788, 789, 790, 791, 719, 720, 721, 722, 661, 662, 663, 664, 145, 665, 666, 667, 668, 143, 888, 889, 890, 891, 144, 1229, 1230, 1231, 1232, 1233, 1234, 1235, 1236, 1237, 1238, 1239, 1240, 1241, 1242, 1243, 1244, 1245, 1246, 1247, 1248, 1249, 1250, 1251, 1252, 1253, 1254, 1255, 1256, 1257, 1258, 1259, 1260, 1261, 1262, 1263, 1264, 1265, 1266, 1267, 1268, 1269, 1270, 1271, 1272, 1273, 1274, 1275, 1276, 1277, 1278, 1279, 1280, 1281, 1282, 1283] (by decide +kernel) (by decide +kernel)
set_option maxRecDepth 20000 in
theorem gL_law_X9_lets : GoodIn wsL_law (wsV RL 173 RX9 yX9_lets wsX9_lets) := goodIn_app (goodIn_of _ (by decide +kernel)) ggL_law_X9_lets
set_option maxRecDepth 20000 in
theorem ggL_law_X8_keep : GoodIn wsL_law wsX8_keep := goodIn_r _ [1194, 34, 49, 1195, 1196, 1197, 2, 1198, 35, 36, 1199, 1200, 1201, 33, 1202, 95, 96, 627, 337, 338, 339, 97, 98, 99, 100, 101, 102, 103, 104, 1215, 1216, 1217, 1218, 1219, 1220, 1221, 1222, 1223, 1224, 1225, 1226, 1227, 1228, 1311, 1312, 1313, 1314, 1315, 1316, 1317, 1318, 1319, 1320] (by decide +kernel) (by decide +kernel)
set_option maxRecDepth 20000 in
theorem gL_law_X8_keep : GoodIn wsL_law (wsV RL 174 RX8 yX8_keep wsX8_keep) := goodIn_app (goodIn_of _ (by decide +kernel)) ggL_law_X8_keep
set_option maxRecDepth 20000 in
theorem ggL_law_X9_keep : GoodIn wsL_law wsX9_keep := goodIn_r _ [1206, 173, 440, 441, 147, 148, 150, 149, 151, 152, 153, 154, 174, 192, 193, 5, 194, 1229, 1230, 1231, 1232, 1233, 1234, 1235, 1236, 1237, 1238, 1239, 1240, 1241, 1242, 1243, 1244, 1245, 1246, 1247, 1248, 1249, 1250, 1251, 1252, 1253, 1254, 1255, 1256, 1257, 1258, 1259, 1260, 1261, 1262, 1263, 1264, 1265, 1266, 1267, 1268, 1269, 1270, 1271, 1272, 1273, 1274, 1275, 1276, 1277, 1278, 1279, 1280, 1281, 1282, 1283] (by decide +kernel) (by decide +kernel)
set_option maxRecDepth 20000 in
theorem gL_law_X9_keep : GoodIn wsL_law (wsV RL 177 RX9 yX9_keep wsX9_keep) := goodIn_app (goodIn_of _ (by decide +kernel)) ggL_law_X9_keep
set_option maxRecDepth 20000 in
theorem ggL_law_X8_goBack : GoodIn wsL_law wsX8_goBack := goodIn_r _ [1210, 49, 34, 682, 309, 2, 310, 1195, 1196, 1197, 1198, 35, 36, 1199, 1200, 1201, 33, 1202, 95, 96, 627, 337, 338, 339, 97, 98, 99, 100, 101, 102, 103, 104, 1215, 1216, 1217, 1218, 1219, 1220, 1221, 1222, 1223, 1224, 1225, 1226, 1227, 1228, 1311, 1312, 1313, 1314, 1315, 1316, 1317, 1318, 1319, 1320] (by decide +kernel) (by decide +kernel)
set_option maxRecDepth 20000 in
theorem gL_law_X8_goBack : GoodIn wsL_law (wsV RL 178 RX8 yX8_goBack wsX8_goBack) := goodIn_app (goodIn_of _ (by decide +kernel)) ggL_law_X8_goBack
set_option maxRecDepth 20000 in
theorem ggL_law_X9_goBack : GoodIn wsL_law wsX9_goBack := goodIn_r _ [1214, 174, 173, 440, 441, 147, 148, 150, 149, 151, 152, 153, 154, 192, 193, 5, 194, 1229, 1230, 1231, 1232, 1233, 1234, 1235, 1236, 1237, 1238, 1239, 1240, 1241, 1242, 1243, 1244, 1245, 1246, 1247, 1248, 1249, 1250, 1251, 1252, 1253, 1254, 1255, 1256, 1257, 1258, 1259, 1260, 1261, 1262, 1263, 1264, 1265, 1266, 1267, 1268, 1269, 1270, 1271, 1272, 1273, 1274, 1275, 1276, 1277, 1278, 1279, 1280, 1281, 1282, 1283] (by decide +kernel) (by decide +kernel)
set_option maxRecDepth 20000 in
theorem gL_law_X9_goBack : GoodIn wsL_law (wsV RL 181 RX9 yX9_goBack wsX9_goBack) := goodIn_app (goodIn_of _ (by decide +kernel)) ggL_law_X9_goBack
theorem dL_law_0 : decode cL_law 0 = .ok (.new 7, 3) := by decide +kernel
theorem dL_law_3 : decode cL_law 3 = .ok (.dup, 1) := by decide +kernel
theorem dL_law_4 : decode cL_law 4 = .ok (.invokespecial 9, 3) := by decide +kernel
theorem dL_law_7 : decode cL_law 7 = .ok (.astore_n 1, 1) := by decide +kernel
theorem dL_law_8 : decode cL_law 8 = .ok (.new 10, 3) := by decide +kernel
theorem dL_law_11 : decode cL_law 11 = .ok (.dup, 1) := by decide +kernel
theorem dL_law_12 : decode cL_law 12 = .ok (.invokespecial 12, 3) := by decide +kernel
theorem dL_law_15 : decode cL_law 15 = .ok (.astore_n 2, 1) := by decide +kernel
theorem dL_law_16 : decode cL_law 16 = .ok (.iconst 0, 1) := by decide +kernel
theorem dL_law_17 : decode cL_law 17 = .ok (.istore_n 3, 1) := by decide +kernel
theorem dL_law_18 : decode cL_law 18 = .ok (.iload_n 3, 1) := by decide +kernel
theorem dL_law_19 : decode cL_law 19 = .ok (.aload_n 0, 1) := by decide +kernel
theorem dL_law_20 : decode cL_law 20 = .ok (.arraylength, 1) := by decide +kernel
theorem dL_law_21 : decode cL_law 21 = .ok (.iconst 5, 1) := by decide +kernel
theorem dL_law_22 : decode cL_law 22 = .ok (.isub, 1) := by decide +kernel
theorem dL_law_23 : decode cL_law 23 = .ok (.if_icmp .gt 1567, 3) := by decide +kernel
theorem dL_law_26 : decode cL_law 26 = .ok (.aload_n 0, 1) := by decide +kernel
theorem dL_law_27 : decode cL_law 27 = .ok (.iload_n 3, 1) := by decide +kernel
theorem dL_law_28 : decode cL_law 28 = .ok (.iaload, 1) := by decide +kernel
theorem dL_law_29 : decode cL_law 29 = .ok (.bipush 63, 2) := by decide +kernel
theorem dL_law_31 : decode cL_law 31 = .ok (.iand, 1) := by decide +kernel
theorem dL_law_32 : decode cL_law 32 = .ok (.tableswitch 1552 0 39 #[176, 239, 252, 265, 278, 311, 344, 377, 410, 433, 456, 489, 522, 555, 588, 621, 654, 687, 730, 763, 816, 849, 882, 915, 958, 991, 1024, 1067, 1100, 1133, 1182, 1215, 1268, 1301, 1324, 1367, 1410, 1463, 1506, 1529], 176) := by decide +kernel
theorem dL_law_208 : decode cL_law 208 = .ok (.aload_n 1, 1) := by decide +kernel
theorem dL_law_209 : decode cL_law 209 = .ok (.aload_n 0, 1) := by decide +kernel
theorem dL_law_210 : decode cL_law 210 = .ok (.iload_n 3, 1) := by decide +kernel
theorem dL_law_211 : decode cL_law 211 = .ok (.iconst 1, 1) := by decide +kernel
theorem dL_law_212 : decode cL_law 212 = .ok (.iadd, 1) := by decide +kernel
theorem dL_law_213 : decode cL_law 213 = .ok (.iaload, 1) := by decide +kernel
theorem dL_law_214 : decode cL_law 214 = .ok (.aload_n 0, 1) := by decide +kernel
theorem dL_law_215 : decode cL_law 215 = .ok (.iload_n 3, 1) := by decide +kernel
theorem dL_law_216 : decode cL_law 216 = .ok (.iconst 2, 1) := by decide +kernel
theorem dL_law_217 : decode cL_law 217 = .ok (.iadd, 1) := by decide +kernel
theorem dL_law_218 : decode cL_law 218 = .ok (.iaload, 1) := by decide +kernel
theorem dL_law_219 : decode cL_law 219 = .ok (.i2l, 1) := by decide +kernel
theorem dL_law_220 : decode cL_law 220 = .ok (.bipush 32, 2) := by decide +kernel
theorem dL_law_222 : decode cL_law 222 = .ok (.lshl, 1) := by decide +kernel
theorem dL_law_223 : decode cL_law 223 = .ok (.aload_n 0, 1) := by decide +kernel
theorem dL_law_224 : decode cL_law 224 = .ok (.iload_n 3, 1) := by decide +kernel
theorem dL_law_225 : decode cL_law 225 = .ok (.iconst 3, 1) := by decide +kernel
theorem dL_law_226 : decode cL_law 226 = .ok (.iadd, 1) := by decide +kernel
theorem dL_law_227 : decode cL_law 227 = .ok (.iaload, 1) := by decide +kernel
theorem dL_law_228 : decode cL_law 228 = .ok (.i2l, 1) := by decide +kernel
theorem dL_law_229 : decode cL_law 229 = .ok (.ldc2_w 13, 3) := by decide +kernel
theorem dL_law_232 : decode cL_law 232 = .ok (.land, 1) := by decide +kernel
theorem dL_law_233 : decode cL_law 233 = .ok (.lor, 1) := by decide +kernel
theorem dL_law_234 : decode cL_law 234 = .ok (.invokevirtual 15, 3) := by decide +kernel
theorem dL_law_237 : decode cL_law 237 = .ok (.aload_n 2, 1) := by decide +kernel
theorem dL_law_238 : decode cL_law 238 = .ok (.aload_n 0, 1) := by decide +kernel
theorem dL_law_239 : decode cL_law 239 = .ok (.iload_n 3, 1) := by decide +kernel
theorem dL_law_240 : decode cL_law 240 = .ok (.iconst 1, 1) := by decide +kernel
theorem dL_law_241 : decode cL_law 241 = .ok (.iadd, 1) := by decide +kernel
theorem dL_law_242 : decode cL_law 242 = .ok (.iaload, 1) := by decide +kernel
theorem dL_law_243 : decode cL_law 243 = .ok (.aload_n 0, 1) := by decide +kernel
theorem dL_law_244 : decode cL_law 244 = .ok (.iload_n 3, 1) := by decide +kernel
theorem dL_law_245 : decode cL_law 245 = .ok (.iconst 2, 1) := by decide +kernel
theorem dL_law_246 : decode cL_law 246 = .ok (.iadd, 1) := by decide +kernel
theorem dL_law_247 : decode cL_law 247 = .ok (.iaload, 1) := by decide +kernel
theorem dL_law_248 : decode cL_law 248 = .ok (.i2l, 1) := by decide +kernel
theorem dL_law_249 : decode cL_law 249 = .ok (.bipush 32, 2) := by decide +kernel
theorem dL_law_251 : decode cL_law 251 = .ok (.lshl, 1) := by decide +kernel
theorem dL_law_252 : decode cL_law 252 = .ok (.aload_n 0, 1) := by decide +kernel
theorem dL_law_253 : decode cL_law 253 = .ok (.iload_n 3, 1) := by decide +kernel
theorem dL_law_254 : decode cL_law 254 = .ok (.iconst 3, 1) := by decide +kernel
theorem dL_law_255 : decode cL_law 255 = .ok (.iadd, 1) := by decide +kernel
theorem dL_law_256 : decode cL_law 256 = .ok (.iaload, 1) := by decide +kernel
theorem dL_law_257 : decode cL_law 257 = .ok (.i2l, 1) := by decide +kernel
theorem dL_law_258 : decode cL_law 258 = .ok (.ldc2_w 13, 3) := by decide +kernel
theorem dL_law_261 : decode cL_law 261 = .ok (.land, 1) := by decide +kernel
theorem dL_law_262 : decode cL_law 262 = .ok (.lor, 1) := by decide +kernel
theorem dL_law_263 : decode cL_law 263 = .ok (.invokevirtual 19, 3) := by decide +kernel
theorem dL_law_266 : decode cL_law 266 = .ok (.if_icmp .eq 1318, 3) := by decide +kernel
theorem dL_law_269 : decode cL_law 269 = .ok (.iconst 0, 1) := by decide +kernel
theorem dL_law_270 : decode cL_law 270 = .ok (.ireturn, 1) := by decide +kernel
theorem dL_law_271 : decode cL_law 271 = .ok (.aload_n 1, 1) := by decide +kernel
theorem dL_law_272 : decode cL_law 272 = .ok (.invokevirtual 20, 3) := by decide +kernel
theorem dL_law_275 : decode cL_law 275 = .ok (.aload_n 2, 1) := by decide +kernel
theorem dL_law_276 : decode cL_law 276 = .ok (.invokevirtual 24, 3) := by decide +kernel
theorem dL_law_279 : decode cL_law 279 = .ok (.if_icmp .eq 1305, 3) := by decide +kernel
theorem dL_law_282 : decode cL_law 282 = .ok (.iconst 0, 1) := by decide +kernel
theorem dL_law_283 : decode cL_law 283 = .ok (.ireturn, 1) := by decide +kernel
theorem dL_law_284 : decode cL_law 284 = .ok (.aload_n 1, 1) := by decide +kernel
theorem dL_law_285 : decode cL_law 285 = .ok (.invokevirtual 25, 3) := by decide +kernel
theorem dL_law_288 : decode cL_law 288 = .ok (.aload_n 2, 1) := by decide +kernel
theorem dL_law_289 : decode cL_law 289 = .ok (.invokevirtual 28, 3) := by decide +kernel
theorem dL_law_292 : decode cL_law 292 = .ok (.if_icmp .eq 1292, 3) := by decide +kernel
theorem dL_law_295 : decode cL_law 295 = .ok (.iconst 0, 1) := by decide +kernel
theorem dL_law_296 : decode cL_law 296 = .ok (.ireturn, 1) := by decide +kernel
theorem dL_law_297 : decode cL_law 297 = .ok (.aload_n 1, 1) := by decide +kernel
theorem dL_law_298 : decode cL_law 298 = .ok (.invokevirtual 29, 3) := by decide +kernel
theorem dL_law_301 : decode cL_law 301 = .ok (.aload_n 2, 1) := by decide +kernel
theorem dL_law_302 : decode cL_law 302 = .ok (.invokevirtual 32, 3) := by decide +kernel
theorem dL_law_305 : decode cL_law 305 = .ok (.if_icmp .eq 1279, 3) := by decide +kernel
theorem dL_law_308 : decode cL_law 308 = .ok (.iconst 0, 1) := by decide +kernel
theorem dL_law_309 : decode cL_law 309 = .ok (.ireturn, 1) := by decide +kernel
theorem dL_law_310 : decode cL_law 310 = .ok (.aload_n 1, 1) := by decide +kernel
theorem dL_law_311 : decode cL_law 311 = .ok (.aload_n 0, 1) := by decide +kernel
theorem dL_law_312 : decode cL_law 312 = .ok (.iload_n 3, 1) := by decide +kernel
theorem dL_law_313 : decode cL_law 313 = .ok (.iconst 1, 1) := by decide +kernel
theorem dL_law_314 : decode cL_law 314 = .ok (.iadd, 1) := by decide +kernel
theorem dL_law_315 : decode cL_law 315 = .ok (.iaload, 1) := by decide +kernel
theorem dL_law_316 : decode cL_law 316 = .ok (.aload_n 0, 1) := by decide +kernel
theorem dL_law_317 : decode cL_law 317 = .ok (.iload_n 3, 1) := by decide +kernel
theorem dL_law_318 : decode cL_law 318 = .ok (.iconst 2, 1) := by decide +kernel
theorem dL_law_319 : decode cL_law 319 = .ok (.iadd, 1) := by decide +kernel
theorem dL_law_320 : decode cL_law 320 = .ok (.iaload, 1) := by decide +kernel
theorem dL_law_321 : decode cL_law 321 = .ok (.invokevirtual 33, 3) := by decide +kernel
theorem dL_law_324 : decode cL_law 324 = .ok (.aload_n 2, 1) := by decide +kernel
theorem dL_law_325 : decode cL_law 325 = .ok (.aload_n 0, 1) := by decide +kernel
theorem dL_law_326 : decode cL_law 326 = .ok (.iload_n 3, 1) := by decide +kernel
theorem dL_law_327 : decode cL_law 327 = .ok (.iconst 1, 1) := by decide +kernel
theorem dL_law_328 : decode cL_law 328 = .ok (.iadd, 1) := by decide +kernel
theorem dL_law_329 : decode cL_law 329 = .ok (.iaload, 1) := by decide +kernel
theorem dL_law_330 : decode cL_law 330 = .ok (.aload_n 0, 1) := by decide +kernel
theorem dL_law_331 : decode cL_law 331 = .ok (.iload_n 3, 1) := by decide +kernel
theorem dL_law_332 : decode cL_law 332 = .ok (.iconst 2, 1) := by decide +kernel
theorem dL_law_333 : decode cL_law 333 = .ok (.iadd, 1) := by decide +kernel
theorem dL_law_334 : decode cL_law 334 = .ok (.iaload, 1) := by decide +kernel
theorem dL_law_335 : decode cL_law 335 = .ok (.invokevirtual 37, 3) := by decide +kernel
theorem dL_law_338 : decode cL_law 338 = .ok (.if_icmp .eq 1246, 3) := by decide +kernel
theorem dL_law_341 : decode cL_law 341 = .ok (.iconst 0, 1) := by decide +kernel
theorem dL_law_342 : decode cL_law 342 = .ok (.ireturn, 1) := by decide +kernel
theorem dL_law_343 : decode cL_law 343 = .ok (.aload_n 1, 1) := by decide +kernel
theorem dL_law_344 : decode cL_law 344 = .ok (.aload_n 0, 1) := by decide +kernel
theorem dL_law_345 : decode cL_law 345 = .ok (.iload_n 3, 1) := by decide +kernel
theorem dL_law_346 : decode cL_law 346 = .ok (.iconst 1, 1) := by decide +kernel
theorem dL_law_347 : decode cL_law 347 = .ok (.iadd, 1) := by decide +kernel
theorem dL_law_348 : decode cL_law 348 = .ok (.iaload, 1) := by decide +kernel
theorem dL_law_349 : decode cL_law 349 = .ok (.aload_n 0, 1) := by decide +kernel
theorem dL_law_350 : decode cL_law 350 = .ok (.iload_n 3, 1) := by decide +kernel
theorem dL_law_351 : decode cL_law 351 = .ok (.iconst 2, 1) := by decide +kernel
theorem dL_law_352 : decode cL_law 352 = .ok (.iadd, 1) := by decide +kernel
theorem dL_law_353 : decode cL_law 353 = .ok (.iaload, 1) := by decide +kernel
theorem dL_law_354 : decode cL_law 354 = .ok (.invokevirtual 38, 3) := by decide +kernel
theorem dL_law_357 : decode cL_law 357 = .ok (.aload_n 2, 1) := by decide +kernel
theorem dL_law_358 : decode cL_law 358 = .ok (.aload_n 0, 1) := by decide +kernel
theorem dL_law_359 : decode cL_law 359 = .ok (.iload_n 3, 1) := by decide +kernel
theorem dL_law_360 : decode cL_law 360 = .ok (.iconst 1, 1) := by decide +kernel
theorem dL_law_361 : decode cL_law 361 = .ok (.iadd, 1) := by decide +kernel
theorem dL_law_362 : decode cL_law 362 = .ok (.iaload, 1) := by decide +kernel
theorem dL_law_363 : decode cL_law 363 = .ok (.aload_n 0, 1) := by decide +kernel
theorem dL_law_364 : decode cL_law 364 = .ok (.iload_n 3, 1) := by decide +kernel
theorem dL_law_365 : decode cL_law 365 = .ok (.iconst 2, 1) := by decide +kernel
theorem dL_law_366 : decode cL_law 366 = .ok (.iadd, 1) := by decide +kernel
theorem dL_law_367 : decode cL_law 367 = .ok (.iaload, 1) := by decide +kernel
theorem dL_law_368 : decode cL_law 368 = .ok (.invokevirtual 41, 3) := by decide +kernel
theorem dL_law_371 : decode cL_law 371 = .ok (.if_icmp .eq 1213, 3) := by decide +kernel
theorem dL_law_374 : decode cL_law 374 = .ok (.iconst 0, 1) := by decide +kernel
theorem dL_law_375 : decode cL_law 375 = .ok (.ireturn, 1) := by decide +kernel
theorem dL_law_376 : decode cL_law 376 = .ok (.aload_n 1, 1) := by decide +kernel
theorem dL_law_377 : decode cL_law 377 = .ok (.aload_n 0, 1) := by decide +kernel
theorem dL_law_378 : decode cL_law 378 = .ok (.iload_n 3, 1) := by decide +kernel
theorem dL_law_379 : decode cL_law 379 = .ok (.iconst 1, 1) := by decide +kernel
theorem dL_law_380 : decode cL_law 380 = .ok (.iadd, 1) := by decide +kernel
theorem dL_law_381 : decode cL_law 381 = .ok (.iaload, 1) := by decide +kernel
theorem dL_law_382 : decode cL_law 382 = .ok (.aload_n 0, 1) := by decide +kernel
theorem dL_law_383 : decode cL_law 383 = .ok (.iload_n 3, 1) := by decide +kernel
theorem dL_law_384 : decode cL_law 384 = .ok (.iconst 2, 1) := by decide +kernel
theorem dL_law_385 : decode cL_law 385 = .ok (.iadd, 1) := by decide +kernel
theorem dL_law_386 : decode cL_law 386 = .ok (.iaload, 1) := by decide +kernel
theorem dL_law_387 : decode cL_law 387 = .ok (.invokevirtual 42, 3) := by decide +kernel
theorem dL_law_390 : decode cL_law 390 = .ok (.aload_n 2, 1) := by decide +kernel
theorem dL_law_391 : decode cL_law 391 = .ok (.aload_n 0, 1) := by decide +kernel
theorem dL_law_392 : decode cL_law 392 = .ok (.iload_n 3, 1) := by decide +kernel
theorem dL_law_393 : decode cL_law 393 = .ok (.iconst 1, 1) := by decide +kernel
theorem dL_law_394 : decode cL_law 394 = .ok (.iadd, 1) := by decide +kernel
theorem dL_law_395 : decode cL_law 395 = .ok (.iaload, 1) := by decide +kernel
theorem dL_law_396 : decode cL_law 396 = .ok (.aload_n 0, 1) := by decide +kernel
theorem dL_law_397 : decode cL_law 397 = .ok (.iload_n 3, 1) := by decide +kernel
theorem dL_law_398 : decode cL_law 398 = .ok (.iconst 2, 1) := by decide +kernel
theorem dL_law_399 : decode cL_law 399 = .ok (.iadd, 1) := by decide +kernel
theorem dL_law_400 : decode cL_law 400 = .ok (.iaload, 1) := by decide +kernel
theorem dL_law_401 : decode cL_law 401 = .ok (.invokevirtual 45, 3) := by decide +kernel
theorem dL_law_404 : decode cL_law 404 = .ok (.if_icmp .eq 1180, 3) := by decide +kernel
theorem dL_law_407 : decode cL_law 407 = .ok (.iconst 0, 1) := by decide +kernel
theorem dL_law_408 : decode cL_law 408 = .ok (.ireturn, 1) := by decide +kernel
theorem dL_law_409 : decode cL_law 409 = .ok (.aload_n 1, 1) := by decide +kernel
theorem dL_law_410 : decode cL_law 410 = .ok (.aload_n 0, 1) := by decide +kernel
theorem dL_law_411 : decode cL_law 411 = .ok (.iload_n 3, 1) := by decide +kernel
theorem dL_law_412 : decode cL_law 412 = .ok (.iconst 1, 1) := by decide +kernel
theorem dL_law_413 : decode cL_law 413 = .ok (.iadd, 1) := by decide +kernel
theorem dL_law_414 : decode cL_law 414 = .ok (.iaload, 1) := by decide +kernel
theorem dL_law_415 : decode cL_law 415 = .ok (.aload_n 0, 1) := by decide +kernel
theorem dL_law_416 : decode cL_law 416 = .ok (.iload_n 3, 1) := by decide +kernel
theorem dL_law_417 : decode cL_law 417 = .ok (.iconst 2, 1) := by decide +kernel
theorem dL_law_418 : decode cL_law 418 = .ok (.iadd, 1) := by decide +kernel
theorem dL_law_419 : decode cL_law 419 = .ok (.iaload, 1) := by decide +kernel
theorem dL_law_420 : decode cL_law 420 = .ok (.invokevirtual 46, 3) := by decide +kernel
theorem dL_law_423 : decode cL_law 423 = .ok (.aload_n 2, 1) := by decide +kernel
theorem dL_law_424 : decode cL_law 424 = .ok (.aload_n 0, 1) := by decide +kernel
theorem dL_law_425 : decode cL_law 425 = .ok (.iload_n 3, 1) := by decide +kernel
theorem dL_law_426 : decode cL_law 426 = .ok (.iconst 1, 1) := by decide +kernel
theorem dL_law_427 : decode cL_law 427 = .ok (.iadd, 1) := by decide +kernel
theorem dL_law_428 : decode cL_law 428 = .ok (.iaload, 1) := by decide +kernel
theorem dL_law_429 : decode cL_law 429 = .ok (.aload_n 0, 1) := by decide +kernel
theorem dL_law_430 : decode cL_law 430 = .ok (.iload_n 3, 1) := by decide +kernel
theorem dL_law_431 : decode cL_law 431 = .ok (.iconst 2, 1) := by decide +kernel
theorem dL_law_432 : decode cL_law 432 = .ok (.iadd, 1) := by decide +kernel
theorem dL_law_433 : decode cL_law 433 = .ok (.iaload, 1) := by decide +kernel
theorem dL_law_434 : decode cL_law 434 = .ok (.invokevirtual 49, 3) := by decide +kernel
theorem dL_law_437 : decode cL_law 437 = .ok (.if_icmp .eq 1147, 3) := by decide +kernel
theorem dL_law_440 : decode cL_law 440 = .ok (.iconst 0, 1) := by decide +kernel
theorem dL_law_441 : decode cL_law 441 = .ok (.ireturn, 1) := by decide +kernel
theorem dL_law_442 : decode cL_law 442 = .ok (.aload_n 1, 1) := by decide +kernel
theorem dL_law_443 : decode cL_law 443 = .ok (.aload_n 0, 1) := by decide +kernel
theorem dL_law_444 : decode cL_law 444 = .ok (.iload_n 3, 1) := by decide +kernel
theorem dL_law_445 : decode cL_law 445 = .ok (.iconst 1, 1) := by decide +kernel
theorem dL_law_446 : decode cL_law 446 = .ok (.iadd, 1) := by decide +kernel
theorem dL_law_447 : decode cL_law 447 = .ok (.iaload, 1) := by decide +kernel
theorem dL_law_448 : decode cL_law 448 = .ok (.invokevirtual 50, 3) := by decide +kernel
theorem dL_law_451 : decode cL_law 451 = .ok (.aload_n 2, 1) := by decide +kernel
theorem dL_law_452 : decode cL_law 452 = .ok (.aload_n 0, 1) := by decide +kernel
theorem dL_law_453 : decode cL_law 453 = .ok (.iload_n 3, 1) := by decide +kernel
theorem dL_law_454 : decode cL_law 454 = .ok (.iconst 1, 1) := by decide +kernel
theorem dL_law_455 : decode cL_law 455 = .ok (.iadd, 1) := by decide +kernel
theorem dL_law_456 : decode cL_law 456 = .ok (.iaload, 1) := by decide +kernel
theorem dL_law_457 : decode cL_law 457 = .ok (.invokevirtual 54, 3) := by decide +kernel
theorem dL_law_460 : decode cL_law 460 = .ok (.if_icmp .eq 1124, 3) := by decide +kernel
theorem dL_law_463 : decode cL_law 463 = .ok (.iconst 0, 1) := by decide +kernel
theorem dL_law_464 : decode cL_law 464 = .ok (.ireturn, 1) := by decide +kernel
theorem dL_law_465 : decode cL_law 465 = .ok (.aload_n 1, 1) := by decide +kernel
theorem dL_law_466 : decode cL_law 466 = .ok (.aload_n 0, 1) := by decide +kernel
theorem dL_law_467 : decode cL_law 467 = .ok (.iload_n 3, 1) := by decide +kernel
theorem dL_law_468 : decode cL_law 468 = .ok (.iconst 1, 1) := by decide +kernel
theorem dL_law_469 : decode cL_law 469 = .ok (.iadd, 1) := by decide +kernel
theorem dL_law_470 : decode cL_law 470 = .ok (.iaload, 1) := by decide +kernel
theorem dL_law_471 : decode cL_law 471 = .ok (.invokevirtual 55, 3) := by decide +kernel
theorem dL_law_474 : decode cL_law 474 = .ok (.aload_n 2, 1) := by decide +kernel
theorem dL_law_475 : decode cL_law 475 = .ok (.aload_n 0, 1) := by decide +kernel
theorem dL_law_476 : decode cL_law 476 = .ok (.iload_n 3, 1) := by decide +kernel
theorem dL_law_477 : decode cL_law 477 = .ok (.iconst 1, 1) := by decide +kernel
theorem dL_law_478 : decode cL_law 478 = .ok (.iadd, 1) := by decide +kernel
theorem dL_law_479 : decode cL_law 479 = .ok (.iaload, 1) := by decide +kernel
theorem dL_law_480 : decode cL_law 480 = .ok (.invokevirtual 58, 3) := by decide +kernel
theorem dL_law_483 : decode cL_law 483 = .ok (.if_icmp .eq 1101, 3) := by decide +kernel
theorem dL_law_486 : decode cL_law 486 = .ok (.iconst 0, 1) := by decide +kernel
theorem dL_law_487 : decode cL_law 487 = .ok (.ireturn, 1) := by decide +kernel
theorem dL_law_488 : decode cL_law 488 = .ok (.aload_n 1, 1) := by decide +kernel
theorem dL_law_489 : decode cL_law 489 = .ok (.aload_n 0, 1) := by decide +kernel
theorem dL_law_490 : decode cL_law 490 = .ok (.iload_n 3, 1) := by decide +kernel
theorem dL_law_491 : decode cL_law 491 = .ok (.iconst 1, 1) := by decide +kernel
theorem dL_law_492 : decode cL_law 492 = .ok (.iadd, 1) := by decide +kernel
theorem dL_law_493 : decode cL_law 493 = .ok (.iaload, 1) := by decide +kernel
theorem dL_law_494 : decode cL_law 494 = .ok (.aload_n 0, 1) := by decide +kernel
theorem dL_law_495 : decode cL_law 495 = .ok (.iload_n 3, 1) := by decide +kernel
theorem dL_law_496 : decode cL_law 496 = .ok (.iconst 2, 1) := by decide +kernel
theorem dL_law_497 : decode cL_law 497 = .ok (.iadd, 1) := by decide +kernel
theorem dL_law_498 : decode cL_law 498 = .ok (.iaload, 1) := by decide +kernel
theorem dL_law_499 : decode cL_law 499 = .ok (.invokevirtual 59, 3) := by decide +kernel
theorem dL_law_502 : decode cL_law 502 = .ok (.aload_n 2, 1) := by decide +kernel
theorem dL_law_503 : decode cL_law 503 = .ok (.aload_n 0, 1) := by decide +kernel
theorem dL_law_504 : decode cL_law 504 = .ok (.iload_n 3, 1) := by decide +kernel
theorem dL_law_505 : decode cL_law 505 = .ok (.iconst 1, 1) := by decide +kernel
theorem dL_law_506 : decode cL_law 506 = .ok (.iadd, 1) := by decide +kernel
theorem dL_law_507 : decode cL_law 507 = .ok (.iaload, 1) := by decide +kernel
theorem dL_law_508 : decode cL_law 508 = .ok (.aload_n 0, 1) := by decide +kernel
theorem dL_law_509 : decode cL_law 509 = .ok (.iload_n 3, 1) := by decide +kernel
theorem dL_law_510 : decode cL_law 510 = .ok (.iconst 2, 1) := by decide +kernel
theorem dL_law_511 : decode cL_law 511 = .ok (.iadd, 1) := by decide +kernel
theorem dL_law_512 : decode cL_law 512 = .ok (.iaload, 1) := by decide +kernel
theorem dL_law_513 : decode cL_law 513 = .ok (.invokevirtual 62, 3) := by decide +kernel
theorem dL_law_516 : decode cL_law 516 = .ok (.if_icmp .eq 1068, 3) := by decide +kernel
theorem dL_law_519 : decode cL_law 519 = .ok (.iconst 0, 1) := by decide +kernel
theorem dL_law_520 : decode cL_law 520 = .ok (.ireturn, 1) := by decide +kernel
theorem dL_law_521 : decode cL_law 521 = .ok (.aload_n 1, 1) := by decide +kernel
theorem dL_law_522 : decode cL_law 522 = .ok (.aload_n 0, 1) := by decide +kernel
theorem dL_law_523 : decode cL_law 523 = .ok (.iload_n 3, 1) := by decide +kernel
theorem dL_law_524 : decode cL_law 524 = .ok (.iconst 1, 1) := by decide +kernel
theorem dL_law_525 : decode cL_law 525 = .ok (.iadd, 1) := by decide +kernel
theorem dL_law_526 : decode cL_law 526 = .ok (.iaload, 1) := by decide +kernel
theorem dL_law_527 : decode cL_law 527 = .ok (.aload_n 0, 1) := by decide +kernel
theorem dL_law_528 : decode cL_law 528 = .ok (.iload_n 3, 1) := by decide +kernel
theorem dL_law_529 : decode cL_law 529 = .ok (.iconst 2, 1) := by decide +kernel
theorem dL_law_530 : decode cL_law 530 = .ok (.iadd, 1) := by decide +kernel
theorem dL_law_531 : decode cL_law 531 = .ok (.iaload, 1) := by decide +kernel
theorem dL_law_532 : decode cL_law 532 = .ok (.invokevirtual 63, 3) := by decide +kernel
theorem dL_law_535 : decode cL_law 535 = .ok (.aload_n 2, 1) := by decide +kernel
theorem dL_law_536 : decode cL_law 536 = .ok (.aload_n 0, 1) := by decide +kernel
theorem dL_law_537 : decode cL_law 537 = .ok (.iload_n 3, 1) := by decide +kernel
theorem dL_law_538 : decode cL_law 538 = .ok (.iconst 1, 1) := by decide +kernel
theorem dL_law_539 : decode cL_law 539 = .ok (.iadd, 1) := by decide +kernel
theorem dL_law_540 : decode cL_law 540 = .ok (.iaload, 1) := by decide +kernel
theorem dL_law_541 : decode cL_law 541 = .ok (.aload_n 0, 1) := by decide +kernel
theorem dL_law_542 : decode cL_law 542 = .ok (.iload_n 3, 1) := by decide +kernel
theorem dL_law_543 : decode cL_law 543 = .ok (.iconst 2, 1) := by decide +kernel
theorem dL_law_544 : decode cL_law 544 = .ok (.iadd, 1) := by decide +kernel
theorem dL_law_545 : decode cL_law 545 = .ok (.iaload, 1) := by decide +kernel
theorem dL_law_546 : decode cL_law 546 = .ok (.invokevirtual 66, 3) := by decide +kernel
theorem dL_law_549 : decode cL_law 549 = .ok (.if_icmp .eq 1035, 3) := by decide +kernel
theorem dL_law_552 : decode cL_law 552 = .ok (.iconst 0, 1) := by decide +kernel
theorem dL_law_553 : decode cL_law 553 = .ok (.ireturn, 1) := by decide +kernel
theorem dL_law_554 : decode cL_law 554 = .ok (.aload_n 1, 1) := by decide +kernel
theorem dL_law_555 : decode cL_law 555 = .ok (.aload_n 0, 1) := by decide +kernel
theorem dL_law_556 : decode cL_law 556 = .ok (.iload_n 3, 1) := by decide +kernel
theorem dL_law_557 : decode cL_law 557 = .ok (.iconst 1, 1) := by decide +kernel
theorem dL_law_558 : decode cL_law 558 = .ok (.iadd, 1) := by decide +kernel
theorem dL_law_559 : decode cL_law 559 = .ok (.iaload, 1) := by decide +kernel
theorem dL_law_560 : decode cL_law 560 = .ok (.aload_n 0, 1) := by decide +kernel
theorem dL_law_561 : decode cL_law 561 = .ok (.iload_n 3, 1) := by decide +kernel
theorem dL_law_562 : decode cL_law 562 = .ok (.iconst 2, 1) := by decide +kernel
theorem dL_law_563 : decode cL_law 563 = .ok (.iadd, 1) := by decide +kernel
theorem dL_law_564 : decode cL_law 564 = .ok (.iaload, 1) := by decide +kernel
theorem dL_law_565 : decode cL_law 565 = .ok (.invokevirtual 67, 3) := by decide +kernel
theorem dL_law_568 : decode cL_law 568 = .ok (.aload_n 2, 1) := by decide +kernel
theorem dL_law_569 : decode cL_law 569 = .ok (.aload_n 0, 1) := by decide +kernel
theorem dL_law_570 : decode cL_law 570 = .ok (.iload_n 3, 1) := by decide +kernel
theorem dL_law_571 : decode cL_law 571 = .ok (.iconst 1, 1) := by decide +kernel
theorem dL_law_572 : decode cL_law 572 = .ok (.iadd, 1) := by decide +kernel
theorem dL_law_573 : decode cL_law 573 = .ok (.iaload, 1) := by decide +kernel
theorem dL_law_574 : decode cL_law 574 = .ok (.aload_n 0, 1) := by decide +kernel
theorem dL_law_575 : decode cL_law 575 = .ok (.iload_n 3, 1) := by decide +kernel
theorem dL_law_576 : decode cL_law 576 = .ok (.iconst 2, 1) := by decide +kernel
theorem dL_law_577 : decode cL_law 577 = .ok (.iadd, 1) := by decide +kernel
theorem dL_law_578 : decode cL_law 578 = .ok (.iaload, 1) := by decide +kernel
theorem dL_law_579 : decode cL_law 579 = .ok (.invokevirtual 70, 3) := by decide +kernel
theorem dL_law_582 : decode cL_law 582 = .ok (.if_icmp .eq 1002, 3) := by decide +kernel
theorem dL_law_585 : decode cL_law 585 = .ok (.iconst 0, 1) := by decide +kernel
theorem dL_law_586 : decode cL_law 586 = .ok (.ireturn, 1) := by decide +kernel
theorem dL_law_587 : decode cL_law 587 = .ok (.aload_n 1, 1) := by decide +kernel
theorem dL_law_588 : decode cL_law 588 = .ok (.aload_n 0, 1) := by decide +kernel
theorem dL_law_589 : decode cL_law 589 = .ok (.iload_n 3, 1) := by decide +kernel
theorem dL_law_590 : decode cL_law 590 = .ok (.iconst 1, 1) := by decide +kernel
theorem dL_law_591 : decode cL_law 591 = .ok (.iadd, 1) := by decide +kernel
theorem dL_law_592 : decode cL_law 592 = .ok (.iaload, 1) := by decide +kernel
theorem dL_law_593 : decode cL_law 593 = .ok (.aload_n 0, 1) := by decide +kernel
theorem dL_law_594 : decode cL_law 594 = .ok (.iload_n 3, 1) := by decide +kernel
theorem dL_law_595 : decode cL_law 595 = .ok (.iconst 2, 1) := by decide +kernel
theorem dL_law_596 : decode cL_law 596 = .ok (.iadd, 1) := by decide +kernel
theorem dL_law_597 : decode cL_law 597 = .ok (.iaload, 1) := by decide +kernel
theorem dL_law_598 : decode cL_law 598 = .ok (.invokevirtual 71, 3) := by decide +kernel
theorem dL_law_601 : decode cL_law 601 = .ok (.aload_n 2, 1) := by decide +kernel
theorem dL_law_602 : decode cL_law 602 = .ok (.aload_n 0, 1) := by decide +kernel
theorem dL_law_603 : decode cL_law 603 = .ok (.iload_n 3, 1) := by decide +kernel
theorem dL_law_604 : decode cL_law 604 = .ok (.iconst 1, 1) := by decide +kernel
theorem dL_law_605 : decode cL_law 605 = .ok (.iadd, 1) := by decide +kernel
theorem dL_law_606 : decode cL_law 606 = .ok (.iaload, 1) := by decide +kernel
theorem dL_law_607 : decode cL_law 607 = .ok (.aload_n 0, 1) := by decide +kernel
theorem dL_law_608 : decode cL_law 608 = .ok (.iload_n 3, 1) := by decide +kernel
theorem dL_law_609 : decode cL_law 609 = .ok (.iconst 2, 1) := by decide +kernel
theorem dL_law_610 : decode cL_law 610 = .ok (.iadd, 1) := by decide +kernel
theorem dL_law_611 : decode cL_law 611 = .ok (.iaload, 1) := by decide +kernel
theorem dL_law_612 : decode cL_law 612 = .ok (.invokevirtual 74, 3) := by decide +kernel
theorem dL_law_615 : decode cL_law 615 = .ok (.if_icmp .eq 969, 3) := by decide +kernel
theorem dL_law_618 : decode cL_law 618 = .ok (.iconst 0, 1) := by decide +kernel
theorem dL_law_619 : decode cL_law 619 = .ok (.ireturn, 1) := by decide +kernel
theorem dL_law_620 : decode cL_law 620 = .ok (.aload_n 1, 1) := by decide +kernel
theorem dL_law_621 : decode cL_law 621 = .ok (.aload_n 0, 1) := by decide +kernel
theorem dL_law_622 : decode cL_law 622 = .ok (.iload_n 3, 1) := by decide +kernel
theorem dL_law_623 : decode cL_law 623 = .ok (.iconst 1, 1) := by decide +kernel
theorem dL_law_624 : decode cL_law 624 = .ok (.iadd, 1) := by decide +kernel
theorem dL_law_625 : decode cL_law 625 = .ok (.iaload, 1) := by decide +kernel
theorem dL_law_626 : decode cL_law 626 = .ok (.aload_n 0, 1) := by decide +kernel
theorem dL_law_627 : decode cL_law 627 = .ok (.iload_n 3, 1) := by decide +kernel
theorem dL_law_628 : decode cL_law 628 = .ok (.iconst 2, 1) := by decide +kernel
theorem dL_law_629 : decode cL_law 629 = .ok (.iadd, 1) := by decide +kernel
theorem dL_law_630 : decode cL_law 630 = .ok (.iaload, 1) := by decide +kernel
theorem dL_law_631 : decode cL_law 631 = .ok (.invokevirtual 75, 3) := by decide +kernel
theorem dL_law_634 : decode cL_law 634 = .ok (.aload_n 2, 1) := by decide +kernel
theorem dL_law_635 : decode cL_law 635 = .ok (.aload_n 0, 1) := by decide +kernel
theorem dL_law_636 : decode cL_law 636 = .ok (.iload_n 3, 1) := by decide +kernel
theorem dL_law_637 : decode cL_law 637 = .ok (.iconst 1, 1) := by decide +kernel
theorem dL_law_638 : decode cL_law 638 = .ok (.iadd, 1) := by decide +kernel
theorem dL_law_639 : decode cL_law 639 = .ok (.iaload, 1) := by decide +kernel
theorem dL_law_640 : decode cL_law 640 = .ok (.aload_n 0, 1) := by decide +kernel
theorem dL_law_641 : decode cL_law 641 = .ok (.iload_n 3, 1) := by decide +kernel
theorem dL_law_642 : decode cL_law 642 = .ok (.iconst 2, 1) := by decide +kernel
theorem dL_law_643 : decode cL_law 643 = .ok (.iadd, 1) := by decide +kernel
theorem dL_law_644 : decode cL_law 644 = .ok (.iaload, 1) := by decide +kernel
theorem dL_law_645 : decode cL_law 645 = .ok (.invokevirtual 78, 3) := by decide +kernel
theorem dL_law_648 : decode cL_law 648 = .ok (.if_icmp .eq 936, 3) := by decide +kernel
theorem dL_law_651 : decode cL_law 651 = .ok (.iconst 0, 1) := by decide +kernel
theorem dL_law_652 : decode cL_law 652 = .ok (.ireturn, 1) := by decide +kernel
theorem dL_law_653 : decode cL_law 653 = .ok (.aload_n 1, 1) := by decide +kernel
theorem dL_law_654 : decode cL_law 654 = .ok (.aload_n 0, 1) := by decide +kernel
theorem dL_law_655 : decode cL_law 655 = .ok (.iload_n 3, 1) := by decide +kernel
theorem dL_law_656 : decode cL_law 656 = .ok (.iconst 1, 1) := by decide +kernel
theorem dL_law_657 : decode cL_law 657 = .ok (.iadd, 1) := by decide +kernel
theorem dL_law_658 : decode cL_law 658 = .ok (.iaload, 1) := by decide +kernel
theorem dL_law_659 : decode cL_law 659 = .ok (.aload_n 0, 1) := by decide +kernel
theorem dL_law_660 : decode cL_law 660 = .ok (.iload_n 3, 1) := by decide +kernel
theorem dL_law_661 : decode cL_law 661 = .ok (.iconst 2, 1) := by decide +kernel
theorem dL_law_662 : decode cL_law 662 = .ok (.iadd, 1) := by decide +kernel
theorem dL_law_663 : decode cL_law 663 = .ok (.iaload, 1) := by decide +kernel
theorem dL_law_664 : decode cL_law 664 = .ok (.invokevirtual 79, 3) := by decide +kernel
theorem dL_law_667 : decode cL_law 667 = .ok (.aload_n 2, 1) := by decide +kernel
theorem dL_law_668 : decode cL_law 668 = .ok (.aload_n 0, 1) := by decide +kernel
theorem dL_law_669 : decode cL_law 669 = .ok (.iload_n 3, 1) := by decide +kernel
theorem dL_law_670 : decode cL_law 670 = .ok (.iconst 1, 1) := by decide +kernel
theorem dL_law_671 : decode cL_law 671 = .ok (.iadd, 1) := by decide +kernel
theorem dL_law_672 : decode cL_law 672 = .ok (.iaload, 1) := by decide +kernel
theorem dL_law_673 : decode cL_law 673 = .ok (.aload_n 0, 1) := by decide +kernel
theorem dL_law_674 : decode cL_law 674 = .ok (.iload_n 3, 1) := by decide +kernel
theorem dL_law_675 : decode cL_law 675 = .ok (.iconst 2, 1) := by decide +kernel
theorem dL_law_676 : decode cL_law 676 = .ok (.iadd, 1) := by decide +kernel
theorem dL_law_677 : decode cL_law 677 = .ok (.iaload, 1) := by decide +kernel
theorem dL_law_678 : decode cL_law 678 = .ok (.invokevirtual 82, 3) := by decide +kernel
theorem dL_law_681 : decode cL_law 681 = .ok (.if_icmp .eq 903, 3) := by decide +kernel
theorem dL_law_684 : decode cL_law 684 = .ok (.iconst 0, 1) := by decide +kernel
theorem dL_law_685 : decode cL_law 685 = .ok (.ireturn, 1) := by decide +kernel
theorem dL_law_686 : decode cL_law 686 = .ok (.aload_n 1, 1) := by decide +kernel
theorem dL_law_687 : decode cL_law 687 = .ok (.aload_n 0, 1) := by decide +kernel
theorem dL_law_688 : decode cL_law 688 = .ok (.iload_n 3, 1) := by decide +kernel
theorem dL_law_689 : decode cL_law 689 = .ok (.iconst 1, 1) := by decide +kernel
theorem dL_law_690 : decode cL_law 690 = .ok (.iadd, 1) := by decide +kernel
theorem dL_law_691 : decode cL_law 691 = .ok (.iaload, 1) := by decide +kernel
theorem dL_law_692 : decode cL_law 692 = .ok (.aload_n 0, 1) := by decide +kernel
theorem dL_law_693 : decode cL_law 693 = .ok (.iload_n 3, 1) := by decide +kernel
theorem dL_law_694 : decode cL_law 694 = .ok (.iconst 2, 1) := by decide +kernel
theorem dL_law_695 : decode cL_law 695 = .ok (.iadd, 1) := by decide +kernel
theorem dL_law_696 : decode cL_law 696 = .ok (.iaload, 1) := by decide +kernel
theorem dL_law_697 : decode cL_law 697 = .ok (.invokevirtual 83, 3) := by decide +kernel
theorem dL_law_700 : decode cL_law 700 = .ok (.aload_n 2, 1) := by decide +kernel
theorem dL_law_701 : decode cL_law 701 = .ok (.aload_n 0, 1) := by decide +kernel
theorem dL_law_702 : decode cL_law 702 = .ok (.iload_n 3, 1) := by decide +kernel
theorem dL_law_703 : decode cL_law 703 = .ok (.iconst 1, 1) := by decide +kernel
theorem dL_law_704 : decode cL_law 704 = .ok (.iadd, 1) := by decide +kernel
theorem dL_law_705 : decode cL_law 705 = .ok (.iaload, 1) := by decide +kernel
theorem dL_law_706 : decode cL_law 706 = .ok (.aload_n 0, 1) := by decide +kernel
theorem dL_law_707 : decode cL_law 707 = .ok (.iload_n 3, 1) := by decide +kernel
theorem dL_law_708 : decode cL_law 708 = .ok (.iconst 2, 1) := by decide +kernel
theorem dL_law_709 : decode cL_law 709 = .ok (.iadd, 1) := by decide +kernel
theorem dL_law_710 : decode cL_law 710 = .ok (.iaload, 1) := by decide +kernel
theorem dL_law_711 : decode cL_law 711 = .ok (.invokevirtual 86, 3) := by decide +kernel
theorem dL_law_714 : decode cL_law 714 = .ok (.if_icmp .eq 870, 3) := by decide +kernel
theorem dL_law_717 : decode cL_law 717 = .ok (.iconst 0, 1) := by decide +kernel
theorem dL_law_718 : decode cL_law 718 = .ok (.ireturn, 1) := by decide +kernel
theorem dL_law_719 : decode cL_law 719 = .ok (.aload_n 1, 1) := by decide +kernel
theorem dL_law_720 : decode cL_law 720 = .ok (.aload_n 0, 1) := by decide +kernel
theorem dL_law_721 : decode cL_law 721 = .ok (.iload_n 3, 1) := by decide +kernel
theorem dL_law_722 : decode cL_law 722 = .ok (.iconst 1, 1) := by decide +kernel
theorem dL_law_723 : decode cL_law 723 = .ok (.iadd, 1) := by decide +kernel
theorem dL_law_724 : decode cL_law 724 = .ok (.iaload, 1) := by decide +kernel
theorem dL_law_725 : decode cL_law 725 = .ok (.aload_n 0, 1) := by decide +kernel
theorem dL_law_726 : decode cL_law 726 = .ok (.iload_n 3, 1) := by decide +kernel
theorem dL_law_727 : decode cL_law 727 = .ok (.iconst 2, 1) := by decide +kernel
theorem dL_law_728 : decode cL_law 728 = .ok (.iadd, 1) := by decide +kernel
theorem dL_law_729 : decode cL_law 729 = .ok (.iaload, 1) := by decide +kernel
theorem dL_law_730 : decode cL_law 730 = .ok (.aload_n 0, 1) := by decide +kernel
theorem dL_law_731 : decode cL_law 731 = .ok (.iload_n 3, 1) := by decide +kernel
theorem dL_law_732 : decode cL_law 732 = .ok (.iconst 3, 1) := by decide +kernel
theorem dL_law_733 : decode cL_law 733 = .ok (.iadd, 1) := by decide +kernel
theorem dL_law_734 : decode cL_law 734 = .ok (.iaload, 1) := by decide +kernel
theorem dL_law_735 : decode cL_law 735 = .ok (.invokevirtual 87, 3) := by decide +kernel
theorem dL_law_738 : decode cL_law 738 = .ok (.aload_n 2, 1) := by decide +kernel
theorem dL_law_739 : decode cL_law 739 = .ok (.aload_n 0, 1) := by decide +kernel
theorem dL_law_740 : decode cL_law 740 = .ok (.iload_n 3, 1) := by decide +kernel
theorem dL_law_741 : decode cL_law 741 = .ok (.iconst 1, 1) := by decide +kernel
theorem dL_law_742 : decode cL_law 742 = .ok (.iadd, 1) := by decide +kernel
theorem dL_law_743 : decode cL_law 743 = .ok (.iaload, 1) := by decide +kernel
theorem dL_law_744 : decode cL_law 744 = .ok (.aload_n 0, 1) := by decide +kernel
theorem dL_law_745 : decode cL_law 745 = .ok (.iload_n 3, 1) := by decide +kernel
theorem dL_law_746 : decode cL_law 746 = .ok (.iconst 2, 1) := by decide +kernel
theorem dL_law_747 : decode cL_law 747 = .ok (.iadd, 1) := by decide +kernel
theorem dL_law_748 : decode cL_law 748 = .ok (.iaload, 1) := by decide +kernel
theorem dL_law_749 : decode cL_law 749 = .ok (.aload_n 0, 1) := by decide +kernel
theorem dL_law_750 : decode cL_law 750 = .ok (.iload_n 3, 1) := by decide +kernel
theorem dL_law_751 : decode cL_law 751 = .ok (.iconst 3, 1) := by decide +kernel
theorem dL_law_752 : decode cL_law 752 = .ok (.iadd, 1) := by decide +kernel
theorem dL_law_753 : decode cL_law 753 = .ok (.iaload, 1) := by decide +kernel
theorem dL_law_754 : decode cL_law 754 = .ok (.invokevirtual 91, 3) := by decide +kernel
theorem dL_law_757 : decode cL_law 757 = .ok (.if_icmp .eq 827, 3) := by decide +kernel
theorem dL_law_760 : decode cL_law 760 = .ok (.iconst 0, 1) := by decide +kernel
theorem dL_law_761 : decode cL_law 761 = .ok (.ireturn, 1) := by decide +kernel
theorem dL_law_762 : decode cL_law 762 = .ok (.aload_n 1, 1) := by decide +kernel
theorem dL_law_763 : decode cL_law 763 = .ok (.aload_n 0, 1) := by decide +kernel
theorem dL_law_764 : decode cL_law 764 = .ok (.iload_n 3, 1) := by decide +kernel
theorem dL_law_765 : decode cL_law 765 = .ok (.iconst 1, 1) := by decide +kernel
theorem dL_law_766 : decode cL_law 766 = .ok (.iadd, 1) := by decide +kernel
theorem dL_law_767 : decode cL_law 767 = .ok (.iaload, 1) := by decide +kernel
theorem dL_law_768 : decode cL_law 768 = .ok (.aload_n 0, 1) := by decide +kernel
theorem dL_law_769 : decode cL_law 769 = .ok (.iload_n 3, 1) := by decide +kernel
theorem dL_law_770 : decode cL_law 770 = .ok (.iconst 2, 1) := by decide +kernel
theorem dL_law_771 : decode cL_law 771 = .ok (.iadd, 1) := by decide +kernel
theorem dL_law_772 : decode cL_law 772 = .ok (.iaload, 1) := by decide +kernel
theorem dL_law_773 : decode cL_law 773 = .ok (.invokevirtual 92, 3) := by decide +kernel
theorem dL_law_776 : decode cL_law 776 = .ok (.aload_n 2, 1) := by decide +kernel
theorem dL_law_777 : decode cL_law 777 = .ok (.aload_n 0, 1) := by decide +kernel
theorem dL_law_778 : decode cL_law 778 = .ok (.iload_n 3, 1) := by decide +kernel
theorem dL_law_779 : decode cL_law 779 = .ok (.iconst 1, 1) := by decide +kernel
theorem dL_law_780 : decode cL_law 780 = .ok (.iadd, 1) := by decide +kernel
theorem dL_law_781 : decode cL_law 781 = .ok (.iaload, 1) := by decide +kernel
theorem dL_law_782 : decode cL_law 782 = .ok (.aload_n 0, 1) := by decide +kernel
theorem dL_law_783 : decode cL_law 783 = .ok (.iload_n 3, 1) := by decide +kernel
theorem dL_law_784 : decode cL_law 784 = .ok (.iconst 2, 1) := by decide +kernel
theorem dL_law_785 : decode cL_law 785 = .ok (.iadd, 1) := by decide +kernel
theorem dL_law_786 : decode cL_law 786 = .ok (.iaload, 1) := by decide +kernel
theorem dL_law_787 : decode cL_law 787 = .ok (.invokevirtual 95, 3) := by decide +kernel
theorem dL_law_790 : decode cL_law 790 = .ok (.if_icmp .eq 794, 3) := by decide +kernel
theorem dL_law_793 : decode cL_law 793 = .ok (.iconst 0, 1) := by decide +kernel
theorem dL_law_794 : decode cL_law 794 = .ok (.ireturn, 1) := by decide +kernel
theorem dL_law_795 : decode cL_law 795 = .ok (.aload_n 1, 1) := by decide +kernel
theorem dL_law_796 : decode cL_law 796 = .ok (.aload_n 0, 1) := by decide +kernel
theorem dL_law_797 : decode cL_law 797 = .ok (.iload_n 3, 1) := by decide +kernel
theorem dL_law_798 : decode cL_law 798 = .ok (.iconst 1, 1) := by decide +kernel
theorem dL_law_799 : decode cL_law 799 = .ok (.iadd, 1) := by decide +kernel
theorem dL_law_800 : decode cL_law 800 = .ok (.iaload, 1) := by decide +kernel
theorem dL_law_801 : decode cL_law 801 = .ok (.aload_n 0, 1) := by decide +kernel
theorem dL_law_802 : decode cL_law 802 = .ok (.iload_n 3, 1) := by decide +kernel
theorem dL_law_803 : decode cL_law 803 = .ok (.iconst 2, 1) := by decide +kernel
theorem dL_law_804 : decode cL_law 804 = .ok (.iadd, 1) := by decide +kernel
theorem dL_law_805 : decode cL_law 805 = .ok (.iaload, 1) := by decide +kernel
theorem dL_law_806 : decode cL_law 806 = .ok (.aload_n 0, 1) := by decide +kernel
theorem dL_law_807 : decode cL_law 807 = .ok (.iload_n 3, 1) := by decide +kernel
theorem dL_law_808 : decode cL_law 808 = .ok (.iconst 3, 1) := by decide +kernel
theorem dL_law_809 : decode cL_law 809 = .ok (.iadd, 1) := by decide +kernel
theorem dL_law_810 : decode cL_law 810 = .ok (.iaload, 1) := by decide +kernel
theorem dL_law_811 : decode cL_law 811 = .ok (.aload_n 0, 1) := by decide +kernel
theorem dL_law_812 : decode cL_law 812 = .ok (.iload_n 3, 1) := by decide +kernel
theorem dL_law_813 : decode cL_law 813 = .ok (.iconst 4, 1) := by decide +kernel
theorem dL_law_814 : decode cL_law 814 = .ok (.iadd, 1) := by decide +kernel
theorem dL_law_815 : decode cL_law 815 = .ok (.iaload, 1) := by decide +kernel
theorem dL_law_816 : decode cL_law 816 = .ok (.invokevirtual 96, 3) := by decide +kernel
theorem dL_law_819 : decode cL_law 819 = .ok (.aload_n 2, 1) := by decide +kernel
theorem dL_law_820 : decode cL_law 820 = .ok (.aload_n 0, 1) := by decide +kernel
theorem dL_law_821 : decode cL_law 821 = .ok (.iload_n 3, 1) := by decide +kernel
theorem dL_law_822 : decode cL_law 822 = .ok (.iconst 1, 1) := by decide +kernel
theorem dL_law_823 : decode cL_law 823 = .ok (.iadd, 1) := by decide +kernel
theorem dL_law_824 : decode cL_law 824 = .ok (.iaload, 1) := by decide +kernel
theorem dL_law_825 : decode cL_law 825 = .ok (.aload_n 0, 1) := by decide +kernel
theorem dL_law_826 : decode cL_law 826 = .ok (.iload_n 3, 1) := by decide +kernel
theorem dL_law_827 : decode cL_law 827 = .ok (.iconst 2, 1) := by decide +kernel
theorem dL_law_828 : decode cL_law 828 = .ok (.iadd, 1) := by decide +kernel
theorem dL_law_829 : decode cL_law 829 = .ok (.iaload, 1) := by decide +kernel
theorem dL_law_830 : decode cL_law 830 = .ok (.aload_n 0, 1) := by decide +kernel
theorem dL_law_831 : decode cL_law 831 = .ok (.iload_n 3, 1) := by decide +kernel
theorem dL_law_832 : decode cL_law 832 = .ok (.iconst 3, 1) := by decide +kernel
theorem dL_law_833 : decode cL_law 833 = .ok (.iadd, 1) := by decide +kernel
theorem dL_law_834 : decode cL_law 834 = .ok (.iaload, 1) := by decide +kernel
theorem dL_law_835 : decode cL_law 835 = .ok (.aload_n 0, 1) := by decide +kernel
theorem dL_law_836 : decode cL_law 836 = .ok (.iload_n 3, 1) := by decide +kernel
theorem dL_law_837 : decode cL_law 837 = .ok (.iconst 4, 1) := by decide +kernel
theorem dL_law_838 : decode cL_law 838 = .ok (.iadd, 1) := by decide +kernel
theorem dL_law_839 : decode cL_law 839 = .ok (.iaload, 1) := by decide +kernel
theorem dL_law_840 : decode cL_law 840 = .ok (.invokevirtual 100, 3) := by decide +kernel
theorem dL_law_843 : decode cL_law 843 = .ok (.if_icmp .eq 741, 3) := by decide +kernel
theorem dL_law_846 : decode cL_law 846 = .ok (.iconst 0, 1) := by decide +kernel
theorem dL_law_847 : decode cL_law 847 = .ok (.ireturn, 1) := by decide +kernel
theorem dL_law_848 : decode cL_law 848 = .ok (.aload_n 1, 1) := by decide +kernel
theorem dL_law_849 : decode cL_law 849 = .ok (.aload_n 0, 1) := by decide +kernel
theorem dL_law_850 : decode cL_law 850 = .ok (.iload_n 3, 1) := by decide +kernel
theorem dL_law_851 : decode cL_law 851 = .ok (.iconst 1, 1) := by decide +kernel
theorem dL_law_852 : decode cL_law 852 = .ok (.iadd, 1) := by decide +kernel
theorem dL_law_853 : decode cL_law 853 = .ok (.iaload, 1) := by decide +kernel
theorem dL_law_854 : decode cL_law 854 = .ok (.aload_n 0, 1) := by decide +kernel
theorem dL_law_855 : decode cL_law 855 = .ok (.iload_n 3, 1) := by decide +kernel
theorem dL_law_856 : decode cL_law 856 = .ok (.iconst 2, 1) := by decide +kernel
theorem dL_law_857 : decode cL_law 857 = .ok (.iadd, 1) := by decide +kernel
theorem dL_law_858 : decode cL_law 858 = .ok (.iaload, 1) := by decide +kernel
theorem dL_law_859 : decode cL_law 859 = .ok (.invokevirtual 101, 3) := by decide +kernel
theorem dL_law_862 : decode cL_law 862 = .ok (.aload_n 2, 1) := by decide +kernel
