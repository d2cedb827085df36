theorem dX7_hasFault_5 : decode cX7_hasFault 5 = .ok (.aload_n 0, 1) := by decide +kernel
theorem dX7_hasFault_6 : decode cX7_hasFault 6 = .ok (.getfield 31, 3) := by decide +kernel
theorem dX7_hasFault_9 : decode cX7_hasFault 9 = .ok (.if_icmp .ge 7, 3) := by decide +kernel
theorem dX7_hasFault_12 : decode cX7_hasFault 12 = .ok (.iconst 1, 1) := by decide +kernel
theorem dX7_hasFault_13 : decode cX7_hasFault 13 = .ok (.goto 4, 3) := by decide +kernel
theorem dX7_hasFault_16 : decode cX7_hasFault 16 = .ok (.iconst 0, 1) := by decide +kernel
theorem dX7_hasFault_17 : decode cX7_hasFault 17 = .ok (.ireturn, 1) := by decide +kernel
set_option maxRecDepth 20000 in
theorem ggX7_hasFaults_X8_firstOnes : GoodIn wsX7_hasFaults wsX8_firstOnes := goodIn_r _ [4] (by decide +kernel) (by decide +kernel)
set_option maxRecDepth 20000 in
theorem gX7_hasFaults_X8_firstOnes_n43 : GoodIn wsX7_hasFaults (wsX8_firstOnes) := ggX7_hasFaults_X8_firstOnes
theorem dX7_hasFaults_0 : decode cX7_hasFaults 0 = .ok (.iload_n 1, 1) := by decide +kernel
theorem dX7_hasFaults_1 : decode cX7_hasFaults 1 = .ok (.aload_n 0, 1) := by decide +kernel
theorem dX7_hasFaults_2 : decode cX7_hasFaults 2 = .ok (.getfield 31, 3) := by decide +kernel
theorem dX7_hasFaults_5 : decode cX7_hasFaults 5 = .ok (.invokestatic 43, 3) := by decide +kernel
theorem dX7_hasFaults_8 : decode cX7_hasFaults 8 = .ok (.iconst (-1), 1) := by decide +kernel
theorem dX7_hasFaults_9 : decode cX7_hasFaults 9 = .ok (.ixor, 1) := by decide +kernel
theorem dX7_hasFaults_10 : decode cX7_hasFaults 10 = .ok (.iand, 1) := by decide +kernel
theorem dX7_hasFaults_11 : decode cX7_hasFaults 11 = .ok (.ifCond .ne 7, 3) := by decide +kernel
theorem dX7_hasFaults_14 : decode cX7_hasFaults 14 = .ok (.iconst 1, 1) := by decide +kernel
theorem dX7_hasFaults_15 : decode cX7_hasFaults 15 = .ok (.goto 4, 3) := by decide +kernel
theorem dX7_hasFaults_18 : decode cX7_hasFaults 18 = .ok (.iconst 0, 1) := by decide +kernel
theorem dX7_hasFaults_19 : decode cX7_hasFaults 19 = .ok (.ireturn, 1) := by decide +kernel
theorem dX7_become_0 : decode cX7_become 0 = .ok (.aload_n 0, 1) := by decide +kernel
theorem dX7_become_1 : decode cX7_become 1 = .ok (.aload_n 1, 1) := by decide +kernel
theorem dX7_become_2 : decode cX7_become 2 = .ok (.getfield 9, 3) := by decide +kernel
theorem dX7_become_5 : decode cX7_become 5 = .ok (.putfield 9, 3) := by decide +kernel
theorem dX7_become_8 : decode cX7_become 8 = .ok (.aload_n 0, 1) := by decide +kernel
theorem dX7_become_9 : decode cX7_become 9 = .ok (.aload_n 1, 1) := by decide +kernel
theorem dX7_become_10 : decode cX7_become 10 = .ok (.getfield 31, 3) := by decide +kernel
theorem dX7_become_13 : decode cX7_become 13 = .ok (.putfield 31, 3) := by decide +kernel
theorem dX7_become_16 : decode cX7_become 16 = .ok (.aload_n 1, 1) := by decide +kernel
theorem dX7_become_17 : decode cX7_become 17 = .ok (.getfield 15, 3) := by decide +kernel
theorem dX7_become_20 : decode cX7_become 20 = .ok (.iconst 0, 1) := by decide +kernel
theorem dX7_become_21 : decode cX7_become 21 = .ok (.aload_n 0, 1) := by decide +kernel
theorem dX7_become_22 : decode cX7_become 22 = .ok (.getfield 15, 3) := by decide +kernel
theorem dX7_become_25 : decode cX7_become 25 = .ok (.iconst 0, 1) := by decide +kernel
theorem dX7_become_26 : decode cX7_become 26 = .ok (.bipush 24, 2) := by decide +kernel
theorem dX7_become_28 : decode cX7_become 28 = .ok (.invokestatic 47, 3) := by decide +kernel
theorem dX7_become_31 : decode cX7_become 31 = .ok (.aload_n 1, 1) := by decide +kernel
theorem dX7_become_32 : decode cX7_become 32 = .ok (.getfield 19, 3) := by decide +kernel
theorem dX7_become_35 : decode cX7_become 35 = .ok (.iconst 0, 1) := by decide +kernel
theorem dX7_become_36 : decode cX7_become 36 = .ok (.aload_n 0, 1) := by decide +kernel
theorem dX7_become_37 : decode cX7_become 37 = .ok (.getfield 19, 3) := by decide +kernel
theorem dX7_become_40 : decode cX7_become 40 = .ok (.iconst 0, 1) := by decide +kernel
theorem dX7_become_41 : decode cX7_become 41 = .ok (.bipush 24, 2) := by decide +kernel
theorem dX7_become_43 : decode cX7_become 43 = .ok (.invokestatic 47, 3) := by decide +kernel
theorem dX7_become_46 : decode cX7_become 46 = .ok (.aload_n 1, 1) := by decide +kernel
theorem dX7_become_47 : decode cX7_become 47 = .ok (.getfield 22, 3) := by decide +kernel
theorem dX7_become_50 : decode cX7_become 50 = .ok (.iconst 0, 1) := by decide +kernel
theorem dX7_become_51 : decode cX7_become 51 = .ok (.aload_n 0, 1) := by decide +kernel
theorem dX7_become_52 : decode cX7_become 52 = .ok (.getfield 22, 3) := by decide +kernel
theorem dX7_become_55 : decode cX7_become 55 = .ok (.iconst 0, 1) := by decide +kernel
theorem dX7_become_56 : decode cX7_become 56 = .ok (.bipush 24, 2) := by decide +kernel
theorem dX7_become_58 : decode cX7_become 58 = .ok (.invokestatic 47, 3) := by decide +kernel
theorem dX7_become_61 : decode cX7_become 61 = .ok (.aload_n 1, 1) := by decide +kernel
theorem dX7_become_62 : decode cX7_become 62 = .ok (.getfield 25, 3) := by decide +kernel
theorem dX7_become_65 : decode cX7_become 65 = .ok (.iconst 0, 1) := by decide +kernel
theorem dX7_become_66 : decode cX7_become 66 = .ok (.aload_n 0, 1) := by decide +kernel
theorem dX7_become_67 : decode cX7_become 67 = .ok (.getfield 25, 3) := by decide +kernel
theorem dX7_become_70 : decode cX7_become 70 = .ok (.iconst 0, 1) := by decide +kernel
theorem dX7_become_71 : decode cX7_become 71 = .ok (.sipush 384, 3) := by decide +kernel
theorem dX7_become_74 : decode cX7_become 74 = .ok (.invokestatic 47, 3) := by decide +kernel
theorem dX7_become_77 : decode cX7_become 77 = .ok (.aload_n 1, 1) := by decide +kernel
theorem dX7_become_78 : decode cX7_become 78 = .ok (.getfield 28, 3) := by decide +kernel
theorem dX7_become_81 : decode cX7_become 81 = .ok (.iconst 0, 1) := by decide +kernel
theorem dX7_become_82 : decode cX7_become 82 = .ok (.aload_n 0, 1) := by decide +kernel
theorem dX7_become_83 : decode cX7_become 83 = .ok (.getfield 28, 3) := by decide +kernel
theorem dX7_become_86 : decode cX7_become 86 = .ok (.iconst 0, 1) := by decide +kernel
theorem dX7_become_87 : decode cX7_become 87 = .ok (.sipush 400, 3) := by decide +kernel
theorem dX7_become_90 : decode cX7_become 90 = .ok (.invokestatic 47, 3) := by decide +kernel
theorem dX7_become_93 : decode cX7_become 93 = .ok (.aload_n 1, 1) := by decide +kernel
theorem dX7_become_94 : decode cX7_become 94 = .ok (.getfield 34, 3) := by decide +kernel
theorem dX7_become_97 : decode cX7_become 97 = .ok (.iconst 0, 1) := by decide +kernel
theorem dX7_become_98 : decode cX7_become 98 = .ok (.aload_n 0, 1) := by decide +kernel
theorem dX7_become_99 : decode cX7_become 99 = .ok (.getfield 34, 3) := by decide +kernel
theorem dX7_become_102 : decode cX7_become 102 = .ok (.iconst 0, 1) := by decide +kernel
theorem dX7_become_103 : decode cX7_become 103 = .ok (.bipush 10, 2) := by decide +kernel
theorem dX7_become_105 : decode cX7_become 105 = .ok (.invokestatic 47, 3) := by decide +kernel
theorem dX7_become_108 : decode cX7_become 108 = .ok (.aload_n 1, 1) := by decide +kernel
theorem dX7_become_109 : decode cX7_become 109 = .ok (.getfield 37, 3) := by decide +kernel
theorem dX7_become_112 : decode cX7_become 112 = .ok (.iconst 0, 1) := by decide +kernel
theorem dX7_become_113 : decode cX7_become 113 = .ok (.aload_n 0, 1) := by decide +kernel
theorem dX7_become_114 : decode cX7_become 114 = .ok (.getfield 37, 3) := by decide +kernel
theorem dX7_become_117 : decode cX7_become 117 = .ok (.iconst 0, 1) := by decide +kernel
theorem dX7_become_118 : decode cX7_become 118 = .ok (.bipush 10, 2) := by decide +kernel
theorem dX7_become_120 : decode cX7_become 120 = .ok (.invokestatic 47, 3) := by decide +kernel
theorem dX7_become_123 : decode cX7_become 123 = .ok (.aload_n 1, 1) := by decide +kernel
theorem dX7_become_124 : decode cX7_become 124 = .ok (.getfield 40, 3) := by decide +kernel
theorem dX7_become_127 : decode cX7_become 127 = .ok (.iconst 0, 1) := by decide +kernel
theorem dX7_become_128 : decode cX7_become 128 = .ok (.aload_n 0, 1) := by decide +kernel
theorem dX7_become_129 : decode cX7_become 129 = .ok (.getfield 40, 3) := by decide +kernel
theorem dX7_become_132 : decode cX7_become 132 = .ok (.iconst 0, 1) := by decide +kernel
theorem dX7_become_133 : decode cX7_become 133 = .ok (.bipush 10, 2) := by decide +kernel
theorem dX7_become_135 : decode cX7_become 135 = .ok (.invokestatic 47, 3) := by decide +kernel
theorem dX7_become_138 : decode cX7_become 138 = .ok (.return_, 1) := by decide +kernel
set_option maxRecDepth 20000 in
theorem ggX7_readFrom_X3_atEnd : GoodIn wsX7_readFrom wsX3_atEnd := goodIn_r _ [7, 8, 173, 174, 175, 176, 177, 178, 179, 180] (by decide +kernel) (by decide +kernel)
set_option maxRecDepth 20000 in
theorem gX7_readFrom_X3_atEnd : GoodIn wsX7_readFrom (wsV RX7 53 RX3 yX3_atEnd wsX3_atEnd) := goodIn_app (goodIn_of _ (by decide +kernel)) ggX7_readFrom_X3_atEnd
set_option maxRecDepth 20000 in
theorem ggX7_readFrom_X3_isWord : GoodIn wsX7_readFrom wsX3_isWord := goodIn_r _ [12, 8, 13, 14, 15, 16, 17, 18, 19, 20, 21, 22, 23, 24, 25, 26, 27, 28, 29, 30, 31, 32, 33, 34, 35, 36, 37, 38, 39, 40, 41, 42, 43, 44, 45, 46, 47, 48, 49, 50, 51, 52, 53, 54, 55, 56, 57, 58, 59, 60, 61, 62, 63, 64, 65, 173, 174, 175, 176, 177, 178, 179, 180, 181, 182] (by decide +kernel) (by decide +kernel)
set_option maxRecDepth 20000 in
theorem gX7_readFrom_X3_isWord : GoodIn wsX7_readFrom (wsV RX7 61 RX3 yX3_isWord wsX3_isWord) := goodIn_app (goodIn_of _ (by decide +kernel)) ggX7_readFrom_X3_isWord
set_option maxRecDepth 20000 in
theorem ggX7_readFrom_X7_readChange : GoodIn wsX7_readFrom wsX7_readChange := goodIn_r _ [70, 1, 71, 72, 73, 74, 6, 75, 76, 14, 77, 78, 79, 80, 81, 15, 82, 13, 16, 8, 83, 84, 85, 86, 87, 88, 69, 89, 90, 91, 92, 93, 94, 95, 96, 97, 10, 11, 12, 17, 18, 19, 20, 21, 22, 23, 24, 25, 26, 27, 28, 29, 30, 31, 32, 33, 34, 35, 36, 37, 38, 39, 40, 41, 42, 43, 44, 45, 46, 47, 48, 49, 50, 51, 52, 53, 54, 55, 56, 57, 58, 59, 60, 61, 62, 63, 64, 65, 98, 99, 100, 101, 102, 103, 104, 105, 106, 107, 108, 109, 110, 111, 112, 113, 114, 115, 116, 117, 118, 119, 120, 121, 122, 123, 124, 125, 126, 127, 128, 129, 130, 131, 132, 133, 134, 135, 136, 137, 138, 139, 140, 141, 142, 143, 144, 145, 146, 147, 148, 149, 150, 163, 164, 165, 166, 167, 168, 169, 170, 171, 172, 173, 174, 175, 176, 177, 178, 179, 180, 181, 182] (by decide +kernel) (by decide +kernel)
set_option maxRecDepth 20000 in
theorem gX7_readFrom_X7_readChange : GoodIn wsX7_readFrom (wsV RX7 65 RX7 yX7_readChange wsX7_readChange) := goodIn_app (goodIn_of _ (by decide +kernel)) ggX7_readFrom_X7_readChange
set_option maxRecDepth 20000 in
theorem ggX7_readFrom_X7_readFault : GoodIn wsX7_readFrom wsX7_readFault := goodIn_r _ [154, 2, 1, 155, 156, 157, 72, 73, 74, 6, 75, 76, 14, 77, 78, 79, 80, 81, 15, 82, 13, 16, 8, 83, 84, 85, 117, 118, 119, 120, 107, 108, 109, 110, 111, 112, 113, 98, 158, 159, 160, 161, 162, 94, 95, 96, 97, 10, 11, 12, 17, 18, 19, 20, 21, 22, 23, 24, 25, 26, 27, 28, 29, 30, 31, 32, 33, 34, 35, 36, 37, 38, 39, 40, 41, 42, 43, 44, 45, 46, 47, 48, 49, 50, 51, 52, 53, 54, 55, 56, 57, 58, 59, 60, 61, 62, 63, 64, 65, 93, 133, 134, 135, 136, 137, 122, 123, 124, 125, 126, 127, 128, 163, 164, 165, 166, 167, 168, 169, 170, 171, 172, 173, 174, 175, 176, 177, 178, 179, 180, 181, 182] (by decide +kernel) (by decide +kernel)
set_option maxRecDepth 20000 in
theorem gX7_readFrom_X7_readFault : GoodIn wsX7_readFrom (wsV RX7 71 RX7 yX7_readFault wsX7_readFault) := goodIn_app (goodIn_of _ (by decide +kernel)) ggX7_readFrom_X7_readFault
set_option maxRecDepth 20000 in
theorem ggX7_readFrom_X3_refuse : GoodIn wsX7_readFrom wsX3_refuse := goodIn_r _ [75, 76, 14, 77, 173, 174, 175, 176, 177, 178, 179, 180] (by decide +kernel) (by decide +kernel)
set_option maxRecDepth 20000 in
theorem gX7_readFrom_X3_refuse : GoodIn wsX7_readFrom (wsV RX7 74 RX3 yX3_refuse wsX3_refuse) := goodIn_app (goodIn_of _ (by decide +kernel)) ggX7_readFrom_X3_refuse
theorem dX7_readFrom_0 : decode cX7_readFrom 0 = .ok (.aload_n 0, 1) := by decide +kernel
theorem dX7_readFrom_1 : decode cX7_readFrom 1 = .ok (.iconst 0, 1) := by decide +kernel
theorem dX7_readFrom_2 : decode cX7_readFrom 2 = .ok (.putfield 9, 3) := by decide +kernel
theorem dX7_readFrom_5 : decode cX7_readFrom 5 = .ok (.aload_n 0, 1) := by decide +kernel
theorem dX7_readFrom_6 : decode cX7_readFrom 6 = .ok (.iconst 0, 1) := by decide +kernel
theorem dX7_readFrom_7 : decode cX7_readFrom 7 = .ok (.putfield 31, 3) := by decide +kernel
theorem dX7_readFrom_10 : decode cX7_readFrom 10 = .ok (.iconst 0, 1) := by decide +kernel
theorem dX7_readFrom_11 : decode cX7_readFrom 11 = .ok (.istore_n 2, 1) := by decide +kernel
theorem dX7_readFrom_12 : decode cX7_readFrom 12 = .ok (.iload_n 2, 1) := by decide +kernel
theorem dX7_readFrom_13 : decode cX7_readFrom 13 = .ok (.sipush 500, 3) := by decide +kernel
theorem dX7_readFrom_16 : decode cX7_readFrom 16 = .ok (.if_icmp .ge 64, 3) := by decide +kernel
theorem dX7_readFrom_19 : decode cX7_readFrom 19 = .ok (.aload_n 1, 1) := by decide +kernel
theorem dX7_readFrom_20 : decode cX7_readFrom 20 = .ok (.invokevirtual 53, 3) := by decide +kernel
theorem dX7_readFrom_23 : decode cX7_readFrom 23 = .ok (.ifCond .ne 57, 3) := by decide +kernel
theorem dX7_readFrom_26 : decode cX7_readFrom 26 = .ok (.aload_n 1, 1) := by decide +kernel
theorem dX7_readFrom_27 : decode cX7_readFrom 27 = .ok (.ldc 59, 2) := by decide +kernel
theorem dX7_readFrom_29 : decode cX7_readFrom 29 = .ok (.invokevirtual 61, 3) := by decide +kernel
theorem dX7_readFrom_32 : decode cX7_readFrom 32 = .ok (.ifCond .eq 12, 3) := by decide +kernel
theorem dX7_readFrom_35 : decode cX7_readFrom 35 = .ok (.aload_n 0, 1) := by decide +kernel
theorem dX7_readFrom_36 : decode cX7_readFrom 36 = .ok (.aload_n 1, 1) := by decide +kernel
theorem dX7_readFrom_37 : decode cX7_readFrom 37 = .ok (.invokevirtual 65, 3) := by decide +kernel
theorem dX7_readFrom_40 : decode cX7_readFrom 40 = .ok (.istore_n 3, 1) := by decide +kernel
theorem dX7_readFrom_41 : decode cX7_readFrom 41 = .ok (.goto 27, 3) := by decide +kernel
theorem dX7_readFrom_44 : decode cX7_readFrom 44 = .ok (.aload_n 1, 1) := by decide +kernel
theorem dX7_readFrom_45 : decode cX7_readFrom 45 = .ok (.ldc 69, 2) := by decide +kernel
theorem dX7_readFrom_47 : decode cX7_readFrom 47 = .ok (.invokevirtual 61, 3) := by decide +kernel
theorem dX7_readFrom_50 : decode cX7_readFrom 50 = .ok (.ifCond .eq 12, 3) := by decide +kernel
theorem dX7_readFrom_53 : decode cX7_readFrom 53 = .ok (.aload_n 0, 1) := by decide +kernel
theorem dX7_readFrom_54 : decode cX7_readFrom 54 = .ok (.aload_n 1, 1) := by decide +kernel
theorem dX7_readFrom_55 : decode cX7_readFrom 55 = .ok (.invokevirtual 71, 3) := by decide +kernel
theorem dX7_readFrom_58 : decode cX7_readFrom 58 = .ok (.istore_n 3, 1) := by decide +kernel
theorem dX7_readFrom_59 : decode cX7_readFrom 59 = .ok (.goto 9, 3) := by decide +kernel
theorem dX7_readFrom_62 : decode cX7_readFrom 62 = .ok (.aload_n 1, 1) := by decide +kernel
theorem dX7_readFrom_63 : decode cX7_readFrom 63 = .ok (.iconst 1, 1) := by decide +kernel
theorem dX7_readFrom_64 : decode cX7_readFrom 64 = .ok (.invokevirtual 74, 3) := by decide +kernel
theorem dX7_readFrom_67 : decode cX7_readFrom 67 = .ok (.istore_n 3, 1) := by decide +kernel
theorem dX7_readFrom_68 : decode cX7_readFrom 68 = .ok (.iload_n 3, 1) := by decide +kernel
theorem dX7_readFrom_69 : decode cX7_readFrom 69 = .ok (.ifCond .ne 5, 3) := by decide +kernel
theorem dX7_readFrom_72 : decode cX7_readFrom 72 = .ok (.iconst 0, 1) := by decide +kernel
theorem dX7_readFrom_73 : decode cX7_readFrom 73 = .ok (.ireturn, 1) := by decide +kernel
theorem dX7_readFrom_74 : decode cX7_readFrom 74 = .ok (.iinc 2 1, 3) := by decide +kernel
theorem dX7_readFrom_77 : decode cX7_readFrom 77 = .ok (.goto (-65), 3) := by decide +kernel
theorem dX7_readFrom_80 : decode cX7_readFrom 80 = .ok (.iconst 1, 1) := by decide +kernel
theorem dX7_readFrom_81 : decode cX7_readFrom 81 = .ok (.ireturn, 1) := by decide +kernel
set_option maxRecDepth 20000 in
theorem ggX7_readChange_X3_refuse : GoodIn wsX7_readChange wsX3_refuse := goodIn_r _ [7, 8, 9, 10, 151, 152, 153, 154, 155, 156, 157, 158] (by decide +kernel) (by decide +kernel)
set_option maxRecDepth 20000 in
theorem gX7_readChange_X3_refuse : GoodIn wsX7_readChange (wsV RX7 74 RX3 yX3_refuse wsX3_refuse) := goodIn_app (goodIn_of _ (by decide +kernel)) ggX7_readChange_X3_refuse
set_option maxRecDepth 20000 in
theorem ggX7_readChange_X3_step : GoodIn wsX7_readChange wsX3_step := goodIn_r _ [14, 15, 16, 17, 18, 9, 19, 20, 21, 6, 22, 151, 152, 153, 154, 155, 156, 157, 158, 159, 160] (by decide +kernel) (by decide +kernel)
set_option maxRecDepth 20000 in
theorem gX7_readChange_X3_step : GoodIn wsX7_readChange (wsV RX7 78 RX3 yX3_step wsX3_step) := goodIn_app (goodIn_of _ (by decide +kernel)) ggX7_readChange_X3_step
set_option maxRecDepth 20000 in
theorem ggX7_readChange_X7_clearChange : GoodIn wsX7_readChange wsX7_clearChange := goodIn_r _ [27, 28, 29, 2, 30, 141, 142, 143, 144, 145, 146, 147, 148, 149, 150] (by decide +kernel) (by decide +kernel)
set_option maxRecDepth 20000 in
theorem gX7_readChange_X7_clearChange : GoodIn wsX7_readChange (wsV RX7 81 RX7 yX7_clearChange wsX7_clearChange) := goodIn_app (goodIn_of _ (by decide +kernel)) ggX7_readChange_X7_clearChange
set_option maxRecDepth 20000 in
theorem ggX7_readChange_X3_takeWord : GoodIn wsX7_readChange wsX3_takeWord := goodIn_r _ [34, 35, 36, 37, 6, 38, 19, 17, 9, 15, 18, 39, 40, 41, 42, 43, 44, 45, 46, 47, 48, 49, 50, 51, 52, 53, 54, 55, 56, 57, 58, 59, 60, 61, 62, 63, 64, 65, 66, 67, 68, 69, 70, 71, 72, 73, 74, 75, 76, 77, 78, 79, 80, 81, 82, 83, 84, 85, 86, 87, 88, 12, 13, 14, 16, 20, 21, 22, 151, 152, 153, 154, 155, 156, 157, 158, 159, 160] (by decide +kernel) (by decide +kernel)
set_option maxRecDepth 20000 in
theorem gX7_readChange_X3_takeWord : GoodIn wsX7_readChange (wsV RX7 87 RX3 yX3_takeWord wsX3_takeWord) := goodIn_app (goodIn_of _ (by decide +kernel)) ggX7_readChange_X3_takeWord
set_option maxRecDepth 20000 in
theorem ggX7_readChange_X7_readSettings : GoodIn wsX7_readChange wsX7_readSettings := goodIn_r _ [92, 28, 30, 93, 94, 95, 6, 96, 97, 98, 99, 100, 101, 19, 9, 17, 15, 18, 102, 103, 4, 5, 7, 8, 10, 104, 105, 106, 88, 12, 13, 14, 16, 20, 21, 22, 107, 108, 109, 110, 111, 112, 113, 114, 115, 116, 117, 118, 141, 142, 143, 144, 145, 146, 147, 148, 149, 150, 151, 152, 153, 154, 155, 156, 157, 158, 159, 160] (by decide +kernel) (by decide +kernel)
set_option maxRecDepth 20000 in
theorem gX7_readChange_X7_readSettings : GoodIn wsX7_readChange (wsV RX7 90 RX7 yX7_readSettings wsX7_readSettings) := goodIn_app (goodIn_of _ (by decide +kernel)) ggX7_readChange_X7_readSettings
set_option maxRecDepth 20000 in
theorem ggX7_readChange_X7_readReads : GoodIn wsX7_readChange wsX7_readReads := goodIn_r _ [122, 29, 93, 94, 95, 6, 96, 97, 98, 99, 100, 101, 19, 9, 17, 15, 18, 102, 103, 4, 5, 7, 8, 10, 104, 105, 106, 88, 12, 13, 14, 16, 20, 21, 22, 111, 112, 113, 114, 115, 116, 117, 118, 141, 142, 143, 144, 145, 146, 147, 148, 149, 150, 151, 152, 153, 154, 155, 156, 157, 158, 159, 160] (by decide +kernel) (by decide +kernel)
set_option maxRecDepth 20000 in
theorem gX7_readChange_X7_readReads : GoodIn wsX7_readChange (wsV RX7 96 RX7 yX7_readReads wsX7_readReads) := goodIn_app (goodIn_of _ (by decide +kernel)) ggX7_readChange_X7_readReads
set_option maxRecDepth 20000 in
theorem ggX7_readChange_X3_needNumber : GoodIn wsX7_readChange wsX3_needNumber := goodIn_r _ [110, 97, 98, 99, 100, 6, 101, 19, 9, 17, 15, 18, 102, 103, 4, 5, 7, 8, 10, 88, 12, 13, 14, 16, 20, 21, 22, 151, 152, 153, 154, 155, 156, 157, 158, 159, 160] (by decide +kernel) (by decide +kernel)
set_option maxRecDepth 20000 in
theorem gX7_readChange_X3_needNumber : GoodIn wsX7_readChange (wsV RX7 101 RX3 yX3_needNumber wsX3_needNumber) := goodIn_app (goodIn_of _ (by decide +kernel)) ggX7_readChange_X3_needNumber
set_option maxRecDepth 20000 in
theorem ggX7_readChange_X3_needSign : GoodIn wsX7_readChange wsX3_needSign := goodIn_r _ [126, 127, 112, 113, 6, 114, 115, 116, 117, 118, 19, 15, 18, 9, 88, 12, 13, 14, 16, 17, 20, 21, 22, 103, 4, 5, 7, 8, 10, 151, 152, 153, 154, 155, 156, 157, 158, 159, 160] (by decide +kernel) (by decide +kernel)
set_option maxRecDepth 20000 in
theorem gX7_readChange_X3_needSign : GoodIn wsX7_readChange (wsV RX7 105 RX3 yX3_needSign wsX3_needSign) := goodIn_app (goodIn_of _ (by decide +kernel)) ggX7_readChange_X3_needSign
set_option maxRecDepth 20000 in
theorem ggX7_readChange_X7_layBehind : GoodIn wsX7_readChange wsX7_layBehind := goodIn_r _ [131, 132, 133, 134, 135, 136, 137, 138, 139, 26, 140, 28, 30, 104, 105, 106, 141, 142, 143, 144, 145, 146, 147, 148, 149, 150] (by decide +kernel) (by decide +kernel)
set_option maxRecDepth 20000 in
theorem gX7_readChange_X7_layBehind : GoodIn wsX7_readChange (wsV RX7 109 RX7 yX7_layBehind wsX7_layBehind) := goodIn_app (goodIn_of _ (by decide +kernel)) ggX7_readChange_X7_layBehind
theorem dX7_readChange_0 : decode cX7_readChange 0 = .ok (.aload_n 0, 1) := by decide +kernel
theorem dX7_readChange_1 : decode cX7_readChange 1 = .ok (.getfield 9, 3) := by decide +kernel
theorem dX7_readChange_4 : decode cX7_readChange 4 = .ok (.istore_n 2, 1) := by decide +kernel
theorem dX7_readChange_5 : decode cX7_readChange 5 = .ok (.iload_n 2, 1) := by decide +kernel
theorem dX7_readChange_6 : decode cX7_readChange 6 = .ok (.bipush 24, 2) := by decide +kernel
theorem dX7_readChange_8 : decode cX7_readChange 8 = .ok (.if_icmp .lt 9, 3) := by decide +kernel
theorem dX7_readChange_11 : decode cX7_readChange 11 = .ok (.aload_n 1, 1) := by decide +kernel
theorem dX7_readChange_12 : decode cX7_readChange 12 = .ok (.iconst 3, 1) := by decide +kernel
theorem dX7_readChange_13 : decode cX7_readChange 13 = .ok (.invokevirtual 74, 3) := by decide +kernel
theorem dX7_readChange_16 : decode cX7_readChange 16 = .ok (.ireturn, 1) := by decide +kernel
theorem dX7_readChange_17 : decode cX7_readChange 17 = .ok (.aload_n 1, 1) := by decide +kernel
theorem dX7_readChange_18 : decode cX7_readChange 18 = .ok (.invokevirtual 78, 3) := by decide +kernel
theorem dX7_readChange_21 : decode cX7_readChange 21 = .ok (.aload_n 0, 1) := by decide +kernel
theorem dX7_readChange_22 : decode cX7_readChange 22 = .ok (.iload_n 2, 1) := by decide +kernel
theorem dX7_readChange_23 : decode cX7_readChange 23 = .ok (.invokevirtual 81, 3) := by decide +kernel
theorem dX7_readChange_26 : decode cX7_readChange 26 = .ok (.aload_n 1, 1) := by decide +kernel
theorem dX7_readChange_27 : decode cX7_readChange 27 = .ok (.ldc 85, 2) := by decide +kernel
theorem dX7_readChange_29 : decode cX7_readChange 29 = .ok (.invokevirtual 87, 3) := by decide +kernel
theorem dX7_readChange_32 : decode cX7_readChange 32 = .ok (.ifCond .eq 14, 3) := by decide +kernel
theorem dX7_readChange_35 : decode cX7_readChange 35 = .ok (.aload_n 0, 1) := by decide +kernel
theorem dX7_readChange_36 : decode cX7_readChange 36 = .ok (.aload_n 1, 1) := by decide +kernel
theorem dX7_readChange_37 : decode cX7_readChange 37 = .ok (.iload_n 2, 1) := by decide +kernel
theorem dX7_readChange_38 : decode cX7_readChange 38 = .ok (.invokevirtual 90, 3) := by decide +kernel
theorem dX7_readChange_41 : decode cX7_readChange 41 = .ok (.ifCond .ne 5, 3) := by decide +kernel
theorem dX7_readChange_44 : decode cX7_readChange 44 = .ok (.iconst 0, 1) := by decide +kernel
theorem dX7_readChange_45 : decode cX7_readChange 45 = .ok (.ireturn, 1) := by decide +kernel
theorem dX7_readChange_46 : decode cX7_readChange 46 = .ok (.aload_n 1, 1) := by decide +kernel
theorem dX7_readChange_47 : decode cX7_readChange 47 = .ok (.ldc 94, 2) := by decide +kernel
theorem dX7_readChange_49 : decode cX7_readChange 49 = .ok (.invokevirtual 87, 3) := by decide +kernel
theorem dX7_readChange_52 : decode cX7_readChange 52 = .ok (.ifCond .eq 14, 3) := by decide +kernel
theorem dX7_readChange_55 : decode cX7_readChange 55 = .ok (.aload_n 0, 1) := by decide +kernel
theorem dX7_readChange_56 : decode cX7_readChange 56 = .ok (.aload_n 1, 1) := by decide +kernel
theorem dX7_readChange_57 : decode cX7_readChange 57 = .ok (.iload_n 2, 1) := by decide +kernel
theorem dX7_readChange_58 : decode cX7_readChange 58 = .ok (.invokevirtual 96, 3) := by decide +kernel
theorem dX7_readChange_61 : decode cX7_readChange 61 = .ok (.ifCond .ne 5, 3) := by decide +kernel
theorem dX7_readChange_64 : decode cX7_readChange 64 = .ok (.iconst 0, 1) := by decide +kernel
theorem dX7_readChange_65 : decode cX7_readChange 65 = .ok (.ireturn, 1) := by decide +kernel
theorem dX7_readChange_66 : decode cX7_readChange 66 = .ok (.aload_n 1, 1) := by decide +kernel
theorem dX7_readChange_67 : decode cX7_readChange 67 = .ok (.ldc 99, 2) := by decide +kernel
theorem dX7_readChange_69 : decode cX7_readChange 69 = .ok (.invokevirtual 87, 3) := by decide +kernel
theorem dX7_readChange_72 : decode cX7_readChange 72 = .ok (.ifCond .eq 25, 3) := by decide +kernel
theorem dX7_readChange_75 : decode cX7_readChange 75 = .ok (.aload_n 1, 1) := by decide +kernel
theorem dX7_readChange_76 : decode cX7_readChange 76 = .ok (.iconst 0, 1) := by decide +kernel
theorem dX7_readChange_77 : decode cX7_readChange 77 = .ok (.bipush 9, 2) := by decide +kernel
theorem dX7_readChange_79 : decode cX7_readChange 79 = .ok (.invokevirtual 101, 3) := by decide +kernel
theorem dX7_readChange_82 : decode cX7_readChange 82 = .ok (.istore_n 3, 1) := by decide +kernel
theorem dX7_readChange_83 : decode cX7_readChange 83 = .ok (.iload_n 3, 1) := by decide +kernel
theorem dX7_readChange_84 : decode cX7_readChange 84 = .ok (.iconst (-1), 1) := by decide +kernel
theorem dX7_readChange_85 : decode cX7_readChange 85 = .ok (.if_icmp .ne 5, 3) := by decide +kernel
theorem dX7_readChange_88 : decode cX7_readChange 88 = .ok (.iconst 0, 1) := by decide +kernel
theorem dX7_readChange_89 : decode cX7_readChange 89 = .ok (.ireturn, 1) := by decide +kernel
theorem dX7_readChange_90 : decode cX7_readChange 90 = .ok (.aload_n 0, 1) := by decide +kernel
theorem dX7_readChange_91 : decode cX7_readChange 91 = .ok (.getfield 22, 3) := by decide +kernel
theorem dX7_readChange_94 : decode cX7_readChange 94 = .ok (.iload_n 2, 1) := by decide +kernel
theorem dX7_readChange_95 : decode cX7_readChange 95 = .ok (.iload_n 3, 1) := by decide +kernel
theorem dX7_readChange_96 : decode cX7_readChange 96 = .ok (.iastore, 1) := by decide +kernel
theorem dX7_readChange_97 : decode cX7_readChange 97 = .ok (.aload_n 1, 1) := by decide +kernel
theorem dX7_readChange_98 : decode cX7_readChange 98 = .ok (.bipush 59, 2) := by decide +kernel
theorem dX7_readChange_100 : decode cX7_readChange 100 = .ok (.invokevirtual 105, 3) := by decide +kernel
theorem dX7_readChange_103 : decode cX7_readChange 103 = .ok (.ifCond .ne 5, 3) := by decide +kernel
theorem dX7_readChange_106 : decode cX7_readChange 106 = .ok (.iconst 0, 1) := by decide +kernel
theorem dX7_readChange_107 : decode cX7_readChange 107 = .ok (.ireturn, 1) := by decide +kernel
theorem dX7_readChange_108 : decode cX7_readChange 108 = .ok (.aload_n 0, 1) := by decide +kernel
theorem dX7_readChange_109 : decode cX7_readChange 109 = .ok (.iload_n 2, 1) := by decide +kernel
theorem dX7_readChange_110 : decode cX7_readChange 110 = .ok (.invokevirtual 109, 3) := by decide +kernel
theorem dX7_readChange_113 : decode cX7_readChange 113 = .ok (.aload_n 0, 1) := by decide +kernel
theorem dX7_readChange_114 : decode cX7_readChange 114 = .ok (.iload_n 2, 1) := by decide +kernel
theorem dX7_readChange_115 : decode cX7_readChange 115 = .ok (.iconst 1, 1) := by decide +kernel
theorem dX7_readChange_116 : decode cX7_readChange 116 = .ok (.iadd, 1) := by decide +kernel
theorem dX7_readChange_117 : decode cX7_readChange 117 = .ok (.putfield 9, 3) := by decide +kernel
theorem dX7_readChange_120 : decode cX7_readChange 120 = .ok (.iconst 1, 1) := by decide +kernel
theorem dX7_readChange_121 : decode cX7_readChange 121 = .ok (.ireturn, 1) := by decide +kernel
theorem dX7_clearChange_0 : decode cX7_clearChange 0 = .ok (.aload_n 0, 1) := by decide +kernel
theorem dX7_clearChange_1 : decode cX7_clearChange 1 = .ok (.getfield 15, 3) := by decide +kernel
theorem dX7_clearChange_4 : decode cX7_clearChange 4 = .ok (.iload_n 1, 1) := by decide +kernel
theorem dX7_clearChange_5 : decode cX7_clearChange 5 = .ok (.iconst 0, 1) := by decide +kernel
theorem dX7_clearChange_6 : decode cX7_clearChange 6 = .ok (.iastore, 1) := by decide +kernel
theorem dX7_clearChange_7 : decode cX7_clearChange 7 = .ok (.aload_n 0, 1) := by decide +kernel
theorem dX7_clearChange_8 : decode cX7_clearChange 8 = .ok (.getfield 19, 3) := by decide +kernel
theorem dX7_clearChange_11 : decode cX7_clearChange 11 = .ok (.iload_n 1, 1) := by decide +kernel
theorem dX7_clearChange_12 : decode cX7_clearChange 12 = .ok (.iconst 0, 1) := by decide +kernel
theorem dX7_clearChange_13 : decode cX7_clearChange 13 = .ok (.iastore, 1) := by decide +kernel
theorem dX7_clearChange_14 : decode cX7_clearChange 14 = .ok (.aload_n 0, 1) := by decide +kernel
theorem dX7_clearChange_15 : decode cX7_clearChange 15 = .ok (.getfield 22, 3) := by decide +kernel
theorem dX7_clearChange_18 : decode cX7_clearChange 18 = .ok (.iload_n 1, 1) := by decide +kernel
theorem dX7_clearChange_19 : decode cX7_clearChange 19 = .ok (.iconst 0, 1) := by decide +kernel
theorem dX7_clearChange_20 : decode cX7_clearChange 20 = .ok (.iastore, 1) := by decide +kernel
theorem dX7_clearChange_21 : decode cX7_clearChange 21 = .ok (.iconst 0, 1) := by decide +kernel
theorem dX7_clearChange_22 : decode cX7_clearChange 22 = .ok (.istore_n 2, 1) := by decide +kernel
theorem dX7_clearChange_23 : decode cX7_clearChange 23 = .ok (.iload_n 2, 1) := by decide +kernel
theorem dX7_clearChange_24 : decode cX7_clearChange 24 = .ok (.bipush 16, 2) := by decide +kernel
theorem dX7_clearChange_26 : decode cX7_clearChange 26 = .ok (.if_icmp .ge 21, 3) := by decide +kernel
theorem dX7_clearChange_29 : decode cX7_clearChange 29 = .ok (.aload_n 0, 1) := by decide +kernel
theorem dX7_clearChange_30 : decode cX7_clearChange 30 = .ok (.getfield 25, 3) := by decide +kernel
theorem dX7_clearChange_33 : decode cX7_clearChange 33 = .ok (.iload_n 1, 1) := by decide +kernel
theorem dX7_clearChange_34 : decode cX7_clearChange 34 = .ok (.bipush 16, 2) := by decide +kernel
theorem dX7_clearChange_36 : decode cX7_clearChange 36 = .ok (.imul, 1) := by decide +kernel
theorem dX7_clearChange_37 : decode cX7_clearChange 37 = .ok (.iload_n 2, 1) := by decide +kernel
theorem dX7_clearChange_38 : decode cX7_clearChange 38 = .ok (.iadd, 1) := by decide +kernel
theorem dX7_clearChange_39 : decode cX7_clearChange 39 = .ok (.iconst 0, 1) := by decide +kernel
theorem dX7_clearChange_40 : decode cX7_clearChange 40 = .ok (.iastore, 1) := by decide +kernel
theorem dX7_clearChange_41 : decode cX7_clearChange 41 = .ok (.iinc 2 1, 3) := by decide +kernel
theorem dX7_clearChange_44 : decode cX7_clearChange 44 = .ok (.goto (-21), 3) := by decide +kernel
theorem dX7_clearChange_47 : decode cX7_clearChange 47 = .ok (.return_, 1) := by decide +kernel
set_option maxRecDepth 20000 in
theorem ggX7_readSettings_X3_needNew : GoodIn wsX7_readSettings wsX3_needNew := goodIn_r _ [7, 8, 9, 10, 11, 6, 12, 13, 14, 15, 16, 17, 18, 19, 20, 21, 22, 23, 24, 25, 26, 27, 28, 29, 30, 31, 32, 33, 34, 35, 58, 59, 60, 61, 62, 63, 64, 65, 66, 67] (by decide +kernel) (by decide +kernel)
set_option maxRecDepth 20000 in
theorem gX7_readSettings_X3_needNew : GoodIn wsX7_readSettings (wsV RX7 112 RX3 yX3_needNew wsX3_needNew) := goodIn_app (goodIn_of _ (by decide +kernel)) ggX7_readSettings_X3_needNew
set_option maxRecDepth 20000 in
theorem ggX7_readSettings_X3_needNumber : GoodIn wsX7_readSettings wsX3_needNumber := goodIn_r _ [39, 8, 9, 10, 11, 6, 12, 13, 14, 15, 16, 17, 18, 19, 20, 21, 22, 23, 24, 28, 29, 30, 31, 32, 33, 34, 35, 58, 59, 60, 61, 62, 63, 64, 65, 66, 67] (by decide +kernel) (by decide +kernel)
set_option maxRecDepth 20000 in
theorem gX7_readSettings_X3_needNumber : GoodIn wsX7_readSettings (wsV RX7 101 RX3 yX3_needNumber wsX3_needNumber) := goodIn_app (goodIn_of _ (by decide +kernel)) ggX7_readSettings_X3_needNumber
set_option maxRecDepth 20000 in
theorem ggX7_readSettings_X3_takeSign : GoodIn wsX7_readSettings wsX3_takeSign := goodIn_r _ [43, 44, 45, 46, 6, 47, 13, 16, 17, 14, 28, 29, 30, 31, 32, 15, 33, 34, 35, 58, 59, 60, 61, 62, 63, 64, 65, 66, 67] (by decide +kernel) (by decide +kernel)
set_option maxRecDepth 20000 in
theorem gX7_readSettings_X3_takeSign : GoodIn wsX7_readSettings (wsV RX7 116 RX3 yX3_takeSign wsX3_takeSign) := goodIn_app (goodIn_of _ (by decide +kernel)) ggX7_readSettings_X3_takeSign
theorem dX7_readSettings_0 : decode cX7_readSettings 0 = .ok (.iconst 0, 1) := by decide +kernel
theorem dX7_readSettings_1 : decode cX7_readSettings 1 = .ok (.istore_n 3, 1) := by decide +kernel
theorem dX7_readSettings_2 : decode cX7_readSettings 2 = .ok (.iload_n 3, 1) := by decide +kernel
theorem dX7_readSettings_3 : decode cX7_readSettings 3 = .ok (.bipush 16, 2) := by decide +kernel
theorem dX7_readSettings_5 : decode cX7_readSettings 5 = .ok (.if_icmp .gt 87, 3) := by decide +kernel
theorem dX7_readSettings_8 : decode cX7_readSettings 8 = .ok (.aload_n 1, 1) := by decide +kernel
theorem dX7_readSettings_9 : decode cX7_readSettings 9 = .ok (.iconst 0, 1) := by decide +kernel
theorem dX7_readSettings_10 : decode cX7_readSettings 10 = .ok (.bipush 15, 2) := by decide +kernel
theorem dX7_readSettings_12 : decode cX7_readSettings 12 = .ok (.aload_n 0, 1) := by decide +kernel
theorem dX7_readSettings_13 : decode cX7_readSettings 13 = .ok (.getfield 15, 3) := by decide +kernel
theorem dX7_readSettings_16 : decode cX7_readSettings 16 = .ok (.iload_n 2, 1) := by decide +kernel
theorem dX7_readSettings_17 : decode cX7_readSettings 17 = .ok (.iaload, 1) := by decide +kernel
theorem dX7_readSettings_18 : decode cX7_readSettings 18 = .ok (.invokevirtual 112, 3) := by decide +kernel
theorem dX7_readSettings_21 : decode cX7_readSettings 21 = .ok (.istore 4, 2) := by decide +kernel
theorem dX7_readSettings_23 : decode cX7_readSettings 23 = .ok (.iload 4, 2) := by decide +kernel
theorem dX7_readSettings_25 : decode cX7_readSettings 25 = .ok (.iconst (-1), 1) := by decide +kernel
theorem dX7_readSettings_26 : decode cX7_readSettings 26 = .ok (.if_icmp .ne 5, 3) := by decide +kernel
theorem dX7_readSettings_29 : decode cX7_readSettings 29 = .ok (.iconst 0, 1) := by decide +kernel
theorem dX7_readSettings_30 : decode cX7_readSettings 30 = .ok (.ireturn, 1) := by decide +kernel
theorem dX7_readSettings_31 : decode cX7_readSettings 31 = .ok (.aload_n 1, 1) := by decide +kernel
theorem dX7_readSettings_32 : decode cX7_readSettings 32 = .ok (.iconst 1, 1) := by decide +kernel
theorem dX7_readSettings_33 : decode cX7_readSettings 33 = .ok (.bipush 99, 2) := by decide +kernel
theorem dX7_readSettings_35 : decode cX7_readSettings 35 = .ok (.invokevirtual 101, 3) := by decide +kernel
theorem dX7_readSettings_38 : decode cX7_readSettings 38 = .ok (.istore 5, 2) := by decide +kernel
theorem dX7_readSettings_40 : decode cX7_readSettings 40 = .ok (.iload 5, 2) := by decide +kernel
theorem dX7_readSettings_42 : decode cX7_readSettings 42 = .ok (.iconst (-1), 1) := by decide +kernel
theorem dX7_readSettings_43 : decode cX7_readSettings 43 = .ok (.if_icmp .ne 5, 3) := by decide +kernel
theorem dX7_readSettings_46 : decode cX7_readSettings 46 = .ok (.iconst 0, 1) := by decide +kernel
theorem dX7_readSettings_47 : decode cX7_readSettings 47 = .ok (.ireturn, 1) := by decide +kernel
theorem dX7_readSettings_48 : decode cX7_readSettings 48 = .ok (.aload_n 0, 1) := by decide +kernel
theorem dX7_readSettings_49 : decode cX7_readSettings 49 = .ok (.getfield 15, 3) := by decide +kernel
theorem dX7_readSettings_52 : decode cX7_readSettings 52 = .ok (.iload_n 2, 1) := by decide +kernel
theorem dX7_readSettings_53 : decode cX7_readSettings 53 = .ok (.dup2, 1) := by decide +kernel
theorem dX7_readSettings_54 : decode cX7_readSettings 54 = .ok (.iaload, 1) := by decide +kernel
theorem dX7_readSettings_55 : decode cX7_readSettings 55 = .ok (.iconst 1, 1) := by decide +kernel
theorem dX7_readSettings_56 : decode cX7_readSettings 56 = .ok (.iload 4, 2) := by decide +kernel
theorem dX7_readSettings_58 : decode cX7_readSettings 58 = .ok (.ishl, 1) := by decide +kernel
theorem dX7_readSettings_59 : decode cX7_readSettings 59 = .ok (.ior, 1) := by decide +kernel
theorem dX7_readSettings_60 : decode cX7_readSettings 60 = .ok (.iastore, 1) := by decide +kernel
theorem dX7_readSettings_61 : decode cX7_readSettings 61 = .ok (.aload_n 0, 1) := by decide +kernel
theorem dX7_readSettings_62 : decode cX7_readSettings 62 = .ok (.getfield 25, 3) := by decide +kernel
theorem dX7_readSettings_65 : decode cX7_readSettings 65 = .ok (.iload_n 2, 1) := by decide +kernel
theorem dX7_readSettings_66 : decode cX7_readSettings 66 = .ok (.bipush 16, 2) := by decide +kernel
theorem dX7_readSettings_68 : decode cX7_readSettings 68 = .ok (.imul, 1) := by decide +kernel
theorem dX7_readSettings_69 : decode cX7_readSettings 69 = .ok (.iload 4, 2) := by decide +kernel
theorem dX7_readSettings_71 : decode cX7_readSettings 71 = .ok (.iadd, 1) := by decide +kernel
theorem dX7_readSettings_72 : decode cX7_readSettings 72 = .ok (.iload 5, 2) := by decide +kernel
theorem dX7_readSettings_74 : decode cX7_readSettings 74 = .ok (.iastore, 1) := by decide +kernel
theorem dX7_readSettings_75 : decode cX7_readSettings 75 = .ok (.aload_n 1, 1) := by decide +kernel
theorem dX7_readSettings_76 : decode cX7_readSettings 76 = .ok (.bipush 44, 2) := by decide +kernel
theorem dX7_readSettings_78 : decode cX7_readSettings 78 = .ok (.invokevirtual 116, 3) := by decide +kernel
theorem dX7_readSettings_81 : decode cX7_readSettings 81 = .ok (.ifCond .ne 5, 3) := by decide +kernel
theorem dX7_readSettings_84 : decode cX7_readSettings 84 = .ok (.iconst 1, 1) := by decide +kernel
theorem dX7_readSettings_85 : decode cX7_readSettings 85 = .ok (.ireturn, 1) := by decide +kernel
theorem dX7_readSettings_86 : decode cX7_readSettings 86 = .ok (.iinc 3 1, 3) := by decide +kernel
theorem dX7_readSettings_89 : decode cX7_readSettings 89 = .ok (.goto (-87), 3) := by decide +kernel
theorem dX7_readSettings_92 : decode cX7_readSettings 92 = .ok (.iconst 0, 1) := by decide +kernel
theorem dX7_readSettings_93 : decode cX7_readSettings 93 = .ok (.ireturn, 1) := by decide +kernel
set_option maxRecDepth 20000 in
theorem ggX7_readReads_X3_needNew : GoodIn wsX7_readReads wsX3_needNew := goodIn_r _ [6, 7, 8, 9, 10, 5, 11, 12, 13, 14, 15, 16, 17, 18, 19, 20, 21, 22, 23, 24, 25, 26, 27, 28, 29, 30, 31, 32, 33, 34, 53, 54, 55, 56, 57, 58, 59, 60, 61, 62] (by decide +kernel) (by decide +kernel)
set_option maxRecDepth 20000 in
theorem gX7_readReads_X3_needNew : GoodIn wsX7_readReads (wsV RX7 112 RX3 yX3_needNew wsX3_needNew) := goodIn_app (goodIn_of _ (by decide +kernel)) ggX7_readReads_X3_needNew
set_option maxRecDepth 20000 in
theorem ggX7_readReads_X3_takeSign : GoodIn wsX7_readReads wsX3_takeSign := goodIn_r _ [38, 39, 40, 41, 5, 42, 12, 15, 16, 13, 27, 28, 29, 30, 31, 14, 32, 33, 34, 53, 54, 55, 56, 57, 58, 59, 60, 61, 62] (by decide +kernel) (by decide +kernel)
set_option maxRecDepth 20000 in
theorem gX7_readReads_X3_takeSign : GoodIn wsX7_readReads (wsV RX7 116 RX3 yX3_takeSign wsX3_takeSign) := goodIn_app (goodIn_of _ (by decide +kernel)) ggX7_readReads_X3_takeSign
theorem dX7_readReads_0 : decode cX7_readReads 0 = .ok (.iconst 0, 1) := by decide +kernel
theorem dX7_readReads_1 : decode cX7_readReads 1 = .ok (.istore_n 3, 1) := by decide +kernel
theorem dX7_readReads_2 : decode cX7_readReads 2 = .ok (.iload_n 3, 1) := by decide +kernel
theorem dX7_readReads_3 : decode cX7_readReads 3 = .ok (.bipush 16, 2) := by decide +kernel
theorem dX7_readReads_5 : decode cX7_readReads 5 = .ok (.if_icmp .gt 56, 3) := by decide +kernel
theorem dX7_readReads_8 : decode cX7_readReads 8 = .ok (.aload_n 1, 1) := by decide +kernel
theorem dX7_readReads_9 : decode cX7_readReads 9 = .ok (.iconst 0, 1) := by decide +kernel
theorem dX7_readReads_10 : decode cX7_readReads 10 = .ok (.bipush 15, 2) := by decide +kernel
theorem dX7_readReads_12 : decode cX7_readReads 12 = .ok (.aload_n 0, 1) := by decide +kernel
theorem dX7_readReads_13 : decode cX7_readReads 13 = .ok (.getfield 19, 3) := by decide +kernel
theorem dX7_readReads_16 : decode cX7_readReads 16 = .ok (.iload_n 2, 1) := by decide +kernel
theorem dX7_readReads_17 : decode cX7_readReads 17 = .ok (.iaload, 1) := by decide +kernel
theorem dX7_readReads_18 : decode cX7_readReads 18 = .ok (.invokevirtual 112, 3) := by decide +kernel
theorem dX7_readReads_21 : decode cX7_readReads 21 = .ok (.istore 4, 2) := by decide +kernel
theorem dX7_readReads_23 : decode cX7_readReads 23 = .ok (.iload 4, 2) := by decide +kernel
theorem dX7_readReads_25 : decode cX7_readReads 25 = .ok (.iconst (-1), 1) := by decide +kernel
theorem dX7_readReads_26 : decode cX7_readReads 26 = .ok (.if_icmp .ne 5, 3) := by decide +kernel
theorem dX7_readReads_29 : decode cX7_readReads 29 = .ok (.iconst 0, 1) := by decide +kernel
theorem dX7_readReads_30 : decode cX7_readReads 30 = .ok (.ireturn, 1) := by decide +kernel
theorem dX7_readReads_31 : decode cX7_readReads 31 = .ok (.aload_n 0, 1) := by decide +kernel
theorem dX7_readReads_32 : decode cX7_readReads 32 = .ok (.getfield 19, 3) := by decide +kernel
theorem dX7_readReads_35 : decode cX7_readReads 35 = .ok (.iload_n 2, 1) := by decide +kernel
theorem dX7_readReads_36 : decode cX7_readReads 36 = .ok (.dup2, 1) := by decide +kernel
theorem dX7_readReads_37 : decode cX7_readReads 37 = .ok (.iaload, 1) := by decide +kernel
theorem dX7_readReads_38 : decode cX7_readReads 38 = .ok (.iconst 1, 1) := by decide +kernel
theorem dX7_readReads_39 : decode cX7_readReads 39 = .ok (.iload 4, 2) := by decide +kernel
theorem dX7_readReads_41 : decode cX7_readReads 41 = .ok (.ishl, 1) := by decide +kernel
theorem dX7_readReads_42 : decode cX7_readReads 42 = .ok (.ior, 1) := by decide +kernel
theorem dX7_readReads_43 : decode cX7_readReads 43 = .ok (.iastore, 1) := by decide +kernel
theorem dX7_readReads_44 : decode cX7_readReads 44 = .ok (.aload_n 1, 1) := by decide +kernel
theorem dX7_readReads_45 : decode cX7_readReads 45 = .ok (.bipush 44, 2) := by decide +kernel
theorem dX7_readReads_47 : decode cX7_readReads 47 = .ok (.invokevirtual 116, 3) := by decide +kernel
theorem dX7_readReads_50 : decode cX7_readReads 50 = .ok (.ifCond .ne 5, 3) := by decide +kernel
theorem dX7_readReads_53 : decode cX7_readReads 53 = .ok (.iconst 1, 1) := by decide +kernel
theorem dX7_readReads_54 : decode cX7_readReads 54 = .ok (.ireturn, 1) := by decide +kernel
theorem dX7_readReads_55 : decode cX7_readReads 55 = .ok (.iinc 3 1, 3) := by decide +kernel
theorem dX7_readReads_58 : decode cX7_readReads 58 = .ok (.goto (-56), 3) := by decide +kernel
theorem dX7_readReads_61 : decode cX7_readReads 61 = .ok (.iconst 0, 1) := by decide +kernel
theorem dX7_readReads_62 : decode cX7_readReads 62 = .ok (.ireturn, 1) := by decide +kernel
set_option maxRecDepth 20000 in
theorem ggX7_layBehind_X7_putOn : GoodIn wsX7_layBehind wsX7_putOn := goodIn_r _ [10, 11, 12, 13, 14, 15, 16, 17, 18, 19, 20, 21, 22, 23, 24, 25] (by decide +kernel) (by decide +kernel)
set_option maxRecDepth 20000 in
theorem gX7_layBehind_X7_putOn : GoodIn wsX7_layBehind (wsV RX7 119 RX7 yX7_putOn wsX7_putOn) := goodIn_app (goodIn_of _ (by decide +kernel)) ggX7_layBehind_X7_putOn
theorem dX7_layBehind_0 : decode cX7_layBehind 0 = .ok (.aload_n 0, 1) := by decide +kernel
theorem dX7_layBehind_1 : decode cX7_layBehind 1 = .ok (.getfield 28, 3) := by decide +kernel
theorem dX7_layBehind_4 : decode cX7_layBehind 4 = .ok (.iload_n 1, 1) := by decide +kernel
theorem dX7_layBehind_5 : decode cX7_layBehind 5 = .ok (.bipush 16, 2) := by decide +kernel
theorem dX7_layBehind_7 : decode cX7_layBehind 7 = .ok (.imul, 1) := by decide +kernel
theorem dX7_layBehind_8 : decode cX7_layBehind 8 = .ok (.aload_n 0, 1) := by decide +kernel
theorem dX7_layBehind_9 : decode cX7_layBehind 9 = .ok (.getfield 28, 3) := by decide +kernel
theorem dX7_layBehind_12 : decode cX7_layBehind 12 = .ok (.iload_n 1, 1) := by decide +kernel
theorem dX7_layBehind_13 : decode cX7_layBehind 13 = .ok (.iconst 1, 1) := by decide +kernel
theorem dX7_layBehind_14 : decode cX7_layBehind 14 = .ok (.iadd, 1) := by decide +kernel
theorem dX7_layBehind_15 : decode cX7_layBehind 15 = .ok (.bipush 16, 2) := by decide +kernel
theorem dX7_layBehind_17 : decode cX7_layBehind 17 = .ok (.imul, 1) := by decide +kernel
theorem dX7_layBehind_18 : decode cX7_layBehind 18 = .ok (.bipush 16, 2) := by decide +kernel
theorem dX7_layBehind_20 : decode cX7_layBehind 20 = .ok (.invokestatic 47, 3) := by decide +kernel
theorem dX7_layBehind_23 : decode cX7_layBehind 23 = .ok (.aload_n 0, 1) := by decide +kernel
theorem dX7_layBehind_24 : decode cX7_layBehind 24 = .ok (.iload_n 1, 1) := by decide +kernel
theorem dX7_layBehind_25 : decode cX7_layBehind 25 = .ok (.aload_n 0, 1) := by decide +kernel
theorem dX7_layBehind_26 : decode cX7_layBehind 26 = .ok (.getfield 28, 3) := by decide +kernel
theorem dX7_layBehind_29 : decode cX7_layBehind 29 = .ok (.iload_n 1, 1) := by decide +kernel
theorem dX7_layBehind_30 : decode cX7_layBehind 30 = .ok (.iconst 1, 1) := by decide +kernel
theorem dX7_layBehind_31 : decode cX7_layBehind 31 = .ok (.iadd, 1) := by decide +kernel
theorem dX7_layBehind_32 : decode cX7_layBehind 32 = .ok (.invokevirtual 119, 3) := by decide +kernel
theorem dX7_layBehind_35 : decode cX7_layBehind 35 = .ok (.return_, 1) := by decide +kernel
set_option maxRecDepth 20000 in
theorem ggX7_readFault_X3_refuse : GoodIn wsX7_readFault wsX3_refuse := goodIn_r _ [10, 11, 12, 13, 122, 123, 124, 125, 126, 127, 128, 129] (by decide +kernel) (by decide +kernel)
set_option maxRecDepth 20000 in
theorem gX7_readFault_X3_refuse : GoodIn wsX7_readFault (wsV RX7 74 RX3 yX3_refuse wsX3_refuse) := goodIn_app (goodIn_of _ (by decide +kernel)) ggX7_readFault_X3_refuse
set_option maxRecDepth 20000 in
theorem ggX7_readFault_X3_step : GoodIn wsX7_readFault wsX3_step := goodIn_r _ [17, 18, 19, 20, 21, 12, 22, 23, 24, 9, 25, 122, 123, 124, 125, 126, 127, 128, 129, 130, 131] (by decide +kernel) (by decide +kernel)
set_option maxRecDepth 20000 in
theorem gX7_readFault_X3_step : GoodIn wsX7_readFault (wsV RX7 78 RX3 yX3_step wsX3_step) := goodIn_app (goodIn_of _ (by decide +kernel)) ggX7_readFault_X3_step
set_option maxRecDepth 20000 in
theorem ggX7_readFault_X3_needNumber : GoodIn wsX7_readFault wsX3_needNumber := goodIn_r _ [29, 30, 31, 32, 33, 9, 34, 22, 12, 20, 18, 21, 35, 36, 7, 8, 10, 11, 13, 37, 15, 16, 17, 19, 23, 24, 25, 122, 123, 124, 125, 126, 127, 128, 129, 130, 131] (by decide +kernel) (by decide +kernel)
set_option maxRecDepth 20000 in
theorem gX7_readFault_X3_needNumber : GoodIn wsX7_readFault (wsV RX7 101 RX3 yX3_needNumber wsX3_needNumber) := goodIn_app (goodIn_of _ (by decide +kernel)) ggX7_readFault_X3_needNumber
set_option maxRecDepth 20000 in
theorem ggX7_readFault_X3_needWord : GoodIn wsX7_readFault wsX3_needWord := goodIn_r _ [41, 42, 43, 44, 9, 45, 46, 47, 48, 49, 22, 20, 12, 18, 21, 50, 51, 52, 53, 54, 55, 56, 57, 58, 59, 60, 61, 62, 63, 64, 65, 66, 67, 68, 69, 70, 71, 72, 73, 74, 75, 76, 77, 78, 79, 80, 81, 82, 83, 84, 85, 86, 87, 88, 89, 90, 91, 92, 93, 94, 95, 96, 97, 98, 37, 15, 16, 17, 19, 23, 24, 25, 36, 7, 8, 10, 11, 13, 122, 123, 124, 125, 126, 127, 128, 129, 130, 131] (by decide +kernel) (by decide +kernel)
set_option maxRecDepth 20000 in
theorem gX7_readFault_X3_needWord : GoodIn wsX7_readFault (wsV RX7 125 RX3 yX3_needWord wsX3_needWord) := goodIn_app (goodIn_of _ (by decide +kernel)) ggX7_readFault_X3_needWord
set_option maxRecDepth 20000 in
theorem ggX7_readFault_X3_takeWord : GoodIn wsX7_readFault wsX3_takeWord := goodIn_r _ [45, 46, 47, 48, 9, 49, 22, 20, 12, 18, 21, 50, 51, 52, 53, 54, 55, 56, 57, 58, 59, 60, 61, 62, 63, 64, 65, 66, 67, 68, 69, 70, 71, 72, 73, 74, 75, 76, 77, 78, 79, 80, 81, 82, 83, 84, 85, 86, 87, 88, 89, 90, 91, 92, 93, 94, 95, 96, 97, 98, 37, 15, 16, 17, 19, 23, 24, 25, 122, 123, 124, 125, 126, 127, 128, 129, 130, 131] (by decide +kernel) (by decide +kernel)
set_option maxRecDepth 20000 in
theorem gX7_readFault_X3_takeWord : GoodIn wsX7_readFault (wsV RX7 87 RX3 yX3_takeWord wsX3_takeWord) := goodIn_app (goodIn_of _ (by decide +kernel)) ggX7_readFault_X3_takeWord
set_option maxRecDepth 20000 in
theorem ggX7_readFault_X3_needSign : GoodIn wsX7_readFault wsX3_needSign := goodIn_r _ [103, 104, 105, 106, 9, 107, 108, 109, 110, 111, 22, 18, 21, 12, 37, 15, 16, 17, 19, 20, 23, 24, 25, 36, 7, 8, 10, 11, 13, 122, 123, 124, 125, 126, 127, 128, 129, 130, 131] (by decide +kernel) (by decide +kernel)
set_option maxRecDepth 20000 in
theorem gX7_readFault_X3_needSign : GoodIn wsX7_readFault (wsV RX7 105 RX3 yX3_needSign wsX3_needSign) := goodIn_app (goodIn_of _ (by decide +kernel)) ggX7_readFault_X3_needSign
theorem dX7_readFault_0 : decode cX7_readFault 0 = .ok (.aload_n 0, 1) := by decide +kernel
theorem dX7_readFault_1 : decode cX7_readFault 1 = .ok (.getfield 31, 3) := by decide +kernel
theorem dX7_readFault_4 : decode cX7_readFault 4 = .ok (.istore_n 2, 1) := by decide +kernel
theorem dX7_readFault_5 : decode cX7_readFault 5 = .ok (.iload_n 2, 1) := by decide +kernel
theorem dX7_readFault_6 : decode cX7_readFault 6 = .ok (.bipush 10, 2) := by decide +kernel
theorem dX7_readFault_8 : decode cX7_readFault 8 = .ok (.if_icmp .lt 9, 3) := by decide +kernel
theorem dX7_readFault_11 : decode cX7_readFault 11 = .ok (.aload_n 1, 1) := by decide +kernel
theorem dX7_readFault_12 : decode cX7_readFault 12 = .ok (.iconst 3, 1) := by decide +kernel
theorem dX7_readFault_13 : decode cX7_readFault 13 = .ok (.invokevirtual 74, 3) := by decide +kernel
theorem dX7_readFault_16 : decode cX7_readFault 16 = .ok (.ireturn, 1) := by decide +kernel
theorem dX7_readFault_17 : decode cX7_readFault 17 = .ok (.aload_n 1, 1) := by decide +kernel
theorem dX7_readFault_18 : decode cX7_readFault 18 = .ok (.invokevirtual 78, 3) := by decide +kernel
theorem dX7_readFault_21 : decode cX7_readFault 21 = .ok (.aload_n 1, 1) := by decide +kernel
theorem dX7_readFault_22 : decode cX7_readFault 22 = .ok (.iconst 1, 1) := by decide +kernel
theorem dX7_readFault_23 : decode cX7_readFault 23 = .ok (.bipush 99, 2) := by decide +kernel
theorem dX7_readFault_25 : decode cX7_readFault 25 = .ok (.invokevirtual 101, 3) := by decide +kernel
theorem dX7_readFault_28 : decode cX7_readFault 28 = .ok (.istore_n 3, 1) := by decide +kernel
theorem dX7_readFault_29 : decode cX7_readFault 29 = .ok (.iload_n 3, 1) := by decide +kernel
theorem dX7_readFault_30 : decode cX7_readFault 30 = .ok (.iconst (-1), 1) := by decide +kernel
theorem dX7_readFault_31 : decode cX7_readFault 31 = .ok (.if_icmp .eq 12, 3) := by decide +kernel
theorem dX7_readFault_34 : decode cX7_readFault 34 = .ok (.aload_n 1, 1) := by decide +kernel
theorem dX7_readFault_35 : decode cX7_readFault 35 = .ok (.ldc 123, 2) := by decide +kernel
theorem dX7_readFault_37 : decode cX7_readFault 37 = .ok (.invokevirtual 125, 3) := by decide +kernel
theorem dX7_readFault_40 : decode cX7_readFault 40 = .ok (.ifCond .ne 5, 3) := by decide +kernel
theorem dX7_readFault_43 : decode cX7_readFault 43 = .ok (.iconst 0, 1) := by decide +kernel
theorem dX7_readFault_44 : decode cX7_readFault 44 = .ok (.ireturn, 1) := by decide +kernel
theorem dX7_readFault_45 : decode cX7_readFault 45 = .ok (.aload_n 1, 1) := by decide +kernel
theorem dX7_readFault_46 : decode cX7_readFault 46 = .ok (.iconst 0, 1) := by decide +kernel
theorem dX7_readFault_47 : decode cX7_readFault 47 = .ok (.aload_n 0, 1) := by decide +kernel
theorem dX7_readFault_48 : decode cX7_readFault 48 = .ok (.getfield 9, 3) := by decide +kernel
theorem dX7_readFault_51 : decode cX7_readFault 51 = .ok (.iconst 1, 1) := by decide +kernel
theorem dX7_readFault_52 : decode cX7_readFault 52 = .ok (.isub, 1) := by decide +kernel
theorem dX7_readFault_53 : decode cX7_readFault 53 = .ok (.invokevirtual 101, 3) := by decide +kernel
theorem dX7_readFault_56 : decode cX7_readFault 56 = .ok (.istore 4, 2) := by decide +kernel
theorem dX7_readFault_58 : decode cX7_readFault 58 = .ok (.iload 4, 2) := by decide +kernel
theorem dX7_readFault_60 : decode cX7_readFault 60 = .ok (.iconst (-1), 1) := by decide +kernel
theorem dX7_readFault_61 : decode cX7_readFault 61 = .ok (.if_icmp .ne 5, 3) := by decide +kernel
theorem dX7_readFault_64 : decode cX7_readFault 64 = .ok (.iconst 0, 1) := by decide +kernel
theorem dX7_readFault_65 : decode cX7_readFault 65 = .ok (.ireturn, 1) := by decide +kernel
theorem dX7_readFault_66 : decode cX7_readFault 66 = .ok (.iconst (-1), 1) := by decide +kernel
theorem dX7_readFault_67 : decode cX7_readFault 67 = .ok (.istore 5, 2) := by decide +kernel
theorem dX7_readFault_69 : decode cX7_readFault 69 = .ok (.aload_n 1, 1) := by decide +kernel
theorem dX7_readFault_70 : decode cX7_readFault 70 = .ok (.ldc 128, 2) := by decide +kernel
theorem dX7_readFault_72 : decode cX7_readFault 72 = .ok (.invokevirtual 87, 3) := by decide +kernel
theorem dX7_readFault_75 : decode cX7_readFault 75 = .ok (.ifCond .eq 27, 3) := by decide +kernel
theorem dX7_readFault_78 : decode cX7_readFault 78 = .ok (.aload_n 1, 1) := by decide +kernel
theorem dX7_readFault_79 : decode cX7_readFault 79 = .ok (.iload 4, 2) := by decide +kernel
theorem dX7_readFault_81 : decode cX7_readFault 81 = .ok (.iconst 1, 1) := by decide +kernel
theorem dX7_readFault_82 : decode cX7_readFault 82 = .ok (.iadd, 1) := by decide +kernel
theorem dX7_readFault_83 : decode cX7_readFault 83 = .ok (.aload_n 0, 1) := by decide +kernel
theorem dX7_readFault_84 : decode cX7_readFault 84 = .ok (.getfield 9, 3) := by decide +kernel
theorem dX7_readFault_87 : decode cX7_readFault 87 = .ok (.iconst 1, 1) := by decide +kernel
theorem dX7_readFault_88 : decode cX7_readFault 88 = .ok (.isub, 1) := by decide +kernel
theorem dX7_readFault_89 : decode cX7_readFault 89 = .ok (.invokevirtual 101, 3) := by decide +kernel
theorem dX7_readFault_92 : decode cX7_readFault 92 = .ok (.istore 5, 2) := by decide +kernel
theorem dX7_readFault_94 : decode cX7_readFault 94 = .ok (.iload 5, 2) := by decide +kernel
theorem dX7_readFault_96 : decode cX7_readFault 96 = .ok (.iconst (-1), 1) := by decide +kernel
theorem dX7_readFault_97 : decode cX7_readFault 97 = .ok (.if_icmp .ne 5, 3) := by decide +kernel
theorem dX7_readFault_100 : decode cX7_readFault 100 = .ok (.iconst 0, 1) := by decide +kernel
theorem dX7_readFault_101 : decode cX7_readFault 101 = .ok (.ireturn, 1) := by decide +kernel
theorem dX7_readFault_102 : decode cX7_readFault 102 = .ok (.aload_n 1, 1) := by decide +kernel
theorem dX7_readFault_103 : decode cX7_readFault 103 = .ok (.bipush 59, 2) := by decide +kernel
theorem dX7_readFault_105 : decode cX7_readFault 105 = .ok (.invokevirtual 105, 3) := by decide +kernel
theorem dX7_readFault_108 : decode cX7_readFault 108 = .ok (.ifCond .ne 5, 3) := by decide +kernel
theorem dX7_readFault_111 : decode cX7_readFault 111 = .ok (.iconst 0, 1) := by decide +kernel
theorem dX7_readFault_112 : decode cX7_readFault 112 = .ok (.ireturn, 1) := by decide +kernel
theorem dX7_readFault_113 : decode cX7_readFault 113 = .ok (.aload_n 0, 1) := by decide +kernel
theorem dX7_readFault_114 : decode cX7_readFault 114 = .ok (.getfield 34, 3) := by decide +kernel
theorem dX7_readFault_117 : decode cX7_readFault 117 = .ok (.iload_n 2, 1) := by decide +kernel
theorem dX7_readFault_118 : decode cX7_readFault 118 = .ok (.iload_n 3, 1) := by decide +kernel
theorem dX7_readFault_119 : decode cX7_readFault 119 = .ok (.iastore, 1) := by decide +kernel
theorem dX7_readFault_120 : decode cX7_readFault 120 = .ok (.aload_n 0, 1) := by decide +kernel
theorem dX7_readFault_121 : decode cX7_readFault 121 = .ok (.getfield 37, 3) := by decide +kernel
theorem dX7_readFault_124 : decode cX7_readFault 124 = .ok (.iload_n 2, 1) := by decide +kernel
theorem dX7_readFault_125 : decode cX7_readFault 125 = .ok (.iload 4, 2) := by decide +kernel
theorem dX7_readFault_127 : decode cX7_readFault 127 = .ok (.iastore, 1) := by decide +kernel
theorem dX7_readFault_128 : decode cX7_readFault 128 = .ok (.aload_n 0, 1) := by decide +kernel
theorem dX7_readFault_129 : decode cX7_readFault 129 = .ok (.getfield 40, 3) := by decide +kernel
theorem dX7_readFault_132 : decode cX7_readFault 132 = .ok (.iload_n 2, 1) := by decide +kernel
theorem dX7_readFault_133 : decode cX7_readFault 133 = .ok (.iload 5, 2) := by decide +kernel
theorem dX7_readFault_135 : decode cX7_readFault 135 = .ok (.iastore, 1) := by decide +kernel
theorem dX7_readFault_136 : decode cX7_readFault 136 = .ok (.aload_n 0, 1) := by decide +kernel
theorem dX7_readFault_137 : decode cX7_readFault 137 = .ok (.iload_n 2, 1) := by decide +kernel
theorem dX7_readFault_138 : decode cX7_readFault 138 = .ok (.iconst 1, 1) := by decide +kernel
theorem dX7_readFault_139 : decode cX7_readFault 139 = .ok (.iadd, 1) := by decide +kernel
theorem dX7_readFault_140 : decode cX7_readFault 140 = .ok (.putfield 31, 3) := by decide +kernel
theorem dX7_readFault_143 : decode cX7_readFault 143 = .ok (.iconst 1, 1) := by decide +kernel
theorem dX7_readFault_144 : decode cX7_readFault 144 = .ok (.ireturn, 1) := by decide +kernel
theorem dX7_comingWith_0 : decode cX7_comingWith 0 = .ok (.iconst 0, 1) := by decide +kernel
theorem dX7_comingWith_1 : decode cX7_comingWith 1 = .ok (.istore_n 2, 1) := by decide +kernel
theorem dX7_comingWith_2 : decode cX7_comingWith 2 = .ok (.iconst 0, 1) := by decide +kernel
theorem dX7_comingWith_3 : decode cX7_comingWith 3 = .ok (.istore_n 3, 1) := by decide +kernel
theorem dX7_comingWith_4 : decode cX7_comingWith 4 = .ok (.iload_n 3, 1) := by decide +kernel
theorem dX7_comingWith_5 : decode cX7_comingWith 5 = .ok (.aload_n 0, 1) := by decide +kernel
theorem dX7_comingWith_6 : decode cX7_comingWith 6 = .ok (.getfield 31, 3) := by decide +kernel
theorem dX7_comingWith_9 : decode cX7_comingWith 9 = .ok (.if_icmp .ge 25, 3) := by decide +kernel
theorem dX7_comingWith_12 : decode cX7_comingWith 12 = .ok (.aload_n 0, 1) := by decide +kernel
theorem dX7_comingWith_13 : decode cX7_comingWith 13 = .ok (.getfield 37, 3) := by decide +kernel
theorem dX7_comingWith_16 : decode cX7_comingWith 16 = .ok (.iload_n 3, 1) := by decide +kernel
theorem dX7_comingWith_17 : decode cX7_comingWith 17 = .ok (.iaload, 1) := by decide +kernel
theorem dX7_comingWith_18 : decode cX7_comingWith 18 = .ok (.iload_n 1, 1) := by decide +kernel
theorem dX7_comingWith_19 : decode cX7_comingWith 19 = .ok (.if_icmp .ne 9, 3) := by decide +kernel
theorem dX7_comingWith_22 : decode cX7_comingWith 22 = .ok (.iload_n 2, 1) := by decide +kernel
theorem dX7_comingWith_23 : decode cX7_comingWith 23 = .ok (.iconst 1, 1) := by decide +kernel
theorem dX7_comingWith_24 : decode cX7_comingWith 24 = .ok (.iload_n 3, 1) := by decide +kernel
theorem dX7_comingWith_25 : decode cX7_comingWith 25 = .ok (.ishl, 1) := by decide +kernel
theorem dX7_comingWith_26 : decode cX7_comingWith 26 = .ok (.ior, 1) := by decide +kernel
theorem dX7_comingWith_27 : decode cX7_comingWith 27 = .ok (.istore_n 2, 1) := by decide +kernel
theorem dX7_comingWith_28 : decode cX7_comingWith 28 = .ok (.iinc 3 1, 3) := by decide +kernel
theorem dX7_comingWith_31 : decode cX7_comingWith 31 = .ok (.goto (-27), 3) := by decide +kernel
theorem dX7_comingWith_34 : decode cX7_comingWith 34 = .ok (.iload_n 2, 1) := by decide +kernel
theorem dX7_comingWith_35 : decode cX7_comingWith 35 = .ok (.ireturn, 1) := by decide +kernel
set_option maxRecDepth 20000 in
theorem ggX7_goingWith_X7_removedBy : GoodIn wsX7_goingWith wsX7_removedBy := goodIn_r _ [5, 6, 7, 8, 9, 10, 11, 12, 13, 14, 15, 16, 17, 18, 19, 20] (by decide +kernel) (by decide +kernel)
set_option maxRecDepth 20000 in
theorem gX7_goingWith_X7_removedBy : GoodIn wsX7_goingWith (wsV RX7 130 RX7 yX7_removedBy wsX7_removedBy) := goodIn_app (goodIn_of _ (by decide +kernel)) ggX7_goingWith_X7_removedBy
theorem dX7_goingWith_0 : decode cX7_goingWith 0 = .ok (.aload_n 0, 1) := by decide +kernel
theorem dX7_goingWith_1 : decode cX7_goingWith 1 = .ok (.iconst 1, 1) := by decide +kernel
theorem dX7_goingWith_2 : decode cX7_goingWith 2 = .ok (.iload_n 1, 1) := by decide +kernel
theorem dX7_goingWith_3 : decode cX7_goingWith 3 = .ok (.ishl, 1) := by decide +kernel
theorem dX7_goingWith_4 : decode cX7_goingWith 4 = .ok (.invokevirtual 130, 3) := by decide +kernel
theorem dX7_goingWith_7 : decode cX7_goingWith 7 = .ok (.ireturn, 1) := by decide +kernel
set_option maxRecDepth 20000 in
theorem ggX7_removedBy_X8_has : GoodIn wsX7_removedBy wsX8_has := goodIn_r _ [5] (by decide +kernel) (by decide +kernel)
set_option maxRecDepth 20000 in
theorem gX7_removedBy_X8_has_n133 : GoodIn wsX7_removedBy (wsX8_has) := ggX7_removedBy_X8_has
theorem dX7_removedBy_0 : decode cX7_removedBy 0 = .ok (.iconst 0, 1) := by decide +kernel
theorem dX7_removedBy_1 : decode cX7_removedBy 1 = .ok (.istore_n 2, 1) := by decide +kernel
theorem dX7_removedBy_2 : decode cX7_removedBy 2 = .ok (.iconst 0, 1) := by decide +kernel
theorem dX7_removedBy_3 : decode cX7_removedBy 3 = .ok (.istore_n 3, 1) := by decide +kernel
theorem dX7_removedBy_4 : decode cX7_removedBy 4 = .ok (.iload_n 3, 1) := by decide +kernel
theorem dX7_removedBy_5 : decode cX7_removedBy 5 = .ok (.aload_n 0, 1) := by decide +kernel
theorem dX7_removedBy_6 : decode cX7_removedBy 6 = .ok (.getfield 31, 3) := by decide +kernel
theorem dX7_removedBy_9 : decode cX7_removedBy 9 = .ok (.if_icmp .ge 38, 3) := by decide +kernel
theorem dX7_removedBy_12 : decode cX7_removedBy 12 = .ok (.aload_n 0, 1) := by decide +kernel
theorem dX7_removedBy_13 : decode cX7_removedBy 13 = .ok (.getfield 40, 3) := by decide +kernel
theorem dX7_removedBy_16 : decode cX7_removedBy 16 = .ok (.iload_n 3, 1) := by decide +kernel
theorem dX7_removedBy_17 : decode cX7_removedBy 17 = .ok (.iaload, 1) := by decide +kernel
theorem dX7_removedBy_18 : decode cX7_removedBy 18 = .ok (.iconst (-1), 1) := by decide +kernel
theorem dX7_removedBy_19 : decode cX7_removedBy 19 = .ok (.if_icmp .eq 22, 3) := by decide +kernel
theorem dX7_removedBy_22 : decode cX7_removedBy 22 = .ok (.iload_n 1, 1) := by decide +kernel
theorem dX7_removedBy_23 : decode cX7_removedBy 23 = .ok (.aload_n 0, 1) := by decide +kernel
theorem dX7_removedBy_24 : decode cX7_removedBy 24 = .ok (.getfield 40, 3) := by decide +kernel
theorem dX7_removedBy_27 : decode cX7_removedBy 27 = .ok (.iload_n 3, 1) := by decide +kernel
theorem dX7_removedBy_28 : decode cX7_removedBy 28 = .ok (.iaload, 1) := by decide +kernel
theorem dX7_removedBy_29 : decode cX7_removedBy 29 = .ok (.invokestatic 133, 3) := by decide +kernel
theorem dX7_removedBy_32 : decode cX7_removedBy 32 = .ok (.ifCond .eq 9, 3) := by decide +kernel
theorem dX7_removedBy_35 : decode cX7_removedBy 35 = .ok (.iload_n 2, 1) := by decide +kernel
theorem dX7_removedBy_36 : decode cX7_removedBy 36 = .ok (.iconst 1, 1) := by decide +kernel
theorem dX7_removedBy_37 : decode cX7_removedBy 37 = .ok (.iload_n 3, 1) := by decide +kernel
theorem dX7_removedBy_38 : decode cX7_removedBy 38 = .ok (.ishl, 1) := by decide +kernel
theorem dX7_removedBy_39 : decode cX7_removedBy 39 = .ok (.ior, 1) := by decide +kernel
theorem dX7_removedBy_40 : decode cX7_removedBy 40 = .ok (.istore_n 2, 1) := by decide +kernel
theorem dX7_removedBy_41 : decode cX7_removedBy 41 = .ok (.iinc 3 1, 3) := by decide +kernel
theorem dX7_removedBy_44 : decode cX7_removedBy 44 = .ok (.goto (-40), 3) := by decide +kernel
theorem dX7_removedBy_47 : decode cX7_removedBy 47 = .ok (.iload_n 2, 1) := by decide +kernel
theorem dX7_removedBy_48 : decode cX7_removedBy 48 = .ok (.ireturn, 1) := by decide +kernel
set_option maxRecDepth 20000 in
theorem ggX7_faultsIn_X8_has : GoodIn wsX7_faultsIn wsX8_has := goodIn_r _ [5] (by decide +kernel) (by decide +kernel)
set_option maxRecDepth 20000 in
theorem gX7_faultsIn_X8_has_n133 : GoodIn wsX7_faultsIn (wsX8_has) := ggX7_faultsIn_X8_has
set_option maxRecDepth 20000 in
theorem ggX7_faultsIn_X7_removedBy : GoodIn wsX7_faultsIn wsX7_removedBy := goodIn_r _ [10, 1, 11, 3, 4, 5, 12, 13, 14, 15, 16, 17, 18, 19, 20, 21] (by decide +kernel) (by decide +kernel)
set_option maxRecDepth 20000 in
theorem gX7_faultsIn_X7_removedBy : GoodIn wsX7_faultsIn (wsV RX7 130 RX7 yX7_removedBy wsX7_removedBy) := goodIn_app (goodIn_of _ (by decide +kernel)) ggX7_faultsIn_X7_removedBy
theorem dX7_faultsIn_0 : decode cX7_faultsIn 0 = .ok (.iconst 0, 1) := by decide +kernel
theorem dX7_faultsIn_1 : decode cX7_faultsIn 1 = .ok (.istore_n 2, 1) := by decide +kernel
theorem dX7_faultsIn_2 : decode cX7_faultsIn 2 = .ok (.iconst 0, 1) := by decide +kernel
theorem dX7_faultsIn_3 : decode cX7_faultsIn 3 = .ok (.istore_n 3, 1) := by decide +kernel
theorem dX7_faultsIn_4 : decode cX7_faultsIn 4 = .ok (.iload_n 3, 1) := by decide +kernel
theorem dX7_faultsIn_5 : decode cX7_faultsIn 5 = .ok (.aload_n 0, 1) := by decide +kernel
theorem dX7_faultsIn_6 : decode cX7_faultsIn 6 = .ok (.getfield 31, 3) := by decide +kernel
theorem dX7_faultsIn_9 : decode cX7_faultsIn 9 = .ok (.if_icmp .ge 28, 3) := by decide +kernel
theorem dX7_faultsIn_12 : decode cX7_faultsIn 12 = .ok (.iload_n 1, 1) := by decide +kernel
theorem dX7_faultsIn_13 : decode cX7_faultsIn 13 = .ok (.aload_n 0, 1) := by decide +kernel
theorem dX7_faultsIn_14 : decode cX7_faultsIn 14 = .ok (.getfield 37, 3) := by decide +kernel
theorem dX7_faultsIn_17 : decode cX7_faultsIn 17 = .ok (.iload_n 3, 1) := by decide +kernel
theorem dX7_faultsIn_18 : decode cX7_faultsIn 18 = .ok (.iaload, 1) := by decide +kernel
theorem dX7_faultsIn_19 : decode cX7_faultsIn 19 = .ok (.invokestatic 133, 3) := by decide +kernel
theorem dX7_faultsIn_22 : decode cX7_faultsIn 22 = .ok (.ifCond .eq 9, 3) := by decide +kernel
theorem dX7_faultsIn_25 : decode cX7_faultsIn 25 = .ok (.iload_n 2, 1) := by decide +kernel
theorem dX7_faultsIn_26 : decode cX7_faultsIn 26 = .ok (.iconst 1, 1) := by decide +kernel
theorem dX7_faultsIn_27 : decode cX7_faultsIn 27 = .ok (.iload_n 3, 1) := by decide +kernel
theorem dX7_faultsIn_28 : decode cX7_faultsIn 28 = .ok (.ishl, 1) := by decide +kernel
theorem dX7_faultsIn_29 : decode cX7_faultsIn 29 = .ok (.ior, 1) := by decide +kernel
theorem dX7_faultsIn_30 : decode cX7_faultsIn 30 = .ok (.istore_n 2, 1) := by decide +kernel
theorem dX7_faultsIn_31 : decode cX7_faultsIn 31 = .ok (.iinc 3 1, 3) := by decide +kernel
theorem dX7_faultsIn_34 : decode cX7_faultsIn 34 = .ok (.goto (-30), 3) := by decide +kernel
theorem dX7_faultsIn_37 : decode cX7_faultsIn 37 = .ok (.iload_n 2, 1) := by decide +kernel
theorem dX7_faultsIn_38 : decode cX7_faultsIn 38 = .ok (.aload_n 0, 1) := by decide +kernel
theorem dX7_faultsIn_39 : decode cX7_faultsIn 39 = .ok (.iload_n 1, 1) := by decide +kernel
theorem dX7_faultsIn_40 : decode cX7_faultsIn 40 = .ok (.invokevirtual 130, 3) := by decide +kernel
theorem dX7_faultsIn_43 : decode cX7_faultsIn 43 = .ok (.iconst (-1), 1) := by decide +kernel
theorem dX7_faultsIn_44 : decode cX7_faultsIn 44 = .ok (.ixor, 1) := by decide +kernel
theorem dX7_faultsIn_45 : decode cX7_faultsIn 45 = .ok (.iand, 1) := by decide +kernel
theorem dX7_faultsIn_46 : decode cX7_faultsIn 46 = .ok (.ireturn, 1) := by decide +kernel
set_option maxRecDepth 20000 in
theorem ggX7_weightOf_X8_has : GoodIn wsX7_weightOf wsX8_has := goodIn_r _ [5] (by decide +kernel) (by decide +kernel)
set_option maxRecDepth 20000 in
theorem gX7_weightOf_X8_has_n133 : GoodIn wsX7_weightOf (wsX8_has) := ggX7_weightOf_X8_has
theorem dX7_weightOf_0 : decode cX7_weightOf 0 = .ok (.iconst 0, 1) := by decide +kernel
theorem dX7_weightOf_1 : decode cX7_weightOf 1 = .ok (.istore_n 2, 1) := by decide +kernel
theorem dX7_weightOf_2 : decode cX7_weightOf 2 = .ok (.iconst 0, 1) := by decide +kernel
theorem dX7_weightOf_3 : decode cX7_weightOf 3 = .ok (.istore_n 3, 1) := by decide +kernel
theorem dX7_weightOf_4 : decode cX7_weightOf 4 = .ok (.iload_n 3, 1) := by decide +kernel
theorem dX7_weightOf_5 : decode cX7_weightOf 5 = .ok (.aload_n 0, 1) := by decide +kernel
theorem dX7_weightOf_6 : decode cX7_weightOf 6 = .ok (.getfield 31, 3) := by decide +kernel
theorem dX7_weightOf_9 : decode cX7_weightOf 9 = .ok (.if_icmp .ge 26, 3) := by decide +kernel
theorem dX7_weightOf_12 : decode cX7_weightOf 12 = .ok (.iload_n 1, 1) := by decide +kernel
theorem dX7_weightOf_13 : decode cX7_weightOf 13 = .ok (.iload_n 3, 1) := by decide +kernel
theorem dX7_weightOf_14 : decode cX7_weightOf 14 = .ok (.invokestatic 133, 3) := by decide +kernel
theorem dX7_weightOf_17 : decode cX7_weightOf 17 = .ok (.ifCond .eq 12, 3) := by decide +kernel
theorem dX7_weightOf_20 : decode cX7_weightOf 20 = .ok (.iload_n 2, 1) := by decide +kernel
theorem dX7_weightOf_21 : decode cX7_weightOf 21 = .ok (.aload_n 0, 1) := by decide +kernel
theorem dX7_weightOf_22 : decode cX7_weightOf 22 = .ok (.getfield 34, 3) := by decide +kernel
theorem dX7_weightOf_25 : decode cX7_weightOf 25 = .ok (.iload_n 3, 1) := by decide +kernel
theorem dX7_weightOf_26 : decode cX7_weightOf 26 = .ok (.iaload, 1) := by decide +kernel
theorem dX7_weightOf_27 : decode cX7_weightOf 27 = .ok (.iadd, 1) := by decide +kernel
theorem dX7_weightOf_28 : decode cX7_weightOf 28 = .ok (.istore_n 2, 1) := by decide +kernel
theorem dX7_weightOf_29 : decode cX7_weightOf 29 = .ok (.iinc 3 1, 3) := by decide +kernel
theorem dX7_weightOf_32 : decode cX7_weightOf 32 = .ok (.goto (-28), 3) := by decide +kernel
theorem dX7_weightOf_35 : decode cX7_weightOf 35 = .ok (.iload_n 2, 1) := by decide +kernel
theorem dX7_weightOf_36 : decode cX7_weightOf 36 = .ok (.ireturn, 1) := by decide +kernel
set_option maxRecDepth 20000 in
theorem ggX7_weightIn_X7_faultsIn : GoodIn wsX7_weightIn wsX7_faultsIn := goodIn_r _ [5, 6, 7, 8, 9, 10, 11, 12, 13, 4, 14, 15, 21, 22, 23, 24, 25, 26, 27, 28, 29, 30] (by decide +kernel) (by decide +kernel)
set_option maxRecDepth 20000 in
theorem gX7_weightIn_X7_faultsIn : GoodIn wsX7_weightIn (wsV RX7 137 RX7 yX7_faultsIn wsX7_faultsIn) := goodIn_app (goodIn_of _ (by decide +kernel)) ggX7_weightIn_X7_faultsIn
set_option maxRecDepth 20000 in
theorem ggX7_weightIn_X7_weightOf : GoodIn wsX7_weightIn wsX7_weightOf := goodIn_r _ [19, 6, 20, 8, 9, 10, 21, 22, 23, 24, 25, 26, 27, 28, 29, 30] (by decide +kernel) (by decide +kernel)
set_option maxRecDepth 20000 in
theorem gX7_weightIn_X7_weightOf : GoodIn wsX7_weightIn (wsV RX7 140 RX7 yX7_weightOf wsX7_weightOf) := goodIn_app (goodIn_of _ (by decide +kernel)) ggX7_weightIn_X7_weightOf
theorem dX7_weightIn_0 : decode cX7_weightIn 0 = .ok (.aload_n 0, 1) := by decide +kernel
theorem dX7_weightIn_1 : decode cX7_weightIn 1 = .ok (.aload_n 0, 1) := by decide +kernel
theorem dX7_weightIn_2 : decode cX7_weightIn 2 = .ok (.iload_n 1, 1) := by decide +kernel
theorem dX7_weightIn_3 : decode cX7_weightIn 3 = .ok (.invokevirtual 137, 3) := by decide +kernel
theorem dX7_weightIn_6 : decode cX7_weightIn 6 = .ok (.invokevirtual 140, 3) := by decide +kernel
theorem dX7_weightIn_9 : decode cX7_weightIn 9 = .ok (.ireturn, 1) := by decide +kernel
set_option maxRecDepth 20000 in
theorem ggX7_riskOf_X8_has : GoodIn wsX7_riskOf wsX8_has := goodIn_r _ [5] (by decide +kernel) (by decide +kernel)
set_option maxRecDepth 20000 in
theorem gX7_riskOf_X8_has_n133 : GoodIn wsX7_riskOf (wsX8_has) := ggX7_riskOf_X8_has
theorem dX7_riskOf_0 : decode cX7_riskOf 0 = .ok (.iconst 0, 1) := by decide +kernel
theorem dX7_riskOf_1 : decode cX7_riskOf 1 = .ok (.istore_n 2, 1) := by decide +kernel
theorem dX7_riskOf_2 : decode cX7_riskOf 2 = .ok (.iconst 0, 1) := by decide +kernel
theorem dX7_riskOf_3 : decode cX7_riskOf 3 = .ok (.istore_n 3, 1) := by decide +kernel
theorem dX7_riskOf_4 : decode cX7_riskOf 4 = .ok (.iload_n 3, 1) := by decide +kernel
theorem dX7_riskOf_5 : decode cX7_riskOf 5 = .ok (.aload_n 0, 1) := by decide +kernel
theorem dX7_riskOf_6 : decode cX7_riskOf 6 = .ok (.getfield 9, 3) := by decide +kernel
theorem dX7_riskOf_9 : decode cX7_riskOf 9 = .ok (.if_icmp .ge 26, 3) := by decide +kernel
theorem dX7_riskOf_12 : decode cX7_riskOf 12 = .ok (.iload_n 1, 1) := by decide +kernel
theorem dX7_riskOf_13 : decode cX7_riskOf 13 = .ok (.iload_n 3, 1) := by decide +kernel
theorem dX7_riskOf_14 : decode cX7_riskOf 14 = .ok (.invokestatic 133, 3) := by decide +kernel
theorem dX7_riskOf_17 : decode cX7_riskOf 17 = .ok (.ifCond .eq 12, 3) := by decide +kernel
theorem dX7_riskOf_20 : decode cX7_riskOf 20 = .ok (.iload_n 2, 1) := by decide +kernel
theorem dX7_riskOf_21 : decode cX7_riskOf 21 = .ok (.aload_n 0, 1) := by decide +kernel
theorem dX7_riskOf_22 : decode cX7_riskOf 22 = .ok (.getfield 22, 3) := by decide +kernel
theorem dX7_riskOf_25 : decode cX7_riskOf 25 = .ok (.iload_n 3, 1) := by decide +kernel
theorem dX7_riskOf_26 : decode cX7_riskOf 26 = .ok (.iaload, 1) := by decide +kernel
theorem dX7_riskOf_27 : decode cX7_riskOf 27 = .ok (.iadd, 1) := by decide +kernel
theorem dX7_riskOf_28 : decode cX7_riskOf 28 = .ok (.istore_n 2, 1) := by decide +kernel
theorem dX7_riskOf_29 : decode cX7_riskOf 29 = .ok (.iinc 3 1, 3) := by decide +kernel
theorem dX7_riskOf_32 : decode cX7_riskOf 32 = .ok (.goto (-28), 3) := by decide +kernel
theorem dX7_riskOf_35 : decode cX7_riskOf 35 = .ok (.iload_n 2, 1) := by decide +kernel
theorem dX7_riskOf_36 : decode cX7_riskOf 36 = .ok (.ireturn, 1) := by decide +kernel
set_option maxRecDepth 20000 in
theorem ggX7_clashOf_X8_has : GoodIn wsX7_clashOf wsX8_has := goodIn_r _ [6] (by decide +kernel) (by decide +kernel)
set_option maxRecDepth 20000 in
theorem gX7_clashOf_X8_has_n133 : GoodIn wsX7_clashOf (wsX8_has) := ggX7_clashOf_X8_has
theorem dX7_clashOf_0 : decode cX7_clashOf 0 = .ok (.aload_n 0, 1) := by decide +kernel
theorem dX7_clashOf_1 : decode cX7_clashOf 1 = .ok (.getfield 15, 3) := by decide +kernel
theorem dX7_clashOf_4 : decode cX7_clashOf 4 = .ok (.iload_n 1, 1) := by decide +kernel
theorem dX7_clashOf_5 : decode cX7_clashOf 5 = .ok (.iaload, 1) := by decide +kernel
theorem dX7_clashOf_6 : decode cX7_clashOf 6 = .ok (.aload_n 0, 1) := by decide +kernel
theorem dX7_clashOf_7 : decode cX7_clashOf 7 = .ok (.getfield 19, 3) := by decide +kernel
theorem dX7_clashOf_10 : decode cX7_clashOf 10 = .ok (.iload_n 1, 1) := by decide +kernel
theorem dX7_clashOf_11 : decode cX7_clashOf 11 = .ok (.iaload, 1) := by decide +kernel
theorem dX7_clashOf_12 : decode cX7_clashOf 12 = .ok (.ior, 1) := by decide +kernel
theorem dX7_clashOf_13 : decode cX7_clashOf 13 = .ok (.istore 4, 2) := by decide +kernel
theorem dX7_clashOf_15 : decode cX7_clashOf 15 = .ok (.iconst 0, 1) := by decide +kernel
theorem dX7_clashOf_16 : decode cX7_clashOf 16 = .ok (.istore 5, 2) := by decide +kernel
theorem dX7_clashOf_18 : decode cX7_clashOf 18 = .ok (.iconst 0, 1) := by decide +kernel
theorem dX7_clashOf_19 : decode cX7_clashOf 19 = .ok (.istore 6, 2) := by decide +kernel
theorem dX7_clashOf_21 : decode cX7_clashOf 21 = .ok (.iload 6, 2) := by decide +kernel
theorem dX7_clashOf_23 : decode cX7_clashOf 23 = .ok (.bipush 16, 2) := by decide +kernel
theorem dX7_clashOf_25 : decode cX7_clashOf 25 = .ok (.if_icmp .ge 52, 3) := by decide +kernel
theorem dX7_clashOf_28 : decode cX7_clashOf 28 = .ok (.iload 4, 2) := by decide +kernel
theorem dX7_clashOf_30 : decode cX7_clashOf 30 = .ok (.iload 6, 2) := by decide +kernel
theorem dX7_clashOf_32 : decode cX7_clashOf 32 = .ok (.invokestatic 133, 3) := by decide +kernel
theorem dX7_clashOf_35 : decode cX7_clashOf 35 = .ok (.ifCond .eq 36, 3) := by decide +kernel
theorem dX7_clashOf_38 : decode cX7_clashOf 38 = .ok (.aload_n 2, 1) := by decide +kernel
theorem dX7_clashOf_39 : decode cX7_clashOf 39 = .ok (.iload_n 3, 1) := by decide +kernel
theorem dX7_clashOf_40 : decode cX7_clashOf 40 = .ok (.bipush 16, 2) := by decide +kernel
theorem dX7_clashOf_42 : decode cX7_clashOf 42 = .ok (.imul, 1) := by decide +kernel
theorem dX7_clashOf_43 : decode cX7_clashOf 43 = .ok (.iload 6, 2) := by decide +kernel
theorem dX7_clashOf_45 : decode cX7_clashOf 45 = .ok (.iadd, 1) := by decide +kernel
theorem dX7_clashOf_46 : decode cX7_clashOf 46 = .ok (.iaload, 1) := by decide +kernel
theorem dX7_clashOf_47 : decode cX7_clashOf 47 = .ok (.aload_n 0, 1) := by decide +kernel
theorem dX7_clashOf_48 : decode cX7_clashOf 48 = .ok (.getfield 28, 3) := by decide +kernel
theorem dX7_clashOf_51 : decode cX7_clashOf 51 = .ok (.iload_n 1, 1) := by decide +kernel
theorem dX7_clashOf_52 : decode cX7_clashOf 52 = .ok (.bipush 16, 2) := by decide +kernel
theorem dX7_clashOf_54 : decode cX7_clashOf 54 = .ok (.imul, 1) := by decide +kernel
theorem dX7_clashOf_55 : decode cX7_clashOf 55 = .ok (.iload 6, 2) := by decide +kernel
theorem dX7_clashOf_57 : decode cX7_clashOf 57 = .ok (.iadd, 1) := by decide +kernel
theorem dX7_clashOf_58 : decode cX7_clashOf 58 = .ok (.iaload, 1) := by decide +kernel
theorem dX7_clashOf_59 : decode cX7_clashOf 59 = .ok (.if_icmp .eq 12, 3) := by decide +kernel
theorem dX7_clashOf_62 : decode cX7_clashOf 62 = .ok (.iload 5, 2) := by decide +kernel
theorem dX7_clashOf_64 : decode cX7_clashOf 64 = .ok (.iconst 1, 1) := by decide +kernel
theorem dX7_clashOf_65 : decode cX7_clashOf 65 = .ok (.iload 6, 2) := by decide +kernel
theorem dX7_clashOf_67 : decode cX7_clashOf 67 = .ok (.ishl, 1) := by decide +kernel
theorem dX7_clashOf_68 : decode cX7_clashOf 68 = .ok (.ior, 1) := by decide +kernel
theorem dX7_clashOf_69 : decode cX7_clashOf 69 = .ok (.istore 5, 2) := by decide +kernel
theorem dX7_clashOf_71 : decode cX7_clashOf 71 = .ok (.iinc 6 1, 3) := by decide +kernel
theorem dX7_clashOf_74 : decode cX7_clashOf 74 = .ok (.goto (-53), 3) := by decide +kernel
theorem dX7_clashOf_77 : decode cX7_clashOf 77 = .ok (.iload 5, 2) := by decide +kernel
theorem dX7_clashOf_79 : decode cX7_clashOf 79 = .ok (.ireturn, 1) := by decide +kernel
set_option maxRecDepth 20000 in
theorem ggX7_putOn_X8_has : GoodIn wsX7_putOn wsX8_has := goodIn_r _ [5] (by decide +kernel) (by decide +kernel)
set_option maxRecDepth 20000 in
theorem gX7_putOn_X8_has_n133 : GoodIn wsX7_putOn (wsX8_has) := ggX7_putOn_X8_has
theorem dX7_putOn_0 : decode cX7_putOn 0 = .ok (.iconst 0, 1) := by decide +kernel
theorem dX7_putOn_1 : decode cX7_putOn 1 = .ok (.istore 4, 2) := by decide +kernel
theorem dX7_putOn_3 : decode cX7_putOn 3 = .ok (.iload 4, 2) := by decide +kernel
theorem dX7_putOn_5 : decode cX7_putOn 5 = .ok (.bipush 16, 2) := by decide +kernel
theorem dX7_putOn_7 : decode cX7_putOn 7 = .ok (.if_icmp .ge 44, 3) := by decide +kernel
theorem dX7_putOn_10 : decode cX7_putOn 10 = .ok (.aload_n 0, 1) := by decide +kernel
theorem dX7_putOn_11 : decode cX7_putOn 11 = .ok (.getfield 15, 3) := by decide +kernel
theorem dX7_putOn_14 : decode cX7_putOn 14 = .ok (.iload_n 1, 1) := by decide +kernel
theorem dX7_putOn_15 : decode cX7_putOn 15 = .ok (.iaload, 1) := by decide +kernel
theorem dX7_putOn_16 : decode cX7_putOn 16 = .ok (.iload 4, 2) := by decide +kernel
theorem dX7_putOn_18 : decode cX7_putOn 18 = .ok (.invokestatic 133, 3) := by decide +kernel
theorem dX7_putOn_21 : decode cX7_putOn 21 = .ok (.ifCond .eq 24, 3) := by decide +kernel
theorem dX7_putOn_24 : decode cX7_putOn 24 = .ok (.aload_n 2, 1) := by decide +kernel
theorem dX7_putOn_25 : decode cX7_putOn 25 = .ok (.iload_n 3, 1) := by decide +kernel
theorem dX7_putOn_26 : decode cX7_putOn 26 = .ok (.bipush 16, 2) := by decide +kernel
theorem dX7_putOn_28 : decode cX7_putOn 28 = .ok (.imul, 1) := by decide +kernel
theorem dX7_putOn_29 : decode cX7_putOn 29 = .ok (.iload 4, 2) := by decide +kernel
theorem dX7_putOn_31 : decode cX7_putOn 31 = .ok (.iadd, 1) := by decide +kernel
theorem dX7_putOn_32 : decode cX7_putOn 32 = .ok (.aload_n 0, 1) := by decide +kernel
theorem dX7_putOn_33 : decode cX7_putOn 33 = .ok (.getfield 25, 3) := by decide +kernel
theorem dX7_putOn_36 : decode cX7_putOn 36 = .ok (.iload_n 1, 1) := by decide +kernel
theorem dX7_putOn_37 : decode cX7_putOn 37 = .ok (.bipush 16, 2) := by decide +kernel
theorem dX7_putOn_39 : decode cX7_putOn 39 = .ok (.imul, 1) := by decide +kernel
theorem dX7_putOn_40 : decode cX7_putOn 40 = .ok (.iload 4, 2) := by decide +kernel
theorem dX7_putOn_42 : decode cX7_putOn 42 = .ok (.iadd, 1) := by decide +kernel
theorem dX7_putOn_43 : decode cX7_putOn 43 = .ok (.iaload, 1) := by decide +kernel
theorem dX7_putOn_44 : decode cX7_putOn 44 = .ok (.iastore, 1) := by decide +kernel
theorem dX7_putOn_45 : decode cX7_putOn 45 = .ok (.iinc 4 1, 3) := by decide +kernel
theorem dX7_putOn_48 : decode cX7_putOn 48 = .ok (.goto (-45), 3) := by decide +kernel
theorem dX7_putOn_51 : decode cX7_putOn 51 = .ok (.return_, 1) := by decide +kernel
set_option maxRecDepth 20000 in
theorem ggX7_takeOff_X8_has : GoodIn wsX7_takeOff wsX8_has := goodIn_r _ [5] (by decide +kernel) (by decide +kernel)
set_option maxRecDepth 20000 in
theorem gX7_takeOff_X8_has_n133 : GoodIn wsX7_takeOff (wsX8_has) := ggX7_takeOff_X8_has
theorem dX7_takeOff_0 : decode cX7_takeOff 0 = .ok (.iconst 0, 1) := by decide +kernel
theorem dX7_takeOff_1 : decode cX7_takeOff 1 = .ok (.istore 4, 2) := by decide +kernel
theorem dX7_takeOff_3 : decode cX7_takeOff 3 = .ok (.iload 4, 2) := by decide +kernel
theorem dX7_takeOff_5 : decode cX7_takeOff 5 = .ok (.bipush 16, 2) := by decide +kernel
theorem dX7_takeOff_7 : decode cX7_takeOff 7 = .ok (.if_icmp .ge 44, 3) := by decide +kernel
theorem dX7_takeOff_10 : decode cX7_takeOff 10 = .ok (.aload_n 0, 1) := by decide +kernel
theorem dX7_takeOff_11 : decode cX7_takeOff 11 = .ok (.getfield 15, 3) := by decide +kernel
theorem dX7_takeOff_14 : decode cX7_takeOff 14 = .ok (.iload_n 1, 1) := by decide +kernel
theorem dX7_takeOff_15 : decode cX7_takeOff 15 = .ok (.iaload, 1) := by decide +kernel
theorem dX7_takeOff_16 : decode cX7_takeOff 16 = .ok (.iload 4, 2) := by decide +kernel
theorem dX7_takeOff_18 : decode cX7_takeOff 18 = .ok (.invokestatic 133, 3) := by decide +kernel
theorem dX7_takeOff_21 : decode cX7_takeOff 21 = .ok (.ifCond .eq 24, 3) := by decide +kernel
theorem dX7_takeOff_24 : decode cX7_takeOff 24 = .ok (.aload_n 2, 1) := by decide +kernel
theorem dX7_takeOff_25 : decode cX7_takeOff 25 = .ok (.iload_n 3, 1) := by decide +kernel
theorem dX7_takeOff_26 : decode cX7_takeOff 26 = .ok (.bipush 16, 2) := by decide +kernel
theorem dX7_takeOff_28 : decode cX7_takeOff 28 = .ok (.imul, 1) := by decide +kernel
theorem dX7_takeOff_29 : decode cX7_takeOff 29 = .ok (.iload 4, 2) := by decide +kernel
theorem dX7_takeOff_31 : decode cX7_takeOff 31 = .ok (.iadd, 1) := by decide +kernel
theorem dX7_takeOff_32 : decode cX7_takeOff 32 = .ok (.aload_n 0, 1) := by decide +kernel
theorem dX7_takeOff_33 : decode cX7_takeOff 33 = .ok (.getfield 28, 3) := by decide +kernel
theorem dX7_takeOff_36 : decode cX7_takeOff 36 = .ok (.iload_n 1, 1) := by decide +kernel
theorem dX7_takeOff_37 : decode cX7_takeOff 37 = .ok (.bipush 16, 2) := by decide +kernel
theorem dX7_takeOff_39 : decode cX7_takeOff 39 = .ok (.imul, 1) := by decide +kernel
theorem dX7_takeOff_40 : decode cX7_takeOff 40 = .ok (.iload 4, 2) := by decide +kernel
theorem dX7_takeOff_42 : decode cX7_takeOff 42 = .ok (.iadd, 1) := by decide +kernel
theorem dX7_takeOff_43 : decode cX7_takeOff 43 = .ok (.iaload, 1) := by decide +kernel
theorem dX7_takeOff_44 : decode cX7_takeOff 44 = .ok (.iastore, 1) := by decide +kernel
theorem dX7_takeOff_45 : decode cX7_takeOff 45 = .ok (.iinc 4 1, 3) := by decide +kernel
theorem dX7_takeOff_48 : decode cX7_takeOff 48 = .ok (.goto (-45), 3) := by decide +kernel
theorem dX7_takeOff_51 : decode cX7_takeOff 51 = .ok (.return_, 1) := by decide +kernel
set_option maxRecDepth 20000 in
theorem ggX7_stillSet_X8_has : GoodIn wsX7_stillSet wsX8_has := goodIn_r _ [5] (by decide +kernel) (by decide +kernel)
set_option maxRecDepth 20000 in
theorem gX7_stillSet_X8_has_n133 : GoodIn wsX7_stillSet (wsX8_has) := ggX7_stillSet_X8_has
theorem dX7_stillSet_0 : decode cX7_stillSet 0 = .ok (.iconst 0, 1) := by decide +kernel
theorem dX7_stillSet_1 : decode cX7_stillSet 1 = .ok (.istore 4, 2) := by decide +kernel
theorem dX7_stillSet_3 : decode cX7_stillSet 3 = .ok (.iload 4, 2) := by decide +kernel
theorem dX7_stillSet_5 : decode cX7_stillSet 5 = .ok (.bipush 16, 2) := by decide +kernel
theorem dX7_stillSet_7 : decode cX7_stillSet 7 = .ok (.if_icmp .ge 49, 3) := by decide +kernel
theorem dX7_stillSet_10 : decode cX7_stillSet 10 = .ok (.aload_n 0, 1) := by decide +kernel
theorem dX7_stillSet_11 : decode cX7_stillSet 11 = .ok (.getfield 15, 3) := by decide +kernel
theorem dX7_stillSet_14 : decode cX7_stillSet 14 = .ok (.iload_n 1, 1) := by decide +kernel
theorem dX7_stillSet_15 : decode cX7_stillSet 15 = .ok (.iaload, 1) := by decide +kernel
theorem dX7_stillSet_16 : decode cX7_stillSet 16 = .ok (.iload 4, 2) := by decide +kernel
theorem dX7_stillSet_18 : decode cX7_stillSet 18 = .ok (.invokestatic 133, 3) := by decide +kernel
theorem dX7_stillSet_21 : decode cX7_stillSet 21 = .ok (.ifCond .eq 29, 3) := by decide +kernel
theorem dX7_stillSet_24 : decode cX7_stillSet 24 = .ok (.aload_n 2, 1) := by decide +kernel
theorem dX7_stillSet_25 : decode cX7_stillSet 25 = .ok (.iload_n 3, 1) := by decide +kernel
theorem dX7_stillSet_26 : decode cX7_stillSet 26 = .ok (.bipush 16, 2) := by decide +kernel
theorem dX7_stillSet_28 : decode cX7_stillSet 28 = .ok (.imul, 1) := by decide +kernel
theorem dX7_stillSet_29 : decode cX7_stillSet 29 = .ok (.iload 4, 2) := by decide +kernel
theorem dX7_stillSet_31 : decode cX7_stillSet 31 = .ok (.iadd, 1) := by decide +kernel
theorem dX7_stillSet_32 : decode cX7_stillSet 32 = .ok (.iaload, 1) := by decide +kernel
theorem dX7_stillSet_33 : decode cX7_stillSet 33 = .ok (.aload_n 0, 1) := by decide +kernel
theorem dX7_stillSet_34 : decode cX7_stillSet 34 = .ok (.getfield 25, 3) := by decide +kernel
theorem dX7_stillSet_37 : decode cX7_stillSet 37 = .ok (.iload_n 1, 1) := by decide +kernel
theorem dX7_stillSet_38 : decode cX7_stillSet 38 = .ok (.bipush 16, 2) := by decide +kernel
theorem dX7_stillSet_40 : decode cX7_stillSet 40 = .ok (.imul, 1) := by decide +kernel
theorem dX7_stillSet_41 : decode cX7_stillSet 41 = .ok (.iload 4, 2) := by decide +kernel
theorem dX7_stillSet_43 : decode cX7_stillSet 43 = .ok (.iadd, 1) := by decide +kernel
theorem dX7_stillSet_44 : decode cX7_stillSet 44 = .ok (.iaload, 1) := by decide +kernel
theorem dX7_stillSet_45 : decode cX7_stillSet 45 = .ok (.if_icmp .eq 5, 3) := by decide +kernel
theorem dX7_stillSet_48 : decode cX7_stillSet 48 = .ok (.iconst 0, 1) := by decide +kernel
theorem dX7_stillSet_49 : decode cX7_stillSet 49 = .ok (.ireturn, 1) := by decide +kernel
theorem dX7_stillSet_50 : decode cX7_stillSet 50 = .ok (.iinc 4 1, 3) := by decide +kernel
theorem dX7_stillSet_53 : decode cX7_stillSet 53 = .ok (.goto (-50), 3) := by decide +kernel
theorem dX7_stillSet_56 : decode cX7_stillSet 56 = .ok (.iconst 1, 1) := by decide +kernel
theorem dX7_stillSet_57 : decode cX7_stillSet 57 = .ok (.ireturn, 1) := by decide +kernel
set_option maxRecDepth 20000 in
theorem ggX7_lastSetter_X8_has : GoodIn wsX7_lastSetter wsX8_has := goodIn_r _ [4] (by decide +kernel) (by decide +kernel)
set_option maxRecDepth 20000 in
theorem gX7_lastSetter_X8_has_n133 : GoodIn wsX7_lastSetter (wsX8_has) := ggX7_lastSetter_X8_has
theorem dX7_lastSetter_0 : decode cX7_lastSetter 0 = .ok (.iload_n 1, 1) := by decide +kernel
theorem dX7_lastSetter_1 : decode cX7_lastSetter 1 = .ok (.iconst 1, 1) := by decide +kernel
theorem dX7_lastSetter_2 : decode cX7_lastSetter 2 = .ok (.isub, 1) := by decide +kernel
theorem dX7_lastSetter_3 : decode cX7_lastSetter 3 = .ok (.istore_n 3, 1) := by decide +kernel
theorem dX7_lastSetter_4 : decode cX7_lastSetter 4 = .ok (.iload_n 3, 1) := by decide +kernel
theorem dX7_lastSetter_5 : decode cX7_lastSetter 5 = .ok (.ifCond .lt 24, 3) := by decide +kernel
theorem dX7_lastSetter_8 : decode cX7_lastSetter 8 = .ok (.aload_n 0, 1) := by decide +kernel
theorem dX7_lastSetter_9 : decode cX7_lastSetter 9 = .ok (.getfield 15, 3) := by decide +kernel
theorem dX7_lastSetter_12 : decode cX7_lastSetter 12 = .ok (.iload_n 3, 1) := by decide +kernel
theorem dX7_lastSetter_13 : decode cX7_lastSetter 13 = .ok (.iaload, 1) := by decide +kernel
theorem dX7_lastSetter_14 : decode cX7_lastSetter 14 = .ok (.iload_n 2, 1) := by decide +kernel
theorem dX7_lastSetter_15 : decode cX7_lastSetter 15 = .ok (.invokestatic 133, 3) := by decide +kernel
theorem dX7_lastSetter_18 : decode cX7_lastSetter 18 = .ok (.ifCond .eq 5, 3) := by decide +kernel
theorem dX7_lastSetter_21 : decode cX7_lastSetter 21 = .ok (.iload_n 3, 1) := by decide +kernel
theorem dX7_lastSetter_22 : decode cX7_lastSetter 22 = .ok (.ireturn, 1) := by decide +kernel
theorem dX7_lastSetter_23 : decode cX7_lastSetter 23 = .ok (.iinc 3 (-1), 3) := by decide +kernel
theorem dX7_lastSetter_26 : decode cX7_lastSetter 26 = .ok (.goto (-22), 3) := by decide +kernel
theorem dX7_lastSetter_29 : decode cX7_lastSetter 29 = .ok (.iconst (-1), 1) := by decide +kernel
theorem dX7_lastSetter_30 : decode cX7_lastSetter 30 = .ok (.ireturn, 1) := by decide +kernel
set_option maxRecDepth 20000 in
theorem ggX8_init_X6_init : GoodIn wsX8_init wsX6_init := goodIn_r _ [43, 44, 2, 3, 45, 46, 47, 128, 129] (by decide +kernel) (by decide +kernel)
set_option maxRecDepth 20000 in
theorem gX8_init_X6_init_n9 : GoodIn wsX8_init (wsX6_init) := ggX8_init_X6_init
set_option maxRecDepth 20000 in
theorem ggX8_init_X3_init : GoodIn wsX8_init wsX3_init := goodIn_r _ [50, 51, 2, 3, 52, 53, 54, 55, 56, 57, 58, 59, 144, 145, 146, 147, 148, 149, 150, 151] (by decide +kernel) (by decide +kernel)
set_option maxRecDepth 20000 in
theorem gX8_init_X3_init : GoodIn wsX8_init (wsX3_init) := ggX8_init_X3_init
set_option maxRecDepth 20000 in
theorem ggX8_init_X7_init : GoodIn wsX8_init wsX7_init := goodIn_r _ [61, 62, 2, 3, 63, 45, 64, 65, 66, 67, 68, 69, 70, 71, 72, 152, 153, 154, 155, 156, 157, 158, 159, 160, 161] (by decide +kernel) (by decide +kernel)
set_option maxRecDepth 20000 in
theorem gX8_init_X7_init_n27 : GoodIn wsX8_init (wsX7_init) := ggX8_init_X7_init
set_option maxRecDepth 20000 in
theorem ggX8_init_X5_init : GoodIn wsX8_init wsX5_init := goodIn_r _ [74, 75, 2, 3, 76, 77, 45, 78, 79, 80, 81, 82, 162, 163, 164, 165, 166, 167, 168] (by decide +kernel) (by decide +kernel)
set_option maxRecDepth 20000 in
theorem gX8_init_X5_init_n37 : GoodIn wsX8_init (wsX5_init) := ggX8_init_X5_init
set_option maxRecDepth 20000 in
theorem ggX8_init_X0_init : GoodIn wsX8_init wsX0_init := goodIn_r _ [84, 85, 2, 3, 86, 45, 87, 88, 89, 90, 91, 92, 93, 94, 95, 169, 170, 171, 172, 173, 174, 175, 176, 177, 178] (by decide +kernel) (by decide +kernel)
set_option maxRecDepth 20000 in
theorem gX8_init_X0_init_n47 : GoodIn wsX8_init (wsX0_init) := ggX8_init_X0_init
set_option maxRecDepth 20000 in
theorem ggX8_init_X2_init : GoodIn wsX8_init wsX2_init := goodIn_r _ [98, 99, 2, 3, 45, 100, 101, 102, 103, 179, 180, 181, 182] (by decide +kernel) (by decide +kernel)
set_option maxRecDepth 20000 in
theorem gX8_init_X2_init : GoodIn wsX8_init (wsX2_init) := ggX8_init_X2_init
set_option maxRecDepth 20000 in
theorem ggX8_init_X1_init : GoodIn wsX8_init wsX1_init := goodIn_r _ [106, 107, 2, 3, 108, 45, 109, 110, 111, 112, 113, 114, 115, 183, 184, 185, 186, 187, 188, 189, 190] (by decide +kernel) (by decide +kernel)
set_option maxRecDepth 20000 in
theorem gX8_init_X1_init : GoodIn wsX8_init (wsX1_init) := ggX8_init_X1_init
set_option maxRecDepth 20000 in
theorem ggX8_init_X4_init : GoodIn wsX8_init wsX4_init := goodIn_r _ [118, 119, 2, 3, 45, 120, 121, 122, 123, 124, 125, 126, 127, 191, 192, 193, 194, 195, 196, 197] (by decide +kernel) (by decide +kernel)
set_option maxRecDepth 20000 in
theorem gX8_init_X4_init : GoodIn wsX8_init (wsX4_init) := ggX8_init_X4_init
theorem dX8_init_0 : decode cX8_init 0 = .ok (.aload_n 0, 1) := by decide +kernel
theorem dX8_init_1 : decode cX8_init 1 = .ok (.invokespecial 1, 3) := by decide +kernel
theorem dX8_init_4 : decode cX8_init 4 = .ok (.aload_n 0, 1) := by decide +kernel
theorem dX8_init_5 : decode cX8_init 5 = .ok (.new 7, 3) := by decide +kernel
theorem dX8_init_8 : decode cX8_init 8 = .ok (.dup, 1) := by decide +kernel
theorem dX8_init_9 : decode cX8_init 9 = .ok (.invokespecial 9, 3) := by decide +kernel
theorem dX8_init_12 : decode cX8_init 12 = .ok (.putfield 10, 3) := by decide +kernel
theorem dX8_init_15 : decode cX8_init 15 = .ok (.aload_n 0, 1) := by decide +kernel
theorem dX8_init_16 : decode cX8_init 16 = .ok (.new 16, 3) := by decide +kernel
theorem dX8_init_19 : decode cX8_init 19 = .ok (.dup, 1) := by decide +kernel
theorem dX8_init_20 : decode cX8_init 20 = .ok (.aload_n 0, 1) := by decide +kernel
theorem dX8_init_21 : decode cX8_init 21 = .ok (.getfield 10, 3) := by decide +kernel
theorem dX8_init_24 : decode cX8_init 24 = .ok (.invokespecial 18, 3) := by decide +kernel
theorem dX8_init_27 : decode cX8_init 27 = .ok (.putfield 21, 3) := by decide +kernel
theorem dX8_init_30 : decode cX8_init 30 = .ok (.aload_n 0, 1) := by decide +kernel
theorem dX8_init_31 : decode cX8_init 31 = .ok (.new 25, 3) := by decide +kernel
theorem dX8_init_34 : decode cX8_init 34 = .ok (.dup, 1) := by decide +kernel
theorem dX8_init_35 : decode cX8_init 35 = .ok (.invokespecial 27, 3) := by decide +kernel
theorem dX8_init_38 : decode cX8_init 38 = .ok (.putfield 28, 3) := by decide +kernel
theorem dX8_init_41 : decode cX8_init 41 = .ok (.aload_n 0, 1) := by decide +kernel
theorem dX8_init_42 : decode cX8_init 42 = .ok (.new 25, 3) := by decide +kernel
theorem dX8_init_45 : decode cX8_init 45 = .ok (.dup, 1) := by decide +kernel
theorem dX8_init_46 : decode cX8_init 46 = .ok (.invokespecial 27, 3) := by decide +kernel
theorem dX8_init_49 : decode cX8_init 49 = .ok (.putfield 32, 3) := by decide +kernel
theorem dX8_init_52 : decode cX8_init 52 = .ok (.aload_n 0, 1) := by decide +kernel
theorem dX8_init_53 : decode cX8_init 53 = .ok (.new 35, 3) := by decide +kernel
theorem dX8_init_56 : decode cX8_init 56 = .ok (.dup, 1) := by decide +kernel
theorem dX8_init_57 : decode cX8_init 57 = .ok (.invokespecial 37, 3) := by decide +kernel
theorem dX8_init_60 : decode cX8_init 60 = .ok (.putfield 38, 3) := by decide +kernel
theorem dX8_init_63 : decode cX8_init 63 = .ok (.aload_n 0, 1) := by decide +kernel
theorem dX8_init_64 : decode cX8_init 64 = .ok (.new 35, 3) := by decide +kernel
theorem dX8_init_67 : decode cX8_init 67 = .ok (.dup, 1) := by decide +kernel
theorem dX8_init_68 : decode cX8_init 68 = .ok (.invokespecial 37, 3) := by decide +kernel
theorem dX8_init_71 : decode cX8_init 71 = .ok (.putfield 42, 3) := by decide +kernel
theorem dX8_init_74 : decode cX8_init 74 = .ok (.aload_n 0, 1) := by decide +kernel
theorem dX8_init_75 : decode cX8_init 75 = .ok (.new 45, 3) := by decide +kernel
theorem dX8_init_78 : decode cX8_init 78 = .ok (.dup, 1) := by decide +kernel
theorem dX8_init_79 : decode cX8_init 79 = .ok (.invokespecial 47, 3) := by decide +kernel
theorem dX8_init_82 : decode cX8_init 82 = .ok (.putfield 48, 3) := by decide +kernel
theorem dX8_init_85 : decode cX8_init 85 = .ok (.aload_n 0, 1) := by decide +kernel
theorem dX8_init_86 : decode cX8_init 86 = .ok (.new 45, 3) := by decide +kernel
theorem dX8_init_89 : decode cX8_init 89 = .ok (.dup, 1) := by decide +kernel
theorem dX8_init_90 : decode cX8_init 90 = .ok (.invokespecial 47, 3) := by decide +kernel
theorem dX8_init_93 : decode cX8_init 93 = .ok (.putfield 52, 3) := by decide +kernel
theorem dX8_init_96 : decode cX8_init 96 = .ok (.aload_n 0, 1) := by decide +kernel
theorem dX8_init_97 : decode cX8_init 97 = .ok (.new 45, 3) := by decide +kernel
theorem dX8_init_100 : decode cX8_init 100 = .ok (.dup, 1) := by decide +kernel
theorem dX8_init_101 : decode cX8_init 101 = .ok (.invokespecial 47, 3) := by decide +kernel
theorem dX8_init_104 : decode cX8_init 104 = .ok (.putfield 55, 3) := by decide +kernel
theorem dX8_init_107 : decode cX8_init 107 = .ok (.aload_n 0, 1) := by decide +kernel
theorem dX8_init_108 : decode cX8_init 108 = .ok (.new 58, 3) := by decide +kernel
theorem dX8_init_111 : decode cX8_init 111 = .ok (.dup, 1) := by decide +kernel
theorem dX8_init_112 : decode cX8_init 112 = .ok (.aload_n 0, 1) := by decide +kernel
theorem dX8_init_113 : decode cX8_init 113 = .ok (.getfield 28, 3) := by decide +kernel
theorem dX8_init_116 : decode cX8_init 116 = .ok (.aload_n 0, 1) := by decide +kernel
theorem dX8_init_117 : decode cX8_init 117 = .ok (.getfield 48, 3) := by decide +kernel
theorem dX8_init_120 : decode cX8_init 120 = .ok (.invokespecial 60, 3) := by decide +kernel
theorem dX8_init_123 : decode cX8_init 123 = .ok (.putfield 63, 3) := by decide +kernel
theorem dX8_init_126 : decode cX8_init 126 = .ok (.aload_n 0, 1) := by decide +kernel
theorem dX8_init_127 : decode cX8_init 127 = .ok (.new 67, 3) := by decide +kernel
theorem dX8_init_130 : decode cX8_init 130 = .ok (.dup, 1) := by decide +kernel
theorem dX8_init_131 : decode cX8_init 131 = .ok (.aload_n 0, 1) := by decide +kernel
theorem dX8_init_132 : decode cX8_init 132 = .ok (.getfield 28, 3) := by decide +kernel
theorem dX8_init_135 : decode cX8_init 135 = .ok (.aload_n 0, 1) := by decide +kernel
theorem dX8_init_136 : decode cX8_init 136 = .ok (.getfield 63, 3) := by decide +kernel
theorem dX8_init_139 : decode cX8_init 139 = .ok (.invokespecial 69, 3) := by decide +kernel
theorem dX8_init_142 : decode cX8_init 142 = .ok (.putfield 72, 3) := by decide +kernel
theorem dX8_init_145 : decode cX8_init 145 = .ok (.aload_n 0, 1) := by decide +kernel
theorem dX8_init_146 : decode cX8_init 146 = .ok (.new 76, 3) := by decide +kernel
theorem dX8_init_149 : decode cX8_init 149 = .ok (.dup, 1) := by decide +kernel
theorem dX8_init_150 : decode cX8_init 150 = .ok (.aload_n 0, 1) := by decide +kernel
theorem dX8_init_151 : decode cX8_init 151 = .ok (.getfield 28, 3) := by decide +kernel
theorem dX8_init_154 : decode cX8_init 154 = .ok (.invokespecial 78, 3) := by decide +kernel
theorem dX8_init_157 : decode cX8_init 157 = .ok (.putfield 81, 3) := by decide +kernel
theorem dX8_init_160 : decode cX8_init 160 = .ok (.aload_n 0, 1) := by decide +kernel
theorem dX8_init_161 : decode cX8_init 161 = .ok (.iconst 0, 1) := by decide +kernel
theorem dX8_init_162 : decode cX8_init 162 = .ok (.putfield 85, 3) := by decide +kernel
theorem dX8_init_165 : decode cX8_init 165 = .ok (.aload_n 0, 1) := by decide +kernel
theorem dX8_init_166 : decode cX8_init 166 = .ok (.iconst (-1), 1) := by decide +kernel
theorem dX8_init_167 : decode cX8_init 167 = .ok (.putfield 89, 3) := by decide +kernel
theorem dX8_init_170 : decode cX8_init 170 = .ok (.return_, 1) := by decide +kernel
set_option maxRecDepth 20000 in
theorem ggX8_feed_X6_append : GoodIn wsX8_feed wsX6_append := goodIn_r _ [7, 8, 9, 24, 25] (by decide +kernel) (by decide +kernel)
set_option maxRecDepth 20000 in
theorem gX8_feed_X6_append : GoodIn wsX8_feed (wsV RX8 95 RX6 yX6_append wsX6_append) := goodIn_app (goodIn_of _ (by decide +kernel)) ggX8_feed_X6_append
theorem dX8_feed_0 : decode cX8_feed 0 = .ok (.iload_n 1, 1) := by decide +kernel
theorem dX8_feed_1 : decode cX8_feed 1 = .ok (.iconst 1, 1) := by decide +kernel
theorem dX8_feed_2 : decode cX8_feed 2 = .ok (.if_icmp .lt 9, 3) := by decide +kernel
theorem dX8_feed_5 : decode cX8_feed 5 = .ok (.iload_n 1, 1) := by decide +kernel
theorem dX8_feed_6 : decode cX8_feed 6 = .ok (.bipush 8, 2) := by decide +kernel
theorem dX8_feed_8 : decode cX8_feed 8 = .ok (.if_icmp .le 7, 3) := by decide +kernel
theorem dX8_feed_11 : decode cX8_feed 11 = .ok (.sipush (-1002), 3) := by decide +kernel
theorem dX8_feed_14 : decode cX8_feed 14 = .ok (.ireturn, 1) := by decide +kernel
theorem dX8_feed_15 : decode cX8_feed 15 = .ok (.aload_n 0, 1) := by decide +kernel
theorem dX8_feed_16 : decode cX8_feed 16 = .ok (.getfield 10, 3) := by decide +kernel
theorem dX8_feed_19 : decode cX8_feed 19 = .ok (.getfield 92, 3) := by decide +kernel
theorem dX8_feed_22 : decode cX8_feed 22 = .ok (.iload_n 1, 1) := by decide +kernel
theorem dX8_feed_23 : decode cX8_feed 23 = .ok (.iadd, 1) := by decide +kernel
theorem dX8_feed_24 : decode cX8_feed 24 = .ok (.sipush 500, 3) := by decide +kernel
theorem dX8_feed_27 : decode cX8_feed 27 = .ok (.if_icmp .le 7, 3) := by decide +kernel
theorem dX8_feed_30 : decode cX8_feed 30 = .ok (.sipush (-1004), 3) := by decide +kernel
theorem dX8_feed_33 : decode cX8_feed 33 = .ok (.ireturn, 1) := by decide +kernel
theorem dX8_feed_34 : decode cX8_feed 34 = .ok (.aload_n 0, 1) := by decide +kernel
theorem dX8_feed_35 : decode cX8_feed 35 = .ok (.getfield 10, 3) := by decide +kernel
theorem dX8_feed_38 : decode cX8_feed 38 = .ok (.iload_n 1, 1) := by decide +kernel
theorem dX8_feed_39 : decode cX8_feed 39 = .ok (.lload_n 2, 1) := by decide +kernel
theorem dX8_feed_40 : decode cX8_feed 40 = .ok (.invokevirtual 95, 3) := by decide +kernel
theorem dX8_feed_43 : decode cX8_feed 43 = .ok (.aload_n 0, 1) := by decide +kernel
theorem dX8_feed_44 : decode cX8_feed 44 = .ok (.getfield 10, 3) := by decide +kernel
theorem dX8_feed_47 : decode cX8_feed 47 = .ok (.getfield 92, 3) := by decide +kernel
theorem dX8_feed_50 : decode cX8_feed 50 = .ok (.ireturn, 1) := by decide +kernel
set_option maxRecDepth 20000 in
theorem ggX8_trunk_X3_begin : GoodIn wsX8_trunk wsX3_begin := goodIn_r _ [18, 19, 20, 21, 22, 23, 24, 25, 17, 26, 27, 28, 29, 30, 31, 32, 33, 34, 204, 205, 206, 207, 208, 209, 210, 211, 202, 203] (by decide +kernel) (by decide +kernel)
set_option maxRecDepth 20000 in
theorem gX8_trunk_X3_begin : GoodIn wsX8_trunk (wsV RX8 99 RX3 yX3_begin wsX3_begin) := goodIn_app (goodIn_of _ (by decide +kernel)) ggX8_trunk_X3_begin
set_option maxRecDepth 20000 in
theorem ggX8_trunk_X7_readFrom : GoodIn wsX8_trunk wsX7_readFrom := goodIn_r _ [39, 40, 41, 42, 43, 44, 17, 45, 31, 46, 47, 48, 49, 20, 30, 27, 29, 50, 51, 52, 53, 54, 55, 56, 57, 58, 59, 60, 61, 62, 63, 64, 65, 66, 67, 68, 69, 70, 71, 72, 73, 74, 75, 76, 77, 78, 79, 80, 81, 82, 83, 84, 85, 86, 87, 88, 89, 90, 91, 92, 93, 94, 95, 96, 97, 98, 99, 100, 101, 38, 102, 103, 104, 105, 106, 107, 21, 22, 108, 24, 25, 26, 28, 32, 33, 34, 109, 110, 111, 112, 113, 114, 115, 116, 117, 118, 119, 120, 23, 121, 122, 123, 124, 125, 126, 127, 128, 129, 130, 131, 132, 133, 19, 134, 135, 136, 137, 138, 139, 140, 141, 142, 143, 144, 145, 146, 147, 148, 149, 150, 151, 152, 153, 154, 155, 156, 157, 158, 159, 160, 161, 162, 163, 164, 165, 166, 167, 168, 169, 170, 171, 172, 173, 174, 175, 176, 177, 178, 179, 180, 181, 182, 183, 222, 223, 224, 225, 226, 227, 228, 229, 230, 231, 204, 205, 206, 207, 208, 209, 210, 211, 202, 203] (by decide +kernel) (by decide +kernel)
set_option maxRecDepth 20000 in
theorem gX8_trunk_X7_readFrom : GoodIn wsX8_trunk (wsV RX8 103 RX7 yX7_readFrom wsX7_readFrom) := goodIn_app (goodIn_of _ (by decide +kernel)) ggX8_trunk_X7_readFrom
set_option maxRecDepth 20000 in
theorem ggX8_trunk_X7_become : GoodIn wsX8_trunk wsX7_become := goodIn_r _ [187, 40, 41, 113, 164, 165, 166, 167, 114, 103, 115, 163, 176, 177, 178, 222, 223, 224, 225, 226, 227, 228, 229, 230, 231] (by decide +kernel) (by decide +kernel)
set_option maxRecDepth 20000 in
theorem gX8_trunk_X7_become : GoodIn wsX8_trunk (wsV RX8 113 RX7 yX7_become wsX7_become) := goodIn_app (goodIn_of _ (by decide +kernel)) ggX8_trunk_X7_become
theorem dX8_trunk_0 : decode cX8_trunk 0 = .ok (.aload_n 0, 1) := by decide +kernel
theorem dX8_trunk_1 : decode cX8_trunk 1 = .ok (.getfield 21, 3) := by decide +kernel
theorem dX8_trunk_4 : decode cX8_trunk 4 = .ok (.iconst 2, 1) := by decide +kernel
theorem dX8_trunk_5 : decode cX8_trunk 5 = .ok (.invokevirtual 99, 3) := by decide +kernel
theorem dX8_trunk_8 : decode cX8_trunk 8 = .ok (.aload_n 0, 1) := by decide +kernel
theorem dX8_trunk_9 : decode cX8_trunk 9 = .ok (.getfield 32, 3) := by decide +kernel
theorem dX8_trunk_12 : decode cX8_trunk 12 = .ok (.aload_n 0, 1) := by decide +kernel
theorem dX8_trunk_13 : decode cX8_trunk 13 = .ok (.getfield 21, 3) := by decide +kernel
theorem dX8_trunk_16 : decode cX8_trunk 16 = .ok (.invokevirtual 103, 3) := by decide +kernel
theorem dX8_trunk_19 : decode cX8_trunk 19 = .ok (.istore_n 1, 1) := by decide +kernel
theorem dX8_trunk_20 : decode cX8_trunk 20 = .ok (.aload_n 0, 1) := by decide +kernel
theorem dX8_trunk_21 : decode cX8_trunk 21 = .ok (.getfield 10, 3) := by decide +kernel
theorem dX8_trunk_24 : decode cX8_trunk 24 = .ok (.iconst 0, 1) := by decide +kernel
theorem dX8_trunk_25 : decode cX8_trunk 25 = .ok (.putfield 92, 3) := by decide +kernel
theorem dX8_trunk_28 : decode cX8_trunk 28 = .ok (.aload_n 0, 1) := by decide +kernel
theorem dX8_trunk_29 : decode cX8_trunk 29 = .ok (.aload_n 0, 1) := by decide +kernel
theorem dX8_trunk_30 : decode cX8_trunk 30 = .ok (.getfield 21, 3) := by decide +kernel
theorem dX8_trunk_33 : decode cX8_trunk 33 = .ok (.getfield 107, 3) := by decide +kernel
theorem dX8_trunk_36 : decode cX8_trunk 36 = .ok (.putfield 89, 3) := by decide +kernel
theorem dX8_trunk_39 : decode cX8_trunk 39 = .ok (.iload_n 1, 1) := by decide +kernel
theorem dX8_trunk_40 : decode cX8_trunk 40 = .ok (.ifCond .ne 14, 3) := by decide +kernel
theorem dX8_trunk_43 : decode cX8_trunk 43 = .ok (.bipush (-10), 2) := by decide +kernel
theorem dX8_trunk_45 : decode cX8_trunk 45 = .ok (.aload_n 0, 1) := by decide +kernel
theorem dX8_trunk_46 : decode cX8_trunk 46 = .ok (.getfield 21, 3) := by decide +kernel
theorem dX8_trunk_49 : decode cX8_trunk 49 = .ok (.getfield 110, 3) := by decide +kernel
theorem dX8_trunk_52 : decode cX8_trunk 52 = .ok (.isub, 1) := by decide +kernel
theorem dX8_trunk_53 : decode cX8_trunk 53 = .ok (.ireturn, 1) := by decide +kernel
theorem dX8_trunk_54 : decode cX8_trunk 54 = .ok (.aload_n 0, 1) := by decide +kernel
theorem dX8_trunk_55 : decode cX8_trunk 55 = .ok (.getfield 28, 3) := by decide +kernel
theorem dX8_trunk_58 : decode cX8_trunk 58 = .ok (.aload_n 0, 1) := by decide +kernel
theorem dX8_trunk_59 : decode cX8_trunk 59 = .ok (.getfield 32, 3) := by decide +kernel
theorem dX8_trunk_62 : decode cX8_trunk 62 = .ok (.invokevirtual 113, 3) := by decide +kernel
theorem dX8_trunk_65 : decode cX8_trunk 65 = .ok (.aload_n 0, 1) := by decide +kernel
theorem dX8_trunk_66 : decode cX8_trunk 66 = .ok (.getfield 48, 3) := by decide +kernel
theorem dX8_trunk_69 : decode cX8_trunk 69 = .ok (.iconst 0, 1) := by decide +kernel
theorem dX8_trunk_70 : decode cX8_trunk 70 = .ok (.putfield 116, 3) := by decide +kernel
theorem dX8_trunk_73 : decode cX8_trunk 73 = .ok (.aload_n 0, 1) := by decide +kernel
theorem dX8_trunk_74 : decode cX8_trunk 74 = .ok (.getfield 48, 3) := by decide +kernel
theorem dX8_trunk_77 : decode cX8_trunk 77 = .ok (.iconst 0, 1) := by decide +kernel
theorem dX8_trunk_78 : decode cX8_trunk 78 = .ok (.putfield 119, 3) := by decide +kernel
theorem dX8_trunk_81 : decode cX8_trunk 81 = .ok (.aload_n 0, 1) := by decide +kernel
theorem dX8_trunk_82 : decode cX8_trunk 82 = .ok (.iconst 0, 1) := by decide +kernel
theorem dX8_trunk_83 : decode cX8_trunk 83 = .ok (.putfield 85, 3) := by decide +kernel
theorem dX8_trunk_86 : decode cX8_trunk 86 = .ok (.aload_n 0, 1) := by decide +kernel
theorem dX8_trunk_87 : decode cX8_trunk 87 = .ok (.getfield 28, 3) := by decide +kernel
theorem dX8_trunk_90 : decode cX8_trunk 90 = .ok (.getfield 122, 3) := by decide +kernel
theorem dX8_trunk_93 : decode cX8_trunk 93 = .ok (.ireturn, 1) := by decide +kernel
set_option maxRecDepth 20000 in
theorem ggX8_policy_X3_begin : GoodIn wsX8_policy wsX3_begin := goodIn_r _ [14, 15, 16, 17, 18, 19, 20, 21, 13, 22, 23, 24, 25, 26, 27, 28, 29, 30, 179, 180, 181, 182, 183, 184, 185, 186, 177, 178] (by decide +kernel) (by decide +kernel)
set_option maxRecDepth 20000 in
theorem gX8_policy_X3_begin : GoodIn wsX8_policy (wsV RX8 99 RX3 yX3_begin wsX3_begin) := goodIn_app (goodIn_of _ (by decide +kernel)) ggX8_policy_X3_begin
set_option maxRecDepth 20000 in
theorem ggX8_policy_X5_readFrom : GoodIn wsX8_policy wsX5_readFrom := goodIn_r _ [35, 36, 37, 38, 39, 40, 41, 42, 43, 13, 44, 27, 45, 46, 47, 34, 48, 49, 50, 51, 52, 16, 26, 23, 25, 53, 54, 55, 56, 57, 58, 59, 60, 61, 62, 63, 64, 65, 66, 67, 68, 69, 70, 71, 72, 73, 74, 75, 76, 77, 78, 79, 80, 81, 82, 83, 84, 85, 86, 87, 88, 89, 90, 91, 92, 93, 94, 95, 96, 97, 98, 99, 100, 101, 102, 103, 104, 105, 106, 107, 108, 20, 21, 22, 24, 28, 29, 30, 109, 110, 111, 112, 113, 114, 115, 116, 117, 15, 118, 119, 120, 121, 17, 18, 19, 122, 123, 124, 125, 126, 127, 128, 129, 130, 131, 132, 133, 134, 135, 136, 137, 138, 139, 140, 141, 142, 143, 144, 145, 146, 147, 148, 149, 150, 151, 152, 153, 154, 187, 188, 189, 190, 191, 192, 193, 179, 180, 181, 182, 183, 184, 185, 186, 177, 178] (by decide +kernel) (by decide +kernel)
set_option maxRecDepth 20000 in
theorem gX8_policy_X5_readFrom : GoodIn wsX8_policy (wsV RX8 125 RX5 yX5_readFrom wsX5_readFrom) := goodIn_app (goodIn_of _ (by decide +kernel)) ggX8_policy_X5_readFrom
set_option maxRecDepth 20000 in
theorem ggX8_policy_X5_become : GoodIn wsX8_policy wsX5_become := goodIn_r _ [158, 36, 37, 106, 159, 160, 161, 162, 107, 38, 39, 40, 187, 188, 189, 190, 191, 192, 193] (by decide +kernel) (by decide +kernel)
set_option maxRecDepth 20000 in
theorem gX8_policy_X5_become : GoodIn wsX8_policy (wsV RX8 126 RX5 yX5_become wsX5_become) := goodIn_app (goodIn_of _ (by decide +kernel)) ggX8_policy_X5_become
theorem dX8_policy_0 : decode cX8_policy 0 = .ok (.aload_n 0, 1) := by decide +kernel
theorem dX8_policy_1 : decode cX8_policy 1 = .ok (.getfield 10, 3) := by decide +kernel
theorem dX8_policy_4 : decode cX8_policy 4 = .ok (.getfield 92, 3) := by decide +kernel
theorem dX8_policy_7 : decode cX8_policy 7 = .ok (.bipush 120, 2) := by decide +kernel
theorem dX8_policy_9 : decode cX8_policy 9 = .ok (.if_icmp .le 7, 3) := by decide +kernel
theorem dX8_policy_12 : decode cX8_policy 12 = .ok (.sipush (-1003), 3) := by decide +kernel
theorem dX8_policy_15 : decode cX8_policy 15 = .ok (.ireturn, 1) := by decide +kernel
theorem dX8_policy_16 : decode cX8_policy 16 = .ok (.aload_n 0, 1) := by decide +kernel
theorem dX8_policy_17 : decode cX8_policy 17 = .ok (.getfield 21, 3) := by decide +kernel
theorem dX8_policy_20 : decode cX8_policy 20 = .ok (.iconst 3, 1) := by decide +kernel
theorem dX8_policy_21 : decode cX8_policy 21 = .ok (.invokevirtual 99, 3) := by decide +kernel
theorem dX8_policy_24 : decode cX8_policy 24 = .ok (.aload_n 0, 1) := by decide +kernel
theorem dX8_policy_25 : decode cX8_policy 25 = .ok (.getfield 42, 3) := by decide +kernel
theorem dX8_policy_28 : decode cX8_policy 28 = .ok (.aload_n 0, 1) := by decide +kernel
theorem dX8_policy_29 : decode cX8_policy 29 = .ok (.getfield 21, 3) := by decide +kernel
theorem dX8_policy_32 : decode cX8_policy 32 = .ok (.invokevirtual 125, 3) := by decide +kernel
theorem dX8_policy_35 : decode cX8_policy 35 = .ok (.istore_n 1, 1) := by decide +kernel
theorem dX8_policy_36 : decode cX8_policy 36 = .ok (.aload_n 0, 1) := by decide +kernel
theorem dX8_policy_37 : decode cX8_policy 37 = .ok (.getfield 10, 3) := by decide +kernel
theorem dX8_policy_40 : decode cX8_policy 40 = .ok (.iconst 0, 1) := by decide +kernel
theorem dX8_policy_41 : decode cX8_policy 41 = .ok (.putfield 92, 3) := by decide +kernel
theorem dX8_policy_44 : decode cX8_policy 44 = .ok (.aload_n 0, 1) := by decide +kernel
theorem dX8_policy_45 : decode cX8_policy 45 = .ok (.aload_n 0, 1) := by decide +kernel
theorem dX8_policy_46 : decode cX8_policy 46 = .ok (.getfield 21, 3) := by decide +kernel
theorem dX8_policy_49 : decode cX8_policy 49 = .ok (.getfield 107, 3) := by decide +kernel
theorem dX8_policy_52 : decode cX8_policy 52 = .ok (.putfield 89, 3) := by decide +kernel
theorem dX8_policy_55 : decode cX8_policy 55 = .ok (.iload_n 1, 1) := by decide +kernel
theorem dX8_policy_56 : decode cX8_policy 56 = .ok (.ifCond .ne 14, 3) := by decide +kernel
theorem dX8_policy_59 : decode cX8_policy 59 = .ok (.bipush (-10), 2) := by decide +kernel
theorem dX8_policy_61 : decode cX8_policy 61 = .ok (.aload_n 0, 1) := by decide +kernel
theorem dX8_policy_62 : decode cX8_policy 62 = .ok (.getfield 21, 3) := by decide +kernel
theorem dX8_policy_65 : decode cX8_policy 65 = .ok (.getfield 110, 3) := by decide +kernel
theorem dX8_policy_68 : decode cX8_policy 68 = .ok (.isub, 1) := by decide +kernel
theorem dX8_policy_69 : decode cX8_policy 69 = .ok (.ireturn, 1) := by decide +kernel
theorem dX8_policy_70 : decode cX8_policy 70 = .ok (.aload_n 0, 1) := by decide +kernel
theorem dX8_policy_71 : decode cX8_policy 71 = .ok (.getfield 38, 3) := by decide +kernel
theorem dX8_policy_74 : decode cX8_policy 74 = .ok (.aload_n 0, 1) := by decide +kernel
theorem dX8_policy_75 : decode cX8_policy 75 = .ok (.getfield 42, 3) := by decide +kernel
theorem dX8_policy_78 : decode cX8_policy 78 = .ok (.invokevirtual 126, 3) := by decide +kernel
theorem dX8_policy_81 : decode cX8_policy 81 = .ok (.aload_n 0, 1) := by decide +kernel
theorem dX8_policy_82 : decode cX8_policy 82 = .ok (.getfield 38, 3) := by decide +kernel
theorem dX8_policy_85 : decode cX8_policy 85 = .ok (.getfield 129, 3) := by decide +kernel
theorem dX8_policy_88 : decode cX8_policy 88 = .ok (.ireturn, 1) := by decide +kernel
theorem dX8_breach_0 : decode cX8_breach 0 = .ok (.aload_n 0, 1) := by decide +kernel
theorem dX8_breach_1 : decode cX8_breach 1 = .ok (.getfield 89, 3) := by decide +kernel
theorem dX8_breach_4 : decode cX8_breach 4 = .ok (.ireturn, 1) := by decide +kernel
set_option maxRecDepth 20000 in
theorem ggX8_change_X7_hasChange : GoodIn wsX8_change wsX7_hasChange := goodIn_r _ [9, 10, 43, 44, 45, 46, 47, 48, 49, 50, 51, 52] (by decide +kernel) (by decide +kernel)
set_option maxRecDepth 20000 in
theorem gX8_change_X7_hasChange : GoodIn wsX8_change (wsV RX8 132 RX7 yX7_hasChange wsX7_hasChange) := goodIn_app (goodIn_of _ (by decide +kernel)) ggX8_change_X7_hasChange
set_option maxRecDepth 20000 in
theorem ggX8_change_X7_comingWith : GoodIn wsX8_change wsX7_comingWith := goodIn_r _ [14, 15, 16, 43, 44, 45, 46, 47, 48, 49, 50, 51, 52] (by decide +kernel) (by decide +kernel)
set_option maxRecDepth 20000 in
theorem gX8_change_X7_comingWith : GoodIn wsX8_change (wsV RX8 146 RX7 yX7_comingWith wsX7_comingWith) := goodIn_app (goodIn_of _ (by decide +kernel)) ggX8_change_X7_comingWith
set_option maxRecDepth 20000 in
theorem ggX8_change_X7_goingWith : GoodIn wsX8_change wsX7_goingWith := goodIn_r _ [20, 21, 22, 23, 8, 24, 15, 25, 26, 27, 28, 43, 44, 45, 46, 47, 48, 49, 50, 51, 52] (by decide +kernel) (by decide +kernel)
set_option maxRecDepth 20000 in
theorem gX8_change_X7_goingWith : GoodIn wsX8_change (wsV RX8 150 RX7 yX7_goingWith wsX7_goingWith) := goodIn_app (goodIn_of _ (by decide +kernel)) ggX8_change_X7_goingWith
theorem dX8_change_0 : decode cX8_change 0 = .ok (.aload_n 0, 1) := by decide +kernel
theorem dX8_change_1 : decode cX8_change 1 = .ok (.getfield 28, 3) := by decide +kernel
theorem dX8_change_4 : decode cX8_change 4 = .ok (.iload_n 1, 1) := by decide +kernel
theorem dX8_change_5 : decode cX8_change 5 = .ok (.invokevirtual 132, 3) := by decide +kernel
theorem dX8_change_8 : decode cX8_change 8 = .ok (.ifCond .ne 7, 3) := by decide +kernel
theorem dX8_change_11 : decode cX8_change 11 = .ok (.sipush (-1001), 3) := by decide +kernel
theorem dX8_change_14 : decode cX8_change 14 = .ok (.ireturn, 1) := by decide +kernel
theorem dX8_change_15 : decode cX8_change 15 = .ok (.iload_n 2, 1) := by decide +kernel
theorem dX8_change_16 : decode cX8_change 16 = .ok (.tableswitch 84 0 4 #[36, 46, 56, 66, 75], 36) := by decide +kernel
theorem dX8_change_52 : decode cX8_change 52 = .ok (.aload_n 0, 1) := by decide +kernel
theorem dX8_change_53 : decode cX8_change 53 = .ok (.getfield 28, 3) := by decide +kernel
theorem dX8_change_56 : decode cX8_change 56 = .ok (.getfield 136, 3) := by decide +kernel
theorem dX8_change_59 : decode cX8_change 59 = .ok (.iload_n 1, 1) := by decide +kernel
theorem dX8_change_60 : decode cX8_change 60 = .ok (.iaload, 1) := by decide +kernel
theorem dX8_change_61 : decode cX8_change 61 = .ok (.ireturn, 1) := by decide +kernel
theorem dX8_change_62 : decode cX8_change 62 = .ok (.aload_n 0, 1) := by decide +kernel
theorem dX8_change_63 : decode cX8_change 63 = .ok (.getfield 28, 3) := by decide +kernel
theorem dX8_change_66 : decode cX8_change 66 = .ok (.getfield 140, 3) := by decide +kernel
theorem dX8_change_69 : decode cX8_change 69 = .ok (.iload_n 1, 1) := by decide +kernel
theorem dX8_change_70 : decode cX8_change 70 = .ok (.iaload, 1) := by decide +kernel
theorem dX8_change_71 : decode cX8_change 71 = .ok (.ireturn, 1) := by decide +kernel
theorem dX8_change_72 : decode cX8_change 72 = .ok (.aload_n 0, 1) := by decide +kernel
theorem dX8_change_73 : decode cX8_change 73 = .ok (.getfield 28, 3) := by decide +kernel
theorem dX8_change_76 : decode cX8_change 76 = .ok (.getfield 143, 3) := by decide +kernel
theorem dX8_change_79 : decode cX8_change 79 = .ok (.iload_n 1, 1) := by decide +kernel
theorem dX8_change_80 : decode cX8_change 80 = .ok (.iaload, 1) := by decide +kernel
theorem dX8_change_81 : decode cX8_change 81 = .ok (.ireturn, 1) := by decide +kernel
theorem dX8_change_82 : decode cX8_change 82 = .ok (.aload_n 0, 1) := by decide +kernel
theorem dX8_change_83 : decode cX8_change 83 = .ok (.getfield 28, 3) := by decide +kernel
theorem dX8_change_86 : decode cX8_change 86 = .ok (.iload_n 1, 1) := by decide +kernel
theorem dX8_change_87 : decode cX8_change 87 = .ok (.invokevirtual 146, 3) := by decide +kernel
theorem dX8_change_90 : decode cX8_change 90 = .ok (.ireturn, 1) := by decide +kernel
theorem dX8_change_91 : decode cX8_change 91 = .ok (.aload_n 0, 1) := by decide +kernel
theorem dX8_change_92 : decode cX8_change 92 = .ok (.getfield 28, 3) := by decide +kernel
theorem dX8_change_95 : decode cX8_change 95 = .ok (.iload_n 1, 1) := by decide +kernel
theorem dX8_change_96 : decode cX8_change 96 = .ok (.invokevirtual 150, 3) := by decide +kernel
theorem dX8_change_99 : decode cX8_change 99 = .ok (.ireturn, 1) := by decide +kernel
theorem dX8_change_100 : decode cX8_change 100 = .ok (.sipush (-1002), 3) := by decide +kernel
theorem dX8_change_103 : decode cX8_change 103 = .ok (.ireturn, 1) := by decide +kernel
set_option maxRecDepth 20000 in
theorem ggX8_sets_X7_hasChange : GoodIn wsX8_sets wsX7_hasChange := goodIn_r _ [7, 8, 27, 28, 29, 30, 31, 32, 33, 34, 35, 36] (by decide +kernel) (by decide +kernel)
set_option maxRecDepth 20000 in
theorem gX8_sets_X7_hasChange : GoodIn wsX8_sets (wsV RX8 132 RX7 yX7_hasChange wsX7_hasChange) := goodIn_app (goodIn_of _ (by decide +kernel)) ggX8_sets_X7_hasChange
set_option maxRecDepth 20000 in
theorem ggX8_sets_X8_isSlot : GoodIn wsX8_sets wsX8_isSlot := goodIn_r _ [12] (by decide +kernel) (by decide +kernel)
set_option maxRecDepth 20000 in
theorem gX8_sets_X8_isSlot : GoodIn wsX8_sets (va_wsS RX8 153 yX8_isSlot wsX8_isSlot) := goodIn_app (goodIn_of _ (by decide +kernel)) ggX8_sets_X8_isSlot
theorem dX8_sets_0 : decode cX8_sets 0 = .ok (.aload_n 0, 1) := by decide +kernel
theorem dX8_sets_1 : decode cX8_sets 1 = .ok (.getfield 28, 3) := by decide +kernel
theorem dX8_sets_4 : decode cX8_sets 4 = .ok (.iload_n 1, 1) := by decide +kernel
theorem dX8_sets_5 : decode cX8_sets 5 = .ok (.invokevirtual 132, 3) := by decide +kernel
theorem dX8_sets_8 : decode cX8_sets 8 = .ok (.ifCond .eq 10, 3) := by decide +kernel
theorem dX8_sets_11 : decode cX8_sets 11 = .ok (.iload_n 2, 1) := by decide +kernel
theorem dX8_sets_12 : decode cX8_sets 12 = .ok (.invokestatic 153, 3) := by decide +kernel
theorem dX8_sets_15 : decode cX8_sets 15 = .ok (.ifCond .ne 7, 3) := by decide +kernel
theorem dX8_sets_18 : decode cX8_sets 18 = .ok (.sipush (-1001), 3) := by decide +kernel
theorem dX8_sets_21 : decode cX8_sets 21 = .ok (.ireturn, 1) := by decide +kernel
theorem dX8_sets_22 : decode cX8_sets 22 = .ok (.aload_n 0, 1) := by decide +kernel
theorem dX8_sets_23 : decode cX8_sets 23 = .ok (.getfield 28, 3) := by decide +kernel
theorem dX8_sets_26 : decode cX8_sets 26 = .ok (.getfield 156, 3) := by decide +kernel
theorem dX8_sets_29 : decode cX8_sets 29 = .ok (.iload_n 1, 1) := by decide +kernel
theorem dX8_sets_30 : decode cX8_sets 30 = .ok (.bipush 16, 2) := by decide +kernel
theorem dX8_sets_32 : decode cX8_sets 32 = .ok (.imul, 1) := by decide +kernel
theorem dX8_sets_33 : decode cX8_sets 33 = .ok (.iload_n 2, 1) := by decide +kernel
theorem dX8_sets_34 : decode cX8_sets 34 = .ok (.iadd, 1) := by decide +kernel
theorem dX8_sets_35 : decode cX8_sets 35 = .ok (.iaload, 1) := by decide +kernel
theorem dX8_sets_36 : decode cX8_sets 36 = .ok (.ireturn, 1) := by decide +kernel
set_option maxRecDepth 20000 in
theorem ggX8_ahead_X8_isSlot : GoodIn wsX8_ahead wsX8_isSlot := goodIn_r _ [7] (by decide +kernel) (by decide +kernel)
set_option maxRecDepth 20000 in
theorem gX8_ahead_X8_isSlot : GoodIn wsX8_ahead (va_wsS RX8 153 yX8_isSlot wsX8_isSlot) := goodIn_app (goodIn_of _ (by decide +kernel)) ggX8_ahead_X8_isSlot
theorem dX8_ahead_0 : decode cX8_ahead 0 = .ok (.iload_n 1, 1) := by decide +kernel
theorem dX8_ahead_1 : decode cX8_ahead 1 = .ok (.ifCond .lt 21, 3) := by decide +kernel
theorem dX8_ahead_4 : decode cX8_ahead 4 = .ok (.iload_n 1, 1) := by decide +kernel
theorem dX8_ahead_5 : decode cX8_ahead 5 = .ok (.aload_n 0, 1) := by decide +kernel
theorem dX8_ahead_6 : decode cX8_ahead 6 = .ok (.getfield 28, 3) := by decide +kernel
theorem dX8_ahead_9 : decode cX8_ahead 9 = .ok (.getfield 122, 3) := by decide +kernel
theorem dX8_ahead_12 : decode cX8_ahead 12 = .ok (.if_icmp .gt 10, 3) := by decide +kernel
theorem dX8_ahead_15 : decode cX8_ahead 15 = .ok (.iload_n 2, 1) := by decide +kernel
theorem dX8_ahead_16 : decode cX8_ahead 16 = .ok (.invokestatic 153, 3) := by decide +kernel
theorem dX8_ahead_19 : decode cX8_ahead 19 = .ok (.ifCond .ne 7, 3) := by decide +kernel
theorem dX8_ahead_22 : decode cX8_ahead 22 = .ok (.sipush (-1001), 3) := by decide +kernel
theorem dX8_ahead_25 : decode cX8_ahead 25 = .ok (.ireturn, 1) := by decide +kernel
theorem dX8_ahead_26 : decode cX8_ahead 26 = .ok (.aload_n 0, 1) := by decide +kernel
theorem dX8_ahead_27 : decode cX8_ahead 27 = .ok (.getfield 28, 3) := by decide +kernel
theorem dX8_ahead_30 : decode cX8_ahead 30 = .ok (.getfield 159, 3) := by decide +kernel
theorem dX8_ahead_33 : decode cX8_ahead 33 = .ok (.iload_n 1, 1) := by decide +kernel
theorem dX8_ahead_34 : decode cX8_ahead 34 = .ok (.bipush 16, 2) := by decide +kernel
theorem dX8_ahead_36 : decode cX8_ahead 36 = .ok (.imul, 1) := by decide +kernel
theorem dX8_ahead_37 : decode cX8_ahead 37 = .ok (.iload_n 2, 1) := by decide +kernel
theorem dX8_ahead_38 : decode cX8_ahead 38 = .ok (.iadd, 1) := by decide +kernel
theorem dX8_ahead_39 : decode cX8_ahead 39 = .ok (.iaload, 1) := by decide +kernel
theorem dX8_ahead_40 : decode cX8_ahead 40 = .ok (.ireturn, 1) := by decide +kernel
set_option maxRecDepth 20000 in
theorem ggX8_fault_X7_hasFault : GoodIn wsX8_fault wsX7_hasFault := goodIn_r _ [9, 10, 25, 26, 27, 28, 29, 30, 31, 32, 33, 34] (by decide +kernel) (by decide +kernel)
set_option maxRecDepth 20000 in
theorem gX8_fault_X7_hasFault : GoodIn wsX8_fault (wsV RX8 162 RX7 yX7_hasFault wsX7_hasFault) := goodIn_app (goodIn_of _ (by decide +kernel)) ggX8_fault_X7_hasFault
theorem dX8_fault_0 : decode cX8_fault 0 = .ok (.aload_n 0, 1) := by decide +kernel
theorem dX8_fault_1 : decode cX8_fault 1 = .ok (.getfield 28, 3) := by decide +kernel
theorem dX8_fault_4 : decode cX8_fault 4 = .ok (.iload_n 1, 1) := by decide +kernel
theorem dX8_fault_5 : decode cX8_fault 5 = .ok (.invokevirtual 162, 3) := by decide +kernel
theorem dX8_fault_8 : decode cX8_fault 8 = .ok (.ifCond .ne 7, 3) := by decide +kernel
theorem dX8_fault_11 : decode cX8_fault 11 = .ok (.sipush (-1001), 3) := by decide +kernel
theorem dX8_fault_14 : decode cX8_fault 14 = .ok (.ireturn, 1) := by decide +kernel
theorem dX8_fault_15 : decode cX8_fault 15 = .ok (.iload_n 2, 1) := by decide +kernel
theorem dX8_fault_16 : decode cX8_fault 16 = .ok (.tableswitch 58 0 2 #[28, 38, 48], 28) := by decide +kernel
theorem dX8_fault_44 : decode cX8_fault 44 = .ok (.aload_n 0, 1) := by decide +kernel
theorem dX8_fault_45 : decode cX8_fault 45 = .ok (.getfield 28, 3) := by decide +kernel
theorem dX8_fault_48 : decode cX8_fault 48 = .ok (.getfield 165, 3) := by decide +kernel
theorem dX8_fault_51 : decode cX8_fault 51 = .ok (.iload_n 1, 1) := by decide +kernel
theorem dX8_fault_52 : decode cX8_fault 52 = .ok (.iaload, 1) := by decide +kernel
theorem dX8_fault_53 : decode cX8_fault 53 = .ok (.ireturn, 1) := by decide +kernel
theorem dX8_fault_54 : decode cX8_fault 54 = .ok (.aload_n 0, 1) := by decide +kernel
theorem dX8_fault_55 : decode cX8_fault 55 = .ok (.getfield 28, 3) := by decide +kernel
theorem dX8_fault_58 : decode cX8_fault 58 = .ok (.getfield 168, 3) := by decide +kernel
theorem dX8_fault_61 : decode cX8_fault 61 = .ok (.iload_n 1, 1) := by decide +kernel
theorem dX8_fault_62 : decode cX8_fault 62 = .ok (.iaload, 1) := by decide +kernel
theorem dX8_fault_63 : decode cX8_fault 63 = .ok (.ireturn, 1) := by decide +kernel
theorem dX8_fault_64 : decode cX8_fault 64 = .ok (.aload_n 0, 1) := by decide +kernel
theorem dX8_fault_65 : decode cX8_fault 65 = .ok (.getfield 28, 3) := by decide +kernel
theorem dX8_fault_68 : decode cX8_fault 68 = .ok (.getfield 171, 3) := by decide +kernel
theorem dX8_fault_71 : decode cX8_fault 71 = .ok (.iload_n 1, 1) := by decide +kernel
theorem dX8_fault_72 : decode cX8_fault 72 = .ok (.iaload, 1) := by decide +kernel
theorem dX8_fault_73 : decode cX8_fault 73 = .ok (.ireturn, 1) := by decide +kernel
theorem dX8_fault_74 : decode cX8_fault 74 = .ok (.sipush (-1002), 3) := by decide +kernel
theorem dX8_fault_77 : decode cX8_fault 77 = .ok (.ireturn, 1) := by decide +kernel
theorem dX8_count_0 : decode cX8_count 0 = .ok (.iload_n 1, 1) := by decide +kernel
theorem dX8_count_1 : decode cX8_count 1 = .ok (.tableswitch 75 0 4 #[35, 43, 51, 59, 67], 35) := by decide +kernel
theorem dX8_count_36 : decode cX8_count 36 = .ok (.aload_n 0, 1) := by decide +kernel
theorem dX8_count_37 : decode cX8_count 37 = .ok (.getfield 28, 3) := by decide +kernel
theorem dX8_count_40 : decode cX8_count 40 = .ok (.getfield 122, 3) := by decide +kernel
theorem dX8_count_43 : decode cX8_count 43 = .ok (.ireturn, 1) := by decide +kernel
theorem dX8_count_44 : decode cX8_count 44 = .ok (.aload_n 0, 1) := by decide +kernel
theorem dX8_count_45 : decode cX8_count 45 = .ok (.getfield 28, 3) := by decide +kernel
theorem dX8_count_48 : decode cX8_count 48 = .ok (.getfield 174, 3) := by decide +kernel
theorem dX8_count_51 : decode cX8_count 51 = .ok (.ireturn, 1) := by decide +kernel
theorem dX8_count_52 : decode cX8_count 52 = .ok (.aload_n 0, 1) := by decide +kernel
theorem dX8_count_53 : decode cX8_count 53 = .ok (.getfield 48, 3) := by decide +kernel
theorem dX8_count_56 : decode cX8_count 56 = .ok (.getfield 116, 3) := by decide +kernel
theorem dX8_count_59 : decode cX8_count 59 = .ok (.ireturn, 1) := by decide +kernel
theorem dX8_count_60 : decode cX8_count 60 = .ok (.aload_n 0, 1) := by decide +kernel
theorem dX8_count_61 : decode cX8_count 61 = .ok (.getfield 48, 3) := by decide +kernel
theorem dX8_count_64 : decode cX8_count 64 = .ok (.getfield 119, 3) := by decide +kernel
theorem dX8_count_67 : decode cX8_count 67 = .ok (.ireturn, 1) := by decide +kernel
theorem dX8_count_68 : decode cX8_count 68 = .ok (.aload_n 0, 1) := by decide +kernel
theorem dX8_count_69 : decode cX8_count 69 = .ok (.getfield 10, 3) := by decide +kernel
theorem dX8_count_72 : decode cX8_count 72 = .ok (.getfield 92, 3) := by decide +kernel
theorem dX8_count_75 : decode cX8_count 75 = .ok (.ireturn, 1) := by decide +kernel
theorem dX8_count_76 : decode cX8_count 76 = .ok (.sipush (-1002), 3) := by decide +kernel
theorem dX8_count_79 : decode cX8_count 79 = .ok (.ireturn, 1) := by decide +kernel
set_option maxRecDepth 20000 in
theorem ggX8_cut_X0_addLine : GoodIn wsX8_cut wsX0_addLine := goodIn_r _ [9, 10, 11, 12, 13, 14, 15, 16, 17, 18, 19, 20, 21, 22, 47, 48, 49, 50, 51, 52, 53, 54, 55, 56, 37, 38, 39, 40, 41, 42, 43, 44, 45, 46] (by decide +kernel) (by decide +kernel)
set_option maxRecDepth 20000 in
theorem gX8_cut_X0_addLine : GoodIn wsX8_cut (wsV RX8 177 RX0 yX0_addLine wsX0_addLine) := goodIn_app (goodIn_of _ (by decide +kernel)) ggX8_cut_X0_addLine
theorem dX8_cut_0 : decode cX8_cut 0 = .ok (.iload_n 1, 1) := by decide +kernel
theorem dX8_cut_1 : decode cX8_cut 1 = .ok (.ifCond .lt 14, 3) := by decide +kernel
theorem dX8_cut_4 : decode cX8_cut 4 = .ok (.iload_n 1, 1) := by decide +kernel
theorem dX8_cut_5 : decode cX8_cut 5 = .ok (.aload_n 0, 1) := by decide +kernel
theorem dX8_cut_6 : decode cX8_cut 6 = .ok (.getfield 28, 3) := by decide +kernel
theorem dX8_cut_9 : decode cX8_cut 9 = .ok (.getfield 122, 3) := by decide +kernel
theorem dX8_cut_12 : decode cX8_cut 12 = .ok (.if_icmp .le 7, 3) := by decide +kernel
theorem dX8_cut_15 : decode cX8_cut 15 = .ok (.sipush (-1002), 3) := by decide +kernel
theorem dX8_cut_18 : decode cX8_cut 18 = .ok (.ireturn, 1) := by decide +kernel
theorem dX8_cut_19 : decode cX8_cut 19 = .ok (.aload_n 0, 1) := by decide +kernel
theorem dX8_cut_20 : decode cX8_cut 20 = .ok (.getfield 48, 3) := by decide +kernel
theorem dX8_cut_23 : decode cX8_cut 23 = .ok (.getfield 116, 3) := by decide +kernel
theorem dX8_cut_26 : decode cX8_cut 26 = .ok (.iconst 4, 1) := by decide +kernel
theorem dX8_cut_27 : decode cX8_cut 27 = .ok (.if_icmp .lt 7, 3) := by decide +kernel
theorem dX8_cut_30 : decode cX8_cut 30 = .ok (.sipush (-1004), 3) := by decide +kernel
theorem dX8_cut_33 : decode cX8_cut 33 = .ok (.ireturn, 1) := by decide +kernel
theorem dX8_cut_34 : decode cX8_cut 34 = .ok (.aload_n 0, 1) := by decide +kernel
theorem dX8_cut_35 : decode cX8_cut 35 = .ok (.getfield 48, 3) := by decide +kernel
theorem dX8_cut_38 : decode cX8_cut 38 = .ok (.iload_n 1, 1) := by decide +kernel
theorem dX8_cut_39 : decode cX8_cut 39 = .ok (.aload_n 0, 1) := by decide +kernel
theorem dX8_cut_40 : decode cX8_cut 40 = .ok (.getfield 28, 3) := by decide +kernel
theorem dX8_cut_43 : decode cX8_cut 43 = .ok (.invokevirtual 177, 3) := by decide +kernel
theorem dX8_cut_46 : decode cX8_cut 46 = .ok (.ireturn, 1) := by decide +kernel
set_option maxRecDepth 20000 in
theorem ggX8_line_X0_hasLine : GoodIn wsX8_line wsX0_hasLine := goodIn_r _ [10, 11, 47, 48, 49, 50, 51, 52, 53, 54, 55, 56] (by decide +kernel) (by decide +kernel)
set_option maxRecDepth 20000 in
theorem gX8_line_X0_hasLine : GoodIn wsX8_line (wsV RX8 181 RX0 yX0_hasLine wsX0_hasLine) := goodIn_app (goodIn_of _ (by decide +kernel)) ggX8_line_X0_hasLine
set_option maxRecDepth 20000 in
theorem ggX8_line_X7_faultsIn : GoodIn wsX8_line wsX7_faultsIn := goodIn_r _ [16, 17, 18, 19, 20, 21, 22, 23, 24, 15, 25, 26, 57, 58, 59, 60, 61, 62, 63, 64, 65, 66] (by decide +kernel) (by decide +kernel)
set_option maxRecDepth 20000 in
theorem gX8_line_X7_faultsIn : GoodIn wsX8_line (wsV RX8 190 RX7 yX7_faultsIn wsX7_faultsIn) := goodIn_app (goodIn_of _ (by decide +kernel)) ggX8_line_X7_faultsIn
set_option maxRecDepth 20000 in
theorem ggX8_line_X7_riskOf : GoodIn wsX8_line wsX7_riskOf := goodIn_r _ [30, 31, 32, 19, 20, 21, 57, 58, 59, 60, 61, 62, 63, 64, 65, 66] (by decide +kernel) (by decide +kernel)
set_option maxRecDepth 20000 in
theorem gX8_line_X7_riskOf : GoodIn wsX8_line (wsV RX8 193 RX7 yX7_riskOf wsX7_riskOf) := goodIn_app (goodIn_of _ (by decide +kernel)) ggX8_line_X7_riskOf
theorem dX8_line_0 : decode cX8_line 0 = .ok (.aload_n 0, 1) := by decide +kernel
theorem dX8_line_1 : decode cX8_line 1 = .ok (.getfield 48, 3) := by decide +kernel
theorem dX8_line_4 : decode cX8_line 4 = .ok (.iload_n 1, 1) := by decide +kernel
theorem dX8_line_5 : decode cX8_line 5 = .ok (.invokevirtual 181, 3) := by decide +kernel
theorem dX8_line_8 : decode cX8_line 8 = .ok (.ifCond .ne 7, 3) := by decide +kernel
theorem dX8_line_11 : decode cX8_line 11 = .ok (.sipush (-1001), 3) := by decide +kernel
theorem dX8_line_14 : decode cX8_line 14 = .ok (.ireturn, 1) := by decide +kernel
theorem dX8_line_15 : decode cX8_line 15 = .ok (.iload_n 2, 1) := by decide +kernel
theorem dX8_line_16 : decode cX8_line 16 = .ok (.tableswitch 100 0 4 #[36, 46, 56, 73, 90], 36) := by decide +kernel
theorem dX8_line_52 : decode cX8_line 52 = .ok (.aload_n 0, 1) := by decide +kernel
theorem dX8_line_53 : decode cX8_line 53 = .ok (.getfield 48, 3) := by decide +kernel
theorem dX8_line_56 : decode cX8_line 56 = .ok (.getfield 184, 3) := by decide +kernel
theorem dX8_line_59 : decode cX8_line 59 = .ok (.iload_n 1, 1) := by decide +kernel
theorem dX8_line_60 : decode cX8_line 60 = .ok (.iaload, 1) := by decide +kernel
theorem dX8_line_61 : decode cX8_line 61 = .ok (.ireturn, 1) := by decide +kernel
theorem dX8_line_62 : decode cX8_line 62 = .ok (.aload_n 0, 1) := by decide +kernel
theorem dX8_line_63 : decode cX8_line 63 = .ok (.getfield 48, 3) := by decide +kernel
theorem dX8_line_66 : decode cX8_line 66 = .ok (.getfield 187, 3) := by decide +kernel
theorem dX8_line_69 : decode cX8_line 69 = .ok (.iload_n 1, 1) := by decide +kernel
theorem dX8_line_70 : decode cX8_line 70 = .ok (.iaload, 1) := by decide +kernel
theorem dX8_line_71 : decode cX8_line 71 = .ok (.ireturn, 1) := by decide +kernel
theorem dX8_line_72 : decode cX8_line 72 = .ok (.aload_n 0, 1) := by decide +kernel
theorem dX8_line_73 : decode cX8_line 73 = .ok (.getfield 28, 3) := by decide +kernel
theorem dX8_line_76 : decode cX8_line 76 = .ok (.aload_n 0, 1) := by decide +kernel
theorem dX8_line_77 : decode cX8_line 77 = .ok (.getfield 48, 3) := by decide +kernel
theorem dX8_line_80 : decode cX8_line 80 = .ok (.getfield 187, 3) := by decide +kernel
theorem dX8_line_83 : decode cX8_line 83 = .ok (.iload_n 1, 1) := by decide +kernel
theorem dX8_line_84 : decode cX8_line 84 = .ok (.iaload, 1) := by decide +kernel
theorem dX8_line_85 : decode cX8_line 85 = .ok (.invokevirtual 190, 3) := by decide +kernel
theorem dX8_line_88 : decode cX8_line 88 = .ok (.ireturn, 1) := by decide +kernel
theorem dX8_line_89 : decode cX8_line 89 = .ok (.aload_n 0, 1) := by decide +kernel
theorem dX8_line_90 : decode cX8_line 90 = .ok (.getfield 28, 3) := by decide +kernel
theorem dX8_line_93 : decode cX8_line 93 = .ok (.aload_n 0, 1) := by decide +kernel
theorem dX8_line_94 : decode cX8_line 94 = .ok (.getfield 48, 3) := by decide +kernel
theorem dX8_line_97 : decode cX8_line 97 = .ok (.getfield 187, 3) := by decide +kernel
theorem dX8_line_100 : decode cX8_line 100 = .ok (.iload_n 1, 1) := by decide +kernel
theorem dX8_line_101 : decode cX8_line 101 = .ok (.iaload, 1) := by decide +kernel
theorem dX8_line_102 : decode cX8_line 102 = .ok (.invokevirtual 193, 3) := by decide +kernel
theorem dX8_line_105 : decode cX8_line 105 = .ok (.ireturn, 1) := by decide +kernel
theorem dX8_line_106 : decode cX8_line 106 = .ok (.aload_n 0, 1) := by decide +kernel
theorem dX8_line_107 : decode cX8_line 107 = .ok (.getfield 48, 3) := by decide +kernel
theorem dX8_line_110 : decode cX8_line 110 = .ok (.getfield 196, 3) := by decide +kernel
theorem dX8_line_113 : decode cX8_line 113 = .ok (.iload_n 1, 1) := by decide +kernel
theorem dX8_line_114 : decode cX8_line 114 = .ok (.iaload, 1) := by decide +kernel
theorem dX8_line_115 : decode cX8_line 115 = .ok (.ireturn, 1) := by decide +kernel
theorem dX8_line_116 : decode cX8_line 116 = .ok (.sipush (-1002), 3) := by decide +kernel
theorem dX8_line_119 : decode cX8_line 119 = .ok (.ireturn, 1) := by decide +kernel
set_option maxRecDepth 20000 in
theorem ggX8_value_X0_hasLine : GoodIn wsX8_value wsX0_hasLine := goodIn_r _ [7, 8, 27, 28, 29, 30, 31, 32, 33, 34, 35, 36] (by decide +kernel) (by decide +kernel)
set_option maxRecDepth 20000 in
theorem gX8_value_X0_hasLine : GoodIn wsX8_value (wsV RX8 181 RX0 yX0_hasLine wsX0_hasLine) := goodIn_app (goodIn_of _ (by decide +kernel)) ggX8_value_X0_hasLine
set_option maxRecDepth 20000 in
theorem ggX8_value_X8_isSlot : GoodIn wsX8_value wsX8_isSlot := goodIn_r _ [12] (by decide +kernel) (by decide +kernel)
set_option maxRecDepth 20000 in
theorem gX8_value_X8_isSlot : GoodIn wsX8_value (va_wsS RX8 153 yX8_isSlot wsX8_isSlot) := goodIn_app (goodIn_of _ (by decide +kernel)) ggX8_value_X8_isSlot
theorem dX8_value_0 : decode cX8_value 0 = .ok (.aload_n 0, 1) := by decide +kernel
theorem dX8_value_1 : decode cX8_value 1 = .ok (.getfield 48, 3) := by decide +kernel
theorem dX8_value_4 : decode cX8_value 4 = .ok (.iload_n 1, 1) := by decide +kernel
theorem dX8_value_5 : decode cX8_value 5 = .ok (.invokevirtual 181, 3) := by decide +kernel
theorem dX8_value_8 : decode cX8_value 8 = .ok (.ifCond .eq 10, 3) := by decide +kernel
theorem dX8_value_11 : decode cX8_value 11 = .ok (.iload_n 2, 1) := by decide +kernel
theorem dX8_value_12 : decode cX8_value 12 = .ok (.invokestatic 153, 3) := by decide +kernel
theorem dX8_value_15 : decode cX8_value 15 = .ok (.ifCond .ne 7, 3) := by decide +kernel
theorem dX8_value_18 : decode cX8_value 18 = .ok (.sipush (-1001), 3) := by decide +kernel
theorem dX8_value_21 : decode cX8_value 21 = .ok (.ireturn, 1) := by decide +kernel
theorem dX8_value_22 : decode cX8_value 22 = .ok (.aload_n 0, 1) := by decide +kernel
theorem dX8_value_23 : decode cX8_value 23 = .ok (.getfield 48, 3) := by decide +kernel
theorem dX8_value_26 : decode cX8_value 26 = .ok (.getfield 199, 3) := by decide +kernel
theorem dX8_value_29 : decode cX8_value 29 = .ok (.iload_n 1, 1) := by decide +kernel
theorem dX8_value_30 : decode cX8_value 30 = .ok (.bipush 16, 2) := by decide +kernel
theorem dX8_value_32 : decode cX8_value 32 = .ok (.imul, 1) := by decide +kernel
theorem dX8_value_33 : decode cX8_value 33 = .ok (.iload_n 2, 1) := by decide +kernel
theorem dX8_value_34 : decode cX8_value 34 = .ok (.iadd, 1) := by decide +kernel
theorem dX8_value_35 : decode cX8_value 35 = .ok (.iaload, 1) := by decide +kernel
theorem dX8_value_36 : decode cX8_value 36 = .ok (.ireturn, 1) := by decide +kernel
set_option maxRecDepth 20000 in
theorem ggX8_clash_X0_hasLine : GoodIn wsX8_clash wsX0_hasLine := goodIn_r _ [9, 10, 42, 43, 44, 45, 46, 47, 48, 49, 50, 51] (by decide +kernel) (by decide +kernel)
set_option maxRecDepth 20000 in
theorem gX8_clash_X0_hasLine : GoodIn wsX8_clash (wsV RX8 181 RX0 yX0_hasLine wsX0_hasLine) := goodIn_app (goodIn_of _ (by decide +kernel)) ggX8_clash_X0_hasLine
set_option maxRecDepth 20000 in
theorem ggX8_clash_X7_hasChange : GoodIn wsX8_clash wsX7_hasChange := goodIn_r _ [15, 16, 52, 53, 54, 55, 56, 57, 58, 59, 60, 61] (by decide +kernel) (by decide +kernel)
set_option maxRecDepth 20000 in
theorem gX8_clash_X7_hasChange : GoodIn wsX8_clash (wsV RX8 132 RX7 yX7_hasChange wsX7_hasChange) := goodIn_app (goodIn_of _ (by decide +kernel)) ggX8_clash_X7_hasChange
set_option maxRecDepth 20000 in
theorem ggX8_clash_X8_has : GoodIn wsX8_clash wsX8_has := goodIn_r _ [20] (by decide +kernel) (by decide +kernel)
set_option maxRecDepth 20000 in
theorem gX8_clash_X8_has : GoodIn wsX8_clash (va_wsS RX8 202 yX8_has wsX8_has) := goodIn_app (goodIn_of _ (by decide +kernel)) ggX8_clash_X8_has
set_option maxRecDepth 20000 in
theorem ggX8_clash_X7_clashOf : GoodIn wsX8_clash wsX7_clashOf := goodIn_r _ [24, 25, 26, 27, 18, 19, 20, 52, 53, 54, 55, 56, 57, 58, 59, 60, 61] (by decide +kernel) (by decide +kernel)
set_option maxRecDepth 20000 in
theorem gX8_clash_X7_clashOf : GoodIn wsX8_clash (wsV RX8 206 RX7 yX7_clashOf wsX7_clashOf) := goodIn_app (goodIn_of _ (by decide +kernel)) ggX8_clash_X7_clashOf
theorem dX8_clash_0 : decode cX8_clash 0 = .ok (.aload_n 0, 1) := by decide +kernel
theorem dX8_clash_1 : decode cX8_clash 1 = .ok (.getfield 48, 3) := by decide +kernel
theorem dX8_clash_4 : decode cX8_clash 4 = .ok (.iload_n 1, 1) := by decide +kernel
theorem dX8_clash_5 : decode cX8_clash 5 = .ok (.invokevirtual 181, 3) := by decide +kernel
theorem dX8_clash_8 : decode cX8_clash 8 = .ok (.ifCond .eq 14, 3) := by decide +kernel
theorem dX8_clash_11 : decode cX8_clash 11 = .ok (.aload_n 0, 1) := by decide +kernel
theorem dX8_clash_12 : decode cX8_clash 12 = .ok (.getfield 28, 3) := by decide +kernel
theorem dX8_clash_15 : decode cX8_clash 15 = .ok (.iload_n 2, 1) := by decide +kernel
theorem dX8_clash_16 : decode cX8_clash 16 = .ok (.invokevirtual 132, 3) := by decide +kernel
theorem dX8_clash_19 : decode cX8_clash 19 = .ok (.ifCond .ne 7, 3) := by decide +kernel
theorem dX8_clash_22 : decode cX8_clash 22 = .ok (.sipush (-1001), 3) := by decide +kernel
theorem dX8_clash_25 : decode cX8_clash 25 = .ok (.ireturn, 1) := by decide +kernel
theorem dX8_clash_26 : decode cX8_clash 26 = .ok (.aload_n 0, 1) := by decide +kernel
theorem dX8_clash_27 : decode cX8_clash 27 = .ok (.getfield 48, 3) := by decide +kernel
theorem dX8_clash_30 : decode cX8_clash 30 = .ok (.getfield 187, 3) := by decide +kernel
theorem dX8_clash_33 : decode cX8_clash 33 = .ok (.iload_n 1, 1) := by decide +kernel
theorem dX8_clash_34 : decode cX8_clash 34 = .ok (.iaload, 1) := by decide +kernel
theorem dX8_clash_35 : decode cX8_clash 35 = .ok (.iload_n 2, 1) := by decide +kernel
theorem dX8_clash_36 : decode cX8_clash 36 = .ok (.invokestatic 202, 3) := by decide +kernel
theorem dX8_clash_39 : decode cX8_clash 39 = .ok (.ifCond .eq 7, 3) := by decide +kernel
theorem dX8_clash_42 : decode cX8_clash 42 = .ok (.sipush (-1003), 3) := by decide +kernel
theorem dX8_clash_45 : decode cX8_clash 45 = .ok (.ireturn, 1) := by decide +kernel
theorem dX8_clash_46 : decode cX8_clash 46 = .ok (.aload_n 0, 1) := by decide +kernel
theorem dX8_clash_47 : decode cX8_clash 47 = .ok (.getfield 28, 3) := by decide +kernel
theorem dX8_clash_50 : decode cX8_clash 50 = .ok (.iload_n 2, 1) := by decide +kernel
theorem dX8_clash_51 : decode cX8_clash 51 = .ok (.aload_n 0, 1) := by decide +kernel
theorem dX8_clash_52 : decode cX8_clash 52 = .ok (.getfield 48, 3) := by decide +kernel
theorem dX8_clash_55 : decode cX8_clash 55 = .ok (.getfield 199, 3) := by decide +kernel
theorem dX8_clash_58 : decode cX8_clash 58 = .ok (.iload_n 1, 1) := by decide +kernel
theorem dX8_clash_59 : decode cX8_clash 59 = .ok (.invokevirtual 206, 3) := by decide +kernel
theorem dX8_clash_62 : decode cX8_clash 62 = .ok (.ireturn, 1) := by decide +kernel
set_option maxRecDepth 20000 in
theorem ggX8_pick_X0_hasLine : GoodIn wsX8_pick wsX0_hasLine := goodIn_r _ [9, 10, 60, 61, 62, 63, 64, 65, 66, 67, 68, 69] (by decide +kernel) (by decide +kernel)
set_option maxRecDepth 20000 in
theorem gX8_pick_X0_hasLine : GoodIn wsX8_pick (wsV RX8 181 RX0 yX0_hasLine wsX0_hasLine) := goodIn_app (goodIn_of _ (by decide +kernel)) ggX8_pick_X0_hasLine
set_option maxRecDepth 20000 in
theorem ggX8_pick_X7_hasChange : GoodIn wsX8_pick wsX7_hasChange := goodIn_r _ [15, 16, 70, 71, 72, 73, 74, 75, 76, 77, 78, 79] (by decide +kernel) (by decide +kernel)
set_option maxRecDepth 20000 in
theorem gX8_pick_X7_hasChange : GoodIn wsX8_pick (wsV RX8 132 RX7 yX7_hasChange wsX7_hasChange) := goodIn_app (goodIn_of _ (by decide +kernel)) ggX8_pick_X7_hasChange
set_option maxRecDepth 20000 in
theorem ggX8_pick_X8_has : GoodIn wsX8_pick wsX8_has := goodIn_r _ [20] (by decide +kernel) (by decide +kernel)
set_option maxRecDepth 20000 in
theorem gX8_pick_X8_has : GoodIn wsX8_pick (va_wsS RX8 202 yX8_has wsX8_has) := goodIn_app (goodIn_of _ (by decide +kernel)) ggX8_pick_X8_has
set_option maxRecDepth 20000 in
theorem ggX8_pick_X7_clashOf : GoodIn wsX8_pick wsX7_clashOf := goodIn_r _ [24, 25, 26, 27, 18, 19, 20, 70, 71, 72, 73, 74, 75, 76, 77, 78, 79] (by decide +kernel) (by decide +kernel)
set_option maxRecDepth 20000 in
theorem gX8_pick_X7_clashOf : GoodIn wsX8_pick (wsV RX8 206 RX7 yX7_clashOf wsX7_clashOf) := goodIn_app (goodIn_of _ (by decide +kernel)) ggX8_pick_X7_clashOf
set_option maxRecDepth 20000 in
theorem ggX8_pick_X0_putOn : GoodIn wsX8_pick wsX0_putOn := goodIn_r _ [31, 32, 33, 34, 35, 36, 14, 37, 25, 38, 18, 19, 20, 60, 61, 62, 63, 64, 65, 66, 67, 68, 69, 70, 71, 72, 73, 74, 75, 76, 77, 78, 79] (by decide +kernel) (by decide +kernel)
set_option maxRecDepth 20000 in
theorem gX8_pick_X0_putOn : GoodIn wsX8_pick (wsV RX8 210 RX0 yX0_putOn wsX0_putOn) := goodIn_app (goodIn_of _ (by decide +kernel)) ggX8_pick_X0_putOn
set_option maxRecDepth 20000 in
theorem ggX8_pick_J6_bitCount_0f7a4 : GoodIn wsX8_pick wsJ6_bitCount_0f7a4 := goodIn_r _ [42, 43, 44, 45] (by decide +kernel) (by decide +kernel)
set_option maxRecDepth 20000 in
theorem gX8_pick_J6_bitCount_0f7a4 : GoodIn wsX8_pick (va_wsS RX8 214 yJ6_bitCount_0f7a4 wsJ6_bitCount_0f7a4) := goodIn_app (goodIn_of _ (by decide +kernel)) ggX8_pick_J6_bitCount_0f7a4
theorem dX8_pick_0 : decode cX8_pick 0 = .ok (.aload_n 0, 1) := by decide +kernel
theorem dX8_pick_1 : decode cX8_pick 1 = .ok (.getfield 48, 3) := by decide +kernel
theorem dX8_pick_4 : decode cX8_pick 4 = .ok (.iload_n 1, 1) := by decide +kernel
theorem dX8_pick_5 : decode cX8_pick 5 = .ok (.invokevirtual 181, 3) := by decide +kernel
theorem dX8_pick_8 : decode cX8_pick 8 = .ok (.ifCond .eq 14, 3) := by decide +kernel
theorem dX8_pick_11 : decode cX8_pick 11 = .ok (.aload_n 0, 1) := by decide +kernel
theorem dX8_pick_12 : decode cX8_pick 12 = .ok (.getfield 28, 3) := by decide +kernel
theorem dX8_pick_15 : decode cX8_pick 15 = .ok (.iload_n 2, 1) := by decide +kernel
theorem dX8_pick_16 : decode cX8_pick 16 = .ok (.invokevirtual 132, 3) := by decide +kernel
theorem dX8_pick_19 : decode cX8_pick 19 = .ok (.ifCond .ne 7, 3) := by decide +kernel
theorem dX8_pick_22 : decode cX8_pick 22 = .ok (.sipush (-1001), 3) := by decide +kernel
theorem dX8_pick_25 : decode cX8_pick 25 = .ok (.ireturn, 1) := by decide +kernel
theorem dX8_pick_26 : decode cX8_pick 26 = .ok (.aload_n 0, 1) := by decide +kernel
theorem dX8_pick_27 : decode cX8_pick 27 = .ok (.getfield 48, 3) := by decide +kernel
theorem dX8_pick_30 : decode cX8_pick 30 = .ok (.getfield 187, 3) := by decide +kernel
theorem dX8_pick_33 : decode cX8_pick 33 = .ok (.iload_n 1, 1) := by decide +kernel
theorem dX8_pick_34 : decode cX8_pick 34 = .ok (.iaload, 1) := by decide +kernel
theorem dX8_pick_35 : decode cX8_pick 35 = .ok (.iload_n 2, 1) := by decide +kernel
theorem dX8_pick_36 : decode cX8_pick 36 = .ok (.invokestatic 202, 3) := by decide +kernel
theorem dX8_pick_39 : decode cX8_pick 39 = .ok (.ifCond .ne 22, 3) := by decide +kernel
theorem dX8_pick_42 : decode cX8_pick 42 = .ok (.aload_n 0, 1) := by decide +kernel
theorem dX8_pick_43 : decode cX8_pick 43 = .ok (.getfield 28, 3) := by decide +kernel
theorem dX8_pick_46 : decode cX8_pick 46 = .ok (.iload_n 2, 1) := by decide +kernel
theorem dX8_pick_47 : decode cX8_pick 47 = .ok (.aload_n 0, 1) := by decide +kernel
theorem dX8_pick_48 : decode cX8_pick 48 = .ok (.getfield 48, 3) := by decide +kernel
theorem dX8_pick_51 : decode cX8_pick 51 = .ok (.getfield 199, 3) := by decide +kernel
theorem dX8_pick_54 : decode cX8_pick 54 = .ok (.iload_n 1, 1) := by decide +kernel
theorem dX8_pick_55 : decode cX8_pick 55 = .ok (.invokevirtual 206, 3) := by decide +kernel
theorem dX8_pick_58 : decode cX8_pick 58 = .ok (.ifCond .eq 7, 3) := by decide +kernel
theorem dX8_pick_61 : decode cX8_pick 61 = .ok (.sipush (-1003), 3) := by decide +kernel
theorem dX8_pick_64 : decode cX8_pick 64 = .ok (.ireturn, 1) := by decide +kernel
theorem dX8_pick_65 : decode cX8_pick 65 = .ok (.aload_n 0, 1) := by decide +kernel
theorem dX8_pick_66 : decode cX8_pick 66 = .ok (.getfield 48, 3) := by decide +kernel
theorem dX8_pick_69 : decode cX8_pick 69 = .ok (.iload_n 1, 1) := by decide +kernel
theorem dX8_pick_70 : decode cX8_pick 70 = .ok (.iload_n 2, 1) := by decide +kernel
theorem dX8_pick_71 : decode cX8_pick 71 = .ok (.aload_n 0, 1) := by decide +kernel
theorem dX8_pick_72 : decode cX8_pick 72 = .ok (.getfield 28, 3) := by decide +kernel
theorem dX8_pick_75 : decode cX8_pick 75 = .ok (.invokevirtual 210, 3) := by decide +kernel
theorem dX8_pick_78 : decode cX8_pick 78 = .ok (.aload_n 0, 1) := by decide +kernel
theorem dX8_pick_79 : decode cX8_pick 79 = .ok (.getfield 48, 3) := by decide +kernel
theorem dX8_pick_82 : decode cX8_pick 82 = .ok (.getfield 187, 3) := by decide +kernel
theorem dX8_pick_85 : decode cX8_pick 85 = .ok (.iload_n 1, 1) := by decide +kernel
theorem dX8_pick_86 : decode cX8_pick 86 = .ok (.iaload, 1) := by decide +kernel
theorem dX8_pick_87 : decode cX8_pick 87 = .ok (.invokestatic 214, 3) := by decide +kernel
theorem dX8_pick_90 : decode cX8_pick 90 = .ok (.ireturn, 1) := by decide +kernel
set_option maxRecDepth 20000 in
theorem ggX8_undo_X0_hasLine : GoodIn wsX8_undo wsX0_hasLine := goodIn_r _ [9, 10, 59, 60, 61, 62, 63, 64, 65, 66, 67, 68] (by decide +kernel) (by decide +kernel)
set_option maxRecDepth 20000 in
theorem gX8_undo_X0_hasLine : GoodIn wsX8_undo (wsV RX8 181 RX0 yX0_hasLine wsX0_hasLine) := goodIn_app (goodIn_of _ (by decide +kernel)) ggX8_undo_X0_hasLine
set_option maxRecDepth 20000 in
theorem ggX8_undo_X7_hasChange : GoodIn wsX8_undo wsX7_hasChange := goodIn_r _ [15, 16, 69, 70, 71, 72, 73, 74, 75, 76, 77, 78] (by decide +kernel) (by decide +kernel)
set_option maxRecDepth 20000 in
theorem gX8_undo_X7_hasChange : GoodIn wsX8_undo (wsV RX8 132 RX7 yX7_hasChange wsX7_hasChange) := goodIn_app (goodIn_of _ (by decide +kernel)) ggX8_undo_X7_hasChange
set_option maxRecDepth 20000 in
theorem ggX8_undo_X8_has : GoodIn wsX8_undo wsX8_has := goodIn_r _ [20] (by decide +kernel) (by decide +kernel)
set_option maxRecDepth 20000 in
theorem gX8_undo_X8_has : GoodIn wsX8_undo (va_wsS RX8 202 yX8_has wsX8_has) := goodIn_app (goodIn_of _ (by decide +kernel)) ggX8_undo_X8_has
set_option maxRecDepth 20000 in
theorem ggX8_undo_X7_stillSet : GoodIn wsX8_undo wsX7_stillSet := goodIn_r _ [24, 25, 26, 18, 19, 20, 69, 70, 71, 72, 73, 74, 75, 76, 77, 78] (by decide +kernel) (by decide +kernel)
set_option maxRecDepth 20000 in
theorem gX8_undo_X7_stillSet : GoodIn wsX8_undo (wsV RX8 219 RX7 yX7_stillSet wsX7_stillSet) := goodIn_app (goodIn_of _ (by decide +kernel)) ggX8_undo_X7_stillSet
set_option maxRecDepth 20000 in
theorem ggX8_undo_X0_takeOff : GoodIn wsX8_undo wsX0_takeOff := goodIn_r _ [30, 31, 32, 33, 34, 35, 14, 36, 25, 37, 18, 19, 20, 59, 60, 61, 62, 63, 64, 65, 66, 67, 68, 69, 70, 71, 72, 73, 74, 75, 76, 77, 78] (by decide +kernel) (by decide +kernel)
set_option maxRecDepth 20000 in
theorem gX8_undo_X0_takeOff : GoodIn wsX8_undo (wsV RX8 223 RX0 yX0_takeOff wsX0_takeOff) := goodIn_app (goodIn_of _ (by decide +kernel)) ggX8_undo_X0_takeOff
set_option maxRecDepth 20000 in
theorem ggX8_undo_J6_bitCount_0f7a4 : GoodIn wsX8_undo wsJ6_bitCount_0f7a4 := goodIn_r _ [41, 42, 43, 44] (by decide +kernel) (by decide +kernel)
set_option maxRecDepth 20000 in
theorem gX8_undo_J6_bitCount_0f7a4 : GoodIn wsX8_undo (va_wsS RX8 214 yJ6_bitCount_0f7a4 wsJ6_bitCount_0f7a4) := goodIn_app (goodIn_of _ (by decide +kernel)) ggX8_undo_J6_bitCount_0f7a4
theorem dX8_undo_0 : decode cX8_undo 0 = .ok (.aload_n 0, 1) := by decide +kernel
theorem dX8_undo_1 : decode cX8_undo 1 = .ok (.getfield 48, 3) := by decide +kernel
theorem dX8_undo_4 : decode cX8_undo 4 = .ok (.iload_n 1, 1) := by decide +kernel
theorem dX8_undo_5 : decode cX8_undo 5 = .ok (.invokevirtual 181, 3) := by decide +kernel
theorem dX8_undo_8 : decode cX8_undo 8 = .ok (.ifCond .eq 14, 3) := by decide +kernel
theorem dX8_undo_11 : decode cX8_undo 11 = .ok (.aload_n 0, 1) := by decide +kernel
theorem dX8_undo_12 : decode cX8_undo 12 = .ok (.getfield 28, 3) := by decide +kernel
theorem dX8_undo_15 : decode cX8_undo 15 = .ok (.iload_n 2, 1) := by decide +kernel
theorem dX8_undo_16 : decode cX8_undo 16 = .ok (.invokevirtual 132, 3) := by decide +kernel
theorem dX8_undo_19 : decode cX8_undo 19 = .ok (.ifCond .ne 7, 3) := by decide +kernel
theorem dX8_undo_22 : decode cX8_undo 22 = .ok (.sipush (-1001), 3) := by decide +kernel
theorem dX8_undo_25 : decode cX8_undo 25 = .ok (.ireturn, 1) := by decide +kernel
theorem dX8_undo_26 : decode cX8_undo 26 = .ok (.aload_n 0, 1) := by decide +kernel
theorem dX8_undo_27 : decode cX8_undo 27 = .ok (.getfield 48, 3) := by decide +kernel
theorem dX8_undo_30 : decode cX8_undo 30 = .ok (.getfield 187, 3) := by decide +kernel
theorem dX8_undo_33 : decode cX8_undo 33 = .ok (.iload_n 1, 1) := by decide +kernel
theorem dX8_undo_34 : decode cX8_undo 34 = .ok (.iaload, 1) := by decide +kernel
theorem dX8_undo_35 : decode cX8_undo 35 = .ok (.iload_n 2, 1) := by decide +kernel
theorem dX8_undo_36 : decode cX8_undo 36 = .ok (.invokestatic 202, 3) := by decide +kernel
theorem dX8_undo_39 : decode cX8_undo 39 = .ok (.ifCond .eq 22, 3) := by decide +kernel
theorem dX8_undo_42 : decode cX8_undo 42 = .ok (.aload_n 0, 1) := by decide +kernel
theorem dX8_undo_43 : decode cX8_undo 43 = .ok (.getfield 28, 3) := by decide +kernel
theorem dX8_undo_46 : decode cX8_undo 46 = .ok (.iload_n 2, 1) := by decide +kernel
theorem dX8_undo_47 : decode cX8_undo 47 = .ok (.aload_n 0, 1) := by decide +kernel
theorem dX8_undo_48 : decode cX8_undo 48 = .ok (.getfield 48, 3) := by decide +kernel
theorem dX8_undo_51 : decode cX8_undo 51 = .ok (.getfield 199, 3) := by decide +kernel
theorem dX8_undo_54 : decode cX8_undo 54 = .ok (.iload_n 1, 1) := by decide +kernel
theorem dX8_undo_55 : decode cX8_undo 55 = .ok (.invokevirtual 219, 3) := by decide +kernel
theorem dX8_undo_58 : decode cX8_undo 58 = .ok (.ifCond .ne 7, 3) := by decide +kernel
theorem dX8_undo_61 : decode cX8_undo 61 = .ok (.sipush (-1003), 3) := by decide +kernel
theorem dX8_undo_64 : decode cX8_undo 64 = .ok (.ireturn, 1) := by decide +kernel
theorem dX8_undo_65 : decode cX8_undo 65 = .ok (.aload_n 0, 1) := by decide +kernel
theorem dX8_undo_66 : decode cX8_undo 66 = .ok (.getfield 48, 3) := by decide +kernel
theorem dX8_undo_69 : decode cX8_undo 69 = .ok (.iload_n 1, 1) := by decide +kernel
theorem dX8_undo_70 : decode cX8_undo 70 = .ok (.iload_n 2, 1) := by decide +kernel
theorem dX8_undo_71 : decode cX8_undo 71 = .ok (.aload_n 0, 1) := by decide +kernel
theorem dX8_undo_72 : decode cX8_undo 72 = .ok (.getfield 28, 3) := by decide +kernel
theorem dX8_undo_75 : decode cX8_undo 75 = .ok (.invokevirtual 223, 3) := by decide +kernel
theorem dX8_undo_78 : decode cX8_undo 78 = .ok (.aload_n 0, 1) := by decide +kernel
theorem dX8_undo_79 : decode cX8_undo 79 = .ok (.getfield 48, 3) := by decide +kernel
theorem dX8_undo_82 : decode cX8_undo 82 = .ok (.getfield 187, 3) := by decide +kernel
theorem dX8_undo_85 : decode cX8_undo 85 = .ok (.iload_n 1, 1) := by decide +kernel
theorem dX8_undo_86 : decode cX8_undo 86 = .ok (.iaload, 1) := by decide +kernel
theorem dX8_undo_87 : decode cX8_undo 87 = .ok (.invokestatic 214, 3) := by decide +kernel
theorem dX8_undo_90 : decode cX8_undo 90 = .ok (.ireturn, 1) := by decide +kernel
set_option maxRecDepth 20000 in
theorem ggX8_needs_X0_hasLine : GoodIn wsX8_needs wsX0_hasLine := goodIn_r _ [8, 9, 76, 77, 78, 79, 80, 81, 82, 83, 84, 85] (by decide +kernel) (by decide +kernel)
set_option maxRecDepth 20000 in
theorem gX8_needs_X0_hasLine : GoodIn wsX8_needs (wsV RX8 181 RX0 yX0_hasLine wsX0_hasLine) := goodIn_app (goodIn_of _ (by decide +kernel)) ggX8_needs_X0_hasLine
set_option maxRecDepth 20000 in
theorem ggX8_needs_X7_hasChange : GoodIn wsX8_needs wsX7_hasChange := goodIn_r _ [14, 15, 86, 87, 88, 89, 90, 91, 92, 93, 94, 95] (by decide +kernel) (by decide +kernel)
set_option maxRecDepth 20000 in
theorem gX8_needs_X7_hasChange : GoodIn wsX8_needs (wsV RX8 132 RX7 yX7_hasChange wsX7_hasChange) := goodIn_app (goodIn_of _ (by decide +kernel)) ggX8_needs_X7_hasChange
set_option maxRecDepth 20000 in
theorem ggX8_needs_X2_needsOf : GoodIn wsX8_needs wsX2_needsOf := goodIn_r _ [20, 21, 22, 23, 24, 25, 26, 27, 28, 29, 30, 13, 31, 32, 33, 34, 35, 36, 37, 19, 38, 39, 40, 41, 42, 43, 44, 45, 46, 47, 48, 49, 50, 51, 52, 53, 54, 55, 56, 57, 58, 59, 60, 61, 96, 97, 98, 99, 76, 77, 78, 79, 80, 81, 82, 83, 84, 85, 86, 87, 88, 89, 90, 91, 92, 93, 94, 95] (by decide +kernel) (by decide +kernel)
set_option maxRecDepth 20000 in
theorem gX8_needs_X2_needsOf : GoodIn wsX8_needs (wsV RX8 226 RX2 yX2_needsOf wsX2_needsOf) := goodIn_app (goodIn_of _ (by decide +kernel)) ggX8_needs_X2_needsOf
theorem dX8_needs_0 : decode cX8_needs 0 = .ok (.aload_n 0, 1) := by decide +kernel
theorem dX8_needs_1 : decode cX8_needs 1 = .ok (.getfield 48, 3) := by decide +kernel
theorem dX8_needs_4 : decode cX8_needs 4 = .ok (.iload_n 1, 1) := by decide +kernel
theorem dX8_needs_5 : decode cX8_needs 5 = .ok (.invokevirtual 181, 3) := by decide +kernel
theorem dX8_needs_8 : decode cX8_needs 8 = .ok (.ifCond .eq 14, 3) := by decide +kernel
theorem dX8_needs_11 : decode cX8_needs 11 = .ok (.aload_n 0, 1) := by decide +kernel
theorem dX8_needs_12 : decode cX8_needs 12 = .ok (.getfield 28, 3) := by decide +kernel
theorem dX8_needs_15 : decode cX8_needs 15 = .ok (.iload_n 2, 1) := by decide +kernel
theorem dX8_needs_16 : decode cX8_needs 16 = .ok (.invokevirtual 132, 3) := by decide +kernel
theorem dX8_needs_19 : decode cX8_needs 19 = .ok (.ifCond .ne 7, 3) := by decide +kernel
theorem dX8_needs_22 : decode cX8_needs 22 = .ok (.sipush (-1001), 3) := by decide +kernel
theorem dX8_needs_25 : decode cX8_needs 25 = .ok (.ireturn, 1) := by decide +kernel
theorem dX8_needs_26 : decode cX8_needs 26 = .ok (.aload_n 0, 1) := by decide +kernel
theorem dX8_needs_27 : decode cX8_needs 27 = .ok (.getfield 63, 3) := by decide +kernel
theorem dX8_needs_30 : decode cX8_needs 30 = .ok (.iload_n 1, 1) := by decide +kernel
theorem dX8_needs_31 : decode cX8_needs 31 = .ok (.iload_n 2, 1) := by decide +kernel
theorem dX8_needs_32 : decode cX8_needs 32 = .ok (.invokevirtual 226, 3) := by decide +kernel
theorem dX8_needs_35 : decode cX8_needs 35 = .ok (.ireturn, 1) := by decide +kernel
set_option maxRecDepth 20000 in
theorem ggX8_carry_X0_hasLine : GoodIn wsX8_carry wsX0_hasLine := goodIn_r _ [9, 10, 102, 103, 104, 105, 106, 107, 108, 109, 110, 111] (by decide +kernel) (by decide +kernel)
set_option maxRecDepth 20000 in
theorem gX8_carry_X0_hasLine : GoodIn wsX8_carry (wsV RX8 181 RX0 yX0_hasLine wsX0_hasLine) := goodIn_app (goodIn_of _ (by decide +kernel)) ggX8_carry_X0_hasLine
set_option maxRecDepth 20000 in
theorem ggX8_carry_X7_hasChange : GoodIn wsX8_carry wsX7_hasChange := goodIn_r _ [15, 16, 92, 93, 94, 95, 96, 97, 98, 99, 100, 101] (by decide +kernel) (by decide +kernel)
set_option maxRecDepth 20000 in
theorem gX8_carry_X7_hasChange : GoodIn wsX8_carry (wsV RX8 132 RX7 yX7_hasChange wsX7_hasChange) := goodIn_app (goodIn_of _ (by decide +kernel)) ggX8_carry_X7_hasChange
set_option maxRecDepth 20000 in
theorem ggX8_carry_X2_needsOf : GoodIn wsX8_carry wsX2_needsOf := goodIn_r _ [21, 22, 23, 24, 25, 26, 27, 28, 29, 30, 31, 14, 32, 33, 34, 35, 36, 37, 38, 20, 39, 40, 41, 42, 43, 44, 45, 46, 47, 48, 49, 50, 51, 52, 53, 54, 55, 56, 57, 58, 59, 60, 61, 62, 112, 113, 114, 115, 102, 103, 104, 105, 106, 107, 108, 109, 110, 111, 92, 93, 94, 95, 96, 97, 98, 99, 100, 101] (by decide +kernel) (by decide +kernel)
set_option maxRecDepth 20000 in
theorem gX8_carry_X2_needsOf : GoodIn wsX8_carry (wsV RX8 226 RX2 yX2_needsOf wsX2_needsOf) := goodIn_app (goodIn_of _ (by decide +kernel)) ggX8_carry_X2_needsOf
set_option maxRecDepth 20000 in
theorem ggX8_carry_X8_has : GoodIn wsX8_carry wsX8_has := goodIn_r _ [28] (by decide +kernel) (by decide +kernel)
set_option maxRecDepth 20000 in
theorem gX8_carry_X8_has : GoodIn wsX8_carry (va_wsS RX8 202 yX8_has wsX8_has) := goodIn_app (goodIn_of _ (by decide +kernel)) ggX8_carry_X8_has
set_option maxRecDepth 20000 in
theorem ggX8_carry_X0_putOn : GoodIn wsX8_carry wsX0_putOn := goodIn_r _ [67, 68, 69, 70, 59, 60, 14, 61, 33, 62, 26, 27, 28, 102, 103, 104, 105, 106, 107, 108, 109, 110, 111, 92, 93, 94, 95, 96, 97, 98, 99, 100, 101] (by decide +kernel) (by decide +kernel)
set_option maxRecDepth 20000 in
theorem gX8_carry_X0_putOn : GoodIn wsX8_carry (wsV RX8 210 RX0 yX0_putOn wsX0_putOn) := goodIn_app (goodIn_of _ (by decide +kernel)) ggX8_carry_X0_putOn
set_option maxRecDepth 20000 in
theorem ggX8_carry_J6_bitCount_0f7a4 : GoodIn wsX8_carry wsJ6_bitCount_0f7a4 := goodIn_r _ [74, 75, 76, 77] (by decide +kernel) (by decide +kernel)
set_option maxRecDepth 20000 in
theorem gX8_carry_J6_bitCount_0f7a4 : GoodIn wsX8_carry (va_wsS RX8 214 yJ6_bitCount_0f7a4 wsJ6_bitCount_0f7a4) := goodIn_app (goodIn_of _ (by decide +kernel)) ggX8_carry_J6_bitCount_0f7a4
theorem dX8_carry_0 : decode cX8_carry 0 = .ok (.aload_n 0, 1) := by decide +kernel
theorem dX8_carry_1 : decode cX8_carry 1 = .ok (.getfield 48, 3) := by decide +kernel
theorem dX8_carry_4 : decode cX8_carry 4 = .ok (.iload_n 1, 1) := by decide +kernel
theorem dX8_carry_5 : decode cX8_carry 5 = .ok (.invokevirtual 181, 3) := by decide +kernel
theorem dX8_carry_8 : decode cX8_carry 8 = .ok (.ifCond .eq 14, 3) := by decide +kernel
theorem dX8_carry_11 : decode cX8_carry 11 = .ok (.aload_n 0, 1) := by decide +kernel
theorem dX8_carry_12 : decode cX8_carry 12 = .ok (.getfield 28, 3) := by decide +kernel
theorem dX8_carry_15 : decode cX8_carry 15 = .ok (.iload_n 2, 1) := by decide +kernel
theorem dX8_carry_16 : decode cX8_carry 16 = .ok (.invokevirtual 132, 3) := by decide +kernel
theorem dX8_carry_19 : decode cX8_carry 19 = .ok (.ifCond .ne 7, 3) := by decide +kernel
theorem dX8_carry_22 : decode cX8_carry 22 = .ok (.sipush (-1001), 3) := by decide +kernel
theorem dX8_carry_25 : decode cX8_carry 25 = .ok (.ireturn, 1) := by decide +kernel
theorem dX8_carry_26 : decode cX8_carry 26 = .ok (.aload_n 0, 1) := by decide +kernel
theorem dX8_carry_27 : decode cX8_carry 27 = .ok (.getfield 63, 3) := by decide +kernel
theorem dX8_carry_30 : decode cX8_carry 30 = .ok (.iload_n 1, 1) := by decide +kernel
theorem dX8_carry_31 : decode cX8_carry 31 = .ok (.iload_n 2, 1) := by decide +kernel
theorem dX8_carry_32 : decode cX8_carry 32 = .ok (.invokevirtual 226, 3) := by decide +kernel
theorem dX8_carry_35 : decode cX8_carry 35 = .ok (.istore_n 3, 1) := by decide +kernel
theorem dX8_carry_36 : decode cX8_carry 36 = .ok (.iload_n 3, 1) := by decide +kernel
theorem dX8_carry_37 : decode cX8_carry 37 = .ok (.iconst (-1), 1) := by decide +kernel
theorem dX8_carry_38 : decode cX8_carry 38 = .ok (.if_icmp .ne 7, 3) := by decide +kernel
theorem dX8_carry_41 : decode cX8_carry 41 = .ok (.sipush (-1003), 3) := by decide +kernel
theorem dX8_carry_44 : decode cX8_carry 44 = .ok (.ireturn, 1) := by decide +kernel
theorem dX8_carry_45 : decode cX8_carry 45 = .ok (.iload_n 3, 1) := by decide +kernel
theorem dX8_carry_46 : decode cX8_carry 46 = .ok (.iconst 1, 1) := by decide +kernel
theorem dX8_carry_47 : decode cX8_carry 47 = .ok (.iload_n 2, 1) := by decide +kernel
theorem dX8_carry_48 : decode cX8_carry 48 = .ok (.ishl, 1) := by decide +kernel
theorem dX8_carry_49 : decode cX8_carry 49 = .ok (.ior, 1) := by decide +kernel
theorem dX8_carry_50 : decode cX8_carry 50 = .ok (.istore 4, 2) := by decide +kernel
theorem dX8_carry_52 : decode cX8_carry 52 = .ok (.iconst 0, 1) := by decide +kernel
theorem dX8_carry_53 : decode cX8_carry 53 = .ok (.istore 5, 2) := by decide +kernel
theorem dX8_carry_55 : decode cX8_carry 55 = .ok (.iload 5, 2) := by decide +kernel
theorem dX8_carry_57 : decode cX8_carry 57 = .ok (.aload_n 0, 1) := by decide +kernel
theorem dX8_carry_58 : decode cX8_carry 58 = .ok (.getfield 28, 3) := by decide +kernel
theorem dX8_carry_61 : decode cX8_carry 61 = .ok (.getfield 122, 3) := by decide +kernel
theorem dX8_carry_64 : decode cX8_carry 64 = .ok (.if_icmp .ge 33, 3) := by decide +kernel
theorem dX8_carry_67 : decode cX8_carry 67 = .ok (.iload 4, 2) := by decide +kernel
theorem dX8_carry_69 : decode cX8_carry 69 = .ok (.iload 5, 2) := by decide +kernel
theorem dX8_carry_71 : decode cX8_carry 71 = .ok (.invokestatic 202, 3) := by decide +kernel
theorem dX8_carry_74 : decode cX8_carry 74 = .ok (.ifCond .eq 17, 3) := by decide +kernel
theorem dX8_carry_77 : decode cX8_carry 77 = .ok (.aload_n 0, 1) := by decide +kernel
theorem dX8_carry_78 : decode cX8_carry 78 = .ok (.getfield 48, 3) := by decide +kernel
theorem dX8_carry_81 : decode cX8_carry 81 = .ok (.iload_n 1, 1) := by decide +kernel
theorem dX8_carry_82 : decode cX8_carry 82 = .ok (.iload 5, 2) := by decide +kernel
theorem dX8_carry_84 : decode cX8_carry 84 = .ok (.aload_n 0, 1) := by decide +kernel
theorem dX8_carry_85 : decode cX8_carry 85 = .ok (.getfield 28, 3) := by decide +kernel
theorem dX8_carry_88 : decode cX8_carry 88 = .ok (.invokevirtual 210, 3) := by decide +kernel
theorem dX8_carry_91 : decode cX8_carry 91 = .ok (.iinc 5 1, 3) := by decide +kernel
theorem dX8_carry_94 : decode cX8_carry 94 = .ok (.goto (-39), 3) := by decide +kernel
theorem dX8_carry_97 : decode cX8_carry 97 = .ok (.iload 4, 2) := by decide +kernel
theorem dX8_carry_99 : decode cX8_carry 99 = .ok (.invokestatic 214, 3) := by decide +kernel
theorem dX8_carry_102 : decode cX8_carry 102 = .ok (.ireturn, 1) := by decide +kernel
set_option maxRecDepth 20000 in
theorem ggX8_apart_X0_hasLine : GoodIn wsX8_apart wsX0_hasLine := goodIn_r _ [9, 10, 69, 70, 71, 72, 73, 74, 75, 76, 77, 78] (by decide +kernel) (by decide +kernel)
set_option maxRecDepth 20000 in
theorem gX8_apart_X0_hasLine : GoodIn wsX8_apart (wsV RX8 181 RX0 yX0_hasLine wsX0_hasLine) := goodIn_app (goodIn_of _ (by decide +kernel)) ggX8_apart_X0_hasLine
set_option maxRecDepth 20000 in
theorem ggX8_apart_X7_hasChange : GoodIn wsX8_apart wsX7_hasChange := goodIn_r _ [15, 16, 79, 80, 81, 82, 83, 84, 85, 86, 87, 88] (by decide +kernel) (by decide +kernel)
set_option maxRecDepth 20000 in
theorem gX8_apart_X7_hasChange : GoodIn wsX8_apart (wsV RX8 132 RX7 yX7_hasChange wsX7_hasChange) := goodIn_app (goodIn_of _ (by decide +kernel)) ggX8_apart_X7_hasChange
set_option maxRecDepth 20000 in
theorem ggX8_apart_X8_has : GoodIn wsX8_apart wsX8_has := goodIn_r _ [20] (by decide +kernel) (by decide +kernel)
set_option maxRecDepth 20000 in
theorem gX8_apart_X8_has : GoodIn wsX8_apart (va_wsS RX8 202 yX8_has wsX8_has) := goodIn_app (goodIn_of _ (by decide +kernel)) ggX8_apart_X8_has
set_option maxRecDepth 20000 in
theorem ggX8_apart_X2_areApart : GoodIn wsX8_apart wsX2_areApart := goodIn_r _ [25, 26, 27, 28, 29, 30, 24, 31, 32, 33, 34, 35, 36, 37, 38, 39, 40, 41, 42, 43, 44, 45, 14, 46, 47, 48, 49, 18, 19, 20, 50, 51, 52, 53, 54, 89, 90, 91, 92, 69, 70, 71, 72, 73, 74, 75, 76, 77, 78, 79, 80, 81, 82, 83, 84, 85, 86, 87, 88] (by decide +kernel) (by decide +kernel)
set_option maxRecDepth 20000 in
theorem gX8_apart_X2_areApart : GoodIn wsX8_apart (wsV RX8 230 RX2 yX2_areApart wsX2_areApart) := goodIn_app (goodIn_of _ (by decide +kernel)) ggX8_apart_X2_areApart
theorem dX8_apart_0 : decode cX8_apart 0 = .ok (.aload_n 0, 1) := by decide +kernel
theorem dX8_apart_1 : decode cX8_apart 1 = .ok (.getfield 48, 3) := by decide +kernel
theorem dX8_apart_4 : decode cX8_apart 4 = .ok (.iload_n 1, 1) := by decide +kernel
theorem dX8_apart_5 : decode cX8_apart 5 = .ok (.invokevirtual 181, 3) := by decide +kernel
theorem dX8_apart_8 : decode cX8_apart 8 = .ok (.ifCond .eq 30, 3) := by decide +kernel
theorem dX8_apart_11 : decode cX8_apart 11 = .ok (.aload_n 0, 1) := by decide +kernel
theorem dX8_apart_12 : decode cX8_apart 12 = .ok (.getfield 28, 3) := by decide +kernel
theorem dX8_apart_15 : decode cX8_apart 15 = .ok (.iload_n 2, 1) := by decide +kernel
theorem dX8_apart_16 : decode cX8_apart 16 = .ok (.invokevirtual 132, 3) := by decide +kernel
theorem dX8_apart_19 : decode cX8_apart 19 = .ok (.ifCond .eq 19, 3) := by decide +kernel
theorem dX8_apart_22 : decode cX8_apart 22 = .ok (.aload_n 0, 1) := by decide +kernel
theorem dX8_apart_23 : decode cX8_apart 23 = .ok (.getfield 28, 3) := by decide +kernel
theorem dX8_apart_26 : decode cX8_apart 26 = .ok (.iload_n 3, 1) := by decide +kernel
theorem dX8_apart_27 : decode cX8_apart 27 = .ok (.invokevirtual 132, 3) := by decide +kernel
theorem dX8_apart_30 : decode cX8_apart 30 = .ok (.ifCond .eq 8, 3) := by decide +kernel
theorem dX8_apart_33 : decode cX8_apart 33 = .ok (.iload_n 2, 1) := by decide +kernel
theorem dX8_apart_34 : decode cX8_apart 34 = .ok (.iload_n 3, 1) := by decide +kernel
theorem dX8_apart_35 : decode cX8_apart 35 = .ok (.if_icmp .ne 7, 3) := by decide +kernel
theorem dX8_apart_38 : decode cX8_apart 38 = .ok (.sipush (-1001), 3) := by decide +kernel
theorem dX8_apart_41 : decode cX8_apart 41 = .ok (.ireturn, 1) := by decide +kernel
theorem dX8_apart_42 : decode cX8_apart 42 = .ok (.aload_n 0, 1) := by decide +kernel
theorem dX8_apart_43 : decode cX8_apart 43 = .ok (.getfield 48, 3) := by decide +kernel
theorem dX8_apart_46 : decode cX8_apart 46 = .ok (.getfield 187, 3) := by decide +kernel
theorem dX8_apart_49 : decode cX8_apart 49 = .ok (.iload_n 1, 1) := by decide +kernel
theorem dX8_apart_50 : decode cX8_apart 50 = .ok (.iaload, 1) := by decide +kernel
theorem dX8_apart_51 : decode cX8_apart 51 = .ok (.iload_n 2, 1) := by decide +kernel
theorem dX8_apart_52 : decode cX8_apart 52 = .ok (.invokestatic 202, 3) := by decide +kernel
theorem dX8_apart_55 : decode cX8_apart 55 = .ok (.ifCond .ne 19, 3) := by decide +kernel
theorem dX8_apart_58 : decode cX8_apart 58 = .ok (.aload_n 0, 1) := by decide +kernel
theorem dX8_apart_59 : decode cX8_apart 59 = .ok (.getfield 48, 3) := by decide +kernel
theorem dX8_apart_62 : decode cX8_apart 62 = .ok (.getfield 187, 3) := by decide +kernel
theorem dX8_apart_65 : decode cX8_apart 65 = .ok (.iload_n 1, 1) := by decide +kernel
theorem dX8_apart_66 : decode cX8_apart 66 = .ok (.iaload, 1) := by decide +kernel
theorem dX8_apart_67 : decode cX8_apart 67 = .ok (.iload_n 3, 1) := by decide +kernel
theorem dX8_apart_68 : decode cX8_apart 68 = .ok (.invokestatic 202, 3) := by decide +kernel
theorem dX8_apart_71 : decode cX8_apart 71 = .ok (.ifCond .eq 7, 3) := by decide +kernel
theorem dX8_apart_74 : decode cX8_apart 74 = .ok (.sipush (-1003), 3) := by decide +kernel
theorem dX8_apart_77 : decode cX8_apart 77 = .ok (.ireturn, 1) := by decide +kernel
theorem dX8_apart_78 : decode cX8_apart 78 = .ok (.aload_n 0, 1) := by decide +kernel
theorem dX8_apart_79 : decode cX8_apart 79 = .ok (.getfield 63, 3) := by decide +kernel
theorem dX8_apart_82 : decode cX8_apart 82 = .ok (.iload_n 1, 1) := by decide +kernel
theorem dX8_apart_83 : decode cX8_apart 83 = .ok (.iload_n 2, 1) := by decide +kernel
theorem dX8_apart_84 : decode cX8_apart 84 = .ok (.iload_n 3, 1) := by decide +kernel
theorem dX8_apart_85 : decode cX8_apart 85 = .ok (.invokevirtual 230, 3) := by decide +kernel
theorem dX8_apart_88 : decode cX8_apart 88 = .ok (.ifCond .eq 7, 3) := by decide +kernel
theorem dX8_apart_91 : decode cX8_apart 91 = .ok (.iconst 1, 1) := by decide +kernel
theorem dX8_apart_92 : decode cX8_apart 92 = .ok (.goto 4, 3) := by decide +kernel
theorem dX8_apart_95 : decode cX8_apart 95 = .ok (.iconst 0, 1) := by decide +kernel
theorem dX8_apart_96 : decode cX8_apart 96 = .ok (.ireturn, 1) := by decide +kernel
set_option maxRecDepth 20000 in
theorem ggX8_cost_X0_hasLine : GoodIn wsX8_cost wsX0_hasLine := goodIn_r _ [8, 9, 110, 111, 112, 113, 114, 115, 116, 117, 118, 119] (by decide +kernel) (by decide +kernel)
set_option maxRecDepth 20000 in
theorem gX8_cost_X0_hasLine : GoodIn wsX8_cost (wsV RX8 181 RX0 yX0_hasLine wsX0_hasLine) := goodIn_app (goodIn_of _ (by decide +kernel)) ggX8_cost_X0_hasLine
set_option maxRecDepth 20000 in
theorem ggX8_cost_X7_hasFaults : GoodIn wsX8_cost wsX7_hasFaults := goodIn_r _ [14, 15, 16, 17, 18, 120, 121, 122, 123, 124, 125, 126, 127, 128, 129] (by decide +kernel) (by decide +kernel)
set_option maxRecDepth 20000 in
theorem gX8_cost_X7_hasFaults : GoodIn wsX8_cost (wsV RX8 234 RX7 yX7_hasFaults wsX7_hasFaults) := goodIn_app (goodIn_of _ (by decide +kernel)) ggX8_cost_X7_hasFaults
set_option maxRecDepth 20000 in
theorem ggX8_cost_X1_lookAt : GoodIn wsX8_cost wsX1_lookAt := goodIn_r _ [23, 24, 25, 26, 27, 28, 29, 30, 31, 32, 33, 34, 13, 35, 15, 36, 37, 17, 38, 39, 40, 41, 42, 43, 44, 45, 46, 47, 48, 49, 50, 51, 52, 53, 54, 55, 56, 57, 58, 59, 60, 61, 62, 63, 64, 65, 66, 67, 68, 69, 70, 71, 72, 73, 74, 75, 76, 77, 78, 79, 80, 81, 82, 83, 84, 85, 86, 130, 131, 132, 133, 134, 135, 136, 137, 138, 139, 140, 141, 110, 111, 112, 113, 114, 115, 116, 117, 118, 119, 120, 121, 122, 123, 124, 125, 126, 127, 128, 129] (by decide +kernel) (by decide +kernel)
set_option maxRecDepth 20000 in
theorem gX8_cost_X1_lookAt : GoodIn wsX8_cost (wsV RX8 237 RX1 yX1_lookAt wsX1_lookAt) := goodIn_app (goodIn_of _ (by decide +kernel)) ggX8_cost_X1_lookAt
set_option maxRecDepth 20000 in
theorem ggX8_cost_X1_costOf : GoodIn wsX8_cost wsX1_costOf := goodIn_r _ [90, 25, 27, 24, 91, 92, 93, 22, 94, 26, 29, 31, 37, 17, 38, 95, 69, 70, 47, 71, 72, 51, 73, 74, 75, 76, 77, 49, 52, 78, 79, 80, 81, 53, 54, 55, 13, 56, 57, 58, 59, 82, 83, 84, 85, 86, 130, 131, 132, 133, 134, 135, 136, 137, 120, 121, 122, 123, 124, 125, 126, 127, 128, 129, 138, 139, 140, 141, 110, 111, 112, 113, 114, 115, 116, 117, 118, 119] (by decide +kernel) (by decide +kernel)
set_option maxRecDepth 20000 in
theorem gX8_cost_X1_costOf : GoodIn wsX8_cost (wsV RX8 241 RX1 yX1_costOf wsX1_costOf) := goodIn_app (goodIn_of _ (by decide +kernel)) ggX8_cost_X1_costOf
theorem dX8_cost_0 : decode cX8_cost 0 = .ok (.aload_n 0, 1) := by decide +kernel
theorem dX8_cost_1 : decode cX8_cost 1 = .ok (.getfield 48, 3) := by decide +kernel
theorem dX8_cost_4 : decode cX8_cost 4 = .ok (.iload_n 1, 1) := by decide +kernel
theorem dX8_cost_5 : decode cX8_cost 5 = .ok (.invokevirtual 181, 3) := by decide +kernel
theorem dX8_cost_8 : decode cX8_cost 8 = .ok (.ifCond .eq 14, 3) := by decide +kernel
theorem dX8_cost_11 : decode cX8_cost 11 = .ok (.aload_n 0, 1) := by decide +kernel
theorem dX8_cost_12 : decode cX8_cost 12 = .ok (.getfield 28, 3) := by decide +kernel
theorem dX8_cost_15 : decode cX8_cost 15 = .ok (.iload_n 2, 1) := by decide +kernel
theorem dX8_cost_16 : decode cX8_cost 16 = .ok (.invokevirtual 234, 3) := by decide +kernel
theorem dX8_cost_19 : decode cX8_cost 19 = .ok (.ifCond .ne 7, 3) := by decide +kernel
theorem dX8_cost_22 : decode cX8_cost 22 = .ok (.sipush (-1001), 3) := by decide +kernel
theorem dX8_cost_25 : decode cX8_cost 25 = .ok (.ireturn, 1) := by decide +kernel
theorem dX8_cost_26 : decode cX8_cost 26 = .ok (.aload_n 0, 1) := by decide +kernel
theorem dX8_cost_27 : decode cX8_cost 27 = .ok (.getfield 72, 3) := by decide +kernel
theorem dX8_cost_30 : decode cX8_cost 30 = .ok (.iload_n 1, 1) := by decide +kernel
theorem dX8_cost_31 : decode cX8_cost 31 = .ok (.iload_n 2, 1) := by decide +kernel
theorem dX8_cost_32 : decode cX8_cost 32 = .ok (.invokevirtual 237, 3) := by decide +kernel
theorem dX8_cost_35 : decode cX8_cost 35 = .ok (.aload_n 0, 1) := by decide +kernel
theorem dX8_cost_36 : decode cX8_cost 36 = .ok (.getfield 72, 3) := by decide +kernel
theorem dX8_cost_39 : decode cX8_cost 39 = .ok (.iload_n 2, 1) := by decide +kernel
theorem dX8_cost_40 : decode cX8_cost 40 = .ok (.invokevirtual 241, 3) := by decide +kernel
theorem dX8_cost_43 : decode cX8_cost 43 = .ok (.ireturn, 1) := by decide +kernel
set_option maxRecDepth 20000 in
theorem ggX8_best_X0_hasLine : GoodIn wsX8_best wsX0_hasLine := goodIn_r _ [12, 13, 158, 159, 160, 161, 162, 163, 164, 165, 166, 167] (by decide +kernel) (by decide +kernel)
set_option maxRecDepth 20000 in
theorem gX8_best_X0_hasLine : GoodIn wsX8_best (wsV RX8 181 RX0 yX0_hasLine wsX0_hasLine) := goodIn_app (goodIn_of _ (by decide +kernel)) ggX8_best_X0_hasLine
set_option maxRecDepth 20000 in
theorem ggX8_best_X8_firstOnes : GoodIn wsX8_best wsX8_firstOnes := goodIn_r _ [17] (by decide +kernel) (by decide +kernel)
set_option maxRecDepth 20000 in
theorem gX8_best_X8_firstOnes : GoodIn wsX8_best (va_wsS RX8 244 yX8_firstOnes wsX8_firstOnes) := goodIn_app (goodIn_of _ (by decide +kernel)) ggX8_best_X8_firstOnes
set_option maxRecDepth 20000 in
theorem ggX8_best_X1_lookAt : GoodIn wsX8_best wsX1_lookAt := goodIn_r _ [22, 23, 24, 25, 26, 27, 28, 29, 30, 31, 32, 33, 34, 35, 36, 37, 38, 16, 39, 40, 41, 42, 43, 44, 45, 46, 47, 48, 49, 50, 51, 52, 53, 54, 55, 56, 57, 58, 59, 60, 61, 62, 63, 64, 65, 66, 67, 68, 69, 70, 71, 72, 73, 74, 75, 76, 77, 78, 79, 80, 81, 82, 83, 84, 85, 86, 87, 150, 151, 152, 153, 154, 155, 156, 157, 168, 169, 170, 171, 158, 159, 160, 161, 162, 163, 164, 165, 166, 167, 140, 141, 142, 143, 144, 145, 146, 147, 148, 149] (by decide +kernel) (by decide +kernel)
set_option maxRecDepth 20000 in
theorem gX8_best_X1_lookAt : GoodIn wsX8_best (wsV RX8 237 RX1 yX1_lookAt wsX1_lookAt) := goodIn_app (goodIn_of _ (by decide +kernel)) ggX8_best_X1_lookAt
set_option maxRecDepth 20000 in
theorem ggX8_best_X1_findBest : GoodIn wsX8_best wsX1_findBest := goodIn_r _ [91, 92, 93, 94, 25, 28, 24, 15, 16, 17, 95, 96, 97, 21, 98, 99, 100, 101, 34, 102, 36, 103, 38, 39, 104, 105, 106, 107, 30, 108, 109, 110, 111, 112, 113, 114, 115, 116, 117, 118, 119, 120, 121, 122, 123, 124, 26, 23, 125, 70, 71, 48, 72, 73, 52, 74, 75, 76, 77, 78, 50, 53, 79, 80, 81, 82, 54, 55, 56, 57, 58, 59, 60, 83, 84, 85, 86, 87, 150, 151, 152, 153, 154, 155, 156, 157, 140, 141, 142, 143, 144, 145, 146, 147, 148, 149, 168, 169, 170, 171, 158, 159, 160, 161, 162, 163, 164, 165, 166, 167] (by decide +kernel) (by decide +kernel)
set_option maxRecDepth 20000 in
theorem gX8_best_X1_findBest : GoodIn wsX8_best (wsV RX8 247 RX1 yX1_findBest wsX1_findBest) := goodIn_app (goodIn_of _ (by decide +kernel)) ggX8_best_X1_findBest
theorem dX8_best_0 : decode cX8_best 0 = .ok (.aload_n 0, 1) := by decide +kernel
theorem dX8_best_1 : decode cX8_best 1 = .ok (.getfield 48, 3) := by decide +kernel
theorem dX8_best_4 : decode cX8_best 4 = .ok (.iload_n 1, 1) := by decide +kernel
theorem dX8_best_5 : decode cX8_best 5 = .ok (.invokevirtual 181, 3) := by decide +kernel
theorem dX8_best_8 : decode cX8_best 8 = .ok (.ifCond .ne 7, 3) := by decide +kernel
theorem dX8_best_11 : decode cX8_best 11 = .ok (.sipush (-1001), 3) := by decide +kernel
theorem dX8_best_14 : decode cX8_best 14 = .ok (.ireturn, 1) := by decide +kernel
theorem dX8_best_15 : decode cX8_best 15 = .ok (.iload_n 2, 1) := by decide +kernel
theorem dX8_best_16 : decode cX8_best 16 = .ok (.ifCond .lt 19, 3) := by decide +kernel
theorem dX8_best_19 : decode cX8_best 19 = .ok (.iload_n 2, 1) := by decide +kernel
theorem dX8_best_20 : decode cX8_best 20 = .ok (.bipush 24, 2) := by decide +kernel
theorem dX8_best_22 : decode cX8_best 22 = .ok (.if_icmp .gt 13, 3) := by decide +kernel
theorem dX8_best_25 : decode cX8_best 25 = .ok (.iload_n 3, 1) := by decide +kernel
theorem dX8_best_26 : decode cX8_best 26 = .ok (.ifCond .lt 9, 3) := by decide +kernel
theorem dX8_best_29 : decode cX8_best 29 = .ok (.iload_n 3, 1) := by decide +kernel
theorem dX8_best_30 : decode cX8_best 30 = .ok (.bipush 99, 2) := by decide +kernel
theorem dX8_best_32 : decode cX8_best 32 = .ok (.if_icmp .le 7, 3) := by decide +kernel
theorem dX8_best_35 : decode cX8_best 35 = .ok (.sipush (-1002), 3) := by decide +kernel
theorem dX8_best_38 : decode cX8_best 38 = .ok (.ireturn, 1) := by decide +kernel
theorem dX8_best_39 : decode cX8_best 39 = .ok (.iload 4, 2) := by decide +kernel
theorem dX8_best_41 : decode cX8_best 41 = .ok (.ifCond .lt 9, 3) := by decide +kernel
theorem dX8_best_44 : decode cX8_best 44 = .ok (.iload 4, 2) := by decide +kernel
theorem dX8_best_46 : decode cX8_best 46 = .ok (.iconst 2, 1) := by decide +kernel
theorem dX8_best_47 : decode cX8_best 47 = .ok (.if_icmp .le 7, 3) := by decide +kernel
theorem dX8_best_50 : decode cX8_best 50 = .ok (.sipush (-1002), 3) := by decide +kernel
theorem dX8_best_53 : decode cX8_best 53 = .ok (.ireturn, 1) := by decide +kernel
theorem dX8_best_54 : decode cX8_best 54 = .ok (.aload_n 0, 1) := by decide +kernel
theorem dX8_best_55 : decode cX8_best 55 = .ok (.getfield 72, 3) := by decide +kernel
theorem dX8_best_58 : decode cX8_best 58 = .ok (.iload_n 1, 1) := by decide +kernel
theorem dX8_best_59 : decode cX8_best 59 = .ok (.aload_n 0, 1) := by decide +kernel
theorem dX8_best_60 : decode cX8_best 60 = .ok (.getfield 28, 3) := by decide +kernel
theorem dX8_best_63 : decode cX8_best 63 = .ok (.getfield 174, 3) := by decide +kernel
theorem dX8_best_66 : decode cX8_best 66 = .ok (.invokestatic 244, 3) := by decide +kernel
theorem dX8_best_69 : decode cX8_best 69 = .ok (.invokevirtual 237, 3) := by decide +kernel
theorem dX8_best_72 : decode cX8_best 72 = .ok (.aload_n 0, 1) := by decide +kernel
theorem dX8_best_73 : decode cX8_best 73 = .ok (.getfield 72, 3) := by decide +kernel
theorem dX8_best_76 : decode cX8_best 76 = .ok (.iload_n 2, 1) := by decide +kernel
theorem dX8_best_77 : decode cX8_best 77 = .ok (.iload_n 3, 1) := by decide +kernel
theorem dX8_best_78 : decode cX8_best 78 = .ok (.invokevirtual 247, 3) := by decide +kernel
theorem dX8_best_81 : decode cX8_best 81 = .ok (.iload 4, 2) := by decide +kernel
theorem dX8_best_83 : decode cX8_best 83 = .ok (.ifCond .ne 11, 3) := by decide +kernel
theorem dX8_best_86 : decode cX8_best 86 = .ok (.aload_n 0, 1) := by decide +kernel
theorem dX8_best_87 : decode cX8_best 87 = .ok (.getfield 72, 3) := by decide +kernel
theorem dX8_best_90 : decode cX8_best 90 = .ok (.getfield 250, 3) := by decide +kernel
theorem dX8_best_93 : decode cX8_best 93 = .ok (.ireturn, 1) := by decide +kernel
theorem dX8_best_94 : decode cX8_best 94 = .ok (.iload 4, 2) := by decide +kernel
theorem dX8_best_96 : decode cX8_best 96 = .ok (.iconst 1, 1) := by decide +kernel
theorem dX8_best_97 : decode cX8_best 97 = .ok (.if_icmp .ne 13, 3) := by decide +kernel
theorem dX8_best_100 : decode cX8_best 100 = .ok (.aload_n 0, 1) := by decide +kernel
theorem dX8_best_101 : decode cX8_best 101 = .ok (.getfield 72, 3) := by decide +kernel
theorem dX8_best_104 : decode cX8_best 104 = .ok (.getfield 253, 3) := by decide +kernel
theorem dX8_best_107 : decode cX8_best 107 = .ok (.goto 10, 3) := by decide +kernel
theorem dX8_best_110 : decode cX8_best 110 = .ok (.aload_n 0, 1) := by decide +kernel
theorem dX8_best_111 : decode cX8_best 111 = .ok (.getfield 72, 3) := by decide +kernel
theorem dX8_best_114 : decode cX8_best 114 = .ok (.getfield 256, 3) := by decide +kernel
theorem dX8_best_117 : decode cX8_best 117 = .ok (.ireturn, 1) := by decide +kernel
set_option maxRecDepth 20000 in
theorem ggX8_later_X0_hasLine : GoodIn wsX8_later wsX0_hasLine := goodIn_r _ [14, 15, 57, 58, 59, 60, 61, 62, 63, 64, 65, 66] (by decide +kernel) (by decide +kernel)
set_option maxRecDepth 20000 in
theorem gX8_later_X0_hasLine : GoodIn wsX8_later (wsV RX8 181 RX0 yX0_hasLine wsX0_hasLine) := goodIn_app (goodIn_of _ (by decide +kernel)) ggX8_later_X0_hasLine
set_option maxRecDepth 20000 in
theorem ggX8_later_X7_weightIn : GoodIn wsX8_later wsX7_weightIn := goodIn_r _ [20, 21, 22, 23, 19, 24, 25, 26, 27, 28, 29, 30, 31, 32, 33, 34, 35, 36, 37, 38, 39, 67, 68, 69, 70, 71, 72, 73, 74, 75, 76] (by decide +kernel) (by decide +kernel)
set_option maxRecDepth 20000 in
theorem gX8_later_X7_weightIn : GoodIn wsX8_later (wsV RX8 264 RX7 yX7_weightIn wsX7_weightIn) := goodIn_app (goodIn_of _ (by decide +kernel)) ggX8_later_X7_weightIn
set_option maxRecDepth 20000 in
theorem ggX8_later_X8_firstOnes : GoodIn wsX8_later wsX8_firstOnes := goodIn_r _ [42] (by decide +kernel) (by decide +kernel)
set_option maxRecDepth 20000 in
theorem gX8_later_X8_firstOnes : GoodIn wsX8_later (va_wsS RX8 244 yX8_firstOnes wsX8_firstOnes) := goodIn_app (goodIn_of _ (by decide +kernel)) ggX8_later_X8_firstOnes
theorem dX8_later_0 : decode cX8_later 0 = .ok (.aload_n 0, 1) := by decide +kernel
theorem dX8_later_1 : decode cX8_later 1 = .ok (.getfield 48, 3) := by decide +kernel
theorem dX8_later_4 : decode cX8_later 4 = .ok (.iload_n 1, 1) := by decide +kernel
theorem dX8_later_5 : decode cX8_later 5 = .ok (.invokevirtual 181, 3) := by decide +kernel
theorem dX8_later_8 : decode cX8_later 8 = .ok (.ifCond .ne 7, 3) := by decide +kernel
theorem dX8_later_11 : decode cX8_later 11 = .ok (.sipush (-1001), 3) := by decide +kernel
theorem dX8_later_14 : decode cX8_later 14 = .ok (.ireturn, 1) := by decide +kernel
theorem dX8_later_15 : decode cX8_later 15 = .ok (.iload_n 2, 1) := by decide +kernel
theorem dX8_later_16 : decode cX8_later 16 = .ok (.ifCond .lt 9, 3) := by decide +kernel
theorem dX8_later_19 : decode cX8_later 19 = .ok (.iload_n 2, 1) := by decide +kernel
theorem dX8_later_20 : decode cX8_later 20 = .ok (.bipush 24, 2) := by decide +kernel
theorem dX8_later_22 : decode cX8_later 22 = .ok (.if_icmp .le 7, 3) := by decide +kernel
theorem dX8_later_25 : decode cX8_later 25 = .ok (.sipush (-1002), 3) := by decide +kernel
theorem dX8_later_28 : decode cX8_later 28 = .ok (.ireturn, 1) := by decide +kernel
theorem dX8_later_29 : decode cX8_later 29 = .ok (.aload_n 0, 1) := by decide +kernel
theorem dX8_later_30 : decode cX8_later 30 = .ok (.getfield 48, 3) := by decide +kernel
theorem dX8_later_33 : decode cX8_later 33 = .ok (.getfield 184, 3) := by decide +kernel
theorem dX8_later_36 : decode cX8_later 36 = .ok (.iload_n 1, 1) := by decide +kernel
theorem dX8_later_37 : decode cX8_later 37 = .ok (.iaload, 1) := by decide +kernel
theorem dX8_later_38 : decode cX8_later 38 = .ok (.iload_n 2, 1) := by decide +kernel
theorem dX8_later_39 : decode cX8_later 39 = .ok (.iadd, 1) := by decide +kernel
theorem dX8_later_40 : decode cX8_later 40 = .ok (.aload_n 0, 1) := by decide +kernel
theorem dX8_later_41 : decode cX8_later 41 = .ok (.getfield 28, 3) := by decide +kernel
theorem dX8_later_44 : decode cX8_later 44 = .ok (.getfield 122, 3) := by decide +kernel
theorem dX8_later_47 : decode cX8_later 47 = .ok (.invokestatic 259, 3) := by decide +kernel
theorem dX8_later_50 : decode cX8_later 50 = .ok (.istore_n 3, 1) := by decide +kernel
theorem dX8_later_51 : decode cX8_later 51 = .ok (.aload_n 0, 1) := by decide +kernel
theorem dX8_later_52 : decode cX8_later 52 = .ok (.getfield 28, 3) := by decide +kernel
theorem dX8_later_55 : decode cX8_later 55 = .ok (.aload_n 0, 1) := by decide +kernel
theorem dX8_later_56 : decode cX8_later 56 = .ok (.getfield 48, 3) := by decide +kernel
theorem dX8_later_59 : decode cX8_later 59 = .ok (.getfield 187, 3) := by decide +kernel
theorem dX8_later_62 : decode cX8_later 62 = .ok (.iload_n 1, 1) := by decide +kernel
theorem dX8_later_63 : decode cX8_later 63 = .ok (.iaload, 1) := by decide +kernel
theorem dX8_later_64 : decode cX8_later 64 = .ok (.invokevirtual 264, 3) := by decide +kernel
theorem dX8_later_67 : decode cX8_later 67 = .ok (.aload_n 0, 1) := by decide +kernel
theorem dX8_later_68 : decode cX8_later 68 = .ok (.getfield 28, 3) := by decide +kernel
theorem dX8_later_71 : decode cX8_later 71 = .ok (.iload_n 3, 1) := by decide +kernel
theorem dX8_later_72 : decode cX8_later 72 = .ok (.invokestatic 244, 3) := by decide +kernel
theorem dX8_later_75 : decode cX8_later 75 = .ok (.invokevirtual 264, 3) := by decide +kernel
theorem dX8_later_78 : decode cX8_later 78 = .ok (.isub, 1) := by decide +kernel
theorem dX8_later_79 : decode cX8_later 79 = .ok (.ireturn, 1) := by decide +kernel
set_option maxRecDepth 20000 in
theorem ggX8_release_X0_hasLine : GoodIn wsX8_release wsX0_hasLine := goodIn_r _ [7, 8, 46, 47, 48, 49, 50, 51, 52, 53, 54, 55] (by decide +kernel) (by decide +kernel)
set_option maxRecDepth 20000 in
theorem gX8_release_X0_hasLine : GoodIn wsX8_release (wsV RX8 181 RX0 yX0_hasLine wsX0_hasLine) := goodIn_app (goodIn_of _ (by decide +kernel)) ggX8_release_X0_hasLine
set_option maxRecDepth 20000 in
theorem ggX8_release_X8_isDay : GoodIn wsX8_release wsX8_isDay := goodIn_r _ [12] (by decide +kernel) (by decide +kernel)
set_option maxRecDepth 20000 in
theorem gX8_release_X8_isDay : GoodIn wsX8_release (va_wsS RX8 267 yX8_isDay wsX8_isDay) := goodIn_app (goodIn_of _ (by decide +kernel)) ggX8_release_X8_isDay
set_option maxRecDepth 20000 in
theorem ggX8_release_X0_lastDay : GoodIn wsX8_release wsX0_lastDay := goodIn_r _ [16, 17, 18, 46, 47, 48, 49, 50, 51, 52, 53, 54, 55] (by decide +kernel) (by decide +kernel)
set_option maxRecDepth 20000 in
theorem gX8_release_X0_lastDay : GoodIn wsX8_release (wsV RX8 270 RX0 yX0_lastDay wsX0_lastDay) := goodIn_app (goodIn_of _ (by decide +kernel)) ggX8_release_X0_lastDay
set_option maxRecDepth 20000 in
theorem ggX8_release_X0_addRelease : GoodIn wsX8_release wsX0_addRelease := goodIn_r _ [22, 17, 23, 18, 24, 25, 26, 27, 28, 29, 30, 31, 46, 47, 48, 49, 50, 51, 52, 53, 54, 55] (by decide +kernel) (by decide +kernel)
set_option maxRecDepth 20000 in
theorem gX8_release_X0_addRelease : GoodIn wsX8_release (wsV RX8 274 RX0 yX0_addRelease wsX0_addRelease) := goodIn_app (goodIn_of _ (by decide +kernel)) ggX8_release_X0_addRelease
theorem dX8_release_0 : decode cX8_release 0 = .ok (.aload_n 0, 1) := by decide +kernel
theorem dX8_release_1 : decode cX8_release 1 = .ok (.getfield 48, 3) := by decide +kernel
theorem dX8_release_4 : decode cX8_release 4 = .ok (.iload_n 1, 1) := by decide +kernel
theorem dX8_release_5 : decode cX8_release 5 = .ok (.invokevirtual 181, 3) := by decide +kernel
theorem dX8_release_8 : decode cX8_release 8 = .ok (.ifCond .ne 7, 3) := by decide +kernel
theorem dX8_release_11 : decode cX8_release 11 = .ok (.sipush (-1001), 3) := by decide +kernel
theorem dX8_release_14 : decode cX8_release 14 = .ok (.ireturn, 1) := by decide +kernel
theorem dX8_release_15 : decode cX8_release 15 = .ok (.iload_n 2, 1) := by decide +kernel
theorem dX8_release_16 : decode cX8_release 16 = .ok (.invokestatic 267, 3) := by decide +kernel
theorem dX8_release_19 : decode cX8_release 19 = .ok (.ifCond .ne 7, 3) := by decide +kernel
theorem dX8_release_22 : decode cX8_release 22 = .ok (.sipush (-1002), 3) := by decide +kernel
theorem dX8_release_25 : decode cX8_release 25 = .ok (.ireturn, 1) := by decide +kernel
theorem dX8_release_26 : decode cX8_release 26 = .ok (.iload_n 2, 1) := by decide +kernel
theorem dX8_release_27 : decode cX8_release 27 = .ok (.aload_n 0, 1) := by decide +kernel
theorem dX8_release_28 : decode cX8_release 28 = .ok (.getfield 48, 3) := by decide +kernel
theorem dX8_release_31 : decode cX8_release 31 = .ok (.invokevirtual 270, 3) := by decide +kernel
theorem dX8_release_34 : decode cX8_release 34 = .ok (.if_icmp .ge 7, 3) := by decide +kernel
theorem dX8_release_37 : decode cX8_release 37 = .ok (.sipush (-1003), 3) := by decide +kernel
theorem dX8_release_40 : decode cX8_release 40 = .ok (.ireturn, 1) := by decide +kernel
theorem dX8_release_41 : decode cX8_release 41 = .ok (.aload_n 0, 1) := by decide +kernel
theorem dX8_release_42 : decode cX8_release 42 = .ok (.getfield 48, 3) := by decide +kernel
theorem dX8_release_45 : decode cX8_release 45 = .ok (.getfield 119, 3) := by decide +kernel
theorem dX8_release_48 : decode cX8_release 48 = .ok (.bipush 20, 2) := by decide +kernel
theorem dX8_release_50 : decode cX8_release 50 = .ok (.if_icmp .lt 7, 3) := by decide +kernel
theorem dX8_release_53 : decode cX8_release 53 = .ok (.sipush (-1004), 3) := by decide +kernel
theorem dX8_release_56 : decode cX8_release 56 = .ok (.ireturn, 1) := by decide +kernel
theorem dX8_release_57 : decode cX8_release 57 = .ok (.aload_n 0, 1) := by decide +kernel
theorem dX8_release_58 : decode cX8_release 58 = .ok (.getfield 48, 3) := by decide +kernel
theorem dX8_release_61 : decode cX8_release 61 = .ok (.iload_n 1, 1) := by decide +kernel
theorem dX8_release_62 : decode cX8_release 62 = .ok (.iload_n 2, 1) := by decide +kernel
theorem dX8_release_63 : decode cX8_release 63 = .ok (.invokevirtual 274, 3) := by decide +kernel
theorem dX8_release_66 : decode cX8_release 66 = .ok (.ireturn, 1) := by decide +kernel
set_option maxRecDepth 20000 in
theorem ggX8_released_X0_hasRelease : GoodIn wsX8_released wsX0_hasRelease := goodIn_r _ [10, 11, 41, 42, 43, 44, 45, 46, 47, 48, 49, 50] (by decide +kernel) (by decide +kernel)
set_option maxRecDepth 20000 in
theorem gX8_released_X0_hasRelease : GoodIn wsX8_released (wsV RX8 277 RX0 yX0_hasRelease wsX0_hasRelease) := goodIn_app (goodIn_of _ (by decide +kernel)) ggX8_released_X0_hasRelease
set_option maxRecDepth 20000 in
theorem ggX8_released_X7_faultsIn : GoodIn wsX8_released wsX7_faultsIn := goodIn_r _ [16, 17, 18, 19, 20, 21, 22, 23, 24, 15, 25, 26, 51, 52, 53, 54, 55, 56, 57, 58, 59, 60] (by decide +kernel) (by decide +kernel)
set_option maxRecDepth 20000 in
theorem gX8_released_X7_faultsIn : GoodIn wsX8_released (wsV RX8 190 RX7 yX7_faultsIn wsX7_faultsIn) := goodIn_app (goodIn_of _ (by decide +kernel)) ggX8_released_X7_faultsIn
theorem dX8_released_0 : decode cX8_released 0 = .ok (.aload_n 0, 1) := by decide +kernel
theorem dX8_released_1 : decode cX8_released 1 = .ok (.getfield 48, 3) := by decide +kernel
theorem dX8_released_4 : decode cX8_released 4 = .ok (.iload_n 1, 1) := by decide +kernel
theorem dX8_released_5 : decode cX8_released 5 = .ok (.invokevirtual 277, 3) := by decide +kernel
theorem dX8_released_8 : decode cX8_released 8 = .ok (.ifCond .ne 7, 3) := by decide +kernel
theorem dX8_released_11 : decode cX8_released 11 = .ok (.sipush (-1001), 3) := by decide +kernel
theorem dX8_released_14 : decode cX8_released 14 = .ok (.ireturn, 1) := by decide +kernel
theorem dX8_released_15 : decode cX8_released 15 = .ok (.iload_n 2, 1) := by decide +kernel
theorem dX8_released_16 : decode cX8_released 16 = .ok (.tableswitch 79 0 3 #[32, 42, 52, 62], 32) := by decide +kernel
theorem dX8_released_48 : decode cX8_released 48 = .ok (.aload_n 0, 1) := by decide +kernel
theorem dX8_released_49 : decode cX8_released 49 = .ok (.getfield 48, 3) := by decide +kernel
theorem dX8_released_52 : decode cX8_released 52 = .ok (.getfield 280, 3) := by decide +kernel
theorem dX8_released_55 : decode cX8_released 55 = .ok (.iload_n 1, 1) := by decide +kernel
theorem dX8_released_56 : decode cX8_released 56 = .ok (.iaload, 1) := by decide +kernel
theorem dX8_released_57 : decode cX8_released 57 = .ok (.ireturn, 1) := by decide +kernel
theorem dX8_released_58 : decode cX8_released 58 = .ok (.aload_n 0, 1) := by decide +kernel
theorem dX8_released_59 : decode cX8_released 59 = .ok (.getfield 48, 3) := by decide +kernel
theorem dX8_released_62 : decode cX8_released 62 = .ok (.getfield 283, 3) := by decide +kernel
theorem dX8_released_65 : decode cX8_released 65 = .ok (.iload_n 1, 1) := by decide +kernel
theorem dX8_released_66 : decode cX8_released 66 = .ok (.iaload, 1) := by decide +kernel
theorem dX8_released_67 : decode cX8_released 67 = .ok (.ireturn, 1) := by decide +kernel
theorem dX8_released_68 : decode cX8_released 68 = .ok (.aload_n 0, 1) := by decide +kernel
theorem dX8_released_69 : decode cX8_released 69 = .ok (.getfield 48, 3) := by decide +kernel
theorem dX8_released_72 : decode cX8_released 72 = .ok (.getfield 286, 3) := by decide +kernel
theorem dX8_released_75 : decode cX8_released 75 = .ok (.iload_n 1, 1) := by decide +kernel
theorem dX8_released_76 : decode cX8_released 76 = .ok (.iaload, 1) := by decide +kernel
theorem dX8_released_77 : decode cX8_released 77 = .ok (.ireturn, 1) := by decide +kernel
theorem dX8_released_78 : decode cX8_released 78 = .ok (.aload_n 0, 1) := by decide +kernel
theorem dX8_released_79 : decode cX8_released 79 = .ok (.getfield 28, 3) := by decide +kernel
theorem dX8_released_82 : decode cX8_released 82 = .ok (.aload_n 0, 1) := by decide +kernel
theorem dX8_released_83 : decode cX8_released 83 = .ok (.getfield 48, 3) := by decide +kernel
theorem dX8_released_86 : decode cX8_released 86 = .ok (.getfield 286, 3) := by decide +kernel
theorem dX8_released_89 : decode cX8_released 89 = .ok (.iload_n 1, 1) := by decide +kernel
theorem dX8_released_90 : decode cX8_released 90 = .ok (.iaload, 1) := by decide +kernel
theorem dX8_released_91 : decode cX8_released 91 = .ok (.invokevirtual 190, 3) := by decide +kernel
theorem dX8_released_94 : decode cX8_released 94 = .ok (.ireturn, 1) := by decide +kernel
theorem dX8_released_95 : decode cX8_released 95 = .ok (.sipush (-1002), 3) := by decide +kernel
theorem dX8_released_98 : decode cX8_released 98 = .ok (.ireturn, 1) := by decide +kernel
set_option maxRecDepth 20000 in
theorem ggX8_notes_X0_hasRelease : GoodIn wsX8_notes wsX0_hasRelease := goodIn_r _ [8, 9, 39, 40, 41, 42, 43, 44, 45, 46, 47, 48] (by decide +kernel) (by decide +kernel)
set_option maxRecDepth 20000 in
theorem gX8_notes_X0_hasRelease : GoodIn wsX8_notes (wsV RX8 277 RX0 yX0_hasRelease wsX0_hasRelease) := goodIn_app (goodIn_of _ (by decide +kernel)) ggX8_notes_X0_hasRelease
set_option maxRecDepth 20000 in
theorem ggX8_notes_X7_faultsIn : GoodIn wsX8_notes wsX7_faultsIn := goodIn_r _ [14, 15, 16, 17, 18, 19, 20, 21, 22, 13, 23, 24, 49, 50, 51, 52, 53, 54, 55, 56, 57, 58] (by decide +kernel) (by decide +kernel)
set_option maxRecDepth 20000 in
theorem gX8_notes_X7_faultsIn : GoodIn wsX8_notes (wsV RX8 190 RX7 yX7_faultsIn wsX7_faultsIn) := goodIn_app (goodIn_of _ (by decide +kernel)) ggX8_notes_X7_faultsIn
theorem dX8_notes_0 : decode cX8_notes 0 = .ok (.aload_n 0, 1) := by decide +kernel
theorem dX8_notes_1 : decode cX8_notes 1 = .ok (.getfield 48, 3) := by decide +kernel
theorem dX8_notes_4 : decode cX8_notes 4 = .ok (.iload_n 1, 1) := by decide +kernel
theorem dX8_notes_5 : decode cX8_notes 5 = .ok (.invokevirtual 277, 3) := by decide +kernel
theorem dX8_notes_8 : decode cX8_notes 8 = .ok (.ifCond .eq 14, 3) := by decide +kernel
theorem dX8_notes_11 : decode cX8_notes 11 = .ok (.aload_n 0, 1) := by decide +kernel
theorem dX8_notes_12 : decode cX8_notes 12 = .ok (.getfield 48, 3) := by decide +kernel
theorem dX8_notes_15 : decode cX8_notes 15 = .ok (.iload_n 2, 1) := by decide +kernel
theorem dX8_notes_16 : decode cX8_notes 16 = .ok (.invokevirtual 277, 3) := by decide +kernel
theorem dX8_notes_19 : decode cX8_notes 19 = .ok (.ifCond .ne 7, 3) := by decide +kernel
theorem dX8_notes_22 : decode cX8_notes 22 = .ok (.sipush (-1001), 3) := by decide +kernel
theorem dX8_notes_25 : decode cX8_notes 25 = .ok (.ireturn, 1) := by decide +kernel
theorem dX8_notes_26 : decode cX8_notes 26 = .ok (.aload_n 0, 1) := by decide +kernel
theorem dX8_notes_27 : decode cX8_notes 27 = .ok (.getfield 48, 3) := by decide +kernel
theorem dX8_notes_30 : decode cX8_notes 30 = .ok (.getfield 286, 3) := by decide +kernel
theorem dX8_notes_33 : decode cX8_notes 33 = .ok (.iload_n 1, 1) := by decide +kernel
theorem dX8_notes_34 : decode cX8_notes 34 = .ok (.iaload, 1) := by decide +kernel
theorem dX8_notes_35 : decode cX8_notes 35 = .ok (.istore 4, 2) := by decide +kernel
theorem dX8_notes_37 : decode cX8_notes 37 = .ok (.aload_n 0, 1) := by decide +kernel
theorem dX8_notes_38 : decode cX8_notes 38 = .ok (.getfield 48, 3) := by decide +kernel
theorem dX8_notes_41 : decode cX8_notes 41 = .ok (.getfield 286, 3) := by decide +kernel
theorem dX8_notes_44 : decode cX8_notes 44 = .ok (.iload_n 2, 1) := by decide +kernel
theorem dX8_notes_45 : decode cX8_notes 45 = .ok (.iaload, 1) := by decide +kernel
theorem dX8_notes_46 : decode cX8_notes 46 = .ok (.istore 5, 2) := by decide +kernel
theorem dX8_notes_48 : decode cX8_notes 48 = .ok (.iload_n 3, 1) := by decide +kernel
theorem dX8_notes_49 : decode cX8_notes 49 = .ok (.tableswitch 91 0 3 #[31, 39, 47, 69], 31) := by decide +kernel
theorem dX8_notes_80 : decode cX8_notes 80 = .ok (.iload 5, 2) := by decide +kernel
theorem dX8_notes_82 : decode cX8_notes 82 = .ok (.iload 4, 2) := by decide +kernel
theorem dX8_notes_84 : decode cX8_notes 84 = .ok (.iconst (-1), 1) := by decide +kernel
theorem dX8_notes_85 : decode cX8_notes 85 = .ok (.ixor, 1) := by decide +kernel
theorem dX8_notes_86 : decode cX8_notes 86 = .ok (.iand, 1) := by decide +kernel
theorem dX8_notes_87 : decode cX8_notes 87 = .ok (.ireturn, 1) := by decide +kernel
theorem dX8_notes_88 : decode cX8_notes 88 = .ok (.iload 4, 2) := by decide +kernel
theorem dX8_notes_90 : decode cX8_notes 90 = .ok (.iload 5, 2) := by decide +kernel
theorem dX8_notes_92 : decode cX8_notes 92 = .ok (.iconst (-1), 1) := by decide +kernel
theorem dX8_notes_93 : decode cX8_notes 93 = .ok (.ixor, 1) := by decide +kernel
theorem dX8_notes_94 : decode cX8_notes 94 = .ok (.iand, 1) := by decide +kernel
theorem dX8_notes_95 : decode cX8_notes 95 = .ok (.ireturn, 1) := by decide +kernel
theorem dX8_notes_96 : decode cX8_notes 96 = .ok (.aload_n 0, 1) := by decide +kernel
theorem dX8_notes_97 : decode cX8_notes 97 = .ok (.getfield 28, 3) := by decide +kernel
theorem dX8_notes_100 : decode cX8_notes 100 = .ok (.iload 4, 2) := by decide +kernel
theorem dX8_notes_102 : decode cX8_notes 102 = .ok (.invokevirtual 190, 3) := by decide +kernel
theorem dX8_notes_105 : decode cX8_notes 105 = .ok (.aload_n 0, 1) := by decide +kernel
theorem dX8_notes_106 : decode cX8_notes 106 = .ok (.getfield 28, 3) := by decide +kernel
theorem dX8_notes_109 : decode cX8_notes 109 = .ok (.iload 5, 2) := by decide +kernel
theorem dX8_notes_111 : decode cX8_notes 111 = .ok (.invokevirtual 190, 3) := by decide +kernel
theorem dX8_notes_114 : decode cX8_notes 114 = .ok (.iconst (-1), 1) := by decide +kernel
theorem dX8_notes_115 : decode cX8_notes 115 = .ok (.ixor, 1) := by decide +kernel
theorem dX8_notes_116 : decode cX8_notes 116 = .ok (.iand, 1) := by decide +kernel
theorem dX8_notes_117 : decode cX8_notes 117 = .ok (.ireturn, 1) := by decide +kernel
theorem dX8_notes_118 : decode cX8_notes 118 = .ok (.aload_n 0, 1) := by decide +kernel
theorem dX8_notes_119 : decode cX8_notes 119 = .ok (.getfield 28, 3) := by decide +kernel
theorem dX8_notes_122 : decode cX8_notes 122 = .ok (.iload 5, 2) := by decide +kernel
theorem dX8_notes_124 : decode cX8_notes 124 = .ok (.invokevirtual 190, 3) := by decide +kernel
theorem dX8_notes_127 : decode cX8_notes 127 = .ok (.aload_n 0, 1) := by decide +kernel
theorem dX8_notes_128 : decode cX8_notes 128 = .ok (.getfield 28, 3) := by decide +kernel
theorem dX8_notes_131 : decode cX8_notes 131 = .ok (.iload 4, 2) := by decide +kernel
theorem dX8_notes_133 : decode cX8_notes 133 = .ok (.invokevirtual 190, 3) := by decide +kernel
theorem dX8_notes_136 : decode cX8_notes 136 = .ok (.iconst (-1), 1) := by decide +kernel
theorem dX8_notes_137 : decode cX8_notes 137 = .ok (.ixor, 1) := by decide +kernel
theorem dX8_notes_138 : decode cX8_notes 138 = .ok (.iand, 1) := by decide +kernel
theorem dX8_notes_139 : decode cX8_notes 139 = .ok (.ireturn, 1) := by decide +kernel
theorem dX8_notes_140 : decode cX8_notes 140 = .ok (.sipush (-1002), 3) := by decide +kernel
theorem dX8_notes_143 : decode cX8_notes 143 = .ok (.ireturn, 1) := by decide +kernel
set_option maxRecDepth 20000 in
theorem ggX8_differs_X0_hasRelease : GoodIn wsX8_differs wsX0_hasRelease := goodIn_r _ [7, 8, 23, 24, 25, 26, 27, 28, 29, 30, 31, 32] (by decide +kernel) (by decide +kernel)
set_option maxRecDepth 20000 in
theorem gX8_differs_X0_hasRelease : GoodIn wsX8_differs (wsV RX8 277 RX0 yX0_hasRelease wsX0_hasRelease) := goodIn_app (goodIn_of _ (by decide +kernel)) ggX8_differs_X0_hasRelease
theorem dX8_differs_0 : decode cX8_differs 0 = .ok (.aload_n 0, 1) := by decide +kernel
theorem dX8_differs_1 : decode cX8_differs 1 = .ok (.getfield 48, 3) := by decide +kernel
theorem dX8_differs_4 : decode cX8_differs 4 = .ok (.iload_n 1, 1) := by decide +kernel
theorem dX8_differs_5 : decode cX8_differs 5 = .ok (.invokevirtual 277, 3) := by decide +kernel
theorem dX8_differs_8 : decode cX8_differs 8 = .ok (.ifCond .eq 14, 3) := by decide +kernel
theorem dX8_differs_11 : decode cX8_differs 11 = .ok (.aload_n 0, 1) := by decide +kernel
theorem dX8_differs_12 : decode cX8_differs 12 = .ok (.getfield 48, 3) := by decide +kernel
theorem dX8_differs_15 : decode cX8_differs 15 = .ok (.iload_n 2, 1) := by decide +kernel
theorem dX8_differs_16 : decode cX8_differs 16 = .ok (.invokevirtual 277, 3) := by decide +kernel
theorem dX8_differs_19 : decode cX8_differs 19 = .ok (.ifCond .ne 7, 3) := by decide +kernel
theorem dX8_differs_22 : decode cX8_differs 22 = .ok (.sipush (-1001), 3) := by decide +kernel
theorem dX8_differs_25 : decode cX8_differs 25 = .ok (.ireturn, 1) := by decide +kernel
theorem dX8_differs_26 : decode cX8_differs 26 = .ok (.iconst 0, 1) := by decide +kernel
theorem dX8_differs_27 : decode cX8_differs 27 = .ok (.istore_n 3, 1) := by decide +kernel
theorem dX8_differs_28 : decode cX8_differs 28 = .ok (.iconst 0, 1) := by decide +kernel
theorem dX8_differs_29 : decode cX8_differs 29 = .ok (.istore 4, 2) := by decide +kernel
theorem dX8_differs_31 : decode cX8_differs 31 = .ok (.iload 4, 2) := by decide +kernel
theorem dX8_differs_33 : decode cX8_differs 33 = .ok (.bipush 16, 2) := by decide +kernel
theorem dX8_differs_35 : decode cX8_differs 35 = .ok (.if_icmp .ge 49, 3) := by decide +kernel
theorem dX8_differs_38 : decode cX8_differs 38 = .ok (.aload_n 0, 1) := by decide +kernel
theorem dX8_differs_39 : decode cX8_differs 39 = .ok (.getfield 48, 3) := by decide +kernel
theorem dX8_differs_42 : decode cX8_differs 42 = .ok (.getfield 289, 3) := by decide +kernel
theorem dX8_differs_45 : decode cX8_differs 45 = .ok (.iload_n 1, 1) := by decide +kernel
theorem dX8_differs_46 : decode cX8_differs 46 = .ok (.bipush 16, 2) := by decide +kernel
theorem dX8_differs_48 : decode cX8_differs 48 = .ok (.imul, 1) := by decide +kernel
theorem dX8_differs_49 : decode cX8_differs 49 = .ok (.iload 4, 2) := by decide +kernel
theorem dX8_differs_51 : decode cX8_differs 51 = .ok (.iadd, 1) := by decide +kernel
theorem dX8_differs_52 : decode cX8_differs 52 = .ok (.iaload, 1) := by decide +kernel
theorem dX8_differs_53 : decode cX8_differs 53 = .ok (.aload_n 0, 1) := by decide +kernel
theorem dX8_differs_54 : decode cX8_differs 54 = .ok (.getfield 48, 3) := by decide +kernel
theorem dX8_differs_57 : decode cX8_differs 57 = .ok (.getfield 289, 3) := by decide +kernel
theorem dX8_differs_60 : decode cX8_differs 60 = .ok (.iload_n 2, 1) := by decide +kernel
theorem dX8_differs_61 : decode cX8_differs 61 = .ok (.bipush 16, 2) := by decide +kernel
theorem dX8_differs_63 : decode cX8_differs 63 = .ok (.imul, 1) := by decide +kernel
theorem dX8_differs_64 : decode cX8_differs 64 = .ok (.iload 4, 2) := by decide +kernel
theorem dX8_differs_66 : decode cX8_differs 66 = .ok (.iadd, 1) := by decide +kernel
theorem dX8_differs_67 : decode cX8_differs 67 = .ok (.iaload, 1) := by decide +kernel
theorem dX8_differs_68 : decode cX8_differs 68 = .ok (.if_icmp .eq 10, 3) := by decide +kernel
theorem dX8_differs_71 : decode cX8_differs 71 = .ok (.iload_n 3, 1) := by decide +kernel
theorem dX8_differs_72 : decode cX8_differs 72 = .ok (.iconst 1, 1) := by decide +kernel
theorem dX8_differs_73 : decode cX8_differs 73 = .ok (.iload 4, 2) := by decide +kernel
theorem dX8_differs_75 : decode cX8_differs 75 = .ok (.ishl, 1) := by decide +kernel
theorem dX8_differs_76 : decode cX8_differs 76 = .ok (.ior, 1) := by decide +kernel
theorem dX8_differs_77 : decode cX8_differs 77 = .ok (.istore_n 3, 1) := by decide +kernel
theorem dX8_differs_78 : decode cX8_differs 78 = .ok (.iinc 4 1, 3) := by decide +kernel
theorem dX8_differs_81 : decode cX8_differs 81 = .ok (.goto (-50), 3) := by decide +kernel
theorem dX8_differs_84 : decode cX8_differs 84 = .ok (.iload_n 3, 1) := by decide +kernel
theorem dX8_differs_85 : decode cX8_differs 85 = .ok (.ireturn, 1) := by decide +kernel
set_option maxRecDepth 20000 in
theorem ggX8_freed_X7_hasFault : GoodIn wsX8_freed wsX7_hasFault := goodIn_r _ [9, 10, 60, 61, 62, 63, 64, 65, 66, 67, 68, 69] (by decide +kernel) (by decide +kernel)
set_option maxRecDepth 20000 in
theorem gX8_freed_X7_hasFault : GoodIn wsX8_freed (wsV RX8 162 RX7 yX7_hasFault wsX7_hasFault) := goodIn_app (goodIn_of _ (by decide +kernel)) ggX8_freed_X7_hasFault
set_option maxRecDepth 20000 in
theorem ggX8_freed_X0_hasLine : GoodIn wsX8_freed wsX0_hasLine := goodIn_r _ [15, 16, 50, 51, 52, 53, 54, 55, 56, 57, 58, 59] (by decide +kernel) (by decide +kernel)
set_option maxRecDepth 20000 in
theorem gX8_freed_X0_hasLine : GoodIn wsX8_freed (wsV RX8 181 RX0 yX0_hasLine wsX0_hasLine) := goodIn_app (goodIn_of _ (by decide +kernel)) ggX8_freed_X0_hasLine
set_option maxRecDepth 20000 in
theorem ggX8_freed_X8_isFree : GoodIn wsX8_freed wsX8_isFree := goodIn_r _ [21, 1, 2, 22, 23, 24, 25, 8, 26, 10, 27, 28, 20, 29, 30, 31, 32, 33, 34, 35, 36, 37, 38, 39, 40, 41, 42, 43, 44, 45, 46, 47, 48, 49, 50, 51, 52, 53, 54, 55, 56, 57, 58, 59, 60, 61, 62, 63, 64, 65, 66, 67, 68, 69] (by decide +kernel) (by decide +kernel)
set_option maxRecDepth 20000 in
theorem gX8_freed_X8_isFree : GoodIn wsX8_freed (wsV RX8 292 RX8 yX8_isFree wsX8_isFree) := goodIn_app (goodIn_of _ (by decide +kernel)) ggX8_freed_X8_isFree
theorem dX8_freed_0 : decode cX8_freed 0 = .ok (.aload_n 0, 1) := by decide +kernel
theorem dX8_freed_1 : decode cX8_freed 1 = .ok (.getfield 28, 3) := by decide +kernel
theorem dX8_freed_4 : decode cX8_freed 4 = .ok (.iload_n 1, 1) := by decide +kernel
theorem dX8_freed_5 : decode cX8_freed 5 = .ok (.invokevirtual 162, 3) := by decide +kernel
theorem dX8_freed_8 : decode cX8_freed 8 = .ok (.ifCond .eq 14, 3) := by decide +kernel
theorem dX8_freed_11 : decode cX8_freed 11 = .ok (.aload_n 0, 1) := by decide +kernel
theorem dX8_freed_12 : decode cX8_freed 12 = .ok (.getfield 48, 3) := by decide +kernel
theorem dX8_freed_15 : decode cX8_freed 15 = .ok (.iload_n 2, 1) := by decide +kernel
theorem dX8_freed_16 : decode cX8_freed 16 = .ok (.invokevirtual 181, 3) := by decide +kernel
theorem dX8_freed_19 : decode cX8_freed 19 = .ok (.ifCond .ne 7, 3) := by decide +kernel
theorem dX8_freed_22 : decode cX8_freed 22 = .ok (.sipush (-1001), 3) := by decide +kernel
theorem dX8_freed_25 : decode cX8_freed 25 = .ok (.ireturn, 1) := by decide +kernel
theorem dX8_freed_26 : decode cX8_freed 26 = .ok (.iconst (-1), 1) := by decide +kernel
theorem dX8_freed_27 : decode cX8_freed 27 = .ok (.istore_n 3, 1) := by decide +kernel
theorem dX8_freed_28 : decode cX8_freed 28 = .ok (.iconst 0, 1) := by decide +kernel
theorem dX8_freed_29 : decode cX8_freed 29 = .ok (.istore 4, 2) := by decide +kernel
theorem dX8_freed_31 : decode cX8_freed 31 = .ok (.iconst 0, 1) := by decide +kernel
theorem dX8_freed_32 : decode cX8_freed 32 = .ok (.istore 5, 2) := by decide +kernel
theorem dX8_freed_34 : decode cX8_freed 34 = .ok (.iload 5, 2) := by decide +kernel
theorem dX8_freed_36 : decode cX8_freed 36 = .ok (.aload_n 0, 1) := by decide +kernel
theorem dX8_freed_37 : decode cX8_freed 37 = .ok (.getfield 48, 3) := by decide +kernel
theorem dX8_freed_40 : decode cX8_freed 40 = .ok (.getfield 119, 3) := by decide +kernel
theorem dX8_freed_43 : decode cX8_freed 43 = .ok (.if_icmp .ge 57, 3) := by decide +kernel
theorem dX8_freed_46 : decode cX8_freed 46 = .ok (.aload_n 0, 1) := by decide +kernel
theorem dX8_freed_47 : decode cX8_freed 47 = .ok (.getfield 48, 3) := by decide +kernel
theorem dX8_freed_50 : decode cX8_freed 50 = .ok (.getfield 280, 3) := by decide +kernel
theorem dX8_freed_53 : decode cX8_freed 53 = .ok (.iload 5, 2) := by decide +kernel
theorem dX8_freed_55 : decode cX8_freed 55 = .ok (.iaload, 1) := by decide +kernel
theorem dX8_freed_56 : decode cX8_freed 56 = .ok (.iload_n 2, 1) := by decide +kernel
theorem dX8_freed_57 : decode cX8_freed 57 = .ok (.if_icmp .eq 6, 3) := by decide +kernel
theorem dX8_freed_60 : decode cX8_freed 60 = .ok (.goto 34, 3) := by decide +kernel
theorem dX8_freed_63 : decode cX8_freed 63 = .ok (.aload_n 0, 1) := by decide +kernel
theorem dX8_freed_64 : decode cX8_freed 64 = .ok (.iload 5, 2) := by decide +kernel
theorem dX8_freed_66 : decode cX8_freed 66 = .ok (.iload_n 1, 1) := by decide +kernel
theorem dX8_freed_67 : decode cX8_freed 67 = .ok (.invokevirtual 292, 3) := by decide +kernel
theorem dX8_freed_70 : decode cX8_freed 70 = .ok (.ifCond .ne 11, 3) := by decide +kernel
theorem dX8_freed_73 : decode cX8_freed 73 = .ok (.iconst 1, 1) := by decide +kernel
theorem dX8_freed_74 : decode cX8_freed 74 = .ok (.istore 4, 2) := by decide +kernel
theorem dX8_freed_76 : decode cX8_freed 76 = .ok (.iconst (-1), 1) := by decide +kernel
theorem dX8_freed_77 : decode cX8_freed 77 = .ok (.istore_n 3, 1) := by decide +kernel
theorem dX8_freed_78 : decode cX8_freed 78 = .ok (.goto 16, 3) := by decide +kernel
theorem dX8_freed_81 : decode cX8_freed 81 = .ok (.iload 4, 2) := by decide +kernel
theorem dX8_freed_83 : decode cX8_freed 83 = .ok (.ifCond .eq 11, 3) := by decide +kernel
theorem dX8_freed_86 : decode cX8_freed 86 = .ok (.iload_n 3, 1) := by decide +kernel
theorem dX8_freed_87 : decode cX8_freed 87 = .ok (.iconst (-1), 1) := by decide +kernel
theorem dX8_freed_88 : decode cX8_freed 88 = .ok (.if_icmp .ne 6, 3) := by decide +kernel
theorem dX8_freed_91 : decode cX8_freed 91 = .ok (.iload 5, 2) := by decide +kernel
theorem dX8_freed_93 : decode cX8_freed 93 = .ok (.istore_n 3, 1) := by decide +kernel
theorem dX8_freed_94 : decode cX8_freed 94 = .ok (.iinc 5 1, 3) := by decide +kernel
theorem dX8_freed_97 : decode cX8_freed 97 = .ok (.goto (-63), 3) := by decide +kernel
theorem dX8_freed_100 : decode cX8_freed 100 = .ok (.iload_n 3, 1) := by decide +kernel
theorem dX8_freed_101 : decode cX8_freed 101 = .ok (.ireturn, 1) := by decide +kernel
set_option maxRecDepth 20000 in
theorem ggX8_danger_X7_hasFault : GoodIn wsX8_danger wsX7_hasFault := goodIn_r _ [16, 17, 71, 72, 73, 74, 75, 76, 77, 78, 79, 80] (by decide +kernel) (by decide +kernel)
set_option maxRecDepth 20000 in
theorem gX8_danger_X7_hasFault : GoodIn wsX8_danger (wsV RX8 162 RX7 yX7_hasFault wsX7_hasFault) := goodIn_app (goodIn_of _ (by decide +kernel)) ggX8_danger_X7_hasFault
set_option maxRecDepth 20000 in
theorem ggX8_danger_X8_isDay : GoodIn wsX8_danger wsX8_isDay := goodIn_r _ [21] (by decide +kernel) (by decide +kernel)
set_option maxRecDepth 20000 in
theorem gX8_danger_X8_isDay : GoodIn wsX8_danger (va_wsS RX8 267 yX8_isDay wsX8_isDay) := goodIn_app (goodIn_of _ (by decide +kernel)) ggX8_danger_X8_isDay
set_option maxRecDepth 20000 in
theorem ggX8_danger_X8_isFree : GoodIn wsX8_danger wsX8_isFree := goodIn_r _ [25, 1, 2, 26, 27, 28, 29, 15, 30, 17, 31, 32, 20, 33, 34, 35, 36, 37, 38, 39, 47, 48, 49, 50, 51, 52, 53, 54, 55, 56, 57, 58, 59, 60, 61, 62, 63, 64, 65, 66, 67, 68, 69, 70, 71, 72, 73, 74, 75, 76, 77, 78, 79, 80] (by decide +kernel) (by decide +kernel)
set_option maxRecDepth 20000 in
theorem gX8_danger_X8_isFree : GoodIn wsX8_danger (wsV RX8 292 RX8 yX8_isFree wsX8_isFree) := goodIn_app (goodIn_of _ (by decide +kernel)) ggX8_danger_X8_isFree
set_option maxRecDepth 20000 in
theorem ggX8_danger_X0_nextOfLine : GoodIn wsX8_danger wsX0_nextOfLine := goodIn_r _ [44, 45, 46, 61, 62, 63, 64, 65, 66, 67, 68, 69, 70] (by decide +kernel) (by decide +kernel)
set_option maxRecDepth 20000 in
theorem gX8_danger_X0_nextOfLine : GoodIn wsX8_danger (wsV RX8 295 RX0 yX0_nextOfLine wsX0_nextOfLine) := goodIn_app (goodIn_of _ (by decide +kernel)) ggX8_danger_X0_nextOfLine
theorem dX8_danger_0 : decode cX8_danger 0 = .ok (.aload_n 0, 1) := by decide +kernel
theorem dX8_danger_1 : decode cX8_danger 1 = .ok (.getfield 28, 3) := by decide +kernel
theorem dX8_danger_4 : decode cX8_danger 4 = .ok (.iload_n 1, 1) := by decide +kernel
theorem dX8_danger_5 : decode cX8_danger 5 = .ok (.invokevirtual 162, 3) := by decide +kernel
theorem dX8_danger_8 : decode cX8_danger 8 = .ok (.ifCond .ne 7, 3) := by decide +kernel
theorem dX8_danger_11 : decode cX8_danger 11 = .ok (.sipush (-1001), 3) := by decide +kernel
theorem dX8_danger_14 : decode cX8_danger 14 = .ok (.ireturn, 1) := by decide +kernel
theorem dX8_danger_15 : decode cX8_danger 15 = .ok (.iload_n 2, 1) := by decide +kernel
theorem dX8_danger_16 : decode cX8_danger 16 = .ok (.invokestatic 267, 3) := by decide +kernel
theorem dX8_danger_19 : decode cX8_danger 19 = .ok (.ifCond .eq 15, 3) := by decide +kernel
theorem dX8_danger_22 : decode cX8_danger 22 = .ok (.iload_n 3, 1) := by decide +kernel
theorem dX8_danger_23 : decode cX8_danger 23 = .ok (.invokestatic 267, 3) := by decide +kernel
theorem dX8_danger_26 : decode cX8_danger 26 = .ok (.ifCond .eq 8, 3) := by decide +kernel
theorem dX8_danger_29 : decode cX8_danger 29 = .ok (.iload_n 3, 1) := by decide +kernel
theorem dX8_danger_30 : decode cX8_danger 30 = .ok (.iload_n 2, 1) := by decide +kernel
theorem dX8_danger_31 : decode cX8_danger 31 = .ok (.if_icmp .ge 7, 3) := by decide +kernel
theorem dX8_danger_34 : decode cX8_danger 34 = .ok (.sipush (-1002), 3) := by decide +kernel
theorem dX8_danger_37 : decode cX8_danger 37 = .ok (.ireturn, 1) := by decide +kernel
theorem dX8_danger_38 : decode cX8_danger 38 = .ok (.iconst 0, 1) := by decide +kernel
theorem dX8_danger_39 : decode cX8_danger 39 = .ok (.istore 4, 2) := by decide +kernel
theorem dX8_danger_41 : decode cX8_danger 41 = .ok (.iconst 0, 1) := by decide +kernel
theorem dX8_danger_42 : decode cX8_danger 42 = .ok (.istore 5, 2) := by decide +kernel
theorem dX8_danger_44 : decode cX8_danger 44 = .ok (.iload 5, 2) := by decide +kernel
theorem dX8_danger_46 : decode cX8_danger 46 = .ok (.aload_n 0, 1) := by decide +kernel
theorem dX8_danger_47 : decode cX8_danger 47 = .ok (.getfield 48, 3) := by decide +kernel
theorem dX8_danger_50 : decode cX8_danger 50 = .ok (.getfield 119, 3) := by decide +kernel
theorem dX8_danger_53 : decode cX8_danger 53 = .ok (.if_icmp .ge 90, 3) := by decide +kernel
theorem dX8_danger_56 : decode cX8_danger 56 = .ok (.aload_n 0, 1) := by decide +kernel
theorem dX8_danger_57 : decode cX8_danger 57 = .ok (.iload 5, 2) := by decide +kernel
theorem dX8_danger_59 : decode cX8_danger 59 = .ok (.iload_n 1, 1) := by decide +kernel
theorem dX8_danger_60 : decode cX8_danger 60 = .ok (.invokevirtual 292, 3) := by decide +kernel
theorem dX8_danger_63 : decode cX8_danger 63 = .ok (.ifCond .ne 74, 3) := by decide +kernel
theorem dX8_danger_66 : decode cX8_danger 66 = .ok (.aload_n 0, 1) := by decide +kernel
theorem dX8_danger_67 : decode cX8_danger 67 = .ok (.getfield 48, 3) := by decide +kernel
theorem dX8_danger_70 : decode cX8_danger 70 = .ok (.iload 5, 2) := by decide +kernel
theorem dX8_danger_72 : decode cX8_danger 72 = .ok (.invokevirtual 295, 3) := by decide +kernel
theorem dX8_danger_75 : decode cX8_danger 75 = .ok (.istore 6, 2) := by decide +kernel
theorem dX8_danger_77 : decode cX8_danger 77 = .ok (.iload 6, 2) := by decide +kernel
theorem dX8_danger_79 : decode cX8_danger 79 = .ok (.iconst (-1), 1) := by decide +kernel
theorem dX8_danger_80 : decode cX8_danger 80 = .ok (.if_icmp .ne 7, 3) := by decide +kernel
theorem dX8_danger_83 : decode cX8_danger 83 = .ok (.iload_n 3, 1) := by decide +kernel
theorem dX8_danger_84 : decode cX8_danger 84 = .ok (.goto 19, 3) := by decide +kernel
theorem dX8_danger_87 : decode cX8_danger 87 = .ok (.iload_n 3, 1) := by decide +kernel
theorem dX8_danger_88 : decode cX8_danger 88 = .ok (.aload_n 0, 1) := by decide +kernel
theorem dX8_danger_89 : decode cX8_danger 89 = .ok (.getfield 48, 3) := by decide +kernel
theorem dX8_danger_92 : decode cX8_danger 92 = .ok (.getfield 283, 3) := by decide +kernel
theorem dX8_danger_95 : decode cX8_danger 95 = .ok (.iload 6, 2) := by decide +kernel
theorem dX8_danger_97 : decode cX8_danger 97 = .ok (.iaload, 1) := by decide +kernel
theorem dX8_danger_98 : decode cX8_danger 98 = .ok (.iconst 1, 1) := by decide +kernel
theorem dX8_danger_99 : decode cX8_danger 99 = .ok (.isub, 1) := by decide +kernel
theorem dX8_danger_100 : decode cX8_danger 100 = .ok (.invokestatic 259, 3) := by decide +kernel
theorem dX8_danger_103 : decode cX8_danger 103 = .ok (.istore 7, 2) := by decide +kernel
theorem dX8_danger_105 : decode cX8_danger 105 = .ok (.iload_n 2, 1) := by decide +kernel
theorem dX8_danger_106 : decode cX8_danger 106 = .ok (.aload_n 0, 1) := by decide +kernel
theorem dX8_danger_107 : decode cX8_danger 107 = .ok (.getfield 48, 3) := by decide +kernel
theorem dX8_danger_110 : decode cX8_danger 110 = .ok (.getfield 283, 3) := by decide +kernel
theorem dX8_danger_113 : decode cX8_danger 113 = .ok (.iload 5, 2) := by decide +kernel
theorem dX8_danger_115 : decode cX8_danger 115 = .ok (.iaload, 1) := by decide +kernel
theorem dX8_danger_116 : decode cX8_danger 116 = .ok (.invokestatic 298, 3) := by decide +kernel
theorem dX8_danger_119 : decode cX8_danger 119 = .ok (.istore 8, 2) := by decide +kernel
theorem dX8_danger_121 : decode cX8_danger 121 = .ok (.iload 4, 2) := by decide +kernel
theorem dX8_danger_123 : decode cX8_danger 123 = .ok (.iconst 0, 1) := by decide +kernel
theorem dX8_danger_124 : decode cX8_danger 124 = .ok (.iload 7, 2) := by decide +kernel
theorem dX8_danger_126 : decode cX8_danger 126 = .ok (.iload 8, 2) := by decide +kernel
theorem dX8_danger_128 : decode cX8_danger 128 = .ok (.isub, 1) := by decide +kernel
theorem dX8_danger_129 : decode cX8_danger 129 = .ok (.iconst 1, 1) := by decide +kernel
theorem dX8_danger_130 : decode cX8_danger 130 = .ok (.iadd, 1) := by decide +kernel
theorem dX8_danger_131 : decode cX8_danger 131 = .ok (.invokestatic 298, 3) := by decide +kernel
theorem dX8_danger_134 : decode cX8_danger 134 = .ok (.iadd, 1) := by decide +kernel
theorem dX8_danger_135 : decode cX8_danger 135 = .ok (.istore 4, 2) := by decide +kernel
theorem dX8_danger_137 : decode cX8_danger 137 = .ok (.iinc 5 1, 3) := by decide +kernel
theorem dX8_danger_140 : decode cX8_danger 140 = .ok (.goto (-96), 3) := by decide +kernel
theorem dX8_danger_143 : decode cX8_danger 143 = .ok (.iload 4, 2) := by decide +kernel
theorem dX8_danger_145 : decode cX8_danger 145 = .ok (.ireturn, 1) := by decide +kernel
set_option maxRecDepth 20000 in
theorem ggX8_every_X0_hasLine : GoodIn wsX8_every wsX0_hasLine := goodIn_r _ [7, 8, 23, 24, 25, 26, 27, 28, 29, 30, 31, 32] (by decide +kernel) (by decide +kernel)
set_option maxRecDepth 20000 in
theorem gX8_every_X0_hasLine : GoodIn wsX8_every (wsV RX8 181 RX0 yX0_hasLine wsX0_hasLine) := goodIn_app (goodIn_of _ (by decide +kernel)) ggX8_every_X0_hasLine
theorem dX8_every_0 : decode cX8_every 0 = .ok (.aload_n 0, 1) := by decide +kernel
theorem dX8_every_1 : decode cX8_every 1 = .ok (.getfield 48, 3) := by decide +kernel
theorem dX8_every_4 : decode cX8_every 4 = .ok (.iload_n 1, 1) := by decide +kernel
theorem dX8_every_5 : decode cX8_every 5 = .ok (.invokevirtual 181, 3) := by decide +kernel
theorem dX8_every_8 : decode cX8_every 8 = .ok (.ifCond .ne 7, 3) := by decide +kernel
theorem dX8_every_11 : decode cX8_every 11 = .ok (.sipush (-1001), 3) := by decide +kernel
theorem dX8_every_14 : decode cX8_every 14 = .ok (.ireturn, 1) := by decide +kernel
theorem dX8_every_15 : decode cX8_every 15 = .ok (.iload_n 2, 1) := by decide +kernel
theorem dX8_every_16 : decode cX8_every 16 = .ok (.ifCond .lt 9, 3) := by decide +kernel
theorem dX8_every_19 : decode cX8_every 19 = .ok (.iload_n 2, 1) := by decide +kernel
theorem dX8_every_20 : decode cX8_every 20 = .ok (.bipush 99, 2) := by decide +kernel
theorem dX8_every_22 : decode cX8_every 22 = .ok (.if_icmp .le 7, 3) := by decide +kernel
theorem dX8_every_25 : decode cX8_every 25 = .ok (.sipush (-1002), 3) := by decide +kernel
theorem dX8_every_28 : decode cX8_every 28 = .ok (.ireturn, 1) := by decide +kernel
theorem dX8_every_29 : decode cX8_every 29 = .ok (.aload_n 0, 1) := by decide +kernel
theorem dX8_every_30 : decode cX8_every 30 = .ok (.getfield 48, 3) := by decide +kernel
theorem dX8_every_33 : decode cX8_every 33 = .ok (.getfield 196, 3) := by decide +kernel
theorem dX8_every_36 : decode cX8_every 36 = .ok (.iload_n 1, 1) := by decide +kernel
theorem dX8_every_37 : decode cX8_every 37 = .ok (.iaload, 1) := by decide +kernel
theorem dX8_every_38 : decode cX8_every 38 = .ok (.istore_n 3, 1) := by decide +kernel
theorem dX8_every_39 : decode cX8_every 39 = .ok (.aload_n 0, 1) := by decide +kernel
theorem dX8_every_40 : decode cX8_every 40 = .ok (.getfield 48, 3) := by decide +kernel
theorem dX8_every_43 : decode cX8_every 43 = .ok (.getfield 196, 3) := by decide +kernel
theorem dX8_every_46 : decode cX8_every 46 = .ok (.iload_n 1, 1) := by decide +kernel
theorem dX8_every_47 : decode cX8_every 47 = .ok (.iload_n 2, 1) := by decide +kernel
theorem dX8_every_48 : decode cX8_every 48 = .ok (.iastore, 1) := by decide +kernel
theorem dX8_every_49 : decode cX8_every 49 = .ok (.iload_n 3, 1) := by decide +kernel
theorem dX8_every_50 : decode cX8_every 50 = .ok (.ireturn, 1) := by decide +kernel
set_option maxRecDepth 20000 in
theorem ggX8_soonest_X7_hasFault : GoodIn wsX8_soonest wsX7_hasFault := goodIn_r _ [13, 14, 128, 129, 130, 131, 132, 133, 134, 135, 136, 137] (by decide +kernel) (by decide +kernel)
set_option maxRecDepth 20000 in
theorem gX8_soonest_X7_hasFault : GoodIn wsX8_soonest (wsV RX8 162 RX7 yX7_hasFault wsX7_hasFault) := goodIn_app (goodIn_of _ (by decide +kernel)) ggX8_soonest_X7_hasFault
set_option maxRecDepth 20000 in
theorem ggX8_soonest_X8_isDay : GoodIn wsX8_soonest wsX8_isDay := goodIn_r _ [18] (by decide +kernel) (by decide +kernel)
set_option maxRecDepth 20000 in
theorem gX8_soonest_X8_isDay : GoodIn wsX8_soonest (va_wsS RX8 267 yX8_isDay wsX8_isDay) := goodIn_app (goodIn_of _ (by decide +kernel)) ggX8_soonest_X8_isDay
set_option maxRecDepth 20000 in
theorem ggX8_soonest_X7_faultsIn : GoodIn wsX8_soonest wsX7_faultsIn := goodIn_r _ [22, 14, 23, 24, 17, 25, 26, 27, 28, 12, 29, 30, 128, 129, 130, 131, 132, 133, 134, 135, 136, 137] (by decide +kernel) (by decide +kernel)
set_option maxRecDepth 20000 in
theorem gX8_soonest_X7_faultsIn : GoodIn wsX8_soonest (wsV RX8 190 RX7 yX7_faultsIn wsX7_faultsIn) := goodIn_app (goodIn_of _ (by decide +kernel)) ggX8_soonest_X7_faultsIn
set_option maxRecDepth 20000 in
theorem ggX8_soonest_X8_has : GoodIn wsX8_soonest wsX8_has := goodIn_r _ [25] (by decide +kernel) (by decide +kernel)
set_option maxRecDepth 20000 in
theorem gX8_soonest_X8_has : GoodIn wsX8_soonest (va_wsS RX8 202 yX8_has wsX8_has) := goodIn_app (goodIn_of _ (by decide +kernel)) ggX8_soonest_X8_has
set_option maxRecDepth 20000 in
theorem ggX8_soonest_X8_trainWithFix : GoodIn wsX8_soonest wsX8_trainWithFix := goodIn_r _ [35, 2, 36, 37, 38, 39, 40, 41, 42, 43, 44, 45, 46, 47, 48, 49, 50, 51, 20, 21, 12, 22, 14, 23, 24, 17, 25, 26, 27, 28, 29, 30, 52, 53, 54, 55, 56, 57, 58, 59, 60, 61, 62, 63, 64, 65, 66, 67, 68, 69, 70, 71, 72, 73, 74, 75, 76, 77, 78, 79, 80, 81, 82, 83, 84, 85, 86, 87, 88, 89, 90, 91, 92, 93, 94, 95, 96, 97, 98, 99, 100, 101, 102, 103, 104, 105, 106, 107, 108, 109, 110, 111, 112, 113, 114, 115, 116, 117, 118, 119, 120, 121, 122, 123, 124, 125, 126, 127, 138, 139, 140, 141, 142, 143, 144, 145, 146, 147, 148, 149, 128, 129, 130, 131, 132, 133, 134, 135, 136, 137] (by decide +kernel) (by decide +kernel)
set_option maxRecDepth 20000 in
theorem gX8_soonest_X8_trainWithFix : GoodIn wsX8_soonest (wsV RX8 301 RX8 yX8_trainWithFix wsX8_trainWithFix) := goodIn_app (goodIn_of _ (by decide +kernel)) ggX8_soonest_X8_trainWithFix
theorem dX8_soonest_0 : decode cX8_soonest 0 = .ok (.aload_n 0, 1) := by decide +kernel
theorem dX8_soonest_1 : decode cX8_soonest 1 = .ok (.getfield 28, 3) := by decide +kernel
theorem dX8_soonest_4 : decode cX8_soonest 4 = .ok (.iload_n 1, 1) := by decide +kernel
theorem dX8_soonest_5 : decode cX8_soonest 5 = .ok (.invokevirtual 162, 3) := by decide +kernel
theorem dX8_soonest_8 : decode cX8_soonest 8 = .ok (.ifCond .ne 7, 3) := by decide +kernel
theorem dX8_soonest_11 : decode cX8_soonest 11 = .ok (.sipush (-1001), 3) := by decide +kernel
theorem dX8_soonest_14 : decode cX8_soonest 14 = .ok (.ireturn, 1) := by decide +kernel
theorem dX8_soonest_15 : decode cX8_soonest 15 = .ok (.iload_n 2, 1) := by decide +kernel
theorem dX8_soonest_16 : decode cX8_soonest 16 = .ok (.invokestatic 267, 3) := by decide +kernel
theorem dX8_soonest_19 : decode cX8_soonest 19 = .ok (.ifCond .ne 7, 3) := by decide +kernel
theorem dX8_soonest_22 : decode cX8_soonest 22 = .ok (.sipush (-1002), 3) := by decide +kernel
theorem dX8_soonest_25 : decode cX8_soonest 25 = .ok (.ireturn, 1) := by decide +kernel
theorem dX8_soonest_26 : decode cX8_soonest 26 = .ok (.bipush (-2), 2) := by decide +kernel
theorem dX8_soonest_28 : decode cX8_soonest 28 = .ok (.istore_n 3, 1) := by decide +kernel
theorem dX8_soonest_29 : decode cX8_soonest 29 = .ok (.iconst 0, 1) := by decide +kernel
theorem dX8_soonest_30 : decode cX8_soonest 30 = .ok (.istore 4, 2) := by decide +kernel
theorem dX8_soonest_32 : decode cX8_soonest 32 = .ok (.iload 4, 2) := by decide +kernel
theorem dX8_soonest_34 : decode cX8_soonest 34 = .ok (.aload_n 0, 1) := by decide +kernel
theorem dX8_soonest_35 : decode cX8_soonest 35 = .ok (.getfield 48, 3) := by decide +kernel
theorem dX8_soonest_38 : decode cX8_soonest 38 = .ok (.getfield 116, 3) := by decide +kernel
theorem dX8_soonest_41 : decode cX8_soonest 41 = .ok (.if_icmp .ge 58, 3) := by decide +kernel
theorem dX8_soonest_44 : decode cX8_soonest 44 = .ok (.aload_n 0, 1) := by decide +kernel
theorem dX8_soonest_45 : decode cX8_soonest 45 = .ok (.getfield 28, 3) := by decide +kernel
theorem dX8_soonest_48 : decode cX8_soonest 48 = .ok (.aload_n 0, 1) := by decide +kernel
theorem dX8_soonest_49 : decode cX8_soonest 49 = .ok (.getfield 48, 3) := by decide +kernel
theorem dX8_soonest_52 : decode cX8_soonest 52 = .ok (.getfield 187, 3) := by decide +kernel
theorem dX8_soonest_55 : decode cX8_soonest 55 = .ok (.iload 4, 2) := by decide +kernel
theorem dX8_soonest_57 : decode cX8_soonest 57 = .ok (.iaload, 1) := by decide +kernel
theorem dX8_soonest_58 : decode cX8_soonest 58 = .ok (.invokevirtual 190, 3) := by decide +kernel
theorem dX8_soonest_61 : decode cX8_soonest 61 = .ok (.iload_n 1, 1) := by decide +kernel
theorem dX8_soonest_62 : decode cX8_soonest 62 = .ok (.invokestatic 202, 3) := by decide +kernel
theorem dX8_soonest_65 : decode cX8_soonest 65 = .ok (.ifCond .eq 28, 3) := by decide +kernel
theorem dX8_soonest_68 : decode cX8_soonest 68 = .ok (.aload_n 0, 1) := by decide +kernel
theorem dX8_soonest_69 : decode cX8_soonest 69 = .ok (.iload 4, 2) := by decide +kernel
theorem dX8_soonest_71 : decode cX8_soonest 71 = .ok (.iload_n 1, 1) := by decide +kernel
theorem dX8_soonest_72 : decode cX8_soonest 72 = .ok (.iload_n 2, 1) := by decide +kernel
theorem dX8_soonest_73 : decode cX8_soonest 73 = .ok (.invokevirtual 301, 3) := by decide +kernel
theorem dX8_soonest_76 : decode cX8_soonest 76 = .ok (.istore 5, 2) := by decide +kernel
theorem dX8_soonest_78 : decode cX8_soonest 78 = .ok (.iload 5, 2) := by decide +kernel
theorem dX8_soonest_80 : decode cX8_soonest 80 = .ok (.iconst (-1), 1) := by decide +kernel
theorem dX8_soonest_81 : decode cX8_soonest 81 = .ok (.if_icmp .ne 5, 3) := by decide +kernel
theorem dX8_soonest_84 : decode cX8_soonest 84 = .ok (.iconst (-1), 1) := by decide +kernel
theorem dX8_soonest_85 : decode cX8_soonest 85 = .ok (.ireturn, 1) := by decide +kernel
theorem dX8_soonest_86 : decode cX8_soonest 86 = .ok (.iload_n 3, 1) := by decide +kernel
theorem dX8_soonest_87 : decode cX8_soonest 87 = .ok (.iload 5, 2) := by decide +kernel
theorem dX8_soonest_89 : decode cX8_soonest 89 = .ok (.invokestatic 298, 3) := by decide +kernel
theorem dX8_soonest_92 : decode cX8_soonest 92 = .ok (.istore_n 3, 1) := by decide +kernel
theorem dX8_soonest_93 : decode cX8_soonest 93 = .ok (.iinc 4 1, 3) := by decide +kernel
theorem dX8_soonest_96 : decode cX8_soonest 96 = .ok (.goto (-64), 3) := by decide +kernel
theorem dX8_soonest_99 : decode cX8_soonest 99 = .ok (.iload_n 3, 1) := by decide +kernel
theorem dX8_soonest_100 : decode cX8_soonest 100 = .ok (.ireturn, 1) := by decide +kernel
set_option maxRecDepth 20000 in
theorem ggX8_ready_X0_hasLine : GoodIn wsX8_ready wsX0_hasLine := goodIn_r _ [7, 8, 66, 67, 68, 69, 70, 71, 72, 73, 74, 75] (by decide +kernel) (by decide +kernel)
set_option maxRecDepth 20000 in
theorem gX8_ready_X0_hasLine : GoodIn wsX8_ready (wsV RX8 181 RX0 yX0_hasLine wsX0_hasLine) := goodIn_app (goodIn_of _ (by decide +kernel)) ggX8_ready_X0_hasLine
set_option maxRecDepth 20000 in
theorem ggX8_ready_X2_inReach : GoodIn wsX8_ready wsX2_inReach := goodIn_r _ [13, 14, 15, 16, 17, 18, 19, 20, 12, 21, 22, 23, 24, 25, 26, 27, 28, 29, 30, 31, 32, 33, 34, 35, 36, 37, 38, 39, 40, 41, 42, 43, 44, 45, 46, 47, 76, 77, 78, 79, 66, 67, 68, 69, 70, 71, 72, 73, 74, 75, 80, 81, 82, 83, 84, 85, 86, 87, 88, 89] (by decide +kernel) (by decide +kernel)
set_option maxRecDepth 20000 in
theorem gX8_ready_X2_inReach : GoodIn wsX8_ready (wsV RX8 305 RX2 yX2_inReach wsX2_inReach) := goodIn_app (goodIn_of _ (by decide +kernel)) ggX8_ready_X2_inReach
set_option maxRecDepth 20000 in
theorem ggX8_ready_X2_readyOn : GoodIn wsX8_ready wsX2_readyOn := goodIn_r _ [51, 17, 31, 15, 16, 22, 32, 33, 34, 35, 36, 37, 38, 39, 40, 41, 42, 76, 77, 78, 79, 80, 81, 82, 83, 84, 85, 86, 87, 88, 89, 66, 67, 68, 69, 70, 71, 72, 73, 74, 75] (by decide +kernel) (by decide +kernel)
set_option maxRecDepth 20000 in
theorem gX8_ready_X2_readyOn : GoodIn wsX8_ready (wsV RX8 308 RX2 yX2_readyOn wsX2_readyOn) := goodIn_app (goodIn_of _ (by decide +kernel)) ggX8_ready_X2_readyOn
theorem dX8_ready_0 : decode cX8_ready 0 = .ok (.aload_n 0, 1) := by decide +kernel
theorem dX8_ready_1 : decode cX8_ready 1 = .ok (.getfield 48, 3) := by decide +kernel
theorem dX8_ready_4 : decode cX8_ready 4 = .ok (.iload_n 1, 1) := by decide +kernel
theorem dX8_ready_5 : decode cX8_ready 5 = .ok (.invokevirtual 181, 3) := by decide +kernel
theorem dX8_ready_8 : decode cX8_ready 8 = .ok (.ifCond .ne 7, 3) := by decide +kernel
theorem dX8_ready_11 : decode cX8_ready 11 = .ok (.sipush (-1001), 3) := by decide +kernel
theorem dX8_ready_14 : decode cX8_ready 14 = .ok (.ireturn, 1) := by decide +kernel
theorem dX8_ready_15 : decode cX8_ready 15 = .ok (.iload_n 2, 1) := by decide +kernel
theorem dX8_ready_16 : decode cX8_ready 16 = .ok (.ifCond .eq 14, 3) := by decide +kernel
theorem dX8_ready_19 : decode cX8_ready 19 = .ok (.aload_n 0, 1) := by decide +kernel
theorem dX8_ready_20 : decode cX8_ready 20 = .ok (.getfield 63, 3) := by decide +kernel
theorem dX8_ready_23 : decode cX8_ready 23 = .ok (.iload_n 1, 1) := by decide +kernel
