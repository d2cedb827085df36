theorem dX0_init_0 : decode cX0_init 0 = .ok (.aload_n 0, 1) := by decide +kernel
theorem dX0_init_1 : decode cX0_init 1 = .ok (.invokespecial 3, 3) := by decide +kernel
theorem dX0_init_4 : decode cX0_init 4 = .ok (.aload_n 0, 1) := by decide +kernel
theorem dX0_init_5 : decode cX0_init 5 = .ok (.iconst 0, 1) := by decide +kernel
theorem dX0_init_6 : decode cX0_init 6 = .ok (.putfield 9, 3) := by decide +kernel
theorem dX0_init_9 : decode cX0_init 9 = .ok (.aload_n 0, 1) := by decide +kernel
theorem dX0_init_10 : decode cX0_init 10 = .ok (.iconst 4, 1) := by decide +kernel
theorem dX0_init_11 : decode cX0_init 11 = .ok (.newarray .int, 2) := by decide +kernel
theorem dX0_init_13 : decode cX0_init 13 = .ok (.putfield 15, 3) := by decide +kernel
theorem dX0_init_16 : decode cX0_init 16 = .ok (.aload_n 0, 1) := by decide +kernel
theorem dX0_init_17 : decode cX0_init 17 = .ok (.iconst 4, 1) := by decide +kernel
theorem dX0_init_18 : decode cX0_init 18 = .ok (.newarray .int, 2) := by decide +kernel
theorem dX0_init_20 : decode cX0_init 20 = .ok (.putfield 19, 3) := by decide +kernel
theorem dX0_init_23 : decode cX0_init 23 = .ok (.aload_n 0, 1) := by decide +kernel
theorem dX0_init_24 : decode cX0_init 24 = .ok (.iconst 4, 1) := by decide +kernel
theorem dX0_init_25 : decode cX0_init 25 = .ok (.newarray .int, 2) := by decide +kernel
theorem dX0_init_27 : decode cX0_init 27 = .ok (.putfield 22, 3) := by decide +kernel
theorem dX0_init_30 : decode cX0_init 30 = .ok (.aload_n 0, 1) := by decide +kernel
theorem dX0_init_31 : decode cX0_init 31 = .ok (.bipush 64, 2) := by decide +kernel
theorem dX0_init_33 : decode cX0_init 33 = .ok (.newarray .int, 2) := by decide +kernel
theorem dX0_init_35 : decode cX0_init 35 = .ok (.putfield 25, 3) := by decide +kernel
theorem dX0_init_38 : decode cX0_init 38 = .ok (.aload_n 0, 1) := by decide +kernel
theorem dX0_init_39 : decode cX0_init 39 = .ok (.iconst 0, 1) := by decide +kernel
theorem dX0_init_40 : decode cX0_init 40 = .ok (.putfield 28, 3) := by decide +kernel
theorem dX0_init_43 : decode cX0_init 43 = .ok (.aload_n 0, 1) := by decide +kernel
theorem dX0_init_44 : decode cX0_init 44 = .ok (.bipush 20, 2) := by decide +kernel
theorem dX0_init_46 : decode cX0_init 46 = .ok (.newarray .int, 2) := by decide +kernel
theorem dX0_init_48 : decode cX0_init 48 = .ok (.putfield 31, 3) := by decide +kernel
theorem dX0_init_51 : decode cX0_init 51 = .ok (.aload_n 0, 1) := by decide +kernel
theorem dX0_init_52 : decode cX0_init 52 = .ok (.bipush 20, 2) := by decide +kernel
theorem dX0_init_54 : decode cX0_init 54 = .ok (.newarray .int, 2) := by decide +kernel
theorem dX0_init_56 : decode cX0_init 56 = .ok (.putfield 34, 3) := by decide +kernel
theorem dX0_init_59 : decode cX0_init 59 = .ok (.aload_n 0, 1) := by decide +kernel
theorem dX0_init_60 : decode cX0_init 60 = .ok (.bipush 20, 2) := by decide +kernel
theorem dX0_init_62 : decode cX0_init 62 = .ok (.newarray .int, 2) := by decide +kernel
theorem dX0_init_64 : decode cX0_init 64 = .ok (.putfield 37, 3) := by decide +kernel
theorem dX0_init_67 : decode cX0_init 67 = .ok (.aload_n 0, 1) := by decide +kernel
theorem dX0_init_68 : decode cX0_init 68 = .ok (.sipush 320, 3) := by decide +kernel
theorem dX0_init_71 : decode cX0_init 71 = .ok (.newarray .int, 2) := by decide +kernel
theorem dX0_init_73 : decode cX0_init 73 = .ok (.putfield 40, 3) := by decide +kernel
theorem dX0_init_76 : decode cX0_init 76 = .ok (.return_, 1) := by decide +kernel
theorem dX0_hasLine_0 : decode cX0_hasLine 0 = .ok (.iload_n 1, 1) := by decide +kernel
theorem dX0_hasLine_1 : decode cX0_hasLine 1 = .ok (.ifCond .lt 15, 3) := by decide +kernel
theorem dX0_hasLine_4 : decode cX0_hasLine 4 = .ok (.iload_n 1, 1) := by decide +kernel
theorem dX0_hasLine_5 : decode cX0_hasLine 5 = .ok (.aload_n 0, 1) := by decide +kernel
theorem dX0_hasLine_6 : decode cX0_hasLine 6 = .ok (.getfield 9, 3) := by decide +kernel
theorem dX0_hasLine_9 : decode cX0_hasLine 9 = .ok (.if_icmp .ge 7, 3) := by decide +kernel
theorem dX0_hasLine_12 : decode cX0_hasLine 12 = .ok (.iconst 1, 1) := by decide +kernel
theorem dX0_hasLine_13 : decode cX0_hasLine 13 = .ok (.goto 4, 3) := by decide +kernel
theorem dX0_hasLine_16 : decode cX0_hasLine 16 = .ok (.iconst 0, 1) := by decide +kernel
theorem dX0_hasLine_17 : decode cX0_hasLine 17 = .ok (.ireturn, 1) := by decide +kernel
theorem dX0_hasRelease_0 : decode cX0_hasRelease 0 = .ok (.iload_n 1, 1) := by decide +kernel
theorem dX0_hasRelease_1 : decode cX0_hasRelease 1 = .ok (.ifCond .lt 15, 3) := by decide +kernel
theorem dX0_hasRelease_4 : decode cX0_hasRelease 4 = .ok (.iload_n 1, 1) := by decide +kernel
theorem dX0_hasRelease_5 : decode cX0_hasRelease 5 = .ok (.aload_n 0, 1) := by decide +kernel
theorem dX0_hasRelease_6 : decode cX0_hasRelease 6 = .ok (.getfield 28, 3) := by decide +kernel
theorem dX0_hasRelease_9 : decode cX0_hasRelease 9 = .ok (.if_icmp .ge 7, 3) := by decide +kernel
theorem dX0_hasRelease_12 : decode cX0_hasRelease 12 = .ok (.iconst 1, 1) := by decide +kernel
theorem dX0_hasRelease_13 : decode cX0_hasRelease 13 = .ok (.goto 4, 3) := by decide +kernel
theorem dX0_hasRelease_16 : decode cX0_hasRelease 16 = .ok (.iconst 0, 1) := by decide +kernel
theorem dX0_hasRelease_17 : decode cX0_hasRelease 17 = .ok (.ireturn, 1) := by decide +kernel
theorem dX0_become_0 : decode cX0_become 0 = .ok (.aload_n 0, 1) := by decide +kernel
theorem dX0_become_1 : decode cX0_become 1 = .ok (.aload_n 1, 1) := by decide +kernel
theorem dX0_become_2 : decode cX0_become 2 = .ok (.getfield 9, 3) := by decide +kernel
theorem dX0_become_5 : decode cX0_become 5 = .ok (.putfield 9, 3) := by decide +kernel
theorem dX0_become_8 : decode cX0_become 8 = .ok (.aload_n 1, 1) := by decide +kernel
theorem dX0_become_9 : decode cX0_become 9 = .ok (.getfield 15, 3) := by decide +kernel
theorem dX0_become_12 : decode cX0_become 12 = .ok (.iconst 0, 1) := by decide +kernel
theorem dX0_become_13 : decode cX0_become 13 = .ok (.aload_n 0, 1) := by decide +kernel
theorem dX0_become_14 : decode cX0_become 14 = .ok (.getfield 15, 3) := by decide +kernel
theorem dX0_become_17 : decode cX0_become 17 = .ok (.iconst 0, 1) := by decide +kernel
theorem dX0_become_18 : decode cX0_become 18 = .ok (.iconst 4, 1) := by decide +kernel
theorem dX0_become_19 : decode cX0_become 19 = .ok (.invokestatic 43, 3) := by decide +kernel
theorem dX0_become_22 : decode cX0_become 22 = .ok (.aload_n 1, 1) := by decide +kernel
theorem dX0_become_23 : decode cX0_become 23 = .ok (.getfield 19, 3) := by decide +kernel
theorem dX0_become_26 : decode cX0_become 26 = .ok (.iconst 0, 1) := by decide +kernel
theorem dX0_become_27 : decode cX0_become 27 = .ok (.aload_n 0, 1) := by decide +kernel
theorem dX0_become_28 : decode cX0_become 28 = .ok (.getfield 19, 3) := by decide +kernel
theorem dX0_become_31 : decode cX0_become 31 = .ok (.iconst 0, 1) := by decide +kernel
theorem dX0_become_32 : decode cX0_become 32 = .ok (.iconst 4, 1) := by decide +kernel
theorem dX0_become_33 : decode cX0_become 33 = .ok (.invokestatic 43, 3) := by decide +kernel
theorem dX0_become_36 : decode cX0_become 36 = .ok (.aload_n 1, 1) := by decide +kernel
theorem dX0_become_37 : decode cX0_become 37 = .ok (.getfield 22, 3) := by decide +kernel
theorem dX0_become_40 : decode cX0_become 40 = .ok (.iconst 0, 1) := by decide +kernel
theorem dX0_become_41 : decode cX0_become 41 = .ok (.aload_n 0, 1) := by decide +kernel
theorem dX0_become_42 : decode cX0_become 42 = .ok (.getfield 22, 3) := by decide +kernel
theorem dX0_become_45 : decode cX0_become 45 = .ok (.iconst 0, 1) := by decide +kernel
theorem dX0_become_46 : decode cX0_become 46 = .ok (.iconst 4, 1) := by decide +kernel
theorem dX0_become_47 : decode cX0_become 47 = .ok (.invokestatic 43, 3) := by decide +kernel
theorem dX0_become_50 : decode cX0_become 50 = .ok (.aload_n 1, 1) := by decide +kernel
theorem dX0_become_51 : decode cX0_become 51 = .ok (.getfield 25, 3) := by decide +kernel
theorem dX0_become_54 : decode cX0_become 54 = .ok (.iconst 0, 1) := by decide +kernel
theorem dX0_become_55 : decode cX0_become 55 = .ok (.aload_n 0, 1) := by decide +kernel
theorem dX0_become_56 : decode cX0_become 56 = .ok (.getfield 25, 3) := by decide +kernel
theorem dX0_become_59 : decode cX0_become 59 = .ok (.iconst 0, 1) := by decide +kernel
theorem dX0_become_60 : decode cX0_become 60 = .ok (.bipush 64, 2) := by decide +kernel
theorem dX0_become_62 : decode cX0_become 62 = .ok (.invokestatic 43, 3) := by decide +kernel
theorem dX0_become_65 : decode cX0_become 65 = .ok (.aload_n 0, 1) := by decide +kernel
theorem dX0_become_66 : decode cX0_become 66 = .ok (.aload_n 1, 1) := by decide +kernel
theorem dX0_become_67 : decode cX0_become 67 = .ok (.getfield 28, 3) := by decide +kernel
theorem dX0_become_70 : decode cX0_become 70 = .ok (.putfield 28, 3) := by decide +kernel
theorem dX0_become_73 : decode cX0_become 73 = .ok (.aload_n 1, 1) := by decide +kernel
theorem dX0_become_74 : decode cX0_become 74 = .ok (.getfield 31, 3) := by decide +kernel
theorem dX0_become_77 : decode cX0_become 77 = .ok (.iconst 0, 1) := by decide +kernel
theorem dX0_become_78 : decode cX0_become 78 = .ok (.aload_n 0, 1) := by decide +kernel
theorem dX0_become_79 : decode cX0_become 79 = .ok (.getfield 31, 3) := by decide +kernel
theorem dX0_become_82 : decode cX0_become 82 = .ok (.iconst 0, 1) := by decide +kernel
theorem dX0_become_83 : decode cX0_become 83 = .ok (.bipush 20, 2) := by decide +kernel
theorem dX0_become_85 : decode cX0_become 85 = .ok (.invokestatic 43, 3) := by decide +kernel
theorem dX0_become_88 : decode cX0_become 88 = .ok (.aload_n 1, 1) := by decide +kernel
theorem dX0_become_89 : decode cX0_become 89 = .ok (.getfield 34, 3) := by decide +kernel
theorem dX0_become_92 : decode cX0_become 92 = .ok (.iconst 0, 1) := by decide +kernel
theorem dX0_become_93 : decode cX0_become 93 = .ok (.aload_n 0, 1) := by decide +kernel
theorem dX0_become_94 : decode cX0_become 94 = .ok (.getfield 34, 3) := by decide +kernel
theorem dX0_become_97 : decode cX0_become 97 = .ok (.iconst 0, 1) := by decide +kernel
theorem dX0_become_98 : decode cX0_become 98 = .ok (.bipush 20, 2) := by decide +kernel
theorem dX0_become_100 : decode cX0_become 100 = .ok (.invokestatic 43, 3) := by decide +kernel
theorem dX0_become_103 : decode cX0_become 103 = .ok (.aload_n 1, 1) := by decide +kernel
theorem dX0_become_104 : decode cX0_become 104 = .ok (.getfield 37, 3) := by decide +kernel
theorem dX0_become_107 : decode cX0_become 107 = .ok (.iconst 0, 1) := by decide +kernel
theorem dX0_become_108 : decode cX0_become 108 = .ok (.aload_n 0, 1) := by decide +kernel
theorem dX0_become_109 : decode cX0_become 109 = .ok (.getfield 37, 3) := by decide +kernel
theorem dX0_become_112 : decode cX0_become 112 = .ok (.iconst 0, 1) := by decide +kernel
theorem dX0_become_113 : decode cX0_become 113 = .ok (.bipush 20, 2) := by decide +kernel
theorem dX0_become_115 : decode cX0_become 115 = .ok (.invokestatic 43, 3) := by decide +kernel
theorem dX0_become_118 : decode cX0_become 118 = .ok (.aload_n 1, 1) := by decide +kernel
theorem dX0_become_119 : decode cX0_become 119 = .ok (.getfield 40, 3) := by decide +kernel
theorem dX0_become_122 : decode cX0_become 122 = .ok (.iconst 0, 1) := by decide +kernel
theorem dX0_become_123 : decode cX0_become 123 = .ok (.aload_n 0, 1) := by decide +kernel
theorem dX0_become_124 : decode cX0_become 124 = .ok (.getfield 40, 3) := by decide +kernel
theorem dX0_become_127 : decode cX0_become 127 = .ok (.iconst 0, 1) := by decide +kernel
theorem dX0_become_128 : decode cX0_become 128 = .ok (.sipush 320, 3) := by decide +kernel
theorem dX0_become_131 : decode cX0_become 131 = .ok (.invokestatic 43, 3) := by decide +kernel
theorem dX0_become_134 : decode cX0_become 134 = .ok (.return_, 1) := by decide +kernel
theorem dX0_addLine_0 : decode cX0_addLine 0 = .ok (.aload_n 0, 1) := by decide +kernel
theorem dX0_addLine_1 : decode cX0_addLine 1 = .ok (.getfield 9, 3) := by decide +kernel
theorem dX0_addLine_4 : decode cX0_addLine 4 = .ok (.istore_n 3, 1) := by decide +kernel
theorem dX0_addLine_5 : decode cX0_addLine 5 = .ok (.aload_n 0, 1) := by decide +kernel
theorem dX0_addLine_6 : decode cX0_addLine 6 = .ok (.getfield 15, 3) := by decide +kernel
theorem dX0_addLine_9 : decode cX0_addLine 9 = .ok (.iload_n 3, 1) := by decide +kernel
theorem dX0_addLine_10 : decode cX0_addLine 10 = .ok (.iload_n 1, 1) := by decide +kernel
theorem dX0_addLine_11 : decode cX0_addLine 11 = .ok (.iastore, 1) := by decide +kernel
theorem dX0_addLine_12 : decode cX0_addLine 12 = .ok (.aload_n 0, 1) := by decide +kernel
theorem dX0_addLine_13 : decode cX0_addLine 13 = .ok (.getfield 19, 3) := by decide +kernel
theorem dX0_addLine_16 : decode cX0_addLine 16 = .ok (.iload_n 3, 1) := by decide +kernel
theorem dX0_addLine_17 : decode cX0_addLine 17 = .ok (.iload_n 1, 1) := by decide +kernel
theorem dX0_addLine_18 : decode cX0_addLine 18 = .ok (.invokestatic 49, 3) := by decide +kernel
theorem dX0_addLine_21 : decode cX0_addLine 21 = .ok (.iastore, 1) := by decide +kernel
theorem dX0_addLine_22 : decode cX0_addLine 22 = .ok (.aload_n 0, 1) := by decide +kernel
theorem dX0_addLine_23 : decode cX0_addLine 23 = .ok (.getfield 22, 3) := by decide +kernel
theorem dX0_addLine_26 : decode cX0_addLine 26 = .ok (.iload_n 3, 1) := by decide +kernel
theorem dX0_addLine_27 : decode cX0_addLine 27 = .ok (.iconst 0, 1) := by decide +kernel
theorem dX0_addLine_28 : decode cX0_addLine 28 = .ok (.iastore, 1) := by decide +kernel
theorem dX0_addLine_29 : decode cX0_addLine 29 = .ok (.aload_n 2, 1) := by decide +kernel
theorem dX0_addLine_30 : decode cX0_addLine 30 = .ok (.getfield 53, 3) := by decide +kernel
theorem dX0_addLine_33 : decode cX0_addLine 33 = .ok (.iload_n 1, 1) := by decide +kernel
theorem dX0_addLine_34 : decode cX0_addLine 34 = .ok (.bipush 16, 2) := by decide +kernel
theorem dX0_addLine_36 : decode cX0_addLine 36 = .ok (.imul, 1) := by decide +kernel
theorem dX0_addLine_37 : decode cX0_addLine 37 = .ok (.aload_n 0, 1) := by decide +kernel
theorem dX0_addLine_38 : decode cX0_addLine 38 = .ok (.getfield 25, 3) := by decide +kernel
theorem dX0_addLine_41 : decode cX0_addLine 41 = .ok (.iload_n 3, 1) := by decide +kernel
theorem dX0_addLine_42 : decode cX0_addLine 42 = .ok (.bipush 16, 2) := by decide +kernel
theorem dX0_addLine_44 : decode cX0_addLine 44 = .ok (.imul, 1) := by decide +kernel
theorem dX0_addLine_45 : decode cX0_addLine 45 = .ok (.bipush 16, 2) := by decide +kernel
theorem dX0_addLine_47 : decode cX0_addLine 47 = .ok (.invokestatic 43, 3) := by decide +kernel
theorem dX0_addLine_50 : decode cX0_addLine 50 = .ok (.aload_n 0, 1) := by decide +kernel
theorem dX0_addLine_51 : decode cX0_addLine 51 = .ok (.iload_n 3, 1) := by decide +kernel
theorem dX0_addLine_52 : decode cX0_addLine 52 = .ok (.iconst 1, 1) := by decide +kernel
theorem dX0_addLine_53 : decode cX0_addLine 53 = .ok (.iadd, 1) := by decide +kernel
theorem dX0_addLine_54 : decode cX0_addLine 54 = .ok (.putfield 9, 3) := by decide +kernel
theorem dX0_addLine_57 : decode cX0_addLine 57 = .ok (.iload_n 3, 1) := by decide +kernel
theorem dX0_addLine_58 : decode cX0_addLine 58 = .ok (.ireturn, 1) := by decide +kernel
theorem dX0_putOn_0 : decode cX0_putOn 0 = .ok (.aload_n 3, 1) := by decide +kernel
theorem dX0_putOn_1 : decode cX0_putOn 1 = .ok (.iload_n 2, 1) := by decide +kernel
theorem dX0_putOn_2 : decode cX0_putOn 2 = .ok (.aload_n 0, 1) := by decide +kernel
theorem dX0_putOn_3 : decode cX0_putOn 3 = .ok (.getfield 25, 3) := by decide +kernel
theorem dX0_putOn_6 : decode cX0_putOn 6 = .ok (.iload_n 1, 1) := by decide +kernel
theorem dX0_putOn_7 : decode cX0_putOn 7 = .ok (.invokevirtual 58, 3) := by decide +kernel
theorem dX0_putOn_10 : decode cX0_putOn 10 = .ok (.aload_n 0, 1) := by decide +kernel
theorem dX0_putOn_11 : decode cX0_putOn 11 = .ok (.getfield 19, 3) := by decide +kernel
theorem dX0_putOn_14 : decode cX0_putOn 14 = .ok (.iload_n 1, 1) := by decide +kernel
theorem dX0_putOn_15 : decode cX0_putOn 15 = .ok (.dup2, 1) := by decide +kernel
theorem dX0_putOn_16 : decode cX0_putOn 16 = .ok (.iaload, 1) := by decide +kernel
theorem dX0_putOn_17 : decode cX0_putOn 17 = .ok (.iconst 1, 1) := by decide +kernel
theorem dX0_putOn_18 : decode cX0_putOn 18 = .ok (.iload_n 2, 1) := by decide +kernel
theorem dX0_putOn_19 : decode cX0_putOn 19 = .ok (.ishl, 1) := by decide +kernel
theorem dX0_putOn_20 : decode cX0_putOn 20 = .ok (.ior, 1) := by decide +kernel
theorem dX0_putOn_21 : decode cX0_putOn 21 = .ok (.iastore, 1) := by decide +kernel
theorem dX0_putOn_22 : decode cX0_putOn 22 = .ok (.return_, 1) := by decide +kernel
theorem dX0_takeOff_0 : decode cX0_takeOff 0 = .ok (.aload_n 3, 1) := by decide +kernel
theorem dX0_takeOff_1 : decode cX0_takeOff 1 = .ok (.iload_n 2, 1) := by decide +kernel
theorem dX0_takeOff_2 : decode cX0_takeOff 2 = .ok (.aload_n 0, 1) := by decide +kernel
theorem dX0_takeOff_3 : decode cX0_takeOff 3 = .ok (.getfield 25, 3) := by decide +kernel
theorem dX0_takeOff_6 : decode cX0_takeOff 6 = .ok (.iload_n 1, 1) := by decide +kernel
theorem dX0_takeOff_7 : decode cX0_takeOff 7 = .ok (.invokevirtual 62, 3) := by decide +kernel
theorem dX0_takeOff_10 : decode cX0_takeOff 10 = .ok (.aload_n 0, 1) := by decide +kernel
theorem dX0_takeOff_11 : decode cX0_takeOff 11 = .ok (.getfield 19, 3) := by decide +kernel
theorem dX0_takeOff_14 : decode cX0_takeOff 14 = .ok (.iload_n 1, 1) := by decide +kernel
theorem dX0_takeOff_15 : decode cX0_takeOff 15 = .ok (.dup2, 1) := by decide +kernel
theorem dX0_takeOff_16 : decode cX0_takeOff 16 = .ok (.iaload, 1) := by decide +kernel
theorem dX0_takeOff_17 : decode cX0_takeOff 17 = .ok (.iconst 1, 1) := by decide +kernel
theorem dX0_takeOff_18 : decode cX0_takeOff 18 = .ok (.iload_n 2, 1) := by decide +kernel
theorem dX0_takeOff_19 : decode cX0_takeOff 19 = .ok (.ishl, 1) := by decide +kernel
theorem dX0_takeOff_20 : decode cX0_takeOff 20 = .ok (.iconst (-1), 1) := by decide +kernel
theorem dX0_takeOff_21 : decode cX0_takeOff 21 = .ok (.ixor, 1) := by decide +kernel
theorem dX0_takeOff_22 : decode cX0_takeOff 22 = .ok (.iand, 1) := by decide +kernel
theorem dX0_takeOff_23 : decode cX0_takeOff 23 = .ok (.iastore, 1) := by decide +kernel
theorem dX0_takeOff_24 : decode cX0_takeOff 24 = .ok (.return_, 1) := by decide +kernel
theorem dX0_lastDay_0 : decode cX0_lastDay 0 = .ok (.aload_n 0, 1) := by decide +kernel
theorem dX0_lastDay_1 : decode cX0_lastDay 1 = .ok (.getfield 28, 3) := by decide +kernel
theorem dX0_lastDay_4 : decode cX0_lastDay 4 = .ok (.ifCond .ne 7, 3) := by decide +kernel
theorem dX0_lastDay_7 : decode cX0_lastDay 7 = .ok (.iconst 0, 1) := by decide +kernel
theorem dX0_lastDay_8 : decode cX0_lastDay 8 = .ok (.goto 14, 3) := by decide +kernel
theorem dX0_lastDay_11 : decode cX0_lastDay 11 = .ok (.aload_n 0, 1) := by decide +kernel
theorem dX0_lastDay_12 : decode cX0_lastDay 12 = .ok (.getfield 34, 3) := by decide +kernel
theorem dX0_lastDay_15 : decode cX0_lastDay 15 = .ok (.aload_n 0, 1) := by decide +kernel
theorem dX0_lastDay_16 : decode cX0_lastDay 16 = .ok (.getfield 28, 3) := by decide +kernel
theorem dX0_lastDay_19 : decode cX0_lastDay 19 = .ok (.iconst 1, 1) := by decide +kernel
theorem dX0_lastDay_20 : decode cX0_lastDay 20 = .ok (.isub, 1) := by decide +kernel
theorem dX0_lastDay_21 : decode cX0_lastDay 21 = .ok (.iaload, 1) := by decide +kernel
theorem dX0_lastDay_22 : decode cX0_lastDay 22 = .ok (.ireturn, 1) := by decide +kernel
theorem dX0_addRelease_0 : decode cX0_addRelease 0 = .ok (.aload_n 0, 1) := by decide +kernel
theorem dX0_addRelease_1 : decode cX0_addRelease 1 = .ok (.getfield 28, 3) := by decide +kernel
theorem dX0_addRelease_4 : decode cX0_addRelease 4 = .ok (.istore_n 3, 1) := by decide +kernel
theorem dX0_addRelease_5 : decode cX0_addRelease 5 = .ok (.aload_n 0, 1) := by decide +kernel
theorem dX0_addRelease_6 : decode cX0_addRelease 6 = .ok (.getfield 31, 3) := by decide +kernel
theorem dX0_addRelease_9 : decode cX0_addRelease 9 = .ok (.iload_n 3, 1) := by decide +kernel
theorem dX0_addRelease_10 : decode cX0_addRelease 10 = .ok (.iload_n 1, 1) := by decide +kernel
theorem dX0_addRelease_11 : decode cX0_addRelease 11 = .ok (.iastore, 1) := by decide +kernel
theorem dX0_addRelease_12 : decode cX0_addRelease 12 = .ok (.aload_n 0, 1) := by decide +kernel
theorem dX0_addRelease_13 : decode cX0_addRelease 13 = .ok (.getfield 34, 3) := by decide +kernel
theorem dX0_addRelease_16 : decode cX0_addRelease 16 = .ok (.iload_n 3, 1) := by decide +kernel
theorem dX0_addRelease_17 : decode cX0_addRelease 17 = .ok (.iload_n 2, 1) := by decide +kernel
theorem dX0_addRelease_18 : decode cX0_addRelease 18 = .ok (.iastore, 1) := by decide +kernel
theorem dX0_addRelease_19 : decode cX0_addRelease 19 = .ok (.aload_n 0, 1) := by decide +kernel
theorem dX0_addRelease_20 : decode cX0_addRelease 20 = .ok (.getfield 37, 3) := by decide +kernel
theorem dX0_addRelease_23 : decode cX0_addRelease 23 = .ok (.iload_n 3, 1) := by decide +kernel
theorem dX0_addRelease_24 : decode cX0_addRelease 24 = .ok (.aload_n 0, 1) := by decide +kernel
theorem dX0_addRelease_25 : decode cX0_addRelease 25 = .ok (.getfield 19, 3) := by decide +kernel
theorem dX0_addRelease_28 : decode cX0_addRelease 28 = .ok (.iload_n 1, 1) := by decide +kernel
theorem dX0_addRelease_29 : decode cX0_addRelease 29 = .ok (.iaload, 1) := by decide +kernel
theorem dX0_addRelease_30 : decode cX0_addRelease 30 = .ok (.iastore, 1) := by decide +kernel
theorem dX0_addRelease_31 : decode cX0_addRelease 31 = .ok (.aload_n 0, 1) := by decide +kernel
theorem dX0_addRelease_32 : decode cX0_addRelease 32 = .ok (.getfield 25, 3) := by decide +kernel
theorem dX0_addRelease_35 : decode cX0_addRelease 35 = .ok (.iload_n 1, 1) := by decide +kernel
theorem dX0_addRelease_36 : decode cX0_addRelease 36 = .ok (.bipush 16, 2) := by decide +kernel
theorem dX0_addRelease_38 : decode cX0_addRelease 38 = .ok (.imul, 1) := by decide +kernel
theorem dX0_addRelease_39 : decode cX0_addRelease 39 = .ok (.aload_n 0, 1) := by decide +kernel
theorem dX0_addRelease_40 : decode cX0_addRelease 40 = .ok (.getfield 40, 3) := by decide +kernel
theorem dX0_addRelease_43 : decode cX0_addRelease 43 = .ok (.iload_n 3, 1) := by decide +kernel
theorem dX0_addRelease_44 : decode cX0_addRelease 44 = .ok (.bipush 16, 2) := by decide +kernel
theorem dX0_addRelease_46 : decode cX0_addRelease 46 = .ok (.imul, 1) := by decide +kernel
theorem dX0_addRelease_47 : decode cX0_addRelease 47 = .ok (.bipush 16, 2) := by decide +kernel
theorem dX0_addRelease_49 : decode cX0_addRelease 49 = .ok (.invokestatic 43, 3) := by decide +kernel
theorem dX0_addRelease_52 : decode cX0_addRelease 52 = .ok (.aload_n 0, 1) := by decide +kernel
theorem dX0_addRelease_53 : decode cX0_addRelease 53 = .ok (.iload_n 3, 1) := by decide +kernel
theorem dX0_addRelease_54 : decode cX0_addRelease 54 = .ok (.iconst 1, 1) := by decide +kernel
theorem dX0_addRelease_55 : decode cX0_addRelease 55 = .ok (.iadd, 1) := by decide +kernel
theorem dX0_addRelease_56 : decode cX0_addRelease 56 = .ok (.putfield 28, 3) := by decide +kernel
theorem dX0_addRelease_59 : decode cX0_addRelease 59 = .ok (.iload_n 3, 1) := by decide +kernel
theorem dX0_addRelease_60 : decode cX0_addRelease 60 = .ok (.ireturn, 1) := by decide +kernel
theorem dX0_nextOfLine_0 : decode cX0_nextOfLine 0 = .ok (.iload_n 1, 1) := by decide +kernel
theorem dX0_nextOfLine_1 : decode cX0_nextOfLine 1 = .ok (.iconst 1, 1) := by decide +kernel
theorem dX0_nextOfLine_2 : decode cX0_nextOfLine 2 = .ok (.iadd, 1) := by decide +kernel
theorem dX0_nextOfLine_3 : decode cX0_nextOfLine 3 = .ok (.istore_n 2, 1) := by decide +kernel
theorem dX0_nextOfLine_4 : decode cX0_nextOfLine 4 = .ok (.iload_n 2, 1) := by decide +kernel
theorem dX0_nextOfLine_5 : decode cX0_nextOfLine 5 = .ok (.aload_n 0, 1) := by decide +kernel
theorem dX0_nextOfLine_6 : decode cX0_nextOfLine 6 = .ok (.getfield 28, 3) := by decide +kernel
theorem dX0_nextOfLine_9 : decode cX0_nextOfLine 9 = .ok (.if_icmp .ge 26, 3) := by decide +kernel
theorem dX0_nextOfLine_12 : decode cX0_nextOfLine 12 = .ok (.aload_n 0, 1) := by decide +kernel
theorem dX0_nextOfLine_13 : decode cX0_nextOfLine 13 = .ok (.getfield 31, 3) := by decide +kernel
theorem dX0_nextOfLine_16 : decode cX0_nextOfLine 16 = .ok (.iload_n 2, 1) := by decide +kernel
theorem dX0_nextOfLine_17 : decode cX0_nextOfLine 17 = .ok (.iaload, 1) := by decide +kernel
theorem dX0_nextOfLine_18 : decode cX0_nextOfLine 18 = .ok (.aload_n 0, 1) := by decide +kernel
theorem dX0_nextOfLine_19 : decode cX0_nextOfLine 19 = .ok (.getfield 31, 3) := by decide +kernel
theorem dX0_nextOfLine_22 : decode cX0_nextOfLine 22 = .ok (.iload_n 1, 1) := by decide +kernel
theorem dX0_nextOfLine_23 : decode cX0_nextOfLine 23 = .ok (.iaload, 1) := by decide +kernel
theorem dX0_nextOfLine_24 : decode cX0_nextOfLine 24 = .ok (.if_icmp .ne 5, 3) := by decide +kernel
theorem dX0_nextOfLine_27 : decode cX0_nextOfLine 27 = .ok (.iload_n 2, 1) := by decide +kernel
theorem dX0_nextOfLine_28 : decode cX0_nextOfLine 28 = .ok (.ireturn, 1) := by decide +kernel
theorem dX0_nextOfLine_29 : decode cX0_nextOfLine 29 = .ok (.iinc 2 1, 3) := by decide +kernel
theorem dX0_nextOfLine_32 : decode cX0_nextOfLine 32 = .ok (.goto (-28), 3) := by decide +kernel
theorem dX0_nextOfLine_35 : decode cX0_nextOfLine 35 = .ok (.iconst (-1), 1) := by decide +kernel
theorem dX0_nextOfLine_36 : decode cX0_nextOfLine 36 = .ok (.ireturn, 1) := by decide +kernel
theorem dX1_init_0 : decode cX1_init 0 = .ok (.aload_n 0, 1) := by decide +kernel
theorem dX1_init_1 : decode cX1_init 1 = .ok (.invokespecial 3, 3) := by decide +kernel
theorem dX1_init_4 : decode cX1_init 4 = .ok (.aload_n 0, 1) := by decide +kernel
theorem dX1_init_5 : decode cX1_init 5 = .ok (.iconst 0, 1) := by decide +kernel
theorem dX1_init_6 : decode cX1_init 6 = .ok (.putfield 9, 3) := by decide +kernel
theorem dX1_init_9 : decode cX1_init 9 = .ok (.aload_n 0, 1) := by decide +kernel
theorem dX1_init_10 : decode cX1_init 10 = .ok (.bipush 10, 2) := by decide +kernel
theorem dX1_init_12 : decode cX1_init 12 = .ok (.newarray .int, 2) := by decide +kernel
theorem dX1_init_14 : decode cX1_init 14 = .ok (.putfield 15, 3) := by decide +kernel
theorem dX1_init_17 : decode cX1_init 17 = .ok (.aload_n 0, 1) := by decide +kernel
theorem dX1_init_18 : decode cX1_init 18 = .ok (.iconst 0, 1) := by decide +kernel
theorem dX1_init_19 : decode cX1_init 19 = .ok (.putfield 19, 3) := by decide +kernel
theorem dX1_init_22 : decode cX1_init 22 = .ok (.aload_n 0, 1) := by decide +kernel
theorem dX1_init_23 : decode cX1_init 23 = .ok (.iconst 0, 1) := by decide +kernel
theorem dX1_init_24 : decode cX1_init 24 = .ok (.putfield 22, 3) := by decide +kernel
theorem dX1_init_27 : decode cX1_init 27 = .ok (.aload_n 0, 1) := by decide +kernel
theorem dX1_init_28 : decode cX1_init 28 = .ok (.iconst 0, 1) := by decide +kernel
theorem dX1_init_29 : decode cX1_init 29 = .ok (.putfield 25, 3) := by decide +kernel
theorem dX1_init_32 : decode cX1_init 32 = .ok (.aload_n 0, 1) := by decide +kernel
theorem dX1_init_33 : decode cX1_init 33 = .ok (.iconst 0, 1) := by decide +kernel
theorem dX1_init_34 : decode cX1_init 34 = .ok (.putfield 28, 3) := by decide +kernel
theorem dX1_init_37 : decode cX1_init 37 = .ok (.aload_n 0, 1) := by decide +kernel
theorem dX1_init_38 : decode cX1_init 38 = .ok (.aload_n 1, 1) := by decide +kernel
theorem dX1_init_39 : decode cX1_init 39 = .ok (.putfield 31, 3) := by decide +kernel
theorem dX1_init_42 : decode cX1_init 42 = .ok (.aload_n 0, 1) := by decide +kernel
theorem dX1_init_43 : decode cX1_init 43 = .ok (.aload_n 2, 1) := by decide +kernel
theorem dX1_init_44 : decode cX1_init 44 = .ok (.putfield 35, 3) := by decide +kernel
theorem dX1_init_47 : decode cX1_init 47 = .ok (.return_, 1) := by decide +kernel
theorem dX1_lookAt_0 : decode cX1_lookAt 0 = .ok (.aload_n 0, 1) := by decide +kernel
theorem dX1_lookAt_1 : decode cX1_lookAt 1 = .ok (.iload_n 1, 1) := by decide +kernel
theorem dX1_lookAt_2 : decode cX1_lookAt 2 = .ok (.putfield 9, 3) := by decide +kernel
theorem dX1_lookAt_5 : decode cX1_lookAt 5 = .ok (.aload_n 0, 1) := by decide +kernel
theorem dX1_lookAt_6 : decode cX1_lookAt 6 = .ok (.iconst 0, 1) := by decide +kernel
theorem dX1_lookAt_7 : decode cX1_lookAt 7 = .ok (.putfield 19, 3) := by decide +kernel
theorem dX1_lookAt_10 : decode cX1_lookAt 10 = .ok (.aload_n 0, 1) := by decide +kernel
theorem dX1_lookAt_11 : decode cX1_lookAt 11 = .ok (.getfield 31, 3) := by decide +kernel
theorem dX1_lookAt_14 : decode cX1_lookAt 14 = .ok (.aload_n 0, 1) := by decide +kernel
theorem dX1_lookAt_15 : decode cX1_lookAt 15 = .ok (.getfield 35, 3) := by decide +kernel
theorem dX1_lookAt_18 : decode cX1_lookAt 18 = .ok (.getfield 39, 3) := by decide +kernel
theorem dX1_lookAt_21 : decode cX1_lookAt 21 = .ok (.getfield 45, 3) := by decide +kernel
theorem dX1_lookAt_24 : decode cX1_lookAt 24 = .ok (.iload_n 1, 1) := by decide +kernel
theorem dX1_lookAt_25 : decode cX1_lookAt 25 = .ok (.iaload, 1) := by decide +kernel
theorem dX1_lookAt_26 : decode cX1_lookAt 26 = .ok (.invokevirtual 50, 3) := by decide +kernel
theorem dX1_lookAt_29 : decode cX1_lookAt 29 = .ok (.iload_n 2, 1) := by decide +kernel
theorem dX1_lookAt_30 : decode cX1_lookAt 30 = .ok (.iand, 1) := by decide +kernel
theorem dX1_lookAt_31 : decode cX1_lookAt 31 = .ok (.istore_n 3, 1) := by decide +kernel
theorem dX1_lookAt_32 : decode cX1_lookAt 32 = .ok (.iconst 0, 1) := by decide +kernel
theorem dX1_lookAt_33 : decode cX1_lookAt 33 = .ok (.istore 4, 2) := by decide +kernel
theorem dX1_lookAt_35 : decode cX1_lookAt 35 = .ok (.iload 4, 2) := by decide +kernel
theorem dX1_lookAt_37 : decode cX1_lookAt 37 = .ok (.aload_n 0, 1) := by decide +kernel
theorem dX1_lookAt_38 : decode cX1_lookAt 38 = .ok (.getfield 31, 3) := by decide +kernel
theorem dX1_lookAt_41 : decode cX1_lookAt 41 = .ok (.getfield 56, 3) := by decide +kernel
theorem dX1_lookAt_44 : decode cX1_lookAt 44 = .ok (.if_icmp .ge 104, 3) := by decide +kernel
theorem dX1_lookAt_47 : decode cX1_lookAt 47 = .ok (.aload_n 0, 1) := by decide +kernel
theorem dX1_lookAt_48 : decode cX1_lookAt 48 = .ok (.getfield 31, 3) := by decide +kernel
theorem dX1_lookAt_51 : decode cX1_lookAt 51 = .ok (.getfield 59, 3) := by decide +kernel
theorem dX1_lookAt_54 : decode cX1_lookAt 54 = .ok (.iload 4, 2) := by decide +kernel
theorem dX1_lookAt_56 : decode cX1_lookAt 56 = .ok (.iaload, 1) := by decide +kernel
theorem dX1_lookAt_57 : decode cX1_lookAt 57 = .ok (.istore 5, 2) := by decide +kernel
theorem dX1_lookAt_59 : decode cX1_lookAt 59 = .ok (.aload_n 0, 1) := by decide +kernel
theorem dX1_lookAt_60 : decode cX1_lookAt 60 = .ok (.getfield 15, 3) := by decide +kernel
theorem dX1_lookAt_63 : decode cX1_lookAt 63 = .ok (.iload 4, 2) := by decide +kernel
theorem dX1_lookAt_65 : decode cX1_lookAt 65 = .ok (.iconst (-1), 1) := by decide +kernel
theorem dX1_lookAt_66 : decode cX1_lookAt 66 = .ok (.iastore, 1) := by decide +kernel
theorem dX1_lookAt_67 : decode cX1_lookAt 67 = .ok (.iload_n 3, 1) := by decide +kernel
theorem dX1_lookAt_68 : decode cX1_lookAt 68 = .ok (.iload 4, 2) := by decide +kernel
theorem dX1_lookAt_70 : decode cX1_lookAt 70 = .ok (.invokestatic 62, 3) := by decide +kernel
theorem dX1_lookAt_73 : decode cX1_lookAt 73 = .ok (.ifCond .eq 45, 3) := by decide +kernel
theorem dX1_lookAt_76 : decode cX1_lookAt 76 = .ok (.iload 5, 2) := by decide +kernel
theorem dX1_lookAt_78 : decode cX1_lookAt 78 = .ok (.iconst (-1), 1) := by decide +kernel
theorem dX1_lookAt_79 : decode cX1_lookAt 79 = .ok (.if_icmp .eq 39, 3) := by decide +kernel
theorem dX1_lookAt_82 : decode cX1_lookAt 82 = .ok (.aload_n 0, 1) := by decide +kernel
theorem dX1_lookAt_83 : decode cX1_lookAt 83 = .ok (.getfield 35, 3) := by decide +kernel
theorem dX1_lookAt_86 : decode cX1_lookAt 86 = .ok (.iload_n 1, 1) := by decide +kernel
theorem dX1_lookAt_87 : decode cX1_lookAt 87 = .ok (.iload 5, 2) := by decide +kernel
theorem dX1_lookAt_89 : decode cX1_lookAt 89 = .ok (.invokevirtual 66, 3) := by decide +kernel
theorem dX1_lookAt_92 : decode cX1_lookAt 92 = .ok (.istore 6, 2) := by decide +kernel
theorem dX1_lookAt_94 : decode cX1_lookAt 94 = .ok (.aload_n 0, 1) := by decide +kernel
theorem dX1_lookAt_95 : decode cX1_lookAt 95 = .ok (.getfield 15, 3) := by decide +kernel
theorem dX1_lookAt_98 : decode cX1_lookAt 98 = .ok (.iload 4, 2) := by decide +kernel
theorem dX1_lookAt_100 : decode cX1_lookAt 100 = .ok (.iload 6, 2) := by decide +kernel
theorem dX1_lookAt_102 : decode cX1_lookAt 102 = .ok (.iconst (-1), 1) := by decide +kernel
theorem dX1_lookAt_103 : decode cX1_lookAt 103 = .ok (.if_icmp .ne 7, 3) := by decide +kernel
theorem dX1_lookAt_106 : decode cX1_lookAt 106 = .ok (.iconst (-1), 1) := by decide +kernel
theorem dX1_lookAt_107 : decode cX1_lookAt 107 = .ok (.goto 10, 3) := by decide +kernel
theorem dX1_lookAt_110 : decode cX1_lookAt 110 = .ok (.iload 6, 2) := by decide +kernel
theorem dX1_lookAt_112 : decode cX1_lookAt 112 = .ok (.iconst 1, 1) := by decide +kernel
theorem dX1_lookAt_113 : decode cX1_lookAt 113 = .ok (.iload 5, 2) := by decide +kernel
theorem dX1_lookAt_115 : decode cX1_lookAt 115 = .ok (.ishl, 1) := by decide +kernel
theorem dX1_lookAt_116 : decode cX1_lookAt 116 = .ok (.ior, 1) := by decide +kernel
theorem dX1_lookAt_117 : decode cX1_lookAt 117 = .ok (.iastore, 1) := by decide +kernel
theorem dX1_lookAt_118 : decode cX1_lookAt 118 = .ok (.aload_n 0, 1) := by decide +kernel
theorem dX1_lookAt_119 : decode cX1_lookAt 119 = .ok (.getfield 15, 3) := by decide +kernel
theorem dX1_lookAt_122 : decode cX1_lookAt 122 = .ok (.iload 4, 2) := by decide +kernel
theorem dX1_lookAt_124 : decode cX1_lookAt 124 = .ok (.iaload, 1) := by decide +kernel
theorem dX1_lookAt_125 : decode cX1_lookAt 125 = .ok (.iconst (-1), 1) := by decide +kernel
theorem dX1_lookAt_126 : decode cX1_lookAt 126 = .ok (.if_icmp .eq 16, 3) := by decide +kernel
theorem dX1_lookAt_129 : decode cX1_lookAt 129 = .ok (.aload_n 0, 1) := by decide +kernel
theorem dX1_lookAt_130 : decode cX1_lookAt 130 = .ok (.dup, 1) := by decide +kernel
theorem dX1_lookAt_131 : decode cX1_lookAt 131 = .ok (.getfield 19, 3) := by decide +kernel
theorem dX1_lookAt_134 : decode cX1_lookAt 134 = .ok (.iconst 1, 1) := by decide +kernel
theorem dX1_lookAt_135 : decode cX1_lookAt 135 = .ok (.iload 4, 2) := by decide +kernel
theorem dX1_lookAt_137 : decode cX1_lookAt 137 = .ok (.ishl, 1) := by decide +kernel
theorem dX1_lookAt_138 : decode cX1_lookAt 138 = .ok (.ior, 1) := by decide +kernel
theorem dX1_lookAt_139 : decode cX1_lookAt 139 = .ok (.putfield 19, 3) := by decide +kernel
theorem dX1_lookAt_142 : decode cX1_lookAt 142 = .ok (.iinc 4 1, 3) := by decide +kernel
theorem dX1_lookAt_145 : decode cX1_lookAt 145 = .ok (.goto (-110), 3) := by decide +kernel
theorem dX1_lookAt_148 : decode cX1_lookAt 148 = .ok (.return_, 1) := by decide +kernel
theorem dX1_allFixes_0 : decode cX1_allFixes 0 = .ok (.iconst 0, 1) := by decide +kernel
theorem dX1_allFixes_1 : decode cX1_allFixes 1 = .ok (.istore_n 2, 1) := by decide +kernel
theorem dX1_allFixes_2 : decode cX1_allFixes 2 = .ok (.iconst 0, 1) := by decide +kernel
theorem dX1_allFixes_3 : decode cX1_allFixes 3 = .ok (.istore_n 3, 1) := by decide +kernel
theorem dX1_allFixes_4 : decode cX1_allFixes 4 = .ok (.iload_n 3, 1) := by decide +kernel
theorem dX1_allFixes_5 : decode cX1_allFixes 5 = .ok (.aload_n 0, 1) := by decide +kernel
theorem dX1_allFixes_6 : decode cX1_allFixes 6 = .ok (.getfield 31, 3) := by decide +kernel
theorem dX1_allFixes_9 : decode cX1_allFixes 9 = .ok (.getfield 56, 3) := by decide +kernel
theorem dX1_allFixes_12 : decode cX1_allFixes 12 = .ok (.if_icmp .ge 26, 3) := by decide +kernel
theorem dX1_allFixes_15 : decode cX1_allFixes 15 = .ok (.iload_n 1, 1) := by decide +kernel
theorem dX1_allFixes_16 : decode cX1_allFixes 16 = .ok (.iload_n 3, 1) := by decide +kernel
theorem dX1_allFixes_17 : decode cX1_allFixes 17 = .ok (.invokestatic 62, 3) := by decide +kernel
theorem dX1_allFixes_20 : decode cX1_allFixes 20 = .ok (.ifCond .eq 12, 3) := by decide +kernel
theorem dX1_allFixes_23 : decode cX1_allFixes 23 = .ok (.iload_n 2, 1) := by decide +kernel
theorem dX1_allFixes_24 : decode cX1_allFixes 24 = .ok (.aload_n 0, 1) := by decide +kernel
theorem dX1_allFixes_25 : decode cX1_allFixes 25 = .ok (.getfield 15, 3) := by decide +kernel
theorem dX1_allFixes_28 : decode cX1_allFixes 28 = .ok (.iload_n 3, 1) := by decide +kernel
theorem dX1_allFixes_29 : decode cX1_allFixes 29 = .ok (.iaload, 1) := by decide +kernel
theorem dX1_allFixes_30 : decode cX1_allFixes 30 = .ok (.ior, 1) := by decide +kernel
theorem dX1_allFixes_31 : decode cX1_allFixes 31 = .ok (.istore_n 2, 1) := by decide +kernel
theorem dX1_allFixes_32 : decode cX1_allFixes 32 = .ok (.iinc 3 1, 3) := by decide +kernel
theorem dX1_allFixes_35 : decode cX1_allFixes 35 = .ok (.goto (-31), 3) := by decide +kernel
theorem dX1_allFixes_38 : decode cX1_allFixes 38 = .ok (.iload_n 2, 1) := by decide +kernel
theorem dX1_allFixes_39 : decode cX1_allFixes 39 = .ok (.ireturn, 1) := by decide +kernel
theorem dX1_costOf_0 : decode cX1_costOf 0 = .ok (.iload_n 1, 1) := by decide +kernel
theorem dX1_costOf_1 : decode cX1_costOf 1 = .ok (.aload_n 0, 1) := by decide +kernel
theorem dX1_costOf_2 : decode cX1_costOf 2 = .ok (.getfield 19, 3) := by decide +kernel
theorem dX1_costOf_5 : decode cX1_costOf 5 = .ok (.iconst (-1), 1) := by decide +kernel
theorem dX1_costOf_6 : decode cX1_costOf 6 = .ok (.ixor, 1) := by decide +kernel
theorem dX1_costOf_7 : decode cX1_costOf 7 = .ok (.iand, 1) := by decide +kernel
theorem dX1_costOf_8 : decode cX1_costOf 8 = .ok (.ifCond .eq 5, 3) := by decide +kernel
theorem dX1_costOf_11 : decode cX1_costOf 11 = .ok (.iconst (-1), 1) := by decide +kernel
theorem dX1_costOf_12 : decode cX1_costOf 12 = .ok (.ireturn, 1) := by decide +kernel
theorem dX1_costOf_13 : decode cX1_costOf 13 = .ok (.aload_n 0, 1) := by decide +kernel
theorem dX1_costOf_14 : decode cX1_costOf 14 = .ok (.iload_n 1, 1) := by decide +kernel
theorem dX1_costOf_15 : decode cX1_costOf 15 = .ok (.invokevirtual 70, 3) := by decide +kernel
theorem dX1_costOf_18 : decode cX1_costOf 18 = .ok (.istore_n 2, 1) := by decide +kernel
theorem dX1_costOf_19 : decode cX1_costOf 19 = .ok (.aload_n 0, 1) := by decide +kernel
theorem dX1_costOf_20 : decode cX1_costOf 20 = .ok (.getfield 35, 3) := by decide +kernel
theorem dX1_costOf_23 : decode cX1_costOf 23 = .ok (.aload_n 0, 1) := by decide +kernel
theorem dX1_costOf_24 : decode cX1_costOf 24 = .ok (.getfield 9, 3) := by decide +kernel
theorem dX1_costOf_27 : decode cX1_costOf 27 = .ok (.iload_n 2, 1) := by decide +kernel
theorem dX1_costOf_28 : decode cX1_costOf 28 = .ok (.invokevirtual 73, 3) := by decide +kernel
theorem dX1_costOf_31 : decode cX1_costOf 31 = .ok (.ifCond .eq 7, 3) := by decide +kernel
theorem dX1_costOf_34 : decode cX1_costOf 34 = .ok (.iload_n 2, 1) := by decide +kernel
theorem dX1_costOf_35 : decode cX1_costOf 35 = .ok (.goto 4, 3) := by decide +kernel
theorem dX1_costOf_38 : decode cX1_costOf 38 = .ok (.iconst (-1), 1) := by decide +kernel
theorem dX1_costOf_39 : decode cX1_costOf 39 = .ok (.ireturn, 1) := by decide +kernel
theorem dX1_findBest_0 : decode cX1_findBest 0 = .ok (.aload_n 0, 1) := by decide +kernel
theorem dX1_findBest_1 : decode cX1_findBest 1 = .ok (.iconst 0, 1) := by decide +kernel
theorem dX1_findBest_2 : decode cX1_findBest 2 = .ok (.putfield 22, 3) := by decide +kernel
theorem dX1_findBest_5 : decode cX1_findBest 5 = .ok (.aload_n 0, 1) := by decide +kernel
theorem dX1_findBest_6 : decode cX1_findBest 6 = .ok (.iconst 0, 1) := by decide +kernel
theorem dX1_findBest_7 : decode cX1_findBest 7 = .ok (.putfield 25, 3) := by decide +kernel
theorem dX1_findBest_10 : decode cX1_findBest 10 = .ok (.aload_n 0, 1) := by decide +kernel
theorem dX1_findBest_11 : decode cX1_findBest 11 = .ok (.iconst 0, 1) := by decide +kernel
theorem dX1_findBest_12 : decode cX1_findBest 12 = .ok (.putfield 28, 3) := by decide +kernel
theorem dX1_findBest_15 : decode cX1_findBest 15 = .ok (.iconst 1, 1) := by decide +kernel
theorem dX1_findBest_16 : decode cX1_findBest 16 = .ok (.istore_n 3, 1) := by decide +kernel
theorem dX1_findBest_17 : decode cX1_findBest 17 = .ok (.iload_n 3, 1) := by decide +kernel
theorem dX1_findBest_18 : decode cX1_findBest 18 = .ok (.aload_n 0, 1) := by decide +kernel
theorem dX1_findBest_19 : decode cX1_findBest 19 = .ok (.getfield 31, 3) := by decide +kernel
theorem dX1_findBest_22 : decode cX1_findBest 22 = .ok (.getfield 56, 3) := by decide +kernel
theorem dX1_findBest_25 : decode cX1_findBest 25 = .ok (.invokestatic 76, 3) := by decide +kernel
theorem dX1_findBest_28 : decode cX1_findBest 28 = .ok (.if_icmp .gt 65, 3) := by decide +kernel
theorem dX1_findBest_31 : decode cX1_findBest 31 = .ok (.iload_n 3, 1) := by decide +kernel
theorem dX1_findBest_32 : decode cX1_findBest 32 = .ok (.aload_n 0, 1) := by decide +kernel
theorem dX1_findBest_33 : decode cX1_findBest 33 = .ok (.getfield 19, 3) := by decide +kernel
theorem dX1_findBest_36 : decode cX1_findBest 36 = .ok (.iconst (-1), 1) := by decide +kernel
theorem dX1_findBest_37 : decode cX1_findBest 37 = .ok (.ixor, 1) := by decide +kernel
theorem dX1_findBest_38 : decode cX1_findBest 38 = .ok (.iand, 1) := by decide +kernel
theorem dX1_findBest_39 : decode cX1_findBest 39 = .ok (.ifCond .ne 48, 3) := by decide +kernel
theorem dX1_findBest_42 : decode cX1_findBest 42 = .ok (.aload_n 0, 1) := by decide +kernel
theorem dX1_findBest_43 : decode cX1_findBest 43 = .ok (.iload_n 3, 1) := by decide +kernel
theorem dX1_findBest_44 : decode cX1_findBest 44 = .ok (.iload_n 1, 1) := by decide +kernel
theorem dX1_findBest_45 : decode cX1_findBest 45 = .ok (.iload_n 2, 1) := by decide +kernel
theorem dX1_findBest_46 : decode cX1_findBest 46 = .ok (.invokevirtual 79, 3) := by decide +kernel
theorem dX1_findBest_49 : decode cX1_findBest 49 = .ok (.ifCond .eq 38, 3) := by decide +kernel
theorem dX1_findBest_52 : decode cX1_findBest 52 = .ok (.aload_n 0, 1) := by decide +kernel
theorem dX1_findBest_53 : decode cX1_findBest 53 = .ok (.iload_n 3, 1) := by decide +kernel
theorem dX1_findBest_54 : decode cX1_findBest 54 = .ok (.invokevirtual 83, 3) := by decide +kernel
theorem dX1_findBest_57 : decode cX1_findBest 57 = .ok (.iconst (-1), 1) := by decide +kernel
theorem dX1_findBest_58 : decode cX1_findBest 58 = .ok (.if_icmp .eq 29, 3) := by decide +kernel
theorem dX1_findBest_61 : decode cX1_findBest 61 = .ok (.aload_n 0, 1) := by decide +kernel
theorem dX1_findBest_62 : decode cX1_findBest 62 = .ok (.iload_n 3, 1) := by decide +kernel
theorem dX1_findBest_63 : decode cX1_findBest 63 = .ok (.putfield 22, 3) := by decide +kernel
theorem dX1_findBest_66 : decode cX1_findBest 66 = .ok (.aload_n 0, 1) := by decide +kernel
theorem dX1_findBest_67 : decode cX1_findBest 67 = .ok (.aload_n 0, 1) := by decide +kernel
theorem dX1_findBest_68 : decode cX1_findBest 68 = .ok (.getfield 31, 3) := by decide +kernel
theorem dX1_findBest_71 : decode cX1_findBest 71 = .ok (.iload_n 3, 1) := by decide +kernel
theorem dX1_findBest_72 : decode cX1_findBest 72 = .ok (.invokevirtual 86, 3) := by decide +kernel
theorem dX1_findBest_75 : decode cX1_findBest 75 = .ok (.putfield 25, 3) := by decide +kernel
theorem dX1_findBest_78 : decode cX1_findBest 78 = .ok (.aload_n 0, 1) := by decide +kernel
theorem dX1_findBest_79 : decode cX1_findBest 79 = .ok (.aload_n 0, 1) := by decide +kernel
theorem dX1_findBest_80 : decode cX1_findBest 80 = .ok (.iload_n 3, 1) := by decide +kernel
theorem dX1_findBest_81 : decode cX1_findBest 81 = .ok (.invokevirtual 70, 3) := by decide +kernel
theorem dX1_findBest_84 : decode cX1_findBest 84 = .ok (.putfield 28, 3) := by decide +kernel
theorem dX1_findBest_87 : decode cX1_findBest 87 = .ok (.iinc 3 1, 3) := by decide +kernel
theorem dX1_findBest_90 : decode cX1_findBest 90 = .ok (.goto (-73), 3) := by decide +kernel
theorem dX1_findBest_93 : decode cX1_findBest 93 = .ok (.return_, 1) := by decide +kernel
theorem dX1_wouldBeBetter_0 : decode cX1_wouldBeBetter 0 = .ok (.aload_n 0, 1) := by decide +kernel
theorem dX1_wouldBeBetter_1 : decode cX1_wouldBeBetter 1 = .ok (.getfield 31, 3) := by decide +kernel
theorem dX1_wouldBeBetter_4 : decode cX1_wouldBeBetter 4 = .ok (.iload_n 1, 1) := by decide +kernel
theorem dX1_wouldBeBetter_5 : decode cX1_wouldBeBetter 5 = .ok (.invokevirtual 86, 3) := by decide +kernel
theorem dX1_wouldBeBetter_8 : decode cX1_wouldBeBetter 8 = .ok (.istore 4, 2) := by decide +kernel
theorem dX1_wouldBeBetter_10 : decode cX1_wouldBeBetter 10 = .ok (.iload 4, 2) := by decide +kernel
theorem dX1_wouldBeBetter_12 : decode cX1_wouldBeBetter 12 = .ok (.aload_n 0, 1) := by decide +kernel
theorem dX1_wouldBeBetter_13 : decode cX1_wouldBeBetter 13 = .ok (.getfield 25, 3) := by decide +kernel
theorem dX1_wouldBeBetter_16 : decode cX1_wouldBeBetter 16 = .ok (.if_icmp .ge 5, 3) := by decide +kernel
theorem dX1_wouldBeBetter_19 : decode cX1_wouldBeBetter 19 = .ok (.iconst 0, 1) := by decide +kernel
theorem dX1_wouldBeBetter_20 : decode cX1_wouldBeBetter 20 = .ok (.ireturn, 1) := by decide +kernel
theorem dX1_wouldBeBetter_21 : decode cX1_wouldBeBetter 21 = .ok (.aload_n 0, 1) := by decide +kernel
theorem dX1_wouldBeBetter_22 : decode cX1_wouldBeBetter 22 = .ok (.iload_n 1, 1) := by decide +kernel
theorem dX1_wouldBeBetter_23 : decode cX1_wouldBeBetter 23 = .ok (.invokevirtual 70, 3) := by decide +kernel
theorem dX1_wouldBeBetter_26 : decode cX1_wouldBeBetter 26 = .ok (.istore 5, 2) := by decide +kernel
theorem dX1_wouldBeBetter_28 : decode cX1_wouldBeBetter 28 = .ok (.iload 5, 2) := by decide +kernel
theorem dX1_wouldBeBetter_30 : decode cX1_wouldBeBetter 30 = .ok (.invokestatic 89, 3) := by decide +kernel
theorem dX1_wouldBeBetter_33 : decode cX1_wouldBeBetter 33 = .ok (.istore 6, 2) := by decide +kernel
theorem dX1_wouldBeBetter_35 : decode cX1_wouldBeBetter 35 = .ok (.iload 4, 2) := by decide +kernel
theorem dX1_wouldBeBetter_37 : decode cX1_wouldBeBetter 37 = .ok (.aload_n 0, 1) := by decide +kernel
theorem dX1_wouldBeBetter_38 : decode cX1_wouldBeBetter 38 = .ok (.getfield 25, 3) := by decide +kernel
theorem dX1_wouldBeBetter_41 : decode cX1_wouldBeBetter 41 = .ok (.if_icmp .ne 17, 3) := by decide +kernel
theorem dX1_wouldBeBetter_44 : decode cX1_wouldBeBetter 44 = .ok (.iload 6, 2) := by decide +kernel
theorem dX1_wouldBeBetter_46 : decode cX1_wouldBeBetter 46 = .ok (.aload_n 0, 1) := by decide +kernel
theorem dX1_wouldBeBetter_47 : decode cX1_wouldBeBetter 47 = .ok (.getfield 28, 3) := by decide +kernel
theorem dX1_wouldBeBetter_50 : decode cX1_wouldBeBetter 50 = .ok (.invokestatic 89, 3) := by decide +kernel
theorem dX1_wouldBeBetter_53 : decode cX1_wouldBeBetter 53 = .ok (.if_icmp .lt 5, 3) := by decide +kernel
theorem dX1_wouldBeBetter_56 : decode cX1_wouldBeBetter 56 = .ok (.iconst 0, 1) := by decide +kernel
theorem dX1_wouldBeBetter_57 : decode cX1_wouldBeBetter 57 = .ok (.ireturn, 1) := by decide +kernel
theorem dX1_wouldBeBetter_58 : decode cX1_wouldBeBetter 58 = .ok (.iload 6, 2) := by decide +kernel
theorem dX1_wouldBeBetter_60 : decode cX1_wouldBeBetter 60 = .ok (.iload_n 2, 1) := by decide +kernel
theorem dX1_wouldBeBetter_61 : decode cX1_wouldBeBetter 61 = .ok (.if_icmp .gt 20, 3) := by decide +kernel
theorem dX1_wouldBeBetter_64 : decode cX1_wouldBeBetter 64 = .ok (.aload_n 0, 1) := by decide +kernel
theorem dX1_wouldBeBetter_65 : decode cX1_wouldBeBetter 65 = .ok (.getfield 31, 3) := by decide +kernel
theorem dX1_wouldBeBetter_68 : decode cX1_wouldBeBetter 68 = .ok (.iload 5, 2) := by decide +kernel
theorem dX1_wouldBeBetter_70 : decode cX1_wouldBeBetter 70 = .ok (.invokevirtual 94, 3) := by decide +kernel
theorem dX1_wouldBeBetter_73 : decode cX1_wouldBeBetter 73 = .ok (.iload_n 3, 1) := by decide +kernel
theorem dX1_wouldBeBetter_74 : decode cX1_wouldBeBetter 74 = .ok (.if_icmp .gt 7, 3) := by decide +kernel
theorem dX1_wouldBeBetter_77 : decode cX1_wouldBeBetter 77 = .ok (.iconst 1, 1) := by decide +kernel
theorem dX1_wouldBeBetter_78 : decode cX1_wouldBeBetter 78 = .ok (.goto 4, 3) := by decide +kernel
theorem dX1_wouldBeBetter_81 : decode cX1_wouldBeBetter 81 = .ok (.iconst 0, 1) := by decide +kernel
theorem dX1_wouldBeBetter_82 : decode cX1_wouldBeBetter 82 = .ok (.ireturn, 1) := by decide +kernel
theorem dX2_init_0 : decode cX2_init 0 = .ok (.aload_n 0, 1) := by decide +kernel
theorem dX2_init_1 : decode cX2_init 1 = .ok (.invokespecial 3, 3) := by decide +kernel
theorem dX2_init_4 : decode cX2_init 4 = .ok (.aload_n 0, 1) := by decide +kernel
theorem dX2_init_5 : decode cX2_init 5 = .ok (.bipush 16, 2) := by decide +kernel
theorem dX2_init_7 : decode cX2_init 7 = .ok (.newarray .int, 2) := by decide +kernel
theorem dX2_init_9 : decode cX2_init 9 = .ok (.putfield 9, 3) := by decide +kernel
theorem dX2_init_12 : decode cX2_init 12 = .ok (.aload_n 0, 1) := by decide +kernel
theorem dX2_init_13 : decode cX2_init 13 = .ok (.bipush 16, 2) := by decide +kernel
theorem dX2_init_15 : decode cX2_init 15 = .ok (.newarray .int, 2) := by decide +kernel
theorem dX2_init_17 : decode cX2_init 17 = .ok (.putfield 15, 3) := by decide +kernel
theorem dX2_init_20 : decode cX2_init 20 = .ok (.aload_n 0, 1) := by decide +kernel
theorem dX2_init_21 : decode cX2_init 21 = .ok (.aload_n 1, 1) := by decide +kernel
theorem dX2_init_22 : decode cX2_init 22 = .ok (.putfield 18, 3) := by decide +kernel
theorem dX2_init_25 : decode cX2_init 25 = .ok (.aload_n 0, 1) := by decide +kernel
theorem dX2_init_26 : decode cX2_init 26 = .ok (.aload_n 2, 1) := by decide +kernel
theorem dX2_init_27 : decode cX2_init 27 = .ok (.putfield 22, 3) := by decide +kernel
theorem dX2_init_30 : decode cX2_init 30 = .ok (.return_, 1) := by decide +kernel
theorem dX2_lay_0 : decode cX2_lay 0 = .ok (.aload_n 0, 1) := by decide +kernel
theorem dX2_lay_1 : decode cX2_lay 1 = .ok (.getfield 22, 3) := by decide +kernel
theorem dX2_lay_4 : decode cX2_lay 4 = .ok (.getfield 26, 3) := by decide +kernel
theorem dX2_lay_7 : decode cX2_lay 7 = .ok (.iload_n 1, 1) := by decide +kernel
theorem dX2_lay_8 : decode cX2_lay 8 = .ok (.bipush 16, 2) := by decide +kernel
theorem dX2_lay_10 : decode cX2_lay 10 = .ok (.imul, 1) := by decide +kernel
theorem dX2_lay_11 : decode cX2_lay 11 = .ok (.aload_n 2, 1) := by decide +kernel
theorem dX2_lay_12 : decode cX2_lay 12 = .ok (.iconst 0, 1) := by decide +kernel
theorem dX2_lay_13 : decode cX2_lay 13 = .ok (.bipush 16, 2) := by decide +kernel
theorem dX2_lay_15 : decode cX2_lay 15 = .ok (.invokestatic 31, 3) := by decide +kernel
theorem dX2_lay_18 : decode cX2_lay 18 = .ok (.return_, 1) := by decide +kernel
theorem dX2_goesOn_0 : decode cX2_goesOn 0 = .ok (.aload_n 0, 1) := by decide +kernel
theorem dX2_goesOn_1 : decode cX2_goesOn 1 = .ok (.getfield 18, 3) := by decide +kernel
theorem dX2_goesOn_4 : decode cX2_goesOn 4 = .ok (.iload_n 1, 1) := by decide +kernel
theorem dX2_goesOn_5 : decode cX2_goesOn 5 = .ok (.aload_n 2, 1) := by decide +kernel
theorem dX2_goesOn_6 : decode cX2_goesOn 6 = .ok (.iconst 0, 1) := by decide +kernel
theorem dX2_goesOn_7 : decode cX2_goesOn 7 = .ok (.invokevirtual 37, 3) := by decide +kernel
theorem dX2_goesOn_10 : decode cX2_goesOn 10 = .ok (.ifCond .eq 5, 3) := by decide +kernel
theorem dX2_goesOn_13 : decode cX2_goesOn 13 = .ok (.iconst 0, 1) := by decide +kernel
theorem dX2_goesOn_14 : decode cX2_goesOn 14 = .ok (.ireturn, 1) := by decide +kernel
theorem dX2_goesOn_15 : decode cX2_goesOn 15 = .ok (.aload_n 0, 1) := by decide +kernel
theorem dX2_goesOn_16 : decode cX2_goesOn 16 = .ok (.getfield 18, 3) := by decide +kernel
theorem dX2_goesOn_19 : decode cX2_goesOn 19 = .ok (.iload_n 1, 1) := by decide +kernel
theorem dX2_goesOn_20 : decode cX2_goesOn 20 = .ok (.aload_n 2, 1) := by decide +kernel
theorem dX2_goesOn_21 : decode cX2_goesOn 21 = .ok (.iconst 0, 1) := by decide +kernel
theorem dX2_goesOn_22 : decode cX2_goesOn 22 = .ok (.invokevirtual 43, 3) := by decide +kernel
theorem dX2_goesOn_25 : decode cX2_goesOn 25 = .ok (.iconst 1, 1) := by decide +kernel
theorem dX2_goesOn_26 : decode cX2_goesOn 26 = .ok (.ireturn, 1) := by decide +kernel
theorem dX2_allGoOn_0 : decode cX2_allGoOn 0 = .ok (.aload_n 0, 1) := by decide +kernel
theorem dX2_allGoOn_1 : decode cX2_allGoOn 1 = .ok (.iload_n 1, 1) := by decide +kernel
theorem dX2_allGoOn_2 : decode cX2_allGoOn 2 = .ok (.aload_n 0, 1) := by decide +kernel
theorem dX2_allGoOn_3 : decode cX2_allGoOn 3 = .ok (.getfield 9, 3) := by decide +kernel
theorem dX2_allGoOn_6 : decode cX2_allGoOn 6 = .ok (.invokevirtual 47, 3) := by decide +kernel
theorem dX2_allGoOn_9 : decode cX2_allGoOn 9 = .ok (.iconst 0, 1) := by decide +kernel
theorem dX2_allGoOn_10 : decode cX2_allGoOn 10 = .ok (.istore_n 3, 1) := by decide +kernel
theorem dX2_allGoOn_11 : decode cX2_allGoOn 11 = .ok (.iload_n 3, 1) := by decide +kernel
theorem dX2_allGoOn_12 : decode cX2_allGoOn 12 = .ok (.aload_n 0, 1) := by decide +kernel
theorem dX2_allGoOn_13 : decode cX2_allGoOn 13 = .ok (.getfield 18, 3) := by decide +kernel
theorem dX2_allGoOn_16 : decode cX2_allGoOn 16 = .ok (.getfield 51, 3) := by decide +kernel
theorem dX2_allGoOn_19 : decode cX2_allGoOn 19 = .ok (.if_icmp .ge 48, 3) := by decide +kernel
theorem dX2_allGoOn_22 : decode cX2_allGoOn 22 = .ok (.iload_n 2, 1) := by decide +kernel
theorem dX2_allGoOn_23 : decode cX2_allGoOn 23 = .ok (.iload_n 3, 1) := by decide +kernel
theorem dX2_allGoOn_24 : decode cX2_allGoOn 24 = .ok (.invokestatic 55, 3) := by decide +kernel
theorem dX2_allGoOn_27 : decode cX2_allGoOn 27 = .ok (.ifCond .eq 34, 3) := by decide +kernel
theorem dX2_allGoOn_30 : decode cX2_allGoOn 30 = .ok (.aload_n 0, 1) := by decide +kernel
theorem dX2_allGoOn_31 : decode cX2_allGoOn 31 = .ok (.getfield 18, 3) := by decide +kernel
theorem dX2_allGoOn_34 : decode cX2_allGoOn 34 = .ok (.iload_n 3, 1) := by decide +kernel
theorem dX2_allGoOn_35 : decode cX2_allGoOn 35 = .ok (.aload_n 0, 1) := by decide +kernel
theorem dX2_allGoOn_36 : decode cX2_allGoOn 36 = .ok (.getfield 9, 3) := by decide +kernel
theorem dX2_allGoOn_39 : decode cX2_allGoOn 39 = .ok (.iconst 0, 1) := by decide +kernel
theorem dX2_allGoOn_40 : decode cX2_allGoOn 40 = .ok (.invokevirtual 37, 3) := by decide +kernel
theorem dX2_allGoOn_43 : decode cX2_allGoOn 43 = .ok (.ifCond .eq 5, 3) := by decide +kernel
theorem dX2_allGoOn_46 : decode cX2_allGoOn 46 = .ok (.iconst 0, 1) := by decide +kernel
theorem dX2_allGoOn_47 : decode cX2_allGoOn 47 = .ok (.ireturn, 1) := by decide +kernel
theorem dX2_allGoOn_48 : decode cX2_allGoOn 48 = .ok (.aload_n 0, 1) := by decide +kernel
theorem dX2_allGoOn_49 : decode cX2_allGoOn 49 = .ok (.getfield 18, 3) := by decide +kernel
theorem dX2_allGoOn_52 : decode cX2_allGoOn 52 = .ok (.iload_n 3, 1) := by decide +kernel
theorem dX2_allGoOn_53 : decode cX2_allGoOn 53 = .ok (.aload_n 0, 1) := by decide +kernel
theorem dX2_allGoOn_54 : decode cX2_allGoOn 54 = .ok (.getfield 9, 3) := by decide +kernel
theorem dX2_allGoOn_57 : decode cX2_allGoOn 57 = .ok (.iconst 0, 1) := by decide +kernel
theorem dX2_allGoOn_58 : decode cX2_allGoOn 58 = .ok (.invokevirtual 43, 3) := by decide +kernel
theorem dX2_allGoOn_61 : decode cX2_allGoOn 61 = .ok (.iinc 3 1, 3) := by decide +kernel
theorem dX2_allGoOn_64 : decode cX2_allGoOn 64 = .ok (.goto (-53), 3) := by decide +kernel
theorem dX2_allGoOn_67 : decode cX2_allGoOn 67 = .ok (.iconst 1, 1) := by decide +kernel
theorem dX2_allGoOn_68 : decode cX2_allGoOn 68 = .ok (.ireturn, 1) := by decide +kernel
theorem dX2_needsOf_0 : decode cX2_needsOf 0 = .ok (.aload_n 0, 1) := by decide +kernel
theorem dX2_needsOf_1 : decode cX2_needsOf 1 = .ok (.getfield 22, 3) := by decide +kernel
theorem dX2_needsOf_4 : decode cX2_needsOf 4 = .ok (.getfield 59, 3) := by decide +kernel
theorem dX2_needsOf_7 : decode cX2_needsOf 7 = .ok (.iload_n 1, 1) := by decide +kernel
theorem dX2_needsOf_8 : decode cX2_needsOf 8 = .ok (.iaload, 1) := by decide +kernel
theorem dX2_needsOf_9 : decode cX2_needsOf 9 = .ok (.istore_n 3, 1) := by decide +kernel
theorem dX2_needsOf_10 : decode cX2_needsOf 10 = .ok (.iload_n 3, 1) := by decide +kernel
theorem dX2_needsOf_11 : decode cX2_needsOf 11 = .ok (.iload_n 2, 1) := by decide +kernel
theorem dX2_needsOf_12 : decode cX2_needsOf 12 = .ok (.invokestatic 55, 3) := by decide +kernel
theorem dX2_needsOf_15 : decode cX2_needsOf 15 = .ok (.ifCond .eq 5, 3) := by decide +kernel
theorem dX2_needsOf_18 : decode cX2_needsOf 18 = .ok (.iconst (-1), 1) := by decide +kernel
theorem dX2_needsOf_19 : decode cX2_needsOf 19 = .ok (.ireturn, 1) := by decide +kernel
theorem dX2_needsOf_20 : decode cX2_needsOf 20 = .ok (.iconst 1, 1) := by decide +kernel
theorem dX2_needsOf_21 : decode cX2_needsOf 21 = .ok (.iload_n 2, 1) := by decide +kernel
theorem dX2_needsOf_22 : decode cX2_needsOf 22 = .ok (.ishl, 1) := by decide +kernel
theorem dX2_needsOf_23 : decode cX2_needsOf 23 = .ok (.istore 4, 2) := by decide +kernel
theorem dX2_needsOf_25 : decode cX2_needsOf 25 = .ok (.iload_n 2, 1) := by decide +kernel
theorem dX2_needsOf_26 : decode cX2_needsOf 26 = .ok (.istore 5, 2) := by decide +kernel
theorem dX2_needsOf_28 : decode cX2_needsOf 28 = .ok (.iload 5, 2) := by decide +kernel
theorem dX2_needsOf_30 : decode cX2_needsOf 30 = .ok (.ifCond .lt 66, 3) := by decide +kernel
theorem dX2_needsOf_33 : decode cX2_needsOf 33 = .ok (.iload 4, 2) := by decide +kernel
theorem dX2_needsOf_35 : decode cX2_needsOf 35 = .ok (.iload 5, 2) := by decide +kernel
theorem dX2_needsOf_37 : decode cX2_needsOf 37 = .ok (.invokestatic 55, 3) := by decide +kernel
theorem dX2_needsOf_40 : decode cX2_needsOf 40 = .ok (.ifCond .eq 50, 3) := by decide +kernel
theorem dX2_needsOf_43 : decode cX2_needsOf 43 = .ok (.aload_n 0, 1) := by decide +kernel
theorem dX2_needsOf_44 : decode cX2_needsOf 44 = .ok (.iload 5, 2) := by decide +kernel
theorem dX2_needsOf_46 : decode cX2_needsOf 46 = .ok (.aload_n 0, 1) := by decide +kernel
theorem dX2_needsOf_47 : decode cX2_needsOf 47 = .ok (.getfield 18, 3) := by decide +kernel
theorem dX2_needsOf_50 : decode cX2_needsOf 50 = .ok (.iload 5, 2) := by decide +kernel
theorem dX2_needsOf_52 : decode cX2_needsOf 52 = .ok (.aload_n 0, 1) := by decide +kernel
theorem dX2_needsOf_53 : decode cX2_needsOf 53 = .ok (.getfield 22, 3) := by decide +kernel
theorem dX2_needsOf_56 : decode cX2_needsOf 56 = .ok (.getfield 26, 3) := by decide +kernel
theorem dX2_needsOf_59 : decode cX2_needsOf 59 = .ok (.iload_n 1, 1) := by decide +kernel
theorem dX2_needsOf_60 : decode cX2_needsOf 60 = .ok (.invokevirtual 37, 3) := by decide +kernel
theorem dX2_needsOf_63 : decode cX2_needsOf 63 = .ok (.invokevirtual 62, 3) := by decide +kernel
theorem dX2_needsOf_66 : decode cX2_needsOf 66 = .ok (.istore 6, 2) := by decide +kernel
theorem dX2_needsOf_68 : decode cX2_needsOf 68 = .ok (.iload 6, 2) := by decide +kernel
theorem dX2_needsOf_70 : decode cX2_needsOf 70 = .ok (.iconst (-1), 1) := by decide +kernel
theorem dX2_needsOf_71 : decode cX2_needsOf 71 = .ok (.if_icmp .eq 10, 3) := by decide +kernel
theorem dX2_needsOf_74 : decode cX2_needsOf 74 = .ok (.iload 6, 2) := by decide +kernel
theorem dX2_needsOf_76 : decode cX2_needsOf 76 = .ok (.iload_n 3, 1) := by decide +kernel
theorem dX2_needsOf_77 : decode cX2_needsOf 77 = .ok (.iand, 1) := by decide +kernel
theorem dX2_needsOf_78 : decode cX2_needsOf 78 = .ok (.ifCond .eq 5, 3) := by decide +kernel
theorem dX2_needsOf_81 : decode cX2_needsOf 81 = .ok (.iconst (-1), 1) := by decide +kernel
theorem dX2_needsOf_82 : decode cX2_needsOf 82 = .ok (.ireturn, 1) := by decide +kernel
theorem dX2_needsOf_83 : decode cX2_needsOf 83 = .ok (.iload 4, 2) := by decide +kernel
theorem dX2_needsOf_85 : decode cX2_needsOf 85 = .ok (.iload 6, 2) := by decide +kernel
theorem dX2_needsOf_87 : decode cX2_needsOf 87 = .ok (.ior, 1) := by decide +kernel
theorem dX2_needsOf_88 : decode cX2_needsOf 88 = .ok (.istore 4, 2) := by decide +kernel
theorem dX2_needsOf_90 : decode cX2_needsOf 90 = .ok (.iinc 5 (-1), 3) := by decide +kernel
theorem dX2_needsOf_93 : decode cX2_needsOf 93 = .ok (.goto (-65), 3) := by decide +kernel
theorem dX2_needsOf_96 : decode cX2_needsOf 96 = .ok (.aload_n 0, 1) := by decide +kernel
theorem dX2_needsOf_97 : decode cX2_needsOf 97 = .ok (.iload_n 1, 1) := by decide +kernel
theorem dX2_needsOf_98 : decode cX2_needsOf 98 = .ok (.iload 4, 2) := by decide +kernel
theorem dX2_needsOf_100 : decode cX2_needsOf 100 = .ok (.invokevirtual 66, 3) := by decide +kernel
theorem dX2_needsOf_103 : decode cX2_needsOf 103 = .ok (.ifCond .eq 14, 3) := by decide +kernel
theorem dX2_needsOf_106 : decode cX2_needsOf 106 = .ok (.iload 4, 2) := by decide +kernel
theorem dX2_needsOf_108 : decode cX2_needsOf 108 = .ok (.iconst 1, 1) := by decide +kernel
theorem dX2_needsOf_109 : decode cX2_needsOf 109 = .ok (.iload_n 2, 1) := by decide +kernel
theorem dX2_needsOf_110 : decode cX2_needsOf 110 = .ok (.ishl, 1) := by decide +kernel
theorem dX2_needsOf_111 : decode cX2_needsOf 111 = .ok (.iconst (-1), 1) := by decide +kernel
theorem dX2_needsOf_112 : decode cX2_needsOf 112 = .ok (.ixor, 1) := by decide +kernel
theorem dX2_needsOf_113 : decode cX2_needsOf 113 = .ok (.iand, 1) := by decide +kernel
theorem dX2_needsOf_114 : decode cX2_needsOf 114 = .ok (.goto 4, 3) := by decide +kernel
theorem dX2_needsOf_117 : decode cX2_needsOf 117 = .ok (.iconst (-1), 1) := by decide +kernel
theorem dX2_needsOf_118 : decode cX2_needsOf 118 = .ok (.ireturn, 1) := by decide +kernel
theorem dX2_settersOf_0 : decode cX2_settersOf 0 = .ok (.iconst 0, 1) := by decide +kernel
theorem dX2_settersOf_1 : decode cX2_settersOf 1 = .ok (.istore_n 3, 1) := by decide +kernel
theorem dX2_settersOf_2 : decode cX2_settersOf 2 = .ok (.iconst 0, 1) := by decide +kernel
theorem dX2_settersOf_3 : decode cX2_settersOf 3 = .ok (.istore 4, 2) := by decide +kernel
theorem dX2_settersOf_5 : decode cX2_settersOf 5 = .ok (.iload 4, 2) := by decide +kernel
theorem dX2_settersOf_7 : decode cX2_settersOf 7 = .ok (.bipush 16, 2) := by decide +kernel
theorem dX2_settersOf_9 : decode cX2_settersOf 9 = .ok (.if_icmp .ge 45, 3) := by decide +kernel
theorem dX2_settersOf_12 : decode cX2_settersOf 12 = .ok (.iload_n 2, 1) := by decide +kernel
theorem dX2_settersOf_13 : decode cX2_settersOf 13 = .ok (.iload 4, 2) := by decide +kernel
theorem dX2_settersOf_15 : decode cX2_settersOf 15 = .ok (.invokestatic 55, 3) := by decide +kernel
theorem dX2_settersOf_18 : decode cX2_settersOf 18 = .ok (.ifCond .eq 30, 3) := by decide +kernel
theorem dX2_settersOf_21 : decode cX2_settersOf 21 = .ok (.aload_n 0, 1) := by decide +kernel
theorem dX2_settersOf_22 : decode cX2_settersOf 22 = .ok (.getfield 18, 3) := by decide +kernel
theorem dX2_settersOf_25 : decode cX2_settersOf 25 = .ok (.iload_n 1, 1) := by decide +kernel
theorem dX2_settersOf_26 : decode cX2_settersOf 26 = .ok (.iload 4, 2) := by decide +kernel
theorem dX2_settersOf_28 : decode cX2_settersOf 28 = .ok (.invokevirtual 69, 3) := by decide +kernel
theorem dX2_settersOf_31 : decode cX2_settersOf 31 = .ok (.istore 5, 2) := by decide +kernel
theorem dX2_settersOf_33 : decode cX2_settersOf 33 = .ok (.iload 5, 2) := by decide +kernel
theorem dX2_settersOf_35 : decode cX2_settersOf 35 = .ok (.iconst (-1), 1) := by decide +kernel
theorem dX2_settersOf_36 : decode cX2_settersOf 36 = .ok (.if_icmp .ne 5, 3) := by decide +kernel
theorem dX2_settersOf_39 : decode cX2_settersOf 39 = .ok (.iconst (-1), 1) := by decide +kernel
theorem dX2_settersOf_40 : decode cX2_settersOf 40 = .ok (.ireturn, 1) := by decide +kernel
theorem dX2_settersOf_41 : decode cX2_settersOf 41 = .ok (.iload_n 3, 1) := by decide +kernel
theorem dX2_settersOf_42 : decode cX2_settersOf 42 = .ok (.iconst 1, 1) := by decide +kernel
theorem dX2_settersOf_43 : decode cX2_settersOf 43 = .ok (.iload 5, 2) := by decide +kernel
theorem dX2_settersOf_45 : decode cX2_settersOf 45 = .ok (.ishl, 1) := by decide +kernel
theorem dX2_settersOf_46 : decode cX2_settersOf 46 = .ok (.ior, 1) := by decide +kernel
theorem dX2_settersOf_47 : decode cX2_settersOf 47 = .ok (.istore_n 3, 1) := by decide +kernel
theorem dX2_settersOf_48 : decode cX2_settersOf 48 = .ok (.iinc 4 1, 3) := by decide +kernel
theorem dX2_settersOf_51 : decode cX2_settersOf 51 = .ok (.goto (-46), 3) := by decide +kernel
theorem dX2_settersOf_54 : decode cX2_settersOf 54 = .ok (.iload_n 3, 1) := by decide +kernel
theorem dX2_settersOf_55 : decode cX2_settersOf 55 = .ok (.ireturn, 1) := by decide +kernel
theorem dX2_areApart_0 : decode cX2_areApart 0 = .ok (.aload_n 0, 1) := by decide +kernel
theorem dX2_areApart_1 : decode cX2_areApart 1 = .ok (.iload_n 1, 1) := by decide +kernel
theorem dX2_areApart_2 : decode cX2_areApart 2 = .ok (.aload_n 0, 1) := by decide +kernel
theorem dX2_areApart_3 : decode cX2_areApart 3 = .ok (.getfield 9, 3) := by decide +kernel
theorem dX2_areApart_6 : decode cX2_areApart 6 = .ok (.invokevirtual 47, 3) := by decide +kernel
theorem dX2_areApart_9 : decode cX2_areApart 9 = .ok (.aload_n 0, 1) := by decide +kernel
theorem dX2_areApart_10 : decode cX2_areApart 10 = .ok (.iload_n 1, 1) := by decide +kernel
theorem dX2_areApart_11 : decode cX2_areApart 11 = .ok (.aload_n 0, 1) := by decide +kernel
theorem dX2_areApart_12 : decode cX2_areApart 12 = .ok (.getfield 15, 3) := by decide +kernel
theorem dX2_areApart_15 : decode cX2_areApart 15 = .ok (.invokevirtual 47, 3) := by decide +kernel
theorem dX2_areApart_18 : decode cX2_areApart 18 = .ok (.aload_n 0, 1) := by decide +kernel
theorem dX2_areApart_19 : decode cX2_areApart 19 = .ok (.iload_n 2, 1) := by decide +kernel
theorem dX2_areApart_20 : decode cX2_areApart 20 = .ok (.aload_n 0, 1) := by decide +kernel
theorem dX2_areApart_21 : decode cX2_areApart 21 = .ok (.getfield 9, 3) := by decide +kernel
theorem dX2_areApart_24 : decode cX2_areApart 24 = .ok (.invokevirtual 72, 3) := by decide +kernel
theorem dX2_areApart_27 : decode cX2_areApart 27 = .ok (.ifCond .eq 39, 3) := by decide +kernel
theorem dX2_areApart_30 : decode cX2_areApart 30 = .ok (.aload_n 0, 1) := by decide +kernel
theorem dX2_areApart_31 : decode cX2_areApart 31 = .ok (.iload_n 3, 1) := by decide +kernel
theorem dX2_areApart_32 : decode cX2_areApart 32 = .ok (.aload_n 0, 1) := by decide +kernel
theorem dX2_areApart_33 : decode cX2_areApart 33 = .ok (.getfield 9, 3) := by decide +kernel
theorem dX2_areApart_36 : decode cX2_areApart 36 = .ok (.invokevirtual 72, 3) := by decide +kernel
theorem dX2_areApart_39 : decode cX2_areApart 39 = .ok (.ifCond .eq 27, 3) := by decide +kernel
theorem dX2_areApart_42 : decode cX2_areApart 42 = .ok (.aload_n 0, 1) := by decide +kernel
theorem dX2_areApart_43 : decode cX2_areApart 43 = .ok (.iload_n 3, 1) := by decide +kernel
theorem dX2_areApart_44 : decode cX2_areApart 44 = .ok (.aload_n 0, 1) := by decide +kernel
theorem dX2_areApart_45 : decode cX2_areApart 45 = .ok (.getfield 15, 3) := by decide +kernel
theorem dX2_areApart_48 : decode cX2_areApart 48 = .ok (.invokevirtual 72, 3) := by decide +kernel
theorem dX2_areApart_51 : decode cX2_areApart 51 = .ok (.ifCond .eq 15, 3) := by decide +kernel
theorem dX2_areApart_54 : decode cX2_areApart 54 = .ok (.aload_n 0, 1) := by decide +kernel
theorem dX2_areApart_55 : decode cX2_areApart 55 = .ok (.iload_n 2, 1) := by decide +kernel
theorem dX2_areApart_56 : decode cX2_areApart 56 = .ok (.aload_n 0, 1) := by decide +kernel
theorem dX2_areApart_57 : decode cX2_areApart 57 = .ok (.getfield 15, 3) := by decide +kernel
theorem dX2_areApart_60 : decode cX2_areApart 60 = .ok (.invokevirtual 72, 3) := by decide +kernel
theorem dX2_areApart_63 : decode cX2_areApart 63 = .ok (.ifCond .ne 5, 3) := by decide +kernel
theorem dX2_areApart_66 : decode cX2_areApart 66 = .ok (.iconst 0, 1) := by decide +kernel
theorem dX2_areApart_67 : decode cX2_areApart 67 = .ok (.ireturn, 1) := by decide +kernel
theorem dX2_areApart_68 : decode cX2_areApart 68 = .ok (.iconst 0, 1) := by decide +kernel
theorem dX2_areApart_69 : decode cX2_areApart 69 = .ok (.istore 4, 2) := by decide +kernel
theorem dX2_areApart_71 : decode cX2_areApart 71 = .ok (.iload 4, 2) := by decide +kernel
theorem dX2_areApart_73 : decode cX2_areApart 73 = .ok (.bipush 16, 2) := by decide +kernel
theorem dX2_areApart_75 : decode cX2_areApart 75 = .ok (.if_icmp .ge 28, 3) := by decide +kernel
theorem dX2_areApart_78 : decode cX2_areApart 78 = .ok (.aload_n 0, 1) := by decide +kernel
theorem dX2_areApart_79 : decode cX2_areApart 79 = .ok (.getfield 9, 3) := by decide +kernel
theorem dX2_areApart_82 : decode cX2_areApart 82 = .ok (.iload 4, 2) := by decide +kernel
theorem dX2_areApart_84 : decode cX2_areApart 84 = .ok (.iaload, 1) := by decide +kernel
theorem dX2_areApart_85 : decode cX2_areApart 85 = .ok (.aload_n 0, 1) := by decide +kernel
theorem dX2_areApart_86 : decode cX2_areApart 86 = .ok (.getfield 15, 3) := by decide +kernel
theorem dX2_areApart_89 : decode cX2_areApart 89 = .ok (.iload 4, 2) := by decide +kernel
theorem dX2_areApart_91 : decode cX2_areApart 91 = .ok (.iaload, 1) := by decide +kernel
theorem dX2_areApart_92 : decode cX2_areApart 92 = .ok (.if_icmp .eq 5, 3) := by decide +kernel
theorem dX2_areApart_95 : decode cX2_areApart 95 = .ok (.iconst 0, 1) := by decide +kernel
theorem dX2_areApart_96 : decode cX2_areApart 96 = .ok (.ireturn, 1) := by decide +kernel
theorem dX2_areApart_97 : decode cX2_areApart 97 = .ok (.iinc 4 1, 3) := by decide +kernel
theorem dX2_areApart_100 : decode cX2_areApart 100 = .ok (.goto (-29), 3) := by decide +kernel
theorem dX2_areApart_103 : decode cX2_areApart 103 = .ok (.iconst 1, 1) := by decide +kernel
theorem dX2_areApart_104 : decode cX2_areApart 104 = .ok (.ireturn, 1) := by decide +kernel
theorem dX2_readyOn_0 : decode cX2_readyOn 0 = .ok (.iconst 0, 1) := by decide +kernel
theorem dX2_readyOn_1 : decode cX2_readyOn 1 = .ok (.istore_n 2, 1) := by decide +kernel
theorem dX2_readyOn_2 : decode cX2_readyOn 2 = .ok (.iconst 0, 1) := by decide +kernel
theorem dX2_readyOn_3 : decode cX2_readyOn 3 = .ok (.istore_n 3, 1) := by decide +kernel
theorem dX2_readyOn_4 : decode cX2_readyOn 4 = .ok (.iload_n 3, 1) := by decide +kernel
theorem dX2_readyOn_5 : decode cX2_readyOn 5 = .ok (.aload_n 0, 1) := by decide +kernel
theorem dX2_readyOn_6 : decode cX2_readyOn 6 = .ok (.getfield 18, 3) := by decide +kernel
theorem dX2_readyOn_9 : decode cX2_readyOn 9 = .ok (.getfield 51, 3) := by decide +kernel
theorem dX2_readyOn_12 : decode cX2_readyOn 12 = .ok (.if_icmp .ge 50, 3) := by decide +kernel
theorem dX2_readyOn_15 : decode cX2_readyOn 15 = .ok (.aload_n 0, 1) := by decide +kernel
theorem dX2_readyOn_16 : decode cX2_readyOn 16 = .ok (.getfield 22, 3) := by decide +kernel
theorem dX2_readyOn_19 : decode cX2_readyOn 19 = .ok (.getfield 59, 3) := by decide +kernel
theorem dX2_readyOn_22 : decode cX2_readyOn 22 = .ok (.iload_n 1, 1) := by decide +kernel
theorem dX2_readyOn_23 : decode cX2_readyOn 23 = .ok (.iaload, 1) := by decide +kernel
theorem dX2_readyOn_24 : decode cX2_readyOn 24 = .ok (.iload_n 3, 1) := by decide +kernel
theorem dX2_readyOn_25 : decode cX2_readyOn 25 = .ok (.invokestatic 55, 3) := by decide +kernel
theorem dX2_readyOn_28 : decode cX2_readyOn 28 = .ok (.ifCond .ne 28, 3) := by decide +kernel
theorem dX2_readyOn_31 : decode cX2_readyOn 31 = .ok (.aload_n 0, 1) := by decide +kernel
theorem dX2_readyOn_32 : decode cX2_readyOn 32 = .ok (.getfield 18, 3) := by decide +kernel
theorem dX2_readyOn_35 : decode cX2_readyOn 35 = .ok (.iload_n 3, 1) := by decide +kernel
theorem dX2_readyOn_36 : decode cX2_readyOn 36 = .ok (.aload_n 0, 1) := by decide +kernel
theorem dX2_readyOn_37 : decode cX2_readyOn 37 = .ok (.getfield 22, 3) := by decide +kernel
theorem dX2_readyOn_40 : decode cX2_readyOn 40 = .ok (.getfield 26, 3) := by decide +kernel
theorem dX2_readyOn_43 : decode cX2_readyOn 43 = .ok (.iload_n 1, 1) := by decide +kernel
theorem dX2_readyOn_44 : decode cX2_readyOn 44 = .ok (.invokevirtual 37, 3) := by decide +kernel
theorem dX2_readyOn_47 : decode cX2_readyOn 47 = .ok (.ifCond .ne 9, 3) := by decide +kernel
theorem dX2_readyOn_50 : decode cX2_readyOn 50 = .ok (.iload_n 2, 1) := by decide +kernel
theorem dX2_readyOn_51 : decode cX2_readyOn 51 = .ok (.iconst 1, 1) := by decide +kernel
theorem dX2_readyOn_52 : decode cX2_readyOn 52 = .ok (.iload_n 3, 1) := by decide +kernel
theorem dX2_readyOn_53 : decode cX2_readyOn 53 = .ok (.ishl, 1) := by decide +kernel
theorem dX2_readyOn_54 : decode cX2_readyOn 54 = .ok (.ior, 1) := by decide +kernel
theorem dX2_readyOn_55 : decode cX2_readyOn 55 = .ok (.istore_n 2, 1) := by decide +kernel
theorem dX2_readyOn_56 : decode cX2_readyOn 56 = .ok (.iinc 3 1, 3) := by decide +kernel
theorem dX2_readyOn_59 : decode cX2_readyOn 59 = .ok (.goto (-55), 3) := by decide +kernel
theorem dX2_readyOn_62 : decode cX2_readyOn 62 = .ok (.iload_n 2, 1) := by decide +kernel
theorem dX2_readyOn_63 : decode cX2_readyOn 63 = .ok (.ireturn, 1) := by decide +kernel
theorem dX2_inReach_0 : decode cX2_inReach 0 = .ok (.aload_n 0, 1) := by decide +kernel
theorem dX2_inReach_1 : decode cX2_inReach 1 = .ok (.iload_n 1, 1) := by decide +kernel
theorem dX2_inReach_2 : decode cX2_inReach 2 = .ok (.aload_n 0, 1) := by decide +kernel
theorem dX2_inReach_3 : decode cX2_inReach 3 = .ok (.getfield 9, 3) := by decide +kernel
theorem dX2_inReach_6 : decode cX2_inReach 6 = .ok (.invokevirtual 47, 3) := by decide +kernel
theorem dX2_inReach_9 : decode cX2_inReach 9 = .ok (.iconst 0, 1) := by decide +kernel
theorem dX2_inReach_10 : decode cX2_inReach 10 = .ok (.istore_n 2, 1) := by decide +kernel
theorem dX2_inReach_11 : decode cX2_inReach 11 = .ok (.iconst 0, 1) := by decide +kernel
theorem dX2_inReach_12 : decode cX2_inReach 12 = .ok (.istore_n 3, 1) := by decide +kernel
theorem dX2_inReach_13 : decode cX2_inReach 13 = .ok (.iload_n 3, 1) := by decide +kernel
theorem dX2_inReach_14 : decode cX2_inReach 14 = .ok (.bipush 24, 2) := by decide +kernel
theorem dX2_inReach_16 : decode cX2_inReach 16 = .ok (.if_icmp .ge 55, 3) := by decide +kernel
theorem dX2_inReach_19 : decode cX2_inReach 19 = .ok (.aload_n 0, 1) := by decide +kernel
theorem dX2_inReach_20 : decode cX2_inReach 20 = .ok (.aload_n 0, 1) := by decide +kernel
theorem dX2_inReach_21 : decode cX2_inReach 21 = .ok (.getfield 22, 3) := by decide +kernel
theorem dX2_inReach_24 : decode cX2_inReach 24 = .ok (.getfield 59, 3) := by decide +kernel
theorem dX2_inReach_27 : decode cX2_inReach 27 = .ok (.iload_n 1, 1) := by decide +kernel
theorem dX2_inReach_28 : decode cX2_inReach 28 = .ok (.iaload, 1) := by decide +kernel
theorem dX2_inReach_29 : decode cX2_inReach 29 = .ok (.iload_n 2, 1) := by decide +kernel
theorem dX2_inReach_30 : decode cX2_inReach 30 = .ok (.ior, 1) := by decide +kernel
theorem dX2_inReach_31 : decode cX2_inReach 31 = .ok (.invokevirtual 76, 3) := by decide +kernel
theorem dX2_inReach_34 : decode cX2_inReach 34 = .ok (.istore 4, 2) := by decide +kernel
theorem dX2_inReach_36 : decode cX2_inReach 36 = .ok (.iload 4, 2) := by decide +kernel
theorem dX2_inReach_38 : decode cX2_inReach 38 = .ok (.iconst (-1), 1) := by decide +kernel
theorem dX2_inReach_39 : decode cX2_inReach 39 = .ok (.if_icmp .ne 5, 3) := by decide +kernel
theorem dX2_inReach_42 : decode cX2_inReach 42 = .ok (.iload_n 2, 1) := by decide +kernel
theorem dX2_inReach_43 : decode cX2_inReach 43 = .ok (.ireturn, 1) := by decide +kernel
theorem dX2_inReach_44 : decode cX2_inReach 44 = .ok (.aload_n 0, 1) := by decide +kernel
theorem dX2_inReach_45 : decode cX2_inReach 45 = .ok (.getfield 18, 3) := by decide +kernel
theorem dX2_inReach_48 : decode cX2_inReach 48 = .ok (.iload 4, 2) := by decide +kernel
theorem dX2_inReach_50 : decode cX2_inReach 50 = .ok (.aload_n 0, 1) := by decide +kernel
theorem dX2_inReach_51 : decode cX2_inReach 51 = .ok (.getfield 9, 3) := by decide +kernel
theorem dX2_inReach_54 : decode cX2_inReach 54 = .ok (.iconst 0, 1) := by decide +kernel
theorem dX2_inReach_55 : decode cX2_inReach 55 = .ok (.invokevirtual 43, 3) := by decide +kernel
theorem dX2_inReach_58 : decode cX2_inReach 58 = .ok (.iload_n 2, 1) := by decide +kernel
theorem dX2_inReach_59 : decode cX2_inReach 59 = .ok (.iconst 1, 1) := by decide +kernel
theorem dX2_inReach_60 : decode cX2_inReach 60 = .ok (.iload 4, 2) := by decide +kernel
theorem dX2_inReach_62 : decode cX2_inReach 62 = .ok (.ishl, 1) := by decide +kernel
theorem dX2_inReach_63 : decode cX2_inReach 63 = .ok (.ior, 1) := by decide +kernel
theorem dX2_inReach_64 : decode cX2_inReach 64 = .ok (.istore_n 2, 1) := by decide +kernel
theorem dX2_inReach_65 : decode cX2_inReach 65 = .ok (.iinc 3 1, 3) := by decide +kernel
theorem dX2_inReach_68 : decode cX2_inReach 68 = .ok (.goto (-55), 3) := by decide +kernel
theorem dX2_inReach_71 : decode cX2_inReach 71 = .ok (.iload_n 2, 1) := by decide +kernel
theorem dX2_inReach_72 : decode cX2_inReach 72 = .ok (.ireturn, 1) := by decide +kernel
theorem dX2_leastReady_0 : decode cX2_leastReady 0 = .ok (.iconst 0, 1) := by decide +kernel
theorem dX2_leastReady_1 : decode cX2_leastReady 1 = .ok (.istore_n 2, 1) := by decide +kernel
theorem dX2_leastReady_2 : decode cX2_leastReady 2 = .ok (.iload_n 2, 1) := by decide +kernel
theorem dX2_leastReady_3 : decode cX2_leastReady 3 = .ok (.aload_n 0, 1) := by decide +kernel
theorem dX2_leastReady_4 : decode cX2_leastReady 4 = .ok (.getfield 18, 3) := by decide +kernel
theorem dX2_leastReady_7 : decode cX2_leastReady 7 = .ok (.getfield 51, 3) := by decide +kernel
theorem dX2_leastReady_10 : decode cX2_leastReady 10 = .ok (.if_icmp .ge 35, 3) := by decide +kernel
theorem dX2_leastReady_13 : decode cX2_leastReady 13 = .ok (.iload_n 1, 1) := by decide +kernel
theorem dX2_leastReady_14 : decode cX2_leastReady 14 = .ok (.iload_n 2, 1) := by decide +kernel
theorem dX2_leastReady_15 : decode cX2_leastReady 15 = .ok (.invokestatic 55, 3) := by decide +kernel
theorem dX2_leastReady_18 : decode cX2_leastReady 18 = .ok (.ifCond .ne 21, 3) := by decide +kernel
theorem dX2_leastReady_21 : decode cX2_leastReady 21 = .ok (.aload_n 0, 1) := by decide +kernel
theorem dX2_leastReady_22 : decode cX2_leastReady 22 = .ok (.getfield 18, 3) := by decide +kernel
theorem dX2_leastReady_25 : decode cX2_leastReady 25 = .ok (.iload_n 2, 1) := by decide +kernel
theorem dX2_leastReady_26 : decode cX2_leastReady 26 = .ok (.aload_n 0, 1) := by decide +kernel
theorem dX2_leastReady_27 : decode cX2_leastReady 27 = .ok (.getfield 9, 3) := by decide +kernel
theorem dX2_leastReady_30 : decode cX2_leastReady 30 = .ok (.iconst 0, 1) := by decide +kernel
theorem dX2_leastReady_31 : decode cX2_leastReady 31 = .ok (.invokevirtual 37, 3) := by decide +kernel
theorem dX2_leastReady_34 : decode cX2_leastReady 34 = .ok (.ifCond .ne 5, 3) := by decide +kernel
theorem dX2_leastReady_37 : decode cX2_leastReady 37 = .ok (.iload_n 2, 1) := by decide +kernel
theorem dX2_leastReady_38 : decode cX2_leastReady 38 = .ok (.ireturn, 1) := by decide +kernel
theorem dX2_leastReady_39 : decode cX2_leastReady 39 = .ok (.iinc 2 1, 3) := by decide +kernel
theorem dX2_leastReady_42 : decode cX2_leastReady 42 = .ok (.goto (-40), 3) := by decide +kernel
theorem dX2_leastReady_45 : decode cX2_leastReady 45 = .ok (.iconst (-1), 1) := by decide +kernel
theorem dX2_leastReady_46 : decode cX2_leastReady 46 = .ok (.ireturn, 1) := by decide +kernel
theorem dX3_init_0 : decode cX3_init 0 = .ok (.aload_n 0, 1) := by decide +kernel
theorem dX3_init_1 : decode cX3_init 1 = .ok (.invokespecial 3, 3) := by decide +kernel
theorem dX3_init_4 : decode cX3_init 4 = .ok (.aload_n 0, 1) := by decide +kernel
theorem dX3_init_5 : decode cX3_init 5 = .ok (.iconst 0, 1) := by decide +kernel
theorem dX3_init_6 : decode cX3_init 6 = .ok (.putfield 9, 3) := by decide +kernel
theorem dX3_init_9 : decode cX3_init 9 = .ok (.aload_n 0, 1) := by decide +kernel
theorem dX3_init_10 : decode cX3_init 10 = .ok (.iconst 0, 1) := by decide +kernel
theorem dX3_init_11 : decode cX3_init 11 = .ok (.putfield 15, 3) := by decide +kernel
theorem dX3_init_14 : decode cX3_init 14 = .ok (.aload_n 0, 1) := by decide +kernel
theorem dX3_init_15 : decode cX3_init 15 = .ok (.iconst 0, 1) := by decide +kernel
theorem dX3_init_16 : decode cX3_init 16 = .ok (.putfield 18, 3) := by decide +kernel
theorem dX3_init_19 : decode cX3_init 19 = .ok (.aload_n 0, 1) := by decide +kernel
theorem dX3_init_20 : decode cX3_init 20 = .ok (.iconst 0, 1) := by decide +kernel
theorem dX3_init_21 : decode cX3_init 21 = .ok (.putfield 21, 3) := by decide +kernel
theorem dX3_init_24 : decode cX3_init 24 = .ok (.aload_n 0, 1) := by decide +kernel
theorem dX3_init_25 : decode cX3_init 25 = .ok (.iconst 0, 1) := by decide +kernel
theorem dX3_init_26 : decode cX3_init 26 = .ok (.putfield 24, 3) := by decide +kernel
theorem dX3_init_29 : decode cX3_init 29 = .ok (.aload_n 0, 1) := by decide +kernel
theorem dX3_init_30 : decode cX3_init 30 = .ok (.iconst 0, 1) := by decide +kernel
theorem dX3_init_31 : decode cX3_init 31 = .ok (.putfield 27, 3) := by decide +kernel
theorem dX3_init_34 : decode cX3_init 34 = .ok (.aload_n 0, 1) := by decide +kernel
theorem dX3_init_35 : decode cX3_init 35 = .ok (.iconst (-1), 1) := by decide +kernel
theorem dX3_init_36 : decode cX3_init 36 = .ok (.putfield 30, 3) := by decide +kernel
theorem dX3_init_39 : decode cX3_init 39 = .ok (.aload_n 0, 1) := by decide +kernel
theorem dX3_init_40 : decode cX3_init 40 = .ok (.aload_n 1, 1) := by decide +kernel
theorem dX3_init_41 : decode cX3_init 41 = .ok (.putfield 33, 3) := by decide +kernel
theorem dX3_init_44 : decode cX3_init 44 = .ok (.return_, 1) := by decide +kernel
theorem dX3_begin_0 : decode cX3_begin 0 = .ok (.aload_n 0, 1) := by decide +kernel
theorem dX3_begin_1 : decode cX3_begin 1 = .ok (.iload_n 1, 1) := by decide +kernel
theorem dX3_begin_2 : decode cX3_begin 2 = .ok (.putfield 9, 3) := by decide +kernel
theorem dX3_begin_5 : decode cX3_begin 5 = .ok (.aload_n 0, 1) := by decide +kernel
theorem dX3_begin_6 : decode cX3_begin 6 = .ok (.iconst 0, 1) := by decide +kernel
theorem dX3_begin_7 : decode cX3_begin 7 = .ok (.putfield 21, 3) := by decide +kernel
theorem dX3_begin_10 : decode cX3_begin 10 = .ok (.aload_n 0, 1) := by decide +kernel
theorem dX3_begin_11 : decode cX3_begin 11 = .ok (.iconst 0, 1) := by decide +kernel
theorem dX3_begin_12 : decode cX3_begin 12 = .ok (.putfield 27, 3) := by decide +kernel
theorem dX3_begin_15 : decode cX3_begin 15 = .ok (.aload_n 0, 1) := by decide +kernel
theorem dX3_begin_16 : decode cX3_begin 16 = .ok (.iconst (-1), 1) := by decide +kernel
theorem dX3_begin_17 : decode cX3_begin 17 = .ok (.putfield 30, 3) := by decide +kernel
theorem dX3_begin_20 : decode cX3_begin 20 = .ok (.aload_n 0, 1) := by decide +kernel
theorem dX3_begin_21 : decode cX3_begin 21 = .ok (.invokevirtual 37, 3) := by decide +kernel
theorem dX3_begin_24 : decode cX3_begin 24 = .ok (.return_, 1) := by decide +kernel
theorem dX3_atEnd_0 : decode cX3_atEnd 0 = .ok (.aload_n 0, 1) := by decide +kernel
theorem dX3_atEnd_1 : decode cX3_atEnd 1 = .ok (.getfield 15, 3) := by decide +kernel
theorem dX3_atEnd_4 : decode cX3_atEnd 4 = .ok (.ifCond .ne 7, 3) := by decide +kernel
theorem dX3_atEnd_7 : decode cX3_atEnd 7 = .ok (.iconst 1, 1) := by decide +kernel
theorem dX3_atEnd_8 : decode cX3_atEnd 8 = .ok (.goto 4, 3) := by decide +kernel
theorem dX3_atEnd_11 : decode cX3_atEnd 11 = .ok (.iconst 0, 1) := by decide +kernel
theorem dX3_atEnd_12 : decode cX3_atEnd 12 = .ok (.ireturn, 1) := by decide +kernel
theorem dX3_step_0 : decode cX3_step 0 = .ok (.aload_n 0, 1) := by decide +kernel
theorem dX3_step_1 : decode cX3_step 1 = .ok (.getfield 33, 3) := by decide +kernel
theorem dX3_step_4 : decode cX3_step 4 = .ok (.getfield 40, 3) := by decide +kernel
theorem dX3_step_7 : decode cX3_step 7 = .ok (.istore_n 1, 1) := by decide +kernel
theorem dX3_step_8 : decode cX3_step 8 = .ok (.aload_n 0, 1) := by decide +kernel
theorem dX3_step_9 : decode cX3_step 9 = .ok (.getfield 21, 3) := by decide +kernel
theorem dX3_step_12 : decode cX3_step 12 = .ok (.istore_n 2, 1) := by decide +kernel
theorem dX3_step_13 : decode cX3_step 13 = .ok (.iload_n 2, 1) := by decide +kernel
theorem dX3_step_14 : decode cX3_step 14 = .ok (.iload_n 1, 1) := by decide +kernel
theorem dX3_step_15 : decode cX3_step 15 = .ok (.if_icmp .ge 23, 3) := by decide +kernel
theorem dX3_step_18 : decode cX3_step 18 = .ok (.aload_n 0, 1) := by decide +kernel
theorem dX3_step_19 : decode cX3_step 19 = .ok (.getfield 33, 3) := by decide +kernel
theorem dX3_step_22 : decode cX3_step 22 = .ok (.getfield 45, 3) := by decide +kernel
theorem dX3_step_25 : decode cX3_step 25 = .ok (.iload_n 2, 1) := by decide +kernel
theorem dX3_step_26 : decode cX3_step 26 = .ok (.iaload, 1) := by decide +kernel
theorem dX3_step_27 : decode cX3_step 27 = .ok (.bipush 32, 2) := by decide +kernel
theorem dX3_step_29 : decode cX3_step 29 = .ok (.if_icmp .ne 9, 3) := by decide +kernel
theorem dX3_step_32 : decode cX3_step 32 = .ok (.iinc 2 1, 3) := by decide +kernel
theorem dX3_step_35 : decode cX3_step 35 = .ok (.goto (-22), 3) := by decide +kernel
theorem dX3_step_38 : decode cX3_step 38 = .ok (.aload_n 0, 1) := by decide +kernel
theorem dX3_step_39 : decode cX3_step 39 = .ok (.iload_n 2, 1) := by decide +kernel
theorem dX3_step_40 : decode cX3_step 40 = .ok (.putfield 18, 3) := by decide +kernel
theorem dX3_step_43 : decode cX3_step 43 = .ok (.aload_n 0, 1) := by decide +kernel
theorem dX3_step_44 : decode cX3_step 44 = .ok (.iload_n 2, 1) := by decide +kernel
theorem dX3_step_45 : decode cX3_step 45 = .ok (.iload_n 1, 1) := by decide +kernel
theorem dX3_step_46 : decode cX3_step 46 = .ok (.if_icmp .ge 18, 3) := by decide +kernel
theorem dX3_step_49 : decode cX3_step 49 = .ok (.aload_n 0, 1) := by decide +kernel
theorem dX3_step_50 : decode cX3_step 50 = .ok (.getfield 33, 3) := by decide +kernel
theorem dX3_step_53 : decode cX3_step 53 = .ok (.getfield 45, 3) := by decide +kernel
theorem dX3_step_56 : decode cX3_step 56 = .ok (.iload_n 2, 1) := by decide +kernel
theorem dX3_step_57 : decode cX3_step 57 = .ok (.iaload, 1) := by decide +kernel
theorem dX3_step_58 : decode cX3_step 58 = .ok (.invokestatic 49, 3) := by decide +kernel
theorem dX3_step_61 : decode cX3_step 61 = .ok (.goto 4, 3) := by decide +kernel
theorem dX3_step_64 : decode cX3_step 64 = .ok (.iconst 0, 1) := by decide +kernel
theorem dX3_step_65 : decode cX3_step 65 = .ok (.putfield 15, 3) := by decide +kernel
theorem dX3_step_68 : decode cX3_step 68 = .ok (.aload_n 0, 1) := by decide +kernel
theorem dX3_step_69 : decode cX3_step 69 = .ok (.getfield 15, 3) := by decide +kernel
theorem dX3_step_72 : decode cX3_step 72 = .ok (.iconst 3, 1) := by decide +kernel
theorem dX3_step_73 : decode cX3_step 73 = .ok (.if_icmp .ne 9, 3) := by decide +kernel
theorem dX3_step_76 : decode cX3_step 76 = .ok (.iinc 2 1, 3) := by decide +kernel
theorem dX3_step_79 : decode cX3_step 79 = .ok (.goto 40, 3) := by decide +kernel
theorem dX3_step_82 : decode cX3_step 82 = .ok (.aload_n 0, 1) := by decide +kernel
theorem dX3_step_83 : decode cX3_step 83 = .ok (.getfield 15, 3) := by decide +kernel
theorem dX3_step_86 : decode cX3_step 86 = .ok (.ifCond .eq 33, 3) := by decide +kernel
theorem dX3_step_89 : decode cX3_step 89 = .ok (.iload_n 2, 1) := by decide +kernel
theorem dX3_step_90 : decode cX3_step 90 = .ok (.iload_n 1, 1) := by decide +kernel
theorem dX3_step_91 : decode cX3_step 91 = .ok (.if_icmp .ge 28, 3) := by decide +kernel
theorem dX3_step_94 : decode cX3_step 94 = .ok (.aload_n 0, 1) := by decide +kernel
theorem dX3_step_95 : decode cX3_step 95 = .ok (.getfield 33, 3) := by decide +kernel
theorem dX3_step_98 : decode cX3_step 98 = .ok (.getfield 45, 3) := by decide +kernel
theorem dX3_step_101 : decode cX3_step 101 = .ok (.iload_n 2, 1) := by decide +kernel
theorem dX3_step_102 : decode cX3_step 102 = .ok (.iaload, 1) := by decide +kernel
theorem dX3_step_103 : decode cX3_step 103 = .ok (.invokestatic 49, 3) := by decide +kernel
theorem dX3_step_106 : decode cX3_step 106 = .ok (.aload_n 0, 1) := by decide +kernel
theorem dX3_step_107 : decode cX3_step 107 = .ok (.getfield 15, 3) := by decide +kernel
theorem dX3_step_110 : decode cX3_step 110 = .ok (.if_icmp .ne 9, 3) := by decide +kernel
theorem dX3_step_113 : decode cX3_step 113 = .ok (.iinc 2 1, 3) := by decide +kernel
theorem dX3_step_116 : decode cX3_step 116 = .ok (.goto (-27), 3) := by decide +kernel
theorem dX3_step_119 : decode cX3_step 119 = .ok (.aload_n 0, 1) := by decide +kernel
theorem dX3_step_120 : decode cX3_step 120 = .ok (.iload_n 2, 1) := by decide +kernel
theorem dX3_step_121 : decode cX3_step 121 = .ok (.putfield 21, 3) := by decide +kernel
theorem dX3_step_124 : decode cX3_step 124 = .ok (.return_, 1) := by decide +kernel
theorem dX3_kindOf_0 : decode cX3_kindOf 0 = .ok (.iload_n 0, 1) := by decide +kernel
theorem dX3_kindOf_1 : decode cX3_kindOf 1 = .ok (.bipush 97, 2) := by decide +kernel
theorem dX3_kindOf_3 : decode cX3_kindOf 3 = .ok (.if_icmp .lt 11, 3) := by decide +kernel
theorem dX3_kindOf_6 : decode cX3_kindOf 6 = .ok (.iload_n 0, 1) := by decide +kernel
theorem dX3_kindOf_7 : decode cX3_kindOf 7 = .ok (.bipush 122, 2) := by decide +kernel
theorem dX3_kindOf_9 : decode cX3_kindOf 9 = .ok (.if_icmp .gt 5, 3) := by decide +kernel
theorem dX3_kindOf_12 : decode cX3_kindOf 12 = .ok (.iconst 1, 1) := by decide +kernel
theorem dX3_kindOf_13 : decode cX3_kindOf 13 = .ok (.ireturn, 1) := by decide +kernel
theorem dX3_kindOf_14 : decode cX3_kindOf 14 = .ok (.iload_n 0, 1) := by decide +kernel
theorem dX3_kindOf_15 : decode cX3_kindOf 15 = .ok (.bipush 48, 2) := by decide +kernel
theorem dX3_kindOf_17 : decode cX3_kindOf 17 = .ok (.if_icmp .lt 13, 3) := by decide +kernel
theorem dX3_kindOf_20 : decode cX3_kindOf 20 = .ok (.iload_n 0, 1) := by decide +kernel
theorem dX3_kindOf_21 : decode cX3_kindOf 21 = .ok (.bipush 57, 2) := by decide +kernel
theorem dX3_kindOf_23 : decode cX3_kindOf 23 = .ok (.if_icmp .gt 7, 3) := by decide +kernel
theorem dX3_kindOf_26 : decode cX3_kindOf 26 = .ok (.iconst 2, 1) := by decide +kernel
theorem dX3_kindOf_27 : decode cX3_kindOf 27 = .ok (.goto 4, 3) := by decide +kernel
theorem dX3_kindOf_30 : decode cX3_kindOf 30 = .ok (.iconst 3, 1) := by decide +kernel
theorem dX3_kindOf_31 : decode cX3_kindOf 31 = .ok (.ireturn, 1) := by decide +kernel
theorem dX3_isWord_0 : decode cX3_isWord 0 = .ok (.aload_n 0, 1) := by decide +kernel
theorem dX3_isWord_1 : decode cX3_isWord 1 = .ok (.getfield 15, 3) := by decide +kernel
theorem dX3_isWord_4 : decode cX3_isWord 4 = .ok (.iconst 1, 1) := by decide +kernel
theorem dX3_isWord_5 : decode cX3_isWord 5 = .ok (.if_icmp .ne 19, 3) := by decide +kernel
theorem dX3_isWord_8 : decode cX3_isWord 8 = .ok (.aload_n 0, 1) := by decide +kernel
theorem dX3_isWord_9 : decode cX3_isWord 9 = .ok (.getfield 21, 3) := by decide +kernel
theorem dX3_isWord_12 : decode cX3_isWord 12 = .ok (.aload_n 0, 1) := by decide +kernel
theorem dX3_isWord_13 : decode cX3_isWord 13 = .ok (.getfield 18, 3) := by decide +kernel
theorem dX3_isWord_16 : decode cX3_isWord 16 = .ok (.isub, 1) := by decide +kernel
theorem dX3_isWord_17 : decode cX3_isWord 17 = .ok (.aload_n 1, 1) := by decide +kernel
theorem dX3_isWord_18 : decode cX3_isWord 18 = .ok (.invokevirtual 53, 3) := by decide +kernel
theorem dX3_isWord_21 : decode cX3_isWord 21 = .ok (.if_icmp .eq 5, 3) := by decide +kernel
theorem dX3_isWord_24 : decode cX3_isWord 24 = .ok (.iconst 0, 1) := by decide +kernel
theorem dX3_isWord_25 : decode cX3_isWord 25 = .ok (.ireturn, 1) := by decide +kernel
theorem dX3_isWord_26 : decode cX3_isWord 26 = .ok (.iconst 0, 1) := by decide +kernel
theorem dX3_isWord_27 : decode cX3_isWord 27 = .ok (.istore_n 2, 1) := by decide +kernel
theorem dX3_isWord_28 : decode cX3_isWord 28 = .ok (.iload_n 2, 1) := by decide +kernel
theorem dX3_isWord_29 : decode cX3_isWord 29 = .ok (.aload_n 1, 1) := by decide +kernel
theorem dX3_isWord_30 : decode cX3_isWord 30 = .ok (.invokevirtual 53, 3) := by decide +kernel
theorem dX3_isWord_33 : decode cX3_isWord 33 = .ok (.if_icmp .ge 33, 3) := by decide +kernel
theorem dX3_isWord_36 : decode cX3_isWord 36 = .ok (.aload_n 0, 1) := by decide +kernel
theorem dX3_isWord_37 : decode cX3_isWord 37 = .ok (.getfield 33, 3) := by decide +kernel
theorem dX3_isWord_40 : decode cX3_isWord 40 = .ok (.getfield 45, 3) := by decide +kernel
theorem dX3_isWord_43 : decode cX3_isWord 43 = .ok (.aload_n 0, 1) := by decide +kernel
theorem dX3_isWord_44 : decode cX3_isWord 44 = .ok (.getfield 18, 3) := by decide +kernel
theorem dX3_isWord_47 : decode cX3_isWord 47 = .ok (.iload_n 2, 1) := by decide +kernel
theorem dX3_isWord_48 : decode cX3_isWord 48 = .ok (.iadd, 1) := by decide +kernel
theorem dX3_isWord_49 : decode cX3_isWord 49 = .ok (.iaload, 1) := by decide +kernel
theorem dX3_isWord_50 : decode cX3_isWord 50 = .ok (.aload_n 1, 1) := by decide +kernel
theorem dX3_isWord_51 : decode cX3_isWord 51 = .ok (.iload_n 2, 1) := by decide +kernel
theorem dX3_isWord_52 : decode cX3_isWord 52 = .ok (.invokevirtual 58, 3) := by decide +kernel
theorem dX3_isWord_55 : decode cX3_isWord 55 = .ok (.if_icmp .eq 5, 3) := by decide +kernel
theorem dX3_isWord_58 : decode cX3_isWord 58 = .ok (.iconst 0, 1) := by decide +kernel
theorem dX3_isWord_59 : decode cX3_isWord 59 = .ok (.ireturn, 1) := by decide +kernel
theorem dX3_isWord_60 : decode cX3_isWord 60 = .ok (.iinc 2 1, 3) := by decide +kernel
theorem dX3_isWord_63 : decode cX3_isWord 63 = .ok (.goto (-35), 3) := by decide +kernel
theorem dX3_isWord_66 : decode cX3_isWord 66 = .ok (.iconst 1, 1) := by decide +kernel
theorem dX3_isWord_67 : decode cX3_isWord 67 = .ok (.ireturn, 1) := by decide +kernel
theorem dX3_isSign_0 : decode cX3_isSign 0 = .ok (.aload_n 0, 1) := by decide +kernel
theorem dX3_isSign_1 : decode cX3_isSign 1 = .ok (.getfield 15, 3) := by decide +kernel
theorem dX3_isSign_4 : decode cX3_isSign 4 = .ok (.iconst 3, 1) := by decide +kernel
theorem dX3_isSign_5 : decode cX3_isSign 5 = .ok (.if_icmp .ne 23, 3) := by decide +kernel
theorem dX3_isSign_8 : decode cX3_isSign 8 = .ok (.aload_n 0, 1) := by decide +kernel
theorem dX3_isSign_9 : decode cX3_isSign 9 = .ok (.getfield 33, 3) := by decide +kernel
theorem dX3_isSign_12 : decode cX3_isSign 12 = .ok (.getfield 45, 3) := by decide +kernel
theorem dX3_isSign_15 : decode cX3_isSign 15 = .ok (.aload_n 0, 1) := by decide +kernel
theorem dX3_isSign_16 : decode cX3_isSign 16 = .ok (.getfield 18, 3) := by decide +kernel
theorem dX3_isSign_19 : decode cX3_isSign 19 = .ok (.iaload, 1) := by decide +kernel
theorem dX3_isSign_20 : decode cX3_isSign 20 = .ok (.iload_n 1, 1) := by decide +kernel
theorem dX3_isSign_21 : decode cX3_isSign 21 = .ok (.if_icmp .ne 7, 3) := by decide +kernel
theorem dX3_isSign_24 : decode cX3_isSign 24 = .ok (.iconst 1, 1) := by decide +kernel
theorem dX3_isSign_25 : decode cX3_isSign 25 = .ok (.goto 4, 3) := by decide +kernel
theorem dX3_isSign_28 : decode cX3_isSign 28 = .ok (.iconst 0, 1) := by decide +kernel
theorem dX3_isSign_29 : decode cX3_isSign 29 = .ok (.ireturn, 1) := by decide +kernel
theorem dX3_takeWord_0 : decode cX3_takeWord 0 = .ok (.aload_n 0, 1) := by decide +kernel
theorem dX3_takeWord_1 : decode cX3_takeWord 1 = .ok (.aload_n 1, 1) := by decide +kernel
theorem dX3_takeWord_2 : decode cX3_takeWord 2 = .ok (.invokevirtual 62, 3) := by decide +kernel
theorem dX3_takeWord_5 : decode cX3_takeWord 5 = .ok (.ifCond .ne 5, 3) := by decide +kernel
theorem dX3_takeWord_8 : decode cX3_takeWord 8 = .ok (.iconst 0, 1) := by decide +kernel
theorem dX3_takeWord_9 : decode cX3_takeWord 9 = .ok (.ireturn, 1) := by decide +kernel
theorem dX3_takeWord_10 : decode cX3_takeWord 10 = .ok (.aload_n 0, 1) := by decide +kernel
theorem dX3_takeWord_11 : decode cX3_takeWord 11 = .ok (.invokevirtual 37, 3) := by decide +kernel
theorem dX3_takeWord_14 : decode cX3_takeWord 14 = .ok (.iconst 1, 1) := by decide +kernel
theorem dX3_takeWord_15 : decode cX3_takeWord 15 = .ok (.ireturn, 1) := by decide +kernel
theorem dX3_takeSign_0 : decode cX3_takeSign 0 = .ok (.aload_n 0, 1) := by decide +kernel
theorem dX3_takeSign_1 : decode cX3_takeSign 1 = .ok (.iload_n 1, 1) := by decide +kernel
theorem dX3_takeSign_2 : decode cX3_takeSign 2 = .ok (.invokevirtual 66, 3) := by decide +kernel
theorem dX3_takeSign_5 : decode cX3_takeSign 5 = .ok (.ifCond .ne 5, 3) := by decide +kernel
theorem dX3_takeSign_8 : decode cX3_takeSign 8 = .ok (.iconst 0, 1) := by decide +kernel
theorem dX3_takeSign_9 : decode cX3_takeSign 9 = .ok (.ireturn, 1) := by decide +kernel
theorem dX3_takeSign_10 : decode cX3_takeSign 10 = .ok (.aload_n 0, 1) := by decide +kernel
theorem dX3_takeSign_11 : decode cX3_takeSign 11 = .ok (.invokevirtual 37, 3) := by decide +kernel
theorem dX3_takeSign_14 : decode cX3_takeSign 14 = .ok (.iconst 1, 1) := by decide +kernel
theorem dX3_takeSign_15 : decode cX3_takeSign 15 = .ok (.ireturn, 1) := by decide +kernel
theorem dX3_needWord_0 : decode cX3_needWord 0 = .ok (.aload_n 0, 1) := by decide +kernel
theorem dX3_needWord_1 : decode cX3_needWord 1 = .ok (.aload_n 1, 1) := by decide +kernel
theorem dX3_needWord_2 : decode cX3_needWord 2 = .ok (.invokevirtual 70, 3) := by decide +kernel
theorem dX3_needWord_5 : decode cX3_needWord 5 = .ok (.ifCond .ne 11, 3) := by decide +kernel
theorem dX3_needWord_8 : decode cX3_needWord 8 = .ok (.aload_n 0, 1) := by decide +kernel
theorem dX3_needWord_9 : decode cX3_needWord 9 = .ok (.iconst 1, 1) := by decide +kernel
theorem dX3_needWord_10 : decode cX3_needWord 10 = .ok (.invokevirtual 73, 3) := by decide +kernel
theorem dX3_needWord_13 : decode cX3_needWord 13 = .ok (.ifCond .eq 7, 3) := by decide +kernel
theorem dX3_needWord_16 : decode cX3_needWord 16 = .ok (.iconst 1, 1) := by decide +kernel
theorem dX3_needWord_17 : decode cX3_needWord 17 = .ok (.goto 4, 3) := by decide +kernel
theorem dX3_needWord_20 : decode cX3_needWord 20 = .ok (.iconst 0, 1) := by decide +kernel
theorem dX3_needWord_21 : decode cX3_needWord 21 = .ok (.ireturn, 1) := by decide +kernel
theorem dX3_needSign_0 : decode cX3_needSign 0 = .ok (.aload_n 0, 1) := by decide +kernel
theorem dX3_needSign_1 : decode cX3_needSign 1 = .ok (.iload_n 1, 1) := by decide +kernel
theorem dX3_needSign_2 : decode cX3_needSign 2 = .ok (.invokevirtual 77, 3) := by decide +kernel
theorem dX3_needSign_5 : decode cX3_needSign 5 = .ok (.ifCond .ne 11, 3) := by decide +kernel
theorem dX3_needSign_8 : decode cX3_needSign 8 = .ok (.aload_n 0, 1) := by decide +kernel
theorem dX3_needSign_9 : decode cX3_needSign 9 = .ok (.iconst 1, 1) := by decide +kernel
theorem dX3_needSign_10 : decode cX3_needSign 10 = .ok (.invokevirtual 73, 3) := by decide +kernel
theorem dX3_needSign_13 : decode cX3_needSign 13 = .ok (.ifCond .eq 7, 3) := by decide +kernel
theorem dX3_needSign_16 : decode cX3_needSign 16 = .ok (.iconst 1, 1) := by decide +kernel
theorem dX3_needSign_17 : decode cX3_needSign 17 = .ok (.goto 4, 3) := by decide +kernel
theorem dX3_needSign_20 : decode cX3_needSign 20 = .ok (.iconst 0, 1) := by decide +kernel
theorem dX3_needSign_21 : decode cX3_needSign 21 = .ok (.ireturn, 1) := by decide +kernel
theorem dX3_needNumber_0 : decode cX3_needNumber 0 = .ok (.aload_n 0, 1) := by decide +kernel
theorem dX3_needNumber_1 : decode cX3_needNumber 1 = .ok (.iload_n 1, 1) := by decide +kernel
theorem dX3_needNumber_2 : decode cX3_needNumber 2 = .ok (.iload_n 2, 1) := by decide +kernel
theorem dX3_needNumber_3 : decode cX3_needNumber 3 = .ok (.invokevirtual 80, 3) := by decide +kernel
theorem dX3_needNumber_6 : decode cX3_needNumber 6 = .ok (.ifCond .ne 5, 3) := by decide +kernel
theorem dX3_needNumber_9 : decode cX3_needNumber 9 = .ok (.iconst (-1), 1) := by decide +kernel
theorem dX3_needNumber_10 : decode cX3_needNumber 10 = .ok (.ireturn, 1) := by decide +kernel
theorem dX3_needNumber_11 : decode cX3_needNumber 11 = .ok (.aload_n 0, 1) := by decide +kernel
theorem dX3_needNumber_12 : decode cX3_needNumber 12 = .ok (.invokevirtual 37, 3) := by decide +kernel
theorem dX3_needNumber_15 : decode cX3_needNumber 15 = .ok (.aload_n 0, 1) := by decide +kernel
theorem dX3_needNumber_16 : decode cX3_needNumber 16 = .ok (.getfield 24, 3) := by decide +kernel
theorem dX3_needNumber_19 : decode cX3_needNumber 19 = .ok (.ireturn, 1) := by decide +kernel
theorem dX3_needNew_0 : decode cX3_needNew 0 = .ok (.aload_n 0, 1) := by decide +kernel
theorem dX3_needNew_1 : decode cX3_needNew 1 = .ok (.iload_n 1, 1) := by decide +kernel
theorem dX3_needNew_2 : decode cX3_needNew 2 = .ok (.iload_n 2, 1) := by decide +kernel
theorem dX3_needNew_3 : decode cX3_needNew 3 = .ok (.invokevirtual 80, 3) := by decide +kernel
theorem dX3_needNew_6 : decode cX3_needNew 6 = .ok (.ifCond .ne 5, 3) := by decide +kernel
theorem dX3_needNew_9 : decode cX3_needNew 9 = .ok (.iconst (-1), 1) := by decide +kernel
theorem dX3_needNew_10 : decode cX3_needNew 10 = .ok (.ireturn, 1) := by decide +kernel
theorem dX3_needNew_11 : decode cX3_needNew 11 = .ok (.aload_n 0, 1) := by decide +kernel
theorem dX3_needNew_12 : decode cX3_needNew 12 = .ok (.getfield 24, 3) := by decide +kernel
theorem dX3_needNew_15 : decode cX3_needNew 15 = .ok (.bipush 16, 2) := by decide +kernel
theorem dX3_needNew_17 : decode cX3_needNew 17 = .ok (.if_icmp .ge 22, 3) := by decide +kernel
theorem dX3_needNew_20 : decode cX3_needNew 20 = .ok (.iload_n 3, 1) := by decide +kernel
theorem dX3_needNew_21 : decode cX3_needNew 21 = .ok (.aload_n 0, 1) := by decide +kernel
theorem dX3_needNew_22 : decode cX3_needNew 22 = .ok (.getfield 24, 3) := by decide +kernel
theorem dX3_needNew_25 : decode cX3_needNew 25 = .ok (.invokestatic 84, 3) := by decide +kernel
theorem dX3_needNew_28 : decode cX3_needNew 28 = .ok (.ifCond .eq 11, 3) := by decide +kernel
theorem dX3_needNew_31 : decode cX3_needNew 31 = .ok (.aload_n 0, 1) := by decide +kernel
theorem dX3_needNew_32 : decode cX3_needNew 32 = .ok (.iconst 4, 1) := by decide +kernel
theorem dX3_needNew_33 : decode cX3_needNew 33 = .ok (.invokevirtual 73, 3) := by decide +kernel
theorem dX3_needNew_36 : decode cX3_needNew 36 = .ok (.pop, 1) := by decide +kernel
theorem dX3_needNew_37 : decode cX3_needNew 37 = .ok (.iconst (-1), 1) := by decide +kernel
theorem dX3_needNew_38 : decode cX3_needNew 38 = .ok (.ireturn, 1) := by decide +kernel
theorem dX3_needNew_39 : decode cX3_needNew 39 = .ok (.aload_n 0, 1) := by decide +kernel
theorem dX3_needNew_40 : decode cX3_needNew 40 = .ok (.invokevirtual 37, 3) := by decide +kernel
theorem dX3_needNew_43 : decode cX3_needNew 43 = .ok (.aload_n 0, 1) := by decide +kernel
theorem dX3_needNew_44 : decode cX3_needNew 44 = .ok (.getfield 24, 3) := by decide +kernel
theorem dX3_needNew_47 : decode cX3_needNew 47 = .ok (.ireturn, 1) := by decide +kernel
theorem dX3_fits_0 : decode cX3_fits 0 = .ok (.aload_n 0, 1) := by decide +kernel
theorem dX3_fits_1 : decode cX3_fits 1 = .ok (.getfield 15, 3) := by decide +kernel
theorem dX3_fits_4 : decode cX3_fits 4 = .ok (.iconst 2, 1) := by decide +kernel
theorem dX3_fits_5 : decode cX3_fits 5 = .ok (.if_icmp .eq 9, 3) := by decide +kernel
theorem dX3_fits_8 : decode cX3_fits 8 = .ok (.aload_n 0, 1) := by decide +kernel
theorem dX3_fits_9 : decode cX3_fits 9 = .ok (.iconst 1, 1) := by decide +kernel
theorem dX3_fits_10 : decode cX3_fits 10 = .ok (.invokevirtual 73, 3) := by decide +kernel
theorem dX3_fits_13 : decode cX3_fits 13 = .ok (.ireturn, 1) := by decide +kernel
theorem dX3_fits_14 : decode cX3_fits 14 = .ok (.aload_n 0, 1) := by decide +kernel
theorem dX3_fits_15 : decode cX3_fits 15 = .ok (.iconst 0, 1) := by decide +kernel
theorem dX3_fits_16 : decode cX3_fits 16 = .ok (.putfield 24, 3) := by decide +kernel
theorem dX3_fits_19 : decode cX3_fits 19 = .ok (.aload_n 0, 1) := by decide +kernel
theorem dX3_fits_20 : decode cX3_fits 20 = .ok (.getfield 18, 3) := by decide +kernel
theorem dX3_fits_23 : decode cX3_fits 23 = .ok (.istore_n 3, 1) := by decide +kernel
theorem dX3_fits_24 : decode cX3_fits 24 = .ok (.iload_n 3, 1) := by decide +kernel
theorem dX3_fits_25 : decode cX3_fits 25 = .ok (.aload_n 0, 1) := by decide +kernel
theorem dX3_fits_26 : decode cX3_fits 26 = .ok (.getfield 21, 3) := by decide +kernel
theorem dX3_fits_29 : decode cX3_fits 29 = .ok (.if_icmp .ge 43, 3) := by decide +kernel
theorem dX3_fits_32 : decode cX3_fits 32 = .ok (.iload_n 3, 1) := by decide +kernel
theorem dX3_fits_33 : decode cX3_fits 33 = .ok (.aload_n 0, 1) := by decide +kernel
theorem dX3_fits_34 : decode cX3_fits 34 = .ok (.getfield 18, 3) := by decide +kernel
theorem dX3_fits_37 : decode cX3_fits 37 = .ok (.iconst 3, 1) := by decide +kernel
theorem dX3_fits_38 : decode cX3_fits 38 = .ok (.iadd, 1) := by decide +kernel
theorem dX3_fits_39 : decode cX3_fits 39 = .ok (.if_icmp .ge 33, 3) := by decide +kernel
theorem dX3_fits_42 : decode cX3_fits 42 = .ok (.aload_n 0, 1) := by decide +kernel
theorem dX3_fits_43 : decode cX3_fits 43 = .ok (.bipush 10, 2) := by decide +kernel
theorem dX3_fits_45 : decode cX3_fits 45 = .ok (.aload_n 0, 1) := by decide +kernel
theorem dX3_fits_46 : decode cX3_fits 46 = .ok (.getfield 24, 3) := by decide +kernel
theorem dX3_fits_49 : decode cX3_fits 49 = .ok (.imul, 1) := by decide +kernel
theorem dX3_fits_50 : decode cX3_fits 50 = .ok (.aload_n 0, 1) := by decide +kernel
theorem dX3_fits_51 : decode cX3_fits 51 = .ok (.getfield 33, 3) := by decide +kernel
theorem dX3_fits_54 : decode cX3_fits 54 = .ok (.getfield 45, 3) := by decide +kernel
theorem dX3_fits_57 : decode cX3_fits 57 = .ok (.iload_n 3, 1) := by decide +kernel
theorem dX3_fits_58 : decode cX3_fits 58 = .ok (.iaload, 1) := by decide +kernel
theorem dX3_fits_59 : decode cX3_fits 59 = .ok (.iadd, 1) := by decide +kernel
theorem dX3_fits_60 : decode cX3_fits 60 = .ok (.bipush 48, 2) := by decide +kernel
theorem dX3_fits_62 : decode cX3_fits 62 = .ok (.isub, 1) := by decide +kernel
theorem dX3_fits_63 : decode cX3_fits 63 = .ok (.putfield 24, 3) := by decide +kernel
theorem dX3_fits_66 : decode cX3_fits 66 = .ok (.iinc 3 1, 3) := by decide +kernel
theorem dX3_fits_69 : decode cX3_fits 69 = .ok (.goto (-45), 3) := by decide +kernel
theorem dX3_fits_72 : decode cX3_fits 72 = .ok (.aload_n 0, 1) := by decide +kernel
theorem dX3_fits_73 : decode cX3_fits 73 = .ok (.getfield 21, 3) := by decide +kernel
theorem dX3_fits_76 : decode cX3_fits 76 = .ok (.aload_n 0, 1) := by decide +kernel
theorem dX3_fits_77 : decode cX3_fits 77 = .ok (.getfield 18, 3) := by decide +kernel
theorem dX3_fits_80 : decode cX3_fits 80 = .ok (.isub, 1) := by decide +kernel
theorem dX3_fits_81 : decode cX3_fits 81 = .ok (.aload_n 0, 1) := by decide +kernel
theorem dX3_fits_82 : decode cX3_fits 82 = .ok (.getfield 9, 3) := by decide +kernel
theorem dX3_fits_85 : decode cX3_fits 85 = .ok (.if_icmp .gt 23, 3) := by decide +kernel
theorem dX3_fits_88 : decode cX3_fits 88 = .ok (.aload_n 0, 1) := by decide +kernel
theorem dX3_fits_89 : decode cX3_fits 89 = .ok (.getfield 24, 3) := by decide +kernel
theorem dX3_fits_92 : decode cX3_fits 92 = .ok (.iload_n 1, 1) := by decide +kernel
theorem dX3_fits_93 : decode cX3_fits 93 = .ok (.if_icmp .lt 15, 3) := by decide +kernel
theorem dX3_fits_96 : decode cX3_fits 96 = .ok (.aload_n 0, 1) := by decide +kernel
theorem dX3_fits_97 : decode cX3_fits 97 = .ok (.getfield 24, 3) := by decide +kernel
theorem dX3_fits_100 : decode cX3_fits 100 = .ok (.iload_n 2, 1) := by decide +kernel
theorem dX3_fits_101 : decode cX3_fits 101 = .ok (.if_icmp .gt 7, 3) := by decide +kernel
theorem dX3_fits_104 : decode cX3_fits 104 = .ok (.iconst 1, 1) := by decide +kernel
theorem dX3_fits_105 : decode cX3_fits 105 = .ok (.goto 4, 3) := by decide +kernel
theorem dX3_fits_108 : decode cX3_fits 108 = .ok (.iconst 0, 1) := by decide +kernel
theorem dX3_fits_109 : decode cX3_fits 109 = .ok (.istore_n 3, 1) := by decide +kernel
theorem dX3_fits_110 : decode cX3_fits 110 = .ok (.iload_n 3, 1) := by decide +kernel
theorem dX3_fits_111 : decode cX3_fits 111 = .ok (.ifCond .ne 11, 3) := by decide +kernel
theorem dX3_fits_114 : decode cX3_fits 114 = .ok (.aload_n 0, 1) := by decide +kernel
theorem dX3_fits_115 : decode cX3_fits 115 = .ok (.iconst 2, 1) := by decide +kernel
theorem dX3_fits_116 : decode cX3_fits 116 = .ok (.invokevirtual 73, 3) := by decide +kernel
theorem dX3_fits_119 : decode cX3_fits 119 = .ok (.ifCond .eq 7, 3) := by decide +kernel
theorem dX3_fits_122 : decode cX3_fits 122 = .ok (.iconst 1, 1) := by decide +kernel
theorem dX3_fits_123 : decode cX3_fits 123 = .ok (.goto 4, 3) := by decide +kernel
theorem dX3_fits_126 : decode cX3_fits 126 = .ok (.iconst 0, 1) := by decide +kernel
theorem dX3_fits_127 : decode cX3_fits 127 = .ok (.ireturn, 1) := by decide +kernel
theorem dX3_refuse_0 : decode cX3_refuse 0 = .ok (.aload_n 0, 1) := by decide +kernel
theorem dX3_refuse_1 : decode cX3_refuse 1 = .ok (.iload_n 1, 1) := by decide +kernel
theorem dX3_refuse_2 : decode cX3_refuse 2 = .ok (.putfield 27, 3) := by decide +kernel
theorem dX3_refuse_5 : decode cX3_refuse 5 = .ok (.aload_n 0, 1) := by decide +kernel
theorem dX3_refuse_6 : decode cX3_refuse 6 = .ok (.aload_n 0, 1) := by decide +kernel
theorem dX3_refuse_7 : decode cX3_refuse 7 = .ok (.getfield 18, 3) := by decide +kernel
theorem dX3_refuse_10 : decode cX3_refuse 10 = .ok (.putfield 30, 3) := by decide +kernel
theorem dX3_refuse_13 : decode cX3_refuse 13 = .ok (.iconst 0, 1) := by decide +kernel
theorem dX3_refuse_14 : decode cX3_refuse 14 = .ok (.ireturn, 1) := by decide +kernel
theorem dX4_init_0 : decode cX4_init 0 = .ok (.aload_n 0, 1) := by decide +kernel
theorem dX4_init_1 : decode cX4_init 1 = .ok (.invokespecial 3, 3) := by decide +kernel
theorem dX4_init_4 : decode cX4_init 4 = .ok (.aload_n 0, 1) := by decide +kernel
theorem dX4_init_5 : decode cX4_init 5 = .ok (.bipush 8, 2) := by decide +kernel
theorem dX4_init_7 : decode cX4_init 7 = .ok (.newarray .int, 2) := by decide +kernel
theorem dX4_init_9 : decode cX4_init 9 = .ok (.putfield 9, 3) := by decide +kernel
theorem dX4_init_12 : decode cX4_init 12 = .ok (.aload_n 0, 1) := by decide +kernel
theorem dX4_init_13 : decode cX4_init 13 = .ok (.iconst 0, 1) := by decide +kernel
theorem dX4_init_14 : decode cX4_init 14 = .ok (.putfield 15, 3) := by decide +kernel
theorem dX4_init_17 : decode cX4_init 17 = .ok (.aload_n 0, 1) := by decide +kernel
theorem dX4_init_18 : decode cX4_init 18 = .ok (.sipush 256, 3) := by decide +kernel
theorem dX4_init_21 : decode cX4_init 21 = .ok (.newarray .boolean, 2) := by decide +kernel
theorem dX4_init_23 : decode cX4_init 23 = .ok (.putfield 19, 3) := by decide +kernel
theorem dX4_init_26 : decode cX4_init 26 = .ok (.aload_n 0, 1) := by decide +kernel
theorem dX4_init_27 : decode cX4_init 27 = .ok (.sipush 256, 3) := by decide +kernel
theorem dX4_init_30 : decode cX4_init 30 = .ok (.newarray .int, 2) := by decide +kernel
theorem dX4_init_32 : decode cX4_init 32 = .ok (.putfield 23, 3) := by decide +kernel
theorem dX4_init_35 : decode cX4_init 35 = .ok (.aload_n 0, 1) := by decide +kernel
theorem dX4_init_36 : decode cX4_init 36 = .ok (.sipush 256, 3) := by decide +kernel
theorem dX4_init_39 : decode cX4_init 39 = .ok (.newarray .int, 2) := by decide +kernel
theorem dX4_init_41 : decode cX4_init 41 = .ok (.putfield 26, 3) := by decide +kernel
theorem dX4_init_44 : decode cX4_init 44 = .ok (.aload_n 0, 1) := by decide +kernel
theorem dX4_init_45 : decode cX4_init 45 = .ok (.sipush 4096, 3) := by decide +kernel
theorem dX4_init_48 : decode cX4_init 48 = .ok (.newarray .int, 2) := by decide +kernel
theorem dX4_init_50 : decode cX4_init 50 = .ok (.putfield 29, 3) := by decide +kernel
theorem dX4_init_53 : decode cX4_init 53 = .ok (.aload_n 0, 1) := by decide +kernel
theorem dX4_init_54 : decode cX4_init 54 = .ok (.aload_n 1, 1) := by decide +kernel
theorem dX4_init_55 : decode cX4_init 55 = .ok (.putfield 32, 3) := by decide +kernel
theorem dX4_init_58 : decode cX4_init 58 = .ok (.return_, 1) := by decide +kernel
theorem dX4_build_0 : decode cX4_build 0 = .ok (.aload_n 0, 1) := by decide +kernel
theorem dX4_build_1 : decode cX4_build 1 = .ok (.iconst 0, 1) := by decide +kernel
theorem dX4_build_2 : decode cX4_build 2 = .ok (.putfield 15, 3) := by decide +kernel
theorem dX4_build_5 : decode cX4_build 5 = .ok (.iconst 0, 1) := by decide +kernel
theorem dX4_build_6 : decode cX4_build 6 = .ok (.istore 4, 2) := by decide +kernel
theorem dX4_build_8 : decode cX4_build 8 = .ok (.iload 4, 2) := by decide +kernel
theorem dX4_build_10 : decode cX4_build 10 = .ok (.aload_n 0, 1) := by decide +kernel
theorem dX4_build_11 : decode cX4_build 11 = .ok (.getfield 32, 3) := by decide +kernel
theorem dX4_build_14 : decode cX4_build 14 = .ok (.getfield 36, 3) := by decide +kernel
theorem dX4_build_17 : decode cX4_build 17 = .ok (.if_icmp .ge 48, 3) := by decide +kernel
theorem dX4_build_20 : decode cX4_build 20 = .ok (.aload_n 0, 1) := by decide +kernel
theorem dX4_build_21 : decode cX4_build 21 = .ok (.getfield 15, 3) := by decide +kernel
theorem dX4_build_24 : decode cX4_build 24 = .ok (.bipush 8, 2) := by decide +kernel
theorem dX4_build_26 : decode cX4_build 26 = .ok (.if_icmp .ge 39, 3) := by decide +kernel
theorem dX4_build_29 : decode cX4_build 29 = .ok (.iload_n 1, 1) := by decide +kernel
theorem dX4_build_30 : decode cX4_build 30 = .ok (.iload 4, 2) := by decide +kernel
theorem dX4_build_32 : decode cX4_build 32 = .ok (.invokestatic 41, 3) := by decide +kernel
theorem dX4_build_35 : decode cX4_build 35 = .ok (.ifCond .eq 24, 3) := by decide +kernel
theorem dX4_build_38 : decode cX4_build 38 = .ok (.aload_n 0, 1) := by decide +kernel
theorem dX4_build_39 : decode cX4_build 39 = .ok (.getfield 9, 3) := by decide +kernel
theorem dX4_build_42 : decode cX4_build 42 = .ok (.aload_n 0, 1) := by decide +kernel
theorem dX4_build_43 : decode cX4_build 43 = .ok (.getfield 15, 3) := by decide +kernel
theorem dX4_build_46 : decode cX4_build 46 = .ok (.iload 4, 2) := by decide +kernel
theorem dX4_build_48 : decode cX4_build 48 = .ok (.iastore, 1) := by decide +kernel
theorem dX4_build_49 : decode cX4_build 49 = .ok (.aload_n 0, 1) := by decide +kernel
theorem dX4_build_50 : decode cX4_build 50 = .ok (.dup, 1) := by decide +kernel
theorem dX4_build_51 : decode cX4_build 51 = .ok (.getfield 15, 3) := by decide +kernel
theorem dX4_build_54 : decode cX4_build 54 = .ok (.iconst 1, 1) := by decide +kernel
theorem dX4_build_55 : decode cX4_build 55 = .ok (.iadd, 1) := by decide +kernel
theorem dX4_build_56 : decode cX4_build 56 = .ok (.putfield 15, 3) := by decide +kernel
theorem dX4_build_59 : decode cX4_build 59 = .ok (.iinc 4 1, 3) := by decide +kernel
theorem dX4_build_62 : decode cX4_build 62 = .ok (.goto (-54), 3) := by decide +kernel
theorem dX4_build_65 : decode cX4_build 65 = .ok (.aload_n 0, 1) := by decide +kernel
theorem dX4_build_66 : decode cX4_build 66 = .ok (.getfield 15, 3) := by decide +kernel
theorem dX4_build_69 : decode cX4_build 69 = .ok (.invokestatic 45, 3) := by decide +kernel
theorem dX4_build_72 : decode cX4_build 72 = .ok (.istore 4, 2) := by decide +kernel
theorem dX4_build_74 : decode cX4_build 74 = .ok (.iconst 0, 1) := by decide +kernel
theorem dX4_build_75 : decode cX4_build 75 = .ok (.istore 5, 2) := by decide +kernel
theorem dX4_build_77 : decode cX4_build 77 = .ok (.iload 5, 2) := by decide +kernel
theorem dX4_build_79 : decode cX4_build 79 = .ok (.iload 4, 2) := by decide +kernel
theorem dX4_build_81 : decode cX4_build 81 = .ok (.if_icmp .gt 33, 3) := by decide +kernel
theorem dX4_build_84 : decode cX4_build 84 = .ok (.aload_n 0, 1) := by decide +kernel
theorem dX4_build_85 : decode cX4_build 85 = .ok (.getfield 19, 3) := by decide +kernel
theorem dX4_build_88 : decode cX4_build 88 = .ok (.iload 5, 2) := by decide +kernel
theorem dX4_build_90 : decode cX4_build 90 = .ok (.iconst 0, 1) := by decide +kernel
theorem dX4_build_91 : decode cX4_build 91 = .ok (.bastore, 1) := by decide +kernel
theorem dX4_build_92 : decode cX4_build 92 = .ok (.aload_n 0, 1) := by decide +kernel
theorem dX4_build_93 : decode cX4_build 93 = .ok (.getfield 23, 3) := by decide +kernel
theorem dX4_build_96 : decode cX4_build 96 = .ok (.iload 5, 2) := by decide +kernel
theorem dX4_build_98 : decode cX4_build 98 = .ok (.iconst 0, 1) := by decide +kernel
theorem dX4_build_99 : decode cX4_build 99 = .ok (.iastore, 1) := by decide +kernel
theorem dX4_build_100 : decode cX4_build 100 = .ok (.aload_n 0, 1) := by decide +kernel
theorem dX4_build_101 : decode cX4_build 101 = .ok (.getfield 26, 3) := by decide +kernel
theorem dX4_build_104 : decode cX4_build 104 = .ok (.iload 5, 2) := by decide +kernel
theorem dX4_build_106 : decode cX4_build 106 = .ok (.iconst 0, 1) := by decide +kernel
theorem dX4_build_107 : decode cX4_build 107 = .ok (.iastore, 1) := by decide +kernel
theorem dX4_build_108 : decode cX4_build 108 = .ok (.iinc 5 1, 3) := by decide +kernel
theorem dX4_build_111 : decode cX4_build 111 = .ok (.goto (-34), 3) := by decide +kernel
theorem dX4_build_114 : decode cX4_build 114 = .ok (.aload_n 0, 1) := by decide +kernel
theorem dX4_build_115 : decode cX4_build 115 = .ok (.getfield 19, 3) := by decide +kernel
theorem dX4_build_118 : decode cX4_build 118 = .ok (.iconst 0, 1) := by decide +kernel
theorem dX4_build_119 : decode cX4_build 119 = .ok (.iconst 1, 1) := by decide +kernel
theorem dX4_build_120 : decode cX4_build 120 = .ok (.bastore, 1) := by decide +kernel
theorem dX4_build_121 : decode cX4_build 121 = .ok (.aload_n 2, 1) := by decide +kernel
theorem dX4_build_122 : decode cX4_build 122 = .ok (.iload_n 3, 1) := by decide +kernel
theorem dX4_build_123 : decode cX4_build 123 = .ok (.bipush 16, 2) := by decide +kernel
theorem dX4_build_125 : decode cX4_build 125 = .ok (.imul, 1) := by decide +kernel
theorem dX4_build_126 : decode cX4_build 126 = .ok (.aload_n 0, 1) := by decide +kernel
theorem dX4_build_127 : decode cX4_build 127 = .ok (.getfield 29, 3) := by decide +kernel
theorem dX4_build_130 : decode cX4_build 130 = .ok (.iconst 0, 1) := by decide +kernel
theorem dX4_build_131 : decode cX4_build 131 = .ok (.bipush 16, 2) := by decide +kernel
theorem dX4_build_133 : decode cX4_build 133 = .ok (.invokestatic 49, 3) := by decide +kernel
theorem dX4_build_136 : decode cX4_build 136 = .ok (.iconst 0, 1) := by decide +kernel
theorem dX4_build_137 : decode cX4_build 137 = .ok (.istore 5, 2) := by decide +kernel
theorem dX4_build_139 : decode cX4_build 139 = .ok (.iload 5, 2) := by decide +kernel
theorem dX4_build_141 : decode cX4_build 141 = .ok (.iload 4, 2) := by decide +kernel
theorem dX4_build_143 : decode cX4_build 143 = .ok (.if_icmp .gt 25, 3) := by decide +kernel
theorem dX4_build_146 : decode cX4_build 146 = .ok (.aload_n 0, 1) := by decide +kernel
theorem dX4_build_147 : decode cX4_build 147 = .ok (.getfield 19, 3) := by decide +kernel
theorem dX4_build_150 : decode cX4_build 150 = .ok (.iload 5, 2) := by decide +kernel
theorem dX4_build_152 : decode cX4_build 152 = .ok (.baload, 1) := by decide +kernel
theorem dX4_build_153 : decode cX4_build 153 = .ok (.ifCond .eq 9, 3) := by decide +kernel
theorem dX4_build_156 : decode cX4_build 156 = .ok (.aload_n 0, 1) := by decide +kernel
theorem dX4_build_157 : decode cX4_build 157 = .ok (.iload 5, 2) := by decide +kernel
theorem dX4_build_159 : decode cX4_build 159 = .ok (.invokevirtual 55, 3) := by decide +kernel
theorem dX4_build_162 : decode cX4_build 162 = .ok (.iinc 5 1, 3) := by decide +kernel
theorem dX4_build_165 : decode cX4_build 165 = .ok (.goto (-26), 3) := by decide +kernel
theorem dX4_build_168 : decode cX4_build 168 = .ok (.aload_n 0, 1) := by decide +kernel
theorem dX4_build_169 : decode cX4_build 169 = .ok (.iload 4, 2) := by decide +kernel
theorem dX4_build_171 : decode cX4_build 171 = .ok (.invokevirtual 59, 3) := by decide +kernel
theorem dX4_build_174 : decode cX4_build 174 = .ok (.return_, 1) := by decide +kernel
theorem dX4_goFurther_0 : decode cX4_goFurther 0 = .ok (.iconst 0, 1) := by decide +kernel
theorem dX4_goFurther_1 : decode cX4_goFurther 1 = .ok (.istore_n 2, 1) := by decide +kernel
theorem dX4_goFurther_2 : decode cX4_goFurther 2 = .ok (.iload_n 2, 1) := by decide +kernel
theorem dX4_goFurther_3 : decode cX4_goFurther 3 = .ok (.aload_n 0, 1) := by decide +kernel
theorem dX4_goFurther_4 : decode cX4_goFurther 4 = .ok (.getfield 15, 3) := by decide +kernel
theorem dX4_goFurther_7 : decode cX4_goFurther 7 = .ok (.if_icmp .ge 111, 3) := by decide +kernel
theorem dX4_goFurther_10 : decode cX4_goFurther 10 = .ok (.iload_n 1, 1) := by decide +kernel
theorem dX4_goFurther_11 : decode cX4_goFurther 11 = .ok (.iload_n 2, 1) := by decide +kernel
theorem dX4_goFurther_12 : decode cX4_goFurther 12 = .ok (.invokestatic 41, 3) := by decide +kernel
theorem dX4_goFurther_15 : decode cX4_goFurther 15 = .ok (.ifCond .ne 97, 3) := by decide +kernel
theorem dX4_goFurther_18 : decode cX4_goFurther 18 = .ok (.aload_n 0, 1) := by decide +kernel
theorem dX4_goFurther_19 : decode cX4_goFurther 19 = .ok (.getfield 32, 3) := by decide +kernel
theorem dX4_goFurther_22 : decode cX4_goFurther 22 = .ok (.aload_n 0, 1) := by decide +kernel
theorem dX4_goFurther_23 : decode cX4_goFurther 23 = .ok (.getfield 9, 3) := by decide +kernel
theorem dX4_goFurther_26 : decode cX4_goFurther 26 = .ok (.iload_n 2, 1) := by decide +kernel
theorem dX4_goFurther_27 : decode cX4_goFurther 27 = .ok (.iaload, 1) := by decide +kernel
theorem dX4_goFurther_28 : decode cX4_goFurther 28 = .ok (.aload_n 0, 1) := by decide +kernel
theorem dX4_goFurther_29 : decode cX4_goFurther 29 = .ok (.getfield 29, 3) := by decide +kernel
theorem dX4_goFurther_32 : decode cX4_goFurther 32 = .ok (.iload_n 1, 1) := by decide +kernel
theorem dX4_goFurther_33 : decode cX4_goFurther 33 = .ok (.invokevirtual 62, 3) := by decide +kernel
theorem dX4_goFurther_36 : decode cX4_goFurther 36 = .ok (.ifCond .ne 76, 3) := by decide +kernel
theorem dX4_goFurther_39 : decode cX4_goFurther 39 = .ok (.iload_n 1, 1) := by decide +kernel
theorem dX4_goFurther_40 : decode cX4_goFurther 40 = .ok (.iconst 1, 1) := by decide +kernel
theorem dX4_goFurther_41 : decode cX4_goFurther 41 = .ok (.iload_n 2, 1) := by decide +kernel
theorem dX4_goFurther_42 : decode cX4_goFurther 42 = .ok (.ishl, 1) := by decide +kernel
theorem dX4_goFurther_43 : decode cX4_goFurther 43 = .ok (.ior, 1) := by decide +kernel
theorem dX4_goFurther_44 : decode cX4_goFurther 44 = .ok (.istore_n 3, 1) := by decide +kernel
theorem dX4_goFurther_45 : decode cX4_goFurther 45 = .ok (.aload_n 0, 1) := by decide +kernel
theorem dX4_goFurther_46 : decode cX4_goFurther 46 = .ok (.getfield 23, 3) := by decide +kernel
theorem dX4_goFurther_49 : decode cX4_goFurther 49 = .ok (.iload_n 1, 1) := by decide +kernel
theorem dX4_goFurther_50 : decode cX4_goFurther 50 = .ok (.dup2, 1) := by decide +kernel
theorem dX4_goFurther_51 : decode cX4_goFurther 51 = .ok (.iaload, 1) := by decide +kernel
theorem dX4_goFurther_52 : decode cX4_goFurther 52 = .ok (.iconst 1, 1) := by decide +kernel
theorem dX4_goFurther_53 : decode cX4_goFurther 53 = .ok (.iload_n 2, 1) := by decide +kernel
theorem dX4_goFurther_54 : decode cX4_goFurther 54 = .ok (.ishl, 1) := by decide +kernel
theorem dX4_goFurther_55 : decode cX4_goFurther 55 = .ok (.ior, 1) := by decide +kernel
theorem dX4_goFurther_56 : decode cX4_goFurther 56 = .ok (.iastore, 1) := by decide +kernel
theorem dX4_goFurther_57 : decode cX4_goFurther 57 = .ok (.aload_n 0, 1) := by decide +kernel
theorem dX4_goFurther_58 : decode cX4_goFurther 58 = .ok (.getfield 19, 3) := by decide +kernel
theorem dX4_goFurther_61 : decode cX4_goFurther 61 = .ok (.iload_n 3, 1) := by decide +kernel
theorem dX4_goFurther_62 : decode cX4_goFurther 62 = .ok (.baload, 1) := by decide +kernel
theorem dX4_goFurther_63 : decode cX4_goFurther 63 = .ok (.ifCond .ne 49, 3) := by decide +kernel
theorem dX4_goFurther_66 : decode cX4_goFurther 66 = .ok (.aload_n 0, 1) := by decide +kernel
theorem dX4_goFurther_67 : decode cX4_goFurther 67 = .ok (.getfield 19, 3) := by decide +kernel
theorem dX4_goFurther_70 : decode cX4_goFurther 70 = .ok (.iload_n 3, 1) := by decide +kernel
theorem dX4_goFurther_71 : decode cX4_goFurther 71 = .ok (.iconst 1, 1) := by decide +kernel
theorem dX4_goFurther_72 : decode cX4_goFurther 72 = .ok (.bastore, 1) := by decide +kernel
theorem dX4_goFurther_73 : decode cX4_goFurther 73 = .ok (.aload_n 0, 1) := by decide +kernel
theorem dX4_goFurther_74 : decode cX4_goFurther 74 = .ok (.getfield 29, 3) := by decide +kernel
theorem dX4_goFurther_77 : decode cX4_goFurther 77 = .ok (.iload_n 1, 1) := by decide +kernel
theorem dX4_goFurther_78 : decode cX4_goFurther 78 = .ok (.bipush 16, 2) := by decide +kernel
theorem dX4_goFurther_80 : decode cX4_goFurther 80 = .ok (.imul, 1) := by decide +kernel
theorem dX4_goFurther_81 : decode cX4_goFurther 81 = .ok (.aload_n 0, 1) := by decide +kernel
theorem dX4_goFurther_82 : decode cX4_goFurther 82 = .ok (.getfield 29, 3) := by decide +kernel
theorem dX4_goFurther_85 : decode cX4_goFurther 85 = .ok (.iload_n 3, 1) := by decide +kernel
theorem dX4_goFurther_86 : decode cX4_goFurther 86 = .ok (.bipush 16, 2) := by decide +kernel
theorem dX4_goFurther_88 : decode cX4_goFurther 88 = .ok (.imul, 1) := by decide +kernel
theorem dX4_goFurther_89 : decode cX4_goFurther 89 = .ok (.bipush 16, 2) := by decide +kernel
theorem dX4_goFurther_91 : decode cX4_goFurther 91 = .ok (.invokestatic 49, 3) := by decide +kernel
theorem dX4_goFurther_94 : decode cX4_goFurther 94 = .ok (.aload_n 0, 1) := by decide +kernel
theorem dX4_goFurther_95 : decode cX4_goFurther 95 = .ok (.getfield 32, 3) := by decide +kernel
theorem dX4_goFurther_98 : decode cX4_goFurther 98 = .ok (.aload_n 0, 1) := by decide +kernel
theorem dX4_goFurther_99 : decode cX4_goFurther 99 = .ok (.getfield 9, 3) := by decide +kernel
theorem dX4_goFurther_102 : decode cX4_goFurther 102 = .ok (.iload_n 2, 1) := by decide +kernel
theorem dX4_goFurther_103 : decode cX4_goFurther 103 = .ok (.iaload, 1) := by decide +kernel
theorem dX4_goFurther_104 : decode cX4_goFurther 104 = .ok (.aload_n 0, 1) := by decide +kernel
theorem dX4_goFurther_105 : decode cX4_goFurther 105 = .ok (.getfield 29, 3) := by decide +kernel
theorem dX4_goFurther_108 : decode cX4_goFurther 108 = .ok (.iload_n 3, 1) := by decide +kernel
theorem dX4_goFurther_109 : decode cX4_goFurther 109 = .ok (.invokevirtual 66, 3) := by decide +kernel
theorem dX4_goFurther_112 : decode cX4_goFurther 112 = .ok (.iinc 2 1, 3) := by decide +kernel
theorem dX4_goFurther_115 : decode cX4_goFurther 115 = .ok (.goto (-113), 3) := by decide +kernel
theorem dX4_goFurther_118 : decode cX4_goFurther 118 = .ok (.return_, 1) := by decide +kernel
theorem dX4_countWays_0 : decode cX4_countWays 0 = .ok (.aload_n 0, 1) := by decide +kernel
theorem dX4_countWays_1 : decode cX4_countWays 1 = .ok (.getfield 26, 3) := by decide +kernel
theorem dX4_countWays_4 : decode cX4_countWays 4 = .ok (.iload_n 1, 1) := by decide +kernel
theorem dX4_countWays_5 : decode cX4_countWays 5 = .ok (.iconst 1, 1) := by decide +kernel
theorem dX4_countWays_6 : decode cX4_countWays 6 = .ok (.iastore, 1) := by decide +kernel
theorem dX4_countWays_7 : decode cX4_countWays 7 = .ok (.iload_n 1, 1) := by decide +kernel
theorem dX4_countWays_8 : decode cX4_countWays 8 = .ok (.iconst 1, 1) := by decide +kernel
theorem dX4_countWays_9 : decode cX4_countWays 9 = .ok (.isub, 1) := by decide +kernel
theorem dX4_countWays_10 : decode cX4_countWays 10 = .ok (.istore_n 2, 1) := by decide +kernel
theorem dX4_countWays_11 : decode cX4_countWays 11 = .ok (.iload_n 2, 1) := by decide +kernel
theorem dX4_countWays_12 : decode cX4_countWays 12 = .ok (.ifCond .lt 57, 3) := by decide +kernel
theorem dX4_countWays_15 : decode cX4_countWays 15 = .ok (.iconst 0, 1) := by decide +kernel
theorem dX4_countWays_16 : decode cX4_countWays 16 = .ok (.istore_n 3, 1) := by decide +kernel
theorem dX4_countWays_17 : decode cX4_countWays 17 = .ok (.iload_n 3, 1) := by decide +kernel
theorem dX4_countWays_18 : decode cX4_countWays 18 = .ok (.aload_n 0, 1) := by decide +kernel
theorem dX4_countWays_19 : decode cX4_countWays 19 = .ok (.getfield 15, 3) := by decide +kernel
theorem dX4_countWays_22 : decode cX4_countWays 22 = .ok (.if_icmp .ge 41, 3) := by decide +kernel
theorem dX4_countWays_25 : decode cX4_countWays 25 = .ok (.aload_n 0, 1) := by decide +kernel
theorem dX4_countWays_26 : decode cX4_countWays 26 = .ok (.getfield 23, 3) := by decide +kernel
theorem dX4_countWays_29 : decode cX4_countWays 29 = .ok (.iload_n 2, 1) := by decide +kernel
theorem dX4_countWays_30 : decode cX4_countWays 30 = .ok (.iaload, 1) := by decide +kernel
theorem dX4_countWays_31 : decode cX4_countWays 31 = .ok (.iload_n 3, 1) := by decide +kernel
theorem dX4_countWays_32 : decode cX4_countWays 32 = .ok (.invokestatic 41, 3) := by decide +kernel
theorem dX4_countWays_35 : decode cX4_countWays 35 = .ok (.ifCond .eq 22, 3) := by decide +kernel
theorem dX4_countWays_38 : decode cX4_countWays 38 = .ok (.aload_n 0, 1) := by decide +kernel
theorem dX4_countWays_39 : decode cX4_countWays 39 = .ok (.getfield 26, 3) := by decide +kernel
theorem dX4_countWays_42 : decode cX4_countWays 42 = .ok (.iload_n 2, 1) := by decide +kernel
theorem dX4_countWays_43 : decode cX4_countWays 43 = .ok (.dup2, 1) := by decide +kernel
theorem dX4_countWays_44 : decode cX4_countWays 44 = .ok (.iaload, 1) := by decide +kernel
theorem dX4_countWays_45 : decode cX4_countWays 45 = .ok (.aload_n 0, 1) := by decide +kernel
theorem dX4_countWays_46 : decode cX4_countWays 46 = .ok (.getfield 26, 3) := by decide +kernel
theorem dX4_countWays_49 : decode cX4_countWays 49 = .ok (.iload_n 2, 1) := by decide +kernel
theorem dX4_countWays_50 : decode cX4_countWays 50 = .ok (.iconst 1, 1) := by decide +kernel
theorem dX4_countWays_51 : decode cX4_countWays 51 = .ok (.iload_n 3, 1) := by decide +kernel
theorem dX4_countWays_52 : decode cX4_countWays 52 = .ok (.ishl, 1) := by decide +kernel
theorem dX4_countWays_53 : decode cX4_countWays 53 = .ok (.ior, 1) := by decide +kernel
theorem dX4_countWays_54 : decode cX4_countWays 54 = .ok (.iaload, 1) := by decide +kernel
theorem dX4_countWays_55 : decode cX4_countWays 55 = .ok (.iadd, 1) := by decide +kernel
theorem dX4_countWays_56 : decode cX4_countWays 56 = .ok (.iastore, 1) := by decide +kernel
theorem dX4_countWays_57 : decode cX4_countWays 57 = .ok (.iinc 3 1, 3) := by decide +kernel
theorem dX4_countWays_60 : decode cX4_countWays 60 = .ok (.goto (-43), 3) := by decide +kernel
theorem dX4_countWays_63 : decode cX4_countWays 63 = .ok (.iinc 2 (-1), 3) := by decide +kernel
theorem dX4_countWays_66 : decode cX4_countWays 66 = .ok (.goto (-55), 3) := by decide +kernel
theorem dX4_countWays_69 : decode cX4_countWays 69 = .ok (.return_, 1) := by decide +kernel
theorem dX4_howMany_0 : decode cX4_howMany 0 = .ok (.aload_n 0, 1) := by decide +kernel
theorem dX4_howMany_1 : decode cX4_howMany 1 = .ok (.getfield 26, 3) := by decide +kernel
theorem dX4_howMany_4 : decode cX4_howMany 4 = .ok (.iconst 0, 1) := by decide +kernel
theorem dX4_howMany_5 : decode cX4_howMany 5 = .ok (.iaload, 1) := by decide +kernel
theorem dX4_howMany_6 : decode cX4_howMany 6 = .ok (.ireturn, 1) := by decide +kernel
theorem dX4_memberOf_0 : decode cX4_memberOf 0 = .ok (.iload_n 1, 1) := by decide +kernel
theorem dX4_memberOf_1 : decode cX4_memberOf 1 = .ok (.aload_n 0, 1) := by decide +kernel
theorem dX4_memberOf_2 : decode cX4_memberOf 2 = .ok (.getfield 26, 3) := by decide +kernel
theorem dX4_memberOf_5 : decode cX4_memberOf 5 = .ok (.iconst 0, 1) := by decide +kernel
theorem dX4_memberOf_6 : decode cX4_memberOf 6 = .ok (.iaload, 1) := by decide +kernel
theorem dX4_memberOf_7 : decode cX4_memberOf 7 = .ok (.if_icmp .ge 15, 3) := by decide +kernel
theorem dX4_memberOf_10 : decode cX4_memberOf 10 = .ok (.iload_n 2, 1) := by decide +kernel
theorem dX4_memberOf_11 : decode cX4_memberOf 11 = .ok (.ifCond .lt 11, 3) := by decide +kernel
theorem dX4_memberOf_14 : decode cX4_memberOf 14 = .ok (.iload_n 2, 1) := by decide +kernel
theorem dX4_memberOf_15 : decode cX4_memberOf 15 = .ok (.aload_n 0, 1) := by decide +kernel
theorem dX4_memberOf_16 : decode cX4_memberOf 16 = .ok (.getfield 15, 3) := by decide +kernel
theorem dX4_memberOf_19 : decode cX4_memberOf 19 = .ok (.if_icmp .lt 5, 3) := by decide +kernel
theorem dX4_memberOf_22 : decode cX4_memberOf 22 = .ok (.iconst (-1), 1) := by decide +kernel
theorem dX4_memberOf_23 : decode cX4_memberOf 23 = .ok (.ireturn, 1) := by decide +kernel
theorem dX4_memberOf_24 : decode cX4_memberOf 24 = .ok (.iconst 0, 1) := by decide +kernel
theorem dX4_memberOf_25 : decode cX4_memberOf 25 = .ok (.istore_n 3, 1) := by decide +kernel
theorem dX4_memberOf_26 : decode cX4_memberOf 26 = .ok (.iconst 0, 1) := by decide +kernel
theorem dX4_memberOf_27 : decode cX4_memberOf 27 = .ok (.istore 4, 2) := by decide +kernel
theorem dX4_memberOf_29 : decode cX4_memberOf 29 = .ok (.iload_n 1, 1) := by decide +kernel
theorem dX4_memberOf_30 : decode cX4_memberOf 30 = .ok (.istore 5, 2) := by decide +kernel
theorem dX4_memberOf_32 : decode cX4_memberOf 32 = .ok (.iconst 0, 1) := by decide +kernel
theorem dX4_memberOf_33 : decode cX4_memberOf 33 = .ok (.istore 6, 2) := by decide +kernel
theorem dX4_memberOf_35 : decode cX4_memberOf 35 = .ok (.iload 6, 2) := by decide +kernel
theorem dX4_memberOf_37 : decode cX4_memberOf 37 = .ok (.iload_n 2, 1) := by decide +kernel
theorem dX4_memberOf_38 : decode cX4_memberOf 38 = .ok (.if_icmp .gt 69, 3) := by decide +kernel
theorem dX4_memberOf_41 : decode cX4_memberOf 41 = .ok (.iconst 0, 1) := by decide +kernel
theorem dX4_memberOf_42 : decode cX4_memberOf 42 = .ok (.istore 4, 2) := by decide +kernel
theorem dX4_memberOf_44 : decode cX4_memberOf 44 = .ok (.iload 4, 2) := by decide +kernel
theorem dX4_memberOf_46 : decode cX4_memberOf 46 = .ok (.aload_n 0, 1) := by decide +kernel
theorem dX4_memberOf_47 : decode cX4_memberOf 47 = .ok (.getfield 15, 3) := by decide +kernel
theorem dX4_memberOf_50 : decode cX4_memberOf 50 = .ok (.if_icmp .ge 33, 3) := by decide +kernel
theorem dX4_memberOf_53 : decode cX4_memberOf 53 = .ok (.iload 5, 2) := by decide +kernel
theorem dX4_memberOf_55 : decode cX4_memberOf 55 = .ok (.aload_n 0, 1) := by decide +kernel
theorem dX4_memberOf_56 : decode cX4_memberOf 56 = .ok (.iload_n 3, 1) := by decide +kernel
theorem dX4_memberOf_57 : decode cX4_memberOf 57 = .ok (.iload 4, 2) := by decide +kernel
theorem dX4_memberOf_59 : decode cX4_memberOf 59 = .ok (.invokevirtual 70, 3) := by decide +kernel
theorem dX4_memberOf_62 : decode cX4_memberOf 62 = .ok (.if_icmp .lt 21, 3) := by decide +kernel
theorem dX4_memberOf_65 : decode cX4_memberOf 65 = .ok (.iload 5, 2) := by decide +kernel
theorem dX4_memberOf_67 : decode cX4_memberOf 67 = .ok (.aload_n 0, 1) := by decide +kernel
theorem dX4_memberOf_68 : decode cX4_memberOf 68 = .ok (.iload_n 3, 1) := by decide +kernel
theorem dX4_memberOf_69 : decode cX4_memberOf 69 = .ok (.iload 4, 2) := by decide +kernel
theorem dX4_memberOf_71 : decode cX4_memberOf 71 = .ok (.invokevirtual 70, 3) := by decide +kernel
theorem dX4_memberOf_74 : decode cX4_memberOf 74 = .ok (.isub, 1) := by decide +kernel
theorem dX4_memberOf_75 : decode cX4_memberOf 75 = .ok (.istore 5, 2) := by decide +kernel
theorem dX4_memberOf_77 : decode cX4_memberOf 77 = .ok (.iinc 4 1, 3) := by decide +kernel
theorem dX4_memberOf_80 : decode cX4_memberOf 80 = .ok (.goto (-36), 3) := by decide +kernel
theorem dX4_memberOf_83 : decode cX4_memberOf 83 = .ok (.iload 4, 2) := by decide +kernel
theorem dX4_memberOf_85 : decode cX4_memberOf 85 = .ok (.aload_n 0, 1) := by decide +kernel
theorem dX4_memberOf_86 : decode cX4_memberOf 86 = .ok (.getfield 15, 3) := by decide +kernel
theorem dX4_memberOf_89 : decode cX4_memberOf 89 = .ok (.if_icmp .lt 5, 3) := by decide +kernel
theorem dX4_memberOf_92 : decode cX4_memberOf 92 = .ok (.iconst (-1), 1) := by decide +kernel
theorem dX4_memberOf_93 : decode cX4_memberOf 93 = .ok (.ireturn, 1) := by decide +kernel
theorem dX4_memberOf_94 : decode cX4_memberOf 94 = .ok (.iload_n 3, 1) := by decide +kernel
theorem dX4_memberOf_95 : decode cX4_memberOf 95 = .ok (.iconst 1, 1) := by decide +kernel
theorem dX4_memberOf_96 : decode cX4_memberOf 96 = .ok (.iload 4, 2) := by decide +kernel
theorem dX4_memberOf_98 : decode cX4_memberOf 98 = .ok (.ishl, 1) := by decide +kernel
theorem dX4_memberOf_99 : decode cX4_memberOf 99 = .ok (.ior, 1) := by decide +kernel
theorem dX4_memberOf_100 : decode cX4_memberOf 100 = .ok (.istore_n 3, 1) := by decide +kernel
theorem dX4_memberOf_101 : decode cX4_memberOf 101 = .ok (.iinc 6 1, 3) := by decide +kernel
theorem dX4_memberOf_104 : decode cX4_memberOf 104 = .ok (.goto (-69), 3) := by decide +kernel
theorem dX4_memberOf_107 : decode cX4_memberOf 107 = .ok (.aload_n 0, 1) := by decide +kernel
theorem dX4_memberOf_108 : decode cX4_memberOf 108 = .ok (.getfield 9, 3) := by decide +kernel
theorem dX4_memberOf_111 : decode cX4_memberOf 111 = .ok (.iload 4, 2) := by decide +kernel
theorem dX4_memberOf_113 : decode cX4_memberOf 113 = .ok (.iaload, 1) := by decide +kernel
theorem dX4_memberOf_114 : decode cX4_memberOf 114 = .ok (.ireturn, 1) := by decide +kernel
theorem dX4_waysBy_0 : decode cX4_waysBy 0 = .ok (.aload_n 0, 1) := by decide +kernel
theorem dX4_waysBy_1 : decode cX4_waysBy 1 = .ok (.getfield 23, 3) := by decide +kernel
theorem dX4_waysBy_4 : decode cX4_waysBy 4 = .ok (.iload_n 1, 1) := by decide +kernel
theorem dX4_waysBy_5 : decode cX4_waysBy 5 = .ok (.iaload, 1) := by decide +kernel
theorem dX4_waysBy_6 : decode cX4_waysBy 6 = .ok (.iload_n 2, 1) := by decide +kernel
theorem dX4_waysBy_7 : decode cX4_waysBy 7 = .ok (.invokestatic 41, 3) := by decide +kernel
theorem dX4_waysBy_10 : decode cX4_waysBy 10 = .ok (.ifCond .eq 16, 3) := by decide +kernel
theorem dX4_waysBy_13 : decode cX4_waysBy 13 = .ok (.aload_n 0, 1) := by decide +kernel
theorem dX4_waysBy_14 : decode cX4_waysBy 14 = .ok (.getfield 26, 3) := by decide +kernel
theorem dX4_waysBy_17 : decode cX4_waysBy 17 = .ok (.iload_n 1, 1) := by decide +kernel
theorem dX4_waysBy_18 : decode cX4_waysBy 18 = .ok (.iconst 1, 1) := by decide +kernel
theorem dX4_waysBy_19 : decode cX4_waysBy 19 = .ok (.iload_n 2, 1) := by decide +kernel
theorem dX4_waysBy_20 : decode cX4_waysBy 20 = .ok (.ishl, 1) := by decide +kernel
theorem dX4_waysBy_21 : decode cX4_waysBy 21 = .ok (.ior, 1) := by decide +kernel
theorem dX4_waysBy_22 : decode cX4_waysBy 22 = .ok (.iaload, 1) := by decide +kernel
theorem dX4_waysBy_23 : decode cX4_waysBy 23 = .ok (.goto 4, 3) := by decide +kernel
theorem dX4_waysBy_26 : decode cX4_waysBy 26 = .ok (.iconst 0, 1) := by decide +kernel
theorem dX4_waysBy_27 : decode cX4_waysBy 27 = .ok (.ireturn, 1) := by decide +kernel
theorem dX5_init_0 : decode cX5_init 0 = .ok (.aload_n 0, 1) := by decide +kernel
theorem dX5_init_1 : decode cX5_init 1 = .ok (.invokespecial 3, 3) := by decide +kernel
theorem dX5_init_4 : decode cX5_init 4 = .ok (.aload_n 0, 1) := by decide +kernel
theorem dX5_init_5 : decode cX5_init 5 = .ok (.iconst 0, 1) := by decide +kernel
theorem dX5_init_6 : decode cX5_init 6 = .ok (.putfield 9, 3) := by decide +kernel
theorem dX5_init_9 : decode cX5_init 9 = .ok (.aload_n 0, 1) := by decide +kernel
theorem dX5_init_10 : decode cX5_init 10 = .ok (.iconst 0, 1) := by decide +kernel
theorem dX5_init_11 : decode cX5_init 11 = .ok (.putfield 15, 3) := by decide +kernel
theorem dX5_init_14 : decode cX5_init 14 = .ok (.aload_n 0, 1) := by decide +kernel
theorem dX5_init_15 : decode cX5_init 15 = .ok (.bipush 8, 2) := by decide +kernel
theorem dX5_init_17 : decode cX5_init 17 = .ok (.newarray .int, 2) := by decide +kernel
theorem dX5_init_19 : decode cX5_init 19 = .ok (.putfield 18, 3) := by decide +kernel
theorem dX5_init_22 : decode cX5_init 22 = .ok (.aload_n 0, 1) := by decide +kernel
theorem dX5_init_23 : decode cX5_init 23 = .ok (.bipush 8, 2) := by decide +kernel
theorem dX5_init_25 : decode cX5_init 25 = .ok (.newarray .int, 2) := by decide +kernel
theorem dX5_init_27 : decode cX5_init 27 = .ok (.putfield 22, 3) := by decide +kernel
theorem dX5_init_30 : decode cX5_init 30 = .ok (.aload_n 0, 1) := by decide +kernel
theorem dX5_init_31 : decode cX5_init 31 = .ok (.iconst (-1), 1) := by decide +kernel
theorem dX5_init_32 : decode cX5_init 32 = .ok (.putfield 25, 3) := by decide +kernel
theorem dX5_init_35 : decode cX5_init 35 = .ok (.aload_n 0, 1) := by decide +kernel
theorem dX5_init_36 : decode cX5_init 36 = .ok (.iconst (-1), 1) := by decide +kernel
theorem dX5_init_37 : decode cX5_init 37 = .ok (.putfield 28, 3) := by decide +kernel
theorem dX5_init_40 : decode cX5_init 40 = .ok (.aload_n 0, 1) := by decide +kernel
theorem dX5_init_41 : decode cX5_init 41 = .ok (.iconst 0, 1) := by decide +kernel
theorem dX5_init_42 : decode cX5_init 42 = .ok (.putfield 31, 3) := by decide +kernel
theorem dX5_init_45 : decode cX5_init 45 = .ok (.return_, 1) := by decide +kernel
theorem dX5_become_0 : decode cX5_become 0 = .ok (.aload_n 0, 1) := by decide +kernel
theorem dX5_become_1 : decode cX5_become 1 = .ok (.aload_n 1, 1) := by decide +kernel
theorem dX5_become_2 : decode cX5_become 2 = .ok (.getfield 9, 3) := by decide +kernel
theorem dX5_become_5 : decode cX5_become 5 = .ok (.putfield 9, 3) := by decide +kernel
theorem dX5_become_8 : decode cX5_become 8 = .ok (.aload_n 0, 1) := by decide +kernel
theorem dX5_become_9 : decode cX5_become 9 = .ok (.aload_n 1, 1) := by decide +kernel
theorem dX5_become_10 : decode cX5_become 10 = .ok (.getfield 15, 3) := by decide +kernel
theorem dX5_become_13 : decode cX5_become 13 = .ok (.putfield 15, 3) := by decide +kernel
theorem dX5_become_16 : decode cX5_become 16 = .ok (.aload_n 1, 1) := by decide +kernel
theorem dX5_become_17 : decode cX5_become 17 = .ok (.getfield 18, 3) := by decide +kernel
theorem dX5_become_20 : decode cX5_become 20 = .ok (.iconst 0, 1) := by decide +kernel
theorem dX5_become_21 : decode cX5_become 21 = .ok (.aload_n 0, 1) := by decide +kernel
theorem dX5_become_22 : decode cX5_become 22 = .ok (.getfield 18, 3) := by decide +kernel
theorem dX5_become_25 : decode cX5_become 25 = .ok (.iconst 0, 1) := by decide +kernel
theorem dX5_become_26 : decode cX5_become 26 = .ok (.bipush 8, 2) := by decide +kernel
theorem dX5_become_28 : decode cX5_become 28 = .ok (.invokestatic 34, 3) := by decide +kernel
theorem dX5_become_31 : decode cX5_become 31 = .ok (.aload_n 1, 1) := by decide +kernel
theorem dX5_become_32 : decode cX5_become 32 = .ok (.getfield 22, 3) := by decide +kernel
theorem dX5_become_35 : decode cX5_become 35 = .ok (.iconst 0, 1) := by decide +kernel
theorem dX5_become_36 : decode cX5_become 36 = .ok (.aload_n 0, 1) := by decide +kernel
theorem dX5_become_37 : decode cX5_become 37 = .ok (.getfield 22, 3) := by decide +kernel
theorem dX5_become_40 : decode cX5_become 40 = .ok (.iconst 0, 1) := by decide +kernel
theorem dX5_become_41 : decode cX5_become 41 = .ok (.bipush 8, 2) := by decide +kernel
theorem dX5_become_43 : decode cX5_become 43 = .ok (.invokestatic 34, 3) := by decide +kernel
theorem dX5_become_46 : decode cX5_become 46 = .ok (.aload_n 0, 1) := by decide +kernel
theorem dX5_become_47 : decode cX5_become 47 = .ok (.aload_n 1, 1) := by decide +kernel
theorem dX5_become_48 : decode cX5_become 48 = .ok (.getfield 25, 3) := by decide +kernel
theorem dX5_become_51 : decode cX5_become 51 = .ok (.putfield 25, 3) := by decide +kernel
theorem dX5_become_54 : decode cX5_become 54 = .ok (.aload_n 0, 1) := by decide +kernel
theorem dX5_become_55 : decode cX5_become 55 = .ok (.aload_n 1, 1) := by decide +kernel
theorem dX5_become_56 : decode cX5_become 56 = .ok (.getfield 28, 3) := by decide +kernel
theorem dX5_become_59 : decode cX5_become 59 = .ok (.putfield 28, 3) := by decide +kernel
theorem dX5_become_62 : decode cX5_become 62 = .ok (.aload_n 0, 1) := by decide +kernel
theorem dX5_become_63 : decode cX5_become 63 = .ok (.aload_n 1, 1) := by decide +kernel
theorem dX5_become_64 : decode cX5_become 64 = .ok (.getfield 31, 3) := by decide +kernel
theorem dX5_become_67 : decode cX5_become 67 = .ok (.putfield 31, 3) := by decide +kernel
theorem dX5_become_70 : decode cX5_become 70 = .ok (.return_, 1) := by decide +kernel
theorem dX5_readFrom_0 : decode cX5_readFrom 0 = .ok (.aload_n 0, 1) := by decide +kernel
theorem dX5_readFrom_1 : decode cX5_readFrom 1 = .ok (.iconst 0, 1) := by decide +kernel
theorem dX5_readFrom_2 : decode cX5_readFrom 2 = .ok (.putfield 9, 3) := by decide +kernel
theorem dX5_readFrom_5 : decode cX5_readFrom 5 = .ok (.aload_n 0, 1) := by decide +kernel
theorem dX5_readFrom_6 : decode cX5_readFrom 6 = .ok (.iconst 0, 1) := by decide +kernel
theorem dX5_readFrom_7 : decode cX5_readFrom 7 = .ok (.putfield 15, 3) := by decide +kernel
theorem dX5_readFrom_10 : decode cX5_readFrom 10 = .ok (.aload_n 0, 1) := by decide +kernel
theorem dX5_readFrom_11 : decode cX5_readFrom 11 = .ok (.iconst (-1), 1) := by decide +kernel
theorem dX5_readFrom_12 : decode cX5_readFrom 12 = .ok (.putfield 25, 3) := by decide +kernel
theorem dX5_readFrom_15 : decode cX5_readFrom 15 = .ok (.aload_n 0, 1) := by decide +kernel
theorem dX5_readFrom_16 : decode cX5_readFrom 16 = .ok (.iconst (-1), 1) := by decide +kernel
theorem dX5_readFrom_17 : decode cX5_readFrom 17 = .ok (.putfield 28, 3) := by decide +kernel
theorem dX5_readFrom_20 : decode cX5_readFrom 20 = .ok (.aload_n 0, 1) := by decide +kernel
theorem dX5_readFrom_21 : decode cX5_readFrom 21 = .ok (.iconst 0, 1) := by decide +kernel
theorem dX5_readFrom_22 : decode cX5_readFrom 22 = .ok (.putfield 31, 3) := by decide +kernel
theorem dX5_readFrom_25 : decode cX5_readFrom 25 = .ok (.iconst 0, 1) := by decide +kernel
theorem dX5_readFrom_26 : decode cX5_readFrom 26 = .ok (.istore_n 2, 1) := by decide +kernel
theorem dX5_readFrom_27 : decode cX5_readFrom 27 = .ok (.iload_n 2, 1) := by decide +kernel
theorem dX5_readFrom_28 : decode cX5_readFrom 28 = .ok (.sipush 500, 3) := by decide +kernel
theorem dX5_readFrom_31 : decode cX5_readFrom 31 = .ok (.if_icmp .ge 45, 3) := by decide +kernel
theorem dX5_readFrom_34 : decode cX5_readFrom 34 = .ok (.aload_n 1, 1) := by decide +kernel
theorem dX5_readFrom_35 : decode cX5_readFrom 35 = .ok (.invokevirtual 40, 3) := by decide +kernel
theorem dX5_readFrom_38 : decode cX5_readFrom 38 = .ok (.ifCond .ne 38, 3) := by decide +kernel
theorem dX5_readFrom_41 : decode cX5_readFrom 41 = .ok (.aload_n 0, 1) := by decide +kernel
theorem dX5_readFrom_42 : decode cX5_readFrom 42 = .ok (.aload_n 1, 1) := by decide +kernel
theorem dX5_readFrom_43 : decode cX5_readFrom 43 = .ok (.invokevirtual 46, 3) := by decide +kernel
theorem dX5_readFrom_46 : decode cX5_readFrom 46 = .ok (.ifCond .eq 12, 3) := by decide +kernel
theorem dX5_readFrom_49 : decode cX5_readFrom 49 = .ok (.aload_n 1, 1) := by decide +kernel
theorem dX5_readFrom_50 : decode cX5_readFrom 50 = .ok (.bipush 59, 2) := by decide +kernel
theorem dX5_readFrom_52 : decode cX5_readFrom 52 = .ok (.invokevirtual 50, 3) := by decide +kernel
theorem dX5_readFrom_55 : decode cX5_readFrom 55 = .ok (.ifCond .ne 5, 3) := by decide +kernel
theorem dX5_readFrom_58 : decode cX5_readFrom 58 = .ok (.iconst 0, 1) := by decide +kernel
theorem dX5_readFrom_59 : decode cX5_readFrom 59 = .ok (.ireturn, 1) := by decide +kernel
theorem dX5_readFrom_60 : decode cX5_readFrom 60 = .ok (.aload_n 0, 1) := by decide +kernel
theorem dX5_readFrom_61 : decode cX5_readFrom 61 = .ok (.dup, 1) := by decide +kernel
theorem dX5_readFrom_62 : decode cX5_readFrom 62 = .ok (.getfield 9, 3) := by decide +kernel
theorem dX5_readFrom_65 : decode cX5_readFrom 65 = .ok (.iconst 1, 1) := by decide +kernel
theorem dX5_readFrom_66 : decode cX5_readFrom 66 = .ok (.iadd, 1) := by decide +kernel
theorem dX5_readFrom_67 : decode cX5_readFrom 67 = .ok (.putfield 9, 3) := by decide +kernel
theorem dX5_readFrom_70 : decode cX5_readFrom 70 = .ok (.iinc 2 1, 3) := by decide +kernel
theorem dX5_readFrom_73 : decode cX5_readFrom 73 = .ok (.goto (-46), 3) := by decide +kernel
theorem dX5_readFrom_76 : decode cX5_readFrom 76 = .ok (.iconst 1, 1) := by decide +kernel
theorem dX5_readFrom_77 : decode cX5_readFrom 77 = .ok (.ireturn, 1) := by decide +kernel
theorem dX5_readClause_0 : decode cX5_readClause 0 = .ok (.aload_n 1, 1) := by decide +kernel
theorem dX5_readClause_1 : decode cX5_readClause 1 = .ok (.ldc 54, 2) := by decide +kernel
theorem dX5_readClause_3 : decode cX5_readClause 3 = .ok (.invokevirtual 56, 3) := by decide +kernel
theorem dX5_readClause_6 : decode cX5_readClause 6 = .ok (.ifCond .eq 26, 3) := by decide +kernel
theorem dX5_readClause_9 : decode cX5_readClause 9 = .ok (.aload_n 0, 1) := by decide +kernel
theorem dX5_readClause_10 : decode cX5_readClause 10 = .ok (.getfield 15, 3) := by decide +kernel
theorem dX5_readClause_13 : decode cX5_readClause 13 = .ok (.bipush 8, 2) := by decide +kernel
theorem dX5_readClause_15 : decode cX5_readClause 15 = .ok (.if_icmp .ge 11, 3) := by decide +kernel
theorem dX5_readClause_18 : decode cX5_readClause 18 = .ok (.aload_n 0, 1) := by decide +kernel
theorem dX5_readClause_19 : decode cX5_readClause 19 = .ok (.aload_n 1, 1) := by decide +kernel
theorem dX5_readClause_20 : decode cX5_readClause 20 = .ok (.invokevirtual 60, 3) := by decide +kernel
theorem dX5_readClause_23 : decode cX5_readClause 23 = .ok (.goto 8, 3) := by decide +kernel
theorem dX5_readClause_26 : decode cX5_readClause 26 = .ok (.aload_n 1, 1) := by decide +kernel
theorem dX5_readClause_27 : decode cX5_readClause 27 = .ok (.iconst 3, 1) := by decide +kernel
theorem dX5_readClause_28 : decode cX5_readClause 28 = .ok (.invokevirtual 63, 3) := by decide +kernel
theorem dX5_readClause_31 : decode cX5_readClause 31 = .ok (.ireturn, 1) := by decide +kernel
theorem dX5_readClause_32 : decode cX5_readClause 32 = .ok (.aload_n 1, 1) := by decide +kernel
theorem dX5_readClause_33 : decode cX5_readClause 33 = .ok (.ldc 67, 2) := by decide +kernel
theorem dX5_readClause_35 : decode cX5_readClause 35 = .ok (.invokevirtual 56, 3) := by decide +kernel
theorem dX5_readClause_38 : decode cX5_readClause 38 = .ok (.ifCond .eq 25, 3) := by decide +kernel
theorem dX5_readClause_41 : decode cX5_readClause 41 = .ok (.aload_n 0, 1) := by decide +kernel
theorem dX5_readClause_42 : decode cX5_readClause 42 = .ok (.getfield 25, 3) := by decide +kernel
theorem dX5_readClause_45 : decode cX5_readClause 45 = .ok (.iconst (-1), 1) := by decide +kernel
theorem dX5_readClause_46 : decode cX5_readClause 46 = .ok (.if_icmp .ne 11, 3) := by decide +kernel
theorem dX5_readClause_49 : decode cX5_readClause 49 = .ok (.aload_n 0, 1) := by decide +kernel
theorem dX5_readClause_50 : decode cX5_readClause 50 = .ok (.aload_n 1, 1) := by decide +kernel
theorem dX5_readClause_51 : decode cX5_readClause 51 = .ok (.invokevirtual 69, 3) := by decide +kernel
theorem dX5_readClause_54 : decode cX5_readClause 54 = .ok (.goto 8, 3) := by decide +kernel
theorem dX5_readClause_57 : decode cX5_readClause 57 = .ok (.aload_n 1, 1) := by decide +kernel
theorem dX5_readClause_58 : decode cX5_readClause 58 = .ok (.iconst 3, 1) := by decide +kernel
theorem dX5_readClause_59 : decode cX5_readClause 59 = .ok (.invokevirtual 63, 3) := by decide +kernel
theorem dX5_readClause_62 : decode cX5_readClause 62 = .ok (.ireturn, 1) := by decide +kernel
theorem dX5_readClause_63 : decode cX5_readClause 63 = .ok (.aload_n 1, 1) := by decide +kernel
theorem dX5_readClause_64 : decode cX5_readClause 64 = .ok (.ldc 72, 2) := by decide +kernel
theorem dX5_readClause_66 : decode cX5_readClause 66 = .ok (.invokevirtual 56, 3) := by decide +kernel
theorem dX5_readClause_69 : decode cX5_readClause 69 = .ok (.ifCond .eq 25, 3) := by decide +kernel
theorem dX5_readClause_72 : decode cX5_readClause 72 = .ok (.aload_n 0, 1) := by decide +kernel
theorem dX5_readClause_73 : decode cX5_readClause 73 = .ok (.getfield 28, 3) := by decide +kernel
theorem dX5_readClause_76 : decode cX5_readClause 76 = .ok (.iconst (-1), 1) := by decide +kernel
theorem dX5_readClause_77 : decode cX5_readClause 77 = .ok (.if_icmp .ne 11, 3) := by decide +kernel
theorem dX5_readClause_80 : decode cX5_readClause 80 = .ok (.aload_n 0, 1) := by decide +kernel
theorem dX5_readClause_81 : decode cX5_readClause 81 = .ok (.aload_n 1, 1) := by decide +kernel
theorem dX5_readClause_82 : decode cX5_readClause 82 = .ok (.invokevirtual 74, 3) := by decide +kernel
theorem dX5_readClause_85 : decode cX5_readClause 85 = .ok (.goto 8, 3) := by decide +kernel
theorem dX5_readClause_88 : decode cX5_readClause 88 = .ok (.aload_n 1, 1) := by decide +kernel
theorem dX5_readClause_89 : decode cX5_readClause 89 = .ok (.iconst 3, 1) := by decide +kernel
theorem dX5_readClause_90 : decode cX5_readClause 90 = .ok (.invokevirtual 63, 3) := by decide +kernel
theorem dX5_readClause_93 : decode cX5_readClause 93 = .ok (.ireturn, 1) := by decide +kernel
theorem dX5_readClause_94 : decode cX5_readClause 94 = .ok (.aload_n 1, 1) := by decide +kernel
theorem dX5_readClause_95 : decode cX5_readClause 95 = .ok (.ldc 77, 2) := by decide +kernel
theorem dX5_readClause_97 : decode cX5_readClause 97 = .ok (.invokevirtual 56, 3) := by decide +kernel
theorem dX5_readClause_100 : decode cX5_readClause 100 = .ok (.ifCond .eq 24, 3) := by decide +kernel
theorem dX5_readClause_103 : decode cX5_readClause 103 = .ok (.aload_n 0, 1) := by decide +kernel
theorem dX5_readClause_104 : decode cX5_readClause 104 = .ok (.getfield 31, 3) := by decide +kernel
theorem dX5_readClause_107 : decode cX5_readClause 107 = .ok (.ifCond .ne 11, 3) := by decide +kernel
theorem dX5_readClause_110 : decode cX5_readClause 110 = .ok (.aload_n 0, 1) := by decide +kernel
theorem dX5_readClause_111 : decode cX5_readClause 111 = .ok (.aload_n 1, 1) := by decide +kernel
theorem dX5_readClause_112 : decode cX5_readClause 112 = .ok (.invokevirtual 79, 3) := by decide +kernel
theorem dX5_readClause_115 : decode cX5_readClause 115 = .ok (.goto 8, 3) := by decide +kernel
theorem dX5_readClause_118 : decode cX5_readClause 118 = .ok (.aload_n 1, 1) := by decide +kernel
theorem dX5_readClause_119 : decode cX5_readClause 119 = .ok (.iconst 3, 1) := by decide +kernel
theorem dX5_readClause_120 : decode cX5_readClause 120 = .ok (.invokevirtual 63, 3) := by decide +kernel
theorem dX5_readClause_123 : decode cX5_readClause 123 = .ok (.ireturn, 1) := by decide +kernel
theorem dX5_readClause_124 : decode cX5_readClause 124 = .ok (.aload_n 1, 1) := by decide +kernel
theorem dX5_readClause_125 : decode cX5_readClause 125 = .ok (.iconst 1, 1) := by decide +kernel
theorem dX5_readClause_126 : decode cX5_readClause 126 = .ok (.invokevirtual 63, 3) := by decide +kernel
theorem dX5_readClause_129 : decode cX5_readClause 129 = .ok (.ireturn, 1) := by decide +kernel
theorem dX5_readFreeze_0 : decode cX5_readFreeze 0 = .ok (.aload_n 1, 1) := by decide +kernel
theorem dX5_readFreeze_1 : decode cX5_readFreeze 1 = .ok (.invokevirtual 82, 3) := by decide +kernel
theorem dX5_readFreeze_4 : decode cX5_readFreeze 4 = .ok (.aload_n 1, 1) := by decide +kernel
theorem dX5_readFreeze_5 : decode cX5_readFreeze 5 = .ok (.iconst 0, 1) := by decide +kernel
theorem dX5_readFreeze_6 : decode cX5_readFreeze 6 = .ok (.sipush 999, 3) := by decide +kernel
theorem dX5_readFreeze_9 : decode cX5_readFreeze 9 = .ok (.invokevirtual 85, 3) := by decide +kernel
theorem dX5_readFreeze_12 : decode cX5_readFreeze 12 = .ok (.istore_n 2, 1) := by decide +kernel
theorem dX5_readFreeze_13 : decode cX5_readFreeze 13 = .ok (.iload_n 2, 1) := by decide +kernel
theorem dX5_readFreeze_14 : decode cX5_readFreeze 14 = .ok (.iconst (-1), 1) := by decide +kernel
theorem dX5_readFreeze_15 : decode cX5_readFreeze 15 = .ok (.if_icmp .ne 5, 3) := by decide +kernel
theorem dX5_readFreeze_18 : decode cX5_readFreeze 18 = .ok (.iconst 0, 1) := by decide +kernel
theorem dX5_readFreeze_19 : decode cX5_readFreeze 19 = .ok (.ireturn, 1) := by decide +kernel
theorem dX5_readFreeze_20 : decode cX5_readFreeze 20 = .ok (.aload_n 1, 1) := by decide +kernel
theorem dX5_readFreeze_21 : decode cX5_readFreeze 21 = .ok (.iload_n 2, 1) := by decide +kernel
theorem dX5_readFreeze_22 : decode cX5_readFreeze 22 = .ok (.sipush 999, 3) := by decide +kernel
theorem dX5_readFreeze_25 : decode cX5_readFreeze 25 = .ok (.invokevirtual 85, 3) := by decide +kernel
theorem dX5_readFreeze_28 : decode cX5_readFreeze 28 = .ok (.istore_n 3, 1) := by decide +kernel
theorem dX5_readFreeze_29 : decode cX5_readFreeze 29 = .ok (.iload_n 3, 1) := by decide +kernel
theorem dX5_readFreeze_30 : decode cX5_readFreeze 30 = .ok (.iconst (-1), 1) := by decide +kernel
theorem dX5_readFreeze_31 : decode cX5_readFreeze 31 = .ok (.if_icmp .ne 5, 3) := by decide +kernel
theorem dX5_readFreeze_34 : decode cX5_readFreeze 34 = .ok (.iconst 0, 1) := by decide +kernel
theorem dX5_readFreeze_35 : decode cX5_readFreeze 35 = .ok (.ireturn, 1) := by decide +kernel
theorem dX5_readFreeze_36 : decode cX5_readFreeze 36 = .ok (.aload_n 0, 1) := by decide +kernel
theorem dX5_readFreeze_37 : decode cX5_readFreeze 37 = .ok (.getfield 18, 3) := by decide +kernel
theorem dX5_readFreeze_40 : decode cX5_readFreeze 40 = .ok (.aload_n 0, 1) := by decide +kernel
theorem dX5_readFreeze_41 : decode cX5_readFreeze 41 = .ok (.getfield 15, 3) := by decide +kernel
theorem dX5_readFreeze_44 : decode cX5_readFreeze 44 = .ok (.iload_n 2, 1) := by decide +kernel
theorem dX5_readFreeze_45 : decode cX5_readFreeze 45 = .ok (.iastore, 1) := by decide +kernel
theorem dX5_readFreeze_46 : decode cX5_readFreeze 46 = .ok (.aload_n 0, 1) := by decide +kernel
theorem dX5_readFreeze_47 : decode cX5_readFreeze 47 = .ok (.getfield 22, 3) := by decide +kernel
theorem dX5_readFreeze_50 : decode cX5_readFreeze 50 = .ok (.aload_n 0, 1) := by decide +kernel
theorem dX5_readFreeze_51 : decode cX5_readFreeze 51 = .ok (.getfield 15, 3) := by decide +kernel
theorem dX5_readFreeze_54 : decode cX5_readFreeze 54 = .ok (.iload_n 3, 1) := by decide +kernel
theorem dX5_readFreeze_55 : decode cX5_readFreeze 55 = .ok (.iastore, 1) := by decide +kernel
theorem dX5_readFreeze_56 : decode cX5_readFreeze 56 = .ok (.aload_n 0, 1) := by decide +kernel
theorem dX5_readFreeze_57 : decode cX5_readFreeze 57 = .ok (.dup, 1) := by decide +kernel
theorem dX5_readFreeze_58 : decode cX5_readFreeze 58 = .ok (.getfield 15, 3) := by decide +kernel
theorem dX5_readFreeze_61 : decode cX5_readFreeze 61 = .ok (.iconst 1, 1) := by decide +kernel
theorem dX5_readFreeze_62 : decode cX5_readFreeze 62 = .ok (.iadd, 1) := by decide +kernel
theorem dX5_readFreeze_63 : decode cX5_readFreeze 63 = .ok (.putfield 15, 3) := by decide +kernel
theorem dX5_readFreeze_66 : decode cX5_readFreeze 66 = .ok (.iconst 1, 1) := by decide +kernel
theorem dX5_readFreeze_67 : decode cX5_readFreeze 67 = .ok (.ireturn, 1) := by decide +kernel
theorem dX5_readRisk_0 : decode cX5_readRisk 0 = .ok (.aload_n 1, 1) := by decide +kernel
theorem dX5_readRisk_1 : decode cX5_readRisk 1 = .ok (.invokevirtual 82, 3) := by decide +kernel
theorem dX5_readRisk_4 : decode cX5_readRisk 4 = .ok (.aload_n 0, 1) := by decide +kernel
theorem dX5_readRisk_5 : decode cX5_readRisk 5 = .ok (.aload_n 1, 1) := by decide +kernel
theorem dX5_readRisk_6 : decode cX5_readRisk 6 = .ok (.iconst 0, 1) := by decide +kernel
theorem dX5_readRisk_7 : decode cX5_readRisk 7 = .ok (.bipush 99, 2) := by decide +kernel
theorem dX5_readRisk_9 : decode cX5_readRisk 9 = .ok (.invokevirtual 85, 3) := by decide +kernel
theorem dX5_readRisk_12 : decode cX5_readRisk 12 = .ok (.putfield 25, 3) := by decide +kernel
theorem dX5_readRisk_15 : decode cX5_readRisk 15 = .ok (.aload_n 0, 1) := by decide +kernel
theorem dX5_readRisk_16 : decode cX5_readRisk 16 = .ok (.getfield 25, 3) := by decide +kernel
theorem dX5_readRisk_19 : decode cX5_readRisk 19 = .ok (.iconst (-1), 1) := by decide +kernel
theorem dX5_readRisk_20 : decode cX5_readRisk 20 = .ok (.if_icmp .eq 7, 3) := by decide +kernel
theorem dX5_readRisk_23 : decode cX5_readRisk 23 = .ok (.iconst 1, 1) := by decide +kernel
theorem dX5_readRisk_24 : decode cX5_readRisk 24 = .ok (.goto 4, 3) := by decide +kernel
theorem dX5_readRisk_27 : decode cX5_readRisk 27 = .ok (.iconst 0, 1) := by decide +kernel
theorem dX5_readRisk_28 : decode cX5_readRisk 28 = .ok (.ireturn, 1) := by decide +kernel
theorem dX5_readWeight_0 : decode cX5_readWeight 0 = .ok (.aload_n 1, 1) := by decide +kernel
theorem dX5_readWeight_1 : decode cX5_readWeight 1 = .ok (.invokevirtual 82, 3) := by decide +kernel
theorem dX5_readWeight_4 : decode cX5_readWeight 4 = .ok (.aload_n 0, 1) := by decide +kernel
theorem dX5_readWeight_5 : decode cX5_readWeight 5 = .ok (.aload_n 1, 1) := by decide +kernel
theorem dX5_readWeight_6 : decode cX5_readWeight 6 = .ok (.iconst 0, 1) := by decide +kernel
theorem dX5_readWeight_7 : decode cX5_readWeight 7 = .ok (.bipush 99, 2) := by decide +kernel
theorem dX5_readWeight_9 : decode cX5_readWeight 9 = .ok (.invokevirtual 85, 3) := by decide +kernel
theorem dX5_readWeight_12 : decode cX5_readWeight 12 = .ok (.putfield 28, 3) := by decide +kernel
theorem dX5_readWeight_15 : decode cX5_readWeight 15 = .ok (.aload_n 0, 1) := by decide +kernel
theorem dX5_readWeight_16 : decode cX5_readWeight 16 = .ok (.getfield 28, 3) := by decide +kernel
theorem dX5_readWeight_19 : decode cX5_readWeight 19 = .ok (.iconst (-1), 1) := by decide +kernel
theorem dX5_readWeight_20 : decode cX5_readWeight 20 = .ok (.if_icmp .eq 7, 3) := by decide +kernel
theorem dX5_readWeight_23 : decode cX5_readWeight 23 = .ok (.iconst 1, 1) := by decide +kernel
theorem dX5_readWeight_24 : decode cX5_readWeight 24 = .ok (.goto 4, 3) := by decide +kernel
theorem dX5_readWeight_27 : decode cX5_readWeight 27 = .ok (.iconst 0, 1) := by decide +kernel
theorem dX5_readWeight_28 : decode cX5_readWeight 28 = .ok (.ireturn, 1) := by decide +kernel
theorem dX5_readLines_0 : decode cX5_readLines 0 = .ok (.aload_n 1, 1) := by decide +kernel
theorem dX5_readLines_1 : decode cX5_readLines 1 = .ok (.invokevirtual 82, 3) := by decide +kernel
theorem dX5_readLines_4 : decode cX5_readLines 4 = .ok (.iconst 0, 1) := by decide +kernel
theorem dX5_readLines_5 : decode cX5_readLines 5 = .ok (.istore_n 2, 1) := by decide +kernel
theorem dX5_readLines_6 : decode cX5_readLines 6 = .ok (.iload_n 2, 1) := by decide +kernel
theorem dX5_readLines_7 : decode cX5_readLines 7 = .ok (.iconst 4, 1) := by decide +kernel
theorem dX5_readLines_8 : decode cX5_readLines 8 = .ok (.if_icmp .gt 50, 3) := by decide +kernel
theorem dX5_readLines_11 : decode cX5_readLines 11 = .ok (.aload_n 1, 1) := by decide +kernel
theorem dX5_readLines_12 : decode cX5_readLines 12 = .ok (.iconst 0, 1) := by decide +kernel
theorem dX5_readLines_13 : decode cX5_readLines 13 = .ok (.iconst 3, 1) := by decide +kernel
theorem dX5_readLines_14 : decode cX5_readLines 14 = .ok (.aload_n 0, 1) := by decide +kernel
theorem dX5_readLines_15 : decode cX5_readLines 15 = .ok (.getfield 31, 3) := by decide +kernel
theorem dX5_readLines_18 : decode cX5_readLines 18 = .ok (.invokevirtual 89, 3) := by decide +kernel
theorem dX5_readLines_21 : decode cX5_readLines 21 = .ok (.istore_n 3, 1) := by decide +kernel
theorem dX5_readLines_22 : decode cX5_readLines 22 = .ok (.iload_n 3, 1) := by decide +kernel
theorem dX5_readLines_23 : decode cX5_readLines 23 = .ok (.iconst (-1), 1) := by decide +kernel
theorem dX5_readLines_24 : decode cX5_readLines 24 = .ok (.if_icmp .ne 5, 3) := by decide +kernel
theorem dX5_readLines_27 : decode cX5_readLines 27 = .ok (.iconst 0, 1) := by decide +kernel
theorem dX5_readLines_28 : decode cX5_readLines 28 = .ok (.ireturn, 1) := by decide +kernel
theorem dX5_readLines_29 : decode cX5_readLines 29 = .ok (.aload_n 0, 1) := by decide +kernel
theorem dX5_readLines_30 : decode cX5_readLines 30 = .ok (.dup, 1) := by decide +kernel
theorem dX5_readLines_31 : decode cX5_readLines 31 = .ok (.getfield 31, 3) := by decide +kernel
theorem dX5_readLines_34 : decode cX5_readLines 34 = .ok (.iconst 1, 1) := by decide +kernel
theorem dX5_readLines_35 : decode cX5_readLines 35 = .ok (.iload_n 3, 1) := by decide +kernel
theorem dX5_readLines_36 : decode cX5_readLines 36 = .ok (.ishl, 1) := by decide +kernel
theorem dX5_readLines_37 : decode cX5_readLines 37 = .ok (.ior, 1) := by decide +kernel
theorem dX5_readLines_38 : decode cX5_readLines 38 = .ok (.putfield 31, 3) := by decide +kernel
theorem dX5_readLines_41 : decode cX5_readLines 41 = .ok (.aload_n 1, 1) := by decide +kernel
theorem dX5_readLines_42 : decode cX5_readLines 42 = .ok (.bipush 44, 2) := by decide +kernel
theorem dX5_readLines_44 : decode cX5_readLines 44 = .ok (.invokevirtual 93, 3) := by decide +kernel
theorem dX5_readLines_47 : decode cX5_readLines 47 = .ok (.ifCond .ne 5, 3) := by decide +kernel
theorem dX5_readLines_50 : decode cX5_readLines 50 = .ok (.iconst 1, 1) := by decide +kernel
theorem dX5_readLines_51 : decode cX5_readLines 51 = .ok (.ireturn, 1) := by decide +kernel
theorem dX5_readLines_52 : decode cX5_readLines 52 = .ok (.iinc 2 1, 3) := by decide +kernel
theorem dX5_readLines_55 : decode cX5_readLines 55 = .ok (.goto (-49), 3) := by decide +kernel
theorem dX5_readLines_58 : decode cX5_readLines 58 = .ok (.iconst 0, 1) := by decide +kernel
theorem dX5_readLines_59 : decode cX5_readLines 59 = .ok (.ireturn, 1) := by decide +kernel
theorem dX5_isFrozen_0 : decode cX5_isFrozen 0 = .ok (.iconst 0, 1) := by decide +kernel
theorem dX5_isFrozen_1 : decode cX5_isFrozen 1 = .ok (.istore_n 2, 1) := by decide +kernel
theorem dX5_isFrozen_2 : decode cX5_isFrozen 2 = .ok (.iload_n 2, 1) := by decide +kernel
theorem dX5_isFrozen_3 : decode cX5_isFrozen 3 = .ok (.aload_n 0, 1) := by decide +kernel
theorem dX5_isFrozen_4 : decode cX5_isFrozen 4 = .ok (.getfield 15, 3) := by decide +kernel
theorem dX5_isFrozen_7 : decode cX5_isFrozen 7 = .ok (.if_icmp .ge 31, 3) := by decide +kernel
theorem dX5_isFrozen_10 : decode cX5_isFrozen 10 = .ok (.iload_n 1, 1) := by decide +kernel
theorem dX5_isFrozen_11 : decode cX5_isFrozen 11 = .ok (.aload_n 0, 1) := by decide +kernel
theorem dX5_isFrozen_12 : decode cX5_isFrozen 12 = .ok (.getfield 18, 3) := by decide +kernel
theorem dX5_isFrozen_15 : decode cX5_isFrozen 15 = .ok (.iload_n 2, 1) := by decide +kernel
theorem dX5_isFrozen_16 : decode cX5_isFrozen 16 = .ok (.iaload, 1) := by decide +kernel
theorem dX5_isFrozen_17 : decode cX5_isFrozen 17 = .ok (.if_icmp .lt 15, 3) := by decide +kernel
theorem dX5_isFrozen_20 : decode cX5_isFrozen 20 = .ok (.iload_n 1, 1) := by decide +kernel
theorem dX5_isFrozen_21 : decode cX5_isFrozen 21 = .ok (.aload_n 0, 1) := by decide +kernel
theorem dX5_isFrozen_22 : decode cX5_isFrozen 22 = .ok (.getfield 22, 3) := by decide +kernel
theorem dX5_isFrozen_25 : decode cX5_isFrozen 25 = .ok (.iload_n 2, 1) := by decide +kernel
theorem dX5_isFrozen_26 : decode cX5_isFrozen 26 = .ok (.iaload, 1) := by decide +kernel
theorem dX5_isFrozen_27 : decode cX5_isFrozen 27 = .ok (.if_icmp .gt 5, 3) := by decide +kernel
theorem dX5_isFrozen_30 : decode cX5_isFrozen 30 = .ok (.iconst 1, 1) := by decide +kernel
theorem dX5_isFrozen_31 : decode cX5_isFrozen 31 = .ok (.ireturn, 1) := by decide +kernel
theorem dX5_isFrozen_32 : decode cX5_isFrozen 32 = .ok (.iinc 2 1, 3) := by decide +kernel
theorem dX5_isFrozen_35 : decode cX5_isFrozen 35 = .ok (.goto (-33), 3) := by decide +kernel
theorem dX5_isFrozen_38 : decode cX5_isFrozen 38 = .ok (.iconst 0, 1) := by decide +kernel
theorem dX5_isFrozen_39 : decode cX5_isFrozen 39 = .ok (.ireturn, 1) := by decide +kernel
theorem dX5_allowsLine_0 : decode cX5_allowsLine 0 = .ok (.aload_n 0, 1) := by decide +kernel
theorem dX5_allowsLine_1 : decode cX5_allowsLine 1 = .ok (.getfield 31, 3) := by decide +kernel
theorem dX5_allowsLine_4 : decode cX5_allowsLine 4 = .ok (.ifCond .eq 14, 3) := by decide +kernel
theorem dX5_allowsLine_7 : decode cX5_allowsLine 7 = .ok (.aload_n 0, 1) := by decide +kernel
theorem dX5_allowsLine_8 : decode cX5_allowsLine 8 = .ok (.getfield 31, 3) := by decide +kernel
theorem dX5_allowsLine_11 : decode cX5_allowsLine 11 = .ok (.iload_n 1, 1) := by decide +kernel
theorem dX5_allowsLine_12 : decode cX5_allowsLine 12 = .ok (.invokestatic 96, 3) := by decide +kernel
theorem dX5_allowsLine_15 : decode cX5_allowsLine 15 = .ok (.ifCond .eq 7, 3) := by decide +kernel
theorem dX5_allowsLine_18 : decode cX5_allowsLine 18 = .ok (.iconst 1, 1) := by decide +kernel
theorem dX5_allowsLine_19 : decode cX5_allowsLine 19 = .ok (.goto 4, 3) := by decide +kernel
theorem dX5_allowsLine_22 : decode cX5_allowsLine 22 = .ok (.iconst 0, 1) := by decide +kernel
theorem dX5_allowsLine_23 : decode cX5_allowsLine 23 = .ok (.ireturn, 1) := by decide +kernel
theorem dX5_allowsRisk_0 : decode cX5_allowsRisk 0 = .ok (.aload_n 0, 1) := by decide +kernel
theorem dX5_allowsRisk_1 : decode cX5_allowsRisk 1 = .ok (.getfield 25, 3) := by decide +kernel
theorem dX5_allowsRisk_4 : decode cX5_allowsRisk 4 = .ok (.iconst (-1), 1) := by decide +kernel
theorem dX5_allowsRisk_5 : decode cX5_allowsRisk 5 = .ok (.if_icmp .eq 11, 3) := by decide +kernel
theorem dX5_allowsRisk_8 : decode cX5_allowsRisk 8 = .ok (.iload_n 1, 1) := by decide +kernel
theorem dX5_allowsRisk_9 : decode cX5_allowsRisk 9 = .ok (.aload_n 0, 1) := by decide +kernel
theorem dX5_allowsRisk_10 : decode cX5_allowsRisk 10 = .ok (.getfield 25, 3) := by decide +kernel
theorem dX5_allowsRisk_13 : decode cX5_allowsRisk 13 = .ok (.if_icmp .gt 7, 3) := by decide +kernel
theorem dX5_allowsRisk_16 : decode cX5_allowsRisk 16 = .ok (.iconst 1, 1) := by decide +kernel
theorem dX5_allowsRisk_17 : decode cX5_allowsRisk 17 = .ok (.goto 4, 3) := by decide +kernel
theorem dX5_allowsRisk_20 : decode cX5_allowsRisk 20 = .ok (.iconst 0, 1) := by decide +kernel
theorem dX5_allowsRisk_21 : decode cX5_allowsRisk 21 = .ok (.ireturn, 1) := by decide +kernel
theorem dX5_allowsWeight_0 : decode cX5_allowsWeight 0 = .ok (.aload_n 0, 1) := by decide +kernel
theorem dX5_allowsWeight_1 : decode cX5_allowsWeight 1 = .ok (.getfield 28, 3) := by decide +kernel
theorem dX5_allowsWeight_4 : decode cX5_allowsWeight 4 = .ok (.iconst (-1), 1) := by decide +kernel
theorem dX5_allowsWeight_5 : decode cX5_allowsWeight 5 = .ok (.if_icmp .eq 11, 3) := by decide +kernel
theorem dX5_allowsWeight_8 : decode cX5_allowsWeight 8 = .ok (.iload_n 1, 1) := by decide +kernel
theorem dX5_allowsWeight_9 : decode cX5_allowsWeight 9 = .ok (.aload_n 0, 1) := by decide +kernel
theorem dX5_allowsWeight_10 : decode cX5_allowsWeight 10 = .ok (.getfield 28, 3) := by decide +kernel
theorem dX5_allowsWeight_13 : decode cX5_allowsWeight 13 = .ok (.if_icmp .lt 7, 3) := by decide +kernel
theorem dX5_allowsWeight_16 : decode cX5_allowsWeight 16 = .ok (.iconst 1, 1) := by decide +kernel
theorem dX5_allowsWeight_17 : decode cX5_allowsWeight 17 = .ok (.goto 4, 3) := by decide +kernel
theorem dX5_allowsWeight_20 : decode cX5_allowsWeight 20 = .ok (.iconst 0, 1) := by decide +kernel
theorem dX5_allowsWeight_21 : decode cX5_allowsWeight 21 = .ok (.ireturn, 1) := by decide +kernel
theorem dX6_init_0 : decode cX6_init 0 = .ok (.aload_n 0, 1) := by decide +kernel
theorem dX6_init_1 : decode cX6_init 1 = .ok (.invokespecial 3, 3) := by decide +kernel
theorem dX6_init_4 : decode cX6_init 4 = .ok (.aload_n 0, 1) := by decide +kernel
theorem dX6_init_5 : decode cX6_init 5 = .ok (.sipush 500, 3) := by decide +kernel
theorem dX6_init_8 : decode cX6_init 8 = .ok (.newarray .int, 2) := by decide +kernel
theorem dX6_init_10 : decode cX6_init 10 = .ok (.putfield 9, 3) := by decide +kernel
theorem dX6_init_13 : decode cX6_init 13 = .ok (.aload_n 0, 1) := by decide +kernel
theorem dX6_init_14 : decode cX6_init 14 = .ok (.iconst 0, 1) := by decide +kernel
theorem dX6_init_15 : decode cX6_init 15 = .ok (.putfield 15, 3) := by decide +kernel
theorem dX6_init_18 : decode cX6_init 18 = .ok (.return_, 1) := by decide +kernel
theorem dX6_append_0 : decode cX6_append 0 = .ok (.iload_n 1, 1) := by decide +kernel
theorem dX6_append_1 : decode cX6_append 1 = .ok (.iconst 1, 1) := by decide +kernel
theorem dX6_append_2 : decode cX6_append 2 = .ok (.isub, 1) := by decide +kernel
theorem dX6_append_3 : decode cX6_append 3 = .ok (.istore 4, 2) := by decide +kernel
theorem dX6_append_5 : decode cX6_append 5 = .ok (.iload 4, 2) := by decide +kernel
theorem dX6_append_7 : decode cX6_append 7 = .ok (.ifCond .lt 50, 3) := by decide +kernel
theorem dX6_append_10 : decode cX6_append 10 = .ok (.aload_n 0, 1) := by decide +kernel
theorem dX6_append_11 : decode cX6_append 11 = .ok (.getfield 15, 3) := by decide +kernel
theorem dX6_append_14 : decode cX6_append 14 = .ok (.sipush 500, 3) := by decide +kernel
theorem dX6_append_17 : decode cX6_append 17 = .ok (.if_icmp .ge 40, 3) := by decide +kernel
theorem dX6_append_20 : decode cX6_append 20 = .ok (.aload_n 0, 1) := by decide +kernel
theorem dX6_append_21 : decode cX6_append 21 = .ok (.getfield 9, 3) := by decide +kernel
theorem dX6_append_24 : decode cX6_append 24 = .ok (.aload_n 0, 1) := by decide +kernel
theorem dX6_append_25 : decode cX6_append 25 = .ok (.getfield 15, 3) := by decide +kernel
theorem dX6_append_28 : decode cX6_append 28 = .ok (.lload_n 2, 1) := by decide +kernel
theorem dX6_append_29 : decode cX6_append 29 = .ok (.bipush 8, 2) := by decide +kernel
theorem dX6_append_31 : decode cX6_append 31 = .ok (.iload 4, 2) := by decide +kernel
theorem dX6_append_33 : decode cX6_append 33 = .ok (.imul, 1) := by decide +kernel
theorem dX6_append_34 : decode cX6_append 34 = .ok (.lushr, 1) := by decide +kernel
theorem dX6_append_35 : decode cX6_append 35 = .ok (.l2i, 1) := by decide +kernel
theorem dX6_append_36 : decode cX6_append 36 = .ok (.sipush 255, 3) := by decide +kernel
theorem dX6_append_39 : decode cX6_append 39 = .ok (.iand, 1) := by decide +kernel
theorem dX6_append_40 : decode cX6_append 40 = .ok (.iastore, 1) := by decide +kernel
theorem dX6_append_41 : decode cX6_append 41 = .ok (.aload_n 0, 1) := by decide +kernel
theorem dX6_append_42 : decode cX6_append 42 = .ok (.dup, 1) := by decide +kernel
theorem dX6_append_43 : decode cX6_append 43 = .ok (.getfield 15, 3) := by decide +kernel
theorem dX6_append_46 : decode cX6_append 46 = .ok (.iconst 1, 1) := by decide +kernel
theorem dX6_append_47 : decode cX6_append 47 = .ok (.iadd, 1) := by decide +kernel
theorem dX6_append_48 : decode cX6_append 48 = .ok (.putfield 15, 3) := by decide +kernel
theorem dX6_append_51 : decode cX6_append 51 = .ok (.iinc 4 (-1), 3) := by decide +kernel
theorem dX6_append_54 : decode cX6_append 54 = .ok (.goto (-49), 3) := by decide +kernel
theorem dX6_append_57 : decode cX6_append 57 = .ok (.return_, 1) := by decide +kernel
theorem dX7_init_0 : decode cX7_init 0 = .ok (.aload_n 0, 1) := by decide +kernel
theorem dX7_init_1 : decode cX7_init 1 = .ok (.invokespecial 3, 3) := by decide +kernel
theorem dX7_init_4 : decode cX7_init 4 = .ok (.aload_n 0, 1) := by decide +kernel
theorem dX7_init_5 : decode cX7_init 5 = .ok (.iconst 0, 1) := by decide +kernel
theorem dX7_init_6 : decode cX7_init 6 = .ok (.putfield 9, 3) := by decide +kernel
theorem dX7_init_9 : decode cX7_init 9 = .ok (.aload_n 0, 1) := by decide +kernel
theorem dX7_init_10 : decode cX7_init 10 = .ok (.bipush 24, 2) := by decide +kernel
theorem dX7_init_12 : decode cX7_init 12 = .ok (.newarray .int, 2) := by decide +kernel
theorem dX7_init_14 : decode cX7_init 14 = .ok (.putfield 15, 3) := by decide +kernel
theorem dX7_init_17 : decode cX7_init 17 = .ok (.aload_n 0, 1) := by decide +kernel
theorem dX7_init_18 : decode cX7_init 18 = .ok (.bipush 24, 2) := by decide +kernel
theorem dX7_init_20 : decode cX7_init 20 = .ok (.newarray .int, 2) := by decide +kernel
theorem dX7_init_22 : decode cX7_init 22 = .ok (.putfield 19, 3) := by decide +kernel
theorem dX7_init_25 : decode cX7_init 25 = .ok (.aload_n 0, 1) := by decide +kernel
theorem dX7_init_26 : decode cX7_init 26 = .ok (.bipush 24, 2) := by decide +kernel
theorem dX7_init_28 : decode cX7_init 28 = .ok (.newarray .int, 2) := by decide +kernel
theorem dX7_init_30 : decode cX7_init 30 = .ok (.putfield 22, 3) := by decide +kernel
theorem dX7_init_33 : decode cX7_init 33 = .ok (.aload_n 0, 1) := by decide +kernel
theorem dX7_init_34 : decode cX7_init 34 = .ok (.sipush 384, 3) := by decide +kernel
theorem dX7_init_37 : decode cX7_init 37 = .ok (.newarray .int, 2) := by decide +kernel
theorem dX7_init_39 : decode cX7_init 39 = .ok (.putfield 25, 3) := by decide +kernel
theorem dX7_init_42 : decode cX7_init 42 = .ok (.aload_n 0, 1) := by decide +kernel
theorem dX7_init_43 : decode cX7_init 43 = .ok (.sipush 400, 3) := by decide +kernel
theorem dX7_init_46 : decode cX7_init 46 = .ok (.newarray .int, 2) := by decide +kernel
theorem dX7_init_48 : decode cX7_init 48 = .ok (.putfield 28, 3) := by decide +kernel
theorem dX7_init_51 : decode cX7_init 51 = .ok (.aload_n 0, 1) := by decide +kernel
theorem dX7_init_52 : decode cX7_init 52 = .ok (.iconst 0, 1) := by decide +kernel
theorem dX7_init_53 : decode cX7_init 53 = .ok (.putfield 31, 3) := by decide +kernel
theorem dX7_init_56 : decode cX7_init 56 = .ok (.aload_n 0, 1) := by decide +kernel
theorem dX7_init_57 : decode cX7_init 57 = .ok (.bipush 10, 2) := by decide +kernel
theorem dX7_init_59 : decode cX7_init 59 = .ok (.newarray .int, 2) := by decide +kernel
theorem dX7_init_61 : decode cX7_init 61 = .ok (.putfield 34, 3) := by decide +kernel
theorem dX7_init_64 : decode cX7_init 64 = .ok (.aload_n 0, 1) := by decide +kernel
theorem dX7_init_65 : decode cX7_init 65 = .ok (.bipush 10, 2) := by decide +kernel
theorem dX7_init_67 : decode cX7_init 67 = .ok (.newarray .int, 2) := by decide +kernel
theorem dX7_init_69 : decode cX7_init 69 = .ok (.putfield 37, 3) := by decide +kernel
theorem dX7_init_72 : decode cX7_init 72 = .ok (.aload_n 0, 1) := by decide +kernel
theorem dX7_init_73 : decode cX7_init 73 = .ok (.bipush 10, 2) := by decide +kernel
theorem dX7_init_75 : decode cX7_init 75 = .ok (.newarray .int, 2) := by decide +kernel
theorem dX7_init_77 : decode cX7_init 77 = .ok (.putfield 40, 3) := by decide +kernel
theorem dX7_init_80 : decode cX7_init 80 = .ok (.return_, 1) := by decide +kernel
theorem dX7_hasChange_0 : decode cX7_hasChange 0 = .ok (.iload_n 1, 1) := by decide +kernel
theorem dX7_hasChange_1 : decode cX7_hasChange 1 = .ok (.ifCond .lt 15, 3) := by decide +kernel
theorem dX7_hasChange_4 : decode cX7_hasChange 4 = .ok (.iload_n 1, 1) := by decide +kernel
theorem dX7_hasChange_5 : decode cX7_hasChange 5 = .ok (.aload_n 0, 1) := by decide +kernel
theorem dX7_hasChange_6 : decode cX7_hasChange 6 = .ok (.getfield 9, 3) := by decide +kernel
theorem dX7_hasChange_9 : decode cX7_hasChange 9 = .ok (.if_icmp .ge 7, 3) := by decide +kernel
theorem dX7_hasChange_12 : decode cX7_hasChange 12 = .ok (.iconst 1, 1) := by decide +kernel
theorem dX7_hasChange_13 : decode cX7_hasChange 13 = .ok (.goto 4, 3) := by decide +kernel
theorem dX7_hasChange_16 : decode cX7_hasChange 16 = .ok (.iconst 0, 1) := by decide +kernel
theorem dX7_hasChange_17 : decode cX7_hasChange 17 = .ok (.ireturn, 1) := by decide +kernel
theorem dX7_hasChanges_0 : decode cX7_hasChanges 0 = .ok (.iload_n 1, 1) := by decide +kernel
theorem dX7_hasChanges_1 : decode cX7_hasChanges 1 = .ok (.aload_n 0, 1) := by decide +kernel
theorem dX7_hasChanges_2 : decode cX7_hasChanges 2 = .ok (.getfield 9, 3) := by decide +kernel
theorem dX7_hasChanges_5 : decode cX7_hasChanges 5 = .ok (.invokestatic 43, 3) := by decide +kernel
theorem dX7_hasChanges_8 : decode cX7_hasChanges 8 = .ok (.iconst (-1), 1) := by decide +kernel
theorem dX7_hasChanges_9 : decode cX7_hasChanges 9 = .ok (.ixor, 1) := by decide +kernel
theorem dX7_hasChanges_10 : decode cX7_hasChanges 10 = .ok (.iand, 1) := by decide +kernel
theorem dX7_hasChanges_11 : decode cX7_hasChanges 11 = .ok (.ifCond .ne 7, 3) := by decide +kernel
theorem dX7_hasChanges_14 : decode cX7_hasChanges 14 = .ok (.iconst 1, 1) := by decide +kernel
theorem dX7_hasChanges_15 : decode cX7_hasChanges 15 = .ok (.goto 4, 3) := by decide +kernel
theorem dX7_hasChanges_18 : decode cX7_hasChanges 18 = .ok (.iconst 0, 1) := by decide +kernel
theorem dX7_hasChanges_19 : decode cX7_hasChanges 19 = .ok (.ireturn, 1) := by decide +kernel
theorem dX7_hasFault_0 : decode cX7_hasFault 0 = .ok (.iload_n 1, 1) := by decide +kernel
theorem dX7_hasFault_1 : decode cX7_hasFault 1 = .ok (.ifCond .lt 15, 3) := by decide +kernel
theorem dX7_hasFault_4 : decode cX7_hasFault 4 = .ok (.iload_n 1, 1) := by decide +kernel
theorem dX7_hasFault_5 : decode cX7_hasFault 5 = .ok (.aload_n 0, 1) := by decide +kernel
theorem dX7_hasFault_6 : decode cX7_hasFault 6 = .ok (.getfield 31, 3) := by decide +kernel
theorem dX7_hasFault_9 : decode cX7_hasFault 9 = .ok (.if_icmp .ge 7, 3) := by decide +kernel
theorem dX7_hasFault_12 : decode cX7_hasFault 12 = .ok (.iconst 1, 1) := by decide +kernel
theorem dX7_hasFault_13 : decode cX7_hasFault 13 = .ok (.goto 4, 3) := by decide +kernel
theorem dX7_hasFault_16 : decode cX7_hasFault 16 = .ok (.iconst 0, 1) := by decide +kernel
theorem dX7_hasFault_17 : decode cX7_hasFault 17 = .ok (.ireturn, 1) := by decide +kernel
theorem dX7_hasFaults_0 : decode cX7_hasFaults 0 = .ok (.iload_n 1, 1) := by decide +kernel
theorem dX7_hasFaults_1 : decode cX7_hasFaults 1 = .ok (.aload_n 0, 1) := by decide +kernel
theorem dX7_hasFaults_2 : decode cX7_hasFaults 2 = .ok (.getfield 31, 3) := by decide +kernel
theorem dX7_hasFaults_5 : decode cX7_hasFaults 5 = .ok (.invokestatic 43, 3) := by decide +kernel
theorem dX7_hasFaults_8 : decode cX7_hasFaults 8 = .ok (.iconst (-1), 1) := by decide +kernel
theorem dX7_hasFaults_9 : decode cX7_hasFaults 9 = .ok (.ixor, 1) := by decide +kernel
theorem dX7_hasFaults_10 : decode cX7_hasFaults 10 = .ok (.iand, 1) := by decide +kernel
theorem dX7_hasFaults_11 : decode cX7_hasFaults 11 = .ok (.ifCond .ne 7, 3) := by decide +kernel
theorem dX7_hasFaults_14 : decode cX7_hasFaults 14 = .ok (.iconst 1, 1) := by decide +kernel
theorem dX7_hasFaults_15 : decode cX7_hasFaults 15 = .ok (.goto 4, 3) := by decide +kernel
theorem dX7_hasFaults_18 : decode cX7_hasFaults 18 = .ok (.iconst 0, 1) := by decide +kernel
theorem dX7_hasFaults_19 : decode cX7_hasFaults 19 = .ok (.ireturn, 1) := by decide +kernel
theorem dX7_become_0 : decode cX7_become 0 = .ok (.aload_n 0, 1) := by decide +kernel
theorem dX7_become_1 : decode cX7_become 1 = .ok (.aload_n 1, 1) := by decide +kernel
theorem dX7_become_2 : decode cX7_become 2 = .ok (.getfield 9, 3) := by decide +kernel
theorem dX7_become_5 : decode cX7_become 5 = .ok (.putfield 9, 3) := by decide +kernel
theorem dX7_become_8 : decode cX7_become 8 = .ok (.aload_n 0, 1) := by decide +kernel
theorem dX7_become_9 : decode cX7_become 9 = .ok (.aload_n 1, 1) := by decide +kernel
theorem dX7_become_10 : decode cX7_become 10 = .ok (.getfield 31, 3) := by decide +kernel
theorem dX7_become_13 : decode cX7_become 13 = .ok (.putfield 31, 3) := by decide +kernel
theorem dX7_become_16 : decode cX7_become 16 = .ok (.aload_n 1, 1) := by decide +kernel
theorem dX7_become_17 : decode cX7_become 17 = .ok (.getfield 15, 3) := by decide +kernel
theorem dX7_become_20 : decode cX7_become 20 = .ok (.iconst 0, 1) := by decide +kernel
theorem dX7_become_21 : decode cX7_become 21 = .ok (.aload_n 0, 1) := by decide +kernel
theorem dX7_become_22 : decode cX7_become 22 = .ok (.getfield 15, 3) := by decide +kernel
theorem dX7_become_25 : decode cX7_become 25 = .ok (.iconst 0, 1) := by decide +kernel
theorem dX7_become_26 : decode cX7_become 26 = .ok (.bipush 24, 2) := by decide +kernel
theorem dX7_become_28 : decode cX7_become 28 = .ok (.invokestatic 47, 3) := by decide +kernel
theorem dX7_become_31 : decode cX7_become 31 = .ok (.aload_n 1, 1) := by decide +kernel
theorem dX7_become_32 : decode cX7_become 32 = .ok (.getfield 19, 3) := by decide +kernel
theorem dX7_become_35 : decode cX7_become 35 = .ok (.iconst 0, 1) := by decide +kernel
theorem dX7_become_36 : decode cX7_become 36 = .ok (.aload_n 0, 1) := by decide +kernel
theorem dX7_become_37 : decode cX7_become 37 = .ok (.getfield 19, 3) := by decide +kernel
theorem dX7_become_40 : decode cX7_become 40 = .ok (.iconst 0, 1) := by decide +kernel
theorem dX7_become_41 : decode cX7_become 41 = .ok (.bipush 24, 2) := by decide +kernel
theorem dX7_become_43 : decode cX7_become 43 = .ok (.invokestatic 47, 3) := by decide +kernel
theorem dX7_become_46 : decode cX7_become 46 = .ok (.aload_n 1, 1) := by decide +kernel
theorem dX7_become_47 : decode cX7_become 47 = .ok (.getfield 22, 3) := by decide +kernel
theorem dX7_become_50 : decode cX7_become 50 = .ok (.iconst 0, 1) := by decide +kernel
theorem dX7_become_51 : decode cX7_become 51 = .ok (.aload_n 0, 1) := by decide +kernel
theorem dX7_become_52 : decode cX7_become 52 = .ok (.getfield 22, 3) := by decide +kernel
theorem dX7_become_55 : decode cX7_become 55 = .ok (.iconst 0, 1) := by decide +kernel
theorem dX7_become_56 : decode cX7_become 56 = .ok (.bipush 24, 2) := by decide +kernel
theorem dX7_become_58 : decode cX7_become 58 = .ok (.invokestatic 47, 3) := by decide +kernel
theorem dX7_become_61 : decode cX7_become 61 = .ok (.aload_n 1, 1) := by decide +kernel
theorem dX7_become_62 : decode cX7_become 62 = .ok (.getfield 25, 3) := by decide +kernel
theorem dX7_become_65 : decode cX7_become 65 = .ok (.iconst 0, 1) := by decide +kernel
theorem dX7_become_66 : decode cX7_become 66 = .ok (.aload_n 0, 1) := by decide +kernel
theorem dX7_become_67 : decode cX7_become 67 = .ok (.getfield 25, 3) := by decide +kernel
theorem dX7_become_70 : decode cX7_become 70 = .ok (.iconst 0, 1) := by decide +kernel
theorem dX7_become_71 : decode cX7_become 71 = .ok (.sipush 384, 3) := by decide +kernel
theorem dX7_become_74 : decode cX7_become 74 = .ok (.invokestatic 47, 3) := by decide +kernel
theorem dX7_become_77 : decode cX7_become 77 = .ok (.aload_n 1, 1) := by decide +kernel
theorem dX7_become_78 : decode cX7_become 78 = .ok (.getfield 28, 3) := by decide +kernel
theorem dX7_become_81 : decode cX7_become 81 = .ok (.iconst 0, 1) := by decide +kernel
theorem dX7_become_82 : decode cX7_become 82 = .ok (.aload_n 0, 1) := by decide +kernel
theorem dX7_become_83 : decode cX7_become 83 = .ok (.getfield 28, 3) := by decide +kernel
theorem dX7_become_86 : decode cX7_become 86 = .ok (.iconst 0, 1) := by decide +kernel
theorem dX7_become_87 : decode cX7_become 87 = .ok (.sipush 400, 3) := by decide +kernel
theorem dX7_become_90 : decode cX7_become 90 = .ok (.invokestatic 47, 3) := by decide +kernel
theorem dX7_become_93 : decode cX7_become 93 = .ok (.aload_n 1, 1) := by decide +kernel
theorem dX7_become_94 : decode cX7_become 94 = .ok (.getfield 34, 3) := by decide +kernel
theorem dX7_become_97 : decode cX7_become 97 = .ok (.iconst 0, 1) := by decide +kernel
theorem dX7_become_98 : decode cX7_become 98 = .ok (.aload_n 0, 1) := by decide +kernel
theorem dX7_become_99 : decode cX7_become 99 = .ok (.getfield 34, 3) := by decide +kernel
theorem dX7_become_102 : decode cX7_become 102 = .ok (.iconst 0, 1) := by decide +kernel
theorem dX7_become_103 : decode cX7_become 103 = .ok (.bipush 10, 2) := by decide +kernel
theorem dX7_become_105 : decode cX7_become 105 = .ok (.invokestatic 47, 3) := by decide +kernel
theorem dX7_become_108 : decode cX7_become 108 = .ok (.aload_n 1, 1) := by decide +kernel
theorem dX7_become_109 : decode cX7_become 109 = .ok (.getfield 37, 3) := by decide +kernel
theorem dX7_become_112 : decode cX7_become 112 = .ok (.iconst 0, 1) := by decide +kernel
theorem dX7_become_113 : decode cX7_become 113 = .ok (.aload_n 0, 1) := by decide +kernel
theorem dX7_become_114 : decode cX7_become 114 = .ok (.getfield 37, 3) := by decide +kernel
theorem dX7_become_117 : decode cX7_become 117 = .ok (.iconst 0, 1) := by decide +kernel
theorem dX7_become_118 : decode cX7_become 118 = .ok (.bipush 10, 2) := by decide +kernel
theorem dX7_become_120 : decode cX7_become 120 = .ok (.invokestatic 47, 3) := by decide +kernel
theorem dX7_become_123 : decode cX7_become 123 = .ok (.aload_n 1, 1) := by decide +kernel
theorem dX7_become_124 : decode cX7_become 124 = .ok (.getfield 40, 3) := by decide +kernel
theorem dX7_become_127 : decode cX7_become 127 = .ok (.iconst 0, 1) := by decide +kernel
theorem dX7_become_128 : decode cX7_become 128 = .ok (.aload_n 0, 1) := by decide +kernel
theorem dX7_become_129 : decode cX7_become 129 = .ok (.getfield 40, 3) := by decide +kernel
theorem dX7_become_132 : decode cX7_become 132 = .ok (.iconst 0, 1) := by decide +kernel
theorem dX7_become_133 : decode cX7_become 133 = .ok (.bipush 10, 2) := by decide +kernel
theorem dX7_become_135 : decode cX7_become 135 = .ok (.invokestatic 47, 3) := by decide +kernel
theorem dX7_become_138 : decode cX7_become 138 = .ok (.return_, 1) := by decide +kernel
theorem dX7_readFrom_0 : decode cX7_readFrom 0 = .ok (.aload_n 0, 1) := by decide +kernel
theorem dX7_readFrom_1 : decode cX7_readFrom 1 = .ok (.iconst 0, 1) := by decide +kernel
theorem dX7_readFrom_2 : decode cX7_readFrom 2 = .ok (.putfield 9, 3) := by decide +kernel
theorem dX7_readFrom_5 : decode cX7_readFrom 5 = .ok (.aload_n 0, 1) := by decide +kernel
theorem dX7_readFrom_6 : decode cX7_readFrom 6 = .ok (.iconst 0, 1) := by decide +kernel
theorem dX7_readFrom_7 : decode cX7_readFrom 7 = .ok (.putfield 31, 3) := by decide +kernel
theorem dX7_readFrom_10 : decode cX7_readFrom 10 = .ok (.iconst 0, 1) := by decide +kernel
theorem dX7_readFrom_11 : decode cX7_readFrom 11 = .ok (.istore_n 2, 1) := by decide +kernel
theorem dX7_readFrom_12 : decode cX7_readFrom 12 = .ok (.iload_n 2, 1) := by decide +kernel
theorem dX7_readFrom_13 : decode cX7_readFrom 13 = .ok (.sipush 500, 3) := by decide +kernel
theorem dX7_readFrom_16 : decode cX7_readFrom 16 = .ok (.if_icmp .ge 64, 3) := by decide +kernel
theorem dX7_readFrom_19 : decode cX7_readFrom 19 = .ok (.aload_n 1, 1) := by decide +kernel
theorem dX7_readFrom_20 : decode cX7_readFrom 20 = .ok (.invokevirtual 53, 3) := by decide +kernel
theorem dX7_readFrom_23 : decode cX7_readFrom 23 = .ok (.ifCond .ne 57, 3) := by decide +kernel
theorem dX7_readFrom_26 : decode cX7_readFrom 26 = .ok (.aload_n 1, 1) := by decide +kernel
theorem dX7_readFrom_27 : decode cX7_readFrom 27 = .ok (.ldc 59, 2) := by decide +kernel
theorem dX7_readFrom_29 : decode cX7_readFrom 29 = .ok (.invokevirtual 61, 3) := by decide +kernel
theorem dX7_readFrom_32 : decode cX7_readFrom 32 = .ok (.ifCond .eq 12, 3) := by decide +kernel
theorem dX7_readFrom_35 : decode cX7_readFrom 35 = .ok (.aload_n 0, 1) := by decide +kernel
theorem dX7_readFrom_36 : decode cX7_readFrom 36 = .ok (.aload_n 1, 1) := by decide +kernel
theorem dX7_readFrom_37 : decode cX7_readFrom 37 = .ok (.invokevirtual 65, 3) := by decide +kernel
theorem dX7_readFrom_40 : decode cX7_readFrom 40 = .ok (.istore_n 3, 1) := by decide +kernel
theorem dX7_readFrom_41 : decode cX7_readFrom 41 = .ok (.goto 27, 3) := by decide +kernel
theorem dX7_readFrom_44 : decode cX7_readFrom 44 = .ok (.aload_n 1, 1) := by decide +kernel
theorem dX7_readFrom_45 : decode cX7_readFrom 45 = .ok (.ldc 69, 2) := by decide +kernel
theorem dX7_readFrom_47 : decode cX7_readFrom 47 = .ok (.invokevirtual 61, 3) := by decide +kernel
theorem dX7_readFrom_50 : decode cX7_readFrom 50 = .ok (.ifCond .eq 12, 3) := by decide +kernel
theorem dX7_readFrom_53 : decode cX7_readFrom 53 = .ok (.aload_n 0, 1) := by decide +kernel
theorem dX7_readFrom_54 : decode cX7_readFrom 54 = .ok (.aload_n 1, 1) := by decide +kernel
theorem dX7_readFrom_55 : decode cX7_readFrom 55 = .ok (.invokevirtual 71, 3) := by decide +kernel
theorem dX7_readFrom_58 : decode cX7_readFrom 58 = .ok (.istore_n 3, 1) := by decide +kernel
theorem dX7_readFrom_59 : decode cX7_readFrom 59 = .ok (.goto 9, 3) := by decide +kernel
theorem dX7_readFrom_62 : decode cX7_readFrom 62 = .ok (.aload_n 1, 1) := by decide +kernel
theorem dX7_readFrom_63 : decode cX7_readFrom 63 = .ok (.iconst 1, 1) := by decide +kernel
theorem dX7_readFrom_64 : decode cX7_readFrom 64 = .ok (.invokevirtual 74, 3) := by decide +kernel
theorem dX7_readFrom_67 : decode cX7_readFrom 67 = .ok (.istore_n 3, 1) := by decide +kernel
theorem dX7_readFrom_68 : decode cX7_readFrom 68 = .ok (.iload_n 3, 1) := by decide +kernel
theorem dX7_readFrom_69 : decode cX7_readFrom 69 = .ok (.ifCond .ne 5, 3) := by decide +kernel
theorem dX7_readFrom_72 : decode cX7_readFrom 72 = .ok (.iconst 0, 1) := by decide +kernel
theorem dX7_readFrom_73 : decode cX7_readFrom 73 = .ok (.ireturn, 1) := by decide +kernel
theorem dX7_readFrom_74 : decode cX7_readFrom 74 = .ok (.iinc 2 1, 3) := by decide +kernel
theorem dX7_readFrom_77 : decode cX7_readFrom 77 = .ok (.goto (-65), 3) := by decide +kernel
theorem dX7_readFrom_80 : decode cX7_readFrom 80 = .ok (.iconst 1, 1) := by decide +kernel
theorem dX7_readFrom_81 : decode cX7_readFrom 81 = .ok (.ireturn, 1) := by decide +kernel
theorem dX7_readChange_0 : decode cX7_readChange 0 = .ok (.aload_n 0, 1) := by decide +kernel
theorem dX7_readChange_1 : decode cX7_readChange 1 = .ok (.getfield 9, 3) := by decide +kernel
theorem dX7_readChange_4 : decode cX7_readChange 4 = .ok (.istore_n 2, 1) := by decide +kernel
theorem dX7_readChange_5 : decode cX7_readChange 5 = .ok (.iload_n 2, 1) := by decide +kernel
theorem dX7_readChange_6 : decode cX7_readChange 6 = .ok (.bipush 24, 2) := by decide +kernel
theorem dX7_readChange_8 : decode cX7_readChange 8 = .ok (.if_icmp .lt 9, 3) := by decide +kernel
theorem dX7_readChange_11 : decode cX7_readChange 11 = .ok (.aload_n 1, 1) := by decide +kernel
theorem dX7_readChange_12 : decode cX7_readChange 12 = .ok (.iconst 3, 1) := by decide +kernel
theorem dX7_readChange_13 : decode cX7_readChange 13 = .ok (.invokevirtual 74, 3) := by decide +kernel
theorem dX7_readChange_16 : decode cX7_readChange 16 = .ok (.ireturn, 1) := by decide +kernel
theorem dX7_readChange_17 : decode cX7_readChange 17 = .ok (.aload_n 1, 1) := by decide +kernel
theorem dX7_readChange_18 : decode cX7_readChange 18 = .ok (.invokevirtual 78, 3) := by decide +kernel
theorem dX7_readChange_21 : decode cX7_readChange 21 = .ok (.aload_n 0, 1) := by decide +kernel
theorem dX7_readChange_22 : decode cX7_readChange 22 = .ok (.iload_n 2, 1) := by decide +kernel
theorem dX7_readChange_23 : decode cX7_readChange 23 = .ok (.invokevirtual 81, 3) := by decide +kernel
theorem dX7_readChange_26 : decode cX7_readChange 26 = .ok (.aload_n 1, 1) := by decide +kernel
theorem dX7_readChange_27 : decode cX7_readChange 27 = .ok (.ldc 85, 2) := by decide +kernel
theorem dX7_readChange_29 : decode cX7_readChange 29 = .ok (.invokevirtual 87, 3) := by decide +kernel
theorem dX7_readChange_32 : decode cX7_readChange 32 = .ok (.ifCond .eq 14, 3) := by decide +kernel
theorem dX7_readChange_35 : decode cX7_readChange 35 = .ok (.aload_n 0, 1) := by decide +kernel
theorem dX7_readChange_36 : decode cX7_readChange 36 = .ok (.aload_n 1, 1) := by decide +kernel
theorem dX7_readChange_37 : decode cX7_readChange 37 = .ok (.iload_n 2, 1) := by decide +kernel
theorem dX7_readChange_38 : decode cX7_readChange 38 = .ok (.invokevirtual 90, 3) := by decide +kernel
theorem dX7_readChange_41 : decode cX7_readChange 41 = .ok (.ifCond .ne 5, 3) := by decide +kernel
theorem dX7_readChange_44 : decode cX7_readChange 44 = .ok (.iconst 0, 1) := by decide +kernel
theorem dX7_readChange_45 : decode cX7_readChange 45 = .ok (.ireturn, 1) := by decide +kernel
theorem dX7_readChange_46 : decode cX7_readChange 46 = .ok (.aload_n 1, 1) := by decide +kernel
theorem dX7_readChange_47 : decode cX7_readChange 47 = .ok (.ldc 94, 2) := by decide +kernel
theorem dX7_readChange_49 : decode cX7_readChange 49 = .ok (.invokevirtual 87, 3) := by decide +kernel
theorem dX7_readChange_52 : decode cX7_readChange 52 = .ok (.ifCond .eq 14, 3) := by decide +kernel
theorem dX7_readChange_55 : decode cX7_readChange 55 = .ok (.aload_n 0, 1) := by decide +kernel
theorem dX7_readChange_56 : decode cX7_readChange 56 = .ok (.aload_n 1, 1) := by decide +kernel
theorem dX7_readChange_57 : decode cX7_readChange 57 = .ok (.iload_n 2, 1) := by decide +kernel
theorem dX7_readChange_58 : decode cX7_readChange 58 = .ok (.invokevirtual 96, 3) := by decide +kernel
theorem dX7_readChange_61 : decode cX7_readChange 61 = .ok (.ifCond .ne 5, 3) := by decide +kernel
theorem dX7_readChange_64 : decode cX7_readChange 64 = .ok (.iconst 0, 1) := by decide +kernel
theorem dX7_readChange_65 : decode cX7_readChange 65 = .ok (.ireturn, 1) := by decide +kernel
theorem dX7_readChange_66 : decode cX7_readChange 66 = .ok (.aload_n 1, 1) := by decide +kernel
theorem dX7_readChange_67 : decode cX7_readChange 67 = .ok (.ldc 99, 2) := by decide +kernel
theorem dX7_readChange_69 : decode cX7_readChange 69 = .ok (.invokevirtual 87, 3) := by decide +kernel
theorem dX7_readChange_72 : decode cX7_readChange 72 = .ok (.ifCond .eq 25, 3) := by decide +kernel
theorem dX7_readChange_75 : decode cX7_readChange 75 = .ok (.aload_n 1, 1) := by decide +kernel
theorem dX7_readChange_76 : decode cX7_readChange 76 = .ok (.iconst 0, 1) := by decide +kernel
theorem dX7_readChange_77 : decode cX7_readChange 77 = .ok (.bipush 9, 2) := by decide +kernel
theorem dX7_readChange_79 : decode cX7_readChange 79 = .ok (.invokevirtual 101, 3) := by decide +kernel
theorem dX7_readChange_82 : decode cX7_readChange 82 = .ok (.istore_n 3, 1) := by decide +kernel
theorem dX7_readChange_83 : decode cX7_readChange 83 = .ok (.iload_n 3, 1) := by decide +kernel
theorem dX7_readChange_84 : decode cX7_readChange 84 = .ok (.iconst (-1), 1) := by decide +kernel
theorem dX7_readChange_85 : decode cX7_readChange 85 = .ok (.if_icmp .ne 5, 3) := by decide +kernel
theorem dX7_readChange_88 : decode cX7_readChange 88 = .ok (.iconst 0, 1) := by decide +kernel
theorem dX7_readChange_89 : decode cX7_readChange 89 = .ok (.ireturn, 1) := by decide +kernel
theorem dX7_readChange_90 : decode cX7_readChange 90 = .ok (.aload_n 0, 1) := by decide +kernel
theorem dX7_readChange_91 : decode cX7_readChange 91 = .ok (.getfield 22, 3) := by decide +kernel
theorem dX7_readChange_94 : decode cX7_readChange 94 = .ok (.iload_n 2, 1) := by decide +kernel
theorem dX7_readChange_95 : decode cX7_readChange 95 = .ok (.iload_n 3, 1) := by decide +kernel
theorem dX7_readChange_96 : decode cX7_readChange 96 = .ok (.iastore, 1) := by decide +kernel
theorem dX7_readChange_97 : decode cX7_readChange 97 = .ok (.aload_n 1, 1) := by decide +kernel
theorem dX7_readChange_98 : decode cX7_readChange 98 = .ok (.bipush 59, 2) := by decide +kernel
theorem dX7_readChange_100 : decode cX7_readChange 100 = .ok (.invokevirtual 105, 3) := by decide +kernel
theorem dX7_readChange_103 : decode cX7_readChange 103 = .ok (.ifCond .ne 5, 3) := by decide +kernel
theorem dX7_readChange_106 : decode cX7_readChange 106 = .ok (.iconst 0, 1) := by decide +kernel
theorem dX7_readChange_107 : decode cX7_readChange 107 = .ok (.ireturn, 1) := by decide +kernel
theorem dX7_readChange_108 : decode cX7_readChange 108 = .ok (.aload_n 0, 1) := by decide +kernel
theorem dX7_readChange_109 : decode cX7_readChange 109 = .ok (.iload_n 2, 1) := by decide +kernel
theorem dX7_readChange_110 : decode cX7_readChange 110 = .ok (.invokevirtual 109, 3) := by decide +kernel
theorem dX7_readChange_113 : decode cX7_readChange 113 = .ok (.aload_n 0, 1) := by decide +kernel
theorem dX7_readChange_114 : decode cX7_readChange 114 = .ok (.iload_n 2, 1) := by decide +kernel
theorem dX7_readChange_115 : decode cX7_readChange 115 = .ok (.iconst 1, 1) := by decide +kernel
theorem dX7_readChange_116 : decode cX7_readChange 116 = .ok (.iadd, 1) := by decide +kernel
theorem dX7_readChange_117 : decode cX7_readChange 117 = .ok (.putfield 9, 3) := by decide +kernel
theorem dX7_readChange_120 : decode cX7_readChange 120 = .ok (.iconst 1, 1) := by decide +kernel
theorem dX7_readChange_121 : decode cX7_readChange 121 = .ok (.ireturn, 1) := by decide +kernel
theorem dX7_clearChange_0 : decode cX7_clearChange 0 = .ok (.aload_n 0, 1) := by decide +kernel
theorem dX7_clearChange_1 : decode cX7_clearChange 1 = .ok (.getfield 15, 3) := by decide +kernel
theorem dX7_clearChange_4 : decode cX7_clearChange 4 = .ok (.iload_n 1, 1) := by decide +kernel
theorem dX7_clearChange_5 : decode cX7_clearChange 5 = .ok (.iconst 0, 1) := by decide +kernel
theorem dX7_clearChange_6 : decode cX7_clearChange 6 = .ok (.iastore, 1) := by decide +kernel
theorem dX7_clearChange_7 : decode cX7_clearChange 7 = .ok (.aload_n 0, 1) := by decide +kernel
theorem dX7_clearChange_8 : decode cX7_clearChange 8 = .ok (.getfield 19, 3) := by decide +kernel
theorem dX7_clearChange_11 : decode cX7_clearChange 11 = .ok (.iload_n 1, 1) := by decide +kernel
theorem dX7_clearChange_12 : decode cX7_clearChange 12 = .ok (.iconst 0, 1) := by decide +kernel
theorem dX7_clearChange_13 : decode cX7_clearChange 13 = .ok (.iastore, 1) := by decide +kernel
theorem dX7_clearChange_14 : decode cX7_clearChange 14 = .ok (.aload_n 0, 1) := by decide +kernel
theorem dX7_clearChange_15 : decode cX7_clearChange 15 = .ok (.getfield 22, 3) := by decide +kernel
theorem dX7_clearChange_18 : decode cX7_clearChange 18 = .ok (.iload_n 1, 1) := by decide +kernel
theorem dX7_clearChange_19 : decode cX7_clearChange 19 = .ok (.iconst 0, 1) := by decide +kernel
theorem dX7_clearChange_20 : decode cX7_clearChange 20 = .ok (.iastore, 1) := by decide +kernel
theorem dX7_clearChange_21 : decode cX7_clearChange 21 = .ok (.iconst 0, 1) := by decide +kernel
theorem dX7_clearChange_22 : decode cX7_clearChange 22 = .ok (.istore_n 2, 1) := by decide +kernel
theorem dX7_clearChange_23 : decode cX7_clearChange 23 = .ok (.iload_n 2, 1) := by decide +kernel
theorem dX7_clearChange_24 : decode cX7_clearChange 24 = .ok (.bipush 16, 2) := by decide +kernel
theorem dX7_clearChange_26 : decode cX7_clearChange 26 = .ok (.if_icmp .ge 21, 3) := by decide +kernel
theorem dX7_clearChange_29 : decode cX7_clearChange 29 = .ok (.aload_n 0, 1) := by decide +kernel
theorem dX7_clearChange_30 : decode cX7_clearChange 30 = .ok (.getfield 25, 3) := by decide +kernel
theorem dX7_clearChange_33 : decode cX7_clearChange 33 = .ok (.iload_n 1, 1) := by decide +kernel
theorem dX7_clearChange_34 : decode cX7_clearChange 34 = .ok (.bipush 16, 2) := by decide +kernel
theorem dX7_clearChange_36 : decode cX7_clearChange 36 = .ok (.imul, 1) := by decide +kernel
theorem dX7_clearChange_37 : decode cX7_clearChange 37 = .ok (.iload_n 2, 1) := by decide +kernel
theorem dX7_clearChange_38 : decode cX7_clearChange 38 = .ok (.iadd, 1) := by decide +kernel
theorem dX7_clearChange_39 : decode cX7_clearChange 39 = .ok (.iconst 0, 1) := by decide +kernel
theorem dX7_clearChange_40 : decode cX7_clearChange 40 = .ok (.iastore, 1) := by decide +kernel
theorem dX7_clearChange_41 : decode cX7_clearChange 41 = .ok (.iinc 2 1, 3) := by decide +kernel
theorem dX7_clearChange_44 : decode cX7_clearChange 44 = .ok (.goto (-21), 3) := by decide +kernel
theorem dX7_clearChange_47 : decode cX7_clearChange 47 = .ok (.return_, 1) := by decide +kernel
theorem dX7_readSettings_0 : decode cX7_readSettings 0 = .ok (.iconst 0, 1) := by decide +kernel
theorem dX7_readSettings_1 : decode cX7_readSettings 1 = .ok (.istore_n 3, 1) := by decide +kernel
theorem dX7_readSettings_2 : decode cX7_readSettings 2 = .ok (.iload_n 3, 1) := by decide +kernel
theorem dX7_readSettings_3 : decode cX7_readSettings 3 = .ok (.bipush 16, 2) := by decide +kernel
theorem dX7_readSettings_5 : decode cX7_readSettings 5 = .ok (.if_icmp .gt 87, 3) := by decide +kernel
theorem dX7_readSettings_8 : decode cX7_readSettings 8 = .ok (.aload_n 1, 1) := by decide +kernel
theorem dX7_readSettings_9 : decode cX7_readSettings 9 = .ok (.iconst 0, 1) := by decide +kernel
theorem dX7_readSettings_10 : decode cX7_readSettings 10 = .ok (.bipush 15, 2) := by decide +kernel
theorem dX7_readSettings_12 : decode cX7_readSettings 12 = .ok (.aload_n 0, 1) := by decide +kernel
theorem dX7_readSettings_13 : decode cX7_readSettings 13 = .ok (.getfield 15, 3) := by decide +kernel
theorem dX7_readSettings_16 : decode cX7_readSettings 16 = .ok (.iload_n 2, 1) := by decide +kernel
theorem dX7_readSettings_17 : decode cX7_readSettings 17 = .ok (.iaload, 1) := by decide +kernel
theorem dX7_readSettings_18 : decode cX7_readSettings 18 = .ok (.invokevirtual 112, 3) := by decide +kernel
theorem dX7_readSettings_21 : decode cX7_readSettings 21 = .ok (.istore 4, 2) := by decide +kernel
theorem dX7_readSettings_23 : decode cX7_readSettings 23 = .ok (.iload 4, 2) := by decide +kernel
theorem dX7_readSettings_25 : decode cX7_readSettings 25 = .ok (.iconst (-1), 1) := by decide +kernel
theorem dX7_readSettings_26 : decode cX7_readSettings 26 = .ok (.if_icmp .ne 5, 3) := by decide +kernel
theorem dX7_readSettings_29 : decode cX7_readSettings 29 = .ok (.iconst 0, 1) := by decide +kernel
theorem dX7_readSettings_30 : decode cX7_readSettings 30 = .ok (.ireturn, 1) := by decide +kernel
theorem dX7_readSettings_31 : decode cX7_readSettings 31 = .ok (.aload_n 1, 1) := by decide +kernel
theorem dX7_readSettings_32 : decode cX7_readSettings 32 = .ok (.iconst 1, 1) := by decide +kernel
theorem dX7_readSettings_33 : decode cX7_readSettings 33 = .ok (.bipush 99, 2) := by decide +kernel
theorem dX7_readSettings_35 : decode cX7_readSettings 35 = .ok (.invokevirtual 101, 3) := by decide +kernel
theorem dX7_readSettings_38 : decode cX7_readSettings 38 = .ok (.istore 5, 2) := by decide +kernel
theorem dX7_readSettings_40 : decode cX7_readSettings 40 = .ok (.iload 5, 2) := by decide +kernel
theorem dX7_readSettings_42 : decode cX7_readSettings 42 = .ok (.iconst (-1), 1) := by decide +kernel
theorem dX7_readSettings_43 : decode cX7_readSettings 43 = .ok (.if_icmp .ne 5, 3) := by decide +kernel
theorem dX7_readSettings_46 : decode cX7_readSettings 46 = .ok (.iconst 0, 1) := by decide +kernel
theorem dX7_readSettings_47 : decode cX7_readSettings 47 = .ok (.ireturn, 1) := by decide +kernel
theorem dX7_readSettings_48 : decode cX7_readSettings 48 = .ok (.aload_n 0, 1) := by decide +kernel
theorem dX7_readSettings_49 : decode cX7_readSettings 49 = .ok (.getfield 15, 3) := by decide +kernel
theorem dX7_readSettings_52 : decode cX7_readSettings 52 = .ok (.iload_n 2, 1) := by decide +kernel
theorem dX7_readSettings_53 : decode cX7_readSettings 53 = .ok (.dup2, 1) := by decide +kernel
theorem dX7_readSettings_54 : decode cX7_readSettings 54 = .ok (.iaload, 1) := by decide +kernel
theorem dX7_readSettings_55 : decode cX7_readSettings 55 = .ok (.iconst 1, 1) := by decide +kernel
theorem dX7_readSettings_56 : decode cX7_readSettings 56 = .ok (.iload 4, 2) := by decide +kernel
theorem dX7_readSettings_58 : decode cX7_readSettings 58 = .ok (.ishl, 1) := by decide +kernel
theorem dX7_readSettings_59 : decode cX7_readSettings 59 = .ok (.ior, 1) := by decide +kernel
theorem dX7_readSettings_60 : decode cX7_readSettings 60 = .ok (.iastore, 1) := by decide +kernel
theorem dX7_readSettings_61 : decode cX7_readSettings 61 = .ok (.aload_n 0, 1) := by decide +kernel
theorem dX7_readSettings_62 : decode cX7_readSettings 62 = .ok (.getfield 25, 3) := by decide +kernel
theorem dX7_readSettings_65 : decode cX7_readSettings 65 = .ok (.iload_n 2, 1) := by decide +kernel
theorem dX7_readSettings_66 : decode cX7_readSettings 66 = .ok (.bipush 16, 2) := by decide +kernel
theorem dX7_readSettings_68 : decode cX7_readSettings 68 = .ok (.imul, 1) := by decide +kernel
theorem dX7_readSettings_69 : decode cX7_readSettings 69 = .ok (.iload 4, 2) := by decide +kernel
theorem dX7_readSettings_71 : decode cX7_readSettings 71 = .ok (.iadd, 1) := by decide +kernel
theorem dX7_readSettings_72 : decode cX7_readSettings 72 = .ok (.iload 5, 2) := by decide +kernel
theorem dX7_readSettings_74 : decode cX7_readSettings 74 = .ok (.iastore, 1) := by decide +kernel
theorem dX7_readSettings_75 : decode cX7_readSettings 75 = .ok (.aload_n 1, 1) := by decide +kernel
theorem dX7_readSettings_76 : decode cX7_readSettings 76 = .ok (.bipush 44, 2) := by decide +kernel
theorem dX7_readSettings_78 : decode cX7_readSettings 78 = .ok (.invokevirtual 116, 3) := by decide +kernel
theorem dX7_readSettings_81 : decode cX7_readSettings 81 = .ok (.ifCond .ne 5, 3) := by decide +kernel
theorem dX7_readSettings_84 : decode cX7_readSettings 84 = .ok (.iconst 1, 1) := by decide +kernel
theorem dX7_readSettings_85 : decode cX7_readSettings 85 = .ok (.ireturn, 1) := by decide +kernel
theorem dX7_readSettings_86 : decode cX7_readSettings 86 = .ok (.iinc 3 1, 3) := by decide +kernel
theorem dX7_readSettings_89 : decode cX7_readSettings 89 = .ok (.goto (-87), 3) := by decide +kernel
theorem dX7_readSettings_92 : decode cX7_readSettings 92 = .ok (.iconst 0, 1) := by decide +kernel
theorem dX7_readSettings_93 : decode cX7_readSettings 93 = .ok (.ireturn, 1) := by decide +kernel
theorem dX7_readReads_0 : decode cX7_readReads 0 = .ok (.iconst 0, 1) := by decide +kernel
theorem dX7_readReads_1 : decode cX7_readReads 1 = .ok (.istore_n 3, 1) := by decide +kernel
theorem dX7_readReads_2 : decode cX7_readReads 2 = .ok (.iload_n 3, 1) := by decide +kernel
theorem dX7_readReads_3 : decode cX7_readReads 3 = .ok (.bipush 16, 2) := by decide +kernel
theorem dX7_readReads_5 : decode cX7_readReads 5 = .ok (.if_icmp .gt 56, 3) := by decide +kernel
theorem dX7_readReads_8 : decode cX7_readReads 8 = .ok (.aload_n 1, 1) := by decide +kernel
theorem dX7_readReads_9 : decode cX7_readReads 9 = .ok (.iconst 0, 1) := by decide +kernel
theorem dX7_readReads_10 : decode cX7_readReads 10 = .ok (.bipush 15, 2) := by decide +kernel
theorem dX7_readReads_12 : decode cX7_readReads 12 = .ok (.aload_n 0, 1) := by decide +kernel
theorem dX7_readReads_13 : decode cX7_readReads 13 = .ok (.getfield 19, 3) := by decide +kernel
theorem dX7_readReads_16 : decode cX7_readReads 16 = .ok (.iload_n 2, 1) := by decide +kernel
theorem dX7_readReads_17 : decode cX7_readReads 17 = .ok (.iaload, 1) := by decide +kernel
theorem dX7_readReads_18 : decode cX7_readReads 18 = .ok (.invokevirtual 112, 3) := by decide +kernel
theorem dX7_readReads_21 : decode cX7_readReads 21 = .ok (.istore 4, 2) := by decide +kernel
theorem dX7_readReads_23 : decode cX7_readReads 23 = .ok (.iload 4, 2) := by decide +kernel
theorem dX7_readReads_25 : decode cX7_readReads 25 = .ok (.iconst (-1), 1) := by decide +kernel
theorem dX7_readReads_26 : decode cX7_readReads 26 = .ok (.if_icmp .ne 5, 3) := by decide +kernel
theorem dX7_readReads_29 : decode cX7_readReads 29 = .ok (.iconst 0, 1) := by decide +kernel
theorem dX7_readReads_30 : decode cX7_readReads 30 = .ok (.ireturn, 1) := by decide +kernel
theorem dX7_readReads_31 : decode cX7_readReads 31 = .ok (.aload_n 0, 1) := by decide +kernel
theorem dX7_readReads_32 : decode cX7_readReads 32 = .ok (.getfield 19, 3) := by decide +kernel
theorem dX7_readReads_35 : decode cX7_readReads 35 = .ok (.iload_n 2, 1) := by decide +kernel
theorem dX7_readReads_36 : decode cX7_readReads 36 = .ok (.dup2, 1) := by decide +kernel
theorem dX7_readReads_37 : decode cX7_readReads 37 = .ok (.iaload, 1) := by decide +kernel
theorem dX7_readReads_38 : decode cX7_readReads 38 = .ok (.iconst 1, 1) := by decide +kernel
theorem dX7_readReads_39 : decode cX7_readReads 39 = .ok (.iload 4, 2) := by decide +kernel
theorem dX7_readReads_41 : decode cX7_readReads 41 = .ok (.ishl, 1) := by decide +kernel
theorem dX7_readReads_42 : decode cX7_readReads 42 = .ok (.ior, 1) := by decide +kernel
theorem dX7_readReads_43 : decode cX7_readReads 43 = .ok (.iastore, 1) := by decide +kernel
theorem dX7_readReads_44 : decode cX7_readReads 44 = .ok (.aload_n 1, 1) := by decide +kernel
theorem dX7_readReads_45 : decode cX7_readReads 45 = .ok (.bipush 44, 2) := by decide +kernel
theorem dX7_readReads_47 : decode cX7_readReads 47 = .ok (.invokevirtual 116, 3) := by decide +kernel
theorem dX7_readReads_50 : decode cX7_readReads 50 = .ok (.ifCond .ne 5, 3) := by decide +kernel
theorem dX7_readReads_53 : decode cX7_readReads 53 = .ok (.iconst 1, 1) := by decide +kernel
theorem dX7_readReads_54 : decode cX7_readReads 54 = .ok (.ireturn, 1) := by decide +kernel
theorem dX7_readReads_55 : decode cX7_readReads 55 = .ok (.iinc 3 1, 3) := by decide +kernel
theorem dX7_readReads_58 : decode cX7_readReads 58 = .ok (.goto (-56), 3) := by decide +kernel
theorem dX7_readReads_61 : decode cX7_readReads 61 = .ok (.iconst 0, 1) := by decide +kernel
theorem dX7_readReads_62 : decode cX7_readReads 62 = .ok (.ireturn, 1) := by decide +kernel
theorem dX7_layBehind_0 : decode cX7_layBehind 0 = .ok (.aload_n 0, 1) := by decide +kernel
theorem dX7_layBehind_1 : decode cX7_layBehind 1 = .ok (.getfield 28, 3) := by decide +kernel
theorem dX7_layBehind_4 : decode cX7_layBehind 4 = .ok (.iload_n 1, 1) := by decide +kernel
theorem dX7_layBehind_5 : decode cX7_layBehind 5 = .ok (.bipush 16, 2) := by decide +kernel
theorem dX7_layBehind_7 : decode cX7_layBehind 7 = .ok (.imul, 1) := by decide +kernel
theorem dX7_layBehind_8 : decode cX7_layBehind 8 = .ok (.aload_n 0, 1) := by decide +kernel
theorem dX7_layBehind_9 : decode cX7_layBehind 9 = .ok (.getfield 28, 3) := by decide +kernel
theorem dX7_layBehind_12 : decode cX7_layBehind 12 = .ok (.iload_n 1, 1) := by decide +kernel
theorem dX7_layBehind_13 : decode cX7_layBehind 13 = .ok (.iconst 1, 1) := by decide +kernel
theorem dX7_layBehind_14 : decode cX7_layBehind 14 = .ok (.iadd, 1) := by decide +kernel
theorem dX7_layBehind_15 : decode cX7_layBehind 15 = .ok (.bipush 16, 2) := by decide +kernel
theorem dX7_layBehind_17 : decode cX7_layBehind 17 = .ok (.imul, 1) := by decide +kernel
theorem dX7_layBehind_18 : decode cX7_layBehind 18 = .ok (.bipush 16, 2) := by decide +kernel
theorem dX7_layBehind_20 : decode cX7_layBehind 20 = .ok (.invokestatic 47, 3) := by decide +kernel
theorem dX7_layBehind_23 : decode cX7_layBehind 23 = .ok (.aload_n 0, 1) := by decide +kernel
theorem dX7_layBehind_24 : decode cX7_layBehind 24 = .ok (.iload_n 1, 1) := by decide +kernel
theorem dX7_layBehind_25 : decode cX7_layBehind 25 = .ok (.aload_n 0, 1) := by decide +kernel
theorem dX7_layBehind_26 : decode cX7_layBehind 26 = .ok (.getfield 28, 3) := by decide +kernel
theorem dX7_layBehind_29 : decode cX7_layBehind 29 = .ok (.iload_n 1, 1) := by decide +kernel
theorem dX7_layBehind_30 : decode cX7_layBehind 30 = .ok (.iconst 1, 1) := by decide +kernel
theorem dX7_layBehind_31 : decode cX7_layBehind 31 = .ok (.iadd, 1) := by decide +kernel
theorem dX7_layBehind_32 : decode cX7_layBehind 32 = .ok (.invokevirtual 119, 3) := by decide +kernel
theorem dX7_layBehind_35 : decode cX7_layBehind 35 = .ok (.return_, 1) := by decide +kernel
theorem dX7_readFault_0 : decode cX7_readFault 0 = .ok (.aload_n 0, 1) := by decide +kernel
theorem dX7_readFault_1 : decode cX7_readFault 1 = .ok (.getfield 31, 3) := by decide +kernel
theorem dX7_readFault_4 : decode cX7_readFault 4 = .ok (.istore_n 2, 1) := by decide +kernel
theorem dX7_readFault_5 : decode cX7_readFault 5 = .ok (.iload_n 2, 1) := by decide +kernel
theorem dX7_readFault_6 : decode cX7_readFault 6 = .ok (.bipush 10, 2) := by decide +kernel
theorem dX7_readFault_8 : decode cX7_readFault 8 = .ok (.if_icmp .lt 9, 3) := by decide +kernel
theorem dX7_readFault_11 : decode cX7_readFault 11 = .ok (.aload_n 1, 1) := by decide +kernel
theorem dX7_readFault_12 : decode cX7_readFault 12 = .ok (.iconst 3, 1) := by decide +kernel
theorem dX7_readFault_13 : decode cX7_readFault 13 = .ok (.invokevirtual 74, 3) := by decide +kernel
theorem dX7_readFault_16 : decode cX7_readFault 16 = .ok (.ireturn, 1) := by decide +kernel
theorem dX7_readFault_17 : decode cX7_readFault 17 = .ok (.aload_n 1, 1) := by decide +kernel
theorem dX7_readFault_18 : decode cX7_readFault 18 = .ok (.invokevirtual 78, 3) := by decide +kernel
theorem dX7_readFault_21 : decode cX7_readFault 21 = .ok (.aload_n 1, 1) := by decide +kernel
theorem dX7_readFault_22 : decode cX7_readFault 22 = .ok (.iconst 1, 1) := by decide +kernel
theorem dX7_readFault_23 : decode cX7_readFault 23 = .ok (.bipush 99, 2) := by decide +kernel
theorem dX7_readFault_25 : decode cX7_readFault 25 = .ok (.invokevirtual 101, 3) := by decide +kernel
theorem dX7_readFault_28 : decode cX7_readFault 28 = .ok (.istore_n 3, 1) := by decide +kernel
theorem dX7_readFault_29 : decode cX7_readFault 29 = .ok (.iload_n 3, 1) := by decide +kernel
theorem dX7_readFault_30 : decode cX7_readFault 30 = .ok (.iconst (-1), 1) := by decide +kernel
theorem dX7_readFault_31 : decode cX7_readFault 31 = .ok (.if_icmp .eq 12, 3) := by decide +kernel
theorem dX7_readFault_34 : decode cX7_readFault 34 = .ok (.aload_n 1, 1) := by decide +kernel
theorem dX7_readFault_35 : decode cX7_readFault 35 = .ok (.ldc 123, 2) := by decide +kernel
theorem dX7_readFault_37 : decode cX7_readFault 37 = .ok (.invokevirtual 125, 3) := by decide +kernel
theorem dX7_readFault_40 : decode cX7_readFault 40 = .ok (.ifCond .ne 5, 3) := by decide +kernel
theorem dX7_readFault_43 : decode cX7_readFault 43 = .ok (.iconst 0, 1) := by decide +kernel
theorem dX7_readFault_44 : decode cX7_readFault 44 = .ok (.ireturn, 1) := by decide +kernel
theorem dX7_readFault_45 : decode cX7_readFault 45 = .ok (.aload_n 1, 1) := by decide +kernel
theorem dX7_readFault_46 : decode cX7_readFault 46 = .ok (.iconst 0, 1) := by decide +kernel
theorem dX7_readFault_47 : decode cX7_readFault 47 = .ok (.aload_n 0, 1) := by decide +kernel
theorem dX7_readFault_48 : decode cX7_readFault 48 = .ok (.getfield 9, 3) := by decide +kernel
theorem dX7_readFault_51 : decode cX7_readFault 51 = .ok (.iconst 1, 1) := by decide +kernel
theorem dX7_readFault_52 : decode cX7_readFault 52 = .ok (.isub, 1) := by decide +kernel
theorem dX7_readFault_53 : decode cX7_readFault 53 = .ok (.invokevirtual 101, 3) := by decide +kernel
theorem dX7_readFault_56 : decode cX7_readFault 56 = .ok (.istore 4, 2) := by decide +kernel
theorem dX7_readFault_58 : decode cX7_readFault 58 = .ok (.iload 4, 2) := by decide +kernel
theorem dX7_readFault_60 : decode cX7_readFault 60 = .ok (.iconst (-1), 1) := by decide +kernel
theorem dX7_readFault_61 : decode cX7_readFault 61 = .ok (.if_icmp .ne 5, 3) := by decide +kernel
theorem dX7_readFault_64 : decode cX7_readFault 64 = .ok (.iconst 0, 1) := by decide +kernel
theorem dX7_readFault_65 : decode cX7_readFault 65 = .ok (.ireturn, 1) := by decide +kernel
theorem dX7_readFault_66 : decode cX7_readFault 66 = .ok (.iconst (-1), 1) := by decide +kernel
theorem dX7_readFault_67 : decode cX7_readFault 67 = .ok (.istore 5, 2) := by decide +kernel
theorem dX7_readFault_69 : decode cX7_readFault 69 = .ok (.aload_n 1, 1) := by decide +kernel
theorem dX7_readFault_70 : decode cX7_readFault 70 = .ok (.ldc 128, 2) := by decide +kernel
theorem dX7_readFault_72 : decode cX7_readFault 72 = .ok (.invokevirtual 87, 3) := by decide +kernel
theorem dX7_readFault_75 : decode cX7_readFault 75 = .ok (.ifCond .eq 27, 3) := by decide +kernel
theorem dX7_readFault_78 : decode cX7_readFault 78 = .ok (.aload_n 1, 1) := by decide +kernel
theorem dX7_readFault_79 : decode cX7_readFault 79 = .ok (.iload 4, 2) := by decide +kernel
theorem dX7_readFault_81 : decode cX7_readFault 81 = .ok (.iconst 1, 1) := by decide +kernel
theorem dX7_readFault_82 : decode cX7_readFault 82 = .ok (.iadd, 1) := by decide +kernel
theorem dX7_readFault_83 : decode cX7_readFault 83 = .ok (.aload_n 0, 1) := by decide +kernel
theorem dX7_readFault_84 : decode cX7_readFault 84 = .ok (.getfield 9, 3) := by decide +kernel
theorem dX7_readFault_87 : decode cX7_readFault 87 = .ok (.iconst 1, 1) := by decide +kernel
theorem dX7_readFault_88 : decode cX7_readFault 88 = .ok (.isub, 1) := by decide +kernel
theorem dX7_readFault_89 : decode cX7_readFault 89 = .ok (.invokevirtual 101, 3) := by decide +kernel
theorem dX7_readFault_92 : decode cX7_readFault 92 = .ok (.istore 5, 2) := by decide +kernel
theorem dX7_readFault_94 : decode cX7_readFault 94 = .ok (.iload 5, 2) := by decide +kernel
theorem dX7_readFault_96 : decode cX7_readFault 96 = .ok (.iconst (-1), 1) := by decide +kernel
theorem dX7_readFault_97 : decode cX7_readFault 97 = .ok (.if_icmp .ne 5, 3) := by decide +kernel
theorem dX7_readFault_100 : decode cX7_readFault 100 = .ok (.iconst 0, 1) := by decide +kernel
theorem dX7_readFault_101 : decode cX7_readFault 101 = .ok (.ireturn, 1) := by decide +kernel
theorem dX7_readFault_102 : decode cX7_readFault 102 = .ok (.aload_n 1, 1) := by decide +kernel
theorem dX7_readFault_103 : decode cX7_readFault 103 = .ok (.bipush 59, 2) := by decide +kernel
theorem dX7_readFault_105 : decode cX7_readFault 105 = .ok (.invokevirtual 105, 3) := by decide +kernel
theorem dX7_readFault_108 : decode cX7_readFault 108 = .ok (.ifCond .ne 5, 3) := by decide +kernel
theorem dX7_readFault_111 : decode cX7_readFault 111 = .ok (.iconst 0, 1) := by decide +kernel
theorem dX7_readFault_112 : decode cX7_readFault 112 = .ok (.ireturn, 1) := by decide +kernel
theorem dX7_readFault_113 : decode cX7_readFault 113 = .ok (.aload_n 0, 1) := by decide +kernel
theorem dX7_readFault_114 : decode cX7_readFault 114 = .ok (.getfield 34, 3) := by decide +kernel
theorem dX7_readFault_117 : decode cX7_readFault 117 = .ok (.iload_n 2, 1) := by decide +kernel
theorem dX7_readFault_118 : decode cX7_readFault 118 = .ok (.iload_n 3, 1) := by decide +kernel
theorem dX7_readFault_119 : decode cX7_readFault 119 = .ok (.iastore, 1) := by decide +kernel
theorem dX7_readFault_120 : decode cX7_readFault 120 = .ok (.aload_n 0, 1) := by decide +kernel
theorem dX7_readFault_121 : decode cX7_readFault 121 = .ok (.getfield 37, 3) := by decide +kernel
theorem dX7_readFault_124 : decode cX7_readFault 124 = .ok (.iload_n 2, 1) := by decide +kernel
theorem dX7_readFault_125 : decode cX7_readFault 125 = .ok (.iload 4, 2) := by decide +kernel
theorem dX7_readFault_127 : decode cX7_readFault 127 = .ok (.iastore, 1) := by decide +kernel
theorem dX7_readFault_128 : decode cX7_readFault 128 = .ok (.aload_n 0, 1) := by decide +kernel
theorem dX7_readFault_129 : decode cX7_readFault 129 = .ok (.getfield 40, 3) := by decide +kernel
theorem dX7_readFault_132 : decode cX7_readFault 132 = .ok (.iload_n 2, 1) := by decide +kernel
theorem dX7_readFault_133 : decode cX7_readFault 133 = .ok (.iload 5, 2) := by decide +kernel
theorem dX7_readFault_135 : decode cX7_readFault 135 = .ok (.iastore, 1) := by decide +kernel
theorem dX7_readFault_136 : decode cX7_readFault 136 = .ok (.aload_n 0, 1) := by decide +kernel
theorem dX7_readFault_137 : decode cX7_readFault 137 = .ok (.iload_n 2, 1) := by decide +kernel
theorem dX7_readFault_138 : decode cX7_readFault 138 = .ok (.iconst 1, 1) := by decide +kernel
theorem dX7_readFault_139 : decode cX7_readFault 139 = .ok (.iadd, 1) := by decide +kernel
theorem dX7_readFault_140 : decode cX7_readFault 140 = .ok (.putfield 31, 3) := by decide +kernel
theorem dX7_readFault_143 : decode cX7_readFault 143 = .ok (.iconst 1, 1) := by decide +kernel
theorem dX7_readFault_144 : decode cX7_readFault 144 = .ok (.ireturn, 1) := by decide +kernel
theorem dX7_comingWith_0 : decode cX7_comingWith 0 = .ok (.iconst 0, 1) := by decide +kernel
theorem dX7_comingWith_1 : decode cX7_comingWith 1 = .ok (.istore_n 2, 1) := by decide +kernel
theorem dX7_comingWith_2 : decode cX7_comingWith 2 = .ok (.iconst 0, 1) := by decide +kernel
theorem dX7_comingWith_3 : decode cX7_comingWith 3 = .ok (.istore_n 3, 1) := by decide +kernel
theorem dX7_comingWith_4 : decode cX7_comingWith 4 = .ok (.iload_n 3, 1) := by decide +kernel
theorem dX7_comingWith_5 : decode cX7_comingWith 5 = .ok (.aload_n 0, 1) := by decide +kernel
theorem dX7_comingWith_6 : decode cX7_comingWith 6 = .ok (.getfield 31, 3) := by decide +kernel
theorem dX7_comingWith_9 : decode cX7_comingWith 9 = .ok (.if_icmp .ge 25, 3) := by decide +kernel
theorem dX7_comingWith_12 : decode cX7_comingWith 12 = .ok (.aload_n 0, 1) := by decide +kernel
theorem dX7_comingWith_13 : decode cX7_comingWith 13 = .ok (.getfield 37, 3) := by decide +kernel
theorem dX7_comingWith_16 : decode cX7_comingWith 16 = .ok (.iload_n 3, 1) := by decide +kernel
theorem dX7_comingWith_17 : decode cX7_comingWith 17 = .ok (.iaload, 1) := by decide +kernel
theorem dX7_comingWith_18 : decode cX7_comingWith 18 = .ok (.iload_n 1, 1) := by decide +kernel
theorem dX7_comingWith_19 : decode cX7_comingWith 19 = .ok (.if_icmp .ne 9, 3) := by decide +kernel
theorem dX7_comingWith_22 : decode cX7_comingWith 22 = .ok (.iload_n 2, 1) := by decide +kernel
theorem dX7_comingWith_23 : decode cX7_comingWith 23 = .ok (.iconst 1, 1) := by decide +kernel
theorem dX7_comingWith_24 : decode cX7_comingWith 24 = .ok (.iload_n 3, 1) := by decide +kernel
theorem dX7_comingWith_25 : decode cX7_comingWith 25 = .ok (.ishl, 1) := by decide +kernel
theorem dX7_comingWith_26 : decode cX7_comingWith 26 = .ok (.ior, 1) := by decide +kernel
theorem dX7_comingWith_27 : decode cX7_comingWith 27 = .ok (.istore_n 2, 1) := by decide +kernel
theorem dX7_comingWith_28 : decode cX7_comingWith 28 = .ok (.iinc 3 1, 3) := by decide +kernel
theorem dX7_comingWith_31 : decode cX7_comingWith 31 = .ok (.goto (-27), 3) := by decide +kernel
theorem dX7_comingWith_34 : decode cX7_comingWith 34 = .ok (.iload_n 2, 1) := by decide +kernel
theorem dX7_comingWith_35 : decode cX7_comingWith 35 = .ok (.ireturn, 1) := by decide +kernel
theorem dX7_goingWith_0 : decode cX7_goingWith 0 = .ok (.aload_n 0, 1) := by decide +kernel
theorem dX7_goingWith_1 : decode cX7_goingWith 1 = .ok (.iconst 1, 1) := by decide +kernel
theorem dX7_goingWith_2 : decode cX7_goingWith 2 = .ok (.iload_n 1, 1) := by decide +kernel
theorem dX7_goingWith_3 : decode cX7_goingWith 3 = .ok (.ishl, 1) := by decide +kernel
theorem dX7_goingWith_4 : decode cX7_goingWith 4 = .ok (.invokevirtual 130, 3) := by decide +kernel
theorem dX7_goingWith_7 : decode cX7_goingWith 7 = .ok (.ireturn, 1) := by decide +kernel
theorem dX7_removedBy_0 : decode cX7_removedBy 0 = .ok (.iconst 0, 1) := by decide +kernel
theorem dX7_removedBy_1 : decode cX7_removedBy 1 = .ok (.istore_n 2, 1) := by decide +kernel
theorem dX7_removedBy_2 : decode cX7_removedBy 2 = .ok (.iconst 0, 1) := by decide +kernel
theorem dX7_removedBy_3 : decode cX7_removedBy 3 = .ok (.istore_n 3, 1) := by decide +kernel
theorem dX7_removedBy_4 : decode cX7_removedBy 4 = .ok (.iload_n 3, 1) := by decide +kernel
theorem dX7_removedBy_5 : decode cX7_removedBy 5 = .ok (.aload_n 0, 1) := by decide +kernel
theorem dX7_removedBy_6 : decode cX7_removedBy 6 = .ok (.getfield 31, 3) := by decide +kernel
theorem dX7_removedBy_9 : decode cX7_removedBy 9 = .ok (.if_icmp .ge 38, 3) := by decide +kernel
theorem dX7_removedBy_12 : decode cX7_removedBy 12 = .ok (.aload_n 0, 1) := by decide +kernel
theorem dX7_removedBy_13 : decode cX7_removedBy 13 = .ok (.getfield 40, 3) := by decide +kernel
theorem dX7_removedBy_16 : decode cX7_removedBy 16 = .ok (.iload_n 3, 1) := by decide +kernel
theorem dX7_removedBy_17 : decode cX7_removedBy 17 = .ok (.iaload, 1) := by decide +kernel
theorem dX7_removedBy_18 : decode cX7_removedBy 18 = .ok (.iconst (-1), 1) := by decide +kernel
theorem dX7_removedBy_19 : decode cX7_removedBy 19 = .ok (.if_icmp .eq 22, 3) := by decide +kernel
theorem dX7_removedBy_22 : decode cX7_removedBy 22 = .ok (.iload_n 1, 1) := by decide +kernel
theorem dX7_removedBy_23 : decode cX7_removedBy 23 = .ok (.aload_n 0, 1) := by decide +kernel
theorem dX7_removedBy_24 : decode cX7_removedBy 24 = .ok (.getfield 40, 3) := by decide +kernel
theorem dX7_removedBy_27 : decode cX7_removedBy 27 = .ok (.iload_n 3, 1) := by decide +kernel
theorem dX7_removedBy_28 : decode cX7_removedBy 28 = .ok (.iaload, 1) := by decide +kernel
theorem dX7_removedBy_29 : decode cX7_removedBy 29 = .ok (.invokestatic 133, 3) := by decide +kernel
theorem dX7_removedBy_32 : decode cX7_removedBy 32 = .ok (.ifCond .eq 9, 3) := by decide +kernel
theorem dX7_removedBy_35 : decode cX7_removedBy 35 = .ok (.iload_n 2, 1) := by decide +kernel
theorem dX7_removedBy_36 : decode cX7_removedBy 36 = .ok (.iconst 1, 1) := by decide +kernel
theorem dX7_removedBy_37 : decode cX7_removedBy 37 = .ok (.iload_n 3, 1) := by decide +kernel
theorem dX7_removedBy_38 : decode cX7_removedBy 38 = .ok (.ishl, 1) := by decide +kernel
theorem dX7_removedBy_39 : decode cX7_removedBy 39 = .ok (.ior, 1) := by decide +kernel
theorem dX7_removedBy_40 : decode cX7_removedBy 40 = .ok (.istore_n 2, 1) := by decide +kernel
theorem dX7_removedBy_41 : decode cX7_removedBy 41 = .ok (.iinc 3 1, 3) := by decide +kernel
theorem dX7_removedBy_44 : decode cX7_removedBy 44 = .ok (.goto (-40), 3) := by decide +kernel
theorem dX7_removedBy_47 : decode cX7_removedBy 47 = .ok (.iload_n 2, 1) := by decide +kernel
theorem dX7_removedBy_48 : decode cX7_removedBy 48 = .ok (.ireturn, 1) := by decide +kernel
theorem dX7_faultsIn_0 : decode cX7_faultsIn 0 = .ok (.iconst 0, 1) := by decide +kernel
theorem dX7_faultsIn_1 : decode cX7_faultsIn 1 = .ok (.istore_n 2, 1) := by decide +kernel
theorem dX7_faultsIn_2 : decode cX7_faultsIn 2 = .ok (.iconst 0, 1) := by decide +kernel
theorem dX7_faultsIn_3 : decode cX7_faultsIn 3 = .ok (.istore_n 3, 1) := by decide +kernel
theorem dX7_faultsIn_4 : decode cX7_faultsIn 4 = .ok (.iload_n 3, 1) := by decide +kernel
theorem dX7_faultsIn_5 : decode cX7_faultsIn 5 = .ok (.aload_n 0, 1) := by decide +kernel
theorem dX7_faultsIn_6 : decode cX7_faultsIn 6 = .ok (.getfield 31, 3) := by decide +kernel
theorem dX7_faultsIn_9 : decode cX7_faultsIn 9 = .ok (.if_icmp .ge 28, 3) := by decide +kernel
theorem dX7_faultsIn_12 : decode cX7_faultsIn 12 = .ok (.iload_n 1, 1) := by decide +kernel
theorem dX7_faultsIn_13 : decode cX7_faultsIn 13 = .ok (.aload_n 0, 1) := by decide +kernel
theorem dX7_faultsIn_14 : decode cX7_faultsIn 14 = .ok (.getfield 37, 3) := by decide +kernel
theorem dX7_faultsIn_17 : decode cX7_faultsIn 17 = .ok (.iload_n 3, 1) := by decide +kernel
theorem dX7_faultsIn_18 : decode cX7_faultsIn 18 = .ok (.iaload, 1) := by decide +kernel
theorem dX7_faultsIn_19 : decode cX7_faultsIn 19 = .ok (.invokestatic 133, 3) := by decide +kernel
theorem dX7_faultsIn_22 : decode cX7_faultsIn 22 = .ok (.ifCond .eq 9, 3) := by decide +kernel
theorem dX7_faultsIn_25 : decode cX7_faultsIn 25 = .ok (.iload_n 2, 1) := by decide +kernel
theorem dX7_faultsIn_26 : decode cX7_faultsIn 26 = .ok (.iconst 1, 1) := by decide +kernel
theorem dX7_faultsIn_27 : decode cX7_faultsIn 27 = .ok (.iload_n 3, 1) := by decide +kernel
theorem dX7_faultsIn_28 : decode cX7_faultsIn 28 = .ok (.ishl, 1) := by decide +kernel
theorem dX7_faultsIn_29 : decode cX7_faultsIn 29 = .ok (.ior, 1) := by decide +kernel
theorem dX7_faultsIn_30 : decode cX7_faultsIn 30 = .ok (.istore_n 2, 1) := by decide +kernel
theorem dX7_faultsIn_31 : decode cX7_faultsIn 31 = .ok (.iinc 3 1, 3) := by decide +kernel
theorem dX7_faultsIn_34 : decode cX7_faultsIn 34 = .ok (.goto (-30), 3) := by decide +kernel
theorem dX7_faultsIn_37 : decode cX7_faultsIn 37 = .ok (.iload_n 2, 1) := by decide +kernel
theorem dX7_faultsIn_38 : decode cX7_faultsIn 38 = .ok (.aload_n 0, 1) := by decide +kernel
theorem dX7_faultsIn_39 : decode cX7_faultsIn 39 = .ok (.iload_n 1, 1) := by decide +kernel
theorem dX7_faultsIn_40 : decode cX7_faultsIn 40 = .ok (.invokevirtual 130, 3) := by decide +kernel
theorem dX7_faultsIn_43 : decode cX7_faultsIn 43 = .ok (.iconst (-1), 1) := by decide +kernel
theorem dX7_faultsIn_44 : decode cX7_faultsIn 44 = .ok (.ixor, 1) := by decide +kernel
theorem dX7_faultsIn_45 : decode cX7_faultsIn 45 = .ok (.iand, 1) := by decide +kernel
theorem dX7_faultsIn_46 : decode cX7_faultsIn 46 = .ok (.ireturn, 1) := by decide +kernel
theorem dX7_weightOf_0 : decode cX7_weightOf 0 = .ok (.iconst 0, 1) := by decide +kernel
theorem dX7_weightOf_1 : decode cX7_weightOf 1 = .ok (.istore_n 2, 1) := by decide +kernel
theorem dX7_weightOf_2 : decode cX7_weightOf 2 = .ok (.iconst 0, 1) := by decide +kernel
theorem dX7_weightOf_3 : decode cX7_weightOf 3 = .ok (.istore_n 3, 1) := by decide +kernel
theorem dX7_weightOf_4 : decode cX7_weightOf 4 = .ok (.iload_n 3, 1) := by decide +kernel
theorem dX7_weightOf_5 : decode cX7_weightOf 5 = .ok (.aload_n 0, 1) := by decide +kernel
theorem dX7_weightOf_6 : decode cX7_weightOf 6 = .ok (.getfield 31, 3) := by decide +kernel
theorem dX7_weightOf_9 : decode cX7_weightOf 9 = .ok (.if_icmp .ge 26, 3) := by decide +kernel
theorem dX7_weightOf_12 : decode cX7_weightOf 12 = .ok (.iload_n 1, 1) := by decide +kernel
theorem dX7_weightOf_13 : decode cX7_weightOf 13 = .ok (.iload_n 3, 1) := by decide +kernel
theorem dX7_weightOf_14 : decode cX7_weightOf 14 = .ok (.invokestatic 133, 3) := by decide +kernel
theorem dX7_weightOf_17 : decode cX7_weightOf 17 = .ok (.ifCond .eq 12, 3) := by decide +kernel
theorem dX7_weightOf_20 : decode cX7_weightOf 20 = .ok (.iload_n 2, 1) := by decide +kernel
theorem dX7_weightOf_21 : decode cX7_weightOf 21 = .ok (.aload_n 0, 1) := by decide +kernel
theorem dX7_weightOf_22 : decode cX7_weightOf 22 = .ok (.getfield 34, 3) := by decide +kernel
theorem dX7_weightOf_25 : decode cX7_weightOf 25 = .ok (.iload_n 3, 1) := by decide +kernel
theorem dX7_weightOf_26 : decode cX7_weightOf 26 = .ok (.iaload, 1) := by decide +kernel
theorem dX7_weightOf_27 : decode cX7_weightOf 27 = .ok (.iadd, 1) := by decide +kernel
theorem dX7_weightOf_28 : decode cX7_weightOf 28 = .ok (.istore_n 2, 1) := by decide +kernel
theorem dX7_weightOf_29 : decode cX7_weightOf 29 = .ok (.iinc 3 1, 3) := by decide +kernel
theorem dX7_weightOf_32 : decode cX7_weightOf 32 = .ok (.goto (-28), 3) := by decide +kernel
theorem dX7_weightOf_35 : decode cX7_weightOf 35 = .ok (.iload_n 2, 1) := by decide +kernel
theorem dX7_weightOf_36 : decode cX7_weightOf 36 = .ok (.ireturn, 1) := by decide +kernel
theorem dX7_weightIn_0 : decode cX7_weightIn 0 = .ok (.aload_n 0, 1) := by decide +kernel
theorem dX7_weightIn_1 : decode cX7_weightIn 1 = .ok (.aload_n 0, 1) := by decide +kernel
theorem dX7_weightIn_2 : decode cX7_weightIn 2 = .ok (.iload_n 1, 1) := by decide +kernel
theorem dX7_weightIn_3 : decode cX7_weightIn 3 = .ok (.invokevirtual 137, 3) := by decide +kernel
theorem dX7_weightIn_6 : decode cX7_weightIn 6 = .ok (.invokevirtual 140, 3) := by decide +kernel
theorem dX7_weightIn_9 : decode cX7_weightIn 9 = .ok (.ireturn, 1) := by decide +kernel
theorem dX7_riskOf_0 : decode cX7_riskOf 0 = .ok (.iconst 0, 1) := by decide +kernel
theorem dX7_riskOf_1 : decode cX7_riskOf 1 = .ok (.istore_n 2, 1) := by decide +kernel
theorem dX7_riskOf_2 : decode cX7_riskOf 2 = .ok (.iconst 0, 1) := by decide +kernel
theorem dX7_riskOf_3 : decode cX7_riskOf 3 = .ok (.istore_n 3, 1) := by decide +kernel
theorem dX7_riskOf_4 : decode cX7_riskOf 4 = .ok (.iload_n 3, 1) := by decide +kernel
theorem dX7_riskOf_5 : decode cX7_riskOf 5 = .ok (.aload_n 0, 1) := by decide +kernel
theorem dX7_riskOf_6 : decode cX7_riskOf 6 = .ok (.getfield 9, 3) := by decide +kernel
theorem dX7_riskOf_9 : decode cX7_riskOf 9 = .ok (.if_icmp .ge 26, 3) := by decide +kernel
theorem dX7_riskOf_12 : decode cX7_riskOf 12 = .ok (.iload_n 1, 1) := by decide +kernel
theorem dX7_riskOf_13 : decode cX7_riskOf 13 = .ok (.iload_n 3, 1) := by decide +kernel
theorem dX7_riskOf_14 : decode cX7_riskOf 14 = .ok (.invokestatic 133, 3) := by decide +kernel
theorem dX7_riskOf_17 : decode cX7_riskOf 17 = .ok (.ifCond .eq 12, 3) := by decide +kernel
theorem dX7_riskOf_20 : decode cX7_riskOf 20 = .ok (.iload_n 2, 1) := by decide +kernel
theorem dX7_riskOf_21 : decode cX7_riskOf 21 = .ok (.aload_n 0, 1) := by decide +kernel
theorem dX7_riskOf_22 : decode cX7_riskOf 22 = .ok (.getfield 22, 3) := by decide +kernel
theorem dX7_riskOf_25 : decode cX7_riskOf 25 = .ok (.iload_n 3, 1) := by decide +kernel
theorem dX7_riskOf_26 : decode cX7_riskOf 26 = .ok (.iaload, 1) := by decide +kernel
theorem dX7_riskOf_27 : decode cX7_riskOf 27 = .ok (.iadd, 1) := by decide +kernel
theorem dX7_riskOf_28 : decode cX7_riskOf 28 = .ok (.istore_n 2, 1) := by decide +kernel
theorem dX7_riskOf_29 : decode cX7_riskOf 29 = .ok (.iinc 3 1, 3) := by decide +kernel
theorem dX7_riskOf_32 : decode cX7_riskOf 32 = .ok (.goto (-28), 3) := by decide +kernel
theorem dX7_riskOf_35 : decode cX7_riskOf 35 = .ok (.iload_n 2, 1) := by decide +kernel
theorem dX7_riskOf_36 : decode cX7_riskOf 36 = .ok (.ireturn, 1) := by decide +kernel
theorem dX7_clashOf_0 : decode cX7_clashOf 0 = .ok (.aload_n 0, 1) := by decide +kernel
theorem dX7_clashOf_1 : decode cX7_clashOf 1 = .ok (.getfield 15, 3) := by decide +kernel
theorem dX7_clashOf_4 : decode cX7_clashOf 4 = .ok (.iload_n 1, 1) := by decide +kernel
theorem dX7_clashOf_5 : decode cX7_clashOf 5 = .ok (.iaload, 1) := by decide +kernel
theorem dX7_clashOf_6 : decode cX7_clashOf 6 = .ok (.aload_n 0, 1) := by decide +kernel
theorem dX7_clashOf_7 : decode cX7_clashOf 7 = .ok (.getfield 19, 3) := by decide +kernel
theorem dX7_clashOf_10 : decode cX7_clashOf 10 = .ok (.iload_n 1, 1) := by decide +kernel
theorem dX7_clashOf_11 : decode cX7_clashOf 11 = .ok (.iaload, 1) := by decide +kernel
theorem dX7_clashOf_12 : decode cX7_clashOf 12 = .ok (.ior, 1) := by decide +kernel
theorem dX7_clashOf_13 : decode cX7_clashOf 13 = .ok (.istore 4, 2) := by decide +kernel
theorem dX7_clashOf_15 : decode cX7_clashOf 15 = .ok (.iconst 0, 1) := by decide +kernel
theorem dX7_clashOf_16 : decode cX7_clashOf 16 = .ok (.istore 5, 2) := by decide +kernel
theorem dX7_clashOf_18 : decode cX7_clashOf 18 = .ok (.iconst 0, 1) := by decide +kernel
theorem dX7_clashOf_19 : decode cX7_clashOf 19 = .ok (.istore 6, 2) := by decide +kernel
theorem dX7_clashOf_21 : decode cX7_clashOf 21 = .ok (.iload 6, 2) := by decide +kernel
theorem dX7_clashOf_23 : decode cX7_clashOf 23 = .ok (.bipush 16, 2) := by decide +kernel
theorem dX7_clashOf_25 : decode cX7_clashOf 25 = .ok (.if_icmp .ge 52, 3) := by decide +kernel
theorem dX7_clashOf_28 : decode cX7_clashOf 28 = .ok (.iload 4, 2) := by decide +kernel
theorem dX7_clashOf_30 : decode cX7_clashOf 30 = .ok (.iload 6, 2) := by decide +kernel
theorem dX7_clashOf_32 : decode cX7_clashOf 32 = .ok (.invokestatic 133, 3) := by decide +kernel
theorem dX7_clashOf_35 : decode cX7_clashOf 35 = .ok (.ifCond .eq 36, 3) := by decide +kernel
theorem dX7_clashOf_38 : decode cX7_clashOf 38 = .ok (.aload_n 2, 1) := by decide +kernel
theorem dX7_clashOf_39 : decode cX7_clashOf 39 = .ok (.iload_n 3, 1) := by decide +kernel
theorem dX7_clashOf_40 : decode cX7_clashOf 40 = .ok (.bipush 16, 2) := by decide +kernel
theorem dX7_clashOf_42 : decode cX7_clashOf 42 = .ok (.imul, 1) := by decide +kernel
theorem dX7_clashOf_43 : decode cX7_clashOf 43 = .ok (.iload 6, 2) := by decide +kernel
theorem dX7_clashOf_45 : decode cX7_clashOf 45 = .ok (.iadd, 1) := by decide +kernel
theorem dX7_clashOf_46 : decode cX7_clashOf 46 = .ok (.iaload, 1) := by decide +kernel
theorem dX7_clashOf_47 : decode cX7_clashOf 47 = .ok (.aload_n 0, 1) := by decide +kernel
theorem dX7_clashOf_48 : decode cX7_clashOf 48 = .ok (.getfield 28, 3) := by decide +kernel
theorem dX7_clashOf_51 : decode cX7_clashOf 51 = .ok (.iload_n 1, 1) := by decide +kernel
theorem dX7_clashOf_52 : decode cX7_clashOf 52 = .ok (.bipush 16, 2) := by decide +kernel
theorem dX7_clashOf_54 : decode cX7_clashOf 54 = .ok (.imul, 1) := by decide +kernel
theorem dX7_clashOf_55 : decode cX7_clashOf 55 = .ok (.iload 6, 2) := by decide +kernel
theorem dX7_clashOf_57 : decode cX7_clashOf 57 = .ok (.iadd, 1) := by decide +kernel
theorem dX7_clashOf_58 : decode cX7_clashOf 58 = .ok (.iaload, 1) := by decide +kernel
theorem dX7_clashOf_59 : decode cX7_clashOf 59 = .ok (.if_icmp .eq 12, 3) := by decide +kernel
theorem dX7_clashOf_62 : decode cX7_clashOf 62 = .ok (.iload 5, 2) := by decide +kernel
theorem dX7_clashOf_64 : decode cX7_clashOf 64 = .ok (.iconst 1, 1) := by decide +kernel
theorem dX7_clashOf_65 : decode cX7_clashOf 65 = .ok (.iload 6, 2) := by decide +kernel
theorem dX7_clashOf_67 : decode cX7_clashOf 67 = .ok (.ishl, 1) := by decide +kernel
theorem dX7_clashOf_68 : decode cX7_clashOf 68 = .ok (.ior, 1) := by decide +kernel
theorem dX7_clashOf_69 : decode cX7_clashOf 69 = .ok (.istore 5, 2) := by decide +kernel
theorem dX7_clashOf_71 : decode cX7_clashOf 71 = .ok (.iinc 6 1, 3) := by decide +kernel
theorem dX7_clashOf_74 : decode cX7_clashOf 74 = .ok (.goto (-53), 3) := by decide +kernel
theorem dX7_clashOf_77 : decode cX7_clashOf 77 = .ok (.iload 5, 2) := by decide +kernel
theorem dX7_clashOf_79 : decode cX7_clashOf 79 = .ok (.ireturn, 1) := by decide +kernel
theorem dX7_putOn_0 : decode cX7_putOn 0 = .ok (.iconst 0, 1) := by decide +kernel
theorem dX7_putOn_1 : decode cX7_putOn 1 = .ok (.istore 4, 2) := by decide +kernel
theorem dX7_putOn_3 : decode cX7_putOn 3 = .ok (.iload 4, 2) := by decide +kernel
theorem dX7_putOn_5 : decode cX7_putOn 5 = .ok (.bipush 16, 2) := by decide +kernel
theorem dX7_putOn_7 : decode cX7_putOn 7 = .ok (.if_icmp .ge 44, 3) := by decide +kernel
theorem dX7_putOn_10 : decode cX7_putOn 10 = .ok (.aload_n 0, 1) := by decide +kernel
theorem dX7_putOn_11 : decode cX7_putOn 11 = .ok (.getfield 15, 3) := by decide +kernel
theorem dX7_putOn_14 : decode cX7_putOn 14 = .ok (.iload_n 1, 1) := by decide +kernel
theorem dX7_putOn_15 : decode cX7_putOn 15 = .ok (.iaload, 1) := by decide +kernel
theorem dX7_putOn_16 : decode cX7_putOn 16 = .ok (.iload 4, 2) := by decide +kernel
theorem dX7_putOn_18 : decode cX7_putOn 18 = .ok (.invokestatic 133, 3) := by decide +kernel
theorem dX7_putOn_21 : decode cX7_putOn 21 = .ok (.ifCond .eq 24, 3) := by decide +kernel
theorem dX7_putOn_24 : decode cX7_putOn 24 = .ok (.aload_n 2, 1) := by decide +kernel
theorem dX7_putOn_25 : decode cX7_putOn 25 = .ok (.iload_n 3, 1) := by decide +kernel
theorem dX7_putOn_26 : decode cX7_putOn 26 = .ok (.bipush 16, 2) := by decide +kernel
theorem dX7_putOn_28 : decode cX7_putOn 28 = .ok (.imul, 1) := by decide +kernel
theorem dX7_putOn_29 : decode cX7_putOn 29 = .ok (.iload 4, 2) := by decide +kernel
theorem dX7_putOn_31 : decode cX7_putOn 31 = .ok (.iadd, 1) := by decide +kernel
theorem dX7_putOn_32 : decode cX7_putOn 32 = .ok (.aload_n 0, 1) := by decide +kernel
theorem dX7_putOn_33 : decode cX7_putOn 33 = .ok (.getfield 25, 3) := by decide +kernel
theorem dX7_putOn_36 : decode cX7_putOn 36 = .ok (.iload_n 1, 1) := by decide +kernel
theorem dX7_putOn_37 : decode cX7_putOn 37 = .ok (.bipush 16, 2) := by decide +kernel
theorem dX7_putOn_39 : decode cX7_putOn 39 = .ok (.imul, 1) := by decide +kernel
theorem dX7_putOn_40 : decode cX7_putOn 40 = .ok (.iload 4, 2) := by decide +kernel
theorem dX7_putOn_42 : decode cX7_putOn 42 = .ok (.iadd, 1) := by decide +kernel
theorem dX7_putOn_43 : decode cX7_putOn 43 = .ok (.iaload, 1) := by decide +kernel
theorem dX7_putOn_44 : decode cX7_putOn 44 = .ok (.iastore, 1) := by decide +kernel
theorem dX7_putOn_45 : decode cX7_putOn 45 = .ok (.iinc 4 1, 3) := by decide +kernel
theorem dX7_putOn_48 : decode cX7_putOn 48 = .ok (.goto (-45), 3) := by decide +kernel
theorem dX7_putOn_51 : decode cX7_putOn 51 = .ok (.return_, 1) := by decide +kernel
theorem dX7_takeOff_0 : decode cX7_takeOff 0 = .ok (.iconst 0, 1) := by decide +kernel
theorem dX7_takeOff_1 : decode cX7_takeOff 1 = .ok (.istore 4, 2) := by decide +kernel
theorem dX7_takeOff_3 : decode cX7_takeOff 3 = .ok (.iload 4, 2) := by decide +kernel
theorem dX7_takeOff_5 : decode cX7_takeOff 5 = .ok (.bipush 16, 2) := by decide +kernel
theorem dX7_takeOff_7 : decode cX7_takeOff 7 = .ok (.if_icmp .ge 44, 3) := by decide +kernel
theorem dX7_takeOff_10 : decode cX7_takeOff 10 = .ok (.aload_n 0, 1) := by decide +kernel
theorem dX7_takeOff_11 : decode cX7_takeOff 11 = .ok (.getfield 15, 3) := by decide +kernel
theorem dX7_takeOff_14 : decode cX7_takeOff 14 = .ok (.iload_n 1, 1) := by decide +kernel
theorem dX7_takeOff_15 : decode cX7_takeOff 15 = .ok (.iaload, 1) := by decide +kernel
theorem dX7_takeOff_16 : decode cX7_takeOff 16 = .ok (.iload 4, 2) := by decide +kernel
theorem dX7_takeOff_18 : decode cX7_takeOff 18 = .ok (.invokestatic 133, 3) := by decide +kernel
theorem dX7_takeOff_21 : decode cX7_takeOff 21 = .ok (.ifCond .eq 24, 3) := by decide +kernel
theorem dX7_takeOff_24 : decode cX7_takeOff 24 = .ok (.aload_n 2, 1) := by decide +kernel
theorem dX7_takeOff_25 : decode cX7_takeOff 25 = .ok (.iload_n 3, 1) := by decide +kernel
theorem dX7_takeOff_26 : decode cX7_takeOff 26 = .ok (.bipush 16, 2) := by decide +kernel
theorem dX7_takeOff_28 : decode cX7_takeOff 28 = .ok (.imul, 1) := by decide +kernel
theorem dX7_takeOff_29 : decode cX7_takeOff 29 = .ok (.iload 4, 2) := by decide +kernel
theorem dX7_takeOff_31 : decode cX7_takeOff 31 = .ok (.iadd, 1) := by decide +kernel
theorem dX7_takeOff_32 : decode cX7_takeOff 32 = .ok (.aload_n 0, 1) := by decide +kernel
theorem dX7_takeOff_33 : decode cX7_takeOff 33 = .ok (.getfield 28, 3) := by decide +kernel
theorem dX7_takeOff_36 : decode cX7_takeOff 36 = .ok (.iload_n 1, 1) := by decide +kernel
theorem dX7_takeOff_37 : decode cX7_takeOff 37 = .ok (.bipush 16, 2) := by decide +kernel
theorem dX7_takeOff_39 : decode cX7_takeOff 39 = .ok (.imul, 1) := by decide +kernel
theorem dX7_takeOff_40 : decode cX7_takeOff 40 = .ok (.iload 4, 2) := by decide +kernel
theorem dX7_takeOff_42 : decode cX7_takeOff 42 = .ok (.iadd, 1) := by decide +kernel
theorem dX7_takeOff_43 : decode cX7_takeOff 43 = .ok (.iaload, 1) := by decide +kernel
theorem dX7_takeOff_44 : decode cX7_takeOff 44 = .ok (.iastore, 1) := by decide +kernel
theorem dX7_takeOff_45 : decode cX7_takeOff 45 = .ok (.iinc 4 1, 3) := by decide +kernel
theorem dX7_takeOff_48 : decode cX7_takeOff 48 = .ok (.goto (-45), 3) := by decide +kernel
theorem dX7_takeOff_51 : decode cX7_takeOff 51 = .ok (.return_, 1) := by decide +kernel
theorem dX7_stillSet_0 : decode cX7_stillSet 0 = .ok (.iconst 0, 1) := by decide +kernel
theorem dX7_stillSet_1 : decode cX7_stillSet 1 = .ok (.istore 4, 2) := by decide +kernel
theorem dX7_stillSet_3 : decode cX7_stillSet 3 = .ok (.iload 4, 2) := by decide +kernel
theorem dX7_stillSet_5 : decode cX7_stillSet 5 = .ok (.bipush 16, 2) := by decide +kernel
theorem dX7_stillSet_7 : decode cX7_stillSet 7 = .ok (.if_icmp .ge 49, 3) := by decide +kernel
theorem dX7_stillSet_10 : decode cX7_stillSet 10 = .ok (.aload_n 0, 1) := by decide +kernel
theorem dX7_stillSet_11 : decode cX7_stillSet 11 = .ok (.getfield 15, 3) := by decide +kernel
theorem dX7_stillSet_14 : decode cX7_stillSet 14 = .ok (.iload_n 1, 1) := by decide +kernel
theorem dX7_stillSet_15 : decode cX7_stillSet 15 = .ok (.iaload, 1) := by decide +kernel
theorem dX7_stillSet_16 : decode cX7_stillSet 16 = .ok (.iload 4, 2) := by decide +kernel
theorem dX7_stillSet_18 : decode cX7_stillSet 18 = .ok (.invokestatic 133, 3) := by decide +kernel
theorem dX7_stillSet_21 : decode cX7_stillSet 21 = .ok (.ifCond .eq 29, 3) := by decide +kernel
theorem dX7_stillSet_24 : decode cX7_stillSet 24 = .ok (.aload_n 2, 1) := by decide +kernel
theorem dX7_stillSet_25 : decode cX7_stillSet 25 = .ok (.iload_n 3, 1) := by decide +kernel
theorem dX7_stillSet_26 : decode cX7_stillSet 26 = .ok (.bipush 16, 2) := by decide +kernel
theorem dX7_stillSet_28 : decode cX7_stillSet 28 = .ok (.imul, 1) := by decide +kernel
theorem dX7_stillSet_29 : decode cX7_stillSet 29 = .ok (.iload 4, 2) := by decide +kernel
theorem dX7_stillSet_31 : decode cX7_stillSet 31 = .ok (.iadd, 1) := by decide +kernel
theorem dX7_stillSet_32 : decode cX7_stillSet 32 = .ok (.iaload, 1) := by decide +kernel
theorem dX7_stillSet_33 : decode cX7_stillSet 33 = .ok (.aload_n 0, 1) := by decide +kernel
theorem dX7_stillSet_34 : decode cX7_stillSet 34 = .ok (.getfield 25, 3) := by decide +kernel
theorem dX7_stillSet_37 : decode cX7_stillSet 37 = .ok (.iload_n 1, 1) := by decide +kernel
theorem dX7_stillSet_38 : decode cX7_stillSet 38 = .ok (.bipush 16, 2) := by decide +kernel
theorem dX7_stillSet_40 : decode cX7_stillSet 40 = .ok (.imul, 1) := by decide +kernel
theorem dX7_stillSet_41 : decode cX7_stillSet 41 = .ok (.iload 4, 2) := by decide +kernel
theorem dX7_stillSet_43 : decode cX7_stillSet 43 = .ok (.iadd, 1) := by decide +kernel
theorem dX7_stillSet_44 : decode cX7_stillSet 44 = .ok (.iaload, 1) := by decide +kernel
theorem dX7_stillSet_45 : decode cX7_stillSet 45 = .ok (.if_icmp .eq 5, 3) := by decide +kernel
theorem dX7_stillSet_48 : decode cX7_stillSet 48 = .ok (.iconst 0, 1) := by decide +kernel
theorem dX7_stillSet_49 : decode cX7_stillSet 49 = .ok (.ireturn, 1) := by decide +kernel
theorem dX7_stillSet_50 : decode cX7_stillSet 50 = .ok (.iinc 4 1, 3) := by decide +kernel
theorem dX7_stillSet_53 : decode cX7_stillSet 53 = .ok (.goto (-50), 3) := by decide +kernel
theorem dX7_stillSet_56 : decode cX7_stillSet 56 = .ok (.iconst 1, 1) := by decide +kernel
theorem dX7_stillSet_57 : decode cX7_stillSet 57 = .ok (.ireturn, 1) := by decide +kernel
theorem dX7_lastSetter_0 : decode cX7_lastSetter 0 = .ok (.iload_n 1, 1) := by decide +kernel
theorem dX7_lastSetter_1 : decode cX7_lastSetter 1 = .ok (.iconst 1, 1) := by decide +kernel
theorem dX7_lastSetter_2 : decode cX7_lastSetter 2 = .ok (.isub, 1) := by decide +kernel
theorem dX7_lastSetter_3 : decode cX7_lastSetter 3 = .ok (.istore_n 3, 1) := by decide +kernel
theorem dX7_lastSetter_4 : decode cX7_lastSetter 4 = .ok (.iload_n 3, 1) := by decide +kernel
theorem dX7_lastSetter_5 : decode cX7_lastSetter 5 = .ok (.ifCond .lt 24, 3) := by decide +kernel
theorem dX7_lastSetter_8 : decode cX7_lastSetter 8 = .ok (.aload_n 0, 1) := by decide +kernel
theorem dX7_lastSetter_9 : decode cX7_lastSetter 9 = .ok (.getfield 15, 3) := by decide +kernel
theorem dX7_lastSetter_12 : decode cX7_lastSetter 12 = .ok (.iload_n 3, 1) := by decide +kernel
theorem dX7_lastSetter_13 : decode cX7_lastSetter 13 = .ok (.iaload, 1) := by decide +kernel
theorem dX7_lastSetter_14 : decode cX7_lastSetter 14 = .ok (.iload_n 2, 1) := by decide +kernel
theorem dX7_lastSetter_15 : decode cX7_lastSetter 15 = .ok (.invokestatic 133, 3) := by decide +kernel
theorem dX7_lastSetter_18 : decode cX7_lastSetter 18 = .ok (.ifCond .eq 5, 3) := by decide +kernel
theorem dX7_lastSetter_21 : decode cX7_lastSetter 21 = .ok (.iload_n 3, 1) := by decide +kernel
theorem dX7_lastSetter_22 : decode cX7_lastSetter 22 = .ok (.ireturn, 1) := by decide +kernel
theorem dX7_lastSetter_23 : decode cX7_lastSetter 23 = .ok (.iinc 3 (-1), 3) := by decide +kernel
theorem dX7_lastSetter_26 : decode cX7_lastSetter 26 = .ok (.goto (-22), 3) := by decide +kernel
theorem dX7_lastSetter_29 : decode cX7_lastSetter 29 = .ok (.iconst (-1), 1) := by decide +kernel
theorem dX7_lastSetter_30 : decode cX7_lastSetter 30 = .ok (.ireturn, 1) := by decide +kernel
theorem dX8_init_0 : decode cX8_init 0 = .ok (.aload_n 0, 1) := by decide +kernel
theorem dX8_init_1 : decode cX8_init 1 = .ok (.invokespecial 1, 3) := by decide +kernel
theorem dX8_init_4 : decode cX8_init 4 = .ok (.aload_n 0, 1) := by decide +kernel
theorem dX8_init_5 : decode cX8_init 5 = .ok (.new 7, 3) := by decide +kernel
theorem dX8_init_8 : decode cX8_init 8 = .ok (.dup, 1) := by decide +kernel
theorem dX8_init_9 : decode cX8_init 9 = .ok (.invokespecial 9, 3) := by decide +kernel
theorem dX8_init_12 : decode cX8_init 12 = .ok (.putfield 10, 3) := by decide +kernel
theorem dX8_init_15 : decode cX8_init 15 = .ok (.aload_n 0, 1) := by decide +kernel
theorem dX8_init_16 : decode cX8_init 16 = .ok (.new 16, 3) := by decide +kernel
theorem dX8_init_19 : decode cX8_init 19 = .ok (.dup, 1) := by decide +kernel
theorem dX8_init_20 : decode cX8_init 20 = .ok (.aload_n 0, 1) := by decide +kernel
theorem dX8_init_21 : decode cX8_init 21 = .ok (.getfield 10, 3) := by decide +kernel
theorem dX8_init_24 : decode cX8_init 24 = .ok (.invokespecial 18, 3) := by decide +kernel
theorem dX8_init_27 : decode cX8_init 27 = .ok (.putfield 21, 3) := by decide +kernel
theorem dX8_init_30 : decode cX8_init 30 = .ok (.aload_n 0, 1) := by decide +kernel
theorem dX8_init_31 : decode cX8_init 31 = .ok (.new 25, 3) := by decide +kernel
theorem dX8_init_34 : decode cX8_init 34 = .ok (.dup, 1) := by decide +kernel
theorem dX8_init_35 : decode cX8_init 35 = .ok (.invokespecial 27, 3) := by decide +kernel
theorem dX8_init_38 : decode cX8_init 38 = .ok (.putfield 28, 3) := by decide +kernel
theorem dX8_init_41 : decode cX8_init 41 = .ok (.aload_n 0, 1) := by decide +kernel
theorem dX8_init_42 : decode cX8_init 42 = .ok (.new 25, 3) := by decide +kernel
theorem dX8_init_45 : decode cX8_init 45 = .ok (.dup, 1) := by decide +kernel
theorem dX8_init_46 : decode cX8_init 46 = .ok (.invokespecial 27, 3) := by decide +kernel
theorem dX8_init_49 : decode cX8_init 49 = .ok (.putfield 32, 3) := by decide +kernel
theorem dX8_init_52 : decode cX8_init 52 = .ok (.aload_n 0, 1) := by decide +kernel
theorem dX8_init_53 : decode cX8_init 53 = .ok (.new 35, 3) := by decide +kernel
theorem dX8_init_56 : decode cX8_init 56 = .ok (.dup, 1) := by decide +kernel
theorem dX8_init_57 : decode cX8_init 57 = .ok (.invokespecial 37, 3) := by decide +kernel
theorem dX8_init_60 : decode cX8_init 60 = .ok (.putfield 38, 3) := by decide +kernel
theorem dX8_init_63 : decode cX8_init 63 = .ok (.aload_n 0, 1) := by decide +kernel
theorem dX8_init_64 : decode cX8_init 64 = .ok (.new 35, 3) := by decide +kernel
theorem dX8_init_67 : decode cX8_init 67 = .ok (.dup, 1) := by decide +kernel
theorem dX8_init_68 : decode cX8_init 68 = .ok (.invokespecial 37, 3) := by decide +kernel
theorem dX8_init_71 : decode cX8_init 71 = .ok (.putfield 42, 3) := by decide +kernel
theorem dX8_init_74 : decode cX8_init 74 = .ok (.aload_n 0, 1) := by decide +kernel
theorem dX8_init_75 : decode cX8_init 75 = .ok (.new 45, 3) := by decide +kernel
theorem dX8_init_78 : decode cX8_init 78 = .ok (.dup, 1) := by decide +kernel
theorem dX8_init_79 : decode cX8_init 79 = .ok (.invokespecial 47, 3) := by decide +kernel
theorem dX8_init_82 : decode cX8_init 82 = .ok (.putfield 48, 3) := by decide +kernel
theorem dX8_init_85 : decode cX8_init 85 = .ok (.aload_n 0, 1) := by decide +kernel
theorem dX8_init_86 : decode cX8_init 86 = .ok (.new 45, 3) := by decide +kernel
theorem dX8_init_89 : decode cX8_init 89 = .ok (.dup, 1) := by decide +kernel
theorem dX8_init_90 : decode cX8_init 90 = .ok (.invokespecial 47, 3) := by decide +kernel
theorem dX8_init_93 : decode cX8_init 93 = .ok (.putfield 52, 3) := by decide +kernel
theorem dX8_init_96 : decode cX8_init 96 = .ok (.aload_n 0, 1) := by decide +kernel
theorem dX8_init_97 : decode cX8_init 97 = .ok (.new 45, 3) := by decide +kernel
theorem dX8_init_100 : decode cX8_init 100 = .ok (.dup, 1) := by decide +kernel
theorem dX8_init_101 : decode cX8_init 101 = .ok (.invokespecial 47, 3) := by decide +kernel
theorem dX8_init_104 : decode cX8_init 104 = .ok (.putfield 55, 3) := by decide +kernel
theorem dX8_init_107 : decode cX8_init 107 = .ok (.aload_n 0, 1) := by decide +kernel
theorem dX8_init_108 : decode cX8_init 108 = .ok (.new 58, 3) := by decide +kernel
theorem dX8_init_111 : decode cX8_init 111 = .ok (.dup, 1) := by decide +kernel
theorem dX8_init_112 : decode cX8_init 112 = .ok (.aload_n 0, 1) := by decide +kernel
theorem dX8_init_113 : decode cX8_init 113 = .ok (.getfield 28, 3) := by decide +kernel
theorem dX8_init_116 : decode cX8_init 116 = .ok (.aload_n 0, 1) := by decide +kernel
theorem dX8_init_117 : decode cX8_init 117 = .ok (.getfield 48, 3) := by decide +kernel
theorem dX8_init_120 : decode cX8_init 120 = .ok (.invokespecial 60, 3) := by decide +kernel
theorem dX8_init_123 : decode cX8_init 123 = .ok (.putfield 63, 3) := by decide +kernel
theorem dX8_init_126 : decode cX8_init 126 = .ok (.aload_n 0, 1) := by decide +kernel
theorem dX8_init_127 : decode cX8_init 127 = .ok (.new 67, 3) := by decide +kernel
theorem dX8_init_130 : decode cX8_init 130 = .ok (.dup, 1) := by decide +kernel
theorem dX8_init_131 : decode cX8_init 131 = .ok (.aload_n 0, 1) := by decide +kernel
theorem dX8_init_132 : decode cX8_init 132 = .ok (.getfield 28, 3) := by decide +kernel
theorem dX8_init_135 : decode cX8_init 135 = .ok (.aload_n 0, 1) := by decide +kernel
theorem dX8_init_136 : decode cX8_init 136 = .ok (.getfield 63, 3) := by decide +kernel
theorem dX8_init_139 : decode cX8_init 139 = .ok (.invokespecial 69, 3) := by decide +kernel
theorem dX8_init_142 : decode cX8_init 142 = .ok (.putfield 72, 3) := by decide +kernel
theorem dX8_init_145 : decode cX8_init 145 = .ok (.aload_n 0, 1) := by decide +kernel
theorem dX8_init_146 : decode cX8_init 146 = .ok (.new 76, 3) := by decide +kernel
theorem dX8_init_149 : decode cX8_init 149 = .ok (.dup, 1) := by decide +kernel
theorem dX8_init_150 : decode cX8_init 150 = .ok (.aload_n 0, 1) := by decide +kernel
theorem dX8_init_151 : decode cX8_init 151 = .ok (.getfield 28, 3) := by decide +kernel
theorem dX8_init_154 : decode cX8_init 154 = .ok (.invokespecial 78, 3) := by decide +kernel
theorem dX8_init_157 : decode cX8_init 157 = .ok (.putfield 81, 3) := by decide +kernel
theorem dX8_init_160 : decode cX8_init 160 = .ok (.aload_n 0, 1) := by decide +kernel
theorem dX8_init_161 : decode cX8_init 161 = .ok (.iconst 0, 1) := by decide +kernel
theorem dX8_init_162 : decode cX8_init 162 = .ok (.putfield 85, 3) := by decide +kernel
theorem dX8_init_165 : decode cX8_init 165 = .ok (.aload_n 0, 1) := by decide +kernel
theorem dX8_init_166 : decode cX8_init 166 = .ok (.iconst (-1), 1) := by decide +kernel
theorem dX8_init_167 : decode cX8_init 167 = .ok (.putfield 89, 3) := by decide +kernel
theorem dX8_init_170 : decode cX8_init 170 = .ok (.return_, 1) := by decide +kernel
theorem dX8_feed_0 : decode cX8_feed 0 = .ok (.iload_n 1, 1) := by decide +kernel
theorem dX8_feed_1 : decode cX8_feed 1 = .ok (.iconst 1, 1) := by decide +kernel
theorem dX8_feed_2 : decode cX8_feed 2 = .ok (.if_icmp .lt 9, 3) := by decide +kernel
theorem dX8_feed_5 : decode cX8_feed 5 = .ok (.iload_n 1, 1) := by decide +kernel
theorem dX8_feed_6 : decode cX8_feed 6 = .ok (.bipush 8, 2) := by decide +kernel
theorem dX8_feed_8 : decode cX8_feed 8 = .ok (.if_icmp .le 7, 3) := by decide +kernel
theorem dX8_feed_11 : decode cX8_feed 11 = .ok (.sipush (-1002), 3) := by decide +kernel
theorem dX8_feed_14 : decode cX8_feed 14 = .ok (.ireturn, 1) := by decide +kernel
theorem dX8_feed_15 : decode cX8_feed 15 = .ok (.aload_n 0, 1) := by decide +kernel
theorem dX8_feed_16 : decode cX8_feed 16 = .ok (.getfield 10, 3) := by decide +kernel
theorem dX8_feed_19 : decode cX8_feed 19 = .ok (.getfield 92, 3) := by decide +kernel
theorem dX8_feed_22 : decode cX8_feed 22 = .ok (.iload_n 1, 1) := by decide +kernel
theorem dX8_feed_23 : decode cX8_feed 23 = .ok (.iadd, 1) := by decide +kernel
theorem dX8_feed_24 : decode cX8_feed 24 = .ok (.sipush 500, 3) := by decide +kernel
theorem dX8_feed_27 : decode cX8_feed 27 = .ok (.if_icmp .le 7, 3) := by decide +kernel
theorem dX8_feed_30 : decode cX8_feed 30 = .ok (.sipush (-1004), 3) := by decide +kernel
theorem dX8_feed_33 : decode cX8_feed 33 = .ok (.ireturn, 1) := by decide +kernel
theorem dX8_feed_34 : decode cX8_feed 34 = .ok (.aload_n 0, 1) := by decide +kernel
theorem dX8_feed_35 : decode cX8_feed 35 = .ok (.getfield 10, 3) := by decide +kernel
theorem dX8_feed_38 : decode cX8_feed 38 = .ok (.iload_n 1, 1) := by decide +kernel
theorem dX8_feed_39 : decode cX8_feed 39 = .ok (.lload_n 2, 1) := by decide +kernel
theorem dX8_feed_40 : decode cX8_feed 40 = .ok (.invokevirtual 95, 3) := by decide +kernel
theorem dX8_feed_43 : decode cX8_feed 43 = .ok (.aload_n 0, 1) := by decide +kernel
theorem dX8_feed_44 : decode cX8_feed 44 = .ok (.getfield 10, 3) := by decide +kernel
theorem dX8_feed_47 : decode cX8_feed 47 = .ok (.getfield 92, 3) := by decide +kernel
theorem dX8_feed_50 : decode cX8_feed 50 = .ok (.ireturn, 1) := by decide +kernel
theorem dX8_trunk_0 : decode cX8_trunk 0 = .ok (.aload_n 0, 1) := by decide +kernel
theorem dX8_trunk_1 : decode cX8_trunk 1 = .ok (.getfield 21, 3) := by decide +kernel
theorem dX8_trunk_4 : decode cX8_trunk 4 = .ok (.iconst 2, 1) := by decide +kernel
theorem dX8_trunk_5 : decode cX8_trunk 5 = .ok (.invokevirtual 99, 3) := by decide +kernel
theorem dX8_trunk_8 : decode cX8_trunk 8 = .ok (.aload_n 0, 1) := by decide +kernel
theorem dX8_trunk_9 : decode cX8_trunk 9 = .ok (.getfield 32, 3) := by decide +kernel
theorem dX8_trunk_12 : decode cX8_trunk 12 = .ok (.aload_n 0, 1) := by decide +kernel
theorem dX8_trunk_13 : decode cX8_trunk 13 = .ok (.getfield 21, 3) := by decide +kernel
theorem dX8_trunk_16 : decode cX8_trunk 16 = .ok (.invokevirtual 103, 3) := by decide +kernel
theorem dX8_trunk_19 : decode cX8_trunk 19 = .ok (.istore_n 1, 1) := by decide +kernel
theorem dX8_trunk_20 : decode cX8_trunk 20 = .ok (.aload_n 0, 1) := by decide +kernel
theorem dX8_trunk_21 : decode cX8_trunk 21 = .ok (.getfield 10, 3) := by decide +kernel
theorem dX8_trunk_24 : decode cX8_trunk 24 = .ok (.iconst 0, 1) := by decide +kernel
theorem dX8_trunk_25 : decode cX8_trunk 25 = .ok (.putfield 92, 3) := by decide +kernel
theorem dX8_trunk_28 : decode cX8_trunk 28 = .ok (.aload_n 0, 1) := by decide +kernel
theorem dX8_trunk_29 : decode cX8_trunk 29 = .ok (.aload_n 0, 1) := by decide +kernel
theorem dX8_trunk_30 : decode cX8_trunk 30 = .ok (.getfield 21, 3) := by decide +kernel
theorem dX8_trunk_33 : decode cX8_trunk 33 = .ok (.getfield 107, 3) := by decide +kernel
theorem dX8_trunk_36 : decode cX8_trunk 36 = .ok (.putfield 89, 3) := by decide +kernel
theorem dX8_trunk_39 : decode cX8_trunk 39 = .ok (.iload_n 1, 1) := by decide +kernel
theorem dX8_trunk_40 : decode cX8_trunk 40 = .ok (.ifCond .ne 14, 3) := by decide +kernel
theorem dX8_trunk_43 : decode cX8_trunk 43 = .ok (.bipush (-10), 2) := by decide +kernel
theorem dX8_trunk_45 : decode cX8_trunk 45 = .ok (.aload_n 0, 1) := by decide +kernel
theorem dX8_trunk_46 : decode cX8_trunk 46 = .ok (.getfield 21, 3) := by decide +kernel
theorem dX8_trunk_49 : decode cX8_trunk 49 = .ok (.getfield 110, 3) := by decide +kernel
theorem dX8_trunk_52 : decode cX8_trunk 52 = .ok (.isub, 1) := by decide +kernel
theorem dX8_trunk_53 : decode cX8_trunk 53 = .ok (.ireturn, 1) := by decide +kernel
theorem dX8_trunk_54 : decode cX8_trunk 54 = .ok (.aload_n 0, 1) := by decide +kernel
theorem dX8_trunk_55 : decode cX8_trunk 55 = .ok (.getfield 28, 3) := by decide +kernel
theorem dX8_trunk_58 : decode cX8_trunk 58 = .ok (.aload_n 0, 1) := by decide +kernel
theorem dX8_trunk_59 : decode cX8_trunk 59 = .ok (.getfield 32, 3) := by decide +kernel
theorem dX8_trunk_62 : decode cX8_trunk 62 = .ok (.invokevirtual 113, 3) := by decide +kernel
theorem dX8_trunk_65 : decode cX8_trunk 65 = .ok (.aload_n 0, 1) := by decide +kernel
theorem dX8_trunk_66 : decode cX8_trunk 66 = .ok (.getfield 48, 3) := by decide +kernel
theorem dX8_trunk_69 : decode cX8_trunk 69 = .ok (.iconst 0, 1) := by decide +kernel
theorem dX8_trunk_70 : decode cX8_trunk 70 = .ok (.putfield 116, 3) := by decide +kernel
theorem dX8_trunk_73 : decode cX8_trunk 73 = .ok (.aload_n 0, 1) := by decide +kernel
theorem dX8_trunk_74 : decode cX8_trunk 74 = .ok (.getfield 48, 3) := by decide +kernel
theorem dX8_trunk_77 : decode cX8_trunk 77 = .ok (.iconst 0, 1) := by decide +kernel
theorem dX8_trunk_78 : decode cX8_trunk 78 = .ok (.putfield 119, 3) := by decide +kernel
theorem dX8_trunk_81 : decode cX8_trunk 81 = .ok (.aload_n 0, 1) := by decide +kernel
theorem dX8_trunk_82 : decode cX8_trunk 82 = .ok (.iconst 0, 1) := by decide +kernel
theorem dX8_trunk_83 : decode cX8_trunk 83 = .ok (.putfield 85, 3) := by decide +kernel
theorem dX8_trunk_86 : decode cX8_trunk 86 = .ok (.aload_n 0, 1) := by decide +kernel
theorem dX8_trunk_87 : decode cX8_trunk 87 = .ok (.getfield 28, 3) := by decide +kernel
theorem dX8_trunk_90 : decode cX8_trunk 90 = .ok (.getfield 122, 3) := by decide +kernel
theorem dX8_trunk_93 : decode cX8_trunk 93 = .ok (.ireturn, 1) := by decide +kernel
theorem dX8_policy_0 : decode cX8_policy 0 = .ok (.aload_n 0, 1) := by decide +kernel
theorem dX8_policy_1 : decode cX8_policy 1 = .ok (.getfield 10, 3) := by decide +kernel
theorem dX8_policy_4 : decode cX8_policy 4 = .ok (.getfield 92, 3) := by decide +kernel
theorem dX8_policy_7 : decode cX8_policy 7 = .ok (.bipush 120, 2) := by decide +kernel
theorem dX8_policy_9 : decode cX8_policy 9 = .ok (.if_icmp .le 7, 3) := by decide +kernel
theorem dX8_policy_12 : decode cX8_policy 12 = .ok (.sipush (-1003), 3) := by decide +kernel
theorem dX8_policy_15 : decode cX8_policy 15 = .ok (.ireturn, 1) := by decide +kernel
theorem dX8_policy_16 : decode cX8_policy 16 = .ok (.aload_n 0, 1) := by decide +kernel
theorem dX8_policy_17 : decode cX8_policy 17 = .ok (.getfield 21, 3) := by decide +kernel
theorem dX8_policy_20 : decode cX8_policy 20 = .ok (.iconst 3, 1) := by decide +kernel
theorem dX8_policy_21 : decode cX8_policy 21 = .ok (.invokevirtual 99, 3) := by decide +kernel
theorem dX8_policy_24 : decode cX8_policy 24 = .ok (.aload_n 0, 1) := by decide +kernel
theorem dX8_policy_25 : decode cX8_policy 25 = .ok (.getfield 42, 3) := by decide +kernel
theorem dX8_policy_28 : decode cX8_policy 28 = .ok (.aload_n 0, 1) := by decide +kernel
theorem dX8_policy_29 : decode cX8_policy 29 = .ok (.getfield 21, 3) := by decide +kernel
theorem dX8_policy_32 : decode cX8_policy 32 = .ok (.invokevirtual 125, 3) := by decide +kernel
theorem dX8_policy_35 : decode cX8_policy 35 = .ok (.istore_n 1, 1) := by decide +kernel
theorem dX8_policy_36 : decode cX8_policy 36 = .ok (.aload_n 0, 1) := by decide +kernel
theorem dX8_policy_37 : decode cX8_policy 37 = .ok (.getfield 10, 3) := by decide +kernel
theorem dX8_policy_40 : decode cX8_policy 40 = .ok (.iconst 0, 1) := by decide +kernel
theorem dX8_policy_41 : decode cX8_policy 41 = .ok (.putfield 92, 3) := by decide +kernel
theorem dX8_policy_44 : decode cX8_policy 44 = .ok (.aload_n 0, 1) := by decide +kernel
theorem dX8_policy_45 : decode cX8_policy 45 = .ok (.aload_n 0, 1) := by decide +kernel
theorem dX8_policy_46 : decode cX8_policy 46 = .ok (.getfield 21, 3) := by decide +kernel
theorem dX8_policy_49 : decode cX8_policy 49 = .ok (.getfield 107, 3) := by decide +kernel
theorem dX8_policy_52 : decode cX8_policy 52 = .ok (.putfield 89, 3) := by decide +kernel
theorem dX8_policy_55 : decode cX8_policy 55 = .ok (.iload_n 1, 1) := by decide +kernel
theorem dX8_policy_56 : decode cX8_policy 56 = .ok (.ifCond .ne 14, 3) := by decide +kernel
theorem dX8_policy_59 : decode cX8_policy 59 = .ok (.bipush (-10), 2) := by decide +kernel
theorem dX8_policy_61 : decode cX8_policy 61 = .ok (.aload_n 0, 1) := by decide +kernel
theorem dX8_policy_62 : decode cX8_policy 62 = .ok (.getfield 21, 3) := by decide +kernel
theorem dX8_policy_65 : decode cX8_policy 65 = .ok (.getfield 110, 3) := by decide +kernel
theorem dX8_policy_68 : decode cX8_policy 68 = .ok (.isub, 1) := by decide +kernel
theorem dX8_policy_69 : decode cX8_policy 69 = .ok (.ireturn, 1) := by decide +kernel
theorem dX8_policy_70 : decode cX8_policy 70 = .ok (.aload_n 0, 1) := by decide +kernel
theorem dX8_policy_71 : decode cX8_policy 71 = .ok (.getfield 38, 3) := by decide +kernel
theorem dX8_policy_74 : decode cX8_policy 74 = .ok (.aload_n 0, 1) := by decide +kernel
theorem dX8_policy_75 : decode cX8_policy 75 = .ok (.getfield 42, 3) := by decide +kernel
theorem dX8_policy_78 : decode cX8_policy 78 = .ok (.invokevirtual 126, 3) := by decide +kernel
theorem dX8_policy_81 : decode cX8_policy 81 = .ok (.aload_n 0, 1) := by decide +kernel
theorem dX8_policy_82 : decode cX8_policy 82 = .ok (.getfield 38, 3) := by decide +kernel
theorem dX8_policy_85 : decode cX8_policy 85 = .ok (.getfield 129, 3) := by decide +kernel
theorem dX8_policy_88 : decode cX8_policy 88 = .ok (.ireturn, 1) := by decide +kernel
theorem dX8_breach_0 : decode cX8_breach 0 = .ok (.aload_n 0, 1) := by decide +kernel
theorem dX8_breach_1 : decode cX8_breach 1 = .ok (.getfield 89, 3) := by decide +kernel
theorem dX8_breach_4 : decode cX8_breach 4 = .ok (.ireturn, 1) := by decide +kernel
theorem dX8_change_0 : decode cX8_change 0 = .ok (.aload_n 0, 1) := by decide +kernel
theorem dX8_change_1 : decode cX8_change 1 = .ok (.getfield 28, 3) := by decide +kernel
theorem dX8_change_4 : decode cX8_change 4 = .ok (.iload_n 1, 1) := by decide +kernel
theorem dX8_change_5 : decode cX8_change 5 = .ok (.invokevirtual 132, 3) := by decide +kernel
theorem dX8_change_8 : decode cX8_change 8 = .ok (.ifCond .ne 7, 3) := by decide +kernel
theorem dX8_change_11 : decode cX8_change 11 = .ok (.sipush (-1001), 3) := by decide +kernel
theorem dX8_change_14 : decode cX8_change 14 = .ok (.ireturn, 1) := by decide +kernel
theorem dX8_change_15 : decode cX8_change 15 = .ok (.iload_n 2, 1) := by decide +kernel
theorem dX8_change_16 : decode cX8_change 16 = .ok (.tableswitch 84 0 4 #[36, 46, 56, 66, 75], 36) := by decide +kernel
theorem dX8_change_52 : decode cX8_change 52 = .ok (.aload_n 0, 1) := by decide +kernel
theorem dX8_change_53 : decode cX8_change 53 = .ok (.getfield 28, 3) := by decide +kernel
theorem dX8_change_56 : decode cX8_change 56 = .ok (.getfield 136, 3) := by decide +kernel
theorem dX8_change_59 : decode cX8_change 59 = .ok (.iload_n 1, 1) := by decide +kernel
theorem dX8_change_60 : decode cX8_change 60 = .ok (.iaload, 1) := by decide +kernel
theorem dX8_change_61 : decode cX8_change 61 = .ok (.ireturn, 1) := by decide +kernel
theorem dX8_change_62 : decode cX8_change 62 = .ok (.aload_n 0, 1) := by decide +kernel
theorem dX8_change_63 : decode cX8_change 63 = .ok (.getfield 28, 3) := by decide +kernel
theorem dX8_change_66 : decode cX8_change 66 = .ok (.getfield 140, 3) := by decide +kernel
theorem dX8_change_69 : decode cX8_change 69 = .ok (.iload_n 1, 1) := by decide +kernel
theorem dX8_change_70 : decode cX8_change 70 = .ok (.iaload, 1) := by decide +kernel
theorem dX8_change_71 : decode cX8_change 71 = .ok (.ireturn, 1) := by decide +kernel
theorem dX8_change_72 : decode cX8_change 72 = .ok (.aload_n 0, 1) := by decide +kernel
theorem dX8_change_73 : decode cX8_change 73 = .ok (.getfield 28, 3) := by decide +kernel
theorem dX8_change_76 : decode cX8_change 76 = .ok (.getfield 143, 3) := by decide +kernel
theorem dX8_change_79 : decode cX8_change 79 = .ok (.iload_n 1, 1) := by decide +kernel
theorem dX8_change_80 : decode cX8_change 80 = .ok (.iaload, 1) := by decide +kernel
theorem dX8_change_81 : decode cX8_change 81 = .ok (.ireturn, 1) := by decide +kernel
theorem dX8_change_82 : decode cX8_change 82 = .ok (.aload_n 0, 1) := by decide +kernel
theorem dX8_change_83 : decode cX8_change 83 = .ok (.getfield 28, 3) := by decide +kernel
theorem dX8_change_86 : decode cX8_change 86 = .ok (.iload_n 1, 1) := by decide +kernel
theorem dX8_change_87 : decode cX8_change 87 = .ok (.invokevirtual 146, 3) := by decide +kernel
theorem dX8_change_90 : decode cX8_change 90 = .ok (.ireturn, 1) := by decide +kernel
theorem dX8_change_91 : decode cX8_change 91 = .ok (.aload_n 0, 1) := by decide +kernel
theorem dX8_change_92 : decode cX8_change 92 = .ok (.getfield 28, 3) := by decide +kernel
theorem dX8_change_95 : decode cX8_change 95 = .ok (.iload_n 1, 1) := by decide +kernel
theorem dX8_change_96 : decode cX8_change 96 = .ok (.invokevirtual 150, 3) := by decide +kernel
theorem dX8_change_99 : decode cX8_change 99 = .ok (.ireturn, 1) := by decide +kernel
theorem dX8_change_100 : decode cX8_change 100 = .ok (.sipush (-1002), 3) := by decide +kernel
theorem dX8_change_103 : decode cX8_change 103 = .ok (.ireturn, 1) := by decide +kernel
theorem dX8_sets_0 : decode cX8_sets 0 = .ok (.aload_n 0, 1) := by decide +kernel
theorem dX8_sets_1 : decode cX8_sets 1 = .ok (.getfield 28, 3) := by decide +kernel
theorem dX8_sets_4 : decode cX8_sets 4 = .ok (.iload_n 1, 1) := by decide +kernel
theorem dX8_sets_5 : decode cX8_sets 5 = .ok (.invokevirtual 132, 3) := by decide +kernel
theorem dX8_sets_8 : decode cX8_sets 8 = .ok (.ifCond .eq 10, 3) := by decide +kernel
theorem dX8_sets_11 : decode cX8_sets 11 = .ok (.iload_n 2, 1) := by decide +kernel
theorem dX8_sets_12 : decode cX8_sets 12 = .ok (.invokestatic 153, 3) := by decide +kernel
theorem dX8_sets_15 : decode cX8_sets 15 = .ok (.ifCond .ne 7, 3) := by decide +kernel
theorem dX8_sets_18 : decode cX8_sets 18 = .ok (.sipush (-1001), 3) := by decide +kernel
theorem dX8_sets_21 : decode cX8_sets 21 = .ok (.ireturn, 1) := by decide +kernel
theorem dX8_sets_22 : decode cX8_sets 22 = .ok (.aload_n 0, 1) := by decide +kernel
theorem dX8_sets_23 : decode cX8_sets 23 = .ok (.getfield 28, 3) := by decide +kernel
theorem dX8_sets_26 : decode cX8_sets 26 = .ok (.getfield 156, 3) := by decide +kernel
theorem dX8_sets_29 : decode cX8_sets 29 = .ok (.iload_n 1, 1) := by decide +kernel
theorem dX8_sets_30 : decode cX8_sets 30 = .ok (.bipush 16, 2) := by decide +kernel
theorem dX8_sets_32 : decode cX8_sets 32 = .ok (.imul, 1) := by decide +kernel
theorem dX8_sets_33 : decode cX8_sets 33 = .ok (.iload_n 2, 1) := by decide +kernel
theorem dX8_sets_34 : decode cX8_sets 34 = .ok (.iadd, 1) := by decide +kernel
theorem dX8_sets_35 : decode cX8_sets 35 = .ok (.iaload, 1) := by decide +kernel
theorem dX8_sets_36 : decode cX8_sets 36 = .ok (.ireturn, 1) := by decide +kernel
theorem dX8_ahead_0 : decode cX8_ahead 0 = .ok (.iload_n 1, 1) := by decide +kernel
theorem dX8_ahead_1 : decode cX8_ahead 1 = .ok (.ifCond .lt 21, 3) := by decide +kernel
theorem dX8_ahead_4 : decode cX8_ahead 4 = .ok (.iload_n 1, 1) := by decide +kernel
theorem dX8_ahead_5 : decode cX8_ahead 5 = .ok (.aload_n 0, 1) := by decide +kernel
theorem dX8_ahead_6 : decode cX8_ahead 6 = .ok (.getfield 28, 3) := by decide +kernel
theorem dX8_ahead_9 : decode cX8_ahead 9 = .ok (.getfield 122, 3) := by decide +kernel
theorem dX8_ahead_12 : decode cX8_ahead 12 = .ok (.if_icmp .gt 10, 3) := by decide +kernel
theorem dX8_ahead_15 : decode cX8_ahead 15 = .ok (.iload_n 2, 1) := by decide +kernel
theorem dX8_ahead_16 : decode cX8_ahead 16 = .ok (.invokestatic 153, 3) := by decide +kernel
theorem dX8_ahead_19 : decode cX8_ahead 19 = .ok (.ifCond .ne 7, 3) := by decide +kernel
theorem dX8_ahead_22 : decode cX8_ahead 22 = .ok (.sipush (-1001), 3) := by decide +kernel
theorem dX8_ahead_25 : decode cX8_ahead 25 = .ok (.ireturn, 1) := by decide +kernel
theorem dX8_ahead_26 : decode cX8_ahead 26 = .ok (.aload_n 0, 1) := by decide +kernel
theorem dX8_ahead_27 : decode cX8_ahead 27 = .ok (.getfield 28, 3) := by decide +kernel
theorem dX8_ahead_30 : decode cX8_ahead 30 = .ok (.getfield 159, 3) := by decide +kernel
theorem dX8_ahead_33 : decode cX8_ahead 33 = .ok (.iload_n 1, 1) := by decide +kernel
theorem dX8_ahead_34 : decode cX8_ahead 34 = .ok (.bipush 16, 2) := by decide +kernel
theorem dX8_ahead_36 : decode cX8_ahead 36 = .ok (.imul, 1) := by decide +kernel
theorem dX8_ahead_37 : decode cX8_ahead 37 = .ok (.iload_n 2, 1) := by decide +kernel
theorem dX8_ahead_38 : decode cX8_ahead 38 = .ok (.iadd, 1) := by decide +kernel
theorem dX8_ahead_39 : decode cX8_ahead 39 = .ok (.iaload, 1) := by decide +kernel
theorem dX8_ahead_40 : decode cX8_ahead 40 = .ok (.ireturn, 1) := by decide +kernel
theorem dX8_fault_0 : decode cX8_fault 0 = .ok (.aload_n 0, 1) := by decide +kernel
theorem dX8_fault_1 : decode cX8_fault 1 = .ok (.getfield 28, 3) := by decide +kernel
theorem dX8_fault_4 : decode cX8_fault 4 = .ok (.iload_n 1, 1) := by decide +kernel
theorem dX8_fault_5 : decode cX8_fault 5 = .ok (.invokevirtual 162, 3) := by decide +kernel
theorem dX8_fault_8 : decode cX8_fault 8 = .ok (.ifCond .ne 7, 3) := by decide +kernel
theorem dX8_fault_11 : decode cX8_fault 11 = .ok (.sipush (-1001), 3) := by decide +kernel
theorem dX8_fault_14 : decode cX8_fault 14 = .ok (.ireturn, 1) := by decide +kernel
theorem dX8_fault_15 : decode cX8_fault 15 = .ok (.iload_n 2, 1) := by decide +kernel
theorem dX8_fault_16 : decode cX8_fault 16 = .ok (.tableswitch 58 0 2 #[28, 38, 48], 28) := by decide +kernel
theorem dX8_fault_44 : decode cX8_fault 44 = .ok (.aload_n 0, 1) := by decide +kernel
theorem dX8_fault_45 : decode cX8_fault 45 = .ok (.getfield 28, 3) := by decide +kernel
theorem dX8_fault_48 : decode cX8_fault 48 = .ok (.getfield 165, 3) := by decide +kernel
theorem dX8_fault_51 : decode cX8_fault 51 = .ok (.iload_n 1, 1) := by decide +kernel
theorem dX8_fault_52 : decode cX8_fault 52 = .ok (.iaload, 1) := by decide +kernel
theorem dX8_fault_53 : decode cX8_fault 53 = .ok (.ireturn, 1) := by decide +kernel
theorem dX8_fault_54 : decode cX8_fault 54 = .ok (.aload_n 0, 1) := by decide +kernel
theorem dX8_fault_55 : decode cX8_fault 55 = .ok (.getfield 28, 3) := by decide +kernel
theorem dX8_fault_58 : decode cX8_fault 58 = .ok (.getfield 168, 3) := by decide +kernel
theorem dX8_fault_61 : decode cX8_fault 61 = .ok (.iload_n 1, 1) := by decide +kernel
theorem dX8_fault_62 : decode cX8_fault 62 = .ok (.iaload, 1) := by decide +kernel
theorem dX8_fault_63 : decode cX8_fault 63 = .ok (.ireturn, 1) := by decide +kernel
theorem dX8_fault_64 : decode cX8_fault 64 = .ok (.aload_n 0, 1) := by decide +kernel
theorem dX8_fault_65 : decode cX8_fault 65 = .ok (.getfield 28, 3) := by decide +kernel
theorem dX8_fault_68 : decode cX8_fault 68 = .ok (.getfield 171, 3) := by decide +kernel
theorem dX8_fault_71 : decode cX8_fault 71 = .ok (.iload_n 1, 1) := by decide +kernel
theorem dX8_fault_72 : decode cX8_fault 72 = .ok (.iaload, 1) := by decide +kernel
theorem dX8_fault_73 : decode cX8_fault 73 = .ok (.ireturn, 1) := by decide +kernel
theorem dX8_fault_74 : decode cX8_fault 74 = .ok (.sipush (-1002), 3) := by decide +kernel
theorem dX8_fault_77 : decode cX8_fault 77 = .ok (.ireturn, 1) := by decide +kernel
theorem dX8_count_0 : decode cX8_count 0 = .ok (.iload_n 1, 1) := by decide +kernel
theorem dX8_count_1 : decode cX8_count 1 = .ok (.tableswitch 75 0 4 #[35, 43, 51, 59, 67], 35) := by decide +kernel
theorem dX8_count_36 : decode cX8_count 36 = .ok (.aload_n 0, 1) := by decide +kernel
theorem dX8_count_37 : decode cX8_count 37 = .ok (.getfield 28, 3) := by decide +kernel
theorem dX8_count_40 : decode cX8_count 40 = .ok (.getfield 122, 3) := by decide +kernel
theorem dX8_count_43 : decode cX8_count 43 = .ok (.ireturn, 1) := by decide +kernel
theorem dX8_count_44 : decode cX8_count 44 = .ok (.aload_n 0, 1) := by decide +kernel
theorem dX8_count_45 : decode cX8_count 45 = .ok (.getfield 28, 3) := by decide +kernel
theorem dX8_count_48 : decode cX8_count 48 = .ok (.getfield 174, 3) := by decide +kernel
theorem dX8_count_51 : decode cX8_count 51 = .ok (.ireturn, 1) := by decide +kernel
theorem dX8_count_52 : decode cX8_count 52 = .ok (.aload_n 0, 1) := by decide +kernel
theorem dX8_count_53 : decode cX8_count 53 = .ok (.getfield 48, 3) := by decide +kernel
theorem dX8_count_56 : decode cX8_count 56 = .ok (.getfield 116, 3) := by decide +kernel
theorem dX8_count_59 : decode cX8_count 59 = .ok (.ireturn, 1) := by decide +kernel
theorem dX8_count_60 : decode cX8_count 60 = .ok (.aload_n 0, 1) := by decide +kernel
theorem dX8_count_61 : decode cX8_count 61 = .ok (.getfield 48, 3) := by decide +kernel
theorem dX8_count_64 : decode cX8_count 64 = .ok (.getfield 119, 3) := by decide +kernel
theorem dX8_count_67 : decode cX8_count 67 = .ok (.ireturn, 1) := by decide +kernel
theorem dX8_count_68 : decode cX8_count 68 = .ok (.aload_n 0, 1) := by decide +kernel
theorem dX8_count_69 : decode cX8_count 69 = .ok (.getfield 10, 3) := by decide +kernel
theorem dX8_count_72 : decode cX8_count 72 = .ok (.getfield 92, 3) := by decide +kernel
theorem dX8_count_75 : decode cX8_count 75 = .ok (.ireturn, 1) := by decide +kernel
theorem dX8_count_76 : decode cX8_count 76 = .ok (.sipush (-1002), 3) := by decide +kernel
theorem dX8_count_79 : decode cX8_count 79 = .ok (.ireturn, 1) := by decide +kernel
theorem dX8_cut_0 : decode cX8_cut 0 = .ok (.iload_n 1, 1) := by decide +kernel
theorem dX8_cut_1 : decode cX8_cut 1 = .ok (.ifCond .lt 14, 3) := by decide +kernel
theorem dX8_cut_4 : decode cX8_cut 4 = .ok (.iload_n 1, 1) := by decide +kernel
theorem dX8_cut_5 : decode cX8_cut 5 = .ok (.aload_n 0, 1) := by decide +kernel
theorem dX8_cut_6 : decode cX8_cut 6 = .ok (.getfield 28, 3) := by decide +kernel
theorem dX8_cut_9 : decode cX8_cut 9 = .ok (.getfield 122, 3) := by decide +kernel
theorem dX8_cut_12 : decode cX8_cut 12 = .ok (.if_icmp .le 7, 3) := by decide +kernel
theorem dX8_cut_15 : decode cX8_cut 15 = .ok (.sipush (-1002), 3) := by decide +kernel
theorem dX8_cut_18 : decode cX8_cut 18 = .ok (.ireturn, 1) := by decide +kernel
theorem dX8_cut_19 : decode cX8_cut 19 = .ok (.aload_n 0, 1) := by decide +kernel
theorem dX8_cut_20 : decode cX8_cut 20 = .ok (.getfield 48, 3) := by decide +kernel
theorem dX8_cut_23 : decode cX8_cut 23 = .ok (.getfield 116, 3) := by decide +kernel
theorem dX8_cut_26 : decode cX8_cut 26 = .ok (.iconst 4, 1) := by decide +kernel
theorem dX8_cut_27 : decode cX8_cut 27 = .ok (.if_icmp .lt 7, 3) := by decide +kernel
theorem dX8_cut_30 : decode cX8_cut 30 = .ok (.sipush (-1004), 3) := by decide +kernel
theorem dX8_cut_33 : decode cX8_cut 33 = .ok (.ireturn, 1) := by decide +kernel
theorem dX8_cut_34 : decode cX8_cut 34 = .ok (.aload_n 0, 1) := by decide +kernel
theorem dX8_cut_35 : decode cX8_cut 35 = .ok (.getfield 48, 3) := by decide +kernel
theorem dX8_cut_38 : decode cX8_cut 38 = .ok (.iload_n 1, 1) := by decide +kernel
theorem dX8_cut_39 : decode cX8_cut 39 = .ok (.aload_n 0, 1) := by decide +kernel
theorem dX8_cut_40 : decode cX8_cut 40 = .ok (.getfield 28, 3) := by decide +kernel
theorem dX8_cut_43 : decode cX8_cut 43 = .ok (.invokevirtual 177, 3) := by decide +kernel
theorem dX8_cut_46 : decode cX8_cut 46 = .ok (.ireturn, 1) := by decide +kernel
theorem dX8_line_0 : decode cX8_line 0 = .ok (.aload_n 0, 1) := by decide +kernel
theorem dX8_line_1 : decode cX8_line 1 = .ok (.getfield 48, 3) := by decide +kernel
theorem dX8_line_4 : decode cX8_line 4 = .ok (.iload_n 1, 1) := by decide +kernel
theorem dX8_line_5 : decode cX8_line 5 = .ok (.invokevirtual 181, 3) := by decide +kernel
theorem dX8_line_8 : decode cX8_line 8 = .ok (.ifCond .ne 7, 3) := by decide +kernel
theorem dX8_line_11 : decode cX8_line 11 = .ok (.sipush (-1001), 3) := by decide +kernel
theorem dX8_line_14 : decode cX8_line 14 = .ok (.ireturn, 1) := by decide +kernel
theorem dX8_line_15 : decode cX8_line 15 = .ok (.iload_n 2, 1) := by decide +kernel
theorem dX8_line_16 : decode cX8_line 16 = .ok (.tableswitch 100 0 4 #[36, 46, 56, 73, 90], 36) := by decide +kernel
theorem dX8_line_52 : decode cX8_line 52 = .ok (.aload_n 0, 1) := by decide +kernel
theorem dX8_line_53 : decode cX8_line 53 = .ok (.getfield 48, 3) := by decide +kernel
theorem dX8_line_56 : decode cX8_line 56 = .ok (.getfield 184, 3) := by decide +kernel
theorem dX8_line_59 : decode cX8_line 59 = .ok (.iload_n 1, 1) := by decide +kernel
theorem dX8_line_60 : decode cX8_line 60 = .ok (.iaload, 1) := by decide +kernel
theorem dX8_line_61 : decode cX8_line 61 = .ok (.ireturn, 1) := by decide +kernel
theorem dX8_line_62 : decode cX8_line 62 = .ok (.aload_n 0, 1) := by decide +kernel
theorem dX8_line_63 : decode cX8_line 63 = .ok (.getfield 48, 3) := by decide +kernel
theorem dX8_line_66 : decode cX8_line 66 = .ok (.getfield 187, 3) := by decide +kernel
theorem dX8_line_69 : decode cX8_line 69 = .ok (.iload_n 1, 1) := by decide +kernel
theorem dX8_line_70 : decode cX8_line 70 = .ok (.iaload, 1) := by decide +kernel
theorem dX8_line_71 : decode cX8_line 71 = .ok (.ireturn, 1) := by decide +kernel
theorem dX8_line_72 : decode cX8_line 72 = .ok (.aload_n 0, 1) := by decide +kernel
theorem dX8_line_73 : decode cX8_line 73 = .ok (.getfield 28, 3) := by decide +kernel
theorem dX8_line_76 : decode cX8_line 76 = .ok (.aload_n 0, 1) := by decide +kernel
theorem dX8_line_77 : decode cX8_line 77 = .ok (.getfield 48, 3) := by decide +kernel
theorem dX8_line_80 : decode cX8_line 80 = .ok (.getfield 187, 3) := by decide +kernel
theorem dX8_line_83 : decode cX8_line 83 = .ok (.iload_n 1, 1) := by decide +kernel
theorem dX8_line_84 : decode cX8_line 84 = .ok (.iaload, 1) := by decide +kernel
theorem dX8_line_85 : decode cX8_line 85 = .ok (.invokevirtual 190, 3) := by decide +kernel
theorem dX8_line_88 : decode cX8_line 88 = .ok (.ireturn, 1) := by decide +kernel
theorem dX8_line_89 : decode cX8_line 89 = .ok (.aload_n 0, 1) := by decide +kernel
theorem dX8_line_90 : decode cX8_line 90 = .ok (.getfield 28, 3) := by decide +kernel
theorem dX8_line_93 : decode cX8_line 93 = .ok (.aload_n 0, 1) := by decide +kernel
theorem dX8_line_94 : decode cX8_line 94 = .ok (.getfield 48, 3) := by decide +kernel
theorem dX8_line_97 : decode cX8_line 97 = .ok (.getfield 187, 3) := by decide +kernel
theorem dX8_line_100 : decode cX8_line 100 = .ok (.iload_n 1, 1) := by decide +kernel
theorem dX8_line_101 : decode cX8_line 101 = .ok (.iaload, 1) := by decide +kernel
theorem dX8_line_102 : decode cX8_line 102 = .ok (.invokevirtual 193, 3) := by decide +kernel
theorem dX8_line_105 : decode cX8_line 105 = .ok (.ireturn, 1) := by decide +kernel
theorem dX8_line_106 : decode cX8_line 106 = .ok (.aload_n 0, 1) := by decide +kernel
theorem dX8_line_107 : decode cX8_line 107 = .ok (.getfield 48, 3) := by decide +kernel
theorem dX8_line_110 : decode cX8_line 110 = .ok (.getfield 196, 3) := by decide +kernel
theorem dX8_line_113 : decode cX8_line 113 = .ok (.iload_n 1, 1) := by decide +kernel
theorem dX8_line_114 : decode cX8_line 114 = .ok (.iaload, 1) := by decide +kernel
theorem dX8_line_115 : decode cX8_line 115 = .ok (.ireturn, 1) := by decide +kernel
theorem dX8_line_116 : decode cX8_line 116 = .ok (.sipush (-1002), 3) := by decide +kernel
theorem dX8_line_119 : decode cX8_line 119 = .ok (.ireturn, 1) := by decide +kernel
theorem dX8_value_0 : decode cX8_value 0 = .ok (.aload_n 0, 1) := by decide +kernel
theorem dX8_value_1 : decode cX8_value 1 = .ok (.getfield 48, 3) := by decide +kernel
theorem dX8_value_4 : decode cX8_value 4 = .ok (.iload_n 1, 1) := by decide +kernel
theorem dX8_value_5 : decode cX8_value 5 = .ok (.invokevirtual 181, 3) := by decide +kernel
theorem dX8_value_8 : decode cX8_value 8 = .ok (.ifCond .eq 10, 3) := by decide +kernel
theorem dX8_value_11 : decode cX8_value 11 = .ok (.iload_n 2, 1) := by decide +kernel
theorem dX8_value_12 : decode cX8_value 12 = .ok (.invokestatic 153, 3) := by decide +kernel
theorem dX8_value_15 : decode cX8_value 15 = .ok (.ifCond .ne 7, 3) := by decide +kernel
theorem dX8_value_18 : decode cX8_value 18 = .ok (.sipush (-1001), 3) := by decide +kernel
theorem dX8_value_21 : decode cX8_value 21 = .ok (.ireturn, 1) := by decide +kernel
theorem dX8_value_22 : decode cX8_value 22 = .ok (.aload_n 0, 1) := by decide +kernel
theorem dX8_value_23 : decode cX8_value 23 = .ok (.getfield 48, 3) := by decide +kernel
theorem dX8_value_26 : decode cX8_value 26 = .ok (.getfield 199, 3) := by decide +kernel
theorem dX8_value_29 : decode cX8_value 29 = .ok (.iload_n 1, 1) := by decide +kernel
theorem dX8_value_30 : decode cX8_value 30 = .ok (.bipush 16, 2) := by decide +kernel
theorem dX8_value_32 : decode cX8_value 32 = .ok (.imul, 1) := by decide +kernel
theorem dX8_value_33 : decode cX8_value 33 = .ok (.iload_n 2, 1) := by decide +kernel
theorem dX8_value_34 : decode cX8_value 34 = .ok (.iadd, 1) := by decide +kernel
theorem dX8_value_35 : decode cX8_value 35 = .ok (.iaload, 1) := by decide +kernel
theorem dX8_value_36 : decode cX8_value 36 = .ok (.ireturn, 1) := by decide +kernel
theorem dX8_clash_0 : decode cX8_clash 0 = .ok (.aload_n 0, 1) := by decide +kernel
theorem dX8_clash_1 : decode cX8_clash 1 = .ok (.getfield 48, 3) := by decide +kernel
theorem dX8_clash_4 : decode cX8_clash 4 = .ok (.iload_n 1, 1) := by decide +kernel
theorem dX8_clash_5 : decode cX8_clash 5 = .ok (.invokevirtual 181, 3) := by decide +kernel
theorem dX8_clash_8 : decode cX8_clash 8 = .ok (.ifCond .eq 14, 3) := by decide +kernel
theorem dX8_clash_11 : decode cX8_clash 11 = .ok (.aload_n 0, 1) := by decide +kernel
theorem dX8_clash_12 : decode cX8_clash 12 = .ok (.getfield 28, 3) := by decide +kernel
theorem dX8_clash_15 : decode cX8_clash 15 = .ok (.iload_n 2, 1) := by decide +kernel
theorem dX8_clash_16 : decode cX8_clash 16 = .ok (.invokevirtual 132, 3) := by decide +kernel
theorem dX8_clash_19 : decode cX8_clash 19 = .ok (.ifCond .ne 7, 3) := by decide +kernel
theorem dX8_clash_22 : decode cX8_clash 22 = .ok (.sipush (-1001), 3) := by decide +kernel
theorem dX8_clash_25 : decode cX8_clash 25 = .ok (.ireturn, 1) := by decide +kernel
theorem dX8_clash_26 : decode cX8_clash 26 = .ok (.aload_n 0, 1) := by decide +kernel
theorem dX8_clash_27 : decode cX8_clash 27 = .ok (.getfield 48, 3) := by decide +kernel
theorem dX8_clash_30 : decode cX8_clash 30 = .ok (.getfield 187, 3) := by decide +kernel
theorem dX8_clash_33 : decode cX8_clash 33 = .ok (.iload_n 1, 1) := by decide +kernel
theorem dX8_clash_34 : decode cX8_clash 34 = .ok (.iaload, 1) := by decide +kernel
theorem dX8_clash_35 : decode cX8_clash 35 = .ok (.iload_n 2, 1) := by decide +kernel
theorem dX8_clash_36 : decode cX8_clash 36 = .ok (.invokestatic 202, 3) := by decide +kernel
theorem dX8_clash_39 : decode cX8_clash 39 = .ok (.ifCond .eq 7, 3) := by decide +kernel
theorem dX8_clash_42 : decode cX8_clash 42 = .ok (.sipush (-1003), 3) := by decide +kernel
theorem dX8_clash_45 : decode cX8_clash 45 = .ok (.ireturn, 1) := by decide +kernel
theorem dX8_clash_46 : decode cX8_clash 46 = .ok (.aload_n 0, 1) := by decide +kernel
theorem dX8_clash_47 : decode cX8_clash 47 = .ok (.getfield 28, 3) := by decide +kernel
theorem dX8_clash_50 : decode cX8_clash 50 = .ok (.iload_n 2, 1) := by decide +kernel
theorem dX8_clash_51 : decode cX8_clash 51 = .ok (.aload_n 0, 1) := by decide +kernel
theorem dX8_clash_52 : decode cX8_clash 52 = .ok (.getfield 48, 3) := by decide +kernel
theorem dX8_clash_55 : decode cX8_clash 55 = .ok (.getfield 199, 3) := by decide +kernel
theorem dX8_clash_58 : decode cX8_clash 58 = .ok (.iload_n 1, 1) := by decide +kernel
theorem dX8_clash_59 : decode cX8_clash 59 = .ok (.invokevirtual 206, 3) := by decide +kernel
theorem dX8_clash_62 : decode cX8_clash 62 = .ok (.ireturn, 1) := by decide +kernel
theorem dX8_pick_0 : decode cX8_pick 0 = .ok (.aload_n 0, 1) := by decide +kernel
theorem dX8_pick_1 : decode cX8_pick 1 = .ok (.getfield 48, 3) := by decide +kernel
theorem dX8_pick_4 : decode cX8_pick 4 = .ok (.iload_n 1, 1) := by decide +kernel
theorem dX8_pick_5 : decode cX8_pick 5 = .ok (.invokevirtual 181, 3) := by decide +kernel
theorem dX8_pick_8 : decode cX8_pick 8 = .ok (.ifCond .eq 14, 3) := by decide +kernel
theorem dX8_pick_11 : decode cX8_pick 11 = .ok (.aload_n 0, 1) := by decide +kernel
theorem dX8_pick_12 : decode cX8_pick 12 = .ok (.getfield 28, 3) := by decide +kernel
theorem dX8_pick_15 : decode cX8_pick 15 = .ok (.iload_n 2, 1) := by decide +kernel
theorem dX8_pick_16 : decode cX8_pick 16 = .ok (.invokevirtual 132, 3) := by decide +kernel
theorem dX8_pick_19 : decode cX8_pick 19 = .ok (.ifCond .ne 7, 3) := by decide +kernel
theorem dX8_pick_22 : decode cX8_pick 22 = .ok (.sipush (-1001), 3) := by decide +kernel
theorem dX8_pick_25 : decode cX8_pick 25 = .ok (.ireturn, 1) := by decide +kernel
theorem dX8_pick_26 : decode cX8_pick 26 = .ok (.aload_n 0, 1) := by decide +kernel
theorem dX8_pick_27 : decode cX8_pick 27 = .ok (.getfield 48, 3) := by decide +kernel
theorem dX8_pick_30 : decode cX8_pick 30 = .ok (.getfield 187, 3) := by decide +kernel
theorem dX8_pick_33 : decode cX8_pick 33 = .ok (.iload_n 1, 1) := by decide +kernel
theorem dX8_pick_34 : decode cX8_pick 34 = .ok (.iaload, 1) := by decide +kernel
theorem dX8_pick_35 : decode cX8_pick 35 = .ok (.iload_n 2, 1) := by decide +kernel
theorem dX8_pick_36 : decode cX8_pick 36 = .ok (.invokestatic 202, 3) := by decide +kernel
theorem dX8_pick_39 : decode cX8_pick 39 = .ok (.ifCond .ne 22, 3) := by decide +kernel
theorem dX8_pick_42 : decode cX8_pick 42 = .ok (.aload_n 0, 1) := by decide +kernel
theorem dX8_pick_43 : decode cX8_pick 43 = .ok (.getfield 28, 3) := by decide +kernel
theorem dX8_pick_46 : decode cX8_pick 46 = .ok (.iload_n 2, 1) := by decide +kernel
theorem dX8_pick_47 : decode cX8_pick 47 = .ok (.aload_n 0, 1) := by decide +kernel
theorem dX8_pick_48 : decode cX8_pick 48 = .ok (.getfield 48, 3) := by decide +kernel
theorem dX8_pick_51 : decode cX8_pick 51 = .ok (.getfield 199, 3) := by decide +kernel
theorem dX8_pick_54 : decode cX8_pick 54 = .ok (.iload_n 1, 1) := by decide +kernel
theorem dX8_pick_55 : decode cX8_pick 55 = .ok (.invokevirtual 206, 3) := by decide +kernel
theorem dX8_pick_58 : decode cX8_pick 58 = .ok (.ifCond .eq 7, 3) := by decide +kernel
theorem dX8_pick_61 : decode cX8_pick 61 = .ok (.sipush (-1003), 3) := by decide +kernel
theorem dX8_pick_64 : decode cX8_pick 64 = .ok (.ireturn, 1) := by decide +kernel
theorem dX8_pick_65 : decode cX8_pick 65 = .ok (.aload_n 0, 1) := by decide +kernel
theorem dX8_pick_66 : decode cX8_pick 66 = .ok (.getfield 48, 3) := by decide +kernel
theorem dX8_pick_69 : decode cX8_pick 69 = .ok (.iload_n 1, 1) := by decide +kernel
theorem dX8_pick_70 : decode cX8_pick 70 = .ok (.iload_n 2, 1) := by decide +kernel
theorem dX8_pick_71 : decode cX8_pick 71 = .ok (.aload_n 0, 1) := by decide +kernel
theorem dX8_pick_72 : decode cX8_pick 72 = .ok (.getfield 28, 3) := by decide +kernel
theorem dX8_pick_75 : decode cX8_pick 75 = .ok (.invokevirtual 210, 3) := by decide +kernel
theorem dX8_pick_78 : decode cX8_pick 78 = .ok (.aload_n 0, 1) := by decide +kernel
theorem dX8_pick_79 : decode cX8_pick 79 = .ok (.getfield 48, 3) := by decide +kernel
theorem dX8_pick_82 : decode cX8_pick 82 = .ok (.getfield 187, 3) := by decide +kernel
theorem dX8_pick_85 : decode cX8_pick 85 = .ok (.iload_n 1, 1) := by decide +kernel
theorem dX8_pick_86 : decode cX8_pick 86 = .ok (.iaload, 1) := by decide +kernel
theorem dX8_pick_87 : decode cX8_pick 87 = .ok (.invokestatic 214, 3) := by decide +kernel
theorem dX8_pick_90 : decode cX8_pick 90 = .ok (.ireturn, 1) := by decide +kernel
theorem dX8_undo_0 : decode cX8_undo 0 = .ok (.aload_n 0, 1) := by decide +kernel
theorem dX8_undo_1 : decode cX8_undo 1 = .ok (.getfield 48, 3) := by decide +kernel
theorem dX8_undo_4 : decode cX8_undo 4 = .ok (.iload_n 1, 1) := by decide +kernel
theorem dX8_undo_5 : decode cX8_undo 5 = .ok (.invokevirtual 181, 3) := by decide +kernel
theorem dX8_undo_8 : decode cX8_undo 8 = .ok (.ifCond .eq 14, 3) := by decide +kernel
theorem dX8_undo_11 : decode cX8_undo 11 = .ok (.aload_n 0, 1) := by decide +kernel
theorem dX8_undo_12 : decode cX8_undo 12 = .ok (.getfield 28, 3) := by decide +kernel
theorem dX8_undo_15 : decode cX8_undo 15 = .ok (.iload_n 2, 1) := by decide +kernel
theorem dX8_undo_16 : decode cX8_undo 16 = .ok (.invokevirtual 132, 3) := by decide +kernel
theorem dX8_undo_19 : decode cX8_undo 19 = .ok (.ifCond .ne 7, 3) := by decide +kernel
theorem dX8_undo_22 : decode cX8_undo 22 = .ok (.sipush (-1001), 3) := by decide +kernel
theorem dX8_undo_25 : decode cX8_undo 25 = .ok (.ireturn, 1) := by decide +kernel
theorem dX8_undo_26 : decode cX8_undo 26 = .ok (.aload_n 0, 1) := by decide +kernel
theorem dX8_undo_27 : decode cX8_undo 27 = .ok (.getfield 48, 3) := by decide +kernel
theorem dX8_undo_30 : decode cX8_undo 30 = .ok (.getfield 187, 3) := by decide +kernel
theorem dX8_undo_33 : decode cX8_undo 33 = .ok (.iload_n 1, 1) := by decide +kernel
theorem dX8_undo_34 : decode cX8_undo 34 = .ok (.iaload, 1) := by decide +kernel
theorem dX8_undo_35 : decode cX8_undo 35 = .ok (.iload_n 2, 1) := by decide +kernel
theorem dX8_undo_36 : decode cX8_undo 36 = .ok (.invokestatic 202, 3) := by decide +kernel
theorem dX8_undo_39 : decode cX8_undo 39 = .ok (.ifCond .eq 22, 3) := by decide +kernel
theorem dX8_undo_42 : decode cX8_undo 42 = .ok (.aload_n 0, 1) := by decide +kernel
theorem dX8_undo_43 : decode cX8_undo 43 = .ok (.getfield 28, 3) := by decide +kernel
theorem dX8_undo_46 : decode cX8_undo 46 = .ok (.iload_n 2, 1) := by decide +kernel
theorem dX8_undo_47 : decode cX8_undo 47 = .ok (.aload_n 0, 1) := by decide +kernel
theorem dX8_undo_48 : decode cX8_undo 48 = .ok (.getfield 48, 3) := by decide +kernel
theorem dX8_undo_51 : decode cX8_undo 51 = .ok (.getfield 199, 3) := by decide +kernel
theorem dX8_undo_54 : decode cX8_undo 54 = .ok (.iload_n 1, 1) := by decide +kernel
theorem dX8_undo_55 : decode cX8_undo 55 = .ok (.invokevirtual 219, 3) := by decide +kernel
theorem dX8_undo_58 : decode cX8_undo 58 = .ok (.ifCond .ne 7, 3) := by decide +kernel
theorem dX8_undo_61 : decode cX8_undo 61 = .ok (.sipush (-1003), 3) := by decide +kernel
theorem dX8_undo_64 : decode cX8_undo 64 = .ok (.ireturn, 1) := by decide +kernel
theorem dX8_undo_65 : decode cX8_undo 65 = .ok (.aload_n 0, 1) := by decide +kernel
theorem dX8_undo_66 : decode cX8_undo 66 = .ok (.getfield 48, 3) := by decide +kernel
theorem dX8_undo_69 : decode cX8_undo 69 = .ok (.iload_n 1, 1) := by decide +kernel
theorem dX8_undo_70 : decode cX8_undo 70 = .ok (.iload_n 2, 1) := by decide +kernel
theorem dX8_undo_71 : decode cX8_undo 71 = .ok (.aload_n 0, 1) := by decide +kernel
theorem dX8_undo_72 : decode cX8_undo 72 = .ok (.getfield 28, 3) := by decide +kernel
theorem dX8_undo_75 : decode cX8_undo 75 = .ok (.invokevirtual 223, 3) := by decide +kernel
theorem dX8_undo_78 : decode cX8_undo 78 = .ok (.aload_n 0, 1) := by decide +kernel
theorem dX8_undo_79 : decode cX8_undo 79 = .ok (.getfield 48, 3) := by decide +kernel
theorem dX8_undo_82 : decode cX8_undo 82 = .ok (.getfield 187, 3) := by decide +kernel
theorem dX8_undo_85 : decode cX8_undo 85 = .ok (.iload_n 1, 1) := by decide +kernel
theorem dX8_undo_86 : decode cX8_undo 86 = .ok (.iaload, 1) := by decide +kernel
theorem dX8_undo_87 : decode cX8_undo 87 = .ok (.invokestatic 214, 3) := by decide +kernel
theorem dX8_undo_90 : decode cX8_undo 90 = .ok (.ireturn, 1) := by decide +kernel
theorem dX8_needs_0 : decode cX8_needs 0 = .ok (.aload_n 0, 1) := by decide +kernel
theorem dX8_needs_1 : decode cX8_needs 1 = .ok (.getfield 48, 3) := by decide +kernel
theorem dX8_needs_4 : decode cX8_needs 4 = .ok (.iload_n 1, 1) := by decide +kernel
theorem dX8_needs_5 : decode cX8_needs 5 = .ok (.invokevirtual 181, 3) := by decide +kernel
theorem dX8_needs_8 : decode cX8_needs 8 = .ok (.ifCond .eq 14, 3) := by decide +kernel
theorem dX8_needs_11 : decode cX8_needs 11 = .ok (.aload_n 0, 1) := by decide +kernel
theorem dX8_needs_12 : decode cX8_needs 12 = .ok (.getfield 28, 3) := by decide +kernel
theorem dX8_needs_15 : decode cX8_needs 15 = .ok (.iload_n 2, 1) := by decide +kernel
theorem dX8_needs_16 : decode cX8_needs 16 = .ok (.invokevirtual 132, 3) := by decide +kernel
theorem dX8_needs_19 : decode cX8_needs 19 = .ok (.ifCond .ne 7, 3) := by decide +kernel
theorem dX8_needs_22 : decode cX8_needs 22 = .ok (.sipush (-1001), 3) := by decide +kernel
theorem dX8_needs_25 : decode cX8_needs 25 = .ok (.ireturn, 1) := by decide +kernel
theorem dX8_needs_26 : decode cX8_needs 26 = .ok (.aload_n 0, 1) := by decide +kernel
theorem dX8_needs_27 : decode cX8_needs 27 = .ok (.getfield 63, 3) := by decide +kernel
theorem dX8_needs_30 : decode cX8_needs 30 = .ok (.iload_n 1, 1) := by decide +kernel
theorem dX8_needs_31 : decode cX8_needs 31 = .ok (.iload_n 2, 1) := by decide +kernel
theorem dX8_needs_32 : decode cX8_needs 32 = .ok (.invokevirtual 226, 3) := by decide +kernel
theorem dX8_needs_35 : decode cX8_needs 35 = .ok (.ireturn, 1) := by decide +kernel
theorem dX8_carry_0 : decode cX8_carry 0 = .ok (.aload_n 0, 1) := by decide +kernel
theorem dX8_carry_1 : decode cX8_carry 1 = .ok (.getfield 48, 3) := by decide +kernel
theorem dX8_carry_4 : decode cX8_carry 4 = .ok (.iload_n 1, 1) := by decide +kernel
theorem dX8_carry_5 : decode cX8_carry 5 = .ok (.invokevirtual 181, 3) := by decide +kernel
theorem dX8_carry_8 : decode cX8_carry 8 = .ok (.ifCond .eq 14, 3) := by decide +kernel
theorem dX8_carry_11 : decode cX8_carry 11 = .ok (.aload_n 0, 1) := by decide +kernel
theorem dX8_carry_12 : decode cX8_carry 12 = .ok (.getfield 28, 3) := by decide +kernel
theorem dX8_carry_15 : decode cX8_carry 15 = .ok (.iload_n 2, 1) := by decide +kernel
theorem dX8_carry_16 : decode cX8_carry 16 = .ok (.invokevirtual 132, 3) := by decide +kernel
theorem dX8_carry_19 : decode cX8_carry 19 = .ok (.ifCond .ne 7, 3) := by decide +kernel
theorem dX8_carry_22 : decode cX8_carry 22 = .ok (.sipush (-1001), 3) := by decide +kernel
theorem dX8_carry_25 : decode cX8_carry 25 = .ok (.ireturn, 1) := by decide +kernel
theorem dX8_carry_26 : decode cX8_carry 26 = .ok (.aload_n 0, 1) := by decide +kernel
theorem dX8_carry_27 : decode cX8_carry 27 = .ok (.getfield 63, 3) := by decide +kernel
theorem dX8_carry_30 : decode cX8_carry 30 = .ok (.iload_n 1, 1) := by decide +kernel
theorem dX8_carry_31 : decode cX8_carry 31 = .ok (.iload_n 2, 1) := by decide +kernel
theorem dX8_carry_32 : decode cX8_carry 32 = .ok (.invokevirtual 226, 3) := by decide +kernel
theorem dX8_carry_35 : decode cX8_carry 35 = .ok (.istore_n 3, 1) := by decide +kernel
theorem dX8_carry_36 : decode cX8_carry 36 = .ok (.iload_n 3, 1) := by decide +kernel
theorem dX8_carry_37 : decode cX8_carry 37 = .ok (.iconst (-1), 1) := by decide +kernel
theorem dX8_carry_38 : decode cX8_carry 38 = .ok (.if_icmp .ne 7, 3) := by decide +kernel
theorem dX8_carry_41 : decode cX8_carry 41 = .ok (.sipush (-1003), 3) := by decide +kernel
theorem dX8_carry_44 : decode cX8_carry 44 = .ok (.ireturn, 1) := by decide +kernel
theorem dX8_carry_45 : decode cX8_carry 45 = .ok (.iload_n 3, 1) := by decide +kernel
theorem dX8_carry_46 : decode cX8_carry 46 = .ok (.iconst 1, 1) := by decide +kernel
theorem dX8_carry_47 : decode cX8_carry 47 = .ok (.iload_n 2, 1) := by decide +kernel
theorem dX8_carry_48 : decode cX8_carry 48 = .ok (.ishl, 1) := by decide +kernel
theorem dX8_carry_49 : decode cX8_carry 49 = .ok (.ior, 1) := by decide +kernel
theorem dX8_carry_50 : decode cX8_carry 50 = .ok (.istore 4, 2) := by decide +kernel
theorem dX8_carry_52 : decode cX8_carry 52 = .ok (.iconst 0, 1) := by decide +kernel
theorem dX8_carry_53 : decode cX8_carry 53 = .ok (.istore 5, 2) := by decide +kernel
theorem dX8_carry_55 : decode cX8_carry 55 = .ok (.iload 5, 2) := by decide +kernel
theorem dX8_carry_57 : decode cX8_carry 57 = .ok (.aload_n 0, 1) := by decide +kernel
theorem dX8_carry_58 : decode cX8_carry 58 = .ok (.getfield 28, 3) := by decide +kernel
theorem dX8_carry_61 : decode cX8_carry 61 = .ok (.getfield 122, 3) := by decide +kernel
theorem dX8_carry_64 : decode cX8_carry 64 = .ok (.if_icmp .ge 33, 3) := by decide +kernel
theorem dX8_carry_67 : decode cX8_carry 67 = .ok (.iload 4, 2) := by decide +kernel
theorem dX8_carry_69 : decode cX8_carry 69 = .ok (.iload 5, 2) := by decide +kernel
theorem dX8_carry_71 : decode cX8_carry 71 = .ok (.invokestatic 202, 3) := by decide +kernel
theorem dX8_carry_74 : decode cX8_carry 74 = .ok (.ifCond .eq 17, 3) := by decide +kernel
theorem dX8_carry_77 : decode cX8_carry 77 = .ok (.aload_n 0, 1) := by decide +kernel
theorem dX8_carry_78 : decode cX8_carry 78 = .ok (.getfield 48, 3) := by decide +kernel
theorem dX8_carry_81 : decode cX8_carry 81 = .ok (.iload_n 1, 1) := by decide +kernel
theorem dX8_carry_82 : decode cX8_carry 82 = .ok (.iload 5, 2) := by decide +kernel
theorem dX8_carry_84 : decode cX8_carry 84 = .ok (.aload_n 0, 1) := by decide +kernel
theorem dX8_carry_85 : decode cX8_carry 85 = .ok (.getfield 28, 3) := by decide +kernel
theorem dX8_carry_88 : decode cX8_carry 88 = .ok (.invokevirtual 210, 3) := by decide +kernel
theorem dX8_carry_91 : decode cX8_carry 91 = .ok (.iinc 5 1, 3) := by decide +kernel
theorem dX8_carry_94 : decode cX8_carry 94 = .ok (.goto (-39), 3) := by decide +kernel
theorem dX8_carry_97 : decode cX8_carry 97 = .ok (.iload 4, 2) := by decide +kernel
theorem dX8_carry_99 : decode cX8_carry 99 = .ok (.invokestatic 214, 3) := by decide +kernel
theorem dX8_carry_102 : decode cX8_carry 102 = .ok (.ireturn, 1) := by decide +kernel
theorem dX8_apart_0 : decode cX8_apart 0 = .ok (.aload_n 0, 1) := by decide +kernel
theorem dX8_apart_1 : decode cX8_apart 1 = .ok (.getfield 48, 3) := by decide +kernel
theorem dX8_apart_4 : decode cX8_apart 4 = .ok (.iload_n 1, 1) := by decide +kernel
theorem dX8_apart_5 : decode cX8_apart 5 = .ok (.invokevirtual 181, 3) := by decide +kernel
theorem dX8_apart_8 : decode cX8_apart 8 = .ok (.ifCond .eq 30, 3) := by decide +kernel
theorem dX8_apart_11 : decode cX8_apart 11 = .ok (.aload_n 0, 1) := by decide +kernel
theorem dX8_apart_12 : decode cX8_apart 12 = .ok (.getfield 28, 3) := by decide +kernel
theorem dX8_apart_15 : decode cX8_apart 15 = .ok (.iload_n 2, 1) := by decide +kernel
theorem dX8_apart_16 : decode cX8_apart 16 = .ok (.invokevirtual 132, 3) := by decide +kernel
theorem dX8_apart_19 : decode cX8_apart 19 = .ok (.ifCond .eq 19, 3) := by decide +kernel
theorem dX8_apart_22 : decode cX8_apart 22 = .ok (.aload_n 0, 1) := by decide +kernel
theorem dX8_apart_23 : decode cX8_apart 23 = .ok (.getfield 28, 3) := by decide +kernel
theorem dX8_apart_26 : decode cX8_apart 26 = .ok (.iload_n 3, 1) := by decide +kernel
theorem dX8_apart_27 : decode cX8_apart 27 = .ok (.invokevirtual 132, 3) := by decide +kernel
theorem dX8_apart_30 : decode cX8_apart 30 = .ok (.ifCond .eq 8, 3) := by decide +kernel
theorem dX8_apart_33 : decode cX8_apart 33 = .ok (.iload_n 2, 1) := by decide +kernel
theorem dX8_apart_34 : decode cX8_apart 34 = .ok (.iload_n 3, 1) := by decide +kernel
theorem dX8_apart_35 : decode cX8_apart 35 = .ok (.if_icmp .ne 7, 3) := by decide +kernel
theorem dX8_apart_38 : decode cX8_apart 38 = .ok (.sipush (-1001), 3) := by decide +kernel
theorem dX8_apart_41 : decode cX8_apart 41 = .ok (.ireturn, 1) := by decide +kernel
theorem dX8_apart_42 : decode cX8_apart 42 = .ok (.aload_n 0, 1) := by decide +kernel
theorem dX8_apart_43 : decode cX8_apart 43 = .ok (.getfield 48, 3) := by decide +kernel
theorem dX8_apart_46 : decode cX8_apart 46 = .ok (.getfield 187, 3) := by decide +kernel
theorem dX8_apart_49 : decode cX8_apart 49 = .ok (.iload_n 1, 1) := by decide +kernel
theorem dX8_apart_50 : decode cX8_apart 50 = .ok (.iaload, 1) := by decide +kernel
theorem dX8_apart_51 : decode cX8_apart 51 = .ok (.iload_n 2, 1) := by decide +kernel
theorem dX8_apart_52 : decode cX8_apart 52 = .ok (.invokestatic 202, 3) := by decide +kernel
theorem dX8_apart_55 : decode cX8_apart 55 = .ok (.ifCond .ne 19, 3) := by decide +kernel
theorem dX8_apart_58 : decode cX8_apart 58 = .ok (.aload_n 0, 1) := by decide +kernel
theorem dX8_apart_59 : decode cX8_apart 59 = .ok (.getfield 48, 3) := by decide +kernel
theorem dX8_apart_62 : decode cX8_apart 62 = .ok (.getfield 187, 3) := by decide +kernel
theorem dX8_apart_65 : decode cX8_apart 65 = .ok (.iload_n 1, 1) := by decide +kernel
theorem dX8_apart_66 : decode cX8_apart 66 = .ok (.iaload, 1) := by decide +kernel
theorem dX8_apart_67 : decode cX8_apart 67 = .ok (.iload_n 3, 1) := by decide +kernel
theorem dX8_apart_68 : decode cX8_apart 68 = .ok (.invokestatic 202, 3) := by decide +kernel
theorem dX8_apart_71 : decode cX8_apart 71 = .ok (.ifCond .eq 7, 3) := by decide +kernel
theorem dX8_apart_74 : decode cX8_apart 74 = .ok (.sipush (-1003), 3) := by decide +kernel
theorem dX8_apart_77 : decode cX8_apart 77 = .ok (.ireturn, 1) := by decide +kernel
theorem dX8_apart_78 : decode cX8_apart 78 = .ok (.aload_n 0, 1) := by decide +kernel
theorem dX8_apart_79 : decode cX8_apart 79 = .ok (.getfield 63, 3) := by decide +kernel
theorem dX8_apart_82 : decode cX8_apart 82 = .ok (.iload_n 1, 1) := by decide +kernel
theorem dX8_apart_83 : decode cX8_apart 83 = .ok (.iload_n 2, 1) := by decide +kernel
theorem dX8_apart_84 : decode cX8_apart 84 = .ok (.iload_n 3, 1) := by decide +kernel
theorem dX8_apart_85 : decode cX8_apart 85 = .ok (.invokevirtual 230, 3) := by decide +kernel
theorem dX8_apart_88 : decode cX8_apart 88 = .ok (.ifCond .eq 7, 3) := by decide +kernel
theorem dX8_apart_91 : decode cX8_apart 91 = .ok (.iconst 1, 1) := by decide +kernel
theorem dX8_apart_92 : decode cX8_apart 92 = .ok (.goto 4, 3) := by decide +kernel
theorem dX8_apart_95 : decode cX8_apart 95 = .ok (.iconst 0, 1) := by decide +kernel
theorem dX8_apart_96 : decode cX8_apart 96 = .ok (.ireturn, 1) := by decide +kernel
theorem dX8_cost_0 : decode cX8_cost 0 = .ok (.aload_n 0, 1) := by decide +kernel
theorem dX8_cost_1 : decode cX8_cost 1 = .ok (.getfield 48, 3) := by decide +kernel
theorem dX8_cost_4 : decode cX8_cost 4 = .ok (.iload_n 1, 1) := by decide +kernel
theorem dX8_cost_5 : decode cX8_cost 5 = .ok (.invokevirtual 181, 3) := by decide +kernel
theorem dX8_cost_8 : decode cX8_cost 8 = .ok (.ifCond .eq 14, 3) := by decide +kernel
theorem dX8_cost_11 : decode cX8_cost 11 = .ok (.aload_n 0, 1) := by decide +kernel
theorem dX8_cost_12 : decode cX8_cost 12 = .ok (.getfield 28, 3) := by decide +kernel
theorem dX8_cost_15 : decode cX8_cost 15 = .ok (.iload_n 2, 1) := by decide +kernel
theorem dX8_cost_16 : decode cX8_cost 16 = .ok (.invokevirtual 234, 3) := by decide +kernel
theorem dX8_cost_19 : decode cX8_cost 19 = .ok (.ifCond .ne 7, 3) := by decide +kernel
theorem dX8_cost_22 : decode cX8_cost 22 = .ok (.sipush (-1001), 3) := by decide +kernel
theorem dX8_cost_25 : decode cX8_cost 25 = .ok (.ireturn, 1) := by decide +kernel
theorem dX8_cost_26 : decode cX8_cost 26 = .ok (.aload_n 0, 1) := by decide +kernel
theorem dX8_cost_27 : decode cX8_cost 27 = .ok (.getfield 72, 3) := by decide +kernel
theorem dX8_cost_30 : decode cX8_cost 30 = .ok (.iload_n 1, 1) := by decide +kernel
theorem dX8_cost_31 : decode cX8_cost 31 = .ok (.iload_n 2, 1) := by decide +kernel
theorem dX8_cost_32 : decode cX8_cost 32 = .ok (.invokevirtual 237, 3) := by decide +kernel
theorem dX8_cost_35 : decode cX8_cost 35 = .ok (.aload_n 0, 1) := by decide +kernel
theorem dX8_cost_36 : decode cX8_cost 36 = .ok (.getfield 72, 3) := by decide +kernel
theorem dX8_cost_39 : decode cX8_cost 39 = .ok (.iload_n 2, 1) := by decide +kernel
theorem dX8_cost_40 : decode cX8_cost 40 = .ok (.invokevirtual 241, 3) := by decide +kernel
theorem dX8_cost_43 : decode cX8_cost 43 = .ok (.ireturn, 1) := by decide +kernel
theorem dX8_best_0 : decode cX8_best 0 = .ok (.aload_n 0, 1) := by decide +kernel
theorem dX8_best_1 : decode cX8_best 1 = .ok (.getfield 48, 3) := by decide +kernel
theorem dX8_best_4 : decode cX8_best 4 = .ok (.iload_n 1, 1) := by decide +kernel
theorem dX8_best_5 : decode cX8_best 5 = .ok (.invokevirtual 181, 3) := by decide +kernel
theorem dX8_best_8 : decode cX8_best 8 = .ok (.ifCond .ne 7, 3) := by decide +kernel
theorem dX8_best_11 : decode cX8_best 11 = .ok (.sipush (-1001), 3) := by decide +kernel
theorem dX8_best_14 : decode cX8_best 14 = .ok (.ireturn, 1) := by decide +kernel
theorem dX8_best_15 : decode cX8_best 15 = .ok (.iload_n 2, 1) := by decide +kernel
theorem dX8_best_16 : decode cX8_best 16 = .ok (.ifCond .lt 19, 3) := by decide +kernel
theorem dX8_best_19 : decode cX8_best 19 = .ok (.iload_n 2, 1) := by decide +kernel
theorem dX8_best_20 : decode cX8_best 20 = .ok (.bipush 24, 2) := by decide +kernel
theorem dX8_best_22 : decode cX8_best 22 = .ok (.if_icmp .gt 13, 3) := by decide +kernel
theorem dX8_best_25 : decode cX8_best 25 = .ok (.iload_n 3, 1) := by decide +kernel
theorem dX8_best_26 : decode cX8_best 26 = .ok (.ifCond .lt 9, 3) := by decide +kernel
theorem dX8_best_29 : decode cX8_best 29 = .ok (.iload_n 3, 1) := by decide +kernel
theorem dX8_best_30 : decode cX8_best 30 = .ok (.bipush 99, 2) := by decide +kernel
theorem dX8_best_32 : decode cX8_best 32 = .ok (.if_icmp .le 7, 3) := by decide +kernel
theorem dX8_best_35 : decode cX8_best 35 = .ok (.sipush (-1002), 3) := by decide +kernel
theorem dX8_best_38 : decode cX8_best 38 = .ok (.ireturn, 1) := by decide +kernel
theorem dX8_best_39 : decode cX8_best 39 = .ok (.iload 4, 2) := by decide +kernel
theorem dX8_best_41 : decode cX8_best 41 = .ok (.ifCond .lt 9, 3) := by decide +kernel
theorem dX8_best_44 : decode cX8_best 44 = .ok (.iload 4, 2) := by decide +kernel
theorem dX8_best_46 : decode cX8_best 46 = .ok (.iconst 2, 1) := by decide +kernel
theorem dX8_best_47 : decode cX8_best 47 = .ok (.if_icmp .le 7, 3) := by decide +kernel
theorem dX8_best_50 : decode cX8_best 50 = .ok (.sipush (-1002), 3) := by decide +kernel
theorem dX8_best_53 : decode cX8_best 53 = .ok (.ireturn, 1) := by decide +kernel
theorem dX8_best_54 : decode cX8_best 54 = .ok (.aload_n 0, 1) := by decide +kernel
theorem dX8_best_55 : decode cX8_best 55 = .ok (.getfield 72, 3) := by decide +kernel
theorem dX8_best_58 : decode cX8_best 58 = .ok (.iload_n 1, 1) := by decide +kernel
theorem dX8_best_59 : decode cX8_best 59 = .ok (.aload_n 0, 1) := by decide +kernel
theorem dX8_best_60 : decode cX8_best 60 = .ok (.getfield 28, 3) := by decide +kernel
theorem dX8_best_63 : decode cX8_best 63 = .ok (.getfield 174, 3) := by decide +kernel
theorem dX8_best_66 : decode cX8_best 66 = .ok (.invokestatic 244, 3) := by decide +kernel
theorem dX8_best_69 : decode cX8_best 69 = .ok (.invokevirtual 237, 3) := by decide +kernel
theorem dX8_best_72 : decode cX8_best 72 = .ok (.aload_n 0, 1) := by decide +kernel
theorem dX8_best_73 : decode cX8_best 73 = .ok (.getfield 72, 3) := by decide +kernel
theorem dX8_best_76 : decode cX8_best 76 = .ok (.iload_n 2, 1) := by decide +kernel
theorem dX8_best_77 : decode cX8_best 77 = .ok (.iload_n 3, 1) := by decide +kernel
theorem dX8_best_78 : decode cX8_best 78 = .ok (.invokevirtual 247, 3) := by decide +kernel
theorem dX8_best_81 : decode cX8_best 81 = .ok (.iload 4, 2) := by decide +kernel
theorem dX8_best_83 : decode cX8_best 83 = .ok (.ifCond .ne 11, 3) := by decide +kernel
theorem dX8_best_86 : decode cX8_best 86 = .ok (.aload_n 0, 1) := by decide +kernel
theorem dX8_best_87 : decode cX8_best 87 = .ok (.getfield 72, 3) := by decide +kernel
theorem dX8_best_90 : decode cX8_best 90 = .ok (.getfield 250, 3) := by decide +kernel
theorem dX8_best_93 : decode cX8_best 93 = .ok (.ireturn, 1) := by decide +kernel
theorem dX8_best_94 : decode cX8_best 94 = .ok (.iload 4, 2) := by decide +kernel
theorem dX8_best_96 : decode cX8_best 96 = .ok (.iconst 1, 1) := by decide +kernel
theorem dX8_best_97 : decode cX8_best 97 = .ok (.if_icmp .ne 13, 3) := by decide +kernel
theorem dX8_best_100 : decode cX8_best 100 = .ok (.aload_n 0, 1) := by decide +kernel
theorem dX8_best_101 : decode cX8_best 101 = .ok (.getfield 72, 3) := by decide +kernel
theorem dX8_best_104 : decode cX8_best 104 = .ok (.getfield 253, 3) := by decide +kernel
theorem dX8_best_107 : decode cX8_best 107 = .ok (.goto 10, 3) := by decide +kernel
theorem dX8_best_110 : decode cX8_best 110 = .ok (.aload_n 0, 1) := by decide +kernel
theorem dX8_best_111 : decode cX8_best 111 = .ok (.getfield 72, 3) := by decide +kernel
theorem dX8_best_114 : decode cX8_best 114 = .ok (.getfield 256, 3) := by decide +kernel
theorem dX8_best_117 : decode cX8_best 117 = .ok (.ireturn, 1) := by decide +kernel
theorem dX8_later_0 : decode cX8_later 0 = .ok (.aload_n 0, 1) := by decide +kernel
theorem dX8_later_1 : decode cX8_later 1 = .ok (.getfield 48, 3) := by decide +kernel
theorem dX8_later_4 : decode cX8_later 4 = .ok (.iload_n 1, 1) := by decide +kernel
theorem dX8_later_5 : decode cX8_later 5 = .ok (.invokevirtual 181, 3) := by decide +kernel
theorem dX8_later_8 : decode cX8_later 8 = .ok (.ifCond .ne 7, 3) := by decide +kernel
theorem dX8_later_11 : decode cX8_later 11 = .ok (.sipush (-1001), 3) := by decide +kernel
theorem dX8_later_14 : decode cX8_later 14 = .ok (.ireturn, 1) := by decide +kernel
theorem dX8_later_15 : decode cX8_later 15 = .ok (.iload_n 2, 1) := by decide +kernel
theorem dX8_later_16 : decode cX8_later 16 = .ok (.ifCond .lt 9, 3) := by decide +kernel
theorem dX8_later_19 : decode cX8_later 19 = .ok (.iload_n 2, 1) := by decide +kernel
