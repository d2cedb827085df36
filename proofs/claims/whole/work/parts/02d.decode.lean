theorem dX9_later_43 : decode cX9_later 43 = .ok (.aload_n 0, 1) := by decide +kernel
theorem dX9_later_44 : decode cX9_later 44 = .ok (.getfield 114, 3) := by decide +kernel
theorem dX9_later_47 : decode cX9_later 47 = .ok (.goto 11, 3) := by decide +kernel
theorem dX9_later_50 : decode cX9_later 50 = .ok (.aload_n 0, 1) := by decide +kernel
theorem dX9_later_51 : decode cX9_later 51 = .ok (.getfield 28, 3) := by decide +kernel
theorem dX9_later_54 : decode cX9_later 54 = .ok (.iload_n 1, 1) := by decide +kernel
theorem dX9_later_55 : decode cX9_later 55 = .ok (.iaload, 1) := by decide +kernel
theorem dX9_later_56 : decode cX9_later 56 = .ok (.iload_n 2, 1) := by decide +kernel
theorem dX9_later_57 : decode cX9_later 57 = .ok (.iadd, 1) := by decide +kernel
theorem dX9_later_58 : decode cX9_later 58 = .ok (.istore_n 3, 1) := by decide +kernel
theorem dX9_later_59 : decode cX9_later 59 = .ok (.aload_n 0, 1) := by decide +kernel
theorem dX9_later_60 : decode cX9_later 60 = .ok (.aload_n 0, 1) := by decide +kernel
theorem dX9_later_61 : decode cX9_later 61 = .ok (.aload_n 0, 1) := by decide +kernel
theorem dX9_later_62 : decode cX9_later 62 = .ok (.getfield 31, 3) := by decide +kernel
theorem dX9_later_65 : decode cX9_later 65 = .ok (.iload_n 1, 1) := by decide +kernel
theorem dX9_later_66 : decode cX9_later 66 = .ok (.iaload, 1) := by decide +kernel
theorem dX9_later_67 : decode cX9_later 67 = .ok (.invokevirtual 269, 3) := by decide +kernel
theorem dX9_later_70 : decode cX9_later 70 = .ok (.invokevirtual 314, 3) := by decide +kernel
theorem dX9_later_73 : decode cX9_later 73 = .ok (.aload_n 0, 1) := by decide +kernel
theorem dX9_later_74 : decode cX9_later 74 = .ok (.aload_n 0, 1) := by decide +kernel
theorem dX9_later_75 : decode cX9_later 75 = .ok (.iconst 1, 1) := by decide +kernel
theorem dX9_later_76 : decode cX9_later 76 = .ok (.iload_n 3, 1) := by decide +kernel
theorem dX9_later_77 : decode cX9_later 77 = .ok (.ishl, 1) := by decide +kernel
theorem dX9_later_78 : decode cX9_later 78 = .ok (.iconst 1, 1) := by decide +kernel
theorem dX9_later_79 : decode cX9_later 79 = .ok (.isub, 1) := by decide +kernel
theorem dX9_later_80 : decode cX9_later 80 = .ok (.invokevirtual 269, 3) := by decide +kernel
theorem dX9_later_83 : decode cX9_later 83 = .ok (.invokevirtual 314, 3) := by decide +kernel
theorem dX9_later_86 : decode cX9_later 86 = .ok (.isub, 1) := by decide +kernel
theorem dX9_later_87 : decode cX9_later 87 = .ok (.ireturn, 1) := by decide +kernel
theorem dX9_release_0 : decode cX9_release 0 = .ok (.aload_n 0, 1) := by decide +kernel
theorem dX9_release_1 : decode cX9_release 1 = .ok (.iload_n 1, 1) := by decide +kernel
theorem dX9_release_2 : decode cX9_release 2 = .ok (.invokevirtual 266, 3) := by decide +kernel
theorem dX9_release_5 : decode cX9_release 5 = .ok (.ifCond .ne 7, 3) := by decide +kernel
theorem dX9_release_8 : decode cX9_release 8 = .ok (.sipush (-1001), 3) := by decide +kernel
theorem dX9_release_11 : decode cX9_release 11 = .ok (.ireturn, 1) := by decide +kernel
theorem dX9_release_12 : decode cX9_release 12 = .ok (.iload_n 2, 1) := by decide +kernel
theorem dX9_release_13 : decode cX9_release 13 = .ok (.invokestatic 317, 3) := by decide +kernel
theorem dX9_release_16 : decode cX9_release 16 = .ok (.ifCond .ne 7, 3) := by decide +kernel
theorem dX9_release_19 : decode cX9_release 19 = .ok (.sipush (-1002), 3) := by decide +kernel
theorem dX9_release_22 : decode cX9_release 22 = .ok (.ireturn, 1) := by decide +kernel
theorem dX9_release_23 : decode cX9_release 23 = .ok (.aload_n 0, 1) := by decide +kernel
theorem dX9_release_24 : decode cX9_release 24 = .ok (.getfield 129, 3) := by decide +kernel
theorem dX9_release_27 : decode cX9_release 27 = .ok (.ifCond .le 22, 3) := by decide +kernel
theorem dX9_release_30 : decode cX9_release 30 = .ok (.iload_n 2, 1) := by decide +kernel
theorem dX9_release_31 : decode cX9_release 31 = .ok (.aload_n 0, 1) := by decide +kernel
theorem dX9_release_32 : decode cX9_release 32 = .ok (.getfield 43, 3) := by decide +kernel
theorem dX9_release_35 : decode cX9_release 35 = .ok (.aload_n 0, 1) := by decide +kernel
theorem dX9_release_36 : decode cX9_release 36 = .ok (.getfield 129, 3) := by decide +kernel
theorem dX9_release_39 : decode cX9_release 39 = .ok (.iconst 1, 1) := by decide +kernel
theorem dX9_release_40 : decode cX9_release 40 = .ok (.isub, 1) := by decide +kernel
theorem dX9_release_41 : decode cX9_release 41 = .ok (.iaload, 1) := by decide +kernel
theorem dX9_release_42 : decode cX9_release 42 = .ok (.if_icmp .ge 7, 3) := by decide +kernel
theorem dX9_release_45 : decode cX9_release 45 = .ok (.sipush (-1003), 3) := by decide +kernel
theorem dX9_release_48 : decode cX9_release 48 = .ok (.ireturn, 1) := by decide +kernel
theorem dX9_release_49 : decode cX9_release 49 = .ok (.aload_n 0, 1) := by decide +kernel
theorem dX9_release_50 : decode cX9_release 50 = .ok (.getfield 129, 3) := by decide +kernel
theorem dX9_release_53 : decode cX9_release 53 = .ok (.bipush 20, 2) := by decide +kernel
theorem dX9_release_55 : decode cX9_release 55 = .ok (.if_icmp .ne 7, 3) := by decide +kernel
theorem dX9_release_58 : decode cX9_release 58 = .ok (.sipush (-1004), 3) := by decide +kernel
theorem dX9_release_61 : decode cX9_release 61 = .ok (.ireturn, 1) := by decide +kernel
theorem dX9_release_62 : decode cX9_release 62 = .ok (.aload_n 0, 1) := by decide +kernel
theorem dX9_release_63 : decode cX9_release 63 = .ok (.getfield 40, 3) := by decide +kernel
theorem dX9_release_66 : decode cX9_release 66 = .ok (.aload_n 0, 1) := by decide +kernel
theorem dX9_release_67 : decode cX9_release 67 = .ok (.getfield 129, 3) := by decide +kernel
theorem dX9_release_70 : decode cX9_release 70 = .ok (.iload_n 1, 1) := by decide +kernel
theorem dX9_release_71 : decode cX9_release 71 = .ok (.iastore, 1) := by decide +kernel
theorem dX9_release_72 : decode cX9_release 72 = .ok (.aload_n 0, 1) := by decide +kernel
theorem dX9_release_73 : decode cX9_release 73 = .ok (.getfield 43, 3) := by decide +kernel
theorem dX9_release_76 : decode cX9_release 76 = .ok (.aload_n 0, 1) := by decide +kernel
theorem dX9_release_77 : decode cX9_release 77 = .ok (.getfield 129, 3) := by decide +kernel
theorem dX9_release_80 : decode cX9_release 80 = .ok (.iload_n 2, 1) := by decide +kernel
theorem dX9_release_81 : decode cX9_release 81 = .ok (.iastore, 1) := by decide +kernel
theorem dX9_release_82 : decode cX9_release 82 = .ok (.aload_n 0, 1) := by decide +kernel
theorem dX9_release_83 : decode cX9_release 83 = .ok (.getfield 46, 3) := by decide +kernel
theorem dX9_release_86 : decode cX9_release 86 = .ok (.aload_n 0, 1) := by decide +kernel
theorem dX9_release_87 : decode cX9_release 87 = .ok (.getfield 129, 3) := by decide +kernel
theorem dX9_release_90 : decode cX9_release 90 = .ok (.aload_n 0, 1) := by decide +kernel
theorem dX9_release_91 : decode cX9_release 91 = .ok (.getfield 31, 3) := by decide +kernel
theorem dX9_release_94 : decode cX9_release 94 = .ok (.iload_n 1, 1) := by decide +kernel
theorem dX9_release_95 : decode cX9_release 95 = .ok (.iaload, 1) := by decide +kernel
theorem dX9_release_96 : decode cX9_release 96 = .ok (.iastore, 1) := by decide +kernel
theorem dX9_release_97 : decode cX9_release 97 = .ok (.iconst 0, 1) := by decide +kernel
theorem dX9_release_98 : decode cX9_release 98 = .ok (.istore_n 3, 1) := by decide +kernel
theorem dX9_release_99 : decode cX9_release 99 = .ok (.iload_n 3, 1) := by decide +kernel
theorem dX9_release_100 : decode cX9_release 100 = .ok (.bipush 16, 2) := by decide +kernel
theorem dX9_release_102 : decode cX9_release 102 = .ok (.if_icmp .ge 34, 3) := by decide +kernel
theorem dX9_release_105 : decode cX9_release 105 = .ok (.aload_n 0, 1) := by decide +kernel
theorem dX9_release_106 : decode cX9_release 106 = .ok (.getfield 49, 3) := by decide +kernel
theorem dX9_release_109 : decode cX9_release 109 = .ok (.bipush 16, 2) := by decide +kernel
theorem dX9_release_111 : decode cX9_release 111 = .ok (.aload_n 0, 1) := by decide +kernel
theorem dX9_release_112 : decode cX9_release 112 = .ok (.getfield 129, 3) := by decide +kernel
theorem dX9_release_115 : decode cX9_release 115 = .ok (.imul, 1) := by decide +kernel
theorem dX9_release_116 : decode cX9_release 116 = .ok (.iload_n 3, 1) := by decide +kernel
theorem dX9_release_117 : decode cX9_release 117 = .ok (.iadd, 1) := by decide +kernel
theorem dX9_release_118 : decode cX9_release 118 = .ok (.aload_n 0, 1) := by decide +kernel
theorem dX9_release_119 : decode cX9_release 119 = .ok (.getfield 34, 3) := by decide +kernel
theorem dX9_release_122 : decode cX9_release 122 = .ok (.bipush 16, 2) := by decide +kernel
theorem dX9_release_124 : decode cX9_release 124 = .ok (.iload_n 1, 1) := by decide +kernel
theorem dX9_release_125 : decode cX9_release 125 = .ok (.imul, 1) := by decide +kernel
theorem dX9_release_126 : decode cX9_release 126 = .ok (.iload_n 3, 1) := by decide +kernel
theorem dX9_release_127 : decode cX9_release 127 = .ok (.iadd, 1) := by decide +kernel
theorem dX9_release_128 : decode cX9_release 128 = .ok (.iaload, 1) := by decide +kernel
theorem dX9_release_129 : decode cX9_release 129 = .ok (.iastore, 1) := by decide +kernel
theorem dX9_release_130 : decode cX9_release 130 = .ok (.iinc 3 1, 3) := by decide +kernel
theorem dX9_release_133 : decode cX9_release 133 = .ok (.goto (-34), 3) := by decide +kernel
theorem dX9_release_136 : decode cX9_release 136 = .ok (.aload_n 0, 1) := by decide +kernel
theorem dX9_release_137 : decode cX9_release 137 = .ok (.dup, 1) := by decide +kernel
theorem dX9_release_138 : decode cX9_release 138 = .ok (.getfield 129, 3) := by decide +kernel
theorem dX9_release_141 : decode cX9_release 141 = .ok (.iconst 1, 1) := by decide +kernel
theorem dX9_release_142 : decode cX9_release 142 = .ok (.iadd, 1) := by decide +kernel
theorem dX9_release_143 : decode cX9_release 143 = .ok (.putfield 129, 3) := by decide +kernel
theorem dX9_release_146 : decode cX9_release 146 = .ok (.aload_n 0, 1) := by decide +kernel
theorem dX9_release_147 : decode cX9_release 147 = .ok (.getfield 129, 3) := by decide +kernel
theorem dX9_release_150 : decode cX9_release 150 = .ok (.iconst 1, 1) := by decide +kernel
theorem dX9_release_151 : decode cX9_release 151 = .ok (.isub, 1) := by decide +kernel
theorem dX9_release_152 : decode cX9_release 152 = .ok (.ireturn, 1) := by decide +kernel
theorem dX9_released_0 : decode cX9_released 0 = .ok (.aload_n 0, 1) := by decide +kernel
theorem dX9_released_1 : decode cX9_released 1 = .ok (.iload_n 1, 1) := by decide +kernel
theorem dX9_released_2 : decode cX9_released 2 = .ok (.invokevirtual 320, 3) := by decide +kernel
theorem dX9_released_5 : decode cX9_released 5 = .ok (.ifCond .ne 7, 3) := by decide +kernel
theorem dX9_released_8 : decode cX9_released 8 = .ok (.sipush (-1001), 3) := by decide +kernel
theorem dX9_released_11 : decode cX9_released 11 = .ok (.ireturn, 1) := by decide +kernel
theorem dX9_released_12 : decode cX9_released 12 = .ok (.iload_n 2, 1) := by decide +kernel
theorem dX9_released_13 : decode cX9_released 13 = .ok (.tableswitch 63 0 3 #[31, 38, 45, 52], 31) := by decide +kernel
theorem dX9_released_44 : decode cX9_released 44 = .ok (.aload_n 0, 1) := by decide +kernel
theorem dX9_released_45 : decode cX9_released 45 = .ok (.getfield 40, 3) := by decide +kernel
theorem dX9_released_48 : decode cX9_released 48 = .ok (.iload_n 1, 1) := by decide +kernel
theorem dX9_released_49 : decode cX9_released 49 = .ok (.iaload, 1) := by decide +kernel
theorem dX9_released_50 : decode cX9_released 50 = .ok (.ireturn, 1) := by decide +kernel
theorem dX9_released_51 : decode cX9_released 51 = .ok (.aload_n 0, 1) := by decide +kernel
theorem dX9_released_52 : decode cX9_released 52 = .ok (.getfield 43, 3) := by decide +kernel
theorem dX9_released_55 : decode cX9_released 55 = .ok (.iload_n 1, 1) := by decide +kernel
theorem dX9_released_56 : decode cX9_released 56 = .ok (.iaload, 1) := by decide +kernel
theorem dX9_released_57 : decode cX9_released 57 = .ok (.ireturn, 1) := by decide +kernel
theorem dX9_released_58 : decode cX9_released 58 = .ok (.aload_n 0, 1) := by decide +kernel
theorem dX9_released_59 : decode cX9_released 59 = .ok (.getfield 46, 3) := by decide +kernel
theorem dX9_released_62 : decode cX9_released 62 = .ok (.iload_n 1, 1) := by decide +kernel
theorem dX9_released_63 : decode cX9_released 63 = .ok (.iaload, 1) := by decide +kernel
theorem dX9_released_64 : decode cX9_released 64 = .ok (.ireturn, 1) := by decide +kernel
theorem dX9_released_65 : decode cX9_released 65 = .ok (.aload_n 0, 1) := by decide +kernel
theorem dX9_released_66 : decode cX9_released 66 = .ok (.aload_n 0, 1) := by decide +kernel
theorem dX9_released_67 : decode cX9_released 67 = .ok (.getfield 46, 3) := by decide +kernel
theorem dX9_released_70 : decode cX9_released 70 = .ok (.iload_n 1, 1) := by decide +kernel
theorem dX9_released_71 : decode cX9_released 71 = .ok (.iaload, 1) := by decide +kernel
theorem dX9_released_72 : decode cX9_released 72 = .ok (.invokevirtual 269, 3) := by decide +kernel
theorem dX9_released_75 : decode cX9_released 75 = .ok (.ireturn, 1) := by decide +kernel
theorem dX9_released_76 : decode cX9_released 76 = .ok (.sipush (-1002), 3) := by decide +kernel
theorem dX9_released_79 : decode cX9_released 79 = .ok (.ireturn, 1) := by decide +kernel
theorem dX9_notes_0 : decode cX9_notes 0 = .ok (.aload_n 0, 1) := by decide +kernel
theorem dX9_notes_1 : decode cX9_notes 1 = .ok (.iload_n 1, 1) := by decide +kernel
theorem dX9_notes_2 : decode cX9_notes 2 = .ok (.invokevirtual 320, 3) := by decide +kernel
theorem dX9_notes_5 : decode cX9_notes 5 = .ok (.ifCond .eq 11, 3) := by decide +kernel
theorem dX9_notes_8 : decode cX9_notes 8 = .ok (.aload_n 0, 1) := by decide +kernel
theorem dX9_notes_9 : decode cX9_notes 9 = .ok (.iload_n 2, 1) := by decide +kernel
theorem dX9_notes_10 : decode cX9_notes 10 = .ok (.invokevirtual 320, 3) := by decide +kernel
theorem dX9_notes_13 : decode cX9_notes 13 = .ok (.ifCond .ne 7, 3) := by decide +kernel
theorem dX9_notes_16 : decode cX9_notes 16 = .ok (.sipush (-1001), 3) := by decide +kernel
theorem dX9_notes_19 : decode cX9_notes 19 = .ok (.ireturn, 1) := by decide +kernel
theorem dX9_notes_20 : decode cX9_notes 20 = .ok (.aload_n 0, 1) := by decide +kernel
theorem dX9_notes_21 : decode cX9_notes 21 = .ok (.aload_n 0, 1) := by decide +kernel
theorem dX9_notes_22 : decode cX9_notes 22 = .ok (.getfield 46, 3) := by decide +kernel
theorem dX9_notes_25 : decode cX9_notes 25 = .ok (.iload_n 1, 1) := by decide +kernel
theorem dX9_notes_26 : decode cX9_notes 26 = .ok (.iaload, 1) := by decide +kernel
theorem dX9_notes_27 : decode cX9_notes 27 = .ok (.invokevirtual 269, 3) := by decide +kernel
theorem dX9_notes_30 : decode cX9_notes 30 = .ok (.istore 4, 2) := by decide +kernel
theorem dX9_notes_32 : decode cX9_notes 32 = .ok (.aload_n 0, 1) := by decide +kernel
theorem dX9_notes_33 : decode cX9_notes 33 = .ok (.aload_n 0, 1) := by decide +kernel
theorem dX9_notes_34 : decode cX9_notes 34 = .ok (.getfield 46, 3) := by decide +kernel
theorem dX9_notes_37 : decode cX9_notes 37 = .ok (.iload_n 2, 1) := by decide +kernel
theorem dX9_notes_38 : decode cX9_notes 38 = .ok (.iaload, 1) := by decide +kernel
theorem dX9_notes_39 : decode cX9_notes 39 = .ok (.invokevirtual 269, 3) := by decide +kernel
theorem dX9_notes_42 : decode cX9_notes 42 = .ok (.istore 5, 2) := by decide +kernel
theorem dX9_notes_44 : decode cX9_notes 44 = .ok (.iload_n 3, 1) := by decide +kernel
theorem dX9_notes_45 : decode cX9_notes 45 = .ok (.tableswitch 79 0 3 #[31, 47, 63, 71], 31) := by decide +kernel
theorem dX9_notes_76 : decode cX9_notes 76 = .ok (.aload_n 0, 1) := by decide +kernel
theorem dX9_notes_77 : decode cX9_notes 77 = .ok (.getfield 46, 3) := by decide +kernel
theorem dX9_notes_80 : decode cX9_notes 80 = .ok (.iload_n 2, 1) := by decide +kernel
theorem dX9_notes_81 : decode cX9_notes 81 = .ok (.iaload, 1) := by decide +kernel
theorem dX9_notes_82 : decode cX9_notes 82 = .ok (.aload_n 0, 1) := by decide +kernel
theorem dX9_notes_83 : decode cX9_notes 83 = .ok (.getfield 46, 3) := by decide +kernel
theorem dX9_notes_86 : decode cX9_notes 86 = .ok (.iload_n 1, 1) := by decide +kernel
theorem dX9_notes_87 : decode cX9_notes 87 = .ok (.iaload, 1) := by decide +kernel
theorem dX9_notes_88 : decode cX9_notes 88 = .ok (.iconst (-1), 1) := by decide +kernel
theorem dX9_notes_89 : decode cX9_notes 89 = .ok (.ixor, 1) := by decide +kernel
theorem dX9_notes_90 : decode cX9_notes 90 = .ok (.iand, 1) := by decide +kernel
theorem dX9_notes_91 : decode cX9_notes 91 = .ok (.ireturn, 1) := by decide +kernel
theorem dX9_notes_92 : decode cX9_notes 92 = .ok (.aload_n 0, 1) := by decide +kernel
theorem dX9_notes_93 : decode cX9_notes 93 = .ok (.getfield 46, 3) := by decide +kernel
theorem dX9_notes_96 : decode cX9_notes 96 = .ok (.iload_n 1, 1) := by decide +kernel
theorem dX9_notes_97 : decode cX9_notes 97 = .ok (.iaload, 1) := by decide +kernel
theorem dX9_notes_98 : decode cX9_notes 98 = .ok (.aload_n 0, 1) := by decide +kernel
theorem dX9_notes_99 : decode cX9_notes 99 = .ok (.getfield 46, 3) := by decide +kernel
theorem dX9_notes_102 : decode cX9_notes 102 = .ok (.iload_n 2, 1) := by decide +kernel
theorem dX9_notes_103 : decode cX9_notes 103 = .ok (.iaload, 1) := by decide +kernel
theorem dX9_notes_104 : decode cX9_notes 104 = .ok (.iconst (-1), 1) := by decide +kernel
theorem dX9_notes_105 : decode cX9_notes 105 = .ok (.ixor, 1) := by decide +kernel
theorem dX9_notes_106 : decode cX9_notes 106 = .ok (.iand, 1) := by decide +kernel
theorem dX9_notes_107 : decode cX9_notes 107 = .ok (.ireturn, 1) := by decide +kernel
theorem dX9_notes_108 : decode cX9_notes 108 = .ok (.iload 4, 2) := by decide +kernel
theorem dX9_notes_110 : decode cX9_notes 110 = .ok (.iload 5, 2) := by decide +kernel
theorem dX9_notes_112 : decode cX9_notes 112 = .ok (.iconst (-1), 1) := by decide +kernel
theorem dX9_notes_113 : decode cX9_notes 113 = .ok (.ixor, 1) := by decide +kernel
theorem dX9_notes_114 : decode cX9_notes 114 = .ok (.iand, 1) := by decide +kernel
theorem dX9_notes_115 : decode cX9_notes 115 = .ok (.ireturn, 1) := by decide +kernel
theorem dX9_notes_116 : decode cX9_notes 116 = .ok (.iload 5, 2) := by decide +kernel
theorem dX9_notes_118 : decode cX9_notes 118 = .ok (.iload 4, 2) := by decide +kernel
theorem dX9_notes_120 : decode cX9_notes 120 = .ok (.iconst (-1), 1) := by decide +kernel
theorem dX9_notes_121 : decode cX9_notes 121 = .ok (.ixor, 1) := by decide +kernel
theorem dX9_notes_122 : decode cX9_notes 122 = .ok (.iand, 1) := by decide +kernel
theorem dX9_notes_123 : decode cX9_notes 123 = .ok (.ireturn, 1) := by decide +kernel
theorem dX9_notes_124 : decode cX9_notes 124 = .ok (.sipush (-1002), 3) := by decide +kernel
theorem dX9_notes_127 : decode cX9_notes 127 = .ok (.ireturn, 1) := by decide +kernel
theorem dX9_differs_0 : decode cX9_differs 0 = .ok (.aload_n 0, 1) := by decide +kernel
theorem dX9_differs_1 : decode cX9_differs 1 = .ok (.iload_n 1, 1) := by decide +kernel
theorem dX9_differs_2 : decode cX9_differs 2 = .ok (.invokevirtual 320, 3) := by decide +kernel
theorem dX9_differs_5 : decode cX9_differs 5 = .ok (.ifCond .eq 11, 3) := by decide +kernel
theorem dX9_differs_8 : decode cX9_differs 8 = .ok (.aload_n 0, 1) := by decide +kernel
theorem dX9_differs_9 : decode cX9_differs 9 = .ok (.iload_n 2, 1) := by decide +kernel
theorem dX9_differs_10 : decode cX9_differs 10 = .ok (.invokevirtual 320, 3) := by decide +kernel
theorem dX9_differs_13 : decode cX9_differs 13 = .ok (.ifCond .ne 7, 3) := by decide +kernel
theorem dX9_differs_16 : decode cX9_differs 16 = .ok (.sipush (-1001), 3) := by decide +kernel
theorem dX9_differs_19 : decode cX9_differs 19 = .ok (.ireturn, 1) := by decide +kernel
theorem dX9_differs_20 : decode cX9_differs 20 = .ok (.iconst 0, 1) := by decide +kernel
theorem dX9_differs_21 : decode cX9_differs 21 = .ok (.istore_n 3, 1) := by decide +kernel
theorem dX9_differs_22 : decode cX9_differs 22 = .ok (.iconst 0, 1) := by decide +kernel
theorem dX9_differs_23 : decode cX9_differs 23 = .ok (.istore 4, 2) := by decide +kernel
theorem dX9_differs_25 : decode cX9_differs 25 = .ok (.iload 4, 2) := by decide +kernel
theorem dX9_differs_27 : decode cX9_differs 27 = .ok (.bipush 16, 2) := by decide +kernel
theorem dX9_differs_29 : decode cX9_differs 29 = .ok (.if_icmp .ge 47, 3) := by decide +kernel
theorem dX9_differs_32 : decode cX9_differs 32 = .ok (.iload_n 3, 1) := by decide +kernel
theorem dX9_differs_33 : decode cX9_differs 33 = .ok (.aload_n 0, 1) := by decide +kernel
theorem dX9_differs_34 : decode cX9_differs 34 = .ok (.getfield 49, 3) := by decide +kernel
theorem dX9_differs_37 : decode cX9_differs 37 = .ok (.bipush 16, 2) := by decide +kernel
theorem dX9_differs_39 : decode cX9_differs 39 = .ok (.iload_n 1, 1) := by decide +kernel
theorem dX9_differs_40 : decode cX9_differs 40 = .ok (.imul, 1) := by decide +kernel
theorem dX9_differs_41 : decode cX9_differs 41 = .ok (.iload 4, 2) := by decide +kernel
theorem dX9_differs_43 : decode cX9_differs 43 = .ok (.iadd, 1) := by decide +kernel
theorem dX9_differs_44 : decode cX9_differs 44 = .ok (.iaload, 1) := by decide +kernel
theorem dX9_differs_45 : decode cX9_differs 45 = .ok (.aload_n 0, 1) := by decide +kernel
theorem dX9_differs_46 : decode cX9_differs 46 = .ok (.getfield 49, 3) := by decide +kernel
theorem dX9_differs_49 : decode cX9_differs 49 = .ok (.bipush 16, 2) := by decide +kernel
theorem dX9_differs_51 : decode cX9_differs 51 = .ok (.iload_n 2, 1) := by decide +kernel
theorem dX9_differs_52 : decode cX9_differs 52 = .ok (.imul, 1) := by decide +kernel
theorem dX9_differs_53 : decode cX9_differs 53 = .ok (.iload 4, 2) := by decide +kernel
theorem dX9_differs_55 : decode cX9_differs 55 = .ok (.iadd, 1) := by decide +kernel
theorem dX9_differs_56 : decode cX9_differs 56 = .ok (.iaload, 1) := by decide +kernel
theorem dX9_differs_57 : decode cX9_differs 57 = .ok (.if_icmp .eq 10, 3) := by decide +kernel
theorem dX9_differs_60 : decode cX9_differs 60 = .ok (.iconst 1, 1) := by decide +kernel
theorem dX9_differs_61 : decode cX9_differs 61 = .ok (.iload 4, 2) := by decide +kernel
theorem dX9_differs_63 : decode cX9_differs 63 = .ok (.ishl, 1) := by decide +kernel
theorem dX9_differs_64 : decode cX9_differs 64 = .ok (.goto 4, 3) := by decide +kernel
theorem dX9_differs_67 : decode cX9_differs 67 = .ok (.iconst 0, 1) := by decide +kernel
theorem dX9_differs_68 : decode cX9_differs 68 = .ok (.ior, 1) := by decide +kernel
theorem dX9_differs_69 : decode cX9_differs 69 = .ok (.istore_n 3, 1) := by decide +kernel
theorem dX9_differs_70 : decode cX9_differs 70 = .ok (.iinc 4 1, 3) := by decide +kernel
theorem dX9_differs_73 : decode cX9_differs 73 = .ok (.goto (-48), 3) := by decide +kernel
theorem dX9_differs_76 : decode cX9_differs 76 = .ok (.iload_n 3, 1) := by decide +kernel
theorem dX9_differs_77 : decode cX9_differs 77 = .ok (.ireturn, 1) := by decide +kernel
theorem dX9_isFree_0 : decode cX9_isFree 0 = .ok (.aload_n 0, 1) := by decide +kernel
theorem dX9_isFree_1 : decode cX9_isFree 1 = .ok (.aload_n 0, 1) := by decide +kernel
theorem dX9_isFree_2 : decode cX9_isFree 2 = .ok (.getfield 46, 3) := by decide +kernel
theorem dX9_isFree_5 : decode cX9_isFree 5 = .ok (.iload_n 1, 1) := by decide +kernel
theorem dX9_isFree_6 : decode cX9_isFree 6 = .ok (.iaload, 1) := by decide +kernel
theorem dX9_isFree_7 : decode cX9_isFree 7 = .ok (.invokevirtual 269, 3) := by decide +kernel
theorem dX9_isFree_10 : decode cX9_isFree 10 = .ok (.iload_n 2, 1) := by decide +kernel
theorem dX9_isFree_11 : decode cX9_isFree 11 = .ok (.invokestatic 190, 3) := by decide +kernel
theorem dX9_isFree_14 : decode cX9_isFree 14 = .ok (.ifCond .ne 7, 3) := by decide +kernel
theorem dX9_isFree_17 : decode cX9_isFree 17 = .ok (.iconst 1, 1) := by decide +kernel
theorem dX9_isFree_18 : decode cX9_isFree 18 = .ok (.goto 4, 3) := by decide +kernel
theorem dX9_isFree_21 : decode cX9_isFree 21 = .ok (.iconst 0, 1) := by decide +kernel
theorem dX9_isFree_22 : decode cX9_isFree 22 = .ok (.ireturn, 1) := by decide +kernel
theorem dX9_freed_0 : decode cX9_freed 0 = .ok (.aload_n 0, 1) := by decide +kernel
theorem dX9_freed_1 : decode cX9_freed 1 = .ok (.iload_n 1, 1) := by decide +kernel
theorem dX9_freed_2 : decode cX9_freed 2 = .ok (.invokevirtual 263, 3) := by decide +kernel
theorem dX9_freed_5 : decode cX9_freed 5 = .ok (.ifCond .eq 11, 3) := by decide +kernel
theorem dX9_freed_8 : decode cX9_freed 8 = .ok (.aload_n 0, 1) := by decide +kernel
theorem dX9_freed_9 : decode cX9_freed 9 = .ok (.iload_n 2, 1) := by decide +kernel
theorem dX9_freed_10 : decode cX9_freed 10 = .ok (.invokevirtual 266, 3) := by decide +kernel
theorem dX9_freed_13 : decode cX9_freed 13 = .ok (.ifCond .ne 7, 3) := by decide +kernel
theorem dX9_freed_16 : decode cX9_freed 16 = .ok (.sipush (-1001), 3) := by decide +kernel
theorem dX9_freed_19 : decode cX9_freed 19 = .ok (.ireturn, 1) := by decide +kernel
theorem dX9_freed_20 : decode cX9_freed 20 = .ok (.iconst (-1), 1) := by decide +kernel
theorem dX9_freed_21 : decode cX9_freed 21 = .ok (.istore_n 3, 1) := by decide +kernel
theorem dX9_freed_22 : decode cX9_freed 22 = .ok (.iconst 0, 1) := by decide +kernel
theorem dX9_freed_23 : decode cX9_freed 23 = .ok (.istore 4, 2) := by decide +kernel
theorem dX9_freed_25 : decode cX9_freed 25 = .ok (.iconst 0, 1) := by decide +kernel
theorem dX9_freed_26 : decode cX9_freed 26 = .ok (.istore 5, 2) := by decide +kernel
theorem dX9_freed_28 : decode cX9_freed 28 = .ok (.iload 5, 2) := by decide +kernel
theorem dX9_freed_30 : decode cX9_freed 30 = .ok (.aload_n 0, 1) := by decide +kernel
theorem dX9_freed_31 : decode cX9_freed 31 = .ok (.getfield 129, 3) := by decide +kernel
theorem dX9_freed_34 : decode cX9_freed 34 = .ok (.if_icmp .ge 71, 3) := by decide +kernel
theorem dX9_freed_37 : decode cX9_freed 37 = .ok (.aload_n 0, 1) := by decide +kernel
theorem dX9_freed_38 : decode cX9_freed 38 = .ok (.getfield 40, 3) := by decide +kernel
theorem dX9_freed_41 : decode cX9_freed 41 = .ok (.iload 5, 2) := by decide +kernel
theorem dX9_freed_43 : decode cX9_freed 43 = .ok (.iaload, 1) := by decide +kernel
theorem dX9_freed_44 : decode cX9_freed 44 = .ok (.iload_n 2, 1) := by decide +kernel
theorem dX9_freed_45 : decode cX9_freed 45 = .ok (.if_icmp .ne 54, 3) := by decide +kernel
theorem dX9_freed_48 : decode cX9_freed 48 = .ok (.aload_n 0, 1) := by decide +kernel
theorem dX9_freed_49 : decode cX9_freed 49 = .ok (.iload 5, 2) := by decide +kernel
theorem dX9_freed_51 : decode cX9_freed 51 = .ok (.iload_n 1, 1) := by decide +kernel
theorem dX9_freed_52 : decode cX9_freed 52 = .ok (.invokevirtual 323, 3) := by decide +kernel
theorem dX9_freed_55 : decode cX9_freed 55 = .ok (.istore 6, 2) := by decide +kernel
theorem dX9_freed_57 : decode cX9_freed 57 = .ok (.iload 4, 2) := by decide +kernel
theorem dX9_freed_59 : decode cX9_freed 59 = .ok (.ifCond .ne 8, 3) := by decide +kernel
theorem dX9_freed_62 : decode cX9_freed 62 = .ok (.iload 6, 2) := by decide +kernel
theorem dX9_freed_64 : decode cX9_freed 64 = .ok (.ifCond .ne 7, 3) := by decide +kernel
theorem dX9_freed_67 : decode cX9_freed 67 = .ok (.iconst 1, 1) := by decide +kernel
theorem dX9_freed_68 : decode cX9_freed 68 = .ok (.goto 4, 3) := by decide +kernel
theorem dX9_freed_71 : decode cX9_freed 71 = .ok (.iconst 0, 1) := by decide +kernel
theorem dX9_freed_72 : decode cX9_freed 72 = .ok (.istore 4, 2) := by decide +kernel
theorem dX9_freed_74 : decode cX9_freed 74 = .ok (.iload 6, 2) := by decide +kernel
theorem dX9_freed_76 : decode cX9_freed 76 = .ok (.ifCond .ne 7, 3) := by decide +kernel
theorem dX9_freed_79 : decode cX9_freed 79 = .ok (.iconst (-1), 1) := by decide +kernel
theorem dX9_freed_80 : decode cX9_freed 80 = .ok (.goto 18, 3) := by decide +kernel
theorem dX9_freed_83 : decode cX9_freed 83 = .ok (.iload 4, 2) := by decide +kernel
theorem dX9_freed_85 : decode cX9_freed 85 = .ok (.ifCond .eq 12, 3) := by decide +kernel
theorem dX9_freed_88 : decode cX9_freed 88 = .ok (.iload_n 3, 1) := by decide +kernel
theorem dX9_freed_89 : decode cX9_freed 89 = .ok (.ifCond .ge 8, 3) := by decide +kernel
theorem dX9_freed_92 : decode cX9_freed 92 = .ok (.iload 5, 2) := by decide +kernel
theorem dX9_freed_94 : decode cX9_freed 94 = .ok (.goto 4, 3) := by decide +kernel
theorem dX9_freed_97 : decode cX9_freed 97 = .ok (.iload_n 3, 1) := by decide +kernel
theorem dX9_freed_98 : decode cX9_freed 98 = .ok (.istore_n 3, 1) := by decide +kernel
theorem dX9_freed_99 : decode cX9_freed 99 = .ok (.iinc 5 1, 3) := by decide +kernel
theorem dX9_freed_102 : decode cX9_freed 102 = .ok (.goto (-74), 3) := by decide +kernel
theorem dX9_freed_105 : decode cX9_freed 105 = .ok (.iload_n 3, 1) := by decide +kernel
theorem dX9_freed_106 : decode cX9_freed 106 = .ok (.ireturn, 1) := by decide +kernel
theorem dX9_danger_0 : decode cX9_danger 0 = .ok (.aload_n 0, 1) := by decide +kernel
theorem dX9_danger_1 : decode cX9_danger 1 = .ok (.iload_n 1, 1) := by decide +kernel
theorem dX9_danger_2 : decode cX9_danger 2 = .ok (.invokevirtual 263, 3) := by decide +kernel
theorem dX9_danger_5 : decode cX9_danger 5 = .ok (.ifCond .ne 7, 3) := by decide +kernel
theorem dX9_danger_8 : decode cX9_danger 8 = .ok (.sipush (-1001), 3) := by decide +kernel
theorem dX9_danger_11 : decode cX9_danger 11 = .ok (.ireturn, 1) := by decide +kernel
theorem dX9_danger_12 : decode cX9_danger 12 = .ok (.iload_n 2, 1) := by decide +kernel
theorem dX9_danger_13 : decode cX9_danger 13 = .ok (.invokestatic 317, 3) := by decide +kernel
theorem dX9_danger_16 : decode cX9_danger 16 = .ok (.ifCond .eq 15, 3) := by decide +kernel
theorem dX9_danger_19 : decode cX9_danger 19 = .ok (.iload_n 3, 1) := by decide +kernel
theorem dX9_danger_20 : decode cX9_danger 20 = .ok (.invokestatic 317, 3) := by decide +kernel
theorem dX9_danger_23 : decode cX9_danger 23 = .ok (.ifCond .eq 8, 3) := by decide +kernel
theorem dX9_danger_26 : decode cX9_danger 26 = .ok (.iload_n 3, 1) := by decide +kernel
theorem dX9_danger_27 : decode cX9_danger 27 = .ok (.iload_n 2, 1) := by decide +kernel
theorem dX9_danger_28 : decode cX9_danger 28 = .ok (.if_icmp .ge 7, 3) := by decide +kernel
theorem dX9_danger_31 : decode cX9_danger 31 = .ok (.sipush (-1002), 3) := by decide +kernel
theorem dX9_danger_34 : decode cX9_danger 34 = .ok (.ireturn, 1) := by decide +kernel
theorem dX9_danger_35 : decode cX9_danger 35 = .ok (.iconst 0, 1) := by decide +kernel
theorem dX9_danger_36 : decode cX9_danger 36 = .ok (.istore 4, 2) := by decide +kernel
theorem dX9_danger_38 : decode cX9_danger 38 = .ok (.iconst 0, 1) := by decide +kernel
theorem dX9_danger_39 : decode cX9_danger 39 = .ok (.istore 5, 2) := by decide +kernel
theorem dX9_danger_41 : decode cX9_danger 41 = .ok (.iload 5, 2) := by decide +kernel
theorem dX9_danger_43 : decode cX9_danger 43 = .ok (.aload_n 0, 1) := by decide +kernel
theorem dX9_danger_44 : decode cX9_danger 44 = .ok (.getfield 126, 3) := by decide +kernel
theorem dX9_danger_47 : decode cX9_danger 47 = .ok (.if_icmp .ge 103, 3) := by decide +kernel
theorem dX9_danger_50 : decode cX9_danger 50 = .ok (.iload_n 2, 1) := by decide +kernel
theorem dX9_danger_51 : decode cX9_danger 51 = .ok (.istore 6, 2) := by decide +kernel
theorem dX9_danger_53 : decode cX9_danger 53 = .ok (.iload 6, 2) := by decide +kernel
theorem dX9_danger_55 : decode cX9_danger 55 = .ok (.iload_n 3, 1) := by decide +kernel
theorem dX9_danger_56 : decode cX9_danger 56 = .ok (.if_icmp .gt 88, 3) := by decide +kernel
theorem dX9_danger_59 : decode cX9_danger 59 = .ok (.iconst (-1), 1) := by decide +kernel
theorem dX9_danger_60 : decode cX9_danger 60 = .ok (.istore 7, 2) := by decide +kernel
theorem dX9_danger_62 : decode cX9_danger 62 = .ok (.iconst 0, 1) := by decide +kernel
theorem dX9_danger_63 : decode cX9_danger 63 = .ok (.istore 8, 2) := by decide +kernel
theorem dX9_danger_65 : decode cX9_danger 65 = .ok (.iload 8, 2) := by decide +kernel
theorem dX9_danger_67 : decode cX9_danger 67 = .ok (.aload_n 0, 1) := by decide +kernel
theorem dX9_danger_68 : decode cX9_danger 68 = .ok (.getfield 129, 3) := by decide +kernel
theorem dX9_danger_71 : decode cX9_danger 71 = .ok (.if_icmp .ge 42, 3) := by decide +kernel
theorem dX9_danger_74 : decode cX9_danger 74 = .ok (.aload_n 0, 1) := by decide +kernel
theorem dX9_danger_75 : decode cX9_danger 75 = .ok (.getfield 40, 3) := by decide +kernel
theorem dX9_danger_78 : decode cX9_danger 78 = .ok (.iload 8, 2) := by decide +kernel
theorem dX9_danger_80 : decode cX9_danger 80 = .ok (.iaload, 1) := by decide +kernel
theorem dX9_danger_81 : decode cX9_danger 81 = .ok (.iload 5, 2) := by decide +kernel
theorem dX9_danger_83 : decode cX9_danger 83 = .ok (.if_icmp .ne 20, 3) := by decide +kernel
theorem dX9_danger_86 : decode cX9_danger 86 = .ok (.aload_n 0, 1) := by decide +kernel
theorem dX9_danger_87 : decode cX9_danger 87 = .ok (.getfield 43, 3) := by decide +kernel
theorem dX9_danger_90 : decode cX9_danger 90 = .ok (.iload 8, 2) := by decide +kernel
theorem dX9_danger_92 : decode cX9_danger 92 = .ok (.iaload, 1) := by decide +kernel
theorem dX9_danger_93 : decode cX9_danger 93 = .ok (.iload 6, 2) := by decide +kernel
theorem dX9_danger_95 : decode cX9_danger 95 = .ok (.if_icmp .gt 8, 3) := by decide +kernel
theorem dX9_danger_98 : decode cX9_danger 98 = .ok (.iload 8, 2) := by decide +kernel
theorem dX9_danger_100 : decode cX9_danger 100 = .ok (.goto 5, 3) := by decide +kernel
theorem dX9_danger_103 : decode cX9_danger 103 = .ok (.iload 7, 2) := by decide +kernel
theorem dX9_danger_105 : decode cX9_danger 105 = .ok (.istore 7, 2) := by decide +kernel
theorem dX9_danger_107 : decode cX9_danger 107 = .ok (.iinc 8 1, 3) := by decide +kernel
theorem dX9_danger_110 : decode cX9_danger 110 = .ok (.goto (-45), 3) := by decide +kernel
theorem dX9_danger_113 : decode cX9_danger 113 = .ok (.iload 4, 2) := by decide +kernel
theorem dX9_danger_115 : decode cX9_danger 115 = .ok (.iload 7, 2) := by decide +kernel
theorem dX9_danger_117 : decode cX9_danger 117 = .ok (.ifCond .lt 17, 3) := by decide +kernel
theorem dX9_danger_120 : decode cX9_danger 120 = .ok (.aload_n 0, 1) := by decide +kernel
theorem dX9_danger_121 : decode cX9_danger 121 = .ok (.iload 7, 2) := by decide +kernel
theorem dX9_danger_123 : decode cX9_danger 123 = .ok (.iload_n 1, 1) := by decide +kernel
theorem dX9_danger_124 : decode cX9_danger 124 = .ok (.invokevirtual 323, 3) := by decide +kernel
theorem dX9_danger_127 : decode cX9_danger 127 = .ok (.ifCond .ne 7, 3) := by decide +kernel
theorem dX9_danger_130 : decode cX9_danger 130 = .ok (.iconst 1, 1) := by decide +kernel
theorem dX9_danger_131 : decode cX9_danger 131 = .ok (.goto 4, 3) := by decide +kernel
theorem dX9_danger_134 : decode cX9_danger 134 = .ok (.iconst 0, 1) := by decide +kernel
theorem dX9_danger_135 : decode cX9_danger 135 = .ok (.iadd, 1) := by decide +kernel
theorem dX9_danger_136 : decode cX9_danger 136 = .ok (.istore 4, 2) := by decide +kernel
theorem dX9_danger_138 : decode cX9_danger 138 = .ok (.iinc 6 1, 3) := by decide +kernel
theorem dX9_danger_141 : decode cX9_danger 141 = .ok (.goto (-88), 3) := by decide +kernel
theorem dX9_danger_144 : decode cX9_danger 144 = .ok (.iinc 5 1, 3) := by decide +kernel
theorem dX9_danger_147 : decode cX9_danger 147 = .ok (.goto (-106), 3) := by decide +kernel
theorem dX9_danger_150 : decode cX9_danger 150 = .ok (.iload 4, 2) := by decide +kernel
theorem dX9_danger_152 : decode cX9_danger 152 = .ok (.ireturn, 1) := by decide +kernel
theorem dX9_every_0 : decode cX9_every 0 = .ok (.aload_n 0, 1) := by decide +kernel
theorem dX9_every_1 : decode cX9_every 1 = .ok (.iload_n 1, 1) := by decide +kernel
theorem dX9_every_2 : decode cX9_every 2 = .ok (.invokevirtual 266, 3) := by decide +kernel
theorem dX9_every_5 : decode cX9_every 5 = .ok (.ifCond .ne 7, 3) := by decide +kernel
theorem dX9_every_8 : decode cX9_every 8 = .ok (.sipush (-1001), 3) := by decide +kernel
theorem dX9_every_11 : decode cX9_every 11 = .ok (.ireturn, 1) := by decide +kernel
theorem dX9_every_12 : decode cX9_every 12 = .ok (.iload_n 2, 1) := by decide +kernel
theorem dX9_every_13 : decode cX9_every 13 = .ok (.i2l, 1) := by decide +kernel
theorem dX9_every_14 : decode cX9_every 14 = .ok (.lconst 0, 1) := by decide +kernel
theorem dX9_every_15 : decode cX9_every 15 = .ok (.ldc2_w 310, 3) := by decide +kernel
theorem dX9_every_18 : decode cX9_every 18 = .ok (.invokestatic 117, 3) := by decide +kernel
theorem dX9_every_21 : decode cX9_every 21 = .ok (.ifCond .ne 7, 3) := by decide +kernel
theorem dX9_every_24 : decode cX9_every 24 = .ok (.sipush (-1002), 3) := by decide +kernel
theorem dX9_every_27 : decode cX9_every 27 = .ok (.ireturn, 1) := by decide +kernel
theorem dX9_every_28 : decode cX9_every 28 = .ok (.aload_n 0, 1) := by decide +kernel
theorem dX9_every_29 : decode cX9_every 29 = .ok (.getfield 37, 3) := by decide +kernel
theorem dX9_every_32 : decode cX9_every 32 = .ok (.iload_n 1, 1) := by decide +kernel
theorem dX9_every_33 : decode cX9_every 33 = .ok (.iaload, 1) := by decide +kernel
theorem dX9_every_34 : decode cX9_every 34 = .ok (.istore_n 3, 1) := by decide +kernel
theorem dX9_every_35 : decode cX9_every 35 = .ok (.aload_n 0, 1) := by decide +kernel
theorem dX9_every_36 : decode cX9_every 36 = .ok (.getfield 37, 3) := by decide +kernel
theorem dX9_every_39 : decode cX9_every 39 = .ok (.iload_n 1, 1) := by decide +kernel
theorem dX9_every_40 : decode cX9_every 40 = .ok (.iload_n 2, 1) := by decide +kernel
theorem dX9_every_41 : decode cX9_every 41 = .ok (.iastore, 1) := by decide +kernel
theorem dX9_every_42 : decode cX9_every 42 = .ok (.iload_n 3, 1) := by decide +kernel
theorem dX9_every_43 : decode cX9_every 43 = .ok (.ireturn, 1) := by decide +kernel
theorem dX9_soonest_0 : decode cX9_soonest 0 = .ok (.aload_n 0, 1) := by decide +kernel
theorem dX9_soonest_1 : decode cX9_soonest 1 = .ok (.iload_n 1, 1) := by decide +kernel
theorem dX9_soonest_2 : decode cX9_soonest 2 = .ok (.invokevirtual 263, 3) := by decide +kernel
theorem dX9_soonest_5 : decode cX9_soonest 5 = .ok (.ifCond .ne 7, 3) := by decide +kernel
theorem dX9_soonest_8 : decode cX9_soonest 8 = .ok (.sipush (-1001), 3) := by decide +kernel
theorem dX9_soonest_11 : decode cX9_soonest 11 = .ok (.ireturn, 1) := by decide +kernel
theorem dX9_soonest_12 : decode cX9_soonest 12 = .ok (.iload_n 2, 1) := by decide +kernel
theorem dX9_soonest_13 : decode cX9_soonest 13 = .ok (.invokestatic 317, 3) := by decide +kernel
theorem dX9_soonest_16 : decode cX9_soonest 16 = .ok (.ifCond .ne 7, 3) := by decide +kernel
theorem dX9_soonest_19 : decode cX9_soonest 19 = .ok (.sipush (-1002), 3) := by decide +kernel
theorem dX9_soonest_22 : decode cX9_soonest 22 = .ok (.ireturn, 1) := by decide +kernel
theorem dX9_soonest_23 : decode cX9_soonest 23 = .ok (.bipush (-2), 2) := by decide +kernel
theorem dX9_soonest_25 : decode cX9_soonest 25 = .ok (.istore_n 3, 1) := by decide +kernel
theorem dX9_soonest_26 : decode cX9_soonest 26 = .ok (.iconst 0, 1) := by decide +kernel
theorem dX9_soonest_27 : decode cX9_soonest 27 = .ok (.istore 4, 2) := by decide +kernel
theorem dX9_soonest_29 : decode cX9_soonest 29 = .ok (.iload 4, 2) := by decide +kernel
theorem dX9_soonest_31 : decode cX9_soonest 31 = .ok (.aload_n 0, 1) := by decide +kernel
theorem dX9_soonest_32 : decode cX9_soonest 32 = .ok (.getfield 126, 3) := by decide +kernel
theorem dX9_soonest_35 : decode cX9_soonest 35 = .ok (.if_icmp .ge 93, 3) := by decide +kernel
theorem dX9_soonest_38 : decode cX9_soonest 38 = .ok (.aload_n 0, 1) := by decide +kernel
theorem dX9_soonest_39 : decode cX9_soonest 39 = .ok (.aload_n 0, 1) := by decide +kernel
theorem dX9_soonest_40 : decode cX9_soonest 40 = .ok (.getfield 31, 3) := by decide +kernel
theorem dX9_soonest_43 : decode cX9_soonest 43 = .ok (.iload 4, 2) := by decide +kernel
theorem dX9_soonest_45 : decode cX9_soonest 45 = .ok (.iaload, 1) := by decide +kernel
theorem dX9_soonest_46 : decode cX9_soonest 46 = .ok (.invokevirtual 269, 3) := by decide +kernel
theorem dX9_soonest_49 : decode cX9_soonest 49 = .ok (.iload_n 1, 1) := by decide +kernel
theorem dX9_soonest_50 : decode cX9_soonest 50 = .ok (.invokestatic 190, 3) := by decide +kernel
theorem dX9_soonest_53 : decode cX9_soonest 53 = .ok (.ifCond .eq 69, 3) := by decide +kernel
theorem dX9_soonest_56 : decode cX9_soonest 56 = .ok (.aload_n 0, 1) := by decide +kernel
theorem dX9_soonest_57 : decode cX9_soonest 57 = .ok (.getfield 37, 3) := by decide +kernel
theorem dX9_soonest_60 : decode cX9_soonest 60 = .ok (.iload 4, 2) := by decide +kernel
theorem dX9_soonest_62 : decode cX9_soonest 62 = .ok (.iaload, 1) := by decide +kernel
theorem dX9_soonest_63 : decode cX9_soonest 63 = .ok (.ifCond .eq 15, 3) := by decide +kernel
theorem dX9_soonest_66 : decode cX9_soonest 66 = .ok (.aload_n 0, 1) := by decide +kernel
theorem dX9_soonest_67 : decode cX9_soonest 67 = .ok (.iload 4, 2) := by decide +kernel
theorem dX9_soonest_69 : decode cX9_soonest 69 = .ok (.iconst 1, 1) := by decide +kernel
theorem dX9_soonest_70 : decode cX9_soonest 70 = .ok (.iload_n 1, 1) := by decide +kernel
theorem dX9_soonest_71 : decode cX9_soonest 71 = .ok (.ishl, 1) := by decide +kernel
theorem dX9_soonest_72 : decode cX9_soonest 72 = .ok (.invokevirtual 305, 3) := by decide +kernel
theorem dX9_soonest_75 : decode cX9_soonest 75 = .ok (.ifCond .ge 5, 3) := by decide +kernel
theorem dX9_soonest_78 : decode cX9_soonest 78 = .ok (.iconst (-1), 1) := by decide +kernel
theorem dX9_soonest_79 : decode cX9_soonest 79 = .ok (.ireturn, 1) := by decide +kernel
theorem dX9_soonest_80 : decode cX9_soonest 80 = .ok (.iload_n 2, 1) := by decide +kernel
theorem dX9_soonest_81 : decode cX9_soonest 81 = .ok (.aload_n 0, 1) := by decide +kernel
theorem dX9_soonest_82 : decode cX9_soonest 82 = .ok (.getfield 37, 3) := by decide +kernel
theorem dX9_soonest_85 : decode cX9_soonest 85 = .ok (.iload 4, 2) := by decide +kernel
theorem dX9_soonest_87 : decode cX9_soonest 87 = .ok (.iaload, 1) := by decide +kernel
theorem dX9_soonest_88 : decode cX9_soonest 88 = .ok (.iadd, 1) := by decide +kernel
theorem dX9_soonest_89 : decode cX9_soonest 89 = .ok (.iconst 1, 1) := by decide +kernel
theorem dX9_soonest_90 : decode cX9_soonest 90 = .ok (.isub, 1) := by decide +kernel
theorem dX9_soonest_91 : decode cX9_soonest 91 = .ok (.aload_n 0, 1) := by decide +kernel
theorem dX9_soonest_92 : decode cX9_soonest 92 = .ok (.getfield 37, 3) := by decide +kernel
theorem dX9_soonest_95 : decode cX9_soonest 95 = .ok (.iload 4, 2) := by decide +kernel
theorem dX9_soonest_97 : decode cX9_soonest 97 = .ok (.iaload, 1) := by decide +kernel
theorem dX9_soonest_98 : decode cX9_soonest 98 = .ok (.idiv, 1) := by decide +kernel
theorem dX9_soonest_99 : decode cX9_soonest 99 = .ok (.aload_n 0, 1) := by decide +kernel
theorem dX9_soonest_100 : decode cX9_soonest 100 = .ok (.getfield 37, 3) := by decide +kernel
theorem dX9_soonest_103 : decode cX9_soonest 103 = .ok (.iload 4, 2) := by decide +kernel
theorem dX9_soonest_105 : decode cX9_soonest 105 = .ok (.iaload, 1) := by decide +kernel
theorem dX9_soonest_106 : decode cX9_soonest 106 = .ok (.imul, 1) := by decide +kernel
theorem dX9_soonest_107 : decode cX9_soonest 107 = .ok (.istore 5, 2) := by decide +kernel
theorem dX9_soonest_109 : decode cX9_soonest 109 = .ok (.iload 5, 2) := by decide +kernel
theorem dX9_soonest_111 : decode cX9_soonest 111 = .ok (.iload_n 3, 1) := by decide +kernel
theorem dX9_soonest_112 : decode cX9_soonest 112 = .ok (.if_icmp .le 8, 3) := by decide +kernel
theorem dX9_soonest_115 : decode cX9_soonest 115 = .ok (.iload 5, 2) := by decide +kernel
theorem dX9_soonest_117 : decode cX9_soonest 117 = .ok (.goto 4, 3) := by decide +kernel
theorem dX9_soonest_120 : decode cX9_soonest 120 = .ok (.iload_n 3, 1) := by decide +kernel
theorem dX9_soonest_121 : decode cX9_soonest 121 = .ok (.istore_n 3, 1) := by decide +kernel
theorem dX9_soonest_122 : decode cX9_soonest 122 = .ok (.iinc 4 1, 3) := by decide +kernel
theorem dX9_soonest_125 : decode cX9_soonest 125 = .ok (.goto (-96), 3) := by decide +kernel
theorem dX9_soonest_128 : decode cX9_soonest 128 = .ok (.iload_n 3, 1) := by decide +kernel
theorem dX9_soonest_129 : decode cX9_soonest 129 = .ok (.ireturn, 1) := by decide +kernel
theorem dX9_readyOf_0 : decode cX9_readyOf 0 = .ok (.iconst 0, 1) := by decide +kernel
theorem dX9_readyOf_1 : decode cX9_readyOf 1 = .ok (.istore_n 2, 1) := by decide +kernel
theorem dX9_readyOf_2 : decode cX9_readyOf 2 = .ok (.iconst 0, 1) := by decide +kernel
theorem dX9_readyOf_3 : decode cX9_readyOf 3 = .ok (.istore_n 3, 1) := by decide +kernel
theorem dX9_readyOf_4 : decode cX9_readyOf 4 = .ok (.iload_n 3, 1) := by decide +kernel
theorem dX9_readyOf_5 : decode cX9_readyOf 5 = .ok (.aload_n 0, 1) := by decide +kernel
theorem dX9_readyOf_6 : decode cX9_readyOf 6 = .ok (.getfield 114, 3) := by decide +kernel
theorem dX9_readyOf_9 : decode cX9_readyOf 9 = .ok (.if_icmp .ge 35, 3) := by decide +kernel
theorem dX9_readyOf_12 : decode cX9_readyOf 12 = .ok (.iload_n 2, 1) := by decide +kernel
theorem dX9_readyOf_13 : decode cX9_readyOf 13 = .ok (.iload_n 1, 1) := by decide +kernel
theorem dX9_readyOf_14 : decode cX9_readyOf 14 = .ok (.iload_n 3, 1) := by decide +kernel
theorem dX9_readyOf_15 : decode cX9_readyOf 15 = .ok (.invokestatic 190, 3) := by decide +kernel
theorem dX9_readyOf_18 : decode cX9_readyOf 18 = .ok (.ifCond .ne 17, 3) := by decide +kernel
theorem dX9_readyOf_21 : decode cX9_readyOf 21 = .ok (.aload_n 0, 1) := by decide +kernel
theorem dX9_readyOf_22 : decode cX9_readyOf 22 = .ok (.iload_n 3, 1) := by decide +kernel
theorem dX9_readyOf_23 : decode cX9_readyOf 23 = .ok (.invokevirtual 275, 3) := by decide +kernel
theorem dX9_readyOf_26 : decode cX9_readyOf 26 = .ok (.ifCond .ne 9, 3) := by decide +kernel
theorem dX9_readyOf_29 : decode cX9_readyOf 29 = .ok (.iconst 1, 1) := by decide +kernel
theorem dX9_readyOf_30 : decode cX9_readyOf 30 = .ok (.iload_n 3, 1) := by decide +kernel
theorem dX9_readyOf_31 : decode cX9_readyOf 31 = .ok (.ishl, 1) := by decide +kernel
theorem dX9_readyOf_32 : decode cX9_readyOf 32 = .ok (.goto 4, 3) := by decide +kernel
theorem dX9_readyOf_35 : decode cX9_readyOf 35 = .ok (.iconst 0, 1) := by decide +kernel
theorem dX9_readyOf_36 : decode cX9_readyOf 36 = .ok (.ior, 1) := by decide +kernel
theorem dX9_readyOf_37 : decode cX9_readyOf 37 = .ok (.istore_n 2, 1) := by decide +kernel
theorem dX9_readyOf_38 : decode cX9_readyOf 38 = .ok (.iinc 3 1, 3) := by decide +kernel
theorem dX9_readyOf_41 : decode cX9_readyOf 41 = .ok (.goto (-37), 3) := by decide +kernel
theorem dX9_readyOf_44 : decode cX9_readyOf 44 = .ok (.iload_n 2, 1) := by decide +kernel
theorem dX9_readyOf_45 : decode cX9_readyOf 45 = .ok (.ireturn, 1) := by decide +kernel
theorem dX9_ready_0 : decode cX9_ready 0 = .ok (.aload_n 0, 1) := by decide +kernel
theorem dX9_ready_1 : decode cX9_ready 1 = .ok (.iload_n 1, 1) := by decide +kernel
theorem dX9_ready_2 : decode cX9_ready 2 = .ok (.invokevirtual 266, 3) := by decide +kernel
theorem dX9_ready_5 : decode cX9_ready 5 = .ok (.ifCond .ne 7, 3) := by decide +kernel
theorem dX9_ready_8 : decode cX9_ready 8 = .ok (.sipush (-1001), 3) := by decide +kernel
theorem dX9_ready_11 : decode cX9_ready 11 = .ok (.ireturn, 1) := by decide +kernel
theorem dX9_ready_12 : decode cX9_ready 12 = .ok (.aload_n 0, 1) := by decide +kernel
theorem dX9_ready_13 : decode cX9_ready 13 = .ok (.iload_n 1, 1) := by decide +kernel
theorem dX9_ready_14 : decode cX9_ready 14 = .ok (.invokevirtual 282, 3) := by decide +kernel
theorem dX9_ready_17 : decode cX9_ready 17 = .ok (.aload_n 0, 1) := by decide +kernel
theorem dX9_ready_18 : decode cX9_ready 18 = .ok (.aload_n 0, 1) := by decide +kernel
theorem dX9_ready_19 : decode cX9_ready 19 = .ok (.getfield 31, 3) := by decide +kernel
theorem dX9_ready_22 : decode cX9_ready 22 = .ok (.iload_n 1, 1) := by decide +kernel
theorem dX9_ready_23 : decode cX9_ready 23 = .ok (.iaload, 1) := by decide +kernel
theorem dX9_ready_24 : decode cX9_ready 24 = .ok (.invokevirtual 326, 3) := by decide +kernel
theorem dX9_ready_27 : decode cX9_ready 27 = .ok (.istore_n 3, 1) := by decide +kernel
theorem dX9_ready_28 : decode cX9_ready 28 = .ok (.iconst 0, 1) := by decide +kernel
theorem dX9_ready_29 : decode cX9_ready 29 = .ok (.istore 4, 2) := by decide +kernel
theorem dX9_ready_31 : decode cX9_ready 31 = .ok (.iload_n 2, 1) := by decide +kernel
theorem dX9_ready_32 : decode cX9_ready 32 = .ok (.ifCond .eq 57, 3) := by decide +kernel
theorem dX9_ready_35 : decode cX9_ready 35 = .ok (.iload_n 3, 1) := by decide +kernel
theorem dX9_ready_36 : decode cX9_ready 36 = .ok (.ifCond .eq 53, 3) := by decide +kernel
theorem dX9_ready_39 : decode cX9_ready 39 = .ok (.iconst 0, 1) := by decide +kernel
theorem dX9_ready_40 : decode cX9_ready 40 = .ok (.istore 5, 2) := by decide +kernel
theorem dX9_ready_42 : decode cX9_ready 42 = .ok (.iload_n 3, 1) := by decide +kernel
theorem dX9_ready_43 : decode cX9_ready 43 = .ok (.iload 5, 2) := by decide +kernel
theorem dX9_ready_45 : decode cX9_ready 45 = .ok (.invokestatic 190, 3) := by decide +kernel
theorem dX9_ready_48 : decode cX9_ready 48 = .ok (.ifCond .ne 9, 3) := by decide +kernel
theorem dX9_ready_51 : decode cX9_ready 51 = .ok (.iinc 5 1, 3) := by decide +kernel
theorem dX9_ready_54 : decode cX9_ready 54 = .ok (.goto (-12), 3) := by decide +kernel
theorem dX9_ready_57 : decode cX9_ready 57 = .ok (.aload_n 0, 1) := by decide +kernel
theorem dX9_ready_58 : decode cX9_ready 58 = .ok (.iload 5, 2) := by decide +kernel
theorem dX9_ready_60 : decode cX9_ready 60 = .ok (.invokevirtual 278, 3) := by decide +kernel
theorem dX9_ready_63 : decode cX9_ready 63 = .ok (.iload 4, 2) := by decide +kernel
theorem dX9_ready_65 : decode cX9_ready 65 = .ok (.iconst 1, 1) := by decide +kernel
theorem dX9_ready_66 : decode cX9_ready 66 = .ok (.iload 5, 2) := by decide +kernel
theorem dX9_ready_68 : decode cX9_ready 68 = .ok (.ishl, 1) := by decide +kernel
theorem dX9_ready_69 : decode cX9_ready 69 = .ok (.ior, 1) := by decide +kernel
theorem dX9_ready_70 : decode cX9_ready 70 = .ok (.istore 4, 2) := by decide +kernel
theorem dX9_ready_72 : decode cX9_ready 72 = .ok (.aload_n 0, 1) := by decide +kernel
theorem dX9_ready_73 : decode cX9_ready 73 = .ok (.aload_n 0, 1) := by decide +kernel
theorem dX9_ready_74 : decode cX9_ready 74 = .ok (.getfield 31, 3) := by decide +kernel
theorem dX9_ready_77 : decode cX9_ready 77 = .ok (.iload_n 1, 1) := by decide +kernel
theorem dX9_ready_78 : decode cX9_ready 78 = .ok (.iaload, 1) := by decide +kernel
theorem dX9_ready_79 : decode cX9_ready 79 = .ok (.iload 4, 2) := by decide +kernel
theorem dX9_ready_81 : decode cX9_ready 81 = .ok (.ior, 1) := by decide +kernel
theorem dX9_ready_82 : decode cX9_ready 82 = .ok (.invokevirtual 326, 3) := by decide +kernel
theorem dX9_ready_85 : decode cX9_ready 85 = .ok (.istore_n 3, 1) := by decide +kernel
theorem dX9_ready_86 : decode cX9_ready 86 = .ok (.goto (-55), 3) := by decide +kernel
theorem dX9_ready_89 : decode cX9_ready 89 = .ok (.iload_n 2, 1) := by decide +kernel
theorem dX9_ready_90 : decode cX9_ready 90 = .ok (.ifCond .eq 8, 3) := by decide +kernel
theorem dX9_ready_93 : decode cX9_ready 93 = .ok (.iload 4, 2) := by decide +kernel
theorem dX9_ready_95 : decode cX9_ready 95 = .ok (.goto 4, 3) := by decide +kernel
theorem dX9_ready_98 : decode cX9_ready 98 = .ok (.iload_n 3, 1) := by decide +kernel
theorem dX9_ready_99 : decode cX9_ready 99 = .ok (.ireturn, 1) := by decide +kernel
theorem dX9_areChanges_0 : decode cX9_areChanges 0 = .ok (.iload_n 1, 1) := by decide +kernel
theorem dX9_areChanges_1 : decode cX9_areChanges 1 = .ok (.i2l, 1) := by decide +kernel
theorem dX9_areChanges_2 : decode cX9_areChanges 2 = .ok (.lconst 0, 1) := by decide +kernel
theorem dX9_areChanges_3 : decode cX9_areChanges 3 = .ok (.iconst 1, 1) := by decide +kernel
theorem dX9_areChanges_4 : decode cX9_areChanges 4 = .ok (.aload_n 0, 1) := by decide +kernel
theorem dX9_areChanges_5 : decode cX9_areChanges 5 = .ok (.getfield 114, 3) := by decide +kernel
theorem dX9_areChanges_8 : decode cX9_areChanges 8 = .ok (.ishl, 1) := by decide +kernel
theorem dX9_areChanges_9 : decode cX9_areChanges 9 = .ok (.iconst 1, 1) := by decide +kernel
theorem dX9_areChanges_10 : decode cX9_areChanges 10 = .ok (.isub, 1) := by decide +kernel
theorem dX9_areChanges_11 : decode cX9_areChanges 11 = .ok (.i2l, 1) := by decide +kernel
theorem dX9_areChanges_12 : decode cX9_areChanges 12 = .ok (.invokestatic 117, 3) := by decide +kernel
theorem dX9_areChanges_15 : decode cX9_areChanges 15 = .ok (.ireturn, 1) := by decide +kernel
theorem dX9_fillRow_0 : decode cX9_fillRow 0 = .ok (.aload_n 0, 1) := by decide +kernel
theorem dX9_fillRow_1 : decode cX9_fillRow 1 = .ok (.iconst 0, 1) := by decide +kernel
theorem dX9_fillRow_2 : decode cX9_fillRow 2 = .ok (.putfield 329, 3) := by decide +kernel
theorem dX9_fillRow_5 : decode cX9_fillRow 5 = .ok (.iconst 0, 1) := by decide +kernel
theorem dX9_fillRow_6 : decode cX9_fillRow 6 = .ok (.istore_n 2, 1) := by decide +kernel
theorem dX9_fillRow_7 : decode cX9_fillRow 7 = .ok (.iload_n 2, 1) := by decide +kernel
theorem dX9_fillRow_8 : decode cX9_fillRow 8 = .ok (.aload_n 0, 1) := by decide +kernel
theorem dX9_fillRow_9 : decode cX9_fillRow 9 = .ok (.getfield 114, 3) := by decide +kernel
theorem dX9_fillRow_12 : decode cX9_fillRow 12 = .ok (.if_icmp .ge 37, 3) := by decide +kernel
theorem dX9_fillRow_15 : decode cX9_fillRow 15 = .ok (.iload_n 1, 1) := by decide +kernel
theorem dX9_fillRow_16 : decode cX9_fillRow 16 = .ok (.iload_n 2, 1) := by decide +kernel
theorem dX9_fillRow_17 : decode cX9_fillRow 17 = .ok (.invokestatic 190, 3) := by decide +kernel
theorem dX9_fillRow_20 : decode cX9_fillRow 20 = .ok (.ifCond .eq 23, 3) := by decide +kernel
theorem dX9_fillRow_23 : decode cX9_fillRow 23 = .ok (.aload_n 0, 1) := by decide +kernel
theorem dX9_fillRow_24 : decode cX9_fillRow 24 = .ok (.getfield 86, 3) := by decide +kernel
theorem dX9_fillRow_27 : decode cX9_fillRow 27 = .ok (.aload_n 0, 1) := by decide +kernel
theorem dX9_fillRow_28 : decode cX9_fillRow 28 = .ok (.getfield 329, 3) := by decide +kernel
theorem dX9_fillRow_31 : decode cX9_fillRow 31 = .ok (.iload_n 2, 1) := by decide +kernel
theorem dX9_fillRow_32 : decode cX9_fillRow 32 = .ok (.iastore, 1) := by decide +kernel
theorem dX9_fillRow_33 : decode cX9_fillRow 33 = .ok (.aload_n 0, 1) := by decide +kernel
theorem dX9_fillRow_34 : decode cX9_fillRow 34 = .ok (.dup, 1) := by decide +kernel
theorem dX9_fillRow_35 : decode cX9_fillRow 35 = .ok (.getfield 329, 3) := by decide +kernel
theorem dX9_fillRow_38 : decode cX9_fillRow 38 = .ok (.iconst 1, 1) := by decide +kernel
theorem dX9_fillRow_39 : decode cX9_fillRow 39 = .ok (.iadd, 1) := by decide +kernel
theorem dX9_fillRow_40 : decode cX9_fillRow 40 = .ok (.putfield 329, 3) := by decide +kernel
theorem dX9_fillRow_43 : decode cX9_fillRow 43 = .ok (.iinc 2 1, 3) := by decide +kernel
theorem dX9_fillRow_46 : decode cX9_fillRow 46 = .ok (.goto (-39), 3) := by decide +kernel
theorem dX9_fillRow_49 : decode cX9_fillRow 49 = .ok (.return_, 1) := by decide +kernel
theorem dX9_nextRow_0 : decode cX9_nextRow 0 = .ok (.aload_n 0, 1) := by decide +kernel
theorem dX9_nextRow_1 : decode cX9_nextRow 1 = .ok (.getfield 329, 3) := by decide +kernel
theorem dX9_nextRow_4 : decode cX9_nextRow 4 = .ok (.iconst 2, 1) := by decide +kernel
theorem dX9_nextRow_5 : decode cX9_nextRow 5 = .ok (.isub, 1) := by decide +kernel
theorem dX9_nextRow_6 : decode cX9_nextRow 6 = .ok (.istore_n 1, 1) := by decide +kernel
theorem dX9_nextRow_7 : decode cX9_nextRow 7 = .ok (.iload_n 1, 1) := by decide +kernel
theorem dX9_nextRow_8 : decode cX9_nextRow 8 = .ok (.ifCond .lt 26, 3) := by decide +kernel
theorem dX9_nextRow_11 : decode cX9_nextRow 11 = .ok (.aload_n 0, 1) := by decide +kernel
theorem dX9_nextRow_12 : decode cX9_nextRow 12 = .ok (.getfield 86, 3) := by decide +kernel
theorem dX9_nextRow_15 : decode cX9_nextRow 15 = .ok (.iload_n 1, 1) := by decide +kernel
theorem dX9_nextRow_16 : decode cX9_nextRow 16 = .ok (.iaload, 1) := by decide +kernel
theorem dX9_nextRow_17 : decode cX9_nextRow 17 = .ok (.aload_n 0, 1) := by decide +kernel
theorem dX9_nextRow_18 : decode cX9_nextRow 18 = .ok (.getfield 86, 3) := by decide +kernel
theorem dX9_nextRow_21 : decode cX9_nextRow 21 = .ok (.iload_n 1, 1) := by decide +kernel
theorem dX9_nextRow_22 : decode cX9_nextRow 22 = .ok (.iconst 1, 1) := by decide +kernel
theorem dX9_nextRow_23 : decode cX9_nextRow 23 = .ok (.iadd, 1) := by decide +kernel
theorem dX9_nextRow_24 : decode cX9_nextRow 24 = .ok (.iaload, 1) := by decide +kernel
theorem dX9_nextRow_25 : decode cX9_nextRow 25 = .ok (.if_icmp .le 9, 3) := by decide +kernel
theorem dX9_nextRow_28 : decode cX9_nextRow 28 = .ok (.iinc 1 (-1), 3) := by decide +kernel
theorem dX9_nextRow_31 : decode cX9_nextRow 31 = .ok (.goto (-24), 3) := by decide +kernel
theorem dX9_nextRow_34 : decode cX9_nextRow 34 = .ok (.iload_n 1, 1) := by decide +kernel
theorem dX9_nextRow_35 : decode cX9_nextRow 35 = .ok (.ifCond .ge 5, 3) := by decide +kernel
theorem dX9_nextRow_38 : decode cX9_nextRow 38 = .ok (.iconst 0, 1) := by decide +kernel
theorem dX9_nextRow_39 : decode cX9_nextRow 39 = .ok (.ireturn, 1) := by decide +kernel
theorem dX9_nextRow_40 : decode cX9_nextRow 40 = .ok (.aload_n 0, 1) := by decide +kernel
theorem dX9_nextRow_41 : decode cX9_nextRow 41 = .ok (.getfield 329, 3) := by decide +kernel
theorem dX9_nextRow_44 : decode cX9_nextRow 44 = .ok (.iconst 1, 1) := by decide +kernel
theorem dX9_nextRow_45 : decode cX9_nextRow 45 = .ok (.isub, 1) := by decide +kernel
theorem dX9_nextRow_46 : decode cX9_nextRow 46 = .ok (.istore_n 2, 1) := by decide +kernel
theorem dX9_nextRow_47 : decode cX9_nextRow 47 = .ok (.aload_n 0, 1) := by decide +kernel
theorem dX9_nextRow_48 : decode cX9_nextRow 48 = .ok (.getfield 86, 3) := by decide +kernel
theorem dX9_nextRow_51 : decode cX9_nextRow 51 = .ok (.iload_n 2, 1) := by decide +kernel
theorem dX9_nextRow_52 : decode cX9_nextRow 52 = .ok (.iaload, 1) := by decide +kernel
theorem dX9_nextRow_53 : decode cX9_nextRow 53 = .ok (.aload_n 0, 1) := by decide +kernel
theorem dX9_nextRow_54 : decode cX9_nextRow 54 = .ok (.getfield 86, 3) := by decide +kernel
theorem dX9_nextRow_57 : decode cX9_nextRow 57 = .ok (.iload_n 1, 1) := by decide +kernel
theorem dX9_nextRow_58 : decode cX9_nextRow 58 = .ok (.iaload, 1) := by decide +kernel
theorem dX9_nextRow_59 : decode cX9_nextRow 59 = .ok (.if_icmp .ge 9, 3) := by decide +kernel
theorem dX9_nextRow_62 : decode cX9_nextRow 62 = .ok (.iinc 2 (-1), 3) := by decide +kernel
theorem dX9_nextRow_65 : decode cX9_nextRow 65 = .ok (.goto (-18), 3) := by decide +kernel
theorem dX9_nextRow_68 : decode cX9_nextRow 68 = .ok (.aload_n 0, 1) := by decide +kernel
theorem dX9_nextRow_69 : decode cX9_nextRow 69 = .ok (.getfield 86, 3) := by decide +kernel
theorem dX9_nextRow_72 : decode cX9_nextRow 72 = .ok (.iload_n 1, 1) := by decide +kernel
theorem dX9_nextRow_73 : decode cX9_nextRow 73 = .ok (.iaload, 1) := by decide +kernel
theorem dX9_nextRow_74 : decode cX9_nextRow 74 = .ok (.istore_n 3, 1) := by decide +kernel
theorem dX9_nextRow_75 : decode cX9_nextRow 75 = .ok (.aload_n 0, 1) := by decide +kernel
theorem dX9_nextRow_76 : decode cX9_nextRow 76 = .ok (.getfield 86, 3) := by decide +kernel
theorem dX9_nextRow_79 : decode cX9_nextRow 79 = .ok (.iload_n 1, 1) := by decide +kernel
theorem dX9_nextRow_80 : decode cX9_nextRow 80 = .ok (.aload_n 0, 1) := by decide +kernel
theorem dX9_nextRow_81 : decode cX9_nextRow 81 = .ok (.getfield 86, 3) := by decide +kernel
theorem dX9_nextRow_84 : decode cX9_nextRow 84 = .ok (.iload_n 2, 1) := by decide +kernel
theorem dX9_nextRow_85 : decode cX9_nextRow 85 = .ok (.iaload, 1) := by decide +kernel
theorem dX9_nextRow_86 : decode cX9_nextRow 86 = .ok (.iastore, 1) := by decide +kernel
theorem dX9_nextRow_87 : decode cX9_nextRow 87 = .ok (.aload_n 0, 1) := by decide +kernel
theorem dX9_nextRow_88 : decode cX9_nextRow 88 = .ok (.getfield 86, 3) := by decide +kernel
theorem dX9_nextRow_91 : decode cX9_nextRow 91 = .ok (.iload_n 2, 1) := by decide +kernel
theorem dX9_nextRow_92 : decode cX9_nextRow 92 = .ok (.iload_n 3, 1) := by decide +kernel
theorem dX9_nextRow_93 : decode cX9_nextRow 93 = .ok (.iastore, 1) := by decide +kernel
theorem dX9_nextRow_94 : decode cX9_nextRow 94 = .ok (.iload_n 1, 1) := by decide +kernel
theorem dX9_nextRow_95 : decode cX9_nextRow 95 = .ok (.iconst 1, 1) := by decide +kernel
theorem dX9_nextRow_96 : decode cX9_nextRow 96 = .ok (.iadd, 1) := by decide +kernel
theorem dX9_nextRow_97 : decode cX9_nextRow 97 = .ok (.istore 4, 2) := by decide +kernel
theorem dX9_nextRow_99 : decode cX9_nextRow 99 = .ok (.aload_n 0, 1) := by decide +kernel
theorem dX9_nextRow_100 : decode cX9_nextRow 100 = .ok (.getfield 329, 3) := by decide +kernel
theorem dX9_nextRow_103 : decode cX9_nextRow 103 = .ok (.iconst 1, 1) := by decide +kernel
theorem dX9_nextRow_104 : decode cX9_nextRow 104 = .ok (.isub, 1) := by decide +kernel
theorem dX9_nextRow_105 : decode cX9_nextRow 105 = .ok (.istore 5, 2) := by decide +kernel
theorem dX9_nextRow_107 : decode cX9_nextRow 107 = .ok (.iload 4, 2) := by decide +kernel
theorem dX9_nextRow_109 : decode cX9_nextRow 109 = .ok (.iload 5, 2) := by decide +kernel
theorem dX9_nextRow_111 : decode cX9_nextRow 111 = .ok (.if_icmp .ge 44, 3) := by decide +kernel
theorem dX9_nextRow_114 : decode cX9_nextRow 114 = .ok (.aload_n 0, 1) := by decide +kernel
theorem dX9_nextRow_115 : decode cX9_nextRow 115 = .ok (.getfield 86, 3) := by decide +kernel
theorem dX9_nextRow_118 : decode cX9_nextRow 118 = .ok (.iload 4, 2) := by decide +kernel
theorem dX9_nextRow_120 : decode cX9_nextRow 120 = .ok (.iaload, 1) := by decide +kernel
theorem dX9_nextRow_121 : decode cX9_nextRow 121 = .ok (.istore 6, 2) := by decide +kernel
theorem dX9_nextRow_123 : decode cX9_nextRow 123 = .ok (.aload_n 0, 1) := by decide +kernel
theorem dX9_nextRow_124 : decode cX9_nextRow 124 = .ok (.getfield 86, 3) := by decide +kernel
theorem dX9_nextRow_127 : decode cX9_nextRow 127 = .ok (.iload 4, 2) := by decide +kernel
theorem dX9_nextRow_129 : decode cX9_nextRow 129 = .ok (.aload_n 0, 1) := by decide +kernel
theorem dX9_nextRow_130 : decode cX9_nextRow 130 = .ok (.getfield 86, 3) := by decide +kernel
theorem dX9_nextRow_133 : decode cX9_nextRow 133 = .ok (.iload 5, 2) := by decide +kernel
theorem dX9_nextRow_135 : decode cX9_nextRow 135 = .ok (.iaload, 1) := by decide +kernel
theorem dX9_nextRow_136 : decode cX9_nextRow 136 = .ok (.iastore, 1) := by decide +kernel
theorem dX9_nextRow_137 : decode cX9_nextRow 137 = .ok (.aload_n 0, 1) := by decide +kernel
theorem dX9_nextRow_138 : decode cX9_nextRow 138 = .ok (.getfield 86, 3) := by decide +kernel
theorem dX9_nextRow_141 : decode cX9_nextRow 141 = .ok (.iload 5, 2) := by decide +kernel
theorem dX9_nextRow_143 : decode cX9_nextRow 143 = .ok (.iload 6, 2) := by decide +kernel
theorem dX9_nextRow_145 : decode cX9_nextRow 145 = .ok (.iastore, 1) := by decide +kernel
theorem dX9_nextRow_146 : decode cX9_nextRow 146 = .ok (.iinc 4 1, 3) := by decide +kernel
theorem dX9_nextRow_149 : decode cX9_nextRow 149 = .ok (.iinc 5 (-1), 3) := by decide +kernel
theorem dX9_nextRow_152 : decode cX9_nextRow 152 = .ok (.goto (-45), 3) := by decide +kernel
theorem dX9_nextRow_155 : decode cX9_nextRow 155 = .ok (.iconst 1, 1) := by decide +kernel
theorem dX9_nextRow_156 : decode cX9_nextRow 156 = .ok (.ireturn, 1) := by decide +kernel
theorem dX9_isClean_0 : decode cX9_isClean 0 = .ok (.aload_n 0, 1) := by decide +kernel
theorem dX9_isClean_1 : decode cX9_isClean 1 = .ok (.iload_n 1, 1) := by decide +kernel
theorem dX9_isClean_2 : decode cX9_isClean 2 = .ok (.invokevirtual 282, 3) := by decide +kernel
theorem dX9_isClean_5 : decode cX9_isClean 5 = .ok (.iconst 1, 1) := by decide +kernel
theorem dX9_isClean_6 : decode cX9_isClean 6 = .ok (.istore_n 2, 1) := by decide +kernel
theorem dX9_isClean_7 : decode cX9_isClean 7 = .ok (.iconst 0, 1) := by decide +kernel
theorem dX9_isClean_8 : decode cX9_isClean 8 = .ok (.istore_n 3, 1) := by decide +kernel
theorem dX9_isClean_9 : decode cX9_isClean 9 = .ok (.iload_n 3, 1) := by decide +kernel
theorem dX9_isClean_10 : decode cX9_isClean 10 = .ok (.aload_n 0, 1) := by decide +kernel
theorem dX9_isClean_11 : decode cX9_isClean 11 = .ok (.getfield 329, 3) := by decide +kernel
theorem dX9_isClean_14 : decode cX9_isClean 14 = .ok (.if_icmp .ge 42, 3) := by decide +kernel
theorem dX9_isClean_17 : decode cX9_isClean 17 = .ok (.iload_n 2, 1) := by decide +kernel
theorem dX9_isClean_18 : decode cX9_isClean 18 = .ok (.ifCond .eq 38, 3) := by decide +kernel
theorem dX9_isClean_21 : decode cX9_isClean 21 = .ok (.aload_n 0, 1) := by decide +kernel
theorem dX9_isClean_22 : decode cX9_isClean 22 = .ok (.aload_n 0, 1) := by decide +kernel
theorem dX9_isClean_23 : decode cX9_isClean 23 = .ok (.getfield 86, 3) := by decide +kernel
theorem dX9_isClean_26 : decode cX9_isClean 26 = .ok (.iload_n 3, 1) := by decide +kernel
theorem dX9_isClean_27 : decode cX9_isClean 27 = .ok (.iaload, 1) := by decide +kernel
theorem dX9_isClean_28 : decode cX9_isClean 28 = .ok (.invokevirtual 275, 3) := by decide +kernel
theorem dX9_isClean_31 : decode cX9_isClean 31 = .ok (.ifCond .ne 7, 3) := by decide +kernel
theorem dX9_isClean_34 : decode cX9_isClean 34 = .ok (.iconst 1, 1) := by decide +kernel
theorem dX9_isClean_35 : decode cX9_isClean 35 = .ok (.goto 4, 3) := by decide +kernel
theorem dX9_isClean_38 : decode cX9_isClean 38 = .ok (.iconst 0, 1) := by decide +kernel
theorem dX9_isClean_39 : decode cX9_isClean 39 = .ok (.istore_n 2, 1) := by decide +kernel
theorem dX9_isClean_40 : decode cX9_isClean 40 = .ok (.aload_n 0, 1) := by decide +kernel
theorem dX9_isClean_41 : decode cX9_isClean 41 = .ok (.aload_n 0, 1) := by decide +kernel
theorem dX9_isClean_42 : decode cX9_isClean 42 = .ok (.getfield 86, 3) := by decide +kernel
theorem dX9_isClean_45 : decode cX9_isClean 45 = .ok (.iload_n 3, 1) := by decide +kernel
theorem dX9_isClean_46 : decode cX9_isClean 46 = .ok (.iaload, 1) := by decide +kernel
theorem dX9_isClean_47 : decode cX9_isClean 47 = .ok (.invokevirtual 278, 3) := by decide +kernel
theorem dX9_isClean_50 : decode cX9_isClean 50 = .ok (.iinc 3 1, 3) := by decide +kernel
theorem dX9_isClean_53 : decode cX9_isClean 53 = .ok (.goto (-44), 3) := by decide +kernel
theorem dX9_isClean_56 : decode cX9_isClean 56 = .ok (.iload_n 2, 1) := by decide +kernel
theorem dX9_isClean_57 : decode cX9_isClean 57 = .ok (.ireturn, 1) := by decide +kernel
theorem dX9_seek_0 : decode cX9_seek 0 = .ok (.aload_n 0, 1) := by decide +kernel
theorem dX9_seek_1 : decode cX9_seek 1 = .ok (.iload_n 2, 1) := by decide +kernel
theorem dX9_seek_2 : decode cX9_seek 2 = .ok (.invokevirtual 332, 3) := by decide +kernel
theorem dX9_seek_5 : decode cX9_seek 5 = .ok (.iconst 0, 1) := by decide +kernel
theorem dX9_seek_6 : decode cX9_seek 6 = .ok (.istore 4, 2) := by decide +kernel
theorem dX9_seek_8 : decode cX9_seek 8 = .ok (.iconst 1, 1) := by decide +kernel
theorem dX9_seek_9 : decode cX9_seek 9 = .ok (.istore 5, 2) := by decide +kernel
theorem dX9_seek_11 : decode cX9_seek 11 = .ok (.iload 5, 2) := by decide +kernel
theorem dX9_seek_13 : decode cX9_seek 13 = .ok (.ifCond .eq 32, 3) := by decide +kernel
theorem dX9_seek_16 : decode cX9_seek 16 = .ok (.aload_n 0, 1) := by decide +kernel
theorem dX9_seek_17 : decode cX9_seek 17 = .ok (.iload_n 1, 1) := by decide +kernel
theorem dX9_seek_18 : decode cX9_seek 18 = .ok (.invokevirtual 335, 3) := by decide +kernel
theorem dX9_seek_21 : decode cX9_seek 21 = .ok (.ifCond .eq 15, 3) := by decide +kernel
theorem dX9_seek_24 : decode cX9_seek 24 = .ok (.iload 4, 2) := by decide +kernel
theorem dX9_seek_26 : decode cX9_seek 26 = .ok (.iload_n 3, 1) := by decide +kernel
theorem dX9_seek_27 : decode cX9_seek 27 = .ok (.if_icmp .ne 6, 3) := by decide +kernel
theorem dX9_seek_30 : decode cX9_seek 30 = .ok (.iload 4, 2) := by decide +kernel
theorem dX9_seek_32 : decode cX9_seek 32 = .ok (.ireturn, 1) := by decide +kernel
theorem dX9_seek_33 : decode cX9_seek 33 = .ok (.iinc 4 1, 3) := by decide +kernel
theorem dX9_seek_36 : decode cX9_seek 36 = .ok (.aload_n 0, 1) := by decide +kernel
theorem dX9_seek_37 : decode cX9_seek 37 = .ok (.invokevirtual 338, 3) := by decide +kernel
theorem dX9_seek_40 : decode cX9_seek 40 = .ok (.istore 5, 2) := by decide +kernel
theorem dX9_seek_42 : decode cX9_seek 42 = .ok (.goto (-31), 3) := by decide +kernel
theorem dX9_seek_45 : decode cX9_seek 45 = .ok (.iload 4, 2) := by decide +kernel
theorem dX9_seek_47 : decode cX9_seek 47 = .ok (.ireturn, 1) := by decide +kernel
theorem dX9_isFew_0 : decode cX9_isFew 0 = .ok (.iload_n 2, 1) := by decide +kernel
theorem dX9_isFew_1 : decode cX9_isFew 1 = .ok (.aload_n 0, 1) := by decide +kernel
theorem dX9_isFew_2 : decode cX9_isFew 2 = .ok (.getfield 31, 3) := by decide +kernel
theorem dX9_isFew_5 : decode cX9_isFew 5 = .ok (.iload_n 1, 1) := by decide +kernel
theorem dX9_isFew_6 : decode cX9_isFew 6 = .ok (.iaload, 1) := by decide +kernel
theorem dX9_isFew_7 : decode cX9_isFew 7 = .ok (.iand, 1) := by decide +kernel
theorem dX9_isFew_8 : decode cX9_isFew 8 = .ok (.ifCond .ne 16, 3) := by decide +kernel
theorem dX9_isFew_11 : decode cX9_isFew 11 = .ok (.iload_n 2, 1) := by decide +kernel
theorem dX9_isFew_12 : decode cX9_isFew 12 = .ok (.invokestatic 289, 3) := by decide +kernel
theorem dX9_isFew_15 : decode cX9_isFew 15 = .ok (.bipush 8, 2) := by decide +kernel
theorem dX9_isFew_17 : decode cX9_isFew 17 = .ok (.if_icmp .gt 7, 3) := by decide +kernel
theorem dX9_isFew_20 : decode cX9_isFew 20 = .ok (.iconst 1, 1) := by decide +kernel
theorem dX9_isFew_21 : decode cX9_isFew 21 = .ok (.goto 4, 3) := by decide +kernel
theorem dX9_isFew_24 : decode cX9_isFew 24 = .ok (.iconst 0, 1) := by decide +kernel
theorem dX9_isFew_25 : decode cX9_isFew 25 = .ok (.ireturn, 1) := by decide +kernel
theorem dX9_orders_0 : decode cX9_orders 0 = .ok (.aload_n 0, 1) := by decide +kernel
theorem dX9_orders_1 : decode cX9_orders 1 = .ok (.iload_n 1, 1) := by decide +kernel
theorem dX9_orders_2 : decode cX9_orders 2 = .ok (.invokevirtual 266, 3) := by decide +kernel
theorem dX9_orders_5 : decode cX9_orders 5 = .ok (.ifCond .eq 11, 3) := by decide +kernel
theorem dX9_orders_8 : decode cX9_orders 8 = .ok (.aload_n 0, 1) := by decide +kernel
theorem dX9_orders_9 : decode cX9_orders 9 = .ok (.iload_n 2, 1) := by decide +kernel
theorem dX9_orders_10 : decode cX9_orders 10 = .ok (.invokevirtual 341, 3) := by decide +kernel
theorem dX9_orders_13 : decode cX9_orders 13 = .ok (.ifCond .ne 7, 3) := by decide +kernel
theorem dX9_orders_16 : decode cX9_orders 16 = .ok (.sipush (-1001), 3) := by decide +kernel
theorem dX9_orders_19 : decode cX9_orders 19 = .ok (.ireturn, 1) := by decide +kernel
theorem dX9_orders_20 : decode cX9_orders 20 = .ok (.aload_n 0, 1) := by decide +kernel
theorem dX9_orders_21 : decode cX9_orders 21 = .ok (.iload_n 1, 1) := by decide +kernel
theorem dX9_orders_22 : decode cX9_orders 22 = .ok (.iload_n 2, 1) := by decide +kernel
theorem dX9_orders_23 : decode cX9_orders 23 = .ok (.invokevirtual 344, 3) := by decide +kernel
theorem dX9_orders_26 : decode cX9_orders 26 = .ok (.ifCond .eq 13, 3) := by decide +kernel
theorem dX9_orders_29 : decode cX9_orders 29 = .ok (.aload_n 0, 1) := by decide +kernel
theorem dX9_orders_30 : decode cX9_orders 30 = .ok (.iload_n 1, 1) := by decide +kernel
theorem dX9_orders_31 : decode cX9_orders 31 = .ok (.iload_n 2, 1) := by decide +kernel
theorem dX9_orders_32 : decode cX9_orders 32 = .ok (.iconst (-1), 1) := by decide +kernel
theorem dX9_orders_33 : decode cX9_orders 33 = .ok (.invokevirtual 347, 3) := by decide +kernel
theorem dX9_orders_36 : decode cX9_orders 36 = .ok (.goto 6, 3) := by decide +kernel
theorem dX9_orders_39 : decode cX9_orders 39 = .ok (.sipush (-1003), 3) := by decide +kernel
theorem dX9_orders_42 : decode cX9_orders 42 = .ok (.ireturn, 1) := by decide +kernel
theorem dX9_order_0 : decode cX9_order 0 = .ok (.aload_n 0, 1) := by decide +kernel
theorem dX9_order_1 : decode cX9_order 1 = .ok (.iload_n 1, 1) := by decide +kernel
theorem dX9_order_2 : decode cX9_order 2 = .ok (.invokevirtual 266, 3) := by decide +kernel
theorem dX9_order_5 : decode cX9_order 5 = .ok (.ifCond .eq 11, 3) := by decide +kernel
theorem dX9_order_8 : decode cX9_order 8 = .ok (.aload_n 0, 1) := by decide +kernel
theorem dX9_order_9 : decode cX9_order 9 = .ok (.iload_n 2, 1) := by decide +kernel
theorem dX9_order_10 : decode cX9_order 10 = .ok (.invokevirtual 341, 3) := by decide +kernel
theorem dX9_order_13 : decode cX9_order 13 = .ok (.ifCond .ne 7, 3) := by decide +kernel
theorem dX9_order_16 : decode cX9_order 16 = .ok (.sipush (-1001), 3) := by decide +kernel
theorem dX9_order_19 : decode cX9_order 19 = .ok (.ireturn, 1) := by decide +kernel
theorem dX9_order_20 : decode cX9_order 20 = .ok (.iload_n 3, 1) := by decide +kernel
theorem dX9_order_21 : decode cX9_order 21 = .ok (.ifCond .ge 7, 3) := by decide +kernel
theorem dX9_order_24 : decode cX9_order 24 = .ok (.sipush (-1002), 3) := by decide +kernel
theorem dX9_order_27 : decode cX9_order 27 = .ok (.ireturn, 1) := by decide +kernel
theorem dX9_order_28 : decode cX9_order 28 = .ok (.aload_n 0, 1) := by decide +kernel
theorem dX9_order_29 : decode cX9_order 29 = .ok (.iload_n 1, 1) := by decide +kernel
theorem dX9_order_30 : decode cX9_order 30 = .ok (.iload_n 2, 1) := by decide +kernel
theorem dX9_order_31 : decode cX9_order 31 = .ok (.invokevirtual 344, 3) := by decide +kernel
theorem dX9_order_34 : decode cX9_order 34 = .ok (.ifCond .ne 7, 3) := by decide +kernel
theorem dX9_order_37 : decode cX9_order 37 = .ok (.sipush (-1003), 3) := by decide +kernel
theorem dX9_order_40 : decode cX9_order 40 = .ok (.ireturn, 1) := by decide +kernel
theorem dX9_order_41 : decode cX9_order 41 = .ok (.iload_n 3, 1) := by decide +kernel
theorem dX9_order_42 : decode cX9_order 42 = .ok (.aload_n 0, 1) := by decide +kernel
theorem dX9_order_43 : decode cX9_order 43 = .ok (.iload_n 1, 1) := by decide +kernel
theorem dX9_order_44 : decode cX9_order 44 = .ok (.iload_n 2, 1) := by decide +kernel
theorem dX9_order_45 : decode cX9_order 45 = .ok (.iconst (-1), 1) := by decide +kernel
theorem dX9_order_46 : decode cX9_order 46 = .ok (.invokevirtual 347, 3) := by decide +kernel
theorem dX9_order_49 : decode cX9_order 49 = .ok (.if_icmp .ge 20, 3) := by decide +kernel
theorem dX9_order_52 : decode cX9_order 52 = .ok (.iload 4, 2) := by decide +kernel
theorem dX9_order_54 : decode cX9_order 54 = .ok (.i2l, 1) := by decide +kernel
theorem dX9_order_55 : decode cX9_order 55 = .ok (.lconst 0, 1) := by decide +kernel
theorem dX9_order_56 : decode cX9_order 56 = .ok (.iload_n 2, 1) := by decide +kernel
theorem dX9_order_57 : decode cX9_order 57 = .ok (.invokestatic 289, 3) := by decide +kernel
theorem dX9_order_60 : decode cX9_order 60 = .ok (.iconst 1, 1) := by decide +kernel
theorem dX9_order_61 : decode cX9_order 61 = .ok (.isub, 1) := by decide +kernel
theorem dX9_order_62 : decode cX9_order 62 = .ok (.i2l, 1) := by decide +kernel
theorem dX9_order_63 : decode cX9_order 63 = .ok (.invokestatic 117, 3) := by decide +kernel
theorem dX9_order_66 : decode cX9_order 66 = .ok (.ifCond .ne 5, 3) := by decide +kernel
theorem dX9_order_69 : decode cX9_order 69 = .ok (.iconst (-1), 1) := by decide +kernel
theorem dX9_order_70 : decode cX9_order 70 = .ok (.ireturn, 1) := by decide +kernel
theorem dX9_order_71 : decode cX9_order 71 = .ok (.aload_n 0, 1) := by decide +kernel
theorem dX9_order_72 : decode cX9_order 72 = .ok (.iload_n 1, 1) := by decide +kernel
theorem dX9_order_73 : decode cX9_order 73 = .ok (.iload_n 2, 1) := by decide +kernel
theorem dX9_order_74 : decode cX9_order 74 = .ok (.iload_n 3, 1) := by decide +kernel
theorem dX9_order_75 : decode cX9_order 75 = .ok (.invokevirtual 347, 3) := by decide +kernel
theorem dX9_order_78 : decode cX9_order 78 = .ok (.iload_n 3, 1) := by decide +kernel
theorem dX9_order_79 : decode cX9_order 79 = .ok (.if_icmp .ne 13, 3) := by decide +kernel
theorem dX9_order_82 : decode cX9_order 82 = .ok (.aload_n 0, 1) := by decide +kernel
theorem dX9_order_83 : decode cX9_order 83 = .ok (.getfield 86, 3) := by decide +kernel
theorem dX9_order_86 : decode cX9_order 86 = .ok (.iload 4, 2) := by decide +kernel
theorem dX9_order_88 : decode cX9_order 88 = .ok (.iaload, 1) := by decide +kernel
theorem dX9_order_89 : decode cX9_order 89 = .ok (.goto 4, 3) := by decide +kernel
theorem dX9_order_92 : decode cX9_order 92 = .ok (.iconst (-1), 1) := by decide +kernel
theorem dX9_order_93 : decode cX9_order 93 = .ok (.ireturn, 1) := by decide +kernel
theorem dX9_whence_0 : decode cX9_whence 0 = .ok (.aload_n 0, 1) := by decide +kernel
theorem dX9_whence_1 : decode cX9_whence 1 = .ok (.iload_n 1, 1) := by decide +kernel
theorem dX9_whence_2 : decode cX9_whence 2 = .ok (.invokevirtual 266, 3) := by decide +kernel
theorem dX9_whence_5 : decode cX9_whence 5 = .ok (.ifCond .eq 10, 3) := by decide +kernel
theorem dX9_whence_8 : decode cX9_whence 8 = .ok (.iload_n 2, 1) := by decide +kernel
theorem dX9_whence_9 : decode cX9_whence 9 = .ok (.invokestatic 254, 3) := by decide +kernel
theorem dX9_whence_12 : decode cX9_whence 12 = .ok (.ifCond .ne 7, 3) := by decide +kernel
theorem dX9_whence_15 : decode cX9_whence 15 = .ok (.sipush (-1001), 3) := by decide +kernel
theorem dX9_whence_18 : decode cX9_whence 18 = .ok (.ireturn, 1) := by decide +kernel
theorem dX9_whence_19 : decode cX9_whence 19 = .ok (.iconst (-1), 1) := by decide +kernel
theorem dX9_whence_20 : decode cX9_whence 20 = .ok (.istore_n 3, 1) := by decide +kernel
theorem dX9_whence_21 : decode cX9_whence 21 = .ok (.iconst 0, 1) := by decide +kernel
theorem dX9_whence_22 : decode cX9_whence 22 = .ok (.istore 4, 2) := by decide +kernel
theorem dX9_whence_24 : decode cX9_whence 24 = .ok (.iload 4, 2) := by decide +kernel
theorem dX9_whence_26 : decode cX9_whence 26 = .ok (.aload_n 0, 1) := by decide +kernel
theorem dX9_whence_27 : decode cX9_whence 27 = .ok (.getfield 114, 3) := by decide +kernel
theorem dX9_whence_30 : decode cX9_whence 30 = .ok (.if_icmp .ge 83, 3) := by decide +kernel
theorem dX9_whence_33 : decode cX9_whence 33 = .ok (.aload_n 0, 1) := by decide +kernel
theorem dX9_whence_34 : decode cX9_whence 34 = .ok (.getfield 31, 3) := by decide +kernel
theorem dX9_whence_37 : decode cX9_whence 37 = .ok (.iload_n 1, 1) := by decide +kernel
theorem dX9_whence_38 : decode cX9_whence 38 = .ok (.iaload, 1) := by decide +kernel
theorem dX9_whence_39 : decode cX9_whence 39 = .ok (.iload 4, 2) := by decide +kernel
theorem dX9_whence_41 : decode cX9_whence 41 = .ok (.invokestatic 190, 3) := by decide +kernel
theorem dX9_whence_44 : decode cX9_whence 44 = .ok (.ifCond .eq 48, 3) := by decide +kernel
theorem dX9_whence_47 : decode cX9_whence 47 = .ok (.aload_n 0, 1) := by decide +kernel
theorem dX9_whence_48 : decode cX9_whence 48 = .ok (.getfield 7, 3) := by decide +kernel
theorem dX9_whence_51 : decode cX9_whence 51 = .ok (.bipush 16, 2) := by decide +kernel
theorem dX9_whence_53 : decode cX9_whence 53 = .ok (.iload 4, 2) := by decide +kernel
theorem dX9_whence_55 : decode cX9_whence 55 = .ok (.imul, 1) := by decide +kernel
theorem dX9_whence_56 : decode cX9_whence 56 = .ok (.iload_n 2, 1) := by decide +kernel
theorem dX9_whence_57 : decode cX9_whence 57 = .ok (.iadd, 1) := by decide +kernel
theorem dX9_whence_58 : decode cX9_whence 58 = .ok (.iaload, 1) := by decide +kernel
theorem dX9_whence_59 : decode cX9_whence 59 = .ok (.ifCond .le 33, 3) := by decide +kernel
theorem dX9_whence_62 : decode cX9_whence 62 = .ok (.aload_n 0, 1) := by decide +kernel
theorem dX9_whence_63 : decode cX9_whence 63 = .ok (.getfield 7, 3) := by decide +kernel
theorem dX9_whence_66 : decode cX9_whence 66 = .ok (.bipush 16, 2) := by decide +kernel
theorem dX9_whence_68 : decode cX9_whence 68 = .ok (.iload 4, 2) := by decide +kernel
theorem dX9_whence_70 : decode cX9_whence 70 = .ok (.imul, 1) := by decide +kernel
theorem dX9_whence_71 : decode cX9_whence 71 = .ok (.iload_n 2, 1) := by decide +kernel
theorem dX9_whence_72 : decode cX9_whence 72 = .ok (.iadd, 1) := by decide +kernel
theorem dX9_whence_73 : decode cX9_whence 73 = .ok (.iaload, 1) := by decide +kernel
theorem dX9_whence_74 : decode cX9_whence 74 = .ok (.aload_n 0, 1) := by decide +kernel
theorem dX9_whence_75 : decode cX9_whence 75 = .ok (.getfield 34, 3) := by decide +kernel
theorem dX9_whence_78 : decode cX9_whence 78 = .ok (.bipush 16, 2) := by decide +kernel
theorem dX9_whence_80 : decode cX9_whence 80 = .ok (.iload_n 1, 1) := by decide +kernel
theorem dX9_whence_81 : decode cX9_whence 81 = .ok (.imul, 1) := by decide +kernel
theorem dX9_whence_82 : decode cX9_whence 82 = .ok (.iload_n 2, 1) := by decide +kernel
theorem dX9_whence_83 : decode cX9_whence 83 = .ok (.iadd, 1) := by decide +kernel
theorem dX9_whence_84 : decode cX9_whence 84 = .ok (.iaload, 1) := by decide +kernel
theorem dX9_whence_85 : decode cX9_whence 85 = .ok (.if_icmp .ne 7, 3) := by decide +kernel
theorem dX9_whence_88 : decode cX9_whence 88 = .ok (.iconst 1, 1) := by decide +kernel
theorem dX9_whence_89 : decode cX9_whence 89 = .ok (.goto 4, 3) := by decide +kernel
theorem dX9_whence_92 : decode cX9_whence 92 = .ok (.iconst 0, 1) := by decide +kernel
theorem dX9_whence_93 : decode cX9_whence 93 = .ok (.istore 5, 2) := by decide +kernel
theorem dX9_whence_95 : decode cX9_whence 95 = .ok (.iload 5, 2) := by decide +kernel
theorem dX9_whence_97 : decode cX9_whence 97 = .ok (.ifCond .eq 8, 3) := by decide +kernel
theorem dX9_whence_100 : decode cX9_whence 100 = .ok (.iload 4, 2) := by decide +kernel
theorem dX9_whence_102 : decode cX9_whence 102 = .ok (.goto 4, 3) := by decide +kernel
theorem dX9_whence_105 : decode cX9_whence 105 = .ok (.iload_n 3, 1) := by decide +kernel
theorem dX9_whence_106 : decode cX9_whence 106 = .ok (.istore_n 3, 1) := by decide +kernel
theorem dX9_whence_107 : decode cX9_whence 107 = .ok (.iinc 4 1, 3) := by decide +kernel
theorem dX9_whence_110 : decode cX9_whence 110 = .ok (.goto (-86), 3) := by decide +kernel
theorem dX9_whence_113 : decode cX9_whence 113 = .ok (.iload_n 3, 1) := by decide +kernel
theorem dX9_whence_114 : decode cX9_whence 114 = .ok (.ireturn, 1) := by decide +kernel
theorem dX9_strayed_0 : decode cX9_strayed 0 = .ok (.aload_n 0, 1) := by decide +kernel
theorem dX9_strayed_1 : decode cX9_strayed 1 = .ok (.iload_n 1, 1) := by decide +kernel
theorem dX9_strayed_2 : decode cX9_strayed 2 = .ok (.invokevirtual 266, 3) := by decide +kernel
theorem dX9_strayed_5 : decode cX9_strayed 5 = .ok (.ifCond .ne 7, 3) := by decide +kernel
theorem dX9_strayed_8 : decode cX9_strayed 8 = .ok (.sipush (-1001), 3) := by decide +kernel
theorem dX9_strayed_11 : decode cX9_strayed 11 = .ok (.ireturn, 1) := by decide +kernel
theorem dX9_strayed_12 : decode cX9_strayed 12 = .ok (.iconst 0, 1) := by decide +kernel
theorem dX9_strayed_13 : decode cX9_strayed 13 = .ok (.istore_n 2, 1) := by decide +kernel
theorem dX9_strayed_14 : decode cX9_strayed 14 = .ok (.iconst 0, 1) := by decide +kernel
theorem dX9_strayed_15 : decode cX9_strayed 15 = .ok (.istore_n 3, 1) := by decide +kernel
theorem dX9_strayed_16 : decode cX9_strayed 16 = .ok (.iload_n 3, 1) := by decide +kernel
theorem dX9_strayed_17 : decode cX9_strayed 17 = .ok (.aload_n 0, 1) := by decide +kernel
theorem dX9_strayed_18 : decode cX9_strayed 18 = .ok (.getfield 114, 3) := by decide +kernel
theorem dX9_strayed_21 : decode cX9_strayed 21 = .ok (.if_icmp .ge 30, 3) := by decide +kernel
theorem dX9_strayed_24 : decode cX9_strayed 24 = .ok (.aload_n 0, 1) := by decide +kernel
theorem dX9_strayed_25 : decode cX9_strayed 25 = .ok (.getfield 31, 3) := by decide +kernel
theorem dX9_strayed_28 : decode cX9_strayed 28 = .ok (.iload_n 1, 1) := by decide +kernel
theorem dX9_strayed_29 : decode cX9_strayed 29 = .ok (.iaload, 1) := by decide +kernel
theorem dX9_strayed_30 : decode cX9_strayed 30 = .ok (.iload_n 3, 1) := by decide +kernel
theorem dX9_strayed_31 : decode cX9_strayed 31 = .ok (.invokestatic 190, 3) := by decide +kernel
theorem dX9_strayed_34 : decode cX9_strayed 34 = .ok (.ifCond .eq 9, 3) := by decide +kernel
theorem dX9_strayed_37 : decode cX9_strayed 37 = .ok (.iload_n 3, 1) := by decide +kernel
theorem dX9_strayed_38 : decode cX9_strayed 38 = .ok (.iconst 1, 1) := by decide +kernel
theorem dX9_strayed_39 : decode cX9_strayed 39 = .ok (.iadd, 1) := by decide +kernel
theorem dX9_strayed_40 : decode cX9_strayed 40 = .ok (.goto 4, 3) := by decide +kernel
theorem dX9_strayed_43 : decode cX9_strayed 43 = .ok (.iload_n 2, 1) := by decide +kernel
theorem dX9_strayed_44 : decode cX9_strayed 44 = .ok (.istore_n 2, 1) := by decide +kernel
theorem dX9_strayed_45 : decode cX9_strayed 45 = .ok (.iinc 3 1, 3) := by decide +kernel
theorem dX9_strayed_48 : decode cX9_strayed 48 = .ok (.goto (-32), 3) := by decide +kernel
theorem dX9_strayed_51 : decode cX9_strayed 51 = .ok (.iconst 0, 1) := by decide +kernel
theorem dX9_strayed_52 : decode cX9_strayed 52 = .ok (.istore_n 3, 1) := by decide +kernel
theorem dX9_strayed_53 : decode cX9_strayed 53 = .ok (.iconst 0, 1) := by decide +kernel
theorem dX9_strayed_54 : decode cX9_strayed 54 = .ok (.istore 4, 2) := by decide +kernel
theorem dX9_strayed_56 : decode cX9_strayed 56 = .ok (.iload 4, 2) := by decide +kernel
theorem dX9_strayed_58 : decode cX9_strayed 58 = .ok (.bipush 16, 2) := by decide +kernel
theorem dX9_strayed_60 : decode cX9_strayed 60 = .ok (.if_icmp .ge 42, 3) := by decide +kernel
theorem dX9_strayed_63 : decode cX9_strayed 63 = .ok (.iload_n 3, 1) := by decide +kernel
theorem dX9_strayed_64 : decode cX9_strayed 64 = .ok (.aload_n 0, 1) := by decide +kernel
theorem dX9_strayed_65 : decode cX9_strayed 65 = .ok (.getfield 34, 3) := by decide +kernel
theorem dX9_strayed_68 : decode cX9_strayed 68 = .ok (.bipush 16, 2) := by decide +kernel
theorem dX9_strayed_70 : decode cX9_strayed 70 = .ok (.iload_n 1, 1) := by decide +kernel
theorem dX9_strayed_71 : decode cX9_strayed 71 = .ok (.imul, 1) := by decide +kernel
theorem dX9_strayed_72 : decode cX9_strayed 72 = .ok (.iload 4, 2) := by decide +kernel
theorem dX9_strayed_74 : decode cX9_strayed 74 = .ok (.iadd, 1) := by decide +kernel
theorem dX9_strayed_75 : decode cX9_strayed 75 = .ok (.iaload, 1) := by decide +kernel
theorem dX9_strayed_76 : decode cX9_strayed 76 = .ok (.aload_n 0, 1) := by decide +kernel
theorem dX9_strayed_77 : decode cX9_strayed 77 = .ok (.iload_n 2, 1) := by decide +kernel
theorem dX9_strayed_78 : decode cX9_strayed 78 = .ok (.iload 4, 2) := by decide +kernel
theorem dX9_strayed_80 : decode cX9_strayed 80 = .ok (.invokevirtual 260, 3) := by decide +kernel
theorem dX9_strayed_83 : decode cX9_strayed 83 = .ok (.if_icmp .eq 10, 3) := by decide +kernel
theorem dX9_strayed_86 : decode cX9_strayed 86 = .ok (.iconst 1, 1) := by decide +kernel
theorem dX9_strayed_87 : decode cX9_strayed 87 = .ok (.iload 4, 2) := by decide +kernel
theorem dX9_strayed_89 : decode cX9_strayed 89 = .ok (.ishl, 1) := by decide +kernel
theorem dX9_strayed_90 : decode cX9_strayed 90 = .ok (.goto 4, 3) := by decide +kernel
theorem dX9_strayed_93 : decode cX9_strayed 93 = .ok (.iconst 0, 1) := by decide +kernel
theorem dX9_strayed_94 : decode cX9_strayed 94 = .ok (.ior, 1) := by decide +kernel
theorem dX9_strayed_95 : decode cX9_strayed 95 = .ok (.istore_n 3, 1) := by decide +kernel
theorem dX9_strayed_96 : decode cX9_strayed 96 = .ok (.iinc 4 1, 3) := by decide +kernel
theorem dX9_strayed_99 : decode cX9_strayed 99 = .ok (.goto (-43), 3) := by decide +kernel
theorem dX9_strayed_102 : decode cX9_strayed 102 = .ok (.iload_n 3, 1) := by decide +kernel
theorem dX9_strayed_103 : decode cX9_strayed 103 = .ok (.ireturn, 1) := by decide +kernel
theorem dX9_bestCut_0 : decode cX9_bestCut 0 = .ok (.iload_n 1, 1) := by decide +kernel
theorem dX9_bestCut_1 : decode cX9_bestCut 1 = .ok (.i2l, 1) := by decide +kernel
theorem dX9_bestCut_2 : decode cX9_bestCut 2 = .ok (.lconst 0, 1) := by decide +kernel
theorem dX9_bestCut_3 : decode cX9_bestCut 3 = .ok (.aload_n 0, 1) := by decide +kernel
theorem dX9_bestCut_4 : decode cX9_bestCut 4 = .ok (.getfield 114, 3) := by decide +kernel
theorem dX9_bestCut_7 : decode cX9_bestCut 7 = .ok (.i2l, 1) := by decide +kernel
theorem dX9_bestCut_8 : decode cX9_bestCut 8 = .ok (.invokestatic 117, 3) := by decide +kernel
theorem dX9_bestCut_11 : decode cX9_bestCut 11 = .ok (.ifCond .eq 28, 3) := by decide +kernel
theorem dX9_bestCut_14 : decode cX9_bestCut 14 = .ok (.iload_n 2, 1) := by decide +kernel
theorem dX9_bestCut_15 : decode cX9_bestCut 15 = .ok (.i2l, 1) := by decide +kernel
theorem dX9_bestCut_16 : decode cX9_bestCut 16 = .ok (.iload_n 1, 1) := by decide +kernel
theorem dX9_bestCut_17 : decode cX9_bestCut 17 = .ok (.i2l, 1) := by decide +kernel
theorem dX9_bestCut_18 : decode cX9_bestCut 18 = .ok (.aload_n 0, 1) := by decide +kernel
theorem dX9_bestCut_19 : decode cX9_bestCut 19 = .ok (.getfield 114, 3) := by decide +kernel
theorem dX9_bestCut_22 : decode cX9_bestCut 22 = .ok (.i2l, 1) := by decide +kernel
theorem dX9_bestCut_23 : decode cX9_bestCut 23 = .ok (.invokestatic 117, 3) := by decide +kernel
theorem dX9_bestCut_26 : decode cX9_bestCut 26 = .ok (.ifCond .eq 13, 3) := by decide +kernel
theorem dX9_bestCut_29 : decode cX9_bestCut 29 = .ok (.iload_n 3, 1) := by decide +kernel
theorem dX9_bestCut_30 : decode cX9_bestCut 30 = .ok (.i2l, 1) := by decide +kernel
theorem dX9_bestCut_31 : decode cX9_bestCut 31 = .ok (.lconst 0, 1) := by decide +kernel
theorem dX9_bestCut_32 : decode cX9_bestCut 32 = .ok (.lconst 1, 1) := by decide +kernel
theorem dX9_bestCut_33 : decode cX9_bestCut 33 = .ok (.invokestatic 117, 3) := by decide +kernel
theorem dX9_bestCut_36 : decode cX9_bestCut 36 = .ok (.ifCond .ne 7, 3) := by decide +kernel
theorem dX9_bestCut_39 : decode cX9_bestCut 39 = .ok (.sipush (-1002), 3) := by decide +kernel
theorem dX9_bestCut_42 : decode cX9_bestCut 42 = .ok (.ireturn, 1) := by decide +kernel
theorem dX9_bestCut_43 : decode cX9_bestCut 43 = .ok (.iload_n 1, 1) := by decide +kernel
theorem dX9_bestCut_44 : decode cX9_bestCut 44 = .ok (.istore 4, 2) := by decide +kernel
theorem dX9_bestCut_46 : decode cX9_bestCut 46 = .ok (.aload_n 0, 1) := by decide +kernel
theorem dX9_bestCut_47 : decode cX9_bestCut 47 = .ok (.aload_n 0, 1) := by decide +kernel
theorem dX9_bestCut_48 : decode cX9_bestCut 48 = .ok (.iconst 1, 1) := by decide +kernel
theorem dX9_bestCut_49 : decode cX9_bestCut 49 = .ok (.iload_n 1, 1) := by decide +kernel
theorem dX9_bestCut_50 : decode cX9_bestCut 50 = .ok (.ishl, 1) := by decide +kernel
theorem dX9_bestCut_51 : decode cX9_bestCut 51 = .ok (.iconst 1, 1) := by decide +kernel
theorem dX9_bestCut_52 : decode cX9_bestCut 52 = .ok (.isub, 1) := by decide +kernel
theorem dX9_bestCut_53 : decode cX9_bestCut 53 = .ok (.invokevirtual 269, 3) := by decide +kernel
theorem dX9_bestCut_56 : decode cX9_bestCut 56 = .ok (.invokevirtual 314, 3) := by decide +kernel
theorem dX9_bestCut_59 : decode cX9_bestCut 59 = .ok (.istore 5, 2) := by decide +kernel
theorem dX9_bestCut_61 : decode cX9_bestCut 61 = .ok (.iload_n 1, 1) := by decide +kernel
theorem dX9_bestCut_62 : decode cX9_bestCut 62 = .ok (.iconst 1, 1) := by decide +kernel
theorem dX9_bestCut_63 : decode cX9_bestCut 63 = .ok (.iadd, 1) := by decide +kernel
theorem dX9_bestCut_64 : decode cX9_bestCut 64 = .ok (.istore 6, 2) := by decide +kernel
theorem dX9_bestCut_66 : decode cX9_bestCut 66 = .ok (.iload 6, 2) := by decide +kernel
theorem dX9_bestCut_68 : decode cX9_bestCut 68 = .ok (.iload_n 2, 1) := by decide +kernel
theorem dX9_bestCut_69 : decode cX9_bestCut 69 = .ok (.if_icmp .gt 57, 3) := by decide +kernel
theorem dX9_bestCut_72 : decode cX9_bestCut 72 = .ok (.aload_n 0, 1) := by decide +kernel
theorem dX9_bestCut_73 : decode cX9_bestCut 73 = .ok (.aload_n 0, 1) := by decide +kernel
theorem dX9_bestCut_74 : decode cX9_bestCut 74 = .ok (.iconst 1, 1) := by decide +kernel
theorem dX9_bestCut_75 : decode cX9_bestCut 75 = .ok (.iload 6, 2) := by decide +kernel
theorem dX9_bestCut_77 : decode cX9_bestCut 77 = .ok (.ishl, 1) := by decide +kernel
theorem dX9_bestCut_78 : decode cX9_bestCut 78 = .ok (.iconst 1, 1) := by decide +kernel
theorem dX9_bestCut_79 : decode cX9_bestCut 79 = .ok (.isub, 1) := by decide +kernel
theorem dX9_bestCut_80 : decode cX9_bestCut 80 = .ok (.invokevirtual 269, 3) := by decide +kernel
theorem dX9_bestCut_83 : decode cX9_bestCut 83 = .ok (.invokevirtual 314, 3) := by decide +kernel
theorem dX9_bestCut_86 : decode cX9_bestCut 86 = .ok (.istore 7, 2) := by decide +kernel
theorem dX9_bestCut_88 : decode cX9_bestCut 88 = .ok (.iload 7, 2) := by decide +kernel
theorem dX9_bestCut_90 : decode cX9_bestCut 90 = .ok (.iload 5, 2) := by decide +kernel
theorem dX9_bestCut_92 : decode cX9_bestCut 92 = .ok (.if_icmp .gt 8, 3) := by decide +kernel
theorem dX9_bestCut_95 : decode cX9_bestCut 95 = .ok (.iload 6, 2) := by decide +kernel
theorem dX9_bestCut_97 : decode cX9_bestCut 97 = .ok (.goto 5, 3) := by decide +kernel
theorem dX9_bestCut_100 : decode cX9_bestCut 100 = .ok (.iload 4, 2) := by decide +kernel
theorem dX9_bestCut_102 : decode cX9_bestCut 102 = .ok (.istore 4, 2) := by decide +kernel
theorem dX9_bestCut_104 : decode cX9_bestCut 104 = .ok (.iload 7, 2) := by decide +kernel
theorem dX9_bestCut_106 : decode cX9_bestCut 106 = .ok (.iload 5, 2) := by decide +kernel
theorem dX9_bestCut_108 : decode cX9_bestCut 108 = .ok (.if_icmp .gt 8, 3) := by decide +kernel
theorem dX9_bestCut_111 : decode cX9_bestCut 111 = .ok (.iload 7, 2) := by decide +kernel
theorem dX9_bestCut_113 : decode cX9_bestCut 113 = .ok (.goto 5, 3) := by decide +kernel
theorem dX9_bestCut_116 : decode cX9_bestCut 116 = .ok (.iload 5, 2) := by decide +kernel
theorem dX9_bestCut_118 : decode cX9_bestCut 118 = .ok (.istore 5, 2) := by decide +kernel
theorem dX9_bestCut_120 : decode cX9_bestCut 120 = .ok (.iinc 6 1, 3) := by decide +kernel
theorem dX9_bestCut_123 : decode cX9_bestCut 123 = .ok (.goto (-57), 3) := by decide +kernel
theorem dX9_bestCut_126 : decode cX9_bestCut 126 = .ok (.iload_n 3, 1) := by decide +kernel
theorem dX9_bestCut_127 : decode cX9_bestCut 127 = .ok (.ifCond .ne 8, 3) := by decide +kernel
theorem dX9_bestCut_130 : decode cX9_bestCut 130 = .ok (.iload 4, 2) := by decide +kernel
theorem dX9_bestCut_132 : decode cX9_bestCut 132 = .ok (.goto 5, 3) := by decide +kernel
theorem dX9_bestCut_135 : decode cX9_bestCut 135 = .ok (.iload 5, 2) := by decide +kernel
theorem dX9_bestCut_137 : decode cX9_bestCut 137 = .ok (.ireturn, 1) := by decide +kernel
theorem dX9_up_0 : decode cX9_up 0 = .ok (.aload_n 0, 1) := by decide +kernel
theorem dX9_up_1 : decode cX9_up 1 = .ok (.iload_n 1, 1) := by decide +kernel
theorem dX9_up_2 : decode cX9_up 2 = .ok (.invokevirtual 320, 3) := by decide +kernel
theorem dX9_up_5 : decode cX9_up 5 = .ok (.ifCond .eq 11, 3) := by decide +kernel
theorem dX9_up_8 : decode cX9_up 8 = .ok (.aload_n 0, 1) := by decide +kernel
theorem dX9_up_9 : decode cX9_up 9 = .ok (.iload_n 2, 1) := by decide +kernel
theorem dX9_up_10 : decode cX9_up 10 = .ok (.invokevirtual 263, 3) := by decide +kernel
theorem dX9_up_13 : decode cX9_up 13 = .ok (.ifCond .ne 7, 3) := by decide +kernel
theorem dX9_up_16 : decode cX9_up 16 = .ok (.sipush (-1001), 3) := by decide +kernel
theorem dX9_up_19 : decode cX9_up 19 = .ok (.ireturn, 1) := by decide +kernel
theorem dX9_up_20 : decode cX9_up 20 = .ok (.iload_n 3, 1) := by decide +kernel
theorem dX9_up_21 : decode cX9_up 21 = .ok (.i2l, 1) := by decide +kernel
theorem dX9_up_22 : decode cX9_up 22 = .ok (.lconst 0, 1) := by decide +kernel
theorem dX9_up_23 : decode cX9_up 23 = .ok (.lconst 1, 1) := by decide +kernel
theorem dX9_up_24 : decode cX9_up 24 = .ok (.invokestatic 117, 3) := by decide +kernel
theorem dX9_up_27 : decode cX9_up 27 = .ok (.ifCond .ne 7, 3) := by decide +kernel
theorem dX9_up_30 : decode cX9_up 30 = .ok (.sipush (-1002), 3) := by decide +kernel
theorem dX9_up_33 : decode cX9_up 33 = .ok (.ireturn, 1) := by decide +kernel
theorem dX9_up_34 : decode cX9_up 34 = .ok (.aload_n 0, 1) := by decide +kernel
theorem dX9_up_35 : decode cX9_up 35 = .ok (.iload_n 1, 1) := by decide +kernel
theorem dX9_up_36 : decode cX9_up 36 = .ok (.iload_n 2, 1) := by decide +kernel
theorem dX9_up_37 : decode cX9_up 37 = .ok (.invokevirtual 323, 3) := by decide +kernel
theorem dX9_up_40 : decode cX9_up 40 = .ok (.ifCond .eq 7, 3) := by decide +kernel
theorem dX9_up_43 : decode cX9_up 43 = .ok (.sipush (-1003), 3) := by decide +kernel
theorem dX9_up_46 : decode cX9_up 46 = .ok (.ireturn, 1) := by decide +kernel
theorem dX9_up_47 : decode cX9_up 47 = .ok (.iconst (-1), 1) := by decide +kernel
theorem dX9_up_48 : decode cX9_up 48 = .ok (.istore 4, 2) := by decide +kernel
theorem dX9_up_50 : decode cX9_up 50 = .ok (.iconst (-1), 1) := by decide +kernel
theorem dX9_up_51 : decode cX9_up 51 = .ok (.istore 5, 2) := by decide +kernel
theorem dX9_up_53 : decode cX9_up 53 = .ok (.iload_n 1, 1) := by decide +kernel
theorem dX9_up_54 : decode cX9_up 54 = .ok (.iconst 1, 1) := by decide +kernel
theorem dX9_up_55 : decode cX9_up 55 = .ok (.iadd, 1) := by decide +kernel
theorem dX9_up_56 : decode cX9_up 56 = .ok (.istore 6, 2) := by decide +kernel
theorem dX9_up_58 : decode cX9_up 58 = .ok (.iload 6, 2) := by decide +kernel
theorem dX9_up_60 : decode cX9_up 60 = .ok (.aload_n 0, 1) := by decide +kernel
theorem dX9_up_61 : decode cX9_up 61 = .ok (.getfield 129, 3) := by decide +kernel
theorem dX9_up_64 : decode cX9_up 64 = .ok (.if_icmp .ge 148, 3) := by decide +kernel
theorem dX9_up_67 : decode cX9_up 67 = .ok (.aload_n 0, 1) := by decide +kernel
theorem dX9_up_68 : decode cX9_up 68 = .ok (.iload 6, 2) := by decide +kernel
theorem dX9_up_70 : decode cX9_up 70 = .ok (.iload_n 2, 1) := by decide +kernel
theorem dX9_up_71 : decode cX9_up 71 = .ok (.invokevirtual 323, 3) := by decide +kernel
theorem dX9_up_74 : decode cX9_up 74 = .ok (.ifCond .eq 34, 3) := by decide +kernel
theorem dX9_up_77 : decode cX9_up 77 = .ok (.aload_n 0, 1) := by decide +kernel
theorem dX9_up_78 : decode cX9_up 78 = .ok (.aload_n 0, 1) := by decide +kernel
theorem dX9_up_79 : decode cX9_up 79 = .ok (.getfield 46, 3) := by decide +kernel
theorem dX9_up_82 : decode cX9_up 82 = .ok (.iload 6, 2) := by decide +kernel
theorem dX9_up_84 : decode cX9_up 84 = .ok (.iaload, 1) := by decide +kernel
theorem dX9_up_85 : decode cX9_up 85 = .ok (.invokevirtual 269, 3) := by decide +kernel
theorem dX9_up_88 : decode cX9_up 88 = .ok (.aload_n 0, 1) := by decide +kernel
theorem dX9_up_89 : decode cX9_up 89 = .ok (.aload_n 0, 1) := by decide +kernel
theorem dX9_up_90 : decode cX9_up 90 = .ok (.getfield 46, 3) := by decide +kernel
theorem dX9_up_93 : decode cX9_up 93 = .ok (.iload_n 1, 1) := by decide +kernel
theorem dX9_up_94 : decode cX9_up 94 = .ok (.iaload, 1) := by decide +kernel
theorem dX9_up_95 : decode cX9_up 95 = .ok (.invokevirtual 269, 3) := by decide +kernel
theorem dX9_up_98 : decode cX9_up 98 = .ok (.iconst (-1), 1) := by decide +kernel
theorem dX9_up_99 : decode cX9_up 99 = .ok (.ixor, 1) := by decide +kernel
theorem dX9_up_100 : decode cX9_up 100 = .ok (.iand, 1) := by decide +kernel
theorem dX9_up_101 : decode cX9_up 101 = .ok (.ifCond .ne 7, 3) := by decide +kernel
theorem dX9_up_104 : decode cX9_up 104 = .ok (.iconst 1, 1) := by decide +kernel
theorem dX9_up_105 : decode cX9_up 105 = .ok (.goto 4, 3) := by decide +kernel
theorem dX9_up_108 : decode cX9_up 108 = .ok (.iconst 0, 1) := by decide +kernel
theorem dX9_up_109 : decode cX9_up 109 = .ok (.istore 7, 2) := by decide +kernel
theorem dX9_up_111 : decode cX9_up 111 = .ok (.aload_n 0, 1) := by decide +kernel
theorem dX9_up_112 : decode cX9_up 112 = .ok (.aload_n 0, 1) := by decide +kernel
theorem dX9_up_113 : decode cX9_up 113 = .ok (.getfield 46, 3) := by decide +kernel
theorem dX9_up_116 : decode cX9_up 116 = .ok (.iload 6, 2) := by decide +kernel
theorem dX9_up_118 : decode cX9_up 118 = .ok (.iaload, 1) := by decide +kernel
theorem dX9_up_119 : decode cX9_up 119 = .ok (.aload_n 0, 1) := by decide +kernel
theorem dX9_up_120 : decode cX9_up 120 = .ok (.getfield 46, 3) := by decide +kernel
theorem dX9_up_123 : decode cX9_up 123 = .ok (.iload_n 1, 1) := by decide +kernel
theorem dX9_up_124 : decode cX9_up 124 = .ok (.iaload, 1) := by decide +kernel
theorem dX9_up_125 : decode cX9_up 125 = .ok (.iconst (-1), 1) := by decide +kernel
theorem dX9_up_126 : decode cX9_up 126 = .ok (.ixor, 1) := by decide +kernel
theorem dX9_up_127 : decode cX9_up 127 = .ok (.iand, 1) := by decide +kernel
theorem dX9_up_128 : decode cX9_up 128 = .ok (.invokevirtual 272, 3) := by decide +kernel
theorem dX9_up_131 : decode cX9_up 131 = .ok (.aload_n 0, 1) := by decide +kernel
theorem dX9_up_132 : decode cX9_up 132 = .ok (.aload_n 0, 1) := by decide +kernel
theorem dX9_up_133 : decode cX9_up 133 = .ok (.getfield 46, 3) := by decide +kernel
theorem dX9_up_136 : decode cX9_up 136 = .ok (.iload_n 1, 1) := by decide +kernel
theorem dX9_up_137 : decode cX9_up 137 = .ok (.iaload, 1) := by decide +kernel
theorem dX9_up_138 : decode cX9_up 138 = .ok (.aload_n 0, 1) := by decide +kernel
theorem dX9_up_139 : decode cX9_up 139 = .ok (.getfield 46, 3) := by decide +kernel
theorem dX9_up_142 : decode cX9_up 142 = .ok (.iload 6, 2) := by decide +kernel
theorem dX9_up_144 : decode cX9_up 144 = .ok (.iaload, 1) := by decide +kernel
theorem dX9_up_145 : decode cX9_up 145 = .ok (.iconst (-1), 1) := by decide +kernel
theorem dX9_up_146 : decode cX9_up 146 = .ok (.ixor, 1) := by decide +kernel
theorem dX9_up_147 : decode cX9_up 147 = .ok (.iand, 1) := by decide +kernel
theorem dX9_up_148 : decode cX9_up 148 = .ok (.invokevirtual 272, 3) := by decide +kernel
theorem dX9_up_151 : decode cX9_up 151 = .ok (.iadd, 1) := by decide +kernel
theorem dX9_up_152 : decode cX9_up 152 = .ok (.istore 8, 2) := by decide +kernel
theorem dX9_up_154 : decode cX9_up 154 = .ok (.iload 7, 2) := by decide +kernel
theorem dX9_up_156 : decode cX9_up 156 = .ok (.ifCond .eq 19, 3) := by decide +kernel
theorem dX9_up_159 : decode cX9_up 159 = .ok (.iload 4, 2) := by decide +kernel
theorem dX9_up_161 : decode cX9_up 161 = .ok (.ifCond .lt 10, 3) := by decide +kernel
theorem dX9_up_164 : decode cX9_up 164 = .ok (.iload 8, 2) := by decide +kernel
theorem dX9_up_166 : decode cX9_up 166 = .ok (.iload 5, 2) := by decide +kernel
theorem dX9_up_168 : decode cX9_up 168 = .ok (.if_icmp .ge 7, 3) := by decide +kernel
theorem dX9_up_171 : decode cX9_up 171 = .ok (.iconst 1, 1) := by decide +kernel
theorem dX9_up_172 : decode cX9_up 172 = .ok (.goto 4, 3) := by decide +kernel
theorem dX9_up_175 : decode cX9_up 175 = .ok (.iconst 0, 1) := by decide +kernel
theorem dX9_up_176 : decode cX9_up 176 = .ok (.istore 9, 2) := by decide +kernel
theorem dX9_up_178 : decode cX9_up 178 = .ok (.iload 9, 2) := by decide +kernel
theorem dX9_up_180 : decode cX9_up 180 = .ok (.ifCond .eq 8, 3) := by decide +kernel
theorem dX9_up_183 : decode cX9_up 183 = .ok (.iload 6, 2) := by decide +kernel
theorem dX9_up_185 : decode cX9_up 185 = .ok (.goto 5, 3) := by decide +kernel
theorem dX9_up_188 : decode cX9_up 188 = .ok (.iload 4, 2) := by decide +kernel
theorem dX9_up_190 : decode cX9_up 190 = .ok (.istore 4, 2) := by decide +kernel
theorem dX9_up_192 : decode cX9_up 192 = .ok (.iload 9, 2) := by decide +kernel
theorem dX9_up_194 : decode cX9_up 194 = .ok (.ifCond .eq 8, 3) := by decide +kernel
theorem dX9_up_197 : decode cX9_up 197 = .ok (.iload 8, 2) := by decide +kernel
theorem dX9_up_199 : decode cX9_up 199 = .ok (.goto 5, 3) := by decide +kernel
theorem dX9_up_202 : decode cX9_up 202 = .ok (.iload 5, 2) := by decide +kernel
theorem dX9_up_204 : decode cX9_up 204 = .ok (.istore 5, 2) := by decide +kernel
theorem dX9_up_206 : decode cX9_up 206 = .ok (.iinc 6 1, 3) := by decide +kernel
theorem dX9_up_209 : decode cX9_up 209 = .ok (.goto (-151), 3) := by decide +kernel
theorem dX9_up_212 : decode cX9_up 212 = .ok (.iload_n 3, 1) := by decide +kernel
theorem dX9_up_213 : decode cX9_up 213 = .ok (.ifCond .ne 8, 3) := by decide +kernel
theorem dX9_up_216 : decode cX9_up 216 = .ok (.iload 4, 2) := by decide +kernel
theorem dX9_up_218 : decode cX9_up 218 = .ok (.goto 5, 3) := by decide +kernel
theorem dX9_up_221 : decode cX9_up 221 = .ok (.iload 5, 2) := by decide +kernel
theorem dX9_up_223 : decode cX9_up 223 = .ok (.ireturn, 1) := by decide +kernel
theorem dX9_spans_0 : decode cX9_spans 0 = .ok (.aload_n 0, 1) := by decide +kernel
theorem dX9_spans_1 : decode cX9_spans 1 = .ok (.iload_n 1, 1) := by decide +kernel
theorem dX9_spans_2 : decode cX9_spans 2 = .ok (.invokevirtual 263, 3) := by decide +kernel
theorem dX9_spans_5 : decode cX9_spans 5 = .ok (.ifCond .eq 11, 3) := by decide +kernel
theorem dX9_spans_8 : decode cX9_spans 8 = .ok (.aload_n 0, 1) := by decide +kernel
theorem dX9_spans_9 : decode cX9_spans 9 = .ok (.iload_n 2, 1) := by decide +kernel
theorem dX9_spans_10 : decode cX9_spans 10 = .ok (.invokevirtual 266, 3) := by decide +kernel
theorem dX9_spans_13 : decode cX9_spans 13 = .ok (.ifCond .ne 7, 3) := by decide +kernel
theorem dX9_spans_16 : decode cX9_spans 16 = .ok (.sipush (-1001), 3) := by decide +kernel
theorem dX9_spans_19 : decode cX9_spans 19 = .ok (.ireturn, 1) := by decide +kernel
theorem dX9_spans_20 : decode cX9_spans 20 = .ok (.iload 4, 2) := by decide +kernel
theorem dX9_spans_22 : decode cX9_spans 22 = .ok (.i2l, 1) := by decide +kernel
theorem dX9_spans_23 : decode cX9_spans 23 = .ok (.lconst 0, 1) := by decide +kernel
theorem dX9_spans_24 : decode cX9_spans 24 = .ok (.lconst 1, 1) := by decide +kernel
theorem dX9_spans_25 : decode cX9_spans 25 = .ok (.invokestatic 117, 3) := by decide +kernel
theorem dX9_spans_28 : decode cX9_spans 28 = .ok (.ifCond .ne 7, 3) := by decide +kernel
theorem dX9_spans_31 : decode cX9_spans 31 = .ok (.sipush (-1002), 3) := by decide +kernel
theorem dX9_spans_34 : decode cX9_spans 34 = .ok (.ireturn, 1) := by decide +kernel
theorem dX9_spans_35 : decode cX9_spans 35 = .ok (.iconst 0, 1) := by decide +kernel
theorem dX9_spans_36 : decode cX9_spans 36 = .ok (.istore 5, 2) := by decide +kernel
theorem dX9_spans_38 : decode cX9_spans 38 = .ok (.iconst 0, 1) := by decide +kernel
theorem dX9_spans_39 : decode cX9_spans 39 = .ok (.istore 6, 2) := by decide +kernel
theorem dX9_spans_41 : decode cX9_spans 41 = .ok (.iconst (-1), 1) := by decide +kernel
theorem dX9_spans_42 : decode cX9_spans 42 = .ok (.istore 7, 2) := by decide +kernel
theorem dX9_spans_44 : decode cX9_spans 44 = .ok (.iconst (-1), 1) := by decide +kernel
theorem dX9_spans_45 : decode cX9_spans 45 = .ok (.istore 8, 2) := by decide +kernel
theorem dX9_spans_47 : decode cX9_spans 47 = .ok (.iconst 0, 1) := by decide +kernel
theorem dX9_spans_48 : decode cX9_spans 48 = .ok (.istore 9, 2) := by decide +kernel
theorem dX9_spans_50 : decode cX9_spans 50 = .ok (.iload 9, 2) := by decide +kernel
theorem dX9_spans_52 : decode cX9_spans 52 = .ok (.aload_n 0, 1) := by decide +kernel
theorem dX9_spans_53 : decode cX9_spans 53 = .ok (.getfield 129, 3) := by decide +kernel
theorem dX9_spans_56 : decode cX9_spans 56 = .ok (.if_icmp .ge 110, 3) := by decide +kernel
theorem dX9_spans_59 : decode cX9_spans 59 = .ok (.aload_n 0, 1) := by decide +kernel
theorem dX9_spans_60 : decode cX9_spans 60 = .ok (.getfield 40, 3) := by decide +kernel
theorem dX9_spans_63 : decode cX9_spans 63 = .ok (.iload 9, 2) := by decide +kernel
theorem dX9_spans_65 : decode cX9_spans 65 = .ok (.iaload, 1) := by decide +kernel
theorem dX9_spans_66 : decode cX9_spans 66 = .ok (.iload_n 2, 1) := by decide +kernel
theorem dX9_spans_67 : decode cX9_spans 67 = .ok (.if_icmp .ne 93, 3) := by decide +kernel
theorem dX9_spans_70 : decode cX9_spans 70 = .ok (.aload_n 0, 1) := by decide +kernel
theorem dX9_spans_71 : decode cX9_spans 71 = .ok (.iload 9, 2) := by decide +kernel
theorem dX9_spans_73 : decode cX9_spans 73 = .ok (.iload_n 1, 1) := by decide +kernel
theorem dX9_spans_74 : decode cX9_spans 74 = .ok (.invokevirtual 323, 3) := by decide +kernel
theorem dX9_spans_77 : decode cX9_spans 77 = .ok (.istore 10, 2) := by decide +kernel
theorem dX9_spans_79 : decode cX9_spans 79 = .ok (.iload 5, 2) := by decide +kernel
theorem dX9_spans_81 : decode cX9_spans 81 = .ok (.iload 10, 2) := by decide +kernel
theorem dX9_spans_83 : decode cX9_spans 83 = .ok (.ifCond .ne 12, 3) := by decide +kernel
theorem dX9_spans_86 : decode cX9_spans 86 = .ok (.iload 6, 2) := by decide +kernel
theorem dX9_spans_88 : decode cX9_spans 88 = .ok (.ifCond .ne 7, 3) := by decide +kernel
theorem dX9_spans_91 : decode cX9_spans 91 = .ok (.iconst 1, 1) := by decide +kernel
theorem dX9_spans_92 : decode cX9_spans 92 = .ok (.goto 4, 3) := by decide +kernel
theorem dX9_spans_95 : decode cX9_spans 95 = .ok (.iconst 0, 1) := by decide +kernel
theorem dX9_spans_96 : decode cX9_spans 96 = .ok (.iadd, 1) := by decide +kernel
theorem dX9_spans_97 : decode cX9_spans 97 = .ok (.istore 5, 2) := by decide +kernel
theorem dX9_spans_99 : decode cX9_spans 99 = .ok (.iload 10, 2) := by decide +kernel
theorem dX9_spans_101 : decode cX9_spans 101 = .ok (.ifCond .ne 21, 3) := by decide +kernel
theorem dX9_spans_104 : decode cX9_spans 104 = .ok (.iload 6, 2) := by decide +kernel
theorem dX9_spans_106 : decode cX9_spans 106 = .ok (.ifCond .ne 16, 3) := by decide +kernel
theorem dX9_spans_109 : decode cX9_spans 109 = .ok (.iload 5, 2) := by decide +kernel
theorem dX9_spans_111 : decode cX9_spans 111 = .ok (.iconst 1, 1) := by decide +kernel
theorem dX9_spans_112 : decode cX9_spans 112 = .ok (.isub, 1) := by decide +kernel
theorem dX9_spans_113 : decode cX9_spans 113 = .ok (.iload_n 3, 1) := by decide +kernel
theorem dX9_spans_114 : decode cX9_spans 114 = .ok (.if_icmp .ne 8, 3) := by decide +kernel
theorem dX9_spans_117 : decode cX9_spans 117 = .ok (.iload 9, 2) := by decide +kernel
theorem dX9_spans_119 : decode cX9_spans 119 = .ok (.goto 5, 3) := by decide +kernel
theorem dX9_spans_122 : decode cX9_spans 122 = .ok (.iload 7, 2) := by decide +kernel
theorem dX9_spans_124 : decode cX9_spans 124 = .ok (.istore 7, 2) := by decide +kernel
theorem dX9_spans_126 : decode cX9_spans 126 = .ok (.iload 10, 2) := by decide +kernel
theorem dX9_spans_128 : decode cX9_spans 128 = .ok (.ifCond .ne 16, 3) := by decide +kernel
theorem dX9_spans_131 : decode cX9_spans 131 = .ok (.iload 5, 2) := by decide +kernel
theorem dX9_spans_133 : decode cX9_spans 133 = .ok (.iconst 1, 1) := by decide +kernel
theorem dX9_spans_134 : decode cX9_spans 134 = .ok (.isub, 1) := by decide +kernel
theorem dX9_spans_135 : decode cX9_spans 135 = .ok (.iload_n 3, 1) := by decide +kernel
theorem dX9_spans_136 : decode cX9_spans 136 = .ok (.if_icmp .ne 8, 3) := by decide +kernel
theorem dX9_spans_139 : decode cX9_spans 139 = .ok (.iload 9, 2) := by decide +kernel
theorem dX9_spans_141 : decode cX9_spans 141 = .ok (.goto 5, 3) := by decide +kernel
theorem dX9_spans_144 : decode cX9_spans 144 = .ok (.iload 8, 2) := by decide +kernel
theorem dX9_spans_146 : decode cX9_spans 146 = .ok (.istore 8, 2) := by decide +kernel
theorem dX9_spans_148 : decode cX9_spans 148 = .ok (.iload 10, 2) := by decide +kernel
theorem dX9_spans_150 : decode cX9_spans 150 = .ok (.ifCond .ne 7, 3) := by decide +kernel
theorem dX9_spans_153 : decode cX9_spans 153 = .ok (.iconst 1, 1) := by decide +kernel
theorem dX9_spans_154 : decode cX9_spans 154 = .ok (.goto 4, 3) := by decide +kernel
theorem dX9_spans_157 : decode cX9_spans 157 = .ok (.iconst 0, 1) := by decide +kernel
theorem dX9_spans_158 : decode cX9_spans 158 = .ok (.istore 6, 2) := by decide +kernel
theorem dX9_spans_160 : decode cX9_spans 160 = .ok (.iinc 9 1, 3) := by decide +kernel
theorem dX9_spans_163 : decode cX9_spans 163 = .ok (.goto (-113), 3) := by decide +kernel
theorem dX9_spans_166 : decode cX9_spans 166 = .ok (.iload_n 3, 1) := by decide +kernel
theorem dX9_spans_167 : decode cX9_spans 167 = .ok (.iconst (-1), 1) := by decide +kernel
theorem dX9_spans_168 : decode cX9_spans 168 = .ok (.if_icmp .ne 8, 3) := by decide +kernel
theorem dX9_spans_171 : decode cX9_spans 171 = .ok (.iload 5, 2) := by decide +kernel
theorem dX9_spans_173 : decode cX9_spans 173 = .ok (.goto 15, 3) := by decide +kernel
theorem dX9_spans_176 : decode cX9_spans 176 = .ok (.iload 4, 2) := by decide +kernel
theorem dX9_spans_178 : decode cX9_spans 178 = .ok (.ifCond .ne 8, 3) := by decide +kernel
theorem dX9_spans_181 : decode cX9_spans 181 = .ok (.iload 7, 2) := by decide +kernel
theorem dX9_spans_183 : decode cX9_spans 183 = .ok (.goto 5, 3) := by decide +kernel
theorem dX9_spans_186 : decode cX9_spans 186 = .ok (.iload 8, 2) := by decide +kernel
theorem dX9_spans_188 : decode cX9_spans 188 = .ok (.ireturn, 1) := by decide +kernel
theorem dX9_takeFreeze_0 : decode cX9_takeFreeze 0 = .ok (.aload_n 0, 1) := by decide +kernel
theorem dX9_takeFreeze_1 : decode cX9_takeFreeze 1 = .ok (.getfield 351, 3) := by decide +kernel
theorem dX9_takeFreeze_4 : decode cX9_takeFreeze 4 = .ok (.bipush 8, 2) := by decide +kernel
theorem dX9_takeFreeze_6 : decode cX9_takeFreeze 6 = .ok (.if_icmp .ne 13, 3) := by decide +kernel
theorem dX9_takeFreeze_9 : decode cX9_takeFreeze 9 = .ok (.aload_n 0, 1) := by decide +kernel
theorem dX9_takeFreeze_10 : decode cX9_takeFreeze 10 = .ok (.iconst 3, 1) := by decide +kernel
theorem dX9_takeFreeze_11 : decode cX9_takeFreeze 11 = .ok (.aload_n 0, 1) := by decide +kernel
theorem dX9_takeFreeze_12 : decode cX9_takeFreeze 12 = .ok (.getfield 141, 3) := by decide +kernel
theorem dX9_takeFreeze_15 : decode cX9_takeFreeze 15 = .ok (.invokevirtual 171, 3) := by decide +kernel
theorem dX9_takeFreeze_18 : decode cX9_takeFreeze 18 = .ok (.ireturn, 1) := by decide +kernel
theorem dX9_takeFreeze_19 : decode cX9_takeFreeze 19 = .ok (.aload_n 0, 1) := by decide +kernel
theorem dX9_takeFreeze_20 : decode cX9_takeFreeze 20 = .ok (.aload_n 0, 1) := by decide +kernel
theorem dX9_takeFreeze_21 : decode cX9_takeFreeze 21 = .ok (.getfield 152, 3) := by decide +kernel
theorem dX9_takeFreeze_24 : decode cX9_takeFreeze 24 = .ok (.putfield 141, 3) := by decide +kernel
theorem dX9_takeFreeze_27 : decode cX9_takeFreeze 27 = .ok (.aload_n 0, 1) := by decide +kernel
theorem dX9_takeFreeze_28 : decode cX9_takeFreeze 28 = .ok (.iconst 0, 1) := by decide +kernel
theorem dX9_takeFreeze_29 : decode cX9_takeFreeze 29 = .ok (.sipush 999, 3) := by decide +kernel
theorem dX9_takeFreeze_32 : decode cX9_takeFreeze 32 = .ok (.invokevirtual 184, 3) := by decide +kernel
theorem dX9_takeFreeze_35 : decode cX9_takeFreeze 35 = .ok (.istore_n 1, 1) := by decide +kernel
theorem dX9_takeFreeze_36 : decode cX9_takeFreeze 36 = .ok (.aload_n 0, 1) := by decide +kernel
theorem dX9_takeFreeze_37 : decode cX9_takeFreeze 37 = .ok (.getfield 178, 3) := by decide +kernel
theorem dX9_takeFreeze_40 : decode cX9_takeFreeze 40 = .ok (.istore_n 2, 1) := by decide +kernel
theorem dX9_takeFreeze_41 : decode cX9_takeFreeze 41 = .ok (.iload_n 1, 1) := by decide +kernel
theorem dX9_takeFreeze_42 : decode cX9_takeFreeze 42 = .ok (.ifCond .le 7, 3) := by decide +kernel
theorem dX9_takeFreeze_45 : decode cX9_takeFreeze 45 = .ok (.iload_n 1, 1) := by decide +kernel
theorem dX9_takeFreeze_46 : decode cX9_takeFreeze 46 = .ok (.goto 11, 3) := by decide +kernel
theorem dX9_takeFreeze_49 : decode cX9_takeFreeze 49 = .ok (.aload_n 0, 1) := by decide +kernel
theorem dX9_takeFreeze_50 : decode cX9_takeFreeze 50 = .ok (.iload_n 2, 1) := by decide +kernel
theorem dX9_takeFreeze_51 : decode cX9_takeFreeze 51 = .ok (.sipush 999, 3) := by decide +kernel
theorem dX9_takeFreeze_54 : decode cX9_takeFreeze 54 = .ok (.invokevirtual 184, 3) := by decide +kernel
theorem dX9_takeFreeze_57 : decode cX9_takeFreeze 57 = .ok (.istore_n 1, 1) := by decide +kernel
theorem dX9_takeFreeze_58 : decode cX9_takeFreeze 58 = .ok (.aload_n 0, 1) := by decide +kernel
theorem dX9_takeFreeze_59 : decode cX9_takeFreeze 59 = .ok (.getfield 101, 3) := by decide +kernel
theorem dX9_takeFreeze_62 : decode cX9_takeFreeze 62 = .ok (.aload_n 0, 1) := by decide +kernel
theorem dX9_takeFreeze_63 : decode cX9_takeFreeze 63 = .ok (.getfield 351, 3) := by decide +kernel
theorem dX9_takeFreeze_66 : decode cX9_takeFreeze 66 = .ok (.iload_n 2, 1) := by decide +kernel
theorem dX9_takeFreeze_67 : decode cX9_takeFreeze 67 = .ok (.iastore, 1) := by decide +kernel
theorem dX9_takeFreeze_68 : decode cX9_takeFreeze 68 = .ok (.aload_n 0, 1) := by decide +kernel
theorem dX9_takeFreeze_69 : decode cX9_takeFreeze 69 = .ok (.getfield 104, 3) := by decide +kernel
theorem dX9_takeFreeze_72 : decode cX9_takeFreeze 72 = .ok (.aload_n 0, 1) := by decide +kernel
theorem dX9_takeFreeze_73 : decode cX9_takeFreeze 73 = .ok (.getfield 351, 3) := by decide +kernel
theorem dX9_takeFreeze_76 : decode cX9_takeFreeze 76 = .ok (.aload_n 0, 1) := by decide +kernel
theorem dX9_takeFreeze_77 : decode cX9_takeFreeze 77 = .ok (.getfield 178, 3) := by decide +kernel
theorem dX9_takeFreeze_80 : decode cX9_takeFreeze 80 = .ok (.iastore, 1) := by decide +kernel
theorem dX9_takeFreeze_81 : decode cX9_takeFreeze 81 = .ok (.aload_n 0, 1) := by decide +kernel
theorem dX9_takeFreeze_82 : decode cX9_takeFreeze 82 = .ok (.dup, 1) := by decide +kernel
theorem dX9_takeFreeze_83 : decode cX9_takeFreeze 83 = .ok (.getfield 351, 3) := by decide +kernel
theorem dX9_takeFreeze_86 : decode cX9_takeFreeze 86 = .ok (.iconst 1, 1) := by decide +kernel
theorem dX9_takeFreeze_87 : decode cX9_takeFreeze 87 = .ok (.iadd, 1) := by decide +kernel
theorem dX9_takeFreeze_88 : decode cX9_takeFreeze 88 = .ok (.putfield 351, 3) := by decide +kernel
theorem dX9_takeFreeze_91 : decode cX9_takeFreeze 91 = .ok (.iload_n 1, 1) := by decide +kernel
theorem dX9_takeFreeze_92 : decode cX9_takeFreeze 92 = .ok (.ireturn, 1) := by decide +kernel
theorem dX9_takeOnly_0 : decode cX9_takeOnly 0 = .ok (.aload_n 0, 1) := by decide +kernel
theorem dX9_takeOnly_1 : decode cX9_takeOnly 1 = .ok (.iconst 0, 1) := by decide +kernel
theorem dX9_takeOnly_2 : decode cX9_takeOnly 2 = .ok (.putfield 187, 3) := by decide +kernel
theorem dX9_takeOnly_5 : decode cX9_takeOnly 5 = .ok (.iconst 1, 1) := by decide +kernel
theorem dX9_takeOnly_6 : decode cX9_takeOnly 6 = .ok (.istore_n 1, 1) := by decide +kernel
theorem dX9_takeOnly_7 : decode cX9_takeOnly 7 = .ok (.iload_n 1, 1) := by decide +kernel
theorem dX9_takeOnly_8 : decode cX9_takeOnly 8 = .ok (.ifCond .eq 71, 3) := by decide +kernel
theorem dX9_takeOnly_11 : decode cX9_takeOnly 11 = .ok (.aload_n 0, 1) := by decide +kernel
theorem dX9_takeOnly_12 : decode cX9_takeOnly 12 = .ok (.iconst 0, 1) := by decide +kernel
theorem dX9_takeOnly_13 : decode cX9_takeOnly 13 = .ok (.iconst 3, 1) := by decide +kernel
theorem dX9_takeOnly_14 : decode cX9_takeOnly 14 = .ok (.invokevirtual 184, 3) := by decide +kernel
theorem dX9_takeOnly_17 : decode cX9_takeOnly 17 = .ok (.istore_n 2, 1) := by decide +kernel
theorem dX9_takeOnly_18 : decode cX9_takeOnly 18 = .ok (.iload_n 2, 1) := by decide +kernel
theorem dX9_takeOnly_19 : decode cX9_takeOnly 19 = .ok (.ifCond .ne 29, 3) := by decide +kernel
theorem dX9_takeOnly_22 : decode cX9_takeOnly 22 = .ok (.aload_n 0, 1) := by decide +kernel
theorem dX9_takeOnly_23 : decode cX9_takeOnly 23 = .ok (.getfield 187, 3) := by decide +kernel
theorem dX9_takeOnly_26 : decode cX9_takeOnly 26 = .ok (.aload_n 0, 1) := by decide +kernel
theorem dX9_takeOnly_27 : decode cX9_takeOnly 27 = .ok (.getfield 178, 3) := by decide +kernel
theorem dX9_takeOnly_30 : decode cX9_takeOnly 30 = .ok (.invokestatic 190, 3) := by decide +kernel
theorem dX9_takeOnly_33 : decode cX9_takeOnly 33 = .ok (.ifCond .eq 15, 3) := by decide +kernel
theorem dX9_takeOnly_36 : decode cX9_takeOnly 36 = .ok (.aload_n 0, 1) := by decide +kernel
theorem dX9_takeOnly_37 : decode cX9_takeOnly 37 = .ok (.iconst 4, 1) := by decide +kernel
theorem dX9_takeOnly_38 : decode cX9_takeOnly 38 = .ok (.aload_n 0, 1) := by decide +kernel
theorem dX9_takeOnly_39 : decode cX9_takeOnly 39 = .ok (.getfield 175, 3) := by decide +kernel
theorem dX9_takeOnly_42 : decode cX9_takeOnly 42 = .ok (.invokevirtual 171, 3) := by decide +kernel
theorem dX9_takeOnly_45 : decode cX9_takeOnly 45 = .ok (.goto 4, 3) := by decide +kernel
theorem dX9_takeOnly_48 : decode cX9_takeOnly 48 = .ok (.iload_n 2, 1) := by decide +kernel
theorem dX9_takeOnly_49 : decode cX9_takeOnly 49 = .ok (.istore_n 2, 1) := by decide +kernel
theorem dX9_takeOnly_50 : decode cX9_takeOnly 50 = .ok (.iload_n 2, 1) := by decide +kernel
theorem dX9_takeOnly_51 : decode cX9_takeOnly 51 = .ok (.ifCond .le 5, 3) := by decide +kernel
theorem dX9_takeOnly_54 : decode cX9_takeOnly 54 = .ok (.iload_n 2, 1) := by decide +kernel
theorem dX9_takeOnly_55 : decode cX9_takeOnly 55 = .ok (.ireturn, 1) := by decide +kernel
theorem dX9_takeOnly_56 : decode cX9_takeOnly 56 = .ok (.aload_n 0, 1) := by decide +kernel
theorem dX9_takeOnly_57 : decode cX9_takeOnly 57 = .ok (.dup, 1) := by decide +kernel
theorem dX9_takeOnly_58 : decode cX9_takeOnly 58 = .ok (.getfield 187, 3) := by decide +kernel
theorem dX9_takeOnly_61 : decode cX9_takeOnly 61 = .ok (.iconst 1, 1) := by decide +kernel
theorem dX9_takeOnly_62 : decode cX9_takeOnly 62 = .ok (.aload_n 0, 1) := by decide +kernel
theorem dX9_takeOnly_63 : decode cX9_takeOnly 63 = .ok (.getfield 178, 3) := by decide +kernel
theorem dX9_takeOnly_66 : decode cX9_takeOnly 66 = .ok (.ishl, 1) := by decide +kernel
theorem dX9_takeOnly_67 : decode cX9_takeOnly 67 = .ok (.ior, 1) := by decide +kernel
theorem dX9_takeOnly_68 : decode cX9_takeOnly 68 = .ok (.putfield 187, 3) := by decide +kernel
theorem dX9_takeOnly_71 : decode cX9_takeOnly 71 = .ok (.aload_n 0, 1) := by decide +kernel
theorem dX9_takeOnly_72 : decode cX9_takeOnly 72 = .ok (.invokevirtual 197, 3) := by decide +kernel
theorem dX9_takeOnly_75 : decode cX9_takeOnly 75 = .ok (.istore_n 1, 1) := by decide +kernel
theorem dX9_takeOnly_76 : decode cX9_takeOnly 76 = .ok (.goto (-69), 3) := by decide +kernel
theorem dX9_takeOnly_79 : decode cX9_takeOnly 79 = .ok (.aload_n 0, 1) := by decide +kernel
theorem dX9_takeOnly_80 : decode cX9_takeOnly 80 = .ok (.aload_n 0, 1) := by decide +kernel
theorem dX9_takeOnly_81 : decode cX9_takeOnly 81 = .ok (.getfield 187, 3) := by decide +kernel
theorem dX9_takeOnly_84 : decode cX9_takeOnly 84 = .ok (.putfield 354, 3) := by decide +kernel
theorem dX9_takeOnly_87 : decode cX9_takeOnly 87 = .ok (.iconst 0, 1) := by decide +kernel
theorem dX9_takeOnly_88 : decode cX9_takeOnly 88 = .ok (.ireturn, 1) := by decide +kernel
theorem dX9_takeRule_0 : decode cX9_takeRule 0 = .ok (.aload_n 0, 1) := by decide +kernel
theorem dX9_takeRule_1 : decode cX9_takeRule 1 = .ok (.invokevirtual 204, 3) := by decide +kernel
theorem dX9_takeRule_4 : decode cX9_takeRule 4 = .ok (.bipush 102, 2) := by decide +kernel
theorem dX9_takeRule_6 : decode cX9_takeRule 6 = .ok (.bipush 114, 2) := by decide +kernel
theorem dX9_takeRule_8 : decode cX9_takeRule 8 = .ok (.bipush 101, 2) := by decide +kernel
theorem dX9_takeRule_10 : decode cX9_takeRule 10 = .ok (.bipush 101, 2) := by decide +kernel
theorem dX9_takeRule_12 : decode cX9_takeRule 12 = .ok (.invokestatic 207, 3) := by decide +kernel
theorem dX9_takeRule_15 : decode cX9_takeRule 15 = .ok (.bipush 122, 2) := by decide +kernel
theorem dX9_takeRule_17 : decode cX9_takeRule 17 = .ok (.invokestatic 211, 3) := by decide +kernel
theorem dX9_takeRule_20 : decode cX9_takeRule 20 = .ok (.bipush 101, 2) := by decide +kernel
theorem dX9_takeRule_22 : decode cX9_takeRule 22 = .ok (.invokestatic 211, 3) := by decide +kernel
theorem dX9_takeRule_25 : decode cX9_takeRule 25 = .ok (.lstore_n 1, 1) := by decide +kernel
theorem dX9_takeRule_26 : decode cX9_takeRule 26 = .ok (.aload_n 0, 1) := by decide +kernel
theorem dX9_takeRule_27 : decode cX9_takeRule 27 = .ok (.getfield 148, 3) := by decide +kernel
theorem dX9_takeRule_30 : decode cX9_takeRule 30 = .ok (.lload_n 1, 1) := by decide +kernel
theorem dX9_takeRule_31 : decode cX9_takeRule 31 = .ok (.lcmp, 1) := by decide +kernel
theorem dX9_takeRule_32 : decode cX9_takeRule 32 = .ok (.ifCond .ne 7, 3) := by decide +kernel
theorem dX9_takeRule_35 : decode cX9_takeRule 35 = .ok (.iconst 0, 1) := by decide +kernel
theorem dX9_takeRule_36 : decode cX9_takeRule 36 = .ok (.goto 78, 3) := by decide +kernel
theorem dX9_takeRule_39 : decode cX9_takeRule 39 = .ok (.aload_n 0, 1) := by decide +kernel
theorem dX9_takeRule_40 : decode cX9_takeRule 40 = .ok (.getfield 148, 3) := by decide +kernel
theorem dX9_takeRule_43 : decode cX9_takeRule 43 = .ok (.bipush 114, 2) := by decide +kernel
theorem dX9_takeRule_45 : decode cX9_takeRule 45 = .ok (.bipush 105, 2) := by decide +kernel
theorem dX9_takeRule_47 : decode cX9_takeRule 47 = .ok (.bipush 115, 2) := by decide +kernel
theorem dX9_takeRule_49 : decode cX9_takeRule 49 = .ok (.bipush 107, 2) := by decide +kernel
theorem dX9_takeRule_51 : decode cX9_takeRule 51 = .ok (.invokestatic 207, 3) := by decide +kernel
theorem dX9_takeRule_54 : decode cX9_takeRule 54 = .ok (.lcmp, 1) := by decide +kernel
theorem dX9_takeRule_55 : decode cX9_takeRule 55 = .ok (.ifCond .ne 7, 3) := by decide +kernel
theorem dX9_takeRule_58 : decode cX9_takeRule 58 = .ok (.iconst 1, 1) := by decide +kernel
theorem dX9_takeRule_59 : decode cX9_takeRule 59 = .ok (.goto 55, 3) := by decide +kernel
theorem dX9_takeRule_62 : decode cX9_takeRule 62 = .ok (.aload_n 0, 1) := by decide +kernel
theorem dX9_takeRule_63 : decode cX9_takeRule 63 = .ok (.getfield 148, 3) := by decide +kernel
theorem dX9_takeRule_66 : decode cX9_takeRule 66 = .ok (.bipush 119, 2) := by decide +kernel
theorem dX9_takeRule_68 : decode cX9_takeRule 68 = .ok (.bipush 101, 2) := by decide +kernel
theorem dX9_takeRule_70 : decode cX9_takeRule 70 = .ok (.bipush 105, 2) := by decide +kernel
theorem dX9_takeRule_72 : decode cX9_takeRule 72 = .ok (.bipush 103, 2) := by decide +kernel
theorem dX9_takeRule_74 : decode cX9_takeRule 74 = .ok (.invokestatic 207, 3) := by decide +kernel
theorem dX9_takeRule_77 : decode cX9_takeRule 77 = .ok (.bipush 104, 2) := by decide +kernel
theorem dX9_takeRule_79 : decode cX9_takeRule 79 = .ok (.invokestatic 211, 3) := by decide +kernel
theorem dX9_takeRule_82 : decode cX9_takeRule 82 = .ok (.lcmp, 1) := by decide +kernel
theorem dX9_takeRule_83 : decode cX9_takeRule 83 = .ok (.ifCond .ne 7, 3) := by decide +kernel
theorem dX9_takeRule_86 : decode cX9_takeRule 86 = .ok (.iconst 2, 1) := by decide +kernel
theorem dX9_takeRule_87 : decode cX9_takeRule 87 = .ok (.goto 27, 3) := by decide +kernel
theorem dX9_takeRule_90 : decode cX9_takeRule 90 = .ok (.aload_n 0, 1) := by decide +kernel
theorem dX9_takeRule_91 : decode cX9_takeRule 91 = .ok (.getfield 148, 3) := by decide +kernel
theorem dX9_takeRule_94 : decode cX9_takeRule 94 = .ok (.bipush 111, 2) := by decide +kernel
theorem dX9_takeRule_96 : decode cX9_takeRule 96 = .ok (.bipush 110, 2) := by decide +kernel
theorem dX9_takeRule_98 : decode cX9_takeRule 98 = .ok (.bipush 108, 2) := by decide +kernel
theorem dX9_takeRule_100 : decode cX9_takeRule 100 = .ok (.bipush 121, 2) := by decide +kernel
theorem dX9_takeRule_102 : decode cX9_takeRule 102 = .ok (.invokestatic 207, 3) := by decide +kernel
theorem dX9_takeRule_105 : decode cX9_takeRule 105 = .ok (.lcmp, 1) := by decide +kernel
theorem dX9_takeRule_106 : decode cX9_takeRule 106 = .ok (.ifCond .ne 7, 3) := by decide +kernel
theorem dX9_takeRule_109 : decode cX9_takeRule 109 = .ok (.iconst 3, 1) := by decide +kernel
theorem dX9_takeRule_110 : decode cX9_takeRule 110 = .ok (.goto 4, 3) := by decide +kernel
theorem dX9_takeRule_113 : decode cX9_takeRule 113 = .ok (.iconst (-1), 1) := by decide +kernel
theorem dX9_takeRule_114 : decode cX9_takeRule 114 = .ok (.istore_n 3, 1) := by decide +kernel
theorem dX9_takeRule_115 : decode cX9_takeRule 115 = .ok (.iload_n 3, 1) := by decide +kernel
theorem dX9_takeRule_116 : decode cX9_takeRule 116 = .ok (.iconst 1, 1) := by decide +kernel
theorem dX9_takeRule_117 : decode cX9_takeRule 117 = .ok (.if_icmp .ne 10, 3) := by decide +kernel
theorem dX9_takeRule_120 : decode cX9_takeRule 120 = .ok (.aload_n 0, 1) := by decide +kernel
theorem dX9_takeRule_121 : decode cX9_takeRule 121 = .ok (.getfield 357, 3) := by decide +kernel
theorem dX9_takeRule_124 : decode cX9_takeRule 124 = .ok (.ifCond .ge 27, 3) := by decide +kernel
theorem dX9_takeRule_127 : decode cX9_takeRule 127 = .ok (.iload_n 3, 1) := by decide +kernel
theorem dX9_takeRule_128 : decode cX9_takeRule 128 = .ok (.iconst 2, 1) := by decide +kernel
theorem dX9_takeRule_129 : decode cX9_takeRule 129 = .ok (.if_icmp .ne 10, 3) := by decide +kernel
theorem dX9_takeRule_132 : decode cX9_takeRule 132 = .ok (.aload_n 0, 1) := by decide +kernel
theorem dX9_takeRule_133 : decode cX9_takeRule 133 = .ok (.getfield 360, 3) := by decide +kernel
theorem dX9_takeRule_136 : decode cX9_takeRule 136 = .ok (.ifCond .ge 15, 3) := by decide +kernel
theorem dX9_takeRule_139 : decode cX9_takeRule 139 = .ok (.iload_n 3, 1) := by decide +kernel
theorem dX9_takeRule_140 : decode cX9_takeRule 140 = .ok (.iconst 3, 1) := by decide +kernel
theorem dX9_takeRule_141 : decode cX9_takeRule 141 = .ok (.if_icmp .ne 14, 3) := by decide +kernel
theorem dX9_takeRule_144 : decode cX9_takeRule 144 = .ok (.aload_n 0, 1) := by decide +kernel
theorem dX9_takeRule_145 : decode cX9_takeRule 145 = .ok (.getfield 354, 3) := by decide +kernel
theorem dX9_takeRule_148 : decode cX9_takeRule 148 = .ok (.ifCond .eq 7, 3) := by decide +kernel
theorem dX9_takeRule_151 : decode cX9_takeRule 151 = .ok (.iconst 1, 1) := by decide +kernel
theorem dX9_takeRule_152 : decode cX9_takeRule 152 = .ok (.goto 4, 3) := by decide +kernel
theorem dX9_takeRule_155 : decode cX9_takeRule 155 = .ok (.iconst 0, 1) := by decide +kernel
theorem dX9_takeRule_156 : decode cX9_takeRule 156 = .ok (.istore 4, 2) := by decide +kernel
theorem dX9_takeRule_158 : decode cX9_takeRule 158 = .ok (.iload_n 3, 1) := by decide +kernel
theorem dX9_takeRule_159 : decode cX9_takeRule 159 = .ok (.ifCond .lt 8, 3) := by decide +kernel
theorem dX9_takeRule_162 : decode cX9_takeRule 162 = .ok (.iload 4, 2) := by decide +kernel
theorem dX9_takeRule_164 : decode cX9_takeRule 164 = .ok (.ifCond .eq 21, 3) := by decide +kernel
theorem dX9_takeRule_167 : decode cX9_takeRule 167 = .ok (.aload_n 0, 1) := by decide +kernel
theorem dX9_takeRule_168 : decode cX9_takeRule 168 = .ok (.iload_n 3, 1) := by decide +kernel
theorem dX9_takeRule_169 : decode cX9_takeRule 169 = .ok (.ifCond .ge 7, 3) := by decide +kernel
theorem dX9_takeRule_172 : decode cX9_takeRule 172 = .ok (.iconst 1, 1) := by decide +kernel
theorem dX9_takeRule_173 : decode cX9_takeRule 173 = .ok (.goto 4, 3) := by decide +kernel
theorem dX9_takeRule_176 : decode cX9_takeRule 176 = .ok (.iconst 3, 1) := by decide +kernel
theorem dX9_takeRule_177 : decode cX9_takeRule 177 = .ok (.aload_n 0, 1) := by decide +kernel
theorem dX9_takeRule_178 : decode cX9_takeRule 178 = .ok (.getfield 141, 3) := by decide +kernel
theorem dX9_takeRule_181 : decode cX9_takeRule 181 = .ok (.invokevirtual 171, 3) := by decide +kernel
theorem dX9_takeRule_184 : decode cX9_takeRule 184 = .ok (.ireturn, 1) := by decide +kernel
theorem dX9_takeRule_185 : decode cX9_takeRule 185 = .ok (.iconst 0, 1) := by decide +kernel
theorem dX9_takeRule_186 : decode cX9_takeRule 186 = .ok (.istore 5, 2) := by decide +kernel
theorem dX9_takeRule_188 : decode cX9_takeRule 188 = .ok (.iload_n 3, 1) := by decide +kernel
theorem dX9_takeRule_189 : decode cX9_takeRule 189 = .ok (.ifCond .ne 12, 3) := by decide +kernel
theorem dX9_takeRule_192 : decode cX9_takeRule 192 = .ok (.aload_n 0, 1) := by decide +kernel
theorem dX9_takeRule_193 : decode cX9_takeRule 193 = .ok (.invokevirtual 363, 3) := by decide +kernel
theorem dX9_takeRule_196 : decode cX9_takeRule 196 = .ok (.istore 5, 2) := by decide +kernel
theorem dX9_takeRule_198 : decode cX9_takeRule 198 = .ok (.goto 72, 3) := by decide +kernel
theorem dX9_takeRule_201 : decode cX9_takeRule 201 = .ok (.aload_n 0, 1) := by decide +kernel
theorem dX9_takeRule_202 : decode cX9_takeRule 202 = .ok (.aload_n 0, 1) := by decide +kernel
theorem dX9_takeRule_203 : decode cX9_takeRule 203 = .ok (.getfield 152, 3) := by decide +kernel
theorem dX9_takeRule_206 : decode cX9_takeRule 206 = .ok (.putfield 141, 3) := by decide +kernel
theorem dX9_takeRule_209 : decode cX9_takeRule 209 = .ok (.iload_n 3, 1) := by decide +kernel
theorem dX9_takeRule_210 : decode cX9_takeRule 210 = .ok (.iconst 3, 1) := by decide +kernel
theorem dX9_takeRule_211 : decode cX9_takeRule 211 = .ok (.if_icmp .ne 10, 3) := by decide +kernel
theorem dX9_takeRule_214 : decode cX9_takeRule 214 = .ok (.aload_n 0, 1) := by decide +kernel
theorem dX9_takeRule_215 : decode cX9_takeRule 215 = .ok (.invokevirtual 366, 3) := by decide +kernel
theorem dX9_takeRule_218 : decode cX9_takeRule 218 = .ok (.goto 10, 3) := by decide +kernel
theorem dX9_takeRule_221 : decode cX9_takeRule 221 = .ok (.aload_n 0, 1) := by decide +kernel
theorem dX9_takeRule_222 : decode cX9_takeRule 222 = .ok (.iconst 0, 1) := by decide +kernel
theorem dX9_takeRule_223 : decode cX9_takeRule 223 = .ok (.bipush 99, 2) := by decide +kernel
theorem dX9_takeRule_225 : decode cX9_takeRule 225 = .ok (.invokevirtual 184, 3) := by decide +kernel
theorem dX9_takeRule_228 : decode cX9_takeRule 228 = .ok (.istore 5, 2) := by decide +kernel
theorem dX9_takeRule_230 : decode cX9_takeRule 230 = .ok (.aload_n 0, 1) := by decide +kernel
theorem dX9_takeRule_231 : decode cX9_takeRule 231 = .ok (.iload_n 3, 1) := by decide +kernel
theorem dX9_takeRule_232 : decode cX9_takeRule 232 = .ok (.iconst 1, 1) := by decide +kernel
theorem dX9_takeRule_233 : decode cX9_takeRule 233 = .ok (.if_icmp .ne 10, 3) := by decide +kernel
theorem dX9_takeRule_236 : decode cX9_takeRule 236 = .ok (.aload_n 0, 1) := by decide +kernel
theorem dX9_takeRule_237 : decode cX9_takeRule 237 = .ok (.getfield 178, 3) := by decide +kernel
theorem dX9_takeRule_240 : decode cX9_takeRule 240 = .ok (.goto 7, 3) := by decide +kernel
theorem dX9_takeRule_243 : decode cX9_takeRule 243 = .ok (.aload_n 0, 1) := by decide +kernel
theorem dX9_takeRule_244 : decode cX9_takeRule 244 = .ok (.getfield 357, 3) := by decide +kernel
theorem dX9_takeRule_247 : decode cX9_takeRule 247 = .ok (.putfield 357, 3) := by decide +kernel
theorem dX9_takeRule_250 : decode cX9_takeRule 250 = .ok (.aload_n 0, 1) := by decide +kernel
theorem dX9_takeRule_251 : decode cX9_takeRule 251 = .ok (.iload_n 3, 1) := by decide +kernel
theorem dX9_takeRule_252 : decode cX9_takeRule 252 = .ok (.iconst 2, 1) := by decide +kernel
theorem dX9_takeRule_253 : decode cX9_takeRule 253 = .ok (.if_icmp .ne 10, 3) := by decide +kernel
theorem dX9_takeRule_256 : decode cX9_takeRule 256 = .ok (.aload_n 0, 1) := by decide +kernel
theorem dX9_takeRule_257 : decode cX9_takeRule 257 = .ok (.getfield 178, 3) := by decide +kernel
theorem dX9_takeRule_260 : decode cX9_takeRule 260 = .ok (.goto 7, 3) := by decide +kernel
theorem dX9_takeRule_263 : decode cX9_takeRule 263 = .ok (.aload_n 0, 1) := by decide +kernel
theorem dX9_takeRule_264 : decode cX9_takeRule 264 = .ok (.getfield 360, 3) := by decide +kernel
theorem dX9_takeRule_267 : decode cX9_takeRule 267 = .ok (.putfield 360, 3) := by decide +kernel
theorem dX9_takeRule_270 : decode cX9_takeRule 270 = .ok (.iload 5, 2) := by decide +kernel
theorem dX9_takeRule_272 : decode cX9_takeRule 272 = .ok (.ifCond .le 8, 3) := by decide +kernel
theorem dX9_takeRule_275 : decode cX9_takeRule 275 = .ok (.iload 5, 2) := by decide +kernel
theorem dX9_takeRule_277 : decode cX9_takeRule 277 = .ok (.goto 7, 3) := by decide +kernel
theorem dX9_takeRule_280 : decode cX9_takeRule 280 = .ok (.aload_n 0, 1) := by decide +kernel
theorem dX9_takeRule_281 : decode cX9_takeRule 281 = .ok (.invokevirtual 222, 3) := by decide +kernel
theorem dX9_takeRule_284 : decode cX9_takeRule 284 = .ok (.ireturn, 1) := by decide +kernel
theorem dX9_policy_0 : decode cX9_policy 0 = .ok (.aload_n 0, 1) := by decide +kernel
theorem dX9_policy_1 : decode cX9_policy 1 = .ok (.getfield 136, 3) := by decide +kernel
theorem dX9_policy_4 : decode cX9_policy 4 = .ok (.bipush 120, 2) := by decide +kernel
theorem dX9_policy_6 : decode cX9_policy 6 = .ok (.if_icmp .le 7, 3) := by decide +kernel
theorem dX9_policy_9 : decode cX9_policy 9 = .ok (.sipush (-1003), 3) := by decide +kernel
theorem dX9_policy_12 : decode cX9_policy 12 = .ok (.ireturn, 1) := by decide +kernel
theorem dX9_policy_13 : decode cX9_policy 13 = .ok (.aload_n 0, 1) := by decide +kernel
theorem dX9_policy_14 : decode cX9_policy 14 = .ok (.iconst (-1), 1) := by decide +kernel
theorem dX9_policy_15 : decode cX9_policy 15 = .ok (.putfield 55, 3) := by decide +kernel
theorem dX9_policy_18 : decode cX9_policy 18 = .ok (.aload_n 0, 1) := by decide +kernel
theorem dX9_policy_19 : decode cX9_policy 19 = .ok (.iconst 0, 1) := by decide +kernel
theorem dX9_policy_20 : decode cX9_policy 20 = .ok (.putfield 141, 3) := by decide +kernel
theorem dX9_policy_23 : decode cX9_policy 23 = .ok (.aload_n 0, 1) := by decide +kernel
theorem dX9_policy_24 : decode cX9_policy 24 = .ok (.iconst 3, 1) := by decide +kernel
theorem dX9_policy_25 : decode cX9_policy 25 = .ok (.putfield 181, 3) := by decide +kernel
theorem dX9_policy_28 : decode cX9_policy 28 = .ok (.aload_n 0, 1) := by decide +kernel
theorem dX9_policy_29 : decode cX9_policy 29 = .ok (.iconst 0, 1) := by decide +kernel
theorem dX9_policy_30 : decode cX9_policy 30 = .ok (.putfield 351, 3) := by decide +kernel
theorem dX9_policy_33 : decode cX9_policy 33 = .ok (.aload_n 0, 1) := by decide +kernel
theorem dX9_policy_34 : decode cX9_policy 34 = .ok (.iconst (-1), 1) := by decide +kernel
theorem dX9_policy_35 : decode cX9_policy 35 = .ok (.putfield 357, 3) := by decide +kernel
theorem dX9_policy_38 : decode cX9_policy 38 = .ok (.aload_n 0, 1) := by decide +kernel
theorem dX9_policy_39 : decode cX9_policy 39 = .ok (.iconst (-1), 1) := by decide +kernel
theorem dX9_policy_40 : decode cX9_policy 40 = .ok (.putfield 360, 3) := by decide +kernel
theorem dX9_policy_43 : decode cX9_policy 43 = .ok (.aload_n 0, 1) := by decide +kernel
theorem dX9_policy_44 : decode cX9_policy 44 = .ok (.iconst 0, 1) := by decide +kernel
theorem dX9_policy_45 : decode cX9_policy 45 = .ok (.putfield 354, 3) := by decide +kernel
theorem dX9_policy_48 : decode cX9_policy 48 = .ok (.iconst 0, 1) := by decide +kernel
theorem dX9_policy_49 : decode cX9_policy 49 = .ok (.istore_n 1, 1) := by decide +kernel
theorem dX9_policy_50 : decode cX9_policy 50 = .ok (.iconst 0, 1) := by decide +kernel
theorem dX9_policy_51 : decode cX9_policy 51 = .ok (.istore_n 2, 1) := by decide +kernel
theorem dX9_policy_52 : decode cX9_policy 52 = .ok (.iload_n 2, 1) := by decide +kernel
theorem dX9_policy_53 : decode cX9_policy 53 = .ok (.ifCond .ne 21, 3) := by decide +kernel
theorem dX9_policy_56 : decode cX9_policy 56 = .ok (.aload_n 0, 1) := by decide +kernel
theorem dX9_policy_57 : decode cX9_policy 57 = .ok (.invokevirtual 144, 3) := by decide +kernel
theorem dX9_policy_60 : decode cX9_policy 60 = .ok (.ifCond .lt 14, 3) := by decide +kernel
theorem dX9_policy_63 : decode cX9_policy 63 = .ok (.aload_n 0, 1) := by decide +kernel
theorem dX9_policy_64 : decode cX9_policy 64 = .ok (.invokevirtual 369, 3) := by decide +kernel
theorem dX9_policy_67 : decode cX9_policy 67 = .ok (.istore_n 2, 1) := by decide +kernel
theorem dX9_policy_68 : decode cX9_policy 68 = .ok (.iinc 1 1, 3) := by decide +kernel
theorem dX9_policy_71 : decode cX9_policy 71 = .ok (.goto (-19), 3) := by decide +kernel
theorem dX9_policy_74 : decode cX9_policy 74 = .ok (.aload_n 0, 1) := by decide +kernel
theorem dX9_policy_75 : decode cX9_policy 75 = .ok (.iconst 0, 1) := by decide +kernel
theorem dX9_policy_76 : decode cX9_policy 76 = .ok (.putfield 136, 3) := by decide +kernel
theorem dX9_policy_79 : decode cX9_policy 79 = .ok (.iload_n 2, 1) := by decide +kernel
theorem dX9_policy_80 : decode cX9_policy 80 = .ok (.ifCond .le 8, 3) := by decide +kernel
theorem dX9_policy_83 : decode cX9_policy 83 = .ok (.bipush (-10), 2) := by decide +kernel
theorem dX9_policy_85 : decode cX9_policy 85 = .ok (.iload_n 2, 1) := by decide +kernel
theorem dX9_policy_86 : decode cX9_policy 86 = .ok (.isub, 1) := by decide +kernel
theorem dX9_policy_87 : decode cX9_policy 87 = .ok (.ireturn, 1) := by decide +kernel
theorem dX9_policy_88 : decode cX9_policy 88 = .ok (.aload_n 0, 1) := by decide +kernel
theorem dX9_policy_89 : decode cX9_policy 89 = .ok (.aload_n 0, 1) := by decide +kernel
theorem dX9_policy_90 : decode cX9_policy 90 = .ok (.getfield 351, 3) := by decide +kernel
theorem dX9_policy_93 : decode cX9_policy 93 = .ok (.putfield 372, 3) := by decide +kernel
theorem dX9_policy_96 : decode cX9_policy 96 = .ok (.iconst 0, 1) := by decide +kernel
theorem dX9_policy_97 : decode cX9_policy 97 = .ok (.istore_n 3, 1) := by decide +kernel
theorem dX9_policy_98 : decode cX9_policy 98 = .ok (.iload_n 3, 1) := by decide +kernel
theorem dX9_policy_99 : decode cX9_policy 99 = .ok (.aload_n 0, 1) := by decide +kernel
theorem dX9_policy_100 : decode cX9_policy 100 = .ok (.getfield 372, 3) := by decide +kernel
theorem dX9_policy_103 : decode cX9_policy 103 = .ok (.if_icmp .ge 33, 3) := by decide +kernel
theorem dX9_policy_106 : decode cX9_policy 106 = .ok (.aload_n 0, 1) := by decide +kernel
theorem dX9_policy_107 : decode cX9_policy 107 = .ok (.getfield 89, 3) := by decide +kernel
theorem dX9_policy_110 : decode cX9_policy 110 = .ok (.iload_n 3, 1) := by decide +kernel
theorem dX9_policy_111 : decode cX9_policy 111 = .ok (.aload_n 0, 1) := by decide +kernel
theorem dX9_policy_112 : decode cX9_policy 112 = .ok (.getfield 101, 3) := by decide +kernel
theorem dX9_policy_115 : decode cX9_policy 115 = .ok (.iload_n 3, 1) := by decide +kernel
theorem dX9_policy_116 : decode cX9_policy 116 = .ok (.iaload, 1) := by decide +kernel
theorem dX9_policy_117 : decode cX9_policy 117 = .ok (.iastore, 1) := by decide +kernel
theorem dX9_policy_118 : decode cX9_policy 118 = .ok (.aload_n 0, 1) := by decide +kernel
theorem dX9_policy_119 : decode cX9_policy 119 = .ok (.getfield 92, 3) := by decide +kernel
theorem dX9_policy_122 : decode cX9_policy 122 = .ok (.iload_n 3, 1) := by decide +kernel
theorem dX9_policy_123 : decode cX9_policy 123 = .ok (.aload_n 0, 1) := by decide +kernel
theorem dX9_policy_124 : decode cX9_policy 124 = .ok (.getfield 104, 3) := by decide +kernel
theorem dX9_policy_127 : decode cX9_policy 127 = .ok (.iload_n 3, 1) := by decide +kernel
theorem dX9_policy_128 : decode cX9_policy 128 = .ok (.iaload, 1) := by decide +kernel
theorem dX9_policy_129 : decode cX9_policy 129 = .ok (.iastore, 1) := by decide +kernel
theorem dX9_policy_130 : decode cX9_policy 130 = .ok (.iinc 3 1, 3) := by decide +kernel
theorem dX9_policy_133 : decode cX9_policy 133 = .ok (.goto (-35), 3) := by decide +kernel
theorem dX9_policy_136 : decode cX9_policy 136 = .ok (.aload_n 0, 1) := by decide +kernel
theorem dX9_policy_137 : decode cX9_policy 137 = .ok (.aload_n 0, 1) := by decide +kernel
theorem dX9_policy_138 : decode cX9_policy 138 = .ok (.getfield 357, 3) := by decide +kernel
theorem dX9_policy_141 : decode cX9_policy 141 = .ok (.putfield 95, 3) := by decide +kernel
theorem dX9_policy_144 : decode cX9_policy 144 = .ok (.aload_n 0, 1) := by decide +kernel
theorem dX9_policy_145 : decode cX9_policy 145 = .ok (.aload_n 0, 1) := by decide +kernel
theorem dX9_policy_146 : decode cX9_policy 146 = .ok (.getfield 360, 3) := by decide +kernel
theorem dX9_policy_149 : decode cX9_policy 149 = .ok (.putfield 98, 3) := by decide +kernel
theorem dX9_policy_152 : decode cX9_policy 152 = .ok (.aload_n 0, 1) := by decide +kernel
theorem dX9_policy_153 : decode cX9_policy 153 = .ok (.aload_n 0, 1) := by decide +kernel
theorem dX9_policy_154 : decode cX9_policy 154 = .ok (.getfield 354, 3) := by decide +kernel
theorem dX9_policy_157 : decode cX9_policy 157 = .ok (.putfield 375, 3) := by decide +kernel
theorem dX9_policy_160 : decode cX9_policy 160 = .ok (.iload_n 1, 1) := by decide +kernel
theorem dX9_policy_161 : decode cX9_policy 161 = .ok (.ireturn, 1) := by decide +kernel
theorem dX9_lets_0 : decode cX9_lets 0 = .ok (.aload_n 0, 1) := by decide +kernel
theorem dX9_lets_1 : decode cX9_lets 1 = .ok (.iload_n 1, 1) := by decide +kernel
theorem dX9_lets_2 : decode cX9_lets 2 = .ok (.invokevirtual 266, 3) := by decide +kernel
theorem dX9_lets_5 : decode cX9_lets 5 = .ok (.ifCond .eq 11, 3) := by decide +kernel
theorem dX9_lets_8 : decode cX9_lets 8 = .ok (.aload_n 0, 1) := by decide +kernel
theorem dX9_lets_9 : decode cX9_lets 9 = .ok (.iload_n 2, 1) := by decide +kernel
theorem dX9_lets_10 : decode cX9_lets 10 = .ok (.invokevirtual 243, 3) := by decide +kernel
theorem dX9_lets_13 : decode cX9_lets 13 = .ok (.ifCond .ne 7, 3) := by decide +kernel
theorem dX9_lets_16 : decode cX9_lets 16 = .ok (.sipush (-1001), 3) := by decide +kernel
theorem dX9_lets_19 : decode cX9_lets 19 = .ok (.ireturn, 1) := by decide +kernel
theorem dX9_lets_20 : decode cX9_lets 20 = .ok (.iload_n 3, 1) := by decide +kernel
theorem dX9_lets_21 : decode cX9_lets 21 = .ok (.invokestatic 317, 3) := by decide +kernel
theorem dX9_lets_24 : decode cX9_lets 24 = .ok (.ifCond .ne 7, 3) := by decide +kernel
theorem dX9_lets_27 : decode cX9_lets 27 = .ok (.sipush (-1002), 3) := by decide +kernel
theorem dX9_lets_30 : decode cX9_lets 30 = .ok (.ireturn, 1) := by decide +kernel
theorem dX9_lets_31 : decode cX9_lets 31 = .ok (.aload_n 0, 1) := by decide +kernel
theorem dX9_lets_32 : decode cX9_lets 32 = .ok (.iload_n 1, 1) := by decide +kernel
theorem dX9_lets_33 : decode cX9_lets 33 = .ok (.iload_n 2, 1) := by decide +kernel
theorem dX9_lets_34 : decode cX9_lets 34 = .ok (.invokevirtual 295, 3) := by decide +kernel
theorem dX9_lets_37 : decode cX9_lets 37 = .ok (.istore 4, 2) := by decide +kernel
theorem dX9_lets_39 : decode cX9_lets 39 = .ok (.iload 4, 2) := by decide +kernel
theorem dX9_lets_41 : decode cX9_lets 41 = .ok (.ifCond .ge 7, 3) := by decide +kernel
theorem dX9_lets_44 : decode cX9_lets 44 = .ok (.sipush (-1003), 3) := by decide +kernel
theorem dX9_lets_47 : decode cX9_lets 47 = .ok (.ireturn, 1) := by decide +kernel
theorem dX9_lets_48 : decode cX9_lets 48 = .ok (.aload_n 0, 1) := by decide +kernel
theorem dX9_lets_49 : decode cX9_lets 49 = .ok (.getfield 375, 3) := by decide +kernel
theorem dX9_lets_52 : decode cX9_lets 52 = .ok (.ifCond .eq 14, 3) := by decide +kernel
theorem dX9_lets_55 : decode cX9_lets 55 = .ok (.aload_n 0, 1) := by decide +kernel
theorem dX9_lets_56 : decode cX9_lets 56 = .ok (.getfield 375, 3) := by decide +kernel
theorem dX9_lets_59 : decode cX9_lets 59 = .ok (.iload_n 1, 1) := by decide +kernel
theorem dX9_lets_60 : decode cX9_lets 60 = .ok (.invokestatic 190, 3) := by decide +kernel
theorem dX9_lets_63 : decode cX9_lets 63 = .ok (.ifCond .eq 7, 3) := by decide +kernel
theorem dX9_lets_66 : decode cX9_lets 66 = .ok (.iconst 1, 1) := by decide +kernel
theorem dX9_lets_67 : decode cX9_lets 67 = .ok (.goto 4, 3) := by decide +kernel
theorem dX9_lets_70 : decode cX9_lets 70 = .ok (.iconst 0, 1) := by decide +kernel
theorem dX9_lets_71 : decode cX9_lets 71 = .ok (.istore 5, 2) := by decide +kernel
theorem dX9_lets_73 : decode cX9_lets 73 = .ok (.iconst 0, 1) := by decide +kernel
theorem dX9_lets_74 : decode cX9_lets 74 = .ok (.istore 6, 2) := by decide +kernel
theorem dX9_lets_76 : decode cX9_lets 76 = .ok (.iload 6, 2) := by decide +kernel
theorem dX9_lets_78 : decode cX9_lets 78 = .ok (.aload_n 0, 1) := by decide +kernel
theorem dX9_lets_79 : decode cX9_lets 79 = .ok (.getfield 372, 3) := by decide +kernel
theorem dX9_lets_82 : decode cX9_lets 82 = .ok (.if_icmp .ge 45, 3) := by decide +kernel
theorem dX9_lets_85 : decode cX9_lets 85 = .ok (.iload 5, 2) := by decide +kernel
theorem dX9_lets_87 : decode cX9_lets 87 = .ok (.ifCond .eq 31, 3) := by decide +kernel
theorem dX9_lets_90 : decode cX9_lets 90 = .ok (.iload_n 3, 1) := by decide +kernel
theorem dX9_lets_91 : decode cX9_lets 91 = .ok (.i2l, 1) := by decide +kernel
theorem dX9_lets_92 : decode cX9_lets 92 = .ok (.aload_n 0, 1) := by decide +kernel
theorem dX9_lets_93 : decode cX9_lets 93 = .ok (.getfield 89, 3) := by decide +kernel
theorem dX9_lets_96 : decode cX9_lets 96 = .ok (.iload 6, 2) := by decide +kernel
theorem dX9_lets_98 : decode cX9_lets 98 = .ok (.iaload, 1) := by decide +kernel
theorem dX9_lets_99 : decode cX9_lets 99 = .ok (.i2l, 1) := by decide +kernel
theorem dX9_lets_100 : decode cX9_lets 100 = .ok (.aload_n 0, 1) := by decide +kernel
theorem dX9_lets_101 : decode cX9_lets 101 = .ok (.getfield 92, 3) := by decide +kernel
theorem dX9_lets_104 : decode cX9_lets 104 = .ok (.iload 6, 2) := by decide +kernel
theorem dX9_lets_106 : decode cX9_lets 106 = .ok (.iaload, 1) := by decide +kernel
theorem dX9_lets_107 : decode cX9_lets 107 = .ok (.i2l, 1) := by decide +kernel
theorem dX9_lets_108 : decode cX9_lets 108 = .ok (.invokestatic 117, 3) := by decide +kernel
theorem dX9_lets_111 : decode cX9_lets 111 = .ok (.ifCond .ne 7, 3) := by decide +kernel
theorem dX9_lets_114 : decode cX9_lets 114 = .ok (.iconst 1, 1) := by decide +kernel
theorem dX9_lets_115 : decode cX9_lets 115 = .ok (.goto 4, 3) := by decide +kernel
theorem dX9_lets_118 : decode cX9_lets 118 = .ok (.iconst 0, 1) := by decide +kernel
theorem dX9_lets_119 : decode cX9_lets 119 = .ok (.istore 5, 2) := by decide +kernel
theorem dX9_lets_121 : decode cX9_lets 121 = .ok (.iinc 6 1, 3) := by decide +kernel
theorem dX9_lets_124 : decode cX9_lets 124 = .ok (.goto (-48), 3) := by decide +kernel
theorem dX9_lets_127 : decode cX9_lets 127 = .ok (.iload 4, 2) := by decide +kernel
theorem dX9_lets_129 : decode cX9_lets 129 = .ok (.iconst 1, 1) := by decide +kernel
theorem dX9_lets_130 : decode cX9_lets 130 = .ok (.iload_n 2, 1) := by decide +kernel
theorem dX9_lets_131 : decode cX9_lets 131 = .ok (.ishl, 1) := by decide +kernel
theorem dX9_lets_132 : decode cX9_lets 132 = .ok (.ior, 1) := by decide +kernel
theorem dX9_lets_133 : decode cX9_lets 133 = .ok (.istore 6, 2) := by decide +kernel
theorem dX9_lets_135 : decode cX9_lets 135 = .ok (.iconst 0, 1) := by decide +kernel
theorem dX9_lets_136 : decode cX9_lets 136 = .ok (.istore 7, 2) := by decide +kernel
theorem dX9_lets_138 : decode cX9_lets 138 = .ok (.aload_n 0, 1) := by decide +kernel
theorem dX9_lets_139 : decode cX9_lets 139 = .ok (.aload_n 0, 1) := by decide +kernel
theorem dX9_lets_140 : decode cX9_lets 140 = .ok (.getfield 31, 3) := by decide +kernel
theorem dX9_lets_143 : decode cX9_lets 143 = .ok (.iload_n 1, 1) := by decide +kernel
theorem dX9_lets_144 : decode cX9_lets 144 = .ok (.iaload, 1) := by decide +kernel
theorem dX9_lets_145 : decode cX9_lets 145 = .ok (.invokevirtual 269, 3) := by decide +kernel
theorem dX9_lets_148 : decode cX9_lets 148 = .ok (.istore 8, 2) := by decide +kernel
theorem dX9_lets_150 : decode cX9_lets 150 = .ok (.iconst 0, 1) := by decide +kernel
theorem dX9_lets_151 : decode cX9_lets 151 = .ok (.istore 9, 2) := by decide +kernel
theorem dX9_lets_153 : decode cX9_lets 153 = .ok (.iload 9, 2) := by decide +kernel
theorem dX9_lets_155 : decode cX9_lets 155 = .ok (.aload_n 0, 1) := by decide +kernel
theorem dX9_lets_156 : decode cX9_lets 156 = .ok (.getfield 123, 3) := by decide +kernel
theorem dX9_lets_159 : decode cX9_lets 159 = .ok (.if_icmp .ge 57, 3) := by decide +kernel
theorem dX9_lets_162 : decode cX9_lets 162 = .ok (.iload 7, 2) := by decide +kernel
theorem dX9_lets_164 : decode cX9_lets 164 = .ok (.iload 8, 2) := by decide +kernel
theorem dX9_lets_166 : decode cX9_lets 166 = .ok (.iload 9, 2) := by decide +kernel
theorem dX9_lets_168 : decode cX9_lets 168 = .ok (.invokestatic 190, 3) := by decide +kernel
theorem dX9_lets_171 : decode cX9_lets 171 = .ok (.ifCond .eq 35, 3) := by decide +kernel
theorem dX9_lets_174 : decode cX9_lets 174 = .ok (.aload_n 0, 1) := by decide +kernel
theorem dX9_lets_175 : decode cX9_lets 175 = .ok (.getfield 25, 3) := by decide +kernel
theorem dX9_lets_178 : decode cX9_lets 178 = .ok (.iload 9, 2) := by decide +kernel
theorem dX9_lets_180 : decode cX9_lets 180 = .ok (.iaload, 1) := by decide +kernel
theorem dX9_lets_181 : decode cX9_lets 181 = .ok (.ifCond .lt 25, 3) := by decide +kernel
theorem dX9_lets_184 : decode cX9_lets 184 = .ok (.iload 6, 2) := by decide +kernel
theorem dX9_lets_186 : decode cX9_lets 186 = .ok (.aload_n 0, 1) := by decide +kernel
theorem dX9_lets_187 : decode cX9_lets 187 = .ok (.getfield 25, 3) := by decide +kernel
theorem dX9_lets_190 : decode cX9_lets 190 = .ok (.iload 9, 2) := by decide +kernel
theorem dX9_lets_192 : decode cX9_lets 192 = .ok (.iaload, 1) := by decide +kernel
theorem dX9_lets_193 : decode cX9_lets 193 = .ok (.invokestatic 190, 3) := by decide +kernel
theorem dX9_lets_196 : decode cX9_lets 196 = .ok (.ifCond .eq 10, 3) := by decide +kernel
theorem dX9_lets_199 : decode cX9_lets 199 = .ok (.iconst 1, 1) := by decide +kernel
theorem dX9_lets_200 : decode cX9_lets 200 = .ok (.iload 9, 2) := by decide +kernel
theorem dX9_lets_202 : decode cX9_lets 202 = .ok (.ishl, 1) := by decide +kernel
theorem dX9_lets_203 : decode cX9_lets 203 = .ok (.goto 4, 3) := by decide +kernel
theorem dX9_lets_206 : decode cX9_lets 206 = .ok (.iconst 0, 1) := by decide +kernel
theorem dX9_lets_207 : decode cX9_lets 207 = .ok (.ior, 1) := by decide +kernel
theorem dX9_lets_208 : decode cX9_lets 208 = .ok (.istore 7, 2) := by decide +kernel
theorem dX9_lets_210 : decode cX9_lets 210 = .ok (.iinc 9 1, 3) := by decide +kernel
theorem dX9_lets_213 : decode cX9_lets 213 = .ok (.goto (-60), 3) := by decide +kernel
theorem dX9_lets_216 : decode cX9_lets 216 = .ok (.iload 5, 2) := by decide +kernel
theorem dX9_lets_218 : decode cX9_lets 218 = .ok (.ifCond .eq 27, 3) := by decide +kernel
theorem dX9_lets_221 : decode cX9_lets 221 = .ok (.aload_n 0, 1) := by decide +kernel
theorem dX9_lets_222 : decode cX9_lets 222 = .ok (.getfield 95, 3) := by decide +kernel
theorem dX9_lets_225 : decode cX9_lets 225 = .ok (.ifCond .lt 16, 3) := by decide +kernel
theorem dX9_lets_228 : decode cX9_lets 228 = .ok (.aload_n 0, 1) := by decide +kernel
theorem dX9_lets_229 : decode cX9_lets 229 = .ok (.iload 6, 2) := by decide +kernel
theorem dX9_lets_231 : decode cX9_lets 231 = .ok (.invokevirtual 272, 3) := by decide +kernel
theorem dX9_lets_234 : decode cX9_lets 234 = .ok (.aload_n 0, 1) := by decide +kernel
theorem dX9_lets_235 : decode cX9_lets 235 = .ok (.getfield 95, 3) := by decide +kernel
theorem dX9_lets_238 : decode cX9_lets 238 = .ok (.if_icmp .gt 7, 3) := by decide +kernel
theorem dX9_lets_241 : decode cX9_lets 241 = .ok (.iconst 1, 1) := by decide +kernel
theorem dX9_lets_242 : decode cX9_lets 242 = .ok (.goto 4, 3) := by decide +kernel
theorem dX9_lets_245 : decode cX9_lets 245 = .ok (.iconst 0, 1) := by decide +kernel
theorem dX9_lets_246 : decode cX9_lets 246 = .ok (.istore 5, 2) := by decide +kernel
theorem dX9_lets_248 : decode cX9_lets 248 = .ok (.iload 5, 2) := by decide +kernel
theorem dX9_lets_250 : decode cX9_lets 250 = .ok (.ifCond .eq 27, 3) := by decide +kernel
theorem dX9_lets_253 : decode cX9_lets 253 = .ok (.aload_n 0, 1) := by decide +kernel
theorem dX9_lets_254 : decode cX9_lets 254 = .ok (.getfield 98, 3) := by decide +kernel
theorem dX9_lets_257 : decode cX9_lets 257 = .ok (.ifCond .lt 16, 3) := by decide +kernel
theorem dX9_lets_260 : decode cX9_lets 260 = .ok (.aload_n 0, 1) := by decide +kernel
theorem dX9_lets_261 : decode cX9_lets 261 = .ok (.iload 7, 2) := by decide +kernel
theorem dX9_lets_263 : decode cX9_lets 263 = .ok (.invokevirtual 314, 3) := by decide +kernel
theorem dX9_lets_266 : decode cX9_lets 266 = .ok (.aload_n 0, 1) := by decide +kernel
theorem dX9_lets_267 : decode cX9_lets 267 = .ok (.getfield 98, 3) := by decide +kernel
theorem dX9_lets_270 : decode cX9_lets 270 = .ok (.if_icmp .lt 7, 3) := by decide +kernel
theorem dX9_lets_273 : decode cX9_lets 273 = .ok (.iconst 1, 1) := by decide +kernel
theorem dX9_lets_274 : decode cX9_lets 274 = .ok (.goto 4, 3) := by decide +kernel
theorem dX9_lets_277 : decode cX9_lets 277 = .ok (.iconst 0, 1) := by decide +kernel
theorem dX9_lets_278 : decode cX9_lets 278 = .ok (.ireturn, 1) := by decide +kernel
theorem dX9_keep_0 : decode cX9_keep 0 = .ok (.iload_n 1, 1) := by decide +kernel
theorem dX9_keep_1 : decode cX9_keep 1 = .ok (.i2l, 1) := by decide +kernel
theorem dX9_keep_2 : decode cX9_keep 2 = .ok (.lconst 0, 1) := by decide +kernel
theorem dX9_keep_3 : decode cX9_keep 3 = .ok (.lconst 1, 1) := by decide +kernel
theorem dX9_keep_4 : decode cX9_keep 4 = .ok (.invokestatic 117, 3) := by decide +kernel
theorem dX9_keep_7 : decode cX9_keep 7 = .ok (.ifCond .ne 7, 3) := by decide +kernel
theorem dX9_keep_10 : decode cX9_keep 10 = .ok (.sipush (-1001), 3) := by decide +kernel
theorem dX9_keep_13 : decode cX9_keep 13 = .ok (.ireturn, 1) := by decide +kernel
theorem dX9_keep_14 : decode cX9_keep 14 = .ok (.sipush 500, 3) := by decide +kernel
theorem dX9_keep_17 : decode cX9_keep 17 = .ok (.iload_n 1, 1) := by decide +kernel
theorem dX9_keep_18 : decode cX9_keep 18 = .ok (.imul, 1) := by decide +kernel
theorem dX9_keep_19 : decode cX9_keep 19 = .ok (.istore_n 2, 1) := by decide +kernel
theorem dX9_keep_20 : decode cX9_keep 20 = .ok (.aload_n 0, 1) := by decide +kernel
theorem dX9_keep_21 : decode cX9_keep 21 = .ok (.getfield 107, 3) := by decide +kernel
theorem dX9_keep_24 : decode cX9_keep 24 = .ok (.iload_n 2, 1) := by decide +kernel
theorem dX9_keep_25 : decode cX9_keep 25 = .ok (.aload_n 0, 1) := by decide +kernel
theorem dX9_keep_26 : decode cX9_keep 26 = .ok (.getfield 126, 3) := by decide +kernel
theorem dX9_keep_29 : decode cX9_keep 29 = .ok (.iastore, 1) := by decide +kernel
theorem dX9_keep_30 : decode cX9_keep 30 = .ok (.aload_n 0, 1) := by decide +kernel
theorem dX9_keep_31 : decode cX9_keep 31 = .ok (.getfield 107, 3) := by decide +kernel
theorem dX9_keep_34 : decode cX9_keep 34 = .ok (.iload_n 2, 1) := by decide +kernel
theorem dX9_keep_35 : decode cX9_keep 35 = .ok (.iconst 1, 1) := by decide +kernel
theorem dX9_keep_36 : decode cX9_keep 36 = .ok (.iadd, 1) := by decide +kernel
theorem dX9_keep_37 : decode cX9_keep 37 = .ok (.aload_n 0, 1) := by decide +kernel
theorem dX9_keep_38 : decode cX9_keep 38 = .ok (.getfield 129, 3) := by decide +kernel
theorem dX9_keep_41 : decode cX9_keep 41 = .ok (.iastore, 1) := by decide +kernel
theorem dX9_keep_42 : decode cX9_keep 42 = .ok (.iconst 0, 1) := by decide +kernel
theorem dX9_keep_43 : decode cX9_keep 43 = .ok (.istore_n 3, 1) := by decide +kernel
theorem dX9_keep_44 : decode cX9_keep 44 = .ok (.iload_n 3, 1) := by decide +kernel
theorem dX9_keep_45 : decode cX9_keep 45 = .ok (.iconst 4, 1) := by decide +kernel
theorem dX9_keep_46 : decode cX9_keep 46 = .ok (.if_icmp .ge 59, 3) := by decide +kernel
theorem dX9_keep_49 : decode cX9_keep 49 = .ok (.aload_n 0, 1) := by decide +kernel
theorem dX9_keep_50 : decode cX9_keep 50 = .ok (.getfield 107, 3) := by decide +kernel
theorem dX9_keep_53 : decode cX9_keep 53 = .ok (.iload_n 2, 1) := by decide +kernel
theorem dX9_keep_54 : decode cX9_keep 54 = .ok (.iconst 2, 1) := by decide +kernel
theorem dX9_keep_55 : decode cX9_keep 55 = .ok (.iadd, 1) := by decide +kernel
theorem dX9_keep_56 : decode cX9_keep 56 = .ok (.iload_n 3, 1) := by decide +kernel
theorem dX9_keep_57 : decode cX9_keep 57 = .ok (.iadd, 1) := by decide +kernel
theorem dX9_keep_58 : decode cX9_keep 58 = .ok (.aload_n 0, 1) := by decide +kernel
theorem dX9_keep_59 : decode cX9_keep 59 = .ok (.getfield 28, 3) := by decide +kernel
theorem dX9_keep_62 : decode cX9_keep 62 = .ok (.iload_n 3, 1) := by decide +kernel
theorem dX9_keep_63 : decode cX9_keep 63 = .ok (.iaload, 1) := by decide +kernel
theorem dX9_keep_64 : decode cX9_keep 64 = .ok (.iastore, 1) := by decide +kernel
theorem dX9_keep_65 : decode cX9_keep 65 = .ok (.aload_n 0, 1) := by decide +kernel
theorem dX9_keep_66 : decode cX9_keep 66 = .ok (.getfield 107, 3) := by decide +kernel
theorem dX9_keep_69 : decode cX9_keep 69 = .ok (.iload_n 2, 1) := by decide +kernel
theorem dX9_keep_70 : decode cX9_keep 70 = .ok (.bipush 6, 2) := by decide +kernel
theorem dX9_keep_72 : decode cX9_keep 72 = .ok (.iadd, 1) := by decide +kernel
theorem dX9_keep_73 : decode cX9_keep 73 = .ok (.iload_n 3, 1) := by decide +kernel
theorem dX9_keep_74 : decode cX9_keep 74 = .ok (.iadd, 1) := by decide +kernel
theorem dX9_keep_75 : decode cX9_keep 75 = .ok (.aload_n 0, 1) := by decide +kernel
theorem dX9_keep_76 : decode cX9_keep 76 = .ok (.getfield 31, 3) := by decide +kernel
theorem dX9_keep_79 : decode cX9_keep 79 = .ok (.iload_n 3, 1) := by decide +kernel
theorem dX9_keep_80 : decode cX9_keep 80 = .ok (.iaload, 1) := by decide +kernel
theorem dX9_keep_81 : decode cX9_keep 81 = .ok (.iastore, 1) := by decide +kernel
theorem dX9_keep_82 : decode cX9_keep 82 = .ok (.aload_n 0, 1) := by decide +kernel
theorem dX9_keep_83 : decode cX9_keep 83 = .ok (.getfield 107, 3) := by decide +kernel
theorem dX9_keep_86 : decode cX9_keep 86 = .ok (.iload_n 2, 1) := by decide +kernel
theorem dX9_keep_87 : decode cX9_keep 87 = .ok (.bipush 10, 2) := by decide +kernel
theorem dX9_keep_89 : decode cX9_keep 89 = .ok (.iadd, 1) := by decide +kernel
theorem dX9_keep_90 : decode cX9_keep 90 = .ok (.iload_n 3, 1) := by decide +kernel
theorem dX9_keep_91 : decode cX9_keep 91 = .ok (.iadd, 1) := by decide +kernel
theorem dX9_keep_92 : decode cX9_keep 92 = .ok (.aload_n 0, 1) := by decide +kernel
theorem dX9_keep_93 : decode cX9_keep 93 = .ok (.getfield 37, 3) := by decide +kernel
theorem dX9_keep_96 : decode cX9_keep 96 = .ok (.iload_n 3, 1) := by decide +kernel
theorem dX9_keep_97 : decode cX9_keep 97 = .ok (.iaload, 1) := by decide +kernel
theorem dX9_keep_98 : decode cX9_keep 98 = .ok (.iastore, 1) := by decide +kernel
theorem dX9_keep_99 : decode cX9_keep 99 = .ok (.iinc 3 1, 3) := by decide +kernel
theorem dX9_keep_102 : decode cX9_keep 102 = .ok (.goto (-58), 3) := by decide +kernel
theorem dX9_keep_105 : decode cX9_keep 105 = .ok (.iconst 0, 1) := by decide +kernel
theorem dX9_keep_106 : decode cX9_keep 106 = .ok (.istore_n 3, 1) := by decide +kernel
theorem dX9_keep_107 : decode cX9_keep 107 = .ok (.iload_n 3, 1) := by decide +kernel
theorem dX9_keep_108 : decode cX9_keep 108 = .ok (.bipush 64, 2) := by decide +kernel
theorem dX9_keep_110 : decode cX9_keep 110 = .ok (.if_icmp .ge 26, 3) := by decide +kernel
theorem dX9_keep_113 : decode cX9_keep 113 = .ok (.aload_n 0, 1) := by decide +kernel
theorem dX9_keep_114 : decode cX9_keep 114 = .ok (.getfield 107, 3) := by decide +kernel
theorem dX9_keep_117 : decode cX9_keep 117 = .ok (.iload_n 2, 1) := by decide +kernel
theorem dX9_keep_118 : decode cX9_keep 118 = .ok (.bipush 14, 2) := by decide +kernel
theorem dX9_keep_120 : decode cX9_keep 120 = .ok (.iadd, 1) := by decide +kernel
theorem dX9_keep_121 : decode cX9_keep 121 = .ok (.iload_n 3, 1) := by decide +kernel
theorem dX9_keep_122 : decode cX9_keep 122 = .ok (.iadd, 1) := by decide +kernel
theorem dX9_keep_123 : decode cX9_keep 123 = .ok (.aload_n 0, 1) := by decide +kernel
theorem dX9_keep_124 : decode cX9_keep 124 = .ok (.getfield 34, 3) := by decide +kernel
theorem dX9_keep_127 : decode cX9_keep 127 = .ok (.iload_n 3, 1) := by decide +kernel
theorem dX9_keep_128 : decode cX9_keep 128 = .ok (.iaload, 1) := by decide +kernel
theorem dX9_keep_129 : decode cX9_keep 129 = .ok (.iastore, 1) := by decide +kernel
theorem dX9_keep_130 : decode cX9_keep 130 = .ok (.iinc 3 1, 3) := by decide +kernel
theorem dX9_keep_133 : decode cX9_keep 133 = .ok (.goto (-26), 3) := by decide +kernel
theorem dX9_keep_136 : decode cX9_keep 136 = .ok (.iconst 0, 1) := by decide +kernel
theorem dX9_keep_137 : decode cX9_keep 137 = .ok (.istore_n 3, 1) := by decide +kernel
theorem dX9_keep_138 : decode cX9_keep 138 = .ok (.iload_n 3, 1) := by decide +kernel
theorem dX9_keep_139 : decode cX9_keep 139 = .ok (.bipush 20, 2) := by decide +kernel
theorem dX9_keep_141 : decode cX9_keep 141 = .ok (.if_icmp .ge 60, 3) := by decide +kernel
theorem dX9_keep_144 : decode cX9_keep 144 = .ok (.aload_n 0, 1) := by decide +kernel
theorem dX9_keep_145 : decode cX9_keep 145 = .ok (.getfield 107, 3) := by decide +kernel
theorem dX9_keep_148 : decode cX9_keep 148 = .ok (.iload_n 2, 1) := by decide +kernel
theorem dX9_keep_149 : decode cX9_keep 149 = .ok (.bipush 78, 2) := by decide +kernel
theorem dX9_keep_151 : decode cX9_keep 151 = .ok (.iadd, 1) := by decide +kernel
theorem dX9_keep_152 : decode cX9_keep 152 = .ok (.iload_n 3, 1) := by decide +kernel
theorem dX9_keep_153 : decode cX9_keep 153 = .ok (.iadd, 1) := by decide +kernel
theorem dX9_keep_154 : decode cX9_keep 154 = .ok (.aload_n 0, 1) := by decide +kernel
theorem dX9_keep_155 : decode cX9_keep 155 = .ok (.getfield 40, 3) := by decide +kernel
theorem dX9_keep_158 : decode cX9_keep 158 = .ok (.iload_n 3, 1) := by decide +kernel
theorem dX9_keep_159 : decode cX9_keep 159 = .ok (.iaload, 1) := by decide +kernel
theorem dX9_keep_160 : decode cX9_keep 160 = .ok (.iastore, 1) := by decide +kernel
theorem dX9_keep_161 : decode cX9_keep 161 = .ok (.aload_n 0, 1) := by decide +kernel
theorem dX9_keep_162 : decode cX9_keep 162 = .ok (.getfield 107, 3) := by decide +kernel
theorem dX9_keep_165 : decode cX9_keep 165 = .ok (.iload_n 2, 1) := by decide +kernel
theorem dX9_keep_166 : decode cX9_keep 166 = .ok (.bipush 98, 2) := by decide +kernel
theorem dX9_keep_168 : decode cX9_keep 168 = .ok (.iadd, 1) := by decide +kernel
theorem dX9_keep_169 : decode cX9_keep 169 = .ok (.iload_n 3, 1) := by decide +kernel
theorem dX9_keep_170 : decode cX9_keep 170 = .ok (.iadd, 1) := by decide +kernel
theorem dX9_keep_171 : decode cX9_keep 171 = .ok (.aload_n 0, 1) := by decide +kernel
theorem dX9_keep_172 : decode cX9_keep 172 = .ok (.getfield 43, 3) := by decide +kernel
theorem dX9_keep_175 : decode cX9_keep 175 = .ok (.iload_n 3, 1) := by decide +kernel
theorem dX9_keep_176 : decode cX9_keep 176 = .ok (.iaload, 1) := by decide +kernel
theorem dX9_keep_177 : decode cX9_keep 177 = .ok (.iastore, 1) := by decide +kernel
theorem dX9_keep_178 : decode cX9_keep 178 = .ok (.aload_n 0, 1) := by decide +kernel
theorem dX9_keep_179 : decode cX9_keep 179 = .ok (.getfield 107, 3) := by decide +kernel
theorem dX9_keep_182 : decode cX9_keep 182 = .ok (.iload_n 2, 1) := by decide +kernel
theorem dX9_keep_183 : decode cX9_keep 183 = .ok (.bipush 118, 2) := by decide +kernel
theorem dX9_keep_185 : decode cX9_keep 185 = .ok (.iadd, 1) := by decide +kernel
theorem dX9_keep_186 : decode cX9_keep 186 = .ok (.iload_n 3, 1) := by decide +kernel
theorem dX9_keep_187 : decode cX9_keep 187 = .ok (.iadd, 1) := by decide +kernel
theorem dX9_keep_188 : decode cX9_keep 188 = .ok (.aload_n 0, 1) := by decide +kernel
theorem dX9_keep_189 : decode cX9_keep 189 = .ok (.getfield 46, 3) := by decide +kernel
theorem dX9_keep_192 : decode cX9_keep 192 = .ok (.iload_n 3, 1) := by decide +kernel
theorem dX9_keep_193 : decode cX9_keep 193 = .ok (.iaload, 1) := by decide +kernel
theorem dX9_keep_194 : decode cX9_keep 194 = .ok (.iastore, 1) := by decide +kernel
theorem dX9_keep_195 : decode cX9_keep 195 = .ok (.iinc 3 1, 3) := by decide +kernel
theorem dX9_keep_198 : decode cX9_keep 198 = .ok (.goto (-60), 3) := by decide +kernel
theorem dX9_keep_201 : decode cX9_keep 201 = .ok (.iconst 0, 1) := by decide +kernel
theorem dX9_keep_202 : decode cX9_keep 202 = .ok (.istore_n 3, 1) := by decide +kernel
theorem dX9_keep_203 : decode cX9_keep 203 = .ok (.iload_n 3, 1) := by decide +kernel
theorem dX9_keep_204 : decode cX9_keep 204 = .ok (.sipush 320, 3) := by decide +kernel
theorem dX9_keep_207 : decode cX9_keep 207 = .ok (.if_icmp .ge 27, 3) := by decide +kernel
theorem dX9_keep_210 : decode cX9_keep 210 = .ok (.aload_n 0, 1) := by decide +kernel
theorem dX9_keep_211 : decode cX9_keep 211 = .ok (.getfield 107, 3) := by decide +kernel
theorem dX9_keep_214 : decode cX9_keep 214 = .ok (.iload_n 2, 1) := by decide +kernel
theorem dX9_keep_215 : decode cX9_keep 215 = .ok (.sipush 138, 3) := by decide +kernel
theorem dX9_keep_218 : decode cX9_keep 218 = .ok (.iadd, 1) := by decide +kernel
theorem dX9_keep_219 : decode cX9_keep 219 = .ok (.iload_n 3, 1) := by decide +kernel
theorem dX9_keep_220 : decode cX9_keep 220 = .ok (.iadd, 1) := by decide +kernel
theorem dX9_keep_221 : decode cX9_keep 221 = .ok (.aload_n 0, 1) := by decide +kernel
theorem dX9_keep_222 : decode cX9_keep 222 = .ok (.getfield 49, 3) := by decide +kernel
theorem dX9_keep_225 : decode cX9_keep 225 = .ok (.iload_n 3, 1) := by decide +kernel
theorem dX9_keep_226 : decode cX9_keep 226 = .ok (.iaload, 1) := by decide +kernel
theorem dX9_keep_227 : decode cX9_keep 227 = .ok (.iastore, 1) := by decide +kernel
theorem dX9_keep_228 : decode cX9_keep 228 = .ok (.iinc 3 1, 3) := by decide +kernel
theorem dX9_keep_231 : decode cX9_keep 231 = .ok (.goto (-28), 3) := by decide +kernel
theorem dX9_keep_234 : decode cX9_keep 234 = .ok (.aload_n 0, 1) := by decide +kernel
theorem dX9_keep_235 : decode cX9_keep 235 = .ok (.getfield 110, 3) := by decide +kernel
theorem dX9_keep_238 : decode cX9_keep 238 = .ok (.iload_n 1, 1) := by decide +kernel
theorem dX9_keep_239 : decode cX9_keep 239 = .ok (.iconst 1, 1) := by decide +kernel
theorem dX9_keep_240 : decode cX9_keep 240 = .ok (.bastore, 1) := by decide +kernel
theorem dX9_keep_241 : decode cX9_keep 241 = .ok (.iconst 1, 1) := by decide +kernel
theorem dX9_keep_242 : decode cX9_keep 242 = .ok (.ireturn, 1) := by decide +kernel
theorem dX9_goBack_0 : decode cX9_goBack 0 = .ok (.iload_n 1, 1) := by decide +kernel
theorem dX9_goBack_1 : decode cX9_goBack 1 = .ok (.i2l, 1) := by decide +kernel
theorem dX9_goBack_2 : decode cX9_goBack 2 = .ok (.lconst 0, 1) := by decide +kernel
theorem dX9_goBack_3 : decode cX9_goBack 3 = .ok (.lconst 1, 1) := by decide +kernel
theorem dX9_goBack_4 : decode cX9_goBack 4 = .ok (.invokestatic 117, 3) := by decide +kernel
theorem dX9_goBack_7 : decode cX9_goBack 7 = .ok (.ifCond .ne 7, 3) := by decide +kernel
theorem dX9_goBack_10 : decode cX9_goBack 10 = .ok (.sipush (-1001), 3) := by decide +kernel
theorem dX9_goBack_13 : decode cX9_goBack 13 = .ok (.ireturn, 1) := by decide +kernel
theorem dX9_goBack_14 : decode cX9_goBack 14 = .ok (.aload_n 0, 1) := by decide +kernel
theorem dX9_goBack_15 : decode cX9_goBack 15 = .ok (.getfield 110, 3) := by decide +kernel
theorem dX9_goBack_18 : decode cX9_goBack 18 = .ok (.iload_n 1, 1) := by decide +kernel
theorem dX9_goBack_19 : decode cX9_goBack 19 = .ok (.baload, 1) := by decide +kernel
theorem dX9_goBack_20 : decode cX9_goBack 20 = .ok (.ifCond .ne 7, 3) := by decide +kernel
theorem dX9_goBack_23 : decode cX9_goBack 23 = .ok (.sipush (-1003), 3) := by decide +kernel
theorem dX9_goBack_26 : decode cX9_goBack 26 = .ok (.ireturn, 1) := by decide +kernel
theorem dX9_goBack_27 : decode cX9_goBack 27 = .ok (.sipush 500, 3) := by decide +kernel
theorem dX9_goBack_30 : decode cX9_goBack 30 = .ok (.iload_n 1, 1) := by decide +kernel
theorem dX9_goBack_31 : decode cX9_goBack 31 = .ok (.imul, 1) := by decide +kernel
theorem dX9_goBack_32 : decode cX9_goBack 32 = .ok (.istore_n 2, 1) := by decide +kernel
theorem dX9_goBack_33 : decode cX9_goBack 33 = .ok (.aload_n 0, 1) := by decide +kernel
theorem dX9_goBack_34 : decode cX9_goBack 34 = .ok (.aload_n 0, 1) := by decide +kernel
theorem dX9_goBack_35 : decode cX9_goBack 35 = .ok (.getfield 107, 3) := by decide +kernel
theorem dX9_goBack_38 : decode cX9_goBack 38 = .ok (.iload_n 2, 1) := by decide +kernel
theorem dX9_goBack_39 : decode cX9_goBack 39 = .ok (.iaload, 1) := by decide +kernel
theorem dX9_goBack_40 : decode cX9_goBack 40 = .ok (.putfield 126, 3) := by decide +kernel
theorem dX9_goBack_43 : decode cX9_goBack 43 = .ok (.aload_n 0, 1) := by decide +kernel
theorem dX9_goBack_44 : decode cX9_goBack 44 = .ok (.aload_n 0, 1) := by decide +kernel
theorem dX9_goBack_45 : decode cX9_goBack 45 = .ok (.getfield 107, 3) := by decide +kernel
theorem dX9_goBack_48 : decode cX9_goBack 48 = .ok (.iload_n 2, 1) := by decide +kernel
theorem dX9_goBack_49 : decode cX9_goBack 49 = .ok (.iconst 1, 1) := by decide +kernel
theorem dX9_goBack_50 : decode cX9_goBack 50 = .ok (.iadd, 1) := by decide +kernel
theorem dX9_goBack_51 : decode cX9_goBack 51 = .ok (.iaload, 1) := by decide +kernel
theorem dX9_goBack_52 : decode cX9_goBack 52 = .ok (.putfield 129, 3) := by decide +kernel
theorem dX9_goBack_55 : decode cX9_goBack 55 = .ok (.iconst 0, 1) := by decide +kernel
theorem dX9_goBack_56 : decode cX9_goBack 56 = .ok (.istore_n 3, 1) := by decide +kernel
theorem dX9_goBack_57 : decode cX9_goBack 57 = .ok (.iload_n 3, 1) := by decide +kernel
theorem dX9_goBack_58 : decode cX9_goBack 58 = .ok (.iconst 4, 1) := by decide +kernel
theorem dX9_goBack_59 : decode cX9_goBack 59 = .ok (.if_icmp .ge 59, 3) := by decide +kernel
theorem dX9_goBack_62 : decode cX9_goBack 62 = .ok (.aload_n 0, 1) := by decide +kernel
theorem dX9_goBack_63 : decode cX9_goBack 63 = .ok (.getfield 28, 3) := by decide +kernel
theorem dX9_goBack_66 : decode cX9_goBack 66 = .ok (.iload_n 3, 1) := by decide +kernel
theorem dX9_goBack_67 : decode cX9_goBack 67 = .ok (.aload_n 0, 1) := by decide +kernel
theorem dX9_goBack_68 : decode cX9_goBack 68 = .ok (.getfield 107, 3) := by decide +kernel
theorem dX9_goBack_71 : decode cX9_goBack 71 = .ok (.iload_n 2, 1) := by decide +kernel
theorem dX9_goBack_72 : decode cX9_goBack 72 = .ok (.iconst 2, 1) := by decide +kernel
theorem dX9_goBack_73 : decode cX9_goBack 73 = .ok (.iadd, 1) := by decide +kernel
theorem dX9_goBack_74 : decode cX9_goBack 74 = .ok (.iload_n 3, 1) := by decide +kernel
theorem dX9_goBack_75 : decode cX9_goBack 75 = .ok (.iadd, 1) := by decide +kernel
theorem dX9_goBack_76 : decode cX9_goBack 76 = .ok (.iaload, 1) := by decide +kernel
theorem dX9_goBack_77 : decode cX9_goBack 77 = .ok (.iastore, 1) := by decide +kernel
theorem dX9_goBack_78 : decode cX9_goBack 78 = .ok (.aload_n 0, 1) := by decide +kernel
theorem dX9_goBack_79 : decode cX9_goBack 79 = .ok (.getfield 31, 3) := by decide +kernel
theorem dX9_goBack_82 : decode cX9_goBack 82 = .ok (.iload_n 3, 1) := by decide +kernel
theorem dX9_goBack_83 : decode cX9_goBack 83 = .ok (.aload_n 0, 1) := by decide +kernel
theorem dX9_goBack_84 : decode cX9_goBack 84 = .ok (.getfield 107, 3) := by decide +kernel
theorem dX9_goBack_87 : decode cX9_goBack 87 = .ok (.iload_n 2, 1) := by decide +kernel
theorem dX9_goBack_88 : decode cX9_goBack 88 = .ok (.bipush 6, 2) := by decide +kernel
theorem dX9_goBack_90 : decode cX9_goBack 90 = .ok (.iadd, 1) := by decide +kernel
theorem dX9_goBack_91 : decode cX9_goBack 91 = .ok (.iload_n 3, 1) := by decide +kernel
theorem dX9_goBack_92 : decode cX9_goBack 92 = .ok (.iadd, 1) := by decide +kernel
theorem dX9_goBack_93 : decode cX9_goBack 93 = .ok (.iaload, 1) := by decide +kernel
theorem dX9_goBack_94 : decode cX9_goBack 94 = .ok (.iastore, 1) := by decide +kernel
theorem dX9_goBack_95 : decode cX9_goBack 95 = .ok (.aload_n 0, 1) := by decide +kernel
theorem dX9_goBack_96 : decode cX9_goBack 96 = .ok (.getfield 37, 3) := by decide +kernel
theorem dX9_goBack_99 : decode cX9_goBack 99 = .ok (.iload_n 3, 1) := by decide +kernel
theorem dX9_goBack_100 : decode cX9_goBack 100 = .ok (.aload_n 0, 1) := by decide +kernel
theorem dX9_goBack_101 : decode cX9_goBack 101 = .ok (.getfield 107, 3) := by decide +kernel
theorem dX9_goBack_104 : decode cX9_goBack 104 = .ok (.iload_n 2, 1) := by decide +kernel
theorem dX9_goBack_105 : decode cX9_goBack 105 = .ok (.bipush 10, 2) := by decide +kernel
theorem dX9_goBack_107 : decode cX9_goBack 107 = .ok (.iadd, 1) := by decide +kernel
theorem dX9_goBack_108 : decode cX9_goBack 108 = .ok (.iload_n 3, 1) := by decide +kernel
theorem dX9_goBack_109 : decode cX9_goBack 109 = .ok (.iadd, 1) := by decide +kernel
theorem dX9_goBack_110 : decode cX9_goBack 110 = .ok (.iaload, 1) := by decide +kernel
theorem dX9_goBack_111 : decode cX9_goBack 111 = .ok (.iastore, 1) := by decide +kernel
theorem dX9_goBack_112 : decode cX9_goBack 112 = .ok (.iinc 3 1, 3) := by decide +kernel
theorem dX9_goBack_115 : decode cX9_goBack 115 = .ok (.goto (-58), 3) := by decide +kernel
theorem dX9_goBack_118 : decode cX9_goBack 118 = .ok (.iconst 0, 1) := by decide +kernel
theorem dX9_goBack_119 : decode cX9_goBack 119 = .ok (.istore_n 3, 1) := by decide +kernel
theorem dX9_goBack_120 : decode cX9_goBack 120 = .ok (.iload_n 3, 1) := by decide +kernel
theorem dX9_goBack_121 : decode cX9_goBack 121 = .ok (.bipush 64, 2) := by decide +kernel
theorem dX9_goBack_123 : decode cX9_goBack 123 = .ok (.if_icmp .ge 26, 3) := by decide +kernel
theorem dX9_goBack_126 : decode cX9_goBack 126 = .ok (.aload_n 0, 1) := by decide +kernel
theorem dX9_goBack_127 : decode cX9_goBack 127 = .ok (.getfield 34, 3) := by decide +kernel
theorem dX9_goBack_130 : decode cX9_goBack 130 = .ok (.iload_n 3, 1) := by decide +kernel
theorem dX9_goBack_131 : decode cX9_goBack 131 = .ok (.aload_n 0, 1) := by decide +kernel
theorem dX9_goBack_132 : decode cX9_goBack 132 = .ok (.getfield 107, 3) := by decide +kernel
theorem dX9_goBack_135 : decode cX9_goBack 135 = .ok (.iload_n 2, 1) := by decide +kernel
theorem dX9_goBack_136 : decode cX9_goBack 136 = .ok (.bipush 14, 2) := by decide +kernel
theorem dX9_goBack_138 : decode cX9_goBack 138 = .ok (.iadd, 1) := by decide +kernel
theorem dX9_goBack_139 : decode cX9_goBack 139 = .ok (.iload_n 3, 1) := by decide +kernel
theorem dX9_goBack_140 : decode cX9_goBack 140 = .ok (.iadd, 1) := by decide +kernel
theorem dX9_goBack_141 : decode cX9_goBack 141 = .ok (.iaload, 1) := by decide +kernel
theorem dX9_goBack_142 : decode cX9_goBack 142 = .ok (.iastore, 1) := by decide +kernel
theorem dX9_goBack_143 : decode cX9_goBack 143 = .ok (.iinc 3 1, 3) := by decide +kernel
theorem dX9_goBack_146 : decode cX9_goBack 146 = .ok (.goto (-26), 3) := by decide +kernel
theorem dX9_goBack_149 : decode cX9_goBack 149 = .ok (.iconst 0, 1) := by decide +kernel
theorem dX9_goBack_150 : decode cX9_goBack 150 = .ok (.istore_n 3, 1) := by decide +kernel
theorem dX9_goBack_151 : decode cX9_goBack 151 = .ok (.iload_n 3, 1) := by decide +kernel
theorem dX9_goBack_152 : decode cX9_goBack 152 = .ok (.bipush 20, 2) := by decide +kernel
theorem dX9_goBack_154 : decode cX9_goBack 154 = .ok (.if_icmp .ge 60, 3) := by decide +kernel
theorem dX9_goBack_157 : decode cX9_goBack 157 = .ok (.aload_n 0, 1) := by decide +kernel
theorem dX9_goBack_158 : decode cX9_goBack 158 = .ok (.getfield 40, 3) := by decide +kernel
theorem dX9_goBack_161 : decode cX9_goBack 161 = .ok (.iload_n 3, 1) := by decide +kernel
theorem dX9_goBack_162 : decode cX9_goBack 162 = .ok (.aload_n 0, 1) := by decide +kernel
theorem dX9_goBack_163 : decode cX9_goBack 163 = .ok (.getfield 107, 3) := by decide +kernel
theorem dX9_goBack_166 : decode cX9_goBack 166 = .ok (.iload_n 2, 1) := by decide +kernel
theorem dX9_goBack_167 : decode cX9_goBack 167 = .ok (.bipush 78, 2) := by decide +kernel
theorem dX9_goBack_169 : decode cX9_goBack 169 = .ok (.iadd, 1) := by decide +kernel
theorem dX9_goBack_170 : decode cX9_goBack 170 = .ok (.iload_n 3, 1) := by decide +kernel
theorem dX9_goBack_171 : decode cX9_goBack 171 = .ok (.iadd, 1) := by decide +kernel
theorem dX9_goBack_172 : decode cX9_goBack 172 = .ok (.iaload, 1) := by decide +kernel
theorem dX9_goBack_173 : decode cX9_goBack 173 = .ok (.iastore, 1) := by decide +kernel
theorem dX9_goBack_174 : decode cX9_goBack 174 = .ok (.aload_n 0, 1) := by decide +kernel
theorem dX9_goBack_175 : decode cX9_goBack 175 = .ok (.getfield 43, 3) := by decide +kernel
theorem dX9_goBack_178 : decode cX9_goBack 178 = .ok (.iload_n 3, 1) := by decide +kernel
theorem dX9_goBack_179 : decode cX9_goBack 179 = .ok (.aload_n 0, 1) := by decide +kernel
theorem dX9_goBack_180 : decode cX9_goBack 180 = .ok (.getfield 107, 3) := by decide +kernel
theorem dX9_goBack_183 : decode cX9_goBack 183 = .ok (.iload_n 2, 1) := by decide +kernel
theorem dX9_goBack_184 : decode cX9_goBack 184 = .ok (.bipush 98, 2) := by decide +kernel
theorem dX9_goBack_186 : decode cX9_goBack 186 = .ok (.iadd, 1) := by decide +kernel
theorem dX9_goBack_187 : decode cX9_goBack 187 = .ok (.iload_n 3, 1) := by decide +kernel
theorem dX9_goBack_188 : decode cX9_goBack 188 = .ok (.iadd, 1) := by decide +kernel
theorem dX9_goBack_189 : decode cX9_goBack 189 = .ok (.iaload, 1) := by decide +kernel
theorem dX9_goBack_190 : decode cX9_goBack 190 = .ok (.iastore, 1) := by decide +kernel
theorem dX9_goBack_191 : decode cX9_goBack 191 = .ok (.aload_n 0, 1) := by decide +kernel
theorem dX9_goBack_192 : decode cX9_goBack 192 = .ok (.getfield 46, 3) := by decide +kernel
theorem dX9_goBack_195 : decode cX9_goBack 195 = .ok (.iload_n 3, 1) := by decide +kernel
theorem dX9_goBack_196 : decode cX9_goBack 196 = .ok (.aload_n 0, 1) := by decide +kernel
theorem dX9_goBack_197 : decode cX9_goBack 197 = .ok (.getfield 107, 3) := by decide +kernel
theorem dX9_goBack_200 : decode cX9_goBack 200 = .ok (.iload_n 2, 1) := by decide +kernel
theorem dX9_goBack_201 : decode cX9_goBack 201 = .ok (.bipush 118, 2) := by decide +kernel
theorem dX9_goBack_203 : decode cX9_goBack 203 = .ok (.iadd, 1) := by decide +kernel
theorem dX9_goBack_204 : decode cX9_goBack 204 = .ok (.iload_n 3, 1) := by decide +kernel
theorem dX9_goBack_205 : decode cX9_goBack 205 = .ok (.iadd, 1) := by decide +kernel
theorem dX9_goBack_206 : decode cX9_goBack 206 = .ok (.iaload, 1) := by decide +kernel
theorem dX9_goBack_207 : decode cX9_goBack 207 = .ok (.iastore, 1) := by decide +kernel
theorem dX9_goBack_208 : decode cX9_goBack 208 = .ok (.iinc 3 1, 3) := by decide +kernel
theorem dX9_goBack_211 : decode cX9_goBack 211 = .ok (.goto (-60), 3) := by decide +kernel
theorem dX9_goBack_214 : decode cX9_goBack 214 = .ok (.iconst 0, 1) := by decide +kernel
theorem dX9_goBack_215 : decode cX9_goBack 215 = .ok (.istore_n 3, 1) := by decide +kernel
theorem dX9_goBack_216 : decode cX9_goBack 216 = .ok (.iload_n 3, 1) := by decide +kernel
theorem dX9_goBack_217 : decode cX9_goBack 217 = .ok (.sipush 320, 3) := by decide +kernel
theorem dX9_goBack_220 : decode cX9_goBack 220 = .ok (.if_icmp .ge 27, 3) := by decide +kernel
theorem dX9_goBack_223 : decode cX9_goBack 223 = .ok (.aload_n 0, 1) := by decide +kernel
theorem dX9_goBack_224 : decode cX9_goBack 224 = .ok (.getfield 49, 3) := by decide +kernel
theorem dX9_goBack_227 : decode cX9_goBack 227 = .ok (.iload_n 3, 1) := by decide +kernel
theorem dX9_goBack_228 : decode cX9_goBack 228 = .ok (.aload_n 0, 1) := by decide +kernel
theorem dX9_goBack_229 : decode cX9_goBack 229 = .ok (.getfield 107, 3) := by decide +kernel
theorem dX9_goBack_232 : decode cX9_goBack 232 = .ok (.iload_n 2, 1) := by decide +kernel
theorem dX9_goBack_233 : decode cX9_goBack 233 = .ok (.sipush 138, 3) := by decide +kernel
theorem dX9_goBack_236 : decode cX9_goBack 236 = .ok (.iadd, 1) := by decide +kernel
theorem dX9_goBack_237 : decode cX9_goBack 237 = .ok (.iload_n 3, 1) := by decide +kernel
theorem dX9_goBack_238 : decode cX9_goBack 238 = .ok (.iadd, 1) := by decide +kernel
theorem dX9_goBack_239 : decode cX9_goBack 239 = .ok (.iaload, 1) := by decide +kernel
theorem dX9_goBack_240 : decode cX9_goBack 240 = .ok (.iastore, 1) := by decide +kernel
theorem dX9_goBack_241 : decode cX9_goBack 241 = .ok (.iinc 3 1, 3) := by decide +kernel
theorem dX9_goBack_244 : decode cX9_goBack 244 = .ok (.goto (-28), 3) := by decide +kernel
theorem dX9_goBack_247 : decode cX9_goBack 247 = .ok (.iconst 1, 1) := by decide +kernel
theorem dX9_goBack_248 : decode cX9_goBack 248 = .ok (.ireturn, 1) := by decide +kernel
theorem dJ6_bitCount_0f7a4_0 : decode cJ6_bitCount_0f7a4 0 = .ok (.iload_n 0, 1) := by decide +kernel
theorem dJ6_bitCount_0f7a4_1 : decode cJ6_bitCount_0f7a4 1 = .ok (.iload_n 0, 1) := by decide +kernel
theorem dJ6_bitCount_0f7a4_2 : decode cJ6_bitCount_0f7a4 2 = .ok (.iconst 1, 1) := by decide +kernel
theorem dJ6_bitCount_0f7a4_3 : decode cJ6_bitCount_0f7a4 3 = .ok (.iushr, 1) := by decide +kernel
theorem dJ6_bitCount_0f7a4_4 : decode cJ6_bitCount_0f7a4 4 = .ok (.ldc_w 265, 3) := by decide +kernel
theorem dJ6_bitCount_0f7a4_7 : decode cJ6_bitCount_0f7a4 7 = .ok (.iand, 1) := by decide +kernel
theorem dJ6_bitCount_0f7a4_8 : decode cJ6_bitCount_0f7a4 8 = .ok (.isub, 1) := by decide +kernel
theorem dJ6_bitCount_0f7a4_9 : decode cJ6_bitCount_0f7a4 9 = .ok (.istore_n 0, 1) := by decide +kernel
theorem dJ6_bitCount_0f7a4_10 : decode cJ6_bitCount_0f7a4 10 = .ok (.iload_n 0, 1) := by decide +kernel
theorem dJ6_bitCount_0f7a4_11 : decode cJ6_bitCount_0f7a4 11 = .ok (.ldc_w 266, 3) := by decide +kernel
theorem dJ6_bitCount_0f7a4_14 : decode cJ6_bitCount_0f7a4 14 = .ok (.iand, 1) := by decide +kernel
theorem dJ6_bitCount_0f7a4_15 : decode cJ6_bitCount_0f7a4 15 = .ok (.iload_n 0, 1) := by decide +kernel
theorem dJ6_bitCount_0f7a4_16 : decode cJ6_bitCount_0f7a4 16 = .ok (.iconst 2, 1) := by decide +kernel
theorem dJ6_bitCount_0f7a4_17 : decode cJ6_bitCount_0f7a4 17 = .ok (.iushr, 1) := by decide +kernel
theorem dJ6_bitCount_0f7a4_18 : decode cJ6_bitCount_0f7a4 18 = .ok (.ldc_w 266, 3) := by decide +kernel
theorem dJ6_bitCount_0f7a4_21 : decode cJ6_bitCount_0f7a4 21 = .ok (.iand, 1) := by decide +kernel
theorem dJ6_bitCount_0f7a4_22 : decode cJ6_bitCount_0f7a4 22 = .ok (.iadd, 1) := by decide +kernel
theorem dJ6_bitCount_0f7a4_23 : decode cJ6_bitCount_0f7a4 23 = .ok (.istore_n 0, 1) := by decide +kernel
theorem dJ6_bitCount_0f7a4_24 : decode cJ6_bitCount_0f7a4 24 = .ok (.iload_n 0, 1) := by decide +kernel
theorem dJ6_bitCount_0f7a4_25 : decode cJ6_bitCount_0f7a4 25 = .ok (.iload_n 0, 1) := by decide +kernel
theorem dJ6_bitCount_0f7a4_26 : decode cJ6_bitCount_0f7a4 26 = .ok (.iconst 4, 1) := by decide +kernel
theorem dJ6_bitCount_0f7a4_27 : decode cJ6_bitCount_0f7a4 27 = .ok (.iushr, 1) := by decide +kernel
theorem dJ6_bitCount_0f7a4_28 : decode cJ6_bitCount_0f7a4 28 = .ok (.iadd, 1) := by decide +kernel
theorem dJ6_bitCount_0f7a4_29 : decode cJ6_bitCount_0f7a4 29 = .ok (.ldc_w 267, 3) := by decide +kernel
theorem dJ6_bitCount_0f7a4_32 : decode cJ6_bitCount_0f7a4 32 = .ok (.iand, 1) := by decide +kernel
theorem dJ6_bitCount_0f7a4_33 : decode cJ6_bitCount_0f7a4 33 = .ok (.istore_n 0, 1) := by decide +kernel
theorem dJ6_bitCount_0f7a4_34 : decode cJ6_bitCount_0f7a4 34 = .ok (.iload_n 0, 1) := by decide +kernel
theorem dJ6_bitCount_0f7a4_35 : decode cJ6_bitCount_0f7a4 35 = .ok (.iload_n 0, 1) := by decide +kernel
theorem dJ6_bitCount_0f7a4_36 : decode cJ6_bitCount_0f7a4 36 = .ok (.bipush 8, 2) := by decide +kernel
theorem dJ6_bitCount_0f7a4_38 : decode cJ6_bitCount_0f7a4 38 = .ok (.iushr, 1) := by decide +kernel
theorem dJ6_bitCount_0f7a4_39 : decode cJ6_bitCount_0f7a4 39 = .ok (.iadd, 1) := by decide +kernel
theorem dJ6_bitCount_0f7a4_40 : decode cJ6_bitCount_0f7a4 40 = .ok (.istore_n 0, 1) := by decide +kernel
theorem dJ6_bitCount_0f7a4_41 : decode cJ6_bitCount_0f7a4 41 = .ok (.iload_n 0, 1) := by decide +kernel
theorem dJ6_bitCount_0f7a4_42 : decode cJ6_bitCount_0f7a4 42 = .ok (.iload_n 0, 1) := by decide +kernel
theorem dJ6_bitCount_0f7a4_43 : decode cJ6_bitCount_0f7a4 43 = .ok (.bipush 16, 2) := by decide +kernel
theorem dJ6_bitCount_0f7a4_45 : decode cJ6_bitCount_0f7a4 45 = .ok (.iushr, 1) := by decide +kernel
theorem dJ6_bitCount_0f7a4_46 : decode cJ6_bitCount_0f7a4 46 = .ok (.iadd, 1) := by decide +kernel
theorem dJ6_bitCount_0f7a4_47 : decode cJ6_bitCount_0f7a4 47 = .ok (.istore_n 0, 1) := by decide +kernel
theorem dJ6_bitCount_0f7a4_48 : decode cJ6_bitCount_0f7a4 48 = .ok (.iload_n 0, 1) := by decide +kernel
theorem dJ6_bitCount_0f7a4_49 : decode cJ6_bitCount_0f7a4 49 = .ok (.bipush 63, 2) := by decide +kernel
theorem dJ6_bitCount_0f7a4_51 : decode cJ6_bitCount_0f7a4 51 = .ok (.iand, 1) := by decide +kernel
theorem dJ6_bitCount_0f7a4_52 : decode cJ6_bitCount_0f7a4 52 = .ok (.ireturn, 1) := by decide +kernel
theorem dJ9_max_7cf53_0 : decode cJ9_max_7cf53 0 = .ok (.iload_n 0, 1) := by decide +kernel
theorem dJ9_max_7cf53_1 : decode cJ9_max_7cf53 1 = .ok (.iload_n 1, 1) := by decide +kernel
theorem dJ9_max_7cf53_2 : decode cJ9_max_7cf53 2 = .ok (.if_icmp .lt 7, 3) := by decide +kernel
theorem dJ9_max_7cf53_5 : decode cJ9_max_7cf53 5 = .ok (.iload_n 0, 1) := by decide +kernel
theorem dJ9_max_7cf53_6 : decode cJ9_max_7cf53 6 = .ok (.goto 4, 3) := by decide +kernel
theorem dJ9_max_7cf53_9 : decode cJ9_max_7cf53 9 = .ok (.iload_n 1, 1) := by decide +kernel
theorem dJ9_max_7cf53_10 : decode cJ9_max_7cf53 10 = .ok (.ireturn, 1) := by decide +kernel
theorem dJ9_min_7cf53_0 : decode cJ9_min_7cf53 0 = .ok (.iload_n 0, 1) := by decide +kernel
theorem dJ9_min_7cf53_1 : decode cJ9_min_7cf53 1 = .ok (.iload_n 1, 1) := by decide +kernel
theorem dJ9_min_7cf53_2 : decode cJ9_min_7cf53 2 = .ok (.if_icmp .gt 7, 3) := by decide +kernel
theorem dJ9_min_7cf53_5 : decode cJ9_min_7cf53 5 = .ok (.iload_n 0, 1) := by decide +kernel
theorem dJ9_min_7cf53_6 : decode cJ9_min_7cf53 6 = .ok (.goto 4, 3) := by decide +kernel
theorem dJ9_min_7cf53_9 : decode cJ9_min_7cf53 9 = .ok (.iload_n 1, 1) := by decide +kernel
theorem dJ9_min_7cf53_10 : decode cJ9_min_7cf53 10 = .ok (.ireturn, 1) := by decide +kernel
theorem dJ0_length_8abf5_0 : decode cJ0_length_8abf5 0 = .ok (.aload_n 0, 1) := by decide +kernel
theorem dJ0_length_8abf5_1 : decode cJ0_length_8abf5 1 = .ok (.getfield 9, 3) := by decide +kernel
theorem dJ0_length_8abf5_4 : decode cJ0_length_8abf5 4 = .ok (.arraylength, 1) := by decide +kernel
theorem dJ0_length_8abf5_5 : decode cJ0_length_8abf5 5 = .ok (.aload_n 0, 1) := by decide +kernel
theorem dJ0_length_8abf5_6 : decode cJ0_length_8abf5 6 = .ok (.invokevirtual 335, 3) := by decide +kernel
theorem dJ0_length_8abf5_9 : decode cJ0_length_8abf5 9 = .ok (.ishr, 1) := by decide +kernel
theorem dJ0_length_8abf5_10 : decode cJ0_length_8abf5 10 = .ok (.ireturn, 1) := by decide +kernel
theorem dJ0_charAt_5068e_0 : decode cJ0_charAt_5068e 0 = .ok (.aload_n 0, 1) := by decide +kernel
theorem dJ0_charAt_5068e_1 : decode cJ0_charAt_5068e 1 = .ok (.invokevirtual 492, 3) := by decide +kernel
theorem dJ0_charAt_5068e_4 : decode cJ0_charAt_5068e 4 = .ok (.ifCond .eq 12, 3) := by decide +kernel
theorem dJ0_charAt_5068e_7 : decode cJ0_charAt_5068e 7 = .ok (.aload_n 0, 1) := by decide +kernel
theorem dJ0_charAt_5068e_8 : decode cJ0_charAt_5068e 8 = .ok (.getfield 9, 3) := by decide +kernel
theorem dJ0_charAt_5068e_11 : decode cJ0_charAt_5068e 11 = .ok (.iload_n 1, 1) := by decide +kernel
theorem dJ0_charAt_5068e_12 : decode cJ0_charAt_5068e 12 = .ok (.invokestatic 495, 3) := by decide +kernel
theorem dJ0_charAt_5068e_15 : decode cJ0_charAt_5068e 15 = .ok (.ireturn, 1) := by decide +kernel
theorem dJ0_charAt_5068e_16 : decode cJ0_charAt_5068e 16 = .ok (.aload_n 0, 1) := by decide +kernel
theorem dJ0_charAt_5068e_17 : decode cJ0_charAt_5068e 17 = .ok (.getfield 9, 3) := by decide +kernel
theorem dJ0_charAt_5068e_20 : decode cJ0_charAt_5068e 20 = .ok (.iload_n 1, 1) := by decide +kernel
theorem dJ0_charAt_5068e_21 : decode cJ0_charAt_5068e 21 = .ok (.invokestatic 498, 3) := by decide +kernel
theorem dJ0_charAt_5068e_24 : decode cJ0_charAt_5068e 24 = .ok (.ireturn, 1) := by decide +kernel
theorem dJ0_coder_7d493_0 : decode cJ0_coder_7d493 0 = .ok (.getstatic 38, 3) := by decide +kernel
theorem dJ0_coder_7d493_3 : decode cJ0_coder_7d493 3 = .ok (.ifCond .eq 10, 3) := by decide +kernel
theorem dJ0_coder_7d493_6 : decode cJ0_coder_7d493 6 = .ok (.aload_n 0, 1) := by decide +kernel
theorem dJ0_coder_7d493_7 : decode cJ0_coder_7d493 7 = .ok (.getfield 15, 3) := by decide +kernel
theorem dJ0_coder_7d493_10 : decode cJ0_coder_7d493 10 = .ok (.goto 4, 3) := by decide +kernel
theorem dJ0_coder_7d493_13 : decode cJ0_coder_7d493 13 = .ok (.iconst 1, 1) := by decide +kernel
theorem dJ0_coder_7d493_14 : decode cJ0_coder_7d493 14 = .ok (.ireturn, 1) := by decide +kernel
theorem dJ0_isLatin1_aae02_0 : decode cJ0_isLatin1_aae02 0 = .ok (.getstatic 38, 3) := by decide +kernel
theorem dJ0_isLatin1_aae02_3 : decode cJ0_isLatin1_aae02 3 = .ok (.ifCond .eq 14, 3) := by decide +kernel
theorem dJ0_isLatin1_aae02_6 : decode cJ0_isLatin1_aae02 6 = .ok (.aload_n 0, 1) := by decide +kernel
theorem dJ0_isLatin1_aae02_7 : decode cJ0_isLatin1_aae02 7 = .ok (.getfield 15, 3) := by decide +kernel
theorem dJ0_isLatin1_aae02_10 : decode cJ0_isLatin1_aae02 10 = .ok (.ifCond .ne 7, 3) := by decide +kernel
theorem dJ0_isLatin1_aae02_13 : decode cJ0_isLatin1_aae02 13 = .ok (.iconst 1, 1) := by decide +kernel
theorem dJ0_isLatin1_aae02_14 : decode cJ0_isLatin1_aae02 14 = .ok (.goto 4, 3) := by decide +kernel
theorem dJ0_isLatin1_aae02_17 : decode cJ0_isLatin1_aae02 17 = .ok (.iconst 0, 1) := by decide +kernel
theorem dJ0_isLatin1_aae02_18 : decode cJ0_isLatin1_aae02 18 = .ok (.ireturn, 1) := by decide +kernel
theorem dJ0_checkIndex_df160_0 : decode cJ0_checkIndex_df160 0 = .ok (.iload_n 0, 1) := by decide +kernel
theorem dJ0_checkIndex_df160_1 : decode cJ0_checkIndex_df160 1 = .ok (.iload_n 1, 1) := by decide +kernel
theorem dJ0_checkIndex_df160_2 : decode cJ0_checkIndex_df160 2 = .ok (.getstatic 1053, 3) := by decide +kernel
theorem dJ0_checkIndex_df160_5 : decode cJ0_checkIndex_df160 5 = .ok (.invokestatic 1059, 3) := by decide +kernel
theorem dJ0_checkIndex_df160_8 : decode cJ0_checkIndex_df160 8 = .ok (.pop, 1) := by decide +kernel
theorem dJ0_checkIndex_df160_9 : decode cJ0_checkIndex_df160 9 = .ok (.return_, 1) := by decide +kernel
theorem dJ1_charAt_3b067_0 : decode cJ1_charAt_3b067 0 = .ok (.iload_n 1, 1) := by decide +kernel
theorem dJ1_charAt_3b067_1 : decode cJ1_charAt_3b067 1 = .ok (.aload_n 0, 1) := by decide +kernel
theorem dJ1_charAt_3b067_2 : decode cJ1_charAt_3b067 2 = .ok (.arraylength, 1) := by decide +kernel
theorem dJ1_charAt_3b067_3 : decode cJ1_charAt_3b067 3 = .ok (.invokestatic 9, 3) := by decide +kernel
theorem dJ1_charAt_3b067_6 : decode cJ1_charAt_3b067 6 = .ok (.aload_n 0, 1) := by decide +kernel
theorem dJ1_charAt_3b067_7 : decode cJ1_charAt_3b067 7 = .ok (.iload_n 1, 1) := by decide +kernel
theorem dJ1_charAt_3b067_8 : decode cJ1_charAt_3b067 8 = .ok (.baload, 1) := by decide +kernel
theorem dJ1_charAt_3b067_9 : decode cJ1_charAt_3b067 9 = .ok (.sipush 255, 3) := by decide +kernel
theorem dJ1_charAt_3b067_12 : decode cJ1_charAt_3b067 12 = .ok (.iand, 1) := by decide +kernel
theorem dJ1_charAt_3b067_13 : decode cJ1_charAt_3b067 13 = .ok (.i2c, 1) := by decide +kernel
theorem dJ1_charAt_3b067_14 : decode cJ1_charAt_3b067 14 = .ok (.ireturn, 1) := by decide +kernel
theorem dJ2_getChar_3b067_0 : decode cJ2_getChar_3b067 0 = .ok (.getstatic 44, 3) := by decide +kernel
theorem dJ2_getChar_3b067_3 : decode cJ2_getChar_3b067 3 = .ok (.ifCond .ne 25, 3) := by decide +kernel
theorem dJ2_getChar_3b067_6 : decode cJ2_getChar_3b067 6 = .ok (.iload_n 1, 1) := by decide +kernel
theorem dJ2_getChar_3b067_7 : decode cJ2_getChar_3b067 7 = .ok (.ifCond .lt 11, 3) := by decide +kernel
theorem dJ2_getChar_3b067_10 : decode cJ2_getChar_3b067 10 = .ok (.iload_n 1, 1) := by decide +kernel
theorem dJ2_getChar_3b067_11 : decode cJ2_getChar_3b067 11 = .ok (.aload_n 0, 1) := by decide +kernel
theorem dJ2_getChar_3b067_12 : decode cJ2_getChar_3b067 12 = .ok (.invokestatic 48, 3) := by decide +kernel
theorem dJ2_getChar_3b067_15 : decode cJ2_getChar_3b067 15 = .ok (.if_icmp .lt 13, 3) := by decide +kernel
theorem dJ2_getChar_3b067_18 : decode cJ2_getChar_3b067 18 = .ok (.new 52, 3) := by decide +kernel
theorem dJ2_getChar_3b067_21 : decode cJ2_getChar_3b067 21 = .ok (.dup, 1) := by decide +kernel
theorem dJ2_getChar_3b067_22 : decode cJ2_getChar_3b067 22 = .ok (.ldc 54, 2) := by decide +kernel
theorem dJ2_getChar_3b067_24 : decode cJ2_getChar_3b067 24 = .ok (.invokespecial 56, 3) := by decide +kernel
theorem dJ2_getChar_3b067_27 : decode cJ2_getChar_3b067 27 = .ok (.athrow, 1) := by decide +kernel
theorem dJ2_getChar_3b067_28 : decode cJ2_getChar_3b067 28 = .ok (.iload_n 1, 1) := by decide +kernel
theorem dJ2_getChar_3b067_29 : decode cJ2_getChar_3b067 29 = .ok (.iconst 1, 1) := by decide +kernel
theorem dJ2_getChar_3b067_30 : decode cJ2_getChar_3b067 30 = .ok (.ishl, 1) := by decide +kernel
theorem dJ2_getChar_3b067_31 : decode cJ2_getChar_3b067 31 = .ok (.istore_n 1, 1) := by decide +kernel
theorem dJ2_getChar_3b067_32 : decode cJ2_getChar_3b067 32 = .ok (.aload_n 0, 1) := by decide +kernel
theorem dJ2_getChar_3b067_33 : decode cJ2_getChar_3b067 33 = .ok (.iload_n 1, 1) := by decide +kernel
theorem dJ2_getChar_3b067_34 : decode cJ2_getChar_3b067 34 = .ok (.iinc 1 1, 3) := by decide +kernel
theorem dJ2_getChar_3b067_37 : decode cJ2_getChar_3b067 37 = .ok (.baload, 1) := by decide +kernel
theorem dJ2_getChar_3b067_38 : decode cJ2_getChar_3b067 38 = .ok (.sipush 255, 3) := by decide +kernel
theorem dJ2_getChar_3b067_41 : decode cJ2_getChar_3b067 41 = .ok (.iand, 1) := by decide +kernel
theorem dJ2_getChar_3b067_42 : decode cJ2_getChar_3b067 42 = .ok (.getstatic 59, 3) := by decide +kernel
theorem dJ2_getChar_3b067_45 : decode cJ2_getChar_3b067 45 = .ok (.ishl, 1) := by decide +kernel
theorem dJ2_getChar_3b067_46 : decode cJ2_getChar_3b067 46 = .ok (.aload_n 0, 1) := by decide +kernel
theorem dJ2_getChar_3b067_47 : decode cJ2_getChar_3b067 47 = .ok (.iload_n 1, 1) := by decide +kernel
theorem dJ2_getChar_3b067_48 : decode cJ2_getChar_3b067 48 = .ok (.baload, 1) := by decide +kernel
theorem dJ2_getChar_3b067_49 : decode cJ2_getChar_3b067 49 = .ok (.sipush 255, 3) := by decide +kernel
theorem dJ2_getChar_3b067_52 : decode cJ2_getChar_3b067 52 = .ok (.iand, 1) := by decide +kernel
theorem dJ2_getChar_3b067_53 : decode cJ2_getChar_3b067 53 = .ok (.getstatic 63, 3) := by decide +kernel
theorem dJ2_getChar_3b067_56 : decode cJ2_getChar_3b067 56 = .ok (.ishl, 1) := by decide +kernel
theorem dJ2_getChar_3b067_57 : decode cJ2_getChar_3b067 57 = .ok (.ior, 1) := by decide +kernel
theorem dJ2_getChar_3b067_58 : decode cJ2_getChar_3b067 58 = .ok (.i2c, 1) := by decide +kernel
theorem dJ2_getChar_3b067_59 : decode cJ2_getChar_3b067 59 = .ok (.ireturn, 1) := by decide +kernel
theorem dJ2_length_9d52b_0 : decode cJ2_length_9d52b 0 = .ok (.aload_n 0, 1) := by decide +kernel
theorem dJ2_length_9d52b_1 : decode cJ2_length_9d52b 1 = .ok (.arraylength, 1) := by decide +kernel
theorem dJ2_length_9d52b_2 : decode cJ2_length_9d52b 2 = .ok (.iconst 1, 1) := by decide +kernel
theorem dJ2_length_9d52b_3 : decode cJ2_length_9d52b 3 = .ok (.ishr, 1) := by decide +kernel
theorem dJ2_length_9d52b_4 : decode cJ2_length_9d52b 4 = .ok (.ireturn, 1) := by decide +kernel
theorem dJ2_charAt_3b067_0 : decode cJ2_charAt_3b067 0 = .ok (.iload_n 1, 1) := by decide +kernel
theorem dJ2_charAt_3b067_1 : decode cJ2_charAt_3b067 1 = .ok (.aload_n 0, 1) := by decide +kernel
theorem dJ2_charAt_3b067_2 : decode cJ2_charAt_3b067 2 = .ok (.invokestatic 67, 3) := by decide +kernel
theorem dJ2_charAt_3b067_5 : decode cJ2_charAt_3b067 5 = .ok (.aload_n 0, 1) := by decide +kernel
theorem dJ2_charAt_3b067_6 : decode cJ2_charAt_3b067 6 = .ok (.iload_n 1, 1) := by decide +kernel
theorem dJ2_charAt_3b067_7 : decode cJ2_charAt_3b067 7 = .ok (.invokestatic 71, 3) := by decide +kernel
theorem dJ2_charAt_3b067_10 : decode cJ2_charAt_3b067 10 = .ok (.ireturn, 1) := by decide +kernel
theorem dJ2_checkIndex_2214a_0 : decode cJ2_checkIndex_2214a 0 = .ok (.iload_n 0, 1) := by decide +kernel
theorem dJ2_checkIndex_2214a_1 : decode cJ2_checkIndex_2214a 1 = .ok (.aload_n 1, 1) := by decide +kernel
theorem dJ2_checkIndex_2214a_2 : decode cJ2_checkIndex_2214a 2 = .ok (.invokestatic 48, 3) := by decide +kernel
theorem dJ2_checkIndex_2214a_5 : decode cJ2_checkIndex_2214a 5 = .ok (.invokestatic 414, 3) := by decide +kernel
theorem dJ2_checkIndex_2214a_8 : decode cJ2_checkIndex_2214a 8 = .ok (.return_, 1) := by decide +kernel
theorem dJ3_checkIndex_8e157_0 : decode cJ3_checkIndex_8e157 0 = .ok (.iload_n 0, 1) := by decide +kernel
theorem dJ3_checkIndex_8e157_1 : decode cJ3_checkIndex_8e157 1 = .ok (.ifCond .lt 8, 3) := by decide +kernel
theorem dJ3_checkIndex_8e157_4 : decode cJ3_checkIndex_8e157 4 = .ok (.iload_n 0, 1) := by decide +kernel
theorem dJ3_checkIndex_8e157_5 : decode cJ3_checkIndex_8e157 5 = .ok (.iload_n 1, 1) := by decide +kernel
theorem dJ3_checkIndex_8e157_6 : decode cJ3_checkIndex_8e157 6 = .ok (.if_icmp .lt 10, 3) := by decide +kernel
theorem dJ3_checkIndex_8e157_9 : decode cJ3_checkIndex_8e157 9 = .ok (.aload_n 2, 1) := by decide +kernel
theorem dJ3_checkIndex_8e157_10 : decode cJ3_checkIndex_8e157 10 = .ok (.iload_n 0, 1) := by decide +kernel
theorem dJ3_checkIndex_8e157_11 : decode cJ3_checkIndex_8e157 11 = .ok (.iload_n 1, 1) := by decide +kernel
theorem dJ3_checkIndex_8e157_12 : decode cJ3_checkIndex_8e157 12 = .ok (.invokestatic 95, 3) := by decide +kernel
theorem dJ3_checkIndex_8e157_15 : decode cJ3_checkIndex_8e157 15 = .ok (.athrow, 1) := by decide +kernel
theorem dJ3_checkIndex_8e157_16 : decode cJ3_checkIndex_8e157 16 = .ok (.iload_n 0, 1) := by decide +kernel
theorem dJ3_checkIndex_8e157_17 : decode cJ3_checkIndex_8e157 17 = .ok (.ireturn, 1) := by decide +kernel
theorem dL_law_0 : decode cL_law 0 = .ok (.new 7, 3) := by decide +kernel
theorem dL_law_3 : decode cL_law 3 = .ok (.dup, 1) := by decide +kernel
theorem dL_law_4 : decode cL_law 4 = .ok (.invokespecial 9, 3) := by decide +kernel
theorem dL_law_7 : decode cL_law 7 = .ok (.astore_n 1, 1) := by decide +kernel
theorem dL_law_8 : decode cL_law 8 = .ok (.new 10, 3) := by decide +kernel
theorem dL_law_11 : decode cL_law 11 = .ok (.dup, 1) := by decide +kernel
theorem dL_law_12 : decode cL_law 12 = .ok (.invokespecial 12, 3) := by decide +kernel
theorem dL_law_15 : decode cL_law 15 = .ok (.astore_n 2, 1) := by decide +kernel
theorem dL_law_16 : decode cL_law 16 = .ok (.iconst 0, 1) := by decide +kernel
theorem dL_law_17 : decode cL_law 17 = .ok (.istore_n 3, 1) := by decide +kernel
theorem dL_law_18 : decode cL_law 18 = .ok (.iload_n 3, 1) := by decide +kernel
theorem dL_law_19 : decode cL_law 19 = .ok (.aload_n 0, 1) := by decide +kernel
theorem dL_law_20 : decode cL_law 20 = .ok (.arraylength, 1) := by decide +kernel
theorem dL_law_21 : decode cL_law 21 = .ok (.iconst 5, 1) := by decide +kernel
theorem dL_law_22 : decode cL_law 22 = .ok (.isub, 1) := by decide +kernel
theorem dL_law_23 : decode cL_law 23 = .ok (.if_icmp .gt 1567, 3) := by decide +kernel
theorem dL_law_26 : decode cL_law 26 = .ok (.aload_n 0, 1) := by decide +kernel
theorem dL_law_27 : decode cL_law 27 = .ok (.iload_n 3, 1) := by decide +kernel
theorem dL_law_28 : decode cL_law 28 = .ok (.iaload, 1) := by decide +kernel
theorem dL_law_29 : decode cL_law 29 = .ok (.bipush 63, 2) := by decide +kernel
theorem dL_law_31 : decode cL_law 31 = .ok (.iand, 1) := by decide +kernel
theorem dL_law_32 : decode cL_law 32 = .ok (.tableswitch 1552 0 39 #[176, 239, 252, 265, 278, 311, 344, 377, 410, 433, 456, 489, 522, 555, 588, 621, 654, 687, 730, 763, 816, 849, 882, 915, 958, 991, 1024, 1067, 1100, 1133, 1182, 1215, 1268, 1301, 1324, 1367, 1410, 1463, 1506, 1529], 176) := by decide +kernel
theorem dL_law_208 : decode cL_law 208 = .ok (.aload_n 1, 1) := by decide +kernel
theorem dL_law_209 : decode cL_law 209 = .ok (.aload_n 0, 1) := by decide +kernel
theorem dL_law_210 : decode cL_law 210 = .ok (.iload_n 3, 1) := by decide +kernel
theorem dL_law_211 : decode cL_law 211 = .ok (.iconst 1, 1) := by decide +kernel
theorem dL_law_212 : decode cL_law 212 = .ok (.iadd, 1) := by decide +kernel
theorem dL_law_213 : decode cL_law 213 = .ok (.iaload, 1) := by decide +kernel
theorem dL_law_214 : decode cL_law 214 = .ok (.aload_n 0, 1) := by decide +kernel
theorem dL_law_215 : decode cL_law 215 = .ok (.iload_n 3, 1) := by decide +kernel
theorem dL_law_216 : decode cL_law 216 = .ok (.iconst 2, 1) := by decide +kernel
theorem dL_law_217 : decode cL_law 217 = .ok (.iadd, 1) := by decide +kernel
theorem dL_law_218 : decode cL_law 218 = .ok (.iaload, 1) := by decide +kernel
theorem dL_law_219 : decode cL_law 219 = .ok (.i2l, 1) := by decide +kernel
theorem dL_law_220 : decode cL_law 220 = .ok (.bipush 32, 2) := by decide +kernel
theorem dL_law_222 : decode cL_law 222 = .ok (.lshl, 1) := by decide +kernel
theorem dL_law_223 : decode cL_law 223 = .ok (.aload_n 0, 1) := by decide +kernel
theorem dL_law_224 : decode cL_law 224 = .ok (.iload_n 3, 1) := by decide +kernel
theorem dL_law_225 : decode cL_law 225 = .ok (.iconst 3, 1) := by decide +kernel
theorem dL_law_226 : decode cL_law 226 = .ok (.iadd, 1) := by decide +kernel
theorem dL_law_227 : decode cL_law 227 = .ok (.iaload, 1) := by decide +kernel
theorem dL_law_228 : decode cL_law 228 = .ok (.i2l, 1) := by decide +kernel
theorem dL_law_229 : decode cL_law 229 = .ok (.ldc2_w 13, 3) := by decide +kernel
theorem dL_law_232 : decode cL_law 232 = .ok (.land, 1) := by decide +kernel
theorem dL_law_233 : decode cL_law 233 = .ok (.lor, 1) := by decide +kernel
theorem dL_law_234 : decode cL_law 234 = .ok (.invokevirtual 15, 3) := by decide +kernel
theorem dL_law_237 : decode cL_law 237 = .ok (.aload_n 2, 1) := by decide +kernel
theorem dL_law_238 : decode cL_law 238 = .ok (.aload_n 0, 1) := by decide +kernel
theorem dL_law_239 : decode cL_law 239 = .ok (.iload_n 3, 1) := by decide +kernel
theorem dL_law_240 : decode cL_law 240 = .ok (.iconst 1, 1) := by decide +kernel
theorem dL_law_241 : decode cL_law 241 = .ok (.iadd, 1) := by decide +kernel
theorem dL_law_242 : decode cL_law 242 = .ok (.iaload, 1) := by decide +kernel
theorem dL_law_243 : decode cL_law 243 = .ok (.aload_n 0, 1) := by decide +kernel
theorem dL_law_244 : decode cL_law 244 = .ok (.iload_n 3, 1) := by decide +kernel
theorem dL_law_245 : decode cL_law 245 = .ok (.iconst 2, 1) := by decide +kernel
theorem dL_law_246 : decode cL_law 246 = .ok (.iadd, 1) := by decide +kernel
theorem dL_law_247 : decode cL_law 247 = .ok (.iaload, 1) := by decide +kernel
theorem dL_law_248 : decode cL_law 248 = .ok (.i2l, 1) := by decide +kernel
theorem dL_law_249 : decode cL_law 249 = .ok (.bipush 32, 2) := by decide +kernel
theorem dL_law_251 : decode cL_law 251 = .ok (.lshl, 1) := by decide +kernel
theorem dL_law_252 : decode cL_law 252 = .ok (.aload_n 0, 1) := by decide +kernel
theorem dL_law_253 : decode cL_law 253 = .ok (.iload_n 3, 1) := by decide +kernel
theorem dL_law_254 : decode cL_law 254 = .ok (.iconst 3, 1) := by decide +kernel
theorem dL_law_255 : decode cL_law 255 = .ok (.iadd, 1) := by decide +kernel
theorem dL_law_256 : decode cL_law 256 = .ok (.iaload, 1) := by decide +kernel
theorem dL_law_257 : decode cL_law 257 = .ok (.i2l, 1) := by decide +kernel
theorem dL_law_258 : decode cL_law 258 = .ok (.ldc2_w 13, 3) := by decide +kernel
theorem dL_law_261 : decode cL_law 261 = .ok (.land, 1) := by decide +kernel
theorem dL_law_262 : decode cL_law 262 = .ok (.lor, 1) := by decide +kernel
theorem dL_law_263 : decode cL_law 263 = .ok (.invokevirtual 19, 3) := by decide +kernel
theorem dL_law_266 : decode cL_law 266 = .ok (.if_icmp .eq 1318, 3) := by decide +kernel
theorem dL_law_269 : decode cL_law 269 = .ok (.iconst 0, 1) := by decide +kernel
theorem dL_law_270 : decode cL_law 270 = .ok (.ireturn, 1) := by decide +kernel
theorem dL_law_271 : decode cL_law 271 = .ok (.aload_n 1, 1) := by decide +kernel
theorem dL_law_272 : decode cL_law 272 = .ok (.invokevirtual 20, 3) := by decide +kernel
theorem dL_law_275 : decode cL_law 275 = .ok (.aload_n 2, 1) := by decide +kernel
theorem dL_law_276 : decode cL_law 276 = .ok (.invokevirtual 24, 3) := by decide +kernel
theorem dL_law_279 : decode cL_law 279 = .ok (.if_icmp .eq 1305, 3) := by decide +kernel
theorem dL_law_282 : decode cL_law 282 = .ok (.iconst 0, 1) := by decide +kernel
theorem dL_law_283 : decode cL_law 283 = .ok (.ireturn, 1) := by decide +kernel
theorem dL_law_284 : decode cL_law 284 = .ok (.aload_n 1, 1) := by decide +kernel
theorem dL_law_285 : decode cL_law 285 = .ok (.invokevirtual 25, 3) := by decide +kernel
theorem dL_law_288 : decode cL_law 288 = .ok (.aload_n 2, 1) := by decide +kernel
theorem dL_law_289 : decode cL_law 289 = .ok (.invokevirtual 28, 3) := by decide +kernel
theorem dL_law_292 : decode cL_law 292 = .ok (.if_icmp .eq 1292, 3) := by decide +kernel
theorem dL_law_295 : decode cL_law 295 = .ok (.iconst 0, 1) := by decide +kernel
theorem dL_law_296 : decode cL_law 296 = .ok (.ireturn, 1) := by decide +kernel
theorem dL_law_297 : decode cL_law 297 = .ok (.aload_n 1, 1) := by decide +kernel
theorem dL_law_298 : decode cL_law 298 = .ok (.invokevirtual 29, 3) := by decide +kernel
theorem dL_law_301 : decode cL_law 301 = .ok (.aload_n 2, 1) := by decide +kernel
theorem dL_law_302 : decode cL_law 302 = .ok (.invokevirtual 32, 3) := by decide +kernel
theorem dL_law_305 : decode cL_law 305 = .ok (.if_icmp .eq 1279, 3) := by decide +kernel
theorem dL_law_308 : decode cL_law 308 = .ok (.iconst 0, 1) := by decide +kernel
theorem dL_law_309 : decode cL_law 309 = .ok (.ireturn, 1) := by decide +kernel
theorem dL_law_310 : decode cL_law 310 = .ok (.aload_n 1, 1) := by decide +kernel
theorem dL_law_311 : decode cL_law 311 = .ok (.aload_n 0, 1) := by decide +kernel
theorem dL_law_312 : decode cL_law 312 = .ok (.iload_n 3, 1) := by decide +kernel
theorem dL_law_313 : decode cL_law 313 = .ok (.iconst 1, 1) := by decide +kernel
theorem dL_law_314 : decode cL_law 314 = .ok (.iadd, 1) := by decide +kernel
theorem dL_law_315 : decode cL_law 315 = .ok (.iaload, 1) := by decide +kernel
theorem dL_law_316 : decode cL_law 316 = .ok (.aload_n 0, 1) := by decide +kernel
theorem dL_law_317 : decode cL_law 317 = .ok (.iload_n 3, 1) := by decide +kernel
theorem dL_law_318 : decode cL_law 318 = .ok (.iconst 2, 1) := by decide +kernel
theorem dL_law_319 : decode cL_law 319 = .ok (.iadd, 1) := by decide +kernel
theorem dL_law_320 : decode cL_law 320 = .ok (.iaload, 1) := by decide +kernel
theorem dL_law_321 : decode cL_law 321 = .ok (.invokevirtual 33, 3) := by decide +kernel
theorem dL_law_324 : decode cL_law 324 = .ok (.aload_n 2, 1) := by decide +kernel
theorem dL_law_325 : decode cL_law 325 = .ok (.aload_n 0, 1) := by decide +kernel
theorem dL_law_326 : decode cL_law 326 = .ok (.iload_n 3, 1) := by decide +kernel
theorem dL_law_327 : decode cL_law 327 = .ok (.iconst 1, 1) := by decide +kernel
theorem dL_law_328 : decode cL_law 328 = .ok (.iadd, 1) := by decide +kernel
theorem dL_law_329 : decode cL_law 329 = .ok (.iaload, 1) := by decide +kernel
theorem dL_law_330 : decode cL_law 330 = .ok (.aload_n 0, 1) := by decide +kernel
theorem dL_law_331 : decode cL_law 331 = .ok (.iload_n 3, 1) := by decide +kernel
theorem dL_law_332 : decode cL_law 332 = .ok (.iconst 2, 1) := by decide +kernel
theorem dL_law_333 : decode cL_law 333 = .ok (.iadd, 1) := by decide +kernel
theorem dL_law_334 : decode cL_law 334 = .ok (.iaload, 1) := by decide +kernel
theorem dL_law_335 : decode cL_law 335 = .ok (.invokevirtual 37, 3) := by decide +kernel
theorem dL_law_338 : decode cL_law 338 = .ok (.if_icmp .eq 1246, 3) := by decide +kernel
theorem dL_law_341 : decode cL_law 341 = .ok (.iconst 0, 1) := by decide +kernel
theorem dL_law_342 : decode cL_law 342 = .ok (.ireturn, 1) := by decide +kernel
theorem dL_law_343 : decode cL_law 343 = .ok (.aload_n 1, 1) := by decide +kernel
theorem dL_law_344 : decode cL_law 344 = .ok (.aload_n 0, 1) := by decide +kernel
theorem dL_law_345 : decode cL_law 345 = .ok (.iload_n 3, 1) := by decide +kernel
theorem dL_law_346 : decode cL_law 346 = .ok (.iconst 1, 1) := by decide +kernel
theorem dL_law_347 : decode cL_law 347 = .ok (.iadd, 1) := by decide +kernel
theorem dL_law_348 : decode cL_law 348 = .ok (.iaload, 1) := by decide +kernel
theorem dL_law_349 : decode cL_law 349 = .ok (.aload_n 0, 1) := by decide +kernel
theorem dL_law_350 : decode cL_law 350 = .ok (.iload_n 3, 1) := by decide +kernel
theorem dL_law_351 : decode cL_law 351 = .ok (.iconst 2, 1) := by decide +kernel
theorem dL_law_352 : decode cL_law 352 = .ok (.iadd, 1) := by decide +kernel
theorem dL_law_353 : decode cL_law 353 = .ok (.iaload, 1) := by decide +kernel
theorem dL_law_354 : decode cL_law 354 = .ok (.invokevirtual 38, 3) := by decide +kernel
theorem dL_law_357 : decode cL_law 357 = .ok (.aload_n 2, 1) := by decide +kernel
theorem dL_law_358 : decode cL_law 358 = .ok (.aload_n 0, 1) := by decide +kernel
theorem dL_law_359 : decode cL_law 359 = .ok (.iload_n 3, 1) := by decide +kernel
theorem dL_law_360 : decode cL_law 360 = .ok (.iconst 1, 1) := by decide +kernel
theorem dL_law_361 : decode cL_law 361 = .ok (.iadd, 1) := by decide +kernel
theorem dL_law_362 : decode cL_law 362 = .ok (.iaload, 1) := by decide +kernel
theorem dL_law_363 : decode cL_law 363 = .ok (.aload_n 0, 1) := by decide +kernel
theorem dL_law_364 : decode cL_law 364 = .ok (.iload_n 3, 1) := by decide +kernel
theorem dL_law_365 : decode cL_law 365 = .ok (.iconst 2, 1) := by decide +kernel
theorem dL_law_366 : decode cL_law 366 = .ok (.iadd, 1) := by decide +kernel
theorem dL_law_367 : decode cL_law 367 = .ok (.iaload, 1) := by decide +kernel
theorem dL_law_368 : decode cL_law 368 = .ok (.invokevirtual 41, 3) := by decide +kernel
theorem dL_law_371 : decode cL_law 371 = .ok (.if_icmp .eq 1213, 3) := by decide +kernel
theorem dL_law_374 : decode cL_law 374 = .ok (.iconst 0, 1) := by decide +kernel
theorem dL_law_375 : decode cL_law 375 = .ok (.ireturn, 1) := by decide +kernel
theorem dL_law_376 : decode cL_law 376 = .ok (.aload_n 1, 1) := by decide +kernel
theorem dL_law_377 : decode cL_law 377 = .ok (.aload_n 0, 1) := by decide +kernel
theorem dL_law_378 : decode cL_law 378 = .ok (.iload_n 3, 1) := by decide +kernel
theorem dL_law_379 : decode cL_law 379 = .ok (.iconst 1, 1) := by decide +kernel
theorem dL_law_380 : decode cL_law 380 = .ok (.iadd, 1) := by decide +kernel
theorem dL_law_381 : decode cL_law 381 = .ok (.iaload, 1) := by decide +kernel
theorem dL_law_382 : decode cL_law 382 = .ok (.aload_n 0, 1) := by decide +kernel
theorem dL_law_383 : decode cL_law 383 = .ok (.iload_n 3, 1) := by decide +kernel
theorem dL_law_384 : decode cL_law 384 = .ok (.iconst 2, 1) := by decide +kernel
theorem dL_law_385 : decode cL_law 385 = .ok (.iadd, 1) := by decide +kernel
theorem dL_law_386 : decode cL_law 386 = .ok (.iaload, 1) := by decide +kernel
theorem dL_law_387 : decode cL_law 387 = .ok (.invokevirtual 42, 3) := by decide +kernel
theorem dL_law_390 : decode cL_law 390 = .ok (.aload_n 2, 1) := by decide +kernel
theorem dL_law_391 : decode cL_law 391 = .ok (.aload_n 0, 1) := by decide +kernel
theorem dL_law_392 : decode cL_law 392 = .ok (.iload_n 3, 1) := by decide +kernel
theorem dL_law_393 : decode cL_law 393 = .ok (.iconst 1, 1) := by decide +kernel
theorem dL_law_394 : decode cL_law 394 = .ok (.iadd, 1) := by decide +kernel
theorem dL_law_395 : decode cL_law 395 = .ok (.iaload, 1) := by decide +kernel
theorem dL_law_396 : decode cL_law 396 = .ok (.aload_n 0, 1) := by decide +kernel
theorem dL_law_397 : decode cL_law 397 = .ok (.iload_n 3, 1) := by decide +kernel
theorem dL_law_398 : decode cL_law 398 = .ok (.iconst 2, 1) := by decide +kernel
theorem dL_law_399 : decode cL_law 399 = .ok (.iadd, 1) := by decide +kernel
theorem dL_law_400 : decode cL_law 400 = .ok (.iaload, 1) := by decide +kernel
theorem dL_law_401 : decode cL_law 401 = .ok (.invokevirtual 45, 3) := by decide +kernel
theorem dL_law_404 : decode cL_law 404 = .ok (.if_icmp .eq 1180, 3) := by decide +kernel
theorem dL_law_407 : decode cL_law 407 = .ok (.iconst 0, 1) := by decide +kernel
theorem dL_law_408 : decode cL_law 408 = .ok (.ireturn, 1) := by decide +kernel
theorem dL_law_409 : decode cL_law 409 = .ok (.aload_n 1, 1) := by decide +kernel
theorem dL_law_410 : decode cL_law 410 = .ok (.aload_n 0, 1) := by decide +kernel
theorem dL_law_411 : decode cL_law 411 = .ok (.iload_n 3, 1) := by decide +kernel
theorem dL_law_412 : decode cL_law 412 = .ok (.iconst 1, 1) := by decide +kernel
theorem dL_law_413 : decode cL_law 413 = .ok (.iadd, 1) := by decide +kernel
theorem dL_law_414 : decode cL_law 414 = .ok (.iaload, 1) := by decide +kernel
theorem dL_law_415 : decode cL_law 415 = .ok (.aload_n 0, 1) := by decide +kernel
theorem dL_law_416 : decode cL_law 416 = .ok (.iload_n 3, 1) := by decide +kernel
theorem dL_law_417 : decode cL_law 417 = .ok (.iconst 2, 1) := by decide +kernel
theorem dL_law_418 : decode cL_law 418 = .ok (.iadd, 1) := by decide +kernel
theorem dL_law_419 : decode cL_law 419 = .ok (.iaload, 1) := by decide +kernel
theorem dL_law_420 : decode cL_law 420 = .ok (.invokevirtual 46, 3) := by decide +kernel
theorem dL_law_423 : decode cL_law 423 = .ok (.aload_n 2, 1) := by decide +kernel
theorem dL_law_424 : decode cL_law 424 = .ok (.aload_n 0, 1) := by decide +kernel
theorem dL_law_425 : decode cL_law 425 = .ok (.iload_n 3, 1) := by decide +kernel
theorem dL_law_426 : decode cL_law 426 = .ok (.iconst 1, 1) := by decide +kernel
theorem dL_law_427 : decode cL_law 427 = .ok (.iadd, 1) := by decide +kernel
theorem dL_law_428 : decode cL_law 428 = .ok (.iaload, 1) := by decide +kernel
theorem dL_law_429 : decode cL_law 429 = .ok (.aload_n 0, 1) := by decide +kernel
theorem dL_law_430 : decode cL_law 430 = .ok (.iload_n 3, 1) := by decide +kernel
theorem dL_law_431 : decode cL_law 431 = .ok (.iconst 2, 1) := by decide +kernel
theorem dL_law_432 : decode cL_law 432 = .ok (.iadd, 1) := by decide +kernel
theorem dL_law_433 : decode cL_law 433 = .ok (.iaload, 1) := by decide +kernel
theorem dL_law_434 : decode cL_law 434 = .ok (.invokevirtual 49, 3) := by decide +kernel
theorem dL_law_437 : decode cL_law 437 = .ok (.if_icmp .eq 1147, 3) := by decide +kernel
theorem dL_law_440 : decode cL_law 440 = .ok (.iconst 0, 1) := by decide +kernel
theorem dL_law_441 : decode cL_law 441 = .ok (.ireturn, 1) := by decide +kernel
theorem dL_law_442 : decode cL_law 442 = .ok (.aload_n 1, 1) := by decide +kernel
theorem dL_law_443 : decode cL_law 443 = .ok (.aload_n 0, 1) := by decide +kernel
theorem dL_law_444 : decode cL_law 444 = .ok (.iload_n 3, 1) := by decide +kernel
theorem dL_law_445 : decode cL_law 445 = .ok (.iconst 1, 1) := by decide +kernel
theorem dL_law_446 : decode cL_law 446 = .ok (.iadd, 1) := by decide +kernel
theorem dL_law_447 : decode cL_law 447 = .ok (.iaload, 1) := by decide +kernel
theorem dL_law_448 : decode cL_law 448 = .ok (.invokevirtual 50, 3) := by decide +kernel
theorem dL_law_451 : decode cL_law 451 = .ok (.aload_n 2, 1) := by decide +kernel
theorem dL_law_452 : decode cL_law 452 = .ok (.aload_n 0, 1) := by decide +kernel
theorem dL_law_453 : decode cL_law 453 = .ok (.iload_n 3, 1) := by decide +kernel
theorem dL_law_454 : decode cL_law 454 = .ok (.iconst 1, 1) := by decide +kernel
theorem dL_law_455 : decode cL_law 455 = .ok (.iadd, 1) := by decide +kernel
theorem dL_law_456 : decode cL_law 456 = .ok (.iaload, 1) := by decide +kernel
theorem dL_law_457 : decode cL_law 457 = .ok (.invokevirtual 54, 3) := by decide +kernel
theorem dL_law_460 : decode cL_law 460 = .ok (.if_icmp .eq 1124, 3) := by decide +kernel
theorem dL_law_463 : decode cL_law 463 = .ok (.iconst 0, 1) := by decide +kernel
theorem dL_law_464 : decode cL_law 464 = .ok (.ireturn, 1) := by decide +kernel
theorem dL_law_465 : decode cL_law 465 = .ok (.aload_n 1, 1) := by decide +kernel
theorem dL_law_466 : decode cL_law 466 = .ok (.aload_n 0, 1) := by decide +kernel
theorem dL_law_467 : decode cL_law 467 = .ok (.iload_n 3, 1) := by decide +kernel
theorem dL_law_468 : decode cL_law 468 = .ok (.iconst 1, 1) := by decide +kernel
theorem dL_law_469 : decode cL_law 469 = .ok (.iadd, 1) := by decide +kernel
theorem dL_law_470 : decode cL_law 470 = .ok (.iaload, 1) := by decide +kernel
theorem dL_law_471 : decode cL_law 471 = .ok (.invokevirtual 55, 3) := by decide +kernel
theorem dL_law_474 : decode cL_law 474 = .ok (.aload_n 2, 1) := by decide +kernel
theorem dL_law_475 : decode cL_law 475 = .ok (.aload_n 0, 1) := by decide +kernel
theorem dL_law_476 : decode cL_law 476 = .ok (.iload_n 3, 1) := by decide +kernel
theorem dL_law_477 : decode cL_law 477 = .ok (.iconst 1, 1) := by decide +kernel
theorem dL_law_478 : decode cL_law 478 = .ok (.iadd, 1) := by decide +kernel
theorem dL_law_479 : decode cL_law 479 = .ok (.iaload, 1) := by decide +kernel
theorem dL_law_480 : decode cL_law 480 = .ok (.invokevirtual 58, 3) := by decide +kernel
theorem dL_law_483 : decode cL_law 483 = .ok (.if_icmp .eq 1101, 3) := by decide +kernel
theorem dL_law_486 : decode cL_law 486 = .ok (.iconst 0, 1) := by decide +kernel
theorem dL_law_487 : decode cL_law 487 = .ok (.ireturn, 1) := by decide +kernel
theorem dL_law_488 : decode cL_law 488 = .ok (.aload_n 1, 1) := by decide +kernel
theorem dL_law_489 : decode cL_law 489 = .ok (.aload_n 0, 1) := by decide +kernel
theorem dL_law_490 : decode cL_law 490 = .ok (.iload_n 3, 1) := by decide +kernel
theorem dL_law_491 : decode cL_law 491 = .ok (.iconst 1, 1) := by decide +kernel
theorem dL_law_492 : decode cL_law 492 = .ok (.iadd, 1) := by decide +kernel
theorem dL_law_493 : decode cL_law 493 = .ok (.iaload, 1) := by decide +kernel
theorem dL_law_494 : decode cL_law 494 = .ok (.aload_n 0, 1) := by decide +kernel
theorem dL_law_495 : decode cL_law 495 = .ok (.iload_n 3, 1) := by decide +kernel
theorem dL_law_496 : decode cL_law 496 = .ok (.iconst 2, 1) := by decide +kernel
theorem dL_law_497 : decode cL_law 497 = .ok (.iadd, 1) := by decide +kernel
theorem dL_law_498 : decode cL_law 498 = .ok (.iaload, 1) := by decide +kernel
theorem dL_law_499 : decode cL_law 499 = .ok (.invokevirtual 59, 3) := by decide +kernel
theorem dL_law_502 : decode cL_law 502 = .ok (.aload_n 2, 1) := by decide +kernel
theorem dL_law_503 : decode cL_law 503 = .ok (.aload_n 0, 1) := by decide +kernel
theorem dL_law_504 : decode cL_law 504 = .ok (.iload_n 3, 1) := by decide +kernel
theorem dL_law_505 : decode cL_law 505 = .ok (.iconst 1, 1) := by decide +kernel
theorem dL_law_506 : decode cL_law 506 = .ok (.iadd, 1) := by decide +kernel
theorem dL_law_507 : decode cL_law 507 = .ok (.iaload, 1) := by decide +kernel
theorem dL_law_508 : decode cL_law 508 = .ok (.aload_n 0, 1) := by decide +kernel
theorem dL_law_509 : decode cL_law 509 = .ok (.iload_n 3, 1) := by decide +kernel
theorem dL_law_510 : decode cL_law 510 = .ok (.iconst 2, 1) := by decide +kernel
theorem dL_law_511 : decode cL_law 511 = .ok (.iadd, 1) := by decide +kernel
theorem dL_law_512 : decode cL_law 512 = .ok (.iaload, 1) := by decide +kernel
theorem dL_law_513 : decode cL_law 513 = .ok (.invokevirtual 62, 3) := by decide +kernel
theorem dL_law_516 : decode cL_law 516 = .ok (.if_icmp .eq 1068, 3) := by decide +kernel
theorem dL_law_519 : decode cL_law 519 = .ok (.iconst 0, 1) := by decide +kernel
theorem dL_law_520 : decode cL_law 520 = .ok (.ireturn, 1) := by decide +kernel
theorem dL_law_521 : decode cL_law 521 = .ok (.aload_n 1, 1) := by decide +kernel
theorem dL_law_522 : decode cL_law 522 = .ok (.aload_n 0, 1) := by decide +kernel
theorem dL_law_523 : decode cL_law 523 = .ok (.iload_n 3, 1) := by decide +kernel
theorem dL_law_524 : decode cL_law 524 = .ok (.iconst 1, 1) := by decide +kernel
theorem dL_law_525 : decode cL_law 525 = .ok (.iadd, 1) := by decide +kernel
theorem dL_law_526 : decode cL_law 526 = .ok (.iaload, 1) := by decide +kernel
theorem dL_law_527 : decode cL_law 527 = .ok (.aload_n 0, 1) := by decide +kernel
theorem dL_law_528 : decode cL_law 528 = .ok (.iload_n 3, 1) := by decide +kernel
theorem dL_law_529 : decode cL_law 529 = .ok (.iconst 2, 1) := by decide +kernel
theorem dL_law_530 : decode cL_law 530 = .ok (.iadd, 1) := by decide +kernel
theorem dL_law_531 : decode cL_law 531 = .ok (.iaload, 1) := by decide +kernel
theorem dL_law_532 : decode cL_law 532 = .ok (.invokevirtual 63, 3) := by decide +kernel
theorem dL_law_535 : decode cL_law 535 = .ok (.aload_n 2, 1) := by decide +kernel
theorem dL_law_536 : decode cL_law 536 = .ok (.aload_n 0, 1) := by decide +kernel
theorem dL_law_537 : decode cL_law 537 = .ok (.iload_n 3, 1) := by decide +kernel
theorem dL_law_538 : decode cL_law 538 = .ok (.iconst 1, 1) := by decide +kernel
theorem dL_law_539 : decode cL_law 539 = .ok (.iadd, 1) := by decide +kernel
theorem dL_law_540 : decode cL_law 540 = .ok (.iaload, 1) := by decide +kernel
theorem dL_law_541 : decode cL_law 541 = .ok (.aload_n 0, 1) := by decide +kernel
theorem dL_law_542 : decode cL_law 542 = .ok (.iload_n 3, 1) := by decide +kernel
theorem dL_law_543 : decode cL_law 543 = .ok (.iconst 2, 1) := by decide +kernel
theorem dL_law_544 : decode cL_law 544 = .ok (.iadd, 1) := by decide +kernel
theorem dL_law_545 : decode cL_law 545 = .ok (.iaload, 1) := by decide +kernel
theorem dL_law_546 : decode cL_law 546 = .ok (.invokevirtual 66, 3) := by decide +kernel
theorem dL_law_549 : decode cL_law 549 = .ok (.if_icmp .eq 1035, 3) := by decide +kernel
theorem dL_law_552 : decode cL_law 552 = .ok (.iconst 0, 1) := by decide +kernel
theorem dL_law_553 : decode cL_law 553 = .ok (.ireturn, 1) := by decide +kernel
theorem dL_law_554 : decode cL_law 554 = .ok (.aload_n 1, 1) := by decide +kernel
theorem dL_law_555 : decode cL_law 555 = .ok (.aload_n 0, 1) := by decide +kernel
theorem dL_law_556 : decode cL_law 556 = .ok (.iload_n 3, 1) := by decide +kernel
theorem dL_law_557 : decode cL_law 557 = .ok (.iconst 1, 1) := by decide +kernel
theorem dL_law_558 : decode cL_law 558 = .ok (.iadd, 1) := by decide +kernel
theorem dL_law_559 : decode cL_law 559 = .ok (.iaload, 1) := by decide +kernel
theorem dL_law_560 : decode cL_law 560 = .ok (.aload_n 0, 1) := by decide +kernel
theorem dL_law_561 : decode cL_law 561 = .ok (.iload_n 3, 1) := by decide +kernel
theorem dL_law_562 : decode cL_law 562 = .ok (.iconst 2, 1) := by decide +kernel
theorem dL_law_563 : decode cL_law 563 = .ok (.iadd, 1) := by decide +kernel
theorem dL_law_564 : decode cL_law 564 = .ok (.iaload, 1) := by decide +kernel
theorem dL_law_565 : decode cL_law 565 = .ok (.invokevirtual 67, 3) := by decide +kernel
theorem dL_law_568 : decode cL_law 568 = .ok (.aload_n 2, 1) := by decide +kernel
theorem dL_law_569 : decode cL_law 569 = .ok (.aload_n 0, 1) := by decide +kernel
theorem dL_law_570 : decode cL_law 570 = .ok (.iload_n 3, 1) := by decide +kernel
theorem dL_law_571 : decode cL_law 571 = .ok (.iconst 1, 1) := by decide +kernel
theorem dL_law_572 : decode cL_law 572 = .ok (.iadd, 1) := by decide +kernel
theorem dL_law_573 : decode cL_law 573 = .ok (.iaload, 1) := by decide +kernel
theorem dL_law_574 : decode cL_law 574 = .ok (.aload_n 0, 1) := by decide +kernel
theorem dL_law_575 : decode cL_law 575 = .ok (.iload_n 3, 1) := by decide +kernel
theorem dL_law_576 : decode cL_law 576 = .ok (.iconst 2, 1) := by decide +kernel
theorem dL_law_577 : decode cL_law 577 = .ok (.iadd, 1) := by decide +kernel
theorem dL_law_578 : decode cL_law 578 = .ok (.iaload, 1) := by decide +kernel
theorem dL_law_579 : decode cL_law 579 = .ok (.invokevirtual 70, 3) := by decide +kernel
theorem dL_law_582 : decode cL_law 582 = .ok (.if_icmp .eq 1002, 3) := by decide +kernel
theorem dL_law_585 : decode cL_law 585 = .ok (.iconst 0, 1) := by decide +kernel
theorem dL_law_586 : decode cL_law 586 = .ok (.ireturn, 1) := by decide +kernel
theorem dL_law_587 : decode cL_law 587 = .ok (.aload_n 1, 1) := by decide +kernel
theorem dL_law_588 : decode cL_law 588 = .ok (.aload_n 0, 1) := by decide +kernel
theorem dL_law_589 : decode cL_law 589 = .ok (.iload_n 3, 1) := by decide +kernel
theorem dL_law_590 : decode cL_law 590 = .ok (.iconst 1, 1) := by decide +kernel
theorem dL_law_591 : decode cL_law 591 = .ok (.iadd, 1) := by decide +kernel
theorem dL_law_592 : decode cL_law 592 = .ok (.iaload, 1) := by decide +kernel
theorem dL_law_593 : decode cL_law 593 = .ok (.aload_n 0, 1) := by decide +kernel
theorem dL_law_594 : decode cL_law 594 = .ok (.iload_n 3, 1) := by decide +kernel
theorem dL_law_595 : decode cL_law 595 = .ok (.iconst 2, 1) := by decide +kernel
theorem dL_law_596 : decode cL_law 596 = .ok (.iadd, 1) := by decide +kernel
theorem dL_law_597 : decode cL_law 597 = .ok (.iaload, 1) := by decide +kernel
theorem dL_law_598 : decode cL_law 598 = .ok (.invokevirtual 71, 3) := by decide +kernel
theorem dL_law_601 : decode cL_law 601 = .ok (.aload_n 2, 1) := by decide +kernel
theorem dL_law_602 : decode cL_law 602 = .ok (.aload_n 0, 1) := by decide +kernel
theorem dL_law_603 : decode cL_law 603 = .ok (.iload_n 3, 1) := by decide +kernel
theorem dL_law_604 : decode cL_law 604 = .ok (.iconst 1, 1) := by decide +kernel
theorem dL_law_605 : decode cL_law 605 = .ok (.iadd, 1) := by decide +kernel
theorem dL_law_606 : decode cL_law 606 = .ok (.iaload, 1) := by decide +kernel
theorem dL_law_607 : decode cL_law 607 = .ok (.aload_n 0, 1) := by decide +kernel
theorem dL_law_608 : decode cL_law 608 = .ok (.iload_n 3, 1) := by decide +kernel
theorem dL_law_609 : decode cL_law 609 = .ok (.iconst 2, 1) := by decide +kernel
theorem dL_law_610 : decode cL_law 610 = .ok (.iadd, 1) := by decide +kernel
theorem dL_law_611 : decode cL_law 611 = .ok (.iaload, 1) := by decide +kernel
theorem dL_law_612 : decode cL_law 612 = .ok (.invokevirtual 74, 3) := by decide +kernel
theorem dL_law_615 : decode cL_law 615 = .ok (.if_icmp .eq 969, 3) := by decide +kernel
theorem dL_law_618 : decode cL_law 618 = .ok (.iconst 0, 1) := by decide +kernel
theorem dL_law_619 : decode cL_law 619 = .ok (.ireturn, 1) := by decide +kernel
theorem dL_law_620 : decode cL_law 620 = .ok (.aload_n 1, 1) := by decide +kernel
theorem dL_law_621 : decode cL_law 621 = .ok (.aload_n 0, 1) := by decide +kernel
theorem dL_law_622 : decode cL_law 622 = .ok (.iload_n 3, 1) := by decide +kernel
theorem dL_law_623 : decode cL_law 623 = .ok (.iconst 1, 1) := by decide +kernel
theorem dL_law_624 : decode cL_law 624 = .ok (.iadd, 1) := by decide +kernel
theorem dL_law_625 : decode cL_law 625 = .ok (.iaload, 1) := by decide +kernel
theorem dL_law_626 : decode cL_law 626 = .ok (.aload_n 0, 1) := by decide +kernel
theorem dL_law_627 : decode cL_law 627 = .ok (.iload_n 3, 1) := by decide +kernel
theorem dL_law_628 : decode cL_law 628 = .ok (.iconst 2, 1) := by decide +kernel
theorem dL_law_629 : decode cL_law 629 = .ok (.iadd, 1) := by decide +kernel
theorem dL_law_630 : decode cL_law 630 = .ok (.iaload, 1) := by decide +kernel
theorem dL_law_631 : decode cL_law 631 = .ok (.invokevirtual 75, 3) := by decide +kernel
theorem dL_law_634 : decode cL_law 634 = .ok (.aload_n 2, 1) := by decide +kernel
theorem dL_law_635 : decode cL_law 635 = .ok (.aload_n 0, 1) := by decide +kernel
theorem dL_law_636 : decode cL_law 636 = .ok (.iload_n 3, 1) := by decide +kernel
theorem dL_law_637 : decode cL_law 637 = .ok (.iconst 1, 1) := by decide +kernel
theorem dL_law_638 : decode cL_law 638 = .ok (.iadd, 1) := by decide +kernel
theorem dL_law_639 : decode cL_law 639 = .ok (.iaload, 1) := by decide +kernel
theorem dL_law_640 : decode cL_law 640 = .ok (.aload_n 0, 1) := by decide +kernel
theorem dL_law_641 : decode cL_law 641 = .ok (.iload_n 3, 1) := by decide +kernel
theorem dL_law_642 : decode cL_law 642 = .ok (.iconst 2, 1) := by decide +kernel
theorem dL_law_643 : decode cL_law 643 = .ok (.iadd, 1) := by decide +kernel
theorem dL_law_644 : decode cL_law 644 = .ok (.iaload, 1) := by decide +kernel
theorem dL_law_645 : decode cL_law 645 = .ok (.invokevirtual 78, 3) := by decide +kernel
theorem dL_law_648 : decode cL_law 648 = .ok (.if_icmp .eq 936, 3) := by decide +kernel
theorem dL_law_651 : decode cL_law 651 = .ok (.iconst 0, 1) := by decide +kernel
theorem dL_law_652 : decode cL_law 652 = .ok (.ireturn, 1) := by decide +kernel
theorem dL_law_653 : decode cL_law 653 = .ok (.aload_n 1, 1) := by decide +kernel
theorem dL_law_654 : decode cL_law 654 = .ok (.aload_n 0, 1) := by decide +kernel
theorem dL_law_655 : decode cL_law 655 = .ok (.iload_n 3, 1) := by decide +kernel
theorem dL_law_656 : decode cL_law 656 = .ok (.iconst 1, 1) := by decide +kernel
theorem dL_law_657 : decode cL_law 657 = .ok (.iadd, 1) := by decide +kernel
theorem dL_law_658 : decode cL_law 658 = .ok (.iaload, 1) := by decide +kernel
theorem dL_law_659 : decode cL_law 659 = .ok (.aload_n 0, 1) := by decide +kernel
theorem dL_law_660 : decode cL_law 660 = .ok (.iload_n 3, 1) := by decide +kernel
theorem dL_law_661 : decode cL_law 661 = .ok (.iconst 2, 1) := by decide +kernel
theorem dL_law_662 : decode cL_law 662 = .ok (.iadd, 1) := by decide +kernel
theorem dL_law_663 : decode cL_law 663 = .ok (.iaload, 1) := by decide +kernel
theorem dL_law_664 : decode cL_law 664 = .ok (.invokevirtual 79, 3) := by decide +kernel
theorem dL_law_667 : decode cL_law 667 = .ok (.aload_n 2, 1) := by decide +kernel
theorem dL_law_668 : decode cL_law 668 = .ok (.aload_n 0, 1) := by decide +kernel
theorem dL_law_669 : decode cL_law 669 = .ok (.iload_n 3, 1) := by decide +kernel
theorem dL_law_670 : decode cL_law 670 = .ok (.iconst 1, 1) := by decide +kernel
theorem dL_law_671 : decode cL_law 671 = .ok (.iadd, 1) := by decide +kernel
theorem dL_law_672 : decode cL_law 672 = .ok (.iaload, 1) := by decide +kernel
theorem dL_law_673 : decode cL_law 673 = .ok (.aload_n 0, 1) := by decide +kernel
theorem dL_law_674 : decode cL_law 674 = .ok (.iload_n 3, 1) := by decide +kernel
theorem dL_law_675 : decode cL_law 675 = .ok (.iconst 2, 1) := by decide +kernel
theorem dL_law_676 : decode cL_law 676 = .ok (.iadd, 1) := by decide +kernel
theorem dL_law_677 : decode cL_law 677 = .ok (.iaload, 1) := by decide +kernel
theorem dL_law_678 : decode cL_law 678 = .ok (.invokevirtual 82, 3) := by decide +kernel
theorem dL_law_681 : decode cL_law 681 = .ok (.if_icmp .eq 903, 3) := by decide +kernel
theorem dL_law_684 : decode cL_law 684 = .ok (.iconst 0, 1) := by decide +kernel
theorem dL_law_685 : decode cL_law 685 = .ok (.ireturn, 1) := by decide +kernel
theorem dL_law_686 : decode cL_law 686 = .ok (.aload_n 1, 1) := by decide +kernel
theorem dL_law_687 : decode cL_law 687 = .ok (.aload_n 0, 1) := by decide +kernel
theorem dL_law_688 : decode cL_law 688 = .ok (.iload_n 3, 1) := by decide +kernel
theorem dL_law_689 : decode cL_law 689 = .ok (.iconst 1, 1) := by decide +kernel
theorem dL_law_690 : decode cL_law 690 = .ok (.iadd, 1) := by decide +kernel
theorem dL_law_691 : decode cL_law 691 = .ok (.iaload, 1) := by decide +kernel
theorem dL_law_692 : decode cL_law 692 = .ok (.aload_n 0, 1) := by decide +kernel
theorem dL_law_693 : decode cL_law 693 = .ok (.iload_n 3, 1) := by decide +kernel
theorem dL_law_694 : decode cL_law 694 = .ok (.iconst 2, 1) := by decide +kernel
theorem dL_law_695 : decode cL_law 695 = .ok (.iadd, 1) := by decide +kernel
theorem dL_law_696 : decode cL_law 696 = .ok (.iaload, 1) := by decide +kernel
theorem dL_law_697 : decode cL_law 697 = .ok (.invokevirtual 83, 3) := by decide +kernel
theorem dL_law_700 : decode cL_law 700 = .ok (.aload_n 2, 1) := by decide +kernel
theorem dL_law_701 : decode cL_law 701 = .ok (.aload_n 0, 1) := by decide +kernel
theorem dL_law_702 : decode cL_law 702 = .ok (.iload_n 3, 1) := by decide +kernel
theorem dL_law_703 : decode cL_law 703 = .ok (.iconst 1, 1) := by decide +kernel
theorem dL_law_704 : decode cL_law 704 = .ok (.iadd, 1) := by decide +kernel
theorem dL_law_705 : decode cL_law 705 = .ok (.iaload, 1) := by decide +kernel
theorem dL_law_706 : decode cL_law 706 = .ok (.aload_n 0, 1) := by decide +kernel
theorem dL_law_707 : decode cL_law 707 = .ok (.iload_n 3, 1) := by decide +kernel
theorem dL_law_708 : decode cL_law 708 = .ok (.iconst 2, 1) := by decide +kernel
theorem dL_law_709 : decode cL_law 709 = .ok (.iadd, 1) := by decide +kernel
theorem dL_law_710 : decode cL_law 710 = .ok (.iaload, 1) := by decide +kernel
theorem dL_law_711 : decode cL_law 711 = .ok (.invokevirtual 86, 3) := by decide +kernel
theorem dL_law_714 : decode cL_law 714 = .ok (.if_icmp .eq 870, 3) := by decide +kernel
theorem dL_law_717 : decode cL_law 717 = .ok (.iconst 0, 1) := by decide +kernel
theorem dL_law_718 : decode cL_law 718 = .ok (.ireturn, 1) := by decide +kernel
theorem dL_law_719 : decode cL_law 719 = .ok (.aload_n 1, 1) := by decide +kernel
theorem dL_law_720 : decode cL_law 720 = .ok (.aload_n 0, 1) := by decide +kernel
theorem dL_law_721 : decode cL_law 721 = .ok (.iload_n 3, 1) := by decide +kernel
theorem dL_law_722 : decode cL_law 722 = .ok (.iconst 1, 1) := by decide +kernel
theorem dL_law_723 : decode cL_law 723 = .ok (.iadd, 1) := by decide +kernel
theorem dL_law_724 : decode cL_law 724 = .ok (.iaload, 1) := by decide +kernel
theorem dL_law_725 : decode cL_law 725 = .ok (.aload_n 0, 1) := by decide +kernel
theorem dL_law_726 : decode cL_law 726 = .ok (.iload_n 3, 1) := by decide +kernel
theorem dL_law_727 : decode cL_law 727 = .ok (.iconst 2, 1) := by decide +kernel
theorem dL_law_728 : decode cL_law 728 = .ok (.iadd, 1) := by decide +kernel
theorem dL_law_729 : decode cL_law 729 = .ok (.iaload, 1) := by decide +kernel
theorem dL_law_730 : decode cL_law 730 = .ok (.aload_n 0, 1) := by decide +kernel
theorem dL_law_731 : decode cL_law 731 = .ok (.iload_n 3, 1) := by decide +kernel
theorem dL_law_732 : decode cL_law 732 = .ok (.iconst 3, 1) := by decide +kernel
theorem dL_law_733 : decode cL_law 733 = .ok (.iadd, 1) := by decide +kernel
theorem dL_law_734 : decode cL_law 734 = .ok (.iaload, 1) := by decide +kernel
theorem dL_law_735 : decode cL_law 735 = .ok (.invokevirtual 87, 3) := by decide +kernel
theorem dL_law_738 : decode cL_law 738 = .ok (.aload_n 2, 1) := by decide +kernel
theorem dL_law_739 : decode cL_law 739 = .ok (.aload_n 0, 1) := by decide +kernel
theorem dL_law_740 : decode cL_law 740 = .ok (.iload_n 3, 1) := by decide +kernel
theorem dL_law_741 : decode cL_law 741 = .ok (.iconst 1, 1) := by decide +kernel
theorem dL_law_742 : decode cL_law 742 = .ok (.iadd, 1) := by decide +kernel
theorem dL_law_743 : decode cL_law 743 = .ok (.iaload, 1) := by decide +kernel
theorem dL_law_744 : decode cL_law 744 = .ok (.aload_n 0, 1) := by decide +kernel
theorem dL_law_745 : decode cL_law 745 = .ok (.iload_n 3, 1) := by decide +kernel
theorem dL_law_746 : decode cL_law 746 = .ok (.iconst 2, 1) := by decide +kernel
theorem dL_law_747 : decode cL_law 747 = .ok (.iadd, 1) := by decide +kernel
theorem dL_law_748 : decode cL_law 748 = .ok (.iaload, 1) := by decide +kernel
theorem dL_law_749 : decode cL_law 749 = .ok (.aload_n 0, 1) := by decide +kernel
theorem dL_law_750 : decode cL_law 750 = .ok (.iload_n 3, 1) := by decide +kernel
theorem dL_law_751 : decode cL_law 751 = .ok (.iconst 3, 1) := by decide +kernel
theorem dL_law_752 : decode cL_law 752 = .ok (.iadd, 1) := by decide +kernel
theorem dL_law_753 : decode cL_law 753 = .ok (.iaload, 1) := by decide +kernel
theorem dL_law_754 : decode cL_law 754 = .ok (.invokevirtual 91, 3) := by decide +kernel
theorem dL_law_757 : decode cL_law 757 = .ok (.if_icmp .eq 827, 3) := by decide +kernel
theorem dL_law_760 : decode cL_law 760 = .ok (.iconst 0, 1) := by decide +kernel
theorem dL_law_761 : decode cL_law 761 = .ok (.ireturn, 1) := by decide +kernel
theorem dL_law_762 : decode cL_law 762 = .ok (.aload_n 1, 1) := by decide +kernel
theorem dL_law_763 : decode cL_law 763 = .ok (.aload_n 0, 1) := by decide +kernel
theorem dL_law_764 : decode cL_law 764 = .ok (.iload_n 3, 1) := by decide +kernel
theorem dL_law_765 : decode cL_law 765 = .ok (.iconst 1, 1) := by decide +kernel
theorem dL_law_766 : decode cL_law 766 = .ok (.iadd, 1) := by decide +kernel
theorem dL_law_767 : decode cL_law 767 = .ok (.iaload, 1) := by decide +kernel
theorem dL_law_768 : decode cL_law 768 = .ok (.aload_n 0, 1) := by decide +kernel
theorem dL_law_769 : decode cL_law 769 = .ok (.iload_n 3, 1) := by decide +kernel
theorem dL_law_770 : decode cL_law 770 = .ok (.iconst 2, 1) := by decide +kernel
theorem dL_law_771 : decode cL_law 771 = .ok (.iadd, 1) := by decide +kernel
theorem dL_law_772 : decode cL_law 772 = .ok (.iaload, 1) := by decide +kernel
theorem dL_law_773 : decode cL_law 773 = .ok (.invokevirtual 92, 3) := by decide +kernel
theorem dL_law_776 : decode cL_law 776 = .ok (.aload_n 2, 1) := by decide +kernel
theorem dL_law_777 : decode cL_law 777 = .ok (.aload_n 0, 1) := by decide +kernel
theorem dL_law_778 : decode cL_law 778 = .ok (.iload_n 3, 1) := by decide +kernel
theorem dL_law_779 : decode cL_law 779 = .ok (.iconst 1, 1) := by decide +kernel
theorem dL_law_780 : decode cL_law 780 = .ok (.iadd, 1) := by decide +kernel
theorem dL_law_781 : decode cL_law 781 = .ok (.iaload, 1) := by decide +kernel
theorem dL_law_782 : decode cL_law 782 = .ok (.aload_n 0, 1) := by decide +kernel
theorem dL_law_783 : decode cL_law 783 = .ok (.iload_n 3, 1) := by decide +kernel
theorem dL_law_784 : decode cL_law 784 = .ok (.iconst 2, 1) := by decide +kernel
theorem dL_law_785 : decode cL_law 785 = .ok (.iadd, 1) := by decide +kernel
theorem dL_law_786 : decode cL_law 786 = .ok (.iaload, 1) := by decide +kernel
theorem dL_law_787 : decode cL_law 787 = .ok (.invokevirtual 95, 3) := by decide +kernel
theorem dL_law_790 : decode cL_law 790 = .ok (.if_icmp .eq 794, 3) := by decide +kernel
theorem dL_law_793 : decode cL_law 793 = .ok (.iconst 0, 1) := by decide +kernel
theorem dL_law_794 : decode cL_law 794 = .ok (.ireturn, 1) := by decide +kernel
theorem dL_law_795 : decode cL_law 795 = .ok (.aload_n 1, 1) := by decide +kernel
theorem dL_law_796 : decode cL_law 796 = .ok (.aload_n 0, 1) := by decide +kernel
theorem dL_law_797 : decode cL_law 797 = .ok (.iload_n 3, 1) := by decide +kernel
theorem dL_law_798 : decode cL_law 798 = .ok (.iconst 1, 1) := by decide +kernel
theorem dL_law_799 : decode cL_law 799 = .ok (.iadd, 1) := by decide +kernel
theorem dL_law_800 : decode cL_law 800 = .ok (.iaload, 1) := by decide +kernel
theorem dL_law_801 : decode cL_law 801 = .ok (.aload_n 0, 1) := by decide +kernel
theorem dL_law_802 : decode cL_law 802 = .ok (.iload_n 3, 1) := by decide +kernel
theorem dL_law_803 : decode cL_law 803 = .ok (.iconst 2, 1) := by decide +kernel
theorem dL_law_804 : decode cL_law 804 = .ok (.iadd, 1) := by decide +kernel
theorem dL_law_805 : decode cL_law 805 = .ok (.iaload, 1) := by decide +kernel
theorem dL_law_806 : decode cL_law 806 = .ok (.aload_n 0, 1) := by decide +kernel
theorem dL_law_807 : decode cL_law 807 = .ok (.iload_n 3, 1) := by decide +kernel
theorem dL_law_808 : decode cL_law 808 = .ok (.iconst 3, 1) := by decide +kernel
theorem dL_law_809 : decode cL_law 809 = .ok (.iadd, 1) := by decide +kernel
theorem dL_law_810 : decode cL_law 810 = .ok (.iaload, 1) := by decide +kernel
theorem dL_law_811 : decode cL_law 811 = .ok (.aload_n 0, 1) := by decide +kernel
theorem dL_law_812 : decode cL_law 812 = .ok (.iload_n 3, 1) := by decide +kernel
theorem dL_law_813 : decode cL_law 813 = .ok (.iconst 4, 1) := by decide +kernel
theorem dL_law_814 : decode cL_law 814 = .ok (.iadd, 1) := by decide +kernel
theorem dL_law_815 : decode cL_law 815 = .ok (.iaload, 1) := by decide +kernel
theorem dL_law_816 : decode cL_law 816 = .ok (.invokevirtual 96, 3) := by decide +kernel
theorem dL_law_819 : decode cL_law 819 = .ok (.aload_n 2, 1) := by decide +kernel
theorem dL_law_820 : decode cL_law 820 = .ok (.aload_n 0, 1) := by decide +kernel
theorem dL_law_821 : decode cL_law 821 = .ok (.iload_n 3, 1) := by decide +kernel
theorem dL_law_822 : decode cL_law 822 = .ok (.iconst 1, 1) := by decide +kernel
theorem dL_law_823 : decode cL_law 823 = .ok (.iadd, 1) := by decide +kernel
theorem dL_law_824 : decode cL_law 824 = .ok (.iaload, 1) := by decide +kernel
theorem dL_law_825 : decode cL_law 825 = .ok (.aload_n 0, 1) := by decide +kernel
theorem dL_law_826 : decode cL_law 826 = .ok (.iload_n 3, 1) := by decide +kernel
theorem dL_law_827 : decode cL_law 827 = .ok (.iconst 2, 1) := by decide +kernel
theorem dL_law_828 : decode cL_law 828 = .ok (.iadd, 1) := by decide +kernel
theorem dL_law_829 : decode cL_law 829 = .ok (.iaload, 1) := by decide +kernel
theorem dL_law_830 : decode cL_law 830 = .ok (.aload_n 0, 1) := by decide +kernel
theorem dL_law_831 : decode cL_law 831 = .ok (.iload_n 3, 1) := by decide +kernel
theorem dL_law_832 : decode cL_law 832 = .ok (.iconst 3, 1) := by decide +kernel
theorem dL_law_833 : decode cL_law 833 = .ok (.iadd, 1) := by decide +kernel
theorem dL_law_834 : decode cL_law 834 = .ok (.iaload, 1) := by decide +kernel
theorem dL_law_835 : decode cL_law 835 = .ok (.aload_n 0, 1) := by decide +kernel
theorem dL_law_836 : decode cL_law 836 = .ok (.iload_n 3, 1) := by decide +kernel
theorem dL_law_837 : decode cL_law 837 = .ok (.iconst 4, 1) := by decide +kernel
theorem dL_law_838 : decode cL_law 838 = .ok (.iadd, 1) := by decide +kernel
theorem dL_law_839 : decode cL_law 839 = .ok (.iaload, 1) := by decide +kernel
theorem dL_law_840 : decode cL_law 840 = .ok (.invokevirtual 100, 3) := by decide +kernel
theorem dL_law_843 : decode cL_law 843 = .ok (.if_icmp .eq 741, 3) := by decide +kernel
theorem dL_law_846 : decode cL_law 846 = .ok (.iconst 0, 1) := by decide +kernel
theorem dL_law_847 : decode cL_law 847 = .ok (.ireturn, 1) := by decide +kernel
theorem dL_law_848 : decode cL_law 848 = .ok (.aload_n 1, 1) := by decide +kernel
theorem dL_law_849 : decode cL_law 849 = .ok (.aload_n 0, 1) := by decide +kernel
theorem dL_law_850 : decode cL_law 850 = .ok (.iload_n 3, 1) := by decide +kernel
theorem dL_law_851 : decode cL_law 851 = .ok (.iconst 1, 1) := by decide +kernel
theorem dL_law_852 : decode cL_law 852 = .ok (.iadd, 1) := by decide +kernel
theorem dL_law_853 : decode cL_law 853 = .ok (.iaload, 1) := by decide +kernel
theorem dL_law_854 : decode cL_law 854 = .ok (.aload_n 0, 1) := by decide +kernel
theorem dL_law_855 : decode cL_law 855 = .ok (.iload_n 3, 1) := by decide +kernel
theorem dL_law_856 : decode cL_law 856 = .ok (.iconst 2, 1) := by decide +kernel
theorem dL_law_857 : decode cL_law 857 = .ok (.iadd, 1) := by decide +kernel
theorem dL_law_858 : decode cL_law 858 = .ok (.iaload, 1) := by decide +kernel
theorem dL_law_859 : decode cL_law 859 = .ok (.invokevirtual 101, 3) := by decide +kernel
theorem dL_law_862 : decode cL_law 862 = .ok (.aload_n 2, 1) := by decide +kernel
theorem dL_law_863 : decode cL_law 863 = .ok (.aload_n 0, 1) := by decide +kernel
theorem dL_law_864 : decode cL_law 864 = .ok (.iload_n 3, 1) := by decide +kernel
theorem dL_law_865 : decode cL_law 865 = .ok (.iconst 1, 1) := by decide +kernel
theorem dL_law_866 : decode cL_law 866 = .ok (.iadd, 1) := by decide +kernel
theorem dL_law_867 : decode cL_law 867 = .ok (.iaload, 1) := by decide +kernel
theorem dL_law_868 : decode cL_law 868 = .ok (.aload_n 0, 1) := by decide +kernel
theorem dL_law_869 : decode cL_law 869 = .ok (.iload_n 3, 1) := by decide +kernel
theorem dL_law_870 : decode cL_law 870 = .ok (.iconst 2, 1) := by decide +kernel
theorem dL_law_871 : decode cL_law 871 = .ok (.iadd, 1) := by decide +kernel
theorem dL_law_872 : decode cL_law 872 = .ok (.iaload, 1) := by decide +kernel
theorem dL_law_873 : decode cL_law 873 = .ok (.invokevirtual 104, 3) := by decide +kernel
theorem dL_law_876 : decode cL_law 876 = .ok (.if_icmp .eq 708, 3) := by decide +kernel
theorem dL_law_879 : decode cL_law 879 = .ok (.iconst 0, 1) := by decide +kernel
theorem dL_law_880 : decode cL_law 880 = .ok (.ireturn, 1) := by decide +kernel
theorem dL_law_881 : decode cL_law 881 = .ok (.aload_n 1, 1) := by decide +kernel
theorem dL_law_882 : decode cL_law 882 = .ok (.aload_n 0, 1) := by decide +kernel
theorem dL_law_883 : decode cL_law 883 = .ok (.iload_n 3, 1) := by decide +kernel
theorem dL_law_884 : decode cL_law 884 = .ok (.iconst 1, 1) := by decide +kernel
theorem dL_law_885 : decode cL_law 885 = .ok (.iadd, 1) := by decide +kernel
theorem dL_law_886 : decode cL_law 886 = .ok (.iaload, 1) := by decide +kernel
theorem dL_law_887 : decode cL_law 887 = .ok (.aload_n 0, 1) := by decide +kernel
theorem dL_law_888 : decode cL_law 888 = .ok (.iload_n 3, 1) := by decide +kernel
theorem dL_law_889 : decode cL_law 889 = .ok (.iconst 2, 1) := by decide +kernel
theorem dL_law_890 : decode cL_law 890 = .ok (.iadd, 1) := by decide +kernel
theorem dL_law_891 : decode cL_law 891 = .ok (.iaload, 1) := by decide +kernel
theorem dL_law_892 : decode cL_law 892 = .ok (.invokevirtual 105, 3) := by decide +kernel
theorem dL_law_895 : decode cL_law 895 = .ok (.aload_n 2, 1) := by decide +kernel
theorem dL_law_896 : decode cL_law 896 = .ok (.aload_n 0, 1) := by decide +kernel
theorem dL_law_897 : decode cL_law 897 = .ok (.iload_n 3, 1) := by decide +kernel
theorem dL_law_898 : decode cL_law 898 = .ok (.iconst 1, 1) := by decide +kernel
theorem dL_law_899 : decode cL_law 899 = .ok (.iadd, 1) := by decide +kernel
theorem dL_law_900 : decode cL_law 900 = .ok (.iaload, 1) := by decide +kernel
theorem dL_law_901 : decode cL_law 901 = .ok (.aload_n 0, 1) := by decide +kernel
theorem dL_law_902 : decode cL_law 902 = .ok (.iload_n 3, 1) := by decide +kernel
theorem dL_law_903 : decode cL_law 903 = .ok (.iconst 2, 1) := by decide +kernel
theorem dL_law_904 : decode cL_law 904 = .ok (.iadd, 1) := by decide +kernel
theorem dL_law_905 : decode cL_law 905 = .ok (.iaload, 1) := by decide +kernel
theorem dL_law_906 : decode cL_law 906 = .ok (.invokevirtual 108, 3) := by decide +kernel
theorem dL_law_909 : decode cL_law 909 = .ok (.if_icmp .eq 675, 3) := by decide +kernel
theorem dL_law_912 : decode cL_law 912 = .ok (.iconst 0, 1) := by decide +kernel
theorem dL_law_913 : decode cL_law 913 = .ok (.ireturn, 1) := by decide +kernel
theorem dL_law_914 : decode cL_law 914 = .ok (.aload_n 1, 1) := by decide +kernel
theorem dL_law_915 : decode cL_law 915 = .ok (.aload_n 0, 1) := by decide +kernel
theorem dL_law_916 : decode cL_law 916 = .ok (.iload_n 3, 1) := by decide +kernel
theorem dL_law_917 : decode cL_law 917 = .ok (.iconst 1, 1) := by decide +kernel
theorem dL_law_918 : decode cL_law 918 = .ok (.iadd, 1) := by decide +kernel
theorem dL_law_919 : decode cL_law 919 = .ok (.iaload, 1) := by decide +kernel
theorem dL_law_920 : decode cL_law 920 = .ok (.aload_n 0, 1) := by decide +kernel
theorem dL_law_921 : decode cL_law 921 = .ok (.iload_n 3, 1) := by decide +kernel
theorem dL_law_922 : decode cL_law 922 = .ok (.iconst 2, 1) := by decide +kernel
theorem dL_law_923 : decode cL_law 923 = .ok (.iadd, 1) := by decide +kernel
theorem dL_law_924 : decode cL_law 924 = .ok (.iaload, 1) := by decide +kernel
theorem dL_law_925 : decode cL_law 925 = .ok (.invokevirtual 109, 3) := by decide +kernel
theorem dL_law_928 : decode cL_law 928 = .ok (.aload_n 2, 1) := by decide +kernel
theorem dL_law_929 : decode cL_law 929 = .ok (.aload_n 0, 1) := by decide +kernel
theorem dL_law_930 : decode cL_law 930 = .ok (.iload_n 3, 1) := by decide +kernel
theorem dL_law_931 : decode cL_law 931 = .ok (.iconst 1, 1) := by decide +kernel
theorem dL_law_932 : decode cL_law 932 = .ok (.iadd, 1) := by decide +kernel
theorem dL_law_933 : decode cL_law 933 = .ok (.iaload, 1) := by decide +kernel
theorem dL_law_934 : decode cL_law 934 = .ok (.aload_n 0, 1) := by decide +kernel
theorem dL_law_935 : decode cL_law 935 = .ok (.iload_n 3, 1) := by decide +kernel
theorem dL_law_936 : decode cL_law 936 = .ok (.iconst 2, 1) := by decide +kernel
theorem dL_law_937 : decode cL_law 937 = .ok (.iadd, 1) := by decide +kernel
theorem dL_law_938 : decode cL_law 938 = .ok (.iaload, 1) := by decide +kernel
theorem dL_law_939 : decode cL_law 939 = .ok (.invokevirtual 112, 3) := by decide +kernel
theorem dL_law_942 : decode cL_law 942 = .ok (.if_icmp .eq 642, 3) := by decide +kernel
theorem dL_law_945 : decode cL_law 945 = .ok (.iconst 0, 1) := by decide +kernel
theorem dL_law_946 : decode cL_law 946 = .ok (.ireturn, 1) := by decide +kernel
theorem dL_law_947 : decode cL_law 947 = .ok (.aload_n 1, 1) := by decide +kernel
theorem dL_law_948 : decode cL_law 948 = .ok (.aload_n 0, 1) := by decide +kernel
theorem dL_law_949 : decode cL_law 949 = .ok (.iload_n 3, 1) := by decide +kernel
theorem dL_law_950 : decode cL_law 950 = .ok (.iconst 1, 1) := by decide +kernel
theorem dL_law_951 : decode cL_law 951 = .ok (.iadd, 1) := by decide +kernel
theorem dL_law_952 : decode cL_law 952 = .ok (.iaload, 1) := by decide +kernel
theorem dL_law_953 : decode cL_law 953 = .ok (.aload_n 0, 1) := by decide +kernel
theorem dL_law_954 : decode cL_law 954 = .ok (.iload_n 3, 1) := by decide +kernel
theorem dL_law_955 : decode cL_law 955 = .ok (.iconst 2, 1) := by decide +kernel
theorem dL_law_956 : decode cL_law 956 = .ok (.iadd, 1) := by decide +kernel
theorem dL_law_957 : decode cL_law 957 = .ok (.iaload, 1) := by decide +kernel
theorem dL_law_958 : decode cL_law 958 = .ok (.aload_n 0, 1) := by decide +kernel
theorem dL_law_959 : decode cL_law 959 = .ok (.iload_n 3, 1) := by decide +kernel
theorem dL_law_960 : decode cL_law 960 = .ok (.iconst 3, 1) := by decide +kernel
theorem dL_law_961 : decode cL_law 961 = .ok (.iadd, 1) := by decide +kernel
theorem dL_law_962 : decode cL_law 962 = .ok (.iaload, 1) := by decide +kernel
theorem dL_law_963 : decode cL_law 963 = .ok (.invokevirtual 113, 3) := by decide +kernel
theorem dL_law_966 : decode cL_law 966 = .ok (.aload_n 2, 1) := by decide +kernel
theorem dL_law_967 : decode cL_law 967 = .ok (.aload_n 0, 1) := by decide +kernel
theorem dL_law_968 : decode cL_law 968 = .ok (.iload_n 3, 1) := by decide +kernel
theorem dL_law_969 : decode cL_law 969 = .ok (.iconst 1, 1) := by decide +kernel
theorem dL_law_970 : decode cL_law 970 = .ok (.iadd, 1) := by decide +kernel
theorem dL_law_971 : decode cL_law 971 = .ok (.iaload, 1) := by decide +kernel
theorem dL_law_972 : decode cL_law 972 = .ok (.aload_n 0, 1) := by decide +kernel
theorem dL_law_973 : decode cL_law 973 = .ok (.iload_n 3, 1) := by decide +kernel
theorem dL_law_974 : decode cL_law 974 = .ok (.iconst 2, 1) := by decide +kernel
theorem dL_law_975 : decode cL_law 975 = .ok (.iadd, 1) := by decide +kernel
theorem dL_law_976 : decode cL_law 976 = .ok (.iaload, 1) := by decide +kernel
theorem dL_law_977 : decode cL_law 977 = .ok (.aload_n 0, 1) := by decide +kernel
theorem dL_law_978 : decode cL_law 978 = .ok (.iload_n 3, 1) := by decide +kernel
theorem dL_law_979 : decode cL_law 979 = .ok (.iconst 3, 1) := by decide +kernel
theorem dL_law_980 : decode cL_law 980 = .ok (.iadd, 1) := by decide +kernel
theorem dL_law_981 : decode cL_law 981 = .ok (.iaload, 1) := by decide +kernel
theorem dL_law_982 : decode cL_law 982 = .ok (.invokevirtual 116, 3) := by decide +kernel
theorem dL_law_985 : decode cL_law 985 = .ok (.if_icmp .eq 599, 3) := by decide +kernel
theorem dL_law_988 : decode cL_law 988 = .ok (.iconst 0, 1) := by decide +kernel
theorem dL_law_989 : decode cL_law 989 = .ok (.ireturn, 1) := by decide +kernel
theorem dL_law_990 : decode cL_law 990 = .ok (.aload_n 1, 1) := by decide +kernel
theorem dL_law_991 : decode cL_law 991 = .ok (.aload_n 0, 1) := by decide +kernel
theorem dL_law_992 : decode cL_law 992 = .ok (.iload_n 3, 1) := by decide +kernel
theorem dL_law_993 : decode cL_law 993 = .ok (.iconst 1, 1) := by decide +kernel
theorem dL_law_994 : decode cL_law 994 = .ok (.iadd, 1) := by decide +kernel
theorem dL_law_995 : decode cL_law 995 = .ok (.iaload, 1) := by decide +kernel
theorem dL_law_996 : decode cL_law 996 = .ok (.aload_n 0, 1) := by decide +kernel
theorem dL_law_997 : decode cL_law 997 = .ok (.iload_n 3, 1) := by decide +kernel
theorem dL_law_998 : decode cL_law 998 = .ok (.iconst 2, 1) := by decide +kernel
theorem dL_law_999 : decode cL_law 999 = .ok (.iadd, 1) := by decide +kernel
theorem dL_law_1000 : decode cL_law 1000 = .ok (.iaload, 1) := by decide +kernel
theorem dL_law_1001 : decode cL_law 1001 = .ok (.invokevirtual 117, 3) := by decide +kernel
theorem dL_law_1004 : decode cL_law 1004 = .ok (.aload_n 2, 1) := by decide +kernel
theorem dL_law_1005 : decode cL_law 1005 = .ok (.aload_n 0, 1) := by decide +kernel
theorem dL_law_1006 : decode cL_law 1006 = .ok (.iload_n 3, 1) := by decide +kernel
theorem dL_law_1007 : decode cL_law 1007 = .ok (.iconst 1, 1) := by decide +kernel
theorem dL_law_1008 : decode cL_law 1008 = .ok (.iadd, 1) := by decide +kernel
theorem dL_law_1009 : decode cL_law 1009 = .ok (.iaload, 1) := by decide +kernel
theorem dL_law_1010 : decode cL_law 1010 = .ok (.aload_n 0, 1) := by decide +kernel
theorem dL_law_1011 : decode cL_law 1011 = .ok (.iload_n 3, 1) := by decide +kernel
theorem dL_law_1012 : decode cL_law 1012 = .ok (.iconst 2, 1) := by decide +kernel
theorem dL_law_1013 : decode cL_law 1013 = .ok (.iadd, 1) := by decide +kernel
theorem dL_law_1014 : decode cL_law 1014 = .ok (.iaload, 1) := by decide +kernel
theorem dL_law_1015 : decode cL_law 1015 = .ok (.invokevirtual 120, 3) := by decide +kernel
theorem dL_law_1018 : decode cL_law 1018 = .ok (.if_icmp .eq 566, 3) := by decide +kernel
theorem dL_law_1021 : decode cL_law 1021 = .ok (.iconst 0, 1) := by decide +kernel
theorem dL_law_1022 : decode cL_law 1022 = .ok (.ireturn, 1) := by decide +kernel
theorem dL_law_1023 : decode cL_law 1023 = .ok (.aload_n 1, 1) := by decide +kernel
theorem dL_law_1024 : decode cL_law 1024 = .ok (.aload_n 0, 1) := by decide +kernel
theorem dL_law_1025 : decode cL_law 1025 = .ok (.iload_n 3, 1) := by decide +kernel
theorem dL_law_1026 : decode cL_law 1026 = .ok (.iconst 1, 1) := by decide +kernel
theorem dL_law_1027 : decode cL_law 1027 = .ok (.iadd, 1) := by decide +kernel
theorem dL_law_1028 : decode cL_law 1028 = .ok (.iaload, 1) := by decide +kernel
theorem dL_law_1029 : decode cL_law 1029 = .ok (.aload_n 0, 1) := by decide +kernel
theorem dL_law_1030 : decode cL_law 1030 = .ok (.iload_n 3, 1) := by decide +kernel
theorem dL_law_1031 : decode cL_law 1031 = .ok (.iconst 2, 1) := by decide +kernel
theorem dL_law_1032 : decode cL_law 1032 = .ok (.iadd, 1) := by decide +kernel
theorem dL_law_1033 : decode cL_law 1033 = .ok (.iaload, 1) := by decide +kernel
theorem dL_law_1034 : decode cL_law 1034 = .ok (.invokevirtual 121, 3) := by decide +kernel
theorem dL_law_1037 : decode cL_law 1037 = .ok (.aload_n 2, 1) := by decide +kernel
theorem dL_law_1038 : decode cL_law 1038 = .ok (.aload_n 0, 1) := by decide +kernel
theorem dL_law_1039 : decode cL_law 1039 = .ok (.iload_n 3, 1) := by decide +kernel
theorem dL_law_1040 : decode cL_law 1040 = .ok (.iconst 1, 1) := by decide +kernel
theorem dL_law_1041 : decode cL_law 1041 = .ok (.iadd, 1) := by decide +kernel
theorem dL_law_1042 : decode cL_law 1042 = .ok (.iaload, 1) := by decide +kernel
theorem dL_law_1043 : decode cL_law 1043 = .ok (.aload_n 0, 1) := by decide +kernel
theorem dL_law_1044 : decode cL_law 1044 = .ok (.iload_n 3, 1) := by decide +kernel
theorem dL_law_1045 : decode cL_law 1045 = .ok (.iconst 2, 1) := by decide +kernel
theorem dL_law_1046 : decode cL_law 1046 = .ok (.iadd, 1) := by decide +kernel
theorem dL_law_1047 : decode cL_law 1047 = .ok (.iaload, 1) := by decide +kernel
theorem dL_law_1048 : decode cL_law 1048 = .ok (.invokevirtual 124, 3) := by decide +kernel
theorem dL_law_1051 : decode cL_law 1051 = .ok (.if_icmp .eq 533, 3) := by decide +kernel
theorem dL_law_1054 : decode cL_law 1054 = .ok (.iconst 0, 1) := by decide +kernel
theorem dL_law_1055 : decode cL_law 1055 = .ok (.ireturn, 1) := by decide +kernel
theorem dL_law_1056 : decode cL_law 1056 = .ok (.aload_n 1, 1) := by decide +kernel
theorem dL_law_1057 : decode cL_law 1057 = .ok (.aload_n 0, 1) := by decide +kernel
theorem dL_law_1058 : decode cL_law 1058 = .ok (.iload_n 3, 1) := by decide +kernel
theorem dL_law_1059 : decode cL_law 1059 = .ok (.iconst 1, 1) := by decide +kernel
theorem dL_law_1060 : decode cL_law 1060 = .ok (.iadd, 1) := by decide +kernel
theorem dL_law_1061 : decode cL_law 1061 = .ok (.iaload, 1) := by decide +kernel
theorem dL_law_1062 : decode cL_law 1062 = .ok (.aload_n 0, 1) := by decide +kernel
theorem dL_law_1063 : decode cL_law 1063 = .ok (.iload_n 3, 1) := by decide +kernel
theorem dL_law_1064 : decode cL_law 1064 = .ok (.iconst 2, 1) := by decide +kernel
theorem dL_law_1065 : decode cL_law 1065 = .ok (.iadd, 1) := by decide +kernel
theorem dL_law_1066 : decode cL_law 1066 = .ok (.iaload, 1) := by decide +kernel
theorem dL_law_1067 : decode cL_law 1067 = .ok (.aload_n 0, 1) := by decide +kernel
theorem dL_law_1068 : decode cL_law 1068 = .ok (.iload_n 3, 1) := by decide +kernel
theorem dL_law_1069 : decode cL_law 1069 = .ok (.iconst 3, 1) := by decide +kernel
theorem dL_law_1070 : decode cL_law 1070 = .ok (.iadd, 1) := by decide +kernel
theorem dL_law_1071 : decode cL_law 1071 = .ok (.iaload, 1) := by decide +kernel
theorem dL_law_1072 : decode cL_law 1072 = .ok (.invokevirtual 125, 3) := by decide +kernel
theorem dL_law_1075 : decode cL_law 1075 = .ok (.aload_n 2, 1) := by decide +kernel
theorem dL_law_1076 : decode cL_law 1076 = .ok (.aload_n 0, 1) := by decide +kernel
theorem dL_law_1077 : decode cL_law 1077 = .ok (.iload_n 3, 1) := by decide +kernel
theorem dL_law_1078 : decode cL_law 1078 = .ok (.iconst 1, 1) := by decide +kernel
theorem dL_law_1079 : decode cL_law 1079 = .ok (.iadd, 1) := by decide +kernel
theorem dL_law_1080 : decode cL_law 1080 = .ok (.iaload, 1) := by decide +kernel
theorem dL_law_1081 : decode cL_law 1081 = .ok (.aload_n 0, 1) := by decide +kernel
theorem dL_law_1082 : decode cL_law 1082 = .ok (.iload_n 3, 1) := by decide +kernel
theorem dL_law_1083 : decode cL_law 1083 = .ok (.iconst 2, 1) := by decide +kernel
theorem dL_law_1084 : decode cL_law 1084 = .ok (.iadd, 1) := by decide +kernel
theorem dL_law_1085 : decode cL_law 1085 = .ok (.iaload, 1) := by decide +kernel
theorem dL_law_1086 : decode cL_law 1086 = .ok (.aload_n 0, 1) := by decide +kernel
theorem dL_law_1087 : decode cL_law 1087 = .ok (.iload_n 3, 1) := by decide +kernel
theorem dL_law_1088 : decode cL_law 1088 = .ok (.iconst 3, 1) := by decide +kernel
theorem dL_law_1089 : decode cL_law 1089 = .ok (.iadd, 1) := by decide +kernel
theorem dL_law_1090 : decode cL_law 1090 = .ok (.iaload, 1) := by decide +kernel
theorem dL_law_1091 : decode cL_law 1091 = .ok (.invokevirtual 128, 3) := by decide +kernel
theorem dL_law_1094 : decode cL_law 1094 = .ok (.if_icmp .eq 490, 3) := by decide +kernel
theorem dL_law_1097 : decode cL_law 1097 = .ok (.iconst 0, 1) := by decide +kernel
theorem dL_law_1098 : decode cL_law 1098 = .ok (.ireturn, 1) := by decide +kernel
theorem dL_law_1099 : decode cL_law 1099 = .ok (.aload_n 1, 1) := by decide +kernel
theorem dL_law_1100 : decode cL_law 1100 = .ok (.aload_n 0, 1) := by decide +kernel
theorem dL_law_1101 : decode cL_law 1101 = .ok (.iload_n 3, 1) := by decide +kernel
theorem dL_law_1102 : decode cL_law 1102 = .ok (.iconst 1, 1) := by decide +kernel
theorem dL_law_1103 : decode cL_law 1103 = .ok (.iadd, 1) := by decide +kernel
theorem dL_law_1104 : decode cL_law 1104 = .ok (.iaload, 1) := by decide +kernel
theorem dL_law_1105 : decode cL_law 1105 = .ok (.aload_n 0, 1) := by decide +kernel
theorem dL_law_1106 : decode cL_law 1106 = .ok (.iload_n 3, 1) := by decide +kernel
theorem dL_law_1107 : decode cL_law 1107 = .ok (.iconst 2, 1) := by decide +kernel
theorem dL_law_1108 : decode cL_law 1108 = .ok (.iadd, 1) := by decide +kernel
theorem dL_law_1109 : decode cL_law 1109 = .ok (.iaload, 1) := by decide +kernel
theorem dL_law_1110 : decode cL_law 1110 = .ok (.invokevirtual 129, 3) := by decide +kernel
theorem dL_law_1113 : decode cL_law 1113 = .ok (.aload_n 2, 1) := by decide +kernel
theorem dL_law_1114 : decode cL_law 1114 = .ok (.aload_n 0, 1) := by decide +kernel
theorem dL_law_1115 : decode cL_law 1115 = .ok (.iload_n 3, 1) := by decide +kernel
theorem dL_law_1116 : decode cL_law 1116 = .ok (.iconst 1, 1) := by decide +kernel
theorem dL_law_1117 : decode cL_law 1117 = .ok (.iadd, 1) := by decide +kernel
theorem dL_law_1118 : decode cL_law 1118 = .ok (.iaload, 1) := by decide +kernel
theorem dL_law_1119 : decode cL_law 1119 = .ok (.aload_n 0, 1) := by decide +kernel
theorem dL_law_1120 : decode cL_law 1120 = .ok (.iload_n 3, 1) := by decide +kernel
theorem dL_law_1121 : decode cL_law 1121 = .ok (.iconst 2, 1) := by decide +kernel
theorem dL_law_1122 : decode cL_law 1122 = .ok (.iadd, 1) := by decide +kernel
theorem dL_law_1123 : decode cL_law 1123 = .ok (.iaload, 1) := by decide +kernel
theorem dL_law_1124 : decode cL_law 1124 = .ok (.invokevirtual 132, 3) := by decide +kernel
theorem dL_law_1127 : decode cL_law 1127 = .ok (.if_icmp .eq 457, 3) := by decide +kernel
theorem dL_law_1130 : decode cL_law 1130 = .ok (.iconst 0, 1) := by decide +kernel
theorem dL_law_1131 : decode cL_law 1131 = .ok (.ireturn, 1) := by decide +kernel
theorem dL_law_1132 : decode cL_law 1132 = .ok (.aload_n 1, 1) := by decide +kernel
theorem dL_law_1133 : decode cL_law 1133 = .ok (.aload_n 0, 1) := by decide +kernel
theorem dL_law_1134 : decode cL_law 1134 = .ok (.iload_n 3, 1) := by decide +kernel
theorem dL_law_1135 : decode cL_law 1135 = .ok (.iconst 1, 1) := by decide +kernel
theorem dL_law_1136 : decode cL_law 1136 = .ok (.iadd, 1) := by decide +kernel
theorem dL_law_1137 : decode cL_law 1137 = .ok (.iaload, 1) := by decide +kernel
theorem dL_law_1138 : decode cL_law 1138 = .ok (.aload_n 0, 1) := by decide +kernel
theorem dL_law_1139 : decode cL_law 1139 = .ok (.iload_n 3, 1) := by decide +kernel
theorem dL_law_1140 : decode cL_law 1140 = .ok (.iconst 2, 1) := by decide +kernel
theorem dL_law_1141 : decode cL_law 1141 = .ok (.iadd, 1) := by decide +kernel
theorem dL_law_1142 : decode cL_law 1142 = .ok (.iaload, 1) := by decide +kernel
theorem dL_law_1143 : decode cL_law 1143 = .ok (.invokevirtual 133, 3) := by decide +kernel
theorem dL_law_1146 : decode cL_law 1146 = .ok (.aload_n 2, 1) := by decide +kernel
theorem dL_law_1147 : decode cL_law 1147 = .ok (.aload_n 0, 1) := by decide +kernel
theorem dL_law_1148 : decode cL_law 1148 = .ok (.iload_n 3, 1) := by decide +kernel
theorem dL_law_1149 : decode cL_law 1149 = .ok (.iconst 1, 1) := by decide +kernel
theorem dL_law_1150 : decode cL_law 1150 = .ok (.iadd, 1) := by decide +kernel
theorem dL_law_1151 : decode cL_law 1151 = .ok (.iaload, 1) := by decide +kernel
theorem dL_law_1152 : decode cL_law 1152 = .ok (.aload_n 0, 1) := by decide +kernel
theorem dL_law_1153 : decode cL_law 1153 = .ok (.iload_n 3, 1) := by decide +kernel
theorem dL_law_1154 : decode cL_law 1154 = .ok (.iconst 2, 1) := by decide +kernel
theorem dL_law_1155 : decode cL_law 1155 = .ok (.iadd, 1) := by decide +kernel
theorem dL_law_1156 : decode cL_law 1156 = .ok (.iaload, 1) := by decide +kernel
theorem dL_law_1157 : decode cL_law 1157 = .ok (.invokevirtual 136, 3) := by decide +kernel
theorem dL_law_1160 : decode cL_law 1160 = .ok (.if_icmp .eq 424, 3) := by decide +kernel
theorem dL_law_1163 : decode cL_law 1163 = .ok (.iconst 0, 1) := by decide +kernel
theorem dL_law_1164 : decode cL_law 1164 = .ok (.ireturn, 1) := by decide +kernel
theorem dL_law_1165 : decode cL_law 1165 = .ok (.aload_n 1, 1) := by decide +kernel
theorem dL_law_1166 : decode cL_law 1166 = .ok (.aload_n 0, 1) := by decide +kernel
theorem dL_law_1167 : decode cL_law 1167 = .ok (.iload_n 3, 1) := by decide +kernel
theorem dL_law_1168 : decode cL_law 1168 = .ok (.iconst 1, 1) := by decide +kernel
theorem dL_law_1169 : decode cL_law 1169 = .ok (.iadd, 1) := by decide +kernel
theorem dL_law_1170 : decode cL_law 1170 = .ok (.iaload, 1) := by decide +kernel
theorem dL_law_1171 : decode cL_law 1171 = .ok (.aload_n 0, 1) := by decide +kernel
theorem dL_law_1172 : decode cL_law 1172 = .ok (.iload_n 3, 1) := by decide +kernel
theorem dL_law_1173 : decode cL_law 1173 = .ok (.iconst 2, 1) := by decide +kernel
theorem dL_law_1174 : decode cL_law 1174 = .ok (.iadd, 1) := by decide +kernel
theorem dL_law_1175 : decode cL_law 1175 = .ok (.iaload, 1) := by decide +kernel
theorem dL_law_1176 : decode cL_law 1176 = .ok (.ifCond .eq 7, 3) := by decide +kernel
theorem dL_law_1179 : decode cL_law 1179 = .ok (.iconst 1, 1) := by decide +kernel
theorem dL_law_1180 : decode cL_law 1180 = .ok (.goto 4, 3) := by decide +kernel
theorem dL_law_1183 : decode cL_law 1183 = .ok (.iconst 0, 1) := by decide +kernel
theorem dL_law_1184 : decode cL_law 1184 = .ok (.invokevirtual 137, 3) := by decide +kernel
theorem dL_law_1187 : decode cL_law 1187 = .ok (.aload_n 2, 1) := by decide +kernel
theorem dL_law_1188 : decode cL_law 1188 = .ok (.aload_n 0, 1) := by decide +kernel
theorem dL_law_1189 : decode cL_law 1189 = .ok (.iload_n 3, 1) := by decide +kernel
theorem dL_law_1190 : decode cL_law 1190 = .ok (.iconst 1, 1) := by decide +kernel
theorem dL_law_1191 : decode cL_law 1191 = .ok (.iadd, 1) := by decide +kernel
theorem dL_law_1192 : decode cL_law 1192 = .ok (.iaload, 1) := by decide +kernel
theorem dL_law_1193 : decode cL_law 1193 = .ok (.aload_n 0, 1) := by decide +kernel
theorem dL_law_1194 : decode cL_law 1194 = .ok (.iload_n 3, 1) := by decide +kernel
theorem dL_law_1195 : decode cL_law 1195 = .ok (.iconst 2, 1) := by decide +kernel
theorem dL_law_1196 : decode cL_law 1196 = .ok (.iadd, 1) := by decide +kernel
theorem dL_law_1197 : decode cL_law 1197 = .ok (.iaload, 1) := by decide +kernel
theorem dL_law_1198 : decode cL_law 1198 = .ok (.ifCond .eq 7, 3) := by decide +kernel
theorem dL_law_1201 : decode cL_law 1201 = .ok (.iconst 1, 1) := by decide +kernel
theorem dL_law_1202 : decode cL_law 1202 = .ok (.goto 4, 3) := by decide +kernel
theorem dL_law_1205 : decode cL_law 1205 = .ok (.iconst 0, 1) := by decide +kernel
theorem dL_law_1206 : decode cL_law 1206 = .ok (.invokevirtual 141, 3) := by decide +kernel
theorem dL_law_1209 : decode cL_law 1209 = .ok (.if_icmp .eq 375, 3) := by decide +kernel
theorem dL_law_1212 : decode cL_law 1212 = .ok (.iconst 0, 1) := by decide +kernel
theorem dL_law_1213 : decode cL_law 1213 = .ok (.ireturn, 1) := by decide +kernel
theorem dL_law_1214 : decode cL_law 1214 = .ok (.aload_n 1, 1) := by decide +kernel
theorem dL_law_1215 : decode cL_law 1215 = .ok (.aload_n 0, 1) := by decide +kernel
theorem dL_law_1216 : decode cL_law 1216 = .ok (.iload_n 3, 1) := by decide +kernel
theorem dL_law_1217 : decode cL_law 1217 = .ok (.iconst 1, 1) := by decide +kernel
theorem dL_law_1218 : decode cL_law 1218 = .ok (.iadd, 1) := by decide +kernel
theorem dL_law_1219 : decode cL_law 1219 = .ok (.iaload, 1) := by decide +kernel
theorem dL_law_1220 : decode cL_law 1220 = .ok (.aload_n 0, 1) := by decide +kernel
theorem dL_law_1221 : decode cL_law 1221 = .ok (.iload_n 3, 1) := by decide +kernel
theorem dL_law_1222 : decode cL_law 1222 = .ok (.iconst 2, 1) := by decide +kernel
theorem dL_law_1223 : decode cL_law 1223 = .ok (.iadd, 1) := by decide +kernel
theorem dL_law_1224 : decode cL_law 1224 = .ok (.iaload, 1) := by decide +kernel
theorem dL_law_1225 : decode cL_law 1225 = .ok (.invokevirtual 142, 3) := by decide +kernel
theorem dL_law_1228 : decode cL_law 1228 = .ok (.aload_n 2, 1) := by decide +kernel
theorem dL_law_1229 : decode cL_law 1229 = .ok (.aload_n 0, 1) := by decide +kernel
theorem dL_law_1230 : decode cL_law 1230 = .ok (.iload_n 3, 1) := by decide +kernel
theorem dL_law_1231 : decode cL_law 1231 = .ok (.iconst 1, 1) := by decide +kernel
theorem dL_law_1232 : decode cL_law 1232 = .ok (.iadd, 1) := by decide +kernel
theorem dL_law_1233 : decode cL_law 1233 = .ok (.iaload, 1) := by decide +kernel
theorem dL_law_1234 : decode cL_law 1234 = .ok (.aload_n 0, 1) := by decide +kernel
theorem dL_law_1235 : decode cL_law 1235 = .ok (.iload_n 3, 1) := by decide +kernel
theorem dL_law_1236 : decode cL_law 1236 = .ok (.iconst 2, 1) := by decide +kernel
theorem dL_law_1237 : decode cL_law 1237 = .ok (.iadd, 1) := by decide +kernel
theorem dL_law_1238 : decode cL_law 1238 = .ok (.iaload, 1) := by decide +kernel
theorem dL_law_1239 : decode cL_law 1239 = .ok (.invokevirtual 145, 3) := by decide +kernel
theorem dL_law_1242 : decode cL_law 1242 = .ok (.if_icmp .eq 342, 3) := by decide +kernel
theorem dL_law_1245 : decode cL_law 1245 = .ok (.iconst 0, 1) := by decide +kernel
theorem dL_law_1246 : decode cL_law 1246 = .ok (.ireturn, 1) := by decide +kernel
theorem dL_law_1247 : decode cL_law 1247 = .ok (.aload_n 1, 1) := by decide +kernel
theorem dL_law_1248 : decode cL_law 1248 = .ok (.aload_n 0, 1) := by decide +kernel
theorem dL_law_1249 : decode cL_law 1249 = .ok (.iload_n 3, 1) := by decide +kernel
theorem dL_law_1250 : decode cL_law 1250 = .ok (.iconst 1, 1) := by decide +kernel
theorem dL_law_1251 : decode cL_law 1251 = .ok (.iadd, 1) := by decide +kernel
theorem dL_law_1252 : decode cL_law 1252 = .ok (.iaload, 1) := by decide +kernel
theorem dL_law_1253 : decode cL_law 1253 = .ok (.aload_n 0, 1) := by decide +kernel
theorem dL_law_1254 : decode cL_law 1254 = .ok (.iload_n 3, 1) := by decide +kernel
theorem dL_law_1255 : decode cL_law 1255 = .ok (.iconst 2, 1) := by decide +kernel
theorem dL_law_1256 : decode cL_law 1256 = .ok (.iadd, 1) := by decide +kernel
theorem dL_law_1257 : decode cL_law 1257 = .ok (.iaload, 1) := by decide +kernel
theorem dL_law_1258 : decode cL_law 1258 = .ok (.aload_n 0, 1) := by decide +kernel
theorem dL_law_1259 : decode cL_law 1259 = .ok (.iload_n 3, 1) := by decide +kernel
theorem dL_law_1260 : decode cL_law 1260 = .ok (.iconst 3, 1) := by decide +kernel
theorem dL_law_1261 : decode cL_law 1261 = .ok (.iadd, 1) := by decide +kernel
theorem dL_law_1262 : decode cL_law 1262 = .ok (.iaload, 1) := by decide +kernel
theorem dL_law_1263 : decode cL_law 1263 = .ok (.aload_n 0, 1) := by decide +kernel
theorem dL_law_1264 : decode cL_law 1264 = .ok (.iload_n 3, 1) := by decide +kernel
theorem dL_law_1265 : decode cL_law 1265 = .ok (.iconst 4, 1) := by decide +kernel
theorem dL_law_1266 : decode cL_law 1266 = .ok (.iadd, 1) := by decide +kernel
theorem dL_law_1267 : decode cL_law 1267 = .ok (.iaload, 1) := by decide +kernel
theorem dL_law_1268 : decode cL_law 1268 = .ok (.invokevirtual 146, 3) := by decide +kernel
theorem dL_law_1271 : decode cL_law 1271 = .ok (.aload_n 2, 1) := by decide +kernel
theorem dL_law_1272 : decode cL_law 1272 = .ok (.aload_n 0, 1) := by decide +kernel
theorem dL_law_1273 : decode cL_law 1273 = .ok (.iload_n 3, 1) := by decide +kernel
theorem dL_law_1274 : decode cL_law 1274 = .ok (.iconst 1, 1) := by decide +kernel
theorem dL_law_1275 : decode cL_law 1275 = .ok (.iadd, 1) := by decide +kernel
theorem dL_law_1276 : decode cL_law 1276 = .ok (.iaload, 1) := by decide +kernel
theorem dL_law_1277 : decode cL_law 1277 = .ok (.aload_n 0, 1) := by decide +kernel
theorem dL_law_1278 : decode cL_law 1278 = .ok (.iload_n 3, 1) := by decide +kernel
theorem dL_law_1279 : decode cL_law 1279 = .ok (.iconst 2, 1) := by decide +kernel
theorem dL_law_1280 : decode cL_law 1280 = .ok (.iadd, 1) := by decide +kernel
theorem dL_law_1281 : decode cL_law 1281 = .ok (.iaload, 1) := by decide +kernel
theorem dL_law_1282 : decode cL_law 1282 = .ok (.aload_n 0, 1) := by decide +kernel
theorem dL_law_1283 : decode cL_law 1283 = .ok (.iload_n 3, 1) := by decide +kernel
theorem dL_law_1284 : decode cL_law 1284 = .ok (.iconst 3, 1) := by decide +kernel
theorem dL_law_1285 : decode cL_law 1285 = .ok (.iadd, 1) := by decide +kernel
theorem dL_law_1286 : decode cL_law 1286 = .ok (.iaload, 1) := by decide +kernel
theorem dL_law_1287 : decode cL_law 1287 = .ok (.aload_n 0, 1) := by decide +kernel
theorem dL_law_1288 : decode cL_law 1288 = .ok (.iload_n 3, 1) := by decide +kernel
theorem dL_law_1289 : decode cL_law 1289 = .ok (.iconst 4, 1) := by decide +kernel
theorem dL_law_1290 : decode cL_law 1290 = .ok (.iadd, 1) := by decide +kernel
theorem dL_law_1291 : decode cL_law 1291 = .ok (.iaload, 1) := by decide +kernel
theorem dL_law_1292 : decode cL_law 1292 = .ok (.invokevirtual 149, 3) := by decide +kernel
theorem dL_law_1295 : decode cL_law 1295 = .ok (.if_icmp .eq 289, 3) := by decide +kernel
theorem dL_law_1298 : decode cL_law 1298 = .ok (.iconst 0, 1) := by decide +kernel
theorem dL_law_1299 : decode cL_law 1299 = .ok (.ireturn, 1) := by decide +kernel
theorem dL_law_1300 : decode cL_law 1300 = .ok (.aload_n 1, 1) := by decide +kernel
theorem dL_law_1301 : decode cL_law 1301 = .ok (.aload_n 0, 1) := by decide +kernel
theorem dL_law_1302 : decode cL_law 1302 = .ok (.iload_n 3, 1) := by decide +kernel
theorem dL_law_1303 : decode cL_law 1303 = .ok (.iconst 1, 1) := by decide +kernel
theorem dL_law_1304 : decode cL_law 1304 = .ok (.iadd, 1) := by decide +kernel
theorem dL_law_1305 : decode cL_law 1305 = .ok (.iaload, 1) := by decide +kernel
theorem dL_law_1306 : decode cL_law 1306 = .ok (.aload_n 0, 1) := by decide +kernel
theorem dL_law_1307 : decode cL_law 1307 = .ok (.iload_n 3, 1) := by decide +kernel
theorem dL_law_1308 : decode cL_law 1308 = .ok (.iconst 2, 1) := by decide +kernel
theorem dL_law_1309 : decode cL_law 1309 = .ok (.iadd, 1) := by decide +kernel
theorem dL_law_1310 : decode cL_law 1310 = .ok (.iaload, 1) := by decide +kernel
theorem dL_law_1311 : decode cL_law 1311 = .ok (.invokevirtual 150, 3) := by decide +kernel
theorem dL_law_1314 : decode cL_law 1314 = .ok (.aload_n 2, 1) := by decide +kernel
theorem dL_law_1315 : decode cL_law 1315 = .ok (.aload_n 0, 1) := by decide +kernel
theorem dL_law_1316 : decode cL_law 1316 = .ok (.iload_n 3, 1) := by decide +kernel
theorem dL_law_1317 : decode cL_law 1317 = .ok (.iconst 1, 1) := by decide +kernel
theorem dL_law_1318 : decode cL_law 1318 = .ok (.iadd, 1) := by decide +kernel
theorem dL_law_1319 : decode cL_law 1319 = .ok (.iaload, 1) := by decide +kernel
theorem dL_law_1320 : decode cL_law 1320 = .ok (.aload_n 0, 1) := by decide +kernel
theorem dL_law_1321 : decode cL_law 1321 = .ok (.iload_n 3, 1) := by decide +kernel
theorem dL_law_1322 : decode cL_law 1322 = .ok (.iconst 2, 1) := by decide +kernel
theorem dL_law_1323 : decode cL_law 1323 = .ok (.iadd, 1) := by decide +kernel
theorem dL_law_1324 : decode cL_law 1324 = .ok (.iaload, 1) := by decide +kernel
theorem dL_law_1325 : decode cL_law 1325 = .ok (.invokevirtual 153, 3) := by decide +kernel
theorem dL_law_1328 : decode cL_law 1328 = .ok (.if_icmp .eq 256, 3) := by decide +kernel
theorem dL_law_1331 : decode cL_law 1331 = .ok (.iconst 0, 1) := by decide +kernel
theorem dL_law_1332 : decode cL_law 1332 = .ok (.ireturn, 1) := by decide +kernel
theorem dL_law_1333 : decode cL_law 1333 = .ok (.aload_n 1, 1) := by decide +kernel
theorem dL_law_1334 : decode cL_law 1334 = .ok (.aload_n 0, 1) := by decide +kernel
theorem dL_law_1335 : decode cL_law 1335 = .ok (.iload_n 3, 1) := by decide +kernel
theorem dL_law_1336 : decode cL_law 1336 = .ok (.iconst 1, 1) := by decide +kernel
theorem dL_law_1337 : decode cL_law 1337 = .ok (.iadd, 1) := by decide +kernel
theorem dL_law_1338 : decode cL_law 1338 = .ok (.iaload, 1) := by decide +kernel
theorem dL_law_1339 : decode cL_law 1339 = .ok (.invokevirtual 154, 3) := by decide +kernel
theorem dL_law_1342 : decode cL_law 1342 = .ok (.aload_n 2, 1) := by decide +kernel
theorem dL_law_1343 : decode cL_law 1343 = .ok (.aload_n 0, 1) := by decide +kernel
theorem dL_law_1344 : decode cL_law 1344 = .ok (.iload_n 3, 1) := by decide +kernel
theorem dL_law_1345 : decode cL_law 1345 = .ok (.iconst 1, 1) := by decide +kernel
theorem dL_law_1346 : decode cL_law 1346 = .ok (.iadd, 1) := by decide +kernel
theorem dL_law_1347 : decode cL_law 1347 = .ok (.iaload, 1) := by decide +kernel
theorem dL_law_1348 : decode cL_law 1348 = .ok (.invokevirtual 157, 3) := by decide +kernel
theorem dL_law_1351 : decode cL_law 1351 = .ok (.if_icmp .eq 233, 3) := by decide +kernel
theorem dL_law_1354 : decode cL_law 1354 = .ok (.iconst 0, 1) := by decide +kernel
theorem dL_law_1355 : decode cL_law 1355 = .ok (.ireturn, 1) := by decide +kernel
theorem dL_law_1356 : decode cL_law 1356 = .ok (.aload_n 1, 1) := by decide +kernel
theorem dL_law_1357 : decode cL_law 1357 = .ok (.aload_n 0, 1) := by decide +kernel
theorem dL_law_1358 : decode cL_law 1358 = .ok (.iload_n 3, 1) := by decide +kernel
theorem dL_law_1359 : decode cL_law 1359 = .ok (.iconst 1, 1) := by decide +kernel
theorem dL_law_1360 : decode cL_law 1360 = .ok (.iadd, 1) := by decide +kernel
theorem dL_law_1361 : decode cL_law 1361 = .ok (.iaload, 1) := by decide +kernel
theorem dL_law_1362 : decode cL_law 1362 = .ok (.aload_n 0, 1) := by decide +kernel
theorem dL_law_1363 : decode cL_law 1363 = .ok (.iload_n 3, 1) := by decide +kernel
theorem dL_law_1364 : decode cL_law 1364 = .ok (.iconst 2, 1) := by decide +kernel
theorem dL_law_1365 : decode cL_law 1365 = .ok (.iadd, 1) := by decide +kernel
theorem dL_law_1366 : decode cL_law 1366 = .ok (.iaload, 1) := by decide +kernel
theorem dL_law_1367 : decode cL_law 1367 = .ok (.aload_n 0, 1) := by decide +kernel
theorem dL_law_1368 : decode cL_law 1368 = .ok (.iload_n 3, 1) := by decide +kernel
theorem dL_law_1369 : decode cL_law 1369 = .ok (.iconst 3, 1) := by decide +kernel
theorem dL_law_1370 : decode cL_law 1370 = .ok (.iadd, 1) := by decide +kernel
theorem dL_law_1371 : decode cL_law 1371 = .ok (.iaload, 1) := by decide +kernel
theorem dL_law_1372 : decode cL_law 1372 = .ok (.invokevirtual 158, 3) := by decide +kernel
theorem dL_law_1375 : decode cL_law 1375 = .ok (.aload_n 2, 1) := by decide +kernel
theorem dL_law_1376 : decode cL_law 1376 = .ok (.aload_n 0, 1) := by decide +kernel
theorem dL_law_1377 : decode cL_law 1377 = .ok (.iload_n 3, 1) := by decide +kernel
theorem dL_law_1378 : decode cL_law 1378 = .ok (.iconst 1, 1) := by decide +kernel
theorem dL_law_1379 : decode cL_law 1379 = .ok (.iadd, 1) := by decide +kernel
theorem dL_law_1380 : decode cL_law 1380 = .ok (.iaload, 1) := by decide +kernel
theorem dL_law_1381 : decode cL_law 1381 = .ok (.aload_n 0, 1) := by decide +kernel
theorem dL_law_1382 : decode cL_law 1382 = .ok (.iload_n 3, 1) := by decide +kernel
theorem dL_law_1383 : decode cL_law 1383 = .ok (.iconst 2, 1) := by decide +kernel
theorem dL_law_1384 : decode cL_law 1384 = .ok (.iadd, 1) := by decide +kernel
theorem dL_law_1385 : decode cL_law 1385 = .ok (.iaload, 1) := by decide +kernel
theorem dL_law_1386 : decode cL_law 1386 = .ok (.aload_n 0, 1) := by decide +kernel
theorem dL_law_1387 : decode cL_law 1387 = .ok (.iload_n 3, 1) := by decide +kernel
theorem dL_law_1388 : decode cL_law 1388 = .ok (.iconst 3, 1) := by decide +kernel
theorem dL_law_1389 : decode cL_law 1389 = .ok (.iadd, 1) := by decide +kernel
theorem dL_law_1390 : decode cL_law 1390 = .ok (.iaload, 1) := by decide +kernel
theorem dL_law_1391 : decode cL_law 1391 = .ok (.invokevirtual 161, 3) := by decide +kernel
theorem dL_law_1394 : decode cL_law 1394 = .ok (.if_icmp .eq 190, 3) := by decide +kernel
theorem dL_law_1397 : decode cL_law 1397 = .ok (.iconst 0, 1) := by decide +kernel
theorem dL_law_1398 : decode cL_law 1398 = .ok (.ireturn, 1) := by decide +kernel
theorem dL_law_1399 : decode cL_law 1399 = .ok (.aload_n 1, 1) := by decide +kernel
theorem dL_law_1400 : decode cL_law 1400 = .ok (.aload_n 0, 1) := by decide +kernel
theorem dL_law_1401 : decode cL_law 1401 = .ok (.iload_n 3, 1) := by decide +kernel
theorem dL_law_1402 : decode cL_law 1402 = .ok (.iconst 1, 1) := by decide +kernel
theorem dL_law_1403 : decode cL_law 1403 = .ok (.iadd, 1) := by decide +kernel
theorem dL_law_1404 : decode cL_law 1404 = .ok (.iaload, 1) := by decide +kernel
theorem dL_law_1405 : decode cL_law 1405 = .ok (.aload_n 0, 1) := by decide +kernel
theorem dL_law_1406 : decode cL_law 1406 = .ok (.iload_n 3, 1) := by decide +kernel
theorem dL_law_1407 : decode cL_law 1407 = .ok (.iconst 2, 1) := by decide +kernel
theorem dL_law_1408 : decode cL_law 1408 = .ok (.iadd, 1) := by decide +kernel
theorem dL_law_1409 : decode cL_law 1409 = .ok (.iaload, 1) := by decide +kernel
theorem dL_law_1410 : decode cL_law 1410 = .ok (.aload_n 0, 1) := by decide +kernel
theorem dL_law_1411 : decode cL_law 1411 = .ok (.iload_n 3, 1) := by decide +kernel
theorem dL_law_1412 : decode cL_law 1412 = .ok (.iconst 3, 1) := by decide +kernel
theorem dL_law_1413 : decode cL_law 1413 = .ok (.iadd, 1) := by decide +kernel
theorem dL_law_1414 : decode cL_law 1414 = .ok (.iaload, 1) := by decide +kernel
theorem dL_law_1415 : decode cL_law 1415 = .ok (.invokevirtual 162, 3) := by decide +kernel
theorem dL_law_1418 : decode cL_law 1418 = .ok (.aload_n 2, 1) := by decide +kernel
theorem dL_law_1419 : decode cL_law 1419 = .ok (.aload_n 0, 1) := by decide +kernel
theorem dL_law_1420 : decode cL_law 1420 = .ok (.iload_n 3, 1) := by decide +kernel
theorem dL_law_1421 : decode cL_law 1421 = .ok (.iconst 1, 1) := by decide +kernel
theorem dL_law_1422 : decode cL_law 1422 = .ok (.iadd, 1) := by decide +kernel
theorem dL_law_1423 : decode cL_law 1423 = .ok (.iaload, 1) := by decide +kernel
theorem dL_law_1424 : decode cL_law 1424 = .ok (.aload_n 0, 1) := by decide +kernel
theorem dL_law_1425 : decode cL_law 1425 = .ok (.iload_n 3, 1) := by decide +kernel
theorem dL_law_1426 : decode cL_law 1426 = .ok (.iconst 2, 1) := by decide +kernel
theorem dL_law_1427 : decode cL_law 1427 = .ok (.iadd, 1) := by decide +kernel
theorem dL_law_1428 : decode cL_law 1428 = .ok (.iaload, 1) := by decide +kernel
theorem dL_law_1429 : decode cL_law 1429 = .ok (.aload_n 0, 1) := by decide +kernel
theorem dL_law_1430 : decode cL_law 1430 = .ok (.iload_n 3, 1) := by decide +kernel
theorem dL_law_1431 : decode cL_law 1431 = .ok (.iconst 3, 1) := by decide +kernel
theorem dL_law_1432 : decode cL_law 1432 = .ok (.iadd, 1) := by decide +kernel
theorem dL_law_1433 : decode cL_law 1433 = .ok (.iaload, 1) := by decide +kernel
theorem dL_law_1434 : decode cL_law 1434 = .ok (.invokevirtual 165, 3) := by decide +kernel
theorem dL_law_1437 : decode cL_law 1437 = .ok (.if_icmp .eq 147, 3) := by decide +kernel
theorem dL_law_1440 : decode cL_law 1440 = .ok (.iconst 0, 1) := by decide +kernel
theorem dL_law_1441 : decode cL_law 1441 = .ok (.ireturn, 1) := by decide +kernel
theorem dL_law_1442 : decode cL_law 1442 = .ok (.aload_n 1, 1) := by decide +kernel
theorem dL_law_1443 : decode cL_law 1443 = .ok (.aload_n 0, 1) := by decide +kernel
theorem dL_law_1444 : decode cL_law 1444 = .ok (.iload_n 3, 1) := by decide +kernel
theorem dL_law_1445 : decode cL_law 1445 = .ok (.iconst 1, 1) := by decide +kernel
theorem dL_law_1446 : decode cL_law 1446 = .ok (.iadd, 1) := by decide +kernel
theorem dL_law_1447 : decode cL_law 1447 = .ok (.iaload, 1) := by decide +kernel
theorem dL_law_1448 : decode cL_law 1448 = .ok (.aload_n 0, 1) := by decide +kernel
theorem dL_law_1449 : decode cL_law 1449 = .ok (.iload_n 3, 1) := by decide +kernel
theorem dL_law_1450 : decode cL_law 1450 = .ok (.iconst 2, 1) := by decide +kernel
theorem dL_law_1451 : decode cL_law 1451 = .ok (.iadd, 1) := by decide +kernel
theorem dL_law_1452 : decode cL_law 1452 = .ok (.iaload, 1) := by decide +kernel
theorem dL_law_1453 : decode cL_law 1453 = .ok (.aload_n 0, 1) := by decide +kernel
theorem dL_law_1454 : decode cL_law 1454 = .ok (.iload_n 3, 1) := by decide +kernel
theorem dL_law_1455 : decode cL_law 1455 = .ok (.iconst 3, 1) := by decide +kernel
theorem dL_law_1456 : decode cL_law 1456 = .ok (.iadd, 1) := by decide +kernel
theorem dL_law_1457 : decode cL_law 1457 = .ok (.iaload, 1) := by decide +kernel
theorem dL_law_1458 : decode cL_law 1458 = .ok (.aload_n 0, 1) := by decide +kernel
theorem dL_law_1459 : decode cL_law 1459 = .ok (.iload_n 3, 1) := by decide +kernel
theorem dL_law_1460 : decode cL_law 1460 = .ok (.iconst 4, 1) := by decide +kernel
theorem dL_law_1461 : decode cL_law 1461 = .ok (.iadd, 1) := by decide +kernel
theorem dL_law_1462 : decode cL_law 1462 = .ok (.iaload, 1) := by decide +kernel
theorem dL_law_1463 : decode cL_law 1463 = .ok (.invokevirtual 166, 3) := by decide +kernel
theorem dL_law_1466 : decode cL_law 1466 = .ok (.aload_n 2, 1) := by decide +kernel
theorem dL_law_1467 : decode cL_law 1467 = .ok (.aload_n 0, 1) := by decide +kernel
theorem dL_law_1468 : decode cL_law 1468 = .ok (.iload_n 3, 1) := by decide +kernel
theorem dL_law_1469 : decode cL_law 1469 = .ok (.iconst 1, 1) := by decide +kernel
theorem dL_law_1470 : decode cL_law 1470 = .ok (.iadd, 1) := by decide +kernel
theorem dL_law_1471 : decode cL_law 1471 = .ok (.iaload, 1) := by decide +kernel
theorem dL_law_1472 : decode cL_law 1472 = .ok (.aload_n 0, 1) := by decide +kernel
theorem dL_law_1473 : decode cL_law 1473 = .ok (.iload_n 3, 1) := by decide +kernel
theorem dL_law_1474 : decode cL_law 1474 = .ok (.iconst 2, 1) := by decide +kernel
theorem dL_law_1475 : decode cL_law 1475 = .ok (.iadd, 1) := by decide +kernel
theorem dL_law_1476 : decode cL_law 1476 = .ok (.iaload, 1) := by decide +kernel
theorem dL_law_1477 : decode cL_law 1477 = .ok (.aload_n 0, 1) := by decide +kernel
theorem dL_law_1478 : decode cL_law 1478 = .ok (.iload_n 3, 1) := by decide +kernel
theorem dL_law_1479 : decode cL_law 1479 = .ok (.iconst 3, 1) := by decide +kernel
theorem dL_law_1480 : decode cL_law 1480 = .ok (.iadd, 1) := by decide +kernel
theorem dL_law_1481 : decode cL_law 1481 = .ok (.iaload, 1) := by decide +kernel
theorem dL_law_1482 : decode cL_law 1482 = .ok (.aload_n 0, 1) := by decide +kernel
theorem dL_law_1483 : decode cL_law 1483 = .ok (.iload_n 3, 1) := by decide +kernel
theorem dL_law_1484 : decode cL_law 1484 = .ok (.iconst 4, 1) := by decide +kernel
theorem dL_law_1485 : decode cL_law 1485 = .ok (.iadd, 1) := by decide +kernel
theorem dL_law_1486 : decode cL_law 1486 = .ok (.iaload, 1) := by decide +kernel
theorem dL_law_1487 : decode cL_law 1487 = .ok (.invokevirtual 169, 3) := by decide +kernel
theorem dL_law_1490 : decode cL_law 1490 = .ok (.if_icmp .eq 94, 3) := by decide +kernel
theorem dL_law_1493 : decode cL_law 1493 = .ok (.iconst 0, 1) := by decide +kernel
theorem dL_law_1494 : decode cL_law 1494 = .ok (.ireturn, 1) := by decide +kernel
theorem dL_law_1495 : decode cL_law 1495 = .ok (.aload_n 1, 1) := by decide +kernel
theorem dL_law_1496 : decode cL_law 1496 = .ok (.aload_n 0, 1) := by decide +kernel
theorem dL_law_1497 : decode cL_law 1497 = .ok (.iload_n 3, 1) := by decide +kernel
theorem dL_law_1498 : decode cL_law 1498 = .ok (.iconst 1, 1) := by decide +kernel
theorem dL_law_1499 : decode cL_law 1499 = .ok (.iadd, 1) := by decide +kernel
theorem dL_law_1500 : decode cL_law 1500 = .ok (.iaload, 1) := by decide +kernel
theorem dL_law_1501 : decode cL_law 1501 = .ok (.aload_n 0, 1) := by decide +kernel
theorem dL_law_1502 : decode cL_law 1502 = .ok (.iload_n 3, 1) := by decide +kernel
theorem dL_law_1503 : decode cL_law 1503 = .ok (.iconst 2, 1) := by decide +kernel
theorem dL_law_1504 : decode cL_law 1504 = .ok (.iadd, 1) := by decide +kernel
theorem dL_law_1505 : decode cL_law 1505 = .ok (.iaload, 1) := by decide +kernel
theorem dL_law_1506 : decode cL_law 1506 = .ok (.aload_n 0, 1) := by decide +kernel
theorem dL_law_1507 : decode cL_law 1507 = .ok (.iload_n 3, 1) := by decide +kernel
theorem dL_law_1508 : decode cL_law 1508 = .ok (.iconst 3, 1) := by decide +kernel
theorem dL_law_1509 : decode cL_law 1509 = .ok (.iadd, 1) := by decide +kernel
theorem dL_law_1510 : decode cL_law 1510 = .ok (.iaload, 1) := by decide +kernel
theorem dL_law_1511 : decode cL_law 1511 = .ok (.invokevirtual 170, 3) := by decide +kernel
theorem dL_law_1514 : decode cL_law 1514 = .ok (.aload_n 2, 1) := by decide +kernel
theorem dL_law_1515 : decode cL_law 1515 = .ok (.aload_n 0, 1) := by decide +kernel
theorem dL_law_1516 : decode cL_law 1516 = .ok (.iload_n 3, 1) := by decide +kernel
theorem dL_law_1517 : decode cL_law 1517 = .ok (.iconst 1, 1) := by decide +kernel
theorem dL_law_1518 : decode cL_law 1518 = .ok (.iadd, 1) := by decide +kernel
theorem dL_law_1519 : decode cL_law 1519 = .ok (.iaload, 1) := by decide +kernel
theorem dL_law_1520 : decode cL_law 1520 = .ok (.aload_n 0, 1) := by decide +kernel
theorem dL_law_1521 : decode cL_law 1521 = .ok (.iload_n 3, 1) := by decide +kernel
theorem dL_law_1522 : decode cL_law 1522 = .ok (.iconst 2, 1) := by decide +kernel
theorem dL_law_1523 : decode cL_law 1523 = .ok (.iadd, 1) := by decide +kernel
theorem dL_law_1524 : decode cL_law 1524 = .ok (.iaload, 1) := by decide +kernel
theorem dL_law_1525 : decode cL_law 1525 = .ok (.aload_n 0, 1) := by decide +kernel
theorem dL_law_1526 : decode cL_law 1526 = .ok (.iload_n 3, 1) := by decide +kernel
theorem dL_law_1527 : decode cL_law 1527 = .ok (.iconst 3, 1) := by decide +kernel
theorem dL_law_1528 : decode cL_law 1528 = .ok (.iadd, 1) := by decide +kernel
theorem dL_law_1529 : decode cL_law 1529 = .ok (.iaload, 1) := by decide +kernel
theorem dL_law_1530 : decode cL_law 1530 = .ok (.invokevirtual 173, 3) := by decide +kernel
theorem dL_law_1533 : decode cL_law 1533 = .ok (.if_icmp .eq 51, 3) := by decide +kernel
theorem dL_law_1536 : decode cL_law 1536 = .ok (.iconst 0, 1) := by decide +kernel
theorem dL_law_1537 : decode cL_law 1537 = .ok (.ireturn, 1) := by decide +kernel
theorem dL_law_1538 : decode cL_law 1538 = .ok (.aload_n 1, 1) := by decide +kernel
theorem dL_law_1539 : decode cL_law 1539 = .ok (.aload_n 0, 1) := by decide +kernel
theorem dL_law_1540 : decode cL_law 1540 = .ok (.iload_n 3, 1) := by decide +kernel
theorem dL_law_1541 : decode cL_law 1541 = .ok (.iconst 1, 1) := by decide +kernel
theorem dL_law_1542 : decode cL_law 1542 = .ok (.iadd, 1) := by decide +kernel
theorem dL_law_1543 : decode cL_law 1543 = .ok (.iaload, 1) := by decide +kernel
theorem dL_law_1544 : decode cL_law 1544 = .ok (.invokevirtual 174, 3) := by decide +kernel
theorem dL_law_1547 : decode cL_law 1547 = .ok (.aload_n 2, 1) := by decide +kernel
theorem dL_law_1548 : decode cL_law 1548 = .ok (.aload_n 0, 1) := by decide +kernel
theorem dL_law_1549 : decode cL_law 1549 = .ok (.iload_n 3, 1) := by decide +kernel
theorem dL_law_1550 : decode cL_law 1550 = .ok (.iconst 1, 1) := by decide +kernel
theorem dL_law_1551 : decode cL_law 1551 = .ok (.iadd, 1) := by decide +kernel
theorem dL_law_1552 : decode cL_law 1552 = .ok (.iaload, 1) := by decide +kernel
theorem dL_law_1553 : decode cL_law 1553 = .ok (.invokevirtual 177, 3) := by decide +kernel
theorem dL_law_1556 : decode cL_law 1556 = .ok (.if_icmp .eq 28, 3) := by decide +kernel
theorem dL_law_1559 : decode cL_law 1559 = .ok (.iconst 0, 1) := by decide +kernel
theorem dL_law_1560 : decode cL_law 1560 = .ok (.ireturn, 1) := by decide +kernel
theorem dL_law_1561 : decode cL_law 1561 = .ok (.aload_n 1, 1) := by decide +kernel
theorem dL_law_1562 : decode cL_law 1562 = .ok (.aload_n 0, 1) := by decide +kernel
theorem dL_law_1563 : decode cL_law 1563 = .ok (.iload_n 3, 1) := by decide +kernel
theorem dL_law_1564 : decode cL_law 1564 = .ok (.iconst 1, 1) := by decide +kernel
theorem dL_law_1565 : decode cL_law 1565 = .ok (.iadd, 1) := by decide +kernel
theorem dL_law_1566 : decode cL_law 1566 = .ok (.iaload, 1) := by decide +kernel
theorem dL_law_1567 : decode cL_law 1567 = .ok (.invokevirtual 178, 3) := by decide +kernel
theorem dL_law_1570 : decode cL_law 1570 = .ok (.aload_n 2, 1) := by decide +kernel
theorem dL_law_1571 : decode cL_law 1571 = .ok (.aload_n 0, 1) := by decide +kernel
theorem dL_law_1572 : decode cL_law 1572 = .ok (.iload_n 3, 1) := by decide +kernel
theorem dL_law_1573 : decode cL_law 1573 = .ok (.iconst 1, 1) := by decide +kernel
theorem dL_law_1574 : decode cL_law 1574 = .ok (.iadd, 1) := by decide +kernel
theorem dL_law_1575 : decode cL_law 1575 = .ok (.iaload, 1) := by decide +kernel
theorem dL_law_1576 : decode cL_law 1576 = .ok (.invokevirtual 181, 3) := by decide +kernel
theorem dL_law_1579 : decode cL_law 1579 = .ok (.if_icmp .eq 5, 3) := by decide +kernel
theorem dL_law_1582 : decode cL_law 1582 = .ok (.iconst 0, 1) := by decide +kernel
theorem dL_law_1583 : decode cL_law 1583 = .ok (.ireturn, 1) := by decide +kernel
theorem dL_law_1584 : decode cL_law 1584 = .ok (.iinc 3 5, 3) := by decide +kernel
theorem dL_law_1587 : decode cL_law 1587 = .ok (.goto (-1569), 3) := by decide +kernel
theorem dL_law_1590 : decode cL_law 1590 = .ok (.iconst 1, 1) := by decide +kernel
theorem dL_law_1591 : decode cL_law 1591 = .ok (.ireturn, 1) := by decide +kernel
