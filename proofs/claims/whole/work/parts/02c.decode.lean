theorem dX8_later_20 : decode cX8_later 20 = .ok (.bipush 24, 2) := by decide +kernel
theorem dX8_later_22 : decode cX8_later 22 = .ok (.if_icmp .le 7, 3) := by decide +kernel
theorem dX8_later_25 : decode cX8_later 25 = .ok (.sipush (-1002), 3) := by decide +kernel
theorem dX8_later_28 : decode cX8_later 28 = .ok (.ireturn, 1) := by decide +kernel
theorem dX8_later_29 : decode cX8_later 29 = .ok (.aload_n 0, 1) := by decide +kernel
theorem dX8_later_30 : decode cX8_later 30 = .ok (.getfield 48, 3) := by decide +kernel
theorem dX8_later_33 : decode cX8_later 33 = .ok (.getfield 184, 3) := by decide +kernel
theorem dX8_later_36 : decode cX8_later 36 = .ok (.iload_n 1, 1) := by decide +kernel
theorem dX8_later_37 : decode cX8_later 37 = .ok (.iaload, 1) := by decide +kernel
theorem dX8_later_38 : decode cX8_later 38 = .ok (.iload_n 2, 1) := by decide +kernel
theorem dX8_later_39 : decode cX8_later 39 = .ok (.iadd, 1) := by decide +kernel
theorem dX8_later_40 : decode cX8_later 40 = .ok (.aload_n 0, 1) := by decide +kernel
theorem dX8_later_41 : decode cX8_later 41 = .ok (.getfield 28, 3) := by decide +kernel
theorem dX8_later_44 : decode cX8_later 44 = .ok (.getfield 122, 3) := by decide +kernel
theorem dX8_later_47 : decode cX8_later 47 = .ok (.invokestatic 259, 3) := by decide +kernel
theorem dX8_later_50 : decode cX8_later 50 = .ok (.istore_n 3, 1) := by decide +kernel
theorem dX8_later_51 : decode cX8_later 51 = .ok (.aload_n 0, 1) := by decide +kernel
theorem dX8_later_52 : decode cX8_later 52 = .ok (.getfield 28, 3) := by decide +kernel
theorem dX8_later_55 : decode cX8_later 55 = .ok (.aload_n 0, 1) := by decide +kernel
theorem dX8_later_56 : decode cX8_later 56 = .ok (.getfield 48, 3) := by decide +kernel
theorem dX8_later_59 : decode cX8_later 59 = .ok (.getfield 187, 3) := by decide +kernel
theorem dX8_later_62 : decode cX8_later 62 = .ok (.iload_n 1, 1) := by decide +kernel
theorem dX8_later_63 : decode cX8_later 63 = .ok (.iaload, 1) := by decide +kernel
theorem dX8_later_64 : decode cX8_later 64 = .ok (.invokevirtual 264, 3) := by decide +kernel
theorem dX8_later_67 : decode cX8_later 67 = .ok (.aload_n 0, 1) := by decide +kernel
theorem dX8_later_68 : decode cX8_later 68 = .ok (.getfield 28, 3) := by decide +kernel
theorem dX8_later_71 : decode cX8_later 71 = .ok (.iload_n 3, 1) := by decide +kernel
theorem dX8_later_72 : decode cX8_later 72 = .ok (.invokestatic 244, 3) := by decide +kernel
theorem dX8_later_75 : decode cX8_later 75 = .ok (.invokevirtual 264, 3) := by decide +kernel
theorem dX8_later_78 : decode cX8_later 78 = .ok (.isub, 1) := by decide +kernel
theorem dX8_later_79 : decode cX8_later 79 = .ok (.ireturn, 1) := by decide +kernel
theorem dX8_release_0 : decode cX8_release 0 = .ok (.aload_n 0, 1) := by decide +kernel
theorem dX8_release_1 : decode cX8_release 1 = .ok (.getfield 48, 3) := by decide +kernel
theorem dX8_release_4 : decode cX8_release 4 = .ok (.iload_n 1, 1) := by decide +kernel
theorem dX8_release_5 : decode cX8_release 5 = .ok (.invokevirtual 181, 3) := by decide +kernel
theorem dX8_release_8 : decode cX8_release 8 = .ok (.ifCond .ne 7, 3) := by decide +kernel
theorem dX8_release_11 : decode cX8_release 11 = .ok (.sipush (-1001), 3) := by decide +kernel
theorem dX8_release_14 : decode cX8_release 14 = .ok (.ireturn, 1) := by decide +kernel
theorem dX8_release_15 : decode cX8_release 15 = .ok (.iload_n 2, 1) := by decide +kernel
theorem dX8_release_16 : decode cX8_release 16 = .ok (.invokestatic 267, 3) := by decide +kernel
theorem dX8_release_19 : decode cX8_release 19 = .ok (.ifCond .ne 7, 3) := by decide +kernel
theorem dX8_release_22 : decode cX8_release 22 = .ok (.sipush (-1002), 3) := by decide +kernel
theorem dX8_release_25 : decode cX8_release 25 = .ok (.ireturn, 1) := by decide +kernel
theorem dX8_release_26 : decode cX8_release 26 = .ok (.iload_n 2, 1) := by decide +kernel
theorem dX8_release_27 : decode cX8_release 27 = .ok (.aload_n 0, 1) := by decide +kernel
theorem dX8_release_28 : decode cX8_release 28 = .ok (.getfield 48, 3) := by decide +kernel
theorem dX8_release_31 : decode cX8_release 31 = .ok (.invokevirtual 270, 3) := by decide +kernel
theorem dX8_release_34 : decode cX8_release 34 = .ok (.if_icmp .ge 7, 3) := by decide +kernel
theorem dX8_release_37 : decode cX8_release 37 = .ok (.sipush (-1003), 3) := by decide +kernel
theorem dX8_release_40 : decode cX8_release 40 = .ok (.ireturn, 1) := by decide +kernel
theorem dX8_release_41 : decode cX8_release 41 = .ok (.aload_n 0, 1) := by decide +kernel
theorem dX8_release_42 : decode cX8_release 42 = .ok (.getfield 48, 3) := by decide +kernel
theorem dX8_release_45 : decode cX8_release 45 = .ok (.getfield 119, 3) := by decide +kernel
theorem dX8_release_48 : decode cX8_release 48 = .ok (.bipush 20, 2) := by decide +kernel
theorem dX8_release_50 : decode cX8_release 50 = .ok (.if_icmp .lt 7, 3) := by decide +kernel
theorem dX8_release_53 : decode cX8_release 53 = .ok (.sipush (-1004), 3) := by decide +kernel
theorem dX8_release_56 : decode cX8_release 56 = .ok (.ireturn, 1) := by decide +kernel
theorem dX8_release_57 : decode cX8_release 57 = .ok (.aload_n 0, 1) := by decide +kernel
theorem dX8_release_58 : decode cX8_release 58 = .ok (.getfield 48, 3) := by decide +kernel
theorem dX8_release_61 : decode cX8_release 61 = .ok (.iload_n 1, 1) := by decide +kernel
theorem dX8_release_62 : decode cX8_release 62 = .ok (.iload_n 2, 1) := by decide +kernel
theorem dX8_release_63 : decode cX8_release 63 = .ok (.invokevirtual 274, 3) := by decide +kernel
theorem dX8_release_66 : decode cX8_release 66 = .ok (.ireturn, 1) := by decide +kernel
theorem dX8_released_0 : decode cX8_released 0 = .ok (.aload_n 0, 1) := by decide +kernel
theorem dX8_released_1 : decode cX8_released 1 = .ok (.getfield 48, 3) := by decide +kernel
theorem dX8_released_4 : decode cX8_released 4 = .ok (.iload_n 1, 1) := by decide +kernel
theorem dX8_released_5 : decode cX8_released 5 = .ok (.invokevirtual 277, 3) := by decide +kernel
theorem dX8_released_8 : decode cX8_released 8 = .ok (.ifCond .ne 7, 3) := by decide +kernel
theorem dX8_released_11 : decode cX8_released 11 = .ok (.sipush (-1001), 3) := by decide +kernel
theorem dX8_released_14 : decode cX8_released 14 = .ok (.ireturn, 1) := by decide +kernel
theorem dX8_released_15 : decode cX8_released 15 = .ok (.iload_n 2, 1) := by decide +kernel
theorem dX8_released_16 : decode cX8_released 16 = .ok (.tableswitch 79 0 3 #[32, 42, 52, 62], 32) := by decide +kernel
theorem dX8_released_48 : decode cX8_released 48 = .ok (.aload_n 0, 1) := by decide +kernel
theorem dX8_released_49 : decode cX8_released 49 = .ok (.getfield 48, 3) := by decide +kernel
theorem dX8_released_52 : decode cX8_released 52 = .ok (.getfield 280, 3) := by decide +kernel
theorem dX8_released_55 : decode cX8_released 55 = .ok (.iload_n 1, 1) := by decide +kernel
theorem dX8_released_56 : decode cX8_released 56 = .ok (.iaload, 1) := by decide +kernel
theorem dX8_released_57 : decode cX8_released 57 = .ok (.ireturn, 1) := by decide +kernel
theorem dX8_released_58 : decode cX8_released 58 = .ok (.aload_n 0, 1) := by decide +kernel
theorem dX8_released_59 : decode cX8_released 59 = .ok (.getfield 48, 3) := by decide +kernel
theorem dX8_released_62 : decode cX8_released 62 = .ok (.getfield 283, 3) := by decide +kernel
theorem dX8_released_65 : decode cX8_released 65 = .ok (.iload_n 1, 1) := by decide +kernel
theorem dX8_released_66 : decode cX8_released 66 = .ok (.iaload, 1) := by decide +kernel
theorem dX8_released_67 : decode cX8_released 67 = .ok (.ireturn, 1) := by decide +kernel
theorem dX8_released_68 : decode cX8_released 68 = .ok (.aload_n 0, 1) := by decide +kernel
theorem dX8_released_69 : decode cX8_released 69 = .ok (.getfield 48, 3) := by decide +kernel
theorem dX8_released_72 : decode cX8_released 72 = .ok (.getfield 286, 3) := by decide +kernel
theorem dX8_released_75 : decode cX8_released 75 = .ok (.iload_n 1, 1) := by decide +kernel
theorem dX8_released_76 : decode cX8_released 76 = .ok (.iaload, 1) := by decide +kernel
theorem dX8_released_77 : decode cX8_released 77 = .ok (.ireturn, 1) := by decide +kernel
theorem dX8_released_78 : decode cX8_released 78 = .ok (.aload_n 0, 1) := by decide +kernel
theorem dX8_released_79 : decode cX8_released 79 = .ok (.getfield 28, 3) := by decide +kernel
theorem dX8_released_82 : decode cX8_released 82 = .ok (.aload_n 0, 1) := by decide +kernel
theorem dX8_released_83 : decode cX8_released 83 = .ok (.getfield 48, 3) := by decide +kernel
theorem dX8_released_86 : decode cX8_released 86 = .ok (.getfield 286, 3) := by decide +kernel
theorem dX8_released_89 : decode cX8_released 89 = .ok (.iload_n 1, 1) := by decide +kernel
theorem dX8_released_90 : decode cX8_released 90 = .ok (.iaload, 1) := by decide +kernel
theorem dX8_released_91 : decode cX8_released 91 = .ok (.invokevirtual 190, 3) := by decide +kernel
theorem dX8_released_94 : decode cX8_released 94 = .ok (.ireturn, 1) := by decide +kernel
theorem dX8_released_95 : decode cX8_released 95 = .ok (.sipush (-1002), 3) := by decide +kernel
theorem dX8_released_98 : decode cX8_released 98 = .ok (.ireturn, 1) := by decide +kernel
theorem dX8_notes_0 : decode cX8_notes 0 = .ok (.aload_n 0, 1) := by decide +kernel
theorem dX8_notes_1 : decode cX8_notes 1 = .ok (.getfield 48, 3) := by decide +kernel
theorem dX8_notes_4 : decode cX8_notes 4 = .ok (.iload_n 1, 1) := by decide +kernel
theorem dX8_notes_5 : decode cX8_notes 5 = .ok (.invokevirtual 277, 3) := by decide +kernel
theorem dX8_notes_8 : decode cX8_notes 8 = .ok (.ifCond .eq 14, 3) := by decide +kernel
theorem dX8_notes_11 : decode cX8_notes 11 = .ok (.aload_n 0, 1) := by decide +kernel
theorem dX8_notes_12 : decode cX8_notes 12 = .ok (.getfield 48, 3) := by decide +kernel
theorem dX8_notes_15 : decode cX8_notes 15 = .ok (.iload_n 2, 1) := by decide +kernel
theorem dX8_notes_16 : decode cX8_notes 16 = .ok (.invokevirtual 277, 3) := by decide +kernel
theorem dX8_notes_19 : decode cX8_notes 19 = .ok (.ifCond .ne 7, 3) := by decide +kernel
theorem dX8_notes_22 : decode cX8_notes 22 = .ok (.sipush (-1001), 3) := by decide +kernel
theorem dX8_notes_25 : decode cX8_notes 25 = .ok (.ireturn, 1) := by decide +kernel
theorem dX8_notes_26 : decode cX8_notes 26 = .ok (.aload_n 0, 1) := by decide +kernel
theorem dX8_notes_27 : decode cX8_notes 27 = .ok (.getfield 48, 3) := by decide +kernel
theorem dX8_notes_30 : decode cX8_notes 30 = .ok (.getfield 286, 3) := by decide +kernel
theorem dX8_notes_33 : decode cX8_notes 33 = .ok (.iload_n 1, 1) := by decide +kernel
theorem dX8_notes_34 : decode cX8_notes 34 = .ok (.iaload, 1) := by decide +kernel
theorem dX8_notes_35 : decode cX8_notes 35 = .ok (.istore 4, 2) := by decide +kernel
theorem dX8_notes_37 : decode cX8_notes 37 = .ok (.aload_n 0, 1) := by decide +kernel
theorem dX8_notes_38 : decode cX8_notes 38 = .ok (.getfield 48, 3) := by decide +kernel
theorem dX8_notes_41 : decode cX8_notes 41 = .ok (.getfield 286, 3) := by decide +kernel
theorem dX8_notes_44 : decode cX8_notes 44 = .ok (.iload_n 2, 1) := by decide +kernel
theorem dX8_notes_45 : decode cX8_notes 45 = .ok (.iaload, 1) := by decide +kernel
theorem dX8_notes_46 : decode cX8_notes 46 = .ok (.istore 5, 2) := by decide +kernel
theorem dX8_notes_48 : decode cX8_notes 48 = .ok (.iload_n 3, 1) := by decide +kernel
theorem dX8_notes_49 : decode cX8_notes 49 = .ok (.tableswitch 91 0 3 #[31, 39, 47, 69], 31) := by decide +kernel
theorem dX8_notes_80 : decode cX8_notes 80 = .ok (.iload 5, 2) := by decide +kernel
theorem dX8_notes_82 : decode cX8_notes 82 = .ok (.iload 4, 2) := by decide +kernel
theorem dX8_notes_84 : decode cX8_notes 84 = .ok (.iconst (-1), 1) := by decide +kernel
theorem dX8_notes_85 : decode cX8_notes 85 = .ok (.ixor, 1) := by decide +kernel
theorem dX8_notes_86 : decode cX8_notes 86 = .ok (.iand, 1) := by decide +kernel
theorem dX8_notes_87 : decode cX8_notes 87 = .ok (.ireturn, 1) := by decide +kernel
theorem dX8_notes_88 : decode cX8_notes 88 = .ok (.iload 4, 2) := by decide +kernel
theorem dX8_notes_90 : decode cX8_notes 90 = .ok (.iload 5, 2) := by decide +kernel
theorem dX8_notes_92 : decode cX8_notes 92 = .ok (.iconst (-1), 1) := by decide +kernel
theorem dX8_notes_93 : decode cX8_notes 93 = .ok (.ixor, 1) := by decide +kernel
theorem dX8_notes_94 : decode cX8_notes 94 = .ok (.iand, 1) := by decide +kernel
theorem dX8_notes_95 : decode cX8_notes 95 = .ok (.ireturn, 1) := by decide +kernel
theorem dX8_notes_96 : decode cX8_notes 96 = .ok (.aload_n 0, 1) := by decide +kernel
theorem dX8_notes_97 : decode cX8_notes 97 = .ok (.getfield 28, 3) := by decide +kernel
theorem dX8_notes_100 : decode cX8_notes 100 = .ok (.iload 4, 2) := by decide +kernel
theorem dX8_notes_102 : decode cX8_notes 102 = .ok (.invokevirtual 190, 3) := by decide +kernel
theorem dX8_notes_105 : decode cX8_notes 105 = .ok (.aload_n 0, 1) := by decide +kernel
theorem dX8_notes_106 : decode cX8_notes 106 = .ok (.getfield 28, 3) := by decide +kernel
theorem dX8_notes_109 : decode cX8_notes 109 = .ok (.iload 5, 2) := by decide +kernel
theorem dX8_notes_111 : decode cX8_notes 111 = .ok (.invokevirtual 190, 3) := by decide +kernel
theorem dX8_notes_114 : decode cX8_notes 114 = .ok (.iconst (-1), 1) := by decide +kernel
theorem dX8_notes_115 : decode cX8_notes 115 = .ok (.ixor, 1) := by decide +kernel
theorem dX8_notes_116 : decode cX8_notes 116 = .ok (.iand, 1) := by decide +kernel
theorem dX8_notes_117 : decode cX8_notes 117 = .ok (.ireturn, 1) := by decide +kernel
theorem dX8_notes_118 : decode cX8_notes 118 = .ok (.aload_n 0, 1) := by decide +kernel
theorem dX8_notes_119 : decode cX8_notes 119 = .ok (.getfield 28, 3) := by decide +kernel
theorem dX8_notes_122 : decode cX8_notes 122 = .ok (.iload 5, 2) := by decide +kernel
theorem dX8_notes_124 : decode cX8_notes 124 = .ok (.invokevirtual 190, 3) := by decide +kernel
theorem dX8_notes_127 : decode cX8_notes 127 = .ok (.aload_n 0, 1) := by decide +kernel
theorem dX8_notes_128 : decode cX8_notes 128 = .ok (.getfield 28, 3) := by decide +kernel
theorem dX8_notes_131 : decode cX8_notes 131 = .ok (.iload 4, 2) := by decide +kernel
theorem dX8_notes_133 : decode cX8_notes 133 = .ok (.invokevirtual 190, 3) := by decide +kernel
theorem dX8_notes_136 : decode cX8_notes 136 = .ok (.iconst (-1), 1) := by decide +kernel
theorem dX8_notes_137 : decode cX8_notes 137 = .ok (.ixor, 1) := by decide +kernel
theorem dX8_notes_138 : decode cX8_notes 138 = .ok (.iand, 1) := by decide +kernel
theorem dX8_notes_139 : decode cX8_notes 139 = .ok (.ireturn, 1) := by decide +kernel
theorem dX8_notes_140 : decode cX8_notes 140 = .ok (.sipush (-1002), 3) := by decide +kernel
theorem dX8_notes_143 : decode cX8_notes 143 = .ok (.ireturn, 1) := by decide +kernel
theorem dX8_differs_0 : decode cX8_differs 0 = .ok (.aload_n 0, 1) := by decide +kernel
theorem dX8_differs_1 : decode cX8_differs 1 = .ok (.getfield 48, 3) := by decide +kernel
theorem dX8_differs_4 : decode cX8_differs 4 = .ok (.iload_n 1, 1) := by decide +kernel
theorem dX8_differs_5 : decode cX8_differs 5 = .ok (.invokevirtual 277, 3) := by decide +kernel
theorem dX8_differs_8 : decode cX8_differs 8 = .ok (.ifCond .eq 14, 3) := by decide +kernel
theorem dX8_differs_11 : decode cX8_differs 11 = .ok (.aload_n 0, 1) := by decide +kernel
theorem dX8_differs_12 : decode cX8_differs 12 = .ok (.getfield 48, 3) := by decide +kernel
theorem dX8_differs_15 : decode cX8_differs 15 = .ok (.iload_n 2, 1) := by decide +kernel
theorem dX8_differs_16 : decode cX8_differs 16 = .ok (.invokevirtual 277, 3) := by decide +kernel
theorem dX8_differs_19 : decode cX8_differs 19 = .ok (.ifCond .ne 7, 3) := by decide +kernel
theorem dX8_differs_22 : decode cX8_differs 22 = .ok (.sipush (-1001), 3) := by decide +kernel
theorem dX8_differs_25 : decode cX8_differs 25 = .ok (.ireturn, 1) := by decide +kernel
theorem dX8_differs_26 : decode cX8_differs 26 = .ok (.iconst 0, 1) := by decide +kernel
theorem dX8_differs_27 : decode cX8_differs 27 = .ok (.istore_n 3, 1) := by decide +kernel
theorem dX8_differs_28 : decode cX8_differs 28 = .ok (.iconst 0, 1) := by decide +kernel
theorem dX8_differs_29 : decode cX8_differs 29 = .ok (.istore 4, 2) := by decide +kernel
theorem dX8_differs_31 : decode cX8_differs 31 = .ok (.iload 4, 2) := by decide +kernel
theorem dX8_differs_33 : decode cX8_differs 33 = .ok (.bipush 16, 2) := by decide +kernel
theorem dX8_differs_35 : decode cX8_differs 35 = .ok (.if_icmp .ge 49, 3) := by decide +kernel
theorem dX8_differs_38 : decode cX8_differs 38 = .ok (.aload_n 0, 1) := by decide +kernel
theorem dX8_differs_39 : decode cX8_differs 39 = .ok (.getfield 48, 3) := by decide +kernel
theorem dX8_differs_42 : decode cX8_differs 42 = .ok (.getfield 289, 3) := by decide +kernel
theorem dX8_differs_45 : decode cX8_differs 45 = .ok (.iload_n 1, 1) := by decide +kernel
theorem dX8_differs_46 : decode cX8_differs 46 = .ok (.bipush 16, 2) := by decide +kernel
theorem dX8_differs_48 : decode cX8_differs 48 = .ok (.imul, 1) := by decide +kernel
theorem dX8_differs_49 : decode cX8_differs 49 = .ok (.iload 4, 2) := by decide +kernel
theorem dX8_differs_51 : decode cX8_differs 51 = .ok (.iadd, 1) := by decide +kernel
theorem dX8_differs_52 : decode cX8_differs 52 = .ok (.iaload, 1) := by decide +kernel
theorem dX8_differs_53 : decode cX8_differs 53 = .ok (.aload_n 0, 1) := by decide +kernel
theorem dX8_differs_54 : decode cX8_differs 54 = .ok (.getfield 48, 3) := by decide +kernel
theorem dX8_differs_57 : decode cX8_differs 57 = .ok (.getfield 289, 3) := by decide +kernel
theorem dX8_differs_60 : decode cX8_differs 60 = .ok (.iload_n 2, 1) := by decide +kernel
theorem dX8_differs_61 : decode cX8_differs 61 = .ok (.bipush 16, 2) := by decide +kernel
theorem dX8_differs_63 : decode cX8_differs 63 = .ok (.imul, 1) := by decide +kernel
theorem dX8_differs_64 : decode cX8_differs 64 = .ok (.iload 4, 2) := by decide +kernel
theorem dX8_differs_66 : decode cX8_differs 66 = .ok (.iadd, 1) := by decide +kernel
theorem dX8_differs_67 : decode cX8_differs 67 = .ok (.iaload, 1) := by decide +kernel
theorem dX8_differs_68 : decode cX8_differs 68 = .ok (.if_icmp .eq 10, 3) := by decide +kernel
theorem dX8_differs_71 : decode cX8_differs 71 = .ok (.iload_n 3, 1) := by decide +kernel
theorem dX8_differs_72 : decode cX8_differs 72 = .ok (.iconst 1, 1) := by decide +kernel
theorem dX8_differs_73 : decode cX8_differs 73 = .ok (.iload 4, 2) := by decide +kernel
theorem dX8_differs_75 : decode cX8_differs 75 = .ok (.ishl, 1) := by decide +kernel
theorem dX8_differs_76 : decode cX8_differs 76 = .ok (.ior, 1) := by decide +kernel
theorem dX8_differs_77 : decode cX8_differs 77 = .ok (.istore_n 3, 1) := by decide +kernel
theorem dX8_differs_78 : decode cX8_differs 78 = .ok (.iinc 4 1, 3) := by decide +kernel
theorem dX8_differs_81 : decode cX8_differs 81 = .ok (.goto (-50), 3) := by decide +kernel
theorem dX8_differs_84 : decode cX8_differs 84 = .ok (.iload_n 3, 1) := by decide +kernel
theorem dX8_differs_85 : decode cX8_differs 85 = .ok (.ireturn, 1) := by decide +kernel
theorem dX8_freed_0 : decode cX8_freed 0 = .ok (.aload_n 0, 1) := by decide +kernel
theorem dX8_freed_1 : decode cX8_freed 1 = .ok (.getfield 28, 3) := by decide +kernel
theorem dX8_freed_4 : decode cX8_freed 4 = .ok (.iload_n 1, 1) := by decide +kernel
theorem dX8_freed_5 : decode cX8_freed 5 = .ok (.invokevirtual 162, 3) := by decide +kernel
theorem dX8_freed_8 : decode cX8_freed 8 = .ok (.ifCond .eq 14, 3) := by decide +kernel
theorem dX8_freed_11 : decode cX8_freed 11 = .ok (.aload_n 0, 1) := by decide +kernel
theorem dX8_freed_12 : decode cX8_freed 12 = .ok (.getfield 48, 3) := by decide +kernel
theorem dX8_freed_15 : decode cX8_freed 15 = .ok (.iload_n 2, 1) := by decide +kernel
theorem dX8_freed_16 : decode cX8_freed 16 = .ok (.invokevirtual 181, 3) := by decide +kernel
theorem dX8_freed_19 : decode cX8_freed 19 = .ok (.ifCond .ne 7, 3) := by decide +kernel
theorem dX8_freed_22 : decode cX8_freed 22 = .ok (.sipush (-1001), 3) := by decide +kernel
theorem dX8_freed_25 : decode cX8_freed 25 = .ok (.ireturn, 1) := by decide +kernel
theorem dX8_freed_26 : decode cX8_freed 26 = .ok (.iconst (-1), 1) := by decide +kernel
theorem dX8_freed_27 : decode cX8_freed 27 = .ok (.istore_n 3, 1) := by decide +kernel
theorem dX8_freed_28 : decode cX8_freed 28 = .ok (.iconst 0, 1) := by decide +kernel
theorem dX8_freed_29 : decode cX8_freed 29 = .ok (.istore 4, 2) := by decide +kernel
theorem dX8_freed_31 : decode cX8_freed 31 = .ok (.iconst 0, 1) := by decide +kernel
theorem dX8_freed_32 : decode cX8_freed 32 = .ok (.istore 5, 2) := by decide +kernel
theorem dX8_freed_34 : decode cX8_freed 34 = .ok (.iload 5, 2) := by decide +kernel
theorem dX8_freed_36 : decode cX8_freed 36 = .ok (.aload_n 0, 1) := by decide +kernel
theorem dX8_freed_37 : decode cX8_freed 37 = .ok (.getfield 48, 3) := by decide +kernel
theorem dX8_freed_40 : decode cX8_freed 40 = .ok (.getfield 119, 3) := by decide +kernel
theorem dX8_freed_43 : decode cX8_freed 43 = .ok (.if_icmp .ge 57, 3) := by decide +kernel
theorem dX8_freed_46 : decode cX8_freed 46 = .ok (.aload_n 0, 1) := by decide +kernel
theorem dX8_freed_47 : decode cX8_freed 47 = .ok (.getfield 48, 3) := by decide +kernel
theorem dX8_freed_50 : decode cX8_freed 50 = .ok (.getfield 280, 3) := by decide +kernel
theorem dX8_freed_53 : decode cX8_freed 53 = .ok (.iload 5, 2) := by decide +kernel
theorem dX8_freed_55 : decode cX8_freed 55 = .ok (.iaload, 1) := by decide +kernel
theorem dX8_freed_56 : decode cX8_freed 56 = .ok (.iload_n 2, 1) := by decide +kernel
theorem dX8_freed_57 : decode cX8_freed 57 = .ok (.if_icmp .eq 6, 3) := by decide +kernel
theorem dX8_freed_60 : decode cX8_freed 60 = .ok (.goto 34, 3) := by decide +kernel
theorem dX8_freed_63 : decode cX8_freed 63 = .ok (.aload_n 0, 1) := by decide +kernel
theorem dX8_freed_64 : decode cX8_freed 64 = .ok (.iload 5, 2) := by decide +kernel
theorem dX8_freed_66 : decode cX8_freed 66 = .ok (.iload_n 1, 1) := by decide +kernel
theorem dX8_freed_67 : decode cX8_freed 67 = .ok (.invokevirtual 292, 3) := by decide +kernel
theorem dX8_freed_70 : decode cX8_freed 70 = .ok (.ifCond .ne 11, 3) := by decide +kernel
theorem dX8_freed_73 : decode cX8_freed 73 = .ok (.iconst 1, 1) := by decide +kernel
theorem dX8_freed_74 : decode cX8_freed 74 = .ok (.istore 4, 2) := by decide +kernel
theorem dX8_freed_76 : decode cX8_freed 76 = .ok (.iconst (-1), 1) := by decide +kernel
theorem dX8_freed_77 : decode cX8_freed 77 = .ok (.istore_n 3, 1) := by decide +kernel
theorem dX8_freed_78 : decode cX8_freed 78 = .ok (.goto 16, 3) := by decide +kernel
theorem dX8_freed_81 : decode cX8_freed 81 = .ok (.iload 4, 2) := by decide +kernel
theorem dX8_freed_83 : decode cX8_freed 83 = .ok (.ifCond .eq 11, 3) := by decide +kernel
theorem dX8_freed_86 : decode cX8_freed 86 = .ok (.iload_n 3, 1) := by decide +kernel
theorem dX8_freed_87 : decode cX8_freed 87 = .ok (.iconst (-1), 1) := by decide +kernel
theorem dX8_freed_88 : decode cX8_freed 88 = .ok (.if_icmp .ne 6, 3) := by decide +kernel
theorem dX8_freed_91 : decode cX8_freed 91 = .ok (.iload 5, 2) := by decide +kernel
theorem dX8_freed_93 : decode cX8_freed 93 = .ok (.istore_n 3, 1) := by decide +kernel
theorem dX8_freed_94 : decode cX8_freed 94 = .ok (.iinc 5 1, 3) := by decide +kernel
theorem dX8_freed_97 : decode cX8_freed 97 = .ok (.goto (-63), 3) := by decide +kernel
theorem dX8_freed_100 : decode cX8_freed 100 = .ok (.iload_n 3, 1) := by decide +kernel
theorem dX8_freed_101 : decode cX8_freed 101 = .ok (.ireturn, 1) := by decide +kernel
theorem dX8_danger_0 : decode cX8_danger 0 = .ok (.aload_n 0, 1) := by decide +kernel
theorem dX8_danger_1 : decode cX8_danger 1 = .ok (.getfield 28, 3) := by decide +kernel
theorem dX8_danger_4 : decode cX8_danger 4 = .ok (.iload_n 1, 1) := by decide +kernel
theorem dX8_danger_5 : decode cX8_danger 5 = .ok (.invokevirtual 162, 3) := by decide +kernel
theorem dX8_danger_8 : decode cX8_danger 8 = .ok (.ifCond .ne 7, 3) := by decide +kernel
theorem dX8_danger_11 : decode cX8_danger 11 = .ok (.sipush (-1001), 3) := by decide +kernel
theorem dX8_danger_14 : decode cX8_danger 14 = .ok (.ireturn, 1) := by decide +kernel
theorem dX8_danger_15 : decode cX8_danger 15 = .ok (.iload_n 2, 1) := by decide +kernel
theorem dX8_danger_16 : decode cX8_danger 16 = .ok (.invokestatic 267, 3) := by decide +kernel
theorem dX8_danger_19 : decode cX8_danger 19 = .ok (.ifCond .eq 15, 3) := by decide +kernel
theorem dX8_danger_22 : decode cX8_danger 22 = .ok (.iload_n 3, 1) := by decide +kernel
theorem dX8_danger_23 : decode cX8_danger 23 = .ok (.invokestatic 267, 3) := by decide +kernel
theorem dX8_danger_26 : decode cX8_danger 26 = .ok (.ifCond .eq 8, 3) := by decide +kernel
theorem dX8_danger_29 : decode cX8_danger 29 = .ok (.iload_n 3, 1) := by decide +kernel
theorem dX8_danger_30 : decode cX8_danger 30 = .ok (.iload_n 2, 1) := by decide +kernel
theorem dX8_danger_31 : decode cX8_danger 31 = .ok (.if_icmp .ge 7, 3) := by decide +kernel
theorem dX8_danger_34 : decode cX8_danger 34 = .ok (.sipush (-1002), 3) := by decide +kernel
theorem dX8_danger_37 : decode cX8_danger 37 = .ok (.ireturn, 1) := by decide +kernel
theorem dX8_danger_38 : decode cX8_danger 38 = .ok (.iconst 0, 1) := by decide +kernel
theorem dX8_danger_39 : decode cX8_danger 39 = .ok (.istore 4, 2) := by decide +kernel
theorem dX8_danger_41 : decode cX8_danger 41 = .ok (.iconst 0, 1) := by decide +kernel
theorem dX8_danger_42 : decode cX8_danger 42 = .ok (.istore 5, 2) := by decide +kernel
theorem dX8_danger_44 : decode cX8_danger 44 = .ok (.iload 5, 2) := by decide +kernel
theorem dX8_danger_46 : decode cX8_danger 46 = .ok (.aload_n 0, 1) := by decide +kernel
theorem dX8_danger_47 : decode cX8_danger 47 = .ok (.getfield 48, 3) := by decide +kernel
theorem dX8_danger_50 : decode cX8_danger 50 = .ok (.getfield 119, 3) := by decide +kernel
theorem dX8_danger_53 : decode cX8_danger 53 = .ok (.if_icmp .ge 90, 3) := by decide +kernel
theorem dX8_danger_56 : decode cX8_danger 56 = .ok (.aload_n 0, 1) := by decide +kernel
theorem dX8_danger_57 : decode cX8_danger 57 = .ok (.iload 5, 2) := by decide +kernel
theorem dX8_danger_59 : decode cX8_danger 59 = .ok (.iload_n 1, 1) := by decide +kernel
theorem dX8_danger_60 : decode cX8_danger 60 = .ok (.invokevirtual 292, 3) := by decide +kernel
theorem dX8_danger_63 : decode cX8_danger 63 = .ok (.ifCond .ne 74, 3) := by decide +kernel
theorem dX8_danger_66 : decode cX8_danger 66 = .ok (.aload_n 0, 1) := by decide +kernel
theorem dX8_danger_67 : decode cX8_danger 67 = .ok (.getfield 48, 3) := by decide +kernel
theorem dX8_danger_70 : decode cX8_danger 70 = .ok (.iload 5, 2) := by decide +kernel
theorem dX8_danger_72 : decode cX8_danger 72 = .ok (.invokevirtual 295, 3) := by decide +kernel
theorem dX8_danger_75 : decode cX8_danger 75 = .ok (.istore 6, 2) := by decide +kernel
theorem dX8_danger_77 : decode cX8_danger 77 = .ok (.iload 6, 2) := by decide +kernel
theorem dX8_danger_79 : decode cX8_danger 79 = .ok (.iconst (-1), 1) := by decide +kernel
theorem dX8_danger_80 : decode cX8_danger 80 = .ok (.if_icmp .ne 7, 3) := by decide +kernel
theorem dX8_danger_83 : decode cX8_danger 83 = .ok (.iload_n 3, 1) := by decide +kernel
theorem dX8_danger_84 : decode cX8_danger 84 = .ok (.goto 19, 3) := by decide +kernel
theorem dX8_danger_87 : decode cX8_danger 87 = .ok (.iload_n 3, 1) := by decide +kernel
theorem dX8_danger_88 : decode cX8_danger 88 = .ok (.aload_n 0, 1) := by decide +kernel
theorem dX8_danger_89 : decode cX8_danger 89 = .ok (.getfield 48, 3) := by decide +kernel
theorem dX8_danger_92 : decode cX8_danger 92 = .ok (.getfield 283, 3) := by decide +kernel
theorem dX8_danger_95 : decode cX8_danger 95 = .ok (.iload 6, 2) := by decide +kernel
theorem dX8_danger_97 : decode cX8_danger 97 = .ok (.iaload, 1) := by decide +kernel
theorem dX8_danger_98 : decode cX8_danger 98 = .ok (.iconst 1, 1) := by decide +kernel
theorem dX8_danger_99 : decode cX8_danger 99 = .ok (.isub, 1) := by decide +kernel
theorem dX8_danger_100 : decode cX8_danger 100 = .ok (.invokestatic 259, 3) := by decide +kernel
theorem dX8_danger_103 : decode cX8_danger 103 = .ok (.istore 7, 2) := by decide +kernel
theorem dX8_danger_105 : decode cX8_danger 105 = .ok (.iload_n 2, 1) := by decide +kernel
theorem dX8_danger_106 : decode cX8_danger 106 = .ok (.aload_n 0, 1) := by decide +kernel
theorem dX8_danger_107 : decode cX8_danger 107 = .ok (.getfield 48, 3) := by decide +kernel
theorem dX8_danger_110 : decode cX8_danger 110 = .ok (.getfield 283, 3) := by decide +kernel
theorem dX8_danger_113 : decode cX8_danger 113 = .ok (.iload 5, 2) := by decide +kernel
theorem dX8_danger_115 : decode cX8_danger 115 = .ok (.iaload, 1) := by decide +kernel
theorem dX8_danger_116 : decode cX8_danger 116 = .ok (.invokestatic 298, 3) := by decide +kernel
theorem dX8_danger_119 : decode cX8_danger 119 = .ok (.istore 8, 2) := by decide +kernel
theorem dX8_danger_121 : decode cX8_danger 121 = .ok (.iload 4, 2) := by decide +kernel
theorem dX8_danger_123 : decode cX8_danger 123 = .ok (.iconst 0, 1) := by decide +kernel
theorem dX8_danger_124 : decode cX8_danger 124 = .ok (.iload 7, 2) := by decide +kernel
theorem dX8_danger_126 : decode cX8_danger 126 = .ok (.iload 8, 2) := by decide +kernel
theorem dX8_danger_128 : decode cX8_danger 128 = .ok (.isub, 1) := by decide +kernel
theorem dX8_danger_129 : decode cX8_danger 129 = .ok (.iconst 1, 1) := by decide +kernel
theorem dX8_danger_130 : decode cX8_danger 130 = .ok (.iadd, 1) := by decide +kernel
theorem dX8_danger_131 : decode cX8_danger 131 = .ok (.invokestatic 298, 3) := by decide +kernel
theorem dX8_danger_134 : decode cX8_danger 134 = .ok (.iadd, 1) := by decide +kernel
theorem dX8_danger_135 : decode cX8_danger 135 = .ok (.istore 4, 2) := by decide +kernel
theorem dX8_danger_137 : decode cX8_danger 137 = .ok (.iinc 5 1, 3) := by decide +kernel
theorem dX8_danger_140 : decode cX8_danger 140 = .ok (.goto (-96), 3) := by decide +kernel
theorem dX8_danger_143 : decode cX8_danger 143 = .ok (.iload 4, 2) := by decide +kernel
theorem dX8_danger_145 : decode cX8_danger 145 = .ok (.ireturn, 1) := by decide +kernel
theorem dX8_every_0 : decode cX8_every 0 = .ok (.aload_n 0, 1) := by decide +kernel
theorem dX8_every_1 : decode cX8_every 1 = .ok (.getfield 48, 3) := by decide +kernel
theorem dX8_every_4 : decode cX8_every 4 = .ok (.iload_n 1, 1) := by decide +kernel
theorem dX8_every_5 : decode cX8_every 5 = .ok (.invokevirtual 181, 3) := by decide +kernel
theorem dX8_every_8 : decode cX8_every 8 = .ok (.ifCond .ne 7, 3) := by decide +kernel
theorem dX8_every_11 : decode cX8_every 11 = .ok (.sipush (-1001), 3) := by decide +kernel
theorem dX8_every_14 : decode cX8_every 14 = .ok (.ireturn, 1) := by decide +kernel
theorem dX8_every_15 : decode cX8_every 15 = .ok (.iload_n 2, 1) := by decide +kernel
theorem dX8_every_16 : decode cX8_every 16 = .ok (.ifCond .lt 9, 3) := by decide +kernel
theorem dX8_every_19 : decode cX8_every 19 = .ok (.iload_n 2, 1) := by decide +kernel
theorem dX8_every_20 : decode cX8_every 20 = .ok (.bipush 99, 2) := by decide +kernel
theorem dX8_every_22 : decode cX8_every 22 = .ok (.if_icmp .le 7, 3) := by decide +kernel
theorem dX8_every_25 : decode cX8_every 25 = .ok (.sipush (-1002), 3) := by decide +kernel
theorem dX8_every_28 : decode cX8_every 28 = .ok (.ireturn, 1) := by decide +kernel
theorem dX8_every_29 : decode cX8_every 29 = .ok (.aload_n 0, 1) := by decide +kernel
theorem dX8_every_30 : decode cX8_every 30 = .ok (.getfield 48, 3) := by decide +kernel
theorem dX8_every_33 : decode cX8_every 33 = .ok (.getfield 196, 3) := by decide +kernel
theorem dX8_every_36 : decode cX8_every 36 = .ok (.iload_n 1, 1) := by decide +kernel
theorem dX8_every_37 : decode cX8_every 37 = .ok (.iaload, 1) := by decide +kernel
theorem dX8_every_38 : decode cX8_every 38 = .ok (.istore_n 3, 1) := by decide +kernel
theorem dX8_every_39 : decode cX8_every 39 = .ok (.aload_n 0, 1) := by decide +kernel
theorem dX8_every_40 : decode cX8_every 40 = .ok (.getfield 48, 3) := by decide +kernel
theorem dX8_every_43 : decode cX8_every 43 = .ok (.getfield 196, 3) := by decide +kernel
theorem dX8_every_46 : decode cX8_every 46 = .ok (.iload_n 1, 1) := by decide +kernel
theorem dX8_every_47 : decode cX8_every 47 = .ok (.iload_n 2, 1) := by decide +kernel
theorem dX8_every_48 : decode cX8_every 48 = .ok (.iastore, 1) := by decide +kernel
theorem dX8_every_49 : decode cX8_every 49 = .ok (.iload_n 3, 1) := by decide +kernel
theorem dX8_every_50 : decode cX8_every 50 = .ok (.ireturn, 1) := by decide +kernel
theorem dX8_soonest_0 : decode cX8_soonest 0 = .ok (.aload_n 0, 1) := by decide +kernel
theorem dX8_soonest_1 : decode cX8_soonest 1 = .ok (.getfield 28, 3) := by decide +kernel
theorem dX8_soonest_4 : decode cX8_soonest 4 = .ok (.iload_n 1, 1) := by decide +kernel
theorem dX8_soonest_5 : decode cX8_soonest 5 = .ok (.invokevirtual 162, 3) := by decide +kernel
theorem dX8_soonest_8 : decode cX8_soonest 8 = .ok (.ifCond .ne 7, 3) := by decide +kernel
theorem dX8_soonest_11 : decode cX8_soonest 11 = .ok (.sipush (-1001), 3) := by decide +kernel
theorem dX8_soonest_14 : decode cX8_soonest 14 = .ok (.ireturn, 1) := by decide +kernel
theorem dX8_soonest_15 : decode cX8_soonest 15 = .ok (.iload_n 2, 1) := by decide +kernel
theorem dX8_soonest_16 : decode cX8_soonest 16 = .ok (.invokestatic 267, 3) := by decide +kernel
theorem dX8_soonest_19 : decode cX8_soonest 19 = .ok (.ifCond .ne 7, 3) := by decide +kernel
theorem dX8_soonest_22 : decode cX8_soonest 22 = .ok (.sipush (-1002), 3) := by decide +kernel
theorem dX8_soonest_25 : decode cX8_soonest 25 = .ok (.ireturn, 1) := by decide +kernel
theorem dX8_soonest_26 : decode cX8_soonest 26 = .ok (.bipush (-2), 2) := by decide +kernel
theorem dX8_soonest_28 : decode cX8_soonest 28 = .ok (.istore_n 3, 1) := by decide +kernel
theorem dX8_soonest_29 : decode cX8_soonest 29 = .ok (.iconst 0, 1) := by decide +kernel
theorem dX8_soonest_30 : decode cX8_soonest 30 = .ok (.istore 4, 2) := by decide +kernel
theorem dX8_soonest_32 : decode cX8_soonest 32 = .ok (.iload 4, 2) := by decide +kernel
theorem dX8_soonest_34 : decode cX8_soonest 34 = .ok (.aload_n 0, 1) := by decide +kernel
theorem dX8_soonest_35 : decode cX8_soonest 35 = .ok (.getfield 48, 3) := by decide +kernel
theorem dX8_soonest_38 : decode cX8_soonest 38 = .ok (.getfield 116, 3) := by decide +kernel
theorem dX8_soonest_41 : decode cX8_soonest 41 = .ok (.if_icmp .ge 58, 3) := by decide +kernel
theorem dX8_soonest_44 : decode cX8_soonest 44 = .ok (.aload_n 0, 1) := by decide +kernel
theorem dX8_soonest_45 : decode cX8_soonest 45 = .ok (.getfield 28, 3) := by decide +kernel
theorem dX8_soonest_48 : decode cX8_soonest 48 = .ok (.aload_n 0, 1) := by decide +kernel
theorem dX8_soonest_49 : decode cX8_soonest 49 = .ok (.getfield 48, 3) := by decide +kernel
theorem dX8_soonest_52 : decode cX8_soonest 52 = .ok (.getfield 187, 3) := by decide +kernel
theorem dX8_soonest_55 : decode cX8_soonest 55 = .ok (.iload 4, 2) := by decide +kernel
theorem dX8_soonest_57 : decode cX8_soonest 57 = .ok (.iaload, 1) := by decide +kernel
theorem dX8_soonest_58 : decode cX8_soonest 58 = .ok (.invokevirtual 190, 3) := by decide +kernel
theorem dX8_soonest_61 : decode cX8_soonest 61 = .ok (.iload_n 1, 1) := by decide +kernel
theorem dX8_soonest_62 : decode cX8_soonest 62 = .ok (.invokestatic 202, 3) := by decide +kernel
theorem dX8_soonest_65 : decode cX8_soonest 65 = .ok (.ifCond .eq 28, 3) := by decide +kernel
theorem dX8_soonest_68 : decode cX8_soonest 68 = .ok (.aload_n 0, 1) := by decide +kernel
theorem dX8_soonest_69 : decode cX8_soonest 69 = .ok (.iload 4, 2) := by decide +kernel
theorem dX8_soonest_71 : decode cX8_soonest 71 = .ok (.iload_n 1, 1) := by decide +kernel
theorem dX8_soonest_72 : decode cX8_soonest 72 = .ok (.iload_n 2, 1) := by decide +kernel
theorem dX8_soonest_73 : decode cX8_soonest 73 = .ok (.invokevirtual 301, 3) := by decide +kernel
theorem dX8_soonest_76 : decode cX8_soonest 76 = .ok (.istore 5, 2) := by decide +kernel
theorem dX8_soonest_78 : decode cX8_soonest 78 = .ok (.iload 5, 2) := by decide +kernel
theorem dX8_soonest_80 : decode cX8_soonest 80 = .ok (.iconst (-1), 1) := by decide +kernel
theorem dX8_soonest_81 : decode cX8_soonest 81 = .ok (.if_icmp .ne 5, 3) := by decide +kernel
theorem dX8_soonest_84 : decode cX8_soonest 84 = .ok (.iconst (-1), 1) := by decide +kernel
theorem dX8_soonest_85 : decode cX8_soonest 85 = .ok (.ireturn, 1) := by decide +kernel
theorem dX8_soonest_86 : decode cX8_soonest 86 = .ok (.iload_n 3, 1) := by decide +kernel
theorem dX8_soonest_87 : decode cX8_soonest 87 = .ok (.iload 5, 2) := by decide +kernel
theorem dX8_soonest_89 : decode cX8_soonest 89 = .ok (.invokestatic 298, 3) := by decide +kernel
theorem dX8_soonest_92 : decode cX8_soonest 92 = .ok (.istore_n 3, 1) := by decide +kernel
theorem dX8_soonest_93 : decode cX8_soonest 93 = .ok (.iinc 4 1, 3) := by decide +kernel
theorem dX8_soonest_96 : decode cX8_soonest 96 = .ok (.goto (-64), 3) := by decide +kernel
theorem dX8_soonest_99 : decode cX8_soonest 99 = .ok (.iload_n 3, 1) := by decide +kernel
theorem dX8_soonest_100 : decode cX8_soonest 100 = .ok (.ireturn, 1) := by decide +kernel
theorem dX8_ready_0 : decode cX8_ready 0 = .ok (.aload_n 0, 1) := by decide +kernel
theorem dX8_ready_1 : decode cX8_ready 1 = .ok (.getfield 48, 3) := by decide +kernel
theorem dX8_ready_4 : decode cX8_ready 4 = .ok (.iload_n 1, 1) := by decide +kernel
theorem dX8_ready_5 : decode cX8_ready 5 = .ok (.invokevirtual 181, 3) := by decide +kernel
theorem dX8_ready_8 : decode cX8_ready 8 = .ok (.ifCond .ne 7, 3) := by decide +kernel
theorem dX8_ready_11 : decode cX8_ready 11 = .ok (.sipush (-1001), 3) := by decide +kernel
theorem dX8_ready_14 : decode cX8_ready 14 = .ok (.ireturn, 1) := by decide +kernel
theorem dX8_ready_15 : decode cX8_ready 15 = .ok (.iload_n 2, 1) := by decide +kernel
theorem dX8_ready_16 : decode cX8_ready 16 = .ok (.ifCond .eq 14, 3) := by decide +kernel
theorem dX8_ready_19 : decode cX8_ready 19 = .ok (.aload_n 0, 1) := by decide +kernel
theorem dX8_ready_20 : decode cX8_ready 20 = .ok (.getfield 63, 3) := by decide +kernel
theorem dX8_ready_23 : decode cX8_ready 23 = .ok (.iload_n 1, 1) := by decide +kernel
theorem dX8_ready_24 : decode cX8_ready 24 = .ok (.invokevirtual 305, 3) := by decide +kernel
theorem dX8_ready_27 : decode cX8_ready 27 = .ok (.goto 11, 3) := by decide +kernel
theorem dX8_ready_30 : decode cX8_ready 30 = .ok (.aload_n 0, 1) := by decide +kernel
theorem dX8_ready_31 : decode cX8_ready 31 = .ok (.getfield 63, 3) := by decide +kernel
theorem dX8_ready_34 : decode cX8_ready 34 = .ok (.iload_n 1, 1) := by decide +kernel
theorem dX8_ready_35 : decode cX8_ready 35 = .ok (.invokevirtual 308, 3) := by decide +kernel
theorem dX8_ready_38 : decode cX8_ready 38 = .ok (.ireturn, 1) := by decide +kernel
theorem dX8_orders_0 : decode cX8_orders 0 = .ok (.aload_n 0, 1) := by decide +kernel
theorem dX8_orders_1 : decode cX8_orders 1 = .ok (.iload_n 1, 1) := by decide +kernel
theorem dX8_orders_2 : decode cX8_orders 2 = .ok (.iload_n 2, 1) := by decide +kernel
theorem dX8_orders_3 : decode cX8_orders 3 = .ok (.invokevirtual 311, 3) := by decide +kernel
theorem dX8_orders_6 : decode cX8_orders 6 = .ok (.istore_n 3, 1) := by decide +kernel
theorem dX8_orders_7 : decode cX8_orders 7 = .ok (.iload_n 3, 1) := by decide +kernel
theorem dX8_orders_8 : decode cX8_orders 8 = .ok (.ifCond .eq 5, 3) := by decide +kernel
theorem dX8_orders_11 : decode cX8_orders 11 = .ok (.iload_n 3, 1) := by decide +kernel
theorem dX8_orders_12 : decode cX8_orders 12 = .ok (.ireturn, 1) := by decide +kernel
theorem dX8_orders_13 : decode cX8_orders 13 = .ok (.aload_n 0, 1) := by decide +kernel
theorem dX8_orders_14 : decode cX8_orders 14 = .ok (.getfield 81, 3) := by decide +kernel
theorem dX8_orders_17 : decode cX8_orders 17 = .ok (.iload_n 2, 1) := by decide +kernel
theorem dX8_orders_18 : decode cX8_orders 18 = .ok (.aload_n 0, 1) := by decide +kernel
theorem dX8_orders_19 : decode cX8_orders 19 = .ok (.getfield 48, 3) := by decide +kernel
theorem dX8_orders_22 : decode cX8_orders 22 = .ok (.getfield 199, 3) := by decide +kernel
theorem dX8_orders_25 : decode cX8_orders 25 = .ok (.iload_n 1, 1) := by decide +kernel
theorem dX8_orders_26 : decode cX8_orders 26 = .ok (.invokevirtual 314, 3) := by decide +kernel
theorem dX8_orders_29 : decode cX8_orders 29 = .ok (.aload_n 0, 1) := by decide +kernel
theorem dX8_orders_30 : decode cX8_orders 30 = .ok (.getfield 81, 3) := by decide +kernel
theorem dX8_orders_33 : decode cX8_orders 33 = .ok (.invokevirtual 318, 3) := by decide +kernel
theorem dX8_orders_36 : decode cX8_orders 36 = .ok (.ireturn, 1) := by decide +kernel
theorem dX8_order_0 : decode cX8_order 0 = .ok (.aload_n 0, 1) := by decide +kernel
theorem dX8_order_1 : decode cX8_order 1 = .ok (.iload_n 1, 1) := by decide +kernel
theorem dX8_order_2 : decode cX8_order 2 = .ok (.iload_n 2, 1) := by decide +kernel
theorem dX8_order_3 : decode cX8_order 3 = .ok (.invokevirtual 311, 3) := by decide +kernel
theorem dX8_order_6 : decode cX8_order 6 = .ok (.istore 5, 2) := by decide +kernel
theorem dX8_order_8 : decode cX8_order 8 = .ok (.iload 5, 2) := by decide +kernel
theorem dX8_order_10 : decode cX8_order 10 = .ok (.sipush (-1001), 3) := by decide +kernel
theorem dX8_order_13 : decode cX8_order 13 = .ok (.if_icmp .ne 7, 3) := by decide +kernel
theorem dX8_order_16 : decode cX8_order 16 = .ok (.sipush (-1001), 3) := by decide +kernel
theorem dX8_order_19 : decode cX8_order 19 = .ok (.ireturn, 1) := by decide +kernel
theorem dX8_order_20 : decode cX8_order 20 = .ok (.iload_n 3, 1) := by decide +kernel
theorem dX8_order_21 : decode cX8_order 21 = .ok (.ifCond .ge 7, 3) := by decide +kernel
theorem dX8_order_24 : decode cX8_order 24 = .ok (.sipush (-1002), 3) := by decide +kernel
theorem dX8_order_27 : decode cX8_order 27 = .ok (.ireturn, 1) := by decide +kernel
theorem dX8_order_28 : decode cX8_order 28 = .ok (.iload 5, 2) := by decide +kernel
theorem dX8_order_30 : decode cX8_order 30 = .ok (.ifCond .eq 6, 3) := by decide +kernel
theorem dX8_order_33 : decode cX8_order 33 = .ok (.iload 5, 2) := by decide +kernel
theorem dX8_order_35 : decode cX8_order 35 = .ok (.ireturn, 1) := by decide +kernel
theorem dX8_order_36 : decode cX8_order 36 = .ok (.aload_n 0, 1) := by decide +kernel
theorem dX8_order_37 : decode cX8_order 37 = .ok (.getfield 81, 3) := by decide +kernel
theorem dX8_order_40 : decode cX8_order 40 = .ok (.iload_n 2, 1) := by decide +kernel
theorem dX8_order_41 : decode cX8_order 41 = .ok (.aload_n 0, 1) := by decide +kernel
theorem dX8_order_42 : decode cX8_order 42 = .ok (.getfield 48, 3) := by decide +kernel
theorem dX8_order_45 : decode cX8_order 45 = .ok (.getfield 199, 3) := by decide +kernel
theorem dX8_order_48 : decode cX8_order 48 = .ok (.iload_n 1, 1) := by decide +kernel
theorem dX8_order_49 : decode cX8_order 49 = .ok (.invokevirtual 314, 3) := by decide +kernel
theorem dX8_order_52 : decode cX8_order 52 = .ok (.aload_n 0, 1) := by decide +kernel
theorem dX8_order_53 : decode cX8_order 53 = .ok (.getfield 81, 3) := by decide +kernel
theorem dX8_order_56 : decode cX8_order 56 = .ok (.iload_n 3, 1) := by decide +kernel
theorem dX8_order_57 : decode cX8_order 57 = .ok (.iload 4, 2) := by decide +kernel
theorem dX8_order_59 : decode cX8_order 59 = .ok (.invokevirtual 321, 3) := by decide +kernel
theorem dX8_order_62 : decode cX8_order 62 = .ok (.ireturn, 1) := by decide +kernel
theorem dX8_whence_0 : decode cX8_whence 0 = .ok (.aload_n 0, 1) := by decide +kernel
theorem dX8_whence_1 : decode cX8_whence 1 = .ok (.getfield 48, 3) := by decide +kernel
theorem dX8_whence_4 : decode cX8_whence 4 = .ok (.iload_n 1, 1) := by decide +kernel
theorem dX8_whence_5 : decode cX8_whence 5 = .ok (.invokevirtual 181, 3) := by decide +kernel
theorem dX8_whence_8 : decode cX8_whence 8 = .ok (.ifCond .eq 10, 3) := by decide +kernel
theorem dX8_whence_11 : decode cX8_whence 11 = .ok (.iload_n 2, 1) := by decide +kernel
theorem dX8_whence_12 : decode cX8_whence 12 = .ok (.invokestatic 153, 3) := by decide +kernel
theorem dX8_whence_15 : decode cX8_whence 15 = .ok (.ifCond .ne 7, 3) := by decide +kernel
theorem dX8_whence_18 : decode cX8_whence 18 = .ok (.sipush (-1001), 3) := by decide +kernel
theorem dX8_whence_21 : decode cX8_whence 21 = .ok (.ireturn, 1) := by decide +kernel
theorem dX8_whence_22 : decode cX8_whence 22 = .ok (.aload_n 0, 1) := by decide +kernel
theorem dX8_whence_23 : decode cX8_whence 23 = .ok (.getfield 48, 3) := by decide +kernel
theorem dX8_whence_26 : decode cX8_whence 26 = .ok (.getfield 199, 3) := by decide +kernel
theorem dX8_whence_29 : decode cX8_whence 29 = .ok (.iload_n 1, 1) := by decide +kernel
theorem dX8_whence_30 : decode cX8_whence 30 = .ok (.bipush 16, 2) := by decide +kernel
theorem dX8_whence_32 : decode cX8_whence 32 = .ok (.imul, 1) := by decide +kernel
theorem dX8_whence_33 : decode cX8_whence 33 = .ok (.iload_n 2, 1) := by decide +kernel
theorem dX8_whence_34 : decode cX8_whence 34 = .ok (.iadd, 1) := by decide +kernel
theorem dX8_whence_35 : decode cX8_whence 35 = .ok (.iaload, 1) := by decide +kernel
theorem dX8_whence_36 : decode cX8_whence 36 = .ok (.istore_n 3, 1) := by decide +kernel
theorem dX8_whence_37 : decode cX8_whence 37 = .ok (.aload_n 0, 1) := by decide +kernel
theorem dX8_whence_38 : decode cX8_whence 38 = .ok (.getfield 28, 3) := by decide +kernel
theorem dX8_whence_41 : decode cX8_whence 41 = .ok (.getfield 122, 3) := by decide +kernel
theorem dX8_whence_44 : decode cX8_whence 44 = .ok (.iconst 1, 1) := by decide +kernel
theorem dX8_whence_45 : decode cX8_whence 45 = .ok (.isub, 1) := by decide +kernel
theorem dX8_whence_46 : decode cX8_whence 46 = .ok (.istore 4, 2) := by decide +kernel
theorem dX8_whence_48 : decode cX8_whence 48 = .ok (.iload 4, 2) := by decide +kernel
theorem dX8_whence_50 : decode cX8_whence 50 = .ok (.ifCond .lt 65, 3) := by decide +kernel
theorem dX8_whence_53 : decode cX8_whence 53 = .ok (.aload_n 0, 1) := by decide +kernel
theorem dX8_whence_54 : decode cX8_whence 54 = .ok (.getfield 48, 3) := by decide +kernel
theorem dX8_whence_57 : decode cX8_whence 57 = .ok (.getfield 187, 3) := by decide +kernel
theorem dX8_whence_60 : decode cX8_whence 60 = .ok (.iload_n 1, 1) := by decide +kernel
theorem dX8_whence_61 : decode cX8_whence 61 = .ok (.iaload, 1) := by decide +kernel
theorem dX8_whence_62 : decode cX8_whence 62 = .ok (.iload 4, 2) := by decide +kernel
theorem dX8_whence_64 : decode cX8_whence 64 = .ok (.invokestatic 202, 3) := by decide +kernel
theorem dX8_whence_67 : decode cX8_whence 67 = .ok (.ifCond .eq 42, 3) := by decide +kernel
theorem dX8_whence_70 : decode cX8_whence 70 = .ok (.aload_n 0, 1) := by decide +kernel
theorem dX8_whence_71 : decode cX8_whence 71 = .ok (.getfield 28, 3) := by decide +kernel
theorem dX8_whence_74 : decode cX8_whence 74 = .ok (.getfield 136, 3) := by decide +kernel
theorem dX8_whence_77 : decode cX8_whence 77 = .ok (.iload 4, 2) := by decide +kernel
theorem dX8_whence_79 : decode cX8_whence 79 = .ok (.iaload, 1) := by decide +kernel
theorem dX8_whence_80 : decode cX8_whence 80 = .ok (.iload_n 2, 1) := by decide +kernel
theorem dX8_whence_81 : decode cX8_whence 81 = .ok (.invokestatic 202, 3) := by decide +kernel
theorem dX8_whence_84 : decode cX8_whence 84 = .ok (.ifCond .eq 25, 3) := by decide +kernel
theorem dX8_whence_87 : decode cX8_whence 87 = .ok (.aload_n 0, 1) := by decide +kernel
theorem dX8_whence_88 : decode cX8_whence 88 = .ok (.getfield 28, 3) := by decide +kernel
theorem dX8_whence_91 : decode cX8_whence 91 = .ok (.getfield 156, 3) := by decide +kernel
theorem dX8_whence_94 : decode cX8_whence 94 = .ok (.iload 4, 2) := by decide +kernel
theorem dX8_whence_96 : decode cX8_whence 96 = .ok (.bipush 16, 2) := by decide +kernel
theorem dX8_whence_98 : decode cX8_whence 98 = .ok (.imul, 1) := by decide +kernel
theorem dX8_whence_99 : decode cX8_whence 99 = .ok (.iload_n 2, 1) := by decide +kernel
theorem dX8_whence_100 : decode cX8_whence 100 = .ok (.iadd, 1) := by decide +kernel
theorem dX8_whence_101 : decode cX8_whence 101 = .ok (.iaload, 1) := by decide +kernel
theorem dX8_whence_102 : decode cX8_whence 102 = .ok (.iload_n 3, 1) := by decide +kernel
theorem dX8_whence_103 : decode cX8_whence 103 = .ok (.if_icmp .ne 6, 3) := by decide +kernel
theorem dX8_whence_106 : decode cX8_whence 106 = .ok (.iload 4, 2) := by decide +kernel
theorem dX8_whence_108 : decode cX8_whence 108 = .ok (.ireturn, 1) := by decide +kernel
theorem dX8_whence_109 : decode cX8_whence 109 = .ok (.iinc 4 (-1), 3) := by decide +kernel
theorem dX8_whence_112 : decode cX8_whence 112 = .ok (.goto (-64), 3) := by decide +kernel
theorem dX8_whence_115 : decode cX8_whence 115 = .ok (.iconst (-1), 1) := by decide +kernel
theorem dX8_whence_116 : decode cX8_whence 116 = .ok (.ireturn, 1) := by decide +kernel
theorem dX8_strayed_0 : decode cX8_strayed 0 = .ok (.aload_n 0, 1) := by decide +kernel
theorem dX8_strayed_1 : decode cX8_strayed 1 = .ok (.getfield 48, 3) := by decide +kernel
theorem dX8_strayed_4 : decode cX8_strayed 4 = .ok (.iload_n 1, 1) := by decide +kernel
theorem dX8_strayed_5 : decode cX8_strayed 5 = .ok (.invokevirtual 181, 3) := by decide +kernel
theorem dX8_strayed_8 : decode cX8_strayed 8 = .ok (.ifCond .ne 7, 3) := by decide +kernel
theorem dX8_strayed_11 : decode cX8_strayed 11 = .ok (.sipush (-1001), 3) := by decide +kernel
theorem dX8_strayed_14 : decode cX8_strayed 14 = .ok (.ireturn, 1) := by decide +kernel
theorem dX8_strayed_15 : decode cX8_strayed 15 = .ok (.iconst 0, 1) := by decide +kernel
theorem dX8_strayed_16 : decode cX8_strayed 16 = .ok (.istore_n 2, 1) := by decide +kernel
theorem dX8_strayed_17 : decode cX8_strayed 17 = .ok (.iconst 0, 1) := by decide +kernel
theorem dX8_strayed_18 : decode cX8_strayed 18 = .ok (.istore_n 3, 1) := by decide +kernel
theorem dX8_strayed_19 : decode cX8_strayed 19 = .ok (.iload_n 3, 1) := by decide +kernel
theorem dX8_strayed_20 : decode cX8_strayed 20 = .ok (.aload_n 0, 1) := by decide +kernel
theorem dX8_strayed_21 : decode cX8_strayed 21 = .ok (.getfield 28, 3) := by decide +kernel
theorem dX8_strayed_24 : decode cX8_strayed 24 = .ok (.getfield 122, 3) := by decide +kernel
theorem dX8_strayed_27 : decode cX8_strayed 27 = .ok (.if_icmp .ge 29, 3) := by decide +kernel
theorem dX8_strayed_30 : decode cX8_strayed 30 = .ok (.aload_n 0, 1) := by decide +kernel
theorem dX8_strayed_31 : decode cX8_strayed 31 = .ok (.getfield 48, 3) := by decide +kernel
theorem dX8_strayed_34 : decode cX8_strayed 34 = .ok (.getfield 187, 3) := by decide +kernel
theorem dX8_strayed_37 : decode cX8_strayed 37 = .ok (.iload_n 1, 1) := by decide +kernel
theorem dX8_strayed_38 : decode cX8_strayed 38 = .ok (.iaload, 1) := by decide +kernel
theorem dX8_strayed_39 : decode cX8_strayed 39 = .ok (.iload_n 3, 1) := by decide +kernel
theorem dX8_strayed_40 : decode cX8_strayed 40 = .ok (.invokestatic 202, 3) := by decide +kernel
theorem dX8_strayed_43 : decode cX8_strayed 43 = .ok (.ifCond .eq 7, 3) := by decide +kernel
theorem dX8_strayed_46 : decode cX8_strayed 46 = .ok (.iload_n 3, 1) := by decide +kernel
theorem dX8_strayed_47 : decode cX8_strayed 47 = .ok (.iconst 1, 1) := by decide +kernel
theorem dX8_strayed_48 : decode cX8_strayed 48 = .ok (.iadd, 1) := by decide +kernel
theorem dX8_strayed_49 : decode cX8_strayed 49 = .ok (.istore_n 2, 1) := by decide +kernel
theorem dX8_strayed_50 : decode cX8_strayed 50 = .ok (.iinc 3 1, 3) := by decide +kernel
theorem dX8_strayed_53 : decode cX8_strayed 53 = .ok (.goto (-34), 3) := by decide +kernel
theorem dX8_strayed_56 : decode cX8_strayed 56 = .ok (.iconst 0, 1) := by decide +kernel
theorem dX8_strayed_57 : decode cX8_strayed 57 = .ok (.istore_n 3, 1) := by decide +kernel
theorem dX8_strayed_58 : decode cX8_strayed 58 = .ok (.iconst 0, 1) := by decide +kernel
theorem dX8_strayed_59 : decode cX8_strayed 59 = .ok (.istore 4, 2) := by decide +kernel
theorem dX8_strayed_61 : decode cX8_strayed 61 = .ok (.iload 4, 2) := by decide +kernel
theorem dX8_strayed_63 : decode cX8_strayed 63 = .ok (.bipush 16, 2) := by decide +kernel
theorem dX8_strayed_65 : decode cX8_strayed 65 = .ok (.if_icmp .ge 49, 3) := by decide +kernel
theorem dX8_strayed_68 : decode cX8_strayed 68 = .ok (.aload_n 0, 1) := by decide +kernel
theorem dX8_strayed_69 : decode cX8_strayed 69 = .ok (.getfield 48, 3) := by decide +kernel
theorem dX8_strayed_72 : decode cX8_strayed 72 = .ok (.getfield 199, 3) := by decide +kernel
theorem dX8_strayed_75 : decode cX8_strayed 75 = .ok (.iload_n 1, 1) := by decide +kernel
theorem dX8_strayed_76 : decode cX8_strayed 76 = .ok (.bipush 16, 2) := by decide +kernel
theorem dX8_strayed_78 : decode cX8_strayed 78 = .ok (.imul, 1) := by decide +kernel
theorem dX8_strayed_79 : decode cX8_strayed 79 = .ok (.iload 4, 2) := by decide +kernel
theorem dX8_strayed_81 : decode cX8_strayed 81 = .ok (.iadd, 1) := by decide +kernel
theorem dX8_strayed_82 : decode cX8_strayed 82 = .ok (.iaload, 1) := by decide +kernel
theorem dX8_strayed_83 : decode cX8_strayed 83 = .ok (.aload_n 0, 1) := by decide +kernel
theorem dX8_strayed_84 : decode cX8_strayed 84 = .ok (.getfield 28, 3) := by decide +kernel
theorem dX8_strayed_87 : decode cX8_strayed 87 = .ok (.getfield 159, 3) := by decide +kernel
theorem dX8_strayed_90 : decode cX8_strayed 90 = .ok (.iload_n 2, 1) := by decide +kernel
theorem dX8_strayed_91 : decode cX8_strayed 91 = .ok (.bipush 16, 2) := by decide +kernel
theorem dX8_strayed_93 : decode cX8_strayed 93 = .ok (.imul, 1) := by decide +kernel
theorem dX8_strayed_94 : decode cX8_strayed 94 = .ok (.iload 4, 2) := by decide +kernel
theorem dX8_strayed_96 : decode cX8_strayed 96 = .ok (.iadd, 1) := by decide +kernel
theorem dX8_strayed_97 : decode cX8_strayed 97 = .ok (.iaload, 1) := by decide +kernel
theorem dX8_strayed_98 : decode cX8_strayed 98 = .ok (.if_icmp .eq 10, 3) := by decide +kernel
theorem dX8_strayed_101 : decode cX8_strayed 101 = .ok (.iload_n 3, 1) := by decide +kernel
theorem dX8_strayed_102 : decode cX8_strayed 102 = .ok (.iconst 1, 1) := by decide +kernel
theorem dX8_strayed_103 : decode cX8_strayed 103 = .ok (.iload 4, 2) := by decide +kernel
theorem dX8_strayed_105 : decode cX8_strayed 105 = .ok (.ishl, 1) := by decide +kernel
theorem dX8_strayed_106 : decode cX8_strayed 106 = .ok (.ior, 1) := by decide +kernel
theorem dX8_strayed_107 : decode cX8_strayed 107 = .ok (.istore_n 3, 1) := by decide +kernel
theorem dX8_strayed_108 : decode cX8_strayed 108 = .ok (.iinc 4 1, 3) := by decide +kernel
theorem dX8_strayed_111 : decode cX8_strayed 111 = .ok (.goto (-50), 3) := by decide +kernel
theorem dX8_strayed_114 : decode cX8_strayed 114 = .ok (.iload_n 3, 1) := by decide +kernel
theorem dX8_strayed_115 : decode cX8_strayed 115 = .ok (.ireturn, 1) := by decide +kernel
theorem dX8_bestCut_0 : decode cX8_bestCut 0 = .ok (.iload_n 1, 1) := by decide +kernel
theorem dX8_bestCut_1 : decode cX8_bestCut 1 = .ok (.ifCond .lt 30, 3) := by decide +kernel
theorem dX8_bestCut_4 : decode cX8_bestCut 4 = .ok (.iload_n 1, 1) := by decide +kernel
theorem dX8_bestCut_5 : decode cX8_bestCut 5 = .ok (.aload_n 0, 1) := by decide +kernel
theorem dX8_bestCut_6 : decode cX8_bestCut 6 = .ok (.getfield 28, 3) := by decide +kernel
theorem dX8_bestCut_9 : decode cX8_bestCut 9 = .ok (.getfield 122, 3) := by decide +kernel
theorem dX8_bestCut_12 : decode cX8_bestCut 12 = .ok (.if_icmp .gt 19, 3) := by decide +kernel
theorem dX8_bestCut_15 : decode cX8_bestCut 15 = .ok (.iload_n 2, 1) := by decide +kernel
theorem dX8_bestCut_16 : decode cX8_bestCut 16 = .ok (.iload_n 1, 1) := by decide +kernel
theorem dX8_bestCut_17 : decode cX8_bestCut 17 = .ok (.if_icmp .lt 14, 3) := by decide +kernel
theorem dX8_bestCut_20 : decode cX8_bestCut 20 = .ok (.iload_n 2, 1) := by decide +kernel
theorem dX8_bestCut_21 : decode cX8_bestCut 21 = .ok (.aload_n 0, 1) := by decide +kernel
theorem dX8_bestCut_22 : decode cX8_bestCut 22 = .ok (.getfield 28, 3) := by decide +kernel
theorem dX8_bestCut_25 : decode cX8_bestCut 25 = .ok (.getfield 122, 3) := by decide +kernel
theorem dX8_bestCut_28 : decode cX8_bestCut 28 = .ok (.if_icmp .le 7, 3) := by decide +kernel
theorem dX8_bestCut_31 : decode cX8_bestCut 31 = .ok (.sipush (-1002), 3) := by decide +kernel
theorem dX8_bestCut_34 : decode cX8_bestCut 34 = .ok (.ireturn, 1) := by decide +kernel
theorem dX8_bestCut_35 : decode cX8_bestCut 35 = .ok (.iload_n 3, 1) := by decide +kernel
theorem dX8_bestCut_36 : decode cX8_bestCut 36 = .ok (.ifCond .lt 8, 3) := by decide +kernel
theorem dX8_bestCut_39 : decode cX8_bestCut 39 = .ok (.iload_n 3, 1) := by decide +kernel
theorem dX8_bestCut_40 : decode cX8_bestCut 40 = .ok (.iconst 1, 1) := by decide +kernel
theorem dX8_bestCut_41 : decode cX8_bestCut 41 = .ok (.if_icmp .le 7, 3) := by decide +kernel
theorem dX8_bestCut_44 : decode cX8_bestCut 44 = .ok (.sipush (-1002), 3) := by decide +kernel
theorem dX8_bestCut_47 : decode cX8_bestCut 47 = .ok (.ireturn, 1) := by decide +kernel
theorem dX8_bestCut_48 : decode cX8_bestCut 48 = .ok (.iload_n 1, 1) := by decide +kernel
theorem dX8_bestCut_49 : decode cX8_bestCut 49 = .ok (.istore 4, 2) := by decide +kernel
theorem dX8_bestCut_51 : decode cX8_bestCut 51 = .ok (.aload_n 0, 1) := by decide +kernel
theorem dX8_bestCut_52 : decode cX8_bestCut 52 = .ok (.getfield 28, 3) := by decide +kernel
theorem dX8_bestCut_55 : decode cX8_bestCut 55 = .ok (.iload_n 1, 1) := by decide +kernel
theorem dX8_bestCut_56 : decode cX8_bestCut 56 = .ok (.invokestatic 244, 3) := by decide +kernel
theorem dX8_bestCut_59 : decode cX8_bestCut 59 = .ok (.invokevirtual 264, 3) := by decide +kernel
theorem dX8_bestCut_62 : decode cX8_bestCut 62 = .ok (.istore 5, 2) := by decide +kernel
theorem dX8_bestCut_64 : decode cX8_bestCut 64 = .ok (.iload_n 1, 1) := by decide +kernel
theorem dX8_bestCut_65 : decode cX8_bestCut 65 = .ok (.iconst 1, 1) := by decide +kernel
theorem dX8_bestCut_66 : decode cX8_bestCut 66 = .ok (.iadd, 1) := by decide +kernel
theorem dX8_bestCut_67 : decode cX8_bestCut 67 = .ok (.istore 6, 2) := by decide +kernel
theorem dX8_bestCut_69 : decode cX8_bestCut 69 = .ok (.iload 6, 2) := by decide +kernel
theorem dX8_bestCut_71 : decode cX8_bestCut 71 = .ok (.iload_n 2, 1) := by decide +kernel
theorem dX8_bestCut_72 : decode cX8_bestCut 72 = .ok (.if_icmp .gt 38, 3) := by decide +kernel
theorem dX8_bestCut_75 : decode cX8_bestCut 75 = .ok (.aload_n 0, 1) := by decide +kernel
theorem dX8_bestCut_76 : decode cX8_bestCut 76 = .ok (.getfield 28, 3) := by decide +kernel
theorem dX8_bestCut_79 : decode cX8_bestCut 79 = .ok (.iload 6, 2) := by decide +kernel
theorem dX8_bestCut_81 : decode cX8_bestCut 81 = .ok (.invokestatic 244, 3) := by decide +kernel
theorem dX8_bestCut_84 : decode cX8_bestCut 84 = .ok (.invokevirtual 264, 3) := by decide +kernel
theorem dX8_bestCut_87 : decode cX8_bestCut 87 = .ok (.istore 7, 2) := by decide +kernel
theorem dX8_bestCut_89 : decode cX8_bestCut 89 = .ok (.iload 7, 2) := by decide +kernel
theorem dX8_bestCut_91 : decode cX8_bestCut 91 = .ok (.iload 5, 2) := by decide +kernel
theorem dX8_bestCut_93 : decode cX8_bestCut 93 = .ok (.if_icmp .gt 11, 3) := by decide +kernel
theorem dX8_bestCut_96 : decode cX8_bestCut 96 = .ok (.iload 6, 2) := by decide +kernel
theorem dX8_bestCut_98 : decode cX8_bestCut 98 = .ok (.istore 4, 2) := by decide +kernel
theorem dX8_bestCut_100 : decode cX8_bestCut 100 = .ok (.iload 7, 2) := by decide +kernel
theorem dX8_bestCut_102 : decode cX8_bestCut 102 = .ok (.istore 5, 2) := by decide +kernel
theorem dX8_bestCut_104 : decode cX8_bestCut 104 = .ok (.iinc 6 1, 3) := by decide +kernel
theorem dX8_bestCut_107 : decode cX8_bestCut 107 = .ok (.goto (-38), 3) := by decide +kernel
theorem dX8_bestCut_110 : decode cX8_bestCut 110 = .ok (.iload_n 3, 1) := by decide +kernel
theorem dX8_bestCut_111 : decode cX8_bestCut 111 = .ok (.ifCond .ne 8, 3) := by decide +kernel
theorem dX8_bestCut_114 : decode cX8_bestCut 114 = .ok (.iload 4, 2) := by decide +kernel
theorem dX8_bestCut_116 : decode cX8_bestCut 116 = .ok (.goto 5, 3) := by decide +kernel
theorem dX8_bestCut_119 : decode cX8_bestCut 119 = .ok (.iload 5, 2) := by decide +kernel
theorem dX8_bestCut_121 : decode cX8_bestCut 121 = .ok (.ireturn, 1) := by decide +kernel
theorem dX8_up_0 : decode cX8_up 0 = .ok (.aload_n 0, 1) := by decide +kernel
theorem dX8_up_1 : decode cX8_up 1 = .ok (.getfield 48, 3) := by decide +kernel
theorem dX8_up_4 : decode cX8_up 4 = .ok (.iload_n 1, 1) := by decide +kernel
theorem dX8_up_5 : decode cX8_up 5 = .ok (.invokevirtual 277, 3) := by decide +kernel
theorem dX8_up_8 : decode cX8_up 8 = .ok (.ifCond .eq 14, 3) := by decide +kernel
theorem dX8_up_11 : decode cX8_up 11 = .ok (.aload_n 0, 1) := by decide +kernel
theorem dX8_up_12 : decode cX8_up 12 = .ok (.getfield 28, 3) := by decide +kernel
theorem dX8_up_15 : decode cX8_up 15 = .ok (.iload_n 2, 1) := by decide +kernel
theorem dX8_up_16 : decode cX8_up 16 = .ok (.invokevirtual 162, 3) := by decide +kernel
theorem dX8_up_19 : decode cX8_up 19 = .ok (.ifCond .ne 7, 3) := by decide +kernel
theorem dX8_up_22 : decode cX8_up 22 = .ok (.sipush (-1001), 3) := by decide +kernel
theorem dX8_up_25 : decode cX8_up 25 = .ok (.ireturn, 1) := by decide +kernel
theorem dX8_up_26 : decode cX8_up 26 = .ok (.iload_n 3, 1) := by decide +kernel
theorem dX8_up_27 : decode cX8_up 27 = .ok (.ifCond .lt 8, 3) := by decide +kernel
theorem dX8_up_30 : decode cX8_up 30 = .ok (.iload_n 3, 1) := by decide +kernel
theorem dX8_up_31 : decode cX8_up 31 = .ok (.iconst 1, 1) := by decide +kernel
theorem dX8_up_32 : decode cX8_up 32 = .ok (.if_icmp .le 7, 3) := by decide +kernel
theorem dX8_up_35 : decode cX8_up 35 = .ok (.sipush (-1002), 3) := by decide +kernel
theorem dX8_up_38 : decode cX8_up 38 = .ok (.ireturn, 1) := by decide +kernel
theorem dX8_up_39 : decode cX8_up 39 = .ok (.aload_n 0, 1) := by decide +kernel
theorem dX8_up_40 : decode cX8_up 40 = .ok (.iload_n 1, 1) := by decide +kernel
theorem dX8_up_41 : decode cX8_up 41 = .ok (.iload_n 2, 1) := by decide +kernel
theorem dX8_up_42 : decode cX8_up 42 = .ok (.invokevirtual 292, 3) := by decide +kernel
theorem dX8_up_45 : decode cX8_up 45 = .ok (.ifCond .eq 7, 3) := by decide +kernel
theorem dX8_up_48 : decode cX8_up 48 = .ok (.sipush (-1003), 3) := by decide +kernel
theorem dX8_up_51 : decode cX8_up 51 = .ok (.ireturn, 1) := by decide +kernel
theorem dX8_up_52 : decode cX8_up 52 = .ok (.iconst (-1), 1) := by decide +kernel
theorem dX8_up_53 : decode cX8_up 53 = .ok (.istore 4, 2) := by decide +kernel
theorem dX8_up_55 : decode cX8_up 55 = .ok (.iconst (-1), 1) := by decide +kernel
theorem dX8_up_56 : decode cX8_up 56 = .ok (.istore 5, 2) := by decide +kernel
theorem dX8_up_58 : decode cX8_up 58 = .ok (.iload_n 1, 1) := by decide +kernel
theorem dX8_up_59 : decode cX8_up 59 = .ok (.iconst 1, 1) := by decide +kernel
theorem dX8_up_60 : decode cX8_up 60 = .ok (.iadd, 1) := by decide +kernel
theorem dX8_up_61 : decode cX8_up 61 = .ok (.istore 6, 2) := by decide +kernel
theorem dX8_up_63 : decode cX8_up 63 = .ok (.iload 6, 2) := by decide +kernel
theorem dX8_up_65 : decode cX8_up 65 = .ok (.aload_n 0, 1) := by decide +kernel
theorem dX8_up_66 : decode cX8_up 66 = .ok (.getfield 48, 3) := by decide +kernel
theorem dX8_up_69 : decode cX8_up 69 = .ok (.getfield 119, 3) := by decide +kernel
theorem dX8_up_72 : decode cX8_up 72 = .ok (.if_icmp .ge 70, 3) := by decide +kernel
theorem dX8_up_75 : decode cX8_up 75 = .ok (.aload_n 0, 1) := by decide +kernel
theorem dX8_up_76 : decode cX8_up 76 = .ok (.iload_n 1, 1) := by decide +kernel
theorem dX8_up_77 : decode cX8_up 77 = .ok (.iload 6, 2) := by decide +kernel
theorem dX8_up_79 : decode cX8_up 79 = .ok (.iload_n 2, 1) := by decide +kernel
theorem dX8_up_80 : decode cX8_up 80 = .ok (.invokevirtual 324, 3) := by decide +kernel
theorem dX8_up_83 : decode cX8_up 83 = .ok (.ifCond .eq 53, 3) := by decide +kernel
theorem dX8_up_86 : decode cX8_up 86 = .ok (.aload_n 0, 1) := by decide +kernel
theorem dX8_up_87 : decode cX8_up 87 = .ok (.getfield 28, 3) := by decide +kernel
theorem dX8_up_90 : decode cX8_up 90 = .ok (.aload_n 0, 1) := by decide +kernel
theorem dX8_up_91 : decode cX8_up 91 = .ok (.getfield 48, 3) := by decide +kernel
theorem dX8_up_94 : decode cX8_up 94 = .ok (.getfield 286, 3) := by decide +kernel
theorem dX8_up_97 : decode cX8_up 97 = .ok (.iload_n 1, 1) := by decide +kernel
theorem dX8_up_98 : decode cX8_up 98 = .ok (.iaload, 1) := by decide +kernel
theorem dX8_up_99 : decode cX8_up 99 = .ok (.aload_n 0, 1) := by decide +kernel
theorem dX8_up_100 : decode cX8_up 100 = .ok (.getfield 48, 3) := by decide +kernel
theorem dX8_up_103 : decode cX8_up 103 = .ok (.getfield 286, 3) := by decide +kernel
theorem dX8_up_106 : decode cX8_up 106 = .ok (.iload 6, 2) := by decide +kernel
theorem dX8_up_108 : decode cX8_up 108 = .ok (.iaload, 1) := by decide +kernel
theorem dX8_up_109 : decode cX8_up 109 = .ok (.ixor, 1) := by decide +kernel
theorem dX8_up_110 : decode cX8_up 110 = .ok (.invokevirtual 193, 3) := by decide +kernel
theorem dX8_up_113 : decode cX8_up 113 = .ok (.istore 7, 2) := by decide +kernel
theorem dX8_up_115 : decode cX8_up 115 = .ok (.iload 4, 2) := by decide +kernel
theorem dX8_up_117 : decode cX8_up 117 = .ok (.iconst (-1), 1) := by decide +kernel
theorem dX8_up_118 : decode cX8_up 118 = .ok (.if_icmp .eq 10, 3) := by decide +kernel
theorem dX8_up_121 : decode cX8_up 121 = .ok (.iload 7, 2) := by decide +kernel
theorem dX8_up_123 : decode cX8_up 123 = .ok (.iload 5, 2) := by decide +kernel
theorem dX8_up_125 : decode cX8_up 125 = .ok (.if_icmp .ge 11, 3) := by decide +kernel
theorem dX8_up_128 : decode cX8_up 128 = .ok (.iload 6, 2) := by decide +kernel
theorem dX8_up_130 : decode cX8_up 130 = .ok (.istore 4, 2) := by decide +kernel
theorem dX8_up_132 : decode cX8_up 132 = .ok (.iload 7, 2) := by decide +kernel
theorem dX8_up_134 : decode cX8_up 134 = .ok (.istore 5, 2) := by decide +kernel
theorem dX8_up_136 : decode cX8_up 136 = .ok (.iinc 6 1, 3) := by decide +kernel
theorem dX8_up_139 : decode cX8_up 139 = .ok (.goto (-76), 3) := by decide +kernel
theorem dX8_up_142 : decode cX8_up 142 = .ok (.iload_n 3, 1) := by decide +kernel
theorem dX8_up_143 : decode cX8_up 143 = .ok (.ifCond .ne 8, 3) := by decide +kernel
theorem dX8_up_146 : decode cX8_up 146 = .ok (.iload 4, 2) := by decide +kernel
theorem dX8_up_148 : decode cX8_up 148 = .ok (.goto 5, 3) := by decide +kernel
theorem dX8_up_151 : decode cX8_up 151 = .ok (.iload 5, 2) := by decide +kernel
theorem dX8_up_153 : decode cX8_up 153 = .ok (.ireturn, 1) := by decide +kernel
theorem dX8_spans_0 : decode cX8_spans 0 = .ok (.aload_n 0, 1) := by decide +kernel
theorem dX8_spans_1 : decode cX8_spans 1 = .ok (.getfield 28, 3) := by decide +kernel
theorem dX8_spans_4 : decode cX8_spans 4 = .ok (.iload_n 1, 1) := by decide +kernel
theorem dX8_spans_5 : decode cX8_spans 5 = .ok (.invokevirtual 162, 3) := by decide +kernel
theorem dX8_spans_8 : decode cX8_spans 8 = .ok (.ifCond .eq 14, 3) := by decide +kernel
theorem dX8_spans_11 : decode cX8_spans 11 = .ok (.aload_n 0, 1) := by decide +kernel
theorem dX8_spans_12 : decode cX8_spans 12 = .ok (.getfield 48, 3) := by decide +kernel
theorem dX8_spans_15 : decode cX8_spans 15 = .ok (.iload_n 2, 1) := by decide +kernel
theorem dX8_spans_16 : decode cX8_spans 16 = .ok (.invokevirtual 181, 3) := by decide +kernel
theorem dX8_spans_19 : decode cX8_spans 19 = .ok (.ifCond .ne 7, 3) := by decide +kernel
theorem dX8_spans_22 : decode cX8_spans 22 = .ok (.sipush (-1001), 3) := by decide +kernel
theorem dX8_spans_25 : decode cX8_spans 25 = .ok (.ireturn, 1) := by decide +kernel
theorem dX8_spans_26 : decode cX8_spans 26 = .ok (.iload 4, 2) := by decide +kernel
theorem dX8_spans_28 : decode cX8_spans 28 = .ok (.ifCond .lt 9, 3) := by decide +kernel
theorem dX8_spans_31 : decode cX8_spans 31 = .ok (.iload 4, 2) := by decide +kernel
theorem dX8_spans_33 : decode cX8_spans 33 = .ok (.iconst 1, 1) := by decide +kernel
theorem dX8_spans_34 : decode cX8_spans 34 = .ok (.if_icmp .le 7, 3) := by decide +kernel
theorem dX8_spans_37 : decode cX8_spans 37 = .ok (.sipush (-1002), 3) := by decide +kernel
theorem dX8_spans_40 : decode cX8_spans 40 = .ok (.ireturn, 1) := by decide +kernel
theorem dX8_spans_41 : decode cX8_spans 41 = .ok (.iconst 0, 1) := by decide +kernel
theorem dX8_spans_42 : decode cX8_spans 42 = .ok (.istore 5, 2) := by decide +kernel
theorem dX8_spans_44 : decode cX8_spans 44 = .ok (.iconst 0, 1) := by decide +kernel
theorem dX8_spans_45 : decode cX8_spans 45 = .ok (.istore 6, 2) := by decide +kernel
theorem dX8_spans_47 : decode cX8_spans 47 = .ok (.iconst (-1), 1) := by decide +kernel
theorem dX8_spans_48 : decode cX8_spans 48 = .ok (.istore 7, 2) := by decide +kernel
theorem dX8_spans_50 : decode cX8_spans 50 = .ok (.iconst 0, 1) := by decide +kernel
theorem dX8_spans_51 : decode cX8_spans 51 = .ok (.istore 8, 2) := by decide +kernel
theorem dX8_spans_53 : decode cX8_spans 53 = .ok (.iload 8, 2) := by decide +kernel
theorem dX8_spans_55 : decode cX8_spans 55 = .ok (.aload_n 0, 1) := by decide +kernel
theorem dX8_spans_56 : decode cX8_spans 56 = .ok (.getfield 48, 3) := by decide +kernel
theorem dX8_spans_59 : decode cX8_spans 59 = .ok (.getfield 119, 3) := by decide +kernel
theorem dX8_spans_62 : decode cX8_spans 62 = .ok (.if_icmp .ge 101, 3) := by decide +kernel
theorem dX8_spans_65 : decode cX8_spans 65 = .ok (.aload_n 0, 1) := by decide +kernel
theorem dX8_spans_66 : decode cX8_spans 66 = .ok (.getfield 48, 3) := by decide +kernel
theorem dX8_spans_69 : decode cX8_spans 69 = .ok (.getfield 280, 3) := by decide +kernel
theorem dX8_spans_72 : decode cX8_spans 72 = .ok (.iload 8, 2) := by decide +kernel
theorem dX8_spans_74 : decode cX8_spans 74 = .ok (.iaload, 1) := by decide +kernel
theorem dX8_spans_75 : decode cX8_spans 75 = .ok (.iload_n 2, 1) := by decide +kernel
theorem dX8_spans_76 : decode cX8_spans 76 = .ok (.if_icmp .eq 6, 3) := by decide +kernel
theorem dX8_spans_79 : decode cX8_spans 79 = .ok (.goto 78, 3) := by decide +kernel
theorem dX8_spans_82 : decode cX8_spans 82 = .ok (.iload 6, 2) := by decide +kernel
theorem dX8_spans_84 : decode cX8_spans 84 = .ok (.ifCond .ne 17, 3) := by decide +kernel
theorem dX8_spans_87 : decode cX8_spans 87 = .ok (.aload_n 0, 1) := by decide +kernel
theorem dX8_spans_88 : decode cX8_spans 88 = .ok (.iload 8, 2) := by decide +kernel
theorem dX8_spans_90 : decode cX8_spans 90 = .ok (.iload_n 1, 1) := by decide +kernel
theorem dX8_spans_91 : decode cX8_spans 91 = .ok (.invokevirtual 292, 3) := by decide +kernel
theorem dX8_spans_94 : decode cX8_spans 94 = .ok (.ifCond .ne 7, 3) := by decide +kernel
theorem dX8_spans_97 : decode cX8_spans 97 = .ok (.iconst 1, 1) := by decide +kernel
theorem dX8_spans_98 : decode cX8_spans 98 = .ok (.goto 4, 3) := by decide +kernel
theorem dX8_spans_101 : decode cX8_spans 101 = .ok (.iconst 0, 1) := by decide +kernel
theorem dX8_spans_102 : decode cX8_spans 102 = .ok (.istore 9, 2) := by decide +kernel
theorem dX8_spans_104 : decode cX8_spans 104 = .ok (.aload_n 0, 1) := by decide +kernel
theorem dX8_spans_105 : decode cX8_spans 105 = .ok (.iload 8, 2) := by decide +kernel
theorem dX8_spans_107 : decode cX8_spans 107 = .ok (.iload_n 1, 1) := by decide +kernel
theorem dX8_spans_108 : decode cX8_spans 108 = .ok (.invokevirtual 292, 3) := by decide +kernel
theorem dX8_spans_111 : decode cX8_spans 111 = .ok (.ifCond .ne 7, 3) := by decide +kernel
theorem dX8_spans_114 : decode cX8_spans 114 = .ok (.iconst 1, 1) := by decide +kernel
theorem dX8_spans_115 : decode cX8_spans 115 = .ok (.goto 4, 3) := by decide +kernel
theorem dX8_spans_118 : decode cX8_spans 118 = .ok (.iconst 0, 1) := by decide +kernel
theorem dX8_spans_119 : decode cX8_spans 119 = .ok (.istore 6, 2) := by decide +kernel
theorem dX8_spans_121 : decode cX8_spans 121 = .ok (.iload 9, 2) := by decide +kernel
theorem dX8_spans_123 : decode cX8_spans 123 = .ok (.ifCond .eq 6, 3) := by decide +kernel
theorem dX8_spans_126 : decode cX8_spans 126 = .ok (.iinc 5 1, 3) := by decide +kernel
theorem dX8_spans_129 : decode cX8_spans 129 = .ok (.iload 6, 2) := by decide +kernel
theorem dX8_spans_131 : decode cX8_spans 131 = .ok (.ifCond .eq 26, 3) := by decide +kernel
theorem dX8_spans_134 : decode cX8_spans 134 = .ok (.iload 5, 2) := by decide +kernel
theorem dX8_spans_136 : decode cX8_spans 136 = .ok (.iconst 1, 1) := by decide +kernel
theorem dX8_spans_137 : decode cX8_spans 137 = .ok (.isub, 1) := by decide +kernel
theorem dX8_spans_138 : decode cX8_spans 138 = .ok (.iload_n 3, 1) := by decide +kernel
theorem dX8_spans_139 : decode cX8_spans 139 = .ok (.if_icmp .ne 18, 3) := by decide +kernel
theorem dX8_spans_142 : decode cX8_spans 142 = .ok (.iload 9, 2) := by decide +kernel
theorem dX8_spans_144 : decode cX8_spans 144 = .ok (.ifCond .ne 9, 3) := by decide +kernel
theorem dX8_spans_147 : decode cX8_spans 147 = .ok (.iload 4, 2) := by decide +kernel
theorem dX8_spans_149 : decode cX8_spans 149 = .ok (.iconst 1, 1) := by decide +kernel
theorem dX8_spans_150 : decode cX8_spans 150 = .ok (.if_icmp .ne 7, 3) := by decide +kernel
theorem dX8_spans_153 : decode cX8_spans 153 = .ok (.iload 8, 2) := by decide +kernel
theorem dX8_spans_155 : decode cX8_spans 155 = .ok (.istore 7, 2) := by decide +kernel
theorem dX8_spans_157 : decode cX8_spans 157 = .ok (.iinc 8 1, 3) := by decide +kernel
theorem dX8_spans_160 : decode cX8_spans 160 = .ok (.goto (-107), 3) := by decide +kernel
theorem dX8_spans_163 : decode cX8_spans 163 = .ok (.iload_n 3, 1) := by decide +kernel
theorem dX8_spans_164 : decode cX8_spans 164 = .ok (.iconst (-1), 1) := by decide +kernel
theorem dX8_spans_165 : decode cX8_spans 165 = .ok (.if_icmp .ne 8, 3) := by decide +kernel
theorem dX8_spans_168 : decode cX8_spans 168 = .ok (.iload 5, 2) := by decide +kernel
theorem dX8_spans_170 : decode cX8_spans 170 = .ok (.goto 5, 3) := by decide +kernel
theorem dX8_spans_173 : decode cX8_spans 173 = .ok (.iload 7, 2) := by decide +kernel
theorem dX8_spans_175 : decode cX8_spans 175 = .ok (.ireturn, 1) := by decide +kernel
theorem dX8_lets_0 : decode cX8_lets 0 = .ok (.aload_n 0, 1) := by decide +kernel
theorem dX8_lets_1 : decode cX8_lets 1 = .ok (.getfield 48, 3) := by decide +kernel
theorem dX8_lets_4 : decode cX8_lets 4 = .ok (.iload_n 1, 1) := by decide +kernel
theorem dX8_lets_5 : decode cX8_lets 5 = .ok (.invokevirtual 181, 3) := by decide +kernel
theorem dX8_lets_8 : decode cX8_lets 8 = .ok (.ifCond .eq 14, 3) := by decide +kernel
theorem dX8_lets_11 : decode cX8_lets 11 = .ok (.aload_n 0, 1) := by decide +kernel
theorem dX8_lets_12 : decode cX8_lets 12 = .ok (.getfield 28, 3) := by decide +kernel
theorem dX8_lets_15 : decode cX8_lets 15 = .ok (.iload_n 2, 1) := by decide +kernel
theorem dX8_lets_16 : decode cX8_lets 16 = .ok (.invokevirtual 132, 3) := by decide +kernel
theorem dX8_lets_19 : decode cX8_lets 19 = .ok (.ifCond .ne 7, 3) := by decide +kernel
theorem dX8_lets_22 : decode cX8_lets 22 = .ok (.sipush (-1001), 3) := by decide +kernel
theorem dX8_lets_25 : decode cX8_lets 25 = .ok (.ireturn, 1) := by decide +kernel
theorem dX8_lets_26 : decode cX8_lets 26 = .ok (.iload_n 3, 1) := by decide +kernel
theorem dX8_lets_27 : decode cX8_lets 27 = .ok (.invokestatic 267, 3) := by decide +kernel
theorem dX8_lets_30 : decode cX8_lets 30 = .ok (.ifCond .ne 7, 3) := by decide +kernel
theorem dX8_lets_33 : decode cX8_lets 33 = .ok (.sipush (-1002), 3) := by decide +kernel
theorem dX8_lets_36 : decode cX8_lets 36 = .ok (.ireturn, 1) := by decide +kernel
theorem dX8_lets_37 : decode cX8_lets 37 = .ok (.aload_n 0, 1) := by decide +kernel
theorem dX8_lets_38 : decode cX8_lets 38 = .ok (.getfield 63, 3) := by decide +kernel
theorem dX8_lets_41 : decode cX8_lets 41 = .ok (.iload_n 1, 1) := by decide +kernel
theorem dX8_lets_42 : decode cX8_lets 42 = .ok (.iload_n 2, 1) := by decide +kernel
theorem dX8_lets_43 : decode cX8_lets 43 = .ok (.invokevirtual 226, 3) := by decide +kernel
theorem dX8_lets_46 : decode cX8_lets 46 = .ok (.istore 4, 2) := by decide +kernel
theorem dX8_lets_48 : decode cX8_lets 48 = .ok (.iload 4, 2) := by decide +kernel
theorem dX8_lets_50 : decode cX8_lets 50 = .ok (.iconst (-1), 1) := by decide +kernel
theorem dX8_lets_51 : decode cX8_lets 51 = .ok (.if_icmp .ne 7, 3) := by decide +kernel
theorem dX8_lets_54 : decode cX8_lets 54 = .ok (.sipush (-1003), 3) := by decide +kernel
theorem dX8_lets_57 : decode cX8_lets 57 = .ok (.ireturn, 1) := by decide +kernel
theorem dX8_lets_58 : decode cX8_lets 58 = .ok (.iload 4, 2) := by decide +kernel
theorem dX8_lets_60 : decode cX8_lets 60 = .ok (.iconst 1, 1) := by decide +kernel
theorem dX8_lets_61 : decode cX8_lets 61 = .ok (.iload_n 2, 1) := by decide +kernel
theorem dX8_lets_62 : decode cX8_lets 62 = .ok (.ishl, 1) := by decide +kernel
theorem dX8_lets_63 : decode cX8_lets 63 = .ok (.ior, 1) := by decide +kernel
theorem dX8_lets_64 : decode cX8_lets 64 = .ok (.istore 5, 2) := by decide +kernel
theorem dX8_lets_66 : decode cX8_lets 66 = .ok (.aload_n 0, 1) := by decide +kernel
theorem dX8_lets_67 : decode cX8_lets 67 = .ok (.getfield 28, 3) := by decide +kernel
theorem dX8_lets_70 : decode cX8_lets 70 = .ok (.aload_n 0, 1) := by decide +kernel
theorem dX8_lets_71 : decode cX8_lets 71 = .ok (.getfield 48, 3) := by decide +kernel
theorem dX8_lets_74 : decode cX8_lets 74 = .ok (.getfield 187, 3) := by decide +kernel
theorem dX8_lets_77 : decode cX8_lets 77 = .ok (.iload_n 1, 1) := by decide +kernel
theorem dX8_lets_78 : decode cX8_lets 78 = .ok (.iaload, 1) := by decide +kernel
theorem dX8_lets_79 : decode cX8_lets 79 = .ok (.invokevirtual 190, 3) := by decide +kernel
theorem dX8_lets_82 : decode cX8_lets 82 = .ok (.aload_n 0, 1) := by decide +kernel
theorem dX8_lets_83 : decode cX8_lets 83 = .ok (.getfield 28, 3) := by decide +kernel
theorem dX8_lets_86 : decode cX8_lets 86 = .ok (.iload 5, 2) := by decide +kernel
theorem dX8_lets_88 : decode cX8_lets 88 = .ok (.invokevirtual 327, 3) := by decide +kernel
theorem dX8_lets_91 : decode cX8_lets 91 = .ok (.iand, 1) := by decide +kernel
theorem dX8_lets_92 : decode cX8_lets 92 = .ok (.istore 6, 2) := by decide +kernel
theorem dX8_lets_94 : decode cX8_lets 94 = .ok (.aload_n 0, 1) := by decide +kernel
theorem dX8_lets_95 : decode cX8_lets 95 = .ok (.getfield 38, 3) := by decide +kernel
theorem dX8_lets_98 : decode cX8_lets 98 = .ok (.iload_n 3, 1) := by decide +kernel
theorem dX8_lets_99 : decode cX8_lets 99 = .ok (.invokevirtual 330, 3) := by decide +kernel
theorem dX8_lets_102 : decode cX8_lets 102 = .ok (.ifCond .ne 18, 3) := by decide +kernel
theorem dX8_lets_105 : decode cX8_lets 105 = .ok (.aload_n 0, 1) := by decide +kernel
theorem dX8_lets_106 : decode cX8_lets 106 = .ok (.getfield 38, 3) := by decide +kernel
theorem dX8_lets_109 : decode cX8_lets 109 = .ok (.iload_n 1, 1) := by decide +kernel
theorem dX8_lets_110 : decode cX8_lets 110 = .ok (.invokevirtual 333, 3) := by decide +kernel
theorem dX8_lets_113 : decode cX8_lets 113 = .ok (.ifCond .eq 7, 3) := by decide +kernel
theorem dX8_lets_116 : decode cX8_lets 116 = .ok (.iconst 1, 1) := by decide +kernel
theorem dX8_lets_117 : decode cX8_lets 117 = .ok (.goto 4, 3) := by decide +kernel
theorem dX8_lets_120 : decode cX8_lets 120 = .ok (.iconst 0, 1) := by decide +kernel
theorem dX8_lets_121 : decode cX8_lets 121 = .ok (.istore 7, 2) := by decide +kernel
theorem dX8_lets_123 : decode cX8_lets 123 = .ok (.iload 7, 2) := by decide +kernel
theorem dX8_lets_125 : decode cX8_lets 125 = .ok (.ifCond .eq 45, 3) := by decide +kernel
theorem dX8_lets_128 : decode cX8_lets 128 = .ok (.aload_n 0, 1) := by decide +kernel
theorem dX8_lets_129 : decode cX8_lets 129 = .ok (.getfield 38, 3) := by decide +kernel
theorem dX8_lets_132 : decode cX8_lets 132 = .ok (.aload_n 0, 1) := by decide +kernel
theorem dX8_lets_133 : decode cX8_lets 133 = .ok (.getfield 28, 3) := by decide +kernel
theorem dX8_lets_136 : decode cX8_lets 136 = .ok (.iload 5, 2) := by decide +kernel
theorem dX8_lets_138 : decode cX8_lets 138 = .ok (.invokevirtual 193, 3) := by decide +kernel
theorem dX8_lets_141 : decode cX8_lets 141 = .ok (.invokevirtual 336, 3) := by decide +kernel
theorem dX8_lets_144 : decode cX8_lets 144 = .ok (.ifCond .eq 26, 3) := by decide +kernel
theorem dX8_lets_147 : decode cX8_lets 147 = .ok (.aload_n 0, 1) := by decide +kernel
theorem dX8_lets_148 : decode cX8_lets 148 = .ok (.getfield 38, 3) := by decide +kernel
theorem dX8_lets_151 : decode cX8_lets 151 = .ok (.aload_n 0, 1) := by decide +kernel
theorem dX8_lets_152 : decode cX8_lets 152 = .ok (.getfield 28, 3) := by decide +kernel
theorem dX8_lets_155 : decode cX8_lets 155 = .ok (.iload 6, 2) := by decide +kernel
theorem dX8_lets_157 : decode cX8_lets 157 = .ok (.invokevirtual 339, 3) := by decide +kernel
theorem dX8_lets_160 : decode cX8_lets 160 = .ok (.invokevirtual 342, 3) := by decide +kernel
theorem dX8_lets_163 : decode cX8_lets 163 = .ok (.ifCond .eq 7, 3) := by decide +kernel
theorem dX8_lets_166 : decode cX8_lets 166 = .ok (.iconst 1, 1) := by decide +kernel
theorem dX8_lets_167 : decode cX8_lets 167 = .ok (.goto 4, 3) := by decide +kernel
theorem dX8_lets_170 : decode cX8_lets 170 = .ok (.iconst 0, 1) := by decide +kernel
theorem dX8_lets_171 : decode cX8_lets 171 = .ok (.ireturn, 1) := by decide +kernel
theorem dX8_keep_0 : decode cX8_keep 0 = .ok (.iload_n 1, 1) := by decide +kernel
theorem dX8_keep_1 : decode cX8_keep 1 = .ok (.ifCond .lt 8, 3) := by decide +kernel
theorem dX8_keep_4 : decode cX8_keep 4 = .ok (.iload_n 1, 1) := by decide +kernel
theorem dX8_keep_5 : decode cX8_keep 5 = .ok (.iconst 2, 1) := by decide +kernel
theorem dX8_keep_6 : decode cX8_keep 6 = .ok (.if_icmp .lt 7, 3) := by decide +kernel
theorem dX8_keep_9 : decode cX8_keep 9 = .ok (.sipush (-1001), 3) := by decide +kernel
theorem dX8_keep_12 : decode cX8_keep 12 = .ok (.ireturn, 1) := by decide +kernel
theorem dX8_keep_13 : decode cX8_keep 13 = .ok (.aload_n 0, 1) := by decide +kernel
theorem dX8_keep_14 : decode cX8_keep 14 = .ok (.iload_n 1, 1) := by decide +kernel
theorem dX8_keep_15 : decode cX8_keep 15 = .ok (.invokevirtual 345, 3) := by decide +kernel
theorem dX8_keep_18 : decode cX8_keep 18 = .ok (.aload_n 0, 1) := by decide +kernel
theorem dX8_keep_19 : decode cX8_keep 19 = .ok (.getfield 48, 3) := by decide +kernel
theorem dX8_keep_22 : decode cX8_keep 22 = .ok (.invokevirtual 349, 3) := by decide +kernel
theorem dX8_keep_25 : decode cX8_keep 25 = .ok (.aload_n 0, 1) := by decide +kernel
theorem dX8_keep_26 : decode cX8_keep 26 = .ok (.dup, 1) := by decide +kernel
theorem dX8_keep_27 : decode cX8_keep 27 = .ok (.getfield 85, 3) := by decide +kernel
theorem dX8_keep_30 : decode cX8_keep 30 = .ok (.iconst 1, 1) := by decide +kernel
theorem dX8_keep_31 : decode cX8_keep 31 = .ok (.iload_n 1, 1) := by decide +kernel
theorem dX8_keep_32 : decode cX8_keep 32 = .ok (.ishl, 1) := by decide +kernel
theorem dX8_keep_33 : decode cX8_keep 33 = .ok (.ior, 1) := by decide +kernel
theorem dX8_keep_34 : decode cX8_keep 34 = .ok (.putfield 85, 3) := by decide +kernel
theorem dX8_keep_37 : decode cX8_keep 37 = .ok (.iconst 1, 1) := by decide +kernel
theorem dX8_keep_38 : decode cX8_keep 38 = .ok (.ireturn, 1) := by decide +kernel
theorem dX8_goBack_0 : decode cX8_goBack 0 = .ok (.iload_n 1, 1) := by decide +kernel
theorem dX8_goBack_1 : decode cX8_goBack 1 = .ok (.ifCond .lt 8, 3) := by decide +kernel
theorem dX8_goBack_4 : decode cX8_goBack 4 = .ok (.iload_n 1, 1) := by decide +kernel
theorem dX8_goBack_5 : decode cX8_goBack 5 = .ok (.iconst 2, 1) := by decide +kernel
theorem dX8_goBack_6 : decode cX8_goBack 6 = .ok (.if_icmp .lt 7, 3) := by decide +kernel
theorem dX8_goBack_9 : decode cX8_goBack 9 = .ok (.sipush (-1001), 3) := by decide +kernel
theorem dX8_goBack_12 : decode cX8_goBack 12 = .ok (.ireturn, 1) := by decide +kernel
theorem dX8_goBack_13 : decode cX8_goBack 13 = .ok (.aload_n 0, 1) := by decide +kernel
theorem dX8_goBack_14 : decode cX8_goBack 14 = .ok (.getfield 85, 3) := by decide +kernel
theorem dX8_goBack_17 : decode cX8_goBack 17 = .ok (.iload_n 1, 1) := by decide +kernel
theorem dX8_goBack_18 : decode cX8_goBack 18 = .ok (.invokestatic 202, 3) := by decide +kernel
theorem dX8_goBack_21 : decode cX8_goBack 21 = .ok (.ifCond .ne 7, 3) := by decide +kernel
theorem dX8_goBack_24 : decode cX8_goBack 24 = .ok (.sipush (-1003), 3) := by decide +kernel
theorem dX8_goBack_27 : decode cX8_goBack 27 = .ok (.ireturn, 1) := by decide +kernel
theorem dX8_goBack_28 : decode cX8_goBack 28 = .ok (.aload_n 0, 1) := by decide +kernel
theorem dX8_goBack_29 : decode cX8_goBack 29 = .ok (.getfield 48, 3) := by decide +kernel
theorem dX8_goBack_32 : decode cX8_goBack 32 = .ok (.aload_n 0, 1) := by decide +kernel
theorem dX8_goBack_33 : decode cX8_goBack 33 = .ok (.iload_n 1, 1) := by decide +kernel
theorem dX8_goBack_34 : decode cX8_goBack 34 = .ok (.invokevirtual 345, 3) := by decide +kernel
theorem dX8_goBack_37 : decode cX8_goBack 37 = .ok (.invokevirtual 349, 3) := by decide +kernel
theorem dX8_goBack_40 : decode cX8_goBack 40 = .ok (.iconst 1, 1) := by decide +kernel
theorem dX8_goBack_41 : decode cX8_goBack 41 = .ok (.ireturn, 1) := by decide +kernel
theorem dX8_imageOf_0 : decode cX8_imageOf 0 = .ok (.iload_n 1, 1) := by decide +kernel
theorem dX8_imageOf_1 : decode cX8_imageOf 1 = .ok (.ifCond .ne 10, 3) := by decide +kernel
theorem dX8_imageOf_4 : decode cX8_imageOf 4 = .ok (.aload_n 0, 1) := by decide +kernel
theorem dX8_imageOf_5 : decode cX8_imageOf 5 = .ok (.getfield 52, 3) := by decide +kernel
theorem dX8_imageOf_8 : decode cX8_imageOf 8 = .ok (.goto 7, 3) := by decide +kernel
theorem dX8_imageOf_11 : decode cX8_imageOf 11 = .ok (.aload_n 0, 1) := by decide +kernel
theorem dX8_imageOf_12 : decode cX8_imageOf 12 = .ok (.getfield 55, 3) := by decide +kernel
theorem dX8_imageOf_15 : decode cX8_imageOf 15 = .ok (.areturn, 1) := by decide +kernel
theorem dX8_isFree_0 : decode cX8_isFree 0 = .ok (.aload_n 0, 1) := by decide +kernel
theorem dX8_isFree_1 : decode cX8_isFree 1 = .ok (.getfield 28, 3) := by decide +kernel
theorem dX8_isFree_4 : decode cX8_isFree 4 = .ok (.aload_n 0, 1) := by decide +kernel
theorem dX8_isFree_5 : decode cX8_isFree 5 = .ok (.getfield 48, 3) := by decide +kernel
theorem dX8_isFree_8 : decode cX8_isFree 8 = .ok (.getfield 286, 3) := by decide +kernel
theorem dX8_isFree_11 : decode cX8_isFree 11 = .ok (.iload_n 1, 1) := by decide +kernel
theorem dX8_isFree_12 : decode cX8_isFree 12 = .ok (.iaload, 1) := by decide +kernel
theorem dX8_isFree_13 : decode cX8_isFree 13 = .ok (.invokevirtual 190, 3) := by decide +kernel
theorem dX8_isFree_16 : decode cX8_isFree 16 = .ok (.iload_n 2, 1) := by decide +kernel
theorem dX8_isFree_17 : decode cX8_isFree 17 = .ok (.invokestatic 202, 3) := by decide +kernel
theorem dX8_isFree_20 : decode cX8_isFree 20 = .ok (.ifCond .ne 7, 3) := by decide +kernel
theorem dX8_isFree_23 : decode cX8_isFree 23 = .ok (.iconst 1, 1) := by decide +kernel
theorem dX8_isFree_24 : decode cX8_isFree 24 = .ok (.goto 4, 3) := by decide +kernel
theorem dX8_isFree_27 : decode cX8_isFree 27 = .ok (.iconst 0, 1) := by decide +kernel
theorem dX8_isFree_28 : decode cX8_isFree 28 = .ok (.ireturn, 1) := by decide +kernel
theorem dX8_leadsUp_0 : decode cX8_leadsUp 0 = .ok (.aload_n 0, 1) := by decide +kernel
theorem dX8_leadsUp_1 : decode cX8_leadsUp 1 = .ok (.getfield 28, 3) := by decide +kernel
theorem dX8_leadsUp_4 : decode cX8_leadsUp 4 = .ok (.aload_n 0, 1) := by decide +kernel
theorem dX8_leadsUp_5 : decode cX8_leadsUp 5 = .ok (.getfield 48, 3) := by decide +kernel
theorem dX8_leadsUp_8 : decode cX8_leadsUp 8 = .ok (.getfield 286, 3) := by decide +kernel
theorem dX8_leadsUp_11 : decode cX8_leadsUp 11 = .ok (.iload_n 1, 1) := by decide +kernel
theorem dX8_leadsUp_12 : decode cX8_leadsUp 12 = .ok (.iaload, 1) := by decide +kernel
theorem dX8_leadsUp_13 : decode cX8_leadsUp 13 = .ok (.invokevirtual 190, 3) := by decide +kernel
theorem dX8_leadsUp_16 : decode cX8_leadsUp 16 = .ok (.istore 4, 2) := by decide +kernel
theorem dX8_leadsUp_18 : decode cX8_leadsUp 18 = .ok (.aload_n 0, 1) := by decide +kernel
theorem dX8_leadsUp_19 : decode cX8_leadsUp 19 = .ok (.getfield 28, 3) := by decide +kernel
theorem dX8_leadsUp_22 : decode cX8_leadsUp 22 = .ok (.aload_n 0, 1) := by decide +kernel
theorem dX8_leadsUp_23 : decode cX8_leadsUp 23 = .ok (.getfield 48, 3) := by decide +kernel
theorem dX8_leadsUp_26 : decode cX8_leadsUp 26 = .ok (.getfield 286, 3) := by decide +kernel
theorem dX8_leadsUp_29 : decode cX8_leadsUp 29 = .ok (.iload_n 2, 1) := by decide +kernel
theorem dX8_leadsUp_30 : decode cX8_leadsUp 30 = .ok (.iaload, 1) := by decide +kernel
theorem dX8_leadsUp_31 : decode cX8_leadsUp 31 = .ok (.invokevirtual 190, 3) := by decide +kernel
theorem dX8_leadsUp_34 : decode cX8_leadsUp 34 = .ok (.istore 5, 2) := by decide +kernel
theorem dX8_leadsUp_36 : decode cX8_leadsUp 36 = .ok (.iload 5, 2) := by decide +kernel
theorem dX8_leadsUp_38 : decode cX8_leadsUp 38 = .ok (.iload_n 3, 1) := by decide +kernel
theorem dX8_leadsUp_39 : decode cX8_leadsUp 39 = .ok (.invokestatic 202, 3) := by decide +kernel
theorem dX8_leadsUp_42 : decode cX8_leadsUp 42 = .ok (.ifCond .ne 17, 3) := by decide +kernel
theorem dX8_leadsUp_45 : decode cX8_leadsUp 45 = .ok (.iload 5, 2) := by decide +kernel
theorem dX8_leadsUp_47 : decode cX8_leadsUp 47 = .ok (.iload 4, 2) := by decide +kernel
theorem dX8_leadsUp_49 : decode cX8_leadsUp 49 = .ok (.iconst (-1), 1) := by decide +kernel
theorem dX8_leadsUp_50 : decode cX8_leadsUp 50 = .ok (.ixor, 1) := by decide +kernel
theorem dX8_leadsUp_51 : decode cX8_leadsUp 51 = .ok (.iand, 1) := by decide +kernel
theorem dX8_leadsUp_52 : decode cX8_leadsUp 52 = .ok (.ifCond .ne 7, 3) := by decide +kernel
theorem dX8_leadsUp_55 : decode cX8_leadsUp 55 = .ok (.iconst 1, 1) := by decide +kernel
theorem dX8_leadsUp_56 : decode cX8_leadsUp 56 = .ok (.goto 4, 3) := by decide +kernel
theorem dX8_leadsUp_59 : decode cX8_leadsUp 59 = .ok (.iconst 0, 1) := by decide +kernel
theorem dX8_leadsUp_60 : decode cX8_leadsUp 60 = .ok (.ireturn, 1) := by decide +kernel
theorem dX8_trainWithFix_0 : decode cX8_trainWithFix 0 = .ok (.aload_n 0, 1) := by decide +kernel
theorem dX8_trainWithFix_1 : decode cX8_trainWithFix 1 = .ok (.getfield 48, 3) := by decide +kernel
theorem dX8_trainWithFix_4 : decode cX8_trainWithFix 4 = .ok (.getfield 196, 3) := by decide +kernel
theorem dX8_trainWithFix_7 : decode cX8_trainWithFix 7 = .ok (.iload_n 1, 1) := by decide +kernel
theorem dX8_trainWithFix_8 : decode cX8_trainWithFix 8 = .ok (.iaload, 1) := by decide +kernel
theorem dX8_trainWithFix_9 : decode cX8_trainWithFix 9 = .ok (.istore 4, 2) := by decide +kernel
theorem dX8_trainWithFix_11 : decode cX8_trainWithFix 11 = .ok (.aload_n 0, 1) := by decide +kernel
theorem dX8_trainWithFix_12 : decode cX8_trainWithFix 12 = .ok (.getfield 72, 3) := by decide +kernel
theorem dX8_trainWithFix_15 : decode cX8_trainWithFix 15 = .ok (.iload_n 1, 1) := by decide +kernel
theorem dX8_trainWithFix_16 : decode cX8_trainWithFix 16 = .ok (.iconst 1, 1) := by decide +kernel
theorem dX8_trainWithFix_17 : decode cX8_trainWithFix 17 = .ok (.iload_n 2, 1) := by decide +kernel
theorem dX8_trainWithFix_18 : decode cX8_trainWithFix 18 = .ok (.ishl, 1) := by decide +kernel
theorem dX8_trainWithFix_19 : decode cX8_trainWithFix 19 = .ok (.invokevirtual 237, 3) := by decide +kernel
theorem dX8_trainWithFix_22 : decode cX8_trainWithFix 22 = .ok (.iload 4, 2) := by decide +kernel
theorem dX8_trainWithFix_24 : decode cX8_trainWithFix 24 = .ok (.iconst 1, 1) := by decide +kernel
theorem dX8_trainWithFix_25 : decode cX8_trainWithFix 25 = .ok (.if_icmp .lt 17, 3) := by decide +kernel
theorem dX8_trainWithFix_28 : decode cX8_trainWithFix 28 = .ok (.aload_n 0, 1) := by decide +kernel
theorem dX8_trainWithFix_29 : decode cX8_trainWithFix 29 = .ok (.getfield 72, 3) := by decide +kernel
theorem dX8_trainWithFix_32 : decode cX8_trainWithFix 32 = .ok (.iconst 1, 1) := by decide +kernel
theorem dX8_trainWithFix_33 : decode cX8_trainWithFix 33 = .ok (.iload_n 2, 1) := by decide +kernel
theorem dX8_trainWithFix_34 : decode cX8_trainWithFix 34 = .ok (.ishl, 1) := by decide +kernel
theorem dX8_trainWithFix_35 : decode cX8_trainWithFix 35 = .ok (.invokevirtual 241, 3) := by decide +kernel
theorem dX8_trainWithFix_38 : decode cX8_trainWithFix 38 = .ok (.iconst (-1), 1) := by decide +kernel
theorem dX8_trainWithFix_39 : decode cX8_trainWithFix 39 = .ok (.if_icmp .ne 5, 3) := by decide +kernel
theorem dX8_trainWithFix_42 : decode cX8_trainWithFix 42 = .ok (.iconst (-1), 1) := by decide +kernel
theorem dX8_trainWithFix_43 : decode cX8_trainWithFix 43 = .ok (.ireturn, 1) := by decide +kernel
theorem dX8_trainWithFix_44 : decode cX8_trainWithFix 44 = .ok (.iload_n 3, 1) := by decide +kernel
theorem dX8_trainWithFix_45 : decode cX8_trainWithFix 45 = .ok (.iload 4, 2) := by decide +kernel
theorem dX8_trainWithFix_47 : decode cX8_trainWithFix 47 = .ok (.irem, 1) := by decide +kernel
theorem dX8_trainWithFix_48 : decode cX8_trainWithFix 48 = .ok (.istore 5, 2) := by decide +kernel
theorem dX8_trainWithFix_50 : decode cX8_trainWithFix 50 = .ok (.iload 5, 2) := by decide +kernel
theorem dX8_trainWithFix_52 : decode cX8_trainWithFix 52 = .ok (.ifCond .ne 7, 3) := by decide +kernel
theorem dX8_trainWithFix_55 : decode cX8_trainWithFix 55 = .ok (.iload_n 3, 1) := by decide +kernel
theorem dX8_trainWithFix_56 : decode cX8_trainWithFix 56 = .ok (.goto 10, 3) := by decide +kernel
theorem dX8_trainWithFix_59 : decode cX8_trainWithFix 59 = .ok (.iload_n 3, 1) := by decide +kernel
theorem dX8_trainWithFix_60 : decode cX8_trainWithFix 60 = .ok (.iload 4, 2) := by decide +kernel
theorem dX8_trainWithFix_62 : decode cX8_trainWithFix 62 = .ok (.iadd, 1) := by decide +kernel
theorem dX8_trainWithFix_63 : decode cX8_trainWithFix 63 = .ok (.iload 5, 2) := by decide +kernel
theorem dX8_trainWithFix_65 : decode cX8_trainWithFix 65 = .ok (.isub, 1) := by decide +kernel
theorem dX8_trainWithFix_66 : decode cX8_trainWithFix 66 = .ok (.ireturn, 1) := by decide +kernel
theorem dX8_refusalOfRow_0 : decode cX8_refusalOfRow 0 = .ok (.aload_n 0, 1) := by decide +kernel
theorem dX8_refusalOfRow_1 : decode cX8_refusalOfRow 1 = .ok (.getfield 48, 3) := by decide +kernel
theorem dX8_refusalOfRow_4 : decode cX8_refusalOfRow 4 = .ok (.iload_n 1, 1) := by decide +kernel
theorem dX8_refusalOfRow_5 : decode cX8_refusalOfRow 5 = .ok (.invokevirtual 181, 3) := by decide +kernel
theorem dX8_refusalOfRow_8 : decode cX8_refusalOfRow 8 = .ok (.ifCond .eq 14, 3) := by decide +kernel
theorem dX8_refusalOfRow_11 : decode cX8_refusalOfRow 11 = .ok (.aload_n 0, 1) := by decide +kernel
theorem dX8_refusalOfRow_12 : decode cX8_refusalOfRow 12 = .ok (.getfield 28, 3) := by decide +kernel
theorem dX8_refusalOfRow_15 : decode cX8_refusalOfRow 15 = .ok (.iload_n 2, 1) := by decide +kernel
theorem dX8_refusalOfRow_16 : decode cX8_refusalOfRow 16 = .ok (.invokevirtual 352, 3) := by decide +kernel
theorem dX8_refusalOfRow_19 : decode cX8_refusalOfRow 19 = .ok (.ifCond .ne 7, 3) := by decide +kernel
theorem dX8_refusalOfRow_22 : decode cX8_refusalOfRow 22 = .ok (.sipush (-1001), 3) := by decide +kernel
theorem dX8_refusalOfRow_25 : decode cX8_refusalOfRow 25 = .ok (.ireturn, 1) := by decide +kernel
theorem dX8_refusalOfRow_26 : decode cX8_refusalOfRow 26 = .ok (.aload_n 0, 1) := by decide +kernel
theorem dX8_refusalOfRow_27 : decode cX8_refusalOfRow 27 = .ok (.getfield 48, 3) := by decide +kernel
theorem dX8_refusalOfRow_30 : decode cX8_refusalOfRow 30 = .ok (.getfield 187, 3) := by decide +kernel
theorem dX8_refusalOfRow_33 : decode cX8_refusalOfRow 33 = .ok (.iload_n 1, 1) := by decide +kernel
theorem dX8_refusalOfRow_34 : decode cX8_refusalOfRow 34 = .ok (.iaload, 1) := by decide +kernel
theorem dX8_refusalOfRow_35 : decode cX8_refusalOfRow 35 = .ok (.iload_n 2, 1) := by decide +kernel
theorem dX8_refusalOfRow_36 : decode cX8_refusalOfRow 36 = .ok (.iand, 1) := by decide +kernel
theorem dX8_refusalOfRow_37 : decode cX8_refusalOfRow 37 = .ok (.ifCond .ne 12, 3) := by decide +kernel
theorem dX8_refusalOfRow_40 : decode cX8_refusalOfRow 40 = .ok (.iload_n 2, 1) := by decide +kernel
theorem dX8_refusalOfRow_41 : decode cX8_refusalOfRow 41 = .ok (.invokestatic 214, 3) := by decide +kernel
theorem dX8_refusalOfRow_44 : decode cX8_refusalOfRow 44 = .ok (.bipush 8, 2) := by decide +kernel
theorem dX8_refusalOfRow_46 : decode cX8_refusalOfRow 46 = .ok (.if_icmp .le 7, 3) := by decide +kernel
theorem dX8_refusalOfRow_49 : decode cX8_refusalOfRow 49 = .ok (.sipush (-1003), 3) := by decide +kernel
theorem dX8_refusalOfRow_52 : decode cX8_refusalOfRow 52 = .ok (.ireturn, 1) := by decide +kernel
theorem dX8_refusalOfRow_53 : decode cX8_refusalOfRow 53 = .ok (.iconst 0, 1) := by decide +kernel
theorem dX8_refusalOfRow_54 : decode cX8_refusalOfRow 54 = .ok (.ireturn, 1) := by decide +kernel
theorem dX8_has_0 : decode cX8_has 0 = .ok (.iload_n 0, 1) := by decide +kernel
theorem dX8_has_1 : decode cX8_has 1 = .ok (.iload_n 1, 1) := by decide +kernel
theorem dX8_has_2 : decode cX8_has 2 = .ok (.ishr, 1) := by decide +kernel
theorem dX8_has_3 : decode cX8_has 3 = .ok (.iconst 1, 1) := by decide +kernel
theorem dX8_has_4 : decode cX8_has 4 = .ok (.iand, 1) := by decide +kernel
theorem dX8_has_5 : decode cX8_has 5 = .ok (.ifCond .eq 7, 3) := by decide +kernel
theorem dX8_has_8 : decode cX8_has 8 = .ok (.iconst 1, 1) := by decide +kernel
theorem dX8_has_9 : decode cX8_has 9 = .ok (.goto 4, 3) := by decide +kernel
theorem dX8_has_12 : decode cX8_has 12 = .ok (.iconst 0, 1) := by decide +kernel
theorem dX8_has_13 : decode cX8_has 13 = .ok (.ireturn, 1) := by decide +kernel
theorem dX8_isSlot_0 : decode cX8_isSlot 0 = .ok (.iload_n 0, 1) := by decide +kernel
theorem dX8_isSlot_1 : decode cX8_isSlot 1 = .ok (.ifCond .lt 13, 3) := by decide +kernel
theorem dX8_isSlot_4 : decode cX8_isSlot 4 = .ok (.iload_n 0, 1) := by decide +kernel
theorem dX8_isSlot_5 : decode cX8_isSlot 5 = .ok (.bipush 16, 2) := by decide +kernel
theorem dX8_isSlot_7 : decode cX8_isSlot 7 = .ok (.if_icmp .ge 7, 3) := by decide +kernel
theorem dX8_isSlot_10 : decode cX8_isSlot 10 = .ok (.iconst 1, 1) := by decide +kernel
theorem dX8_isSlot_11 : decode cX8_isSlot 11 = .ok (.goto 4, 3) := by decide +kernel
theorem dX8_isSlot_14 : decode cX8_isSlot 14 = .ok (.iconst 0, 1) := by decide +kernel
theorem dX8_isSlot_15 : decode cX8_isSlot 15 = .ok (.ireturn, 1) := by decide +kernel
theorem dX8_isDay_0 : decode cX8_isDay 0 = .ok (.iload_n 0, 1) := by decide +kernel
theorem dX8_isDay_1 : decode cX8_isDay 1 = .ok (.ifCond .lt 14, 3) := by decide +kernel
theorem dX8_isDay_4 : decode cX8_isDay 4 = .ok (.iload_n 0, 1) := by decide +kernel
theorem dX8_isDay_5 : decode cX8_isDay 5 = .ok (.sipush 999, 3) := by decide +kernel
theorem dX8_isDay_8 : decode cX8_isDay 8 = .ok (.if_icmp .gt 7, 3) := by decide +kernel
theorem dX8_isDay_11 : decode cX8_isDay 11 = .ok (.iconst 1, 1) := by decide +kernel
theorem dX8_isDay_12 : decode cX8_isDay 12 = .ok (.goto 4, 3) := by decide +kernel
theorem dX8_isDay_15 : decode cX8_isDay 15 = .ok (.iconst 0, 1) := by decide +kernel
theorem dX8_isDay_16 : decode cX8_isDay 16 = .ok (.ireturn, 1) := by decide +kernel
theorem dX8_firstOnes_0 : decode cX8_firstOnes 0 = .ok (.iconst 1, 1) := by decide +kernel
theorem dX8_firstOnes_1 : decode cX8_firstOnes 1 = .ok (.iload_n 0, 1) := by decide +kernel
theorem dX8_firstOnes_2 : decode cX8_firstOnes 2 = .ok (.ishl, 1) := by decide +kernel
theorem dX8_firstOnes_3 : decode cX8_firstOnes 3 = .ok (.iconst 1, 1) := by decide +kernel
theorem dX8_firstOnes_4 : decode cX8_firstOnes 4 = .ok (.isub, 1) := by decide +kernel
theorem dX8_firstOnes_5 : decode cX8_firstOnes 5 = .ok (.ireturn, 1) := by decide +kernel
theorem dX9_init_0 : decode cX9_init 0 = .ok (.aload_n 0, 1) := by decide +kernel
theorem dX9_init_1 : decode cX9_init 1 = .ok (.invokespecial 1, 3) := by decide +kernel
theorem dX9_init_4 : decode cX9_init 4 = .ok (.aload_n 0, 1) := by decide +kernel
theorem dX9_init_5 : decode cX9_init 5 = .ok (.sipush 384, 3) := by decide +kernel
theorem dX9_init_8 : decode cX9_init 8 = .ok (.newarray .int, 2) := by decide +kernel
theorem dX9_init_10 : decode cX9_init 10 = .ok (.putfield 7, 3) := by decide +kernel
theorem dX9_init_13 : decode cX9_init 13 = .ok (.aload_n 0, 1) := by decide +kernel
theorem dX9_init_14 : decode cX9_init 14 = .ok (.bipush 24, 2) := by decide +kernel
theorem dX9_init_16 : decode cX9_init 16 = .ok (.newarray .int, 2) := by decide +kernel
theorem dX9_init_18 : decode cX9_init 18 = .ok (.putfield 13, 3) := by decide +kernel
theorem dX9_init_21 : decode cX9_init 21 = .ok (.aload_n 0, 1) := by decide +kernel
theorem dX9_init_22 : decode cX9_init 22 = .ok (.bipush 24, 2) := by decide +kernel
theorem dX9_init_24 : decode cX9_init 24 = .ok (.newarray .int, 2) := by decide +kernel
theorem dX9_init_26 : decode cX9_init 26 = .ok (.putfield 16, 3) := by decide +kernel
theorem dX9_init_29 : decode cX9_init 29 = .ok (.aload_n 0, 1) := by decide +kernel
theorem dX9_init_30 : decode cX9_init 30 = .ok (.bipush 10, 2) := by decide +kernel
theorem dX9_init_32 : decode cX9_init 32 = .ok (.newarray .int, 2) := by decide +kernel
theorem dX9_init_34 : decode cX9_init 34 = .ok (.putfield 19, 3) := by decide +kernel
theorem dX9_init_37 : decode cX9_init 37 = .ok (.aload_n 0, 1) := by decide +kernel
theorem dX9_init_38 : decode cX9_init 38 = .ok (.bipush 10, 2) := by decide +kernel
theorem dX9_init_40 : decode cX9_init 40 = .ok (.newarray .int, 2) := by decide +kernel
theorem dX9_init_42 : decode cX9_init 42 = .ok (.putfield 22, 3) := by decide +kernel
theorem dX9_init_45 : decode cX9_init 45 = .ok (.aload_n 0, 1) := by decide +kernel
theorem dX9_init_46 : decode cX9_init 46 = .ok (.bipush 10, 2) := by decide +kernel
theorem dX9_init_48 : decode cX9_init 48 = .ok (.newarray .int, 2) := by decide +kernel
theorem dX9_init_50 : decode cX9_init 50 = .ok (.putfield 25, 3) := by decide +kernel
theorem dX9_init_53 : decode cX9_init 53 = .ok (.aload_n 0, 1) := by decide +kernel
theorem dX9_init_54 : decode cX9_init 54 = .ok (.iconst 4, 1) := by decide +kernel
theorem dX9_init_55 : decode cX9_init 55 = .ok (.newarray .int, 2) := by decide +kernel
theorem dX9_init_57 : decode cX9_init 57 = .ok (.putfield 28, 3) := by decide +kernel
theorem dX9_init_60 : decode cX9_init 60 = .ok (.aload_n 0, 1) := by decide +kernel
theorem dX9_init_61 : decode cX9_init 61 = .ok (.iconst 4, 1) := by decide +kernel
theorem dX9_init_62 : decode cX9_init 62 = .ok (.newarray .int, 2) := by decide +kernel
theorem dX9_init_64 : decode cX9_init 64 = .ok (.putfield 31, 3) := by decide +kernel
theorem dX9_init_67 : decode cX9_init 67 = .ok (.aload_n 0, 1) := by decide +kernel
theorem dX9_init_68 : decode cX9_init 68 = .ok (.bipush 64, 2) := by decide +kernel
theorem dX9_init_70 : decode cX9_init 70 = .ok (.newarray .int, 2) := by decide +kernel
theorem dX9_init_72 : decode cX9_init 72 = .ok (.putfield 34, 3) := by decide +kernel
theorem dX9_init_75 : decode cX9_init 75 = .ok (.aload_n 0, 1) := by decide +kernel
theorem dX9_init_76 : decode cX9_init 76 = .ok (.iconst 4, 1) := by decide +kernel
theorem dX9_init_77 : decode cX9_init 77 = .ok (.newarray .int, 2) := by decide +kernel
theorem dX9_init_79 : decode cX9_init 79 = .ok (.putfield 37, 3) := by decide +kernel
theorem dX9_init_82 : decode cX9_init 82 = .ok (.aload_n 0, 1) := by decide +kernel
theorem dX9_init_83 : decode cX9_init 83 = .ok (.bipush 20, 2) := by decide +kernel
theorem dX9_init_85 : decode cX9_init 85 = .ok (.newarray .int, 2) := by decide +kernel
theorem dX9_init_87 : decode cX9_init 87 = .ok (.putfield 40, 3) := by decide +kernel
theorem dX9_init_90 : decode cX9_init 90 = .ok (.aload_n 0, 1) := by decide +kernel
theorem dX9_init_91 : decode cX9_init 91 = .ok (.bipush 20, 2) := by decide +kernel
theorem dX9_init_93 : decode cX9_init 93 = .ok (.newarray .int, 2) := by decide +kernel
theorem dX9_init_95 : decode cX9_init 95 = .ok (.putfield 43, 3) := by decide +kernel
theorem dX9_init_98 : decode cX9_init 98 = .ok (.aload_n 0, 1) := by decide +kernel
theorem dX9_init_99 : decode cX9_init 99 = .ok (.bipush 20, 2) := by decide +kernel
theorem dX9_init_101 : decode cX9_init 101 = .ok (.newarray .int, 2) := by decide +kernel
theorem dX9_init_103 : decode cX9_init 103 = .ok (.putfield 46, 3) := by decide +kernel
theorem dX9_init_106 : decode cX9_init 106 = .ok (.aload_n 0, 1) := by decide +kernel
theorem dX9_init_107 : decode cX9_init 107 = .ok (.sipush 320, 3) := by decide +kernel
theorem dX9_init_110 : decode cX9_init 110 = .ok (.newarray .int, 2) := by decide +kernel
theorem dX9_init_112 : decode cX9_init 112 = .ok (.putfield 49, 3) := by decide +kernel
theorem dX9_init_115 : decode cX9_init 115 = .ok (.aload_n 0, 1) := by decide +kernel
theorem dX9_init_116 : decode cX9_init 116 = .ok (.sipush 500, 3) := by decide +kernel
theorem dX9_init_119 : decode cX9_init 119 = .ok (.newarray .int, 2) := by decide +kernel
theorem dX9_init_121 : decode cX9_init 121 = .ok (.putfield 52, 3) := by decide +kernel
theorem dX9_init_124 : decode cX9_init 124 = .ok (.aload_n 0, 1) := by decide +kernel
theorem dX9_init_125 : decode cX9_init 125 = .ok (.iconst (-1), 1) := by decide +kernel
theorem dX9_init_126 : decode cX9_init 126 = .ok (.putfield 55, 3) := by decide +kernel
theorem dX9_init_129 : decode cX9_init 129 = .ok (.aload_n 0, 1) := by decide +kernel
theorem dX9_init_130 : decode cX9_init 130 = .ok (.sipush 384, 3) := by decide +kernel
theorem dX9_init_133 : decode cX9_init 133 = .ok (.newarray .int, 2) := by decide +kernel
theorem dX9_init_135 : decode cX9_init 135 = .ok (.putfield 59, 3) := by decide +kernel
theorem dX9_init_138 : decode cX9_init 138 = .ok (.aload_n 0, 1) := by decide +kernel
theorem dX9_init_139 : decode cX9_init 139 = .ok (.bipush 24, 2) := by decide +kernel
theorem dX9_init_141 : decode cX9_init 141 = .ok (.newarray .int, 2) := by decide +kernel
theorem dX9_init_143 : decode cX9_init 143 = .ok (.putfield 62, 3) := by decide +kernel
theorem dX9_init_146 : decode cX9_init 146 = .ok (.aload_n 0, 1) := by decide +kernel
theorem dX9_init_147 : decode cX9_init 147 = .ok (.bipush 24, 2) := by decide +kernel
theorem dX9_init_149 : decode cX9_init 149 = .ok (.newarray .int, 2) := by decide +kernel
theorem dX9_init_151 : decode cX9_init 151 = .ok (.putfield 65, 3) := by decide +kernel
theorem dX9_init_154 : decode cX9_init 154 = .ok (.aload_n 0, 1) := by decide +kernel
theorem dX9_init_155 : decode cX9_init 155 = .ok (.bipush 10, 2) := by decide +kernel
theorem dX9_init_157 : decode cX9_init 157 = .ok (.newarray .int, 2) := by decide +kernel
theorem dX9_init_159 : decode cX9_init 159 = .ok (.putfield 68, 3) := by decide +kernel
theorem dX9_init_162 : decode cX9_init 162 = .ok (.aload_n 0, 1) := by decide +kernel
theorem dX9_init_163 : decode cX9_init 163 = .ok (.bipush 10, 2) := by decide +kernel
theorem dX9_init_165 : decode cX9_init 165 = .ok (.newarray .int, 2) := by decide +kernel
theorem dX9_init_167 : decode cX9_init 167 = .ok (.putfield 71, 3) := by decide +kernel
theorem dX9_init_170 : decode cX9_init 170 = .ok (.aload_n 0, 1) := by decide +kernel
theorem dX9_init_171 : decode cX9_init 171 = .ok (.bipush 10, 2) := by decide +kernel
theorem dX9_init_173 : decode cX9_init 173 = .ok (.newarray .int, 2) := by decide +kernel
theorem dX9_init_175 : decode cX9_init 175 = .ok (.putfield 74, 3) := by decide +kernel
theorem dX9_init_178 : decode cX9_init 178 = .ok (.aload_n 0, 1) := by decide +kernel
theorem dX9_init_179 : decode cX9_init 179 = .ok (.sipush 400, 3) := by decide +kernel
theorem dX9_init_182 : decode cX9_init 182 = .ok (.newarray .int, 2) := by decide +kernel
theorem dX9_init_184 : decode cX9_init 184 = .ok (.putfield 77, 3) := by decide +kernel
theorem dX9_init_187 : decode cX9_init 187 = .ok (.aload_n 0, 1) := by decide +kernel
theorem dX9_init_188 : decode cX9_init 188 = .ok (.bipush 16, 2) := by decide +kernel
theorem dX9_init_190 : decode cX9_init 190 = .ok (.newarray .int, 2) := by decide +kernel
theorem dX9_init_192 : decode cX9_init 192 = .ok (.putfield 80, 3) := by decide +kernel
theorem dX9_init_195 : decode cX9_init 195 = .ok (.aload_n 0, 1) := by decide +kernel
theorem dX9_init_196 : decode cX9_init 196 = .ok (.bipush 16, 2) := by decide +kernel
theorem dX9_init_198 : decode cX9_init 198 = .ok (.newarray .int, 2) := by decide +kernel
theorem dX9_init_200 : decode cX9_init 200 = .ok (.putfield 83, 3) := by decide +kernel
theorem dX9_init_203 : decode cX9_init 203 = .ok (.aload_n 0, 1) := by decide +kernel
theorem dX9_init_204 : decode cX9_init 204 = .ok (.bipush 8, 2) := by decide +kernel
theorem dX9_init_206 : decode cX9_init 206 = .ok (.newarray .int, 2) := by decide +kernel
theorem dX9_init_208 : decode cX9_init 208 = .ok (.putfield 86, 3) := by decide +kernel
theorem dX9_init_211 : decode cX9_init 211 = .ok (.aload_n 0, 1) := by decide +kernel
theorem dX9_init_212 : decode cX9_init 212 = .ok (.bipush 8, 2) := by decide +kernel
theorem dX9_init_214 : decode cX9_init 214 = .ok (.newarray .int, 2) := by decide +kernel
theorem dX9_init_216 : decode cX9_init 216 = .ok (.putfield 89, 3) := by decide +kernel
theorem dX9_init_219 : decode cX9_init 219 = .ok (.aload_n 0, 1) := by decide +kernel
theorem dX9_init_220 : decode cX9_init 220 = .ok (.bipush 8, 2) := by decide +kernel
theorem dX9_init_222 : decode cX9_init 222 = .ok (.newarray .int, 2) := by decide +kernel
theorem dX9_init_224 : decode cX9_init 224 = .ok (.putfield 92, 3) := by decide +kernel
theorem dX9_init_227 : decode cX9_init 227 = .ok (.aload_n 0, 1) := by decide +kernel
theorem dX9_init_228 : decode cX9_init 228 = .ok (.iconst (-1), 1) := by decide +kernel
theorem dX9_init_229 : decode cX9_init 229 = .ok (.putfield 95, 3) := by decide +kernel
theorem dX9_init_232 : decode cX9_init 232 = .ok (.aload_n 0, 1) := by decide +kernel
theorem dX9_init_233 : decode cX9_init 233 = .ok (.iconst (-1), 1) := by decide +kernel
theorem dX9_init_234 : decode cX9_init 234 = .ok (.putfield 98, 3) := by decide +kernel
theorem dX9_init_237 : decode cX9_init 237 = .ok (.aload_n 0, 1) := by decide +kernel
theorem dX9_init_238 : decode cX9_init 238 = .ok (.bipush 8, 2) := by decide +kernel
theorem dX9_init_240 : decode cX9_init 240 = .ok (.newarray .int, 2) := by decide +kernel
theorem dX9_init_242 : decode cX9_init 242 = .ok (.putfield 101, 3) := by decide +kernel
theorem dX9_init_245 : decode cX9_init 245 = .ok (.aload_n 0, 1) := by decide +kernel
theorem dX9_init_246 : decode cX9_init 246 = .ok (.bipush 8, 2) := by decide +kernel
theorem dX9_init_248 : decode cX9_init 248 = .ok (.newarray .int, 2) := by decide +kernel
theorem dX9_init_250 : decode cX9_init 250 = .ok (.putfield 104, 3) := by decide +kernel
theorem dX9_init_253 : decode cX9_init 253 = .ok (.aload_n 0, 1) := by decide +kernel
theorem dX9_init_254 : decode cX9_init 254 = .ok (.sipush 1000, 3) := by decide +kernel
theorem dX9_init_257 : decode cX9_init 257 = .ok (.newarray .int, 2) := by decide +kernel
theorem dX9_init_259 : decode cX9_init 259 = .ok (.putfield 107, 3) := by decide +kernel
theorem dX9_init_262 : decode cX9_init 262 = .ok (.aload_n 0, 1) := by decide +kernel
theorem dX9_init_263 : decode cX9_init 263 = .ok (.iconst 2, 1) := by decide +kernel
theorem dX9_init_264 : decode cX9_init 264 = .ok (.newarray .boolean, 2) := by decide +kernel
theorem dX9_init_266 : decode cX9_init 266 = .ok (.putfield 110, 3) := by decide +kernel
theorem dX9_init_269 : decode cX9_init 269 = .ok (.aload_n 0, 1) := by decide +kernel
theorem dX9_init_270 : decode cX9_init 270 = .ok (.iconst 0, 1) := by decide +kernel
theorem dX9_init_271 : decode cX9_init 271 = .ok (.putfield 114, 3) := by decide +kernel
theorem dX9_init_274 : decode cX9_init 274 = .ok (.return_, 1) := by decide +kernel
theorem dX9_in_0 : decode cX9_in 0 = .ok (.lload_n 0, 1) := by decide +kernel
theorem dX9_in_1 : decode cX9_in 1 = .ok (.lload_n 2, 1) := by decide +kernel
theorem dX9_in_2 : decode cX9_in 2 = .ok (.lcmp, 1) := by decide +kernel
theorem dX9_in_3 : decode cX9_in 3 = .ok (.ifCond .lt 14, 3) := by decide +kernel
theorem dX9_in_6 : decode cX9_in 6 = .ok (.lload_n 0, 1) := by decide +kernel
theorem dX9_in_7 : decode cX9_in 7 = .ok (.lload 4, 2) := by decide +kernel
theorem dX9_in_9 : decode cX9_in 9 = .ok (.lcmp, 1) := by decide +kernel
theorem dX9_in_10 : decode cX9_in 10 = .ok (.ifCond .gt 7, 3) := by decide +kernel
theorem dX9_in_13 : decode cX9_in 13 = .ok (.iconst 1, 1) := by decide +kernel
theorem dX9_in_14 : decode cX9_in 14 = .ok (.goto 4, 3) := by decide +kernel
theorem dX9_in_17 : decode cX9_in 17 = .ok (.iconst 0, 1) := by decide +kernel
theorem dX9_in_18 : decode cX9_in 18 = .ok (.ireturn, 1) := by decide +kernel
theorem dX9_has_0 : decode cX9_has 0 = .ok (.iload_n 0, 1) := by decide +kernel
theorem dX9_has_1 : decode cX9_has 1 = .ok (.iload_n 1, 1) := by decide +kernel
theorem dX9_has_2 : decode cX9_has 2 = .ok (.ishr, 1) := by decide +kernel
theorem dX9_has_3 : decode cX9_has 3 = .ok (.iconst 1, 1) := by decide +kernel
theorem dX9_has_4 : decode cX9_has 4 = .ok (.iand, 1) := by decide +kernel
theorem dX9_has_5 : decode cX9_has 5 = .ok (.iconst 1, 1) := by decide +kernel
theorem dX9_has_6 : decode cX9_has 6 = .ok (.if_icmp .ne 7, 3) := by decide +kernel
theorem dX9_has_9 : decode cX9_has 9 = .ok (.iconst 1, 1) := by decide +kernel
theorem dX9_has_10 : decode cX9_has 10 = .ok (.goto 4, 3) := by decide +kernel
theorem dX9_has_13 : decode cX9_has 13 = .ok (.iconst 0, 1) := by decide +kernel
theorem dX9_has_14 : decode cX9_has 14 = .ok (.ireturn, 1) := by decide +kernel
theorem dX9_bits_0 : decode cX9_bits 0 = .ok (.iconst 0, 1) := by decide +kernel
theorem dX9_bits_1 : decode cX9_bits 1 = .ok (.istore_n 1, 1) := by decide +kernel
theorem dX9_bits_2 : decode cX9_bits 2 = .ok (.iconst 0, 1) := by decide +kernel
theorem dX9_bits_3 : decode cX9_bits 3 = .ok (.istore_n 2, 1) := by decide +kernel
theorem dX9_bits_4 : decode cX9_bits 4 = .ok (.iload_n 2, 1) := by decide +kernel
theorem dX9_bits_5 : decode cX9_bits 5 = .ok (.bipush 24, 2) := by decide +kernel
theorem dX9_bits_7 : decode cX9_bits 7 = .ok (.if_icmp .ge 17, 3) := by decide +kernel
theorem dX9_bits_10 : decode cX9_bits 10 = .ok (.iload_n 1, 1) := by decide +kernel
theorem dX9_bits_11 : decode cX9_bits 11 = .ok (.iload_n 0, 1) := by decide +kernel
theorem dX9_bits_12 : decode cX9_bits 12 = .ok (.iload_n 2, 1) := by decide +kernel
theorem dX9_bits_13 : decode cX9_bits 13 = .ok (.ishr, 1) := by decide +kernel
theorem dX9_bits_14 : decode cX9_bits 14 = .ok (.iconst 1, 1) := by decide +kernel
theorem dX9_bits_15 : decode cX9_bits 15 = .ok (.iand, 1) := by decide +kernel
theorem dX9_bits_16 : decode cX9_bits 16 = .ok (.iadd, 1) := by decide +kernel
theorem dX9_bits_17 : decode cX9_bits 17 = .ok (.istore_n 1, 1) := by decide +kernel
theorem dX9_bits_18 : decode cX9_bits 18 = .ok (.iinc 2 1, 3) := by decide +kernel
theorem dX9_bits_21 : decode cX9_bits 21 = .ok (.goto (-17), 3) := by decide +kernel
theorem dX9_bits_24 : decode cX9_bits 24 = .ok (.iload_n 1, 1) := by decide +kernel
theorem dX9_bits_25 : decode cX9_bits 25 = .ok (.ireturn, 1) := by decide +kernel
theorem dX9_isChange_0 : decode cX9_isChange 0 = .ok (.iload_n 1, 1) := by decide +kernel
theorem dX9_isChange_1 : decode cX9_isChange 1 = .ok (.i2l, 1) := by decide +kernel
theorem dX9_isChange_2 : decode cX9_isChange 2 = .ok (.lconst 0, 1) := by decide +kernel
theorem dX9_isChange_3 : decode cX9_isChange 3 = .ok (.aload_n 0, 1) := by decide +kernel
theorem dX9_isChange_4 : decode cX9_isChange 4 = .ok (.getfield 114, 3) := by decide +kernel
theorem dX9_isChange_7 : decode cX9_isChange 7 = .ok (.iconst 1, 1) := by decide +kernel
theorem dX9_isChange_8 : decode cX9_isChange 8 = .ok (.isub, 1) := by decide +kernel
theorem dX9_isChange_9 : decode cX9_isChange 9 = .ok (.i2l, 1) := by decide +kernel
theorem dX9_isChange_10 : decode cX9_isChange 10 = .ok (.invokestatic 117, 3) := by decide +kernel
theorem dX9_isChange_13 : decode cX9_isChange 13 = .ok (.ireturn, 1) := by decide +kernel
theorem dX9_isSlot_0 : decode cX9_isSlot 0 = .ok (.iload_n 0, 1) := by decide +kernel
theorem dX9_isSlot_1 : decode cX9_isSlot 1 = .ok (.i2l, 1) := by decide +kernel
theorem dX9_isSlot_2 : decode cX9_isSlot 2 = .ok (.lconst 0, 1) := by decide +kernel
theorem dX9_isSlot_3 : decode cX9_isSlot 3 = .ok (.ldc2_w 121, 3) := by decide +kernel
theorem dX9_isSlot_6 : decode cX9_isSlot 6 = .ok (.invokestatic 117, 3) := by decide +kernel
theorem dX9_isSlot_9 : decode cX9_isSlot 9 = .ok (.ireturn, 1) := by decide +kernel
theorem dX9_isFault_0 : decode cX9_isFault 0 = .ok (.iload_n 1, 1) := by decide +kernel
theorem dX9_isFault_1 : decode cX9_isFault 1 = .ok (.i2l, 1) := by decide +kernel
theorem dX9_isFault_2 : decode cX9_isFault 2 = .ok (.lconst 0, 1) := by decide +kernel
theorem dX9_isFault_3 : decode cX9_isFault 3 = .ok (.aload_n 0, 1) := by decide +kernel
theorem dX9_isFault_4 : decode cX9_isFault 4 = .ok (.getfield 123, 3) := by decide +kernel
theorem dX9_isFault_7 : decode cX9_isFault 7 = .ok (.iconst 1, 1) := by decide +kernel
theorem dX9_isFault_8 : decode cX9_isFault 8 = .ok (.isub, 1) := by decide +kernel
theorem dX9_isFault_9 : decode cX9_isFault 9 = .ok (.i2l, 1) := by decide +kernel
theorem dX9_isFault_10 : decode cX9_isFault 10 = .ok (.invokestatic 117, 3) := by decide +kernel
theorem dX9_isFault_13 : decode cX9_isFault 13 = .ok (.ireturn, 1) := by decide +kernel
theorem dX9_isLine_0 : decode cX9_isLine 0 = .ok (.iload_n 1, 1) := by decide +kernel
theorem dX9_isLine_1 : decode cX9_isLine 1 = .ok (.i2l, 1) := by decide +kernel
theorem dX9_isLine_2 : decode cX9_isLine 2 = .ok (.lconst 0, 1) := by decide +kernel
theorem dX9_isLine_3 : decode cX9_isLine 3 = .ok (.aload_n 0, 1) := by decide +kernel
theorem dX9_isLine_4 : decode cX9_isLine 4 = .ok (.getfield 126, 3) := by decide +kernel
theorem dX9_isLine_7 : decode cX9_isLine 7 = .ok (.iconst 1, 1) := by decide +kernel
theorem dX9_isLine_8 : decode cX9_isLine 8 = .ok (.isub, 1) := by decide +kernel
theorem dX9_isLine_9 : decode cX9_isLine 9 = .ok (.i2l, 1) := by decide +kernel
theorem dX9_isLine_10 : decode cX9_isLine 10 = .ok (.invokestatic 117, 3) := by decide +kernel
theorem dX9_isLine_13 : decode cX9_isLine 13 = .ok (.ireturn, 1) := by decide +kernel
theorem dX9_isRelease_0 : decode cX9_isRelease 0 = .ok (.iload_n 1, 1) := by decide +kernel
theorem dX9_isRelease_1 : decode cX9_isRelease 1 = .ok (.i2l, 1) := by decide +kernel
theorem dX9_isRelease_2 : decode cX9_isRelease 2 = .ok (.lconst 0, 1) := by decide +kernel
theorem dX9_isRelease_3 : decode cX9_isRelease 3 = .ok (.aload_n 0, 1) := by decide +kernel
theorem dX9_isRelease_4 : decode cX9_isRelease 4 = .ok (.getfield 129, 3) := by decide +kernel
theorem dX9_isRelease_7 : decode cX9_isRelease 7 = .ok (.iconst 1, 1) := by decide +kernel
theorem dX9_isRelease_8 : decode cX9_isRelease 8 = .ok (.isub, 1) := by decide +kernel
theorem dX9_isRelease_9 : decode cX9_isRelease 9 = .ok (.i2l, 1) := by decide +kernel
theorem dX9_isRelease_10 : decode cX9_isRelease 10 = .ok (.invokestatic 117, 3) := by decide +kernel
theorem dX9_isRelease_13 : decode cX9_isRelease 13 = .ok (.ireturn, 1) := by decide +kernel
theorem dX9_isDay_0 : decode cX9_isDay 0 = .ok (.iload_n 0, 1) := by decide +kernel
theorem dX9_isDay_1 : decode cX9_isDay 1 = .ok (.i2l, 1) := by decide +kernel
theorem dX9_isDay_2 : decode cX9_isDay 2 = .ok (.lconst 0, 1) := by decide +kernel
theorem dX9_isDay_3 : decode cX9_isDay 3 = .ok (.ldc2_w 132, 3) := by decide +kernel
theorem dX9_isDay_6 : decode cX9_isDay 6 = .ok (.invokestatic 117, 3) := by decide +kernel
theorem dX9_isDay_9 : decode cX9_isDay 9 = .ok (.ireturn, 1) := by decide +kernel
theorem dX9_feed_0 : decode cX9_feed 0 = .ok (.iload_n 1, 1) := by decide +kernel
theorem dX9_feed_1 : decode cX9_feed 1 = .ok (.i2l, 1) := by decide +kernel
theorem dX9_feed_2 : decode cX9_feed 2 = .ok (.lconst 1, 1) := by decide +kernel
theorem dX9_feed_3 : decode cX9_feed 3 = .ok (.ldc2_w 134, 3) := by decide +kernel
theorem dX9_feed_6 : decode cX9_feed 6 = .ok (.invokestatic 117, 3) := by decide +kernel
theorem dX9_feed_9 : decode cX9_feed 9 = .ok (.ifCond .ne 7, 3) := by decide +kernel
theorem dX9_feed_12 : decode cX9_feed 12 = .ok (.sipush (-1002), 3) := by decide +kernel
theorem dX9_feed_15 : decode cX9_feed 15 = .ok (.ireturn, 1) := by decide +kernel
theorem dX9_feed_16 : decode cX9_feed 16 = .ok (.aload_n 0, 1) := by decide +kernel
theorem dX9_feed_17 : decode cX9_feed 17 = .ok (.getfield 136, 3) := by decide +kernel
theorem dX9_feed_20 : decode cX9_feed 20 = .ok (.iload_n 1, 1) := by decide +kernel
theorem dX9_feed_21 : decode cX9_feed 21 = .ok (.iadd, 1) := by decide +kernel
theorem dX9_feed_22 : decode cX9_feed 22 = .ok (.sipush 500, 3) := by decide +kernel
theorem dX9_feed_25 : decode cX9_feed 25 = .ok (.if_icmp .le 7, 3) := by decide +kernel
theorem dX9_feed_28 : decode cX9_feed 28 = .ok (.sipush (-1004), 3) := by decide +kernel
theorem dX9_feed_31 : decode cX9_feed 31 = .ok (.ireturn, 1) := by decide +kernel
theorem dX9_feed_32 : decode cX9_feed 32 = .ok (.iload_n 1, 1) := by decide +kernel
theorem dX9_feed_33 : decode cX9_feed 33 = .ok (.iconst 1, 1) := by decide +kernel
theorem dX9_feed_34 : decode cX9_feed 34 = .ok (.isub, 1) := by decide +kernel
theorem dX9_feed_35 : decode cX9_feed 35 = .ok (.istore 4, 2) := by decide +kernel
theorem dX9_feed_37 : decode cX9_feed 37 = .ok (.iload 4, 2) := by decide +kernel
theorem dX9_feed_39 : decode cX9_feed 39 = .ok (.ifCond .lt 40, 3) := by decide +kernel
theorem dX9_feed_42 : decode cX9_feed 42 = .ok (.aload_n 0, 1) := by decide +kernel
theorem dX9_feed_43 : decode cX9_feed 43 = .ok (.getfield 52, 3) := by decide +kernel
theorem dX9_feed_46 : decode cX9_feed 46 = .ok (.aload_n 0, 1) := by decide +kernel
theorem dX9_feed_47 : decode cX9_feed 47 = .ok (.getfield 136, 3) := by decide +kernel
theorem dX9_feed_50 : decode cX9_feed 50 = .ok (.lload_n 2, 1) := by decide +kernel
theorem dX9_feed_51 : decode cX9_feed 51 = .ok (.bipush 8, 2) := by decide +kernel
theorem dX9_feed_53 : decode cX9_feed 53 = .ok (.iload 4, 2) := by decide +kernel
theorem dX9_feed_55 : decode cX9_feed 55 = .ok (.imul, 1) := by decide +kernel
theorem dX9_feed_56 : decode cX9_feed 56 = .ok (.lshr, 1) := by decide +kernel
theorem dX9_feed_57 : decode cX9_feed 57 = .ok (.ldc2_w 139, 3) := by decide +kernel
theorem dX9_feed_60 : decode cX9_feed 60 = .ok (.land, 1) := by decide +kernel
theorem dX9_feed_61 : decode cX9_feed 61 = .ok (.l2i, 1) := by decide +kernel
theorem dX9_feed_62 : decode cX9_feed 62 = .ok (.iastore, 1) := by decide +kernel
theorem dX9_feed_63 : decode cX9_feed 63 = .ok (.aload_n 0, 1) := by decide +kernel
theorem dX9_feed_64 : decode cX9_feed 64 = .ok (.dup, 1) := by decide +kernel
theorem dX9_feed_65 : decode cX9_feed 65 = .ok (.getfield 136, 3) := by decide +kernel
theorem dX9_feed_68 : decode cX9_feed 68 = .ok (.iconst 1, 1) := by decide +kernel
theorem dX9_feed_69 : decode cX9_feed 69 = .ok (.iadd, 1) := by decide +kernel
theorem dX9_feed_70 : decode cX9_feed 70 = .ok (.putfield 136, 3) := by decide +kernel
theorem dX9_feed_73 : decode cX9_feed 73 = .ok (.iinc 4 (-1), 3) := by decide +kernel
theorem dX9_feed_76 : decode cX9_feed 76 = .ok (.goto (-39), 3) := by decide +kernel
theorem dX9_feed_79 : decode cX9_feed 79 = .ok (.aload_n 0, 1) := by decide +kernel
theorem dX9_feed_80 : decode cX9_feed 80 = .ok (.getfield 136, 3) := by decide +kernel
theorem dX9_feed_83 : decode cX9_feed 83 = .ok (.ireturn, 1) := by decide +kernel
theorem dX9_here_0 : decode cX9_here 0 = .ok (.aload_n 0, 1) := by decide +kernel
theorem dX9_here_1 : decode cX9_here 1 = .ok (.getfield 141, 3) := by decide +kernel
theorem dX9_here_4 : decode cX9_here 4 = .ok (.aload_n 0, 1) := by decide +kernel
theorem dX9_here_5 : decode cX9_here 5 = .ok (.getfield 136, 3) := by decide +kernel
theorem dX9_here_8 : decode cX9_here 8 = .ok (.if_icmp .ge 30, 3) := by decide +kernel
theorem dX9_here_11 : decode cX9_here 11 = .ok (.aload_n 0, 1) := by decide +kernel
theorem dX9_here_12 : decode cX9_here 12 = .ok (.getfield 52, 3) := by decide +kernel
theorem dX9_here_15 : decode cX9_here 15 = .ok (.aload_n 0, 1) := by decide +kernel
theorem dX9_here_16 : decode cX9_here 16 = .ok (.getfield 141, 3) := by decide +kernel
theorem dX9_here_19 : decode cX9_here 19 = .ok (.iaload, 1) := by decide +kernel
theorem dX9_here_20 : decode cX9_here 20 = .ok (.bipush 32, 2) := by decide +kernel
theorem dX9_here_22 : decode cX9_here 22 = .ok (.if_icmp .ne 16, 3) := by decide +kernel
theorem dX9_here_25 : decode cX9_here 25 = .ok (.aload_n 0, 1) := by decide +kernel
theorem dX9_here_26 : decode cX9_here 26 = .ok (.dup, 1) := by decide +kernel
theorem dX9_here_27 : decode cX9_here 27 = .ok (.getfield 141, 3) := by decide +kernel
theorem dX9_here_30 : decode cX9_here 30 = .ok (.iconst 1, 1) := by decide +kernel
theorem dX9_here_31 : decode cX9_here 31 = .ok (.iadd, 1) := by decide +kernel
theorem dX9_here_32 : decode cX9_here 32 = .ok (.putfield 141, 3) := by decide +kernel
theorem dX9_here_35 : decode cX9_here 35 = .ok (.goto (-35), 3) := by decide +kernel
theorem dX9_here_38 : decode cX9_here 38 = .ok (.aload_n 0, 1) := by decide +kernel
theorem dX9_here_39 : decode cX9_here 39 = .ok (.getfield 141, 3) := by decide +kernel
theorem dX9_here_42 : decode cX9_here 42 = .ok (.aload_n 0, 1) := by decide +kernel
theorem dX9_here_43 : decode cX9_here 43 = .ok (.getfield 136, 3) := by decide +kernel
theorem dX9_here_46 : decode cX9_here 46 = .ok (.if_icmp .ge 15, 3) := by decide +kernel
theorem dX9_here_49 : decode cX9_here 49 = .ok (.aload_n 0, 1) := by decide +kernel
theorem dX9_here_50 : decode cX9_here 50 = .ok (.getfield 52, 3) := by decide +kernel
theorem dX9_here_53 : decode cX9_here 53 = .ok (.aload_n 0, 1) := by decide +kernel
theorem dX9_here_54 : decode cX9_here 54 = .ok (.getfield 141, 3) := by decide +kernel
theorem dX9_here_57 : decode cX9_here 57 = .ok (.iaload, 1) := by decide +kernel
theorem dX9_here_58 : decode cX9_here 58 = .ok (.goto 4, 3) := by decide +kernel
theorem dX9_here_61 : decode cX9_here 61 = .ok (.iconst (-1), 1) := by decide +kernel
theorem dX9_here_62 : decode cX9_here 62 = .ok (.ireturn, 1) := by decide +kernel
theorem dX9_breaks_0 : decode cX9_breaks 0 = .ok (.aload_n 0, 1) := by decide +kernel
theorem dX9_breaks_1 : decode cX9_breaks 1 = .ok (.iload_n 2, 1) := by decide +kernel
theorem dX9_breaks_2 : decode cX9_breaks 2 = .ok (.putfield 55, 3) := by decide +kernel
theorem dX9_breaks_5 : decode cX9_breaks 5 = .ok (.iload_n 1, 1) := by decide +kernel
theorem dX9_breaks_6 : decode cX9_breaks 6 = .ok (.ireturn, 1) := by decide +kernel
theorem dX9_readWord_0 : decode cX9_readWord 0 = .ok (.aload_n 0, 1) := by decide +kernel
theorem dX9_readWord_1 : decode cX9_readWord 1 = .ok (.invokevirtual 144, 3) := by decide +kernel
theorem dX9_readWord_4 : decode cX9_readWord 4 = .ok (.istore_n 1, 1) := by decide +kernel
theorem dX9_readWord_5 : decode cX9_readWord 5 = .ok (.aload_n 0, 1) := by decide +kernel
theorem dX9_readWord_6 : decode cX9_readWord 6 = .ok (.lconst 0, 1) := by decide +kernel
theorem dX9_readWord_7 : decode cX9_readWord 7 = .ok (.putfield 148, 3) := by decide +kernel
theorem dX9_readWord_10 : decode cX9_readWord 10 = .ok (.aload_n 0, 1) := by decide +kernel
theorem dX9_readWord_11 : decode cX9_readWord 11 = .ok (.aload_n 0, 1) := by decide +kernel
theorem dX9_readWord_12 : decode cX9_readWord 12 = .ok (.getfield 141, 3) := by decide +kernel
theorem dX9_readWord_15 : decode cX9_readWord 15 = .ok (.putfield 152, 3) := by decide +kernel
theorem dX9_readWord_18 : decode cX9_readWord 18 = .ok (.aload_n 0, 1) := by decide +kernel
theorem dX9_readWord_19 : decode cX9_readWord 19 = .ok (.getfield 152, 3) := by decide +kernel
theorem dX9_readWord_22 : decode cX9_readWord 22 = .ok (.aload_n 0, 1) := by decide +kernel
theorem dX9_readWord_23 : decode cX9_readWord 23 = .ok (.getfield 136, 3) := by decide +kernel
theorem dX9_readWord_26 : decode cX9_readWord 26 = .ok (.if_icmp .ge 82, 3) := by decide +kernel
theorem dX9_readWord_29 : decode cX9_readWord 29 = .ok (.aload_n 0, 1) := by decide +kernel
theorem dX9_readWord_30 : decode cX9_readWord 30 = .ok (.getfield 52, 3) := by decide +kernel
theorem dX9_readWord_33 : decode cX9_readWord 33 = .ok (.aload_n 0, 1) := by decide +kernel
theorem dX9_readWord_34 : decode cX9_readWord 34 = .ok (.getfield 152, 3) := by decide +kernel
theorem dX9_readWord_37 : decode cX9_readWord 37 = .ok (.iaload, 1) := by decide +kernel
theorem dX9_readWord_38 : decode cX9_readWord 38 = .ok (.i2l, 1) := by decide +kernel
theorem dX9_readWord_39 : decode cX9_readWord 39 = .ok (.ldc2_w 155, 3) := by decide +kernel
theorem dX9_readWord_42 : decode cX9_readWord 42 = .ok (.ldc2_w 157, 3) := by decide +kernel
theorem dX9_readWord_45 : decode cX9_readWord 45 = .ok (.invokestatic 117, 3) := by decide +kernel
theorem dX9_readWord_48 : decode cX9_readWord 48 = .ok (.ifCond .eq 60, 3) := by decide +kernel
theorem dX9_readWord_51 : decode cX9_readWord 51 = .ok (.aload_n 0, 1) := by decide +kernel
theorem dX9_readWord_52 : decode cX9_readWord 52 = .ok (.aload_n 0, 1) := by decide +kernel
theorem dX9_readWord_53 : decode cX9_readWord 53 = .ok (.getfield 148, 3) := by decide +kernel
theorem dX9_readWord_56 : decode cX9_readWord 56 = .ok (.ldc2_w 159, 3) := by decide +kernel
theorem dX9_readWord_59 : decode cX9_readWord 59 = .ok (.lcmp, 1) := by decide +kernel
theorem dX9_readWord_60 : decode cX9_readWord 60 = .ok (.ifCond .le 9, 3) := by decide +kernel
theorem dX9_readWord_63 : decode cX9_readWord 63 = .ok (.ldc2_w 161, 3) := by decide +kernel
theorem dX9_readWord_66 : decode cX9_readWord 66 = .ok (.goto 26, 3) := by decide +kernel
theorem dX9_readWord_69 : decode cX9_readWord 69 = .ok (.ldc2_w 163, 3) := by decide +kernel
theorem dX9_readWord_72 : decode cX9_readWord 72 = .ok (.aload_n 0, 1) := by decide +kernel
theorem dX9_readWord_73 : decode cX9_readWord 73 = .ok (.getfield 148, 3) := by decide +kernel
theorem dX9_readWord_76 : decode cX9_readWord 76 = .ok (.lmul, 1) := by decide +kernel
theorem dX9_readWord_77 : decode cX9_readWord 77 = .ok (.aload_n 0, 1) := by decide +kernel
theorem dX9_readWord_78 : decode cX9_readWord 78 = .ok (.getfield 52, 3) := by decide +kernel
theorem dX9_readWord_81 : decode cX9_readWord 81 = .ok (.aload_n 0, 1) := by decide +kernel
theorem dX9_readWord_82 : decode cX9_readWord 82 = .ok (.getfield 152, 3) := by decide +kernel
theorem dX9_readWord_85 : decode cX9_readWord 85 = .ok (.iaload, 1) := by decide +kernel
theorem dX9_readWord_86 : decode cX9_readWord 86 = .ok (.i2l, 1) := by decide +kernel
theorem dX9_readWord_87 : decode cX9_readWord 87 = .ok (.ladd, 1) := by decide +kernel
theorem dX9_readWord_88 : decode cX9_readWord 88 = .ok (.ldc2_w 165, 3) := by decide +kernel
theorem dX9_readWord_91 : decode cX9_readWord 91 = .ok (.lsub, 1) := by decide +kernel
theorem dX9_readWord_92 : decode cX9_readWord 92 = .ok (.putfield 148, 3) := by decide +kernel
theorem dX9_readWord_95 : decode cX9_readWord 95 = .ok (.aload_n 0, 1) := by decide +kernel
theorem dX9_readWord_96 : decode cX9_readWord 96 = .ok (.dup, 1) := by decide +kernel
theorem dX9_readWord_97 : decode cX9_readWord 97 = .ok (.getfield 152, 3) := by decide +kernel
theorem dX9_readWord_100 : decode cX9_readWord 100 = .ok (.iconst 1, 1) := by decide +kernel
theorem dX9_readWord_101 : decode cX9_readWord 101 = .ok (.iadd, 1) := by decide +kernel
theorem dX9_readWord_102 : decode cX9_readWord 102 = .ok (.putfield 152, 3) := by decide +kernel
theorem dX9_readWord_105 : decode cX9_readWord 105 = .ok (.goto (-87), 3) := by decide +kernel
theorem dX9_readWord_108 : decode cX9_readWord 108 = .ok (.return_, 1) := by decide +kernel
theorem dX9_code_0 : decode cX9_code 0 = .ok (.ldc2_w 163, 3) := by decide +kernel
theorem dX9_code_3 : decode cX9_code 3 = .ok (.ldc2_w 163, 3) := by decide +kernel
theorem dX9_code_6 : decode cX9_code 6 = .ok (.ldc2_w 163, 3) := by decide +kernel
theorem dX9_code_9 : decode cX9_code 9 = .ok (.iload_n 0, 1) := by decide +kernel
theorem dX9_code_10 : decode cX9_code 10 = .ok (.i2l, 1) := by decide +kernel
theorem dX9_code_11 : decode cX9_code 11 = .ok (.ldc2_w 165, 3) := by decide +kernel
theorem dX9_code_14 : decode cX9_code 14 = .ok (.lsub, 1) := by decide +kernel
theorem dX9_code_15 : decode cX9_code 15 = .ok (.lmul, 1) := by decide +kernel
theorem dX9_code_16 : decode cX9_code 16 = .ok (.iload_n 1, 1) := by decide +kernel
theorem dX9_code_17 : decode cX9_code 17 = .ok (.i2l, 1) := by decide +kernel
theorem dX9_code_18 : decode cX9_code 18 = .ok (.ladd, 1) := by decide +kernel
theorem dX9_code_19 : decode cX9_code 19 = .ok (.ldc2_w 165, 3) := by decide +kernel
theorem dX9_code_22 : decode cX9_code 22 = .ok (.lsub, 1) := by decide +kernel
theorem dX9_code_23 : decode cX9_code 23 = .ok (.lmul, 1) := by decide +kernel
theorem dX9_code_24 : decode cX9_code 24 = .ok (.iload_n 2, 1) := by decide +kernel
theorem dX9_code_25 : decode cX9_code 25 = .ok (.i2l, 1) := by decide +kernel
theorem dX9_code_26 : decode cX9_code 26 = .ok (.ladd, 1) := by decide +kernel
theorem dX9_code_27 : decode cX9_code 27 = .ok (.ldc2_w 165, 3) := by decide +kernel
theorem dX9_code_30 : decode cX9_code 30 = .ok (.lsub, 1) := by decide +kernel
theorem dX9_code_31 : decode cX9_code 31 = .ok (.lmul, 1) := by decide +kernel
theorem dX9_code_32 : decode cX9_code 32 = .ok (.iload_n 3, 1) := by decide +kernel
theorem dX9_code_33 : decode cX9_code 33 = .ok (.i2l, 1) := by decide +kernel
theorem dX9_code_34 : decode cX9_code 34 = .ok (.ladd, 1) := by decide +kernel
theorem dX9_code_35 : decode cX9_code 35 = .ok (.ldc2_w 165, 3) := by decide +kernel
theorem dX9_code_38 : decode cX9_code 38 = .ok (.lsub, 1) := by decide +kernel
theorem dX9_code_39 : decode cX9_code 39 = .ok (.lreturn, 1) := by decide +kernel
theorem dX9_longer_0 : decode cX9_longer 0 = .ok (.ldc2_w 163, 3) := by decide +kernel
theorem dX9_longer_3 : decode cX9_longer 3 = .ok (.lload_n 0, 1) := by decide +kernel
theorem dX9_longer_4 : decode cX9_longer 4 = .ok (.lmul, 1) := by decide +kernel
theorem dX9_longer_5 : decode cX9_longer 5 = .ok (.iload_n 2, 1) := by decide +kernel
theorem dX9_longer_6 : decode cX9_longer 6 = .ok (.i2l, 1) := by decide +kernel
theorem dX9_longer_7 : decode cX9_longer 7 = .ok (.ladd, 1) := by decide +kernel
theorem dX9_longer_8 : decode cX9_longer 8 = .ok (.ldc2_w 165, 3) := by decide +kernel
theorem dX9_longer_11 : decode cX9_longer 11 = .ok (.lsub, 1) := by decide +kernel
theorem dX9_longer_12 : decode cX9_longer 12 = .ok (.lreturn, 1) := by decide +kernel
theorem dX9_takeNumber_0 : decode cX9_takeNumber 0 = .ok (.aload_n 0, 1) := by decide +kernel
theorem dX9_takeNumber_1 : decode cX9_takeNumber 1 = .ok (.invokevirtual 144, 3) := by decide +kernel
theorem dX9_takeNumber_4 : decode cX9_takeNumber 4 = .ok (.istore_n 3, 1) := by decide +kernel
theorem dX9_takeNumber_5 : decode cX9_takeNumber 5 = .ok (.iload_n 3, 1) := by decide +kernel
theorem dX9_takeNumber_6 : decode cX9_takeNumber 6 = .ok (.i2l, 1) := by decide +kernel
theorem dX9_takeNumber_7 : decode cX9_takeNumber 7 = .ok (.ldc2_w 167, 3) := by decide +kernel
theorem dX9_takeNumber_10 : decode cX9_takeNumber 10 = .ok (.ldc2_w 169, 3) := by decide +kernel
theorem dX9_takeNumber_13 : decode cX9_takeNumber 13 = .ok (.invokestatic 117, 3) := by decide +kernel
theorem dX9_takeNumber_16 : decode cX9_takeNumber 16 = .ok (.ifCond .ne 13, 3) := by decide +kernel
theorem dX9_takeNumber_19 : decode cX9_takeNumber 19 = .ok (.aload_n 0, 1) := by decide +kernel
theorem dX9_takeNumber_20 : decode cX9_takeNumber 20 = .ok (.iconst 1, 1) := by decide +kernel
theorem dX9_takeNumber_21 : decode cX9_takeNumber 21 = .ok (.aload_n 0, 1) := by decide +kernel
theorem dX9_takeNumber_22 : decode cX9_takeNumber 22 = .ok (.getfield 141, 3) := by decide +kernel
theorem dX9_takeNumber_25 : decode cX9_takeNumber 25 = .ok (.invokevirtual 171, 3) := by decide +kernel
theorem dX9_takeNumber_28 : decode cX9_takeNumber 28 = .ok (.ireturn, 1) := by decide +kernel
theorem dX9_takeNumber_29 : decode cX9_takeNumber 29 = .ok (.aload_n 0, 1) := by decide +kernel
theorem dX9_takeNumber_30 : decode cX9_takeNumber 30 = .ok (.aload_n 0, 1) := by decide +kernel
theorem dX9_takeNumber_31 : decode cX9_takeNumber 31 = .ok (.getfield 141, 3) := by decide +kernel
theorem dX9_takeNumber_34 : decode cX9_takeNumber 34 = .ok (.putfield 175, 3) := by decide +kernel
theorem dX9_takeNumber_37 : decode cX9_takeNumber 37 = .ok (.aload_n 0, 1) := by decide +kernel
theorem dX9_takeNumber_38 : decode cX9_takeNumber 38 = .ok (.iconst 0, 1) := by decide +kernel
theorem dX9_takeNumber_39 : decode cX9_takeNumber 39 = .ok (.putfield 178, 3) := by decide +kernel
theorem dX9_takeNumber_42 : decode cX9_takeNumber 42 = .ok (.aload_n 0, 1) := by decide +kernel
theorem dX9_takeNumber_43 : decode cX9_takeNumber 43 = .ok (.getfield 141, 3) := by decide +kernel
theorem dX9_takeNumber_46 : decode cX9_takeNumber 46 = .ok (.aload_n 0, 1) := by decide +kernel
theorem dX9_takeNumber_47 : decode cX9_takeNumber 47 = .ok (.getfield 136, 3) := by decide +kernel
theorem dX9_takeNumber_50 : decode cX9_takeNumber 50 = .ok (.if_icmp .ge 79, 3) := by decide +kernel
theorem dX9_takeNumber_53 : decode cX9_takeNumber 53 = .ok (.aload_n 0, 1) := by decide +kernel
theorem dX9_takeNumber_54 : decode cX9_takeNumber 54 = .ok (.getfield 52, 3) := by decide +kernel
theorem dX9_takeNumber_57 : decode cX9_takeNumber 57 = .ok (.aload_n 0, 1) := by decide +kernel
theorem dX9_takeNumber_58 : decode cX9_takeNumber 58 = .ok (.getfield 141, 3) := by decide +kernel
theorem dX9_takeNumber_61 : decode cX9_takeNumber 61 = .ok (.iaload, 1) := by decide +kernel
theorem dX9_takeNumber_62 : decode cX9_takeNumber 62 = .ok (.i2l, 1) := by decide +kernel
theorem dX9_takeNumber_63 : decode cX9_takeNumber 63 = .ok (.ldc2_w 167, 3) := by decide +kernel
theorem dX9_takeNumber_66 : decode cX9_takeNumber 66 = .ok (.ldc2_w 169, 3) := by decide +kernel
theorem dX9_takeNumber_69 : decode cX9_takeNumber 69 = .ok (.invokestatic 117, 3) := by decide +kernel
theorem dX9_takeNumber_72 : decode cX9_takeNumber 72 = .ok (.ifCond .eq 57, 3) := by decide +kernel
theorem dX9_takeNumber_75 : decode cX9_takeNumber 75 = .ok (.aload_n 0, 1) := by decide +kernel
theorem dX9_takeNumber_76 : decode cX9_takeNumber 76 = .ok (.aload_n 0, 1) := by decide +kernel
theorem dX9_takeNumber_77 : decode cX9_takeNumber 77 = .ok (.getfield 178, 3) := by decide +kernel
theorem dX9_takeNumber_80 : decode cX9_takeNumber 80 = .ok (.sipush 10000, 3) := by decide +kernel
theorem dX9_takeNumber_83 : decode cX9_takeNumber 83 = .ok (.if_icmp .le 10, 3) := by decide +kernel
theorem dX9_takeNumber_86 : decode cX9_takeNumber 86 = .ok (.aload_n 0, 1) := by decide +kernel
theorem dX9_takeNumber_87 : decode cX9_takeNumber 87 = .ok (.getfield 178, 3) := by decide +kernel
theorem dX9_takeNumber_90 : decode cX9_takeNumber 90 = .ok (.goto 23, 3) := by decide +kernel
theorem dX9_takeNumber_93 : decode cX9_takeNumber 93 = .ok (.bipush 10, 2) := by decide +kernel
theorem dX9_takeNumber_95 : decode cX9_takeNumber 95 = .ok (.aload_n 0, 1) := by decide +kernel
theorem dX9_takeNumber_96 : decode cX9_takeNumber 96 = .ok (.getfield 178, 3) := by decide +kernel
theorem dX9_takeNumber_99 : decode cX9_takeNumber 99 = .ok (.imul, 1) := by decide +kernel
theorem dX9_takeNumber_100 : decode cX9_takeNumber 100 = .ok (.aload_n 0, 1) := by decide +kernel
theorem dX9_takeNumber_101 : decode cX9_takeNumber 101 = .ok (.getfield 52, 3) := by decide +kernel
theorem dX9_takeNumber_104 : decode cX9_takeNumber 104 = .ok (.aload_n 0, 1) := by decide +kernel
theorem dX9_takeNumber_105 : decode cX9_takeNumber 105 = .ok (.getfield 141, 3) := by decide +kernel
theorem dX9_takeNumber_108 : decode cX9_takeNumber 108 = .ok (.iaload, 1) := by decide +kernel
theorem dX9_takeNumber_109 : decode cX9_takeNumber 109 = .ok (.iadd, 1) := by decide +kernel
theorem dX9_takeNumber_110 : decode cX9_takeNumber 110 = .ok (.bipush 48, 2) := by decide +kernel
theorem dX9_takeNumber_112 : decode cX9_takeNumber 112 = .ok (.isub, 1) := by decide +kernel
theorem dX9_takeNumber_113 : decode cX9_takeNumber 113 = .ok (.putfield 178, 3) := by decide +kernel
theorem dX9_takeNumber_116 : decode cX9_takeNumber 116 = .ok (.aload_n 0, 1) := by decide +kernel
theorem dX9_takeNumber_117 : decode cX9_takeNumber 117 = .ok (.dup, 1) := by decide +kernel
theorem dX9_takeNumber_118 : decode cX9_takeNumber 118 = .ok (.getfield 141, 3) := by decide +kernel
theorem dX9_takeNumber_121 : decode cX9_takeNumber 121 = .ok (.iconst 1, 1) := by decide +kernel
theorem dX9_takeNumber_122 : decode cX9_takeNumber 122 = .ok (.iadd, 1) := by decide +kernel
theorem dX9_takeNumber_123 : decode cX9_takeNumber 123 = .ok (.putfield 141, 3) := by decide +kernel
theorem dX9_takeNumber_126 : decode cX9_takeNumber 126 = .ok (.goto (-84), 3) := by decide +kernel
theorem dX9_takeNumber_129 : decode cX9_takeNumber 129 = .ok (.aload_n 0, 1) := by decide +kernel
theorem dX9_takeNumber_130 : decode cX9_takeNumber 130 = .ok (.getfield 141, 3) := by decide +kernel
theorem dX9_takeNumber_133 : decode cX9_takeNumber 133 = .ok (.aload_n 0, 1) := by decide +kernel
theorem dX9_takeNumber_134 : decode cX9_takeNumber 134 = .ok (.getfield 175, 3) := by decide +kernel
theorem dX9_takeNumber_137 : decode cX9_takeNumber 137 = .ok (.isub, 1) := by decide +kernel
theorem dX9_takeNumber_138 : decode cX9_takeNumber 138 = .ok (.aload_n 0, 1) := by decide +kernel
theorem dX9_takeNumber_139 : decode cX9_takeNumber 139 = .ok (.getfield 181, 3) := by decide +kernel
theorem dX9_takeNumber_142 : decode cX9_takeNumber 142 = .ok (.if_icmp .gt 18, 3) := by decide +kernel
theorem dX9_takeNumber_145 : decode cX9_takeNumber 145 = .ok (.aload_n 0, 1) := by decide +kernel
theorem dX9_takeNumber_146 : decode cX9_takeNumber 146 = .ok (.getfield 178, 3) := by decide +kernel
theorem dX9_takeNumber_149 : decode cX9_takeNumber 149 = .ok (.i2l, 1) := by decide +kernel
theorem dX9_takeNumber_150 : decode cX9_takeNumber 150 = .ok (.iload_n 1, 1) := by decide +kernel
theorem dX9_takeNumber_151 : decode cX9_takeNumber 151 = .ok (.i2l, 1) := by decide +kernel
theorem dX9_takeNumber_152 : decode cX9_takeNumber 152 = .ok (.iload_n 2, 1) := by decide +kernel
theorem dX9_takeNumber_153 : decode cX9_takeNumber 153 = .ok (.i2l, 1) := by decide +kernel
theorem dX9_takeNumber_154 : decode cX9_takeNumber 154 = .ok (.invokestatic 117, 3) := by decide +kernel
theorem dX9_takeNumber_157 : decode cX9_takeNumber 157 = .ok (.ifCond .ne 15, 3) := by decide +kernel
theorem dX9_takeNumber_160 : decode cX9_takeNumber 160 = .ok (.aload_n 0, 1) := by decide +kernel
theorem dX9_takeNumber_161 : decode cX9_takeNumber 161 = .ok (.iconst 2, 1) := by decide +kernel
theorem dX9_takeNumber_162 : decode cX9_takeNumber 162 = .ok (.aload_n 0, 1) := by decide +kernel
theorem dX9_takeNumber_163 : decode cX9_takeNumber 163 = .ok (.getfield 175, 3) := by decide +kernel
theorem dX9_takeNumber_166 : decode cX9_takeNumber 166 = .ok (.invokevirtual 171, 3) := by decide +kernel
theorem dX9_takeNumber_169 : decode cX9_takeNumber 169 = .ok (.goto 4, 3) := by decide +kernel
theorem dX9_takeNumber_172 : decode cX9_takeNumber 172 = .ok (.iconst 0, 1) := by decide +kernel
theorem dX9_takeNumber_173 : decode cX9_takeNumber 173 = .ok (.ireturn, 1) := by decide +kernel
theorem dX9_takeStop_0 : decode cX9_takeStop 0 = .ok (.aload_n 0, 1) := by decide +kernel
theorem dX9_takeStop_1 : decode cX9_takeStop 1 = .ok (.invokevirtual 144, 3) := by decide +kernel
theorem dX9_takeStop_4 : decode cX9_takeStop 4 = .ok (.bipush 59, 2) := by decide +kernel
theorem dX9_takeStop_6 : decode cX9_takeStop 6 = .ok (.if_icmp .eq 13, 3) := by decide +kernel
theorem dX9_takeStop_9 : decode cX9_takeStop 9 = .ok (.aload_n 0, 1) := by decide +kernel
theorem dX9_takeStop_10 : decode cX9_takeStop 10 = .ok (.iconst 1, 1) := by decide +kernel
theorem dX9_takeStop_11 : decode cX9_takeStop 11 = .ok (.aload_n 0, 1) := by decide +kernel
theorem dX9_takeStop_12 : decode cX9_takeStop 12 = .ok (.getfield 141, 3) := by decide +kernel
theorem dX9_takeStop_15 : decode cX9_takeStop 15 = .ok (.invokevirtual 171, 3) := by decide +kernel
theorem dX9_takeStop_18 : decode cX9_takeStop 18 = .ok (.ireturn, 1) := by decide +kernel
theorem dX9_takeStop_19 : decode cX9_takeStop 19 = .ok (.aload_n 0, 1) := by decide +kernel
theorem dX9_takeStop_20 : decode cX9_takeStop 20 = .ok (.dup, 1) := by decide +kernel
theorem dX9_takeStop_21 : decode cX9_takeStop 21 = .ok (.getfield 141, 3) := by decide +kernel
theorem dX9_takeStop_24 : decode cX9_takeStop 24 = .ok (.iconst 1, 1) := by decide +kernel
theorem dX9_takeStop_25 : decode cX9_takeStop 25 = .ok (.iadd, 1) := by decide +kernel
theorem dX9_takeStop_26 : decode cX9_takeStop 26 = .ok (.putfield 141, 3) := by decide +kernel
theorem dX9_takeStop_29 : decode cX9_takeStop 29 = .ok (.iconst 0, 1) := by decide +kernel
theorem dX9_takeStop_30 : decode cX9_takeStop 30 = .ok (.ireturn, 1) := by decide +kernel
theorem dX9_isComma_0 : decode cX9_isComma 0 = .ok (.aload_n 0, 1) := by decide +kernel
theorem dX9_isComma_1 : decode cX9_isComma 1 = .ok (.invokevirtual 144, 3) := by decide +kernel
theorem dX9_isComma_4 : decode cX9_isComma 4 = .ok (.bipush 44, 2) := by decide +kernel
theorem dX9_isComma_6 : decode cX9_isComma 6 = .ok (.if_icmp .ne 7, 3) := by decide +kernel
theorem dX9_isComma_9 : decode cX9_isComma 9 = .ok (.iconst 1, 1) := by decide +kernel
theorem dX9_isComma_10 : decode cX9_isComma 10 = .ok (.goto 4, 3) := by decide +kernel
theorem dX9_isComma_13 : decode cX9_isComma 13 = .ok (.iconst 0, 1) := by decide +kernel
theorem dX9_isComma_14 : decode cX9_isComma 14 = .ok (.istore_n 1, 1) := by decide +kernel
theorem dX9_isComma_15 : decode cX9_isComma 15 = .ok (.aload_n 0, 1) := by decide +kernel
theorem dX9_isComma_16 : decode cX9_isComma 16 = .ok (.dup, 1) := by decide +kernel
theorem dX9_isComma_17 : decode cX9_isComma 17 = .ok (.getfield 141, 3) := by decide +kernel
theorem dX9_isComma_20 : decode cX9_isComma 20 = .ok (.iload_n 1, 1) := by decide +kernel
theorem dX9_isComma_21 : decode cX9_isComma 21 = .ok (.ifCond .eq 7, 3) := by decide +kernel
theorem dX9_isComma_24 : decode cX9_isComma 24 = .ok (.iconst 1, 1) := by decide +kernel
theorem dX9_isComma_25 : decode cX9_isComma 25 = .ok (.goto 4, 3) := by decide +kernel
theorem dX9_isComma_28 : decode cX9_isComma 28 = .ok (.iconst 0, 1) := by decide +kernel
theorem dX9_isComma_29 : decode cX9_isComma 29 = .ok (.iadd, 1) := by decide +kernel
theorem dX9_isComma_30 : decode cX9_isComma 30 = .ok (.putfield 141, 3) := by decide +kernel
theorem dX9_isComma_33 : decode cX9_isComma 33 = .ok (.iload_n 1, 1) := by decide +kernel
theorem dX9_isComma_34 : decode cX9_isComma 34 = .ok (.ireturn, 1) := by decide +kernel
theorem dX9_takeSlot_0 : decode cX9_takeSlot 0 = .ok (.aload_n 0, 1) := by decide +kernel
theorem dX9_takeSlot_1 : decode cX9_takeSlot 1 = .ok (.iconst 0, 1) := by decide +kernel
theorem dX9_takeSlot_2 : decode cX9_takeSlot 2 = .ok (.bipush 15, 2) := by decide +kernel
theorem dX9_takeSlot_4 : decode cX9_takeSlot 4 = .ok (.invokevirtual 184, 3) := by decide +kernel
theorem dX9_takeSlot_7 : decode cX9_takeSlot 7 = .ok (.istore_n 1, 1) := by decide +kernel
theorem dX9_takeSlot_8 : decode cX9_takeSlot 8 = .ok (.iload_n 1, 1) := by decide +kernel
theorem dX9_takeSlot_9 : decode cX9_takeSlot 9 = .ok (.ifCond .ne 27, 3) := by decide +kernel
theorem dX9_takeSlot_12 : decode cX9_takeSlot 12 = .ok (.aload_n 0, 1) := by decide +kernel
theorem dX9_takeSlot_13 : decode cX9_takeSlot 13 = .ok (.getfield 187, 3) := by decide +kernel
theorem dX9_takeSlot_16 : decode cX9_takeSlot 16 = .ok (.aload_n 0, 1) := by decide +kernel
theorem dX9_takeSlot_17 : decode cX9_takeSlot 17 = .ok (.getfield 178, 3) := by decide +kernel
theorem dX9_takeSlot_20 : decode cX9_takeSlot 20 = .ok (.invokestatic 190, 3) := by decide +kernel
theorem dX9_takeSlot_23 : decode cX9_takeSlot 23 = .ok (.ifCond .eq 13, 3) := by decide +kernel
theorem dX9_takeSlot_26 : decode cX9_takeSlot 26 = .ok (.aload_n 0, 1) := by decide +kernel
theorem dX9_takeSlot_27 : decode cX9_takeSlot 27 = .ok (.iconst 4, 1) := by decide +kernel
theorem dX9_takeSlot_28 : decode cX9_takeSlot 28 = .ok (.aload_n 0, 1) := by decide +kernel
theorem dX9_takeSlot_29 : decode cX9_takeSlot 29 = .ok (.getfield 175, 3) := by decide +kernel
theorem dX9_takeSlot_32 : decode cX9_takeSlot 32 = .ok (.invokevirtual 171, 3) := by decide +kernel
theorem dX9_takeSlot_35 : decode cX9_takeSlot 35 = .ok (.istore_n 1, 1) := by decide +kernel
theorem dX9_takeSlot_36 : decode cX9_takeSlot 36 = .ok (.aload_n 0, 1) := by decide +kernel
theorem dX9_takeSlot_37 : decode cX9_takeSlot 37 = .ok (.dup, 1) := by decide +kernel
theorem dX9_takeSlot_38 : decode cX9_takeSlot 38 = .ok (.getfield 187, 3) := by decide +kernel
theorem dX9_takeSlot_41 : decode cX9_takeSlot 41 = .ok (.iload_n 1, 1) := by decide +kernel
theorem dX9_takeSlot_42 : decode cX9_takeSlot 42 = .ok (.ifCond .le 7, 3) := by decide +kernel
theorem dX9_takeSlot_45 : decode cX9_takeSlot 45 = .ok (.iconst 0, 1) := by decide +kernel
theorem dX9_takeSlot_46 : decode cX9_takeSlot 46 = .ok (.goto 9, 3) := by decide +kernel
theorem dX9_takeSlot_49 : decode cX9_takeSlot 49 = .ok (.iconst 1, 1) := by decide +kernel
theorem dX9_takeSlot_50 : decode cX9_takeSlot 50 = .ok (.aload_n 0, 1) := by decide +kernel
theorem dX9_takeSlot_51 : decode cX9_takeSlot 51 = .ok (.getfield 178, 3) := by decide +kernel
theorem dX9_takeSlot_54 : decode cX9_takeSlot 54 = .ok (.ishl, 1) := by decide +kernel
theorem dX9_takeSlot_55 : decode cX9_takeSlot 55 = .ok (.ior, 1) := by decide +kernel
theorem dX9_takeSlot_56 : decode cX9_takeSlot 56 = .ok (.putfield 187, 3) := by decide +kernel
theorem dX9_takeSlot_59 : decode cX9_takeSlot 59 = .ok (.iload_n 1, 1) := by decide +kernel
theorem dX9_takeSlot_60 : decode cX9_takeSlot 60 = .ok (.ireturn, 1) := by decide +kernel
theorem dX9_takeSets_0 : decode cX9_takeSets 0 = .ok (.aload_n 0, 1) := by decide +kernel
theorem dX9_takeSets_1 : decode cX9_takeSets 1 = .ok (.iconst 0, 1) := by decide +kernel
theorem dX9_takeSets_2 : decode cX9_takeSets 2 = .ok (.putfield 187, 3) := by decide +kernel
theorem dX9_takeSets_5 : decode cX9_takeSets 5 = .ok (.iconst 1, 1) := by decide +kernel
theorem dX9_takeSets_6 : decode cX9_takeSets 6 = .ok (.istore_n 2, 1) := by decide +kernel
theorem dX9_takeSets_7 : decode cX9_takeSets 7 = .ok (.iload_n 2, 1) := by decide +kernel
theorem dX9_takeSets_8 : decode cX9_takeSets 8 = .ok (.ifCond .eq 60, 3) := by decide +kernel
theorem dX9_takeSets_11 : decode cX9_takeSets 11 = .ok (.aload_n 0, 1) := by decide +kernel
theorem dX9_takeSets_12 : decode cX9_takeSets 12 = .ok (.invokevirtual 194, 3) := by decide +kernel
theorem dX9_takeSets_15 : decode cX9_takeSets 15 = .ok (.istore_n 3, 1) := by decide +kernel
theorem dX9_takeSets_16 : decode cX9_takeSets 16 = .ok (.aload_n 0, 1) := by decide +kernel
theorem dX9_takeSets_17 : decode cX9_takeSets 17 = .ok (.getfield 178, 3) := by decide +kernel
theorem dX9_takeSets_20 : decode cX9_takeSets 20 = .ok (.istore 4, 2) := by decide +kernel
theorem dX9_takeSets_22 : decode cX9_takeSets 22 = .ok (.iload_n 3, 1) := by decide +kernel
theorem dX9_takeSets_23 : decode cX9_takeSets 23 = .ok (.ifCond .le 7, 3) := by decide +kernel
theorem dX9_takeSets_26 : decode cX9_takeSets 26 = .ok (.iload_n 3, 1) := by decide +kernel
theorem dX9_takeSets_27 : decode cX9_takeSets 27 = .ok (.goto 10, 3) := by decide +kernel
theorem dX9_takeSets_30 : decode cX9_takeSets 30 = .ok (.aload_n 0, 1) := by decide +kernel
theorem dX9_takeSets_31 : decode cX9_takeSets 31 = .ok (.iconst 1, 1) := by decide +kernel
theorem dX9_takeSets_32 : decode cX9_takeSets 32 = .ok (.bipush 99, 2) := by decide +kernel
theorem dX9_takeSets_34 : decode cX9_takeSets 34 = .ok (.invokevirtual 184, 3) := by decide +kernel
theorem dX9_takeSets_37 : decode cX9_takeSets 37 = .ok (.istore_n 3, 1) := by decide +kernel
theorem dX9_takeSets_38 : decode cX9_takeSets 38 = .ok (.iload_n 3, 1) := by decide +kernel
theorem dX9_takeSets_39 : decode cX9_takeSets 39 = .ok (.ifCond .le 5, 3) := by decide +kernel
theorem dX9_takeSets_42 : decode cX9_takeSets 42 = .ok (.iload_n 3, 1) := by decide +kernel
theorem dX9_takeSets_43 : decode cX9_takeSets 43 = .ok (.ireturn, 1) := by decide +kernel
theorem dX9_takeSets_44 : decode cX9_takeSets 44 = .ok (.aload_n 0, 1) := by decide +kernel
theorem dX9_takeSets_45 : decode cX9_takeSets 45 = .ok (.getfield 59, 3) := by decide +kernel
theorem dX9_takeSets_48 : decode cX9_takeSets 48 = .ok (.bipush 16, 2) := by decide +kernel
theorem dX9_takeSets_50 : decode cX9_takeSets 50 = .ok (.iload_n 1, 1) := by decide +kernel
theorem dX9_takeSets_51 : decode cX9_takeSets 51 = .ok (.imul, 1) := by decide +kernel
theorem dX9_takeSets_52 : decode cX9_takeSets 52 = .ok (.iload 4, 2) := by decide +kernel
theorem dX9_takeSets_54 : decode cX9_takeSets 54 = .ok (.iadd, 1) := by decide +kernel
theorem dX9_takeSets_55 : decode cX9_takeSets 55 = .ok (.aload_n 0, 1) := by decide +kernel
theorem dX9_takeSets_56 : decode cX9_takeSets 56 = .ok (.getfield 178, 3) := by decide +kernel
theorem dX9_takeSets_59 : decode cX9_takeSets 59 = .ok (.iastore, 1) := by decide +kernel
theorem dX9_takeSets_60 : decode cX9_takeSets 60 = .ok (.aload_n 0, 1) := by decide +kernel
theorem dX9_takeSets_61 : decode cX9_takeSets 61 = .ok (.invokevirtual 197, 3) := by decide +kernel
theorem dX9_takeSets_64 : decode cX9_takeSets 64 = .ok (.istore_n 2, 1) := by decide +kernel
theorem dX9_takeSets_65 : decode cX9_takeSets 65 = .ok (.goto (-58), 3) := by decide +kernel
theorem dX9_takeSets_68 : decode cX9_takeSets 68 = .ok (.iconst 0, 1) := by decide +kernel
theorem dX9_takeSets_69 : decode cX9_takeSets 69 = .ok (.ireturn, 1) := by decide +kernel
theorem dX9_takeReads_0 : decode cX9_takeReads 0 = .ok (.aload_n 0, 1) := by decide +kernel
theorem dX9_takeReads_1 : decode cX9_takeReads 1 = .ok (.iconst 0, 1) := by decide +kernel
theorem dX9_takeReads_2 : decode cX9_takeReads 2 = .ok (.putfield 187, 3) := by decide +kernel
theorem dX9_takeReads_5 : decode cX9_takeReads 5 = .ok (.iconst 1, 1) := by decide +kernel
theorem dX9_takeReads_6 : decode cX9_takeReads 6 = .ok (.istore_n 2, 1) := by decide +kernel
theorem dX9_takeReads_7 : decode cX9_takeReads 7 = .ok (.iload_n 2, 1) := by decide +kernel
theorem dX9_takeReads_8 : decode cX9_takeReads 8 = .ok (.ifCond .eq 22, 3) := by decide +kernel
theorem dX9_takeReads_11 : decode cX9_takeReads 11 = .ok (.aload_n 0, 1) := by decide +kernel
theorem dX9_takeReads_12 : decode cX9_takeReads 12 = .ok (.invokevirtual 194, 3) := by decide +kernel
theorem dX9_takeReads_15 : decode cX9_takeReads 15 = .ok (.istore_n 3, 1) := by decide +kernel
theorem dX9_takeReads_16 : decode cX9_takeReads 16 = .ok (.iload_n 3, 1) := by decide +kernel
theorem dX9_takeReads_17 : decode cX9_takeReads 17 = .ok (.ifCond .le 5, 3) := by decide +kernel
theorem dX9_takeReads_20 : decode cX9_takeReads 20 = .ok (.iload_n 3, 1) := by decide +kernel
theorem dX9_takeReads_21 : decode cX9_takeReads 21 = .ok (.ireturn, 1) := by decide +kernel
theorem dX9_takeReads_22 : decode cX9_takeReads 22 = .ok (.aload_n 0, 1) := by decide +kernel
theorem dX9_takeReads_23 : decode cX9_takeReads 23 = .ok (.invokevirtual 197, 3) := by decide +kernel
theorem dX9_takeReads_26 : decode cX9_takeReads 26 = .ok (.istore_n 2, 1) := by decide +kernel
theorem dX9_takeReads_27 : decode cX9_takeReads 27 = .ok (.goto (-20), 3) := by decide +kernel
theorem dX9_takeReads_30 : decode cX9_takeReads 30 = .ok (.aload_n 0, 1) := by decide +kernel
theorem dX9_takeReads_31 : decode cX9_takeReads 31 = .ok (.getfield 62, 3) := by decide +kernel
theorem dX9_takeReads_34 : decode cX9_takeReads 34 = .ok (.iload_n 1, 1) := by decide +kernel
theorem dX9_takeReads_35 : decode cX9_takeReads 35 = .ok (.aload_n 0, 1) := by decide +kernel
theorem dX9_takeReads_36 : decode cX9_takeReads 36 = .ok (.getfield 187, 3) := by decide +kernel
theorem dX9_takeReads_39 : decode cX9_takeReads 39 = .ok (.iastore, 1) := by decide +kernel
theorem dX9_takeReads_40 : decode cX9_takeReads 40 = .ok (.iconst 0, 1) := by decide +kernel
theorem dX9_takeReads_41 : decode cX9_takeReads 41 = .ok (.ireturn, 1) := by decide +kernel
theorem dX9_takeChange_0 : decode cX9_takeChange 0 = .ok (.aload_n 0, 1) := by decide +kernel
theorem dX9_takeChange_1 : decode cX9_takeChange 1 = .ok (.getfield 201, 3) := by decide +kernel
theorem dX9_takeChange_4 : decode cX9_takeChange 4 = .ok (.bipush 24, 2) := by decide +kernel
theorem dX9_takeChange_6 : decode cX9_takeChange 6 = .ok (.if_icmp .ne 10, 3) := by decide +kernel
theorem dX9_takeChange_9 : decode cX9_takeChange 9 = .ok (.aload_n 0, 1) := by decide +kernel
theorem dX9_takeChange_10 : decode cX9_takeChange 10 = .ok (.iconst 3, 1) := by decide +kernel
theorem dX9_takeChange_11 : decode cX9_takeChange 11 = .ok (.iload_n 1, 1) := by decide +kernel
theorem dX9_takeChange_12 : decode cX9_takeChange 12 = .ok (.invokevirtual 171, 3) := by decide +kernel
theorem dX9_takeChange_15 : decode cX9_takeChange 15 = .ok (.ireturn, 1) := by decide +kernel
theorem dX9_takeChange_16 : decode cX9_takeChange 16 = .ok (.aload_n 0, 1) := by decide +kernel
theorem dX9_takeChange_17 : decode cX9_takeChange 17 = .ok (.getfield 201, 3) := by decide +kernel
theorem dX9_takeChange_20 : decode cX9_takeChange 20 = .ok (.istore_n 2, 1) := by decide +kernel
theorem dX9_takeChange_21 : decode cX9_takeChange 21 = .ok (.iconst 0, 1) := by decide +kernel
theorem dX9_takeChange_22 : decode cX9_takeChange 22 = .ok (.istore_n 3, 1) := by decide +kernel
theorem dX9_takeChange_23 : decode cX9_takeChange 23 = .ok (.iload_n 3, 1) := by decide +kernel
theorem dX9_takeChange_24 : decode cX9_takeChange 24 = .ok (.bipush 16, 2) := by decide +kernel
theorem dX9_takeChange_26 : decode cX9_takeChange 26 = .ok (.if_icmp .ge 21, 3) := by decide +kernel
theorem dX9_takeChange_29 : decode cX9_takeChange 29 = .ok (.aload_n 0, 1) := by decide +kernel
theorem dX9_takeChange_30 : decode cX9_takeChange 30 = .ok (.getfield 59, 3) := by decide +kernel
theorem dX9_takeChange_33 : decode cX9_takeChange 33 = .ok (.bipush 16, 2) := by decide +kernel
theorem dX9_takeChange_35 : decode cX9_takeChange 35 = .ok (.iload_n 2, 1) := by decide +kernel
theorem dX9_takeChange_36 : decode cX9_takeChange 36 = .ok (.imul, 1) := by decide +kernel
theorem dX9_takeChange_37 : decode cX9_takeChange 37 = .ok (.iload_n 3, 1) := by decide +kernel
theorem dX9_takeChange_38 : decode cX9_takeChange 38 = .ok (.iadd, 1) := by decide +kernel
theorem dX9_takeChange_39 : decode cX9_takeChange 39 = .ok (.iconst 0, 1) := by decide +kernel
theorem dX9_takeChange_40 : decode cX9_takeChange 40 = .ok (.iastore, 1) := by decide +kernel
theorem dX9_takeChange_41 : decode cX9_takeChange 41 = .ok (.iinc 3 1, 3) := by decide +kernel
theorem dX9_takeChange_44 : decode cX9_takeChange 44 = .ok (.goto (-21), 3) := by decide +kernel
theorem dX9_takeChange_47 : decode cX9_takeChange 47 = .ok (.aload_n 0, 1) := by decide +kernel
theorem dX9_takeChange_48 : decode cX9_takeChange 48 = .ok (.getfield 62, 3) := by decide +kernel
theorem dX9_takeChange_51 : decode cX9_takeChange 51 = .ok (.iload_n 2, 1) := by decide +kernel
theorem dX9_takeChange_52 : decode cX9_takeChange 52 = .ok (.iconst 0, 1) := by decide +kernel
theorem dX9_takeChange_53 : decode cX9_takeChange 53 = .ok (.iastore, 1) := by decide +kernel
theorem dX9_takeChange_54 : decode cX9_takeChange 54 = .ok (.aload_n 0, 1) := by decide +kernel
theorem dX9_takeChange_55 : decode cX9_takeChange 55 = .ok (.getfield 65, 3) := by decide +kernel
theorem dX9_takeChange_58 : decode cX9_takeChange 58 = .ok (.iload_n 2, 1) := by decide +kernel
theorem dX9_takeChange_59 : decode cX9_takeChange 59 = .ok (.iconst 0, 1) := by decide +kernel
theorem dX9_takeChange_60 : decode cX9_takeChange 60 = .ok (.iastore, 1) := by decide +kernel
theorem dX9_takeChange_61 : decode cX9_takeChange 61 = .ok (.iconst (-1), 1) := by decide +kernel
theorem dX9_takeChange_62 : decode cX9_takeChange 62 = .ok (.istore_n 3, 1) := by decide +kernel
theorem dX9_takeChange_63 : decode cX9_takeChange 63 = .ok (.aload_n 0, 1) := by decide +kernel
theorem dX9_takeChange_64 : decode cX9_takeChange 64 = .ok (.invokevirtual 144, 3) := by decide +kernel
theorem dX9_takeChange_67 : decode cX9_takeChange 67 = .ok (.bipush 59, 2) := by decide +kernel
theorem dX9_takeChange_69 : decode cX9_takeChange 69 = .ok (.if_icmp .eq 178, 3) := by decide +kernel
theorem dX9_takeChange_72 : decode cX9_takeChange 72 = .ok (.aload_n 0, 1) := by decide +kernel
theorem dX9_takeChange_73 : decode cX9_takeChange 73 = .ok (.invokevirtual 204, 3) := by decide +kernel
theorem dX9_takeChange_76 : decode cX9_takeChange 76 = .ok (.aload_n 0, 1) := by decide +kernel
theorem dX9_takeChange_77 : decode cX9_takeChange 77 = .ok (.getfield 148, 3) := by decide +kernel
theorem dX9_takeChange_80 : decode cX9_takeChange 80 = .ok (.bipush 115, 2) := by decide +kernel
theorem dX9_takeChange_82 : decode cX9_takeChange 82 = .ok (.bipush 101, 2) := by decide +kernel
theorem dX9_takeChange_84 : decode cX9_takeChange 84 = .ok (.bipush 116, 2) := by decide +kernel
theorem dX9_takeChange_86 : decode cX9_takeChange 86 = .ok (.bipush 115, 2) := by decide +kernel
theorem dX9_takeChange_88 : decode cX9_takeChange 88 = .ok (.invokestatic 207, 3) := by decide +kernel
theorem dX9_takeChange_91 : decode cX9_takeChange 91 = .ok (.lcmp, 1) := by decide +kernel
theorem dX9_takeChange_92 : decode cX9_takeChange 92 = .ok (.ifCond .ne 7, 3) := by decide +kernel
theorem dX9_takeChange_95 : decode cX9_takeChange 95 = .ok (.iconst 0, 1) := by decide +kernel
theorem dX9_takeChange_96 : decode cX9_takeChange 96 = .ok (.goto 55, 3) := by decide +kernel
theorem dX9_takeChange_99 : decode cX9_takeChange 99 = .ok (.aload_n 0, 1) := by decide +kernel
theorem dX9_takeChange_100 : decode cX9_takeChange 100 = .ok (.getfield 148, 3) := by decide +kernel
theorem dX9_takeChange_103 : decode cX9_takeChange 103 = .ok (.bipush 114, 2) := by decide +kernel
theorem dX9_takeChange_105 : decode cX9_takeChange 105 = .ok (.bipush 101, 2) := by decide +kernel
theorem dX9_takeChange_107 : decode cX9_takeChange 107 = .ok (.bipush 97, 2) := by decide +kernel
theorem dX9_takeChange_109 : decode cX9_takeChange 109 = .ok (.bipush 100, 2) := by decide +kernel
theorem dX9_takeChange_111 : decode cX9_takeChange 111 = .ok (.invokestatic 207, 3) := by decide +kernel
theorem dX9_takeChange_114 : decode cX9_takeChange 114 = .ok (.bipush 115, 2) := by decide +kernel
theorem dX9_takeChange_116 : decode cX9_takeChange 116 = .ok (.invokestatic 211, 3) := by decide +kernel
theorem dX9_takeChange_119 : decode cX9_takeChange 119 = .ok (.lcmp, 1) := by decide +kernel
theorem dX9_takeChange_120 : decode cX9_takeChange 120 = .ok (.ifCond .ne 7, 3) := by decide +kernel
theorem dX9_takeChange_123 : decode cX9_takeChange 123 = .ok (.iconst 1, 1) := by decide +kernel
theorem dX9_takeChange_124 : decode cX9_takeChange 124 = .ok (.goto 27, 3) := by decide +kernel
theorem dX9_takeChange_127 : decode cX9_takeChange 127 = .ok (.aload_n 0, 1) := by decide +kernel
theorem dX9_takeChange_128 : decode cX9_takeChange 128 = .ok (.getfield 148, 3) := by decide +kernel
theorem dX9_takeChange_131 : decode cX9_takeChange 131 = .ok (.bipush 114, 2) := by decide +kernel
theorem dX9_takeChange_133 : decode cX9_takeChange 133 = .ok (.bipush 105, 2) := by decide +kernel
theorem dX9_takeChange_135 : decode cX9_takeChange 135 = .ok (.bipush 115, 2) := by decide +kernel
theorem dX9_takeChange_137 : decode cX9_takeChange 137 = .ok (.bipush 107, 2) := by decide +kernel
theorem dX9_takeChange_139 : decode cX9_takeChange 139 = .ok (.invokestatic 207, 3) := by decide +kernel
theorem dX9_takeChange_142 : decode cX9_takeChange 142 = .ok (.lcmp, 1) := by decide +kernel
theorem dX9_takeChange_143 : decode cX9_takeChange 143 = .ok (.ifCond .ne 7, 3) := by decide +kernel
theorem dX9_takeChange_146 : decode cX9_takeChange 146 = .ok (.iconst 2, 1) := by decide +kernel
theorem dX9_takeChange_147 : decode cX9_takeChange 147 = .ok (.goto 4, 3) := by decide +kernel
theorem dX9_takeChange_150 : decode cX9_takeChange 150 = .ok (.iconst (-1), 1) := by decide +kernel
theorem dX9_takeChange_151 : decode cX9_takeChange 151 = .ok (.istore 4, 2) := by decide +kernel
theorem dX9_takeChange_153 : decode cX9_takeChange 153 = .ok (.iload 4, 2) := by decide +kernel
theorem dX9_takeChange_155 : decode cX9_takeChange 155 = .ok (.iload_n 3, 1) := by decide +kernel
theorem dX9_takeChange_156 : decode cX9_takeChange 156 = .ok (.if_icmp .gt 13, 3) := by decide +kernel
theorem dX9_takeChange_159 : decode cX9_takeChange 159 = .ok (.aload_n 0, 1) := by decide +kernel
theorem dX9_takeChange_160 : decode cX9_takeChange 160 = .ok (.iconst 1, 1) := by decide +kernel
theorem dX9_takeChange_161 : decode cX9_takeChange 161 = .ok (.aload_n 0, 1) := by decide +kernel
theorem dX9_takeChange_162 : decode cX9_takeChange 162 = .ok (.getfield 141, 3) := by decide +kernel
theorem dX9_takeChange_165 : decode cX9_takeChange 165 = .ok (.invokevirtual 171, 3) := by decide +kernel
theorem dX9_takeChange_168 : decode cX9_takeChange 168 = .ok (.ireturn, 1) := by decide +kernel
theorem dX9_takeChange_169 : decode cX9_takeChange 169 = .ok (.iload 4, 2) := by decide +kernel
theorem dX9_takeChange_171 : decode cX9_takeChange 171 = .ok (.istore_n 3, 1) := by decide +kernel
theorem dX9_takeChange_172 : decode cX9_takeChange 172 = .ok (.aload_n 0, 1) := by decide +kernel
theorem dX9_takeChange_173 : decode cX9_takeChange 173 = .ok (.aload_n 0, 1) := by decide +kernel
theorem dX9_takeChange_174 : decode cX9_takeChange 174 = .ok (.getfield 152, 3) := by decide +kernel
theorem dX9_takeChange_177 : decode cX9_takeChange 177 = .ok (.putfield 141, 3) := by decide +kernel
theorem dX9_takeChange_180 : decode cX9_takeChange 180 = .ok (.iload 4, 2) := by decide +kernel
theorem dX9_takeChange_182 : decode cX9_takeChange 182 = .ok (.ifCond .ne 11, 3) := by decide +kernel
theorem dX9_takeChange_185 : decode cX9_takeChange 185 = .ok (.aload_n 0, 1) := by decide +kernel
theorem dX9_takeChange_186 : decode cX9_takeChange 186 = .ok (.iload_n 2, 1) := by decide +kernel
theorem dX9_takeChange_187 : decode cX9_takeChange 187 = .ok (.invokevirtual 215, 3) := by decide +kernel
theorem dX9_takeChange_190 : decode cX9_takeChange 190 = .ok (.goto 24, 3) := by decide +kernel
theorem dX9_takeChange_193 : decode cX9_takeChange 193 = .ok (.iload 4, 2) := by decide +kernel
theorem dX9_takeChange_195 : decode cX9_takeChange 195 = .ok (.iconst 1, 1) := by decide +kernel
theorem dX9_takeChange_196 : decode cX9_takeChange 196 = .ok (.if_icmp .ne 11, 3) := by decide +kernel
theorem dX9_takeChange_199 : decode cX9_takeChange 199 = .ok (.aload_n 0, 1) := by decide +kernel
theorem dX9_takeChange_200 : decode cX9_takeChange 200 = .ok (.iload_n 2, 1) := by decide +kernel
theorem dX9_takeChange_201 : decode cX9_takeChange 201 = .ok (.invokevirtual 219, 3) := by decide +kernel
theorem dX9_takeChange_204 : decode cX9_takeChange 204 = .ok (.goto 10, 3) := by decide +kernel
theorem dX9_takeChange_207 : decode cX9_takeChange 207 = .ok (.aload_n 0, 1) := by decide +kernel
theorem dX9_takeChange_208 : decode cX9_takeChange 208 = .ok (.iconst 0, 1) := by decide +kernel
theorem dX9_takeChange_209 : decode cX9_takeChange 209 = .ok (.bipush 9, 2) := by decide +kernel
theorem dX9_takeChange_211 : decode cX9_takeChange 211 = .ok (.invokevirtual 184, 3) := by decide +kernel
theorem dX9_takeChange_214 : decode cX9_takeChange 214 = .ok (.istore 5, 2) := by decide +kernel
theorem dX9_takeChange_216 : decode cX9_takeChange 216 = .ok (.iload 5, 2) := by decide +kernel
theorem dX9_takeChange_218 : decode cX9_takeChange 218 = .ok (.ifCond .le 6, 3) := by decide +kernel
theorem dX9_takeChange_221 : decode cX9_takeChange 221 = .ok (.iload 5, 2) := by decide +kernel
theorem dX9_takeChange_223 : decode cX9_takeChange 223 = .ok (.ireturn, 1) := by decide +kernel
theorem dX9_takeChange_224 : decode cX9_takeChange 224 = .ok (.aload_n 0, 1) := by decide +kernel
theorem dX9_takeChange_225 : decode cX9_takeChange 225 = .ok (.getfield 65, 3) := by decide +kernel
theorem dX9_takeChange_228 : decode cX9_takeChange 228 = .ok (.iload_n 2, 1) := by decide +kernel
theorem dX9_takeChange_229 : decode cX9_takeChange 229 = .ok (.iload 4, 2) := by decide +kernel
theorem dX9_takeChange_231 : decode cX9_takeChange 231 = .ok (.iconst 2, 1) := by decide +kernel
theorem dX9_takeChange_232 : decode cX9_takeChange 232 = .ok (.if_icmp .ne 10, 3) := by decide +kernel
theorem dX9_takeChange_235 : decode cX9_takeChange 235 = .ok (.aload_n 0, 1) := by decide +kernel
theorem dX9_takeChange_236 : decode cX9_takeChange 236 = .ok (.getfield 178, 3) := by decide +kernel
theorem dX9_takeChange_239 : decode cX9_takeChange 239 = .ok (.goto 4, 3) := by decide +kernel
theorem dX9_takeChange_242 : decode cX9_takeChange 242 = .ok (.iconst 0, 1) := by decide +kernel
theorem dX9_takeChange_243 : decode cX9_takeChange 243 = .ok (.iastore, 1) := by decide +kernel
theorem dX9_takeChange_244 : decode cX9_takeChange 244 = .ok (.goto (-181), 3) := by decide +kernel
theorem dX9_takeChange_247 : decode cX9_takeChange 247 = .ok (.aload_n 0, 1) := by decide +kernel
theorem dX9_takeChange_248 : decode cX9_takeChange 248 = .ok (.dup, 1) := by decide +kernel
theorem dX9_takeChange_249 : decode cX9_takeChange 249 = .ok (.getfield 201, 3) := by decide +kernel
theorem dX9_takeChange_252 : decode cX9_takeChange 252 = .ok (.iconst 1, 1) := by decide +kernel
theorem dX9_takeChange_253 : decode cX9_takeChange 253 = .ok (.iadd, 1) := by decide +kernel
theorem dX9_takeChange_254 : decode cX9_takeChange 254 = .ok (.putfield 201, 3) := by decide +kernel
theorem dX9_takeChange_257 : decode cX9_takeChange 257 = .ok (.aload_n 0, 1) := by decide +kernel
theorem dX9_takeChange_258 : decode cX9_takeChange 258 = .ok (.invokevirtual 222, 3) := by decide +kernel
theorem dX9_takeChange_261 : decode cX9_takeChange 261 = .ok (.ireturn, 1) := by decide +kernel
theorem dX9_takeFault_0 : decode cX9_takeFault 0 = .ok (.aload_n 0, 1) := by decide +kernel
theorem dX9_takeFault_1 : decode cX9_takeFault 1 = .ok (.getfield 225, 3) := by decide +kernel
theorem dX9_takeFault_4 : decode cX9_takeFault 4 = .ok (.bipush 10, 2) := by decide +kernel
theorem dX9_takeFault_6 : decode cX9_takeFault 6 = .ok (.if_icmp .ne 10, 3) := by decide +kernel
theorem dX9_takeFault_9 : decode cX9_takeFault 9 = .ok (.aload_n 0, 1) := by decide +kernel
theorem dX9_takeFault_10 : decode cX9_takeFault 10 = .ok (.iconst 3, 1) := by decide +kernel
theorem dX9_takeFault_11 : decode cX9_takeFault 11 = .ok (.iload_n 1, 1) := by decide +kernel
theorem dX9_takeFault_12 : decode cX9_takeFault 12 = .ok (.invokevirtual 171, 3) := by decide +kernel
theorem dX9_takeFault_15 : decode cX9_takeFault 15 = .ok (.ireturn, 1) := by decide +kernel
theorem dX9_takeFault_16 : decode cX9_takeFault 16 = .ok (.aload_n 0, 1) := by decide +kernel
theorem dX9_takeFault_17 : decode cX9_takeFault 17 = .ok (.iconst 1, 1) := by decide +kernel
theorem dX9_takeFault_18 : decode cX9_takeFault 18 = .ok (.bipush 99, 2) := by decide +kernel
theorem dX9_takeFault_20 : decode cX9_takeFault 20 = .ok (.invokevirtual 184, 3) := by decide +kernel
theorem dX9_takeFault_23 : decode cX9_takeFault 23 = .ok (.istore_n 2, 1) := by decide +kernel
theorem dX9_takeFault_24 : decode cX9_takeFault 24 = .ok (.aload_n 0, 1) := by decide +kernel
theorem dX9_takeFault_25 : decode cX9_takeFault 25 = .ok (.getfield 68, 3) := by decide +kernel
theorem dX9_takeFault_28 : decode cX9_takeFault 28 = .ok (.aload_n 0, 1) := by decide +kernel
theorem dX9_takeFault_29 : decode cX9_takeFault 29 = .ok (.getfield 225, 3) := by decide +kernel
theorem dX9_takeFault_32 : decode cX9_takeFault 32 = .ok (.aload_n 0, 1) := by decide +kernel
theorem dX9_takeFault_33 : decode cX9_takeFault 33 = .ok (.getfield 178, 3) := by decide +kernel
theorem dX9_takeFault_36 : decode cX9_takeFault 36 = .ok (.iastore, 1) := by decide +kernel
theorem dX9_takeFault_37 : decode cX9_takeFault 37 = .ok (.iload_n 2, 1) := by decide +kernel
theorem dX9_takeFault_38 : decode cX9_takeFault 38 = .ok (.ifCond .le 5, 3) := by decide +kernel
theorem dX9_takeFault_41 : decode cX9_takeFault 41 = .ok (.iload_n 2, 1) := by decide +kernel
theorem dX9_takeFault_42 : decode cX9_takeFault 42 = .ok (.ireturn, 1) := by decide +kernel
theorem dX9_takeFault_43 : decode cX9_takeFault 43 = .ok (.aload_n 0, 1) := by decide +kernel
theorem dX9_takeFault_44 : decode cX9_takeFault 44 = .ok (.invokevirtual 204, 3) := by decide +kernel
theorem dX9_takeFault_47 : decode cX9_takeFault 47 = .ok (.aload_n 0, 1) := by decide +kernel
theorem dX9_takeFault_48 : decode cX9_takeFault 48 = .ok (.getfield 148, 3) := by decide +kernel
theorem dX9_takeFault_51 : decode cX9_takeFault 51 = .ok (.bipush 102, 2) := by decide +kernel
theorem dX9_takeFault_53 : decode cX9_takeFault 53 = .ok (.bipush 114, 2) := by decide +kernel
theorem dX9_takeFault_55 : decode cX9_takeFault 55 = .ok (.bipush 111, 2) := by decide +kernel
theorem dX9_takeFault_57 : decode cX9_takeFault 57 = .ok (.bipush 109, 2) := by decide +kernel
theorem dX9_takeFault_59 : decode cX9_takeFault 59 = .ok (.invokestatic 207, 3) := by decide +kernel
theorem dX9_takeFault_62 : decode cX9_takeFault 62 = .ok (.lcmp, 1) := by decide +kernel
theorem dX9_takeFault_63 : decode cX9_takeFault 63 = .ok (.ifCond .eq 13, 3) := by decide +kernel
theorem dX9_takeFault_66 : decode cX9_takeFault 66 = .ok (.aload_n 0, 1) := by decide +kernel
theorem dX9_takeFault_67 : decode cX9_takeFault 67 = .ok (.iconst 1, 1) := by decide +kernel
theorem dX9_takeFault_68 : decode cX9_takeFault 68 = .ok (.aload_n 0, 1) := by decide +kernel
theorem dX9_takeFault_69 : decode cX9_takeFault 69 = .ok (.getfield 141, 3) := by decide +kernel
theorem dX9_takeFault_72 : decode cX9_takeFault 72 = .ok (.invokevirtual 171, 3) := by decide +kernel
theorem dX9_takeFault_75 : decode cX9_takeFault 75 = .ok (.ireturn, 1) := by decide +kernel
theorem dX9_takeFault_76 : decode cX9_takeFault 76 = .ok (.aload_n 0, 1) := by decide +kernel
theorem dX9_takeFault_77 : decode cX9_takeFault 77 = .ok (.aload_n 0, 1) := by decide +kernel
theorem dX9_takeFault_78 : decode cX9_takeFault 78 = .ok (.getfield 152, 3) := by decide +kernel
theorem dX9_takeFault_81 : decode cX9_takeFault 81 = .ok (.putfield 141, 3) := by decide +kernel
theorem dX9_takeFault_84 : decode cX9_takeFault 84 = .ok (.aload_n 0, 1) := by decide +kernel
theorem dX9_takeFault_85 : decode cX9_takeFault 85 = .ok (.iconst 0, 1) := by decide +kernel
theorem dX9_takeFault_86 : decode cX9_takeFault 86 = .ok (.aload_n 0, 1) := by decide +kernel
theorem dX9_takeFault_87 : decode cX9_takeFault 87 = .ok (.getfield 201, 3) := by decide +kernel
theorem dX9_takeFault_90 : decode cX9_takeFault 90 = .ok (.iconst 1, 1) := by decide +kernel
theorem dX9_takeFault_91 : decode cX9_takeFault 91 = .ok (.isub, 1) := by decide +kernel
theorem dX9_takeFault_92 : decode cX9_takeFault 92 = .ok (.invokevirtual 184, 3) := by decide +kernel
theorem dX9_takeFault_95 : decode cX9_takeFault 95 = .ok (.istore_n 2, 1) := by decide +kernel
theorem dX9_takeFault_96 : decode cX9_takeFault 96 = .ok (.aload_n 0, 1) := by decide +kernel
theorem dX9_takeFault_97 : decode cX9_takeFault 97 = .ok (.getfield 71, 3) := by decide +kernel
theorem dX9_takeFault_100 : decode cX9_takeFault 100 = .ok (.aload_n 0, 1) := by decide +kernel
theorem dX9_takeFault_101 : decode cX9_takeFault 101 = .ok (.getfield 225, 3) := by decide +kernel
theorem dX9_takeFault_104 : decode cX9_takeFault 104 = .ok (.aload_n 0, 1) := by decide +kernel
theorem dX9_takeFault_105 : decode cX9_takeFault 105 = .ok (.getfield 178, 3) := by decide +kernel
theorem dX9_takeFault_108 : decode cX9_takeFault 108 = .ok (.iastore, 1) := by decide +kernel
theorem dX9_takeFault_109 : decode cX9_takeFault 109 = .ok (.aload_n 0, 1) := by decide +kernel
theorem dX9_takeFault_110 : decode cX9_takeFault 110 = .ok (.getfield 74, 3) := by decide +kernel
theorem dX9_takeFault_113 : decode cX9_takeFault 113 = .ok (.aload_n 0, 1) := by decide +kernel
theorem dX9_takeFault_114 : decode cX9_takeFault 114 = .ok (.getfield 225, 3) := by decide +kernel
theorem dX9_takeFault_117 : decode cX9_takeFault 117 = .ok (.iconst (-1), 1) := by decide +kernel
theorem dX9_takeFault_118 : decode cX9_takeFault 118 = .ok (.iastore, 1) := by decide +kernel
theorem dX9_takeFault_119 : decode cX9_takeFault 119 = .ok (.iload_n 2, 1) := by decide +kernel
theorem dX9_takeFault_120 : decode cX9_takeFault 120 = .ok (.ifCond .le 5, 3) := by decide +kernel
theorem dX9_takeFault_123 : decode cX9_takeFault 123 = .ok (.iload_n 2, 1) := by decide +kernel
theorem dX9_takeFault_124 : decode cX9_takeFault 124 = .ok (.ireturn, 1) := by decide +kernel
theorem dX9_takeFault_125 : decode cX9_takeFault 125 = .ok (.aload_n 0, 1) := by decide +kernel
theorem dX9_takeFault_126 : decode cX9_takeFault 126 = .ok (.invokevirtual 144, 3) := by decide +kernel
theorem dX9_takeFault_129 : decode cX9_takeFault 129 = .ok (.bipush 59, 2) := by decide +kernel
theorem dX9_takeFault_131 : decode cX9_takeFault 131 = .ok (.if_icmp .eq 79, 3) := by decide +kernel
theorem dX9_takeFault_134 : decode cX9_takeFault 134 = .ok (.aload_n 0, 1) := by decide +kernel
theorem dX9_takeFault_135 : decode cX9_takeFault 135 = .ok (.invokevirtual 204, 3) := by decide +kernel
theorem dX9_takeFault_138 : decode cX9_takeFault 138 = .ok (.aload_n 0, 1) := by decide +kernel
theorem dX9_takeFault_139 : decode cX9_takeFault 139 = .ok (.getfield 148, 3) := by decide +kernel
theorem dX9_takeFault_142 : decode cX9_takeFault 142 = .ok (.bipush 116, 2) := by decide +kernel
theorem dX9_takeFault_144 : decode cX9_takeFault 144 = .ok (.bipush 105, 2) := by decide +kernel
theorem dX9_takeFault_146 : decode cX9_takeFault 146 = .ok (.bipush 108, 2) := by decide +kernel
theorem dX9_takeFault_148 : decode cX9_takeFault 148 = .ok (.bipush 108, 2) := by decide +kernel
theorem dX9_takeFault_150 : decode cX9_takeFault 150 = .ok (.invokestatic 207, 3) := by decide +kernel
theorem dX9_takeFault_153 : decode cX9_takeFault 153 = .ok (.lcmp, 1) := by decide +kernel
theorem dX9_takeFault_154 : decode cX9_takeFault 154 = .ok (.ifCond .eq 13, 3) := by decide +kernel
theorem dX9_takeFault_157 : decode cX9_takeFault 157 = .ok (.aload_n 0, 1) := by decide +kernel
theorem dX9_takeFault_158 : decode cX9_takeFault 158 = .ok (.iconst 1, 1) := by decide +kernel
theorem dX9_takeFault_159 : decode cX9_takeFault 159 = .ok (.aload_n 0, 1) := by decide +kernel
theorem dX9_takeFault_160 : decode cX9_takeFault 160 = .ok (.getfield 141, 3) := by decide +kernel
theorem dX9_takeFault_163 : decode cX9_takeFault 163 = .ok (.invokevirtual 171, 3) := by decide +kernel
theorem dX9_takeFault_166 : decode cX9_takeFault 166 = .ok (.ireturn, 1) := by decide +kernel
theorem dX9_takeFault_167 : decode cX9_takeFault 167 = .ok (.aload_n 0, 1) := by decide +kernel
theorem dX9_takeFault_168 : decode cX9_takeFault 168 = .ok (.aload_n 0, 1) := by decide +kernel
theorem dX9_takeFault_169 : decode cX9_takeFault 169 = .ok (.getfield 152, 3) := by decide +kernel
theorem dX9_takeFault_172 : decode cX9_takeFault 172 = .ok (.putfield 141, 3) := by decide +kernel
theorem dX9_takeFault_175 : decode cX9_takeFault 175 = .ok (.aload_n 0, 1) := by decide +kernel
theorem dX9_takeFault_176 : decode cX9_takeFault 176 = .ok (.aload_n 0, 1) := by decide +kernel
theorem dX9_takeFault_177 : decode cX9_takeFault 177 = .ok (.getfield 71, 3) := by decide +kernel
theorem dX9_takeFault_180 : decode cX9_takeFault 180 = .ok (.aload_n 0, 1) := by decide +kernel
theorem dX9_takeFault_181 : decode cX9_takeFault 181 = .ok (.getfield 225, 3) := by decide +kernel
theorem dX9_takeFault_184 : decode cX9_takeFault 184 = .ok (.iaload, 1) := by decide +kernel
theorem dX9_takeFault_185 : decode cX9_takeFault 185 = .ok (.iconst 1, 1) := by decide +kernel
theorem dX9_takeFault_186 : decode cX9_takeFault 186 = .ok (.iadd, 1) := by decide +kernel
theorem dX9_takeFault_187 : decode cX9_takeFault 187 = .ok (.aload_n 0, 1) := by decide +kernel
theorem dX9_takeFault_188 : decode cX9_takeFault 188 = .ok (.getfield 201, 3) := by decide +kernel
theorem dX9_takeFault_191 : decode cX9_takeFault 191 = .ok (.iconst 1, 1) := by decide +kernel
theorem dX9_takeFault_192 : decode cX9_takeFault 192 = .ok (.isub, 1) := by decide +kernel
theorem dX9_takeFault_193 : decode cX9_takeFault 193 = .ok (.invokevirtual 184, 3) := by decide +kernel
theorem dX9_takeFault_196 : decode cX9_takeFault 196 = .ok (.istore_n 2, 1) := by decide +kernel
theorem dX9_takeFault_197 : decode cX9_takeFault 197 = .ok (.aload_n 0, 1) := by decide +kernel
theorem dX9_takeFault_198 : decode cX9_takeFault 198 = .ok (.getfield 74, 3) := by decide +kernel
theorem dX9_takeFault_201 : decode cX9_takeFault 201 = .ok (.aload_n 0, 1) := by decide +kernel
theorem dX9_takeFault_202 : decode cX9_takeFault 202 = .ok (.getfield 225, 3) := by decide +kernel
theorem dX9_takeFault_205 : decode cX9_takeFault 205 = .ok (.aload_n 0, 1) := by decide +kernel
theorem dX9_takeFault_206 : decode cX9_takeFault 206 = .ok (.getfield 178, 3) := by decide +kernel
theorem dX9_takeFault_209 : decode cX9_takeFault 209 = .ok (.iastore, 1) := by decide +kernel
theorem dX9_takeFault_210 : decode cX9_takeFault 210 = .ok (.aload_n 0, 1) := by decide +kernel
theorem dX9_takeFault_211 : decode cX9_takeFault 211 = .ok (.dup, 1) := by decide +kernel
theorem dX9_takeFault_212 : decode cX9_takeFault 212 = .ok (.getfield 225, 3) := by decide +kernel
theorem dX9_takeFault_215 : decode cX9_takeFault 215 = .ok (.iconst 1, 1) := by decide +kernel
theorem dX9_takeFault_216 : decode cX9_takeFault 216 = .ok (.iadd, 1) := by decide +kernel
theorem dX9_takeFault_217 : decode cX9_takeFault 217 = .ok (.putfield 225, 3) := by decide +kernel
theorem dX9_takeFault_220 : decode cX9_takeFault 220 = .ok (.iload_n 2, 1) := by decide +kernel
theorem dX9_takeFault_221 : decode cX9_takeFault 221 = .ok (.ifCond .le 7, 3) := by decide +kernel
theorem dX9_takeFault_224 : decode cX9_takeFault 224 = .ok (.iload_n 2, 1) := by decide +kernel
theorem dX9_takeFault_225 : decode cX9_takeFault 225 = .ok (.goto 7, 3) := by decide +kernel
theorem dX9_takeFault_228 : decode cX9_takeFault 228 = .ok (.aload_n 0, 1) := by decide +kernel
theorem dX9_takeFault_229 : decode cX9_takeFault 229 = .ok (.invokevirtual 222, 3) := by decide +kernel
theorem dX9_takeFault_232 : decode cX9_takeFault 232 = .ok (.ireturn, 1) := by decide +kernel
theorem dX9_takeClause_0 : decode cX9_takeClause 0 = .ok (.aload_n 0, 1) := by decide +kernel
theorem dX9_takeClause_1 : decode cX9_takeClause 1 = .ok (.invokevirtual 204, 3) := by decide +kernel
theorem dX9_takeClause_4 : decode cX9_takeClause 4 = .ok (.aload_n 0, 1) := by decide +kernel
theorem dX9_takeClause_5 : decode cX9_takeClause 5 = .ok (.getfield 141, 3) := by decide +kernel
theorem dX9_takeClause_8 : decode cX9_takeClause 8 = .ok (.istore_n 1, 1) := by decide +kernel
theorem dX9_takeClause_9 : decode cX9_takeClause 9 = .ok (.aload_n 0, 1) := by decide +kernel
theorem dX9_takeClause_10 : decode cX9_takeClause 10 = .ok (.getfield 148, 3) := by decide +kernel
theorem dX9_takeClause_13 : decode cX9_takeClause 13 = .ok (.bipush 99, 2) := by decide +kernel
theorem dX9_takeClause_15 : decode cX9_takeClause 15 = .ok (.bipush 104, 2) := by decide +kernel
theorem dX9_takeClause_17 : decode cX9_takeClause 17 = .ok (.bipush 97, 2) := by decide +kernel
theorem dX9_takeClause_19 : decode cX9_takeClause 19 = .ok (.bipush 110, 2) := by decide +kernel
theorem dX9_takeClause_21 : decode cX9_takeClause 21 = .ok (.invokestatic 207, 3) := by decide +kernel
theorem dX9_takeClause_24 : decode cX9_takeClause 24 = .ok (.bipush 103, 2) := by decide +kernel
theorem dX9_takeClause_26 : decode cX9_takeClause 26 = .ok (.invokestatic 211, 3) := by decide +kernel
theorem dX9_takeClause_29 : decode cX9_takeClause 29 = .ok (.bipush 101, 2) := by decide +kernel
theorem dX9_takeClause_31 : decode cX9_takeClause 31 = .ok (.invokestatic 211, 3) := by decide +kernel
theorem dX9_takeClause_34 : decode cX9_takeClause 34 = .ok (.lcmp, 1) := by decide +kernel
theorem dX9_takeClause_35 : decode cX9_takeClause 35 = .ok (.ifCond .ne 7, 3) := by decide +kernel
theorem dX9_takeClause_38 : decode cX9_takeClause 38 = .ok (.iconst 1, 1) := by decide +kernel
theorem dX9_takeClause_39 : decode cX9_takeClause 39 = .ok (.goto 4, 3) := by decide +kernel
theorem dX9_takeClause_42 : decode cX9_takeClause 42 = .ok (.iconst 0, 1) := by decide +kernel
theorem dX9_takeClause_43 : decode cX9_takeClause 43 = .ok (.istore_n 2, 1) := by decide +kernel
theorem dX9_takeClause_44 : decode cX9_takeClause 44 = .ok (.iload_n 2, 1) := by decide +kernel
theorem dX9_takeClause_45 : decode cX9_takeClause 45 = .ok (.ifCond .ne 34, 3) := by decide +kernel
theorem dX9_takeClause_48 : decode cX9_takeClause 48 = .ok (.aload_n 0, 1) := by decide +kernel
theorem dX9_takeClause_49 : decode cX9_takeClause 49 = .ok (.getfield 148, 3) := by decide +kernel
theorem dX9_takeClause_52 : decode cX9_takeClause 52 = .ok (.bipush 102, 2) := by decide +kernel
theorem dX9_takeClause_54 : decode cX9_takeClause 54 = .ok (.bipush 97, 2) := by decide +kernel
theorem dX9_takeClause_56 : decode cX9_takeClause 56 = .ok (.bipush 117, 2) := by decide +kernel
theorem dX9_takeClause_58 : decode cX9_takeClause 58 = .ok (.bipush 108, 2) := by decide +kernel
theorem dX9_takeClause_60 : decode cX9_takeClause 60 = .ok (.invokestatic 207, 3) := by decide +kernel
theorem dX9_takeClause_63 : decode cX9_takeClause 63 = .ok (.bipush 116, 2) := by decide +kernel
theorem dX9_takeClause_65 : decode cX9_takeClause 65 = .ok (.invokestatic 211, 3) := by decide +kernel
theorem dX9_takeClause_68 : decode cX9_takeClause 68 = .ok (.lcmp, 1) := by decide +kernel
theorem dX9_takeClause_69 : decode cX9_takeClause 69 = .ok (.ifCond .eq 10, 3) := by decide +kernel
theorem dX9_takeClause_72 : decode cX9_takeClause 72 = .ok (.aload_n 0, 1) := by decide +kernel
theorem dX9_takeClause_73 : decode cX9_takeClause 73 = .ok (.iconst 1, 1) := by decide +kernel
theorem dX9_takeClause_74 : decode cX9_takeClause 74 = .ok (.iload_n 1, 1) := by decide +kernel
theorem dX9_takeClause_75 : decode cX9_takeClause 75 = .ok (.invokevirtual 171, 3) := by decide +kernel
theorem dX9_takeClause_78 : decode cX9_takeClause 78 = .ok (.ireturn, 1) := by decide +kernel
theorem dX9_takeClause_79 : decode cX9_takeClause 79 = .ok (.aload_n 0, 1) := by decide +kernel
theorem dX9_takeClause_80 : decode cX9_takeClause 80 = .ok (.aload_n 0, 1) := by decide +kernel
theorem dX9_takeClause_81 : decode cX9_takeClause 81 = .ok (.getfield 152, 3) := by decide +kernel
theorem dX9_takeClause_84 : decode cX9_takeClause 84 = .ok (.putfield 141, 3) := by decide +kernel
theorem dX9_takeClause_87 : decode cX9_takeClause 87 = .ok (.iload_n 2, 1) := by decide +kernel
theorem dX9_takeClause_88 : decode cX9_takeClause 88 = .ok (.ifCond .eq 11, 3) := by decide +kernel
theorem dX9_takeClause_91 : decode cX9_takeClause 91 = .ok (.aload_n 0, 1) := by decide +kernel
theorem dX9_takeClause_92 : decode cX9_takeClause 92 = .ok (.iload_n 1, 1) := by decide +kernel
theorem dX9_takeClause_93 : decode cX9_takeClause 93 = .ok (.invokevirtual 228, 3) := by decide +kernel
theorem dX9_takeClause_96 : decode cX9_takeClause 96 = .ok (.goto 8, 3) := by decide +kernel
theorem dX9_takeClause_99 : decode cX9_takeClause 99 = .ok (.aload_n 0, 1) := by decide +kernel
theorem dX9_takeClause_100 : decode cX9_takeClause 100 = .ok (.iload_n 1, 1) := by decide +kernel
theorem dX9_takeClause_101 : decode cX9_takeClause 101 = .ok (.invokevirtual 231, 3) := by decide +kernel
theorem dX9_takeClause_104 : decode cX9_takeClause 104 = .ok (.ireturn, 1) := by decide +kernel
theorem dX9_trunk_0 : decode cX9_trunk 0 = .ok (.aload_n 0, 1) := by decide +kernel
theorem dX9_trunk_1 : decode cX9_trunk 1 = .ok (.iconst (-1), 1) := by decide +kernel
theorem dX9_trunk_2 : decode cX9_trunk 2 = .ok (.putfield 55, 3) := by decide +kernel
theorem dX9_trunk_5 : decode cX9_trunk 5 = .ok (.aload_n 0, 1) := by decide +kernel
theorem dX9_trunk_6 : decode cX9_trunk 6 = .ok (.iconst 0, 1) := by decide +kernel
theorem dX9_trunk_7 : decode cX9_trunk 7 = .ok (.putfield 141, 3) := by decide +kernel
theorem dX9_trunk_10 : decode cX9_trunk 10 = .ok (.aload_n 0, 1) := by decide +kernel
theorem dX9_trunk_11 : decode cX9_trunk 11 = .ok (.iconst 2, 1) := by decide +kernel
theorem dX9_trunk_12 : decode cX9_trunk 12 = .ok (.putfield 181, 3) := by decide +kernel
theorem dX9_trunk_15 : decode cX9_trunk 15 = .ok (.aload_n 0, 1) := by decide +kernel
theorem dX9_trunk_16 : decode cX9_trunk 16 = .ok (.iconst 0, 1) := by decide +kernel
theorem dX9_trunk_17 : decode cX9_trunk 17 = .ok (.putfield 201, 3) := by decide +kernel
theorem dX9_trunk_20 : decode cX9_trunk 20 = .ok (.aload_n 0, 1) := by decide +kernel
theorem dX9_trunk_21 : decode cX9_trunk 21 = .ok (.iconst 0, 1) := by decide +kernel
theorem dX9_trunk_22 : decode cX9_trunk 22 = .ok (.putfield 225, 3) := by decide +kernel
theorem dX9_trunk_25 : decode cX9_trunk 25 = .ok (.iconst 0, 1) := by decide +kernel
theorem dX9_trunk_26 : decode cX9_trunk 26 = .ok (.istore_n 1, 1) := by decide +kernel
theorem dX9_trunk_27 : decode cX9_trunk 27 = .ok (.iload_n 1, 1) := by decide +kernel
theorem dX9_trunk_28 : decode cX9_trunk 28 = .ok (.ifCond .ne 18, 3) := by decide +kernel
theorem dX9_trunk_31 : decode cX9_trunk 31 = .ok (.aload_n 0, 1) := by decide +kernel
theorem dX9_trunk_32 : decode cX9_trunk 32 = .ok (.invokevirtual 144, 3) := by decide +kernel
theorem dX9_trunk_35 : decode cX9_trunk 35 = .ok (.ifCond .lt 11, 3) := by decide +kernel
theorem dX9_trunk_38 : decode cX9_trunk 38 = .ok (.aload_n 0, 1) := by decide +kernel
theorem dX9_trunk_39 : decode cX9_trunk 39 = .ok (.invokevirtual 234, 3) := by decide +kernel
theorem dX9_trunk_42 : decode cX9_trunk 42 = .ok (.istore_n 1, 1) := by decide +kernel
theorem dX9_trunk_43 : decode cX9_trunk 43 = .ok (.goto (-16), 3) := by decide +kernel
theorem dX9_trunk_46 : decode cX9_trunk 46 = .ok (.aload_n 0, 1) := by decide +kernel
theorem dX9_trunk_47 : decode cX9_trunk 47 = .ok (.iconst 0, 1) := by decide +kernel
theorem dX9_trunk_48 : decode cX9_trunk 48 = .ok (.putfield 136, 3) := by decide +kernel
theorem dX9_trunk_51 : decode cX9_trunk 51 = .ok (.iload_n 1, 1) := by decide +kernel
theorem dX9_trunk_52 : decode cX9_trunk 52 = .ok (.ifCond .le 8, 3) := by decide +kernel
theorem dX9_trunk_55 : decode cX9_trunk 55 = .ok (.bipush (-10), 2) := by decide +kernel
theorem dX9_trunk_57 : decode cX9_trunk 57 = .ok (.iload_n 1, 1) := by decide +kernel
theorem dX9_trunk_58 : decode cX9_trunk 58 = .ok (.isub, 1) := by decide +kernel
theorem dX9_trunk_59 : decode cX9_trunk 59 = .ok (.ireturn, 1) := by decide +kernel
theorem dX9_trunk_60 : decode cX9_trunk 60 = .ok (.aload_n 0, 1) := by decide +kernel
theorem dX9_trunk_61 : decode cX9_trunk 61 = .ok (.invokevirtual 237, 3) := by decide +kernel
theorem dX9_trunk_64 : decode cX9_trunk 64 = .ok (.aload_n 0, 1) := by decide +kernel
theorem dX9_trunk_65 : decode cX9_trunk 65 = .ok (.getfield 114, 3) := by decide +kernel
theorem dX9_trunk_68 : decode cX9_trunk 68 = .ok (.ireturn, 1) := by decide +kernel
theorem dX9_keepTrunk_0 : decode cX9_keepTrunk 0 = .ok (.aload_n 0, 1) := by decide +kernel
theorem dX9_keepTrunk_1 : decode cX9_keepTrunk 1 = .ok (.aload_n 0, 1) := by decide +kernel
theorem dX9_keepTrunk_2 : decode cX9_keepTrunk 2 = .ok (.getfield 201, 3) := by decide +kernel
theorem dX9_keepTrunk_5 : decode cX9_keepTrunk 5 = .ok (.putfield 114, 3) := by decide +kernel
theorem dX9_keepTrunk_8 : decode cX9_keepTrunk 8 = .ok (.aload_n 0, 1) := by decide +kernel
theorem dX9_keepTrunk_9 : decode cX9_keepTrunk 9 = .ok (.aload_n 0, 1) := by decide +kernel
theorem dX9_keepTrunk_10 : decode cX9_keepTrunk 10 = .ok (.getfield 225, 3) := by decide +kernel
theorem dX9_keepTrunk_13 : decode cX9_keepTrunk 13 = .ok (.putfield 123, 3) := by decide +kernel
theorem dX9_keepTrunk_16 : decode cX9_keepTrunk 16 = .ok (.iconst 0, 1) := by decide +kernel
theorem dX9_keepTrunk_17 : decode cX9_keepTrunk 17 = .ok (.istore_n 1, 1) := by decide +kernel
theorem dX9_keepTrunk_18 : decode cX9_keepTrunk 18 = .ok (.iload_n 1, 1) := by decide +kernel
theorem dX9_keepTrunk_19 : decode cX9_keepTrunk 19 = .ok (.bipush 16, 2) := by decide +kernel
theorem dX9_keepTrunk_21 : decode cX9_keepTrunk 21 = .ok (.aload_n 0, 1) := by decide +kernel
theorem dX9_keepTrunk_22 : decode cX9_keepTrunk 22 = .ok (.getfield 114, 3) := by decide +kernel
theorem dX9_keepTrunk_25 : decode cX9_keepTrunk 25 = .ok (.imul, 1) := by decide +kernel
theorem dX9_keepTrunk_26 : decode cX9_keepTrunk 26 = .ok (.if_icmp .ge 21, 3) := by decide +kernel
theorem dX9_keepTrunk_29 : decode cX9_keepTrunk 29 = .ok (.aload_n 0, 1) := by decide +kernel
theorem dX9_keepTrunk_30 : decode cX9_keepTrunk 30 = .ok (.getfield 7, 3) := by decide +kernel
theorem dX9_keepTrunk_33 : decode cX9_keepTrunk 33 = .ok (.iload_n 1, 1) := by decide +kernel
theorem dX9_keepTrunk_34 : decode cX9_keepTrunk 34 = .ok (.aload_n 0, 1) := by decide +kernel
theorem dX9_keepTrunk_35 : decode cX9_keepTrunk 35 = .ok (.getfield 59, 3) := by decide +kernel
theorem dX9_keepTrunk_38 : decode cX9_keepTrunk 38 = .ok (.iload_n 1, 1) := by decide +kernel
theorem dX9_keepTrunk_39 : decode cX9_keepTrunk 39 = .ok (.iaload, 1) := by decide +kernel
theorem dX9_keepTrunk_40 : decode cX9_keepTrunk 40 = .ok (.iastore, 1) := by decide +kernel
theorem dX9_keepTrunk_41 : decode cX9_keepTrunk 41 = .ok (.iinc 1 1, 3) := by decide +kernel
theorem dX9_keepTrunk_44 : decode cX9_keepTrunk 44 = .ok (.goto (-26), 3) := by decide +kernel
theorem dX9_keepTrunk_47 : decode cX9_keepTrunk 47 = .ok (.iconst 0, 1) := by decide +kernel
theorem dX9_keepTrunk_48 : decode cX9_keepTrunk 48 = .ok (.istore_n 1, 1) := by decide +kernel
theorem dX9_keepTrunk_49 : decode cX9_keepTrunk 49 = .ok (.iload_n 1, 1) := by decide +kernel
theorem dX9_keepTrunk_50 : decode cX9_keepTrunk 50 = .ok (.aload_n 0, 1) := by decide +kernel
theorem dX9_keepTrunk_51 : decode cX9_keepTrunk 51 = .ok (.getfield 114, 3) := by decide +kernel
theorem dX9_keepTrunk_54 : decode cX9_keepTrunk 54 = .ok (.if_icmp .ge 33, 3) := by decide +kernel
theorem dX9_keepTrunk_57 : decode cX9_keepTrunk 57 = .ok (.aload_n 0, 1) := by decide +kernel
theorem dX9_keepTrunk_58 : decode cX9_keepTrunk 58 = .ok (.getfield 13, 3) := by decide +kernel
theorem dX9_keepTrunk_61 : decode cX9_keepTrunk 61 = .ok (.iload_n 1, 1) := by decide +kernel
theorem dX9_keepTrunk_62 : decode cX9_keepTrunk 62 = .ok (.aload_n 0, 1) := by decide +kernel
theorem dX9_keepTrunk_63 : decode cX9_keepTrunk 63 = .ok (.getfield 62, 3) := by decide +kernel
theorem dX9_keepTrunk_66 : decode cX9_keepTrunk 66 = .ok (.iload_n 1, 1) := by decide +kernel
theorem dX9_keepTrunk_67 : decode cX9_keepTrunk 67 = .ok (.iaload, 1) := by decide +kernel
theorem dX9_keepTrunk_68 : decode cX9_keepTrunk 68 = .ok (.iastore, 1) := by decide +kernel
theorem dX9_keepTrunk_69 : decode cX9_keepTrunk 69 = .ok (.aload_n 0, 1) := by decide +kernel
theorem dX9_keepTrunk_70 : decode cX9_keepTrunk 70 = .ok (.getfield 16, 3) := by decide +kernel
theorem dX9_keepTrunk_73 : decode cX9_keepTrunk 73 = .ok (.iload_n 1, 1) := by decide +kernel
theorem dX9_keepTrunk_74 : decode cX9_keepTrunk 74 = .ok (.aload_n 0, 1) := by decide +kernel
theorem dX9_keepTrunk_75 : decode cX9_keepTrunk 75 = .ok (.getfield 65, 3) := by decide +kernel
theorem dX9_keepTrunk_78 : decode cX9_keepTrunk 78 = .ok (.iload_n 1, 1) := by decide +kernel
theorem dX9_keepTrunk_79 : decode cX9_keepTrunk 79 = .ok (.iaload, 1) := by decide +kernel
theorem dX9_keepTrunk_80 : decode cX9_keepTrunk 80 = .ok (.iastore, 1) := by decide +kernel
theorem dX9_keepTrunk_81 : decode cX9_keepTrunk 81 = .ok (.iinc 1 1, 3) := by decide +kernel
theorem dX9_keepTrunk_84 : decode cX9_keepTrunk 84 = .ok (.goto (-35), 3) := by decide +kernel
theorem dX9_keepTrunk_87 : decode cX9_keepTrunk 87 = .ok (.iconst 0, 1) := by decide +kernel
theorem dX9_keepTrunk_88 : decode cX9_keepTrunk 88 = .ok (.istore_n 1, 1) := by decide +kernel
theorem dX9_keepTrunk_89 : decode cX9_keepTrunk 89 = .ok (.iload_n 1, 1) := by decide +kernel
theorem dX9_keepTrunk_90 : decode cX9_keepTrunk 90 = .ok (.aload_n 0, 1) := by decide +kernel
theorem dX9_keepTrunk_91 : decode cX9_keepTrunk 91 = .ok (.getfield 123, 3) := by decide +kernel
theorem dX9_keepTrunk_94 : decode cX9_keepTrunk 94 = .ok (.if_icmp .ge 45, 3) := by decide +kernel
theorem dX9_keepTrunk_97 : decode cX9_keepTrunk 97 = .ok (.aload_n 0, 1) := by decide +kernel
theorem dX9_keepTrunk_98 : decode cX9_keepTrunk 98 = .ok (.getfield 19, 3) := by decide +kernel
theorem dX9_keepTrunk_101 : decode cX9_keepTrunk 101 = .ok (.iload_n 1, 1) := by decide +kernel
theorem dX9_keepTrunk_102 : decode cX9_keepTrunk 102 = .ok (.aload_n 0, 1) := by decide +kernel
theorem dX9_keepTrunk_103 : decode cX9_keepTrunk 103 = .ok (.getfield 68, 3) := by decide +kernel
theorem dX9_keepTrunk_106 : decode cX9_keepTrunk 106 = .ok (.iload_n 1, 1) := by decide +kernel
theorem dX9_keepTrunk_107 : decode cX9_keepTrunk 107 = .ok (.iaload, 1) := by decide +kernel
theorem dX9_keepTrunk_108 : decode cX9_keepTrunk 108 = .ok (.iastore, 1) := by decide +kernel
theorem dX9_keepTrunk_109 : decode cX9_keepTrunk 109 = .ok (.aload_n 0, 1) := by decide +kernel
theorem dX9_keepTrunk_110 : decode cX9_keepTrunk 110 = .ok (.getfield 22, 3) := by decide +kernel
theorem dX9_keepTrunk_113 : decode cX9_keepTrunk 113 = .ok (.iload_n 1, 1) := by decide +kernel
theorem dX9_keepTrunk_114 : decode cX9_keepTrunk 114 = .ok (.aload_n 0, 1) := by decide +kernel
theorem dX9_keepTrunk_115 : decode cX9_keepTrunk 115 = .ok (.getfield 71, 3) := by decide +kernel
theorem dX9_keepTrunk_118 : decode cX9_keepTrunk 118 = .ok (.iload_n 1, 1) := by decide +kernel
theorem dX9_keepTrunk_119 : decode cX9_keepTrunk 119 = .ok (.iaload, 1) := by decide +kernel
theorem dX9_keepTrunk_120 : decode cX9_keepTrunk 120 = .ok (.iastore, 1) := by decide +kernel
theorem dX9_keepTrunk_121 : decode cX9_keepTrunk 121 = .ok (.aload_n 0, 1) := by decide +kernel
theorem dX9_keepTrunk_122 : decode cX9_keepTrunk 122 = .ok (.getfield 25, 3) := by decide +kernel
theorem dX9_keepTrunk_125 : decode cX9_keepTrunk 125 = .ok (.iload_n 1, 1) := by decide +kernel
theorem dX9_keepTrunk_126 : decode cX9_keepTrunk 126 = .ok (.aload_n 0, 1) := by decide +kernel
theorem dX9_keepTrunk_127 : decode cX9_keepTrunk 127 = .ok (.getfield 74, 3) := by decide +kernel
theorem dX9_keepTrunk_130 : decode cX9_keepTrunk 130 = .ok (.iload_n 1, 1) := by decide +kernel
theorem dX9_keepTrunk_131 : decode cX9_keepTrunk 131 = .ok (.iaload, 1) := by decide +kernel
theorem dX9_keepTrunk_132 : decode cX9_keepTrunk 132 = .ok (.iastore, 1) := by decide +kernel
theorem dX9_keepTrunk_133 : decode cX9_keepTrunk 133 = .ok (.iinc 1 1, 3) := by decide +kernel
theorem dX9_keepTrunk_136 : decode cX9_keepTrunk 136 = .ok (.goto (-47), 3) := by decide +kernel
theorem dX9_keepTrunk_139 : decode cX9_keepTrunk 139 = .ok (.aload_n 0, 1) := by decide +kernel
theorem dX9_keepTrunk_140 : decode cX9_keepTrunk 140 = .ok (.invokevirtual 240, 3) := by decide +kernel
theorem dX9_keepTrunk_143 : decode cX9_keepTrunk 143 = .ok (.aload_n 0, 1) := by decide +kernel
theorem dX9_keepTrunk_144 : decode cX9_keepTrunk 144 = .ok (.iconst 0, 1) := by decide +kernel
theorem dX9_keepTrunk_145 : decode cX9_keepTrunk 145 = .ok (.putfield 126, 3) := by decide +kernel
theorem dX9_keepTrunk_148 : decode cX9_keepTrunk 148 = .ok (.aload_n 0, 1) := by decide +kernel
theorem dX9_keepTrunk_149 : decode cX9_keepTrunk 149 = .ok (.iconst 0, 1) := by decide +kernel
theorem dX9_keepTrunk_150 : decode cX9_keepTrunk 150 = .ok (.putfield 129, 3) := by decide +kernel
theorem dX9_keepTrunk_153 : decode cX9_keepTrunk 153 = .ok (.aload_n 0, 1) := by decide +kernel
theorem dX9_keepTrunk_154 : decode cX9_keepTrunk 154 = .ok (.getfield 110, 3) := by decide +kernel
theorem dX9_keepTrunk_157 : decode cX9_keepTrunk 157 = .ok (.iconst 0, 1) := by decide +kernel
theorem dX9_keepTrunk_158 : decode cX9_keepTrunk 158 = .ok (.iconst 0, 1) := by decide +kernel
theorem dX9_keepTrunk_159 : decode cX9_keepTrunk 159 = .ok (.bastore, 1) := by decide +kernel
theorem dX9_keepTrunk_160 : decode cX9_keepTrunk 160 = .ok (.aload_n 0, 1) := by decide +kernel
theorem dX9_keepTrunk_161 : decode cX9_keepTrunk 161 = .ok (.getfield 110, 3) := by decide +kernel
theorem dX9_keepTrunk_164 : decode cX9_keepTrunk 164 = .ok (.iconst 1, 1) := by decide +kernel
theorem dX9_keepTrunk_165 : decode cX9_keepTrunk 165 = .ok (.iconst 0, 1) := by decide +kernel
theorem dX9_keepTrunk_166 : decode cX9_keepTrunk 166 = .ok (.bastore, 1) := by decide +kernel
theorem dX9_keepTrunk_167 : decode cX9_keepTrunk 167 = .ok (.return_, 1) := by decide +kernel
theorem dX9_breach_0 : decode cX9_breach 0 = .ok (.aload_n 0, 1) := by decide +kernel
theorem dX9_breach_1 : decode cX9_breach 1 = .ok (.getfield 55, 3) := by decide +kernel
theorem dX9_breach_4 : decode cX9_breach 4 = .ok (.ireturn, 1) := by decide +kernel
theorem dX9_setsOf_0 : decode cX9_setsOf 0 = .ok (.iconst 0, 1) := by decide +kernel
theorem dX9_setsOf_1 : decode cX9_setsOf 1 = .ok (.istore_n 2, 1) := by decide +kernel
theorem dX9_setsOf_2 : decode cX9_setsOf 2 = .ok (.iconst 0, 1) := by decide +kernel
theorem dX9_setsOf_3 : decode cX9_setsOf 3 = .ok (.istore_n 3, 1) := by decide +kernel
theorem dX9_setsOf_4 : decode cX9_setsOf 4 = .ok (.iload_n 3, 1) := by decide +kernel
theorem dX9_setsOf_5 : decode cX9_setsOf 5 = .ok (.bipush 16, 2) := by decide +kernel
theorem dX9_setsOf_7 : decode cX9_setsOf 7 = .ok (.if_icmp .ge 33, 3) := by decide +kernel
theorem dX9_setsOf_10 : decode cX9_setsOf 10 = .ok (.iload_n 2, 1) := by decide +kernel
theorem dX9_setsOf_11 : decode cX9_setsOf 11 = .ok (.aload_n 0, 1) := by decide +kernel
theorem dX9_setsOf_12 : decode cX9_setsOf 12 = .ok (.getfield 7, 3) := by decide +kernel
theorem dX9_setsOf_15 : decode cX9_setsOf 15 = .ok (.bipush 16, 2) := by decide +kernel
theorem dX9_setsOf_17 : decode cX9_setsOf 17 = .ok (.iload_n 1, 1) := by decide +kernel
theorem dX9_setsOf_18 : decode cX9_setsOf 18 = .ok (.imul, 1) := by decide +kernel
theorem dX9_setsOf_19 : decode cX9_setsOf 19 = .ok (.iload_n 3, 1) := by decide +kernel
theorem dX9_setsOf_20 : decode cX9_setsOf 20 = .ok (.iadd, 1) := by decide +kernel
theorem dX9_setsOf_21 : decode cX9_setsOf 21 = .ok (.iaload, 1) := by decide +kernel
theorem dX9_setsOf_22 : decode cX9_setsOf 22 = .ok (.ifCond .le 9, 3) := by decide +kernel
theorem dX9_setsOf_25 : decode cX9_setsOf 25 = .ok (.iconst 1, 1) := by decide +kernel
theorem dX9_setsOf_26 : decode cX9_setsOf 26 = .ok (.iload_n 3, 1) := by decide +kernel
theorem dX9_setsOf_27 : decode cX9_setsOf 27 = .ok (.ishl, 1) := by decide +kernel
theorem dX9_setsOf_28 : decode cX9_setsOf 28 = .ok (.goto 4, 3) := by decide +kernel
theorem dX9_setsOf_31 : decode cX9_setsOf 31 = .ok (.iconst 0, 1) := by decide +kernel
theorem dX9_setsOf_32 : decode cX9_setsOf 32 = .ok (.ior, 1) := by decide +kernel
theorem dX9_setsOf_33 : decode cX9_setsOf 33 = .ok (.istore_n 2, 1) := by decide +kernel
theorem dX9_setsOf_34 : decode cX9_setsOf 34 = .ok (.iinc 3 1, 3) := by decide +kernel
theorem dX9_setsOf_37 : decode cX9_setsOf 37 = .ok (.goto (-33), 3) := by decide +kernel
theorem dX9_setsOf_40 : decode cX9_setsOf 40 = .ok (.iload_n 2, 1) := by decide +kernel
theorem dX9_setsOf_41 : decode cX9_setsOf 41 = .ok (.ireturn, 1) := by decide +kernel
theorem dX9_faultsBy_0 : decode cX9_faultsBy 0 = .ok (.iconst 0, 1) := by decide +kernel
theorem dX9_faultsBy_1 : decode cX9_faultsBy 1 = .ok (.istore_n 3, 1) := by decide +kernel
theorem dX9_faultsBy_2 : decode cX9_faultsBy 2 = .ok (.iconst 0, 1) := by decide +kernel
theorem dX9_faultsBy_3 : decode cX9_faultsBy 3 = .ok (.istore 4, 2) := by decide +kernel
theorem dX9_faultsBy_5 : decode cX9_faultsBy 5 = .ok (.iload 4, 2) := by decide +kernel
theorem dX9_faultsBy_7 : decode cX9_faultsBy 7 = .ok (.aload_n 0, 1) := by decide +kernel
theorem dX9_faultsBy_8 : decode cX9_faultsBy 8 = .ok (.getfield 123, 3) := by decide +kernel
theorem dX9_faultsBy_11 : decode cX9_faultsBy 11 = .ok (.if_icmp .ge 28, 3) := by decide +kernel
theorem dX9_faultsBy_14 : decode cX9_faultsBy 14 = .ok (.iload_n 3, 1) := by decide +kernel
theorem dX9_faultsBy_15 : decode cX9_faultsBy 15 = .ok (.aload_n 2, 1) := by decide +kernel
theorem dX9_faultsBy_16 : decode cX9_faultsBy 16 = .ok (.iload 4, 2) := by decide +kernel
theorem dX9_faultsBy_18 : decode cX9_faultsBy 18 = .ok (.iaload, 1) := by decide +kernel
theorem dX9_faultsBy_19 : decode cX9_faultsBy 19 = .ok (.iload_n 1, 1) := by decide +kernel
theorem dX9_faultsBy_20 : decode cX9_faultsBy 20 = .ok (.if_icmp .ne 10, 3) := by decide +kernel
theorem dX9_faultsBy_23 : decode cX9_faultsBy 23 = .ok (.iconst 1, 1) := by decide +kernel
theorem dX9_faultsBy_24 : decode cX9_faultsBy 24 = .ok (.iload 4, 2) := by decide +kernel
theorem dX9_faultsBy_26 : decode cX9_faultsBy 26 = .ok (.ishl, 1) := by decide +kernel
theorem dX9_faultsBy_27 : decode cX9_faultsBy 27 = .ok (.goto 4, 3) := by decide +kernel
theorem dX9_faultsBy_30 : decode cX9_faultsBy 30 = .ok (.iconst 0, 1) := by decide +kernel
theorem dX9_faultsBy_31 : decode cX9_faultsBy 31 = .ok (.ior, 1) := by decide +kernel
theorem dX9_faultsBy_32 : decode cX9_faultsBy 32 = .ok (.istore_n 3, 1) := by decide +kernel
theorem dX9_faultsBy_33 : decode cX9_faultsBy 33 = .ok (.iinc 4 1, 3) := by decide +kernel
theorem dX9_faultsBy_36 : decode cX9_faultsBy 36 = .ok (.goto (-31), 3) := by decide +kernel
theorem dX9_faultsBy_39 : decode cX9_faultsBy 39 = .ok (.iload_n 3, 1) := by decide +kernel
theorem dX9_faultsBy_40 : decode cX9_faultsBy 40 = .ok (.ireturn, 1) := by decide +kernel
theorem dX9_change_0 : decode cX9_change 0 = .ok (.aload_n 0, 1) := by decide +kernel
theorem dX9_change_1 : decode cX9_change 1 = .ok (.iload_n 1, 1) := by decide +kernel
theorem dX9_change_2 : decode cX9_change 2 = .ok (.invokevirtual 243, 3) := by decide +kernel
theorem dX9_change_5 : decode cX9_change 5 = .ok (.ifCond .ne 7, 3) := by decide +kernel
theorem dX9_change_8 : decode cX9_change 8 = .ok (.sipush (-1001), 3) := by decide +kernel
theorem dX9_change_11 : decode cX9_change 11 = .ok (.ireturn, 1) := by decide +kernel
theorem dX9_change_12 : decode cX9_change 12 = .ok (.iload_n 2, 1) := by decide +kernel
theorem dX9_change_13 : decode cX9_change 13 = .ok (.tableswitch 75 0 4 #[35, 41, 48, 55, 65], 35) := by decide +kernel
theorem dX9_change_48 : decode cX9_change 48 = .ok (.aload_n 0, 1) := by decide +kernel
theorem dX9_change_49 : decode cX9_change 49 = .ok (.iload_n 1, 1) := by decide +kernel
theorem dX9_change_50 : decode cX9_change 50 = .ok (.invokevirtual 247, 3) := by decide +kernel
theorem dX9_change_53 : decode cX9_change 53 = .ok (.ireturn, 1) := by decide +kernel
theorem dX9_change_54 : decode cX9_change 54 = .ok (.aload_n 0, 1) := by decide +kernel
theorem dX9_change_55 : decode cX9_change 55 = .ok (.getfield 13, 3) := by decide +kernel
theorem dX9_change_58 : decode cX9_change 58 = .ok (.iload_n 1, 1) := by decide +kernel
theorem dX9_change_59 : decode cX9_change 59 = .ok (.iaload, 1) := by decide +kernel
theorem dX9_change_60 : decode cX9_change 60 = .ok (.ireturn, 1) := by decide +kernel
theorem dX9_change_61 : decode cX9_change 61 = .ok (.aload_n 0, 1) := by decide +kernel
theorem dX9_change_62 : decode cX9_change 62 = .ok (.getfield 16, 3) := by decide +kernel
theorem dX9_change_65 : decode cX9_change 65 = .ok (.iload_n 1, 1) := by decide +kernel
theorem dX9_change_66 : decode cX9_change 66 = .ok (.iaload, 1) := by decide +kernel
theorem dX9_change_67 : decode cX9_change 67 = .ok (.ireturn, 1) := by decide +kernel
theorem dX9_change_68 : decode cX9_change 68 = .ok (.aload_n 0, 1) := by decide +kernel
theorem dX9_change_69 : decode cX9_change 69 = .ok (.iload_n 1, 1) := by decide +kernel
theorem dX9_change_70 : decode cX9_change 70 = .ok (.aload_n 0, 1) := by decide +kernel
theorem dX9_change_71 : decode cX9_change 71 = .ok (.getfield 22, 3) := by decide +kernel
theorem dX9_change_74 : decode cX9_change 74 = .ok (.invokevirtual 250, 3) := by decide +kernel
theorem dX9_change_77 : decode cX9_change 77 = .ok (.ireturn, 1) := by decide +kernel
theorem dX9_change_78 : decode cX9_change 78 = .ok (.aload_n 0, 1) := by decide +kernel
theorem dX9_change_79 : decode cX9_change 79 = .ok (.iload_n 1, 1) := by decide +kernel
theorem dX9_change_80 : decode cX9_change 80 = .ok (.aload_n 0, 1) := by decide +kernel
theorem dX9_change_81 : decode cX9_change 81 = .ok (.getfield 25, 3) := by decide +kernel
theorem dX9_change_84 : decode cX9_change 84 = .ok (.invokevirtual 250, 3) := by decide +kernel
theorem dX9_change_87 : decode cX9_change 87 = .ok (.ireturn, 1) := by decide +kernel
theorem dX9_change_88 : decode cX9_change 88 = .ok (.sipush (-1002), 3) := by decide +kernel
theorem dX9_change_91 : decode cX9_change 91 = .ok (.ireturn, 1) := by decide +kernel
theorem dX9_sets_0 : decode cX9_sets 0 = .ok (.aload_n 0, 1) := by decide +kernel
theorem dX9_sets_1 : decode cX9_sets 1 = .ok (.iload_n 1, 1) := by decide +kernel
theorem dX9_sets_2 : decode cX9_sets 2 = .ok (.invokevirtual 243, 3) := by decide +kernel
theorem dX9_sets_5 : decode cX9_sets 5 = .ok (.ifCond .eq 24, 3) := by decide +kernel
theorem dX9_sets_8 : decode cX9_sets 8 = .ok (.iload_n 2, 1) := by decide +kernel
theorem dX9_sets_9 : decode cX9_sets 9 = .ok (.invokestatic 254, 3) := by decide +kernel
theorem dX9_sets_12 : decode cX9_sets 12 = .ok (.ifCond .eq 17, 3) := by decide +kernel
theorem dX9_sets_15 : decode cX9_sets 15 = .ok (.aload_n 0, 1) := by decide +kernel
theorem dX9_sets_16 : decode cX9_sets 16 = .ok (.getfield 7, 3) := by decide +kernel
theorem dX9_sets_19 : decode cX9_sets 19 = .ok (.bipush 16, 2) := by decide +kernel
theorem dX9_sets_21 : decode cX9_sets 21 = .ok (.iload_n 1, 1) := by decide +kernel
theorem dX9_sets_22 : decode cX9_sets 22 = .ok (.imul, 1) := by decide +kernel
theorem dX9_sets_23 : decode cX9_sets 23 = .ok (.iload_n 2, 1) := by decide +kernel
theorem dX9_sets_24 : decode cX9_sets 24 = .ok (.iadd, 1) := by decide +kernel
theorem dX9_sets_25 : decode cX9_sets 25 = .ok (.iaload, 1) := by decide +kernel
theorem dX9_sets_26 : decode cX9_sets 26 = .ok (.goto 6, 3) := by decide +kernel
theorem dX9_sets_29 : decode cX9_sets 29 = .ok (.sipush (-1001), 3) := by decide +kernel
theorem dX9_sets_32 : decode cX9_sets 32 = .ok (.ireturn, 1) := by decide +kernel
theorem dX9_setter_0 : decode cX9_setter 0 = .ok (.iconst (-1), 1) := by decide +kernel
theorem dX9_setter_1 : decode cX9_setter 1 = .ok (.istore_n 3, 1) := by decide +kernel
theorem dX9_setter_2 : decode cX9_setter 2 = .ok (.iconst 0, 1) := by decide +kernel
theorem dX9_setter_3 : decode cX9_setter 3 = .ok (.istore 4, 2) := by decide +kernel
theorem dX9_setter_5 : decode cX9_setter 5 = .ok (.iload 4, 2) := by decide +kernel
theorem dX9_setter_7 : decode cX9_setter 7 = .ok (.iload_n 1, 1) := by decide +kernel
theorem dX9_setter_8 : decode cX9_setter 8 = .ok (.if_icmp .ge 31, 3) := by decide +kernel
theorem dX9_setter_11 : decode cX9_setter 11 = .ok (.aload_n 0, 1) := by decide +kernel
theorem dX9_setter_12 : decode cX9_setter 12 = .ok (.getfield 7, 3) := by decide +kernel
theorem dX9_setter_15 : decode cX9_setter 15 = .ok (.bipush 16, 2) := by decide +kernel
theorem dX9_setter_17 : decode cX9_setter 17 = .ok (.iload 4, 2) := by decide +kernel
theorem dX9_setter_19 : decode cX9_setter 19 = .ok (.imul, 1) := by decide +kernel
theorem dX9_setter_20 : decode cX9_setter 20 = .ok (.iload_n 2, 1) := by decide +kernel
theorem dX9_setter_21 : decode cX9_setter 21 = .ok (.iadd, 1) := by decide +kernel
theorem dX9_setter_22 : decode cX9_setter 22 = .ok (.iaload, 1) := by decide +kernel
theorem dX9_setter_23 : decode cX9_setter 23 = .ok (.ifCond .le 8, 3) := by decide +kernel
theorem dX9_setter_26 : decode cX9_setter 26 = .ok (.iload 4, 2) := by decide +kernel
theorem dX9_setter_28 : decode cX9_setter 28 = .ok (.goto 4, 3) := by decide +kernel
theorem dX9_setter_31 : decode cX9_setter 31 = .ok (.iload_n 3, 1) := by decide +kernel
theorem dX9_setter_32 : decode cX9_setter 32 = .ok (.istore_n 3, 1) := by decide +kernel
theorem dX9_setter_33 : decode cX9_setter 33 = .ok (.iinc 4 1, 3) := by decide +kernel
theorem dX9_setter_36 : decode cX9_setter 36 = .ok (.goto (-31), 3) := by decide +kernel
theorem dX9_setter_39 : decode cX9_setter 39 = .ok (.iload_n 3, 1) := by decide +kernel
theorem dX9_setter_40 : decode cX9_setter 40 = .ok (.ireturn, 1) := by decide +kernel
theorem dX9_aheadOf_0 : decode cX9_aheadOf 0 = .ok (.aload_n 0, 1) := by decide +kernel
theorem dX9_aheadOf_1 : decode cX9_aheadOf 1 = .ok (.getfield 77, 3) := by decide +kernel
theorem dX9_aheadOf_4 : decode cX9_aheadOf 4 = .ok (.bipush 16, 2) := by decide +kernel
theorem dX9_aheadOf_6 : decode cX9_aheadOf 6 = .ok (.iload_n 1, 1) := by decide +kernel
theorem dX9_aheadOf_7 : decode cX9_aheadOf 7 = .ok (.imul, 1) := by decide +kernel
theorem dX9_aheadOf_8 : decode cX9_aheadOf 8 = .ok (.iload_n 2, 1) := by decide +kernel
theorem dX9_aheadOf_9 : decode cX9_aheadOf 9 = .ok (.iadd, 1) := by decide +kernel
theorem dX9_aheadOf_10 : decode cX9_aheadOf 10 = .ok (.iaload, 1) := by decide +kernel
theorem dX9_aheadOf_11 : decode cX9_aheadOf 11 = .ok (.ireturn, 1) := by decide +kernel
theorem dX9_findAhead_0 : decode cX9_findAhead 0 = .ok (.iconst 0, 1) := by decide +kernel
theorem dX9_findAhead_1 : decode cX9_findAhead 1 = .ok (.istore_n 1, 1) := by decide +kernel
theorem dX9_findAhead_2 : decode cX9_findAhead 2 = .ok (.iload_n 1, 1) := by decide +kernel
theorem dX9_findAhead_3 : decode cX9_findAhead 3 = .ok (.aload_n 0, 1) := by decide +kernel
theorem dX9_findAhead_4 : decode cX9_findAhead 4 = .ok (.getfield 114, 3) := by decide +kernel
theorem dX9_findAhead_7 : decode cX9_findAhead 7 = .ok (.if_icmp .gt 60, 3) := by decide +kernel
theorem dX9_findAhead_10 : decode cX9_findAhead 10 = .ok (.iconst 0, 1) := by decide +kernel
theorem dX9_findAhead_11 : decode cX9_findAhead 11 = .ok (.istore_n 2, 1) := by decide +kernel
theorem dX9_findAhead_12 : decode cX9_findAhead 12 = .ok (.iload_n 2, 1) := by decide +kernel
theorem dX9_findAhead_13 : decode cX9_findAhead 13 = .ok (.bipush 16, 2) := by decide +kernel
theorem dX9_findAhead_15 : decode cX9_findAhead 15 = .ok (.if_icmp .ge 46, 3) := by decide +kernel
theorem dX9_findAhead_18 : decode cX9_findAhead 18 = .ok (.aload_n 0, 1) := by decide +kernel
theorem dX9_findAhead_19 : decode cX9_findAhead 19 = .ok (.iload_n 1, 1) := by decide +kernel
theorem dX9_findAhead_20 : decode cX9_findAhead 20 = .ok (.iload_n 2, 1) := by decide +kernel
theorem dX9_findAhead_21 : decode cX9_findAhead 21 = .ok (.invokevirtual 257, 3) := by decide +kernel
theorem dX9_findAhead_24 : decode cX9_findAhead 24 = .ok (.istore_n 3, 1) := by decide +kernel
theorem dX9_findAhead_25 : decode cX9_findAhead 25 = .ok (.aload_n 0, 1) := by decide +kernel
theorem dX9_findAhead_26 : decode cX9_findAhead 26 = .ok (.getfield 77, 3) := by decide +kernel
theorem dX9_findAhead_29 : decode cX9_findAhead 29 = .ok (.bipush 16, 2) := by decide +kernel
theorem dX9_findAhead_31 : decode cX9_findAhead 31 = .ok (.iload_n 1, 1) := by decide +kernel
theorem dX9_findAhead_32 : decode cX9_findAhead 32 = .ok (.imul, 1) := by decide +kernel
theorem dX9_findAhead_33 : decode cX9_findAhead 33 = .ok (.iload_n 2, 1) := by decide +kernel
theorem dX9_findAhead_34 : decode cX9_findAhead 34 = .ok (.iadd, 1) := by decide +kernel
theorem dX9_findAhead_35 : decode cX9_findAhead 35 = .ok (.iload_n 3, 1) := by decide +kernel
theorem dX9_findAhead_36 : decode cX9_findAhead 36 = .ok (.ifCond .ge 7, 3) := by decide +kernel
theorem dX9_findAhead_39 : decode cX9_findAhead 39 = .ok (.iconst 0, 1) := by decide +kernel
theorem dX9_findAhead_40 : decode cX9_findAhead 40 = .ok (.goto 14, 3) := by decide +kernel
theorem dX9_findAhead_43 : decode cX9_findAhead 43 = .ok (.aload_n 0, 1) := by decide +kernel
theorem dX9_findAhead_44 : decode cX9_findAhead 44 = .ok (.getfield 7, 3) := by decide +kernel
theorem dX9_findAhead_47 : decode cX9_findAhead 47 = .ok (.bipush 16, 2) := by decide +kernel
theorem dX9_findAhead_49 : decode cX9_findAhead 49 = .ok (.iload_n 3, 1) := by decide +kernel
theorem dX9_findAhead_50 : decode cX9_findAhead 50 = .ok (.imul, 1) := by decide +kernel
theorem dX9_findAhead_51 : decode cX9_findAhead 51 = .ok (.iload_n 2, 1) := by decide +kernel
theorem dX9_findAhead_52 : decode cX9_findAhead 52 = .ok (.iadd, 1) := by decide +kernel
theorem dX9_findAhead_53 : decode cX9_findAhead 53 = .ok (.iaload, 1) := by decide +kernel
theorem dX9_findAhead_54 : decode cX9_findAhead 54 = .ok (.iastore, 1) := by decide +kernel
theorem dX9_findAhead_55 : decode cX9_findAhead 55 = .ok (.iinc 2 1, 3) := by decide +kernel
theorem dX9_findAhead_58 : decode cX9_findAhead 58 = .ok (.goto (-46), 3) := by decide +kernel
theorem dX9_findAhead_61 : decode cX9_findAhead 61 = .ok (.iinc 1 1, 3) := by decide +kernel
theorem dX9_findAhead_64 : decode cX9_findAhead 64 = .ok (.goto (-62), 3) := by decide +kernel
theorem dX9_findAhead_67 : decode cX9_findAhead 67 = .ok (.return_, 1) := by decide +kernel
theorem dX9_ahead_0 : decode cX9_ahead 0 = .ok (.iload_n 1, 1) := by decide +kernel
theorem dX9_ahead_1 : decode cX9_ahead 1 = .ok (.i2l, 1) := by decide +kernel
theorem dX9_ahead_2 : decode cX9_ahead 2 = .ok (.lconst 0, 1) := by decide +kernel
theorem dX9_ahead_3 : decode cX9_ahead 3 = .ok (.aload_n 0, 1) := by decide +kernel
theorem dX9_ahead_4 : decode cX9_ahead 4 = .ok (.getfield 114, 3) := by decide +kernel
theorem dX9_ahead_7 : decode cX9_ahead 7 = .ok (.i2l, 1) := by decide +kernel
theorem dX9_ahead_8 : decode cX9_ahead 8 = .ok (.invokestatic 117, 3) := by decide +kernel
theorem dX9_ahead_11 : decode cX9_ahead 11 = .ok (.ifCond .eq 19, 3) := by decide +kernel
theorem dX9_ahead_14 : decode cX9_ahead 14 = .ok (.iload_n 2, 1) := by decide +kernel
theorem dX9_ahead_15 : decode cX9_ahead 15 = .ok (.invokestatic 254, 3) := by decide +kernel
theorem dX9_ahead_18 : decode cX9_ahead 18 = .ok (.ifCond .eq 12, 3) := by decide +kernel
theorem dX9_ahead_21 : decode cX9_ahead 21 = .ok (.aload_n 0, 1) := by decide +kernel
theorem dX9_ahead_22 : decode cX9_ahead 22 = .ok (.iload_n 1, 1) := by decide +kernel
theorem dX9_ahead_23 : decode cX9_ahead 23 = .ok (.iload_n 2, 1) := by decide +kernel
theorem dX9_ahead_24 : decode cX9_ahead 24 = .ok (.invokevirtual 260, 3) := by decide +kernel
theorem dX9_ahead_27 : decode cX9_ahead 27 = .ok (.goto 6, 3) := by decide +kernel
theorem dX9_ahead_30 : decode cX9_ahead 30 = .ok (.sipush (-1001), 3) := by decide +kernel
theorem dX9_ahead_33 : decode cX9_ahead 33 = .ok (.ireturn, 1) := by decide +kernel
theorem dX9_fault_0 : decode cX9_fault 0 = .ok (.aload_n 0, 1) := by decide +kernel
theorem dX9_fault_1 : decode cX9_fault 1 = .ok (.iload_n 1, 1) := by decide +kernel
theorem dX9_fault_2 : decode cX9_fault 2 = .ok (.invokevirtual 263, 3) := by decide +kernel
theorem dX9_fault_5 : decode cX9_fault 5 = .ok (.ifCond .ne 7, 3) := by decide +kernel
theorem dX9_fault_8 : decode cX9_fault 8 = .ok (.sipush (-1001), 3) := by decide +kernel
theorem dX9_fault_11 : decode cX9_fault 11 = .ok (.ireturn, 1) := by decide +kernel
theorem dX9_fault_12 : decode cX9_fault 12 = .ok (.iload_n 2, 1) := by decide +kernel
theorem dX9_fault_13 : decode cX9_fault 13 = .ok (.ifCond .ne 12, 3) := by decide +kernel
theorem dX9_fault_16 : decode cX9_fault 16 = .ok (.aload_n 0, 1) := by decide +kernel
theorem dX9_fault_17 : decode cX9_fault 17 = .ok (.getfield 19, 3) := by decide +kernel
theorem dX9_fault_20 : decode cX9_fault 20 = .ok (.iload_n 1, 1) := by decide +kernel
theorem dX9_fault_21 : decode cX9_fault 21 = .ok (.iaload, 1) := by decide +kernel
theorem dX9_fault_22 : decode cX9_fault 22 = .ok (.goto 34, 3) := by decide +kernel
theorem dX9_fault_25 : decode cX9_fault 25 = .ok (.iload_n 2, 1) := by decide +kernel
theorem dX9_fault_26 : decode cX9_fault 26 = .ok (.iconst 1, 1) := by decide +kernel
theorem dX9_fault_27 : decode cX9_fault 27 = .ok (.if_icmp .ne 12, 3) := by decide +kernel
theorem dX9_fault_30 : decode cX9_fault 30 = .ok (.aload_n 0, 1) := by decide +kernel
theorem dX9_fault_31 : decode cX9_fault 31 = .ok (.getfield 22, 3) := by decide +kernel
theorem dX9_fault_34 : decode cX9_fault 34 = .ok (.iload_n 1, 1) := by decide +kernel
theorem dX9_fault_35 : decode cX9_fault 35 = .ok (.iaload, 1) := by decide +kernel
theorem dX9_fault_36 : decode cX9_fault 36 = .ok (.goto 20, 3) := by decide +kernel
theorem dX9_fault_39 : decode cX9_fault 39 = .ok (.iload_n 2, 1) := by decide +kernel
theorem dX9_fault_40 : decode cX9_fault 40 = .ok (.iconst 2, 1) := by decide +kernel
theorem dX9_fault_41 : decode cX9_fault 41 = .ok (.if_icmp .ne 12, 3) := by decide +kernel
theorem dX9_fault_44 : decode cX9_fault 44 = .ok (.aload_n 0, 1) := by decide +kernel
theorem dX9_fault_45 : decode cX9_fault 45 = .ok (.getfield 25, 3) := by decide +kernel
theorem dX9_fault_48 : decode cX9_fault 48 = .ok (.iload_n 1, 1) := by decide +kernel
theorem dX9_fault_49 : decode cX9_fault 49 = .ok (.iaload, 1) := by decide +kernel
theorem dX9_fault_50 : decode cX9_fault 50 = .ok (.goto 6, 3) := by decide +kernel
theorem dX9_fault_53 : decode cX9_fault 53 = .ok (.sipush (-1002), 3) := by decide +kernel
theorem dX9_fault_56 : decode cX9_fault 56 = .ok (.ireturn, 1) := by decide +kernel
theorem dX9_count_0 : decode cX9_count 0 = .ok (.iload_n 1, 1) := by decide +kernel
theorem dX9_count_1 : decode cX9_count 1 = .ok (.tableswitch 60 0 4 #[35, 40, 45, 50, 55], 35) := by decide +kernel
theorem dX9_count_36 : decode cX9_count 36 = .ok (.aload_n 0, 1) := by decide +kernel
theorem dX9_count_37 : decode cX9_count 37 = .ok (.getfield 114, 3) := by decide +kernel
theorem dX9_count_40 : decode cX9_count 40 = .ok (.ireturn, 1) := by decide +kernel
theorem dX9_count_41 : decode cX9_count 41 = .ok (.aload_n 0, 1) := by decide +kernel
theorem dX9_count_42 : decode cX9_count 42 = .ok (.getfield 123, 3) := by decide +kernel
theorem dX9_count_45 : decode cX9_count 45 = .ok (.ireturn, 1) := by decide +kernel
theorem dX9_count_46 : decode cX9_count 46 = .ok (.aload_n 0, 1) := by decide +kernel
theorem dX9_count_47 : decode cX9_count 47 = .ok (.getfield 126, 3) := by decide +kernel
theorem dX9_count_50 : decode cX9_count 50 = .ok (.ireturn, 1) := by decide +kernel
theorem dX9_count_51 : decode cX9_count 51 = .ok (.aload_n 0, 1) := by decide +kernel
theorem dX9_count_52 : decode cX9_count 52 = .ok (.getfield 129, 3) := by decide +kernel
theorem dX9_count_55 : decode cX9_count 55 = .ok (.ireturn, 1) := by decide +kernel
theorem dX9_count_56 : decode cX9_count 56 = .ok (.aload_n 0, 1) := by decide +kernel
theorem dX9_count_57 : decode cX9_count 57 = .ok (.getfield 136, 3) := by decide +kernel
theorem dX9_count_60 : decode cX9_count 60 = .ok (.ireturn, 1) := by decide +kernel
theorem dX9_count_61 : decode cX9_count 61 = .ok (.sipush (-1002), 3) := by decide +kernel
theorem dX9_count_64 : decode cX9_count 64 = .ok (.ireturn, 1) := by decide +kernel
theorem dX9_faultsIn_0 : decode cX9_faultsIn 0 = .ok (.iconst 0, 1) := by decide +kernel
theorem dX9_faultsIn_1 : decode cX9_faultsIn 1 = .ok (.istore_n 2, 1) := by decide +kernel
theorem dX9_faultsIn_2 : decode cX9_faultsIn 2 = .ok (.iconst 0, 1) := by decide +kernel
theorem dX9_faultsIn_3 : decode cX9_faultsIn 3 = .ok (.istore_n 3, 1) := by decide +kernel
theorem dX9_faultsIn_4 : decode cX9_faultsIn 4 = .ok (.iload_n 3, 1) := by decide +kernel
theorem dX9_faultsIn_5 : decode cX9_faultsIn 5 = .ok (.aload_n 0, 1) := by decide +kernel
theorem dX9_faultsIn_6 : decode cX9_faultsIn 6 = .ok (.getfield 123, 3) := by decide +kernel
theorem dX9_faultsIn_9 : decode cX9_faultsIn 9 = .ok (.if_icmp .ge 66, 3) := by decide +kernel
theorem dX9_faultsIn_12 : decode cX9_faultsIn 12 = .ok (.iload_n 1, 1) := by decide +kernel
theorem dX9_faultsIn_13 : decode cX9_faultsIn 13 = .ok (.aload_n 0, 1) := by decide +kernel
theorem dX9_faultsIn_14 : decode cX9_faultsIn 14 = .ok (.getfield 22, 3) := by decide +kernel
theorem dX9_faultsIn_17 : decode cX9_faultsIn 17 = .ok (.iload_n 3, 1) := by decide +kernel
theorem dX9_faultsIn_18 : decode cX9_faultsIn 18 = .ok (.iaload, 1) := by decide +kernel
theorem dX9_faultsIn_19 : decode cX9_faultsIn 19 = .ok (.invokestatic 190, 3) := by decide +kernel
theorem dX9_faultsIn_22 : decode cX9_faultsIn 22 = .ok (.ifCond .eq 29, 3) := by decide +kernel
theorem dX9_faultsIn_25 : decode cX9_faultsIn 25 = .ok (.aload_n 0, 1) := by decide +kernel
theorem dX9_faultsIn_26 : decode cX9_faultsIn 26 = .ok (.getfield 25, 3) := by decide +kernel
theorem dX9_faultsIn_29 : decode cX9_faultsIn 29 = .ok (.iload_n 3, 1) := by decide +kernel
theorem dX9_faultsIn_30 : decode cX9_faultsIn 30 = .ok (.iaload, 1) := by decide +kernel
theorem dX9_faultsIn_31 : decode cX9_faultsIn 31 = .ok (.ifCond .lt 16, 3) := by decide +kernel
theorem dX9_faultsIn_34 : decode cX9_faultsIn 34 = .ok (.iload_n 1, 1) := by decide +kernel
theorem dX9_faultsIn_35 : decode cX9_faultsIn 35 = .ok (.aload_n 0, 1) := by decide +kernel
theorem dX9_faultsIn_36 : decode cX9_faultsIn 36 = .ok (.getfield 25, 3) := by decide +kernel
theorem dX9_faultsIn_39 : decode cX9_faultsIn 39 = .ok (.iload_n 3, 1) := by decide +kernel
theorem dX9_faultsIn_40 : decode cX9_faultsIn 40 = .ok (.iaload, 1) := by decide +kernel
theorem dX9_faultsIn_41 : decode cX9_faultsIn 41 = .ok (.invokestatic 190, 3) := by decide +kernel
theorem dX9_faultsIn_44 : decode cX9_faultsIn 44 = .ok (.ifCond .ne 7, 3) := by decide +kernel
theorem dX9_faultsIn_47 : decode cX9_faultsIn 47 = .ok (.iconst 1, 1) := by decide +kernel
theorem dX9_faultsIn_48 : decode cX9_faultsIn 48 = .ok (.goto 4, 3) := by decide +kernel
theorem dX9_faultsIn_51 : decode cX9_faultsIn 51 = .ok (.iconst 0, 1) := by decide +kernel
theorem dX9_faultsIn_52 : decode cX9_faultsIn 52 = .ok (.istore 4, 2) := by decide +kernel
theorem dX9_faultsIn_54 : decode cX9_faultsIn 54 = .ok (.iload_n 2, 1) := by decide +kernel
theorem dX9_faultsIn_55 : decode cX9_faultsIn 55 = .ok (.iload 4, 2) := by decide +kernel
theorem dX9_faultsIn_57 : decode cX9_faultsIn 57 = .ok (.ifCond .eq 9, 3) := by decide +kernel
theorem dX9_faultsIn_60 : decode cX9_faultsIn 60 = .ok (.iconst 1, 1) := by decide +kernel
theorem dX9_faultsIn_61 : decode cX9_faultsIn 61 = .ok (.iload_n 3, 1) := by decide +kernel
theorem dX9_faultsIn_62 : decode cX9_faultsIn 62 = .ok (.ishl, 1) := by decide +kernel
theorem dX9_faultsIn_63 : decode cX9_faultsIn 63 = .ok (.goto 4, 3) := by decide +kernel
theorem dX9_faultsIn_66 : decode cX9_faultsIn 66 = .ok (.iconst 0, 1) := by decide +kernel
theorem dX9_faultsIn_67 : decode cX9_faultsIn 67 = .ok (.ior, 1) := by decide +kernel
theorem dX9_faultsIn_68 : decode cX9_faultsIn 68 = .ok (.istore_n 2, 1) := by decide +kernel
theorem dX9_faultsIn_69 : decode cX9_faultsIn 69 = .ok (.iinc 3 1, 3) := by decide +kernel
theorem dX9_faultsIn_72 : decode cX9_faultsIn 72 = .ok (.goto (-68), 3) := by decide +kernel
theorem dX9_faultsIn_75 : decode cX9_faultsIn 75 = .ok (.iload_n 2, 1) := by decide +kernel
theorem dX9_faultsIn_76 : decode cX9_faultsIn 76 = .ok (.ireturn, 1) := by decide +kernel
theorem dX9_weightOf_0 : decode cX9_weightOf 0 = .ok (.iconst 0, 1) := by decide +kernel
theorem dX9_weightOf_1 : decode cX9_weightOf 1 = .ok (.istore_n 2, 1) := by decide +kernel
theorem dX9_weightOf_2 : decode cX9_weightOf 2 = .ok (.iconst 0, 1) := by decide +kernel
theorem dX9_weightOf_3 : decode cX9_weightOf 3 = .ok (.istore_n 3, 1) := by decide +kernel
theorem dX9_weightOf_4 : decode cX9_weightOf 4 = .ok (.iload_n 3, 1) := by decide +kernel
theorem dX9_weightOf_5 : decode cX9_weightOf 5 = .ok (.aload_n 0, 1) := by decide +kernel
theorem dX9_weightOf_6 : decode cX9_weightOf 6 = .ok (.getfield 123, 3) := by decide +kernel
theorem dX9_weightOf_9 : decode cX9_weightOf 9 = .ok (.if_icmp .ge 30, 3) := by decide +kernel
theorem dX9_weightOf_12 : decode cX9_weightOf 12 = .ok (.iload_n 2, 1) := by decide +kernel
theorem dX9_weightOf_13 : decode cX9_weightOf 13 = .ok (.iload_n 1, 1) := by decide +kernel
theorem dX9_weightOf_14 : decode cX9_weightOf 14 = .ok (.iload_n 3, 1) := by decide +kernel
theorem dX9_weightOf_15 : decode cX9_weightOf 15 = .ok (.invokestatic 190, 3) := by decide +kernel
theorem dX9_weightOf_18 : decode cX9_weightOf 18 = .ok (.ifCond .eq 12, 3) := by decide +kernel
theorem dX9_weightOf_21 : decode cX9_weightOf 21 = .ok (.aload_n 0, 1) := by decide +kernel
theorem dX9_weightOf_22 : decode cX9_weightOf 22 = .ok (.getfield 19, 3) := by decide +kernel
theorem dX9_weightOf_25 : decode cX9_weightOf 25 = .ok (.iload_n 3, 1) := by decide +kernel
theorem dX9_weightOf_26 : decode cX9_weightOf 26 = .ok (.iaload, 1) := by decide +kernel
theorem dX9_weightOf_27 : decode cX9_weightOf 27 = .ok (.goto 4, 3) := by decide +kernel
theorem dX9_weightOf_30 : decode cX9_weightOf 30 = .ok (.iconst 0, 1) := by decide +kernel
theorem dX9_weightOf_31 : decode cX9_weightOf 31 = .ok (.iadd, 1) := by decide +kernel
theorem dX9_weightOf_32 : decode cX9_weightOf 32 = .ok (.istore_n 2, 1) := by decide +kernel
theorem dX9_weightOf_33 : decode cX9_weightOf 33 = .ok (.iinc 3 1, 3) := by decide +kernel
theorem dX9_weightOf_36 : decode cX9_weightOf 36 = .ok (.goto (-32), 3) := by decide +kernel
theorem dX9_weightOf_39 : decode cX9_weightOf 39 = .ok (.iload_n 2, 1) := by decide +kernel
theorem dX9_weightOf_40 : decode cX9_weightOf 40 = .ok (.ireturn, 1) := by decide +kernel
theorem dX9_riskOf_0 : decode cX9_riskOf 0 = .ok (.iconst 0, 1) := by decide +kernel
theorem dX9_riskOf_1 : decode cX9_riskOf 1 = .ok (.istore_n 2, 1) := by decide +kernel
theorem dX9_riskOf_2 : decode cX9_riskOf 2 = .ok (.iconst 0, 1) := by decide +kernel
theorem dX9_riskOf_3 : decode cX9_riskOf 3 = .ok (.istore_n 3, 1) := by decide +kernel
theorem dX9_riskOf_4 : decode cX9_riskOf 4 = .ok (.iload_n 3, 1) := by decide +kernel
theorem dX9_riskOf_5 : decode cX9_riskOf 5 = .ok (.aload_n 0, 1) := by decide +kernel
theorem dX9_riskOf_6 : decode cX9_riskOf 6 = .ok (.getfield 114, 3) := by decide +kernel
theorem dX9_riskOf_9 : decode cX9_riskOf 9 = .ok (.if_icmp .ge 30, 3) := by decide +kernel
theorem dX9_riskOf_12 : decode cX9_riskOf 12 = .ok (.iload_n 2, 1) := by decide +kernel
theorem dX9_riskOf_13 : decode cX9_riskOf 13 = .ok (.iload_n 1, 1) := by decide +kernel
theorem dX9_riskOf_14 : decode cX9_riskOf 14 = .ok (.iload_n 3, 1) := by decide +kernel
theorem dX9_riskOf_15 : decode cX9_riskOf 15 = .ok (.invokestatic 190, 3) := by decide +kernel
theorem dX9_riskOf_18 : decode cX9_riskOf 18 = .ok (.ifCond .eq 12, 3) := by decide +kernel
theorem dX9_riskOf_21 : decode cX9_riskOf 21 = .ok (.aload_n 0, 1) := by decide +kernel
theorem dX9_riskOf_22 : decode cX9_riskOf 22 = .ok (.getfield 16, 3) := by decide +kernel
theorem dX9_riskOf_25 : decode cX9_riskOf 25 = .ok (.iload_n 3, 1) := by decide +kernel
theorem dX9_riskOf_26 : decode cX9_riskOf 26 = .ok (.iaload, 1) := by decide +kernel
theorem dX9_riskOf_27 : decode cX9_riskOf 27 = .ok (.goto 4, 3) := by decide +kernel
theorem dX9_riskOf_30 : decode cX9_riskOf 30 = .ok (.iconst 0, 1) := by decide +kernel
theorem dX9_riskOf_31 : decode cX9_riskOf 31 = .ok (.iadd, 1) := by decide +kernel
theorem dX9_riskOf_32 : decode cX9_riskOf 32 = .ok (.istore_n 2, 1) := by decide +kernel
theorem dX9_riskOf_33 : decode cX9_riskOf 33 = .ok (.iinc 3 1, 3) := by decide +kernel
theorem dX9_riskOf_36 : decode cX9_riskOf 36 = .ok (.goto (-32), 3) := by decide +kernel
theorem dX9_riskOf_39 : decode cX9_riskOf 39 = .ok (.iload_n 2, 1) := by decide +kernel
theorem dX9_riskOf_40 : decode cX9_riskOf 40 = .ok (.ireturn, 1) := by decide +kernel
theorem dX9_cut_0 : decode cX9_cut 0 = .ok (.iload_n 1, 1) := by decide +kernel
theorem dX9_cut_1 : decode cX9_cut 1 = .ok (.i2l, 1) := by decide +kernel
theorem dX9_cut_2 : decode cX9_cut 2 = .ok (.lconst 0, 1) := by decide +kernel
theorem dX9_cut_3 : decode cX9_cut 3 = .ok (.aload_n 0, 1) := by decide +kernel
theorem dX9_cut_4 : decode cX9_cut 4 = .ok (.getfield 114, 3) := by decide +kernel
theorem dX9_cut_7 : decode cX9_cut 7 = .ok (.i2l, 1) := by decide +kernel
theorem dX9_cut_8 : decode cX9_cut 8 = .ok (.invokestatic 117, 3) := by decide +kernel
theorem dX9_cut_11 : decode cX9_cut 11 = .ok (.ifCond .ne 7, 3) := by decide +kernel
theorem dX9_cut_14 : decode cX9_cut 14 = .ok (.sipush (-1002), 3) := by decide +kernel
theorem dX9_cut_17 : decode cX9_cut 17 = .ok (.ireturn, 1) := by decide +kernel
theorem dX9_cut_18 : decode cX9_cut 18 = .ok (.aload_n 0, 1) := by decide +kernel
theorem dX9_cut_19 : decode cX9_cut 19 = .ok (.getfield 126, 3) := by decide +kernel
theorem dX9_cut_22 : decode cX9_cut 22 = .ok (.iconst 4, 1) := by decide +kernel
theorem dX9_cut_23 : decode cX9_cut 23 = .ok (.if_icmp .ne 7, 3) := by decide +kernel
theorem dX9_cut_26 : decode cX9_cut 26 = .ok (.sipush (-1004), 3) := by decide +kernel
theorem dX9_cut_29 : decode cX9_cut 29 = .ok (.ireturn, 1) := by decide +kernel
theorem dX9_cut_30 : decode cX9_cut 30 = .ok (.aload_n 0, 1) := by decide +kernel
theorem dX9_cut_31 : decode cX9_cut 31 = .ok (.getfield 28, 3) := by decide +kernel
theorem dX9_cut_34 : decode cX9_cut 34 = .ok (.aload_n 0, 1) := by decide +kernel
theorem dX9_cut_35 : decode cX9_cut 35 = .ok (.getfield 126, 3) := by decide +kernel
theorem dX9_cut_38 : decode cX9_cut 38 = .ok (.iload_n 1, 1) := by decide +kernel
theorem dX9_cut_39 : decode cX9_cut 39 = .ok (.iastore, 1) := by decide +kernel
theorem dX9_cut_40 : decode cX9_cut 40 = .ok (.aload_n 0, 1) := by decide +kernel
theorem dX9_cut_41 : decode cX9_cut 41 = .ok (.getfield 31, 3) := by decide +kernel
theorem dX9_cut_44 : decode cX9_cut 44 = .ok (.aload_n 0, 1) := by decide +kernel
theorem dX9_cut_45 : decode cX9_cut 45 = .ok (.getfield 126, 3) := by decide +kernel
theorem dX9_cut_48 : decode cX9_cut 48 = .ok (.iconst 1, 1) := by decide +kernel
theorem dX9_cut_49 : decode cX9_cut 49 = .ok (.iload_n 1, 1) := by decide +kernel
theorem dX9_cut_50 : decode cX9_cut 50 = .ok (.ishl, 1) := by decide +kernel
theorem dX9_cut_51 : decode cX9_cut 51 = .ok (.iconst 1, 1) := by decide +kernel
theorem dX9_cut_52 : decode cX9_cut 52 = .ok (.isub, 1) := by decide +kernel
theorem dX9_cut_53 : decode cX9_cut 53 = .ok (.iastore, 1) := by decide +kernel
theorem dX9_cut_54 : decode cX9_cut 54 = .ok (.aload_n 0, 1) := by decide +kernel
theorem dX9_cut_55 : decode cX9_cut 55 = .ok (.getfield 37, 3) := by decide +kernel
theorem dX9_cut_58 : decode cX9_cut 58 = .ok (.aload_n 0, 1) := by decide +kernel
theorem dX9_cut_59 : decode cX9_cut 59 = .ok (.getfield 126, 3) := by decide +kernel
theorem dX9_cut_62 : decode cX9_cut 62 = .ok (.iconst 0, 1) := by decide +kernel
theorem dX9_cut_63 : decode cX9_cut 63 = .ok (.iastore, 1) := by decide +kernel
theorem dX9_cut_64 : decode cX9_cut 64 = .ok (.iconst 0, 1) := by decide +kernel
theorem dX9_cut_65 : decode cX9_cut 65 = .ok (.istore_n 2, 1) := by decide +kernel
theorem dX9_cut_66 : decode cX9_cut 66 = .ok (.iload_n 2, 1) := by decide +kernel
theorem dX9_cut_67 : decode cX9_cut 67 = .ok (.bipush 16, 2) := by decide +kernel
theorem dX9_cut_69 : decode cX9_cut 69 = .ok (.if_icmp .ge 29, 3) := by decide +kernel
theorem dX9_cut_72 : decode cX9_cut 72 = .ok (.aload_n 0, 1) := by decide +kernel
theorem dX9_cut_73 : decode cX9_cut 73 = .ok (.getfield 34, 3) := by decide +kernel
theorem dX9_cut_76 : decode cX9_cut 76 = .ok (.bipush 16, 2) := by decide +kernel
theorem dX9_cut_78 : decode cX9_cut 78 = .ok (.aload_n 0, 1) := by decide +kernel
theorem dX9_cut_79 : decode cX9_cut 79 = .ok (.getfield 126, 3) := by decide +kernel
theorem dX9_cut_82 : decode cX9_cut 82 = .ok (.imul, 1) := by decide +kernel
theorem dX9_cut_83 : decode cX9_cut 83 = .ok (.iload_n 2, 1) := by decide +kernel
theorem dX9_cut_84 : decode cX9_cut 84 = .ok (.iadd, 1) := by decide +kernel
theorem dX9_cut_85 : decode cX9_cut 85 = .ok (.aload_n 0, 1) := by decide +kernel
theorem dX9_cut_86 : decode cX9_cut 86 = .ok (.iload_n 1, 1) := by decide +kernel
theorem dX9_cut_87 : decode cX9_cut 87 = .ok (.iload_n 2, 1) := by decide +kernel
theorem dX9_cut_88 : decode cX9_cut 88 = .ok (.invokevirtual 260, 3) := by decide +kernel
theorem dX9_cut_91 : decode cX9_cut 91 = .ok (.iastore, 1) := by decide +kernel
theorem dX9_cut_92 : decode cX9_cut 92 = .ok (.iinc 2 1, 3) := by decide +kernel
theorem dX9_cut_95 : decode cX9_cut 95 = .ok (.goto (-29), 3) := by decide +kernel
theorem dX9_cut_98 : decode cX9_cut 98 = .ok (.aload_n 0, 1) := by decide +kernel
theorem dX9_cut_99 : decode cX9_cut 99 = .ok (.dup, 1) := by decide +kernel
theorem dX9_cut_100 : decode cX9_cut 100 = .ok (.getfield 126, 3) := by decide +kernel
theorem dX9_cut_103 : decode cX9_cut 103 = .ok (.iconst 1, 1) := by decide +kernel
theorem dX9_cut_104 : decode cX9_cut 104 = .ok (.iadd, 1) := by decide +kernel
theorem dX9_cut_105 : decode cX9_cut 105 = .ok (.putfield 126, 3) := by decide +kernel
theorem dX9_cut_108 : decode cX9_cut 108 = .ok (.aload_n 0, 1) := by decide +kernel
theorem dX9_cut_109 : decode cX9_cut 109 = .ok (.getfield 126, 3) := by decide +kernel
theorem dX9_cut_112 : decode cX9_cut 112 = .ok (.iconst 1, 1) := by decide +kernel
theorem dX9_cut_113 : decode cX9_cut 113 = .ok (.isub, 1) := by decide +kernel
theorem dX9_cut_114 : decode cX9_cut 114 = .ok (.ireturn, 1) := by decide +kernel
theorem dX9_line_0 : decode cX9_line 0 = .ok (.aload_n 0, 1) := by decide +kernel
theorem dX9_line_1 : decode cX9_line 1 = .ok (.iload_n 1, 1) := by decide +kernel
theorem dX9_line_2 : decode cX9_line 2 = .ok (.invokevirtual 266, 3) := by decide +kernel
theorem dX9_line_5 : decode cX9_line 5 = .ok (.ifCond .ne 7, 3) := by decide +kernel
theorem dX9_line_8 : decode cX9_line 8 = .ok (.sipush (-1001), 3) := by decide +kernel
theorem dX9_line_11 : decode cX9_line 11 = .ok (.ireturn, 1) := by decide +kernel
theorem dX9_line_12 : decode cX9_line 12 = .ok (.iload_n 2, 1) := by decide +kernel
theorem dX9_line_13 : decode cX9_line 13 = .ok (.tableswitch 78 0 4 #[35, 42, 49, 60, 71], 35) := by decide +kernel
theorem dX9_line_48 : decode cX9_line 48 = .ok (.aload_n 0, 1) := by decide +kernel
theorem dX9_line_49 : decode cX9_line 49 = .ok (.getfield 28, 3) := by decide +kernel
theorem dX9_line_52 : decode cX9_line 52 = .ok (.iload_n 1, 1) := by decide +kernel
theorem dX9_line_53 : decode cX9_line 53 = .ok (.iaload, 1) := by decide +kernel
theorem dX9_line_54 : decode cX9_line 54 = .ok (.ireturn, 1) := by decide +kernel
theorem dX9_line_55 : decode cX9_line 55 = .ok (.aload_n 0, 1) := by decide +kernel
theorem dX9_line_56 : decode cX9_line 56 = .ok (.getfield 31, 3) := by decide +kernel
theorem dX9_line_59 : decode cX9_line 59 = .ok (.iload_n 1, 1) := by decide +kernel
theorem dX9_line_60 : decode cX9_line 60 = .ok (.iaload, 1) := by decide +kernel
theorem dX9_line_61 : decode cX9_line 61 = .ok (.ireturn, 1) := by decide +kernel
theorem dX9_line_62 : decode cX9_line 62 = .ok (.aload_n 0, 1) := by decide +kernel
theorem dX9_line_63 : decode cX9_line 63 = .ok (.aload_n 0, 1) := by decide +kernel
theorem dX9_line_64 : decode cX9_line 64 = .ok (.getfield 31, 3) := by decide +kernel
theorem dX9_line_67 : decode cX9_line 67 = .ok (.iload_n 1, 1) := by decide +kernel
theorem dX9_line_68 : decode cX9_line 68 = .ok (.iaload, 1) := by decide +kernel
theorem dX9_line_69 : decode cX9_line 69 = .ok (.invokevirtual 269, 3) := by decide +kernel
theorem dX9_line_72 : decode cX9_line 72 = .ok (.ireturn, 1) := by decide +kernel
theorem dX9_line_73 : decode cX9_line 73 = .ok (.aload_n 0, 1) := by decide +kernel
theorem dX9_line_74 : decode cX9_line 74 = .ok (.aload_n 0, 1) := by decide +kernel
theorem dX9_line_75 : decode cX9_line 75 = .ok (.getfield 31, 3) := by decide +kernel
theorem dX9_line_78 : decode cX9_line 78 = .ok (.iload_n 1, 1) := by decide +kernel
theorem dX9_line_79 : decode cX9_line 79 = .ok (.iaload, 1) := by decide +kernel
theorem dX9_line_80 : decode cX9_line 80 = .ok (.invokevirtual 272, 3) := by decide +kernel
theorem dX9_line_83 : decode cX9_line 83 = .ok (.ireturn, 1) := by decide +kernel
theorem dX9_line_84 : decode cX9_line 84 = .ok (.aload_n 0, 1) := by decide +kernel
theorem dX9_line_85 : decode cX9_line 85 = .ok (.getfield 37, 3) := by decide +kernel
theorem dX9_line_88 : decode cX9_line 88 = .ok (.iload_n 1, 1) := by decide +kernel
theorem dX9_line_89 : decode cX9_line 89 = .ok (.iaload, 1) := by decide +kernel
theorem dX9_line_90 : decode cX9_line 90 = .ok (.ireturn, 1) := by decide +kernel
theorem dX9_line_91 : decode cX9_line 91 = .ok (.sipush (-1002), 3) := by decide +kernel
theorem dX9_line_94 : decode cX9_line 94 = .ok (.ireturn, 1) := by decide +kernel
theorem dX9_value_0 : decode cX9_value 0 = .ok (.aload_n 0, 1) := by decide +kernel
theorem dX9_value_1 : decode cX9_value 1 = .ok (.iload_n 1, 1) := by decide +kernel
theorem dX9_value_2 : decode cX9_value 2 = .ok (.invokevirtual 266, 3) := by decide +kernel
theorem dX9_value_5 : decode cX9_value 5 = .ok (.ifCond .eq 24, 3) := by decide +kernel
theorem dX9_value_8 : decode cX9_value 8 = .ok (.iload_n 2, 1) := by decide +kernel
theorem dX9_value_9 : decode cX9_value 9 = .ok (.invokestatic 254, 3) := by decide +kernel
theorem dX9_value_12 : decode cX9_value 12 = .ok (.ifCond .eq 17, 3) := by decide +kernel
theorem dX9_value_15 : decode cX9_value 15 = .ok (.aload_n 0, 1) := by decide +kernel
theorem dX9_value_16 : decode cX9_value 16 = .ok (.getfield 34, 3) := by decide +kernel
theorem dX9_value_19 : decode cX9_value 19 = .ok (.bipush 16, 2) := by decide +kernel
theorem dX9_value_21 : decode cX9_value 21 = .ok (.iload_n 1, 1) := by decide +kernel
theorem dX9_value_22 : decode cX9_value 22 = .ok (.imul, 1) := by decide +kernel
theorem dX9_value_23 : decode cX9_value 23 = .ok (.iload_n 2, 1) := by decide +kernel
theorem dX9_value_24 : decode cX9_value 24 = .ok (.iadd, 1) := by decide +kernel
theorem dX9_value_25 : decode cX9_value 25 = .ok (.iaload, 1) := by decide +kernel
theorem dX9_value_26 : decode cX9_value 26 = .ok (.goto 6, 3) := by decide +kernel
theorem dX9_value_29 : decode cX9_value 29 = .ok (.sipush (-1001), 3) := by decide +kernel
theorem dX9_value_32 : decode cX9_value 32 = .ok (.ireturn, 1) := by decide +kernel
theorem dX9_tryLine_0 : decode cX9_tryLine 0 = .ok (.iconst 0, 1) := by decide +kernel
theorem dX9_tryLine_1 : decode cX9_tryLine 1 = .ok (.istore_n 2, 1) := by decide +kernel
theorem dX9_tryLine_2 : decode cX9_tryLine 2 = .ok (.iload_n 2, 1) := by decide +kernel
theorem dX9_tryLine_3 : decode cX9_tryLine 3 = .ok (.bipush 16, 2) := by decide +kernel
theorem dX9_tryLine_5 : decode cX9_tryLine 5 = .ok (.if_icmp .ge 26, 3) := by decide +kernel
theorem dX9_tryLine_8 : decode cX9_tryLine 8 = .ok (.aload_n 0, 1) := by decide +kernel
theorem dX9_tryLine_9 : decode cX9_tryLine 9 = .ok (.getfield 80, 3) := by decide +kernel
theorem dX9_tryLine_12 : decode cX9_tryLine 12 = .ok (.iload_n 2, 1) := by decide +kernel
theorem dX9_tryLine_13 : decode cX9_tryLine 13 = .ok (.aload_n 0, 1) := by decide +kernel
theorem dX9_tryLine_14 : decode cX9_tryLine 14 = .ok (.getfield 34, 3) := by decide +kernel
theorem dX9_tryLine_17 : decode cX9_tryLine 17 = .ok (.bipush 16, 2) := by decide +kernel
theorem dX9_tryLine_19 : decode cX9_tryLine 19 = .ok (.iload_n 1, 1) := by decide +kernel
theorem dX9_tryLine_20 : decode cX9_tryLine 20 = .ok (.imul, 1) := by decide +kernel
theorem dX9_tryLine_21 : decode cX9_tryLine 21 = .ok (.iload_n 2, 1) := by decide +kernel
theorem dX9_tryLine_22 : decode cX9_tryLine 22 = .ok (.iadd, 1) := by decide +kernel
theorem dX9_tryLine_23 : decode cX9_tryLine 23 = .ok (.iaload, 1) := by decide +kernel
theorem dX9_tryLine_24 : decode cX9_tryLine 24 = .ok (.iastore, 1) := by decide +kernel
theorem dX9_tryLine_25 : decode cX9_tryLine 25 = .ok (.iinc 2 1, 3) := by decide +kernel
theorem dX9_tryLine_28 : decode cX9_tryLine 28 = .ok (.goto (-26), 3) := by decide +kernel
theorem dX9_tryLine_31 : decode cX9_tryLine 31 = .ok (.return_, 1) := by decide +kernel
theorem dX9_clashOf_0 : decode cX9_clashOf 0 = .ok (.aload_n 0, 1) := by decide +kernel
theorem dX9_clashOf_1 : decode cX9_clashOf 1 = .ok (.iload_n 1, 1) := by decide +kernel
theorem dX9_clashOf_2 : decode cX9_clashOf 2 = .ok (.invokevirtual 247, 3) := by decide +kernel
theorem dX9_clashOf_5 : decode cX9_clashOf 5 = .ok (.aload_n 0, 1) := by decide +kernel
theorem dX9_clashOf_6 : decode cX9_clashOf 6 = .ok (.getfield 13, 3) := by decide +kernel
theorem dX9_clashOf_9 : decode cX9_clashOf 9 = .ok (.iload_n 1, 1) := by decide +kernel
theorem dX9_clashOf_10 : decode cX9_clashOf 10 = .ok (.iaload, 1) := by decide +kernel
theorem dX9_clashOf_11 : decode cX9_clashOf 11 = .ok (.ior, 1) := by decide +kernel
theorem dX9_clashOf_12 : decode cX9_clashOf 12 = .ok (.istore_n 2, 1) := by decide +kernel
theorem dX9_clashOf_13 : decode cX9_clashOf 13 = .ok (.iconst 0, 1) := by decide +kernel
theorem dX9_clashOf_14 : decode cX9_clashOf 14 = .ok (.istore_n 3, 1) := by decide +kernel
theorem dX9_clashOf_15 : decode cX9_clashOf 15 = .ok (.iconst 0, 1) := by decide +kernel
theorem dX9_clashOf_16 : decode cX9_clashOf 16 = .ok (.istore 4, 2) := by decide +kernel
theorem dX9_clashOf_18 : decode cX9_clashOf 18 = .ok (.iload 4, 2) := by decide +kernel
theorem dX9_clashOf_20 : decode cX9_clashOf 20 = .ok (.bipush 16, 2) := by decide +kernel
theorem dX9_clashOf_22 : decode cX9_clashOf 22 = .ok (.if_icmp .ge 46, 3) := by decide +kernel
theorem dX9_clashOf_25 : decode cX9_clashOf 25 = .ok (.iload_n 3, 1) := by decide +kernel
theorem dX9_clashOf_26 : decode cX9_clashOf 26 = .ok (.iload_n 2, 1) := by decide +kernel
theorem dX9_clashOf_27 : decode cX9_clashOf 27 = .ok (.iload 4, 2) := by decide +kernel
theorem dX9_clashOf_29 : decode cX9_clashOf 29 = .ok (.invokestatic 190, 3) := by decide +kernel
theorem dX9_clashOf_32 : decode cX9_clashOf 32 = .ok (.ifCond .eq 27, 3) := by decide +kernel
theorem dX9_clashOf_35 : decode cX9_clashOf 35 = .ok (.aload_n 0, 1) := by decide +kernel
theorem dX9_clashOf_36 : decode cX9_clashOf 36 = .ok (.getfield 80, 3) := by decide +kernel
theorem dX9_clashOf_39 : decode cX9_clashOf 39 = .ok (.iload 4, 2) := by decide +kernel
theorem dX9_clashOf_41 : decode cX9_clashOf 41 = .ok (.iaload, 1) := by decide +kernel
theorem dX9_clashOf_42 : decode cX9_clashOf 42 = .ok (.aload_n 0, 1) := by decide +kernel
theorem dX9_clashOf_43 : decode cX9_clashOf 43 = .ok (.iload_n 1, 1) := by decide +kernel
theorem dX9_clashOf_44 : decode cX9_clashOf 44 = .ok (.iload 4, 2) := by decide +kernel
theorem dX9_clashOf_46 : decode cX9_clashOf 46 = .ok (.invokevirtual 260, 3) := by decide +kernel
theorem dX9_clashOf_49 : decode cX9_clashOf 49 = .ok (.if_icmp .eq 10, 3) := by decide +kernel
theorem dX9_clashOf_52 : decode cX9_clashOf 52 = .ok (.iconst 1, 1) := by decide +kernel
theorem dX9_clashOf_53 : decode cX9_clashOf 53 = .ok (.iload 4, 2) := by decide +kernel
theorem dX9_clashOf_55 : decode cX9_clashOf 55 = .ok (.ishl, 1) := by decide +kernel
theorem dX9_clashOf_56 : decode cX9_clashOf 56 = .ok (.goto 4, 3) := by decide +kernel
theorem dX9_clashOf_59 : decode cX9_clashOf 59 = .ok (.iconst 0, 1) := by decide +kernel
theorem dX9_clashOf_60 : decode cX9_clashOf 60 = .ok (.ior, 1) := by decide +kernel
theorem dX9_clashOf_61 : decode cX9_clashOf 61 = .ok (.istore_n 3, 1) := by decide +kernel
theorem dX9_clashOf_62 : decode cX9_clashOf 62 = .ok (.iinc 4 1, 3) := by decide +kernel
theorem dX9_clashOf_65 : decode cX9_clashOf 65 = .ok (.goto (-47), 3) := by decide +kernel
theorem dX9_clashOf_68 : decode cX9_clashOf 68 = .ok (.iload_n 3, 1) := by decide +kernel
theorem dX9_clashOf_69 : decode cX9_clashOf 69 = .ok (.ireturn, 1) := by decide +kernel
theorem dX9_goOn_0 : decode cX9_goOn 0 = .ok (.iconst 0, 1) := by decide +kernel
theorem dX9_goOn_1 : decode cX9_goOn 1 = .ok (.istore_n 2, 1) := by decide +kernel
theorem dX9_goOn_2 : decode cX9_goOn 2 = .ok (.iload_n 2, 1) := by decide +kernel
theorem dX9_goOn_3 : decode cX9_goOn 3 = .ok (.bipush 16, 2) := by decide +kernel
theorem dX9_goOn_5 : decode cX9_goOn 5 = .ok (.if_icmp .ge 49, 3) := by decide +kernel
theorem dX9_goOn_8 : decode cX9_goOn 8 = .ok (.aload_n 0, 1) := by decide +kernel
theorem dX9_goOn_9 : decode cX9_goOn 9 = .ok (.getfield 80, 3) := by decide +kernel
theorem dX9_goOn_12 : decode cX9_goOn 12 = .ok (.iload_n 2, 1) := by decide +kernel
theorem dX9_goOn_13 : decode cX9_goOn 13 = .ok (.aload_n 0, 1) := by decide +kernel
theorem dX9_goOn_14 : decode cX9_goOn 14 = .ok (.getfield 7, 3) := by decide +kernel
theorem dX9_goOn_17 : decode cX9_goOn 17 = .ok (.bipush 16, 2) := by decide +kernel
theorem dX9_goOn_19 : decode cX9_goOn 19 = .ok (.iload_n 1, 1) := by decide +kernel
theorem dX9_goOn_20 : decode cX9_goOn 20 = .ok (.imul, 1) := by decide +kernel
theorem dX9_goOn_21 : decode cX9_goOn 21 = .ok (.iload_n 2, 1) := by decide +kernel
theorem dX9_goOn_22 : decode cX9_goOn 22 = .ok (.iadd, 1) := by decide +kernel
theorem dX9_goOn_23 : decode cX9_goOn 23 = .ok (.iaload, 1) := by decide +kernel
theorem dX9_goOn_24 : decode cX9_goOn 24 = .ok (.ifCond .le 17, 3) := by decide +kernel
theorem dX9_goOn_27 : decode cX9_goOn 27 = .ok (.aload_n 0, 1) := by decide +kernel
theorem dX9_goOn_28 : decode cX9_goOn 28 = .ok (.getfield 7, 3) := by decide +kernel
theorem dX9_goOn_31 : decode cX9_goOn 31 = .ok (.bipush 16, 2) := by decide +kernel
theorem dX9_goOn_33 : decode cX9_goOn 33 = .ok (.iload_n 1, 1) := by decide +kernel
theorem dX9_goOn_34 : decode cX9_goOn 34 = .ok (.imul, 1) := by decide +kernel
theorem dX9_goOn_35 : decode cX9_goOn 35 = .ok (.iload_n 2, 1) := by decide +kernel
theorem dX9_goOn_36 : decode cX9_goOn 36 = .ok (.iadd, 1) := by decide +kernel
theorem dX9_goOn_37 : decode cX9_goOn 37 = .ok (.iaload, 1) := by decide +kernel
theorem dX9_goOn_38 : decode cX9_goOn 38 = .ok (.goto 9, 3) := by decide +kernel
theorem dX9_goOn_41 : decode cX9_goOn 41 = .ok (.aload_n 0, 1) := by decide +kernel
theorem dX9_goOn_42 : decode cX9_goOn 42 = .ok (.getfield 80, 3) := by decide +kernel
theorem dX9_goOn_45 : decode cX9_goOn 45 = .ok (.iload_n 2, 1) := by decide +kernel
theorem dX9_goOn_46 : decode cX9_goOn 46 = .ok (.iaload, 1) := by decide +kernel
theorem dX9_goOn_47 : decode cX9_goOn 47 = .ok (.iastore, 1) := by decide +kernel
theorem dX9_goOn_48 : decode cX9_goOn 48 = .ok (.iinc 2 1, 3) := by decide +kernel
theorem dX9_goOn_51 : decode cX9_goOn 51 = .ok (.goto (-49), 3) := by decide +kernel
theorem dX9_goOn_54 : decode cX9_goOn 54 = .ok (.return_, 1) := by decide +kernel
theorem dX9_goAll_0 : decode cX9_goAll 0 = .ok (.iconst 1, 1) := by decide +kernel
theorem dX9_goAll_1 : decode cX9_goAll 1 = .ok (.istore_n 2, 1) := by decide +kernel
theorem dX9_goAll_2 : decode cX9_goAll 2 = .ok (.iconst 0, 1) := by decide +kernel
theorem dX9_goAll_3 : decode cX9_goAll 3 = .ok (.istore_n 3, 1) := by decide +kernel
theorem dX9_goAll_4 : decode cX9_goAll 4 = .ok (.iload_n 3, 1) := by decide +kernel
theorem dX9_goAll_5 : decode cX9_goAll 5 = .ok (.aload_n 0, 1) := by decide +kernel
theorem dX9_goAll_6 : decode cX9_goAll 6 = .ok (.getfield 114, 3) := by decide +kernel
theorem dX9_goAll_9 : decode cX9_goAll 9 = .ok (.if_icmp .ge 40, 3) := by decide +kernel
theorem dX9_goAll_12 : decode cX9_goAll 12 = .ok (.iload_n 2, 1) := by decide +kernel
theorem dX9_goAll_13 : decode cX9_goAll 13 = .ok (.ifCond .eq 36, 3) := by decide +kernel
theorem dX9_goAll_16 : decode cX9_goAll 16 = .ok (.iload_n 1, 1) := by decide +kernel
theorem dX9_goAll_17 : decode cX9_goAll 17 = .ok (.iload_n 3, 1) := by decide +kernel
theorem dX9_goAll_18 : decode cX9_goAll 18 = .ok (.invokestatic 190, 3) := by decide +kernel
theorem dX9_goAll_21 : decode cX9_goAll 21 = .ok (.ifCond .eq 22, 3) := by decide +kernel
theorem dX9_goAll_24 : decode cX9_goAll 24 = .ok (.aload_n 0, 1) := by decide +kernel
theorem dX9_goAll_25 : decode cX9_goAll 25 = .ok (.iload_n 3, 1) := by decide +kernel
theorem dX9_goAll_26 : decode cX9_goAll 26 = .ok (.invokevirtual 275, 3) := by decide +kernel
theorem dX9_goAll_29 : decode cX9_goAll 29 = .ok (.ifCond .ne 7, 3) := by decide +kernel
theorem dX9_goAll_32 : decode cX9_goAll 32 = .ok (.iconst 1, 1) := by decide +kernel
theorem dX9_goAll_33 : decode cX9_goAll 33 = .ok (.goto 4, 3) := by decide +kernel
theorem dX9_goAll_36 : decode cX9_goAll 36 = .ok (.iconst 0, 1) := by decide +kernel
theorem dX9_goAll_37 : decode cX9_goAll 37 = .ok (.istore_n 2, 1) := by decide +kernel
theorem dX9_goAll_38 : decode cX9_goAll 38 = .ok (.aload_n 0, 1) := by decide +kernel
theorem dX9_goAll_39 : decode cX9_goAll 39 = .ok (.iload_n 3, 1) := by decide +kernel
theorem dX9_goAll_40 : decode cX9_goAll 40 = .ok (.invokevirtual 278, 3) := by decide +kernel
theorem dX9_goAll_43 : decode cX9_goAll 43 = .ok (.iinc 3 1, 3) := by decide +kernel
theorem dX9_goAll_46 : decode cX9_goAll 46 = .ok (.goto (-42), 3) := by decide +kernel
theorem dX9_goAll_49 : decode cX9_goAll 49 = .ok (.iload_n 2, 1) := by decide +kernel
theorem dX9_goAll_50 : decode cX9_goAll 50 = .ok (.ireturn, 1) := by decide +kernel
theorem dX9_putLine_0 : decode cX9_putLine 0 = .ok (.iconst 0, 1) := by decide +kernel
theorem dX9_putLine_1 : decode cX9_putLine 1 = .ok (.istore_n 3, 1) := by decide +kernel
theorem dX9_putLine_2 : decode cX9_putLine 2 = .ok (.iload_n 3, 1) := by decide +kernel
theorem dX9_putLine_3 : decode cX9_putLine 3 = .ok (.bipush 16, 2) := by decide +kernel
theorem dX9_putLine_5 : decode cX9_putLine 5 = .ok (.if_icmp .ge 26, 3) := by decide +kernel
theorem dX9_putLine_8 : decode cX9_putLine 8 = .ok (.aload_n 0, 1) := by decide +kernel
theorem dX9_putLine_9 : decode cX9_putLine 9 = .ok (.getfield 34, 3) := by decide +kernel
theorem dX9_putLine_12 : decode cX9_putLine 12 = .ok (.bipush 16, 2) := by decide +kernel
theorem dX9_putLine_14 : decode cX9_putLine 14 = .ok (.iload_n 1, 1) := by decide +kernel
theorem dX9_putLine_15 : decode cX9_putLine 15 = .ok (.imul, 1) := by decide +kernel
theorem dX9_putLine_16 : decode cX9_putLine 16 = .ok (.iload_n 3, 1) := by decide +kernel
theorem dX9_putLine_17 : decode cX9_putLine 17 = .ok (.iadd, 1) := by decide +kernel
theorem dX9_putLine_18 : decode cX9_putLine 18 = .ok (.aload_n 0, 1) := by decide +kernel
theorem dX9_putLine_19 : decode cX9_putLine 19 = .ok (.getfield 80, 3) := by decide +kernel
theorem dX9_putLine_22 : decode cX9_putLine 22 = .ok (.iload_n 3, 1) := by decide +kernel
theorem dX9_putLine_23 : decode cX9_putLine 23 = .ok (.iaload, 1) := by decide +kernel
theorem dX9_putLine_24 : decode cX9_putLine 24 = .ok (.iastore, 1) := by decide +kernel
theorem dX9_putLine_25 : decode cX9_putLine 25 = .ok (.iinc 3 1, 3) := by decide +kernel
theorem dX9_putLine_28 : decode cX9_putLine 28 = .ok (.goto (-26), 3) := by decide +kernel
theorem dX9_putLine_31 : decode cX9_putLine 31 = .ok (.aload_n 0, 1) := by decide +kernel
theorem dX9_putLine_32 : decode cX9_putLine 32 = .ok (.getfield 31, 3) := by decide +kernel
theorem dX9_putLine_35 : decode cX9_putLine 35 = .ok (.iload_n 1, 1) := by decide +kernel
theorem dX9_putLine_36 : decode cX9_putLine 36 = .ok (.dup2, 1) := by decide +kernel
theorem dX9_putLine_37 : decode cX9_putLine 37 = .ok (.iaload, 1) := by decide +kernel
theorem dX9_putLine_38 : decode cX9_putLine 38 = .ok (.iload_n 2, 1) := by decide +kernel
theorem dX9_putLine_39 : decode cX9_putLine 39 = .ok (.ior, 1) := by decide +kernel
theorem dX9_putLine_40 : decode cX9_putLine 40 = .ok (.iastore, 1) := by decide +kernel
theorem dX9_putLine_41 : decode cX9_putLine 41 = .ok (.return_, 1) := by decide +kernel
theorem dX9_clash_0 : decode cX9_clash 0 = .ok (.aload_n 0, 1) := by decide +kernel
theorem dX9_clash_1 : decode cX9_clash 1 = .ok (.iload_n 1, 1) := by decide +kernel
theorem dX9_clash_2 : decode cX9_clash 2 = .ok (.invokevirtual 266, 3) := by decide +kernel
theorem dX9_clash_5 : decode cX9_clash 5 = .ok (.ifCond .eq 11, 3) := by decide +kernel
theorem dX9_clash_8 : decode cX9_clash 8 = .ok (.aload_n 0, 1) := by decide +kernel
theorem dX9_clash_9 : decode cX9_clash 9 = .ok (.iload_n 2, 1) := by decide +kernel
theorem dX9_clash_10 : decode cX9_clash 10 = .ok (.invokevirtual 243, 3) := by decide +kernel
theorem dX9_clash_13 : decode cX9_clash 13 = .ok (.ifCond .ne 7, 3) := by decide +kernel
theorem dX9_clash_16 : decode cX9_clash 16 = .ok (.sipush (-1001), 3) := by decide +kernel
theorem dX9_clash_19 : decode cX9_clash 19 = .ok (.ireturn, 1) := by decide +kernel
theorem dX9_clash_20 : decode cX9_clash 20 = .ok (.aload_n 0, 1) := by decide +kernel
theorem dX9_clash_21 : decode cX9_clash 21 = .ok (.getfield 31, 3) := by decide +kernel
theorem dX9_clash_24 : decode cX9_clash 24 = .ok (.iload_n 1, 1) := by decide +kernel
theorem dX9_clash_25 : decode cX9_clash 25 = .ok (.iaload, 1) := by decide +kernel
theorem dX9_clash_26 : decode cX9_clash 26 = .ok (.iload_n 2, 1) := by decide +kernel
theorem dX9_clash_27 : decode cX9_clash 27 = .ok (.invokestatic 190, 3) := by decide +kernel
theorem dX9_clash_30 : decode cX9_clash 30 = .ok (.ifCond .eq 7, 3) := by decide +kernel
theorem dX9_clash_33 : decode cX9_clash 33 = .ok (.sipush (-1003), 3) := by decide +kernel
theorem dX9_clash_36 : decode cX9_clash 36 = .ok (.ireturn, 1) := by decide +kernel
theorem dX9_clash_37 : decode cX9_clash 37 = .ok (.aload_n 0, 1) := by decide +kernel
theorem dX9_clash_38 : decode cX9_clash 38 = .ok (.iload_n 1, 1) := by decide +kernel
theorem dX9_clash_39 : decode cX9_clash 39 = .ok (.invokevirtual 282, 3) := by decide +kernel
theorem dX9_clash_42 : decode cX9_clash 42 = .ok (.aload_n 0, 1) := by decide +kernel
theorem dX9_clash_43 : decode cX9_clash 43 = .ok (.iload_n 2, 1) := by decide +kernel
theorem dX9_clash_44 : decode cX9_clash 44 = .ok (.invokevirtual 275, 3) := by decide +kernel
theorem dX9_clash_47 : decode cX9_clash 47 = .ok (.ireturn, 1) := by decide +kernel
theorem dX9_pick_0 : decode cX9_pick 0 = .ok (.aload_n 0, 1) := by decide +kernel
theorem dX9_pick_1 : decode cX9_pick 1 = .ok (.iload_n 1, 1) := by decide +kernel
theorem dX9_pick_2 : decode cX9_pick 2 = .ok (.invokevirtual 266, 3) := by decide +kernel
theorem dX9_pick_5 : decode cX9_pick 5 = .ok (.ifCond .eq 11, 3) := by decide +kernel
theorem dX9_pick_8 : decode cX9_pick 8 = .ok (.aload_n 0, 1) := by decide +kernel
theorem dX9_pick_9 : decode cX9_pick 9 = .ok (.iload_n 2, 1) := by decide +kernel
theorem dX9_pick_10 : decode cX9_pick 10 = .ok (.invokevirtual 243, 3) := by decide +kernel
theorem dX9_pick_13 : decode cX9_pick 13 = .ok (.ifCond .ne 7, 3) := by decide +kernel
theorem dX9_pick_16 : decode cX9_pick 16 = .ok (.sipush (-1001), 3) := by decide +kernel
theorem dX9_pick_19 : decode cX9_pick 19 = .ok (.ireturn, 1) := by decide +kernel
theorem dX9_pick_20 : decode cX9_pick 20 = .ok (.aload_n 0, 1) := by decide +kernel
theorem dX9_pick_21 : decode cX9_pick 21 = .ok (.iload_n 1, 1) := by decide +kernel
theorem dX9_pick_22 : decode cX9_pick 22 = .ok (.invokevirtual 282, 3) := by decide +kernel
theorem dX9_pick_25 : decode cX9_pick 25 = .ok (.aload_n 0, 1) := by decide +kernel
theorem dX9_pick_26 : decode cX9_pick 26 = .ok (.getfield 31, 3) := by decide +kernel
theorem dX9_pick_29 : decode cX9_pick 29 = .ok (.iload_n 1, 1) := by decide +kernel
theorem dX9_pick_30 : decode cX9_pick 30 = .ok (.iaload, 1) := by decide +kernel
theorem dX9_pick_31 : decode cX9_pick 31 = .ok (.iload_n 2, 1) := by decide +kernel
theorem dX9_pick_32 : decode cX9_pick 32 = .ok (.invokestatic 190, 3) := by decide +kernel
theorem dX9_pick_35 : decode cX9_pick 35 = .ok (.ifCond .ne 11, 3) := by decide +kernel
theorem dX9_pick_38 : decode cX9_pick 38 = .ok (.aload_n 0, 1) := by decide +kernel
theorem dX9_pick_39 : decode cX9_pick 39 = .ok (.iload_n 2, 1) := by decide +kernel
theorem dX9_pick_40 : decode cX9_pick 40 = .ok (.invokevirtual 275, 3) := by decide +kernel
theorem dX9_pick_43 : decode cX9_pick 43 = .ok (.ifCond .eq 7, 3) := by decide +kernel
theorem dX9_pick_46 : decode cX9_pick 46 = .ok (.sipush (-1003), 3) := by decide +kernel
theorem dX9_pick_49 : decode cX9_pick 49 = .ok (.ireturn, 1) := by decide +kernel
theorem dX9_pick_50 : decode cX9_pick 50 = .ok (.aload_n 0, 1) := by decide +kernel
theorem dX9_pick_51 : decode cX9_pick 51 = .ok (.iload_n 2, 1) := by decide +kernel
theorem dX9_pick_52 : decode cX9_pick 52 = .ok (.invokevirtual 278, 3) := by decide +kernel
theorem dX9_pick_55 : decode cX9_pick 55 = .ok (.aload_n 0, 1) := by decide +kernel
theorem dX9_pick_56 : decode cX9_pick 56 = .ok (.iload_n 1, 1) := by decide +kernel
theorem dX9_pick_57 : decode cX9_pick 57 = .ok (.iconst 1, 1) := by decide +kernel
theorem dX9_pick_58 : decode cX9_pick 58 = .ok (.iload_n 2, 1) := by decide +kernel
theorem dX9_pick_59 : decode cX9_pick 59 = .ok (.ishl, 1) := by decide +kernel
theorem dX9_pick_60 : decode cX9_pick 60 = .ok (.invokevirtual 285, 3) := by decide +kernel
theorem dX9_pick_63 : decode cX9_pick 63 = .ok (.aload_n 0, 1) := by decide +kernel
theorem dX9_pick_64 : decode cX9_pick 64 = .ok (.getfield 31, 3) := by decide +kernel
theorem dX9_pick_67 : decode cX9_pick 67 = .ok (.iload_n 1, 1) := by decide +kernel
theorem dX9_pick_68 : decode cX9_pick 68 = .ok (.iaload, 1) := by decide +kernel
theorem dX9_pick_69 : decode cX9_pick 69 = .ok (.invokestatic 289, 3) := by decide +kernel
theorem dX9_pick_72 : decode cX9_pick 72 = .ok (.ireturn, 1) := by decide +kernel
theorem dX9_undo_0 : decode cX9_undo 0 = .ok (.aload_n 0, 1) := by decide +kernel
theorem dX9_undo_1 : decode cX9_undo 1 = .ok (.iload_n 1, 1) := by decide +kernel
theorem dX9_undo_2 : decode cX9_undo 2 = .ok (.invokevirtual 266, 3) := by decide +kernel
theorem dX9_undo_5 : decode cX9_undo 5 = .ok (.ifCond .eq 11, 3) := by decide +kernel
theorem dX9_undo_8 : decode cX9_undo 8 = .ok (.aload_n 0, 1) := by decide +kernel
theorem dX9_undo_9 : decode cX9_undo 9 = .ok (.iload_n 2, 1) := by decide +kernel
theorem dX9_undo_10 : decode cX9_undo 10 = .ok (.invokevirtual 243, 3) := by decide +kernel
theorem dX9_undo_13 : decode cX9_undo 13 = .ok (.ifCond .ne 7, 3) := by decide +kernel
theorem dX9_undo_16 : decode cX9_undo 16 = .ok (.sipush (-1001), 3) := by decide +kernel
theorem dX9_undo_19 : decode cX9_undo 19 = .ok (.ireturn, 1) := by decide +kernel
theorem dX9_undo_20 : decode cX9_undo 20 = .ok (.aload_n 0, 1) := by decide +kernel
theorem dX9_undo_21 : decode cX9_undo 21 = .ok (.getfield 31, 3) := by decide +kernel
theorem dX9_undo_24 : decode cX9_undo 24 = .ok (.iload_n 1, 1) := by decide +kernel
theorem dX9_undo_25 : decode cX9_undo 25 = .ok (.iaload, 1) := by decide +kernel
theorem dX9_undo_26 : decode cX9_undo 26 = .ok (.iload_n 2, 1) := by decide +kernel
theorem dX9_undo_27 : decode cX9_undo 27 = .ok (.invokestatic 190, 3) := by decide +kernel
theorem dX9_undo_30 : decode cX9_undo 30 = .ok (.istore_n 3, 1) := by decide +kernel
theorem dX9_undo_31 : decode cX9_undo 31 = .ok (.iconst 0, 1) := by decide +kernel
theorem dX9_undo_32 : decode cX9_undo 32 = .ok (.istore 4, 2) := by decide +kernel
theorem dX9_undo_34 : decode cX9_undo 34 = .ok (.iload 4, 2) := by decide +kernel
theorem dX9_undo_36 : decode cX9_undo 36 = .ok (.bipush 16, 2) := by decide +kernel
theorem dX9_undo_38 : decode cX9_undo 38 = .ok (.if_icmp .ge 61, 3) := by decide +kernel
theorem dX9_undo_41 : decode cX9_undo 41 = .ok (.iload_n 3, 1) := by decide +kernel
theorem dX9_undo_42 : decode cX9_undo 42 = .ok (.ifCond .eq 49, 3) := by decide +kernel
theorem dX9_undo_45 : decode cX9_undo 45 = .ok (.aload_n 0, 1) := by decide +kernel
theorem dX9_undo_46 : decode cX9_undo 46 = .ok (.getfield 7, 3) := by decide +kernel
theorem dX9_undo_49 : decode cX9_undo 49 = .ok (.bipush 16, 2) := by decide +kernel
theorem dX9_undo_51 : decode cX9_undo 51 = .ok (.iload_n 2, 1) := by decide +kernel
theorem dX9_undo_52 : decode cX9_undo 52 = .ok (.imul, 1) := by decide +kernel
theorem dX9_undo_53 : decode cX9_undo 53 = .ok (.iload 4, 2) := by decide +kernel
theorem dX9_undo_55 : decode cX9_undo 55 = .ok (.iadd, 1) := by decide +kernel
theorem dX9_undo_56 : decode cX9_undo 56 = .ok (.iaload, 1) := by decide +kernel
theorem dX9_undo_57 : decode cX9_undo 57 = .ok (.ifCond .eq 30, 3) := by decide +kernel
theorem dX9_undo_60 : decode cX9_undo 60 = .ok (.aload_n 0, 1) := by decide +kernel
theorem dX9_undo_61 : decode cX9_undo 61 = .ok (.getfield 34, 3) := by decide +kernel
theorem dX9_undo_64 : decode cX9_undo 64 = .ok (.bipush 16, 2) := by decide +kernel
theorem dX9_undo_66 : decode cX9_undo 66 = .ok (.iload_n 1, 1) := by decide +kernel
theorem dX9_undo_67 : decode cX9_undo 67 = .ok (.imul, 1) := by decide +kernel
theorem dX9_undo_68 : decode cX9_undo 68 = .ok (.iload 4, 2) := by decide +kernel
theorem dX9_undo_70 : decode cX9_undo 70 = .ok (.iadd, 1) := by decide +kernel
theorem dX9_undo_71 : decode cX9_undo 71 = .ok (.iaload, 1) := by decide +kernel
theorem dX9_undo_72 : decode cX9_undo 72 = .ok (.aload_n 0, 1) := by decide +kernel
theorem dX9_undo_73 : decode cX9_undo 73 = .ok (.getfield 7, 3) := by decide +kernel
theorem dX9_undo_76 : decode cX9_undo 76 = .ok (.bipush 16, 2) := by decide +kernel
theorem dX9_undo_78 : decode cX9_undo 78 = .ok (.iload_n 2, 1) := by decide +kernel
theorem dX9_undo_79 : decode cX9_undo 79 = .ok (.imul, 1) := by decide +kernel
theorem dX9_undo_80 : decode cX9_undo 80 = .ok (.iload 4, 2) := by decide +kernel
theorem dX9_undo_82 : decode cX9_undo 82 = .ok (.iadd, 1) := by decide +kernel
theorem dX9_undo_83 : decode cX9_undo 83 = .ok (.iaload, 1) := by decide +kernel
theorem dX9_undo_84 : decode cX9_undo 84 = .ok (.if_icmp .ne 7, 3) := by decide +kernel
theorem dX9_undo_87 : decode cX9_undo 87 = .ok (.iconst 1, 1) := by decide +kernel
theorem dX9_undo_88 : decode cX9_undo 88 = .ok (.goto 4, 3) := by decide +kernel
theorem dX9_undo_91 : decode cX9_undo 91 = .ok (.iconst 0, 1) := by decide +kernel
theorem dX9_undo_92 : decode cX9_undo 92 = .ok (.istore_n 3, 1) := by decide +kernel
theorem dX9_undo_93 : decode cX9_undo 93 = .ok (.iinc 4 1, 3) := by decide +kernel
theorem dX9_undo_96 : decode cX9_undo 96 = .ok (.goto (-62), 3) := by decide +kernel
theorem dX9_undo_99 : decode cX9_undo 99 = .ok (.iload_n 3, 1) := by decide +kernel
theorem dX9_undo_100 : decode cX9_undo 100 = .ok (.ifCond .ne 7, 3) := by decide +kernel
theorem dX9_undo_103 : decode cX9_undo 103 = .ok (.sipush (-1003), 3) := by decide +kernel
theorem dX9_undo_106 : decode cX9_undo 106 = .ok (.ireturn, 1) := by decide +kernel
theorem dX9_undo_107 : decode cX9_undo 107 = .ok (.iconst 0, 1) := by decide +kernel
theorem dX9_undo_108 : decode cX9_undo 108 = .ok (.istore 4, 2) := by decide +kernel
theorem dX9_undo_110 : decode cX9_undo 110 = .ok (.iload 4, 2) := by decide +kernel
theorem dX9_undo_112 : decode cX9_undo 112 = .ok (.bipush 16, 2) := by decide +kernel
theorem dX9_undo_114 : decode cX9_undo 114 = .ok (.if_icmp .ge 58, 3) := by decide +kernel
theorem dX9_undo_117 : decode cX9_undo 117 = .ok (.aload_n 0, 1) := by decide +kernel
theorem dX9_undo_118 : decode cX9_undo 118 = .ok (.getfield 34, 3) := by decide +kernel
theorem dX9_undo_121 : decode cX9_undo 121 = .ok (.bipush 16, 2) := by decide +kernel
theorem dX9_undo_123 : decode cX9_undo 123 = .ok (.iload_n 1, 1) := by decide +kernel
theorem dX9_undo_124 : decode cX9_undo 124 = .ok (.imul, 1) := by decide +kernel
theorem dX9_undo_125 : decode cX9_undo 125 = .ok (.iload 4, 2) := by decide +kernel
theorem dX9_undo_127 : decode cX9_undo 127 = .ok (.iadd, 1) := by decide +kernel
theorem dX9_undo_128 : decode cX9_undo 128 = .ok (.aload_n 0, 1) := by decide +kernel
theorem dX9_undo_129 : decode cX9_undo 129 = .ok (.getfield 7, 3) := by decide +kernel
theorem dX9_undo_132 : decode cX9_undo 132 = .ok (.bipush 16, 2) := by decide +kernel
theorem dX9_undo_134 : decode cX9_undo 134 = .ok (.iload_n 2, 1) := by decide +kernel
theorem dX9_undo_135 : decode cX9_undo 135 = .ok (.imul, 1) := by decide +kernel
theorem dX9_undo_136 : decode cX9_undo 136 = .ok (.iload 4, 2) := by decide +kernel
theorem dX9_undo_138 : decode cX9_undo 138 = .ok (.iadd, 1) := by decide +kernel
theorem dX9_undo_139 : decode cX9_undo 139 = .ok (.iaload, 1) := by decide +kernel
theorem dX9_undo_140 : decode cX9_undo 140 = .ok (.ifCond .ne 18, 3) := by decide +kernel
theorem dX9_undo_143 : decode cX9_undo 143 = .ok (.aload_n 0, 1) := by decide +kernel
theorem dX9_undo_144 : decode cX9_undo 144 = .ok (.getfield 34, 3) := by decide +kernel
theorem dX9_undo_147 : decode cX9_undo 147 = .ok (.bipush 16, 2) := by decide +kernel
theorem dX9_undo_149 : decode cX9_undo 149 = .ok (.iload_n 1, 1) := by decide +kernel
theorem dX9_undo_150 : decode cX9_undo 150 = .ok (.imul, 1) := by decide +kernel
theorem dX9_undo_151 : decode cX9_undo 151 = .ok (.iload 4, 2) := by decide +kernel
theorem dX9_undo_153 : decode cX9_undo 153 = .ok (.iadd, 1) := by decide +kernel
theorem dX9_undo_154 : decode cX9_undo 154 = .ok (.iaload, 1) := by decide +kernel
theorem dX9_undo_155 : decode cX9_undo 155 = .ok (.goto 10, 3) := by decide +kernel
theorem dX9_undo_158 : decode cX9_undo 158 = .ok (.aload_n 0, 1) := by decide +kernel
theorem dX9_undo_159 : decode cX9_undo 159 = .ok (.iload_n 2, 1) := by decide +kernel
theorem dX9_undo_160 : decode cX9_undo 160 = .ok (.iload 4, 2) := by decide +kernel
theorem dX9_undo_162 : decode cX9_undo 162 = .ok (.invokevirtual 260, 3) := by decide +kernel
theorem dX9_undo_165 : decode cX9_undo 165 = .ok (.iastore, 1) := by decide +kernel
theorem dX9_undo_166 : decode cX9_undo 166 = .ok (.iinc 4 1, 3) := by decide +kernel
theorem dX9_undo_169 : decode cX9_undo 169 = .ok (.goto (-59), 3) := by decide +kernel
theorem dX9_undo_172 : decode cX9_undo 172 = .ok (.aload_n 0, 1) := by decide +kernel
theorem dX9_undo_173 : decode cX9_undo 173 = .ok (.getfield 31, 3) := by decide +kernel
theorem dX9_undo_176 : decode cX9_undo 176 = .ok (.iload_n 1, 1) := by decide +kernel
theorem dX9_undo_177 : decode cX9_undo 177 = .ok (.dup2, 1) := by decide +kernel
theorem dX9_undo_178 : decode cX9_undo 178 = .ok (.iaload, 1) := by decide +kernel
theorem dX9_undo_179 : decode cX9_undo 179 = .ok (.iconst 1, 1) := by decide +kernel
theorem dX9_undo_180 : decode cX9_undo 180 = .ok (.iload_n 2, 1) := by decide +kernel
theorem dX9_undo_181 : decode cX9_undo 181 = .ok (.ishl, 1) := by decide +kernel
theorem dX9_undo_182 : decode cX9_undo 182 = .ok (.iconst (-1), 1) := by decide +kernel
theorem dX9_undo_183 : decode cX9_undo 183 = .ok (.ixor, 1) := by decide +kernel
theorem dX9_undo_184 : decode cX9_undo 184 = .ok (.iand, 1) := by decide +kernel
theorem dX9_undo_185 : decode cX9_undo 185 = .ok (.iastore, 1) := by decide +kernel
theorem dX9_undo_186 : decode cX9_undo 186 = .ok (.aload_n 0, 1) := by decide +kernel
theorem dX9_undo_187 : decode cX9_undo 187 = .ok (.getfield 31, 3) := by decide +kernel
theorem dX9_undo_190 : decode cX9_undo 190 = .ok (.iload_n 1, 1) := by decide +kernel
theorem dX9_undo_191 : decode cX9_undo 191 = .ok (.iaload, 1) := by decide +kernel
theorem dX9_undo_192 : decode cX9_undo 192 = .ok (.invokestatic 289, 3) := by decide +kernel
theorem dX9_undo_195 : decode cX9_undo 195 = .ok (.ireturn, 1) := by decide +kernel
theorem dX9_needsOf_0 : decode cX9_needsOf 0 = .ok (.aload_n 0, 1) := by decide +kernel
theorem dX9_needsOf_1 : decode cX9_needsOf 1 = .ok (.getfield 31, 3) := by decide +kernel
theorem dX9_needsOf_4 : decode cX9_needsOf 4 = .ok (.iload_n 1, 1) := by decide +kernel
theorem dX9_needsOf_5 : decode cX9_needsOf 5 = .ok (.iaload, 1) := by decide +kernel
theorem dX9_needsOf_6 : decode cX9_needsOf 6 = .ok (.iload_n 2, 1) := by decide +kernel
theorem dX9_needsOf_7 : decode cX9_needsOf 7 = .ok (.invokestatic 190, 3) := by decide +kernel
theorem dX9_needsOf_10 : decode cX9_needsOf 10 = .ok (.ifCond .eq 5, 3) := by decide +kernel
theorem dX9_needsOf_13 : decode cX9_needsOf 13 = .ok (.iconst (-1), 1) := by decide +kernel
theorem dX9_needsOf_14 : decode cX9_needsOf 14 = .ok (.ireturn, 1) := by decide +kernel
theorem dX9_needsOf_15 : decode cX9_needsOf 15 = .ok (.iconst 0, 1) := by decide +kernel
theorem dX9_needsOf_16 : decode cX9_needsOf 16 = .ok (.istore_n 3, 1) := by decide +kernel
theorem dX9_needsOf_17 : decode cX9_needsOf 17 = .ok (.aload_n 0, 1) := by decide +kernel
theorem dX9_needsOf_18 : decode cX9_needsOf 18 = .ok (.iload_n 1, 1) := by decide +kernel
theorem dX9_needsOf_19 : decode cX9_needsOf 19 = .ok (.invokevirtual 282, 3) := by decide +kernel
theorem dX9_needsOf_22 : decode cX9_needsOf 22 = .ok (.iload_n 2, 1) := by decide +kernel
theorem dX9_needsOf_23 : decode cX9_needsOf 23 = .ok (.istore 4, 2) := by decide +kernel
theorem dX9_needsOf_25 : decode cX9_needsOf 25 = .ok (.iload 4, 2) := by decide +kernel
theorem dX9_needsOf_27 : decode cX9_needsOf 27 = .ok (.ifCond .lt 96, 3) := by decide +kernel
theorem dX9_needsOf_30 : decode cX9_needsOf 30 = .ok (.iload 4, 2) := by decide +kernel
theorem dX9_needsOf_32 : decode cX9_needsOf 32 = .ok (.iload_n 2, 1) := by decide +kernel
theorem dX9_needsOf_33 : decode cX9_needsOf 33 = .ok (.if_icmp .eq 12, 3) := by decide +kernel
theorem dX9_needsOf_36 : decode cX9_needsOf 36 = .ok (.iload_n 3, 1) := by decide +kernel
theorem dX9_needsOf_37 : decode cX9_needsOf 37 = .ok (.iload 4, 2) := by decide +kernel
theorem dX9_needsOf_39 : decode cX9_needsOf 39 = .ok (.invokestatic 190, 3) := by decide +kernel
theorem dX9_needsOf_42 : decode cX9_needsOf 42 = .ok (.ifCond .eq 75, 3) := by decide +kernel
theorem dX9_needsOf_45 : decode cX9_needsOf 45 = .ok (.aload_n 0, 1) := by decide +kernel
theorem dX9_needsOf_46 : decode cX9_needsOf 46 = .ok (.iload 4, 2) := by decide +kernel
theorem dX9_needsOf_48 : decode cX9_needsOf 48 = .ok (.invokevirtual 275, 3) := by decide +kernel
theorem dX9_needsOf_51 : decode cX9_needsOf 51 = .ok (.istore 5, 2) := by decide +kernel
theorem dX9_needsOf_53 : decode cX9_needsOf 53 = .ok (.iconst 0, 1) := by decide +kernel
theorem dX9_needsOf_54 : decode cX9_needsOf 54 = .ok (.istore 6, 2) := by decide +kernel
theorem dX9_needsOf_56 : decode cX9_needsOf 56 = .ok (.iload 6, 2) := by decide +kernel
theorem dX9_needsOf_58 : decode cX9_needsOf 58 = .ok (.bipush 16, 2) := by decide +kernel
theorem dX9_needsOf_60 : decode cX9_needsOf 60 = .ok (.if_icmp .ge 57, 3) := by decide +kernel
theorem dX9_needsOf_63 : decode cX9_needsOf 63 = .ok (.iload 5, 2) := by decide +kernel
theorem dX9_needsOf_65 : decode cX9_needsOf 65 = .ok (.iload 6, 2) := by decide +kernel
theorem dX9_needsOf_67 : decode cX9_needsOf 67 = .ok (.invokestatic 190, 3) := by decide +kernel
theorem dX9_needsOf_70 : decode cX9_needsOf 70 = .ok (.ifCond .eq 41, 3) := by decide +kernel
theorem dX9_needsOf_73 : decode cX9_needsOf 73 = .ok (.aload_n 0, 1) := by decide +kernel
theorem dX9_needsOf_74 : decode cX9_needsOf 74 = .ok (.iload 4, 2) := by decide +kernel
theorem dX9_needsOf_76 : decode cX9_needsOf 76 = .ok (.iload 6, 2) := by decide +kernel
theorem dX9_needsOf_78 : decode cX9_needsOf 78 = .ok (.invokevirtual 257, 3) := by decide +kernel
theorem dX9_needsOf_81 : decode cX9_needsOf 81 = .ok (.istore 7, 2) := by decide +kernel
theorem dX9_needsOf_83 : decode cX9_needsOf 83 = .ok (.iload 7, 2) := by decide +kernel
theorem dX9_needsOf_85 : decode cX9_needsOf 85 = .ok (.ifCond .lt 17, 3) := by decide +kernel
theorem dX9_needsOf_88 : decode cX9_needsOf 88 = .ok (.aload_n 0, 1) := by decide +kernel
theorem dX9_needsOf_89 : decode cX9_needsOf 89 = .ok (.getfield 31, 3) := by decide +kernel
theorem dX9_needsOf_92 : decode cX9_needsOf 92 = .ok (.iload_n 1, 1) := by decide +kernel
theorem dX9_needsOf_93 : decode cX9_needsOf 93 = .ok (.iaload, 1) := by decide +kernel
theorem dX9_needsOf_94 : decode cX9_needsOf 94 = .ok (.iload 7, 2) := by decide +kernel
theorem dX9_needsOf_96 : decode cX9_needsOf 96 = .ok (.invokestatic 190, 3) := by decide +kernel
theorem dX9_needsOf_99 : decode cX9_needsOf 99 = .ok (.ifCond .eq 5, 3) := by decide +kernel
theorem dX9_needsOf_102 : decode cX9_needsOf 102 = .ok (.iconst (-1), 1) := by decide +kernel
theorem dX9_needsOf_103 : decode cX9_needsOf 103 = .ok (.ireturn, 1) := by decide +kernel
theorem dX9_needsOf_104 : decode cX9_needsOf 104 = .ok (.iload_n 3, 1) := by decide +kernel
theorem dX9_needsOf_105 : decode cX9_needsOf 105 = .ok (.iconst 1, 1) := by decide +kernel
theorem dX9_needsOf_106 : decode cX9_needsOf 106 = .ok (.iload 7, 2) := by decide +kernel
theorem dX9_needsOf_108 : decode cX9_needsOf 108 = .ok (.ishl, 1) := by decide +kernel
theorem dX9_needsOf_109 : decode cX9_needsOf 109 = .ok (.ior, 1) := by decide +kernel
theorem dX9_needsOf_110 : decode cX9_needsOf 110 = .ok (.istore_n 3, 1) := by decide +kernel
theorem dX9_needsOf_111 : decode cX9_needsOf 111 = .ok (.iinc 6 1, 3) := by decide +kernel
theorem dX9_needsOf_114 : decode cX9_needsOf 114 = .ok (.goto (-58), 3) := by decide +kernel
theorem dX9_needsOf_117 : decode cX9_needsOf 117 = .ok (.iinc 4 (-1), 3) := by decide +kernel
theorem dX9_needsOf_120 : decode cX9_needsOf 120 = .ok (.goto (-95), 3) := by decide +kernel
theorem dX9_needsOf_123 : decode cX9_needsOf 123 = .ok (.aload_n 0, 1) := by decide +kernel
theorem dX9_needsOf_124 : decode cX9_needsOf 124 = .ok (.iload_n 3, 1) := by decide +kernel
theorem dX9_needsOf_125 : decode cX9_needsOf 125 = .ok (.iconst 1, 1) := by decide +kernel
theorem dX9_needsOf_126 : decode cX9_needsOf 126 = .ok (.iload_n 2, 1) := by decide +kernel
theorem dX9_needsOf_127 : decode cX9_needsOf 127 = .ok (.ishl, 1) := by decide +kernel
theorem dX9_needsOf_128 : decode cX9_needsOf 128 = .ok (.ior, 1) := by decide +kernel
theorem dX9_needsOf_129 : decode cX9_needsOf 129 = .ok (.invokevirtual 292, 3) := by decide +kernel
theorem dX9_needsOf_132 : decode cX9_needsOf 132 = .ok (.ifCond .eq 7, 3) := by decide +kernel
theorem dX9_needsOf_135 : decode cX9_needsOf 135 = .ok (.iload_n 3, 1) := by decide +kernel
theorem dX9_needsOf_136 : decode cX9_needsOf 136 = .ok (.goto 4, 3) := by decide +kernel
theorem dX9_needsOf_139 : decode cX9_needsOf 139 = .ok (.iconst (-1), 1) := by decide +kernel
theorem dX9_needsOf_140 : decode cX9_needsOf 140 = .ok (.ireturn, 1) := by decide +kernel
theorem dX9_needs_0 : decode cX9_needs 0 = .ok (.aload_n 0, 1) := by decide +kernel
theorem dX9_needs_1 : decode cX9_needs 1 = .ok (.iload_n 1, 1) := by decide +kernel
theorem dX9_needs_2 : decode cX9_needs 2 = .ok (.invokevirtual 266, 3) := by decide +kernel
theorem dX9_needs_5 : decode cX9_needs 5 = .ok (.ifCond .eq 20, 3) := by decide +kernel
theorem dX9_needs_8 : decode cX9_needs 8 = .ok (.aload_n 0, 1) := by decide +kernel
theorem dX9_needs_9 : decode cX9_needs 9 = .ok (.iload_n 2, 1) := by decide +kernel
theorem dX9_needs_10 : decode cX9_needs 10 = .ok (.invokevirtual 243, 3) := by decide +kernel
theorem dX9_needs_13 : decode cX9_needs 13 = .ok (.ifCond .eq 12, 3) := by decide +kernel
theorem dX9_needs_16 : decode cX9_needs 16 = .ok (.aload_n 0, 1) := by decide +kernel
theorem dX9_needs_17 : decode cX9_needs 17 = .ok (.iload_n 1, 1) := by decide +kernel
theorem dX9_needs_18 : decode cX9_needs 18 = .ok (.iload_n 2, 1) := by decide +kernel
theorem dX9_needs_19 : decode cX9_needs 19 = .ok (.invokevirtual 295, 3) := by decide +kernel
theorem dX9_needs_22 : decode cX9_needs 22 = .ok (.goto 6, 3) := by decide +kernel
theorem dX9_needs_25 : decode cX9_needs 25 = .ok (.sipush (-1001), 3) := by decide +kernel
theorem dX9_needs_28 : decode cX9_needs 28 = .ok (.ireturn, 1) := by decide +kernel
theorem dX9_carry_0 : decode cX9_carry 0 = .ok (.aload_n 0, 1) := by decide +kernel
theorem dX9_carry_1 : decode cX9_carry 1 = .ok (.iload_n 1, 1) := by decide +kernel
theorem dX9_carry_2 : decode cX9_carry 2 = .ok (.invokevirtual 266, 3) := by decide +kernel
theorem dX9_carry_5 : decode cX9_carry 5 = .ok (.ifCond .eq 11, 3) := by decide +kernel
theorem dX9_carry_8 : decode cX9_carry 8 = .ok (.aload_n 0, 1) := by decide +kernel
theorem dX9_carry_9 : decode cX9_carry 9 = .ok (.iload_n 2, 1) := by decide +kernel
theorem dX9_carry_10 : decode cX9_carry 10 = .ok (.invokevirtual 243, 3) := by decide +kernel
theorem dX9_carry_13 : decode cX9_carry 13 = .ok (.ifCond .ne 7, 3) := by decide +kernel
theorem dX9_carry_16 : decode cX9_carry 16 = .ok (.sipush (-1001), 3) := by decide +kernel
theorem dX9_carry_19 : decode cX9_carry 19 = .ok (.ireturn, 1) := by decide +kernel
theorem dX9_carry_20 : decode cX9_carry 20 = .ok (.aload_n 0, 1) := by decide +kernel
theorem dX9_carry_21 : decode cX9_carry 21 = .ok (.iload_n 1, 1) := by decide +kernel
theorem dX9_carry_22 : decode cX9_carry 22 = .ok (.iload_n 2, 1) := by decide +kernel
theorem dX9_carry_23 : decode cX9_carry 23 = .ok (.invokevirtual 295, 3) := by decide +kernel
theorem dX9_carry_26 : decode cX9_carry 26 = .ok (.istore_n 3, 1) := by decide +kernel
theorem dX9_carry_27 : decode cX9_carry 27 = .ok (.iload_n 3, 1) := by decide +kernel
theorem dX9_carry_28 : decode cX9_carry 28 = .ok (.ifCond .ge 7, 3) := by decide +kernel
theorem dX9_carry_31 : decode cX9_carry 31 = .ok (.sipush (-1003), 3) := by decide +kernel
theorem dX9_carry_34 : decode cX9_carry 34 = .ok (.ireturn, 1) := by decide +kernel
theorem dX9_carry_35 : decode cX9_carry 35 = .ok (.aload_n 0, 1) := by decide +kernel
theorem dX9_carry_36 : decode cX9_carry 36 = .ok (.iload_n 1, 1) := by decide +kernel
theorem dX9_carry_37 : decode cX9_carry 37 = .ok (.iload_n 3, 1) := by decide +kernel
theorem dX9_carry_38 : decode cX9_carry 38 = .ok (.iconst 1, 1) := by decide +kernel
theorem dX9_carry_39 : decode cX9_carry 39 = .ok (.iload_n 2, 1) := by decide +kernel
theorem dX9_carry_40 : decode cX9_carry 40 = .ok (.ishl, 1) := by decide +kernel
theorem dX9_carry_41 : decode cX9_carry 41 = .ok (.ior, 1) := by decide +kernel
theorem dX9_carry_42 : decode cX9_carry 42 = .ok (.invokevirtual 285, 3) := by decide +kernel
theorem dX9_carry_45 : decode cX9_carry 45 = .ok (.iload_n 3, 1) := by decide +kernel
theorem dX9_carry_46 : decode cX9_carry 46 = .ok (.invokestatic 289, 3) := by decide +kernel
theorem dX9_carry_49 : decode cX9_carry 49 = .ok (.iconst 1, 1) := by decide +kernel
theorem dX9_carry_50 : decode cX9_carry 50 = .ok (.iadd, 1) := by decide +kernel
theorem dX9_carry_51 : decode cX9_carry 51 = .ok (.ireturn, 1) := by decide +kernel
theorem dX9_goBoth_0 : decode cX9_goBoth 0 = .ok (.aload_n 0, 1) := by decide +kernel
theorem dX9_goBoth_1 : decode cX9_goBoth 1 = .ok (.iload_n 1, 1) := by decide +kernel
theorem dX9_goBoth_2 : decode cX9_goBoth 2 = .ok (.invokevirtual 282, 3) := by decide +kernel
theorem dX9_goBoth_5 : decode cX9_goBoth 5 = .ok (.aload_n 0, 1) := by decide +kernel
theorem dX9_goBoth_6 : decode cX9_goBoth 6 = .ok (.iload_n 2, 1) := by decide +kernel
theorem dX9_goBoth_7 : decode cX9_goBoth 7 = .ok (.invokevirtual 275, 3) := by decide +kernel
theorem dX9_goBoth_10 : decode cX9_goBoth 10 = .ok (.ifCond .ne 7, 3) := by decide +kernel
theorem dX9_goBoth_13 : decode cX9_goBoth 13 = .ok (.iconst 1, 1) := by decide +kernel
theorem dX9_goBoth_14 : decode cX9_goBoth 14 = .ok (.goto 4, 3) := by decide +kernel
theorem dX9_goBoth_17 : decode cX9_goBoth 17 = .ok (.iconst 0, 1) := by decide +kernel
theorem dX9_goBoth_18 : decode cX9_goBoth 18 = .ok (.istore 4, 2) := by decide +kernel
theorem dX9_goBoth_20 : decode cX9_goBoth 20 = .ok (.aload_n 0, 1) := by decide +kernel
theorem dX9_goBoth_21 : decode cX9_goBoth 21 = .ok (.iload_n 2, 1) := by decide +kernel
theorem dX9_goBoth_22 : decode cX9_goBoth 22 = .ok (.invokevirtual 278, 3) := by decide +kernel
theorem dX9_goBoth_25 : decode cX9_goBoth 25 = .ok (.iload 4, 2) := by decide +kernel
theorem dX9_goBoth_27 : decode cX9_goBoth 27 = .ok (.ifCond .eq 15, 3) := by decide +kernel
theorem dX9_goBoth_30 : decode cX9_goBoth 30 = .ok (.aload_n 0, 1) := by decide +kernel
theorem dX9_goBoth_31 : decode cX9_goBoth 31 = .ok (.iload_n 3, 1) := by decide +kernel
theorem dX9_goBoth_32 : decode cX9_goBoth 32 = .ok (.invokevirtual 275, 3) := by decide +kernel
theorem dX9_goBoth_35 : decode cX9_goBoth 35 = .ok (.ifCond .ne 7, 3) := by decide +kernel
theorem dX9_goBoth_38 : decode cX9_goBoth 38 = .ok (.iconst 1, 1) := by decide +kernel
theorem dX9_goBoth_39 : decode cX9_goBoth 39 = .ok (.goto 4, 3) := by decide +kernel
theorem dX9_goBoth_42 : decode cX9_goBoth 42 = .ok (.iconst 0, 1) := by decide +kernel
theorem dX9_goBoth_43 : decode cX9_goBoth 43 = .ok (.istore 4, 2) := by decide +kernel
theorem dX9_goBoth_45 : decode cX9_goBoth 45 = .ok (.aload_n 0, 1) := by decide +kernel
theorem dX9_goBoth_46 : decode cX9_goBoth 46 = .ok (.iload_n 3, 1) := by decide +kernel
theorem dX9_goBoth_47 : decode cX9_goBoth 47 = .ok (.invokevirtual 278, 3) := by decide +kernel
theorem dX9_goBoth_50 : decode cX9_goBoth 50 = .ok (.iload 4, 2) := by decide +kernel
theorem dX9_goBoth_52 : decode cX9_goBoth 52 = .ok (.ireturn, 1) := by decide +kernel
theorem dX9_apart_0 : decode cX9_apart 0 = .ok (.aload_n 0, 1) := by decide +kernel
theorem dX9_apart_1 : decode cX9_apart 1 = .ok (.iload_n 1, 1) := by decide +kernel
theorem dX9_apart_2 : decode cX9_apart 2 = .ok (.invokevirtual 266, 3) := by decide +kernel
theorem dX9_apart_5 : decode cX9_apart 5 = .ok (.ifCond .eq 24, 3) := by decide +kernel
theorem dX9_apart_8 : decode cX9_apart 8 = .ok (.aload_n 0, 1) := by decide +kernel
theorem dX9_apart_9 : decode cX9_apart 9 = .ok (.iload_n 2, 1) := by decide +kernel
theorem dX9_apart_10 : decode cX9_apart 10 = .ok (.invokevirtual 243, 3) := by decide +kernel
theorem dX9_apart_13 : decode cX9_apart 13 = .ok (.ifCond .eq 16, 3) := by decide +kernel
theorem dX9_apart_16 : decode cX9_apart 16 = .ok (.aload_n 0, 1) := by decide +kernel
theorem dX9_apart_17 : decode cX9_apart 17 = .ok (.iload_n 3, 1) := by decide +kernel
theorem dX9_apart_18 : decode cX9_apart 18 = .ok (.invokevirtual 243, 3) := by decide +kernel
theorem dX9_apart_21 : decode cX9_apart 21 = .ok (.ifCond .eq 8, 3) := by decide +kernel
theorem dX9_apart_24 : decode cX9_apart 24 = .ok (.iload_n 2, 1) := by decide +kernel
theorem dX9_apart_25 : decode cX9_apart 25 = .ok (.iload_n 3, 1) := by decide +kernel
theorem dX9_apart_26 : decode cX9_apart 26 = .ok (.if_icmp .ne 7, 3) := by decide +kernel
theorem dX9_apart_29 : decode cX9_apart 29 = .ok (.sipush (-1001), 3) := by decide +kernel
theorem dX9_apart_32 : decode cX9_apart 32 = .ok (.ireturn, 1) := by decide +kernel
theorem dX9_apart_33 : decode cX9_apart 33 = .ok (.aload_n 0, 1) := by decide +kernel
theorem dX9_apart_34 : decode cX9_apart 34 = .ok (.getfield 31, 3) := by decide +kernel
theorem dX9_apart_37 : decode cX9_apart 37 = .ok (.iload_n 1, 1) := by decide +kernel
theorem dX9_apart_38 : decode cX9_apart 38 = .ok (.iaload, 1) := by decide +kernel
theorem dX9_apart_39 : decode cX9_apart 39 = .ok (.iload_n 2, 1) := by decide +kernel
theorem dX9_apart_40 : decode cX9_apart 40 = .ok (.invokestatic 190, 3) := by decide +kernel
theorem dX9_apart_43 : decode cX9_apart 43 = .ok (.ifCond .ne 16, 3) := by decide +kernel
theorem dX9_apart_46 : decode cX9_apart 46 = .ok (.aload_n 0, 1) := by decide +kernel
theorem dX9_apart_47 : decode cX9_apart 47 = .ok (.getfield 31, 3) := by decide +kernel
theorem dX9_apart_50 : decode cX9_apart 50 = .ok (.iload_n 1, 1) := by decide +kernel
theorem dX9_apart_51 : decode cX9_apart 51 = .ok (.iaload, 1) := by decide +kernel
theorem dX9_apart_52 : decode cX9_apart 52 = .ok (.iload_n 3, 1) := by decide +kernel
theorem dX9_apart_53 : decode cX9_apart 53 = .ok (.invokestatic 190, 3) := by decide +kernel
theorem dX9_apart_56 : decode cX9_apart 56 = .ok (.ifCond .eq 7, 3) := by decide +kernel
theorem dX9_apart_59 : decode cX9_apart 59 = .ok (.sipush (-1003), 3) := by decide +kernel
theorem dX9_apart_62 : decode cX9_apart 62 = .ok (.ireturn, 1) := by decide +kernel
theorem dX9_apart_63 : decode cX9_apart 63 = .ok (.aload_n 0, 1) := by decide +kernel
theorem dX9_apart_64 : decode cX9_apart 64 = .ok (.iload_n 1, 1) := by decide +kernel
theorem dX9_apart_65 : decode cX9_apart 65 = .ok (.iload_n 2, 1) := by decide +kernel
theorem dX9_apart_66 : decode cX9_apart 66 = .ok (.iload_n 3, 1) := by decide +kernel
theorem dX9_apart_67 : decode cX9_apart 67 = .ok (.invokevirtual 298, 3) := by decide +kernel
theorem dX9_apart_70 : decode cX9_apart 70 = .ok (.istore 4, 2) := by decide +kernel
theorem dX9_apart_72 : decode cX9_apart 72 = .ok (.iconst 0, 1) := by decide +kernel
theorem dX9_apart_73 : decode cX9_apart 73 = .ok (.istore 5, 2) := by decide +kernel
theorem dX9_apart_75 : decode cX9_apart 75 = .ok (.iload 5, 2) := by decide +kernel
theorem dX9_apart_77 : decode cX9_apart 77 = .ok (.bipush 16, 2) := by decide +kernel
theorem dX9_apart_79 : decode cX9_apart 79 = .ok (.if_icmp .ge 23, 3) := by decide +kernel
theorem dX9_apart_82 : decode cX9_apart 82 = .ok (.aload_n 0, 1) := by decide +kernel
theorem dX9_apart_83 : decode cX9_apart 83 = .ok (.getfield 83, 3) := by decide +kernel
theorem dX9_apart_86 : decode cX9_apart 86 = .ok (.iload 5, 2) := by decide +kernel
theorem dX9_apart_88 : decode cX9_apart 88 = .ok (.aload_n 0, 1) := by decide +kernel
theorem dX9_apart_89 : decode cX9_apart 89 = .ok (.getfield 80, 3) := by decide +kernel
theorem dX9_apart_92 : decode cX9_apart 92 = .ok (.iload 5, 2) := by decide +kernel
theorem dX9_apart_94 : decode cX9_apart 94 = .ok (.iaload, 1) := by decide +kernel
theorem dX9_apart_95 : decode cX9_apart 95 = .ok (.iastore, 1) := by decide +kernel
theorem dX9_apart_96 : decode cX9_apart 96 = .ok (.iinc 5 1, 3) := by decide +kernel
theorem dX9_apart_99 : decode cX9_apart 99 = .ok (.goto (-24), 3) := by decide +kernel
theorem dX9_apart_102 : decode cX9_apart 102 = .ok (.aload_n 0, 1) := by decide +kernel
theorem dX9_apart_103 : decode cX9_apart 103 = .ok (.iload_n 1, 1) := by decide +kernel
theorem dX9_apart_104 : decode cX9_apart 104 = .ok (.iload_n 3, 1) := by decide +kernel
theorem dX9_apart_105 : decode cX9_apart 105 = .ok (.iload_n 2, 1) := by decide +kernel
theorem dX9_apart_106 : decode cX9_apart 106 = .ok (.invokevirtual 298, 3) := by decide +kernel
theorem dX9_apart_109 : decode cX9_apart 109 = .ok (.ifCond .eq 12, 3) := by decide +kernel
theorem dX9_apart_112 : decode cX9_apart 112 = .ok (.iload 4, 2) := by decide +kernel
theorem dX9_apart_114 : decode cX9_apart 114 = .ok (.ifCond .eq 7, 3) := by decide +kernel
theorem dX9_apart_117 : decode cX9_apart 117 = .ok (.iconst 1, 1) := by decide +kernel
theorem dX9_apart_118 : decode cX9_apart 118 = .ok (.goto 4, 3) := by decide +kernel
theorem dX9_apart_121 : decode cX9_apart 121 = .ok (.iconst 0, 1) := by decide +kernel
theorem dX9_apart_122 : decode cX9_apart 122 = .ok (.istore 4, 2) := by decide +kernel
theorem dX9_apart_124 : decode cX9_apart 124 = .ok (.iconst 0, 1) := by decide +kernel
theorem dX9_apart_125 : decode cX9_apart 125 = .ok (.istore 5, 2) := by decide +kernel
theorem dX9_apart_127 : decode cX9_apart 127 = .ok (.iload 5, 2) := by decide +kernel
theorem dX9_apart_129 : decode cX9_apart 129 = .ok (.bipush 16, 2) := by decide +kernel
theorem dX9_apart_131 : decode cX9_apart 131 = .ok (.if_icmp .ge 38, 3) := by decide +kernel
theorem dX9_apart_134 : decode cX9_apart 134 = .ok (.iload 4, 2) := by decide +kernel
theorem dX9_apart_136 : decode cX9_apart 136 = .ok (.ifCond .eq 24, 3) := by decide +kernel
theorem dX9_apart_139 : decode cX9_apart 139 = .ok (.aload_n 0, 1) := by decide +kernel
theorem dX9_apart_140 : decode cX9_apart 140 = .ok (.getfield 83, 3) := by decide +kernel
theorem dX9_apart_143 : decode cX9_apart 143 = .ok (.iload 5, 2) := by decide +kernel
theorem dX9_apart_145 : decode cX9_apart 145 = .ok (.iaload, 1) := by decide +kernel
theorem dX9_apart_146 : decode cX9_apart 146 = .ok (.aload_n 0, 1) := by decide +kernel
theorem dX9_apart_147 : decode cX9_apart 147 = .ok (.getfield 80, 3) := by decide +kernel
theorem dX9_apart_150 : decode cX9_apart 150 = .ok (.iload 5, 2) := by decide +kernel
theorem dX9_apart_152 : decode cX9_apart 152 = .ok (.iaload, 1) := by decide +kernel
theorem dX9_apart_153 : decode cX9_apart 153 = .ok (.if_icmp .ne 7, 3) := by decide +kernel
theorem dX9_apart_156 : decode cX9_apart 156 = .ok (.iconst 1, 1) := by decide +kernel
theorem dX9_apart_157 : decode cX9_apart 157 = .ok (.goto 4, 3) := by decide +kernel
theorem dX9_apart_160 : decode cX9_apart 160 = .ok (.iconst 0, 1) := by decide +kernel
theorem dX9_apart_161 : decode cX9_apart 161 = .ok (.istore 4, 2) := by decide +kernel
theorem dX9_apart_163 : decode cX9_apart 163 = .ok (.iinc 5 1, 3) := by decide +kernel
theorem dX9_apart_166 : decode cX9_apart 166 = .ok (.goto (-39), 3) := by decide +kernel
theorem dX9_apart_169 : decode cX9_apart 169 = .ok (.iload 4, 2) := by decide +kernel
theorem dX9_apart_171 : decode cX9_apart 171 = .ok (.ifCond .eq 7, 3) := by decide +kernel
theorem dX9_apart_174 : decode cX9_apart 174 = .ok (.iconst 1, 1) := by decide +kernel
theorem dX9_apart_175 : decode cX9_apart 175 = .ok (.goto 4, 3) := by decide +kernel
theorem dX9_apart_178 : decode cX9_apart 178 = .ok (.iconst 0, 1) := by decide +kernel
theorem dX9_apart_179 : decode cX9_apart 179 = .ok (.ireturn, 1) := by decide +kernel
theorem dX9_areFaults_0 : decode cX9_areFaults 0 = .ok (.iload_n 1, 1) := by decide +kernel
theorem dX9_areFaults_1 : decode cX9_areFaults 1 = .ok (.i2l, 1) := by decide +kernel
theorem dX9_areFaults_2 : decode cX9_areFaults 2 = .ok (.lconst 0, 1) := by decide +kernel
theorem dX9_areFaults_3 : decode cX9_areFaults 3 = .ok (.iconst 1, 1) := by decide +kernel
theorem dX9_areFaults_4 : decode cX9_areFaults 4 = .ok (.aload_n 0, 1) := by decide +kernel
theorem dX9_areFaults_5 : decode cX9_areFaults 5 = .ok (.getfield 123, 3) := by decide +kernel
theorem dX9_areFaults_8 : decode cX9_areFaults 8 = .ok (.ishl, 1) := by decide +kernel
theorem dX9_areFaults_9 : decode cX9_areFaults 9 = .ok (.iconst 1, 1) := by decide +kernel
theorem dX9_areFaults_10 : decode cX9_areFaults 10 = .ok (.isub, 1) := by decide +kernel
theorem dX9_areFaults_11 : decode cX9_areFaults 11 = .ok (.i2l, 1) := by decide +kernel
theorem dX9_areFaults_12 : decode cX9_areFaults 12 = .ok (.invokestatic 117, 3) := by decide +kernel
theorem dX9_areFaults_15 : decode cX9_areFaults 15 = .ok (.ireturn, 1) := by decide +kernel
theorem dX9_costOf_0 : decode cX9_costOf 0 = .ok (.iconst 0, 1) := by decide +kernel
theorem dX9_costOf_1 : decode cX9_costOf 1 = .ok (.istore_n 3, 1) := by decide +kernel
theorem dX9_costOf_2 : decode cX9_costOf 2 = .ok (.aload_n 0, 1) := by decide +kernel
theorem dX9_costOf_3 : decode cX9_costOf 3 = .ok (.aload_n 0, 1) := by decide +kernel
theorem dX9_costOf_4 : decode cX9_costOf 4 = .ok (.getfield 31, 3) := by decide +kernel
theorem dX9_costOf_7 : decode cX9_costOf 7 = .ok (.iload_n 1, 1) := by decide +kernel
theorem dX9_costOf_8 : decode cX9_costOf 8 = .ok (.iaload, 1) := by decide +kernel
theorem dX9_costOf_9 : decode cX9_costOf 9 = .ok (.invokevirtual 269, 3) := by decide +kernel
theorem dX9_costOf_12 : decode cX9_costOf 12 = .ok (.istore 4, 2) := by decide +kernel
theorem dX9_costOf_14 : decode cX9_costOf 14 = .ok (.iconst 0, 1) := by decide +kernel
theorem dX9_costOf_15 : decode cX9_costOf 15 = .ok (.istore 5, 2) := by decide +kernel
theorem dX9_costOf_17 : decode cX9_costOf 17 = .ok (.iload 5, 2) := by decide +kernel
theorem dX9_costOf_19 : decode cX9_costOf 19 = .ok (.aload_n 0, 1) := by decide +kernel
theorem dX9_costOf_20 : decode cX9_costOf 20 = .ok (.getfield 123, 3) := by decide +kernel
theorem dX9_costOf_23 : decode cX9_costOf 23 = .ok (.if_icmp .ge 78, 3) := by decide +kernel
theorem dX9_costOf_26 : decode cX9_costOf 26 = .ok (.iload_n 2, 1) := by decide +kernel
theorem dX9_costOf_27 : decode cX9_costOf 27 = .ok (.iload 5, 2) := by decide +kernel
theorem dX9_costOf_29 : decode cX9_costOf 29 = .ok (.invokestatic 190, 3) := by decide +kernel
theorem dX9_costOf_32 : decode cX9_costOf 32 = .ok (.ifCond .eq 63, 3) := by decide +kernel
theorem dX9_costOf_35 : decode cX9_costOf 35 = .ok (.iload 4, 2) := by decide +kernel
theorem dX9_costOf_37 : decode cX9_costOf 37 = .ok (.iload 5, 2) := by decide +kernel
theorem dX9_costOf_39 : decode cX9_costOf 39 = .ok (.invokestatic 190, 3) := by decide +kernel
theorem dX9_costOf_42 : decode cX9_costOf 42 = .ok (.ifCond .eq 28, 3) := by decide +kernel
theorem dX9_costOf_45 : decode cX9_costOf 45 = .ok (.aload_n 0, 1) := by decide +kernel
theorem dX9_costOf_46 : decode cX9_costOf 46 = .ok (.getfield 25, 3) := by decide +kernel
theorem dX9_costOf_49 : decode cX9_costOf 49 = .ok (.iload 5, 2) := by decide +kernel
theorem dX9_costOf_51 : decode cX9_costOf 51 = .ok (.iaload, 1) := by decide +kernel
theorem dX9_costOf_52 : decode cX9_costOf 52 = .ok (.ifCond .lt 18, 3) := by decide +kernel
theorem dX9_costOf_55 : decode cX9_costOf 55 = .ok (.aload_n 0, 1) := by decide +kernel
theorem dX9_costOf_56 : decode cX9_costOf 56 = .ok (.iload_n 1, 1) := by decide +kernel
theorem dX9_costOf_57 : decode cX9_costOf 57 = .ok (.aload_n 0, 1) := by decide +kernel
theorem dX9_costOf_58 : decode cX9_costOf 58 = .ok (.getfield 25, 3) := by decide +kernel
theorem dX9_costOf_61 : decode cX9_costOf 61 = .ok (.iload 5, 2) := by decide +kernel
theorem dX9_costOf_63 : decode cX9_costOf 63 = .ok (.iaload, 1) := by decide +kernel
theorem dX9_costOf_64 : decode cX9_costOf 64 = .ok (.invokevirtual 295, 3) := by decide +kernel
theorem dX9_costOf_67 : decode cX9_costOf 67 = .ok (.goto 4, 3) := by decide +kernel
theorem dX9_costOf_70 : decode cX9_costOf 70 = .ok (.iconst (-1), 1) := by decide +kernel
theorem dX9_costOf_71 : decode cX9_costOf 71 = .ok (.istore 6, 2) := by decide +kernel
theorem dX9_costOf_73 : decode cX9_costOf 73 = .ok (.iload 6, 2) := by decide +kernel
theorem dX9_costOf_75 : decode cX9_costOf 75 = .ok (.ifCond .ge 5, 3) := by decide +kernel
theorem dX9_costOf_78 : decode cX9_costOf 78 = .ok (.iconst (-1), 1) := by decide +kernel
theorem dX9_costOf_79 : decode cX9_costOf 79 = .ok (.ireturn, 1) := by decide +kernel
theorem dX9_costOf_80 : decode cX9_costOf 80 = .ok (.iload_n 3, 1) := by decide +kernel
theorem dX9_costOf_81 : decode cX9_costOf 81 = .ok (.iload 6, 2) := by decide +kernel
theorem dX9_costOf_83 : decode cX9_costOf 83 = .ok (.iconst 1, 1) := by decide +kernel
theorem dX9_costOf_84 : decode cX9_costOf 84 = .ok (.aload_n 0, 1) := by decide +kernel
theorem dX9_costOf_85 : decode cX9_costOf 85 = .ok (.getfield 25, 3) := by decide +kernel
theorem dX9_costOf_88 : decode cX9_costOf 88 = .ok (.iload 5, 2) := by decide +kernel
theorem dX9_costOf_90 : decode cX9_costOf 90 = .ok (.iaload, 1) := by decide +kernel
theorem dX9_costOf_91 : decode cX9_costOf 91 = .ok (.ishl, 1) := by decide +kernel
theorem dX9_costOf_92 : decode cX9_costOf 92 = .ok (.ior, 1) := by decide +kernel
theorem dX9_costOf_93 : decode cX9_costOf 93 = .ok (.ior, 1) := by decide +kernel
theorem dX9_costOf_94 : decode cX9_costOf 94 = .ok (.istore_n 3, 1) := by decide +kernel
theorem dX9_costOf_95 : decode cX9_costOf 95 = .ok (.iinc 5 1, 3) := by decide +kernel
theorem dX9_costOf_98 : decode cX9_costOf 98 = .ok (.goto (-81), 3) := by decide +kernel
theorem dX9_costOf_101 : decode cX9_costOf 101 = .ok (.aload_n 0, 1) := by decide +kernel
theorem dX9_costOf_102 : decode cX9_costOf 102 = .ok (.iload_n 1, 1) := by decide +kernel
theorem dX9_costOf_103 : decode cX9_costOf 103 = .ok (.invokevirtual 282, 3) := by decide +kernel
theorem dX9_costOf_106 : decode cX9_costOf 106 = .ok (.aload_n 0, 1) := by decide +kernel
theorem dX9_costOf_107 : decode cX9_costOf 107 = .ok (.iload_n 3, 1) := by decide +kernel
theorem dX9_costOf_108 : decode cX9_costOf 108 = .ok (.invokevirtual 292, 3) := by decide +kernel
theorem dX9_costOf_111 : decode cX9_costOf 111 = .ok (.ifCond .eq 7, 3) := by decide +kernel
theorem dX9_costOf_114 : decode cX9_costOf 114 = .ok (.iload_n 3, 1) := by decide +kernel
theorem dX9_costOf_115 : decode cX9_costOf 115 = .ok (.goto 4, 3) := by decide +kernel
theorem dX9_costOf_118 : decode cX9_costOf 118 = .ok (.iconst (-1), 1) := by decide +kernel
theorem dX9_costOf_119 : decode cX9_costOf 119 = .ok (.ireturn, 1) := by decide +kernel
theorem dX9_cost_0 : decode cX9_cost 0 = .ok (.aload_n 0, 1) := by decide +kernel
theorem dX9_cost_1 : decode cX9_cost 1 = .ok (.iload_n 1, 1) := by decide +kernel
theorem dX9_cost_2 : decode cX9_cost 2 = .ok (.invokevirtual 266, 3) := by decide +kernel
theorem dX9_cost_5 : decode cX9_cost 5 = .ok (.ifCond .eq 20, 3) := by decide +kernel
theorem dX9_cost_8 : decode cX9_cost 8 = .ok (.aload_n 0, 1) := by decide +kernel
theorem dX9_cost_9 : decode cX9_cost 9 = .ok (.iload_n 2, 1) := by decide +kernel
theorem dX9_cost_10 : decode cX9_cost 10 = .ok (.invokevirtual 302, 3) := by decide +kernel
theorem dX9_cost_13 : decode cX9_cost 13 = .ok (.ifCond .eq 12, 3) := by decide +kernel
theorem dX9_cost_16 : decode cX9_cost 16 = .ok (.aload_n 0, 1) := by decide +kernel
theorem dX9_cost_17 : decode cX9_cost 17 = .ok (.iload_n 1, 1) := by decide +kernel
theorem dX9_cost_18 : decode cX9_cost 18 = .ok (.iload_n 2, 1) := by decide +kernel
theorem dX9_cost_19 : decode cX9_cost 19 = .ok (.invokevirtual 305, 3) := by decide +kernel
theorem dX9_cost_22 : decode cX9_cost 22 = .ok (.goto 6, 3) := by decide +kernel
theorem dX9_cost_25 : decode cX9_cost 25 = .ok (.sipush (-1001), 3) := by decide +kernel
theorem dX9_cost_28 : decode cX9_cost 28 = .ok (.ireturn, 1) := by decide +kernel
theorem dX9_best_0 : decode cX9_best 0 = .ok (.aload_n 0, 1) := by decide +kernel
theorem dX9_best_1 : decode cX9_best 1 = .ok (.iload_n 1, 1) := by decide +kernel
theorem dX9_best_2 : decode cX9_best 2 = .ok (.invokevirtual 266, 3) := by decide +kernel
theorem dX9_best_5 : decode cX9_best 5 = .ok (.ifCond .ne 7, 3) := by decide +kernel
theorem dX9_best_8 : decode cX9_best 8 = .ok (.sipush (-1001), 3) := by decide +kernel
theorem dX9_best_11 : decode cX9_best 11 = .ok (.ireturn, 1) := by decide +kernel
theorem dX9_best_12 : decode cX9_best 12 = .ok (.iload_n 2, 1) := by decide +kernel
theorem dX9_best_13 : decode cX9_best 13 = .ok (.i2l, 1) := by decide +kernel
theorem dX9_best_14 : decode cX9_best 14 = .ok (.lconst 0, 1) := by decide +kernel
theorem dX9_best_15 : decode cX9_best 15 = .ok (.ldc2_w 308, 3) := by decide +kernel
theorem dX9_best_18 : decode cX9_best 18 = .ok (.invokestatic 117, 3) := by decide +kernel
theorem dX9_best_21 : decode cX9_best 21 = .ok (.ifCond .eq 28, 3) := by decide +kernel
theorem dX9_best_24 : decode cX9_best 24 = .ok (.iload_n 3, 1) := by decide +kernel
theorem dX9_best_25 : decode cX9_best 25 = .ok (.i2l, 1) := by decide +kernel
theorem dX9_best_26 : decode cX9_best 26 = .ok (.lconst 0, 1) := by decide +kernel
theorem dX9_best_27 : decode cX9_best 27 = .ok (.ldc2_w 310, 3) := by decide +kernel
theorem dX9_best_30 : decode cX9_best 30 = .ok (.invokestatic 117, 3) := by decide +kernel
theorem dX9_best_33 : decode cX9_best 33 = .ok (.ifCond .eq 16, 3) := by decide +kernel
theorem dX9_best_36 : decode cX9_best 36 = .ok (.iload 4, 2) := by decide +kernel
theorem dX9_best_38 : decode cX9_best 38 = .ok (.i2l, 1) := by decide +kernel
theorem dX9_best_39 : decode cX9_best 39 = .ok (.lconst 0, 1) := by decide +kernel
theorem dX9_best_40 : decode cX9_best 40 = .ok (.ldc2_w 312, 3) := by decide +kernel
theorem dX9_best_43 : decode cX9_best 43 = .ok (.invokestatic 117, 3) := by decide +kernel
theorem dX9_best_46 : decode cX9_best 46 = .ok (.ifCond .ne 7, 3) := by decide +kernel
theorem dX9_best_49 : decode cX9_best 49 = .ok (.sipush (-1002), 3) := by decide +kernel
theorem dX9_best_52 : decode cX9_best 52 = .ok (.ireturn, 1) := by decide +kernel
theorem dX9_best_53 : decode cX9_best 53 = .ok (.iconst 0, 1) := by decide +kernel
theorem dX9_best_54 : decode cX9_best 54 = .ok (.istore 5, 2) := by decide +kernel
theorem dX9_best_56 : decode cX9_best 56 = .ok (.iconst 0, 1) := by decide +kernel
theorem dX9_best_57 : decode cX9_best 57 = .ok (.istore 6, 2) := by decide +kernel
theorem dX9_best_59 : decode cX9_best 59 = .ok (.iconst 1, 1) := by decide +kernel
theorem dX9_best_60 : decode cX9_best 60 = .ok (.istore 7, 2) := by decide +kernel
theorem dX9_best_62 : decode cX9_best 62 = .ok (.iload 7, 2) := by decide +kernel
theorem dX9_best_64 : decode cX9_best 64 = .ok (.iconst 1, 1) := by decide +kernel
theorem dX9_best_65 : decode cX9_best 65 = .ok (.aload_n 0, 1) := by decide +kernel
theorem dX9_best_66 : decode cX9_best 66 = .ok (.getfield 123, 3) := by decide +kernel
theorem dX9_best_69 : decode cX9_best 69 = .ok (.ishl, 1) := by decide +kernel
theorem dX9_best_70 : decode cX9_best 70 = .ok (.if_icmp .ge 115, 3) := by decide +kernel
theorem dX9_best_73 : decode cX9_best 73 = .ok (.aload_n 0, 1) := by decide +kernel
theorem dX9_best_74 : decode cX9_best 74 = .ok (.iload_n 1, 1) := by decide +kernel
theorem dX9_best_75 : decode cX9_best 75 = .ok (.iload 7, 2) := by decide +kernel
theorem dX9_best_77 : decode cX9_best 77 = .ok (.invokevirtual 305, 3) := by decide +kernel
theorem dX9_best_80 : decode cX9_best 80 = .ok (.istore 8, 2) := by decide +kernel
theorem dX9_best_82 : decode cX9_best 82 = .ok (.iload 8, 2) := by decide +kernel
theorem dX9_best_84 : decode cX9_best 84 = .ok (.ifCond .lt 95, 3) := by decide +kernel
theorem dX9_best_87 : decode cX9_best 87 = .ok (.iload 8, 2) := by decide +kernel
theorem dX9_best_89 : decode cX9_best 89 = .ok (.invokestatic 289, 3) := by decide +kernel
theorem dX9_best_92 : decode cX9_best 92 = .ok (.iload_n 2, 1) := by decide +kernel
theorem dX9_best_93 : decode cX9_best 93 = .ok (.if_icmp .gt 86, 3) := by decide +kernel
theorem dX9_best_96 : decode cX9_best 96 = .ok (.aload_n 0, 1) := by decide +kernel
theorem dX9_best_97 : decode cX9_best 97 = .ok (.iload 8, 2) := by decide +kernel
theorem dX9_best_99 : decode cX9_best 99 = .ok (.invokevirtual 272, 3) := by decide +kernel
theorem dX9_best_102 : decode cX9_best 102 = .ok (.iload_n 3, 1) := by decide +kernel
theorem dX9_best_103 : decode cX9_best 103 = .ok (.if_icmp .gt 76, 3) := by decide +kernel
theorem dX9_best_106 : decode cX9_best 106 = .ok (.aload_n 0, 1) := by decide +kernel
theorem dX9_best_107 : decode cX9_best 107 = .ok (.iload 7, 2) := by decide +kernel
theorem dX9_best_109 : decode cX9_best 109 = .ok (.invokevirtual 314, 3) := by decide +kernel
theorem dX9_best_112 : decode cX9_best 112 = .ok (.aload_n 0, 1) := by decide +kernel
theorem dX9_best_113 : decode cX9_best 113 = .ok (.iload 5, 2) := by decide +kernel
theorem dX9_best_115 : decode cX9_best 115 = .ok (.invokevirtual 314, 3) := by decide +kernel
theorem dX9_best_118 : decode cX9_best 118 = .ok (.isub, 1) := by decide +kernel
theorem dX9_best_119 : decode cX9_best 119 = .ok (.istore 9, 2) := by decide +kernel
theorem dX9_best_121 : decode cX9_best 121 = .ok (.iload 9, 2) := by decide +kernel
theorem dX9_best_123 : decode cX9_best 123 = .ok (.ifCond .gt 21, 3) := by decide +kernel
theorem dX9_best_126 : decode cX9_best 126 = .ok (.iload 9, 2) := by decide +kernel
theorem dX9_best_128 : decode cX9_best 128 = .ok (.ifCond .ne 20, 3) := by decide +kernel
theorem dX9_best_131 : decode cX9_best 131 = .ok (.iload 8, 2) := by decide +kernel
theorem dX9_best_133 : decode cX9_best 133 = .ok (.invokestatic 289, 3) := by decide +kernel
theorem dX9_best_136 : decode cX9_best 136 = .ok (.iload 6, 2) := by decide +kernel
theorem dX9_best_138 : decode cX9_best 138 = .ok (.invokestatic 289, 3) := by decide +kernel
theorem dX9_best_141 : decode cX9_best 141 = .ok (.if_icmp .ge 7, 3) := by decide +kernel
theorem dX9_best_144 : decode cX9_best 144 = .ok (.iconst 1, 1) := by decide +kernel
theorem dX9_best_145 : decode cX9_best 145 = .ok (.goto 4, 3) := by decide +kernel
theorem dX9_best_148 : decode cX9_best 148 = .ok (.iconst 0, 1) := by decide +kernel
theorem dX9_best_149 : decode cX9_best 149 = .ok (.istore 10, 2) := by decide +kernel
theorem dX9_best_151 : decode cX9_best 151 = .ok (.iload 10, 2) := by decide +kernel
theorem dX9_best_153 : decode cX9_best 153 = .ok (.ifCond .eq 8, 3) := by decide +kernel
theorem dX9_best_156 : decode cX9_best 156 = .ok (.iload 8, 2) := by decide +kernel
theorem dX9_best_158 : decode cX9_best 158 = .ok (.goto 5, 3) := by decide +kernel
theorem dX9_best_161 : decode cX9_best 161 = .ok (.iload 6, 2) := by decide +kernel
theorem dX9_best_163 : decode cX9_best 163 = .ok (.istore 6, 2) := by decide +kernel
theorem dX9_best_165 : decode cX9_best 165 = .ok (.iload 10, 2) := by decide +kernel
theorem dX9_best_167 : decode cX9_best 167 = .ok (.ifCond .eq 8, 3) := by decide +kernel
theorem dX9_best_170 : decode cX9_best 170 = .ok (.iload 7, 2) := by decide +kernel
theorem dX9_best_172 : decode cX9_best 172 = .ok (.goto 5, 3) := by decide +kernel
theorem dX9_best_175 : decode cX9_best 175 = .ok (.iload 5, 2) := by decide +kernel
theorem dX9_best_177 : decode cX9_best 177 = .ok (.istore 5, 2) := by decide +kernel
theorem dX9_best_179 : decode cX9_best 179 = .ok (.iinc 7 1, 3) := by decide +kernel
theorem dX9_best_182 : decode cX9_best 182 = .ok (.goto (-120), 3) := by decide +kernel
theorem dX9_best_185 : decode cX9_best 185 = .ok (.iload 4, 2) := by decide +kernel
theorem dX9_best_187 : decode cX9_best 187 = .ok (.ifCond .ne 8, 3) := by decide +kernel
theorem dX9_best_190 : decode cX9_best 190 = .ok (.iload 5, 2) := by decide +kernel
theorem dX9_best_192 : decode cX9_best 192 = .ok (.goto 20, 3) := by decide +kernel
theorem dX9_best_195 : decode cX9_best 195 = .ok (.iload 4, 2) := by decide +kernel
theorem dX9_best_197 : decode cX9_best 197 = .ok (.iconst 1, 1) := by decide +kernel
theorem dX9_best_198 : decode cX9_best 198 = .ok (.if_icmp .ne 12, 3) := by decide +kernel
theorem dX9_best_201 : decode cX9_best 201 = .ok (.aload_n 0, 1) := by decide +kernel
theorem dX9_best_202 : decode cX9_best 202 = .ok (.iload 5, 2) := by decide +kernel
theorem dX9_best_204 : decode cX9_best 204 = .ok (.invokevirtual 314, 3) := by decide +kernel
theorem dX9_best_207 : decode cX9_best 207 = .ok (.goto 5, 3) := by decide +kernel
theorem dX9_best_210 : decode cX9_best 210 = .ok (.iload 6, 2) := by decide +kernel
theorem dX9_best_212 : decode cX9_best 212 = .ok (.ireturn, 1) := by decide +kernel
theorem dX9_later_0 : decode cX9_later 0 = .ok (.aload_n 0, 1) := by decide +kernel
theorem dX9_later_1 : decode cX9_later 1 = .ok (.iload_n 1, 1) := by decide +kernel
theorem dX9_later_2 : decode cX9_later 2 = .ok (.invokevirtual 266, 3) := by decide +kernel
theorem dX9_later_5 : decode cX9_later 5 = .ok (.ifCond .ne 7, 3) := by decide +kernel
theorem dX9_later_8 : decode cX9_later 8 = .ok (.sipush (-1001), 3) := by decide +kernel
theorem dX9_later_11 : decode cX9_later 11 = .ok (.ireturn, 1) := by decide +kernel
theorem dX9_later_12 : decode cX9_later 12 = .ok (.iload_n 2, 1) := by decide +kernel
theorem dX9_later_13 : decode cX9_later 13 = .ok (.i2l, 1) := by decide +kernel
theorem dX9_later_14 : decode cX9_later 14 = .ok (.lconst 0, 1) := by decide +kernel
theorem dX9_later_15 : decode cX9_later 15 = .ok (.ldc2_w 308, 3) := by decide +kernel
theorem dX9_later_18 : decode cX9_later 18 = .ok (.invokestatic 117, 3) := by decide +kernel
theorem dX9_later_21 : decode cX9_later 21 = .ok (.ifCond .ne 7, 3) := by decide +kernel
theorem dX9_later_24 : decode cX9_later 24 = .ok (.sipush (-1002), 3) := by decide +kernel
theorem dX9_later_27 : decode cX9_later 27 = .ok (.ireturn, 1) := by decide +kernel
theorem dX9_later_28 : decode cX9_later 28 = .ok (.aload_n 0, 1) := by decide +kernel
theorem dX9_later_29 : decode cX9_later 29 = .ok (.getfield 28, 3) := by decide +kernel
theorem dX9_later_32 : decode cX9_later 32 = .ok (.iload_n 1, 1) := by decide +kernel
theorem dX9_later_33 : decode cX9_later 33 = .ok (.iaload, 1) := by decide +kernel
theorem dX9_later_34 : decode cX9_later 34 = .ok (.iload_n 2, 1) := by decide +kernel
theorem dX9_later_35 : decode cX9_later 35 = .ok (.iadd, 1) := by decide +kernel
theorem dX9_later_36 : decode cX9_later 36 = .ok (.aload_n 0, 1) := by decide +kernel
theorem dX9_later_37 : decode cX9_later 37 = .ok (.getfield 114, 3) := by decide +kernel
theorem dX9_later_40 : decode cX9_later 40 = .ok (.if_icmp .le 10, 3) := by decide +kernel
