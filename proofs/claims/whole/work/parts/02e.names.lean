theorem dX9_ahead_15 : decode cX9_ahead 15 = .ok (.invokestatic 254, 3) := by decide +kernel
theorem dX9_ahead_18 : decode cX9_ahead 18 = .ok (.ifCond .eq 12, 3) := by decide +kernel
theorem dX9_ahead_21 : decode cX9_ahead 21 = .ok (.aload_n 0, 1) := by decide +kernel
theorem dX9_ahead_22 : decode cX9_ahead 22 = .ok (.iload_n 1, 1) := by decide +kernel
theorem dX9_ahead_23 : decode cX9_ahead 23 = .ok (.iload_n 2, 1) := by decide +kernel
theorem dX9_ahead_24 : decode cX9_ahead 24 = .ok (.invokevirtual 260, 3) := by decide +kernel
theorem dX9_ahead_27 : decode cX9_ahead 27 = .ok (.goto 6, 3) := by decide +kernel
theorem dX9_ahead_30 : decode cX9_ahead 30 = .ok (.sipush (-1001), 3) := by decide +kernel
theorem dX9_ahead_33 : decode cX9_ahead 33 = .ok (.ireturn, 1) := by decide +kernel
set_option maxRecDepth 20000 in
theorem ggX9_fault_X9_isFault : GoodIn wsX9_fault wsX9_isFault := goodIn_r _ [8, 9, 10, 11, 7, 12, 13, 14, 15, 16, 17, 18, 19, 20, 21, 22, 23, 24, 25, 26, 27, 28, 29, 30, 31, 32, 33, 34, 35, 36, 37, 38, 39, 40, 41, 42, 43, 44, 45, 46, 47, 48, 49, 50, 51, 52, 53, 54, 55, 56, 57, 58, 59, 60, 61, 62, 63, 64, 65, 66, 67] (by decide +kernel) (by decide +kernel)
set_option maxRecDepth 20000 in
theorem gX9_fault_X9_isFault : GoodIn wsX9_fault (wsV RX9 263 RX9 yX9_isFault wsX9_isFault) := goodIn_app (goodIn_of _ (by decide +kernel)) ggX9_fault_X9_isFault
theorem dX9_fault_0 : decode cX9_fault 0 = .ok (.aload_n 0, 1) := by decide +kernel
theorem dX9_fault_1 : decode cX9_fault 1 = .ok (.iload_n 1, 1) := by decide +kernel
theorem dX9_fault_2 : decode cX9_fault 2 = .ok (.invokevirtual 263, 3) := by decide +kernel
theorem dX9_fault_5 : decode cX9_fault 5 = .ok (.ifCond .ne 7, 3) := by decide +kernel
theorem dX9_fault_8 : decode cX9_fault 8 = .ok (.sipush (-1001), 3) := by decide +kernel
theorem dX9_fault_11 : decode cX9_fault 11 = .ok (.ireturn, 1) := by decide +kernel
theorem dX9_fault_12 : decode cX9_fault 12 = .ok (.iload_n 2, 1) := by decide +kernel
theorem dX9_fault_13 : decode cX9_fault 13 = .ok (.ifCond .ne 12, 3) := by decide +kernel
theorem dX9_fault_16 : decode cX9_fault 16 = .ok (.aload_n 0, 1) := by decide +kernel
theorem dX9_fault_17 : decode cX9_fault 17 = .ok (.getfield 19, 3) := by decide +kernel
theorem dX9_fault_20 : decode cX9_fault 20 = .ok (.iload_n 1, 1) := by decide +kernel
theorem dX9_fault_21 : decode cX9_fault 21 = .ok (.iaload, 1) := by decide +kernel
theorem dX9_fault_22 : decode cX9_fault 22 = .ok (.goto 34, 3) := by decide +kernel
theorem dX9_fault_25 : decode cX9_fault 25 = .ok (.iload_n 2, 1) := by decide +kernel
theorem dX9_fault_26 : decode cX9_fault 26 = .ok (.iconst 1, 1) := by decide +kernel
theorem dX9_fault_27 : decode cX9_fault 27 = .ok (.if_icmp .ne 12, 3) := by decide +kernel
theorem dX9_fault_30 : decode cX9_fault 30 = .ok (.aload_n 0, 1) := by decide +kernel
theorem dX9_fault_31 : decode cX9_fault 31 = .ok (.getfield 22, 3) := by decide +kernel
theorem dX9_fault_34 : decode cX9_fault 34 = .ok (.iload_n 1, 1) := by decide +kernel
theorem dX9_fault_35 : decode cX9_fault 35 = .ok (.iaload, 1) := by decide +kernel
theorem dX9_fault_36 : decode cX9_fault 36 = .ok (.goto 20, 3) := by decide +kernel
theorem dX9_fault_39 : decode cX9_fault 39 = .ok (.iload_n 2, 1) := by decide +kernel
theorem dX9_fault_40 : decode cX9_fault 40 = .ok (.iconst 2, 1) := by decide +kernel
theorem dX9_fault_41 : decode cX9_fault 41 = .ok (.if_icmp .ne 12, 3) := by decide +kernel
theorem dX9_fault_44 : decode cX9_fault 44 = .ok (.aload_n 0, 1) := by decide +kernel
theorem dX9_fault_45 : decode cX9_fault 45 = .ok (.getfield 25, 3) := by decide +kernel
theorem dX9_fault_48 : decode cX9_fault 48 = .ok (.iload_n 1, 1) := by decide +kernel
theorem dX9_fault_49 : decode cX9_fault 49 = .ok (.iaload, 1) := by decide +kernel
theorem dX9_fault_50 : decode cX9_fault 50 = .ok (.goto 6, 3) := by decide +kernel
theorem dX9_fault_53 : decode cX9_fault 53 = .ok (.sipush (-1002), 3) := by decide +kernel
theorem dX9_fault_56 : decode cX9_fault 56 = .ok (.ireturn, 1) := by decide +kernel
theorem dX9_count_0 : decode cX9_count 0 = .ok (.iload_n 1, 1) := by decide +kernel
theorem dX9_count_1 : decode cX9_count 1 = .ok (.tableswitch 60 0 4 #[35, 40, 45, 50, 55], 35) := by decide +kernel
theorem dX9_count_36 : decode cX9_count 36 = .ok (.aload_n 0, 1) := by decide +kernel
theorem dX9_count_37 : decode cX9_count 37 = .ok (.getfield 114, 3) := by decide +kernel
theorem dX9_count_40 : decode cX9_count 40 = .ok (.ireturn, 1) := by decide +kernel
theorem dX9_count_41 : decode cX9_count 41 = .ok (.aload_n 0, 1) := by decide +kernel
theorem dX9_count_42 : decode cX9_count 42 = .ok (.getfield 123, 3) := by decide +kernel
theorem dX9_count_45 : decode cX9_count 45 = .ok (.ireturn, 1) := by decide +kernel
theorem dX9_count_46 : decode cX9_count 46 = .ok (.aload_n 0, 1) := by decide +kernel
theorem dX9_count_47 : decode cX9_count 47 = .ok (.getfield 126, 3) := by decide +kernel
theorem dX9_count_50 : decode cX9_count 50 = .ok (.ireturn, 1) := by decide +kernel
theorem dX9_count_51 : decode cX9_count 51 = .ok (.aload_n 0, 1) := by decide +kernel
theorem dX9_count_52 : decode cX9_count 52 = .ok (.getfield 129, 3) := by decide +kernel
theorem dX9_count_55 : decode cX9_count 55 = .ok (.ireturn, 1) := by decide +kernel
theorem dX9_count_56 : decode cX9_count 56 = .ok (.aload_n 0, 1) := by decide +kernel
theorem dX9_count_57 : decode cX9_count 57 = .ok (.getfield 136, 3) := by decide +kernel
theorem dX9_count_60 : decode cX9_count 60 = .ok (.ireturn, 1) := by decide +kernel
theorem dX9_count_61 : decode cX9_count 61 = .ok (.sipush (-1002), 3) := by decide +kernel
theorem dX9_count_64 : decode cX9_count 64 = .ok (.ireturn, 1) := by decide +kernel
set_option maxRecDepth 20000 in
theorem ggX9_faultsIn_X9_has : GoodIn wsX9_faultsIn wsX9_has := goodIn_r _ [7] (by decide +kernel) (by decide +kernel)
set_option maxRecDepth 20000 in
theorem gX9_faultsIn_X9_has : GoodIn wsX9_faultsIn (va_wsS RX9 190 yX9_has wsX9_has) := goodIn_app (goodIn_of _ (by decide +kernel)) ggX9_faultsIn_X9_has
theorem dX9_faultsIn_0 : decode cX9_faultsIn 0 = .ok (.iconst 0, 1) := by decide +kernel
theorem dX9_faultsIn_1 : decode cX9_faultsIn 1 = .ok (.istore_n 2, 1) := by decide +kernel
theorem dX9_faultsIn_2 : decode cX9_faultsIn 2 = .ok (.iconst 0, 1) := by decide +kernel
theorem dX9_faultsIn_3 : decode cX9_faultsIn 3 = .ok (.istore_n 3, 1) := by decide +kernel
theorem dX9_faultsIn_4 : decode cX9_faultsIn 4 = .ok (.iload_n 3, 1) := by decide +kernel
theorem dX9_faultsIn_5 : decode cX9_faultsIn 5 = .ok (.aload_n 0, 1) := by decide +kernel
theorem dX9_faultsIn_6 : decode cX9_faultsIn 6 = .ok (.getfield 123, 3) := by decide +kernel
theorem dX9_faultsIn_9 : decode cX9_faultsIn 9 = .ok (.if_icmp .ge 66, 3) := by decide +kernel
theorem dX9_faultsIn_12 : decode cX9_faultsIn 12 = .ok (.iload_n 1, 1) := by decide +kernel
theorem dX9_faultsIn_13 : decode cX9_faultsIn 13 = .ok (.aload_n 0, 1) := by decide +kernel
theorem dX9_faultsIn_14 : decode cX9_faultsIn 14 = .ok (.getfield 22, 3) := by decide +kernel
theorem dX9_faultsIn_17 : decode cX9_faultsIn 17 = .ok (.iload_n 3, 1) := by decide +kernel
theorem dX9_faultsIn_18 : decode cX9_faultsIn 18 = .ok (.iaload, 1) := by decide +kernel
theorem dX9_faultsIn_19 : decode cX9_faultsIn 19 = .ok (.invokestatic 190, 3) := by decide +kernel
theorem dX9_faultsIn_22 : decode cX9_faultsIn 22 = .ok (.ifCond .eq 29, 3) := by decide +kernel
theorem dX9_faultsIn_25 : decode cX9_faultsIn 25 = .ok (.aload_n 0, 1) := by decide +kernel
theorem dX9_faultsIn_26 : decode cX9_faultsIn 26 = .ok (.getfield 25, 3) := by decide +kernel
theorem dX9_faultsIn_29 : decode cX9_faultsIn 29 = .ok (.iload_n 3, 1) := by decide +kernel
theorem dX9_faultsIn_30 : decode cX9_faultsIn 30 = .ok (.iaload, 1) := by decide +kernel
theorem dX9_faultsIn_31 : decode cX9_faultsIn 31 = .ok (.ifCond .lt 16, 3) := by decide +kernel
theorem dX9_faultsIn_34 : decode cX9_faultsIn 34 = .ok (.iload_n 1, 1) := by decide +kernel
theorem dX9_faultsIn_35 : decode cX9_faultsIn 35 = .ok (.aload_n 0, 1) := by decide +kernel
theorem dX9_faultsIn_36 : decode cX9_faultsIn 36 = .ok (.getfield 25, 3) := by decide +kernel
theorem dX9_faultsIn_39 : decode cX9_faultsIn 39 = .ok (.iload_n 3, 1) := by decide +kernel
theorem dX9_faultsIn_40 : decode cX9_faultsIn 40 = .ok (.iaload, 1) := by decide +kernel
theorem dX9_faultsIn_41 : decode cX9_faultsIn 41 = .ok (.invokestatic 190, 3) := by decide +kernel
theorem dX9_faultsIn_44 : decode cX9_faultsIn 44 = .ok (.ifCond .ne 7, 3) := by decide +kernel
theorem dX9_faultsIn_47 : decode cX9_faultsIn 47 = .ok (.iconst 1, 1) := by decide +kernel
theorem dX9_faultsIn_48 : decode cX9_faultsIn 48 = .ok (.goto 4, 3) := by decide +kernel
theorem dX9_faultsIn_51 : decode cX9_faultsIn 51 = .ok (.iconst 0, 1) := by decide +kernel
theorem dX9_faultsIn_52 : decode cX9_faultsIn 52 = .ok (.istore 4, 2) := by decide +kernel
theorem dX9_faultsIn_54 : decode cX9_faultsIn 54 = .ok (.iload_n 2, 1) := by decide +kernel
theorem dX9_faultsIn_55 : decode cX9_faultsIn 55 = .ok (.iload 4, 2) := by decide +kernel
theorem dX9_faultsIn_57 : decode cX9_faultsIn 57 = .ok (.ifCond .eq 9, 3) := by decide +kernel
theorem dX9_faultsIn_60 : decode cX9_faultsIn 60 = .ok (.iconst 1, 1) := by decide +kernel
theorem dX9_faultsIn_61 : decode cX9_faultsIn 61 = .ok (.iload_n 3, 1) := by decide +kernel
theorem dX9_faultsIn_62 : decode cX9_faultsIn 62 = .ok (.ishl, 1) := by decide +kernel
theorem dX9_faultsIn_63 : decode cX9_faultsIn 63 = .ok (.goto 4, 3) := by decide +kernel
theorem dX9_faultsIn_66 : decode cX9_faultsIn 66 = .ok (.iconst 0, 1) := by decide +kernel
theorem dX9_faultsIn_67 : decode cX9_faultsIn 67 = .ok (.ior, 1) := by decide +kernel
theorem dX9_faultsIn_68 : decode cX9_faultsIn 68 = .ok (.istore_n 2, 1) := by decide +kernel
theorem dX9_faultsIn_69 : decode cX9_faultsIn 69 = .ok (.iinc 3 1, 3) := by decide +kernel
theorem dX9_faultsIn_72 : decode cX9_faultsIn 72 = .ok (.goto (-68), 3) := by decide +kernel
theorem dX9_faultsIn_75 : decode cX9_faultsIn 75 = .ok (.iload_n 2, 1) := by decide +kernel
theorem dX9_faultsIn_76 : decode cX9_faultsIn 76 = .ok (.ireturn, 1) := by decide +kernel
set_option maxRecDepth 20000 in
theorem ggX9_weightOf_X9_has : GoodIn wsX9_weightOf wsX9_has := goodIn_r _ [6] (by decide +kernel) (by decide +kernel)
set_option maxRecDepth 20000 in
theorem gX9_weightOf_X9_has : GoodIn wsX9_weightOf (va_wsS RX9 190 yX9_has wsX9_has) := goodIn_app (goodIn_of _ (by decide +kernel)) ggX9_weightOf_X9_has
theorem dX9_weightOf_0 : decode cX9_weightOf 0 = .ok (.iconst 0, 1) := by decide +kernel
theorem dX9_weightOf_1 : decode cX9_weightOf 1 = .ok (.istore_n 2, 1) := by decide +kernel
theorem dX9_weightOf_2 : decode cX9_weightOf 2 = .ok (.iconst 0, 1) := by decide +kernel
theorem dX9_weightOf_3 : decode cX9_weightOf 3 = .ok (.istore_n 3, 1) := by decide +kernel
theorem dX9_weightOf_4 : decode cX9_weightOf 4 = .ok (.iload_n 3, 1) := by decide +kernel
theorem dX9_weightOf_5 : decode cX9_weightOf 5 = .ok (.aload_n 0, 1) := by decide +kernel
theorem dX9_weightOf_6 : decode cX9_weightOf 6 = .ok (.getfield 123, 3) := by decide +kernel
theorem dX9_weightOf_9 : decode cX9_weightOf 9 = .ok (.if_icmp .ge 30, 3) := by decide +kernel
theorem dX9_weightOf_12 : decode cX9_weightOf 12 = .ok (.iload_n 2, 1) := by decide +kernel
theorem dX9_weightOf_13 : decode cX9_weightOf 13 = .ok (.iload_n 1, 1) := by decide +kernel
theorem dX9_weightOf_14 : decode cX9_weightOf 14 = .ok (.iload_n 3, 1) := by decide +kernel
theorem dX9_weightOf_15 : decode cX9_weightOf 15 = .ok (.invokestatic 190, 3) := by decide +kernel
theorem dX9_weightOf_18 : decode cX9_weightOf 18 = .ok (.ifCond .eq 12, 3) := by decide +kernel
theorem dX9_weightOf_21 : decode cX9_weightOf 21 = .ok (.aload_n 0, 1) := by decide +kernel
theorem dX9_weightOf_22 : decode cX9_weightOf 22 = .ok (.getfield 19, 3) := by decide +kernel
theorem dX9_weightOf_25 : decode cX9_weightOf 25 = .ok (.iload_n 3, 1) := by decide +kernel
theorem dX9_weightOf_26 : decode cX9_weightOf 26 = .ok (.iaload, 1) := by decide +kernel
theorem dX9_weightOf_27 : decode cX9_weightOf 27 = .ok (.goto 4, 3) := by decide +kernel
theorem dX9_weightOf_30 : decode cX9_weightOf 30 = .ok (.iconst 0, 1) := by decide +kernel
theorem dX9_weightOf_31 : decode cX9_weightOf 31 = .ok (.iadd, 1) := by decide +kernel
theorem dX9_weightOf_32 : decode cX9_weightOf 32 = .ok (.istore_n 2, 1) := by decide +kernel
theorem dX9_weightOf_33 : decode cX9_weightOf 33 = .ok (.iinc 3 1, 3) := by decide +kernel
theorem dX9_weightOf_36 : decode cX9_weightOf 36 = .ok (.goto (-32), 3) := by decide +kernel
theorem dX9_weightOf_39 : decode cX9_weightOf 39 = .ok (.iload_n 2, 1) := by decide +kernel
theorem dX9_weightOf_40 : decode cX9_weightOf 40 = .ok (.ireturn, 1) := by decide +kernel
set_option maxRecDepth 20000 in
theorem ggX9_riskOf_X9_has : GoodIn wsX9_riskOf wsX9_has := goodIn_r _ [6] (by decide +kernel) (by decide +kernel)
set_option maxRecDepth 20000 in
theorem gX9_riskOf_X9_has : GoodIn wsX9_riskOf (va_wsS RX9 190 yX9_has wsX9_has) := goodIn_app (goodIn_of _ (by decide +kernel)) ggX9_riskOf_X9_has
theorem dX9_riskOf_0 : decode cX9_riskOf 0 = .ok (.iconst 0, 1) := by decide +kernel
theorem dX9_riskOf_1 : decode cX9_riskOf 1 = .ok (.istore_n 2, 1) := by decide +kernel
theorem dX9_riskOf_2 : decode cX9_riskOf 2 = .ok (.iconst 0, 1) := by decide +kernel
theorem dX9_riskOf_3 : decode cX9_riskOf 3 = .ok (.istore_n 3, 1) := by decide +kernel
theorem dX9_riskOf_4 : decode cX9_riskOf 4 = .ok (.iload_n 3, 1) := by decide +kernel
theorem dX9_riskOf_5 : decode cX9_riskOf 5 = .ok (.aload_n 0, 1) := by decide +kernel
theorem dX9_riskOf_6 : decode cX9_riskOf 6 = .ok (.getfield 114, 3) := by decide +kernel
theorem dX9_riskOf_9 : decode cX9_riskOf 9 = .ok (.if_icmp .ge 30, 3) := by decide +kernel
theorem dX9_riskOf_12 : decode cX9_riskOf 12 = .ok (.iload_n 2, 1) := by decide +kernel
theorem dX9_riskOf_13 : decode cX9_riskOf 13 = .ok (.iload_n 1, 1) := by decide +kernel
theorem dX9_riskOf_14 : decode cX9_riskOf 14 = .ok (.iload_n 3, 1) := by decide +kernel
theorem dX9_riskOf_15 : decode cX9_riskOf 15 = .ok (.invokestatic 190, 3) := by decide +kernel
theorem dX9_riskOf_18 : decode cX9_riskOf 18 = .ok (.ifCond .eq 12, 3) := by decide +kernel
theorem dX9_riskOf_21 : decode cX9_riskOf 21 = .ok (.aload_n 0, 1) := by decide +kernel
theorem dX9_riskOf_22 : decode cX9_riskOf 22 = .ok (.getfield 16, 3) := by decide +kernel
theorem dX9_riskOf_25 : decode cX9_riskOf 25 = .ok (.iload_n 3, 1) := by decide +kernel
theorem dX9_riskOf_26 : decode cX9_riskOf 26 = .ok (.iaload, 1) := by decide +kernel
theorem dX9_riskOf_27 : decode cX9_riskOf 27 = .ok (.goto 4, 3) := by decide +kernel
theorem dX9_riskOf_30 : decode cX9_riskOf 30 = .ok (.iconst 0, 1) := by decide +kernel
theorem dX9_riskOf_31 : decode cX9_riskOf 31 = .ok (.iadd, 1) := by decide +kernel
theorem dX9_riskOf_32 : decode cX9_riskOf 32 = .ok (.istore_n 2, 1) := by decide +kernel
theorem dX9_riskOf_33 : decode cX9_riskOf 33 = .ok (.iinc 3 1, 3) := by decide +kernel
theorem dX9_riskOf_36 : decode cX9_riskOf 36 = .ok (.goto (-32), 3) := by decide +kernel
theorem dX9_riskOf_39 : decode cX9_riskOf 39 = .ok (.iload_n 2, 1) := by decide +kernel
theorem dX9_riskOf_40 : decode cX9_riskOf 40 = .ok (.ireturn, 1) := by decide +kernel
set_option maxRecDepth 20000 in
theorem ggX9_cut_X9_in : GoodIn wsX9_cut wsX9_in := goodIn_r _ [10] (by decide +kernel) (by decide +kernel)
set_option maxRecDepth 20000 in
theorem gX9_cut_X9_in : GoodIn wsX9_cut (va_wsS RX9 117 yX9_in wsX9_in) := goodIn_app (goodIn_of _ (by decide +kernel)) ggX9_cut_X9_in
set_option maxRecDepth 20000 in
theorem ggX9_cut_X9_aheadOf : GoodIn wsX9_cut wsX9_aheadOf := goodIn_r _ [14, 15, 16, 17, 18, 19, 20, 21, 22, 23, 24, 25, 26, 27, 28, 29, 30, 31, 32, 33, 34, 35, 36, 37, 38, 39, 40, 41, 42, 43, 44, 45, 46, 47, 48, 49, 50, 51, 52, 53, 54, 55, 56, 57, 58, 59, 60, 61, 62, 63, 64, 65, 66, 67, 68, 69, 70] (by decide +kernel) (by decide +kernel)
set_option maxRecDepth 20000 in
theorem gX9_cut_X9_aheadOf : GoodIn wsX9_cut (wsV RX9 260 RX9 yX9_aheadOf wsX9_aheadOf) := goodIn_app (goodIn_of _ (by decide +kernel)) ggX9_cut_X9_aheadOf
theorem dX9_cut_0 : decode cX9_cut 0 = .ok (.iload_n 1, 1) := by decide +kernel
theorem dX9_cut_1 : decode cX9_cut 1 = .ok (.i2l, 1) := by decide +kernel
theorem dX9_cut_2 : decode cX9_cut 2 = .ok (.lconst 0, 1) := by decide +kernel
theorem dX9_cut_3 : decode cX9_cut 3 = .ok (.aload_n 0, 1) := by decide +kernel
theorem dX9_cut_4 : decode cX9_cut 4 = .ok (.getfield 114, 3) := by decide +kernel
theorem dX9_cut_7 : decode cX9_cut 7 = .ok (.i2l, 1) := by decide +kernel
theorem dX9_cut_8 : decode cX9_cut 8 = .ok (.invokestatic 117, 3) := by decide +kernel
theorem dX9_cut_11 : decode cX9_cut 11 = .ok (.ifCond .ne 7, 3) := by decide +kernel
theorem dX9_cut_14 : decode cX9_cut 14 = .ok (.sipush (-1002), 3) := by decide +kernel
theorem dX9_cut_17 : decode cX9_cut 17 = .ok (.ireturn, 1) := by decide +kernel
theorem dX9_cut_18 : decode cX9_cut 18 = .ok (.aload_n 0, 1) := by decide +kernel
theorem dX9_cut_19 : decode cX9_cut 19 = .ok (.getfield 126, 3) := by decide +kernel
theorem dX9_cut_22 : decode cX9_cut 22 = .ok (.iconst 4, 1) := by decide +kernel
theorem dX9_cut_23 : decode cX9_cut 23 = .ok (.if_icmp .ne 7, 3) := by decide +kernel
theorem dX9_cut_26 : decode cX9_cut 26 = .ok (.sipush (-1004), 3) := by decide +kernel
theorem dX9_cut_29 : decode cX9_cut 29 = .ok (.ireturn, 1) := by decide +kernel
theorem dX9_cut_30 : decode cX9_cut 30 = .ok (.aload_n 0, 1) := by decide +kernel
theorem dX9_cut_31 : decode cX9_cut 31 = .ok (.getfield 28, 3) := by decide +kernel
theorem dX9_cut_34 : decode cX9_cut 34 = .ok (.aload_n 0, 1) := by decide +kernel
theorem dX9_cut_35 : decode cX9_cut 35 = .ok (.getfield 126, 3) := by decide +kernel
theorem dX9_cut_38 : decode cX9_cut 38 = .ok (.iload_n 1, 1) := by decide +kernel
theorem dX9_cut_39 : decode cX9_cut 39 = .ok (.iastore, 1) := by decide +kernel
theorem dX9_cut_40 : decode cX9_cut 40 = .ok (.aload_n 0, 1) := by decide +kernel
theorem dX9_cut_41 : decode cX9_cut 41 = .ok (.getfield 31, 3) := by decide +kernel
theorem dX9_cut_44 : decode cX9_cut 44 = .ok (.aload_n 0, 1) := by decide +kernel
theorem dX9_cut_45 : decode cX9_cut 45 = .ok (.getfield 126, 3) := by decide +kernel
theorem dX9_cut_48 : decode cX9_cut 48 = .ok (.iconst 1, 1) := by decide +kernel
theorem dX9_cut_49 : decode cX9_cut 49 = .ok (.iload_n 1, 1) := by decide +kernel
theorem dX9_cut_50 : decode cX9_cut 50 = .ok (.ishl, 1) := by decide +kernel
theorem dX9_cut_51 : decode cX9_cut 51 = .ok (.iconst 1, 1) := by decide +kernel
theorem dX9_cut_52 : decode cX9_cut 52 = .ok (.isub, 1) := by decide +kernel
theorem dX9_cut_53 : decode cX9_cut 53 = .ok (.iastore, 1) := by decide +kernel
theorem dX9_cut_54 : decode cX9_cut 54 = .ok (.aload_n 0, 1) := by decide +kernel
theorem dX9_cut_55 : decode cX9_cut 55 = .ok (.getfield 37, 3) := by decide +kernel
theorem dX9_cut_58 : decode cX9_cut 58 = .ok (.aload_n 0, 1) := by decide +kernel
theorem dX9_cut_59 : decode cX9_cut 59 = .ok (.getfield 126, 3) := by decide +kernel
theorem dX9_cut_62 : decode cX9_cut 62 = .ok (.iconst 0, 1) := by decide +kernel
theorem dX9_cut_63 : decode cX9_cut 63 = .ok (.iastore, 1) := by decide +kernel
theorem dX9_cut_64 : decode cX9_cut 64 = .ok (.iconst 0, 1) := by decide +kernel
theorem dX9_cut_65 : decode cX9_cut 65 = .ok (.istore_n 2, 1) := by decide +kernel
theorem dX9_cut_66 : decode cX9_cut 66 = .ok (.iload_n 2, 1) := by decide +kernel
theorem dX9_cut_67 : decode cX9_cut 67 = .ok (.bipush 16, 2) := by decide +kernel
theorem dX9_cut_69 : decode cX9_cut 69 = .ok (.if_icmp .ge 29, 3) := by decide +kernel
theorem dX9_cut_72 : decode cX9_cut 72 = .ok (.aload_n 0, 1) := by decide +kernel
theorem dX9_cut_73 : decode cX9_cut 73 = .ok (.getfield 34, 3) := by decide +kernel
theorem dX9_cut_76 : decode cX9_cut 76 = .ok (.bipush 16, 2) := by decide +kernel
theorem dX9_cut_78 : decode cX9_cut 78 = .ok (.aload_n 0, 1) := by decide +kernel
theorem dX9_cut_79 : decode cX9_cut 79 = .ok (.getfield 126, 3) := by decide +kernel
theorem dX9_cut_82 : decode cX9_cut 82 = .ok (.imul, 1) := by decide +kernel
theorem dX9_cut_83 : decode cX9_cut 83 = .ok (.iload_n 2, 1) := by decide +kernel
theorem dX9_cut_84 : decode cX9_cut 84 = .ok (.iadd, 1) := by decide +kernel
theorem dX9_cut_85 : decode cX9_cut 85 = .ok (.aload_n 0, 1) := by decide +kernel
theorem dX9_cut_86 : decode cX9_cut 86 = .ok (.iload_n 1, 1) := by decide +kernel
theorem dX9_cut_87 : decode cX9_cut 87 = .ok (.iload_n 2, 1) := by decide +kernel
theorem dX9_cut_88 : decode cX9_cut 88 = .ok (.invokevirtual 260, 3) := by decide +kernel
theorem dX9_cut_91 : decode cX9_cut 91 = .ok (.iastore, 1) := by decide +kernel
theorem dX9_cut_92 : decode cX9_cut 92 = .ok (.iinc 2 1, 3) := by decide +kernel
theorem dX9_cut_95 : decode cX9_cut 95 = .ok (.goto (-29), 3) := by decide +kernel
theorem dX9_cut_98 : decode cX9_cut 98 = .ok (.aload_n 0, 1) := by decide +kernel
theorem dX9_cut_99 : decode cX9_cut 99 = .ok (.dup, 1) := by decide +kernel
theorem dX9_cut_100 : decode cX9_cut 100 = .ok (.getfield 126, 3) := by decide +kernel
theorem dX9_cut_103 : decode cX9_cut 103 = .ok (.iconst 1, 1) := by decide +kernel
theorem dX9_cut_104 : decode cX9_cut 104 = .ok (.iadd, 1) := by decide +kernel
theorem dX9_cut_105 : decode cX9_cut 105 = .ok (.putfield 126, 3) := by decide +kernel
theorem dX9_cut_108 : decode cX9_cut 108 = .ok (.aload_n 0, 1) := by decide +kernel
theorem dX9_cut_109 : decode cX9_cut 109 = .ok (.getfield 126, 3) := by decide +kernel
theorem dX9_cut_112 : decode cX9_cut 112 = .ok (.iconst 1, 1) := by decide +kernel
theorem dX9_cut_113 : decode cX9_cut 113 = .ok (.isub, 1) := by decide +kernel
theorem dX9_cut_114 : decode cX9_cut 114 = .ok (.ireturn, 1) := by decide +kernel
set_option maxRecDepth 20000 in
theorem ggX9_line_X9_isLine : GoodIn wsX9_line wsX9_isLine := goodIn_r _ [8, 9, 10, 11, 7, 12, 29, 30, 31, 32, 33, 34, 35, 36, 37, 38, 39, 40, 41, 42, 43, 44, 45, 46, 47, 48, 49, 50, 51, 52, 53, 54, 55, 56, 57, 58, 59, 60, 61, 62, 63, 64, 65, 66, 67, 68, 69, 70, 71, 72, 73, 74, 75, 76, 77, 78, 79, 80, 81, 82, 83] (by decide +kernel) (by decide +kernel)
set_option maxRecDepth 20000 in
theorem gX9_line_X9_isLine : GoodIn wsX9_line (wsV RX9 266 RX9 yX9_isLine wsX9_isLine) := goodIn_app (goodIn_of _ (by decide +kernel)) ggX9_line_X9_isLine
set_option maxRecDepth 20000 in
theorem ggX9_line_X9_faultsIn : GoodIn wsX9_line wsX9_faultsIn := goodIn_r _ [16, 17, 18, 19, 20, 21, 7, 22, 29, 30, 31, 32, 33, 34, 35, 36, 37, 38, 39, 40, 41, 42, 43, 44, 45, 46, 47, 48, 49, 50, 51, 52, 53, 54, 55, 56, 57, 58, 59, 60, 61, 62, 63, 64, 65, 66, 67, 68, 69, 70, 71, 72, 73, 74, 75, 76, 77, 78, 79, 80, 81, 82, 83] (by decide +kernel) (by decide +kernel)
set_option maxRecDepth 20000 in
theorem gX9_line_X9_faultsIn : GoodIn wsX9_line (wsV RX9 269 RX9 yX9_faultsIn wsX9_faultsIn) := goodIn_app (goodIn_of _ (by decide +kernel)) ggX9_line_X9_faultsIn
set_option maxRecDepth 20000 in
theorem ggX9_line_X9_riskOf : GoodIn wsX9_line wsX9_riskOf := goodIn_r _ [26, 27, 28, 20, 21, 7, 22, 29, 30, 31, 32, 33, 34, 35, 36, 37, 38, 39, 40, 41, 42, 43, 44, 45, 46, 47, 48, 49, 50, 51, 52, 53, 54, 55, 56, 57, 58, 59, 60, 61, 62, 63, 64, 65, 66, 67, 68, 69, 70, 71, 72, 73, 74, 75, 76, 77, 78, 79, 80, 81, 82, 83] (by decide +kernel) (by decide +kernel)
set_option maxRecDepth 20000 in
theorem gX9_line_X9_riskOf : GoodIn wsX9_line (wsV RX9 272 RX9 yX9_riskOf wsX9_riskOf) := goodIn_app (goodIn_of _ (by decide +kernel)) ggX9_line_X9_riskOf
theorem dX9_line_0 : decode cX9_line 0 = .ok (.aload_n 0, 1) := by decide +kernel
theorem dX9_line_1 : decode cX9_line 1 = .ok (.iload_n 1, 1) := by decide +kernel
theorem dX9_line_2 : decode cX9_line 2 = .ok (.invokevirtual 266, 3) := by decide +kernel
theorem dX9_line_5 : decode cX9_line 5 = .ok (.ifCond .ne 7, 3) := by decide +kernel
theorem dX9_line_8 : decode cX9_line 8 = .ok (.sipush (-1001), 3) := by decide +kernel
theorem dX9_line_11 : decode cX9_line 11 = .ok (.ireturn, 1) := by decide +kernel
theorem dX9_line_12 : decode cX9_line 12 = .ok (.iload_n 2, 1) := by decide +kernel
theorem dX9_line_13 : decode cX9_line 13 = .ok (.tableswitch 78 0 4 #[35, 42, 49, 60, 71], 35) := by decide +kernel
theorem dX9_line_48 : decode cX9_line 48 = .ok (.aload_n 0, 1) := by decide +kernel
theorem dX9_line_49 : decode cX9_line 49 = .ok (.getfield 28, 3) := by decide +kernel
theorem dX9_line_52 : decode cX9_line 52 = .ok (.iload_n 1, 1) := by decide +kernel
theorem dX9_line_53 : decode cX9_line 53 = .ok (.iaload, 1) := by decide +kernel
theorem dX9_line_54 : decode cX9_line 54 = .ok (.ireturn, 1) := by decide +kernel
theorem dX9_line_55 : decode cX9_line 55 = .ok (.aload_n 0, 1) := by decide +kernel
theorem dX9_line_56 : decode cX9_line 56 = .ok (.getfield 31, 3) := by decide +kernel
theorem dX9_line_59 : decode cX9_line 59 = .ok (.iload_n 1, 1) := by decide +kernel
theorem dX9_line_60 : decode cX9_line 60 = .ok (.iaload, 1) := by decide +kernel
theorem dX9_line_61 : decode cX9_line 61 = .ok (.ireturn, 1) := by decide +kernel
theorem dX9_line_62 : decode cX9_line 62 = .ok (.aload_n 0, 1) := by decide +kernel
theorem dX9_line_63 : decode cX9_line 63 = .ok (.aload_n 0, 1) := by decide +kernel
theorem dX9_line_64 : decode cX9_line 64 = .ok (.getfield 31, 3) := by decide +kernel
theorem dX9_line_67 : decode cX9_line 67 = .ok (.iload_n 1, 1) := by decide +kernel
theorem dX9_line_68 : decode cX9_line 68 = .ok (.iaload, 1) := by decide +kernel
theorem dX9_line_69 : decode cX9_line 69 = .ok (.invokevirtual 269, 3) := by decide +kernel
theorem dX9_line_72 : decode cX9_line 72 = .ok (.ireturn, 1) := by decide +kernel
theorem dX9_line_73 : decode cX9_line 73 = .ok (.aload_n 0, 1) := by decide +kernel
theorem dX9_line_74 : decode cX9_line 74 = .ok (.aload_n 0, 1) := by decide +kernel
theorem dX9_line_75 : decode cX9_line 75 = .ok (.getfield 31, 3) := by decide +kernel
theorem dX9_line_78 : decode cX9_line 78 = .ok (.iload_n 1, 1) := by decide +kernel
theorem dX9_line_79 : decode cX9_line 79 = .ok (.iaload, 1) := by decide +kernel
theorem dX9_line_80 : decode cX9_line 80 = .ok (.invokevirtual 272, 3) := by decide +kernel
theorem dX9_line_83 : decode cX9_line 83 = .ok (.ireturn, 1) := by decide +kernel
theorem dX9_line_84 : decode cX9_line 84 = .ok (.aload_n 0, 1) := by decide +kernel
theorem dX9_line_85 : decode cX9_line 85 = .ok (.getfield 37, 3) := by decide +kernel
theorem dX9_line_88 : decode cX9_line 88 = .ok (.iload_n 1, 1) := by decide +kernel
theorem dX9_line_89 : decode cX9_line 89 = .ok (.iaload, 1) := by decide +kernel
theorem dX9_line_90 : decode cX9_line 90 = .ok (.ireturn, 1) := by decide +kernel
theorem dX9_line_91 : decode cX9_line 91 = .ok (.sipush (-1002), 3) := by decide +kernel
theorem dX9_line_94 : decode cX9_line 94 = .ok (.ireturn, 1) := by decide +kernel
set_option maxRecDepth 20000 in
theorem ggX9_value_X9_isLine : GoodIn wsX9_value wsX9_isLine := goodIn_r _ [6, 7, 8, 9, 5, 10, 15, 16, 17, 18, 19, 20, 21, 22, 23, 24, 25, 26, 27, 28, 29, 30, 31, 32, 33, 34, 35, 36, 37, 38, 39, 40, 41, 42, 43, 44, 45, 46, 47, 48, 49, 50, 51, 52, 53, 54, 55, 56, 57, 58, 59, 60, 61, 62, 63, 64, 65, 66, 67, 68, 69] (by decide +kernel) (by decide +kernel)
set_option maxRecDepth 20000 in
theorem gX9_value_X9_isLine : GoodIn wsX9_value (wsV RX9 266 RX9 yX9_isLine wsX9_isLine) := goodIn_app (goodIn_of _ (by decide +kernel)) ggX9_value_X9_isLine
set_option maxRecDepth 20000 in
theorem ggX9_value_X9_isSlot : GoodIn wsX9_value wsX9_isSlot := goodIn_r _ [13, 14, 8, 9, 5, 10] (by decide +kernel) (by decide +kernel)
set_option maxRecDepth 20000 in
theorem gX9_value_X9_isSlot : GoodIn wsX9_value (va_wsS RX9 254 yX9_isSlot wsX9_isSlot) := goodIn_app (goodIn_of _ (by decide +kernel)) ggX9_value_X9_isSlot
theorem dX9_value_0 : decode cX9_value 0 = .ok (.aload_n 0, 1) := by decide +kernel
theorem dX9_value_1 : decode cX9_value 1 = .ok (.iload_n 1, 1) := by decide +kernel
theorem dX9_value_2 : decode cX9_value 2 = .ok (.invokevirtual 266, 3) := by decide +kernel
theorem dX9_value_5 : decode cX9_value 5 = .ok (.ifCond .eq 24, 3) := by decide +kernel
theorem dX9_value_8 : decode cX9_value 8 = .ok (.iload_n 2, 1) := by decide +kernel
theorem dX9_value_9 : decode cX9_value 9 = .ok (.invokestatic 254, 3) := by decide +kernel
theorem dX9_value_12 : decode cX9_value 12 = .ok (.ifCond .eq 17, 3) := by decide +kernel
theorem dX9_value_15 : decode cX9_value 15 = .ok (.aload_n 0, 1) := by decide +kernel
theorem dX9_value_16 : decode cX9_value 16 = .ok (.getfield 34, 3) := by decide +kernel
theorem dX9_value_19 : decode cX9_value 19 = .ok (.bipush 16, 2) := by decide +kernel
theorem dX9_value_21 : decode cX9_value 21 = .ok (.iload_n 1, 1) := by decide +kernel
theorem dX9_value_22 : decode cX9_value 22 = .ok (.imul, 1) := by decide +kernel
theorem dX9_value_23 : decode cX9_value 23 = .ok (.iload_n 2, 1) := by decide +kernel
theorem dX9_value_24 : decode cX9_value 24 = .ok (.iadd, 1) := by decide +kernel
theorem dX9_value_25 : decode cX9_value 25 = .ok (.iaload, 1) := by decide +kernel
theorem dX9_value_26 : decode cX9_value 26 = .ok (.goto 6, 3) := by decide +kernel
theorem dX9_value_29 : decode cX9_value 29 = .ok (.sipush (-1001), 3) := by decide +kernel
theorem dX9_value_32 : decode cX9_value 32 = .ok (.ireturn, 1) := by decide +kernel
theorem dX9_tryLine_0 : decode cX9_tryLine 0 = .ok (.iconst 0, 1) := by decide +kernel
theorem dX9_tryLine_1 : decode cX9_tryLine 1 = .ok (.istore_n 2, 1) := by decide +kernel
theorem dX9_tryLine_2 : decode cX9_tryLine 2 = .ok (.iload_n 2, 1) := by decide +kernel
theorem dX9_tryLine_3 : decode cX9_tryLine 3 = .ok (.bipush 16, 2) := by decide +kernel
theorem dX9_tryLine_5 : decode cX9_tryLine 5 = .ok (.if_icmp .ge 26, 3) := by decide +kernel
theorem dX9_tryLine_8 : decode cX9_tryLine 8 = .ok (.aload_n 0, 1) := by decide +kernel
theorem dX9_tryLine_9 : decode cX9_tryLine 9 = .ok (.getfield 80, 3) := by decide +kernel
theorem dX9_tryLine_12 : decode cX9_tryLine 12 = .ok (.iload_n 2, 1) := by decide +kernel
theorem dX9_tryLine_13 : decode cX9_tryLine 13 = .ok (.aload_n 0, 1) := by decide +kernel
theorem dX9_tryLine_14 : decode cX9_tryLine 14 = .ok (.getfield 34, 3) := by decide +kernel
theorem dX9_tryLine_17 : decode cX9_tryLine 17 = .ok (.bipush 16, 2) := by decide +kernel
theorem dX9_tryLine_19 : decode cX9_tryLine 19 = .ok (.iload_n 1, 1) := by decide +kernel
theorem dX9_tryLine_20 : decode cX9_tryLine 20 = .ok (.imul, 1) := by decide +kernel
theorem dX9_tryLine_21 : decode cX9_tryLine 21 = .ok (.iload_n 2, 1) := by decide +kernel
theorem dX9_tryLine_22 : decode cX9_tryLine 22 = .ok (.iadd, 1) := by decide +kernel
theorem dX9_tryLine_23 : decode cX9_tryLine 23 = .ok (.iaload, 1) := by decide +kernel
theorem dX9_tryLine_24 : decode cX9_tryLine 24 = .ok (.iastore, 1) := by decide +kernel
theorem dX9_tryLine_25 : decode cX9_tryLine 25 = .ok (.iinc 2 1, 3) := by decide +kernel
theorem dX9_tryLine_28 : decode cX9_tryLine 28 = .ok (.goto (-26), 3) := by decide +kernel
theorem dX9_tryLine_31 : decode cX9_tryLine 31 = .ok (.return_, 1) := by decide +kernel
set_option maxRecDepth 20000 in
theorem ggX9_clashOf_X9_setsOf : GoodIn wsX9_clashOf wsX9_setsOf := goodIn_r _ [7, 8, 17, 18, 19, 20, 21, 22, 23, 24, 25, 26, 27, 28, 29, 30, 31, 32, 33, 34, 35, 36, 37, 38, 39, 40, 41, 42, 43, 44, 45, 46, 47, 48, 49, 50, 51, 52, 53, 54, 55, 56, 57, 58, 59, 60, 61, 62, 63, 64, 65, 66, 67, 68, 69, 70, 71] (by decide +kernel) (by decide +kernel)
set_option maxRecDepth 20000 in
theorem gX9_clashOf_X9_setsOf : GoodIn wsX9_clashOf (wsV RX9 247 RX9 yX9_setsOf wsX9_setsOf) := goodIn_app (goodIn_of _ (by decide +kernel)) ggX9_clashOf_X9_setsOf
set_option maxRecDepth 20000 in
theorem ggX9_clashOf_X9_has : GoodIn wsX9_clashOf wsX9_has := goodIn_r _ [11] (by decide +kernel) (by decide +kernel)
set_option maxRecDepth 20000 in
theorem gX9_clashOf_X9_has : GoodIn wsX9_clashOf (va_wsS RX9 190 yX9_has wsX9_has) := goodIn_app (goodIn_of _ (by decide +kernel)) ggX9_clashOf_X9_has
set_option maxRecDepth 20000 in
theorem ggX9_clashOf_X9_aheadOf : GoodIn wsX9_clashOf wsX9_aheadOf := goodIn_r _ [15, 16, 17, 18, 19, 20, 21, 22, 23, 24, 25, 26, 27, 28, 29, 30, 31, 32, 33, 34, 35, 36, 37, 38, 39, 40, 41, 42, 43, 44, 45, 46, 47, 48, 49, 50, 51, 52, 53, 54, 55, 56, 57, 58, 59, 60, 61, 62, 63, 64, 65, 66, 67, 68, 69, 70, 71] (by decide +kernel) (by decide +kernel)
set_option maxRecDepth 20000 in
theorem gX9_clashOf_X9_aheadOf : GoodIn wsX9_clashOf (wsV RX9 260 RX9 yX9_aheadOf wsX9_aheadOf) := goodIn_app (goodIn_of _ (by decide +kernel)) ggX9_clashOf_X9_aheadOf
theorem dX9_clashOf_0 : decode cX9_clashOf 0 = .ok (.aload_n 0, 1) := by decide +kernel
theorem dX9_clashOf_1 : decode cX9_clashOf 1 = .ok (.iload_n 1, 1) := by decide +kernel
theorem dX9_clashOf_2 : decode cX9_clashOf 2 = .ok (.invokevirtual 247, 3) := by decide +kernel
theorem dX9_clashOf_5 : decode cX9_clashOf 5 = .ok (.aload_n 0, 1) := by decide +kernel
theorem dX9_clashOf_6 : decode cX9_clashOf 6 = .ok (.getfield 13, 3) := by decide +kernel
theorem dX9_clashOf_9 : decode cX9_clashOf 9 = .ok (.iload_n 1, 1) := by decide +kernel
theorem dX9_clashOf_10 : decode cX9_clashOf 10 = .ok (.iaload, 1) := by decide +kernel
theorem dX9_clashOf_11 : decode cX9_clashOf 11 = .ok (.ior, 1) := by decide +kernel
theorem dX9_clashOf_12 : decode cX9_clashOf 12 = .ok (.istore_n 2, 1) := by decide +kernel
theorem dX9_clashOf_13 : decode cX9_clashOf 13 = .ok (.iconst 0, 1) := by decide +kernel
theorem dX9_clashOf_14 : decode cX9_clashOf 14 = .ok (.istore_n 3, 1) := by decide +kernel
theorem dX9_clashOf_15 : decode cX9_clashOf 15 = .ok (.iconst 0, 1) := by decide +kernel
theorem dX9_clashOf_16 : decode cX9_clashOf 16 = .ok (.istore 4, 2) := by decide +kernel
theorem dX9_clashOf_18 : decode cX9_clashOf 18 = .ok (.iload 4, 2) := by decide +kernel
theorem dX9_clashOf_20 : decode cX9_clashOf 20 = .ok (.bipush 16, 2) := by decide +kernel
theorem dX9_clashOf_22 : decode cX9_clashOf 22 = .ok (.if_icmp .ge 46, 3) := by decide +kernel
theorem dX9_clashOf_25 : decode cX9_clashOf 25 = .ok (.iload_n 3, 1) := by decide +kernel
theorem dX9_clashOf_26 : decode cX9_clashOf 26 = .ok (.iload_n 2, 1) := by decide +kernel
theorem dX9_clashOf_27 : decode cX9_clashOf 27 = .ok (.iload 4, 2) := by decide +kernel
theorem dX9_clashOf_29 : decode cX9_clashOf 29 = .ok (.invokestatic 190, 3) := by decide +kernel
theorem dX9_clashOf_32 : decode cX9_clashOf 32 = .ok (.ifCond .eq 27, 3) := by decide +kernel
theorem dX9_clashOf_35 : decode cX9_clashOf 35 = .ok (.aload_n 0, 1) := by decide +kernel
theorem dX9_clashOf_36 : decode cX9_clashOf 36 = .ok (.getfield 80, 3) := by decide +kernel
theorem dX9_clashOf_39 : decode cX9_clashOf 39 = .ok (.iload 4, 2) := by decide +kernel
theorem dX9_clashOf_41 : decode cX9_clashOf 41 = .ok (.iaload, 1) := by decide +kernel
theorem dX9_clashOf_42 : decode cX9_clashOf 42 = .ok (.aload_n 0, 1) := by decide +kernel
theorem dX9_clashOf_43 : decode cX9_clashOf 43 = .ok (.iload_n 1, 1) := by decide +kernel
theorem dX9_clashOf_44 : decode cX9_clashOf 44 = .ok (.iload 4, 2) := by decide +kernel
theorem dX9_clashOf_46 : decode cX9_clashOf 46 = .ok (.invokevirtual 260, 3) := by decide +kernel
theorem dX9_clashOf_49 : decode cX9_clashOf 49 = .ok (.if_icmp .eq 10, 3) := by decide +kernel
theorem dX9_clashOf_52 : decode cX9_clashOf 52 = .ok (.iconst 1, 1) := by decide +kernel
theorem dX9_clashOf_53 : decode cX9_clashOf 53 = .ok (.iload 4, 2) := by decide +kernel
theorem dX9_clashOf_55 : decode cX9_clashOf 55 = .ok (.ishl, 1) := by decide +kernel
theorem dX9_clashOf_56 : decode cX9_clashOf 56 = .ok (.goto 4, 3) := by decide +kernel
theorem dX9_clashOf_59 : decode cX9_clashOf 59 = .ok (.iconst 0, 1) := by decide +kernel
theorem dX9_clashOf_60 : decode cX9_clashOf 60 = .ok (.ior, 1) := by decide +kernel
theorem dX9_clashOf_61 : decode cX9_clashOf 61 = .ok (.istore_n 3, 1) := by decide +kernel
theorem dX9_clashOf_62 : decode cX9_clashOf 62 = .ok (.iinc 4 1, 3) := by decide +kernel
theorem dX9_clashOf_65 : decode cX9_clashOf 65 = .ok (.goto (-47), 3) := by decide +kernel
theorem dX9_clashOf_68 : decode cX9_clashOf 68 = .ok (.iload_n 3, 1) := by decide +kernel
theorem dX9_clashOf_69 : decode cX9_clashOf 69 = .ok (.ireturn, 1) := by decide +kernel
theorem dX9_goOn_0 : decode cX9_goOn 0 = .ok (.iconst 0, 1) := by decide +kernel
theorem dX9_goOn_1 : decode cX9_goOn 1 = .ok (.istore_n 2, 1) := by decide +kernel
theorem dX9_goOn_2 : decode cX9_goOn 2 = .ok (.iload_n 2, 1) := by decide +kernel
theorem dX9_goOn_3 : decode cX9_goOn 3 = .ok (.bipush 16, 2) := by decide +kernel
theorem dX9_goOn_5 : decode cX9_goOn 5 = .ok (.if_icmp .ge 49, 3) := by decide +kernel
theorem dX9_goOn_8 : decode cX9_goOn 8 = .ok (.aload_n 0, 1) := by decide +kernel
theorem dX9_goOn_9 : decode cX9_goOn 9 = .ok (.getfield 80, 3) := by decide +kernel
theorem dX9_goOn_12 : decode cX9_goOn 12 = .ok (.iload_n 2, 1) := by decide +kernel
theorem dX9_goOn_13 : decode cX9_goOn 13 = .ok (.aload_n 0, 1) := by decide +kernel
theorem dX9_goOn_14 : decode cX9_goOn 14 = .ok (.getfield 7, 3) := by decide +kernel
theorem dX9_goOn_17 : decode cX9_goOn 17 = .ok (.bipush 16, 2) := by decide +kernel
theorem dX9_goOn_19 : decode cX9_goOn 19 = .ok (.iload_n 1, 1) := by decide +kernel
theorem dX9_goOn_20 : decode cX9_goOn 20 = .ok (.imul, 1) := by decide +kernel
theorem dX9_goOn_21 : decode cX9_goOn 21 = .ok (.iload_n 2, 1) := by decide +kernel
theorem dX9_goOn_22 : decode cX9_goOn 22 = .ok (.iadd, 1) := by decide +kernel
theorem dX9_goOn_23 : decode cX9_goOn 23 = .ok (.iaload, 1) := by decide +kernel
theorem dX9_goOn_24 : decode cX9_goOn 24 = .ok (.ifCond .le 17, 3) := by decide +kernel
theorem dX9_goOn_27 : decode cX9_goOn 27 = .ok (.aload_n 0, 1) := by decide +kernel
theorem dX9_goOn_28 : decode cX9_goOn 28 = .ok (.getfield 7, 3) := by decide +kernel
theorem dX9_goOn_31 : decode cX9_goOn 31 = .ok (.bipush 16, 2) := by decide +kernel
theorem dX9_goOn_33 : decode cX9_goOn 33 = .ok (.iload_n 1, 1) := by decide +kernel
theorem dX9_goOn_34 : decode cX9_goOn 34 = .ok (.imul, 1) := by decide +kernel
theorem dX9_goOn_35 : decode cX9_goOn 35 = .ok (.iload_n 2, 1) := by decide +kernel
theorem dX9_goOn_36 : decode cX9_goOn 36 = .ok (.iadd, 1) := by decide +kernel
theorem dX9_goOn_37 : decode cX9_goOn 37 = .ok (.iaload, 1) := by decide +kernel
theorem dX9_goOn_38 : decode cX9_goOn 38 = .ok (.goto 9, 3) := by decide +kernel
theorem dX9_goOn_41 : decode cX9_goOn 41 = .ok (.aload_n 0, 1) := by decide +kernel
theorem dX9_goOn_42 : decode cX9_goOn 42 = .ok (.getfield 80, 3) := by decide +kernel
theorem dX9_goOn_45 : decode cX9_goOn 45 = .ok (.iload_n 2, 1) := by decide +kernel
theorem dX9_goOn_46 : decode cX9_goOn 46 = .ok (.iaload, 1) := by decide +kernel
theorem dX9_goOn_47 : decode cX9_goOn 47 = .ok (.iastore, 1) := by decide +kernel
theorem dX9_goOn_48 : decode cX9_goOn 48 = .ok (.iinc 2 1, 3) := by decide +kernel
theorem dX9_goOn_51 : decode cX9_goOn 51 = .ok (.goto (-49), 3) := by decide +kernel
theorem dX9_goOn_54 : decode cX9_goOn 54 = .ok (.return_, 1) := by decide +kernel
set_option maxRecDepth 20000 in
theorem ggX9_goAll_X9_has : GoodIn wsX9_goAll wsX9_has := goodIn_r _ [5] (by decide +kernel) (by decide +kernel)
set_option maxRecDepth 20000 in
theorem gX9_goAll_X9_has : GoodIn wsX9_goAll (va_wsS RX9 190 yX9_has wsX9_has) := goodIn_app (goodIn_of _ (by decide +kernel)) ggX9_goAll_X9_has
set_option maxRecDepth 20000 in
theorem ggX9_goAll_X9_clashOf : GoodIn wsX9_goAll wsX9_clashOf := goodIn_r _ [9, 10, 11, 12, 13, 14, 4, 15, 16, 2, 3, 5, 17, 18, 19, 20, 21, 26, 27, 28, 29, 30, 31, 32, 33, 34, 35, 36, 37, 38, 39, 40, 41, 42, 43, 44, 45, 46, 47, 48, 49, 50, 51, 52, 53, 54, 55, 56, 57, 58, 59, 60, 61, 62, 63, 64, 65, 66, 67, 68, 69, 70, 71, 72, 73, 74, 75, 76, 77, 78, 79, 80] (by decide +kernel) (by decide +kernel)
set_option maxRecDepth 20000 in
theorem gX9_goAll_X9_clashOf : GoodIn wsX9_goAll (wsV RX9 275 RX9 yX9_clashOf wsX9_clashOf) := goodIn_app (goodIn_of _ (by decide +kernel)) ggX9_goAll_X9_clashOf
set_option maxRecDepth 20000 in
theorem ggX9_goAll_X9_goOn : GoodIn wsX9_goAll wsX9_goOn := goodIn_r _ [25, 11, 16, 26, 27, 28, 29, 30, 31, 32, 33, 34, 35, 36, 37, 38, 39, 40, 41, 42, 43, 44, 45, 46, 47, 48, 49, 50, 51, 52, 53, 54, 55, 56, 57, 58, 59, 60, 61, 62, 63, 64, 65, 66, 67, 68, 69, 70, 71, 72, 73, 74, 75, 76, 77, 78, 79, 80] (by decide +kernel) (by decide +kernel)
set_option maxRecDepth 20000 in
theorem gX9_goAll_X9_goOn : GoodIn wsX9_goAll (wsV RX9 278 RX9 yX9_goOn wsX9_goOn) := goodIn_app (goodIn_of _ (by decide +kernel)) ggX9_goAll_X9_goOn
theorem dX9_goAll_0 : decode cX9_goAll 0 = .ok (.iconst 1, 1) := by decide +kernel
theorem dX9_goAll_1 : decode cX9_goAll 1 = .ok (.istore_n 2, 1) := by decide +kernel
theorem dX9_goAll_2 : decode cX9_goAll 2 = .ok (.iconst 0, 1) := by decide +kernel
theorem dX9_goAll_3 : decode cX9_goAll 3 = .ok (.istore_n 3, 1) := by decide +kernel
theorem dX9_goAll_4 : decode cX9_goAll 4 = .ok (.iload_n 3, 1) := by decide +kernel
theorem dX9_goAll_5 : decode cX9_goAll 5 = .ok (.aload_n 0, 1) := by decide +kernel
theorem dX9_goAll_6 : decode cX9_goAll 6 = .ok (.getfield 114, 3) := by decide +kernel
theorem dX9_goAll_9 : decode cX9_goAll 9 = .ok (.if_icmp .ge 40, 3) := by decide +kernel
theorem dX9_goAll_12 : decode cX9_goAll 12 = .ok (.iload_n 2, 1) := by decide +kernel
theorem dX9_goAll_13 : decode cX9_goAll 13 = .ok (.ifCond .eq 36, 3) := by decide +kernel
theorem dX9_goAll_16 : decode cX9_goAll 16 = .ok (.iload_n 1, 1) := by decide +kernel
theorem dX9_goAll_17 : decode cX9_goAll 17 = .ok (.iload_n 3, 1) := by decide +kernel
theorem dX9_goAll_18 : decode cX9_goAll 18 = .ok (.invokestatic 190, 3) := by decide +kernel
theorem dX9_goAll_21 : decode cX9_goAll 21 = .ok (.ifCond .eq 22, 3) := by decide +kernel
theorem dX9_goAll_24 : decode cX9_goAll 24 = .ok (.aload_n 0, 1) := by decide +kernel
theorem dX9_goAll_25 : decode cX9_goAll 25 = .ok (.iload_n 3, 1) := by decide +kernel
theorem dX9_goAll_26 : decode cX9_goAll 26 = .ok (.invokevirtual 275, 3) := by decide +kernel
theorem dX9_goAll_29 : decode cX9_goAll 29 = .ok (.ifCond .ne 7, 3) := by decide +kernel
theorem dX9_goAll_32 : decode cX9_goAll 32 = .ok (.iconst 1, 1) := by decide +kernel
theorem dX9_goAll_33 : decode cX9_goAll 33 = .ok (.goto 4, 3) := by decide +kernel
theorem dX9_goAll_36 : decode cX9_goAll 36 = .ok (.iconst 0, 1) := by decide +kernel
theorem dX9_goAll_37 : decode cX9_goAll 37 = .ok (.istore_n 2, 1) := by decide +kernel
theorem dX9_goAll_38 : decode cX9_goAll 38 = .ok (.aload_n 0, 1) := by decide +kernel
theorem dX9_goAll_39 : decode cX9_goAll 39 = .ok (.iload_n 3, 1) := by decide +kernel
theorem dX9_goAll_40 : decode cX9_goAll 40 = .ok (.invokevirtual 278, 3) := by decide +kernel
theorem dX9_goAll_43 : decode cX9_goAll 43 = .ok (.iinc 3 1, 3) := by decide +kernel
theorem dX9_goAll_46 : decode cX9_goAll 46 = .ok (.goto (-42), 3) := by decide +kernel
theorem dX9_goAll_49 : decode cX9_goAll 49 = .ok (.iload_n 2, 1) := by decide +kernel
theorem dX9_goAll_50 : decode cX9_goAll 50 = .ok (.ireturn, 1) := by decide +kernel
theorem dX9_putLine_0 : decode cX9_putLine 0 = .ok (.iconst 0, 1) := by decide +kernel
theorem dX9_putLine_1 : decode cX9_putLine 1 = .ok (.istore_n 3, 1) := by decide +kernel
theorem dX9_putLine_2 : decode cX9_putLine 2 = .ok (.iload_n 3, 1) := by decide +kernel
theorem dX9_putLine_3 : decode cX9_putLine 3 = .ok (.bipush 16, 2) := by decide +kernel
theorem dX9_putLine_5 : decode cX9_putLine 5 = .ok (.if_icmp .ge 26, 3) := by decide +kernel
theorem dX9_putLine_8 : decode cX9_putLine 8 = .ok (.aload_n 0, 1) := by decide +kernel
theorem dX9_putLine_9 : decode cX9_putLine 9 = .ok (.getfield 34, 3) := by decide +kernel
theorem dX9_putLine_12 : decode cX9_putLine 12 = .ok (.bipush 16, 2) := by decide +kernel
theorem dX9_putLine_14 : decode cX9_putLine 14 = .ok (.iload_n 1, 1) := by decide +kernel
theorem dX9_putLine_15 : decode cX9_putLine 15 = .ok (.imul, 1) := by decide +kernel
theorem dX9_putLine_16 : decode cX9_putLine 16 = .ok (.iload_n 3, 1) := by decide +kernel
theorem dX9_putLine_17 : decode cX9_putLine 17 = .ok (.iadd, 1) := by decide +kernel
theorem dX9_putLine_18 : decode cX9_putLine 18 = .ok (.aload_n 0, 1) := by decide +kernel
theorem dX9_putLine_19 : decode cX9_putLine 19 = .ok (.getfield 80, 3) := by decide +kernel
theorem dX9_putLine_22 : decode cX9_putLine 22 = .ok (.iload_n 3, 1) := by decide +kernel
theorem dX9_putLine_23 : decode cX9_putLine 23 = .ok (.iaload, 1) := by decide +kernel
theorem dX9_putLine_24 : decode cX9_putLine 24 = .ok (.iastore, 1) := by decide +kernel
theorem dX9_putLine_25 : decode cX9_putLine 25 = .ok (.iinc 3 1, 3) := by decide +kernel
theorem dX9_putLine_28 : decode cX9_putLine 28 = .ok (.goto (-26), 3) := by decide +kernel
theorem dX9_putLine_31 : decode cX9_putLine 31 = .ok (.aload_n 0, 1) := by decide +kernel
theorem dX9_putLine_32 : decode cX9_putLine 32 = .ok (.getfield 31, 3) := by decide +kernel
theorem dX9_putLine_35 : decode cX9_putLine 35 = .ok (.iload_n 1, 1) := by decide +kernel
theorem dX9_putLine_36 : decode cX9_putLine 36 = .ok (.dup2, 1) := by decide +kernel
theorem dX9_putLine_37 : decode cX9_putLine 37 = .ok (.iaload, 1) := by decide +kernel
theorem dX9_putLine_38 : decode cX9_putLine 38 = .ok (.iload_n 2, 1) := by decide +kernel
theorem dX9_putLine_39 : decode cX9_putLine 39 = .ok (.ior, 1) := by decide +kernel
theorem dX9_putLine_40 : decode cX9_putLine 40 = .ok (.iastore, 1) := by decide +kernel
theorem dX9_putLine_41 : decode cX9_putLine 41 = .ok (.return_, 1) := by decide +kernel
set_option maxRecDepth 20000 in
theorem ggX9_clash_X9_isLine : GoodIn wsX9_clash wsX9_isLine := goodIn_r _ [6, 7, 8, 9, 5, 10, 40, 41, 42, 43, 44, 45, 46, 47, 48, 49, 50, 51, 52, 53, 54, 55, 56, 57, 58, 59, 60, 61, 62, 63, 64, 65, 66, 67, 68, 69, 70, 71, 72, 73, 74, 75, 76, 77, 78, 79, 80, 81, 82, 83, 84, 85, 86, 87, 88, 89, 90, 91, 92, 93, 94] (by decide +kernel) (by decide +kernel)
set_option maxRecDepth 20000 in
theorem gX9_clash_X9_isLine : GoodIn wsX9_clash (wsV RX9 266 RX9 yX9_isLine wsX9_isLine) := goodIn_app (goodIn_of _ (by decide +kernel)) ggX9_clash_X9_isLine
set_option maxRecDepth 20000 in
theorem ggX9_clash_X9_isChange : GoodIn wsX9_clash wsX9_isChange := goodIn_r _ [14, 15, 8, 9, 5, 10, 40, 41, 42, 43, 44, 45, 46, 47, 48, 49, 50, 51, 52, 53, 54, 55, 56, 57, 58, 59, 60, 61, 62, 63, 64, 65, 66, 67, 68, 69, 70, 71, 72, 73, 74, 75, 76, 77, 78, 79, 80, 81, 82, 83, 84, 85, 86, 87, 88, 89, 90, 91, 92, 93, 94] (by decide +kernel) (by decide +kernel)
set_option maxRecDepth 20000 in
theorem gX9_clash_X9_isChange : GoodIn wsX9_clash (wsV RX9 243 RX9 yX9_isChange wsX9_isChange) := goodIn_app (goodIn_of _ (by decide +kernel)) ggX9_clash_X9_isChange
set_option maxRecDepth 20000 in
theorem ggX9_clash_X9_has : GoodIn wsX9_clash wsX9_has := goodIn_r _ [18] (by decide +kernel) (by decide +kernel)
set_option maxRecDepth 20000 in
theorem gX9_clash_X9_has : GoodIn wsX9_clash (va_wsS RX9 190 yX9_has wsX9_has) := goodIn_app (goodIn_of _ (by decide +kernel)) ggX9_clash_X9_has
set_option maxRecDepth 20000 in
theorem ggX9_clash_X9_tryLine : GoodIn wsX9_clash wsX9_tryLine := goodIn_r _ [22, 23, 24, 40, 41, 42, 43, 44, 45, 46, 47, 48, 49, 50, 51, 52, 53, 54, 55, 56, 57, 58, 59, 60, 61, 62, 63, 64, 65, 66, 67, 68, 69, 70, 71, 72, 73, 74, 75, 76, 77, 78, 79, 80, 81, 82, 83, 84, 85, 86, 87, 88, 89, 90, 91, 92, 93, 94] (by decide +kernel) (by decide +kernel)
set_option maxRecDepth 20000 in
theorem gX9_clash_X9_tryLine : GoodIn wsX9_clash (wsV RX9 282 RX9 yX9_tryLine wsX9_tryLine) := goodIn_app (goodIn_of _ (by decide +kernel)) ggX9_clash_X9_tryLine
set_option maxRecDepth 20000 in
theorem ggX9_clash_X9_clashOf : GoodIn wsX9_clash wsX9_clashOf := goodIn_r _ [28, 29, 23, 30, 31, 32, 5, 33, 34, 16, 17, 18, 35, 36, 37, 38, 39, 40, 41, 42, 43, 44, 45, 46, 47, 48, 49, 50, 51, 52, 53, 54, 55, 56, 57, 58, 59, 60, 61, 62, 63, 64, 65, 66, 67, 68, 69, 70, 71, 72, 73, 74, 75, 76, 77, 78, 79, 80, 81, 82, 83, 84, 85, 86, 87, 88, 89, 90, 91, 92, 93, 94] (by decide +kernel) (by decide +kernel)
set_option maxRecDepth 20000 in
theorem gX9_clash_X9_clashOf : GoodIn wsX9_clash (wsV RX9 275 RX9 yX9_clashOf wsX9_clashOf) := goodIn_app (goodIn_of _ (by decide +kernel)) ggX9_clash_X9_clashOf
theorem dX9_clash_0 : decode cX9_clash 0 = .ok (.aload_n 0, 1) := by decide +kernel
theorem dX9_clash_1 : decode cX9_clash 1 = .ok (.iload_n 1, 1) := by decide +kernel
theorem dX9_clash_2 : decode cX9_clash 2 = .ok (.invokevirtual 266, 3) := by decide +kernel
theorem dX9_clash_5 : decode cX9_clash 5 = .ok (.ifCond .eq 11, 3) := by decide +kernel
theorem dX9_clash_8 : decode cX9_clash 8 = .ok (.aload_n 0, 1) := by decide +kernel
theorem dX9_clash_9 : decode cX9_clash 9 = .ok (.iload_n 2, 1) := by decide +kernel
theorem dX9_clash_10 : decode cX9_clash 10 = .ok (.invokevirtual 243, 3) := by decide +kernel
theorem dX9_clash_13 : decode cX9_clash 13 = .ok (.ifCond .ne 7, 3) := by decide +kernel
theorem dX9_clash_16 : decode cX9_clash 16 = .ok (.sipush (-1001), 3) := by decide +kernel
theorem dX9_clash_19 : decode cX9_clash 19 = .ok (.ireturn, 1) := by decide +kernel
theorem dX9_clash_20 : decode cX9_clash 20 = .ok (.aload_n 0, 1) := by decide +kernel
theorem dX9_clash_21 : decode cX9_clash 21 = .ok (.getfield 31, 3) := by decide +kernel
theorem dX9_clash_24 : decode cX9_clash 24 = .ok (.iload_n 1, 1) := by decide +kernel
theorem dX9_clash_25 : decode cX9_clash 25 = .ok (.iaload, 1) := by decide +kernel
theorem dX9_clash_26 : decode cX9_clash 26 = .ok (.iload_n 2, 1) := by decide +kernel
theorem dX9_clash_27 : decode cX9_clash 27 = .ok (.invokestatic 190, 3) := by decide +kernel
theorem dX9_clash_30 : decode cX9_clash 30 = .ok (.ifCond .eq 7, 3) := by decide +kernel
theorem dX9_clash_33 : decode cX9_clash 33 = .ok (.sipush (-1003), 3) := by decide +kernel
theorem dX9_clash_36 : decode cX9_clash 36 = .ok (.ireturn, 1) := by decide +kernel
theorem dX9_clash_37 : decode cX9_clash 37 = .ok (.aload_n 0, 1) := by decide +kernel
theorem dX9_clash_38 : decode cX9_clash 38 = .ok (.iload_n 1, 1) := by decide +kernel
theorem dX9_clash_39 : decode cX9_clash 39 = .ok (.invokevirtual 282, 3) := by decide +kernel
theorem dX9_clash_42 : decode cX9_clash 42 = .ok (.aload_n 0, 1) := by decide +kernel
theorem dX9_clash_43 : decode cX9_clash 43 = .ok (.iload_n 2, 1) := by decide +kernel
theorem dX9_clash_44 : decode cX9_clash 44 = .ok (.invokevirtual 275, 3) := by decide +kernel
theorem dX9_clash_47 : decode cX9_clash 47 = .ok (.ireturn, 1) := by decide +kernel
set_option maxRecDepth 20000 in
theorem ggX9_pick_X9_isLine : GoodIn wsX9_pick wsX9_isLine := goodIn_r _ [6, 7, 8, 9, 5, 10, 51, 52, 53, 54, 55, 56, 57, 58, 59, 60, 61, 62, 63, 64, 65, 66, 67, 68, 69, 70, 71, 72, 73, 74, 75, 76, 77, 78, 79, 80, 81, 82, 83, 84, 85, 86, 87, 88, 89, 90, 91, 92, 93, 94, 95, 96, 97, 98, 99, 100, 101, 102, 103, 104, 105] (by decide +kernel) (by decide +kernel)
set_option maxRecDepth 20000 in
theorem gX9_pick_X9_isLine : GoodIn wsX9_pick (wsV RX9 266 RX9 yX9_isLine wsX9_isLine) := goodIn_app (goodIn_of _ (by decide +kernel)) ggX9_pick_X9_isLine
set_option maxRecDepth 20000 in
theorem ggX9_pick_X9_isChange : GoodIn wsX9_pick wsX9_isChange := goodIn_r _ [14, 15, 8, 9, 5, 10, 51, 52, 53, 54, 55, 56, 57, 58, 59, 60, 61, 62, 63, 64, 65, 66, 67, 68, 69, 70, 71, 72, 73, 74, 75, 76, 77, 78, 79, 80, 81, 82, 83, 84, 85, 86, 87, 88, 89, 90, 91, 92, 93, 94, 95, 96, 97, 98, 99, 100, 101, 102, 103, 104, 105] (by decide +kernel) (by decide +kernel)
set_option maxRecDepth 20000 in
theorem gX9_pick_X9_isChange : GoodIn wsX9_pick (wsV RX9 243 RX9 yX9_isChange wsX9_isChange) := goodIn_app (goodIn_of _ (by decide +kernel)) ggX9_pick_X9_isChange
set_option maxRecDepth 20000 in
theorem ggX9_pick_X9_tryLine : GoodIn wsX9_pick wsX9_tryLine := goodIn_r _ [19, 20, 21, 51, 52, 53, 54, 55, 56, 57, 58, 59, 60, 61, 62, 63, 64, 65, 66, 67, 68, 69, 70, 71, 72, 73, 74, 75, 76, 77, 78, 79, 80, 81, 82, 83, 84, 85, 86, 87, 88, 89, 90, 91, 92, 93, 94, 95, 96, 97, 98, 99, 100, 101, 102, 103, 104, 105] (by decide +kernel) (by decide +kernel)
set_option maxRecDepth 20000 in
theorem gX9_pick_X9_tryLine : GoodIn wsX9_pick (wsV RX9 282 RX9 yX9_tryLine wsX9_tryLine) := goodIn_app (goodIn_of _ (by decide +kernel)) ggX9_pick_X9_tryLine
set_option maxRecDepth 20000 in
theorem ggX9_pick_X9_has : GoodIn wsX9_pick wsX9_has := goodIn_r _ [24] (by decide +kernel) (by decide +kernel)
set_option maxRecDepth 20000 in
theorem gX9_pick_X9_has : GoodIn wsX9_pick (va_wsS RX9 190 yX9_has wsX9_has) := goodIn_app (goodIn_of _ (by decide +kernel)) ggX9_pick_X9_has
set_option maxRecDepth 20000 in
theorem ggX9_pick_X9_clashOf : GoodIn wsX9_pick wsX9_clashOf := goodIn_r _ [28, 29, 20, 30, 31, 32, 5, 33, 34, 22, 23, 24, 35, 36, 37, 38, 39, 51, 52, 53, 54, 55, 56, 57, 58, 59, 60, 61, 62, 63, 64, 65, 66, 67, 68, 69, 70, 71, 72, 73, 74, 75, 76, 77, 78, 79, 80, 81, 82, 83, 84, 85, 86, 87, 88, 89, 90, 91, 92, 93, 94, 95, 96, 97, 98, 99, 100, 101, 102, 103, 104, 105] (by decide +kernel) (by decide +kernel)
set_option maxRecDepth 20000 in
theorem gX9_pick_X9_clashOf : GoodIn wsX9_pick (wsV RX9 275 RX9 yX9_clashOf wsX9_clashOf) := goodIn_app (goodIn_of _ (by decide +kernel)) ggX9_pick_X9_clashOf
set_option maxRecDepth 20000 in
theorem ggX9_pick_X9_goOn : GoodIn wsX9_pick wsX9_goOn := goodIn_r _ [43, 20, 34, 51, 52, 53, 54, 55, 56, 57, 58, 59, 60, 61, 62, 63, 64, 65, 66, 67, 68, 69, 70, 71, 72, 73, 74, 75, 76, 77, 78, 79, 80, 81, 82, 83, 84, 85, 86, 87, 88, 89, 90, 91, 92, 93, 94, 95, 96, 97, 98, 99, 100, 101, 102, 103, 104, 105] (by decide +kernel) (by decide +kernel)
set_option maxRecDepth 20000 in
theorem gX9_pick_X9_goOn : GoodIn wsX9_pick (wsV RX9 278 RX9 yX9_goOn wsX9_goOn) := goodIn_app (goodIn_of _ (by decide +kernel)) ggX9_pick_X9_goOn
set_option maxRecDepth 20000 in
theorem ggX9_pick_X9_putLine : GoodIn wsX9_pick wsX9_putLine := goodIn_r _ [47, 21, 20, 1, 51, 52, 53, 54, 55, 56, 57, 58, 59, 60, 61, 62, 63, 64, 65, 66, 67, 68, 69, 70, 71, 72, 73, 74, 75, 76, 77, 78, 79, 80, 81, 82, 83, 84, 85, 86, 87, 88, 89, 90, 91, 92, 93, 94, 95, 96, 97, 98, 99, 100, 101, 102, 103, 104, 105] (by decide +kernel) (by decide +kernel)
set_option maxRecDepth 20000 in
theorem gX9_pick_X9_putLine : GoodIn wsX9_pick (wsV RX9 285 RX9 yX9_putLine wsX9_putLine) := goodIn_app (goodIn_of _ (by decide +kernel)) ggX9_pick_X9_putLine
set_option maxRecDepth 20000 in
theorem ggX9_pick_X9_bits : GoodIn wsX9_pick wsX9_bits := goodIn_r _ [50] (by decide +kernel) (by decide +kernel)
set_option maxRecDepth 20000 in
theorem gX9_pick_X9_bits : GoodIn wsX9_pick (va_wsS RX9 289 yX9_bits wsX9_bits) := goodIn_app (goodIn_of _ (by decide +kernel)) ggX9_pick_X9_bits
theorem dX9_pick_0 : decode cX9_pick 0 = .ok (.aload_n 0, 1) := by decide +kernel
theorem dX9_pick_1 : decode cX9_pick 1 = .ok (.iload_n 1, 1) := by decide +kernel
theorem dX9_pick_2 : decode cX9_pick 2 = .ok (.invokevirtual 266, 3) := by decide +kernel
theorem dX9_pick_5 : decode cX9_pick 5 = .ok (.ifCond .eq 11, 3) := by decide +kernel
theorem dX9_pick_8 : decode cX9_pick 8 = .ok (.aload_n 0, 1) := by decide +kernel
theorem dX9_pick_9 : decode cX9_pick 9 = .ok (.iload_n 2, 1) := by decide +kernel
theorem dX9_pick_10 : decode cX9_pick 10 = .ok (.invokevirtual 243, 3) := by decide +kernel
theorem dX9_pick_13 : decode cX9_pick 13 = .ok (.ifCond .ne 7, 3) := by decide +kernel
theorem dX9_pick_16 : decode cX9_pick 16 = .ok (.sipush (-1001), 3) := by decide +kernel
theorem dX9_pick_19 : decode cX9_pick 19 = .ok (.ireturn, 1) := by decide +kernel
theorem dX9_pick_20 : decode cX9_pick 20 = .ok (.aload_n 0, 1) := by decide +kernel
theorem dX9_pick_21 : decode cX9_pick 21 = .ok (.iload_n 1, 1) := by decide +kernel
theorem dX9_pick_22 : decode cX9_pick 22 = .ok (.invokevirtual 282, 3) := by decide +kernel
theorem dX9_pick_25 : decode cX9_pick 25 = .ok (.aload_n 0, 1) := by decide +kernel
theorem dX9_pick_26 : decode cX9_pick 26 = .ok (.getfield 31, 3) := by decide +kernel
theorem dX9_pick_29 : decode cX9_pick 29 = .ok (.iload_n 1, 1) := by decide +kernel
theorem dX9_pick_30 : decode cX9_pick 30 = .ok (.iaload, 1) := by decide +kernel
theorem dX9_pick_31 : decode cX9_pick 31 = .ok (.iload_n 2, 1) := by decide +kernel
theorem dX9_pick_32 : decode cX9_pick 32 = .ok (.invokestatic 190, 3) := by decide +kernel
theorem dX9_pick_35 : decode cX9_pick 35 = .ok (.ifCond .ne 11, 3) := by decide +kernel
theorem dX9_pick_38 : decode cX9_pick 38 = .ok (.aload_n 0, 1) := by decide +kernel
theorem dX9_pick_39 : decode cX9_pick 39 = .ok (.iload_n 2, 1) := by decide +kernel
theorem dX9_pick_40 : decode cX9_pick 40 = .ok (.invokevirtual 275, 3) := by decide +kernel
theorem dX9_pick_43 : decode cX9_pick 43 = .ok (.ifCond .eq 7, 3) := by decide +kernel
theorem dX9_pick_46 : decode cX9_pick 46 = .ok (.sipush (-1003), 3) := by decide +kernel
theorem dX9_pick_49 : decode cX9_pick 49 = .ok (.ireturn, 1) := by decide +kernel
theorem dX9_pick_50 : decode cX9_pick 50 = .ok (.aload_n 0, 1) := by decide +kernel
theorem dX9_pick_51 : decode cX9_pick 51 = .ok (.iload_n 2, 1) := by decide +kernel
theorem dX9_pick_52 : decode cX9_pick 52 = .ok (.invokevirtual 278, 3) := by decide +kernel
theorem dX9_pick_55 : decode cX9_pick 55 = .ok (.aload_n 0, 1) := by decide +kernel
theorem dX9_pick_56 : decode cX9_pick 56 = .ok (.iload_n 1, 1) := by decide +kernel
theorem dX9_pick_57 : decode cX9_pick 57 = .ok (.iconst 1, 1) := by decide +kernel
theorem dX9_pick_58 : decode cX9_pick 58 = .ok (.iload_n 2, 1) := by decide +kernel
theorem dX9_pick_59 : decode cX9_pick 59 = .ok (.ishl, 1) := by decide +kernel
theorem dX9_pick_60 : decode cX9_pick 60 = .ok (.invokevirtual 285, 3) := by decide +kernel
theorem dX9_pick_63 : decode cX9_pick 63 = .ok (.aload_n 0, 1) := by decide +kernel
theorem dX9_pick_64 : decode cX9_pick 64 = .ok (.getfield 31, 3) := by decide +kernel
theorem dX9_pick_67 : decode cX9_pick 67 = .ok (.iload_n 1, 1) := by decide +kernel
theorem dX9_pick_68 : decode cX9_pick 68 = .ok (.iaload, 1) := by decide +kernel
theorem dX9_pick_69 : decode cX9_pick 69 = .ok (.invokestatic 289, 3) := by decide +kernel
theorem dX9_pick_72 : decode cX9_pick 72 = .ok (.ireturn, 1) := by decide +kernel
set_option maxRecDepth 20000 in
theorem ggX9_undo_X9_isLine : GoodIn wsX9_undo wsX9_isLine := goodIn_r _ [8, 9, 10, 11, 7, 12, 29, 30, 31, 32, 33, 34, 35, 36, 37, 38, 39, 40, 41, 42, 43, 44, 45, 46, 47, 48, 49, 50, 51, 52, 53, 54, 55, 56, 57, 58, 59, 60, 61, 62, 63, 64, 65, 66, 67, 68, 69, 70, 71, 72, 73, 74, 75, 76, 77, 78, 79, 80, 81, 82, 83] (by decide +kernel) (by decide +kernel)
set_option maxRecDepth 20000 in
theorem gX9_undo_X9_isLine : GoodIn wsX9_undo (wsV RX9 266 RX9 yX9_isLine wsX9_isLine) := goodIn_app (goodIn_of _ (by decide +kernel)) ggX9_undo_X9_isLine
set_option maxRecDepth 20000 in
theorem ggX9_undo_X9_isChange : GoodIn wsX9_undo wsX9_isChange := goodIn_r _ [16, 17, 10, 11, 7, 12, 29, 30, 31, 32, 33, 34, 35, 36, 37, 38, 39, 40, 41, 42, 43, 44, 45, 46, 47, 48, 49, 50, 51, 52, 53, 54, 55, 56, 57, 58, 59, 60, 61, 62, 63, 64, 65, 66, 67, 68, 69, 70, 71, 72, 73, 74, 75, 76, 77, 78, 79, 80, 81, 82, 83] (by decide +kernel) (by decide +kernel)
set_option maxRecDepth 20000 in
theorem gX9_undo_X9_isChange : GoodIn wsX9_undo (wsV RX9 243 RX9 yX9_isChange wsX9_isChange) := goodIn_app (goodIn_of _ (by decide +kernel)) ggX9_undo_X9_isChange
set_option maxRecDepth 20000 in
theorem ggX9_undo_X9_has : GoodIn wsX9_undo wsX9_has := goodIn_r _ [20] (by decide +kernel) (by decide +kernel)
set_option maxRecDepth 20000 in
theorem gX9_undo_X9_has : GoodIn wsX9_undo (va_wsS RX9 190 yX9_has wsX9_has) := goodIn_app (goodIn_of _ (by decide +kernel)) ggX9_undo_X9_has
set_option maxRecDepth 20000 in
theorem ggX9_undo_X9_aheadOf : GoodIn wsX9_undo wsX9_aheadOf := goodIn_r _ [24, 25, 29, 30, 31, 32, 33, 34, 35, 36, 37, 38, 39, 40, 41, 42, 43, 44, 45, 46, 47, 48, 49, 50, 51, 52, 53, 54, 55, 56, 57, 58, 59, 60, 61, 62, 63, 64, 65, 66, 67, 68, 69, 70, 71, 72, 73, 74, 75, 76, 77, 78, 79, 80, 81, 82, 83] (by decide +kernel) (by decide +kernel)
set_option maxRecDepth 20000 in
theorem gX9_undo_X9_aheadOf : GoodIn wsX9_undo (wsV RX9 260 RX9 yX9_aheadOf wsX9_aheadOf) := goodIn_app (goodIn_of _ (by decide +kernel)) ggX9_undo_X9_aheadOf
set_option maxRecDepth 20000 in
theorem ggX9_undo_X9_bits : GoodIn wsX9_undo wsX9_bits := goodIn_r _ [28] (by decide +kernel) (by decide +kernel)
set_option maxRecDepth 20000 in
theorem gX9_undo_X9_bits : GoodIn wsX9_undo (va_wsS RX9 289 yX9_bits wsX9_bits) := goodIn_app (goodIn_of _ (by decide +kernel)) ggX9_undo_X9_bits
theorem dX9_undo_0 : decode cX9_undo 0 = .ok (.aload_n 0, 1) := by decide +kernel
theorem dX9_undo_1 : decode cX9_undo 1 = .ok (.iload_n 1, 1) := by decide +kernel
theorem dX9_undo_2 : decode cX9_undo 2 = .ok (.invokevirtual 266, 3) := by decide +kernel
theorem dX9_undo_5 : decode cX9_undo 5 = .ok (.ifCond .eq 11, 3) := by decide +kernel
theorem dX9_undo_8 : decode cX9_undo 8 = .ok (.aload_n 0, 1) := by decide +kernel
theorem dX9_undo_9 : decode cX9_undo 9 = .ok (.iload_n 2, 1) := by decide +kernel
theorem dX9_undo_10 : decode cX9_undo 10 = .ok (.invokevirtual 243, 3) := by decide +kernel
theorem dX9_undo_13 : decode cX9_undo 13 = .ok (.ifCond .ne 7, 3) := by decide +kernel
theorem dX9_undo_16 : decode cX9_undo 16 = .ok (.sipush (-1001), 3) := by decide +kernel
theorem dX9_undo_19 : decode cX9_undo 19 = .ok (.ireturn, 1) := by decide +kernel
theorem dX9_undo_20 : decode cX9_undo 20 = .ok (.aload_n 0, 1) := by decide +kernel
theorem dX9_undo_21 : decode cX9_undo 21 = .ok (.getfield 31, 3) := by decide +kernel
theorem dX9_undo_24 : decode cX9_undo 24 = .ok (.iload_n 1, 1) := by decide +kernel
theorem dX9_undo_25 : decode cX9_undo 25 = .ok (.iaload, 1) := by decide +kernel
theorem dX9_undo_26 : decode cX9_undo 26 = .ok (.iload_n 2, 1) := by decide +kernel
theorem dX9_undo_27 : decode cX9_undo 27 = .ok (.invokestatic 190, 3) := by decide +kernel
theorem dX9_undo_30 : decode cX9_undo 30 = .ok (.istore_n 3, 1) := by decide +kernel
theorem dX9_undo_31 : decode cX9_undo 31 = .ok (.iconst 0, 1) := by decide +kernel
theorem dX9_undo_32 : decode cX9_undo 32 = .ok (.istore 4, 2) := by decide +kernel
theorem dX9_undo_34 : decode cX9_undo 34 = .ok (.iload 4, 2) := by decide +kernel
theorem dX9_undo_36 : decode cX9_undo 36 = .ok (.bipush 16, 2) := by decide +kernel
theorem dX9_undo_38 : decode cX9_undo 38 = .ok (.if_icmp .ge 61, 3) := by decide +kernel
theorem dX9_undo_41 : decode cX9_undo 41 = .ok (.iload_n 3, 1) := by decide +kernel
theorem dX9_undo_42 : decode cX9_undo 42 = .ok (.ifCond .eq 49, 3) := by decide +kernel
theorem dX9_undo_45 : decode cX9_undo 45 = .ok (.aload_n 0, 1) := by decide +kernel
theorem dX9_undo_46 : decode cX9_undo 46 = .ok (.getfield 7, 3) := by decide +kernel
theorem dX9_undo_49 : decode cX9_undo 49 = .ok (.bipush 16, 2) := by decide +kernel
theorem dX9_undo_51 : decode cX9_undo 51 = .ok (.iload_n 2, 1) := by decide +kernel
theorem dX9_undo_52 : decode cX9_undo 52 = .ok (.imul, 1) := by decide +kernel
theorem dX9_undo_53 : decode cX9_undo 53 = .ok (.iload 4, 2) := by decide +kernel
theorem dX9_undo_55 : decode cX9_undo 55 = .ok (.iadd, 1) := by decide +kernel
theorem dX9_undo_56 : decode cX9_undo 56 = .ok (.iaload, 1) := by decide +kernel
theorem dX9_undo_57 : decode cX9_undo 57 = .ok (.ifCond .eq 30, 3) := by decide +kernel
theorem dX9_undo_60 : decode cX9_undo 60 = .ok (.aload_n 0, 1) := by decide +kernel
theorem dX9_undo_61 : decode cX9_undo 61 = .ok (.getfield 34, 3) := by decide +kernel
theorem dX9_undo_64 : decode cX9_undo 64 = .ok (.bipush 16, 2) := by decide +kernel
theorem dX9_undo_66 : decode cX9_undo 66 = .ok (.iload_n 1, 1) := by decide +kernel
theorem dX9_undo_67 : decode cX9_undo 67 = .ok (.imul, 1) := by decide +kernel
theorem dX9_undo_68 : decode cX9_undo 68 = .ok (.iload 4, 2) := by decide +kernel
theorem dX9_undo_70 : decode cX9_undo 70 = .ok (.iadd, 1) := by decide +kernel
theorem dX9_undo_71 : decode cX9_undo 71 = .ok (.iaload, 1) := by decide +kernel
theorem dX9_undo_72 : decode cX9_undo 72 = .ok (.aload_n 0, 1) := by decide +kernel
theorem dX9_undo_73 : decode cX9_undo 73 = .ok (.getfield 7, 3) := by decide +kernel
theorem dX9_undo_76 : decode cX9_undo 76 = .ok (.bipush 16, 2) := by decide +kernel
theorem dX9_undo_78 : decode cX9_undo 78 = .ok (.iload_n 2, 1) := by decide +kernel
theorem dX9_undo_79 : decode cX9_undo 79 = .ok (.imul, 1) := by decide +kernel
theorem dX9_undo_80 : decode cX9_undo 80 = .ok (.iload 4, 2) := by decide +kernel
theorem dX9_undo_82 : decode cX9_undo 82 = .ok (.iadd, 1) := by decide +kernel
theorem dX9_undo_83 : decode cX9_undo 83 = .ok (.iaload, 1) := by decide +kernel
theorem dX9_undo_84 : decode cX9_undo 84 = .ok (.if_icmp .ne 7, 3) := by decide +kernel
theorem dX9_undo_87 : decode cX9_undo 87 = .ok (.iconst 1, 1) := by decide +kernel
theorem dX9_undo_88 : decode cX9_undo 88 = .ok (.goto 4, 3) := by decide +kernel
theorem dX9_undo_91 : decode cX9_undo 91 = .ok (.iconst 0, 1) := by decide +kernel
theorem dX9_undo_92 : decode cX9_undo 92 = .ok (.istore_n 3, 1) := by decide +kernel
theorem dX9_undo_93 : decode cX9_undo 93 = .ok (.iinc 4 1, 3) := by decide +kernel
theorem dX9_undo_96 : decode cX9_undo 96 = .ok (.goto (-62), 3) := by decide +kernel
theorem dX9_undo_99 : decode cX9_undo 99 = .ok (.iload_n 3, 1) := by decide +kernel
theorem dX9_undo_100 : decode cX9_undo 100 = .ok (.ifCond .ne 7, 3) := by decide +kernel
theorem dX9_undo_103 : decode cX9_undo 103 = .ok (.sipush (-1003), 3) := by decide +kernel
theorem dX9_undo_106 : decode cX9_undo 106 = .ok (.ireturn, 1) := by decide +kernel
theorem dX9_undo_107 : decode cX9_undo 107 = .ok (.iconst 0, 1) := by decide +kernel
theorem dX9_undo_108 : decode cX9_undo 108 = .ok (.istore 4, 2) := by decide +kernel
theorem dX9_undo_110 : decode cX9_undo 110 = .ok (.iload 4, 2) := by decide +kernel
theorem dX9_undo_112 : decode cX9_undo 112 = .ok (.bipush 16, 2) := by decide +kernel
theorem dX9_undo_114 : decode cX9_undo 114 = .ok (.if_icmp .ge 58, 3) := by decide +kernel
theorem dX9_undo_117 : decode cX9_undo 117 = .ok (.aload_n 0, 1) := by decide +kernel
theorem dX9_undo_118 : decode cX9_undo 118 = .ok (.getfield 34, 3) := by decide +kernel
theorem dX9_undo_121 : decode cX9_undo 121 = .ok (.bipush 16, 2) := by decide +kernel
theorem dX9_undo_123 : decode cX9_undo 123 = .ok (.iload_n 1, 1) := by decide +kernel
theorem dX9_undo_124 : decode cX9_undo 124 = .ok (.imul, 1) := by decide +kernel
theorem dX9_undo_125 : decode cX9_undo 125 = .ok (.iload 4, 2) := by decide +kernel
theorem dX9_undo_127 : decode cX9_undo 127 = .ok (.iadd, 1) := by decide +kernel
theorem dX9_undo_128 : decode cX9_undo 128 = .ok (.aload_n 0, 1) := by decide +kernel
theorem dX9_undo_129 : decode cX9_undo 129 = .ok (.getfield 7, 3) := by decide +kernel
theorem dX9_undo_132 : decode cX9_undo 132 = .ok (.bipush 16, 2) := by decide +kernel
theorem dX9_undo_134 : decode cX9_undo 134 = .ok (.iload_n 2, 1) := by decide +kernel
theorem dX9_undo_135 : decode cX9_undo 135 = .ok (.imul, 1) := by decide +kernel
theorem dX9_undo_136 : decode cX9_undo 136 = .ok (.iload 4, 2) := by decide +kernel
theorem dX9_undo_138 : decode cX9_undo 138 = .ok (.iadd, 1) := by decide +kernel
theorem dX9_undo_139 : decode cX9_undo 139 = .ok (.iaload, 1) := by decide +kernel
theorem dX9_undo_140 : decode cX9_undo 140 = .ok (.ifCond .ne 18, 3) := by decide +kernel
theorem dX9_undo_143 : decode cX9_undo 143 = .ok (.aload_n 0, 1) := by decide +kernel
theorem dX9_undo_144 : decode cX9_undo 144 = .ok (.getfield 34, 3) := by decide +kernel
theorem dX9_undo_147 : decode cX9_undo 147 = .ok (.bipush 16, 2) := by decide +kernel
theorem dX9_undo_149 : decode cX9_undo 149 = .ok (.iload_n 1, 1) := by decide +kernel
theorem dX9_undo_150 : decode cX9_undo 150 = .ok (.imul, 1) := by decide +kernel
theorem dX9_undo_151 : decode cX9_undo 151 = .ok (.iload 4, 2) := by decide +kernel
theorem dX9_undo_153 : decode cX9_undo 153 = .ok (.iadd, 1) := by decide +kernel
theorem dX9_undo_154 : decode cX9_undo 154 = .ok (.iaload, 1) := by decide +kernel
theorem dX9_undo_155 : decode cX9_undo 155 = .ok (.goto 10, 3) := by decide +kernel
theorem dX9_undo_158 : decode cX9_undo 158 = .ok (.aload_n 0, 1) := by decide +kernel
theorem dX9_undo_159 : decode cX9_undo 159 = .ok (.iload_n 2, 1) := by decide +kernel
theorem dX9_undo_160 : decode cX9_undo 160 = .ok (.iload 4, 2) := by decide +kernel
theorem dX9_undo_162 : decode cX9_undo 162 = .ok (.invokevirtual 260, 3) := by decide +kernel
theorem dX9_undo_165 : decode cX9_undo 165 = .ok (.iastore, 1) := by decide +kernel
theorem dX9_undo_166 : decode cX9_undo 166 = .ok (.iinc 4 1, 3) := by decide +kernel
theorem dX9_undo_169 : decode cX9_undo 169 = .ok (.goto (-59), 3) := by decide +kernel
theorem dX9_undo_172 : decode cX9_undo 172 = .ok (.aload_n 0, 1) := by decide +kernel
theorem dX9_undo_173 : decode cX9_undo 173 = .ok (.getfield 31, 3) := by decide +kernel
theorem dX9_undo_176 : decode cX9_undo 176 = .ok (.iload_n 1, 1) := by decide +kernel
theorem dX9_undo_177 : decode cX9_undo 177 = .ok (.dup2, 1) := by decide +kernel
theorem dX9_undo_178 : decode cX9_undo 178 = .ok (.iaload, 1) := by decide +kernel
theorem dX9_undo_179 : decode cX9_undo 179 = .ok (.iconst 1, 1) := by decide +kernel
theorem dX9_undo_180 : decode cX9_undo 180 = .ok (.iload_n 2, 1) := by decide +kernel
theorem dX9_undo_181 : decode cX9_undo 181 = .ok (.ishl, 1) := by decide +kernel
theorem dX9_undo_182 : decode cX9_undo 182 = .ok (.iconst (-1), 1) := by decide +kernel
theorem dX9_undo_183 : decode cX9_undo 183 = .ok (.ixor, 1) := by decide +kernel
theorem dX9_undo_184 : decode cX9_undo 184 = .ok (.iand, 1) := by decide +kernel
theorem dX9_undo_185 : decode cX9_undo 185 = .ok (.iastore, 1) := by decide +kernel
theorem dX9_undo_186 : decode cX9_undo 186 = .ok (.aload_n 0, 1) := by decide +kernel
theorem dX9_undo_187 : decode cX9_undo 187 = .ok (.getfield 31, 3) := by decide +kernel
theorem dX9_undo_190 : decode cX9_undo 190 = .ok (.iload_n 1, 1) := by decide +kernel
theorem dX9_undo_191 : decode cX9_undo 191 = .ok (.iaload, 1) := by decide +kernel
theorem dX9_undo_192 : decode cX9_undo 192 = .ok (.invokestatic 289, 3) := by decide +kernel
theorem dX9_undo_195 : decode cX9_undo 195 = .ok (.ireturn, 1) := by decide +kernel
set_option maxRecDepth 20000 in
theorem ggX9_needsOf_X9_has : GoodIn wsX9_needsOf wsX9_has := goodIn_r _ [5] (by decide +kernel) (by decide +kernel)
set_option maxRecDepth 20000 in
theorem gX9_needsOf_X9_has : GoodIn wsX9_needsOf (va_wsS RX9 190 yX9_has wsX9_has) := goodIn_app (goodIn_of _ (by decide +kernel)) ggX9_needsOf_X9_has
set_option maxRecDepth 20000 in
theorem ggX9_needsOf_X9_tryLine : GoodIn wsX9_needsOf wsX9_tryLine := goodIn_r _ [9, 10, 11, 40, 41, 42, 43, 44, 45, 46, 47, 48, 49, 50, 51, 52, 53, 54, 55, 56, 57, 58, 59, 60, 61, 62, 63, 64, 65, 66, 67, 68, 69, 70, 71, 72, 73, 74, 75, 76, 77, 78, 79, 80, 81, 82, 83, 84, 85, 86, 87, 88, 89, 90, 91, 92, 93, 94] (by decide +kernel) (by decide +kernel)
set_option maxRecDepth 20000 in
theorem gX9_needsOf_X9_tryLine : GoodIn wsX9_needsOf (wsV RX9 282 RX9 yX9_tryLine wsX9_tryLine) := goodIn_app (goodIn_of _ (by decide +kernel)) ggX9_needsOf_X9_tryLine
set_option maxRecDepth 20000 in
theorem ggX9_needsOf_X9_clashOf : GoodIn wsX9_needsOf wsX9_clashOf := goodIn_r _ [15, 16, 10, 17, 18, 19, 4, 20, 21, 2, 3, 5, 22, 23, 24, 25, 26, 40, 41, 42, 43, 44, 45, 46, 47, 48, 49, 50, 51, 52, 53, 54, 55, 56, 57, 58, 59, 60, 61, 62, 63, 64, 65, 66, 67, 68, 69, 70, 71, 72, 73, 74, 75, 76, 77, 78, 79, 80, 81, 82, 83, 84, 85, 86, 87, 88, 89, 90, 91, 92, 93, 94] (by decide +kernel) (by decide +kernel)
set_option maxRecDepth 20000 in
theorem gX9_needsOf_X9_clashOf : GoodIn wsX9_needsOf (wsV RX9 275 RX9 yX9_clashOf wsX9_clashOf) := goodIn_app (goodIn_of _ (by decide +kernel)) ggX9_needsOf_X9_clashOf
set_option maxRecDepth 20000 in
theorem ggX9_needsOf_X9_setter : GoodIn wsX9_needsOf wsX9_setter := goodIn_r _ [30, 21, 40, 41, 42, 43, 44, 45, 46, 47, 48, 49, 50, 51, 52, 53, 54, 55, 56, 57, 58, 59, 60, 61, 62, 63, 64, 65, 66, 67, 68, 69, 70, 71, 72, 73, 74, 75, 76, 77, 78, 79, 80, 81, 82, 83, 84, 85, 86, 87, 88, 89, 90, 91, 92, 93, 94] (by decide +kernel) (by decide +kernel)
set_option maxRecDepth 20000 in
theorem gX9_needsOf_X9_setter : GoodIn wsX9_needsOf (wsV RX9 257 RX9 yX9_setter wsX9_setter) := goodIn_app (goodIn_of _ (by decide +kernel)) ggX9_needsOf_X9_setter
set_option maxRecDepth 20000 in
theorem ggX9_needsOf_X9_goAll : GoodIn wsX9_needsOf wsX9_goAll := goodIn_r _ [34, 35, 2, 3, 4, 5, 12, 13, 14, 15, 16, 10, 17, 18, 19, 20, 21, 22, 23, 24, 25, 26, 36, 37, 38, 39, 40, 41, 42, 43, 44, 45, 46, 47, 48, 49, 50, 51, 52, 53, 54, 55, 56, 57, 58, 59, 60, 61, 62, 63, 64, 65, 66, 67, 68, 69, 70, 71, 72, 73, 74, 75, 76, 77, 78, 79, 80, 81, 82, 83, 84, 85, 86, 87, 88, 89, 90, 91, 92, 93, 94] (by decide +kernel) (by decide +kernel)
set_option maxRecDepth 20000 in
theorem gX9_needsOf_X9_goAll : GoodIn wsX9_needsOf (wsV RX9 292 RX9 yX9_goAll wsX9_goAll) := goodIn_app (goodIn_of _ (by decide +kernel)) ggX9_needsOf_X9_goAll
theorem dX9_needsOf_0 : decode cX9_needsOf 0 = .ok (.aload_n 0, 1) := by decide +kernel
theorem dX9_needsOf_1 : decode cX9_needsOf 1 = .ok (.getfield 31, 3) := by decide +kernel
theorem dX9_needsOf_4 : decode cX9_needsOf 4 = .ok (.iload_n 1, 1) := by decide +kernel
theorem dX9_needsOf_5 : decode cX9_needsOf 5 = .ok (.iaload, 1) := by decide +kernel
theorem dX9_needsOf_6 : decode cX9_needsOf 6 = .ok (.iload_n 2, 1) := by decide +kernel
theorem dX9_needsOf_7 : decode cX9_needsOf 7 = .ok (.invokestatic 190, 3) := by decide +kernel
theorem dX9_needsOf_10 : decode cX9_needsOf 10 = .ok (.ifCond .eq 5, 3) := by decide +kernel
theorem dX9_needsOf_13 : decode cX9_needsOf 13 = .ok (.iconst (-1), 1) := by decide +kernel
theorem dX9_needsOf_14 : decode cX9_needsOf 14 = .ok (.ireturn, 1) := by decide +kernel
theorem dX9_needsOf_15 : decode cX9_needsOf 15 = .ok (.iconst 0, 1) := by decide +kernel
theorem dX9_needsOf_16 : decode cX9_needsOf 16 = .ok (.istore_n 3, 1) := by decide +kernel
theorem dX9_needsOf_17 : decode cX9_needsOf 17 = .ok (.aload_n 0, 1) := by decide +kernel
theorem dX9_needsOf_18 : decode cX9_needsOf 18 = .ok (.iload_n 1, 1) := by decide +kernel
theorem dX9_needsOf_19 : decode cX9_needsOf 19 = .ok (.invokevirtual 282, 3) := by decide +kernel
theorem dX9_needsOf_22 : decode cX9_needsOf 22 = .ok (.iload_n 2, 1) := by decide +kernel
theorem dX9_needsOf_23 : decode cX9_needsOf 23 = .ok (.istore 4, 2) := by decide +kernel
theorem dX9_needsOf_25 : decode cX9_needsOf 25 = .ok (.iload 4, 2) := by decide +kernel
theorem dX9_needsOf_27 : decode cX9_needsOf 27 = .ok (.ifCond .lt 96, 3) := by decide +kernel
theorem dX9_needsOf_30 : decode cX9_needsOf 30 = .ok (.iload 4, 2) := by decide +kernel
theorem dX9_needsOf_32 : decode cX9_needsOf 32 = .ok (.iload_n 2, 1) := by decide +kernel
theorem dX9_needsOf_33 : decode cX9_needsOf 33 = .ok (.if_icmp .eq 12, 3) := by decide +kernel
theorem dX9_needsOf_36 : decode cX9_needsOf 36 = .ok (.iload_n 3, 1) := by decide +kernel
theorem dX9_needsOf_37 : decode cX9_needsOf 37 = .ok (.iload 4, 2) := by decide +kernel
theorem dX9_needsOf_39 : decode cX9_needsOf 39 = .ok (.invokestatic 190, 3) := by decide +kernel
theorem dX9_needsOf_42 : decode cX9_needsOf 42 = .ok (.ifCond .eq 75, 3) := by decide +kernel
theorem dX9_needsOf_45 : decode cX9_needsOf 45 = .ok (.aload_n 0, 1) := by decide +kernel
theorem dX9_needsOf_46 : decode cX9_needsOf 46 = .ok (.iload 4, 2) := by decide +kernel
theorem dX9_needsOf_48 : decode cX9_needsOf 48 = .ok (.invokevirtual 275, 3) := by decide +kernel
theorem dX9_needsOf_51 : decode cX9_needsOf 51 = .ok (.istore 5, 2) := by decide +kernel
theorem dX9_needsOf_53 : decode cX9_needsOf 53 = .ok (.iconst 0, 1) := by decide +kernel
theorem dX9_needsOf_54 : decode cX9_needsOf 54 = .ok (.istore 6, 2) := by decide +kernel
theorem dX9_needsOf_56 : decode cX9_needsOf 56 = .ok (.iload 6, 2) := by decide +kernel
theorem dX9_needsOf_58 : decode cX9_needsOf 58 = .ok (.bipush 16, 2) := by decide +kernel
theorem dX9_needsOf_60 : decode cX9_needsOf 60 = .ok (.if_icmp .ge 57, 3) := by decide +kernel
theorem dX9_needsOf_63 : decode cX9_needsOf 63 = .ok (.iload 5, 2) := by decide +kernel
theorem dX9_needsOf_65 : decode cX9_needsOf 65 = .ok (.iload 6, 2) := by decide +kernel
theorem dX9_needsOf_67 : decode cX9_needsOf 67 = .ok (.invokestatic 190, 3) := by decide +kernel
theorem dX9_needsOf_70 : decode cX9_needsOf 70 = .ok (.ifCond .eq 41, 3) := by decide +kernel
theorem dX9_needsOf_73 : decode cX9_needsOf 73 = .ok (.aload_n 0, 1) := by decide +kernel
theorem dX9_needsOf_74 : decode cX9_needsOf 74 = .ok (.iload 4, 2) := by decide +kernel
theorem dX9_needsOf_76 : decode cX9_needsOf 76 = .ok (.iload 6, 2) := by decide +kernel
theorem dX9_needsOf_78 : decode cX9_needsOf 78 = .ok (.invokevirtual 257, 3) := by decide +kernel
theorem dX9_needsOf_81 : decode cX9_needsOf 81 = .ok (.istore 7, 2) := by decide +kernel
theorem dX9_needsOf_83 : decode cX9_needsOf 83 = .ok (.iload 7, 2) := by decide +kernel
theorem dX9_needsOf_85 : decode cX9_needsOf 85 = .ok (.ifCond .lt 17, 3) := by decide +kernel
theorem dX9_needsOf_88 : decode cX9_needsOf 88 = .ok (.aload_n 0, 1) := by decide +kernel
theorem dX9_needsOf_89 : decode cX9_needsOf 89 = .ok (.getfield 31, 3) := by decide +kernel
theorem dX9_needsOf_92 : decode cX9_needsOf 92 = .ok (.iload_n 1, 1) := by decide +kernel
theorem dX9_needsOf_93 : decode cX9_needsOf 93 = .ok (.iaload, 1) := by decide +kernel
theorem dX9_needsOf_94 : decode cX9_needsOf 94 = .ok (.iload 7, 2) := by decide +kernel
theorem dX9_needsOf_96 : decode cX9_needsOf 96 = .ok (.invokestatic 190, 3) := by decide +kernel
theorem dX9_needsOf_99 : decode cX9_needsOf 99 = .ok (.ifCond .eq 5, 3) := by decide +kernel
theorem dX9_needsOf_102 : decode cX9_needsOf 102 = .ok (.iconst (-1), 1) := by decide +kernel
theorem dX9_needsOf_103 : decode cX9_needsOf 103 = .ok (.ireturn, 1) := by decide +kernel
theorem dX9_needsOf_104 : decode cX9_needsOf 104 = .ok (.iload_n 3, 1) := by decide +kernel
theorem dX9_needsOf_105 : decode cX9_needsOf 105 = .ok (.iconst 1, 1) := by decide +kernel
theorem dX9_needsOf_106 : decode cX9_needsOf 106 = .ok (.iload 7, 2) := by decide +kernel
theorem dX9_needsOf_108 : decode cX9_needsOf 108 = .ok (.ishl, 1) := by decide +kernel
theorem dX9_needsOf_109 : decode cX9_needsOf 109 = .ok (.ior, 1) := by decide +kernel
theorem dX9_needsOf_110 : decode cX9_needsOf 110 = .ok (.istore_n 3, 1) := by decide +kernel
theorem dX9_needsOf_111 : decode cX9_needsOf 111 = .ok (.iinc 6 1, 3) := by decide +kernel
theorem dX9_needsOf_114 : decode cX9_needsOf 114 = .ok (.goto (-58), 3) := by decide +kernel
theorem dX9_needsOf_117 : decode cX9_needsOf 117 = .ok (.iinc 4 (-1), 3) := by decide +kernel
theorem dX9_needsOf_120 : decode cX9_needsOf 120 = .ok (.goto (-95), 3) := by decide +kernel
theorem dX9_needsOf_123 : decode cX9_needsOf 123 = .ok (.aload_n 0, 1) := by decide +kernel
theorem dX9_needsOf_124 : decode cX9_needsOf 124 = .ok (.iload_n 3, 1) := by decide +kernel
theorem dX9_needsOf_125 : decode cX9_needsOf 125 = .ok (.iconst 1, 1) := by decide +kernel
theorem dX9_needsOf_126 : decode cX9_needsOf 126 = .ok (.iload_n 2, 1) := by decide +kernel
theorem dX9_needsOf_127 : decode cX9_needsOf 127 = .ok (.ishl, 1) := by decide +kernel
theorem dX9_needsOf_128 : decode cX9_needsOf 128 = .ok (.ior, 1) := by decide +kernel
theorem dX9_needsOf_129 : decode cX9_needsOf 129 = .ok (.invokevirtual 292, 3) := by decide +kernel
theorem dX9_needsOf_132 : decode cX9_needsOf 132 = .ok (.ifCond .eq 7, 3) := by decide +kernel
theorem dX9_needsOf_135 : decode cX9_needsOf 135 = .ok (.iload_n 3, 1) := by decide +kernel
theorem dX9_needsOf_136 : decode cX9_needsOf 136 = .ok (.goto 4, 3) := by decide +kernel
theorem dX9_needsOf_139 : decode cX9_needsOf 139 = .ok (.iconst (-1), 1) := by decide +kernel
theorem dX9_needsOf_140 : decode cX9_needsOf 140 = .ok (.ireturn, 1) := by decide +kernel
set_option maxRecDepth 20000 in
theorem ggX9_needs_X9_isLine : GoodIn wsX9_needs wsX9_isLine := goodIn_r _ [5, 6, 7, 8, 4, 9, 56, 57, 58, 59, 60, 61, 62, 63, 64, 65, 66, 67, 68, 69, 70, 71, 72, 73, 74, 75, 76, 77, 78, 79, 80, 81, 82, 83, 84, 85, 86, 87, 88, 89, 90, 91, 92, 93, 94, 95, 96, 97, 98, 99, 100, 101, 102, 103, 104, 105, 106, 107, 108, 109, 110] (by decide +kernel) (by decide +kernel)
set_option maxRecDepth 20000 in
theorem gX9_needs_X9_isLine : GoodIn wsX9_needs (wsV RX9 266 RX9 yX9_isLine wsX9_isLine) := goodIn_app (goodIn_of _ (by decide +kernel)) ggX9_needs_X9_isLine
set_option maxRecDepth 20000 in
theorem ggX9_needs_X9_isChange : GoodIn wsX9_needs wsX9_isChange := goodIn_r _ [13, 14, 7, 8, 4, 9, 56, 57, 58, 59, 60, 61, 62, 63, 64, 65, 66, 67, 68, 69, 70, 71, 72, 73, 74, 75, 76, 77, 78, 79, 80, 81, 82, 83, 84, 85, 86, 87, 88, 89, 90, 91, 92, 93, 94, 95, 96, 97, 98, 99, 100, 101, 102, 103, 104, 105, 106, 107, 108, 109, 110] (by decide +kernel) (by decide +kernel)
set_option maxRecDepth 20000 in
theorem gX9_needs_X9_isChange : GoodIn wsX9_needs (wsV RX9 243 RX9 yX9_isChange wsX9_isChange) := goodIn_app (goodIn_of _ (by decide +kernel)) ggX9_needs_X9_isChange
set_option maxRecDepth 20000 in
theorem ggX9_needs_X9_needsOf : GoodIn wsX9_needs wsX9_needsOf := goodIn_r _ [18, 19, 20, 21, 4, 22, 23, 24, 25, 26, 27, 28, 29, 30, 31, 32, 33, 34, 35, 36, 37, 38, 39, 40, 41, 42, 43, 44, 45, 46, 47, 48, 49, 50, 51, 14, 52, 53, 54, 55, 56, 57, 58, 59, 60, 61, 62, 63, 64, 65, 66, 67, 68, 69, 70, 71, 72, 73, 74, 75, 76, 77, 78, 79, 80, 81, 82, 83, 84, 85, 86, 87, 88, 89, 90, 91, 92, 93, 94, 95, 96, 97, 98, 99, 100, 101, 102, 103, 104, 105, 106, 107, 108, 109, 110] (by decide +kernel) (by decide +kernel)
set_option maxRecDepth 20000 in
theorem gX9_needs_X9_needsOf : GoodIn wsX9_needs (wsV RX9 295 RX9 yX9_needsOf wsX9_needsOf) := goodIn_app (goodIn_of _ (by decide +kernel)) ggX9_needs_X9_needsOf
theorem dX9_needs_0 : decode cX9_needs 0 = .ok (.aload_n 0, 1) := by decide +kernel
theorem dX9_needs_1 : decode cX9_needs 1 = .ok (.iload_n 1, 1) := by decide +kernel
theorem dX9_needs_2 : decode cX9_needs 2 = .ok (.invokevirtual 266, 3) := by decide +kernel
theorem dX9_needs_5 : decode cX9_needs 5 = .ok (.ifCond .eq 20, 3) := by decide +kernel
theorem dX9_needs_8 : decode cX9_needs 8 = .ok (.aload_n 0, 1) := by decide +kernel
theorem dX9_needs_9 : decode cX9_needs 9 = .ok (.iload_n 2, 1) := by decide +kernel
theorem dX9_needs_10 : decode cX9_needs 10 = .ok (.invokevirtual 243, 3) := by decide +kernel
theorem dX9_needs_13 : decode cX9_needs 13 = .ok (.ifCond .eq 12, 3) := by decide +kernel
theorem dX9_needs_16 : decode cX9_needs 16 = .ok (.aload_n 0, 1) := by decide +kernel
theorem dX9_needs_17 : decode cX9_needs 17 = .ok (.iload_n 1, 1) := by decide +kernel
theorem dX9_needs_18 : decode cX9_needs 18 = .ok (.iload_n 2, 1) := by decide +kernel
theorem dX9_needs_19 : decode cX9_needs 19 = .ok (.invokevirtual 295, 3) := by decide +kernel
theorem dX9_needs_22 : decode cX9_needs 22 = .ok (.goto 6, 3) := by decide +kernel
theorem dX9_needs_25 : decode cX9_needs 25 = .ok (.sipush (-1001), 3) := by decide +kernel
theorem dX9_needs_28 : decode cX9_needs 28 = .ok (.ireturn, 1) := by decide +kernel
set_option maxRecDepth 20000 in
theorem ggX9_carry_X9_isLine : GoodIn wsX9_carry wsX9_isLine := goodIn_r _ [5, 6, 7, 8, 4, 9, 63, 64, 65, 66, 67, 68, 69, 70, 71, 72, 73, 74, 75, 76, 77, 78, 79, 80, 81, 82, 83, 84, 85, 86, 87, 88, 89, 90, 91, 92, 93, 94, 95, 96, 97, 98, 99, 100, 101, 102, 103, 104, 105, 106, 107, 108, 109, 110, 111, 112, 113, 114, 115, 116, 117] (by decide +kernel) (by decide +kernel)
set_option maxRecDepth 20000 in
theorem gX9_carry_X9_isLine : GoodIn wsX9_carry (wsV RX9 266 RX9 yX9_isLine wsX9_isLine) := goodIn_app (goodIn_of _ (by decide +kernel)) ggX9_carry_X9_isLine
set_option maxRecDepth 20000 in
theorem ggX9_carry_X9_isChange : GoodIn wsX9_carry wsX9_isChange := goodIn_r _ [13, 14, 7, 8, 4, 9, 63, 64, 65, 66, 67, 68, 69, 70, 71, 72, 73, 74, 75, 76, 77, 78, 79, 80, 81, 82, 83, 84, 85, 86, 87, 88, 89, 90, 91, 92, 93, 94, 95, 96, 97, 98, 99, 100, 101, 102, 103, 104, 105, 106, 107, 108, 109, 110, 111, 112, 113, 114, 115, 116, 117] (by decide +kernel) (by decide +kernel)
set_option maxRecDepth 20000 in
theorem gX9_carry_X9_isChange : GoodIn wsX9_carry (wsV RX9 243 RX9 yX9_isChange wsX9_isChange) := goodIn_app (goodIn_of _ (by decide +kernel)) ggX9_carry_X9_isChange
set_option maxRecDepth 20000 in
theorem ggX9_carry_X9_needsOf : GoodIn wsX9_carry wsX9_needsOf := goodIn_r _ [18, 19, 20, 21, 4, 22, 23, 24, 25, 26, 27, 28, 29, 30, 31, 32, 33, 34, 35, 36, 37, 38, 39, 40, 41, 42, 43, 44, 45, 46, 47, 48, 49, 50, 51, 14, 52, 53, 54, 55, 63, 64, 65, 66, 67, 68, 69, 70, 71, 72, 73, 74, 75, 76, 77, 78, 79, 80, 81, 82, 83, 84, 85, 86, 87, 88, 89, 90, 91, 92, 93, 94, 95, 96, 97, 98, 99, 100, 101, 102, 103, 104, 105, 106, 107, 108, 109, 110, 111, 112, 113, 114, 115, 116, 117] (by decide +kernel) (by decide +kernel)
set_option maxRecDepth 20000 in
theorem gX9_carry_X9_needsOf : GoodIn wsX9_carry (wsV RX9 295 RX9 yX9_needsOf wsX9_needsOf) := goodIn_app (goodIn_of _ (by decide +kernel)) ggX9_carry_X9_needsOf
set_option maxRecDepth 20000 in
theorem ggX9_carry_X9_putLine : GoodIn wsX9_carry wsX9_putLine := goodIn_r _ [59, 28, 27, 19, 63, 64, 65, 66, 67, 68, 69, 70, 71, 72, 73, 74, 75, 76, 77, 78, 79, 80, 81, 82, 83, 84, 85, 86, 87, 88, 89, 90, 91, 92, 93, 94, 95, 96, 97, 98, 99, 100, 101, 102, 103, 104, 105, 106, 107, 108, 109, 110, 111, 112, 113, 114, 115, 116, 117] (by decide +kernel) (by decide +kernel)
set_option maxRecDepth 20000 in
theorem gX9_carry_X9_putLine : GoodIn wsX9_carry (wsV RX9 285 RX9 yX9_putLine wsX9_putLine) := goodIn_app (goodIn_of _ (by decide +kernel)) ggX9_carry_X9_putLine
set_option maxRecDepth 20000 in
theorem ggX9_carry_X9_bits : GoodIn wsX9_carry wsX9_bits := goodIn_r _ [62] (by decide +kernel) (by decide +kernel)
set_option maxRecDepth 20000 in
theorem gX9_carry_X9_bits : GoodIn wsX9_carry (va_wsS RX9 289 yX9_bits wsX9_bits) := goodIn_app (goodIn_of _ (by decide +kernel)) ggX9_carry_X9_bits
theorem dX9_carry_0 : decode cX9_carry 0 = .ok (.aload_n 0, 1) := by decide +kernel
theorem dX9_carry_1 : decode cX9_carry 1 = .ok (.iload_n 1, 1) := by decide +kernel
theorem dX9_carry_2 : decode cX9_carry 2 = .ok (.invokevirtual 266, 3) := by decide +kernel
theorem dX9_carry_5 : decode cX9_carry 5 = .ok (.ifCond .eq 11, 3) := by decide +kernel
theorem dX9_carry_8 : decode cX9_carry 8 = .ok (.aload_n 0, 1) := by decide +kernel
theorem dX9_carry_9 : decode cX9_carry 9 = .ok (.iload_n 2, 1) := by decide +kernel
theorem dX9_carry_10 : decode cX9_carry 10 = .ok (.invokevirtual 243, 3) := by decide +kernel
theorem dX9_carry_13 : decode cX9_carry 13 = .ok (.ifCond .ne 7, 3) := by decide +kernel
theorem dX9_carry_16 : decode cX9_carry 16 = .ok (.sipush (-1001), 3) := by decide +kernel
theorem dX9_carry_19 : decode cX9_carry 19 = .ok (.ireturn, 1) := by decide +kernel
theorem dX9_carry_20 : decode cX9_carry 20 = .ok (.aload_n 0, 1) := by decide +kernel
theorem dX9_carry_21 : decode cX9_carry 21 = .ok (.iload_n 1, 1) := by decide +kernel
theorem dX9_carry_22 : decode cX9_carry 22 = .ok (.iload_n 2, 1) := by decide +kernel
theorem dX9_carry_23 : decode cX9_carry 23 = .ok (.invokevirtual 295, 3) := by decide +kernel
theorem dX9_carry_26 : decode cX9_carry 26 = .ok (.istore_n 3, 1) := by decide +kernel
theorem dX9_carry_27 : decode cX9_carry 27 = .ok (.iload_n 3, 1) := by decide +kernel
theorem dX9_carry_28 : decode cX9_carry 28 = .ok (.ifCond .ge 7, 3) := by decide +kernel
theorem dX9_carry_31 : decode cX9_carry 31 = .ok (.sipush (-1003), 3) := by decide +kernel
theorem dX9_carry_34 : decode cX9_carry 34 = .ok (.ireturn, 1) := by decide +kernel
theorem dX9_carry_35 : decode cX9_carry 35 = .ok (.aload_n 0, 1) := by decide +kernel
theorem dX9_carry_36 : decode cX9_carry 36 = .ok (.iload_n 1, 1) := by decide +kernel
theorem dX9_carry_37 : decode cX9_carry 37 = .ok (.iload_n 3, 1) := by decide +kernel
theorem dX9_carry_38 : decode cX9_carry 38 = .ok (.iconst 1, 1) := by decide +kernel
theorem dX9_carry_39 : decode cX9_carry 39 = .ok (.iload_n 2, 1) := by decide +kernel
theorem dX9_carry_40 : decode cX9_carry 40 = .ok (.ishl, 1) := by decide +kernel
theorem dX9_carry_41 : decode cX9_carry 41 = .ok (.ior, 1) := by decide +kernel
theorem dX9_carry_42 : decode cX9_carry 42 = .ok (.invokevirtual 285, 3) := by decide +kernel
theorem dX9_carry_45 : decode cX9_carry 45 = .ok (.iload_n 3, 1) := by decide +kernel
theorem dX9_carry_46 : decode cX9_carry 46 = .ok (.invokestatic 289, 3) := by decide +kernel
theorem dX9_carry_49 : decode cX9_carry 49 = .ok (.iconst 1, 1) := by decide +kernel
theorem dX9_carry_50 : decode cX9_carry 50 = .ok (.iadd, 1) := by decide +kernel
theorem dX9_carry_51 : decode cX9_carry 51 = .ok (.ireturn, 1) := by decide +kernel
set_option maxRecDepth 20000 in
theorem ggX9_goBoth_X9_tryLine : GoodIn wsX9_goBoth wsX9_tryLine := goodIn_r _ [5, 6, 7, 30, 31, 32, 33, 34, 35, 36, 37, 38, 39, 40, 41, 42, 43, 44, 45, 46, 47, 48, 49, 50, 51, 52, 53, 54, 55, 56, 57, 58, 59, 60, 61, 62, 63, 64, 65, 66, 67, 68, 69, 70, 71, 72, 73, 74, 75, 76, 77, 78, 79, 80, 81, 82, 83, 84] (by decide +kernel) (by decide +kernel)
set_option maxRecDepth 20000 in
theorem gX9_goBoth_X9_tryLine : GoodIn wsX9_goBoth (wsV RX9 282 RX9 yX9_tryLine wsX9_tryLine) := goodIn_app (goodIn_of _ (by decide +kernel)) ggX9_goBoth_X9_tryLine
set_option maxRecDepth 20000 in
theorem ggX9_goBoth_X9_clashOf : GoodIn wsX9_goBoth wsX9_clashOf := goodIn_r _ [11, 12, 6, 13, 14, 15, 4, 16, 17, 18, 19, 20, 21, 22, 23, 24, 25, 30, 31, 32, 33, 34, 35, 36, 37, 38, 39, 40, 41, 42, 43, 44, 45, 46, 47, 48, 49, 50, 51, 52, 53, 54, 55, 56, 57, 58, 59, 60, 61, 62, 63, 64, 65, 66, 67, 68, 69, 70, 71, 72, 73, 74, 75, 76, 77, 78, 79, 80, 81, 82, 83, 84] (by decide +kernel) (by decide +kernel)
set_option maxRecDepth 20000 in
theorem gX9_goBoth_X9_clashOf : GoodIn wsX9_goBoth (wsV RX9 275 RX9 yX9_clashOf wsX9_clashOf) := goodIn_app (goodIn_of _ (by decide +kernel)) ggX9_goBoth_X9_clashOf
set_option maxRecDepth 20000 in
theorem ggX9_goBoth_X9_goOn : GoodIn wsX9_goBoth wsX9_goOn := goodIn_r _ [29, 6, 17, 30, 31, 32, 33, 34, 35, 36, 37, 38, 39, 40, 41, 42, 43, 44, 45, 46, 47, 48, 49, 50, 51, 52, 53, 54, 55, 56, 57, 58, 59, 60, 61, 62, 63, 64, 65, 66, 67, 68, 69, 70, 71, 72, 73, 74, 75, 76, 77, 78, 79, 80, 81, 82, 83, 84] (by decide +kernel) (by decide +kernel)
set_option maxRecDepth 20000 in
theorem gX9_goBoth_X9_goOn : GoodIn wsX9_goBoth (wsV RX9 278 RX9 yX9_goOn wsX9_goOn) := goodIn_app (goodIn_of _ (by decide +kernel)) ggX9_goBoth_X9_goOn
theorem dX9_goBoth_0 : decode cX9_goBoth 0 = .ok (.aload_n 0, 1) := by decide +kernel
theorem dX9_goBoth_1 : decode cX9_goBoth 1 = .ok (.iload_n 1, 1) := by decide +kernel
theorem dX9_goBoth_2 : decode cX9_goBoth 2 = .ok (.invokevirtual 282, 3) := by decide +kernel
theorem dX9_goBoth_5 : decode cX9_goBoth 5 = .ok (.aload_n 0, 1) := by decide +kernel
theorem dX9_goBoth_6 : decode cX9_goBoth 6 = .ok (.iload_n 2, 1) := by decide +kernel
theorem dX9_goBoth_7 : decode cX9_goBoth 7 = .ok (.invokevirtual 275, 3) := by decide +kernel
theorem dX9_goBoth_10 : decode cX9_goBoth 10 = .ok (.ifCond .ne 7, 3) := by decide +kernel
theorem dX9_goBoth_13 : decode cX9_goBoth 13 = .ok (.iconst 1, 1) := by decide +kernel
theorem dX9_goBoth_14 : decode cX9_goBoth 14 = .ok (.goto 4, 3) := by decide +kernel
theorem dX9_goBoth_17 : decode cX9_goBoth 17 = .ok (.iconst 0, 1) := by decide +kernel
theorem dX9_goBoth_18 : decode cX9_goBoth 18 = .ok (.istore 4, 2) := by decide +kernel
theorem dX9_goBoth_20 : decode cX9_goBoth 20 = .ok (.aload_n 0, 1) := by decide +kernel
theorem dX9_goBoth_21 : decode cX9_goBoth 21 = .ok (.iload_n 2, 1) := by decide +kernel
theorem dX9_goBoth_22 : decode cX9_goBoth 22 = .ok (.invokevirtual 278, 3) := by decide +kernel
theorem dX9_goBoth_25 : decode cX9_goBoth 25 = .ok (.iload 4, 2) := by decide +kernel
theorem dX9_goBoth_27 : decode cX9_goBoth 27 = .ok (.ifCond .eq 15, 3) := by decide +kernel
theorem dX9_goBoth_30 : decode cX9_goBoth 30 = .ok (.aload_n 0, 1) := by decide +kernel
theorem dX9_goBoth_31 : decode cX9_goBoth 31 = .ok (.iload_n 3, 1) := by decide +kernel
theorem dX9_goBoth_32 : decode cX9_goBoth 32 = .ok (.invokevirtual 275, 3) := by decide +kernel
theorem dX9_goBoth_35 : decode cX9_goBoth 35 = .ok (.ifCond .ne 7, 3) := by decide +kernel
theorem dX9_goBoth_38 : decode cX9_goBoth 38 = .ok (.iconst 1, 1) := by decide +kernel
theorem dX9_goBoth_39 : decode cX9_goBoth 39 = .ok (.goto 4, 3) := by decide +kernel
theorem dX9_goBoth_42 : decode cX9_goBoth 42 = .ok (.iconst 0, 1) := by decide +kernel
theorem dX9_goBoth_43 : decode cX9_goBoth 43 = .ok (.istore 4, 2) := by decide +kernel
theorem dX9_goBoth_45 : decode cX9_goBoth 45 = .ok (.aload_n 0, 1) := by decide +kernel
theorem dX9_goBoth_46 : decode cX9_goBoth 46 = .ok (.iload_n 3, 1) := by decide +kernel
theorem dX9_goBoth_47 : decode cX9_goBoth 47 = .ok (.invokevirtual 278, 3) := by decide +kernel
theorem dX9_goBoth_50 : decode cX9_goBoth 50 = .ok (.iload 4, 2) := by decide +kernel
theorem dX9_goBoth_52 : decode cX9_goBoth 52 = .ok (.ireturn, 1) := by decide +kernel
set_option maxRecDepth 20000 in
theorem ggX9_apart_X9_isLine : GoodIn wsX9_apart wsX9_isLine := goodIn_r _ [8, 9, 10, 11, 7, 12, 49, 50, 51, 52, 53, 54, 55, 56, 57, 58, 59, 60, 61, 62, 63, 64, 65, 66, 67, 68, 69, 70, 71, 72, 73, 74, 75, 76, 77, 78, 79, 80, 81, 82, 83, 84, 85, 86, 87, 88, 89, 90, 91, 92, 93, 94, 95, 96, 97, 98, 99, 100, 101, 102, 103] (by decide +kernel) (by decide +kernel)
set_option maxRecDepth 20000 in
theorem gX9_apart_X9_isLine : GoodIn wsX9_apart (wsV RX9 266 RX9 yX9_isLine wsX9_isLine) := goodIn_app (goodIn_of _ (by decide +kernel)) ggX9_apart_X9_isLine
set_option maxRecDepth 20000 in
theorem ggX9_apart_X9_isChange : GoodIn wsX9_apart wsX9_isChange := goodIn_r _ [16, 17, 10, 11, 7, 12, 49, 50, 51, 52, 53, 54, 55, 56, 57, 58, 59, 60, 61, 62, 63, 64, 65, 66, 67, 68, 69, 70, 71, 72, 73, 74, 75, 76, 77, 78, 79, 80, 81, 82, 83, 84, 85, 86, 87, 88, 89, 90, 91, 92, 93, 94, 95, 96, 97, 98, 99, 100, 101, 102, 103] (by decide +kernel) (by decide +kernel)
set_option maxRecDepth 20000 in
theorem gX9_apart_X9_isChange : GoodIn wsX9_apart (wsV RX9 243 RX9 yX9_isChange wsX9_isChange) := goodIn_app (goodIn_of _ (by decide +kernel)) ggX9_apart_X9_isChange
set_option maxRecDepth 20000 in
theorem ggX9_apart_X9_has : GoodIn wsX9_apart wsX9_has := goodIn_r _ [20] (by decide +kernel) (by decide +kernel)
set_option maxRecDepth 20000 in
theorem gX9_apart_X9_has : GoodIn wsX9_apart (va_wsS RX9 190 yX9_has wsX9_has) := goodIn_app (goodIn_of _ (by decide +kernel)) ggX9_apart_X9_has
set_option maxRecDepth 20000 in
theorem ggX9_apart_X9_goBoth : GoodIn wsX9_apart wsX9_goBoth := goodIn_r _ [24, 25, 26, 27, 7, 28, 3, 29, 30, 31, 32, 33, 34, 35, 36, 37, 38, 39, 18, 19, 20, 40, 41, 42, 43, 44, 45, 46, 47, 48, 49, 50, 51, 52, 53, 54, 55, 56, 57, 58, 59, 60, 61, 62, 63, 64, 65, 66, 67, 68, 69, 70, 71, 72, 73, 74, 75, 76, 77, 78, 79, 80, 81, 82, 83, 84, 85, 86, 87, 88, 89, 90, 91, 92, 93, 94, 95, 96, 97, 98, 99, 100, 101, 102, 103] (by decide +kernel) (by decide +kernel)
set_option maxRecDepth 20000 in
theorem gX9_apart_X9_goBoth : GoodIn wsX9_apart (wsV RX9 298 RX9 yX9_goBoth wsX9_goBoth) := goodIn_app (goodIn_of _ (by decide +kernel)) ggX9_apart_X9_goBoth
theorem dX9_apart_0 : decode cX9_apart 0 = .ok (.aload_n 0, 1) := by decide +kernel
theorem dX9_apart_1 : decode cX9_apart 1 = .ok (.iload_n 1, 1) := by decide +kernel
theorem dX9_apart_2 : decode cX9_apart 2 = .ok (.invokevirtual 266, 3) := by decide +kernel
theorem dX9_apart_5 : decode cX9_apart 5 = .ok (.ifCond .eq 24, 3) := by decide +kernel
theorem dX9_apart_8 : decode cX9_apart 8 = .ok (.aload_n 0, 1) := by decide +kernel
theorem dX9_apart_9 : decode cX9_apart 9 = .ok (.iload_n 2, 1) := by decide +kernel
theorem dX9_apart_10 : decode cX9_apart 10 = .ok (.invokevirtual 243, 3) := by decide +kernel
theorem dX9_apart_13 : decode cX9_apart 13 = .ok (.ifCond .eq 16, 3) := by decide +kernel
theorem dX9_apart_16 : decode cX9_apart 16 = .ok (.aload_n 0, 1) := by decide +kernel
theorem dX9_apart_17 : decode cX9_apart 17 = .ok (.iload_n 3, 1) := by decide +kernel
theorem dX9_apart_18 : decode cX9_apart 18 = .ok (.invokevirtual 243, 3) := by decide +kernel
theorem dX9_apart_21 : decode cX9_apart 21 = .ok (.ifCond .eq 8, 3) := by decide +kernel
theorem dX9_apart_24 : decode cX9_apart 24 = .ok (.iload_n 2, 1) := by decide +kernel
theorem dX9_apart_25 : decode cX9_apart 25 = .ok (.iload_n 3, 1) := by decide +kernel
theorem dX9_apart_26 : decode cX9_apart 26 = .ok (.if_icmp .ne 7, 3) := by decide +kernel
theorem dX9_apart_29 : decode cX9_apart 29 = .ok (.sipush (-1001), 3) := by decide +kernel
theorem dX9_apart_32 : decode cX9_apart 32 = .ok (.ireturn, 1) := by decide +kernel
theorem dX9_apart_33 : decode cX9_apart 33 = .ok (.aload_n 0, 1) := by decide +kernel
theorem dX9_apart_34 : decode cX9_apart 34 = .ok (.getfield 31, 3) := by decide +kernel
theorem dX9_apart_37 : decode cX9_apart 37 = .ok (.iload_n 1, 1) := by decide +kernel
theorem dX9_apart_38 : decode cX9_apart 38 = .ok (.iaload, 1) := by decide +kernel
theorem dX9_apart_39 : decode cX9_apart 39 = .ok (.iload_n 2, 1) := by decide +kernel
theorem dX9_apart_40 : decode cX9_apart 40 = .ok (.invokestatic 190, 3) := by decide +kernel
theorem dX9_apart_43 : decode cX9_apart 43 = .ok (.ifCond .ne 16, 3) := by decide +kernel
theorem dX9_apart_46 : decode cX9_apart 46 = .ok (.aload_n 0, 1) := by decide +kernel
theorem dX9_apart_47 : decode cX9_apart 47 = .ok (.getfield 31, 3) := by decide +kernel
theorem dX9_apart_50 : decode cX9_apart 50 = .ok (.iload_n 1, 1) := by decide +kernel
theorem dX9_apart_51 : decode cX9_apart 51 = .ok (.iaload, 1) := by decide +kernel
theorem dX9_apart_52 : decode cX9_apart 52 = .ok (.iload_n 3, 1) := by decide +kernel
theorem dX9_apart_53 : decode cX9_apart 53 = .ok (.invokestatic 190, 3) := by decide +kernel
theorem dX9_apart_56 : decode cX9_apart 56 = .ok (.ifCond .eq 7, 3) := by decide +kernel
theorem dX9_apart_59 : decode cX9_apart 59 = .ok (.sipush (-1003), 3) := by decide +kernel
theorem dX9_apart_62 : decode cX9_apart 62 = .ok (.ireturn, 1) := by decide +kernel
theorem dX9_apart_63 : decode cX9_apart 63 = .ok (.aload_n 0, 1) := by decide +kernel
theorem dX9_apart_64 : decode cX9_apart 64 = .ok (.iload_n 1, 1) := by decide +kernel
theorem dX9_apart_65 : decode cX9_apart 65 = .ok (.iload_n 2, 1) := by decide +kernel
theorem dX9_apart_66 : decode cX9_apart 66 = .ok (.iload_n 3, 1) := by decide +kernel
theorem dX9_apart_67 : decode cX9_apart 67 = .ok (.invokevirtual 298, 3) := by decide +kernel
theorem dX9_apart_70 : decode cX9_apart 70 = .ok (.istore 4, 2) := by decide +kernel
theorem dX9_apart_72 : decode cX9_apart 72 = .ok (.iconst 0, 1) := by decide +kernel
theorem dX9_apart_73 : decode cX9_apart 73 = .ok (.istore 5, 2) := by decide +kernel
theorem dX9_apart_75 : decode cX9_apart 75 = .ok (.iload 5, 2) := by decide +kernel
theorem dX9_apart_77 : decode cX9_apart 77 = .ok (.bipush 16, 2) := by decide +kernel
theorem dX9_apart_79 : decode cX9_apart 79 = .ok (.if_icmp .ge 23, 3) := by decide +kernel
theorem dX9_apart_82 : decode cX9_apart 82 = .ok (.aload_n 0, 1) := by decide +kernel
theorem dX9_apart_83 : decode cX9_apart 83 = .ok (.getfield 83, 3) := by decide +kernel
theorem dX9_apart_86 : decode cX9_apart 86 = .ok (.iload 5, 2) := by decide +kernel
theorem dX9_apart_88 : decode cX9_apart 88 = .ok (.aload_n 0, 1) := by decide +kernel
theorem dX9_apart_89 : decode cX9_apart 89 = .ok (.getfield 80, 3) := by decide +kernel
theorem dX9_apart_92 : decode cX9_apart 92 = .ok (.iload 5, 2) := by decide +kernel
theorem dX9_apart_94 : decode cX9_apart 94 = .ok (.iaload, 1) := by decide +kernel
theorem dX9_apart_95 : decode cX9_apart 95 = .ok (.iastore, 1) := by decide +kernel
theorem dX9_apart_96 : decode cX9_apart 96 = .ok (.iinc 5 1, 3) := by decide +kernel
theorem dX9_apart_99 : decode cX9_apart 99 = .ok (.goto (-24), 3) := by decide +kernel
theorem dX9_apart_102 : decode cX9_apart 102 = .ok (.aload_n 0, 1) := by decide +kernel
theorem dX9_apart_103 : decode cX9_apart 103 = .ok (.iload_n 1, 1) := by decide +kernel
theorem dX9_apart_104 : decode cX9_apart 104 = .ok (.iload_n 3, 1) := by decide +kernel
theorem dX9_apart_105 : decode cX9_apart 105 = .ok (.iload_n 2, 1) := by decide +kernel
theorem dX9_apart_106 : decode cX9_apart 106 = .ok (.invokevirtual 298, 3) := by decide +kernel
theorem dX9_apart_109 : decode cX9_apart 109 = .ok (.ifCond .eq 12, 3) := by decide +kernel
theorem dX9_apart_112 : decode cX9_apart 112 = .ok (.iload 4, 2) := by decide +kernel
theorem dX9_apart_114 : decode cX9_apart 114 = .ok (.ifCond .eq 7, 3) := by decide +kernel
theorem dX9_apart_117 : decode cX9_apart 117 = .ok (.iconst 1, 1) := by decide +kernel
theorem dX9_apart_118 : decode cX9_apart 118 = .ok (.goto 4, 3) := by decide +kernel
theorem dX9_apart_121 : decode cX9_apart 121 = .ok (.iconst 0, 1) := by decide +kernel
theorem dX9_apart_122 : decode cX9_apart 122 = .ok (.istore 4, 2) := by decide +kernel
theorem dX9_apart_124 : decode cX9_apart 124 = .ok (.iconst 0, 1) := by decide +kernel
theorem dX9_apart_125 : decode cX9_apart 125 = .ok (.istore 5, 2) := by decide +kernel
theorem dX9_apart_127 : decode cX9_apart 127 = .ok (.iload 5, 2) := by decide +kernel
theorem dX9_apart_129 : decode cX9_apart 129 = .ok (.bipush 16, 2) := by decide +kernel
theorem dX9_apart_131 : decode cX9_apart 131 = .ok (.if_icmp .ge 38, 3) := by decide +kernel
theorem dX9_apart_134 : decode cX9_apart 134 = .ok (.iload 4, 2) := by decide +kernel
theorem dX9_apart_136 : decode cX9_apart 136 = .ok (.ifCond .eq 24, 3) := by decide +kernel
theorem dX9_apart_139 : decode cX9_apart 139 = .ok (.aload_n 0, 1) := by decide +kernel
theorem dX9_apart_140 : decode cX9_apart 140 = .ok (.getfield 83, 3) := by decide +kernel
theorem dX9_apart_143 : decode cX9_apart 143 = .ok (.iload 5, 2) := by decide +kernel
theorem dX9_apart_145 : decode cX9_apart 145 = .ok (.iaload, 1) := by decide +kernel
theorem dX9_apart_146 : decode cX9_apart 146 = .ok (.aload_n 0, 1) := by decide +kernel
theorem dX9_apart_147 : decode cX9_apart 147 = .ok (.getfield 80, 3) := by decide +kernel
theorem dX9_apart_150 : decode cX9_apart 150 = .ok (.iload 5, 2) := by decide +kernel
theorem dX9_apart_152 : decode cX9_apart 152 = .ok (.iaload, 1) := by decide +kernel
theorem dX9_apart_153 : decode cX9_apart 153 = .ok (.if_icmp .ne 7, 3) := by decide +kernel
theorem dX9_apart_156 : decode cX9_apart 156 = .ok (.iconst 1, 1) := by decide +kernel
theorem dX9_apart_157 : decode cX9_apart 157 = .ok (.goto 4, 3) := by decide +kernel
theorem dX9_apart_160 : decode cX9_apart 160 = .ok (.iconst 0, 1) := by decide +kernel
theorem dX9_apart_161 : decode cX9_apart 161 = .ok (.istore 4, 2) := by decide +kernel
theorem dX9_apart_163 : decode cX9_apart 163 = .ok (.iinc 5 1, 3) := by decide +kernel
theorem dX9_apart_166 : decode cX9_apart 166 = .ok (.goto (-39), 3) := by decide +kernel
theorem dX9_apart_169 : decode cX9_apart 169 = .ok (.iload 4, 2) := by decide +kernel
theorem dX9_apart_171 : decode cX9_apart 171 = .ok (.ifCond .eq 7, 3) := by decide +kernel
theorem dX9_apart_174 : decode cX9_apart 174 = .ok (.iconst 1, 1) := by decide +kernel
theorem dX9_apart_175 : decode cX9_apart 175 = .ok (.goto 4, 3) := by decide +kernel
theorem dX9_apart_178 : decode cX9_apart 178 = .ok (.iconst 0, 1) := by decide +kernel
theorem dX9_apart_179 : decode cX9_apart 179 = .ok (.ireturn, 1) := by decide +kernel
set_option maxRecDepth 20000 in
theorem ggX9_areFaults_X9_in : GoodIn wsX9_areFaults wsX9_in := goodIn_r _ [5] (by decide +kernel) (by decide +kernel)
set_option maxRecDepth 20000 in
theorem gX9_areFaults_X9_in : GoodIn wsX9_areFaults (va_wsS RX9 117 yX9_in wsX9_in) := goodIn_app (goodIn_of _ (by decide +kernel)) ggX9_areFaults_X9_in
theorem dX9_areFaults_0 : decode cX9_areFaults 0 = .ok (.iload_n 1, 1) := by decide +kernel
theorem dX9_areFaults_1 : decode cX9_areFaults 1 = .ok (.i2l, 1) := by decide +kernel
theorem dX9_areFaults_2 : decode cX9_areFaults 2 = .ok (.lconst 0, 1) := by decide +kernel
theorem dX9_areFaults_3 : decode cX9_areFaults 3 = .ok (.iconst 1, 1) := by decide +kernel
theorem dX9_areFaults_4 : decode cX9_areFaults 4 = .ok (.aload_n 0, 1) := by decide +kernel
theorem dX9_areFaults_5 : decode cX9_areFaults 5 = .ok (.getfield 123, 3) := by decide +kernel
theorem dX9_areFaults_8 : decode cX9_areFaults 8 = .ok (.ishl, 1) := by decide +kernel
theorem dX9_areFaults_9 : decode cX9_areFaults 9 = .ok (.iconst 1, 1) := by decide +kernel
theorem dX9_areFaults_10 : decode cX9_areFaults 10 = .ok (.isub, 1) := by decide +kernel
theorem dX9_areFaults_11 : decode cX9_areFaults 11 = .ok (.i2l, 1) := by decide +kernel
theorem dX9_areFaults_12 : decode cX9_areFaults 12 = .ok (.invokestatic 117, 3) := by decide +kernel
theorem dX9_areFaults_15 : decode cX9_areFaults 15 = .ok (.ireturn, 1) := by decide +kernel
set_option maxRecDepth 20000 in
theorem ggX9_costOf_X9_faultsIn : GoodIn wsX9_costOf wsX9_faultsIn := goodIn_r _ [8, 2, 9, 3, 10, 11, 7, 12, 51, 52, 53, 54, 55, 56, 57, 58, 59, 60, 61, 62, 63, 64, 65, 66, 67, 68, 69, 70, 71, 72, 73, 74, 75, 76, 77, 78, 79, 80, 81, 82, 83, 84, 85, 86, 87, 88, 89, 90, 91, 92, 93, 94, 95, 96, 97, 98, 99, 100, 101, 102, 103, 104, 105] (by decide +kernel) (by decide +kernel)
set_option maxRecDepth 20000 in
theorem gX9_costOf_X9_faultsIn : GoodIn wsX9_costOf (wsV RX9 269 RX9 yX9_faultsIn wsX9_faultsIn) := goodIn_app (goodIn_of _ (by decide +kernel)) ggX9_costOf_X9_faultsIn
set_option maxRecDepth 20000 in
theorem ggX9_costOf_X9_has : GoodIn wsX9_costOf wsX9_has := goodIn_r _ [12] (by decide +kernel) (by decide +kernel)
set_option maxRecDepth 20000 in
theorem gX9_costOf_X9_has : GoodIn wsX9_costOf (va_wsS RX9 190 yX9_has wsX9_has) := goodIn_app (goodIn_of _ (by decide +kernel)) ggX9_costOf_X9_has
set_option maxRecDepth 20000 in
theorem ggX9_costOf_X9_needsOf : GoodIn wsX9_costOf wsX9_needsOf := goodIn_r _ [16, 1, 10, 11, 7, 12, 17, 18, 19, 20, 21, 22, 23, 24, 25, 26, 27, 28, 29, 30, 31, 32, 33, 34, 35, 36, 37, 38, 39, 40, 41, 42, 43, 44, 45, 46, 47, 48, 49, 50, 51, 52, 53, 54, 55, 56, 57, 58, 59, 60, 61, 62, 63, 64, 65, 66, 67, 68, 69, 70, 71, 72, 73, 74, 75, 76, 77, 78, 79, 80, 81, 82, 83, 84, 85, 86, 87, 88, 89, 90, 91, 92, 93, 94, 95, 96, 97, 98, 99, 100, 101, 102, 103, 104, 105] (by decide +kernel) (by decide +kernel)
set_option maxRecDepth 20000 in
theorem gX9_costOf_X9_needsOf : GoodIn wsX9_costOf (wsV RX9 295 RX9 yX9_needsOf wsX9_needsOf) := goodIn_app (goodIn_of _ (by decide +kernel)) ggX9_costOf_X9_needsOf
set_option maxRecDepth 20000 in
theorem ggX9_costOf_X9_tryLine : GoodIn wsX9_costOf wsX9_tryLine := goodIn_r _ [20, 21, 22, 51, 52, 53, 54, 55, 56, 57, 58, 59, 60, 61, 62, 63, 64, 65, 66, 67, 68, 69, 70, 71, 72, 73, 74, 75, 76, 77, 78, 79, 80, 81, 82, 83, 84, 85, 86, 87, 88, 89, 90, 91, 92, 93, 94, 95, 96, 97, 98, 99, 100, 101, 102, 103, 104, 105] (by decide +kernel) (by decide +kernel)
set_option maxRecDepth 20000 in
theorem gX9_costOf_X9_tryLine : GoodIn wsX9_costOf (wsV RX9 282 RX9 yX9_tryLine wsX9_tryLine) := goodIn_app (goodIn_of _ (by decide +kernel)) ggX9_costOf_X9_tryLine
set_option maxRecDepth 20000 in
theorem ggX9_costOf_X9_goAll : GoodIn wsX9_costOf wsX9_goAll := goodIn_r _ [45, 46, 10, 11, 7, 12, 23, 24, 25, 26, 27, 21, 28, 29, 30, 31, 32, 33, 34, 35, 36, 37, 47, 48, 49, 50, 51, 52, 53, 54, 55, 56, 57, 58, 59, 60, 61, 62, 63, 64, 65, 66, 67, 68, 69, 70, 71, 72, 73, 74, 75, 76, 77, 78, 79, 80, 81, 82, 83, 84, 85, 86, 87, 88, 89, 90, 91, 92, 93, 94, 95, 96, 97, 98, 99, 100, 101, 102, 103, 104, 105] (by decide +kernel) (by decide +kernel)
set_option maxRecDepth 20000 in
theorem gX9_costOf_X9_goAll : GoodIn wsX9_costOf (wsV RX9 292 RX9 yX9_goAll wsX9_goAll) := goodIn_app (goodIn_of _ (by decide +kernel)) ggX9_costOf_X9_goAll
theorem dX9_costOf_0 : decode cX9_costOf 0 = .ok (.iconst 0, 1) := by decide +kernel
theorem dX9_costOf_1 : decode cX9_costOf 1 = .ok (.istore_n 3, 1) := by decide +kernel
theorem dX9_costOf_2 : decode cX9_costOf 2 = .ok (.aload_n 0, 1) := by decide +kernel
theorem dX9_costOf_3 : decode cX9_costOf 3 = .ok (.aload_n 0, 1) := by decide +kernel
theorem dX9_costOf_4 : decode cX9_costOf 4 = .ok (.getfield 31, 3) := by decide +kernel
theorem dX9_costOf_7 : decode cX9_costOf 7 = .ok (.iload_n 1, 1) := by decide +kernel
theorem dX9_costOf_8 : decode cX9_costOf 8 = .ok (.iaload, 1) := by decide +kernel
theorem dX9_costOf_9 : decode cX9_costOf 9 = .ok (.invokevirtual 269, 3) := by decide +kernel
theorem dX9_costOf_12 : decode cX9_costOf 12 = .ok (.istore 4, 2) := by decide +kernel
theorem dX9_costOf_14 : decode cX9_costOf 14 = .ok (.iconst 0, 1) := by decide +kernel
theorem dX9_costOf_15 : decode cX9_costOf 15 = .ok (.istore 5, 2) := by decide +kernel
theorem dX9_costOf_17 : decode cX9_costOf 17 = .ok (.iload 5, 2) := by decide +kernel
theorem dX9_costOf_19 : decode cX9_costOf 19 = .ok (.aload_n 0, 1) := by decide +kernel
theorem dX9_costOf_20 : decode cX9_costOf 20 = .ok (.getfield 123, 3) := by decide +kernel
theorem dX9_costOf_23 : decode cX9_costOf 23 = .ok (.if_icmp .ge 78, 3) := by decide +kernel
theorem dX9_costOf_26 : decode cX9_costOf 26 = .ok (.iload_n 2, 1) := by decide +kernel
theorem dX9_costOf_27 : decode cX9_costOf 27 = .ok (.iload 5, 2) := by decide +kernel
theorem dX9_costOf_29 : decode cX9_costOf 29 = .ok (.invokestatic 190, 3) := by decide +kernel
theorem dX9_costOf_32 : decode cX9_costOf 32 = .ok (.ifCond .eq 63, 3) := by decide +kernel
theorem dX9_costOf_35 : decode cX9_costOf 35 = .ok (.iload 4, 2) := by decide +kernel
theorem dX9_costOf_37 : decode cX9_costOf 37 = .ok (.iload 5, 2) := by decide +kernel
theorem dX9_costOf_39 : decode cX9_costOf 39 = .ok (.invokestatic 190, 3) := by decide +kernel
theorem dX9_costOf_42 : decode cX9_costOf 42 = .ok (.ifCond .eq 28, 3) := by decide +kernel
theorem dX9_costOf_45 : decode cX9_costOf 45 = .ok (.aload_n 0, 1) := by decide +kernel
theorem dX9_costOf_46 : decode cX9_costOf 46 = .ok (.getfield 25, 3) := by decide +kernel
theorem dX9_costOf_49 : decode cX9_costOf 49 = .ok (.iload 5, 2) := by decide +kernel
theorem dX9_costOf_51 : decode cX9_costOf 51 = .ok (.iaload, 1) := by decide +kernel
theorem dX9_costOf_52 : decode cX9_costOf 52 = .ok (.ifCond .lt 18, 3) := by decide +kernel
theorem dX9_costOf_55 : decode cX9_costOf 55 = .ok (.aload_n 0, 1) := by decide +kernel
theorem dX9_costOf_56 : decode cX9_costOf 56 = .ok (.iload_n 1, 1) := by decide +kernel
theorem dX9_costOf_57 : decode cX9_costOf 57 = .ok (.aload_n 0, 1) := by decide +kernel
theorem dX9_costOf_58 : decode cX9_costOf 58 = .ok (.getfield 25, 3) := by decide +kernel
theorem dX9_costOf_61 : decode cX9_costOf 61 = .ok (.iload 5, 2) := by decide +kernel
theorem dX9_costOf_63 : decode cX9_costOf 63 = .ok (.iaload, 1) := by decide +kernel
theorem dX9_costOf_64 : decode cX9_costOf 64 = .ok (.invokevirtual 295, 3) := by decide +kernel
theorem dX9_costOf_67 : decode cX9_costOf 67 = .ok (.goto 4, 3) := by decide +kernel
theorem dX9_costOf_70 : decode cX9_costOf 70 = .ok (.iconst (-1), 1) := by decide +kernel
theorem dX9_costOf_71 : decode cX9_costOf 71 = .ok (.istore 6, 2) := by decide +kernel
theorem dX9_costOf_73 : decode cX9_costOf 73 = .ok (.iload 6, 2) := by decide +kernel
theorem dX9_costOf_75 : decode cX9_costOf 75 = .ok (.ifCond .ge 5, 3) := by decide +kernel
theorem dX9_costOf_78 : decode cX9_costOf 78 = .ok (.iconst (-1), 1) := by decide +kernel
theorem dX9_costOf_79 : decode cX9_costOf 79 = .ok (.ireturn, 1) := by decide +kernel
theorem dX9_costOf_80 : decode cX9_costOf 80 = .ok (.iload_n 3, 1) := by decide +kernel
theorem dX9_costOf_81 : decode cX9_costOf 81 = .ok (.iload 6, 2) := by decide +kernel
theorem dX9_costOf_83 : decode cX9_costOf 83 = .ok (.iconst 1, 1) := by decide +kernel
theorem dX9_costOf_84 : decode cX9_costOf 84 = .ok (.aload_n 0, 1) := by decide +kernel
theorem dX9_costOf_85 : decode cX9_costOf 85 = .ok (.getfield 25, 3) := by decide +kernel
theorem dX9_costOf_88 : decode cX9_costOf 88 = .ok (.iload 5, 2) := by decide +kernel
theorem dX9_costOf_90 : decode cX9_costOf 90 = .ok (.iaload, 1) := by decide +kernel
theorem dX9_costOf_91 : decode cX9_costOf 91 = .ok (.ishl, 1) := by decide +kernel
theorem dX9_costOf_92 : decode cX9_costOf 92 = .ok (.ior, 1) := by decide +kernel
theorem dX9_costOf_93 : decode cX9_costOf 93 = .ok (.ior, 1) := by decide +kernel
theorem dX9_costOf_94 : decode cX9_costOf 94 = .ok (.istore_n 3, 1) := by decide +kernel
theorem dX9_costOf_95 : decode cX9_costOf 95 = .ok (.iinc 5 1, 3) := by decide +kernel
theorem dX9_costOf_98 : decode cX9_costOf 98 = .ok (.goto (-81), 3) := by decide +kernel
theorem dX9_costOf_101 : decode cX9_costOf 101 = .ok (.aload_n 0, 1) := by decide +kernel
theorem dX9_costOf_102 : decode cX9_costOf 102 = .ok (.iload_n 1, 1) := by decide +kernel
theorem dX9_costOf_103 : decode cX9_costOf 103 = .ok (.invokevirtual 282, 3) := by decide +kernel
theorem dX9_costOf_106 : decode cX9_costOf 106 = .ok (.aload_n 0, 1) := by decide +kernel
theorem dX9_costOf_107 : decode cX9_costOf 107 = .ok (.iload_n 3, 1) := by decide +kernel
theorem dX9_costOf_108 : decode cX9_costOf 108 = .ok (.invokevirtual 292, 3) := by decide +kernel
theorem dX9_costOf_111 : decode cX9_costOf 111 = .ok (.ifCond .eq 7, 3) := by decide +kernel
theorem dX9_costOf_114 : decode cX9_costOf 114 = .ok (.iload_n 3, 1) := by decide +kernel
theorem dX9_costOf_115 : decode cX9_costOf 115 = .ok (.goto 4, 3) := by decide +kernel
theorem dX9_costOf_118 : decode cX9_costOf 118 = .ok (.iconst (-1), 1) := by decide +kernel
theorem dX9_costOf_119 : decode cX9_costOf 119 = .ok (.ireturn, 1) := by decide +kernel
set_option maxRecDepth 20000 in
theorem ggX9_cost_X9_isLine : GoodIn wsX9_cost wsX9_isLine := goodIn_r _ [5, 6, 7, 8, 4, 9, 67, 68, 69, 70, 71, 72, 73, 74, 75, 76, 77, 78, 79, 80, 81, 82, 83, 84, 85, 86, 87, 88, 89, 90, 91, 92, 93, 94, 95, 96, 97, 98, 99, 100, 101, 102, 103, 104, 105, 106, 107, 108, 109, 110, 111, 112, 113, 114, 115, 116, 117, 118, 119, 120, 121] (by decide +kernel) (by decide +kernel)
set_option maxRecDepth 20000 in
theorem gX9_cost_X9_isLine : GoodIn wsX9_cost (wsV RX9 266 RX9 yX9_isLine wsX9_isLine) := goodIn_app (goodIn_of _ (by decide +kernel)) ggX9_cost_X9_isLine
set_option maxRecDepth 20000 in
theorem ggX9_cost_X9_areFaults : GoodIn wsX9_cost wsX9_areFaults := goodIn_r _ [13, 14, 7, 8, 4, 9, 67, 68, 69, 70, 71, 72, 73, 74, 75, 76, 77, 78, 79, 80, 81, 82, 83, 84, 85, 86, 87, 88, 89, 90, 91, 92, 93, 94, 95, 96, 97, 98, 99, 100, 101, 102, 103, 104, 105, 106, 107, 108, 109, 110, 111, 112, 113, 114, 115, 116, 117, 118, 119, 120, 121] (by decide +kernel) (by decide +kernel)
set_option maxRecDepth 20000 in
theorem gX9_cost_X9_areFaults : GoodIn wsX9_cost (wsV RX9 302 RX9 yX9_areFaults wsX9_areFaults) := goodIn_app (goodIn_of _ (by decide +kernel)) ggX9_cost_X9_areFaults
set_option maxRecDepth 20000 in
theorem ggX9_cost_X9_costOf : GoodIn wsX9_cost wsX9_costOf := goodIn_r _ [18, 19, 14, 20, 21, 22, 23, 4, 24, 25, 26, 27, 28, 29, 30, 31, 32, 33, 34, 35, 36, 37, 38, 39, 40, 41, 42, 43, 44, 45, 46, 47, 48, 49, 50, 51, 52, 53, 54, 55, 56, 57, 58, 59, 60, 61, 62, 63, 64, 65, 66, 67, 68, 69, 70, 71, 72, 73, 74, 75, 76, 77, 78, 79, 80, 81, 82, 83, 84, 85, 86, 87, 88, 89, 90, 91, 92, 93, 94, 95, 96, 97, 98, 99, 100, 101, 102, 103, 104, 105, 106, 107, 108, 109, 110, 111, 112, 113, 114, 115, 116, 117, 118, 119, 120, 121] (by decide +kernel) (by decide +kernel)
set_option maxRecDepth 20000 in
theorem gX9_cost_X9_costOf : GoodIn wsX9_cost (wsV RX9 305 RX9 yX9_costOf wsX9_costOf) := goodIn_app (goodIn_of _ (by decide +kernel)) ggX9_cost_X9_costOf
theorem dX9_cost_0 : decode cX9_cost 0 = .ok (.aload_n 0, 1) := by decide +kernel
theorem dX9_cost_1 : decode cX9_cost 1 = .ok (.iload_n 1, 1) := by decide +kernel
theorem dX9_cost_2 : decode cX9_cost 2 = .ok (.invokevirtual 266, 3) := by decide +kernel
theorem dX9_cost_5 : decode cX9_cost 5 = .ok (.ifCond .eq 20, 3) := by decide +kernel
theorem dX9_cost_8 : decode cX9_cost 8 = .ok (.aload_n 0, 1) := by decide +kernel
theorem dX9_cost_9 : decode cX9_cost 9 = .ok (.iload_n 2, 1) := by decide +kernel
theorem dX9_cost_10 : decode cX9_cost 10 = .ok (.invokevirtual 302, 3) := by decide +kernel
theorem dX9_cost_13 : decode cX9_cost 13 = .ok (.ifCond .eq 12, 3) := by decide +kernel
theorem dX9_cost_16 : decode cX9_cost 16 = .ok (.aload_n 0, 1) := by decide +kernel
theorem dX9_cost_17 : decode cX9_cost 17 = .ok (.iload_n 1, 1) := by decide +kernel
theorem dX9_cost_18 : decode cX9_cost 18 = .ok (.iload_n 2, 1) := by decide +kernel
theorem dX9_cost_19 : decode cX9_cost 19 = .ok (.invokevirtual 305, 3) := by decide +kernel
theorem dX9_cost_22 : decode cX9_cost 22 = .ok (.goto 6, 3) := by decide +kernel
theorem dX9_cost_25 : decode cX9_cost 25 = .ok (.sipush (-1001), 3) := by decide +kernel
theorem dX9_cost_28 : decode cX9_cost 28 = .ok (.ireturn, 1) := by decide +kernel
set_option maxRecDepth 20000 in
theorem ggX9_best_X9_isLine : GoodIn wsX9_best wsX9_isLine := goodIn_r _ [9, 10, 11, 12, 8, 13, 79, 80, 81, 82, 83, 84, 85, 86, 87, 88, 89, 90, 91, 92, 93, 94, 95, 96, 97, 98, 99, 100, 101, 102, 103, 104, 105, 106, 107, 108, 109, 110, 111, 112, 113, 114, 115, 116, 117, 118, 119, 120, 121, 122, 123, 124, 125, 126, 127, 128, 129, 130, 131, 132, 133] (by decide +kernel) (by decide +kernel)
set_option maxRecDepth 20000 in
theorem gX9_best_X9_isLine : GoodIn wsX9_best (wsV RX9 266 RX9 yX9_isLine wsX9_isLine) := goodIn_app (goodIn_of _ (by decide +kernel)) ggX9_best_X9_isLine
set_option maxRecDepth 20000 in
theorem ggX9_best_X9_in : GoodIn wsX9_best wsX9_in := goodIn_r _ [13] (by decide +kernel) (by decide +kernel)
set_option maxRecDepth 20000 in
theorem gX9_best_X9_in : GoodIn wsX9_best (va_wsS RX9 117 yX9_in wsX9_in) := goodIn_app (goodIn_of _ (by decide +kernel)) ggX9_best_X9_in
set_option maxRecDepth 20000 in
theorem ggX9_best_X9_costOf : GoodIn wsX9_best wsX9_costOf := goodIn_r _ [17, 18, 4, 19, 20, 21, 22, 8, 23, 24, 25, 26, 27, 28, 29, 30, 31, 32, 33, 34, 35, 36, 37, 38, 39, 40, 41, 42, 43, 44, 45, 46, 47, 48, 49, 50, 51, 52, 53, 54, 55, 56, 57, 58, 59, 60, 61, 62, 63, 64, 65, 79, 80, 81, 82, 83, 84, 85, 86, 87, 88, 89, 90, 91, 92, 93, 94, 95, 96, 97, 98, 99, 100, 101, 102, 103, 104, 105, 106, 107, 108, 109, 110, 111, 112, 113, 114, 115, 116, 117, 118, 119, 120, 121, 122, 123, 124, 125, 126, 127, 128, 129, 130, 131, 132, 133] (by decide +kernel) (by decide +kernel)
set_option maxRecDepth 20000 in
theorem gX9_best_X9_costOf : GoodIn wsX9_best (wsV RX9 305 RX9 yX9_costOf wsX9_costOf) := goodIn_app (goodIn_of _ (by decide +kernel)) ggX9_best_X9_costOf
set_option maxRecDepth 20000 in
theorem ggX9_best_X9_bits : GoodIn wsX9_best wsX9_bits := goodIn_r _ [68] (by decide +kernel) (by decide +kernel)
set_option maxRecDepth 20000 in
theorem gX9_best_X9_bits : GoodIn wsX9_best (va_wsS RX9 289 yX9_bits wsX9_bits) := goodIn_app (goodIn_of _ (by decide +kernel)) ggX9_best_X9_bits
set_option maxRecDepth 20000 in
theorem ggX9_best_X9_riskOf : GoodIn wsX9_best wsX9_riskOf := goodIn_r _ [72, 61, 73, 25, 26, 8, 27, 79, 80, 81, 82, 83, 84, 85, 86, 87, 88, 89, 90, 91, 92, 93, 94, 95, 96, 97, 98, 99, 100, 101, 102, 103, 104, 105, 106, 107, 108, 109, 110, 111, 112, 113, 114, 115, 116, 117, 118, 119, 120, 121, 122, 123, 124, 125, 126, 127, 128, 129, 130, 131, 132, 133] (by decide +kernel) (by decide +kernel)
set_option maxRecDepth 20000 in
theorem gX9_best_X9_riskOf : GoodIn wsX9_best (wsV RX9 272 RX9 yX9_riskOf wsX9_riskOf) := goodIn_app (goodIn_of _ (by decide +kernel)) ggX9_best_X9_riskOf
set_option maxRecDepth 20000 in
theorem ggX9_best_X9_weightOf : GoodIn wsX9_best wsX9_weightOf := goodIn_r _ [77, 4, 78, 25, 26, 8, 27, 79, 80, 81, 82, 83, 84, 85, 86, 87, 88, 89, 90, 91, 92, 93, 94, 95, 96, 97, 98, 99, 100, 101, 102, 103, 104, 105, 106, 107, 108, 109, 110, 111, 112, 113, 114, 115, 116, 117, 118, 119, 120, 121, 122, 123, 124, 125, 126, 127, 128, 129, 130, 131, 132, 133] (by decide +kernel) (by decide +kernel)
set_option maxRecDepth 20000 in
theorem gX9_best_X9_weightOf : GoodIn wsX9_best (wsV RX9 314 RX9 yX9_weightOf wsX9_weightOf) := goodIn_app (goodIn_of _ (by decide +kernel)) ggX9_best_X9_weightOf
theorem dX9_best_0 : decode cX9_best 0 = .ok (.aload_n 0, 1) := by decide +kernel
theorem dX9_best_1 : decode cX9_best 1 = .ok (.iload_n 1, 1) := by decide +kernel
theorem dX9_best_2 : decode cX9_best 2 = .ok (.invokevirtual 266, 3) := by decide +kernel
theorem dX9_best_5 : decode cX9_best 5 = .ok (.ifCond .ne 7, 3) := by decide +kernel
theorem dX9_best_8 : decode cX9_best 8 = .ok (.sipush (-1001), 3) := by decide +kernel
theorem dX9_best_11 : decode cX9_best 11 = .ok (.ireturn, 1) := by decide +kernel
theorem dX9_best_12 : decode cX9_best 12 = .ok (.iload_n 2, 1) := by decide +kernel
theorem dX9_best_13 : decode cX9_best 13 = .ok (.i2l, 1) := by decide +kernel
theorem dX9_best_14 : decode cX9_best 14 = .ok (.lconst 0, 1) := by decide +kernel
theorem dX9_best_15 : decode cX9_best 15 = .ok (.ldc2_w 308, 3) := by decide +kernel
theorem dX9_best_18 : decode cX9_best 18 = .ok (.invokestatic 117, 3) := by decide +kernel
theorem dX9_best_21 : decode cX9_best 21 = .ok (.ifCond .eq 28, 3) := by decide +kernel
theorem dX9_best_24 : decode cX9_best 24 = .ok (.iload_n 3, 1) := by decide +kernel
theorem dX9_best_25 : decode cX9_best 25 = .ok (.i2l, 1) := by decide +kernel
theorem dX9_best_26 : decode cX9_best 26 = .ok (.lconst 0, 1) := by decide +kernel
theorem dX9_best_27 : decode cX9_best 27 = .ok (.ldc2_w 310, 3) := by decide +kernel
theorem dX9_best_30 : decode cX9_best 30 = .ok (.invokestatic 117, 3) := by decide +kernel
theorem dX9_best_33 : decode cX9_best 33 = .ok (.ifCond .eq 16, 3) := by decide +kernel
theorem dX9_best_36 : decode cX9_best 36 = .ok (.iload 4, 2) := by decide +kernel
theorem dX9_best_38 : decode cX9_best 38 = .ok (.i2l, 1) := by decide +kernel
theorem dX9_best_39 : decode cX9_best 39 = .ok (.lconst 0, 1) := by decide +kernel
theorem dX9_best_40 : decode cX9_best 40 = .ok (.ldc2_w 312, 3) := by decide +kernel
theorem dX9_best_43 : decode cX9_best 43 = .ok (.invokestatic 117, 3) := by decide +kernel
theorem dX9_best_46 : decode cX9_best 46 = .ok (.ifCond .ne 7, 3) := by decide +kernel
theorem dX9_best_49 : decode cX9_best 49 = .ok (.sipush (-1002), 3) := by decide +kernel
theorem dX9_best_52 : decode cX9_best 52 = .ok (.ireturn, 1) := by decide +kernel
theorem dX9_best_53 : decode cX9_best 53 = .ok (.iconst 0, 1) := by decide +kernel
theorem dX9_best_54 : decode cX9_best 54 = .ok (.istore 5, 2) := by decide +kernel
theorem dX9_best_56 : decode cX9_best 56 = .ok (.iconst 0, 1) := by decide +kernel
theorem dX9_best_57 : decode cX9_best 57 = .ok (.istore 6, 2) := by decide +kernel
theorem dX9_best_59 : decode cX9_best 59 = .ok (.iconst 1, 1) := by decide +kernel
theorem dX9_best_60 : decode cX9_best 60 = .ok (.istore 7, 2) := by decide +kernel
theorem dX9_best_62 : decode cX9_best 62 = .ok (.iload 7, 2) := by decide +kernel
theorem dX9_best_64 : decode cX9_best 64 = .ok (.iconst 1, 1) := by decide +kernel
theorem dX9_best_65 : decode cX9_best 65 = .ok (.aload_n 0, 1) := by decide +kernel
theorem dX9_best_66 : decode cX9_best 66 = .ok (.getfield 123, 3) := by decide +kernel
theorem dX9_best_69 : decode cX9_best 69 = .ok (.ishl, 1) := by decide +kernel
theorem dX9_best_70 : decode cX9_best 70 = .ok (.if_icmp .ge 115, 3) := by decide +kernel
theorem dX9_best_73 : decode cX9_best 73 = .ok (.aload_n 0, 1) := by decide +kernel
theorem dX9_best_74 : decode cX9_best 74 = .ok (.iload_n 1, 1) := by decide +kernel
theorem dX9_best_75 : decode cX9_best 75 = .ok (.iload 7, 2) := by decide +kernel
theorem dX9_best_77 : decode cX9_best 77 = .ok (.invokevirtual 305, 3) := by decide +kernel
theorem dX9_best_80 : decode cX9_best 80 = .ok (.istore 8, 2) := by decide +kernel
theorem dX9_best_82 : decode cX9_best 82 = .ok (.iload 8, 2) := by decide +kernel
theorem dX9_best_84 : decode cX9_best 84 = .ok (.ifCond .lt 95, 3) := by decide +kernel
theorem dX9_best_87 : decode cX9_best 87 = .ok (.iload 8, 2) := by decide +kernel
theorem dX9_best_89 : decode cX9_best 89 = .ok (.invokestatic 289, 3) := by decide +kernel
theorem dX9_best_92 : decode cX9_best 92 = .ok (.iload_n 2, 1) := by decide +kernel
theorem dX9_best_93 : decode cX9_best 93 = .ok (.if_icmp .gt 86, 3) := by decide +kernel
theorem dX9_best_96 : decode cX9_best 96 = .ok (.aload_n 0, 1) := by decide +kernel
theorem dX9_best_97 : decode cX9_best 97 = .ok (.iload 8, 2) := by decide +kernel
theorem dX9_best_99 : decode cX9_best 99 = .ok (.invokevirtual 272, 3) := by decide +kernel
theorem dX9_best_102 : decode cX9_best 102 = .ok (.iload_n 3, 1) := by decide +kernel
theorem dX9_best_103 : decode cX9_best 103 = .ok (.if_icmp .gt 76, 3) := by decide +kernel
theorem dX9_best_106 : decode cX9_best 106 = .ok (.aload_n 0, 1) := by decide +kernel
theorem dX9_best_107 : decode cX9_best 107 = .ok (.iload 7, 2) := by decide +kernel
theorem dX9_best_109 : decode cX9_best 109 = .ok (.invokevirtual 314, 3) := by decide +kernel
theorem dX9_best_112 : decode cX9_best 112 = .ok (.aload_n 0, 1) := by decide +kernel
theorem dX9_best_113 : decode cX9_best 113 = .ok (.iload 5, 2) := by decide +kernel
theorem dX9_best_115 : decode cX9_best 115 = .ok (.invokevirtual 314, 3) := by decide +kernel
theorem dX9_best_118 : decode cX9_best 118 = .ok (.isub, 1) := by decide +kernel
theorem dX9_best_119 : decode cX9_best 119 = .ok (.istore 9, 2) := by decide +kernel
theorem dX9_best_121 : decode cX9_best 121 = .ok (.iload 9, 2) := by decide +kernel
theorem dX9_best_123 : decode cX9_best 123 = .ok (.ifCond .gt 21, 3) := by decide +kernel
theorem dX9_best_126 : decode cX9_best 126 = .ok (.iload 9, 2) := by decide +kernel
theorem dX9_best_128 : decode cX9_best 128 = .ok (.ifCond .ne 20, 3) := by decide +kernel
theorem dX9_best_131 : decode cX9_best 131 = .ok (.iload 8, 2) := by decide +kernel
theorem dX9_best_133 : decode cX9_best 133 = .ok (.invokestatic 289, 3) := by decide +kernel
theorem dX9_best_136 : decode cX9_best 136 = .ok (.iload 6, 2) := by decide +kernel
theorem dX9_best_138 : decode cX9_best 138 = .ok (.invokestatic 289, 3) := by decide +kernel
theorem dX9_best_141 : decode cX9_best 141 = .ok (.if_icmp .ge 7, 3) := by decide +kernel
theorem dX9_best_144 : decode cX9_best 144 = .ok (.iconst 1, 1) := by decide +kernel
theorem dX9_best_145 : decode cX9_best 145 = .ok (.goto 4, 3) := by decide +kernel
theorem dX9_best_148 : decode cX9_best 148 = .ok (.iconst 0, 1) := by decide +kernel
theorem dX9_best_149 : decode cX9_best 149 = .ok (.istore 10, 2) := by decide +kernel
theorem dX9_best_151 : decode cX9_best 151 = .ok (.iload 10, 2) := by decide +kernel
theorem dX9_best_153 : decode cX9_best 153 = .ok (.ifCond .eq 8, 3) := by decide +kernel
theorem dX9_best_156 : decode cX9_best 156 = .ok (.iload 8, 2) := by decide +kernel
theorem dX9_best_158 : decode cX9_best 158 = .ok (.goto 5, 3) := by decide +kernel
theorem dX9_best_161 : decode cX9_best 161 = .ok (.iload 6, 2) := by decide +kernel
theorem dX9_best_163 : decode cX9_best 163 = .ok (.istore 6, 2) := by decide +kernel
theorem dX9_best_165 : decode cX9_best 165 = .ok (.iload 10, 2) := by decide +kernel
theorem dX9_best_167 : decode cX9_best 167 = .ok (.ifCond .eq 8, 3) := by decide +kernel
theorem dX9_best_170 : decode cX9_best 170 = .ok (.iload 7, 2) := by decide +kernel
theorem dX9_best_172 : decode cX9_best 172 = .ok (.goto 5, 3) := by decide +kernel
theorem dX9_best_175 : decode cX9_best 175 = .ok (.iload 5, 2) := by decide +kernel
theorem dX9_best_177 : decode cX9_best 177 = .ok (.istore 5, 2) := by decide +kernel
theorem dX9_best_179 : decode cX9_best 179 = .ok (.iinc 7 1, 3) := by decide +kernel
theorem dX9_best_182 : decode cX9_best 182 = .ok (.goto (-120), 3) := by decide +kernel
theorem dX9_best_185 : decode cX9_best 185 = .ok (.iload 4, 2) := by decide +kernel
theorem dX9_best_187 : decode cX9_best 187 = .ok (.ifCond .ne 8, 3) := by decide +kernel
theorem dX9_best_190 : decode cX9_best 190 = .ok (.iload 5, 2) := by decide +kernel
theorem dX9_best_192 : decode cX9_best 192 = .ok (.goto 20, 3) := by decide +kernel
theorem dX9_best_195 : decode cX9_best 195 = .ok (.iload 4, 2) := by decide +kernel
theorem dX9_best_197 : decode cX9_best 197 = .ok (.iconst 1, 1) := by decide +kernel
theorem dX9_best_198 : decode cX9_best 198 = .ok (.if_icmp .ne 12, 3) := by decide +kernel
theorem dX9_best_201 : decode cX9_best 201 = .ok (.aload_n 0, 1) := by decide +kernel
theorem dX9_best_202 : decode cX9_best 202 = .ok (.iload 5, 2) := by decide +kernel
theorem dX9_best_204 : decode cX9_best 204 = .ok (.invokevirtual 314, 3) := by decide +kernel
theorem dX9_best_207 : decode cX9_best 207 = .ok (.goto 5, 3) := by decide +kernel
theorem dX9_best_210 : decode cX9_best 210 = .ok (.iload 6, 2) := by decide +kernel
theorem dX9_best_212 : decode cX9_best 212 = .ok (.ireturn, 1) := by decide +kernel
set_option maxRecDepth 20000 in
theorem ggX9_later_X9_isLine : GoodIn wsX9_later wsX9_isLine := goodIn_r _ [9, 10, 11, 12, 8, 13, 29, 30, 31, 32, 33, 34, 35, 36, 37, 38, 39, 40, 41, 42, 43, 44, 45, 46, 47, 48, 49, 50, 51, 52, 53, 54, 55, 56, 57, 58, 59, 60, 61, 62, 63, 64, 65, 66, 67, 68, 69, 70, 71, 72, 73, 74, 75, 76, 77, 78, 79, 80, 81, 82, 83] (by decide +kernel) (by decide +kernel)
set_option maxRecDepth 20000 in
theorem gX9_later_X9_isLine : GoodIn wsX9_later (wsV RX9 266 RX9 yX9_isLine wsX9_isLine) := goodIn_app (goodIn_of _ (by decide +kernel)) ggX9_later_X9_isLine
set_option maxRecDepth 20000 in
theorem ggX9_later_X9_in : GoodIn wsX9_later wsX9_in := goodIn_r _ [13] (by decide +kernel) (by decide +kernel)
set_option maxRecDepth 20000 in
theorem gX9_later_X9_in : GoodIn wsX9_later (va_wsS RX9 117 yX9_in wsX9_in) := goodIn_app (goodIn_of _ (by decide +kernel)) ggX9_later_X9_in
set_option maxRecDepth 20000 in
theorem ggX9_later_X9_faultsIn : GoodIn wsX9_later wsX9_faultsIn := goodIn_r _ [17, 18, 19, 20, 21, 22, 8, 23, 29, 30, 31, 32, 33, 34, 35, 36, 37, 38, 39, 40, 41, 42, 43, 44, 45, 46, 47, 48, 49, 50, 51, 52, 53, 54, 55, 56, 57, 58, 59, 60, 61, 62, 63, 64, 65, 66, 67, 68, 69, 70, 71, 72, 73, 74, 75, 76, 77, 78, 79, 80, 81, 82, 83] (by decide +kernel) (by decide +kernel)
set_option maxRecDepth 20000 in
theorem gX9_later_X9_faultsIn : GoodIn wsX9_later (wsV RX9 269 RX9 yX9_faultsIn wsX9_faultsIn) := goodIn_app (goodIn_of _ (by decide +kernel)) ggX9_later_X9_faultsIn
set_option maxRecDepth 20000 in
theorem ggX9_later_X9_weightOf : GoodIn wsX9_later wsX9_weightOf := goodIn_r _ [27, 18, 28, 21, 22, 8, 23, 29, 30, 31, 32, 33, 34, 35, 36, 37, 38, 39, 40, 41, 42, 43, 44, 45, 46, 47, 48, 49, 50, 51, 52, 53, 54, 55, 56, 57, 58, 59, 60, 61, 62, 63, 64, 65, 66, 67, 68, 69, 70, 71, 72, 73, 74, 75, 76, 77, 78, 79, 80, 81, 82, 83] (by decide +kernel) (by decide +kernel)
set_option maxRecDepth 20000 in
theorem gX9_later_X9_weightOf : GoodIn wsX9_later (wsV RX9 314 RX9 yX9_weightOf wsX9_weightOf) := goodIn_app (goodIn_of _ (by decide +kernel)) ggX9_later_X9_weightOf
theorem dX9_later_0 : decode cX9_later 0 = .ok (.aload_n 0, 1) := by decide +kernel
theorem dX9_later_1 : decode cX9_later 1 = .ok (.iload_n 1, 1) := by decide +kernel
theorem dX9_later_2 : decode cX9_later 2 = .ok (.invokevirtual 266, 3) := by decide +kernel
theorem dX9_later_5 : decode cX9_later 5 = .ok (.ifCond .ne 7, 3) := by decide +kernel
theorem dX9_later_8 : decode cX9_later 8 = .ok (.sipush (-1001), 3) := by decide +kernel
theorem dX9_later_11 : decode cX9_later 11 = .ok (.ireturn, 1) := by decide +kernel
theorem dX9_later_12 : decode cX9_later 12 = .ok (.iload_n 2, 1) := by decide +kernel
theorem dX9_later_13 : decode cX9_later 13 = .ok (.i2l, 1) := by decide +kernel
theorem dX9_later_14 : decode cX9_later 14 = .ok (.lconst 0, 1) := by decide +kernel
theorem dX9_later_15 : decode cX9_later 15 = .ok (.ldc2_w 308, 3) := by decide +kernel
theorem dX9_later_18 : decode cX9_later 18 = .ok (.invokestatic 117, 3) := by decide +kernel
theorem dX9_later_21 : decode cX9_later 21 = .ok (.ifCond .ne 7, 3) := by decide +kernel
theorem dX9_later_24 : decode cX9_later 24 = .ok (.sipush (-1002), 3) := by decide +kernel
theorem dX9_later_27 : decode cX9_later 27 = .ok (.ireturn, 1) := by decide +kernel
theorem dX9_later_28 : decode cX9_later 28 = .ok (.aload_n 0, 1) := by decide +kernel
theorem dX9_later_29 : decode cX9_later 29 = .ok (.getfield 28, 3) := by decide +kernel
theorem dX9_later_32 : decode cX9_later 32 = .ok (.iload_n 1, 1) := by decide +kernel
theorem dX9_later_33 : decode cX9_later 33 = .ok (.iaload, 1) := by decide +kernel
theorem dX9_later_34 : decode cX9_later 34 = .ok (.iload_n 2, 1) := by decide +kernel
theorem dX9_later_35 : decode cX9_later 35 = .ok (.iadd, 1) := by decide +kernel
theorem dX9_later_36 : decode cX9_later 36 = .ok (.aload_n 0, 1) := by decide +kernel
theorem dX9_later_37 : decode cX9_later 37 = .ok (.getfield 114, 3) := by decide +kernel
theorem dX9_later_40 : decode cX9_later 40 = .ok (.if_icmp .le 10, 3) := by decide +kernel
theorem dX9_later_43 : decode cX9_later 43 = .ok (.aload_n 0, 1) := by decide +kernel
theorem dX9_later_44 : decode cX9_later 44 = .ok (.getfield 114, 3) := by decide +kernel
theorem dX9_later_47 : decode cX9_later 47 = .ok (.goto 11, 3) := by decide +kernel
theorem dX9_later_50 : decode cX9_later 50 = .ok (.aload_n 0, 1) := by decide +kernel
theorem dX9_later_51 : decode cX9_later 51 = .ok (.getfield 28, 3) := by decide +kernel
theorem dX9_later_54 : decode cX9_later 54 = .ok (.iload_n 1, 1) := by decide +kernel
theorem dX9_later_55 : decode cX9_later 55 = .ok (.iaload, 1) := by decide +kernel
theorem dX9_later_56 : decode cX9_later 56 = .ok (.iload_n 2, 1) := by decide +kernel
theorem dX9_later_57 : decode cX9_later 57 = .ok (.iadd, 1) := by decide +kernel
theorem dX9_later_58 : decode cX9_later 58 = .ok (.istore_n 3, 1) := by decide +kernel
theorem dX9_later_59 : decode cX9_later 59 = .ok (.aload_n 0, 1) := by decide +kernel
theorem dX9_later_60 : decode cX9_later 60 = .ok (.aload_n 0, 1) := by decide +kernel
theorem dX9_later_61 : decode cX9_later 61 = .ok (.aload_n 0, 1) := by decide +kernel
theorem dX9_later_62 : decode cX9_later 62 = .ok (.getfield 31, 3) := by decide +kernel
theorem dX9_later_65 : decode cX9_later 65 = .ok (.iload_n 1, 1) := by decide +kernel
theorem dX9_later_66 : decode cX9_later 66 = .ok (.iaload, 1) := by decide +kernel
theorem dX9_later_67 : decode cX9_later 67 = .ok (.invokevirtual 269, 3) := by decide +kernel
theorem dX9_later_70 : decode cX9_later 70 = .ok (.invokevirtual 314, 3) := by decide +kernel
theorem dX9_later_73 : decode cX9_later 73 = .ok (.aload_n 0, 1) := by decide +kernel
theorem dX9_later_74 : decode cX9_later 74 = .ok (.aload_n 0, 1) := by decide +kernel
theorem dX9_later_75 : decode cX9_later 75 = .ok (.iconst 1, 1) := by decide +kernel
theorem dX9_later_76 : decode cX9_later 76 = .ok (.iload_n 3, 1) := by decide +kernel
theorem dX9_later_77 : decode cX9_later 77 = .ok (.ishl, 1) := by decide +kernel
theorem dX9_later_78 : decode cX9_later 78 = .ok (.iconst 1, 1) := by decide +kernel
theorem dX9_later_79 : decode cX9_later 79 = .ok (.isub, 1) := by decide +kernel
theorem dX9_later_80 : decode cX9_later 80 = .ok (.invokevirtual 269, 3) := by decide +kernel
theorem dX9_later_83 : decode cX9_later 83 = .ok (.invokevirtual 314, 3) := by decide +kernel
theorem dX9_later_86 : decode cX9_later 86 = .ok (.isub, 1) := by decide +kernel
theorem dX9_later_87 : decode cX9_later 87 = .ok (.ireturn, 1) := by decide +kernel
set_option maxRecDepth 20000 in
theorem ggX9_release_X9_isLine : GoodIn wsX9_release wsX9_isLine := goodIn_r _ [12, 13, 14, 15, 11, 16, 21, 22, 23, 24, 25, 26, 27, 28, 29, 30, 31, 32, 33, 34, 35, 36, 37, 38, 39, 40, 41, 42, 43, 44, 45, 46, 47, 48, 49, 50, 51, 52, 53, 54, 55, 56, 57, 58, 59, 60, 61, 62, 63, 64, 65, 66, 67, 68, 69, 70, 71, 72, 73, 74, 75] (by decide +kernel) (by decide +kernel)
set_option maxRecDepth 20000 in
theorem gX9_release_X9_isLine : GoodIn wsX9_release (wsV RX9 266 RX9 yX9_isLine wsX9_isLine) := goodIn_app (goodIn_of _ (by decide +kernel)) ggX9_release_X9_isLine
set_option maxRecDepth 20000 in
theorem ggX9_release_X9_isDay : GoodIn wsX9_release wsX9_isDay := goodIn_r _ [19, 20, 14, 15, 11, 16] (by decide +kernel) (by decide +kernel)
set_option maxRecDepth 20000 in
theorem gX9_release_X9_isDay : GoodIn wsX9_release (va_wsS RX9 317 yX9_isDay wsX9_isDay) := goodIn_app (goodIn_of _ (by decide +kernel)) ggX9_release_X9_isDay
theorem dX9_release_0 : decode cX9_release 0 = .ok (.aload_n 0, 1) := by decide +kernel
theorem dX9_release_1 : decode cX9_release 1 = .ok (.iload_n 1, 1) := by decide +kernel
theorem dX9_release_2 : decode cX9_release 2 = .ok (.invokevirtual 266, 3) := by decide +kernel
theorem dX9_release_5 : decode cX9_release 5 = .ok (.ifCond .ne 7, 3) := by decide +kernel
theorem dX9_release_8 : decode cX9_release 8 = .ok (.sipush (-1001), 3) := by decide +kernel
theorem dX9_release_11 : decode cX9_release 11 = .ok (.ireturn, 1) := by decide +kernel
theorem dX9_release_12 : decode cX9_release 12 = .ok (.iload_n 2, 1) := by decide +kernel
theorem dX9_release_13 : decode cX9_release 13 = .ok (.invokestatic 317, 3) := by decide +kernel
theorem dX9_release_16 : decode cX9_release 16 = .ok (.ifCond .ne 7, 3) := by decide +kernel
theorem dX9_release_19 : decode cX9_release 19 = .ok (.sipush (-1002), 3) := by decide +kernel
theorem dX9_release_22 : decode cX9_release 22 = .ok (.ireturn, 1) := by decide +kernel
theorem dX9_release_23 : decode cX9_release 23 = .ok (.aload_n 0, 1) := by decide +kernel
theorem dX9_release_24 : decode cX9_release 24 = .ok (.getfield 129, 3) := by decide +kernel
theorem dX9_release_27 : decode cX9_release 27 = .ok (.ifCond .le 22, 3) := by decide +kernel
theorem dX9_release_30 : decode cX9_release 30 = .ok (.iload_n 2, 1) := by decide +kernel
theorem dX9_release_31 : decode cX9_release 31 = .ok (.aload_n 0, 1) := by decide +kernel
theorem dX9_release_32 : decode cX9_release 32 = .ok (.getfield 43, 3) := by decide +kernel
theorem dX9_release_35 : decode cX9_release 35 = .ok (.aload_n 0, 1) := by decide +kernel
theorem dX9_release_36 : decode cX9_release 36 = .ok (.getfield 129, 3) := by decide +kernel
theorem dX9_release_39 : decode cX9_release 39 = .ok (.iconst 1, 1) := by decide +kernel
theorem dX9_release_40 : decode cX9_release 40 = .ok (.isub, 1) := by decide +kernel
theorem dX9_release_41 : decode cX9_release 41 = .ok (.iaload, 1) := by decide +kernel
theorem dX9_release_42 : decode cX9_release 42 = .ok (.if_icmp .ge 7, 3) := by decide +kernel
theorem dX9_release_45 : decode cX9_release 45 = .ok (.sipush (-1003), 3) := by decide +kernel
theorem dX9_release_48 : decode cX9_release 48 = .ok (.ireturn, 1) := by decide +kernel
theorem dX9_release_49 : decode cX9_release 49 = .ok (.aload_n 0, 1) := by decide +kernel
theorem dX9_release_50 : decode cX9_release 50 = .ok (.getfield 129, 3) := by decide +kernel
theorem dX9_release_53 : decode cX9_release 53 = .ok (.bipush 20, 2) := by decide +kernel
theorem dX9_release_55 : decode cX9_release 55 = .ok (.if_icmp .ne 7, 3) := by decide +kernel
theorem dX9_release_58 : decode cX9_release 58 = .ok (.sipush (-1004), 3) := by decide +kernel
theorem dX9_release_61 : decode cX9_release 61 = .ok (.ireturn, 1) := by decide +kernel
theorem dX9_release_62 : decode cX9_release 62 = .ok (.aload_n 0, 1) := by decide +kernel
theorem dX9_release_63 : decode cX9_release 63 = .ok (.getfield 40, 3) := by decide +kernel
theorem dX9_release_66 : decode cX9_release 66 = .ok (.aload_n 0, 1) := by decide +kernel
theorem dX9_release_67 : decode cX9_release 67 = .ok (.getfield 129, 3) := by decide +kernel
theorem dX9_release_70 : decode cX9_release 70 = .ok (.iload_n 1, 1) := by decide +kernel
theorem dX9_release_71 : decode cX9_release 71 = .ok (.iastore, 1) := by decide +kernel
theorem dX9_release_72 : decode cX9_release 72 = .ok (.aload_n 0, 1) := by decide +kernel
theorem dX9_release_73 : decode cX9_release 73 = .ok (.getfield 43, 3) := by decide +kernel
theorem dX9_release_76 : decode cX9_release 76 = .ok (.aload_n 0, 1) := by decide +kernel
theorem dX9_release_77 : decode cX9_release 77 = .ok (.getfield 129, 3) := by decide +kernel
theorem dX9_release_80 : decode cX9_release 80 = .ok (.iload_n 2, 1) := by decide +kernel
theorem dX9_release_81 : decode cX9_release 81 = .ok (.iastore, 1) := by decide +kernel
theorem dX9_release_82 : decode cX9_release 82 = .ok (.aload_n 0, 1) := by decide +kernel
theorem dX9_release_83 : decode cX9_release 83 = .ok (.getfield 46, 3) := by decide +kernel
theorem dX9_release_86 : decode cX9_release 86 = .ok (.aload_n 0, 1) := by decide +kernel
theorem dX9_release_87 : decode cX9_release 87 = .ok (.getfield 129, 3) := by decide +kernel
theorem dX9_release_90 : decode cX9_release 90 = .ok (.aload_n 0, 1) := by decide +kernel
theorem dX9_release_91 : decode cX9_release 91 = .ok (.getfield 31, 3) := by decide +kernel
theorem dX9_release_94 : decode cX9_release 94 = .ok (.iload_n 1, 1) := by decide +kernel
theorem dX9_release_95 : decode cX9_release 95 = .ok (.iaload, 1) := by decide +kernel
theorem dX9_release_96 : decode cX9_release 96 = .ok (.iastore, 1) := by decide +kernel
theorem dX9_release_97 : decode cX9_release 97 = .ok (.iconst 0, 1) := by decide +kernel
theorem dX9_release_98 : decode cX9_release 98 = .ok (.istore_n 3, 1) := by decide +kernel
theorem dX9_release_99 : decode cX9_release 99 = .ok (.iload_n 3, 1) := by decide +kernel
theorem dX9_release_100 : decode cX9_release 100 = .ok (.bipush 16, 2) := by decide +kernel
theorem dX9_release_102 : decode cX9_release 102 = .ok (.if_icmp .ge 34, 3) := by decide +kernel
theorem dX9_release_105 : decode cX9_release 105 = .ok (.aload_n 0, 1) := by decide +kernel
theorem dX9_release_106 : decode cX9_release 106 = .ok (.getfield 49, 3) := by decide +kernel
theorem dX9_release_109 : decode cX9_release 109 = .ok (.bipush 16, 2) := by decide +kernel
theorem dX9_release_111 : decode cX9_release 111 = .ok (.aload_n 0, 1) := by decide +kernel
theorem dX9_release_112 : decode cX9_release 112 = .ok (.getfield 129, 3) := by decide +kernel
theorem dX9_release_115 : decode cX9_release 115 = .ok (.imul, 1) := by decide +kernel
theorem dX9_release_116 : decode cX9_release 116 = .ok (.iload_n 3, 1) := by decide +kernel
theorem dX9_release_117 : decode cX9_release 117 = .ok (.iadd, 1) := by decide +kernel
theorem dX9_release_118 : decode cX9_release 118 = .ok (.aload_n 0, 1) := by decide +kernel
theorem dX9_release_119 : decode cX9_release 119 = .ok (.getfield 34, 3) := by decide +kernel
theorem dX9_release_122 : decode cX9_release 122 = .ok (.bipush 16, 2) := by decide +kernel
theorem dX9_release_124 : decode cX9_release 124 = .ok (.iload_n 1, 1) := by decide +kernel
theorem dX9_release_125 : decode cX9_release 125 = .ok (.imul, 1) := by decide +kernel
theorem dX9_release_126 : decode cX9_release 126 = .ok (.iload_n 3, 1) := by decide +kernel
theorem dX9_release_127 : decode cX9_release 127 = .ok (.iadd, 1) := by decide +kernel
theorem dX9_release_128 : decode cX9_release 128 = .ok (.iaload, 1) := by decide +kernel
theorem dX9_release_129 : decode cX9_release 129 = .ok (.iastore, 1) := by decide +kernel
theorem dX9_release_130 : decode cX9_release 130 = .ok (.iinc 3 1, 3) := by decide +kernel
theorem dX9_release_133 : decode cX9_release 133 = .ok (.goto (-34), 3) := by decide +kernel
theorem dX9_release_136 : decode cX9_release 136 = .ok (.aload_n 0, 1) := by decide +kernel
theorem dX9_release_137 : decode cX9_release 137 = .ok (.dup, 1) := by decide +kernel
theorem dX9_release_138 : decode cX9_release 138 = .ok (.getfield 129, 3) := by decide +kernel
theorem dX9_release_141 : decode cX9_release 141 = .ok (.iconst 1, 1) := by decide +kernel
theorem dX9_release_142 : decode cX9_release 142 = .ok (.iadd, 1) := by decide +kernel
theorem dX9_release_143 : decode cX9_release 143 = .ok (.putfield 129, 3) := by decide +kernel
theorem dX9_release_146 : decode cX9_release 146 = .ok (.aload_n 0, 1) := by decide +kernel
theorem dX9_release_147 : decode cX9_release 147 = .ok (.getfield 129, 3) := by decide +kernel
theorem dX9_release_150 : decode cX9_release 150 = .ok (.iconst 1, 1) := by decide +kernel
theorem dX9_release_151 : decode cX9_release 151 = .ok (.isub, 1) := by decide +kernel
theorem dX9_release_152 : decode cX9_release 152 = .ok (.ireturn, 1) := by decide +kernel
set_option maxRecDepth 20000 in
theorem ggX9_released_X9_isRelease : GoodIn wsX9_released wsX9_isRelease := goodIn_r _ [8, 9, 10, 11, 7, 12, 23, 24, 25, 26, 27, 28, 29, 30, 31, 32, 33, 34, 35, 36, 37, 38, 39, 40, 41, 42, 43, 44, 45, 46, 47, 48, 49, 50, 51, 52, 53, 54, 55, 56, 57, 58, 59, 60, 61, 62, 63, 64, 65, 66, 67, 68, 69, 70, 71, 72, 73, 74, 75, 76, 77] (by decide +kernel) (by decide +kernel)
set_option maxRecDepth 20000 in
theorem gX9_released_X9_isRelease : GoodIn wsX9_released (wsV RX9 320 RX9 yX9_isRelease wsX9_isRelease) := goodIn_app (goodIn_of _ (by decide +kernel)) ggX9_released_X9_isRelease
set_option maxRecDepth 20000 in
theorem ggX9_released_X9_faultsIn : GoodIn wsX9_released wsX9_faultsIn := goodIn_r _ [16, 17, 18, 19, 20, 21, 7, 22, 23, 24, 25, 26, 27, 28, 29, 30, 31, 32, 33, 34, 35, 36, 37, 38, 39, 40, 41, 42, 43, 44, 45, 46, 47, 48, 49, 50, 51, 52, 53, 54, 55, 56, 57, 58, 59, 60, 61, 62, 63, 64, 65, 66, 67, 68, 69, 70, 71, 72, 73, 74, 75, 76, 77] (by decide +kernel) (by decide +kernel)
set_option maxRecDepth 20000 in
theorem gX9_released_X9_faultsIn : GoodIn wsX9_released (wsV RX9 269 RX9 yX9_faultsIn wsX9_faultsIn) := goodIn_app (goodIn_of _ (by decide +kernel)) ggX9_released_X9_faultsIn
theorem dX9_released_0 : decode cX9_released 0 = .ok (.aload_n 0, 1) := by decide +kernel
theorem dX9_released_1 : decode cX9_released 1 = .ok (.iload_n 1, 1) := by decide +kernel
theorem dX9_released_2 : decode cX9_released 2 = .ok (.invokevirtual 320, 3) := by decide +kernel
theorem dX9_released_5 : decode cX9_released 5 = .ok (.ifCond .ne 7, 3) := by decide +kernel
theorem dX9_released_8 : decode cX9_released 8 = .ok (.sipush (-1001), 3) := by decide +kernel
theorem dX9_released_11 : decode cX9_released 11 = .ok (.ireturn, 1) := by decide +kernel
theorem dX9_released_12 : decode cX9_released 12 = .ok (.iload_n 2, 1) := by decide +kernel
theorem dX9_released_13 : decode cX9_released 13 = .ok (.tableswitch 63 0 3 #[31, 38, 45, 52], 31) := by decide +kernel
theorem dX9_released_44 : decode cX9_released 44 = .ok (.aload_n 0, 1) := by decide +kernel
theorem dX9_released_45 : decode cX9_released 45 = .ok (.getfield 40, 3) := by decide +kernel
theorem dX9_released_48 : decode cX9_released 48 = .ok (.iload_n 1, 1) := by decide +kernel
theorem dX9_released_49 : decode cX9_released 49 = .ok (.iaload, 1) := by decide +kernel
theorem dX9_released_50 : decode cX9_released 50 = .ok (.ireturn, 1) := by decide +kernel
theorem dX9_released_51 : decode cX9_released 51 = .ok (.aload_n 0, 1) := by decide +kernel
theorem dX9_released_52 : decode cX9_released 52 = .ok (.getfield 43, 3) := by decide +kernel
theorem dX9_released_55 : decode cX9_released 55 = .ok (.iload_n 1, 1) := by decide +kernel
theorem dX9_released_56 : decode cX9_released 56 = .ok (.iaload, 1) := by decide +kernel
theorem dX9_released_57 : decode cX9_released 57 = .ok (.ireturn, 1) := by decide +kernel
theorem dX9_released_58 : decode cX9_released 58 = .ok (.aload_n 0, 1) := by decide +kernel
theorem dX9_released_59 : decode cX9_released 59 = .ok (.getfield 46, 3) := by decide +kernel
theorem dX9_released_62 : decode cX9_released 62 = .ok (.iload_n 1, 1) := by decide +kernel
theorem dX9_released_63 : decode cX9_released 63 = .ok (.iaload, 1) := by decide +kernel
theorem dX9_released_64 : decode cX9_released 64 = .ok (.ireturn, 1) := by decide +kernel
theorem dX9_released_65 : decode cX9_released 65 = .ok (.aload_n 0, 1) := by decide +kernel
theorem dX9_released_66 : decode cX9_released 66 = .ok (.aload_n 0, 1) := by decide +kernel
theorem dX9_released_67 : decode cX9_released 67 = .ok (.getfield 46, 3) := by decide +kernel
theorem dX9_released_70 : decode cX9_released 70 = .ok (.iload_n 1, 1) := by decide +kernel
theorem dX9_released_71 : decode cX9_released 71 = .ok (.iaload, 1) := by decide +kernel
theorem dX9_released_72 : decode cX9_released 72 = .ok (.invokevirtual 269, 3) := by decide +kernel
theorem dX9_released_75 : decode cX9_released 75 = .ok (.ireturn, 1) := by decide +kernel
theorem dX9_released_76 : decode cX9_released 76 = .ok (.sipush (-1002), 3) := by decide +kernel
theorem dX9_released_79 : decode cX9_released 79 = .ok (.ireturn, 1) := by decide +kernel
set_option maxRecDepth 20000 in
theorem ggX9_notes_X9_isRelease : GoodIn wsX9_notes wsX9_isRelease := goodIn_r _ [6, 7, 8, 9, 5, 10, 21, 22, 23, 24, 25, 26, 27, 28, 29, 30, 31, 32, 33, 34, 35, 36, 37, 38, 39, 40, 41, 42, 43, 44, 45, 46, 47, 48, 49, 50, 51, 52, 53, 54, 55, 56, 57, 58, 59, 60, 61, 62, 63, 64, 65, 66, 67, 68, 69, 70, 71, 72, 73, 74, 75] (by decide +kernel) (by decide +kernel)
set_option maxRecDepth 20000 in
theorem gX9_notes_X9_isRelease : GoodIn wsX9_notes (wsV RX9 320 RX9 yX9_isRelease wsX9_isRelease) := goodIn_app (goodIn_of _ (by decide +kernel)) ggX9_notes_X9_isRelease
set_option maxRecDepth 20000 in
theorem ggX9_notes_X9_faultsIn : GoodIn wsX9_notes wsX9_faultsIn := goodIn_r _ [14, 15, 16, 17, 18, 19, 5, 20, 21, 22, 23, 24, 25, 26, 27, 28, 29, 30, 31, 32, 33, 34, 35, 36, 37, 38, 39, 40, 41, 42, 43, 44, 45, 46, 47, 48, 49, 50, 51, 52, 53, 54, 55, 56, 57, 58, 59, 60, 61, 62, 63, 64, 65, 66, 67, 68, 69, 70, 71, 72, 73, 74, 75] (by decide +kernel) (by decide +kernel)
set_option maxRecDepth 20000 in
theorem gX9_notes_X9_faultsIn : GoodIn wsX9_notes (wsV RX9 269 RX9 yX9_faultsIn wsX9_faultsIn) := goodIn_app (goodIn_of _ (by decide +kernel)) ggX9_notes_X9_faultsIn
theorem dX9_notes_0 : decode cX9_notes 0 = .ok (.aload_n 0, 1) := by decide +kernel
theorem dX9_notes_1 : decode cX9_notes 1 = .ok (.iload_n 1, 1) := by decide +kernel
theorem dX9_notes_2 : decode cX9_notes 2 = .ok (.invokevirtual 320, 3) := by decide +kernel
theorem dX9_notes_5 : decode cX9_notes 5 = .ok (.ifCond .eq 11, 3) := by decide +kernel
theorem dX9_notes_8 : decode cX9_notes 8 = .ok (.aload_n 0, 1) := by decide +kernel
theorem dX9_notes_9 : decode cX9_notes 9 = .ok (.iload_n 2, 1) := by decide +kernel
theorem dX9_notes_10 : decode cX9_notes 10 = .ok (.invokevirtual 320, 3) := by decide +kernel
theorem dX9_notes_13 : decode cX9_notes 13 = .ok (.ifCond .ne 7, 3) := by decide +kernel
theorem dX9_notes_16 : decode cX9_notes 16 = .ok (.sipush (-1001), 3) := by decide +kernel
theorem dX9_notes_19 : decode cX9_notes 19 = .ok (.ireturn, 1) := by decide +kernel
theorem dX9_notes_20 : decode cX9_notes 20 = .ok (.aload_n 0, 1) := by decide +kernel
theorem dX9_notes_21 : decode cX9_notes 21 = .ok (.aload_n 0, 1) := by decide +kernel
theorem dX9_notes_22 : decode cX9_notes 22 = .ok (.getfield 46, 3) := by decide +kernel
theorem dX9_notes_25 : decode cX9_notes 25 = .ok (.iload_n 1, 1) := by decide +kernel
theorem dX9_notes_26 : decode cX9_notes 26 = .ok (.iaload, 1) := by decide +kernel
theorem dX9_notes_27 : decode cX9_notes 27 = .ok (.invokevirtual 269, 3) := by decide +kernel
theorem dX9_notes_30 : decode cX9_notes 30 = .ok (.istore 4, 2) := by decide +kernel
theorem dX9_notes_32 : decode cX9_notes 32 = .ok (.aload_n 0, 1) := by decide +kernel
theorem dX9_notes_33 : decode cX9_notes 33 = .ok (.aload_n 0, 1) := by decide +kernel
theorem dX9_notes_34 : decode cX9_notes 34 = .ok (.getfield 46, 3) := by decide +kernel
theorem dX9_notes_37 : decode cX9_notes 37 = .ok (.iload_n 2, 1) := by decide +kernel
theorem dX9_notes_38 : decode cX9_notes 38 = .ok (.iaload, 1) := by decide +kernel
theorem dX9_notes_39 : decode cX9_notes 39 = .ok (.invokevirtual 269, 3) := by decide +kernel
theorem dX9_notes_42 : decode cX9_notes 42 = .ok (.istore 5, 2) := by decide +kernel
theorem dX9_notes_44 : decode cX9_notes 44 = .ok (.iload_n 3, 1) := by decide +kernel
theorem dX9_notes_45 : decode cX9_notes 45 = .ok (.tableswitch 79 0 3 #[31, 47, 63, 71], 31) := by decide +kernel
theorem dX9_notes_76 : decode cX9_notes 76 = .ok (.aload_n 0, 1) := by decide +kernel
theorem dX9_notes_77 : decode cX9_notes 77 = .ok (.getfield 46, 3) := by decide +kernel
theorem dX9_notes_80 : decode cX9_notes 80 = .ok (.iload_n 2, 1) := by decide +kernel
theorem dX9_notes_81 : decode cX9_notes 81 = .ok (.iaload, 1) := by decide +kernel
theorem dX9_notes_82 : decode cX9_notes 82 = .ok (.aload_n 0, 1) := by decide +kernel
theorem dX9_notes_83 : decode cX9_notes 83 = .ok (.getfield 46, 3) := by decide +kernel
theorem dX9_notes_86 : decode cX9_notes 86 = .ok (.iload_n 1, 1) := by decide +kernel
theorem dX9_notes_87 : decode cX9_notes 87 = .ok (.iaload, 1) := by decide +kernel
theorem dX9_notes_88 : decode cX9_notes 88 = .ok (.iconst (-1), 1) := by decide +kernel
theorem dX9_notes_89 : decode cX9_notes 89 = .ok (.ixor, 1) := by decide +kernel
theorem dX9_notes_90 : decode cX9_notes 90 = .ok (.iand, 1) := by decide +kernel
theorem dX9_notes_91 : decode cX9_notes 91 = .ok (.ireturn, 1) := by decide +kernel
theorem dX9_notes_92 : decode cX9_notes 92 = .ok (.aload_n 0, 1) := by decide +kernel
theorem dX9_notes_93 : decode cX9_notes 93 = .ok (.getfield 46, 3) := by decide +kernel
theorem dX9_notes_96 : decode cX9_notes 96 = .ok (.iload_n 1, 1) := by decide +kernel
theorem dX9_notes_97 : decode cX9_notes 97 = .ok (.iaload, 1) := by decide +kernel
theorem dX9_notes_98 : decode cX9_notes 98 = .ok (.aload_n 0, 1) := by decide +kernel
theorem dX9_notes_99 : decode cX9_notes 99 = .ok (.getfield 46, 3) := by decide +kernel
theorem dX9_notes_102 : decode cX9_notes 102 = .ok (.iload_n 2, 1) := by decide +kernel
theorem dX9_notes_103 : decode cX9_notes 103 = .ok (.iaload, 1) := by decide +kernel
theorem dX9_notes_104 : decode cX9_notes 104 = .ok (.iconst (-1), 1) := by decide +kernel
theorem dX9_notes_105 : decode cX9_notes 105 = .ok (.ixor, 1) := by decide +kernel
theorem dX9_notes_106 : decode cX9_notes 106 = .ok (.iand, 1) := by decide +kernel
theorem dX9_notes_107 : decode cX9_notes 107 = .ok (.ireturn, 1) := by decide +kernel
theorem dX9_notes_108 : decode cX9_notes 108 = .ok (.iload 4, 2) := by decide +kernel
theorem dX9_notes_110 : decode cX9_notes 110 = .ok (.iload 5, 2) := by decide +kernel
theorem dX9_notes_112 : decode cX9_notes 112 = .ok (.iconst (-1), 1) := by decide +kernel
theorem dX9_notes_113 : decode cX9_notes 113 = .ok (.ixor, 1) := by decide +kernel
theorem dX9_notes_114 : decode cX9_notes 114 = .ok (.iand, 1) := by decide +kernel
theorem dX9_notes_115 : decode cX9_notes 115 = .ok (.ireturn, 1) := by decide +kernel
theorem dX9_notes_116 : decode cX9_notes 116 = .ok (.iload 5, 2) := by decide +kernel
theorem dX9_notes_118 : decode cX9_notes 118 = .ok (.iload 4, 2) := by decide +kernel
theorem dX9_notes_120 : decode cX9_notes 120 = .ok (.iconst (-1), 1) := by decide +kernel
theorem dX9_notes_121 : decode cX9_notes 121 = .ok (.ixor, 1) := by decide +kernel
theorem dX9_notes_122 : decode cX9_notes 122 = .ok (.iand, 1) := by decide +kernel
theorem dX9_notes_123 : decode cX9_notes 123 = .ok (.ireturn, 1) := by decide +kernel
theorem dX9_notes_124 : decode cX9_notes 124 = .ok (.sipush (-1002), 3) := by decide +kernel
theorem dX9_notes_127 : decode cX9_notes 127 = .ok (.ireturn, 1) := by decide +kernel
set_option maxRecDepth 20000 in
theorem ggX9_differs_X9_isRelease : GoodIn wsX9_differs wsX9_isRelease := goodIn_r _ [6, 7, 8, 9, 5, 10, 11, 12, 13, 14, 15, 16, 17, 18, 19, 20, 21, 22, 23, 24, 25, 26, 27, 28, 29, 30, 31, 32, 33, 34, 35, 36, 37, 38, 39, 40, 41, 42, 43, 44, 45, 46, 47, 48, 49, 50, 51, 52, 53, 54, 55, 56, 57, 58, 59, 60, 61, 62, 63, 64, 65] (by decide +kernel) (by decide +kernel)
set_option maxRecDepth 20000 in
theorem gX9_differs_X9_isRelease : GoodIn wsX9_differs (wsV RX9 320 RX9 yX9_isRelease wsX9_isRelease) := goodIn_app (goodIn_of _ (by decide +kernel)) ggX9_differs_X9_isRelease
theorem dX9_differs_0 : decode cX9_differs 0 = .ok (.aload_n 0, 1) := by decide +kernel
theorem dX9_differs_1 : decode cX9_differs 1 = .ok (.iload_n 1, 1) := by decide +kernel
theorem dX9_differs_2 : decode cX9_differs 2 = .ok (.invokevirtual 320, 3) := by decide +kernel
theorem dX9_differs_5 : decode cX9_differs 5 = .ok (.ifCond .eq 11, 3) := by decide +kernel
theorem dX9_differs_8 : decode cX9_differs 8 = .ok (.aload_n 0, 1) := by decide +kernel
theorem dX9_differs_9 : decode cX9_differs 9 = .ok (.iload_n 2, 1) := by decide +kernel
theorem dX9_differs_10 : decode cX9_differs 10 = .ok (.invokevirtual 320, 3) := by decide +kernel
theorem dX9_differs_13 : decode cX9_differs 13 = .ok (.ifCond .ne 7, 3) := by decide +kernel
theorem dX9_differs_16 : decode cX9_differs 16 = .ok (.sipush (-1001), 3) := by decide +kernel
theorem dX9_differs_19 : decode cX9_differs 19 = .ok (.ireturn, 1) := by decide +kernel
theorem dX9_differs_20 : decode cX9_differs 20 = .ok (.iconst 0, 1) := by decide +kernel
theorem dX9_differs_21 : decode cX9_differs 21 = .ok (.istore_n 3, 1) := by decide +kernel
theorem dX9_differs_22 : decode cX9_differs 22 = .ok (.iconst 0, 1) := by decide +kernel
theorem dX9_differs_23 : decode cX9_differs 23 = .ok (.istore 4, 2) := by decide +kernel
theorem dX9_differs_25 : decode cX9_differs 25 = .ok (.iload 4, 2) := by decide +kernel
theorem dX9_differs_27 : decode cX9_differs 27 = .ok (.bipush 16, 2) := by decide +kernel
theorem dX9_differs_29 : decode cX9_differs 29 = .ok (.if_icmp .ge 47, 3) := by decide +kernel
theorem dX9_differs_32 : decode cX9_differs 32 = .ok (.iload_n 3, 1) := by decide +kernel
theorem dX9_differs_33 : decode cX9_differs 33 = .ok (.aload_n 0, 1) := by decide +kernel
theorem dX9_differs_34 : decode cX9_differs 34 = .ok (.getfield 49, 3) := by decide +kernel
theorem dX9_differs_37 : decode cX9_differs 37 = .ok (.bipush 16, 2) := by decide +kernel
theorem dX9_differs_39 : decode cX9_differs 39 = .ok (.iload_n 1, 1) := by decide +kernel
theorem dX9_differs_40 : decode cX9_differs 40 = .ok (.imul, 1) := by decide +kernel
theorem dX9_differs_41 : decode cX9_differs 41 = .ok (.iload 4, 2) := by decide +kernel
theorem dX9_differs_43 : decode cX9_differs 43 = .ok (.iadd, 1) := by decide +kernel
theorem dX9_differs_44 : decode cX9_differs 44 = .ok (.iaload, 1) := by decide +kernel
theorem dX9_differs_45 : decode cX9_differs 45 = .ok (.aload_n 0, 1) := by decide +kernel
theorem dX9_differs_46 : decode cX9_differs 46 = .ok (.getfield 49, 3) := by decide +kernel
theorem dX9_differs_49 : decode cX9_differs 49 = .ok (.bipush 16, 2) := by decide +kernel
theorem dX9_differs_51 : decode cX9_differs 51 = .ok (.iload_n 2, 1) := by decide +kernel
theorem dX9_differs_52 : decode cX9_differs 52 = .ok (.imul, 1) := by decide +kernel
theorem dX9_differs_53 : decode cX9_differs 53 = .ok (.iload 4, 2) := by decide +kernel
theorem dX9_differs_55 : decode cX9_differs 55 = .ok (.iadd, 1) := by decide +kernel
theorem dX9_differs_56 : decode cX9_differs 56 = .ok (.iaload, 1) := by decide +kernel
theorem dX9_differs_57 : decode cX9_differs 57 = .ok (.if_icmp .eq 10, 3) := by decide +kernel
theorem dX9_differs_60 : decode cX9_differs 60 = .ok (.iconst 1, 1) := by decide +kernel
theorem dX9_differs_61 : decode cX9_differs 61 = .ok (.iload 4, 2) := by decide +kernel
theorem dX9_differs_63 : decode cX9_differs 63 = .ok (.ishl, 1) := by decide +kernel
theorem dX9_differs_64 : decode cX9_differs 64 = .ok (.goto 4, 3) := by decide +kernel
theorem dX9_differs_67 : decode cX9_differs 67 = .ok (.iconst 0, 1) := by decide +kernel
theorem dX9_differs_68 : decode cX9_differs 68 = .ok (.ior, 1) := by decide +kernel
theorem dX9_differs_69 : decode cX9_differs 69 = .ok (.istore_n 3, 1) := by decide +kernel
theorem dX9_differs_70 : decode cX9_differs 70 = .ok (.iinc 4 1, 3) := by decide +kernel
theorem dX9_differs_73 : decode cX9_differs 73 = .ok (.goto (-48), 3) := by decide +kernel
theorem dX9_differs_76 : decode cX9_differs 76 = .ok (.iload_n 3, 1) := by decide +kernel
theorem dX9_differs_77 : decode cX9_differs 77 = .ok (.ireturn, 1) := by decide +kernel
set_option maxRecDepth 20000 in
theorem ggX9_isFree_X9_faultsIn : GoodIn wsX9_isFree wsX9_faultsIn := goodIn_r _ [6, 7, 8, 9, 10, 11, 5, 12, 13, 14, 15, 16, 17, 18, 19, 20, 21, 22, 23, 24, 25, 26, 27, 28, 29, 30, 31, 32, 33, 34, 35, 36, 37, 38, 39, 40, 41, 42, 43, 44, 45, 46, 47, 48, 49, 50, 51, 52, 53, 54, 55, 56, 57, 58, 59, 60, 61, 62, 63, 64, 65, 66, 67] (by decide +kernel) (by decide +kernel)
set_option maxRecDepth 20000 in
theorem gX9_isFree_X9_faultsIn : GoodIn wsX9_isFree (wsV RX9 269 RX9 yX9_faultsIn wsX9_faultsIn) := goodIn_app (goodIn_of _ (by decide +kernel)) ggX9_isFree_X9_faultsIn
set_option maxRecDepth 20000 in
theorem ggX9_isFree_X9_has : GoodIn wsX9_isFree wsX9_has := goodIn_r _ [12] (by decide +kernel) (by decide +kernel)
set_option maxRecDepth 20000 in
theorem gX9_isFree_X9_has : GoodIn wsX9_isFree (va_wsS RX9 190 yX9_has wsX9_has) := goodIn_app (goodIn_of _ (by decide +kernel)) ggX9_isFree_X9_has
theorem dX9_isFree_0 : decode cX9_isFree 0 = .ok (.aload_n 0, 1) := by decide +kernel
theorem dX9_isFree_1 : decode cX9_isFree 1 = .ok (.aload_n 0, 1) := by decide +kernel
theorem dX9_isFree_2 : decode cX9_isFree 2 = .ok (.getfield 46, 3) := by decide +kernel
theorem dX9_isFree_5 : decode cX9_isFree 5 = .ok (.iload_n 1, 1) := by decide +kernel
theorem dX9_isFree_6 : decode cX9_isFree 6 = .ok (.iaload, 1) := by decide +kernel
theorem dX9_isFree_7 : decode cX9_isFree 7 = .ok (.invokevirtual 269, 3) := by decide +kernel
theorem dX9_isFree_10 : decode cX9_isFree 10 = .ok (.iload_n 2, 1) := by decide +kernel
theorem dX9_isFree_11 : decode cX9_isFree 11 = .ok (.invokestatic 190, 3) := by decide +kernel
theorem dX9_isFree_14 : decode cX9_isFree 14 = .ok (.ifCond .ne 7, 3) := by decide +kernel
theorem dX9_isFree_17 : decode cX9_isFree 17 = .ok (.iconst 1, 1) := by decide +kernel
theorem dX9_isFree_18 : decode cX9_isFree 18 = .ok (.goto 4, 3) := by decide +kernel
theorem dX9_isFree_21 : decode cX9_isFree 21 = .ok (.iconst 0, 1) := by decide +kernel
theorem dX9_isFree_22 : decode cX9_isFree 22 = .ok (.ireturn, 1) := by decide +kernel
set_option maxRecDepth 20000 in
theorem ggX9_freed_X9_isFault : GoodIn wsX9_freed wsX9_isFault := goodIn_r _ [7, 8, 9, 10, 6, 11, 31, 32, 33, 34, 35, 36, 37, 38, 39, 40, 41, 42, 43, 44, 45, 46, 47, 48, 49, 50, 51, 52, 53, 54, 55, 56, 57, 58, 59, 60, 61, 62, 63, 64, 65, 66, 67, 68, 69, 70, 71, 72, 73, 74, 75, 76, 77, 78, 79, 80, 81, 82, 83, 84, 85] (by decide +kernel) (by decide +kernel)
set_option maxRecDepth 20000 in
theorem gX9_freed_X9_isFault : GoodIn wsX9_freed (wsV RX9 263 RX9 yX9_isFault wsX9_isFault) := goodIn_app (goodIn_of _ (by decide +kernel)) ggX9_freed_X9_isFault
set_option maxRecDepth 20000 in
theorem ggX9_freed_X9_isLine : GoodIn wsX9_freed wsX9_isLine := goodIn_r _ [15, 16, 9, 10, 6, 11, 31, 32, 33, 34, 35, 36, 37, 38, 39, 40, 41, 42, 43, 44, 45, 46, 47, 48, 49, 50, 51, 52, 53, 54, 55, 56, 57, 58, 59, 60, 61, 62, 63, 64, 65, 66, 67, 68, 69, 70, 71, 72, 73, 74, 75, 76, 77, 78, 79, 80, 81, 82, 83, 84, 85] (by decide +kernel) (by decide +kernel)
set_option maxRecDepth 20000 in
theorem gX9_freed_X9_isLine : GoodIn wsX9_freed (wsV RX9 266 RX9 yX9_isLine wsX9_isLine) := goodIn_app (goodIn_of _ (by decide +kernel)) ggX9_freed_X9_isLine
set_option maxRecDepth 20000 in
theorem ggX9_freed_X9_isFree : GoodIn wsX9_freed wsX9_isFree := goodIn_r _ [20, 21, 22, 23, 24, 6, 25, 8, 26, 27, 28, 29, 30, 31, 32, 33, 34, 35, 36, 37, 38, 39, 40, 41, 42, 43, 44, 45, 46, 47, 48, 49, 50, 51, 52, 53, 54, 55, 56, 57, 58, 59, 60, 61, 62, 63, 64, 65, 66, 67, 68, 69, 70, 71, 72, 73, 74, 75, 76, 77, 78, 79, 80, 81, 82, 83, 84, 85] (by decide +kernel) (by decide +kernel)
set_option maxRecDepth 20000 in
theorem gX9_freed_X9_isFree : GoodIn wsX9_freed (wsV RX9 323 RX9 yX9_isFree wsX9_isFree) := goodIn_app (goodIn_of _ (by decide +kernel)) ggX9_freed_X9_isFree
theorem dX9_freed_0 : decode cX9_freed 0 = .ok (.aload_n 0, 1) := by decide +kernel
theorem dX9_freed_1 : decode cX9_freed 1 = .ok (.iload_n 1, 1) := by decide +kernel
theorem dX9_freed_2 : decode cX9_freed 2 = .ok (.invokevirtual 263, 3) := by decide +kernel
theorem dX9_freed_5 : decode cX9_freed 5 = .ok (.ifCond .eq 11, 3) := by decide +kernel
theorem dX9_freed_8 : decode cX9_freed 8 = .ok (.aload_n 0, 1) := by decide +kernel
theorem dX9_freed_9 : decode cX9_freed 9 = .ok (.iload_n 2, 1) := by decide +kernel
theorem dX9_freed_10 : decode cX9_freed 10 = .ok (.invokevirtual 266, 3) := by decide +kernel
theorem dX9_freed_13 : decode cX9_freed 13 = .ok (.ifCond .ne 7, 3) := by decide +kernel
theorem dX9_freed_16 : decode cX9_freed 16 = .ok (.sipush (-1001), 3) := by decide +kernel
theorem dX9_freed_19 : decode cX9_freed 19 = .ok (.ireturn, 1) := by decide +kernel
theorem dX9_freed_20 : decode cX9_freed 20 = .ok (.iconst (-1), 1) := by decide +kernel
theorem dX9_freed_21 : decode cX9_freed 21 = .ok (.istore_n 3, 1) := by decide +kernel
theorem dX9_freed_22 : decode cX9_freed 22 = .ok (.iconst 0, 1) := by decide +kernel
theorem dX9_freed_23 : decode cX9_freed 23 = .ok (.istore 4, 2) := by decide +kernel
theorem dX9_freed_25 : decode cX9_freed 25 = .ok (.iconst 0, 1) := by decide +kernel
theorem dX9_freed_26 : decode cX9_freed 26 = .ok (.istore 5, 2) := by decide +kernel
theorem dX9_freed_28 : decode cX9_freed 28 = .ok (.iload 5, 2) := by decide +kernel
theorem dX9_freed_30 : decode cX9_freed 30 = .ok (.aload_n 0, 1) := by decide +kernel
theorem dX9_freed_31 : decode cX9_freed 31 = .ok (.getfield 129, 3) := by decide +kernel
theorem dX9_freed_34 : decode cX9_freed 34 = .ok (.if_icmp .ge 71, 3) := by decide +kernel
theorem dX9_freed_37 : decode cX9_freed 37 = .ok (.aload_n 0, 1) := by decide +kernel
theorem dX9_freed_38 : decode cX9_freed 38 = .ok (.getfield 40, 3) := by decide +kernel
theorem dX9_freed_41 : decode cX9_freed 41 = .ok (.iload 5, 2) := by decide +kernel
theorem dX9_freed_43 : decode cX9_freed 43 = .ok (.iaload, 1) := by decide +kernel
theorem dX9_freed_44 : decode cX9_freed 44 = .ok (.iload_n 2, 1) := by decide +kernel
theorem dX9_freed_45 : decode cX9_freed 45 = .ok (.if_icmp .ne 54, 3) := by decide +kernel
theorem dX9_freed_48 : decode cX9_freed 48 = .ok (.aload_n 0, 1) := by decide +kernel
theorem dX9_freed_49 : decode cX9_freed 49 = .ok (.iload 5, 2) := by decide +kernel
theorem dX9_freed_51 : decode cX9_freed 51 = .ok (.iload_n 1, 1) := by decide +kernel
theorem dX9_freed_52 : decode cX9_freed 52 = .ok (.invokevirtual 323, 3) := by decide +kernel
theorem dX9_freed_55 : decode cX9_freed 55 = .ok (.istore 6, 2) := by decide +kernel
theorem dX9_freed_57 : decode cX9_freed 57 = .ok (.iload 4, 2) := by decide +kernel
theorem dX9_freed_59 : decode cX9_freed 59 = .ok (.ifCond .ne 8, 3) := by decide +kernel
theorem dX9_freed_62 : decode cX9_freed 62 = .ok (.iload 6, 2) := by decide +kernel
theorem dX9_freed_64 : decode cX9_freed 64 = .ok (.ifCond .ne 7, 3) := by decide +kernel
theorem dX9_freed_67 : decode cX9_freed 67 = .ok (.iconst 1, 1) := by decide +kernel
theorem dX9_freed_68 : decode cX9_freed 68 = .ok (.goto 4, 3) := by decide +kernel
theorem dX9_freed_71 : decode cX9_freed 71 = .ok (.iconst 0, 1) := by decide +kernel
theorem dX9_freed_72 : decode cX9_freed 72 = .ok (.istore 4, 2) := by decide +kernel
theorem dX9_freed_74 : decode cX9_freed 74 = .ok (.iload 6, 2) := by decide +kernel
theorem dX9_freed_76 : decode cX9_freed 76 = .ok (.ifCond .ne 7, 3) := by decide +kernel
theorem dX9_freed_79 : decode cX9_freed 79 = .ok (.iconst (-1), 1) := by decide +kernel
theorem dX9_freed_80 : decode cX9_freed 80 = .ok (.goto 18, 3) := by decide +kernel
theorem dX9_freed_83 : decode cX9_freed 83 = .ok (.iload 4, 2) := by decide +kernel
theorem dX9_freed_85 : decode cX9_freed 85 = .ok (.ifCond .eq 12, 3) := by decide +kernel
theorem dX9_freed_88 : decode cX9_freed 88 = .ok (.iload_n 3, 1) := by decide +kernel
theorem dX9_freed_89 : decode cX9_freed 89 = .ok (.ifCond .ge 8, 3) := by decide +kernel
theorem dX9_freed_92 : decode cX9_freed 92 = .ok (.iload 5, 2) := by decide +kernel
theorem dX9_freed_94 : decode cX9_freed 94 = .ok (.goto 4, 3) := by decide +kernel
theorem dX9_freed_97 : decode cX9_freed 97 = .ok (.iload_n 3, 1) := by decide +kernel
theorem dX9_freed_98 : decode cX9_freed 98 = .ok (.istore_n 3, 1) := by decide +kernel
theorem dX9_freed_99 : decode cX9_freed 99 = .ok (.iinc 5 1, 3) := by decide +kernel
theorem dX9_freed_102 : decode cX9_freed 102 = .ok (.goto (-74), 3) := by decide +kernel
theorem dX9_freed_105 : decode cX9_freed 105 = .ok (.iload_n 3, 1) := by decide +kernel
theorem dX9_freed_106 : decode cX9_freed 106 = .ok (.ireturn, 1) := by decide +kernel
set_option maxRecDepth 20000 in
theorem ggX9_danger_X9_isFault : GoodIn wsX9_danger wsX9_isFault := goodIn_r _ [9, 10, 11, 12, 8, 13, 32, 33, 34, 35, 36, 37, 38, 39, 40, 41, 42, 43, 44, 45, 46, 47, 48, 49, 50, 51, 52, 53, 54, 55, 56, 57, 58, 59, 60, 61, 62, 63, 64, 65, 66, 67, 68, 69, 70, 71, 72, 73, 74, 75, 76, 77, 78, 79, 80, 81, 82, 83, 84, 85, 86] (by decide +kernel) (by decide +kernel)
set_option maxRecDepth 20000 in
theorem gX9_danger_X9_isFault : GoodIn wsX9_danger (wsV RX9 263 RX9 yX9_isFault wsX9_isFault) := goodIn_app (goodIn_of _ (by decide +kernel)) ggX9_danger_X9_isFault
set_option maxRecDepth 20000 in
theorem ggX9_danger_X9_isDay : GoodIn wsX9_danger wsX9_isDay := goodIn_r _ [16, 17, 11, 12, 8, 13] (by decide +kernel) (by decide +kernel)
set_option maxRecDepth 20000 in
theorem gX9_danger_X9_isDay : GoodIn wsX9_danger (va_wsS RX9 317 yX9_isDay wsX9_isDay) := goodIn_app (goodIn_of _ (by decide +kernel)) ggX9_danger_X9_isDay
set_option maxRecDepth 20000 in
theorem ggX9_danger_X9_isFree : GoodIn wsX9_danger wsX9_isFree := goodIn_r _ [21, 22, 23, 24, 25, 8, 26, 10, 27, 28, 29, 30, 31, 32, 33, 34, 35, 36, 37, 38, 39, 40, 41, 42, 43, 44, 45, 46, 47, 48, 49, 50, 51, 52, 53, 54, 55, 56, 57, 58, 59, 60, 61, 62, 63, 64, 65, 66, 67, 68, 69, 70, 71, 72, 73, 74, 75, 76, 77, 78, 79, 80, 81, 82, 83, 84, 85, 86] (by decide +kernel) (by decide +kernel)
set_option maxRecDepth 20000 in
theorem gX9_danger_X9_isFree : GoodIn wsX9_danger (wsV RX9 323 RX9 yX9_isFree wsX9_isFree) := goodIn_app (goodIn_of _ (by decide +kernel)) ggX9_danger_X9_isFree
theorem dX9_danger_0 : decode cX9_danger 0 = .ok (.aload_n 0, 1) := by decide +kernel
theorem dX9_danger_1 : decode cX9_danger 1 = .ok (.iload_n 1, 1) := by decide +kernel
theorem dX9_danger_2 : decode cX9_danger 2 = .ok (.invokevirtual 263, 3) := by decide +kernel
theorem dX9_danger_5 : decode cX9_danger 5 = .ok (.ifCond .ne 7, 3) := by decide +kernel
theorem dX9_danger_8 : decode cX9_danger 8 = .ok (.sipush (-1001), 3) := by decide +kernel
theorem dX9_danger_11 : decode cX9_danger 11 = .ok (.ireturn, 1) := by decide +kernel
theorem dX9_danger_12 : decode cX9_danger 12 = .ok (.iload_n 2, 1) := by decide +kernel
theorem dX9_danger_13 : decode cX9_danger 13 = .ok (.invokestatic 317, 3) := by decide +kernel
theorem dX9_danger_16 : decode cX9_danger 16 = .ok (.ifCond .eq 15, 3) := by decide +kernel
theorem dX9_danger_19 : decode cX9_danger 19 = .ok (.iload_n 3, 1) := by decide +kernel
theorem dX9_danger_20 : decode cX9_danger 20 = .ok (.invokestatic 317, 3) := by decide +kernel
theorem dX9_danger_23 : decode cX9_danger 23 = .ok (.ifCond .eq 8, 3) := by decide +kernel
theorem dX9_danger_26 : decode cX9_danger 26 = .ok (.iload_n 3, 1) := by decide +kernel
theorem dX9_danger_27 : decode cX9_danger 27 = .ok (.iload_n 2, 1) := by decide +kernel
theorem dX9_danger_28 : decode cX9_danger 28 = .ok (.if_icmp .ge 7, 3) := by decide +kernel
theorem dX9_danger_31 : decode cX9_danger 31 = .ok (.sipush (-1002), 3) := by decide +kernel
theorem dX9_danger_34 : decode cX9_danger 34 = .ok (.ireturn, 1) := by decide +kernel
theorem dX9_danger_35 : decode cX9_danger 35 = .ok (.iconst 0, 1) := by decide +kernel
theorem dX9_danger_36 : decode cX9_danger 36 = .ok (.istore 4, 2) := by decide +kernel
theorem dX9_danger_38 : decode cX9_danger 38 = .ok (.iconst 0, 1) := by decide +kernel
theorem dX9_danger_39 : decode cX9_danger 39 = .ok (.istore 5, 2) := by decide +kernel
theorem dX9_danger_41 : decode cX9_danger 41 = .ok (.iload 5, 2) := by decide +kernel
theorem dX9_danger_43 : decode cX9_danger 43 = .ok (.aload_n 0, 1) := by decide +kernel
theorem dX9_danger_44 : decode cX9_danger 44 = .ok (.getfield 126, 3) := by decide +kernel
theorem dX9_danger_47 : decode cX9_danger 47 = .ok (.if_icmp .ge 103, 3) := by decide +kernel
theorem dX9_danger_50 : decode cX9_danger 50 = .ok (.iload_n 2, 1) := by decide +kernel
theorem dX9_danger_51 : decode cX9_danger 51 = .ok (.istore 6, 2) := by decide +kernel
theorem dX9_danger_53 : decode cX9_danger 53 = .ok (.iload 6, 2) := by decide +kernel
theorem dX9_danger_55 : decode cX9_danger 55 = .ok (.iload_n 3, 1) := by decide +kernel
theorem dX9_danger_56 : decode cX9_danger 56 = .ok (.if_icmp .gt 88, 3) := by decide +kernel
theorem dX9_danger_59 : decode cX9_danger 59 = .ok (.iconst (-1), 1) := by decide +kernel
theorem dX9_danger_60 : decode cX9_danger 60 = .ok (.istore 7, 2) := by decide +kernel
theorem dX9_danger_62 : decode cX9_danger 62 = .ok (.iconst 0, 1) := by decide +kernel
theorem dX9_danger_63 : decode cX9_danger 63 = .ok (.istore 8, 2) := by decide +kernel
theorem dX9_danger_65 : decode cX9_danger 65 = .ok (.iload 8, 2) := by decide +kernel
theorem dX9_danger_67 : decode cX9_danger 67 = .ok (.aload_n 0, 1) := by decide +kernel
theorem dX9_danger_68 : decode cX9_danger 68 = .ok (.getfield 129, 3) := by decide +kernel
theorem dX9_danger_71 : decode cX9_danger 71 = .ok (.if_icmp .ge 42, 3) := by decide +kernel
theorem dX9_danger_74 : decode cX9_danger 74 = .ok (.aload_n 0, 1) := by decide +kernel
theorem dX9_danger_75 : decode cX9_danger 75 = .ok (.getfield 40, 3) := by decide +kernel
theorem dX9_danger_78 : decode cX9_danger 78 = .ok (.iload 8, 2) := by decide +kernel
theorem dX9_danger_80 : decode cX9_danger 80 = .ok (.iaload, 1) := by decide +kernel
theorem dX9_danger_81 : decode cX9_danger 81 = .ok (.iload 5, 2) := by decide +kernel
theorem dX9_danger_83 : decode cX9_danger 83 = .ok (.if_icmp .ne 20, 3) := by decide +kernel
theorem dX9_danger_86 : decode cX9_danger 86 = .ok (.aload_n 0, 1) := by decide +kernel
theorem dX9_danger_87 : decode cX9_danger 87 = .ok (.getfield 43, 3) := by decide +kernel
theorem dX9_danger_90 : decode cX9_danger 90 = .ok (.iload 8, 2) := by decide +kernel
theorem dX9_danger_92 : decode cX9_danger 92 = .ok (.iaload, 1) := by decide +kernel
theorem dX9_danger_93 : decode cX9_danger 93 = .ok (.iload 6, 2) := by decide +kernel
theorem dX9_danger_95 : decode cX9_danger 95 = .ok (.if_icmp .gt 8, 3) := by decide +kernel
theorem dX9_danger_98 : decode cX9_danger 98 = .ok (.iload 8, 2) := by decide +kernel
theorem dX9_danger_100 : decode cX9_danger 100 = .ok (.goto 5, 3) := by decide +kernel
theorem dX9_danger_103 : decode cX9_danger 103 = .ok (.iload 7, 2) := by decide +kernel
theorem dX9_danger_105 : decode cX9_danger 105 = .ok (.istore 7, 2) := by decide +kernel
theorem dX9_danger_107 : decode cX9_danger 107 = .ok (.iinc 8 1, 3) := by decide +kernel
theorem dX9_danger_110 : decode cX9_danger 110 = .ok (.goto (-45), 3) := by decide +kernel
theorem dX9_danger_113 : decode cX9_danger 113 = .ok (.iload 4, 2) := by decide +kernel
theorem dX9_danger_115 : decode cX9_danger 115 = .ok (.iload 7, 2) := by decide +kernel
theorem dX9_danger_117 : decode cX9_danger 117 = .ok (.ifCond .lt 17, 3) := by decide +kernel
theorem dX9_danger_120 : decode cX9_danger 120 = .ok (.aload_n 0, 1) := by decide +kernel
theorem dX9_danger_121 : decode cX9_danger 121 = .ok (.iload 7, 2) := by decide +kernel
theorem dX9_danger_123 : decode cX9_danger 123 = .ok (.iload_n 1, 1) := by decide +kernel
theorem dX9_danger_124 : decode cX9_danger 124 = .ok (.invokevirtual 323, 3) := by decide +kernel
theorem dX9_danger_127 : decode cX9_danger 127 = .ok (.ifCond .ne 7, 3) := by decide +kernel
theorem dX9_danger_130 : decode cX9_danger 130 = .ok (.iconst 1, 1) := by decide +kernel
theorem dX9_danger_131 : decode cX9_danger 131 = .ok (.goto 4, 3) := by decide +kernel
theorem dX9_danger_134 : decode cX9_danger 134 = .ok (.iconst 0, 1) := by decide +kernel
theorem dX9_danger_135 : decode cX9_danger 135 = .ok (.iadd, 1) := by decide +kernel
theorem dX9_danger_136 : decode cX9_danger 136 = .ok (.istore 4, 2) := by decide +kernel
theorem dX9_danger_138 : decode cX9_danger 138 = .ok (.iinc 6 1, 3) := by decide +kernel
theorem dX9_danger_141 : decode cX9_danger 141 = .ok (.goto (-88), 3) := by decide +kernel
theorem dX9_danger_144 : decode cX9_danger 144 = .ok (.iinc 5 1, 3) := by decide +kernel
theorem dX9_danger_147 : decode cX9_danger 147 = .ok (.goto (-106), 3) := by decide +kernel
theorem dX9_danger_150 : decode cX9_danger 150 = .ok (.iload 4, 2) := by decide +kernel
theorem dX9_danger_152 : decode cX9_danger 152 = .ok (.ireturn, 1) := by decide +kernel
set_option maxRecDepth 20000 in
theorem ggX9_every_X9_isLine : GoodIn wsX9_every wsX9_isLine := goodIn_r _ [7, 8, 9, 10, 6, 11, 12, 13, 14, 15, 16, 17, 18, 19, 20, 21, 22, 23, 24, 25, 26, 27, 28, 29, 30, 31, 32, 33, 34, 35, 36, 37, 38, 39, 40, 41, 42, 43, 44, 45, 46, 47, 48, 49, 50, 51, 52, 53, 54, 55, 56, 57, 58, 59, 60, 61, 62, 63, 64, 65, 66] (by decide +kernel) (by decide +kernel)
set_option maxRecDepth 20000 in
theorem gX9_every_X9_isLine : GoodIn wsX9_every (wsV RX9 266 RX9 yX9_isLine wsX9_isLine) := goodIn_app (goodIn_of _ (by decide +kernel)) ggX9_every_X9_isLine
set_option maxRecDepth 20000 in
theorem ggX9_every_X9_in : GoodIn wsX9_every wsX9_in := goodIn_r _ [11] (by decide +kernel) (by decide +kernel)
set_option maxRecDepth 20000 in
theorem gX9_every_X9_in : GoodIn wsX9_every (va_wsS RX9 117 yX9_in wsX9_in) := goodIn_app (goodIn_of _ (by decide +kernel)) ggX9_every_X9_in
theorem dX9_every_0 : decode cX9_every 0 = .ok (.aload_n 0, 1) := by decide +kernel
theorem dX9_every_1 : decode cX9_every 1 = .ok (.iload_n 1, 1) := by decide +kernel
theorem dX9_every_2 : decode cX9_every 2 = .ok (.invokevirtual 266, 3) := by decide +kernel
theorem dX9_every_5 : decode cX9_every 5 = .ok (.ifCond .ne 7, 3) := by decide +kernel
theorem dX9_every_8 : decode cX9_every 8 = .ok (.sipush (-1001), 3) := by decide +kernel
theorem dX9_every_11 : decode cX9_every 11 = .ok (.ireturn, 1) := by decide +kernel
theorem dX9_every_12 : decode cX9_every 12 = .ok (.iload_n 2, 1) := by decide +kernel
theorem dX9_every_13 : decode cX9_every 13 = .ok (.i2l, 1) := by decide +kernel
theorem dX9_every_14 : decode cX9_every 14 = .ok (.lconst 0, 1) := by decide +kernel
theorem dX9_every_15 : decode cX9_every 15 = .ok (.ldc2_w 310, 3) := by decide +kernel
theorem dX9_every_18 : decode cX9_every 18 = .ok (.invokestatic 117, 3) := by decide +kernel
theorem dX9_every_21 : decode cX9_every 21 = .ok (.ifCond .ne 7, 3) := by decide +kernel
theorem dX9_every_24 : decode cX9_every 24 = .ok (.sipush (-1002), 3) := by decide +kernel
theorem dX9_every_27 : decode cX9_every 27 = .ok (.ireturn, 1) := by decide +kernel
theorem dX9_every_28 : decode cX9_every 28 = .ok (.aload_n 0, 1) := by decide +kernel
theorem dX9_every_29 : decode cX9_every 29 = .ok (.getfield 37, 3) := by decide +kernel
theorem dX9_every_32 : decode cX9_every 32 = .ok (.iload_n 1, 1) := by decide +kernel
theorem dX9_every_33 : decode cX9_every 33 = .ok (.iaload, 1) := by decide +kernel
theorem dX9_every_34 : decode cX9_every 34 = .ok (.istore_n 3, 1) := by decide +kernel
theorem dX9_every_35 : decode cX9_every 35 = .ok (.aload_n 0, 1) := by decide +kernel
theorem dX9_every_36 : decode cX9_every 36 = .ok (.getfield 37, 3) := by decide +kernel
theorem dX9_every_39 : decode cX9_every 39 = .ok (.iload_n 1, 1) := by decide +kernel
theorem dX9_every_40 : decode cX9_every 40 = .ok (.iload_n 2, 1) := by decide +kernel
theorem dX9_every_41 : decode cX9_every 41 = .ok (.iastore, 1) := by decide +kernel
theorem dX9_every_42 : decode cX9_every 42 = .ok (.iload_n 3, 1) := by decide +kernel
theorem dX9_every_43 : decode cX9_every 43 = .ok (.ireturn, 1) := by decide +kernel
set_option maxRecDepth 20000 in
theorem ggX9_soonest_X9_isFault : GoodIn wsX9_soonest wsX9_isFault := goodIn_r _ [8, 9, 10, 11, 7, 12, 68, 69, 70, 71, 72, 73, 74, 75, 76, 77, 78, 79, 80, 81, 82, 83, 84, 85, 86, 87, 88, 89, 90, 91, 92, 93, 94, 95, 96, 97, 98, 99, 100, 101, 102, 103, 104, 105, 106, 107, 108, 109, 110, 111, 112, 113, 114, 115, 116, 117, 118, 119, 120, 121, 122] (by decide +kernel) (by decide +kernel)
set_option maxRecDepth 20000 in
theorem gX9_soonest_X9_isFault : GoodIn wsX9_soonest (wsV RX9 263 RX9 yX9_isFault wsX9_isFault) := goodIn_app (goodIn_of _ (by decide +kernel)) ggX9_soonest_X9_isFault
set_option maxRecDepth 20000 in
theorem ggX9_soonest_X9_isDay : GoodIn wsX9_soonest wsX9_isDay := goodIn_r _ [15, 16, 10, 11, 7, 12] (by decide +kernel) (by decide +kernel)
set_option maxRecDepth 20000 in
theorem gX9_soonest_X9_isDay : GoodIn wsX9_soonest (va_wsS RX9 317 yX9_isDay wsX9_isDay) := goodIn_app (goodIn_of _ (by decide +kernel)) ggX9_soonest_X9_isDay
set_option maxRecDepth 20000 in
theorem ggX9_soonest_X9_faultsIn : GoodIn wsX9_soonest wsX9_faultsIn := goodIn_r _ [20, 9, 21, 22, 23, 24, 7, 25, 68, 69, 70, 71, 72, 73, 74, 75, 76, 77, 78, 79, 80, 81, 82, 83, 84, 85, 86, 87, 88, 89, 90, 91, 92, 93, 94, 95, 96, 97, 98, 99, 100, 101, 102, 103, 104, 105, 106, 107, 108, 109, 110, 111, 112, 113, 114, 115, 116, 117, 118, 119, 120, 121, 122] (by decide +kernel) (by decide +kernel)
set_option maxRecDepth 20000 in
theorem gX9_soonest_X9_faultsIn : GoodIn wsX9_soonest (wsV RX9 269 RX9 yX9_faultsIn wsX9_faultsIn) := goodIn_app (goodIn_of _ (by decide +kernel)) ggX9_soonest_X9_faultsIn
set_option maxRecDepth 20000 in
theorem ggX9_soonest_X9_has : GoodIn wsX9_soonest wsX9_has := goodIn_r _ [25] (by decide +kernel) (by decide +kernel)
set_option maxRecDepth 20000 in
theorem gX9_soonest_X9_has : GoodIn wsX9_soonest (va_wsS RX9 190 yX9_has wsX9_has) := goodIn_app (goodIn_of _ (by decide +kernel)) ggX9_soonest_X9_has
set_option maxRecDepth 20000 in
theorem ggX9_soonest_X9_costOf : GoodIn wsX9_soonest wsX9_costOf := goodIn_r _ [29, 2, 9, 22, 17, 18, 19, 7, 20, 21, 23, 24, 25, 30, 31, 32, 33, 34, 35, 36, 37, 38, 39, 40, 41, 42, 43, 44, 45, 46, 47, 48, 49, 50, 51, 52, 53, 54, 55, 56, 57, 58, 59, 60, 61, 62, 63, 64, 65, 66, 67, 68, 69, 70, 71, 72, 73, 74, 75, 76, 77, 78, 79, 80, 81, 82, 83, 84, 85, 86, 87, 88, 89, 90, 91, 92, 93, 94, 95, 96, 97, 98, 99, 100, 101, 102, 103, 104, 105, 106, 107, 108, 109, 110, 111, 112, 113, 114, 115, 116, 117, 118, 119, 120, 121, 122] (by decide +kernel) (by decide +kernel)
set_option maxRecDepth 20000 in
theorem gX9_soonest_X9_costOf : GoodIn wsX9_soonest (wsV RX9 305 RX9 yX9_costOf wsX9_costOf) := goodIn_app (goodIn_of _ (by decide +kernel)) ggX9_soonest_X9_costOf
theorem dX9_soonest_0 : decode cX9_soonest 0 = .ok (.aload_n 0, 1) := by decide +kernel
theorem dX9_soonest_1 : decode cX9_soonest 1 = .ok (.iload_n 1, 1) := by decide +kernel
theorem dX9_soonest_2 : decode cX9_soonest 2 = .ok (.invokevirtual 263, 3) := by decide +kernel
theorem dX9_soonest_5 : decode cX9_soonest 5 = .ok (.ifCond .ne 7, 3) := by decide +kernel
theorem dX9_soonest_8 : decode cX9_soonest 8 = .ok (.sipush (-1001), 3) := by decide +kernel
theorem dX9_soonest_11 : decode cX9_soonest 11 = .ok (.ireturn, 1) := by decide +kernel
theorem dX9_soonest_12 : decode cX9_soonest 12 = .ok (.iload_n 2, 1) := by decide +kernel
theorem dX9_soonest_13 : decode cX9_soonest 13 = .ok (.invokestatic 317, 3) := by decide +kernel
theorem dX9_soonest_16 : decode cX9_soonest 16 = .ok (.ifCond .ne 7, 3) := by decide +kernel
theorem dX9_soonest_19 : decode cX9_soonest 19 = .ok (.sipush (-1002), 3) := by decide +kernel
theorem dX9_soonest_22 : decode cX9_soonest 22 = .ok (.ireturn, 1) := by decide +kernel
theorem dX9_soonest_23 : decode cX9_soonest 23 = .ok (.bipush (-2), 2) := by decide +kernel
theorem dX9_soonest_25 : decode cX9_soonest 25 = .ok (.istore_n 3, 1) := by decide +kernel
theorem dX9_soonest_26 : decode cX9_soonest 26 = .ok (.iconst 0, 1) := by decide +kernel
theorem dX9_soonest_27 : decode cX9_soonest 27 = .ok (.istore 4, 2) := by decide +kernel
theorem dX9_soonest_29 : decode cX9_soonest 29 = .ok (.iload 4, 2) := by decide +kernel
theorem dX9_soonest_31 : decode cX9_soonest 31 = .ok (.aload_n 0, 1) := by decide +kernel
theorem dX9_soonest_32 : decode cX9_soonest 32 = .ok (.getfield 126, 3) := by decide +kernel
theorem dX9_soonest_35 : decode cX9_soonest 35 = .ok (.if_icmp .ge 93, 3) := by decide +kernel
theorem dX9_soonest_38 : decode cX9_soonest 38 = .ok (.aload_n 0, 1) := by decide +kernel
theorem dX9_soonest_39 : decode cX9_soonest 39 = .ok (.aload_n 0, 1) := by decide +kernel
theorem dX9_soonest_40 : decode cX9_soonest 40 = .ok (.getfield 31, 3) := by decide +kernel
theorem dX9_soonest_43 : decode cX9_soonest 43 = .ok (.iload 4, 2) := by decide +kernel
theorem dX9_soonest_45 : decode cX9_soonest 45 = .ok (.iaload, 1) := by decide +kernel
theorem dX9_soonest_46 : decode cX9_soonest 46 = .ok (.invokevirtual 269, 3) := by decide +kernel
theorem dX9_soonest_49 : decode cX9_soonest 49 = .ok (.iload_n 1, 1) := by decide +kernel
theorem dX9_soonest_50 : decode cX9_soonest 50 = .ok (.invokestatic 190, 3) := by decide +kernel
theorem dX9_soonest_53 : decode cX9_soonest 53 = .ok (.ifCond .eq 69, 3) := by decide +kernel
theorem dX9_soonest_56 : decode cX9_soonest 56 = .ok (.aload_n 0, 1) := by decide +kernel
theorem dX9_soonest_57 : decode cX9_soonest 57 = .ok (.getfield 37, 3) := by decide +kernel
theorem dX9_soonest_60 : decode cX9_soonest 60 = .ok (.iload 4, 2) := by decide +kernel
theorem dX9_soonest_62 : decode cX9_soonest 62 = .ok (.iaload, 1) := by decide +kernel
theorem dX9_soonest_63 : decode cX9_soonest 63 = .ok (.ifCond .eq 15, 3) := by decide +kernel
theorem dX9_soonest_66 : decode cX9_soonest 66 = .ok (.aload_n 0, 1) := by decide +kernel
theorem dX9_soonest_67 : decode cX9_soonest 67 = .ok (.iload 4, 2) := by decide +kernel
theorem dX9_soonest_69 : decode cX9_soonest 69 = .ok (.iconst 1, 1) := by decide +kernel
theorem dX9_soonest_70 : decode cX9_soonest 70 = .ok (.iload_n 1, 1) := by decide +kernel
theorem dX9_soonest_71 : decode cX9_soonest 71 = .ok (.ishl, 1) := by decide +kernel
theorem dX9_soonest_72 : decode cX9_soonest 72 = .ok (.invokevirtual 305, 3) := by decide +kernel
theorem dX9_soonest_75 : decode cX9_soonest 75 = .ok (.ifCond .ge 5, 3) := by decide +kernel
theorem dX9_soonest_78 : decode cX9_soonest 78 = .ok (.iconst (-1), 1) := by decide +kernel
theorem dX9_soonest_79 : decode cX9_soonest 79 = .ok (.ireturn, 1) := by decide +kernel
theorem dX9_soonest_80 : decode cX9_soonest 80 = .ok (.iload_n 2, 1) := by decide +kernel
theorem dX9_soonest_81 : decode cX9_soonest 81 = .ok (.aload_n 0, 1) := by decide +kernel
theorem dX9_soonest_82 : decode cX9_soonest 82 = .ok (.getfield 37, 3) := by decide +kernel
theorem dX9_soonest_85 : decode cX9_soonest 85 = .ok (.iload 4, 2) := by decide +kernel
theorem dX9_soonest_87 : decode cX9_soonest 87 = .ok (.iaload, 1) := by decide +kernel
theorem dX9_soonest_88 : decode cX9_soonest 88 = .ok (.iadd, 1) := by decide +kernel
theorem dX9_soonest_89 : decode cX9_soonest 89 = .ok (.iconst 1, 1) := by decide +kernel
theorem dX9_soonest_90 : decode cX9_soonest 90 = .ok (.isub, 1) := by decide +kernel
theorem dX9_soonest_91 : decode cX9_soonest 91 = .ok (.aload_n 0, 1) := by decide +kernel
theorem dX9_soonest_92 : decode cX9_soonest 92 = .ok (.getfield 37, 3) := by decide +kernel
theorem dX9_soonest_95 : decode cX9_soonest 95 = .ok (.iload 4, 2) := by decide +kernel
theorem dX9_soonest_97 : decode cX9_soonest 97 = .ok (.iaload, 1) := by decide +kernel
theorem dX9_soonest_98 : decode cX9_soonest 98 = .ok (.idiv, 1) := by decide +kernel
theorem dX9_soonest_99 : decode cX9_soonest 99 = .ok (.aload_n 0, 1) := by decide +kernel
theorem dX9_soonest_100 : decode cX9_soonest 100 = .ok (.getfield 37, 3) := by decide +kernel
theorem dX9_soonest_103 : decode cX9_soonest 103 = .ok (.iload 4, 2) := by decide +kernel
theorem dX9_soonest_105 : decode cX9_soonest 105 = .ok (.iaload, 1) := by decide +kernel
theorem dX9_soonest_106 : decode cX9_soonest 106 = .ok (.imul, 1) := by decide +kernel
theorem dX9_soonest_107 : decode cX9_soonest 107 = .ok (.istore 5, 2) := by decide +kernel
theorem dX9_soonest_109 : decode cX9_soonest 109 = .ok (.iload 5, 2) := by decide +kernel
theorem dX9_soonest_111 : decode cX9_soonest 111 = .ok (.iload_n 3, 1) := by decide +kernel
theorem dX9_soonest_112 : decode cX9_soonest 112 = .ok (.if_icmp .le 8, 3) := by decide +kernel
theorem dX9_soonest_115 : decode cX9_soonest 115 = .ok (.iload 5, 2) := by decide +kernel
theorem dX9_soonest_117 : decode cX9_soonest 117 = .ok (.goto 4, 3) := by decide +kernel
theorem dX9_soonest_120 : decode cX9_soonest 120 = .ok (.iload_n 3, 1) := by decide +kernel
theorem dX9_soonest_121 : decode cX9_soonest 121 = .ok (.istore_n 3, 1) := by decide +kernel
theorem dX9_soonest_122 : decode cX9_soonest 122 = .ok (.iinc 4 1, 3) := by decide +kernel
theorem dX9_soonest_125 : decode cX9_soonest 125 = .ok (.goto (-96), 3) := by decide +kernel
theorem dX9_soonest_128 : decode cX9_soonest 128 = .ok (.iload_n 3, 1) := by decide +kernel
theorem dX9_soonest_129 : decode cX9_soonest 129 = .ok (.ireturn, 1) := by decide +kernel
set_option maxRecDepth 20000 in
theorem ggX9_readyOf_X9_has : GoodIn wsX9_readyOf wsX9_has := goodIn_r _ [5] (by decide +kernel) (by decide +kernel)
set_option maxRecDepth 20000 in
theorem gX9_readyOf_X9_has : GoodIn wsX9_readyOf (va_wsS RX9 190 yX9_has wsX9_has) := goodIn_app (goodIn_of _ (by decide +kernel)) ggX9_readyOf_X9_has
set_option maxRecDepth 20000 in
theorem ggX9_readyOf_X9_clashOf : GoodIn wsX9_readyOf wsX9_clashOf := goodIn_r _ [9, 10, 11, 12, 13, 14, 4, 15, 16, 2, 3, 5, 17, 18, 19, 20, 21, 22, 23, 24, 25, 26, 27, 28, 29, 30, 31, 32, 33, 34, 35, 36, 37, 38, 39, 40, 41, 42, 43, 44, 45, 46, 47, 48, 49, 50, 51, 52, 53, 54, 55, 56, 57, 58, 59, 60, 61, 62, 63, 64, 65, 66, 67, 68, 69, 70, 71, 72, 73, 74, 75, 76] (by decide +kernel) (by decide +kernel)
set_option maxRecDepth 20000 in
theorem gX9_readyOf_X9_clashOf : GoodIn wsX9_readyOf (wsV RX9 275 RX9 yX9_clashOf wsX9_clashOf) := goodIn_app (goodIn_of _ (by decide +kernel)) ggX9_readyOf_X9_clashOf
theorem dX9_readyOf_0 : decode cX9_readyOf 0 = .ok (.iconst 0, 1) := by decide +kernel
theorem dX9_readyOf_1 : decode cX9_readyOf 1 = .ok (.istore_n 2, 1) := by decide +kernel
theorem dX9_readyOf_2 : decode cX9_readyOf 2 = .ok (.iconst 0, 1) := by decide +kernel
theorem dX9_readyOf_3 : decode cX9_readyOf 3 = .ok (.istore_n 3, 1) := by decide +kernel
theorem dX9_readyOf_4 : decode cX9_readyOf 4 = .ok (.iload_n 3, 1) := by decide +kernel
theorem dX9_readyOf_5 : decode cX9_readyOf 5 = .ok (.aload_n 0, 1) := by decide +kernel
theorem dX9_readyOf_6 : decode cX9_readyOf 6 = .ok (.getfield 114, 3) := by decide +kernel
theorem dX9_readyOf_9 : decode cX9_readyOf 9 = .ok (.if_icmp .ge 35, 3) := by decide +kernel
theorem dX9_readyOf_12 : decode cX9_readyOf 12 = .ok (.iload_n 2, 1) := by decide +kernel
theorem dX9_readyOf_13 : decode cX9_readyOf 13 = .ok (.iload_n 1, 1) := by decide +kernel
theorem dX9_readyOf_14 : decode cX9_readyOf 14 = .ok (.iload_n 3, 1) := by decide +kernel
theorem dX9_readyOf_15 : decode cX9_readyOf 15 = .ok (.invokestatic 190, 3) := by decide +kernel
theorem dX9_readyOf_18 : decode cX9_readyOf 18 = .ok (.ifCond .ne 17, 3) := by decide +kernel
theorem dX9_readyOf_21 : decode cX9_readyOf 21 = .ok (.aload_n 0, 1) := by decide +kernel
theorem dX9_readyOf_22 : decode cX9_readyOf 22 = .ok (.iload_n 3, 1) := by decide +kernel
theorem dX9_readyOf_23 : decode cX9_readyOf 23 = .ok (.invokevirtual 275, 3) := by decide +kernel
theorem dX9_readyOf_26 : decode cX9_readyOf 26 = .ok (.ifCond .ne 9, 3) := by decide +kernel
theorem dX9_readyOf_29 : decode cX9_readyOf 29 = .ok (.iconst 1, 1) := by decide +kernel
theorem dX9_readyOf_30 : decode cX9_readyOf 30 = .ok (.iload_n 3, 1) := by decide +kernel
theorem dX9_readyOf_31 : decode cX9_readyOf 31 = .ok (.ishl, 1) := by decide +kernel
theorem dX9_readyOf_32 : decode cX9_readyOf 32 = .ok (.goto 4, 3) := by decide +kernel
theorem dX9_readyOf_35 : decode cX9_readyOf 35 = .ok (.iconst 0, 1) := by decide +kernel
theorem dX9_readyOf_36 : decode cX9_readyOf 36 = .ok (.ior, 1) := by decide +kernel
theorem dX9_readyOf_37 : decode cX9_readyOf 37 = .ok (.istore_n 2, 1) := by decide +kernel
theorem dX9_readyOf_38 : decode cX9_readyOf 38 = .ok (.iinc 3 1, 3) := by decide +kernel
theorem dX9_readyOf_41 : decode cX9_readyOf 41 = .ok (.goto (-37), 3) := by decide +kernel
theorem dX9_readyOf_44 : decode cX9_readyOf 44 = .ok (.iload_n 2, 1) := by decide +kernel
theorem dX9_readyOf_45 : decode cX9_readyOf 45 = .ok (.ireturn, 1) := by decide +kernel
set_option maxRecDepth 20000 in
theorem ggX9_ready_X9_isLine : GoodIn wsX9_ready wsX9_isLine := goodIn_r _ [6, 7, 8, 9, 5, 10, 44, 45, 46, 47, 48, 49, 50, 51, 52, 53, 54, 55, 56, 57, 58, 59, 60, 61, 62, 63, 64, 65, 66, 67, 68, 69, 70, 71, 72, 73, 74, 75, 76, 77, 78, 79, 80, 81, 82, 83, 84, 85, 86, 87, 88, 89, 90, 91, 92, 93, 94, 95, 96, 97, 98] (by decide +kernel) (by decide +kernel)
set_option maxRecDepth 20000 in
theorem gX9_ready_X9_isLine : GoodIn wsX9_ready (wsV RX9 266 RX9 yX9_isLine wsX9_isLine) := goodIn_app (goodIn_of _ (by decide +kernel)) ggX9_ready_X9_isLine
set_option maxRecDepth 20000 in
theorem ggX9_ready_X9_tryLine : GoodIn wsX9_ready wsX9_tryLine := goodIn_r _ [14, 15, 16, 44, 45, 46, 47, 48, 49, 50, 51, 52, 53, 54, 55, 56, 57, 58, 59, 60, 61, 62, 63, 64, 65, 66, 67, 68, 69, 70, 71, 72, 73, 74, 75, 76, 77, 78, 79, 80, 81, 82, 83, 84, 85, 86, 87, 88, 89, 90, 91, 92, 93, 94, 95, 96, 97, 98] (by decide +kernel) (by decide +kernel)
set_option maxRecDepth 20000 in
theorem gX9_ready_X9_tryLine : GoodIn wsX9_ready (wsV RX9 282 RX9 yX9_tryLine wsX9_tryLine) := goodIn_app (goodIn_of _ (by decide +kernel)) ggX9_ready_X9_tryLine
set_option maxRecDepth 20000 in
theorem ggX9_ready_X9_readyOf : GoodIn wsX9_ready wsX9_readyOf := goodIn_r _ [20, 21, 22, 23, 5, 24, 25, 26, 27, 28, 29, 15, 30, 31, 32, 33, 34, 35, 36, 37, 38, 39, 44, 45, 46, 47, 48, 49, 50, 51, 52, 53, 54, 55, 56, 57, 58, 59, 60, 61, 62, 63, 64, 65, 66, 67, 68, 69, 70, 71, 72, 73, 74, 75, 76, 77, 78, 79, 80, 81, 82, 83, 84, 85, 86, 87, 88, 89, 90, 91, 92, 93, 94, 95, 96, 97, 98] (by decide +kernel) (by decide +kernel)
set_option maxRecDepth 20000 in
theorem gX9_ready_X9_readyOf : GoodIn wsX9_ready (wsV RX9 326 RX9 yX9_readyOf wsX9_readyOf) := goodIn_app (goodIn_of _ (by decide +kernel)) ggX9_ready_X9_readyOf
set_option maxRecDepth 20000 in
theorem ggX9_ready_X9_has : GoodIn wsX9_ready wsX9_has := goodIn_r _ [24] (by decide +kernel) (by decide +kernel)
set_option maxRecDepth 20000 in
theorem gX9_ready_X9_has : GoodIn wsX9_ready (va_wsS RX9 190 yX9_has wsX9_has) := goodIn_app (goodIn_of _ (by decide +kernel)) ggX9_ready_X9_has
set_option maxRecDepth 20000 in
theorem ggX9_ready_X9_goOn : GoodIn wsX9_ready wsX9_goOn := goodIn_r _ [43, 15, 34, 44, 45, 46, 47, 48, 49, 50, 51, 52, 53, 54, 55, 56, 57, 58, 59, 60, 61, 62, 63, 64, 65, 66, 67, 68, 69, 70, 71, 72, 73, 74, 75, 76, 77, 78, 79, 80, 81, 82, 83, 84, 85, 86, 87, 88, 89, 90, 91, 92, 93, 94, 95, 96, 97, 98] (by decide +kernel) (by decide +kernel)
set_option maxRecDepth 20000 in
theorem gX9_ready_X9_goOn : GoodIn wsX9_ready (wsV RX9 278 RX9 yX9_goOn wsX9_goOn) := goodIn_app (goodIn_of _ (by decide +kernel)) ggX9_ready_X9_goOn
theorem dX9_ready_0 : decode cX9_ready 0 = .ok (.aload_n 0, 1) := by decide +kernel
theorem dX9_ready_1 : decode cX9_ready 1 = .ok (.iload_n 1, 1) := by decide +kernel
theorem dX9_ready_2 : decode cX9_ready 2 = .ok (.invokevirtual 266, 3) := by decide +kernel
theorem dX9_ready_5 : decode cX9_ready 5 = .ok (.ifCond .ne 7, 3) := by decide +kernel
theorem dX9_ready_8 : decode cX9_ready 8 = .ok (.sipush (-1001), 3) := by decide +kernel
theorem dX9_ready_11 : decode cX9_ready 11 = .ok (.ireturn, 1) := by decide +kernel
theorem dX9_ready_12 : decode cX9_ready 12 = .ok (.aload_n 0, 1) := by decide +kernel
theorem dX9_ready_13 : decode cX9_ready 13 = .ok (.iload_n 1, 1) := by decide +kernel
theorem dX9_ready_14 : decode cX9_ready 14 = .ok (.invokevirtual 282, 3) := by decide +kernel
theorem dX9_ready_17 : decode cX9_ready 17 = .ok (.aload_n 0, 1) := by decide +kernel
theorem dX9_ready_18 : decode cX9_ready 18 = .ok (.aload_n 0, 1) := by decide +kernel
theorem dX9_ready_19 : decode cX9_ready 19 = .ok (.getfield 31, 3) := by decide +kernel
theorem dX9_ready_22 : decode cX9_ready 22 = .ok (.iload_n 1, 1) := by decide +kernel
theorem dX9_ready_23 : decode cX9_ready 23 = .ok (.iaload, 1) := by decide +kernel
theorem dX9_ready_24 : decode cX9_ready 24 = .ok (.invokevirtual 326, 3) := by decide +kernel
theorem dX9_ready_27 : decode cX9_ready 27 = .ok (.istore_n 3, 1) := by decide +kernel
theorem dX9_ready_28 : decode cX9_ready 28 = .ok (.iconst 0, 1) := by decide +kernel
theorem dX9_ready_29 : decode cX9_ready 29 = .ok (.istore 4, 2) := by decide +kernel
theorem dX9_ready_31 : decode cX9_ready 31 = .ok (.iload_n 2, 1) := by decide +kernel
theorem dX9_ready_32 : decode cX9_ready 32 = .ok (.ifCond .eq 57, 3) := by decide +kernel
theorem dX9_ready_35 : decode cX9_ready 35 = .ok (.iload_n 3, 1) := by decide +kernel
theorem dX9_ready_36 : decode cX9_ready 36 = .ok (.ifCond .eq 53, 3) := by decide +kernel
theorem dX9_ready_39 : decode cX9_ready 39 = .ok (.iconst 0, 1) := by decide +kernel
theorem dX9_ready_40 : decode cX9_ready 40 = .ok (.istore 5, 2) := by decide +kernel
theorem dX9_ready_42 : decode cX9_ready 42 = .ok (.iload_n 3, 1) := by decide +kernel
theorem dX9_ready_43 : decode cX9_ready 43 = .ok (.iload 5, 2) := by decide +kernel
theorem dX9_ready_45 : decode cX9_ready 45 = .ok (.invokestatic 190, 3) := by decide +kernel
theorem dX9_ready_48 : decode cX9_ready 48 = .ok (.ifCond .ne 9, 3) := by decide +kernel
theorem dX9_ready_51 : decode cX9_ready 51 = .ok (.iinc 5 1, 3) := by decide +kernel
theorem dX9_ready_54 : decode cX9_ready 54 = .ok (.goto (-12), 3) := by decide +kernel
theorem dX9_ready_57 : decode cX9_ready 57 = .ok (.aload_n 0, 1) := by decide +kernel
theorem dX9_ready_58 : decode cX9_ready 58 = .ok (.iload 5, 2) := by decide +kernel
theorem dX9_ready_60 : decode cX9_ready 60 = .ok (.invokevirtual 278, 3) := by decide +kernel
theorem dX9_ready_63 : decode cX9_ready 63 = .ok (.iload 4, 2) := by decide +kernel
theorem dX9_ready_65 : decode cX9_ready 65 = .ok (.iconst 1, 1) := by decide +kernel
theorem dX9_ready_66 : decode cX9_ready 66 = .ok (.iload 5, 2) := by decide +kernel
theorem dX9_ready_68 : decode cX9_ready 68 = .ok (.ishl, 1) := by decide +kernel
theorem dX9_ready_69 : decode cX9_ready 69 = .ok (.ior, 1) := by decide +kernel
theorem dX9_ready_70 : decode cX9_ready 70 = .ok (.istore 4, 2) := by decide +kernel
theorem dX9_ready_72 : decode cX9_ready 72 = .ok (.aload_n 0, 1) := by decide +kernel
theorem dX9_ready_73 : decode cX9_ready 73 = .ok (.aload_n 0, 1) := by decide +kernel
theorem dX9_ready_74 : decode cX9_ready 74 = .ok (.getfield 31, 3) := by decide +kernel
theorem dX9_ready_77 : decode cX9_ready 77 = .ok (.iload_n 1, 1) := by decide +kernel
theorem dX9_ready_78 : decode cX9_ready 78 = .ok (.iaload, 1) := by decide +kernel
theorem dX9_ready_79 : decode cX9_ready 79 = .ok (.iload 4, 2) := by decide +kernel
theorem dX9_ready_81 : decode cX9_ready 81 = .ok (.ior, 1) := by decide +kernel
theorem dX9_ready_82 : decode cX9_ready 82 = .ok (.invokevirtual 326, 3) := by decide +kernel
theorem dX9_ready_85 : decode cX9_ready 85 = .ok (.istore_n 3, 1) := by decide +kernel
theorem dX9_ready_86 : decode cX9_ready 86 = .ok (.goto (-55), 3) := by decide +kernel
theorem dX9_ready_89 : decode cX9_ready 89 = .ok (.iload_n 2, 1) := by decide +kernel
theorem dX9_ready_90 : decode cX9_ready 90 = .ok (.ifCond .eq 8, 3) := by decide +kernel
theorem dX9_ready_93 : decode cX9_ready 93 = .ok (.iload 4, 2) := by decide +kernel
theorem dX9_ready_95 : decode cX9_ready 95 = .ok (.goto 4, 3) := by decide +kernel
theorem dX9_ready_98 : decode cX9_ready 98 = .ok (.iload_n 3, 1) := by decide +kernel
theorem dX9_ready_99 : decode cX9_ready 99 = .ok (.ireturn, 1) := by decide +kernel
set_option maxRecDepth 20000 in
theorem ggX9_areChanges_X9_in : GoodIn wsX9_areChanges wsX9_in := goodIn_r _ [5] (by decide +kernel) (by decide +kernel)
set_option maxRecDepth 20000 in
theorem gX9_areChanges_X9_in : GoodIn wsX9_areChanges (va_wsS RX9 117 yX9_in wsX9_in) := goodIn_app (goodIn_of _ (by decide +kernel)) ggX9_areChanges_X9_in
theorem dX9_areChanges_0 : decode cX9_areChanges 0 = .ok (.iload_n 1, 1) := by decide +kernel
theorem dX9_areChanges_1 : decode cX9_areChanges 1 = .ok (.i2l, 1) := by decide +kernel
theorem dX9_areChanges_2 : decode cX9_areChanges 2 = .ok (.lconst 0, 1) := by decide +kernel
theorem dX9_areChanges_3 : decode cX9_areChanges 3 = .ok (.iconst 1, 1) := by decide +kernel
theorem dX9_areChanges_4 : decode cX9_areChanges 4 = .ok (.aload_n 0, 1) := by decide +kernel
theorem dX9_areChanges_5 : decode cX9_areChanges 5 = .ok (.getfield 114, 3) := by decide +kernel
theorem dX9_areChanges_8 : decode cX9_areChanges 8 = .ok (.ishl, 1) := by decide +kernel
theorem dX9_areChanges_9 : decode cX9_areChanges 9 = .ok (.iconst 1, 1) := by decide +kernel
theorem dX9_areChanges_10 : decode cX9_areChanges 10 = .ok (.isub, 1) := by decide +kernel
theorem dX9_areChanges_11 : decode cX9_areChanges 11 = .ok (.i2l, 1) := by decide +kernel
theorem dX9_areChanges_12 : decode cX9_areChanges 12 = .ok (.invokestatic 117, 3) := by decide +kernel
theorem dX9_areChanges_15 : decode cX9_areChanges 15 = .ok (.ireturn, 1) := by decide +kernel
set_option maxRecDepth 20000 in
theorem ggX9_fillRow_X9_has : GoodIn wsX9_fillRow wsX9_has := goodIn_r _ [7] (by decide +kernel) (by decide +kernel)
set_option maxRecDepth 20000 in
theorem gX9_fillRow_X9_has : GoodIn wsX9_fillRow (va_wsS RX9 190 yX9_has wsX9_has) := goodIn_app (goodIn_of _ (by decide +kernel)) ggX9_fillRow_X9_has
theorem dX9_fillRow_0 : decode cX9_fillRow 0 = .ok (.aload_n 0, 1) := by decide +kernel
theorem dX9_fillRow_1 : decode cX9_fillRow 1 = .ok (.iconst 0, 1) := by decide +kernel
theorem dX9_fillRow_2 : decode cX9_fillRow 2 = .ok (.putfield 329, 3) := by decide +kernel
theorem dX9_fillRow_5 : decode cX9_fillRow 5 = .ok (.iconst 0, 1) := by decide +kernel
theorem dX9_fillRow_6 : decode cX9_fillRow 6 = .ok (.istore_n 2, 1) := by decide +kernel
theorem dX9_fillRow_7 : decode cX9_fillRow 7 = .ok (.iload_n 2, 1) := by decide +kernel
theorem dX9_fillRow_8 : decode cX9_fillRow 8 = .ok (.aload_n 0, 1) := by decide +kernel
theorem dX9_fillRow_9 : decode cX9_fillRow 9 = .ok (.getfield 114, 3) := by decide +kernel
theorem dX9_fillRow_12 : decode cX9_fillRow 12 = .ok (.if_icmp .ge 37, 3) := by decide +kernel
theorem dX9_fillRow_15 : decode cX9_fillRow 15 = .ok (.iload_n 1, 1) := by decide +kernel
theorem dX9_fillRow_16 : decode cX9_fillRow 16 = .ok (.iload_n 2, 1) := by decide +kernel
theorem dX9_fillRow_17 : decode cX9_fillRow 17 = .ok (.invokestatic 190, 3) := by decide +kernel
theorem dX9_fillRow_20 : decode cX9_fillRow 20 = .ok (.ifCond .eq 23, 3) := by decide +kernel
theorem dX9_fillRow_23 : decode cX9_fillRow 23 = .ok (.aload_n 0, 1) := by decide +kernel
theorem dX9_fillRow_24 : decode cX9_fillRow 24 = .ok (.getfield 86, 3) := by decide +kernel
theorem dX9_fillRow_27 : decode cX9_fillRow 27 = .ok (.aload_n 0, 1) := by decide +kernel
theorem dX9_fillRow_28 : decode cX9_fillRow 28 = .ok (.getfield 329, 3) := by decide +kernel
theorem dX9_fillRow_31 : decode cX9_fillRow 31 = .ok (.iload_n 2, 1) := by decide +kernel
theorem dX9_fillRow_32 : decode cX9_fillRow 32 = .ok (.iastore, 1) := by decide +kernel
theorem dX9_fillRow_33 : decode cX9_fillRow 33 = .ok (.aload_n 0, 1) := by decide +kernel
theorem dX9_fillRow_34 : decode cX9_fillRow 34 = .ok (.dup, 1) := by decide +kernel
theorem dX9_fillRow_35 : decode cX9_fillRow 35 = .ok (.getfield 329, 3) := by decide +kernel
theorem dX9_fillRow_38 : decode cX9_fillRow 38 = .ok (.iconst 1, 1) := by decide +kernel
theorem dX9_fillRow_39 : decode cX9_fillRow 39 = .ok (.iadd, 1) := by decide +kernel
theorem dX9_fillRow_40 : decode cX9_fillRow 40 = .ok (.putfield 329, 3) := by decide +kernel
theorem dX9_fillRow_43 : decode cX9_fillRow 43 = .ok (.iinc 2 1, 3) := by decide +kernel
theorem dX9_fillRow_46 : decode cX9_fillRow 46 = .ok (.goto (-39), 3) := by decide +kernel
theorem dX9_fillRow_49 : decode cX9_fillRow 49 = .ok (.return_, 1) := by decide +kernel
theorem dX9_nextRow_0 : decode cX9_nextRow 0 = .ok (.aload_n 0, 1) := by decide +kernel
theorem dX9_nextRow_1 : decode cX9_nextRow 1 = .ok (.getfield 329, 3) := by decide +kernel
theorem dX9_nextRow_4 : decode cX9_nextRow 4 = .ok (.iconst 2, 1) := by decide +kernel
theorem dX9_nextRow_5 : decode cX9_nextRow 5 = .ok (.isub, 1) := by decide +kernel
theorem dX9_nextRow_6 : decode cX9_nextRow 6 = .ok (.istore_n 1, 1) := by decide +kernel
theorem dX9_nextRow_7 : decode cX9_nextRow 7 = .ok (.iload_n 1, 1) := by decide +kernel
theorem dX9_nextRow_8 : decode cX9_nextRow 8 = .ok (.ifCond .lt 26, 3) := by decide +kernel
theorem dX9_nextRow_11 : decode cX9_nextRow 11 = .ok (.aload_n 0, 1) := by decide +kernel
theorem dX9_nextRow_12 : decode cX9_nextRow 12 = .ok (.getfield 86, 3) := by decide +kernel
theorem dX9_nextRow_15 : decode cX9_nextRow 15 = .ok (.iload_n 1, 1) := by decide +kernel
theorem dX9_nextRow_16 : decode cX9_nextRow 16 = .ok (.iaload, 1) := by decide +kernel
theorem dX9_nextRow_17 : decode cX9_nextRow 17 = .ok (.aload_n 0, 1) := by decide +kernel
theorem dX9_nextRow_18 : decode cX9_nextRow 18 = .ok (.getfield 86, 3) := by decide +kernel
theorem dX9_nextRow_21 : decode cX9_nextRow 21 = .ok (.iload_n 1, 1) := by decide +kernel
theorem dX9_nextRow_22 : decode cX9_nextRow 22 = .ok (.iconst 1, 1) := by decide +kernel
theorem dX9_nextRow_23 : decode cX9_nextRow 23 = .ok (.iadd, 1) := by decide +kernel
theorem dX9_nextRow_24 : decode cX9_nextRow 24 = .ok (.iaload, 1) := by decide +kernel
theorem dX9_nextRow_25 : decode cX9_nextRow 25 = .ok (.if_icmp .le 9, 3) := by decide +kernel
theorem dX9_nextRow_28 : decode cX9_nextRow 28 = .ok (.iinc 1 (-1), 3) := by decide +kernel
theorem dX9_nextRow_31 : decode cX9_nextRow 31 = .ok (.goto (-24), 3) := by decide +kernel
theorem dX9_nextRow_34 : decode cX9_nextRow 34 = .ok (.iload_n 1, 1) := by decide +kernel
theorem dX9_nextRow_35 : decode cX9_nextRow 35 = .ok (.ifCond .ge 5, 3) := by decide +kernel
theorem dX9_nextRow_38 : decode cX9_nextRow 38 = .ok (.iconst 0, 1) := by decide +kernel
theorem dX9_nextRow_39 : decode cX9_nextRow 39 = .ok (.ireturn, 1) := by decide +kernel
theorem dX9_nextRow_40 : decode cX9_nextRow 40 = .ok (.aload_n 0, 1) := by decide +kernel
theorem dX9_nextRow_41 : decode cX9_nextRow 41 = .ok (.getfield 329, 3) := by decide +kernel
theorem dX9_nextRow_44 : decode cX9_nextRow 44 = .ok (.iconst 1, 1) := by decide +kernel
theorem dX9_nextRow_45 : decode cX9_nextRow 45 = .ok (.isub, 1) := by decide +kernel
theorem dX9_nextRow_46 : decode cX9_nextRow 46 = .ok (.istore_n 2, 1) := by decide +kernel
theorem dX9_nextRow_47 : decode cX9_nextRow 47 = .ok (.aload_n 0, 1) := by decide +kernel
theorem dX9_nextRow_48 : decode cX9_nextRow 48 = .ok (.getfield 86, 3) := by decide +kernel
theorem dX9_nextRow_51 : decode cX9_nextRow 51 = .ok (.iload_n 2, 1) := by decide +kernel
theorem dX9_nextRow_52 : decode cX9_nextRow 52 = .ok (.iaload, 1) := by decide +kernel
theorem dX9_nextRow_53 : decode cX9_nextRow 53 = .ok (.aload_n 0, 1) := by decide +kernel
theorem dX9_nextRow_54 : decode cX9_nextRow 54 = .ok (.getfield 86, 3) := by decide +kernel
theorem dX9_nextRow_57 : decode cX9_nextRow 57 = .ok (.iload_n 1, 1) := by decide +kernel
theorem dX9_nextRow_58 : decode cX9_nextRow 58 = .ok (.iaload, 1) := by decide +kernel
theorem dX9_nextRow_59 : decode cX9_nextRow 59 = .ok (.if_icmp .ge 9, 3) := by decide +kernel
theorem dX9_nextRow_62 : decode cX9_nextRow 62 = .ok (.iinc 2 (-1), 3) := by decide +kernel
theorem dX9_nextRow_65 : decode cX9_nextRow 65 = .ok (.goto (-18), 3) := by decide +kernel
theorem dX9_nextRow_68 : decode cX9_nextRow 68 = .ok (.aload_n 0, 1) := by decide +kernel
theorem dX9_nextRow_69 : decode cX9_nextRow 69 = .ok (.getfield 86, 3) := by decide +kernel
theorem dX9_nextRow_72 : decode cX9_nextRow 72 = .ok (.iload_n 1, 1) := by decide +kernel
theorem dX9_nextRow_73 : decode cX9_nextRow 73 = .ok (.iaload, 1) := by decide +kernel
theorem dX9_nextRow_74 : decode cX9_nextRow 74 = .ok (.istore_n 3, 1) := by decide +kernel
theorem dX9_nextRow_75 : decode cX9_nextRow 75 = .ok (.aload_n 0, 1) := by decide +kernel
theorem dX9_nextRow_76 : decode cX9_nextRow 76 = .ok (.getfield 86, 3) := by decide +kernel
theorem dX9_nextRow_79 : decode cX9_nextRow 79 = .ok (.iload_n 1, 1) := by decide +kernel
theorem dX9_nextRow_80 : decode cX9_nextRow 80 = .ok (.aload_n 0, 1) := by decide +kernel
theorem dX9_nextRow_81 : decode cX9_nextRow 81 = .ok (.getfield 86, 3) := by decide +kernel
theorem dX9_nextRow_84 : decode cX9_nextRow 84 = .ok (.iload_n 2, 1) := by decide +kernel
theorem dX9_nextRow_85 : decode cX9_nextRow 85 = .ok (.iaload, 1) := by decide +kernel
theorem dX9_nextRow_86 : decode cX9_nextRow 86 = .ok (.iastore, 1) := by decide +kernel
theorem dX9_nextRow_87 : decode cX9_nextRow 87 = .ok (.aload_n 0, 1) := by decide +kernel
theorem dX9_nextRow_88 : decode cX9_nextRow 88 = .ok (.getfield 86, 3) := by decide +kernel
theorem dX9_nextRow_91 : decode cX9_nextRow 91 = .ok (.iload_n 2, 1) := by decide +kernel
theorem dX9_nextRow_92 : decode cX9_nextRow 92 = .ok (.iload_n 3, 1) := by decide +kernel
theorem dX9_nextRow_93 : decode cX9_nextRow 93 = .ok (.iastore, 1) := by decide +kernel
theorem dX9_nextRow_94 : decode cX9_nextRow 94 = .ok (.iload_n 1, 1) := by decide +kernel
theorem dX9_nextRow_95 : decode cX9_nextRow 95 = .ok (.iconst 1, 1) := by decide +kernel
theorem dX9_nextRow_96 : decode cX9_nextRow 96 = .ok (.iadd, 1) := by decide +kernel
theorem dX9_nextRow_97 : decode cX9_nextRow 97 = .ok (.istore 4, 2) := by decide +kernel
theorem dX9_nextRow_99 : decode cX9_nextRow 99 = .ok (.aload_n 0, 1) := by decide +kernel
theorem dX9_nextRow_100 : decode cX9_nextRow 100 = .ok (.getfield 329, 3) := by decide +kernel
theorem dX9_nextRow_103 : decode cX9_nextRow 103 = .ok (.iconst 1, 1) := by decide +kernel
theorem dX9_nextRow_104 : decode cX9_nextRow 104 = .ok (.isub, 1) := by decide +kernel
theorem dX9_nextRow_105 : decode cX9_nextRow 105 = .ok (.istore 5, 2) := by decide +kernel
theorem dX9_nextRow_107 : decode cX9_nextRow 107 = .ok (.iload 4, 2) := by decide +kernel
theorem dX9_nextRow_109 : decode cX9_nextRow 109 = .ok (.iload 5, 2) := by decide +kernel
theorem dX9_nextRow_111 : decode cX9_nextRow 111 = .ok (.if_icmp .ge 44, 3) := by decide +kernel
theorem dX9_nextRow_114 : decode cX9_nextRow 114 = .ok (.aload_n 0, 1) := by decide +kernel
theorem dX9_nextRow_115 : decode cX9_nextRow 115 = .ok (.getfield 86, 3) := by decide +kernel
theorem dX9_nextRow_118 : decode cX9_nextRow 118 = .ok (.iload 4, 2) := by decide +kernel
theorem dX9_nextRow_120 : decode cX9_nextRow 120 = .ok (.iaload, 1) := by decide +kernel
theorem dX9_nextRow_121 : decode cX9_nextRow 121 = .ok (.istore 6, 2) := by decide +kernel
theorem dX9_nextRow_123 : decode cX9_nextRow 123 = .ok (.aload_n 0, 1) := by decide +kernel
theorem dX9_nextRow_124 : decode cX9_nextRow 124 = .ok (.getfield 86, 3) := by decide +kernel
theorem dX9_nextRow_127 : decode cX9_nextRow 127 = .ok (.iload 4, 2) := by decide +kernel
theorem dX9_nextRow_129 : decode cX9_nextRow 129 = .ok (.aload_n 0, 1) := by decide +kernel
theorem dX9_nextRow_130 : decode cX9_nextRow 130 = .ok (.getfield 86, 3) := by decide +kernel
theorem dX9_nextRow_133 : decode cX9_nextRow 133 = .ok (.iload 5, 2) := by decide +kernel
theorem dX9_nextRow_135 : decode cX9_nextRow 135 = .ok (.iaload, 1) := by decide +kernel
theorem dX9_nextRow_136 : decode cX9_nextRow 136 = .ok (.iastore, 1) := by decide +kernel
theorem dX9_nextRow_137 : decode cX9_nextRow 137 = .ok (.aload_n 0, 1) := by decide +kernel
theorem dX9_nextRow_138 : decode cX9_nextRow 138 = .ok (.getfield 86, 3) := by decide +kernel
theorem dX9_nextRow_141 : decode cX9_nextRow 141 = .ok (.iload 5, 2) := by decide +kernel
theorem dX9_nextRow_143 : decode cX9_nextRow 143 = .ok (.iload 6, 2) := by decide +kernel
theorem dX9_nextRow_145 : decode cX9_nextRow 145 = .ok (.iastore, 1) := by decide +kernel
theorem dX9_nextRow_146 : decode cX9_nextRow 146 = .ok (.iinc 4 1, 3) := by decide +kernel
theorem dX9_nextRow_149 : decode cX9_nextRow 149 = .ok (.iinc 5 (-1), 3) := by decide +kernel
theorem dX9_nextRow_152 : decode cX9_nextRow 152 = .ok (.goto (-45), 3) := by decide +kernel
theorem dX9_nextRow_155 : decode cX9_nextRow 155 = .ok (.iconst 1, 1) := by decide +kernel
theorem dX9_nextRow_156 : decode cX9_nextRow 156 = .ok (.ireturn, 1) := by decide +kernel
set_option maxRecDepth 20000 in
theorem ggX9_isClean_X9_tryLine : GoodIn wsX9_isClean wsX9_tryLine := goodIn_r _ [7, 8, 9, 32, 33, 34, 35, 36, 37, 38, 39, 40, 41, 42, 43, 44, 45, 46, 47, 48, 49, 50, 51, 52, 53, 54, 55, 56, 57, 58, 59, 60, 61, 62, 63, 64, 65, 66, 67, 68, 69, 70, 71, 72, 73, 74, 75, 76, 77, 78, 79, 80, 81, 82, 83, 84, 85, 86] (by decide +kernel) (by decide +kernel)
set_option maxRecDepth 20000 in
theorem gX9_isClean_X9_tryLine : GoodIn wsX9_isClean (wsV RX9 282 RX9 yX9_tryLine wsX9_tryLine) := goodIn_app (goodIn_of _ (by decide +kernel)) ggX9_isClean_X9_tryLine
set_option maxRecDepth 20000 in
theorem ggX9_isClean_X9_clashOf : GoodIn wsX9_isClean wsX9_clashOf := goodIn_r _ [13, 14, 8, 15, 16, 17, 6, 18, 19, 20, 21, 22, 23, 24, 25, 26, 27, 32, 33, 34, 35, 36, 37, 38, 39, 40, 41, 42, 43, 44, 45, 46, 47, 48, 49, 50, 51, 52, 53, 54, 55, 56, 57, 58, 59, 60, 61, 62, 63, 64, 65, 66, 67, 68, 69, 70, 71, 72, 73, 74, 75, 76, 77, 78, 79, 80, 81, 82, 83, 84, 85, 86] (by decide +kernel) (by decide +kernel)
set_option maxRecDepth 20000 in
theorem gX9_isClean_X9_clashOf : GoodIn wsX9_isClean (wsV RX9 275 RX9 yX9_clashOf wsX9_clashOf) := goodIn_app (goodIn_of _ (by decide +kernel)) ggX9_isClean_X9_clashOf
set_option maxRecDepth 20000 in
theorem ggX9_isClean_X9_goOn : GoodIn wsX9_isClean wsX9_goOn := goodIn_r _ [31, 8, 19, 32, 33, 34, 35, 36, 37, 38, 39, 40, 41, 42, 43, 44, 45, 46, 47, 48, 49, 50, 51, 52, 53, 54, 55, 56, 57, 58, 59, 60, 61, 62, 63, 64, 65, 66, 67, 68, 69, 70, 71, 72, 73, 74, 75, 76, 77, 78, 79, 80, 81, 82, 83, 84, 85, 86] (by decide +kernel) (by decide +kernel)
set_option maxRecDepth 20000 in
theorem gX9_isClean_X9_goOn : GoodIn wsX9_isClean (wsV RX9 278 RX9 yX9_goOn wsX9_goOn) := goodIn_app (goodIn_of _ (by decide +kernel)) ggX9_isClean_X9_goOn
theorem dX9_isClean_0 : decode cX9_isClean 0 = .ok (.aload_n 0, 1) := by decide +kernel
theorem dX9_isClean_1 : decode cX9_isClean 1 = .ok (.iload_n 1, 1) := by decide +kernel
theorem dX9_isClean_2 : decode cX9_isClean 2 = .ok (.invokevirtual 282, 3) := by decide +kernel
theorem dX9_isClean_5 : decode cX9_isClean 5 = .ok (.iconst 1, 1) := by decide +kernel
theorem dX9_isClean_6 : decode cX9_isClean 6 = .ok (.istore_n 2, 1) := by decide +kernel
theorem dX9_isClean_7 : decode cX9_isClean 7 = .ok (.iconst 0, 1) := by decide +kernel
theorem dX9_isClean_8 : decode cX9_isClean 8 = .ok (.istore_n 3, 1) := by decide +kernel
theorem dX9_isClean_9 : decode cX9_isClean 9 = .ok (.iload_n 3, 1) := by decide +kernel
theorem dX9_isClean_10 : decode cX9_isClean 10 = .ok (.aload_n 0, 1) := by decide +kernel
theorem dX9_isClean_11 : decode cX9_isClean 11 = .ok (.getfield 329, 3) := by decide +kernel
theorem dX9_isClean_14 : decode cX9_isClean 14 = .ok (.if_icmp .ge 42, 3) := by decide +kernel
theorem dX9_isClean_17 : decode cX9_isClean 17 = .ok (.iload_n 2, 1) := by decide +kernel
theorem dX9_isClean_18 : decode cX9_isClean 18 = .ok (.ifCond .eq 38, 3) := by decide +kernel
theorem dX9_isClean_21 : decode cX9_isClean 21 = .ok (.aload_n 0, 1) := by decide +kernel
theorem dX9_isClean_22 : decode cX9_isClean 22 = .ok (.aload_n 0, 1) := by decide +kernel
theorem dX9_isClean_23 : decode cX9_isClean 23 = .ok (.getfield 86, 3) := by decide +kernel
theorem dX9_isClean_26 : decode cX9_isClean 26 = .ok (.iload_n 3, 1) := by decide +kernel
theorem dX9_isClean_27 : decode cX9_isClean 27 = .ok (.iaload, 1) := by decide +kernel
theorem dX9_isClean_28 : decode cX9_isClean 28 = .ok (.invokevirtual 275, 3) := by decide +kernel
theorem dX9_isClean_31 : decode cX9_isClean 31 = .ok (.ifCond .ne 7, 3) := by decide +kernel
theorem dX9_isClean_34 : decode cX9_isClean 34 = .ok (.iconst 1, 1) := by decide +kernel
theorem dX9_isClean_35 : decode cX9_isClean 35 = .ok (.goto 4, 3) := by decide +kernel
theorem dX9_isClean_38 : decode cX9_isClean 38 = .ok (.iconst 0, 1) := by decide +kernel
theorem dX9_isClean_39 : decode cX9_isClean 39 = .ok (.istore_n 2, 1) := by decide +kernel
theorem dX9_isClean_40 : decode cX9_isClean 40 = .ok (.aload_n 0, 1) := by decide +kernel
theorem dX9_isClean_41 : decode cX9_isClean 41 = .ok (.aload_n 0, 1) := by decide +kernel
theorem dX9_isClean_42 : decode cX9_isClean 42 = .ok (.getfield 86, 3) := by decide +kernel
theorem dX9_isClean_45 : decode cX9_isClean 45 = .ok (.iload_n 3, 1) := by decide +kernel
theorem dX9_isClean_46 : decode cX9_isClean 46 = .ok (.iaload, 1) := by decide +kernel
theorem dX9_isClean_47 : decode cX9_isClean 47 = .ok (.invokevirtual 278, 3) := by decide +kernel
theorem dX9_isClean_50 : decode cX9_isClean 50 = .ok (.iinc 3 1, 3) := by decide +kernel
theorem dX9_isClean_53 : decode cX9_isClean 53 = .ok (.goto (-44), 3) := by decide +kernel
theorem dX9_isClean_56 : decode cX9_isClean 56 = .ok (.iload_n 2, 1) := by decide +kernel
theorem dX9_isClean_57 : decode cX9_isClean 57 = .ok (.ireturn, 1) := by decide +kernel
set_option maxRecDepth 20000 in
theorem ggX9_seek_X9_fillRow : GoodIn wsX9_seek wsX9_fillRow := goodIn_r _ [5, 6, 7, 8, 9, 10, 4, 11, 45, 46, 47, 48, 49, 50, 51, 52, 53, 54, 55, 56, 57, 58, 59, 60, 61, 62, 63, 64, 65, 66, 67, 68, 69, 70, 71, 72, 73, 74, 75, 76, 77, 78, 79, 80, 81, 82, 83, 84, 85, 86, 87, 88, 89, 90, 91, 92, 93, 94, 95, 96, 97, 98, 99] (by decide +kernel) (by decide +kernel)
set_option maxRecDepth 20000 in
theorem gX9_seek_X9_fillRow : GoodIn wsX9_seek (wsV RX9 332 RX9 yX9_fillRow wsX9_fillRow) := goodIn_app (goodIn_of _ (by decide +kernel)) ggX9_seek_X9_fillRow
set_option maxRecDepth 20000 in
theorem ggX9_seek_X9_isClean : GoodIn wsX9_seek wsX9_isClean := goodIn_r _ [15, 6, 8, 16, 17, 18, 4, 19, 20, 21, 22, 23, 24, 25, 26, 27, 28, 29, 30, 31, 9, 10, 11, 32, 33, 34, 35, 36, 37, 38, 39, 40, 45, 46, 47, 48, 49, 50, 51, 52, 53, 54, 55, 56, 57, 58, 59, 60, 61, 62, 63, 64, 65, 66, 67, 68, 69, 70, 71, 72, 73, 74, 75, 76, 77, 78, 79, 80, 81, 82, 83, 84, 85, 86, 87, 88, 89, 90, 91, 92, 93, 94, 95, 96, 97, 98, 99] (by decide +kernel) (by decide +kernel)
set_option maxRecDepth 20000 in
theorem gX9_seek_X9_isClean : GoodIn wsX9_seek (wsV RX9 335 RX9 yX9_isClean wsX9_isClean) := goodIn_app (goodIn_of _ (by decide +kernel)) ggX9_seek_X9_isClean
set_option maxRecDepth 20000 in
theorem ggX9_seek_X9_nextRow : GoodIn wsX9_seek wsX9_nextRow := goodIn_r _ [44, 6, 8, 45, 46, 47, 48, 49, 50, 51, 52, 53, 54, 55, 56, 57, 58, 59, 60, 61, 62, 63, 64, 65, 66, 67, 68, 69, 70, 71, 72, 73, 74, 75, 76, 77, 78, 79, 80, 81, 82, 83, 84, 85, 86, 87, 88, 89, 90, 91, 92, 93, 94, 95, 96, 97, 98, 99] (by decide +kernel) (by decide +kernel)
set_option maxRecDepth 20000 in
theorem gX9_seek_X9_nextRow : GoodIn wsX9_seek (wsV RX9 338 RX9 yX9_nextRow wsX9_nextRow) := goodIn_app (goodIn_of _ (by decide +kernel)) ggX9_seek_X9_nextRow
theorem dX9_seek_0 : decode cX9_seek 0 = .ok (.aload_n 0, 1) := by decide +kernel
theorem dX9_seek_1 : decode cX9_seek 1 = .ok (.iload_n 2, 1) := by decide +kernel
theorem dX9_seek_2 : decode cX9_seek 2 = .ok (.invokevirtual 332, 3) := by decide +kernel
theorem dX9_seek_5 : decode cX9_seek 5 = .ok (.iconst 0, 1) := by decide +kernel
theorem dX9_seek_6 : decode cX9_seek 6 = .ok (.istore 4, 2) := by decide +kernel
theorem dX9_seek_8 : decode cX9_seek 8 = .ok (.iconst 1, 1) := by decide +kernel
theorem dX9_seek_9 : decode cX9_seek 9 = .ok (.istore 5, 2) := by decide +kernel
theorem dX9_seek_11 : decode cX9_seek 11 = .ok (.iload 5, 2) := by decide +kernel
theorem dX9_seek_13 : decode cX9_seek 13 = .ok (.ifCond .eq 32, 3) := by decide +kernel
theorem dX9_seek_16 : decode cX9_seek 16 = .ok (.aload_n 0, 1) := by decide +kernel
theorem dX9_seek_17 : decode cX9_seek 17 = .ok (.iload_n 1, 1) := by decide +kernel
theorem dX9_seek_18 : decode cX9_seek 18 = .ok (.invokevirtual 335, 3) := by decide +kernel
theorem dX9_seek_21 : decode cX9_seek 21 = .ok (.ifCond .eq 15, 3) := by decide +kernel
theorem dX9_seek_24 : decode cX9_seek 24 = .ok (.iload 4, 2) := by decide +kernel
theorem dX9_seek_26 : decode cX9_seek 26 = .ok (.iload_n 3, 1) := by decide +kernel
theorem dX9_seek_27 : decode cX9_seek 27 = .ok (.if_icmp .ne 6, 3) := by decide +kernel
theorem dX9_seek_30 : decode cX9_seek 30 = .ok (.iload 4, 2) := by decide +kernel
theorem dX9_seek_32 : decode cX9_seek 32 = .ok (.ireturn, 1) := by decide +kernel
theorem dX9_seek_33 : decode cX9_seek 33 = .ok (.iinc 4 1, 3) := by decide +kernel
theorem dX9_seek_36 : decode cX9_seek 36 = .ok (.aload_n 0, 1) := by decide +kernel
theorem dX9_seek_37 : decode cX9_seek 37 = .ok (.invokevirtual 338, 3) := by decide +kernel
theorem dX9_seek_40 : decode cX9_seek 40 = .ok (.istore 5, 2) := by decide +kernel
theorem dX9_seek_42 : decode cX9_seek 42 = .ok (.goto (-31), 3) := by decide +kernel
theorem dX9_seek_45 : decode cX9_seek 45 = .ok (.iload 4, 2) := by decide +kernel
theorem dX9_seek_47 : decode cX9_seek 47 = .ok (.ireturn, 1) := by decide +kernel
set_option maxRecDepth 20000 in
theorem ggX9_isFew_X9_bits : GoodIn wsX9_isFew wsX9_bits := goodIn_r _ [5] (by decide +kernel) (by decide +kernel)
set_option maxRecDepth 20000 in
theorem gX9_isFew_X9_bits : GoodIn wsX9_isFew (va_wsS RX9 289 yX9_bits wsX9_bits) := goodIn_app (goodIn_of _ (by decide +kernel)) ggX9_isFew_X9_bits
theorem dX9_isFew_0 : decode cX9_isFew 0 = .ok (.iload_n 2, 1) := by decide +kernel
theorem dX9_isFew_1 : decode cX9_isFew 1 = .ok (.aload_n 0, 1) := by decide +kernel
theorem dX9_isFew_2 : decode cX9_isFew 2 = .ok (.getfield 31, 3) := by decide +kernel
theorem dX9_isFew_5 : decode cX9_isFew 5 = .ok (.iload_n 1, 1) := by decide +kernel
theorem dX9_isFew_6 : decode cX9_isFew 6 = .ok (.iaload, 1) := by decide +kernel
theorem dX9_isFew_7 : decode cX9_isFew 7 = .ok (.iand, 1) := by decide +kernel
theorem dX9_isFew_8 : decode cX9_isFew 8 = .ok (.ifCond .ne 16, 3) := by decide +kernel
theorem dX9_isFew_11 : decode cX9_isFew 11 = .ok (.iload_n 2, 1) := by decide +kernel
theorem dX9_isFew_12 : decode cX9_isFew 12 = .ok (.invokestatic 289, 3) := by decide +kernel
theorem dX9_isFew_15 : decode cX9_isFew 15 = .ok (.bipush 8, 2) := by decide +kernel
theorem dX9_isFew_17 : decode cX9_isFew 17 = .ok (.if_icmp .gt 7, 3) := by decide +kernel
theorem dX9_isFew_20 : decode cX9_isFew 20 = .ok (.iconst 1, 1) := by decide +kernel
theorem dX9_isFew_21 : decode cX9_isFew 21 = .ok (.goto 4, 3) := by decide +kernel
theorem dX9_isFew_24 : decode cX9_isFew 24 = .ok (.iconst 0, 1) := by decide +kernel
theorem dX9_isFew_25 : decode cX9_isFew 25 = .ok (.ireturn, 1) := by decide +kernel
set_option maxRecDepth 20000 in
theorem ggX9_orders_X9_isLine : GoodIn wsX9_orders wsX9_isLine := goodIn_r _ [5, 6, 7, 8, 4, 9, 69, 70, 71, 72, 73, 74, 75, 76, 77, 78, 79, 80, 81, 82, 83, 84, 85, 86, 87, 88, 89, 90, 91, 92, 93, 94, 95, 96, 97, 98, 99, 100, 101, 102, 103, 104, 105, 106, 107, 108, 109, 110, 111, 112, 113, 114, 115, 116, 117, 118, 119, 120, 121, 122, 123] (by decide +kernel) (by decide +kernel)
set_option maxRecDepth 20000 in
theorem gX9_orders_X9_isLine : GoodIn wsX9_orders (wsV RX9 266 RX9 yX9_isLine wsX9_isLine) := goodIn_app (goodIn_of _ (by decide +kernel)) ggX9_orders_X9_isLine
set_option maxRecDepth 20000 in
theorem ggX9_orders_X9_areChanges : GoodIn wsX9_orders wsX9_areChanges := goodIn_r _ [13, 14, 7, 8, 4, 9, 69, 70, 71, 72, 73, 74, 75, 76, 77, 78, 79, 80, 81, 82, 83, 84, 85, 86, 87, 88, 89, 90, 91, 92, 93, 94, 95, 96, 97, 98, 99, 100, 101, 102, 103, 104, 105, 106, 107, 108, 109, 110, 111, 112, 113, 114, 115, 116, 117, 118, 119, 120, 121, 122, 123] (by decide +kernel) (by decide +kernel)
set_option maxRecDepth 20000 in
theorem gX9_orders_X9_areChanges : GoodIn wsX9_orders (wsV RX9 341 RX9 yX9_areChanges wsX9_areChanges) := goodIn_app (goodIn_of _ (by decide +kernel)) ggX9_orders_X9_areChanges
set_option maxRecDepth 20000 in
theorem ggX9_orders_X9_isFew : GoodIn wsX9_orders wsX9_isFew := goodIn_r _ [18, 19, 20, 21, 4, 22, 69, 70, 71, 72, 73, 74, 75, 76, 77, 78, 79, 80, 81, 82, 83, 84, 85, 86, 87, 88, 89, 90, 91, 92, 93, 94, 95, 96, 97, 98, 99, 100, 101, 102, 103, 104, 105, 106, 107, 108, 109, 110, 111, 112, 113, 114, 115, 116, 117, 118, 119, 120, 121, 122, 123] (by decide +kernel) (by decide +kernel)
set_option maxRecDepth 20000 in
theorem gX9_orders_X9_isFew : GoodIn wsX9_orders (wsV RX9 344 RX9 yX9_isFew wsX9_isFew) := goodIn_app (goodIn_of _ (by decide +kernel)) ggX9_orders_X9_isFew
set_option maxRecDepth 20000 in
theorem ggX9_orders_X9_seek : GoodIn wsX9_orders wsX9_seek := goodIn_r _ [26, 27, 28, 29, 4, 30, 31, 14, 32, 33, 34, 35, 36, 37, 38, 39, 40, 41, 42, 43, 44, 45, 46, 47, 48, 49, 50, 51, 52, 53, 54, 55, 56, 57, 58, 59, 60, 61, 62, 63, 64, 65, 66, 67, 68, 69, 70, 71, 72, 73, 74, 75, 76, 77, 78, 79, 80, 81, 82, 83, 84, 85, 86, 87, 88, 89, 90, 91, 92, 93, 94, 95, 96, 97, 98, 99, 100, 101, 102, 103, 104, 105, 106, 107, 108, 109, 110, 111, 112, 113, 114, 115, 116, 117, 118, 119, 120, 121, 122, 123] (by decide +kernel) (by decide +kernel)
set_option maxRecDepth 20000 in
theorem gX9_orders_X9_seek : GoodIn wsX9_orders (wsV RX9 347 RX9 yX9_seek wsX9_seek) := goodIn_app (goodIn_of _ (by decide +kernel)) ggX9_orders_X9_seek
theorem dX9_orders_0 : decode cX9_orders 0 = .ok (.aload_n 0, 1) := by decide +kernel
theorem dX9_orders_1 : decode cX9_orders 1 = .ok (.iload_n 1, 1) := by decide +kernel
theorem dX9_orders_2 : decode cX9_orders 2 = .ok (.invokevirtual 266, 3) := by decide +kernel
theorem dX9_orders_5 : decode cX9_orders 5 = .ok (.ifCond .eq 11, 3) := by decide +kernel
theorem dX9_orders_8 : decode cX9_orders 8 = .ok (.aload_n 0, 1) := by decide +kernel
theorem dX9_orders_9 : decode cX9_orders 9 = .ok (.iload_n 2, 1) := by decide +kernel
theorem dX9_orders_10 : decode cX9_orders 10 = .ok (.invokevirtual 341, 3) := by decide +kernel
theorem dX9_orders_13 : decode cX9_orders 13 = .ok (.ifCond .ne 7, 3) := by decide +kernel
theorem dX9_orders_16 : decode cX9_orders 16 = .ok (.sipush (-1001), 3) := by decide +kernel
theorem dX9_orders_19 : decode cX9_orders 19 = .ok (.ireturn, 1) := by decide +kernel
theorem dX9_orders_20 : decode cX9_orders 20 = .ok (.aload_n 0, 1) := by decide +kernel
theorem dX9_orders_21 : decode cX9_orders 21 = .ok (.iload_n 1, 1) := by decide +kernel
theorem dX9_orders_22 : decode cX9_orders 22 = .ok (.iload_n 2, 1) := by decide +kernel
theorem dX9_orders_23 : decode cX9_orders 23 = .ok (.invokevirtual 344, 3) := by decide +kernel
theorem dX9_orders_26 : decode cX9_orders 26 = .ok (.ifCond .eq 13, 3) := by decide +kernel
theorem dX9_orders_29 : decode cX9_orders 29 = .ok (.aload_n 0, 1) := by decide +kernel
theorem dX9_orders_30 : decode cX9_orders 30 = .ok (.iload_n 1, 1) := by decide +kernel
theorem dX9_orders_31 : decode cX9_orders 31 = .ok (.iload_n 2, 1) := by decide +kernel
theorem dX9_orders_32 : decode cX9_orders 32 = .ok (.iconst (-1), 1) := by decide +kernel
theorem dX9_orders_33 : decode cX9_orders 33 = .ok (.invokevirtual 347, 3) := by decide +kernel
theorem dX9_orders_36 : decode cX9_orders 36 = .ok (.goto 6, 3) := by decide +kernel
theorem dX9_orders_39 : decode cX9_orders 39 = .ok (.sipush (-1003), 3) := by decide +kernel
theorem dX9_orders_42 : decode cX9_orders 42 = .ok (.ireturn, 1) := by decide +kernel
set_option maxRecDepth 20000 in
theorem ggX9_order_X9_isLine : GoodIn wsX9_order wsX9_isLine := goodIn_r _ [6, 7, 8, 9, 5, 10, 69, 70, 71, 72, 73, 74, 75, 76, 77, 78, 79, 80, 81, 82, 83, 84, 85, 86, 87, 88, 89, 90, 91, 92, 93, 94, 95, 96, 97, 98, 99, 100, 101, 102, 103, 104, 105, 106, 107, 108, 109, 110, 111, 112, 113, 114, 115, 116, 117, 118, 119, 120, 121, 122, 123] (by decide +kernel) (by decide +kernel)
set_option maxRecDepth 20000 in
theorem gX9_order_X9_isLine : GoodIn wsX9_order (wsV RX9 266 RX9 yX9_isLine wsX9_isLine) := goodIn_app (goodIn_of _ (by decide +kernel)) ggX9_order_X9_isLine
set_option maxRecDepth 20000 in
theorem ggX9_order_X9_areChanges : GoodIn wsX9_order wsX9_areChanges := goodIn_r _ [14, 15, 8, 9, 5, 10, 69, 70, 71, 72, 73, 74, 75, 76, 77, 78, 79, 80, 81, 82, 83, 84, 85, 86, 87, 88, 89, 90, 91, 92, 93, 94, 95, 96, 97, 98, 99, 100, 101, 102, 103, 104, 105, 106, 107, 108, 109, 110, 111, 112, 113, 114, 115, 116, 117, 118, 119, 120, 121, 122, 123] (by decide +kernel) (by decide +kernel)
set_option maxRecDepth 20000 in
theorem gX9_order_X9_areChanges : GoodIn wsX9_order (wsV RX9 341 RX9 yX9_areChanges wsX9_areChanges) := goodIn_app (goodIn_of _ (by decide +kernel)) ggX9_order_X9_areChanges
set_option maxRecDepth 20000 in
theorem ggX9_order_X9_isFew : GoodIn wsX9_order wsX9_isFew := goodIn_r _ [19, 20, 21, 22, 5, 23, 69, 70, 71, 72, 73, 74, 75, 76, 77, 78, 79, 80, 81, 82, 83, 84, 85, 86, 87, 88, 89, 90, 91, 92, 93, 94, 95, 96, 97, 98, 99, 100, 101, 102, 103, 104, 105, 106, 107, 108, 109, 110, 111, 112, 113, 114, 115, 116, 117, 118, 119, 120, 121, 122, 123] (by decide +kernel) (by decide +kernel)
set_option maxRecDepth 20000 in
theorem gX9_order_X9_isFew : GoodIn wsX9_order (wsV RX9 344 RX9 yX9_isFew wsX9_isFew) := goodIn_app (goodIn_of _ (by decide +kernel)) ggX9_order_X9_isFew
set_option maxRecDepth 20000 in
theorem ggX9_order_X9_seek : GoodIn wsX9_order wsX9_seek := goodIn_r _ [27, 28, 29, 30, 5, 31, 32, 15, 1, 33, 34, 35, 36, 37, 38, 39, 40, 41, 42, 43, 44, 45, 46, 47, 48, 49, 50, 51, 52, 53, 54, 55, 56, 57, 58, 59, 60, 61, 62, 63, 64, 65, 66, 67, 68, 69, 70, 71, 72, 73, 74, 75, 76, 77, 78, 79, 80, 81, 82, 83, 84, 85, 86, 87, 88, 89, 90, 91, 92, 93, 94, 95, 96, 97, 98, 99, 100, 101, 102, 103, 104, 105, 106, 107, 108, 109, 110, 111, 112, 113, 114, 115, 116, 117, 118, 119, 120, 121, 122, 123] (by decide +kernel) (by decide +kernel)
set_option maxRecDepth 20000 in
theorem gX9_order_X9_seek : GoodIn wsX9_order (wsV RX9 347 RX9 yX9_seek wsX9_seek) := goodIn_app (goodIn_of _ (by decide +kernel)) ggX9_order_X9_seek
set_option maxRecDepth 20000 in
theorem ggX9_order_X9_bits : GoodIn wsX9_order wsX9_bits := goodIn_r _ [23] (by decide +kernel) (by decide +kernel)
set_option maxRecDepth 20000 in
theorem gX9_order_X9_bits : GoodIn wsX9_order (va_wsS RX9 289 yX9_bits wsX9_bits) := goodIn_app (goodIn_of _ (by decide +kernel)) ggX9_order_X9_bits
set_option maxRecDepth 20000 in
theorem ggX9_order_X9_in : GoodIn wsX9_order wsX9_in := goodIn_r _ [10] (by decide +kernel) (by decide +kernel)
set_option maxRecDepth 20000 in
theorem gX9_order_X9_in : GoodIn wsX9_order (va_wsS RX9 117 yX9_in wsX9_in) := goodIn_app (goodIn_of _ (by decide +kernel)) ggX9_order_X9_in
theorem dX9_order_0 : decode cX9_order 0 = .ok (.aload_n 0, 1) := by decide +kernel
theorem dX9_order_1 : decode cX9_order 1 = .ok (.iload_n 1, 1) := by decide +kernel
theorem dX9_order_2 : decode cX9_order 2 = .ok (.invokevirtual 266, 3) := by decide +kernel
theorem dX9_order_5 : decode cX9_order 5 = .ok (.ifCond .eq 11, 3) := by decide +kernel
theorem dX9_order_8 : decode cX9_order 8 = .ok (.aload_n 0, 1) := by decide +kernel
theorem dX9_order_9 : decode cX9_order 9 = .ok (.iload_n 2, 1) := by decide +kernel
theorem dX9_order_10 : decode cX9_order 10 = .ok (.invokevirtual 341, 3) := by decide +kernel
theorem dX9_order_13 : decode cX9_order 13 = .ok (.ifCond .ne 7, 3) := by decide +kernel
theorem dX9_order_16 : decode cX9_order 16 = .ok (.sipush (-1001), 3) := by decide +kernel
theorem dX9_order_19 : decode cX9_order 19 = .ok (.ireturn, 1) := by decide +kernel
theorem dX9_order_20 : decode cX9_order 20 = .ok (.iload_n 3, 1) := by decide +kernel
theorem dX9_order_21 : decode cX9_order 21 = .ok (.ifCond .ge 7, 3) := by decide +kernel
theorem dX9_order_24 : decode cX9_order 24 = .ok (.sipush (-1002), 3) := by decide +kernel
theorem dX9_order_27 : decode cX9_order 27 = .ok (.ireturn, 1) := by decide +kernel
theorem dX9_order_28 : decode cX9_order 28 = .ok (.aload_n 0, 1) := by decide +kernel
theorem dX9_order_29 : decode cX9_order 29 = .ok (.iload_n 1, 1) := by decide +kernel
theorem dX9_order_30 : decode cX9_order 30 = .ok (.iload_n 2, 1) := by decide +kernel
theorem dX9_order_31 : decode cX9_order 31 = .ok (.invokevirtual 344, 3) := by decide +kernel
theorem dX9_order_34 : decode cX9_order 34 = .ok (.ifCond .ne 7, 3) := by decide +kernel
theorem dX9_order_37 : decode cX9_order 37 = .ok (.sipush (-1003), 3) := by decide +kernel
theorem dX9_order_40 : decode cX9_order 40 = .ok (.ireturn, 1) := by decide +kernel
theorem dX9_order_41 : decode cX9_order 41 = .ok (.iload_n 3, 1) := by decide +kernel
theorem dX9_order_42 : decode cX9_order 42 = .ok (.aload_n 0, 1) := by decide +kernel
theorem dX9_order_43 : decode cX9_order 43 = .ok (.iload_n 1, 1) := by decide +kernel
theorem dX9_order_44 : decode cX9_order 44 = .ok (.iload_n 2, 1) := by decide +kernel
theorem dX9_order_45 : decode cX9_order 45 = .ok (.iconst (-1), 1) := by decide +kernel
theorem dX9_order_46 : decode cX9_order 46 = .ok (.invokevirtual 347, 3) := by decide +kernel
theorem dX9_order_49 : decode cX9_order 49 = .ok (.if_icmp .ge 20, 3) := by decide +kernel
theorem dX9_order_52 : decode cX9_order 52 = .ok (.iload 4, 2) := by decide +kernel
theorem dX9_order_54 : decode cX9_order 54 = .ok (.i2l, 1) := by decide +kernel
theorem dX9_order_55 : decode cX9_order 55 = .ok (.lconst 0, 1) := by decide +kernel
theorem dX9_order_56 : decode cX9_order 56 = .ok (.iload_n 2, 1) := by decide +kernel
theorem dX9_order_57 : decode cX9_order 57 = .ok (.invokestatic 289, 3) := by decide +kernel
theorem dX9_order_60 : decode cX9_order 60 = .ok (.iconst 1, 1) := by decide +kernel
theorem dX9_order_61 : decode cX9_order 61 = .ok (.isub, 1) := by decide +kernel
theorem dX9_order_62 : decode cX9_order 62 = .ok (.i2l, 1) := by decide +kernel
theorem dX9_order_63 : decode cX9_order 63 = .ok (.invokestatic 117, 3) := by decide +kernel
theorem dX9_order_66 : decode cX9_order 66 = .ok (.ifCond .ne 5, 3) := by decide +kernel
theorem dX9_order_69 : decode cX9_order 69 = .ok (.iconst (-1), 1) := by decide +kernel
theorem dX9_order_70 : decode cX9_order 70 = .ok (.ireturn, 1) := by decide +kernel
theorem dX9_order_71 : decode cX9_order 71 = .ok (.aload_n 0, 1) := by decide +kernel
theorem dX9_order_72 : decode cX9_order 72 = .ok (.iload_n 1, 1) := by decide +kernel
theorem dX9_order_73 : decode cX9_order 73 = .ok (.iload_n 2, 1) := by decide +kernel
theorem dX9_order_74 : decode cX9_order 74 = .ok (.iload_n 3, 1) := by decide +kernel
theorem dX9_order_75 : decode cX9_order 75 = .ok (.invokevirtual 347, 3) := by decide +kernel
theorem dX9_order_78 : decode cX9_order 78 = .ok (.iload_n 3, 1) := by decide +kernel
theorem dX9_order_79 : decode cX9_order 79 = .ok (.if_icmp .ne 13, 3) := by decide +kernel
theorem dX9_order_82 : decode cX9_order 82 = .ok (.aload_n 0, 1) := by decide +kernel
theorem dX9_order_83 : decode cX9_order 83 = .ok (.getfield 86, 3) := by decide +kernel
theorem dX9_order_86 : decode cX9_order 86 = .ok (.iload 4, 2) := by decide +kernel
theorem dX9_order_88 : decode cX9_order 88 = .ok (.iaload, 1) := by decide +kernel
theorem dX9_order_89 : decode cX9_order 89 = .ok (.goto 4, 3) := by decide +kernel
theorem dX9_order_92 : decode cX9_order 92 = .ok (.iconst (-1), 1) := by decide +kernel
theorem dX9_order_93 : decode cX9_order 93 = .ok (.ireturn, 1) := by decide +kernel
set_option maxRecDepth 20000 in
theorem ggX9_whence_X9_isLine : GoodIn wsX9_whence wsX9_isLine := goodIn_r _ [9, 10, 11, 12, 8, 13, 21, 22, 23, 24, 25, 26, 27, 28, 29, 30, 31, 32, 33, 34, 35, 36, 37, 38, 39, 40, 41, 42, 43, 44, 45, 46, 47, 48, 49, 50, 51, 52, 53, 54, 55, 56, 57, 58, 59, 60, 61, 62, 63, 64, 65, 66, 67, 68, 69, 70, 71, 72, 73, 74, 75] (by decide +kernel) (by decide +kernel)
set_option maxRecDepth 20000 in
theorem gX9_whence_X9_isLine : GoodIn wsX9_whence (wsV RX9 266 RX9 yX9_isLine wsX9_isLine) := goodIn_app (goodIn_of _ (by decide +kernel)) ggX9_whence_X9_isLine
set_option maxRecDepth 20000 in
theorem ggX9_whence_X9_isSlot : GoodIn wsX9_whence wsX9_isSlot := goodIn_r _ [16, 17, 11, 12, 8, 13] (by decide +kernel) (by decide +kernel)
set_option maxRecDepth 20000 in
theorem gX9_whence_X9_isSlot : GoodIn wsX9_whence (va_wsS RX9 254 yX9_isSlot wsX9_isSlot) := goodIn_app (goodIn_of _ (by decide +kernel)) ggX9_whence_X9_isSlot
set_option maxRecDepth 20000 in
theorem ggX9_whence_X9_has : GoodIn wsX9_whence wsX9_has := goodIn_r _ [20] (by decide +kernel) (by decide +kernel)
set_option maxRecDepth 20000 in
theorem gX9_whence_X9_has : GoodIn wsX9_whence (va_wsS RX9 190 yX9_has wsX9_has) := goodIn_app (goodIn_of _ (by decide +kernel)) ggX9_whence_X9_has
theorem dX9_whence_0 : decode cX9_whence 0 = .ok (.aload_n 0, 1) := by decide +kernel
theorem dX9_whence_1 : decode cX9_whence 1 = .ok (.iload_n 1, 1) := by decide +kernel
theorem dX9_whence_2 : decode cX9_whence 2 = .ok (.invokevirtual 266, 3) := by decide +kernel
theorem dX9_whence_5 : decode cX9_whence 5 = .ok (.ifCond .eq 10, 3) := by decide +kernel
theorem dX9_whence_8 : decode cX9_whence 8 = .ok (.iload_n 2, 1) := by decide +kernel
theorem dX9_whence_9 : decode cX9_whence 9 = .ok (.invokestatic 254, 3) := by decide +kernel
