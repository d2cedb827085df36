theorem dX8_ready_24 : decode cX8_ready 24 = .ok (.invokevirtual 305, 3) := by decide +kernel
theorem dX8_ready_27 : decode cX8_ready 27 = .ok (.goto 11, 3) := by decide +kernel
theorem dX8_ready_30 : decode cX8_ready 30 = .ok (.aload_n 0, 1) := by decide +kernel
theorem dX8_ready_31 : decode cX8_ready 31 = .ok (.getfield 63, 3) := by decide +kernel
theorem dX8_ready_34 : decode cX8_ready 34 = .ok (.iload_n 1, 1) := by decide +kernel
theorem dX8_ready_35 : decode cX8_ready 35 = .ok (.invokevirtual 308, 3) := by decide +kernel
theorem dX8_ready_38 : decode cX8_ready 38 = .ok (.ireturn, 1) := by decide +kernel
set_option maxRecDepth 20000 in
theorem ggX8_orders_X8_refusalOfRow : GoodIn wsX8_orders wsX8_refusalOfRow := goodIn_r _ [8, 2, 9, 10, 11, 12, 13, 14, 15, 16, 17, 18, 19, 20, 21, 22, 23, 7, 24, 25, 26, 27, 28, 29, 30, 31, 75, 76, 77, 78, 79, 80, 81, 82, 83, 84, 85, 86, 87, 88, 89, 90, 91, 92, 93, 94, 95, 96, 97, 98, 99, 100, 101, 102, 103, 104, 105, 106, 107, 108] (by decide +kernel) (by decide +kernel)
set_option maxRecDepth 20000 in
theorem gX8_orders_X8_refusalOfRow : GoodIn wsX8_orders (wsV RX8 311 RX8 yX8_refusalOfRow wsX8_refusalOfRow) := goodIn_app (goodIn_of _ (by decide +kernel)) ggX8_orders_X8_refusalOfRow
set_option maxRecDepth 20000 in
theorem ggX8_orders_X4_build : GoodIn wsX8_orders wsX4_build := goodIn_r _ [36, 37, 38, 39, 40, 41, 42, 43, 44, 45, 46, 47, 48, 49, 7, 50, 23, 24, 51, 52, 53, 35, 54, 55, 56, 57, 20, 58, 59, 60, 61, 62, 63, 64, 65, 66, 67, 68, 69, 70, 109, 110, 111, 112, 113, 114, 115, 99, 100, 101, 102, 103, 104, 105, 106, 107, 108] (by decide +kernel) (by decide +kernel)
set_option maxRecDepth 20000 in
theorem gX8_orders_X4_build : GoodIn wsX8_orders (wsV RX8 314 RX4 yX4_build wsX4_build) := goodIn_app (goodIn_of _ (by decide +kernel)) ggX8_orders_X4_build
set_option maxRecDepth 20000 in
theorem ggX8_orders_X4_howMany : GoodIn wsX8_orders wsX4_howMany := goodIn_r _ [74, 43, 109, 110, 111, 112, 113, 114, 115] (by decide +kernel) (by decide +kernel)
set_option maxRecDepth 20000 in
theorem gX8_orders_X4_howMany : GoodIn wsX8_orders (wsV RX8 318 RX4 yX4_howMany wsX4_howMany) := goodIn_app (goodIn_of _ (by decide +kernel)) ggX8_orders_X4_howMany
theorem dX8_orders_0 : decode cX8_orders 0 = .ok (.aload_n 0, 1) := by decide +kernel
theorem dX8_orders_1 : decode cX8_orders 1 = .ok (.iload_n 1, 1) := by decide +kernel
theorem dX8_orders_2 : decode cX8_orders 2 = .ok (.iload_n 2, 1) := by decide +kernel
theorem dX8_orders_3 : decode cX8_orders 3 = .ok (.invokevirtual 311, 3) := by decide +kernel
theorem dX8_orders_6 : decode cX8_orders 6 = .ok (.istore_n 3, 1) := by decide +kernel
theorem dX8_orders_7 : decode cX8_orders 7 = .ok (.iload_n 3, 1) := by decide +kernel
theorem dX8_orders_8 : decode cX8_orders 8 = .ok (.ifCond .eq 5, 3) := by decide +kernel
theorem dX8_orders_11 : decode cX8_orders 11 = .ok (.iload_n 3, 1) := by decide +kernel
theorem dX8_orders_12 : decode cX8_orders 12 = .ok (.ireturn, 1) := by decide +kernel
theorem dX8_orders_13 : decode cX8_orders 13 = .ok (.aload_n 0, 1) := by decide +kernel
theorem dX8_orders_14 : decode cX8_orders 14 = .ok (.getfield 81, 3) := by decide +kernel
theorem dX8_orders_17 : decode cX8_orders 17 = .ok (.iload_n 2, 1) := by decide +kernel
theorem dX8_orders_18 : decode cX8_orders 18 = .ok (.aload_n 0, 1) := by decide +kernel
theorem dX8_orders_19 : decode cX8_orders 19 = .ok (.getfield 48, 3) := by decide +kernel
theorem dX8_orders_22 : decode cX8_orders 22 = .ok (.getfield 199, 3) := by decide +kernel
theorem dX8_orders_25 : decode cX8_orders 25 = .ok (.iload_n 1, 1) := by decide +kernel
theorem dX8_orders_26 : decode cX8_orders 26 = .ok (.invokevirtual 314, 3) := by decide +kernel
theorem dX8_orders_29 : decode cX8_orders 29 = .ok (.aload_n 0, 1) := by decide +kernel
theorem dX8_orders_30 : decode cX8_orders 30 = .ok (.getfield 81, 3) := by decide +kernel
theorem dX8_orders_33 : decode cX8_orders 33 = .ok (.invokevirtual 318, 3) := by decide +kernel
theorem dX8_orders_36 : decode cX8_orders 36 = .ok (.ireturn, 1) := by decide +kernel
set_option maxRecDepth 20000 in
theorem ggX8_order_X8_refusalOfRow : GoodIn wsX8_order wsX8_refusalOfRow := goodIn_r _ [8, 2, 9, 10, 11, 12, 13, 14, 15, 16, 17, 18, 19, 20, 21, 22, 23, 7, 24, 25, 26, 27, 28, 29, 30, 31, 79, 80, 81, 82, 83, 84, 85, 86, 87, 88, 89, 90, 91, 92, 93, 94, 95, 96, 97, 98, 99, 100, 101, 102, 103, 104, 105, 106, 107, 108, 109, 110, 111, 112] (by decide +kernel) (by decide +kernel)
set_option maxRecDepth 20000 in
theorem gX8_order_X8_refusalOfRow : GoodIn wsX8_order (wsV RX8 311 RX8 yX8_refusalOfRow wsX8_refusalOfRow) := goodIn_app (goodIn_of _ (by decide +kernel)) ggX8_order_X8_refusalOfRow
set_option maxRecDepth 20000 in
theorem ggX8_order_X4_build : GoodIn wsX8_order wsX4_build := goodIn_r _ [36, 37, 38, 39, 40, 41, 42, 43, 44, 45, 46, 47, 48, 49, 7, 50, 23, 24, 51, 52, 53, 35, 54, 55, 56, 57, 20, 58, 59, 60, 61, 62, 63, 64, 65, 66, 67, 68, 69, 70, 113, 114, 115, 116, 117, 118, 119, 103, 104, 105, 106, 107, 108, 109, 110, 111, 112] (by decide +kernel) (by decide +kernel)
set_option maxRecDepth 20000 in
theorem gX8_order_X4_build : GoodIn wsX8_order (wsV RX8 314 RX4 yX4_build wsX4_build) := goodIn_app (goodIn_of _ (by decide +kernel)) ggX8_order_X4_build
set_option maxRecDepth 20000 in
theorem ggX8_order_X4_memberOf : GoodIn wsX8_order wsX4_memberOf := goodIn_r _ [74, 43, 37, 40, 75, 76, 77, 35, 78, 42, 49, 7, 50, 113, 114, 115, 116, 117, 118, 119] (by decide +kernel) (by decide +kernel)
set_option maxRecDepth 20000 in
theorem gX8_order_X4_memberOf : GoodIn wsX8_order (wsV RX8 321 RX4 yX4_memberOf wsX4_memberOf) := goodIn_app (goodIn_of _ (by decide +kernel)) ggX8_order_X4_memberOf
theorem dX8_order_0 : decode cX8_order 0 = .ok (.aload_n 0, 1) := by decide +kernel
theorem dX8_order_1 : decode cX8_order 1 = .ok (.iload_n 1, 1) := by decide +kernel
theorem dX8_order_2 : decode cX8_order 2 = .ok (.iload_n 2, 1) := by decide +kernel
theorem dX8_order_3 : decode cX8_order 3 = .ok (.invokevirtual 311, 3) := by decide +kernel
theorem dX8_order_6 : decode cX8_order 6 = .ok (.istore 5, 2) := by decide +kernel
theorem dX8_order_8 : decode cX8_order 8 = .ok (.iload 5, 2) := by decide +kernel
theorem dX8_order_10 : decode cX8_order 10 = .ok (.sipush (-1001), 3) := by decide +kernel
theorem dX8_order_13 : decode cX8_order 13 = .ok (.if_icmp .ne 7, 3) := by decide +kernel
theorem dX8_order_16 : decode cX8_order 16 = .ok (.sipush (-1001), 3) := by decide +kernel
theorem dX8_order_19 : decode cX8_order 19 = .ok (.ireturn, 1) := by decide +kernel
theorem dX8_order_20 : decode cX8_order 20 = .ok (.iload_n 3, 1) := by decide +kernel
theorem dX8_order_21 : decode cX8_order 21 = .ok (.ifCond .ge 7, 3) := by decide +kernel
theorem dX8_order_24 : decode cX8_order 24 = .ok (.sipush (-1002), 3) := by decide +kernel
theorem dX8_order_27 : decode cX8_order 27 = .ok (.ireturn, 1) := by decide +kernel
theorem dX8_order_28 : decode cX8_order 28 = .ok (.iload 5, 2) := by decide +kernel
theorem dX8_order_30 : decode cX8_order 30 = .ok (.ifCond .eq 6, 3) := by decide +kernel
theorem dX8_order_33 : decode cX8_order 33 = .ok (.iload 5, 2) := by decide +kernel
theorem dX8_order_35 : decode cX8_order 35 = .ok (.ireturn, 1) := by decide +kernel
theorem dX8_order_36 : decode cX8_order 36 = .ok (.aload_n 0, 1) := by decide +kernel
theorem dX8_order_37 : decode cX8_order 37 = .ok (.getfield 81, 3) := by decide +kernel
theorem dX8_order_40 : decode cX8_order 40 = .ok (.iload_n 2, 1) := by decide +kernel
theorem dX8_order_41 : decode cX8_order 41 = .ok (.aload_n 0, 1) := by decide +kernel
theorem dX8_order_42 : decode cX8_order 42 = .ok (.getfield 48, 3) := by decide +kernel
theorem dX8_order_45 : decode cX8_order 45 = .ok (.getfield 199, 3) := by decide +kernel
theorem dX8_order_48 : decode cX8_order 48 = .ok (.iload_n 1, 1) := by decide +kernel
theorem dX8_order_49 : decode cX8_order 49 = .ok (.invokevirtual 314, 3) := by decide +kernel
theorem dX8_order_52 : decode cX8_order 52 = .ok (.aload_n 0, 1) := by decide +kernel
theorem dX8_order_53 : decode cX8_order 53 = .ok (.getfield 81, 3) := by decide +kernel
theorem dX8_order_56 : decode cX8_order 56 = .ok (.iload_n 3, 1) := by decide +kernel
theorem dX8_order_57 : decode cX8_order 57 = .ok (.iload 4, 2) := by decide +kernel
theorem dX8_order_59 : decode cX8_order 59 = .ok (.invokevirtual 321, 3) := by decide +kernel
theorem dX8_order_62 : decode cX8_order 62 = .ok (.ireturn, 1) := by decide +kernel
set_option maxRecDepth 20000 in
theorem ggX8_whence_X0_hasLine : GoodIn wsX8_whence wsX0_hasLine := goodIn_r _ [12, 13, 35, 36, 37, 38, 39, 40, 41, 42, 43, 44] (by decide +kernel) (by decide +kernel)
set_option maxRecDepth 20000 in
theorem gX8_whence_X0_hasLine : GoodIn wsX8_whence (wsV RX8 181 RX0 yX0_hasLine wsX0_hasLine) := goodIn_app (goodIn_of _ (by decide +kernel)) ggX8_whence_X0_hasLine
set_option maxRecDepth 20000 in
theorem ggX8_whence_X8_isSlot : GoodIn wsX8_whence wsX8_isSlot := goodIn_r _ [17] (by decide +kernel) (by decide +kernel)
set_option maxRecDepth 20000 in
theorem gX8_whence_X8_isSlot : GoodIn wsX8_whence (va_wsS RX8 153 yX8_isSlot wsX8_isSlot) := goodIn_app (goodIn_of _ (by decide +kernel)) ggX8_whence_X8_isSlot
set_option maxRecDepth 20000 in
theorem ggX8_whence_X8_has : GoodIn wsX8_whence wsX8_has := goodIn_r _ [20] (by decide +kernel) (by decide +kernel)
set_option maxRecDepth 20000 in
theorem gX8_whence_X8_has : GoodIn wsX8_whence (va_wsS RX8 202 yX8_has wsX8_has) := goodIn_app (goodIn_of _ (by decide +kernel)) ggX8_whence_X8_has
theorem dX8_whence_0 : decode cX8_whence 0 = .ok (.aload_n 0, 1) := by decide +kernel
theorem dX8_whence_1 : decode cX8_whence 1 = .ok (.getfield 48, 3) := by decide +kernel
theorem dX8_whence_4 : decode cX8_whence 4 = .ok (.iload_n 1, 1) := by decide +kernel
theorem dX8_whence_5 : decode cX8_whence 5 = .ok (.invokevirtual 181, 3) := by decide +kernel
theorem dX8_whence_8 : decode cX8_whence 8 = .ok (.ifCond .eq 10, 3) := by decide +kernel
theorem dX8_whence_11 : decode cX8_whence 11 = .ok (.iload_n 2, 1) := by decide +kernel
theorem dX8_whence_12 : decode cX8_whence 12 = .ok (.invokestatic 153, 3) := by decide +kernel
theorem dX8_whence_15 : decode cX8_whence 15 = .ok (.ifCond .ne 7, 3) := by decide +kernel
theorem dX8_whence_18 : decode cX8_whence 18 = .ok (.sipush (-1001), 3) := by decide +kernel
theorem dX8_whence_21 : decode cX8_whence 21 = .ok (.ireturn, 1) := by decide +kernel
theorem dX8_whence_22 : decode cX8_whence 22 = .ok (.aload_n 0, 1) := by decide +kernel
theorem dX8_whence_23 : decode cX8_whence 23 = .ok (.getfield 48, 3) := by decide +kernel
theorem dX8_whence_26 : decode cX8_whence 26 = .ok (.getfield 199, 3) := by decide +kernel
theorem dX8_whence_29 : decode cX8_whence 29 = .ok (.iload_n 1, 1) := by decide +kernel
theorem dX8_whence_30 : decode cX8_whence 30 = .ok (.bipush 16, 2) := by decide +kernel
theorem dX8_whence_32 : decode cX8_whence 32 = .ok (.imul, 1) := by decide +kernel
theorem dX8_whence_33 : decode cX8_whence 33 = .ok (.iload_n 2, 1) := by decide +kernel
theorem dX8_whence_34 : decode cX8_whence 34 = .ok (.iadd, 1) := by decide +kernel
theorem dX8_whence_35 : decode cX8_whence 35 = .ok (.iaload, 1) := by decide +kernel
theorem dX8_whence_36 : decode cX8_whence 36 = .ok (.istore_n 3, 1) := by decide +kernel
theorem dX8_whence_37 : decode cX8_whence 37 = .ok (.aload_n 0, 1) := by decide +kernel
theorem dX8_whence_38 : decode cX8_whence 38 = .ok (.getfield 28, 3) := by decide +kernel
theorem dX8_whence_41 : decode cX8_whence 41 = .ok (.getfield 122, 3) := by decide +kernel
theorem dX8_whence_44 : decode cX8_whence 44 = .ok (.iconst 1, 1) := by decide +kernel
theorem dX8_whence_45 : decode cX8_whence 45 = .ok (.isub, 1) := by decide +kernel
theorem dX8_whence_46 : decode cX8_whence 46 = .ok (.istore 4, 2) := by decide +kernel
theorem dX8_whence_48 : decode cX8_whence 48 = .ok (.iload 4, 2) := by decide +kernel
theorem dX8_whence_50 : decode cX8_whence 50 = .ok (.ifCond .lt 65, 3) := by decide +kernel
theorem dX8_whence_53 : decode cX8_whence 53 = .ok (.aload_n 0, 1) := by decide +kernel
theorem dX8_whence_54 : decode cX8_whence 54 = .ok (.getfield 48, 3) := by decide +kernel
theorem dX8_whence_57 : decode cX8_whence 57 = .ok (.getfield 187, 3) := by decide +kernel
theorem dX8_whence_60 : decode cX8_whence 60 = .ok (.iload_n 1, 1) := by decide +kernel
theorem dX8_whence_61 : decode cX8_whence 61 = .ok (.iaload, 1) := by decide +kernel
theorem dX8_whence_62 : decode cX8_whence 62 = .ok (.iload 4, 2) := by decide +kernel
theorem dX8_whence_64 : decode cX8_whence 64 = .ok (.invokestatic 202, 3) := by decide +kernel
theorem dX8_whence_67 : decode cX8_whence 67 = .ok (.ifCond .eq 42, 3) := by decide +kernel
theorem dX8_whence_70 : decode cX8_whence 70 = .ok (.aload_n 0, 1) := by decide +kernel
theorem dX8_whence_71 : decode cX8_whence 71 = .ok (.getfield 28, 3) := by decide +kernel
theorem dX8_whence_74 : decode cX8_whence 74 = .ok (.getfield 136, 3) := by decide +kernel
theorem dX8_whence_77 : decode cX8_whence 77 = .ok (.iload 4, 2) := by decide +kernel
theorem dX8_whence_79 : decode cX8_whence 79 = .ok (.iaload, 1) := by decide +kernel
theorem dX8_whence_80 : decode cX8_whence 80 = .ok (.iload_n 2, 1) := by decide +kernel
theorem dX8_whence_81 : decode cX8_whence 81 = .ok (.invokestatic 202, 3) := by decide +kernel
theorem dX8_whence_84 : decode cX8_whence 84 = .ok (.ifCond .eq 25, 3) := by decide +kernel
theorem dX8_whence_87 : decode cX8_whence 87 = .ok (.aload_n 0, 1) := by decide +kernel
theorem dX8_whence_88 : decode cX8_whence 88 = .ok (.getfield 28, 3) := by decide +kernel
theorem dX8_whence_91 : decode cX8_whence 91 = .ok (.getfield 156, 3) := by decide +kernel
theorem dX8_whence_94 : decode cX8_whence 94 = .ok (.iload 4, 2) := by decide +kernel
theorem dX8_whence_96 : decode cX8_whence 96 = .ok (.bipush 16, 2) := by decide +kernel
theorem dX8_whence_98 : decode cX8_whence 98 = .ok (.imul, 1) := by decide +kernel
theorem dX8_whence_99 : decode cX8_whence 99 = .ok (.iload_n 2, 1) := by decide +kernel
theorem dX8_whence_100 : decode cX8_whence 100 = .ok (.iadd, 1) := by decide +kernel
theorem dX8_whence_101 : decode cX8_whence 101 = .ok (.iaload, 1) := by decide +kernel
theorem dX8_whence_102 : decode cX8_whence 102 = .ok (.iload_n 3, 1) := by decide +kernel
theorem dX8_whence_103 : decode cX8_whence 103 = .ok (.if_icmp .ne 6, 3) := by decide +kernel
theorem dX8_whence_106 : decode cX8_whence 106 = .ok (.iload 4, 2) := by decide +kernel
theorem dX8_whence_108 : decode cX8_whence 108 = .ok (.ireturn, 1) := by decide +kernel
theorem dX8_whence_109 : decode cX8_whence 109 = .ok (.iinc 4 (-1), 3) := by decide +kernel
theorem dX8_whence_112 : decode cX8_whence 112 = .ok (.goto (-64), 3) := by decide +kernel
theorem dX8_whence_115 : decode cX8_whence 115 = .ok (.iconst (-1), 1) := by decide +kernel
theorem dX8_whence_116 : decode cX8_whence 116 = .ok (.ireturn, 1) := by decide +kernel
set_option maxRecDepth 20000 in
theorem ggX8_strayed_X0_hasLine : GoodIn wsX8_strayed wsX0_hasLine := goodIn_r _ [11, 12, 41, 42, 43, 44, 45, 46, 47, 48, 49, 50] (by decide +kernel) (by decide +kernel)
set_option maxRecDepth 20000 in
theorem gX8_strayed_X0_hasLine : GoodIn wsX8_strayed (wsV RX8 181 RX0 yX0_hasLine wsX0_hasLine) := goodIn_app (goodIn_of _ (by decide +kernel)) ggX8_strayed_X0_hasLine
set_option maxRecDepth 20000 in
theorem ggX8_strayed_X8_has : GoodIn wsX8_strayed wsX8_has := goodIn_r _ [16] (by decide +kernel) (by decide +kernel)
set_option maxRecDepth 20000 in
theorem gX8_strayed_X8_has : GoodIn wsX8_strayed (va_wsS RX8 202 yX8_has wsX8_has) := goodIn_app (goodIn_of _ (by decide +kernel)) ggX8_strayed_X8_has
theorem dX8_strayed_0 : decode cX8_strayed 0 = .ok (.aload_n 0, 1) := by decide +kernel
theorem dX8_strayed_1 : decode cX8_strayed 1 = .ok (.getfield 48, 3) := by decide +kernel
theorem dX8_strayed_4 : decode cX8_strayed 4 = .ok (.iload_n 1, 1) := by decide +kernel
theorem dX8_strayed_5 : decode cX8_strayed 5 = .ok (.invokevirtual 181, 3) := by decide +kernel
theorem dX8_strayed_8 : decode cX8_strayed 8 = .ok (.ifCond .ne 7, 3) := by decide +kernel
theorem dX8_strayed_11 : decode cX8_strayed 11 = .ok (.sipush (-1001), 3) := by decide +kernel
theorem dX8_strayed_14 : decode cX8_strayed 14 = .ok (.ireturn, 1) := by decide +kernel
theorem dX8_strayed_15 : decode cX8_strayed 15 = .ok (.iconst 0, 1) := by decide +kernel
theorem dX8_strayed_16 : decode cX8_strayed 16 = .ok (.istore_n 2, 1) := by decide +kernel
theorem dX8_strayed_17 : decode cX8_strayed 17 = .ok (.iconst 0, 1) := by decide +kernel
theorem dX8_strayed_18 : decode cX8_strayed 18 = .ok (.istore_n 3, 1) := by decide +kernel
theorem dX8_strayed_19 : decode cX8_strayed 19 = .ok (.iload_n 3, 1) := by decide +kernel
theorem dX8_strayed_20 : decode cX8_strayed 20 = .ok (.aload_n 0, 1) := by decide +kernel
theorem dX8_strayed_21 : decode cX8_strayed 21 = .ok (.getfield 28, 3) := by decide +kernel
theorem dX8_strayed_24 : decode cX8_strayed 24 = .ok (.getfield 122, 3) := by decide +kernel
theorem dX8_strayed_27 : decode cX8_strayed 27 = .ok (.if_icmp .ge 29, 3) := by decide +kernel
theorem dX8_strayed_30 : decode cX8_strayed 30 = .ok (.aload_n 0, 1) := by decide +kernel
theorem dX8_strayed_31 : decode cX8_strayed 31 = .ok (.getfield 48, 3) := by decide +kernel
theorem dX8_strayed_34 : decode cX8_strayed 34 = .ok (.getfield 187, 3) := by decide +kernel
theorem dX8_strayed_37 : decode cX8_strayed 37 = .ok (.iload_n 1, 1) := by decide +kernel
theorem dX8_strayed_38 : decode cX8_strayed 38 = .ok (.iaload, 1) := by decide +kernel
theorem dX8_strayed_39 : decode cX8_strayed 39 = .ok (.iload_n 3, 1) := by decide +kernel
theorem dX8_strayed_40 : decode cX8_strayed 40 = .ok (.invokestatic 202, 3) := by decide +kernel
theorem dX8_strayed_43 : decode cX8_strayed 43 = .ok (.ifCond .eq 7, 3) := by decide +kernel
theorem dX8_strayed_46 : decode cX8_strayed 46 = .ok (.iload_n 3, 1) := by decide +kernel
theorem dX8_strayed_47 : decode cX8_strayed 47 = .ok (.iconst 1, 1) := by decide +kernel
theorem dX8_strayed_48 : decode cX8_strayed 48 = .ok (.iadd, 1) := by decide +kernel
theorem dX8_strayed_49 : decode cX8_strayed 49 = .ok (.istore_n 2, 1) := by decide +kernel
theorem dX8_strayed_50 : decode cX8_strayed 50 = .ok (.iinc 3 1, 3) := by decide +kernel
theorem dX8_strayed_53 : decode cX8_strayed 53 = .ok (.goto (-34), 3) := by decide +kernel
theorem dX8_strayed_56 : decode cX8_strayed 56 = .ok (.iconst 0, 1) := by decide +kernel
theorem dX8_strayed_57 : decode cX8_strayed 57 = .ok (.istore_n 3, 1) := by decide +kernel
theorem dX8_strayed_58 : decode cX8_strayed 58 = .ok (.iconst 0, 1) := by decide +kernel
theorem dX8_strayed_59 : decode cX8_strayed 59 = .ok (.istore 4, 2) := by decide +kernel
theorem dX8_strayed_61 : decode cX8_strayed 61 = .ok (.iload 4, 2) := by decide +kernel
theorem dX8_strayed_63 : decode cX8_strayed 63 = .ok (.bipush 16, 2) := by decide +kernel
theorem dX8_strayed_65 : decode cX8_strayed 65 = .ok (.if_icmp .ge 49, 3) := by decide +kernel
theorem dX8_strayed_68 : decode cX8_strayed 68 = .ok (.aload_n 0, 1) := by decide +kernel
theorem dX8_strayed_69 : decode cX8_strayed 69 = .ok (.getfield 48, 3) := by decide +kernel
theorem dX8_strayed_72 : decode cX8_strayed 72 = .ok (.getfield 199, 3) := by decide +kernel
theorem dX8_strayed_75 : decode cX8_strayed 75 = .ok (.iload_n 1, 1) := by decide +kernel
theorem dX8_strayed_76 : decode cX8_strayed 76 = .ok (.bipush 16, 2) := by decide +kernel
theorem dX8_strayed_78 : decode cX8_strayed 78 = .ok (.imul, 1) := by decide +kernel
theorem dX8_strayed_79 : decode cX8_strayed 79 = .ok (.iload 4, 2) := by decide +kernel
theorem dX8_strayed_81 : decode cX8_strayed 81 = .ok (.iadd, 1) := by decide +kernel
theorem dX8_strayed_82 : decode cX8_strayed 82 = .ok (.iaload, 1) := by decide +kernel
theorem dX8_strayed_83 : decode cX8_strayed 83 = .ok (.aload_n 0, 1) := by decide +kernel
theorem dX8_strayed_84 : decode cX8_strayed 84 = .ok (.getfield 28, 3) := by decide +kernel
theorem dX8_strayed_87 : decode cX8_strayed 87 = .ok (.getfield 159, 3) := by decide +kernel
theorem dX8_strayed_90 : decode cX8_strayed 90 = .ok (.iload_n 2, 1) := by decide +kernel
theorem dX8_strayed_91 : decode cX8_strayed 91 = .ok (.bipush 16, 2) := by decide +kernel
theorem dX8_strayed_93 : decode cX8_strayed 93 = .ok (.imul, 1) := by decide +kernel
theorem dX8_strayed_94 : decode cX8_strayed 94 = .ok (.iload 4, 2) := by decide +kernel
theorem dX8_strayed_96 : decode cX8_strayed 96 = .ok (.iadd, 1) := by decide +kernel
theorem dX8_strayed_97 : decode cX8_strayed 97 = .ok (.iaload, 1) := by decide +kernel
theorem dX8_strayed_98 : decode cX8_strayed 98 = .ok (.if_icmp .eq 10, 3) := by decide +kernel
theorem dX8_strayed_101 : decode cX8_strayed 101 = .ok (.iload_n 3, 1) := by decide +kernel
theorem dX8_strayed_102 : decode cX8_strayed 102 = .ok (.iconst 1, 1) := by decide +kernel
theorem dX8_strayed_103 : decode cX8_strayed 103 = .ok (.iload 4, 2) := by decide +kernel
theorem dX8_strayed_105 : decode cX8_strayed 105 = .ok (.ishl, 1) := by decide +kernel
theorem dX8_strayed_106 : decode cX8_strayed 106 = .ok (.ior, 1) := by decide +kernel
theorem dX8_strayed_107 : decode cX8_strayed 107 = .ok (.istore_n 3, 1) := by decide +kernel
theorem dX8_strayed_108 : decode cX8_strayed 108 = .ok (.iinc 4 1, 3) := by decide +kernel
theorem dX8_strayed_111 : decode cX8_strayed 111 = .ok (.goto (-50), 3) := by decide +kernel
theorem dX8_strayed_114 : decode cX8_strayed 114 = .ok (.iload_n 3, 1) := by decide +kernel
theorem dX8_strayed_115 : decode cX8_strayed 115 = .ok (.ireturn, 1) := by decide +kernel
set_option maxRecDepth 20000 in
theorem ggX8_bestCut_X8_firstOnes : GoodIn wsX8_bestCut wsX8_firstOnes := goodIn_r _ [6] (by decide +kernel) (by decide +kernel)
set_option maxRecDepth 20000 in
theorem gX8_bestCut_X8_firstOnes : GoodIn wsX8_bestCut (va_wsS RX8 244 yX8_firstOnes wsX8_firstOnes) := goodIn_app (goodIn_of _ (by decide +kernel)) ggX8_bestCut_X8_firstOnes
set_option maxRecDepth 20000 in
theorem ggX8_bestCut_X7_weightIn : GoodIn wsX8_bestCut wsX7_weightIn := goodIn_r _ [11, 12, 13, 14, 10, 15, 16, 17, 18, 5, 19, 20, 21, 22, 23, 24, 25, 26, 27, 28, 29, 44, 45, 46, 47, 48, 49, 50, 51, 52, 53] (by decide +kernel) (by decide +kernel)
set_option maxRecDepth 20000 in
theorem gX8_bestCut_X7_weightIn : GoodIn wsX8_bestCut (wsV RX8 264 RX7 yX7_weightIn wsX7_weightIn) := goodIn_app (goodIn_of _ (by decide +kernel)) ggX8_bestCut_X7_weightIn
theorem dX8_bestCut_0 : decode cX8_bestCut 0 = .ok (.iload_n 1, 1) := by decide +kernel
theorem dX8_bestCut_1 : decode cX8_bestCut 1 = .ok (.ifCond .lt 30, 3) := by decide +kernel
theorem dX8_bestCut_4 : decode cX8_bestCut 4 = .ok (.iload_n 1, 1) := by decide +kernel
theorem dX8_bestCut_5 : decode cX8_bestCut 5 = .ok (.aload_n 0, 1) := by decide +kernel
theorem dX8_bestCut_6 : decode cX8_bestCut 6 = .ok (.getfield 28, 3) := by decide +kernel
theorem dX8_bestCut_9 : decode cX8_bestCut 9 = .ok (.getfield 122, 3) := by decide +kernel
theorem dX8_bestCut_12 : decode cX8_bestCut 12 = .ok (.if_icmp .gt 19, 3) := by decide +kernel
theorem dX8_bestCut_15 : decode cX8_bestCut 15 = .ok (.iload_n 2, 1) := by decide +kernel
theorem dX8_bestCut_16 : decode cX8_bestCut 16 = .ok (.iload_n 1, 1) := by decide +kernel
theorem dX8_bestCut_17 : decode cX8_bestCut 17 = .ok (.if_icmp .lt 14, 3) := by decide +kernel
theorem dX8_bestCut_20 : decode cX8_bestCut 20 = .ok (.iload_n 2, 1) := by decide +kernel
theorem dX8_bestCut_21 : decode cX8_bestCut 21 = .ok (.aload_n 0, 1) := by decide +kernel
theorem dX8_bestCut_22 : decode cX8_bestCut 22 = .ok (.getfield 28, 3) := by decide +kernel
theorem dX8_bestCut_25 : decode cX8_bestCut 25 = .ok (.getfield 122, 3) := by decide +kernel
theorem dX8_bestCut_28 : decode cX8_bestCut 28 = .ok (.if_icmp .le 7, 3) := by decide +kernel
theorem dX8_bestCut_31 : decode cX8_bestCut 31 = .ok (.sipush (-1002), 3) := by decide +kernel
theorem dX8_bestCut_34 : decode cX8_bestCut 34 = .ok (.ireturn, 1) := by decide +kernel
theorem dX8_bestCut_35 : decode cX8_bestCut 35 = .ok (.iload_n 3, 1) := by decide +kernel
theorem dX8_bestCut_36 : decode cX8_bestCut 36 = .ok (.ifCond .lt 8, 3) := by decide +kernel
theorem dX8_bestCut_39 : decode cX8_bestCut 39 = .ok (.iload_n 3, 1) := by decide +kernel
theorem dX8_bestCut_40 : decode cX8_bestCut 40 = .ok (.iconst 1, 1) := by decide +kernel
theorem dX8_bestCut_41 : decode cX8_bestCut 41 = .ok (.if_icmp .le 7, 3) := by decide +kernel
theorem dX8_bestCut_44 : decode cX8_bestCut 44 = .ok (.sipush (-1002), 3) := by decide +kernel
theorem dX8_bestCut_47 : decode cX8_bestCut 47 = .ok (.ireturn, 1) := by decide +kernel
theorem dX8_bestCut_48 : decode cX8_bestCut 48 = .ok (.iload_n 1, 1) := by decide +kernel
theorem dX8_bestCut_49 : decode cX8_bestCut 49 = .ok (.istore 4, 2) := by decide +kernel
theorem dX8_bestCut_51 : decode cX8_bestCut 51 = .ok (.aload_n 0, 1) := by decide +kernel
theorem dX8_bestCut_52 : decode cX8_bestCut 52 = .ok (.getfield 28, 3) := by decide +kernel
theorem dX8_bestCut_55 : decode cX8_bestCut 55 = .ok (.iload_n 1, 1) := by decide +kernel
theorem dX8_bestCut_56 : decode cX8_bestCut 56 = .ok (.invokestatic 244, 3) := by decide +kernel
theorem dX8_bestCut_59 : decode cX8_bestCut 59 = .ok (.invokevirtual 264, 3) := by decide +kernel
theorem dX8_bestCut_62 : decode cX8_bestCut 62 = .ok (.istore 5, 2) := by decide +kernel
theorem dX8_bestCut_64 : decode cX8_bestCut 64 = .ok (.iload_n 1, 1) := by decide +kernel
theorem dX8_bestCut_65 : decode cX8_bestCut 65 = .ok (.iconst 1, 1) := by decide +kernel
theorem dX8_bestCut_66 : decode cX8_bestCut 66 = .ok (.iadd, 1) := by decide +kernel
theorem dX8_bestCut_67 : decode cX8_bestCut 67 = .ok (.istore 6, 2) := by decide +kernel
theorem dX8_bestCut_69 : decode cX8_bestCut 69 = .ok (.iload 6, 2) := by decide +kernel
theorem dX8_bestCut_71 : decode cX8_bestCut 71 = .ok (.iload_n 2, 1) := by decide +kernel
theorem dX8_bestCut_72 : decode cX8_bestCut 72 = .ok (.if_icmp .gt 38, 3) := by decide +kernel
theorem dX8_bestCut_75 : decode cX8_bestCut 75 = .ok (.aload_n 0, 1) := by decide +kernel
theorem dX8_bestCut_76 : decode cX8_bestCut 76 = .ok (.getfield 28, 3) := by decide +kernel
theorem dX8_bestCut_79 : decode cX8_bestCut 79 = .ok (.iload 6, 2) := by decide +kernel
theorem dX8_bestCut_81 : decode cX8_bestCut 81 = .ok (.invokestatic 244, 3) := by decide +kernel
theorem dX8_bestCut_84 : decode cX8_bestCut 84 = .ok (.invokevirtual 264, 3) := by decide +kernel
theorem dX8_bestCut_87 : decode cX8_bestCut 87 = .ok (.istore 7, 2) := by decide +kernel
theorem dX8_bestCut_89 : decode cX8_bestCut 89 = .ok (.iload 7, 2) := by decide +kernel
theorem dX8_bestCut_91 : decode cX8_bestCut 91 = .ok (.iload 5, 2) := by decide +kernel
theorem dX8_bestCut_93 : decode cX8_bestCut 93 = .ok (.if_icmp .gt 11, 3) := by decide +kernel
theorem dX8_bestCut_96 : decode cX8_bestCut 96 = .ok (.iload 6, 2) := by decide +kernel
theorem dX8_bestCut_98 : decode cX8_bestCut 98 = .ok (.istore 4, 2) := by decide +kernel
theorem dX8_bestCut_100 : decode cX8_bestCut 100 = .ok (.iload 7, 2) := by decide +kernel
theorem dX8_bestCut_102 : decode cX8_bestCut 102 = .ok (.istore 5, 2) := by decide +kernel
theorem dX8_bestCut_104 : decode cX8_bestCut 104 = .ok (.iinc 6 1, 3) := by decide +kernel
theorem dX8_bestCut_107 : decode cX8_bestCut 107 = .ok (.goto (-38), 3) := by decide +kernel
theorem dX8_bestCut_110 : decode cX8_bestCut 110 = .ok (.iload_n 3, 1) := by decide +kernel
theorem dX8_bestCut_111 : decode cX8_bestCut 111 = .ok (.ifCond .ne 8, 3) := by decide +kernel
theorem dX8_bestCut_114 : decode cX8_bestCut 114 = .ok (.iload 4, 2) := by decide +kernel
theorem dX8_bestCut_116 : decode cX8_bestCut 116 = .ok (.goto 5, 3) := by decide +kernel
theorem dX8_bestCut_119 : decode cX8_bestCut 119 = .ok (.iload 5, 2) := by decide +kernel
theorem dX8_bestCut_121 : decode cX8_bestCut 121 = .ok (.ireturn, 1) := by decide +kernel
set_option maxRecDepth 20000 in
theorem ggX8_up_X0_hasRelease : GoodIn wsX8_up wsX0_hasRelease := goodIn_r _ [9, 10, 59, 60, 61, 62, 63, 64, 65, 66, 67, 68] (by decide +kernel) (by decide +kernel)
set_option maxRecDepth 20000 in
theorem gX8_up_X0_hasRelease : GoodIn wsX8_up (wsV RX8 277 RX0 yX0_hasRelease wsX0_hasRelease) := goodIn_app (goodIn_of _ (by decide +kernel)) ggX8_up_X0_hasRelease
set_option maxRecDepth 20000 in
theorem ggX8_up_X7_hasFault : GoodIn wsX8_up wsX7_hasFault := goodIn_r _ [15, 16, 69, 70, 71, 72, 73, 74, 75, 76, 77, 78] (by decide +kernel) (by decide +kernel)
set_option maxRecDepth 20000 in
theorem gX8_up_X7_hasFault : GoodIn wsX8_up (wsV RX8 162 RX7 yX7_hasFault wsX7_hasFault) := goodIn_app (goodIn_of _ (by decide +kernel)) ggX8_up_X7_hasFault
set_option maxRecDepth 20000 in
theorem ggX8_up_X8_isFree : GoodIn wsX8_up wsX8_isFree := goodIn_r _ [21, 2, 1, 4, 22, 23, 24, 14, 25, 16, 26, 27, 20, 28, 29, 30, 31, 32, 33, 34, 45, 46, 47, 48, 49, 50, 51, 52, 53, 54, 55, 56, 57, 58, 59, 60, 61, 62, 63, 64, 65, 66, 67, 68, 69, 70, 71, 72, 73, 74, 75, 76, 77, 78] (by decide +kernel) (by decide +kernel)
set_option maxRecDepth 20000 in
theorem gX8_up_X8_isFree : GoodIn wsX8_up (wsV RX8 292 RX8 yX8_isFree wsX8_isFree) := goodIn_app (goodIn_of _ (by decide +kernel)) ggX8_up_X8_isFree
set_option maxRecDepth 20000 in
theorem ggX8_up_X8_leadsUp : GoodIn wsX8_up wsX8_leadsUp := goodIn_r _ [38, 2, 1, 4, 22, 23, 24, 14, 25, 16, 26, 27, 20, 28, 29, 30, 31, 32, 33, 34, 45, 46, 47, 48, 49, 50, 51, 52, 53, 54, 55, 56, 57, 58, 59, 60, 61, 62, 63, 64, 65, 66, 67, 68, 69, 70, 71, 72, 73, 74, 75, 76, 77, 78] (by decide +kernel) (by decide +kernel)
set_option maxRecDepth 20000 in
theorem gX8_up_X8_leadsUp : GoodIn wsX8_up (wsV RX8 324 RX8 yX8_leadsUp wsX8_leadsUp) := goodIn_app (goodIn_of _ (by decide +kernel)) ggX8_up_X8_leadsUp
set_option maxRecDepth 20000 in
theorem ggX8_up_X7_riskOf : GoodIn wsX8_up wsX7_riskOf := goodIn_r _ [42, 43, 44, 27, 20, 28, 69, 70, 71, 72, 73, 74, 75, 76, 77, 78] (by decide +kernel) (by decide +kernel)
set_option maxRecDepth 20000 in
theorem gX8_up_X7_riskOf : GoodIn wsX8_up (wsV RX8 193 RX7 yX7_riskOf wsX7_riskOf) := goodIn_app (goodIn_of _ (by decide +kernel)) ggX8_up_X7_riskOf
theorem dX8_up_0 : decode cX8_up 0 = .ok (.aload_n 0, 1) := by decide +kernel
theorem dX8_up_1 : decode cX8_up 1 = .ok (.getfield 48, 3) := by decide +kernel
theorem dX8_up_4 : decode cX8_up 4 = .ok (.iload_n 1, 1) := by decide +kernel
theorem dX8_up_5 : decode cX8_up 5 = .ok (.invokevirtual 277, 3) := by decide +kernel
theorem dX8_up_8 : decode cX8_up 8 = .ok (.ifCond .eq 14, 3) := by decide +kernel
theorem dX8_up_11 : decode cX8_up 11 = .ok (.aload_n 0, 1) := by decide +kernel
theorem dX8_up_12 : decode cX8_up 12 = .ok (.getfield 28, 3) := by decide +kernel
theorem dX8_up_15 : decode cX8_up 15 = .ok (.iload_n 2, 1) := by decide +kernel
theorem dX8_up_16 : decode cX8_up 16 = .ok (.invokevirtual 162, 3) := by decide +kernel
theorem dX8_up_19 : decode cX8_up 19 = .ok (.ifCond .ne 7, 3) := by decide +kernel
theorem dX8_up_22 : decode cX8_up 22 = .ok (.sipush (-1001), 3) := by decide +kernel
theorem dX8_up_25 : decode cX8_up 25 = .ok (.ireturn, 1) := by decide +kernel
theorem dX8_up_26 : decode cX8_up 26 = .ok (.iload_n 3, 1) := by decide +kernel
theorem dX8_up_27 : decode cX8_up 27 = .ok (.ifCond .lt 8, 3) := by decide +kernel
theorem dX8_up_30 : decode cX8_up 30 = .ok (.iload_n 3, 1) := by decide +kernel
theorem dX8_up_31 : decode cX8_up 31 = .ok (.iconst 1, 1) := by decide +kernel
theorem dX8_up_32 : decode cX8_up 32 = .ok (.if_icmp .le 7, 3) := by decide +kernel
theorem dX8_up_35 : decode cX8_up 35 = .ok (.sipush (-1002), 3) := by decide +kernel
theorem dX8_up_38 : decode cX8_up 38 = .ok (.ireturn, 1) := by decide +kernel
theorem dX8_up_39 : decode cX8_up 39 = .ok (.aload_n 0, 1) := by decide +kernel
theorem dX8_up_40 : decode cX8_up 40 = .ok (.iload_n 1, 1) := by decide +kernel
theorem dX8_up_41 : decode cX8_up 41 = .ok (.iload_n 2, 1) := by decide +kernel
theorem dX8_up_42 : decode cX8_up 42 = .ok (.invokevirtual 292, 3) := by decide +kernel
theorem dX8_up_45 : decode cX8_up 45 = .ok (.ifCond .eq 7, 3) := by decide +kernel
theorem dX8_up_48 : decode cX8_up 48 = .ok (.sipush (-1003), 3) := by decide +kernel
theorem dX8_up_51 : decode cX8_up 51 = .ok (.ireturn, 1) := by decide +kernel
theorem dX8_up_52 : decode cX8_up 52 = .ok (.iconst (-1), 1) := by decide +kernel
theorem dX8_up_53 : decode cX8_up 53 = .ok (.istore 4, 2) := by decide +kernel
theorem dX8_up_55 : decode cX8_up 55 = .ok (.iconst (-1), 1) := by decide +kernel
theorem dX8_up_56 : decode cX8_up 56 = .ok (.istore 5, 2) := by decide +kernel
theorem dX8_up_58 : decode cX8_up 58 = .ok (.iload_n 1, 1) := by decide +kernel
theorem dX8_up_59 : decode cX8_up 59 = .ok (.iconst 1, 1) := by decide +kernel
theorem dX8_up_60 : decode cX8_up 60 = .ok (.iadd, 1) := by decide +kernel
theorem dX8_up_61 : decode cX8_up 61 = .ok (.istore 6, 2) := by decide +kernel
theorem dX8_up_63 : decode cX8_up 63 = .ok (.iload 6, 2) := by decide +kernel
theorem dX8_up_65 : decode cX8_up 65 = .ok (.aload_n 0, 1) := by decide +kernel
theorem dX8_up_66 : decode cX8_up 66 = .ok (.getfield 48, 3) := by decide +kernel
theorem dX8_up_69 : decode cX8_up 69 = .ok (.getfield 119, 3) := by decide +kernel
theorem dX8_up_72 : decode cX8_up 72 = .ok (.if_icmp .ge 70, 3) := by decide +kernel
theorem dX8_up_75 : decode cX8_up 75 = .ok (.aload_n 0, 1) := by decide +kernel
theorem dX8_up_76 : decode cX8_up 76 = .ok (.iload_n 1, 1) := by decide +kernel
theorem dX8_up_77 : decode cX8_up 77 = .ok (.iload 6, 2) := by decide +kernel
theorem dX8_up_79 : decode cX8_up 79 = .ok (.iload_n 2, 1) := by decide +kernel
theorem dX8_up_80 : decode cX8_up 80 = .ok (.invokevirtual 324, 3) := by decide +kernel
theorem dX8_up_83 : decode cX8_up 83 = .ok (.ifCond .eq 53, 3) := by decide +kernel
theorem dX8_up_86 : decode cX8_up 86 = .ok (.aload_n 0, 1) := by decide +kernel
theorem dX8_up_87 : decode cX8_up 87 = .ok (.getfield 28, 3) := by decide +kernel
theorem dX8_up_90 : decode cX8_up 90 = .ok (.aload_n 0, 1) := by decide +kernel
theorem dX8_up_91 : decode cX8_up 91 = .ok (.getfield 48, 3) := by decide +kernel
theorem dX8_up_94 : decode cX8_up 94 = .ok (.getfield 286, 3) := by decide +kernel
theorem dX8_up_97 : decode cX8_up 97 = .ok (.iload_n 1, 1) := by decide +kernel
theorem dX8_up_98 : decode cX8_up 98 = .ok (.iaload, 1) := by decide +kernel
theorem dX8_up_99 : decode cX8_up 99 = .ok (.aload_n 0, 1) := by decide +kernel
theorem dX8_up_100 : decode cX8_up 100 = .ok (.getfield 48, 3) := by decide +kernel
theorem dX8_up_103 : decode cX8_up 103 = .ok (.getfield 286, 3) := by decide +kernel
theorem dX8_up_106 : decode cX8_up 106 = .ok (.iload 6, 2) := by decide +kernel
theorem dX8_up_108 : decode cX8_up 108 = .ok (.iaload, 1) := by decide +kernel
theorem dX8_up_109 : decode cX8_up 109 = .ok (.ixor, 1) := by decide +kernel
theorem dX8_up_110 : decode cX8_up 110 = .ok (.invokevirtual 193, 3) := by decide +kernel
theorem dX8_up_113 : decode cX8_up 113 = .ok (.istore 7, 2) := by decide +kernel
theorem dX8_up_115 : decode cX8_up 115 = .ok (.iload 4, 2) := by decide +kernel
theorem dX8_up_117 : decode cX8_up 117 = .ok (.iconst (-1), 1) := by decide +kernel
theorem dX8_up_118 : decode cX8_up 118 = .ok (.if_icmp .eq 10, 3) := by decide +kernel
theorem dX8_up_121 : decode cX8_up 121 = .ok (.iload 7, 2) := by decide +kernel
theorem dX8_up_123 : decode cX8_up 123 = .ok (.iload 5, 2) := by decide +kernel
theorem dX8_up_125 : decode cX8_up 125 = .ok (.if_icmp .ge 11, 3) := by decide +kernel
theorem dX8_up_128 : decode cX8_up 128 = .ok (.iload 6, 2) := by decide +kernel
theorem dX8_up_130 : decode cX8_up 130 = .ok (.istore 4, 2) := by decide +kernel
theorem dX8_up_132 : decode cX8_up 132 = .ok (.iload 7, 2) := by decide +kernel
theorem dX8_up_134 : decode cX8_up 134 = .ok (.istore 5, 2) := by decide +kernel
theorem dX8_up_136 : decode cX8_up 136 = .ok (.iinc 6 1, 3) := by decide +kernel
theorem dX8_up_139 : decode cX8_up 139 = .ok (.goto (-76), 3) := by decide +kernel
theorem dX8_up_142 : decode cX8_up 142 = .ok (.iload_n 3, 1) := by decide +kernel
theorem dX8_up_143 : decode cX8_up 143 = .ok (.ifCond .ne 8, 3) := by decide +kernel
theorem dX8_up_146 : decode cX8_up 146 = .ok (.iload 4, 2) := by decide +kernel
theorem dX8_up_148 : decode cX8_up 148 = .ok (.goto 5, 3) := by decide +kernel
theorem dX8_up_151 : decode cX8_up 151 = .ok (.iload 5, 2) := by decide +kernel
theorem dX8_up_153 : decode cX8_up 153 = .ok (.ireturn, 1) := by decide +kernel
set_option maxRecDepth 20000 in
theorem ggX8_spans_X7_hasFault : GoodIn wsX8_spans wsX7_hasFault := goodIn_r _ [9, 10, 60, 61, 62, 63, 64, 65, 66, 67, 68, 69] (by decide +kernel) (by decide +kernel)
set_option maxRecDepth 20000 in
theorem gX8_spans_X7_hasFault : GoodIn wsX8_spans (wsV RX8 162 RX7 yX7_hasFault wsX7_hasFault) := goodIn_app (goodIn_of _ (by decide +kernel)) ggX8_spans_X7_hasFault
set_option maxRecDepth 20000 in
theorem ggX8_spans_X0_hasLine : GoodIn wsX8_spans wsX0_hasLine := goodIn_r _ [15, 16, 50, 51, 52, 53, 54, 55, 56, 57, 58, 59] (by decide +kernel) (by decide +kernel)
set_option maxRecDepth 20000 in
theorem gX8_spans_X0_hasLine : GoodIn wsX8_spans (wsV RX8 181 RX0 yX0_hasLine wsX0_hasLine) := goodIn_app (goodIn_of _ (by decide +kernel)) ggX8_spans_X0_hasLine
set_option maxRecDepth 20000 in
theorem ggX8_spans_X8_isFree : GoodIn wsX8_spans wsX8_isFree := goodIn_r _ [21, 1, 2, 22, 23, 24, 25, 8, 26, 10, 27, 28, 20, 29, 30, 31, 32, 33, 34, 35, 36, 37, 38, 39, 40, 41, 42, 43, 44, 45, 46, 47, 48, 49, 50, 51, 52, 53, 54, 55, 56, 57, 58, 59, 60, 61, 62, 63, 64, 65, 66, 67, 68, 69] (by decide +kernel) (by decide +kernel)
set_option maxRecDepth 20000 in
theorem gX8_spans_X8_isFree : GoodIn wsX8_spans (wsV RX8 292 RX8 yX8_isFree wsX8_isFree) := goodIn_app (goodIn_of _ (by decide +kernel)) ggX8_spans_X8_isFree
theorem dX8_spans_0 : decode cX8_spans 0 = .ok (.aload_n 0, 1) := by decide +kernel
theorem dX8_spans_1 : decode cX8_spans 1 = .ok (.getfield 28, 3) := by decide +kernel
theorem dX8_spans_4 : decode cX8_spans 4 = .ok (.iload_n 1, 1) := by decide +kernel
theorem dX8_spans_5 : decode cX8_spans 5 = .ok (.invokevirtual 162, 3) := by decide +kernel
theorem dX8_spans_8 : decode cX8_spans 8 = .ok (.ifCond .eq 14, 3) := by decide +kernel
theorem dX8_spans_11 : decode cX8_spans 11 = .ok (.aload_n 0, 1) := by decide +kernel
theorem dX8_spans_12 : decode cX8_spans 12 = .ok (.getfield 48, 3) := by decide +kernel
theorem dX8_spans_15 : decode cX8_spans 15 = .ok (.iload_n 2, 1) := by decide +kernel
theorem dX8_spans_16 : decode cX8_spans 16 = .ok (.invokevirtual 181, 3) := by decide +kernel
theorem dX8_spans_19 : decode cX8_spans 19 = .ok (.ifCond .ne 7, 3) := by decide +kernel
theorem dX8_spans_22 : decode cX8_spans 22 = .ok (.sipush (-1001), 3) := by decide +kernel
theorem dX8_spans_25 : decode cX8_spans 25 = .ok (.ireturn, 1) := by decide +kernel
theorem dX8_spans_26 : decode cX8_spans 26 = .ok (.iload 4, 2) := by decide +kernel
theorem dX8_spans_28 : decode cX8_spans 28 = .ok (.ifCond .lt 9, 3) := by decide +kernel
theorem dX8_spans_31 : decode cX8_spans 31 = .ok (.iload 4, 2) := by decide +kernel
theorem dX8_spans_33 : decode cX8_spans 33 = .ok (.iconst 1, 1) := by decide +kernel
theorem dX8_spans_34 : decode cX8_spans 34 = .ok (.if_icmp .le 7, 3) := by decide +kernel
theorem dX8_spans_37 : decode cX8_spans 37 = .ok (.sipush (-1002), 3) := by decide +kernel
theorem dX8_spans_40 : decode cX8_spans 40 = .ok (.ireturn, 1) := by decide +kernel
theorem dX8_spans_41 : decode cX8_spans 41 = .ok (.iconst 0, 1) := by decide +kernel
theorem dX8_spans_42 : decode cX8_spans 42 = .ok (.istore 5, 2) := by decide +kernel
theorem dX8_spans_44 : decode cX8_spans 44 = .ok (.iconst 0, 1) := by decide +kernel
theorem dX8_spans_45 : decode cX8_spans 45 = .ok (.istore 6, 2) := by decide +kernel
theorem dX8_spans_47 : decode cX8_spans 47 = .ok (.iconst (-1), 1) := by decide +kernel
theorem dX8_spans_48 : decode cX8_spans 48 = .ok (.istore 7, 2) := by decide +kernel
theorem dX8_spans_50 : decode cX8_spans 50 = .ok (.iconst 0, 1) := by decide +kernel
theorem dX8_spans_51 : decode cX8_spans 51 = .ok (.istore 8, 2) := by decide +kernel
theorem dX8_spans_53 : decode cX8_spans 53 = .ok (.iload 8, 2) := by decide +kernel
theorem dX8_spans_55 : decode cX8_spans 55 = .ok (.aload_n 0, 1) := by decide +kernel
theorem dX8_spans_56 : decode cX8_spans 56 = .ok (.getfield 48, 3) := by decide +kernel
theorem dX8_spans_59 : decode cX8_spans 59 = .ok (.getfield 119, 3) := by decide +kernel
theorem dX8_spans_62 : decode cX8_spans 62 = .ok (.if_icmp .ge 101, 3) := by decide +kernel
theorem dX8_spans_65 : decode cX8_spans 65 = .ok (.aload_n 0, 1) := by decide +kernel
theorem dX8_spans_66 : decode cX8_spans 66 = .ok (.getfield 48, 3) := by decide +kernel
theorem dX8_spans_69 : decode cX8_spans 69 = .ok (.getfield 280, 3) := by decide +kernel
theorem dX8_spans_72 : decode cX8_spans 72 = .ok (.iload 8, 2) := by decide +kernel
theorem dX8_spans_74 : decode cX8_spans 74 = .ok (.iaload, 1) := by decide +kernel
theorem dX8_spans_75 : decode cX8_spans 75 = .ok (.iload_n 2, 1) := by decide +kernel
theorem dX8_spans_76 : decode cX8_spans 76 = .ok (.if_icmp .eq 6, 3) := by decide +kernel
theorem dX8_spans_79 : decode cX8_spans 79 = .ok (.goto 78, 3) := by decide +kernel
theorem dX8_spans_82 : decode cX8_spans 82 = .ok (.iload 6, 2) := by decide +kernel
theorem dX8_spans_84 : decode cX8_spans 84 = .ok (.ifCond .ne 17, 3) := by decide +kernel
theorem dX8_spans_87 : decode cX8_spans 87 = .ok (.aload_n 0, 1) := by decide +kernel
theorem dX8_spans_88 : decode cX8_spans 88 = .ok (.iload 8, 2) := by decide +kernel
theorem dX8_spans_90 : decode cX8_spans 90 = .ok (.iload_n 1, 1) := by decide +kernel
theorem dX8_spans_91 : decode cX8_spans 91 = .ok (.invokevirtual 292, 3) := by decide +kernel
theorem dX8_spans_94 : decode cX8_spans 94 = .ok (.ifCond .ne 7, 3) := by decide +kernel
theorem dX8_spans_97 : decode cX8_spans 97 = .ok (.iconst 1, 1) := by decide +kernel
theorem dX8_spans_98 : decode cX8_spans 98 = .ok (.goto 4, 3) := by decide +kernel
theorem dX8_spans_101 : decode cX8_spans 101 = .ok (.iconst 0, 1) := by decide +kernel
theorem dX8_spans_102 : decode cX8_spans 102 = .ok (.istore 9, 2) := by decide +kernel
theorem dX8_spans_104 : decode cX8_spans 104 = .ok (.aload_n 0, 1) := by decide +kernel
theorem dX8_spans_105 : decode cX8_spans 105 = .ok (.iload 8, 2) := by decide +kernel
theorem dX8_spans_107 : decode cX8_spans 107 = .ok (.iload_n 1, 1) := by decide +kernel
theorem dX8_spans_108 : decode cX8_spans 108 = .ok (.invokevirtual 292, 3) := by decide +kernel
theorem dX8_spans_111 : decode cX8_spans 111 = .ok (.ifCond .ne 7, 3) := by decide +kernel
theorem dX8_spans_114 : decode cX8_spans 114 = .ok (.iconst 1, 1) := by decide +kernel
theorem dX8_spans_115 : decode cX8_spans 115 = .ok (.goto 4, 3) := by decide +kernel
theorem dX8_spans_118 : decode cX8_spans 118 = .ok (.iconst 0, 1) := by decide +kernel
theorem dX8_spans_119 : decode cX8_spans 119 = .ok (.istore 6, 2) := by decide +kernel
theorem dX8_spans_121 : decode cX8_spans 121 = .ok (.iload 9, 2) := by decide +kernel
theorem dX8_spans_123 : decode cX8_spans 123 = .ok (.ifCond .eq 6, 3) := by decide +kernel
theorem dX8_spans_126 : decode cX8_spans 126 = .ok (.iinc 5 1, 3) := by decide +kernel
theorem dX8_spans_129 : decode cX8_spans 129 = .ok (.iload 6, 2) := by decide +kernel
theorem dX8_spans_131 : decode cX8_spans 131 = .ok (.ifCond .eq 26, 3) := by decide +kernel
theorem dX8_spans_134 : decode cX8_spans 134 = .ok (.iload 5, 2) := by decide +kernel
theorem dX8_spans_136 : decode cX8_spans 136 = .ok (.iconst 1, 1) := by decide +kernel
theorem dX8_spans_137 : decode cX8_spans 137 = .ok (.isub, 1) := by decide +kernel
theorem dX8_spans_138 : decode cX8_spans 138 = .ok (.iload_n 3, 1) := by decide +kernel
theorem dX8_spans_139 : decode cX8_spans 139 = .ok (.if_icmp .ne 18, 3) := by decide +kernel
theorem dX8_spans_142 : decode cX8_spans 142 = .ok (.iload 9, 2) := by decide +kernel
theorem dX8_spans_144 : decode cX8_spans 144 = .ok (.ifCond .ne 9, 3) := by decide +kernel
theorem dX8_spans_147 : decode cX8_spans 147 = .ok (.iload 4, 2) := by decide +kernel
theorem dX8_spans_149 : decode cX8_spans 149 = .ok (.iconst 1, 1) := by decide +kernel
theorem dX8_spans_150 : decode cX8_spans 150 = .ok (.if_icmp .ne 7, 3) := by decide +kernel
theorem dX8_spans_153 : decode cX8_spans 153 = .ok (.iload 8, 2) := by decide +kernel
theorem dX8_spans_155 : decode cX8_spans 155 = .ok (.istore 7, 2) := by decide +kernel
theorem dX8_spans_157 : decode cX8_spans 157 = .ok (.iinc 8 1, 3) := by decide +kernel
theorem dX8_spans_160 : decode cX8_spans 160 = .ok (.goto (-107), 3) := by decide +kernel
theorem dX8_spans_163 : decode cX8_spans 163 = .ok (.iload_n 3, 1) := by decide +kernel
theorem dX8_spans_164 : decode cX8_spans 164 = .ok (.iconst (-1), 1) := by decide +kernel
theorem dX8_spans_165 : decode cX8_spans 165 = .ok (.if_icmp .ne 8, 3) := by decide +kernel
theorem dX8_spans_168 : decode cX8_spans 168 = .ok (.iload 5, 2) := by decide +kernel
theorem dX8_spans_170 : decode cX8_spans 170 = .ok (.goto 5, 3) := by decide +kernel
theorem dX8_spans_173 : decode cX8_spans 173 = .ok (.iload 7, 2) := by decide +kernel
theorem dX8_spans_175 : decode cX8_spans 175 = .ok (.ireturn, 1) := by decide +kernel
set_option maxRecDepth 20000 in
theorem ggX8_lets_X0_hasLine : GoodIn wsX8_lets wsX0_hasLine := goodIn_r _ [10, 11, 126, 127, 128, 129, 130, 131, 132, 133, 134, 135] (by decide +kernel) (by decide +kernel)
set_option maxRecDepth 20000 in
theorem gX8_lets_X0_hasLine : GoodIn wsX8_lets (wsV RX8 181 RX0 yX0_hasLine wsX0_hasLine) := goodIn_app (goodIn_of _ (by decide +kernel)) ggX8_lets_X0_hasLine
set_option maxRecDepth 20000 in
theorem ggX8_lets_X7_hasChange : GoodIn wsX8_lets wsX7_hasChange := goodIn_r _ [16, 17, 136, 137, 138, 139, 140, 141, 142, 143, 144, 145] (by decide +kernel) (by decide +kernel)
set_option maxRecDepth 20000 in
theorem gX8_lets_X7_hasChange : GoodIn wsX8_lets (wsV RX8 132 RX7 yX7_hasChange wsX7_hasChange) := goodIn_app (goodIn_of _ (by decide +kernel)) ggX8_lets_X7_hasChange
set_option maxRecDepth 20000 in
theorem ggX8_lets_X8_isDay : GoodIn wsX8_lets wsX8_isDay := goodIn_r _ [21] (by decide +kernel) (by decide +kernel)
set_option maxRecDepth 20000 in
theorem gX8_lets_X8_isDay : GoodIn wsX8_lets (va_wsS RX8 267 yX8_isDay wsX8_isDay) := goodIn_app (goodIn_of _ (by decide +kernel)) ggX8_lets_X8_isDay
set_option maxRecDepth 20000 in
theorem ggX8_lets_X2_needsOf : GoodIn wsX8_lets wsX2_needsOf := goodIn_r _ [26, 27, 28, 29, 30, 31, 20, 32, 33, 34, 35, 15, 36, 37, 38, 39, 40, 41, 42, 25, 43, 44, 45, 46, 47, 48, 49, 50, 51, 52, 53, 54, 55, 56, 57, 58, 59, 60, 61, 62, 63, 64, 65, 66, 146, 147, 148, 149, 126, 127, 128, 129, 130, 131, 132, 133, 134, 135, 136, 137, 138, 139, 140, 141, 142, 143, 144, 145] (by decide +kernel) (by decide +kernel)
set_option maxRecDepth 20000 in
theorem gX8_lets_X2_needsOf : GoodIn wsX8_lets (wsV RX8 226 RX2 yX2_needsOf wsX2_needsOf) := goodIn_app (goodIn_of _ (by decide +kernel)) ggX8_lets_X2_needsOf
set_option maxRecDepth 20000 in
theorem ggX8_lets_X7_faultsIn : GoodIn wsX8_lets wsX7_faultsIn := goodIn_r _ [70, 71, 72, 31, 20, 32, 73, 74, 75, 15, 76, 77, 136, 137, 138, 139, 140, 141, 142, 143, 144, 145] (by decide +kernel) (by decide +kernel)
set_option maxRecDepth 20000 in
theorem gX8_lets_X7_faultsIn : GoodIn wsX8_lets (wsV RX8 190 RX7 yX7_faultsIn wsX7_faultsIn) := goodIn_app (goodIn_of _ (by decide +kernel)) ggX8_lets_X7_faultsIn
set_option maxRecDepth 20000 in
theorem ggX8_lets_X7_removedBy : GoodIn wsX8_lets wsX7_removedBy := goodIn_r _ [76, 71, 77, 31, 20, 32, 136, 137, 138, 139, 140, 141, 142, 143, 144, 145] (by decide +kernel) (by decide +kernel)
set_option maxRecDepth 20000 in
theorem gX8_lets_X7_removedBy : GoodIn wsX8_lets (wsV RX8 327 RX7 yX7_removedBy wsX7_removedBy) := goodIn_app (goodIn_of _ (by decide +kernel)) ggX8_lets_X7_removedBy
set_option maxRecDepth 20000 in
theorem ggX8_lets_X5_isFrozen : GoodIn wsX8_lets wsX5_isFrozen := goodIn_r _ [83, 84, 85, 86, 150, 151, 152, 153, 154, 155, 156] (by decide +kernel) (by decide +kernel)
set_option maxRecDepth 20000 in
theorem gX8_lets_X5_isFrozen : GoodIn wsX8_lets (wsV RX8 330 RX5 yX5_isFrozen wsX5_isFrozen) := goodIn_app (goodIn_of _ (by decide +kernel)) ggX8_lets_X5_isFrozen
set_option maxRecDepth 20000 in
theorem ggX8_lets_X5_allowsLine : GoodIn wsX8_lets wsX5_allowsLine := goodIn_r _ [90, 91, 31, 20, 32, 150, 151, 152, 153, 154, 155, 156] (by decide +kernel) (by decide +kernel)
set_option maxRecDepth 20000 in
theorem gX8_lets_X5_allowsLine : GoodIn wsX8_lets (wsV RX8 333 RX5 yX5_allowsLine wsX5_allowsLine) := goodIn_app (goodIn_of _ (by decide +kernel)) ggX8_lets_X5_allowsLine
set_option maxRecDepth 20000 in
theorem ggX8_lets_X7_riskOf : GoodIn wsX8_lets wsX7_riskOf := goodIn_r _ [95, 17, 96, 31, 20, 32, 136, 137, 138, 139, 140, 141, 142, 143, 144, 145] (by decide +kernel) (by decide +kernel)
set_option maxRecDepth 20000 in
theorem gX8_lets_X7_riskOf : GoodIn wsX8_lets (wsV RX8 193 RX7 yX7_riskOf wsX7_riskOf) := goodIn_app (goodIn_of _ (by decide +kernel)) ggX8_lets_X7_riskOf
set_option maxRecDepth 20000 in
theorem ggX8_lets_X5_allowsRisk : GoodIn wsX8_lets wsX5_allowsRisk := goodIn_r _ [100, 101, 150, 151, 152, 153, 154, 155, 156] (by decide +kernel) (by decide +kernel)
set_option maxRecDepth 20000 in
theorem gX8_lets_X5_allowsRisk : GoodIn wsX8_lets (wsV RX8 336 RX5 yX5_allowsRisk wsX5_allowsRisk) := goodIn_app (goodIn_of _ (by decide +kernel)) ggX8_lets_X5_allowsRisk
set_option maxRecDepth 20000 in
theorem ggX8_lets_X7_weightOf : GoodIn wsX8_lets wsX7_weightOf := goodIn_r _ [105, 71, 106, 31, 20, 32, 136, 137, 138, 139, 140, 141, 142, 143, 144, 145] (by decide +kernel) (by decide +kernel)
set_option maxRecDepth 20000 in
theorem gX8_lets_X7_weightOf : GoodIn wsX8_lets (wsV RX8 339 RX7 yX7_weightOf wsX7_weightOf) := goodIn_app (goodIn_of _ (by decide +kernel)) ggX8_lets_X7_weightOf
set_option maxRecDepth 20000 in
theorem ggX8_lets_X5_allowsWeight : GoodIn wsX8_lets wsX5_allowsWeight := goodIn_r _ [110, 111, 150, 151, 152, 153, 154, 155, 156] (by decide +kernel) (by decide +kernel)
set_option maxRecDepth 20000 in
theorem gX8_lets_X5_allowsWeight : GoodIn wsX8_lets (wsV RX8 342 RX5 yX5_allowsWeight wsX5_allowsWeight) := goodIn_app (goodIn_of _ (by decide +kernel)) ggX8_lets_X5_allowsWeight
theorem dX8_lets_0 : decode cX8_lets 0 = .ok (.aload_n 0, 1) := by decide +kernel
theorem dX8_lets_1 : decode cX8_lets 1 = .ok (.getfield 48, 3) := by decide +kernel
theorem dX8_lets_4 : decode cX8_lets 4 = .ok (.iload_n 1, 1) := by decide +kernel
theorem dX8_lets_5 : decode cX8_lets 5 = .ok (.invokevirtual 181, 3) := by decide +kernel
theorem dX8_lets_8 : decode cX8_lets 8 = .ok (.ifCond .eq 14, 3) := by decide +kernel
theorem dX8_lets_11 : decode cX8_lets 11 = .ok (.aload_n 0, 1) := by decide +kernel
theorem dX8_lets_12 : decode cX8_lets 12 = .ok (.getfield 28, 3) := by decide +kernel
theorem dX8_lets_15 : decode cX8_lets 15 = .ok (.iload_n 2, 1) := by decide +kernel
theorem dX8_lets_16 : decode cX8_lets 16 = .ok (.invokevirtual 132, 3) := by decide +kernel
theorem dX8_lets_19 : decode cX8_lets 19 = .ok (.ifCond .ne 7, 3) := by decide +kernel
theorem dX8_lets_22 : decode cX8_lets 22 = .ok (.sipush (-1001), 3) := by decide +kernel
theorem dX8_lets_25 : decode cX8_lets 25 = .ok (.ireturn, 1) := by decide +kernel
theorem dX8_lets_26 : decode cX8_lets 26 = .ok (.iload_n 3, 1) := by decide +kernel
theorem dX8_lets_27 : decode cX8_lets 27 = .ok (.invokestatic 267, 3) := by decide +kernel
theorem dX8_lets_30 : decode cX8_lets 30 = .ok (.ifCond .ne 7, 3) := by decide +kernel
theorem dX8_lets_33 : decode cX8_lets 33 = .ok (.sipush (-1002), 3) := by decide +kernel
theorem dX8_lets_36 : decode cX8_lets 36 = .ok (.ireturn, 1) := by decide +kernel
theorem dX8_lets_37 : decode cX8_lets 37 = .ok (.aload_n 0, 1) := by decide +kernel
theorem dX8_lets_38 : decode cX8_lets 38 = .ok (.getfield 63, 3) := by decide +kernel
theorem dX8_lets_41 : decode cX8_lets 41 = .ok (.iload_n 1, 1) := by decide +kernel
theorem dX8_lets_42 : decode cX8_lets 42 = .ok (.iload_n 2, 1) := by decide +kernel
theorem dX8_lets_43 : decode cX8_lets 43 = .ok (.invokevirtual 226, 3) := by decide +kernel
theorem dX8_lets_46 : decode cX8_lets 46 = .ok (.istore 4, 2) := by decide +kernel
theorem dX8_lets_48 : decode cX8_lets 48 = .ok (.iload 4, 2) := by decide +kernel
theorem dX8_lets_50 : decode cX8_lets 50 = .ok (.iconst (-1), 1) := by decide +kernel
theorem dX8_lets_51 : decode cX8_lets 51 = .ok (.if_icmp .ne 7, 3) := by decide +kernel
theorem dX8_lets_54 : decode cX8_lets 54 = .ok (.sipush (-1003), 3) := by decide +kernel
theorem dX8_lets_57 : decode cX8_lets 57 = .ok (.ireturn, 1) := by decide +kernel
theorem dX8_lets_58 : decode cX8_lets 58 = .ok (.iload 4, 2) := by decide +kernel
theorem dX8_lets_60 : decode cX8_lets 60 = .ok (.iconst 1, 1) := by decide +kernel
theorem dX8_lets_61 : decode cX8_lets 61 = .ok (.iload_n 2, 1) := by decide +kernel
theorem dX8_lets_62 : decode cX8_lets 62 = .ok (.ishl, 1) := by decide +kernel
theorem dX8_lets_63 : decode cX8_lets 63 = .ok (.ior, 1) := by decide +kernel
theorem dX8_lets_64 : decode cX8_lets 64 = .ok (.istore 5, 2) := by decide +kernel
theorem dX8_lets_66 : decode cX8_lets 66 = .ok (.aload_n 0, 1) := by decide +kernel
theorem dX8_lets_67 : decode cX8_lets 67 = .ok (.getfield 28, 3) := by decide +kernel
theorem dX8_lets_70 : decode cX8_lets 70 = .ok (.aload_n 0, 1) := by decide +kernel
theorem dX8_lets_71 : decode cX8_lets 71 = .ok (.getfield 48, 3) := by decide +kernel
theorem dX8_lets_74 : decode cX8_lets 74 = .ok (.getfield 187, 3) := by decide +kernel
theorem dX8_lets_77 : decode cX8_lets 77 = .ok (.iload_n 1, 1) := by decide +kernel
theorem dX8_lets_78 : decode cX8_lets 78 = .ok (.iaload, 1) := by decide +kernel
theorem dX8_lets_79 : decode cX8_lets 79 = .ok (.invokevirtual 190, 3) := by decide +kernel
theorem dX8_lets_82 : decode cX8_lets 82 = .ok (.aload_n 0, 1) := by decide +kernel
theorem dX8_lets_83 : decode cX8_lets 83 = .ok (.getfield 28, 3) := by decide +kernel
theorem dX8_lets_86 : decode cX8_lets 86 = .ok (.iload 5, 2) := by decide +kernel
theorem dX8_lets_88 : decode cX8_lets 88 = .ok (.invokevirtual 327, 3) := by decide +kernel
theorem dX8_lets_91 : decode cX8_lets 91 = .ok (.iand, 1) := by decide +kernel
theorem dX8_lets_92 : decode cX8_lets 92 = .ok (.istore 6, 2) := by decide +kernel
theorem dX8_lets_94 : decode cX8_lets 94 = .ok (.aload_n 0, 1) := by decide +kernel
theorem dX8_lets_95 : decode cX8_lets 95 = .ok (.getfield 38, 3) := by decide +kernel
theorem dX8_lets_98 : decode cX8_lets 98 = .ok (.iload_n 3, 1) := by decide +kernel
theorem dX8_lets_99 : decode cX8_lets 99 = .ok (.invokevirtual 330, 3) := by decide +kernel
theorem dX8_lets_102 : decode cX8_lets 102 = .ok (.ifCond .ne 18, 3) := by decide +kernel
theorem dX8_lets_105 : decode cX8_lets 105 = .ok (.aload_n 0, 1) := by decide +kernel
theorem dX8_lets_106 : decode cX8_lets 106 = .ok (.getfield 38, 3) := by decide +kernel
theorem dX8_lets_109 : decode cX8_lets 109 = .ok (.iload_n 1, 1) := by decide +kernel
theorem dX8_lets_110 : decode cX8_lets 110 = .ok (.invokevirtual 333, 3) := by decide +kernel
theorem dX8_lets_113 : decode cX8_lets 113 = .ok (.ifCond .eq 7, 3) := by decide +kernel
theorem dX8_lets_116 : decode cX8_lets 116 = .ok (.iconst 1, 1) := by decide +kernel
theorem dX8_lets_117 : decode cX8_lets 117 = .ok (.goto 4, 3) := by decide +kernel
theorem dX8_lets_120 : decode cX8_lets 120 = .ok (.iconst 0, 1) := by decide +kernel
theorem dX8_lets_121 : decode cX8_lets 121 = .ok (.istore 7, 2) := by decide +kernel
theorem dX8_lets_123 : decode cX8_lets 123 = .ok (.iload 7, 2) := by decide +kernel
theorem dX8_lets_125 : decode cX8_lets 125 = .ok (.ifCond .eq 45, 3) := by decide +kernel
theorem dX8_lets_128 : decode cX8_lets 128 = .ok (.aload_n 0, 1) := by decide +kernel
theorem dX8_lets_129 : decode cX8_lets 129 = .ok (.getfield 38, 3) := by decide +kernel
theorem dX8_lets_132 : decode cX8_lets 132 = .ok (.aload_n 0, 1) := by decide +kernel
theorem dX8_lets_133 : decode cX8_lets 133 = .ok (.getfield 28, 3) := by decide +kernel
theorem dX8_lets_136 : decode cX8_lets 136 = .ok (.iload 5, 2) := by decide +kernel
theorem dX8_lets_138 : decode cX8_lets 138 = .ok (.invokevirtual 193, 3) := by decide +kernel
theorem dX8_lets_141 : decode cX8_lets 141 = .ok (.invokevirtual 336, 3) := by decide +kernel
theorem dX8_lets_144 : decode cX8_lets 144 = .ok (.ifCond .eq 26, 3) := by decide +kernel
theorem dX8_lets_147 : decode cX8_lets 147 = .ok (.aload_n 0, 1) := by decide +kernel
theorem dX8_lets_148 : decode cX8_lets 148 = .ok (.getfield 38, 3) := by decide +kernel
theorem dX8_lets_151 : decode cX8_lets 151 = .ok (.aload_n 0, 1) := by decide +kernel
theorem dX8_lets_152 : decode cX8_lets 152 = .ok (.getfield 28, 3) := by decide +kernel
theorem dX8_lets_155 : decode cX8_lets 155 = .ok (.iload 6, 2) := by decide +kernel
theorem dX8_lets_157 : decode cX8_lets 157 = .ok (.invokevirtual 339, 3) := by decide +kernel
theorem dX8_lets_160 : decode cX8_lets 160 = .ok (.invokevirtual 342, 3) := by decide +kernel
theorem dX8_lets_163 : decode cX8_lets 163 = .ok (.ifCond .eq 7, 3) := by decide +kernel
theorem dX8_lets_166 : decode cX8_lets 166 = .ok (.iconst 1, 1) := by decide +kernel
theorem dX8_lets_167 : decode cX8_lets 167 = .ok (.goto 4, 3) := by decide +kernel
theorem dX8_lets_170 : decode cX8_lets 170 = .ok (.iconst 0, 1) := by decide +kernel
theorem dX8_lets_171 : decode cX8_lets 171 = .ok (.ireturn, 1) := by decide +kernel
set_option maxRecDepth 20000 in
theorem ggX8_keep_X8_imageOf : GoodIn wsX8_keep wsX8_imageOf := goodIn_r _ [7, 8, 9, 29, 30, 31, 32, 33, 34, 35, 36, 37, 38, 39, 40, 41, 42] (by decide +kernel) (by decide +kernel)
set_option maxRecDepth 20000 in
theorem gX8_keep_X8_imageOf : GoodIn wsX8_keep (wsV RX8 345 RX8 yX8_imageOf wsX8_imageOf) := goodIn_app (goodIn_of _ (by decide +kernel)) ggX8_keep_X8_imageOf
set_option maxRecDepth 20000 in
theorem ggX8_keep_X0_become : GoodIn wsX8_keep wsX0_become := goodIn_r _ [14, 15, 16, 17, 18, 19, 20, 21, 22, 23, 24, 25, 26, 27, 28, 43, 44, 45, 46, 47, 48, 49, 50, 51, 52] (by decide +kernel) (by decide +kernel)
set_option maxRecDepth 20000 in
theorem gX8_keep_X0_become : GoodIn wsX8_keep (wsV RX8 349 RX0 yX0_become wsX0_become) := goodIn_app (goodIn_of _ (by decide +kernel)) ggX8_keep_X0_become
theorem dX8_keep_0 : decode cX8_keep 0 = .ok (.iload_n 1, 1) := by decide +kernel
theorem dX8_keep_1 : decode cX8_keep 1 = .ok (.ifCond .lt 8, 3) := by decide +kernel
theorem dX8_keep_4 : decode cX8_keep 4 = .ok (.iload_n 1, 1) := by decide +kernel
theorem dX8_keep_5 : decode cX8_keep 5 = .ok (.iconst 2, 1) := by decide +kernel
theorem dX8_keep_6 : decode cX8_keep 6 = .ok (.if_icmp .lt 7, 3) := by decide +kernel
theorem dX8_keep_9 : decode cX8_keep 9 = .ok (.sipush (-1001), 3) := by decide +kernel
theorem dX8_keep_12 : decode cX8_keep 12 = .ok (.ireturn, 1) := by decide +kernel
theorem dX8_keep_13 : decode cX8_keep 13 = .ok (.aload_n 0, 1) := by decide +kernel
theorem dX8_keep_14 : decode cX8_keep 14 = .ok (.iload_n 1, 1) := by decide +kernel
theorem dX8_keep_15 : decode cX8_keep 15 = .ok (.invokevirtual 345, 3) := by decide +kernel
theorem dX8_keep_18 : decode cX8_keep 18 = .ok (.aload_n 0, 1) := by decide +kernel
theorem dX8_keep_19 : decode cX8_keep 19 = .ok (.getfield 48, 3) := by decide +kernel
theorem dX8_keep_22 : decode cX8_keep 22 = .ok (.invokevirtual 349, 3) := by decide +kernel
theorem dX8_keep_25 : decode cX8_keep 25 = .ok (.aload_n 0, 1) := by decide +kernel
theorem dX8_keep_26 : decode cX8_keep 26 = .ok (.dup, 1) := by decide +kernel
theorem dX8_keep_27 : decode cX8_keep 27 = .ok (.getfield 85, 3) := by decide +kernel
theorem dX8_keep_30 : decode cX8_keep 30 = .ok (.iconst 1, 1) := by decide +kernel
theorem dX8_keep_31 : decode cX8_keep 31 = .ok (.iload_n 1, 1) := by decide +kernel
theorem dX8_keep_32 : decode cX8_keep 32 = .ok (.ishl, 1) := by decide +kernel
theorem dX8_keep_33 : decode cX8_keep 33 = .ok (.ior, 1) := by decide +kernel
theorem dX8_keep_34 : decode cX8_keep 34 = .ok (.putfield 85, 3) := by decide +kernel
theorem dX8_keep_37 : decode cX8_keep 37 = .ok (.iconst 1, 1) := by decide +kernel
theorem dX8_keep_38 : decode cX8_keep 38 = .ok (.ireturn, 1) := by decide +kernel
set_option maxRecDepth 20000 in
theorem ggX8_goBack_X8_has : GoodIn wsX8_goBack wsX8_has := goodIn_r _ [6] (by decide +kernel) (by decide +kernel)
set_option maxRecDepth 20000 in
theorem gX8_goBack_X8_has : GoodIn wsX8_goBack (va_wsS RX8 202 yX8_has wsX8_has) := goodIn_app (goodIn_of _ (by decide +kernel)) ggX8_goBack_X8_has
set_option maxRecDepth 20000 in
theorem ggX8_goBack_X8_imageOf : GoodIn wsX8_goBack wsX8_imageOf := goodIn_r _ [10, 11, 12, 32, 33, 34, 35, 36, 37, 38, 39, 40, 41, 42, 43, 44, 45] (by decide +kernel) (by decide +kernel)
set_option maxRecDepth 20000 in
theorem gX8_goBack_X8_imageOf : GoodIn wsX8_goBack (wsV RX8 345 RX8 yX8_imageOf wsX8_imageOf) := goodIn_app (goodIn_of _ (by decide +kernel)) ggX8_goBack_X8_imageOf
set_option maxRecDepth 20000 in
theorem ggX8_goBack_X0_become : GoodIn wsX8_goBack wsX0_become := goodIn_r _ [17, 18, 19, 20, 21, 22, 23, 24, 25, 26, 27, 28, 29, 30, 31, 46, 47, 48, 49, 50, 51, 52, 53, 54, 55] (by decide +kernel) (by decide +kernel)
set_option maxRecDepth 20000 in
theorem gX8_goBack_X0_become : GoodIn wsX8_goBack (wsV RX8 349 RX0 yX0_become wsX0_become) := goodIn_app (goodIn_of _ (by decide +kernel)) ggX8_goBack_X0_become
theorem dX8_goBack_0 : decode cX8_goBack 0 = .ok (.iload_n 1, 1) := by decide +kernel
theorem dX8_goBack_1 : decode cX8_goBack 1 = .ok (.ifCond .lt 8, 3) := by decide +kernel
theorem dX8_goBack_4 : decode cX8_goBack 4 = .ok (.iload_n 1, 1) := by decide +kernel
theorem dX8_goBack_5 : decode cX8_goBack 5 = .ok (.iconst 2, 1) := by decide +kernel
theorem dX8_goBack_6 : decode cX8_goBack 6 = .ok (.if_icmp .lt 7, 3) := by decide +kernel
theorem dX8_goBack_9 : decode cX8_goBack 9 = .ok (.sipush (-1001), 3) := by decide +kernel
theorem dX8_goBack_12 : decode cX8_goBack 12 = .ok (.ireturn, 1) := by decide +kernel
theorem dX8_goBack_13 : decode cX8_goBack 13 = .ok (.aload_n 0, 1) := by decide +kernel
theorem dX8_goBack_14 : decode cX8_goBack 14 = .ok (.getfield 85, 3) := by decide +kernel
theorem dX8_goBack_17 : decode cX8_goBack 17 = .ok (.iload_n 1, 1) := by decide +kernel
theorem dX8_goBack_18 : decode cX8_goBack 18 = .ok (.invokestatic 202, 3) := by decide +kernel
theorem dX8_goBack_21 : decode cX8_goBack 21 = .ok (.ifCond .ne 7, 3) := by decide +kernel
theorem dX8_goBack_24 : decode cX8_goBack 24 = .ok (.sipush (-1003), 3) := by decide +kernel
theorem dX8_goBack_27 : decode cX8_goBack 27 = .ok (.ireturn, 1) := by decide +kernel
theorem dX8_goBack_28 : decode cX8_goBack 28 = .ok (.aload_n 0, 1) := by decide +kernel
theorem dX8_goBack_29 : decode cX8_goBack 29 = .ok (.getfield 48, 3) := by decide +kernel
theorem dX8_goBack_32 : decode cX8_goBack 32 = .ok (.aload_n 0, 1) := by decide +kernel
theorem dX8_goBack_33 : decode cX8_goBack 33 = .ok (.iload_n 1, 1) := by decide +kernel
theorem dX8_goBack_34 : decode cX8_goBack 34 = .ok (.invokevirtual 345, 3) := by decide +kernel
theorem dX8_goBack_37 : decode cX8_goBack 37 = .ok (.invokevirtual 349, 3) := by decide +kernel
theorem dX8_goBack_40 : decode cX8_goBack 40 = .ok (.iconst 1, 1) := by decide +kernel
theorem dX8_goBack_41 : decode cX8_goBack 41 = .ok (.ireturn, 1) := by decide +kernel
theorem dX8_imageOf_0 : decode cX8_imageOf 0 = .ok (.iload_n 1, 1) := by decide +kernel
theorem dX8_imageOf_1 : decode cX8_imageOf 1 = .ok (.ifCond .ne 10, 3) := by decide +kernel
theorem dX8_imageOf_4 : decode cX8_imageOf 4 = .ok (.aload_n 0, 1) := by decide +kernel
theorem dX8_imageOf_5 : decode cX8_imageOf 5 = .ok (.getfield 52, 3) := by decide +kernel
theorem dX8_imageOf_8 : decode cX8_imageOf 8 = .ok (.goto 7, 3) := by decide +kernel
theorem dX8_imageOf_11 : decode cX8_imageOf 11 = .ok (.aload_n 0, 1) := by decide +kernel
theorem dX8_imageOf_12 : decode cX8_imageOf 12 = .ok (.getfield 55, 3) := by decide +kernel
theorem dX8_imageOf_15 : decode cX8_imageOf 15 = .ok (.areturn, 1) := by decide +kernel
set_option maxRecDepth 20000 in
theorem ggX8_isFree_X7_faultsIn : GoodIn wsX8_isFree wsX7_faultsIn := goodIn_r _ [8, 9, 10, 11, 12, 13, 14, 15, 16, 7, 17, 18, 44, 45, 46, 47, 48, 49, 50, 51, 52, 53] (by decide +kernel) (by decide +kernel)
set_option maxRecDepth 20000 in
theorem gX8_isFree_X7_faultsIn : GoodIn wsX8_isFree (wsV RX8 190 RX7 yX7_faultsIn wsX7_faultsIn) := goodIn_app (goodIn_of _ (by decide +kernel)) ggX8_isFree_X7_faultsIn
set_option maxRecDepth 20000 in
theorem ggX8_isFree_X8_has : GoodIn wsX8_isFree wsX8_has := goodIn_r _ [13] (by decide +kernel) (by decide +kernel)
set_option maxRecDepth 20000 in
theorem gX8_isFree_X8_has : GoodIn wsX8_isFree (va_wsS RX8 202 yX8_has wsX8_has) := goodIn_app (goodIn_of _ (by decide +kernel)) ggX8_isFree_X8_has
theorem dX8_isFree_0 : decode cX8_isFree 0 = .ok (.aload_n 0, 1) := by decide +kernel
theorem dX8_isFree_1 : decode cX8_isFree 1 = .ok (.getfield 28, 3) := by decide +kernel
theorem dX8_isFree_4 : decode cX8_isFree 4 = .ok (.aload_n 0, 1) := by decide +kernel
theorem dX8_isFree_5 : decode cX8_isFree 5 = .ok (.getfield 48, 3) := by decide +kernel
theorem dX8_isFree_8 : decode cX8_isFree 8 = .ok (.getfield 286, 3) := by decide +kernel
theorem dX8_isFree_11 : decode cX8_isFree 11 = .ok (.iload_n 1, 1) := by decide +kernel
theorem dX8_isFree_12 : decode cX8_isFree 12 = .ok (.iaload, 1) := by decide +kernel
theorem dX8_isFree_13 : decode cX8_isFree 13 = .ok (.invokevirtual 190, 3) := by decide +kernel
theorem dX8_isFree_16 : decode cX8_isFree 16 = .ok (.iload_n 2, 1) := by decide +kernel
theorem dX8_isFree_17 : decode cX8_isFree 17 = .ok (.invokestatic 202, 3) := by decide +kernel
theorem dX8_isFree_20 : decode cX8_isFree 20 = .ok (.ifCond .ne 7, 3) := by decide +kernel
theorem dX8_isFree_23 : decode cX8_isFree 23 = .ok (.iconst 1, 1) := by decide +kernel
theorem dX8_isFree_24 : decode cX8_isFree 24 = .ok (.goto 4, 3) := by decide +kernel
theorem dX8_isFree_27 : decode cX8_isFree 27 = .ok (.iconst 0, 1) := by decide +kernel
theorem dX8_isFree_28 : decode cX8_isFree 28 = .ok (.ireturn, 1) := by decide +kernel
set_option maxRecDepth 20000 in
theorem ggX8_leadsUp_X7_faultsIn : GoodIn wsX8_leadsUp wsX7_faultsIn := goodIn_r _ [8, 9, 10, 11, 12, 13, 14, 15, 16, 7, 17, 18, 44, 45, 46, 47, 48, 49, 50, 51, 52, 53] (by decide +kernel) (by decide +kernel)
set_option maxRecDepth 20000 in
theorem gX8_leadsUp_X7_faultsIn : GoodIn wsX8_leadsUp (wsV RX8 190 RX7 yX7_faultsIn wsX7_faultsIn) := goodIn_app (goodIn_of _ (by decide +kernel)) ggX8_leadsUp_X7_faultsIn
set_option maxRecDepth 20000 in
theorem ggX8_leadsUp_X8_has : GoodIn wsX8_leadsUp wsX8_has := goodIn_r _ [13] (by decide +kernel) (by decide +kernel)
set_option maxRecDepth 20000 in
theorem gX8_leadsUp_X8_has : GoodIn wsX8_leadsUp (va_wsS RX8 202 yX8_has wsX8_has) := goodIn_app (goodIn_of _ (by decide +kernel)) ggX8_leadsUp_X8_has
theorem dX8_leadsUp_0 : decode cX8_leadsUp 0 = .ok (.aload_n 0, 1) := by decide +kernel
theorem dX8_leadsUp_1 : decode cX8_leadsUp 1 = .ok (.getfield 28, 3) := by decide +kernel
theorem dX8_leadsUp_4 : decode cX8_leadsUp 4 = .ok (.aload_n 0, 1) := by decide +kernel
theorem dX8_leadsUp_5 : decode cX8_leadsUp 5 = .ok (.getfield 48, 3) := by decide +kernel
theorem dX8_leadsUp_8 : decode cX8_leadsUp 8 = .ok (.getfield 286, 3) := by decide +kernel
theorem dX8_leadsUp_11 : decode cX8_leadsUp 11 = .ok (.iload_n 1, 1) := by decide +kernel
theorem dX8_leadsUp_12 : decode cX8_leadsUp 12 = .ok (.iaload, 1) := by decide +kernel
theorem dX8_leadsUp_13 : decode cX8_leadsUp 13 = .ok (.invokevirtual 190, 3) := by decide +kernel
theorem dX8_leadsUp_16 : decode cX8_leadsUp 16 = .ok (.istore 4, 2) := by decide +kernel
theorem dX8_leadsUp_18 : decode cX8_leadsUp 18 = .ok (.aload_n 0, 1) := by decide +kernel
theorem dX8_leadsUp_19 : decode cX8_leadsUp 19 = .ok (.getfield 28, 3) := by decide +kernel
theorem dX8_leadsUp_22 : decode cX8_leadsUp 22 = .ok (.aload_n 0, 1) := by decide +kernel
theorem dX8_leadsUp_23 : decode cX8_leadsUp 23 = .ok (.getfield 48, 3) := by decide +kernel
theorem dX8_leadsUp_26 : decode cX8_leadsUp 26 = .ok (.getfield 286, 3) := by decide +kernel
theorem dX8_leadsUp_29 : decode cX8_leadsUp 29 = .ok (.iload_n 2, 1) := by decide +kernel
theorem dX8_leadsUp_30 : decode cX8_leadsUp 30 = .ok (.iaload, 1) := by decide +kernel
theorem dX8_leadsUp_31 : decode cX8_leadsUp 31 = .ok (.invokevirtual 190, 3) := by decide +kernel
theorem dX8_leadsUp_34 : decode cX8_leadsUp 34 = .ok (.istore 5, 2) := by decide +kernel
theorem dX8_leadsUp_36 : decode cX8_leadsUp 36 = .ok (.iload 5, 2) := by decide +kernel
theorem dX8_leadsUp_38 : decode cX8_leadsUp 38 = .ok (.iload_n 3, 1) := by decide +kernel
theorem dX8_leadsUp_39 : decode cX8_leadsUp 39 = .ok (.invokestatic 202, 3) := by decide +kernel
theorem dX8_leadsUp_42 : decode cX8_leadsUp 42 = .ok (.ifCond .ne 17, 3) := by decide +kernel
theorem dX8_leadsUp_45 : decode cX8_leadsUp 45 = .ok (.iload 5, 2) := by decide +kernel
theorem dX8_leadsUp_47 : decode cX8_leadsUp 47 = .ok (.iload 4, 2) := by decide +kernel
theorem dX8_leadsUp_49 : decode cX8_leadsUp 49 = .ok (.iconst (-1), 1) := by decide +kernel
theorem dX8_leadsUp_50 : decode cX8_leadsUp 50 = .ok (.ixor, 1) := by decide +kernel
theorem dX8_leadsUp_51 : decode cX8_leadsUp 51 = .ok (.iand, 1) := by decide +kernel
theorem dX8_leadsUp_52 : decode cX8_leadsUp 52 = .ok (.ifCond .ne 7, 3) := by decide +kernel
theorem dX8_leadsUp_55 : decode cX8_leadsUp 55 = .ok (.iconst 1, 1) := by decide +kernel
theorem dX8_leadsUp_56 : decode cX8_leadsUp 56 = .ok (.goto 4, 3) := by decide +kernel
theorem dX8_leadsUp_59 : decode cX8_leadsUp 59 = .ok (.iconst 0, 1) := by decide +kernel
theorem dX8_leadsUp_60 : decode cX8_leadsUp 60 = .ok (.ireturn, 1) := by decide +kernel
set_option maxRecDepth 20000 in
theorem ggX8_trainWithFix_X1_lookAt : GoodIn wsX8_trainWithFix wsX1_lookAt := goodIn_r _ [8, 9, 10, 11, 12, 13, 14, 15, 16, 17, 18, 19, 20, 21, 22, 23, 24, 25, 26, 27, 28, 29, 30, 31, 32, 33, 34, 35, 36, 37, 38, 39, 40, 41, 42, 43, 44, 45, 46, 47, 48, 49, 50, 51, 52, 53, 54, 55, 56, 57, 58, 59, 60, 61, 62, 63, 64, 65, 66, 67, 68, 69, 70, 71, 72, 73, 74, 108, 109, 110, 111, 112, 113, 114, 115, 116, 117, 118, 119, 98, 99, 100, 101, 102, 103, 104, 105, 106, 107, 120, 121, 122, 123, 124, 125, 126, 127, 128, 129] (by decide +kernel) (by decide +kernel)
set_option maxRecDepth 20000 in
theorem gX8_trainWithFix_X1_lookAt : GoodIn wsX8_trainWithFix (wsV RX8 237 RX1 yX1_lookAt wsX1_lookAt) := goodIn_app (goodIn_of _ (by decide +kernel)) ggX8_trainWithFix_X1_lookAt
set_option maxRecDepth 20000 in
theorem ggX8_trainWithFix_X1_costOf : GoodIn wsX8_trainWithFix wsX1_costOf := goodIn_r _ [78, 10, 12, 9, 79, 80, 81, 7, 82, 11, 14, 16, 24, 25, 26, 83, 57, 58, 35, 59, 60, 39, 61, 62, 63, 64, 65, 37, 40, 66, 67, 68, 69, 41, 42, 43, 20, 44, 45, 46, 47, 70, 71, 72, 73, 74, 108, 109, 110, 111, 112, 113, 114, 115, 120, 121, 122, 123, 124, 125, 126, 127, 128, 129, 116, 117, 118, 119, 98, 99, 100, 101, 102, 103, 104, 105, 106, 107] (by decide +kernel) (by decide +kernel)
set_option maxRecDepth 20000 in
theorem gX8_trainWithFix_X1_costOf : GoodIn wsX8_trainWithFix (wsV RX8 241 RX1 yX1_costOf wsX1_costOf) := goodIn_app (goodIn_of _ (by decide +kernel)) ggX8_trainWithFix_X1_costOf
theorem dX8_trainWithFix_0 : decode cX8_trainWithFix 0 = .ok (.aload_n 0, 1) := by decide +kernel
theorem dX8_trainWithFix_1 : decode cX8_trainWithFix 1 = .ok (.getfield 48, 3) := by decide +kernel
theorem dX8_trainWithFix_4 : decode cX8_trainWithFix 4 = .ok (.getfield 196, 3) := by decide +kernel
theorem dX8_trainWithFix_7 : decode cX8_trainWithFix 7 = .ok (.iload_n 1, 1) := by decide +kernel
theorem dX8_trainWithFix_8 : decode cX8_trainWithFix 8 = .ok (.iaload, 1) := by decide +kernel
theorem dX8_trainWithFix_9 : decode cX8_trainWithFix 9 = .ok (.istore 4, 2) := by decide +kernel
theorem dX8_trainWithFix_11 : decode cX8_trainWithFix 11 = .ok (.aload_n 0, 1) := by decide +kernel
theorem dX8_trainWithFix_12 : decode cX8_trainWithFix 12 = .ok (.getfield 72, 3) := by decide +kernel
theorem dX8_trainWithFix_15 : decode cX8_trainWithFix 15 = .ok (.iload_n 1, 1) := by decide +kernel
theorem dX8_trainWithFix_16 : decode cX8_trainWithFix 16 = .ok (.iconst 1, 1) := by decide +kernel
theorem dX8_trainWithFix_17 : decode cX8_trainWithFix 17 = .ok (.iload_n 2, 1) := by decide +kernel
theorem dX8_trainWithFix_18 : decode cX8_trainWithFix 18 = .ok (.ishl, 1) := by decide +kernel
theorem dX8_trainWithFix_19 : decode cX8_trainWithFix 19 = .ok (.invokevirtual 237, 3) := by decide +kernel
theorem dX8_trainWithFix_22 : decode cX8_trainWithFix 22 = .ok (.iload 4, 2) := by decide +kernel
theorem dX8_trainWithFix_24 : decode cX8_trainWithFix 24 = .ok (.iconst 1, 1) := by decide +kernel
theorem dX8_trainWithFix_25 : decode cX8_trainWithFix 25 = .ok (.if_icmp .lt 17, 3) := by decide +kernel
theorem dX8_trainWithFix_28 : decode cX8_trainWithFix 28 = .ok (.aload_n 0, 1) := by decide +kernel
theorem dX8_trainWithFix_29 : decode cX8_trainWithFix 29 = .ok (.getfield 72, 3) := by decide +kernel
theorem dX8_trainWithFix_32 : decode cX8_trainWithFix 32 = .ok (.iconst 1, 1) := by decide +kernel
theorem dX8_trainWithFix_33 : decode cX8_trainWithFix 33 = .ok (.iload_n 2, 1) := by decide +kernel
theorem dX8_trainWithFix_34 : decode cX8_trainWithFix 34 = .ok (.ishl, 1) := by decide +kernel
theorem dX8_trainWithFix_35 : decode cX8_trainWithFix 35 = .ok (.invokevirtual 241, 3) := by decide +kernel
theorem dX8_trainWithFix_38 : decode cX8_trainWithFix 38 = .ok (.iconst (-1), 1) := by decide +kernel
theorem dX8_trainWithFix_39 : decode cX8_trainWithFix 39 = .ok (.if_icmp .ne 5, 3) := by decide +kernel
theorem dX8_trainWithFix_42 : decode cX8_trainWithFix 42 = .ok (.iconst (-1), 1) := by decide +kernel
theorem dX8_trainWithFix_43 : decode cX8_trainWithFix 43 = .ok (.ireturn, 1) := by decide +kernel
theorem dX8_trainWithFix_44 : decode cX8_trainWithFix 44 = .ok (.iload_n 3, 1) := by decide +kernel
theorem dX8_trainWithFix_45 : decode cX8_trainWithFix 45 = .ok (.iload 4, 2) := by decide +kernel
theorem dX8_trainWithFix_47 : decode cX8_trainWithFix 47 = .ok (.irem, 1) := by decide +kernel
theorem dX8_trainWithFix_48 : decode cX8_trainWithFix 48 = .ok (.istore 5, 2) := by decide +kernel
theorem dX8_trainWithFix_50 : decode cX8_trainWithFix 50 = .ok (.iload 5, 2) := by decide +kernel
theorem dX8_trainWithFix_52 : decode cX8_trainWithFix 52 = .ok (.ifCond .ne 7, 3) := by decide +kernel
theorem dX8_trainWithFix_55 : decode cX8_trainWithFix 55 = .ok (.iload_n 3, 1) := by decide +kernel
theorem dX8_trainWithFix_56 : decode cX8_trainWithFix 56 = .ok (.goto 10, 3) := by decide +kernel
theorem dX8_trainWithFix_59 : decode cX8_trainWithFix 59 = .ok (.iload_n 3, 1) := by decide +kernel
theorem dX8_trainWithFix_60 : decode cX8_trainWithFix 60 = .ok (.iload 4, 2) := by decide +kernel
theorem dX8_trainWithFix_62 : decode cX8_trainWithFix 62 = .ok (.iadd, 1) := by decide +kernel
theorem dX8_trainWithFix_63 : decode cX8_trainWithFix 63 = .ok (.iload 5, 2) := by decide +kernel
theorem dX8_trainWithFix_65 : decode cX8_trainWithFix 65 = .ok (.isub, 1) := by decide +kernel
theorem dX8_trainWithFix_66 : decode cX8_trainWithFix 66 = .ok (.ireturn, 1) := by decide +kernel
set_option maxRecDepth 20000 in
theorem ggX8_refusalOfRow_X0_hasLine : GoodIn wsX8_refusalOfRow wsX0_hasLine := goodIn_r _ [8, 9, 40, 41, 42, 43, 44, 45, 46, 47, 48, 49] (by decide +kernel) (by decide +kernel)
set_option maxRecDepth 20000 in
theorem gX8_refusalOfRow_X0_hasLine : GoodIn wsX8_refusalOfRow (wsV RX8 181 RX0 yX0_hasLine wsX0_hasLine) := goodIn_app (goodIn_of _ (by decide +kernel)) ggX8_refusalOfRow_X0_hasLine
set_option maxRecDepth 20000 in
theorem ggX8_refusalOfRow_X7_hasChanges : GoodIn wsX8_refusalOfRow wsX7_hasChanges := goodIn_r _ [14, 15, 16, 17, 18, 50, 51, 52, 53, 54, 55, 56, 57, 58, 59] (by decide +kernel) (by decide +kernel)
set_option maxRecDepth 20000 in
theorem gX8_refusalOfRow_X7_hasChanges : GoodIn wsX8_refusalOfRow (wsV RX8 352 RX7 yX7_hasChanges wsX7_hasChanges) := goodIn_app (goodIn_of _ (by decide +kernel)) ggX8_refusalOfRow_X7_hasChanges
set_option maxRecDepth 20000 in
theorem ggX8_refusalOfRow_J6_bitCount_0f7a4 : GoodIn wsX8_refusalOfRow wsJ6_bitCount_0f7a4 := goodIn_r _ [22, 23, 24, 25] (by decide +kernel) (by decide +kernel)
set_option maxRecDepth 20000 in
theorem gX8_refusalOfRow_J6_bitCount_0f7a4 : GoodIn wsX8_refusalOfRow (va_wsS RX8 214 yJ6_bitCount_0f7a4 wsJ6_bitCount_0f7a4) := goodIn_app (goodIn_of _ (by decide +kernel)) ggX8_refusalOfRow_J6_bitCount_0f7a4
theorem dX8_refusalOfRow_0 : decode cX8_refusalOfRow 0 = .ok (.aload_n 0, 1) := by decide +kernel
theorem dX8_refusalOfRow_1 : decode cX8_refusalOfRow 1 = .ok (.getfield 48, 3) := by decide +kernel
theorem dX8_refusalOfRow_4 : decode cX8_refusalOfRow 4 = .ok (.iload_n 1, 1) := by decide +kernel
theorem dX8_refusalOfRow_5 : decode cX8_refusalOfRow 5 = .ok (.invokevirtual 181, 3) := by decide +kernel
theorem dX8_refusalOfRow_8 : decode cX8_refusalOfRow 8 = .ok (.ifCond .eq 14, 3) := by decide +kernel
theorem dX8_refusalOfRow_11 : decode cX8_refusalOfRow 11 = .ok (.aload_n 0, 1) := by decide +kernel
theorem dX8_refusalOfRow_12 : decode cX8_refusalOfRow 12 = .ok (.getfield 28, 3) := by decide +kernel
theorem dX8_refusalOfRow_15 : decode cX8_refusalOfRow 15 = .ok (.iload_n 2, 1) := by decide +kernel
theorem dX8_refusalOfRow_16 : decode cX8_refusalOfRow 16 = .ok (.invokevirtual 352, 3) := by decide +kernel
theorem dX8_refusalOfRow_19 : decode cX8_refusalOfRow 19 = .ok (.ifCond .ne 7, 3) := by decide +kernel
theorem dX8_refusalOfRow_22 : decode cX8_refusalOfRow 22 = .ok (.sipush (-1001), 3) := by decide +kernel
theorem dX8_refusalOfRow_25 : decode cX8_refusalOfRow 25 = .ok (.ireturn, 1) := by decide +kernel
theorem dX8_refusalOfRow_26 : decode cX8_refusalOfRow 26 = .ok (.aload_n 0, 1) := by decide +kernel
theorem dX8_refusalOfRow_27 : decode cX8_refusalOfRow 27 = .ok (.getfield 48, 3) := by decide +kernel
theorem dX8_refusalOfRow_30 : decode cX8_refusalOfRow 30 = .ok (.getfield 187, 3) := by decide +kernel
theorem dX8_refusalOfRow_33 : decode cX8_refusalOfRow 33 = .ok (.iload_n 1, 1) := by decide +kernel
theorem dX8_refusalOfRow_34 : decode cX8_refusalOfRow 34 = .ok (.iaload, 1) := by decide +kernel
theorem dX8_refusalOfRow_35 : decode cX8_refusalOfRow 35 = .ok (.iload_n 2, 1) := by decide +kernel
theorem dX8_refusalOfRow_36 : decode cX8_refusalOfRow 36 = .ok (.iand, 1) := by decide +kernel
theorem dX8_refusalOfRow_37 : decode cX8_refusalOfRow 37 = .ok (.ifCond .ne 12, 3) := by decide +kernel
theorem dX8_refusalOfRow_40 : decode cX8_refusalOfRow 40 = .ok (.iload_n 2, 1) := by decide +kernel
theorem dX8_refusalOfRow_41 : decode cX8_refusalOfRow 41 = .ok (.invokestatic 214, 3) := by decide +kernel
theorem dX8_refusalOfRow_44 : decode cX8_refusalOfRow 44 = .ok (.bipush 8, 2) := by decide +kernel
theorem dX8_refusalOfRow_46 : decode cX8_refusalOfRow 46 = .ok (.if_icmp .le 7, 3) := by decide +kernel
theorem dX8_refusalOfRow_49 : decode cX8_refusalOfRow 49 = .ok (.sipush (-1003), 3) := by decide +kernel
theorem dX8_refusalOfRow_52 : decode cX8_refusalOfRow 52 = .ok (.ireturn, 1) := by decide +kernel
theorem dX8_refusalOfRow_53 : decode cX8_refusalOfRow 53 = .ok (.iconst 0, 1) := by decide +kernel
theorem dX8_refusalOfRow_54 : decode cX8_refusalOfRow 54 = .ok (.ireturn, 1) := by decide +kernel
theorem dX8_has_0 : decode cX8_has 0 = .ok (.iload_n 0, 1) := by decide +kernel
theorem dX8_has_1 : decode cX8_has 1 = .ok (.iload_n 1, 1) := by decide +kernel
theorem dX8_has_2 : decode cX8_has 2 = .ok (.ishr, 1) := by decide +kernel
theorem dX8_has_3 : decode cX8_has 3 = .ok (.iconst 1, 1) := by decide +kernel
theorem dX8_has_4 : decode cX8_has 4 = .ok (.iand, 1) := by decide +kernel
theorem dX8_has_5 : decode cX8_has 5 = .ok (.ifCond .eq 7, 3) := by decide +kernel
theorem dX8_has_8 : decode cX8_has 8 = .ok (.iconst 1, 1) := by decide +kernel
theorem dX8_has_9 : decode cX8_has 9 = .ok (.goto 4, 3) := by decide +kernel
theorem dX8_has_12 : decode cX8_has 12 = .ok (.iconst 0, 1) := by decide +kernel
theorem dX8_has_13 : decode cX8_has 13 = .ok (.ireturn, 1) := by decide +kernel
theorem dX8_isSlot_0 : decode cX8_isSlot 0 = .ok (.iload_n 0, 1) := by decide +kernel
theorem dX8_isSlot_1 : decode cX8_isSlot 1 = .ok (.ifCond .lt 13, 3) := by decide +kernel
theorem dX8_isSlot_4 : decode cX8_isSlot 4 = .ok (.iload_n 0, 1) := by decide +kernel
theorem dX8_isSlot_5 : decode cX8_isSlot 5 = .ok (.bipush 16, 2) := by decide +kernel
theorem dX8_isSlot_7 : decode cX8_isSlot 7 = .ok (.if_icmp .ge 7, 3) := by decide +kernel
theorem dX8_isSlot_10 : decode cX8_isSlot 10 = .ok (.iconst 1, 1) := by decide +kernel
theorem dX8_isSlot_11 : decode cX8_isSlot 11 = .ok (.goto 4, 3) := by decide +kernel
theorem dX8_isSlot_14 : decode cX8_isSlot 14 = .ok (.iconst 0, 1) := by decide +kernel
theorem dX8_isSlot_15 : decode cX8_isSlot 15 = .ok (.ireturn, 1) := by decide +kernel
theorem dX8_isDay_0 : decode cX8_isDay 0 = .ok (.iload_n 0, 1) := by decide +kernel
theorem dX8_isDay_1 : decode cX8_isDay 1 = .ok (.ifCond .lt 14, 3) := by decide +kernel
theorem dX8_isDay_4 : decode cX8_isDay 4 = .ok (.iload_n 0, 1) := by decide +kernel
theorem dX8_isDay_5 : decode cX8_isDay 5 = .ok (.sipush 999, 3) := by decide +kernel
theorem dX8_isDay_8 : decode cX8_isDay 8 = .ok (.if_icmp .gt 7, 3) := by decide +kernel
theorem dX8_isDay_11 : decode cX8_isDay 11 = .ok (.iconst 1, 1) := by decide +kernel
theorem dX8_isDay_12 : decode cX8_isDay 12 = .ok (.goto 4, 3) := by decide +kernel
theorem dX8_isDay_15 : decode cX8_isDay 15 = .ok (.iconst 0, 1) := by decide +kernel
theorem dX8_isDay_16 : decode cX8_isDay 16 = .ok (.ireturn, 1) := by decide +kernel
theorem dX8_firstOnes_0 : decode cX8_firstOnes 0 = .ok (.iconst 1, 1) := by decide +kernel
theorem dX8_firstOnes_1 : decode cX8_firstOnes 1 = .ok (.iload_n 0, 1) := by decide +kernel
theorem dX8_firstOnes_2 : decode cX8_firstOnes 2 = .ok (.ishl, 1) := by decide +kernel
theorem dX8_firstOnes_3 : decode cX8_firstOnes 3 = .ok (.iconst 1, 1) := by decide +kernel
theorem dX8_firstOnes_4 : decode cX8_firstOnes 4 = .ok (.isub, 1) := by decide +kernel
theorem dX8_firstOnes_5 : decode cX8_firstOnes 5 = .ok (.ireturn, 1) := by decide +kernel
theorem dX9_init_0 : decode cX9_init 0 = .ok (.aload_n 0, 1) := by decide +kernel
theorem dX9_init_1 : decode cX9_init 1 = .ok (.invokespecial 1, 3) := by decide +kernel
theorem dX9_init_4 : decode cX9_init 4 = .ok (.aload_n 0, 1) := by decide +kernel
theorem dX9_init_5 : decode cX9_init 5 = .ok (.sipush 384, 3) := by decide +kernel
theorem dX9_init_8 : decode cX9_init 8 = .ok (.newarray .int, 2) := by decide +kernel
theorem dX9_init_10 : decode cX9_init 10 = .ok (.putfield 7, 3) := by decide +kernel
theorem dX9_init_13 : decode cX9_init 13 = .ok (.aload_n 0, 1) := by decide +kernel
theorem dX9_init_14 : decode cX9_init 14 = .ok (.bipush 24, 2) := by decide +kernel
theorem dX9_init_16 : decode cX9_init 16 = .ok (.newarray .int, 2) := by decide +kernel
theorem dX9_init_18 : decode cX9_init 18 = .ok (.putfield 13, 3) := by decide +kernel
theorem dX9_init_21 : decode cX9_init 21 = .ok (.aload_n 0, 1) := by decide +kernel
theorem dX9_init_22 : decode cX9_init 22 = .ok (.bipush 24, 2) := by decide +kernel
theorem dX9_init_24 : decode cX9_init 24 = .ok (.newarray .int, 2) := by decide +kernel
theorem dX9_init_26 : decode cX9_init 26 = .ok (.putfield 16, 3) := by decide +kernel
theorem dX9_init_29 : decode cX9_init 29 = .ok (.aload_n 0, 1) := by decide +kernel
theorem dX9_init_30 : decode cX9_init 30 = .ok (.bipush 10, 2) := by decide +kernel
theorem dX9_init_32 : decode cX9_init 32 = .ok (.newarray .int, 2) := by decide +kernel
theorem dX9_init_34 : decode cX9_init 34 = .ok (.putfield 19, 3) := by decide +kernel
theorem dX9_init_37 : decode cX9_init 37 = .ok (.aload_n 0, 1) := by decide +kernel
theorem dX9_init_38 : decode cX9_init 38 = .ok (.bipush 10, 2) := by decide +kernel
theorem dX9_init_40 : decode cX9_init 40 = .ok (.newarray .int, 2) := by decide +kernel
theorem dX9_init_42 : decode cX9_init 42 = .ok (.putfield 22, 3) := by decide +kernel
theorem dX9_init_45 : decode cX9_init 45 = .ok (.aload_n 0, 1) := by decide +kernel
theorem dX9_init_46 : decode cX9_init 46 = .ok (.bipush 10, 2) := by decide +kernel
theorem dX9_init_48 : decode cX9_init 48 = .ok (.newarray .int, 2) := by decide +kernel
theorem dX9_init_50 : decode cX9_init 50 = .ok (.putfield 25, 3) := by decide +kernel
theorem dX9_init_53 : decode cX9_init 53 = .ok (.aload_n 0, 1) := by decide +kernel
theorem dX9_init_54 : decode cX9_init 54 = .ok (.iconst 4, 1) := by decide +kernel
theorem dX9_init_55 : decode cX9_init 55 = .ok (.newarray .int, 2) := by decide +kernel
theorem dX9_init_57 : decode cX9_init 57 = .ok (.putfield 28, 3) := by decide +kernel
theorem dX9_init_60 : decode cX9_init 60 = .ok (.aload_n 0, 1) := by decide +kernel
theorem dX9_init_61 : decode cX9_init 61 = .ok (.iconst 4, 1) := by decide +kernel
theorem dX9_init_62 : decode cX9_init 62 = .ok (.newarray .int, 2) := by decide +kernel
theorem dX9_init_64 : decode cX9_init 64 = .ok (.putfield 31, 3) := by decide +kernel
theorem dX9_init_67 : decode cX9_init 67 = .ok (.aload_n 0, 1) := by decide +kernel
theorem dX9_init_68 : decode cX9_init 68 = .ok (.bipush 64, 2) := by decide +kernel
theorem dX9_init_70 : decode cX9_init 70 = .ok (.newarray .int, 2) := by decide +kernel
theorem dX9_init_72 : decode cX9_init 72 = .ok (.putfield 34, 3) := by decide +kernel
theorem dX9_init_75 : decode cX9_init 75 = .ok (.aload_n 0, 1) := by decide +kernel
theorem dX9_init_76 : decode cX9_init 76 = .ok (.iconst 4, 1) := by decide +kernel
theorem dX9_init_77 : decode cX9_init 77 = .ok (.newarray .int, 2) := by decide +kernel
theorem dX9_init_79 : decode cX9_init 79 = .ok (.putfield 37, 3) := by decide +kernel
theorem dX9_init_82 : decode cX9_init 82 = .ok (.aload_n 0, 1) := by decide +kernel
theorem dX9_init_83 : decode cX9_init 83 = .ok (.bipush 20, 2) := by decide +kernel
theorem dX9_init_85 : decode cX9_init 85 = .ok (.newarray .int, 2) := by decide +kernel
theorem dX9_init_87 : decode cX9_init 87 = .ok (.putfield 40, 3) := by decide +kernel
theorem dX9_init_90 : decode cX9_init 90 = .ok (.aload_n 0, 1) := by decide +kernel
theorem dX9_init_91 : decode cX9_init 91 = .ok (.bipush 20, 2) := by decide +kernel
theorem dX9_init_93 : decode cX9_init 93 = .ok (.newarray .int, 2) := by decide +kernel
theorem dX9_init_95 : decode cX9_init 95 = .ok (.putfield 43, 3) := by decide +kernel
theorem dX9_init_98 : decode cX9_init 98 = .ok (.aload_n 0, 1) := by decide +kernel
theorem dX9_init_99 : decode cX9_init 99 = .ok (.bipush 20, 2) := by decide +kernel
theorem dX9_init_101 : decode cX9_init 101 = .ok (.newarray .int, 2) := by decide +kernel
theorem dX9_init_103 : decode cX9_init 103 = .ok (.putfield 46, 3) := by decide +kernel
theorem dX9_init_106 : decode cX9_init 106 = .ok (.aload_n 0, 1) := by decide +kernel
theorem dX9_init_107 : decode cX9_init 107 = .ok (.sipush 320, 3) := by decide +kernel
theorem dX9_init_110 : decode cX9_init 110 = .ok (.newarray .int, 2) := by decide +kernel
theorem dX9_init_112 : decode cX9_init 112 = .ok (.putfield 49, 3) := by decide +kernel
theorem dX9_init_115 : decode cX9_init 115 = .ok (.aload_n 0, 1) := by decide +kernel
theorem dX9_init_116 : decode cX9_init 116 = .ok (.sipush 500, 3) := by decide +kernel
theorem dX9_init_119 : decode cX9_init 119 = .ok (.newarray .int, 2) := by decide +kernel
theorem dX9_init_121 : decode cX9_init 121 = .ok (.putfield 52, 3) := by decide +kernel
theorem dX9_init_124 : decode cX9_init 124 = .ok (.aload_n 0, 1) := by decide +kernel
theorem dX9_init_125 : decode cX9_init 125 = .ok (.iconst (-1), 1) := by decide +kernel
theorem dX9_init_126 : decode cX9_init 126 = .ok (.putfield 55, 3) := by decide +kernel
theorem dX9_init_129 : decode cX9_init 129 = .ok (.aload_n 0, 1) := by decide +kernel
theorem dX9_init_130 : decode cX9_init 130 = .ok (.sipush 384, 3) := by decide +kernel
theorem dX9_init_133 : decode cX9_init 133 = .ok (.newarray .int, 2) := by decide +kernel
theorem dX9_init_135 : decode cX9_init 135 = .ok (.putfield 59, 3) := by decide +kernel
theorem dX9_init_138 : decode cX9_init 138 = .ok (.aload_n 0, 1) := by decide +kernel
theorem dX9_init_139 : decode cX9_init 139 = .ok (.bipush 24, 2) := by decide +kernel
theorem dX9_init_141 : decode cX9_init 141 = .ok (.newarray .int, 2) := by decide +kernel
theorem dX9_init_143 : decode cX9_init 143 = .ok (.putfield 62, 3) := by decide +kernel
theorem dX9_init_146 : decode cX9_init 146 = .ok (.aload_n 0, 1) := by decide +kernel
theorem dX9_init_147 : decode cX9_init 147 = .ok (.bipush 24, 2) := by decide +kernel
theorem dX9_init_149 : decode cX9_init 149 = .ok (.newarray .int, 2) := by decide +kernel
theorem dX9_init_151 : decode cX9_init 151 = .ok (.putfield 65, 3) := by decide +kernel
theorem dX9_init_154 : decode cX9_init 154 = .ok (.aload_n 0, 1) := by decide +kernel
theorem dX9_init_155 : decode cX9_init 155 = .ok (.bipush 10, 2) := by decide +kernel
theorem dX9_init_157 : decode cX9_init 157 = .ok (.newarray .int, 2) := by decide +kernel
theorem dX9_init_159 : decode cX9_init 159 = .ok (.putfield 68, 3) := by decide +kernel
theorem dX9_init_162 : decode cX9_init 162 = .ok (.aload_n 0, 1) := by decide +kernel
theorem dX9_init_163 : decode cX9_init 163 = .ok (.bipush 10, 2) := by decide +kernel
theorem dX9_init_165 : decode cX9_init 165 = .ok (.newarray .int, 2) := by decide +kernel
theorem dX9_init_167 : decode cX9_init 167 = .ok (.putfield 71, 3) := by decide +kernel
theorem dX9_init_170 : decode cX9_init 170 = .ok (.aload_n 0, 1) := by decide +kernel
theorem dX9_init_171 : decode cX9_init 171 = .ok (.bipush 10, 2) := by decide +kernel
theorem dX9_init_173 : decode cX9_init 173 = .ok (.newarray .int, 2) := by decide +kernel
theorem dX9_init_175 : decode cX9_init 175 = .ok (.putfield 74, 3) := by decide +kernel
theorem dX9_init_178 : decode cX9_init 178 = .ok (.aload_n 0, 1) := by decide +kernel
theorem dX9_init_179 : decode cX9_init 179 = .ok (.sipush 400, 3) := by decide +kernel
theorem dX9_init_182 : decode cX9_init 182 = .ok (.newarray .int, 2) := by decide +kernel
theorem dX9_init_184 : decode cX9_init 184 = .ok (.putfield 77, 3) := by decide +kernel
theorem dX9_init_187 : decode cX9_init 187 = .ok (.aload_n 0, 1) := by decide +kernel
theorem dX9_init_188 : decode cX9_init 188 = .ok (.bipush 16, 2) := by decide +kernel
theorem dX9_init_190 : decode cX9_init 190 = .ok (.newarray .int, 2) := by decide +kernel
theorem dX9_init_192 : decode cX9_init 192 = .ok (.putfield 80, 3) := by decide +kernel
theorem dX9_init_195 : decode cX9_init 195 = .ok (.aload_n 0, 1) := by decide +kernel
theorem dX9_init_196 : decode cX9_init 196 = .ok (.bipush 16, 2) := by decide +kernel
theorem dX9_init_198 : decode cX9_init 198 = .ok (.newarray .int, 2) := by decide +kernel
theorem dX9_init_200 : decode cX9_init 200 = .ok (.putfield 83, 3) := by decide +kernel
theorem dX9_init_203 : decode cX9_init 203 = .ok (.aload_n 0, 1) := by decide +kernel
theorem dX9_init_204 : decode cX9_init 204 = .ok (.bipush 8, 2) := by decide +kernel
theorem dX9_init_206 : decode cX9_init 206 = .ok (.newarray .int, 2) := by decide +kernel
theorem dX9_init_208 : decode cX9_init 208 = .ok (.putfield 86, 3) := by decide +kernel
theorem dX9_init_211 : decode cX9_init 211 = .ok (.aload_n 0, 1) := by decide +kernel
theorem dX9_init_212 : decode cX9_init 212 = .ok (.bipush 8, 2) := by decide +kernel
theorem dX9_init_214 : decode cX9_init 214 = .ok (.newarray .int, 2) := by decide +kernel
theorem dX9_init_216 : decode cX9_init 216 = .ok (.putfield 89, 3) := by decide +kernel
theorem dX9_init_219 : decode cX9_init 219 = .ok (.aload_n 0, 1) := by decide +kernel
theorem dX9_init_220 : decode cX9_init 220 = .ok (.bipush 8, 2) := by decide +kernel
theorem dX9_init_222 : decode cX9_init 222 = .ok (.newarray .int, 2) := by decide +kernel
theorem dX9_init_224 : decode cX9_init 224 = .ok (.putfield 92, 3) := by decide +kernel
theorem dX9_init_227 : decode cX9_init 227 = .ok (.aload_n 0, 1) := by decide +kernel
theorem dX9_init_228 : decode cX9_init 228 = .ok (.iconst (-1), 1) := by decide +kernel
theorem dX9_init_229 : decode cX9_init 229 = .ok (.putfield 95, 3) := by decide +kernel
theorem dX9_init_232 : decode cX9_init 232 = .ok (.aload_n 0, 1) := by decide +kernel
theorem dX9_init_233 : decode cX9_init 233 = .ok (.iconst (-1), 1) := by decide +kernel
theorem dX9_init_234 : decode cX9_init 234 = .ok (.putfield 98, 3) := by decide +kernel
theorem dX9_init_237 : decode cX9_init 237 = .ok (.aload_n 0, 1) := by decide +kernel
theorem dX9_init_238 : decode cX9_init 238 = .ok (.bipush 8, 2) := by decide +kernel
theorem dX9_init_240 : decode cX9_init 240 = .ok (.newarray .int, 2) := by decide +kernel
theorem dX9_init_242 : decode cX9_init 242 = .ok (.putfield 101, 3) := by decide +kernel
theorem dX9_init_245 : decode cX9_init 245 = .ok (.aload_n 0, 1) := by decide +kernel
theorem dX9_init_246 : decode cX9_init 246 = .ok (.bipush 8, 2) := by decide +kernel
theorem dX9_init_248 : decode cX9_init 248 = .ok (.newarray .int, 2) := by decide +kernel
theorem dX9_init_250 : decode cX9_init 250 = .ok (.putfield 104, 3) := by decide +kernel
theorem dX9_init_253 : decode cX9_init 253 = .ok (.aload_n 0, 1) := by decide +kernel
theorem dX9_init_254 : decode cX9_init 254 = .ok (.sipush 1000, 3) := by decide +kernel
theorem dX9_init_257 : decode cX9_init 257 = .ok (.newarray .int, 2) := by decide +kernel
theorem dX9_init_259 : decode cX9_init 259 = .ok (.putfield 107, 3) := by decide +kernel
theorem dX9_init_262 : decode cX9_init 262 = .ok (.aload_n 0, 1) := by decide +kernel
theorem dX9_init_263 : decode cX9_init 263 = .ok (.iconst 2, 1) := by decide +kernel
theorem dX9_init_264 : decode cX9_init 264 = .ok (.newarray .boolean, 2) := by decide +kernel
theorem dX9_init_266 : decode cX9_init 266 = .ok (.putfield 110, 3) := by decide +kernel
theorem dX9_init_269 : decode cX9_init 269 = .ok (.aload_n 0, 1) := by decide +kernel
theorem dX9_init_270 : decode cX9_init 270 = .ok (.iconst 0, 1) := by decide +kernel
theorem dX9_init_271 : decode cX9_init 271 = .ok (.putfield 114, 3) := by decide +kernel
theorem dX9_init_274 : decode cX9_init 274 = .ok (.return_, 1) := by decide +kernel
theorem dX9_in_0 : decode cX9_in 0 = .ok (.lload_n 0, 1) := by decide +kernel
theorem dX9_in_1 : decode cX9_in 1 = .ok (.lload_n 2, 1) := by decide +kernel
theorem dX9_in_2 : decode cX9_in 2 = .ok (.lcmp, 1) := by decide +kernel
theorem dX9_in_3 : decode cX9_in 3 = .ok (.ifCond .lt 14, 3) := by decide +kernel
theorem dX9_in_6 : decode cX9_in 6 = .ok (.lload_n 0, 1) := by decide +kernel
theorem dX9_in_7 : decode cX9_in 7 = .ok (.lload 4, 2) := by decide +kernel
theorem dX9_in_9 : decode cX9_in 9 = .ok (.lcmp, 1) := by decide +kernel
theorem dX9_in_10 : decode cX9_in 10 = .ok (.ifCond .gt 7, 3) := by decide +kernel
theorem dX9_in_13 : decode cX9_in 13 = .ok (.iconst 1, 1) := by decide +kernel
theorem dX9_in_14 : decode cX9_in 14 = .ok (.goto 4, 3) := by decide +kernel
theorem dX9_in_17 : decode cX9_in 17 = .ok (.iconst 0, 1) := by decide +kernel
theorem dX9_in_18 : decode cX9_in 18 = .ok (.ireturn, 1) := by decide +kernel
theorem dX9_has_0 : decode cX9_has 0 = .ok (.iload_n 0, 1) := by decide +kernel
theorem dX9_has_1 : decode cX9_has 1 = .ok (.iload_n 1, 1) := by decide +kernel
theorem dX9_has_2 : decode cX9_has 2 = .ok (.ishr, 1) := by decide +kernel
theorem dX9_has_3 : decode cX9_has 3 = .ok (.iconst 1, 1) := by decide +kernel
theorem dX9_has_4 : decode cX9_has 4 = .ok (.iand, 1) := by decide +kernel
theorem dX9_has_5 : decode cX9_has 5 = .ok (.iconst 1, 1) := by decide +kernel
theorem dX9_has_6 : decode cX9_has 6 = .ok (.if_icmp .ne 7, 3) := by decide +kernel
theorem dX9_has_9 : decode cX9_has 9 = .ok (.iconst 1, 1) := by decide +kernel
theorem dX9_has_10 : decode cX9_has 10 = .ok (.goto 4, 3) := by decide +kernel
theorem dX9_has_13 : decode cX9_has 13 = .ok (.iconst 0, 1) := by decide +kernel
theorem dX9_has_14 : decode cX9_has 14 = .ok (.ireturn, 1) := by decide +kernel
theorem dX9_bits_0 : decode cX9_bits 0 = .ok (.iconst 0, 1) := by decide +kernel
theorem dX9_bits_1 : decode cX9_bits 1 = .ok (.istore_n 1, 1) := by decide +kernel
theorem dX9_bits_2 : decode cX9_bits 2 = .ok (.iconst 0, 1) := by decide +kernel
theorem dX9_bits_3 : decode cX9_bits 3 = .ok (.istore_n 2, 1) := by decide +kernel
theorem dX9_bits_4 : decode cX9_bits 4 = .ok (.iload_n 2, 1) := by decide +kernel
theorem dX9_bits_5 : decode cX9_bits 5 = .ok (.bipush 24, 2) := by decide +kernel
theorem dX9_bits_7 : decode cX9_bits 7 = .ok (.if_icmp .ge 17, 3) := by decide +kernel
theorem dX9_bits_10 : decode cX9_bits 10 = .ok (.iload_n 1, 1) := by decide +kernel
theorem dX9_bits_11 : decode cX9_bits 11 = .ok (.iload_n 0, 1) := by decide +kernel
theorem dX9_bits_12 : decode cX9_bits 12 = .ok (.iload_n 2, 1) := by decide +kernel
theorem dX9_bits_13 : decode cX9_bits 13 = .ok (.ishr, 1) := by decide +kernel
theorem dX9_bits_14 : decode cX9_bits 14 = .ok (.iconst 1, 1) := by decide +kernel
theorem dX9_bits_15 : decode cX9_bits 15 = .ok (.iand, 1) := by decide +kernel
theorem dX9_bits_16 : decode cX9_bits 16 = .ok (.iadd, 1) := by decide +kernel
theorem dX9_bits_17 : decode cX9_bits 17 = .ok (.istore_n 1, 1) := by decide +kernel
theorem dX9_bits_18 : decode cX9_bits 18 = .ok (.iinc 2 1, 3) := by decide +kernel
theorem dX9_bits_21 : decode cX9_bits 21 = .ok (.goto (-17), 3) := by decide +kernel
theorem dX9_bits_24 : decode cX9_bits 24 = .ok (.iload_n 1, 1) := by decide +kernel
theorem dX9_bits_25 : decode cX9_bits 25 = .ok (.ireturn, 1) := by decide +kernel
set_option maxRecDepth 20000 in
theorem ggX9_isChange_X9_in : GoodIn wsX9_isChange wsX9_in := goodIn_r _ [5] (by decide +kernel) (by decide +kernel)
set_option maxRecDepth 20000 in
theorem gX9_isChange_X9_in : GoodIn wsX9_isChange (va_wsS RX9 117 yX9_in wsX9_in) := goodIn_app (goodIn_of _ (by decide +kernel)) ggX9_isChange_X9_in
theorem dX9_isChange_0 : decode cX9_isChange 0 = .ok (.iload_n 1, 1) := by decide +kernel
theorem dX9_isChange_1 : decode cX9_isChange 1 = .ok (.i2l, 1) := by decide +kernel
theorem dX9_isChange_2 : decode cX9_isChange 2 = .ok (.lconst 0, 1) := by decide +kernel
theorem dX9_isChange_3 : decode cX9_isChange 3 = .ok (.aload_n 0, 1) := by decide +kernel
theorem dX9_isChange_4 : decode cX9_isChange 4 = .ok (.getfield 114, 3) := by decide +kernel
theorem dX9_isChange_7 : decode cX9_isChange 7 = .ok (.iconst 1, 1) := by decide +kernel
theorem dX9_isChange_8 : decode cX9_isChange 8 = .ok (.isub, 1) := by decide +kernel
theorem dX9_isChange_9 : decode cX9_isChange 9 = .ok (.i2l, 1) := by decide +kernel
theorem dX9_isChange_10 : decode cX9_isChange 10 = .ok (.invokestatic 117, 3) := by decide +kernel
theorem dX9_isChange_13 : decode cX9_isChange 13 = .ok (.ireturn, 1) := by decide +kernel
set_option maxRecDepth 20000 in
theorem ggX9_isSlot_X9_in : GoodIn wsX9_isSlot wsX9_in := goodIn_r _ [5] (by decide +kernel) (by decide +kernel)
set_option maxRecDepth 20000 in
theorem gX9_isSlot_X9_in : GoodIn wsX9_isSlot (va_wsS RX9 117 yX9_in wsX9_in) := goodIn_app (goodIn_of _ (by decide +kernel)) ggX9_isSlot_X9_in
theorem dX9_isSlot_0 : decode cX9_isSlot 0 = .ok (.iload_n 0, 1) := by decide +kernel
theorem dX9_isSlot_1 : decode cX9_isSlot 1 = .ok (.i2l, 1) := by decide +kernel
theorem dX9_isSlot_2 : decode cX9_isSlot 2 = .ok (.lconst 0, 1) := by decide +kernel
theorem dX9_isSlot_3 : decode cX9_isSlot 3 = .ok (.ldc2_w 121, 3) := by decide +kernel
theorem dX9_isSlot_6 : decode cX9_isSlot 6 = .ok (.invokestatic 117, 3) := by decide +kernel
theorem dX9_isSlot_9 : decode cX9_isSlot 9 = .ok (.ireturn, 1) := by decide +kernel
set_option maxRecDepth 20000 in
theorem ggX9_isFault_X9_in : GoodIn wsX9_isFault wsX9_in := goodIn_r _ [5] (by decide +kernel) (by decide +kernel)
set_option maxRecDepth 20000 in
theorem gX9_isFault_X9_in : GoodIn wsX9_isFault (va_wsS RX9 117 yX9_in wsX9_in) := goodIn_app (goodIn_of _ (by decide +kernel)) ggX9_isFault_X9_in
theorem dX9_isFault_0 : decode cX9_isFault 0 = .ok (.iload_n 1, 1) := by decide +kernel
theorem dX9_isFault_1 : decode cX9_isFault 1 = .ok (.i2l, 1) := by decide +kernel
theorem dX9_isFault_2 : decode cX9_isFault 2 = .ok (.lconst 0, 1) := by decide +kernel
theorem dX9_isFault_3 : decode cX9_isFault 3 = .ok (.aload_n 0, 1) := by decide +kernel
theorem dX9_isFault_4 : decode cX9_isFault 4 = .ok (.getfield 123, 3) := by decide +kernel
theorem dX9_isFault_7 : decode cX9_isFault 7 = .ok (.iconst 1, 1) := by decide +kernel
theorem dX9_isFault_8 : decode cX9_isFault 8 = .ok (.isub, 1) := by decide +kernel
theorem dX9_isFault_9 : decode cX9_isFault 9 = .ok (.i2l, 1) := by decide +kernel
theorem dX9_isFault_10 : decode cX9_isFault 10 = .ok (.invokestatic 117, 3) := by decide +kernel
theorem dX9_isFault_13 : decode cX9_isFault 13 = .ok (.ireturn, 1) := by decide +kernel
set_option maxRecDepth 20000 in
theorem ggX9_isLine_X9_in : GoodIn wsX9_isLine wsX9_in := goodIn_r _ [5] (by decide +kernel) (by decide +kernel)
set_option maxRecDepth 20000 in
theorem gX9_isLine_X9_in : GoodIn wsX9_isLine (va_wsS RX9 117 yX9_in wsX9_in) := goodIn_app (goodIn_of _ (by decide +kernel)) ggX9_isLine_X9_in
theorem dX9_isLine_0 : decode cX9_isLine 0 = .ok (.iload_n 1, 1) := by decide +kernel
theorem dX9_isLine_1 : decode cX9_isLine 1 = .ok (.i2l, 1) := by decide +kernel
theorem dX9_isLine_2 : decode cX9_isLine 2 = .ok (.lconst 0, 1) := by decide +kernel
theorem dX9_isLine_3 : decode cX9_isLine 3 = .ok (.aload_n 0, 1) := by decide +kernel
theorem dX9_isLine_4 : decode cX9_isLine 4 = .ok (.getfield 126, 3) := by decide +kernel
theorem dX9_isLine_7 : decode cX9_isLine 7 = .ok (.iconst 1, 1) := by decide +kernel
theorem dX9_isLine_8 : decode cX9_isLine 8 = .ok (.isub, 1) := by decide +kernel
theorem dX9_isLine_9 : decode cX9_isLine 9 = .ok (.i2l, 1) := by decide +kernel
theorem dX9_isLine_10 : decode cX9_isLine 10 = .ok (.invokestatic 117, 3) := by decide +kernel
theorem dX9_isLine_13 : decode cX9_isLine 13 = .ok (.ireturn, 1) := by decide +kernel
set_option maxRecDepth 20000 in
theorem ggX9_isRelease_X9_in : GoodIn wsX9_isRelease wsX9_in := goodIn_r _ [5] (by decide +kernel) (by decide +kernel)
set_option maxRecDepth 20000 in
theorem gX9_isRelease_X9_in : GoodIn wsX9_isRelease (va_wsS RX9 117 yX9_in wsX9_in) := goodIn_app (goodIn_of _ (by decide +kernel)) ggX9_isRelease_X9_in
theorem dX9_isRelease_0 : decode cX9_isRelease 0 = .ok (.iload_n 1, 1) := by decide +kernel
theorem dX9_isRelease_1 : decode cX9_isRelease 1 = .ok (.i2l, 1) := by decide +kernel
theorem dX9_isRelease_2 : decode cX9_isRelease 2 = .ok (.lconst 0, 1) := by decide +kernel
theorem dX9_isRelease_3 : decode cX9_isRelease 3 = .ok (.aload_n 0, 1) := by decide +kernel
theorem dX9_isRelease_4 : decode cX9_isRelease 4 = .ok (.getfield 129, 3) := by decide +kernel
theorem dX9_isRelease_7 : decode cX9_isRelease 7 = .ok (.iconst 1, 1) := by decide +kernel
theorem dX9_isRelease_8 : decode cX9_isRelease 8 = .ok (.isub, 1) := by decide +kernel
theorem dX9_isRelease_9 : decode cX9_isRelease 9 = .ok (.i2l, 1) := by decide +kernel
theorem dX9_isRelease_10 : decode cX9_isRelease 10 = .ok (.invokestatic 117, 3) := by decide +kernel
theorem dX9_isRelease_13 : decode cX9_isRelease 13 = .ok (.ireturn, 1) := by decide +kernel
set_option maxRecDepth 20000 in
theorem ggX9_isDay_X9_in : GoodIn wsX9_isDay wsX9_in := goodIn_r _ [5] (by decide +kernel) (by decide +kernel)
set_option maxRecDepth 20000 in
theorem gX9_isDay_X9_in : GoodIn wsX9_isDay (va_wsS RX9 117 yX9_in wsX9_in) := goodIn_app (goodIn_of _ (by decide +kernel)) ggX9_isDay_X9_in
theorem dX9_isDay_0 : decode cX9_isDay 0 = .ok (.iload_n 0, 1) := by decide +kernel
theorem dX9_isDay_1 : decode cX9_isDay 1 = .ok (.i2l, 1) := by decide +kernel
theorem dX9_isDay_2 : decode cX9_isDay 2 = .ok (.lconst 0, 1) := by decide +kernel
theorem dX9_isDay_3 : decode cX9_isDay 3 = .ok (.ldc2_w 132, 3) := by decide +kernel
theorem dX9_isDay_6 : decode cX9_isDay 6 = .ok (.invokestatic 117, 3) := by decide +kernel
theorem dX9_isDay_9 : decode cX9_isDay 9 = .ok (.ireturn, 1) := by decide +kernel
set_option maxRecDepth 20000 in
theorem ggX9_feed_X9_in : GoodIn wsX9_feed wsX9_in := goodIn_r _ [8] (by decide +kernel) (by decide +kernel)
set_option maxRecDepth 20000 in
theorem gX9_feed_X9_in : GoodIn wsX9_feed (va_wsS RX9 117 yX9_in wsX9_in) := goodIn_app (goodIn_of _ (by decide +kernel)) ggX9_feed_X9_in
theorem dX9_feed_0 : decode cX9_feed 0 = .ok (.iload_n 1, 1) := by decide +kernel
theorem dX9_feed_1 : decode cX9_feed 1 = .ok (.i2l, 1) := by decide +kernel
theorem dX9_feed_2 : decode cX9_feed 2 = .ok (.lconst 1, 1) := by decide +kernel
theorem dX9_feed_3 : decode cX9_feed 3 = .ok (.ldc2_w 134, 3) := by decide +kernel
theorem dX9_feed_6 : decode cX9_feed 6 = .ok (.invokestatic 117, 3) := by decide +kernel
theorem dX9_feed_9 : decode cX9_feed 9 = .ok (.ifCond .ne 7, 3) := by decide +kernel
theorem dX9_feed_12 : decode cX9_feed 12 = .ok (.sipush (-1002), 3) := by decide +kernel
theorem dX9_feed_15 : decode cX9_feed 15 = .ok (.ireturn, 1) := by decide +kernel
theorem dX9_feed_16 : decode cX9_feed 16 = .ok (.aload_n 0, 1) := by decide +kernel
theorem dX9_feed_17 : decode cX9_feed 17 = .ok (.getfield 136, 3) := by decide +kernel
theorem dX9_feed_20 : decode cX9_feed 20 = .ok (.iload_n 1, 1) := by decide +kernel
theorem dX9_feed_21 : decode cX9_feed 21 = .ok (.iadd, 1) := by decide +kernel
theorem dX9_feed_22 : decode cX9_feed 22 = .ok (.sipush 500, 3) := by decide +kernel
theorem dX9_feed_25 : decode cX9_feed 25 = .ok (.if_icmp .le 7, 3) := by decide +kernel
theorem dX9_feed_28 : decode cX9_feed 28 = .ok (.sipush (-1004), 3) := by decide +kernel
theorem dX9_feed_31 : decode cX9_feed 31 = .ok (.ireturn, 1) := by decide +kernel
theorem dX9_feed_32 : decode cX9_feed 32 = .ok (.iload_n 1, 1) := by decide +kernel
theorem dX9_feed_33 : decode cX9_feed 33 = .ok (.iconst 1, 1) := by decide +kernel
theorem dX9_feed_34 : decode cX9_feed 34 = .ok (.isub, 1) := by decide +kernel
theorem dX9_feed_35 : decode cX9_feed 35 = .ok (.istore 4, 2) := by decide +kernel
theorem dX9_feed_37 : decode cX9_feed 37 = .ok (.iload 4, 2) := by decide +kernel
theorem dX9_feed_39 : decode cX9_feed 39 = .ok (.ifCond .lt 40, 3) := by decide +kernel
theorem dX9_feed_42 : decode cX9_feed 42 = .ok (.aload_n 0, 1) := by decide +kernel
theorem dX9_feed_43 : decode cX9_feed 43 = .ok (.getfield 52, 3) := by decide +kernel
theorem dX9_feed_46 : decode cX9_feed 46 = .ok (.aload_n 0, 1) := by decide +kernel
theorem dX9_feed_47 : decode cX9_feed 47 = .ok (.getfield 136, 3) := by decide +kernel
theorem dX9_feed_50 : decode cX9_feed 50 = .ok (.lload_n 2, 1) := by decide +kernel
theorem dX9_feed_51 : decode cX9_feed 51 = .ok (.bipush 8, 2) := by decide +kernel
theorem dX9_feed_53 : decode cX9_feed 53 = .ok (.iload 4, 2) := by decide +kernel
theorem dX9_feed_55 : decode cX9_feed 55 = .ok (.imul, 1) := by decide +kernel
theorem dX9_feed_56 : decode cX9_feed 56 = .ok (.lshr, 1) := by decide +kernel
theorem dX9_feed_57 : decode cX9_feed 57 = .ok (.ldc2_w 139, 3) := by decide +kernel
theorem dX9_feed_60 : decode cX9_feed 60 = .ok (.land, 1) := by decide +kernel
theorem dX9_feed_61 : decode cX9_feed 61 = .ok (.l2i, 1) := by decide +kernel
theorem dX9_feed_62 : decode cX9_feed 62 = .ok (.iastore, 1) := by decide +kernel
theorem dX9_feed_63 : decode cX9_feed 63 = .ok (.aload_n 0, 1) := by decide +kernel
theorem dX9_feed_64 : decode cX9_feed 64 = .ok (.dup, 1) := by decide +kernel
theorem dX9_feed_65 : decode cX9_feed 65 = .ok (.getfield 136, 3) := by decide +kernel
theorem dX9_feed_68 : decode cX9_feed 68 = .ok (.iconst 1, 1) := by decide +kernel
theorem dX9_feed_69 : decode cX9_feed 69 = .ok (.iadd, 1) := by decide +kernel
theorem dX9_feed_70 : decode cX9_feed 70 = .ok (.putfield 136, 3) := by decide +kernel
theorem dX9_feed_73 : decode cX9_feed 73 = .ok (.iinc 4 (-1), 3) := by decide +kernel
theorem dX9_feed_76 : decode cX9_feed 76 = .ok (.goto (-39), 3) := by decide +kernel
theorem dX9_feed_79 : decode cX9_feed 79 = .ok (.aload_n 0, 1) := by decide +kernel
theorem dX9_feed_80 : decode cX9_feed 80 = .ok (.getfield 136, 3) := by decide +kernel
theorem dX9_feed_83 : decode cX9_feed 83 = .ok (.ireturn, 1) := by decide +kernel
theorem dX9_here_0 : decode cX9_here 0 = .ok (.aload_n 0, 1) := by decide +kernel
theorem dX9_here_1 : decode cX9_here 1 = .ok (.getfield 141, 3) := by decide +kernel
theorem dX9_here_4 : decode cX9_here 4 = .ok (.aload_n 0, 1) := by decide +kernel
theorem dX9_here_5 : decode cX9_here 5 = .ok (.getfield 136, 3) := by decide +kernel
theorem dX9_here_8 : decode cX9_here 8 = .ok (.if_icmp .ge 30, 3) := by decide +kernel
theorem dX9_here_11 : decode cX9_here 11 = .ok (.aload_n 0, 1) := by decide +kernel
theorem dX9_here_12 : decode cX9_here 12 = .ok (.getfield 52, 3) := by decide +kernel
theorem dX9_here_15 : decode cX9_here 15 = .ok (.aload_n 0, 1) := by decide +kernel
theorem dX9_here_16 : decode cX9_here 16 = .ok (.getfield 141, 3) := by decide +kernel
theorem dX9_here_19 : decode cX9_here 19 = .ok (.iaload, 1) := by decide +kernel
theorem dX9_here_20 : decode cX9_here 20 = .ok (.bipush 32, 2) := by decide +kernel
theorem dX9_here_22 : decode cX9_here 22 = .ok (.if_icmp .ne 16, 3) := by decide +kernel
theorem dX9_here_25 : decode cX9_here 25 = .ok (.aload_n 0, 1) := by decide +kernel
theorem dX9_here_26 : decode cX9_here 26 = .ok (.dup, 1) := by decide +kernel
theorem dX9_here_27 : decode cX9_here 27 = .ok (.getfield 141, 3) := by decide +kernel
theorem dX9_here_30 : decode cX9_here 30 = .ok (.iconst 1, 1) := by decide +kernel
theorem dX9_here_31 : decode cX9_here 31 = .ok (.iadd, 1) := by decide +kernel
theorem dX9_here_32 : decode cX9_here 32 = .ok (.putfield 141, 3) := by decide +kernel
theorem dX9_here_35 : decode cX9_here 35 = .ok (.goto (-35), 3) := by decide +kernel
theorem dX9_here_38 : decode cX9_here 38 = .ok (.aload_n 0, 1) := by decide +kernel
theorem dX9_here_39 : decode cX9_here 39 = .ok (.getfield 141, 3) := by decide +kernel
theorem dX9_here_42 : decode cX9_here 42 = .ok (.aload_n 0, 1) := by decide +kernel
theorem dX9_here_43 : decode cX9_here 43 = .ok (.getfield 136, 3) := by decide +kernel
theorem dX9_here_46 : decode cX9_here 46 = .ok (.if_icmp .ge 15, 3) := by decide +kernel
theorem dX9_here_49 : decode cX9_here 49 = .ok (.aload_n 0, 1) := by decide +kernel
theorem dX9_here_50 : decode cX9_here 50 = .ok (.getfield 52, 3) := by decide +kernel
theorem dX9_here_53 : decode cX9_here 53 = .ok (.aload_n 0, 1) := by decide +kernel
theorem dX9_here_54 : decode cX9_here 54 = .ok (.getfield 141, 3) := by decide +kernel
theorem dX9_here_57 : decode cX9_here 57 = .ok (.iaload, 1) := by decide +kernel
theorem dX9_here_58 : decode cX9_here 58 = .ok (.goto 4, 3) := by decide +kernel
theorem dX9_here_61 : decode cX9_here 61 = .ok (.iconst (-1), 1) := by decide +kernel
theorem dX9_here_62 : decode cX9_here 62 = .ok (.ireturn, 1) := by decide +kernel
theorem dX9_breaks_0 : decode cX9_breaks 0 = .ok (.aload_n 0, 1) := by decide +kernel
theorem dX9_breaks_1 : decode cX9_breaks 1 = .ok (.iload_n 2, 1) := by decide +kernel
theorem dX9_breaks_2 : decode cX9_breaks 2 = .ok (.putfield 55, 3) := by decide +kernel
theorem dX9_breaks_5 : decode cX9_breaks 5 = .ok (.iload_n 1, 1) := by decide +kernel
theorem dX9_breaks_6 : decode cX9_breaks 6 = .ok (.ireturn, 1) := by decide +kernel
set_option maxRecDepth 20000 in
theorem ggX9_readWord_X9_here : GoodIn wsX9_readWord wsX9_here := goodIn_r _ [16, 2, 4, 5, 20, 21, 22, 23, 24, 25, 26, 27, 28, 29, 30, 31, 32, 33, 34, 35, 36, 37, 38, 39, 40, 41, 42, 43, 44, 45, 46, 47, 48, 49, 50, 51, 52, 53, 54, 55, 56, 57, 58, 59, 60, 61, 62, 63, 64, 65, 66, 67, 68, 69, 70, 71, 72, 73, 74] (by decide +kernel) (by decide +kernel)
set_option maxRecDepth 20000 in
theorem gX9_readWord_X9_here : GoodIn wsX9_readWord (wsV RX9 144 RX9 yX9_here wsX9_here) := goodIn_app (goodIn_of _ (by decide +kernel)) ggX9_readWord_X9_here
set_option maxRecDepth 20000 in
theorem ggX9_readWord_X9_in : GoodIn wsX9_readWord wsX9_in := goodIn_r _ [19] (by decide +kernel) (by decide +kernel)
set_option maxRecDepth 20000 in
theorem gX9_readWord_X9_in : GoodIn wsX9_readWord (va_wsS RX9 117 yX9_in wsX9_in) := goodIn_app (goodIn_of _ (by decide +kernel)) ggX9_readWord_X9_in
theorem dX9_readWord_0 : decode cX9_readWord 0 = .ok (.aload_n 0, 1) := by decide +kernel
theorem dX9_readWord_1 : decode cX9_readWord 1 = .ok (.invokevirtual 144, 3) := by decide +kernel
theorem dX9_readWord_4 : decode cX9_readWord 4 = .ok (.istore_n 1, 1) := by decide +kernel
theorem dX9_readWord_5 : decode cX9_readWord 5 = .ok (.aload_n 0, 1) := by decide +kernel
theorem dX9_readWord_6 : decode cX9_readWord 6 = .ok (.lconst 0, 1) := by decide +kernel
theorem dX9_readWord_7 : decode cX9_readWord 7 = .ok (.putfield 148, 3) := by decide +kernel
theorem dX9_readWord_10 : decode cX9_readWord 10 = .ok (.aload_n 0, 1) := by decide +kernel
theorem dX9_readWord_11 : decode cX9_readWord 11 = .ok (.aload_n 0, 1) := by decide +kernel
theorem dX9_readWord_12 : decode cX9_readWord 12 = .ok (.getfield 141, 3) := by decide +kernel
theorem dX9_readWord_15 : decode cX9_readWord 15 = .ok (.putfield 152, 3) := by decide +kernel
theorem dX9_readWord_18 : decode cX9_readWord 18 = .ok (.aload_n 0, 1) := by decide +kernel
theorem dX9_readWord_19 : decode cX9_readWord 19 = .ok (.getfield 152, 3) := by decide +kernel
theorem dX9_readWord_22 : decode cX9_readWord 22 = .ok (.aload_n 0, 1) := by decide +kernel
theorem dX9_readWord_23 : decode cX9_readWord 23 = .ok (.getfield 136, 3) := by decide +kernel
theorem dX9_readWord_26 : decode cX9_readWord 26 = .ok (.if_icmp .ge 82, 3) := by decide +kernel
theorem dX9_readWord_29 : decode cX9_readWord 29 = .ok (.aload_n 0, 1) := by decide +kernel
theorem dX9_readWord_30 : decode cX9_readWord 30 = .ok (.getfield 52, 3) := by decide +kernel
theorem dX9_readWord_33 : decode cX9_readWord 33 = .ok (.aload_n 0, 1) := by decide +kernel
theorem dX9_readWord_34 : decode cX9_readWord 34 = .ok (.getfield 152, 3) := by decide +kernel
theorem dX9_readWord_37 : decode cX9_readWord 37 = .ok (.iaload, 1) := by decide +kernel
theorem dX9_readWord_38 : decode cX9_readWord 38 = .ok (.i2l, 1) := by decide +kernel
theorem dX9_readWord_39 : decode cX9_readWord 39 = .ok (.ldc2_w 155, 3) := by decide +kernel
theorem dX9_readWord_42 : decode cX9_readWord 42 = .ok (.ldc2_w 157, 3) := by decide +kernel
theorem dX9_readWord_45 : decode cX9_readWord 45 = .ok (.invokestatic 117, 3) := by decide +kernel
theorem dX9_readWord_48 : decode cX9_readWord 48 = .ok (.ifCond .eq 60, 3) := by decide +kernel
theorem dX9_readWord_51 : decode cX9_readWord 51 = .ok (.aload_n 0, 1) := by decide +kernel
theorem dX9_readWord_52 : decode cX9_readWord 52 = .ok (.aload_n 0, 1) := by decide +kernel
theorem dX9_readWord_53 : decode cX9_readWord 53 = .ok (.getfield 148, 3) := by decide +kernel
theorem dX9_readWord_56 : decode cX9_readWord 56 = .ok (.ldc2_w 159, 3) := by decide +kernel
theorem dX9_readWord_59 : decode cX9_readWord 59 = .ok (.lcmp, 1) := by decide +kernel
theorem dX9_readWord_60 : decode cX9_readWord 60 = .ok (.ifCond .le 9, 3) := by decide +kernel
theorem dX9_readWord_63 : decode cX9_readWord 63 = .ok (.ldc2_w 161, 3) := by decide +kernel
theorem dX9_readWord_66 : decode cX9_readWord 66 = .ok (.goto 26, 3) := by decide +kernel
theorem dX9_readWord_69 : decode cX9_readWord 69 = .ok (.ldc2_w 163, 3) := by decide +kernel
theorem dX9_readWord_72 : decode cX9_readWord 72 = .ok (.aload_n 0, 1) := by decide +kernel
theorem dX9_readWord_73 : decode cX9_readWord 73 = .ok (.getfield 148, 3) := by decide +kernel
theorem dX9_readWord_76 : decode cX9_readWord 76 = .ok (.lmul, 1) := by decide +kernel
theorem dX9_readWord_77 : decode cX9_readWord 77 = .ok (.aload_n 0, 1) := by decide +kernel
theorem dX9_readWord_78 : decode cX9_readWord 78 = .ok (.getfield 52, 3) := by decide +kernel
theorem dX9_readWord_81 : decode cX9_readWord 81 = .ok (.aload_n 0, 1) := by decide +kernel
theorem dX9_readWord_82 : decode cX9_readWord 82 = .ok (.getfield 152, 3) := by decide +kernel
theorem dX9_readWord_85 : decode cX9_readWord 85 = .ok (.iaload, 1) := by decide +kernel
theorem dX9_readWord_86 : decode cX9_readWord 86 = .ok (.i2l, 1) := by decide +kernel
theorem dX9_readWord_87 : decode cX9_readWord 87 = .ok (.ladd, 1) := by decide +kernel
theorem dX9_readWord_88 : decode cX9_readWord 88 = .ok (.ldc2_w 165, 3) := by decide +kernel
theorem dX9_readWord_91 : decode cX9_readWord 91 = .ok (.lsub, 1) := by decide +kernel
theorem dX9_readWord_92 : decode cX9_readWord 92 = .ok (.putfield 148, 3) := by decide +kernel
theorem dX9_readWord_95 : decode cX9_readWord 95 = .ok (.aload_n 0, 1) := by decide +kernel
theorem dX9_readWord_96 : decode cX9_readWord 96 = .ok (.dup, 1) := by decide +kernel
theorem dX9_readWord_97 : decode cX9_readWord 97 = .ok (.getfield 152, 3) := by decide +kernel
theorem dX9_readWord_100 : decode cX9_readWord 100 = .ok (.iconst 1, 1) := by decide +kernel
theorem dX9_readWord_101 : decode cX9_readWord 101 = .ok (.iadd, 1) := by decide +kernel
theorem dX9_readWord_102 : decode cX9_readWord 102 = .ok (.putfield 152, 3) := by decide +kernel
theorem dX9_readWord_105 : decode cX9_readWord 105 = .ok (.goto (-87), 3) := by decide +kernel
theorem dX9_readWord_108 : decode cX9_readWord 108 = .ok (.return_, 1) := by decide +kernel
theorem dX9_code_0 : decode cX9_code 0 = .ok (.ldc2_w 163, 3) := by decide +kernel
theorem dX9_code_3 : decode cX9_code 3 = .ok (.ldc2_w 163, 3) := by decide +kernel
theorem dX9_code_6 : decode cX9_code 6 = .ok (.ldc2_w 163, 3) := by decide +kernel
theorem dX9_code_9 : decode cX9_code 9 = .ok (.iload_n 0, 1) := by decide +kernel
theorem dX9_code_10 : decode cX9_code 10 = .ok (.i2l, 1) := by decide +kernel
theorem dX9_code_11 : decode cX9_code 11 = .ok (.ldc2_w 165, 3) := by decide +kernel
theorem dX9_code_14 : decode cX9_code 14 = .ok (.lsub, 1) := by decide +kernel
theorem dX9_code_15 : decode cX9_code 15 = .ok (.lmul, 1) := by decide +kernel
theorem dX9_code_16 : decode cX9_code 16 = .ok (.iload_n 1, 1) := by decide +kernel
theorem dX9_code_17 : decode cX9_code 17 = .ok (.i2l, 1) := by decide +kernel
theorem dX9_code_18 : decode cX9_code 18 = .ok (.ladd, 1) := by decide +kernel
theorem dX9_code_19 : decode cX9_code 19 = .ok (.ldc2_w 165, 3) := by decide +kernel
theorem dX9_code_22 : decode cX9_code 22 = .ok (.lsub, 1) := by decide +kernel
theorem dX9_code_23 : decode cX9_code 23 = .ok (.lmul, 1) := by decide +kernel
theorem dX9_code_24 : decode cX9_code 24 = .ok (.iload_n 2, 1) := by decide +kernel
theorem dX9_code_25 : decode cX9_code 25 = .ok (.i2l, 1) := by decide +kernel
theorem dX9_code_26 : decode cX9_code 26 = .ok (.ladd, 1) := by decide +kernel
theorem dX9_code_27 : decode cX9_code 27 = .ok (.ldc2_w 165, 3) := by decide +kernel
theorem dX9_code_30 : decode cX9_code 30 = .ok (.lsub, 1) := by decide +kernel
theorem dX9_code_31 : decode cX9_code 31 = .ok (.lmul, 1) := by decide +kernel
theorem dX9_code_32 : decode cX9_code 32 = .ok (.iload_n 3, 1) := by decide +kernel
theorem dX9_code_33 : decode cX9_code 33 = .ok (.i2l, 1) := by decide +kernel
theorem dX9_code_34 : decode cX9_code 34 = .ok (.ladd, 1) := by decide +kernel
theorem dX9_code_35 : decode cX9_code 35 = .ok (.ldc2_w 165, 3) := by decide +kernel
theorem dX9_code_38 : decode cX9_code 38 = .ok (.lsub, 1) := by decide +kernel
theorem dX9_code_39 : decode cX9_code 39 = .ok (.lreturn, 1) := by decide +kernel
theorem dX9_longer_0 : decode cX9_longer 0 = .ok (.ldc2_w 163, 3) := by decide +kernel
theorem dX9_longer_3 : decode cX9_longer 3 = .ok (.lload_n 0, 1) := by decide +kernel
theorem dX9_longer_4 : decode cX9_longer 4 = .ok (.lmul, 1) := by decide +kernel
theorem dX9_longer_5 : decode cX9_longer 5 = .ok (.iload_n 2, 1) := by decide +kernel
theorem dX9_longer_6 : decode cX9_longer 6 = .ok (.i2l, 1) := by decide +kernel
theorem dX9_longer_7 : decode cX9_longer 7 = .ok (.ladd, 1) := by decide +kernel
theorem dX9_longer_8 : decode cX9_longer 8 = .ok (.ldc2_w 165, 3) := by decide +kernel
theorem dX9_longer_11 : decode cX9_longer 11 = .ok (.lsub, 1) := by decide +kernel
theorem dX9_longer_12 : decode cX9_longer 12 = .ok (.lreturn, 1) := by decide +kernel
set_option maxRecDepth 20000 in
theorem ggX9_takeNumber_X9_here : GoodIn wsX9_takeNumber wsX9_here := goodIn_r _ [13, 3, 6, 7, 22, 23, 24, 25, 26, 27, 28, 29, 30, 31, 32, 33, 34, 35, 36, 37, 38, 39, 40, 41, 42, 43, 44, 45, 46, 47, 48, 49, 50, 51, 52, 53, 54, 55, 56, 57, 58, 59, 60, 61, 62, 63, 64, 65, 66, 67, 68, 69, 70, 71, 72, 73, 74, 75, 76] (by decide +kernel) (by decide +kernel)
set_option maxRecDepth 20000 in
theorem gX9_takeNumber_X9_here : GoodIn wsX9_takeNumber (wsV RX9 144 RX9 yX9_here wsX9_here) := goodIn_app (goodIn_of _ (by decide +kernel)) ggX9_takeNumber_X9_here
set_option maxRecDepth 20000 in
theorem ggX9_takeNumber_X9_in : GoodIn wsX9_takeNumber wsX9_in := goodIn_r _ [16] (by decide +kernel) (by decide +kernel)
set_option maxRecDepth 20000 in
theorem gX9_takeNumber_X9_in : GoodIn wsX9_takeNumber (va_wsS RX9 117 yX9_in wsX9_in) := goodIn_app (goodIn_of _ (by decide +kernel)) ggX9_takeNumber_X9_in
set_option maxRecDepth 20000 in
theorem ggX9_takeNumber_X9_breaks : GoodIn wsX9_takeNumber wsX9_breaks := goodIn_r _ [20, 21, 22, 23, 24, 25, 26, 27, 28, 29, 30, 31, 32, 33, 34, 35, 36, 37, 38, 39, 40, 41, 42, 43, 44, 45, 46, 47, 48, 49, 50, 51, 52, 53, 54, 55, 56, 57, 58, 59, 60, 61, 62, 63, 64, 65, 66, 67, 68, 69, 70, 71, 72, 73, 74, 75, 76] (by decide +kernel) (by decide +kernel)
set_option maxRecDepth 20000 in
theorem gX9_takeNumber_X9_breaks : GoodIn wsX9_takeNumber (wsV RX9 171 RX9 yX9_breaks wsX9_breaks) := goodIn_app (goodIn_of _ (by decide +kernel)) ggX9_takeNumber_X9_breaks
theorem dX9_takeNumber_0 : decode cX9_takeNumber 0 = .ok (.aload_n 0, 1) := by decide +kernel
theorem dX9_takeNumber_1 : decode cX9_takeNumber 1 = .ok (.invokevirtual 144, 3) := by decide +kernel
theorem dX9_takeNumber_4 : decode cX9_takeNumber 4 = .ok (.istore_n 3, 1) := by decide +kernel
theorem dX9_takeNumber_5 : decode cX9_takeNumber 5 = .ok (.iload_n 3, 1) := by decide +kernel
theorem dX9_takeNumber_6 : decode cX9_takeNumber 6 = .ok (.i2l, 1) := by decide +kernel
theorem dX9_takeNumber_7 : decode cX9_takeNumber 7 = .ok (.ldc2_w 167, 3) := by decide +kernel
theorem dX9_takeNumber_10 : decode cX9_takeNumber 10 = .ok (.ldc2_w 169, 3) := by decide +kernel
theorem dX9_takeNumber_13 : decode cX9_takeNumber 13 = .ok (.invokestatic 117, 3) := by decide +kernel
theorem dX9_takeNumber_16 : decode cX9_takeNumber 16 = .ok (.ifCond .ne 13, 3) := by decide +kernel
theorem dX9_takeNumber_19 : decode cX9_takeNumber 19 = .ok (.aload_n 0, 1) := by decide +kernel
theorem dX9_takeNumber_20 : decode cX9_takeNumber 20 = .ok (.iconst 1, 1) := by decide +kernel
theorem dX9_takeNumber_21 : decode cX9_takeNumber 21 = .ok (.aload_n 0, 1) := by decide +kernel
theorem dX9_takeNumber_22 : decode cX9_takeNumber 22 = .ok (.getfield 141, 3) := by decide +kernel
theorem dX9_takeNumber_25 : decode cX9_takeNumber 25 = .ok (.invokevirtual 171, 3) := by decide +kernel
theorem dX9_takeNumber_28 : decode cX9_takeNumber 28 = .ok (.ireturn, 1) := by decide +kernel
theorem dX9_takeNumber_29 : decode cX9_takeNumber 29 = .ok (.aload_n 0, 1) := by decide +kernel
theorem dX9_takeNumber_30 : decode cX9_takeNumber 30 = .ok (.aload_n 0, 1) := by decide +kernel
theorem dX9_takeNumber_31 : decode cX9_takeNumber 31 = .ok (.getfield 141, 3) := by decide +kernel
theorem dX9_takeNumber_34 : decode cX9_takeNumber 34 = .ok (.putfield 175, 3) := by decide +kernel
theorem dX9_takeNumber_37 : decode cX9_takeNumber 37 = .ok (.aload_n 0, 1) := by decide +kernel
theorem dX9_takeNumber_38 : decode cX9_takeNumber 38 = .ok (.iconst 0, 1) := by decide +kernel
theorem dX9_takeNumber_39 : decode cX9_takeNumber 39 = .ok (.putfield 178, 3) := by decide +kernel
theorem dX9_takeNumber_42 : decode cX9_takeNumber 42 = .ok (.aload_n 0, 1) := by decide +kernel
theorem dX9_takeNumber_43 : decode cX9_takeNumber 43 = .ok (.getfield 141, 3) := by decide +kernel
theorem dX9_takeNumber_46 : decode cX9_takeNumber 46 = .ok (.aload_n 0, 1) := by decide +kernel
theorem dX9_takeNumber_47 : decode cX9_takeNumber 47 = .ok (.getfield 136, 3) := by decide +kernel
theorem dX9_takeNumber_50 : decode cX9_takeNumber 50 = .ok (.if_icmp .ge 79, 3) := by decide +kernel
theorem dX9_takeNumber_53 : decode cX9_takeNumber 53 = .ok (.aload_n 0, 1) := by decide +kernel
theorem dX9_takeNumber_54 : decode cX9_takeNumber 54 = .ok (.getfield 52, 3) := by decide +kernel
theorem dX9_takeNumber_57 : decode cX9_takeNumber 57 = .ok (.aload_n 0, 1) := by decide +kernel
theorem dX9_takeNumber_58 : decode cX9_takeNumber 58 = .ok (.getfield 141, 3) := by decide +kernel
theorem dX9_takeNumber_61 : decode cX9_takeNumber 61 = .ok (.iaload, 1) := by decide +kernel
theorem dX9_takeNumber_62 : decode cX9_takeNumber 62 = .ok (.i2l, 1) := by decide +kernel
theorem dX9_takeNumber_63 : decode cX9_takeNumber 63 = .ok (.ldc2_w 167, 3) := by decide +kernel
theorem dX9_takeNumber_66 : decode cX9_takeNumber 66 = .ok (.ldc2_w 169, 3) := by decide +kernel
theorem dX9_takeNumber_69 : decode cX9_takeNumber 69 = .ok (.invokestatic 117, 3) := by decide +kernel
theorem dX9_takeNumber_72 : decode cX9_takeNumber 72 = .ok (.ifCond .eq 57, 3) := by decide +kernel
theorem dX9_takeNumber_75 : decode cX9_takeNumber 75 = .ok (.aload_n 0, 1) := by decide +kernel
theorem dX9_takeNumber_76 : decode cX9_takeNumber 76 = .ok (.aload_n 0, 1) := by decide +kernel
theorem dX9_takeNumber_77 : decode cX9_takeNumber 77 = .ok (.getfield 178, 3) := by decide +kernel
theorem dX9_takeNumber_80 : decode cX9_takeNumber 80 = .ok (.sipush 10000, 3) := by decide +kernel
theorem dX9_takeNumber_83 : decode cX9_takeNumber 83 = .ok (.if_icmp .le 10, 3) := by decide +kernel
theorem dX9_takeNumber_86 : decode cX9_takeNumber 86 = .ok (.aload_n 0, 1) := by decide +kernel
theorem dX9_takeNumber_87 : decode cX9_takeNumber 87 = .ok (.getfield 178, 3) := by decide +kernel
theorem dX9_takeNumber_90 : decode cX9_takeNumber 90 = .ok (.goto 23, 3) := by decide +kernel
theorem dX9_takeNumber_93 : decode cX9_takeNumber 93 = .ok (.bipush 10, 2) := by decide +kernel
theorem dX9_takeNumber_95 : decode cX9_takeNumber 95 = .ok (.aload_n 0, 1) := by decide +kernel
theorem dX9_takeNumber_96 : decode cX9_takeNumber 96 = .ok (.getfield 178, 3) := by decide +kernel
theorem dX9_takeNumber_99 : decode cX9_takeNumber 99 = .ok (.imul, 1) := by decide +kernel
theorem dX9_takeNumber_100 : decode cX9_takeNumber 100 = .ok (.aload_n 0, 1) := by decide +kernel
theorem dX9_takeNumber_101 : decode cX9_takeNumber 101 = .ok (.getfield 52, 3) := by decide +kernel
theorem dX9_takeNumber_104 : decode cX9_takeNumber 104 = .ok (.aload_n 0, 1) := by decide +kernel
theorem dX9_takeNumber_105 : decode cX9_takeNumber 105 = .ok (.getfield 141, 3) := by decide +kernel
theorem dX9_takeNumber_108 : decode cX9_takeNumber 108 = .ok (.iaload, 1) := by decide +kernel
theorem dX9_takeNumber_109 : decode cX9_takeNumber 109 = .ok (.iadd, 1) := by decide +kernel
theorem dX9_takeNumber_110 : decode cX9_takeNumber 110 = .ok (.bipush 48, 2) := by decide +kernel
theorem dX9_takeNumber_112 : decode cX9_takeNumber 112 = .ok (.isub, 1) := by decide +kernel
theorem dX9_takeNumber_113 : decode cX9_takeNumber 113 = .ok (.putfield 178, 3) := by decide +kernel
theorem dX9_takeNumber_116 : decode cX9_takeNumber 116 = .ok (.aload_n 0, 1) := by decide +kernel
theorem dX9_takeNumber_117 : decode cX9_takeNumber 117 = .ok (.dup, 1) := by decide +kernel
theorem dX9_takeNumber_118 : decode cX9_takeNumber 118 = .ok (.getfield 141, 3) := by decide +kernel
theorem dX9_takeNumber_121 : decode cX9_takeNumber 121 = .ok (.iconst 1, 1) := by decide +kernel
theorem dX9_takeNumber_122 : decode cX9_takeNumber 122 = .ok (.iadd, 1) := by decide +kernel
theorem dX9_takeNumber_123 : decode cX9_takeNumber 123 = .ok (.putfield 141, 3) := by decide +kernel
theorem dX9_takeNumber_126 : decode cX9_takeNumber 126 = .ok (.goto (-84), 3) := by decide +kernel
theorem dX9_takeNumber_129 : decode cX9_takeNumber 129 = .ok (.aload_n 0, 1) := by decide +kernel
theorem dX9_takeNumber_130 : decode cX9_takeNumber 130 = .ok (.getfield 141, 3) := by decide +kernel
theorem dX9_takeNumber_133 : decode cX9_takeNumber 133 = .ok (.aload_n 0, 1) := by decide +kernel
theorem dX9_takeNumber_134 : decode cX9_takeNumber 134 = .ok (.getfield 175, 3) := by decide +kernel
theorem dX9_takeNumber_137 : decode cX9_takeNumber 137 = .ok (.isub, 1) := by decide +kernel
theorem dX9_takeNumber_138 : decode cX9_takeNumber 138 = .ok (.aload_n 0, 1) := by decide +kernel
theorem dX9_takeNumber_139 : decode cX9_takeNumber 139 = .ok (.getfield 181, 3) := by decide +kernel
theorem dX9_takeNumber_142 : decode cX9_takeNumber 142 = .ok (.if_icmp .gt 18, 3) := by decide +kernel
theorem dX9_takeNumber_145 : decode cX9_takeNumber 145 = .ok (.aload_n 0, 1) := by decide +kernel
theorem dX9_takeNumber_146 : decode cX9_takeNumber 146 = .ok (.getfield 178, 3) := by decide +kernel
theorem dX9_takeNumber_149 : decode cX9_takeNumber 149 = .ok (.i2l, 1) := by decide +kernel
theorem dX9_takeNumber_150 : decode cX9_takeNumber 150 = .ok (.iload_n 1, 1) := by decide +kernel
theorem dX9_takeNumber_151 : decode cX9_takeNumber 151 = .ok (.i2l, 1) := by decide +kernel
theorem dX9_takeNumber_152 : decode cX9_takeNumber 152 = .ok (.iload_n 2, 1) := by decide +kernel
theorem dX9_takeNumber_153 : decode cX9_takeNumber 153 = .ok (.i2l, 1) := by decide +kernel
theorem dX9_takeNumber_154 : decode cX9_takeNumber 154 = .ok (.invokestatic 117, 3) := by decide +kernel
theorem dX9_takeNumber_157 : decode cX9_takeNumber 157 = .ok (.ifCond .ne 15, 3) := by decide +kernel
theorem dX9_takeNumber_160 : decode cX9_takeNumber 160 = .ok (.aload_n 0, 1) := by decide +kernel
theorem dX9_takeNumber_161 : decode cX9_takeNumber 161 = .ok (.iconst 2, 1) := by decide +kernel
theorem dX9_takeNumber_162 : decode cX9_takeNumber 162 = .ok (.aload_n 0, 1) := by decide +kernel
theorem dX9_takeNumber_163 : decode cX9_takeNumber 163 = .ok (.getfield 175, 3) := by decide +kernel
theorem dX9_takeNumber_166 : decode cX9_takeNumber 166 = .ok (.invokevirtual 171, 3) := by decide +kernel
theorem dX9_takeNumber_169 : decode cX9_takeNumber 169 = .ok (.goto 4, 3) := by decide +kernel
theorem dX9_takeNumber_172 : decode cX9_takeNumber 172 = .ok (.iconst 0, 1) := by decide +kernel
theorem dX9_takeNumber_173 : decode cX9_takeNumber 173 = .ok (.ireturn, 1) := by decide +kernel
set_option maxRecDepth 20000 in
theorem ggX9_takeStop_X9_here : GoodIn wsX9_takeStop wsX9_here := goodIn_r _ [6, 1, 7, 8, 14, 15, 16, 17, 18, 19, 20, 21, 22, 23, 24, 25, 26, 27, 28, 29, 30, 31, 32, 33, 34, 35, 36, 37, 38, 39, 40, 41, 42, 43, 44, 45, 46, 47, 48, 49, 50, 51, 52, 53, 54, 55, 56, 57, 58, 59, 60, 61, 62, 63, 64, 65, 66, 67, 68] (by decide +kernel) (by decide +kernel)
set_option maxRecDepth 20000 in
theorem gX9_takeStop_X9_here : GoodIn wsX9_takeStop (wsV RX9 144 RX9 yX9_here wsX9_here) := goodIn_app (goodIn_of _ (by decide +kernel)) ggX9_takeStop_X9_here
set_option maxRecDepth 20000 in
theorem ggX9_takeStop_X9_breaks : GoodIn wsX9_takeStop wsX9_breaks := goodIn_r _ [12, 13, 14, 15, 16, 17, 18, 19, 20, 21, 22, 23, 24, 25, 26, 27, 28, 29, 30, 31, 32, 33, 34, 35, 36, 37, 38, 39, 40, 41, 42, 43, 44, 45, 46, 47, 48, 49, 50, 51, 52, 53, 54, 55, 56, 57, 58, 59, 60, 61, 62, 63, 64, 65, 66, 67, 68] (by decide +kernel) (by decide +kernel)
set_option maxRecDepth 20000 in
theorem gX9_takeStop_X9_breaks : GoodIn wsX9_takeStop (wsV RX9 171 RX9 yX9_breaks wsX9_breaks) := goodIn_app (goodIn_of _ (by decide +kernel)) ggX9_takeStop_X9_breaks
theorem dX9_takeStop_0 : decode cX9_takeStop 0 = .ok (.aload_n 0, 1) := by decide +kernel
theorem dX9_takeStop_1 : decode cX9_takeStop 1 = .ok (.invokevirtual 144, 3) := by decide +kernel
theorem dX9_takeStop_4 : decode cX9_takeStop 4 = .ok (.bipush 59, 2) := by decide +kernel
theorem dX9_takeStop_6 : decode cX9_takeStop 6 = .ok (.if_icmp .eq 13, 3) := by decide +kernel
theorem dX9_takeStop_9 : decode cX9_takeStop 9 = .ok (.aload_n 0, 1) := by decide +kernel
theorem dX9_takeStop_10 : decode cX9_takeStop 10 = .ok (.iconst 1, 1) := by decide +kernel
theorem dX9_takeStop_11 : decode cX9_takeStop 11 = .ok (.aload_n 0, 1) := by decide +kernel
theorem dX9_takeStop_12 : decode cX9_takeStop 12 = .ok (.getfield 141, 3) := by decide +kernel
theorem dX9_takeStop_15 : decode cX9_takeStop 15 = .ok (.invokevirtual 171, 3) := by decide +kernel
theorem dX9_takeStop_18 : decode cX9_takeStop 18 = .ok (.ireturn, 1) := by decide +kernel
theorem dX9_takeStop_19 : decode cX9_takeStop 19 = .ok (.aload_n 0, 1) := by decide +kernel
theorem dX9_takeStop_20 : decode cX9_takeStop 20 = .ok (.dup, 1) := by decide +kernel
theorem dX9_takeStop_21 : decode cX9_takeStop 21 = .ok (.getfield 141, 3) := by decide +kernel
theorem dX9_takeStop_24 : decode cX9_takeStop 24 = .ok (.iconst 1, 1) := by decide +kernel
theorem dX9_takeStop_25 : decode cX9_takeStop 25 = .ok (.iadd, 1) := by decide +kernel
theorem dX9_takeStop_26 : decode cX9_takeStop 26 = .ok (.putfield 141, 3) := by decide +kernel
theorem dX9_takeStop_29 : decode cX9_takeStop 29 = .ok (.iconst 0, 1) := by decide +kernel
theorem dX9_takeStop_30 : decode cX9_takeStop 30 = .ok (.ireturn, 1) := by decide +kernel
set_option maxRecDepth 20000 in
theorem ggX9_isComma_X9_here : GoodIn wsX9_isComma wsX9_here := goodIn_r _ [6, 1, 7, 8, 9, 10, 11, 12, 13, 14, 15, 16, 17, 18, 19, 20, 21, 22, 23, 24, 25, 26, 27, 28, 29, 30, 31, 32, 33, 34, 35, 36, 37, 38, 39, 40, 41, 42, 43, 44, 45, 46, 47, 48, 49, 50, 51, 52, 53, 54, 55, 56, 57, 58, 59, 60, 61, 62, 63] (by decide +kernel) (by decide +kernel)
set_option maxRecDepth 20000 in
theorem gX9_isComma_X9_here : GoodIn wsX9_isComma (wsV RX9 144 RX9 yX9_here wsX9_here) := goodIn_app (goodIn_of _ (by decide +kernel)) ggX9_isComma_X9_here
theorem dX9_isComma_0 : decode cX9_isComma 0 = .ok (.aload_n 0, 1) := by decide +kernel
theorem dX9_isComma_1 : decode cX9_isComma 1 = .ok (.invokevirtual 144, 3) := by decide +kernel
theorem dX9_isComma_4 : decode cX9_isComma 4 = .ok (.bipush 44, 2) := by decide +kernel
theorem dX9_isComma_6 : decode cX9_isComma 6 = .ok (.if_icmp .ne 7, 3) := by decide +kernel
theorem dX9_isComma_9 : decode cX9_isComma 9 = .ok (.iconst 1, 1) := by decide +kernel
theorem dX9_isComma_10 : decode cX9_isComma 10 = .ok (.goto 4, 3) := by decide +kernel
theorem dX9_isComma_13 : decode cX9_isComma 13 = .ok (.iconst 0, 1) := by decide +kernel
theorem dX9_isComma_14 : decode cX9_isComma 14 = .ok (.istore_n 1, 1) := by decide +kernel
theorem dX9_isComma_15 : decode cX9_isComma 15 = .ok (.aload_n 0, 1) := by decide +kernel
theorem dX9_isComma_16 : decode cX9_isComma 16 = .ok (.dup, 1) := by decide +kernel
theorem dX9_isComma_17 : decode cX9_isComma 17 = .ok (.getfield 141, 3) := by decide +kernel
theorem dX9_isComma_20 : decode cX9_isComma 20 = .ok (.iload_n 1, 1) := by decide +kernel
theorem dX9_isComma_21 : decode cX9_isComma 21 = .ok (.ifCond .eq 7, 3) := by decide +kernel
theorem dX9_isComma_24 : decode cX9_isComma 24 = .ok (.iconst 1, 1) := by decide +kernel
theorem dX9_isComma_25 : decode cX9_isComma 25 = .ok (.goto 4, 3) := by decide +kernel
theorem dX9_isComma_28 : decode cX9_isComma 28 = .ok (.iconst 0, 1) := by decide +kernel
theorem dX9_isComma_29 : decode cX9_isComma 29 = .ok (.iadd, 1) := by decide +kernel
theorem dX9_isComma_30 : decode cX9_isComma 30 = .ok (.putfield 141, 3) := by decide +kernel
theorem dX9_isComma_33 : decode cX9_isComma 33 = .ok (.iload_n 1, 1) := by decide +kernel
theorem dX9_isComma_34 : decode cX9_isComma 34 = .ok (.ireturn, 1) := by decide +kernel
set_option maxRecDepth 20000 in
theorem ggX9_takeSlot_X9_takeNumber : GoodIn wsX9_takeSlot wsX9_takeNumber := goodIn_r _ [8, 9, 10, 11, 3, 2, 12, 13, 14, 15, 16, 17, 7, 18, 19, 20, 21, 22, 23, 24, 25, 26, 30, 31, 32, 33, 34, 35, 36, 37, 38, 39, 40, 41, 42, 43, 44, 45, 46, 47, 48, 49, 50, 51, 52, 53, 54, 55, 56, 57, 58, 59, 60, 61, 62, 63, 64, 65, 66, 67, 68, 69, 70, 71, 72, 73, 74, 75, 76, 77, 78, 79, 80, 81, 82, 83, 84] (by decide +kernel) (by decide +kernel)
set_option maxRecDepth 20000 in
theorem gX9_takeSlot_X9_takeNumber : GoodIn wsX9_takeSlot (wsV RX9 184 RX9 yX9_takeNumber wsX9_takeNumber) := goodIn_app (goodIn_of _ (by decide +kernel)) ggX9_takeSlot_X9_takeNumber
set_option maxRecDepth 20000 in
theorem ggX9_takeSlot_X9_has : GoodIn wsX9_takeSlot wsX9_has := goodIn_r _ [29] (by decide +kernel) (by decide +kernel)
set_option maxRecDepth 20000 in
theorem gX9_takeSlot_X9_has : GoodIn wsX9_takeSlot (va_wsS RX9 190 yX9_has wsX9_has) := goodIn_app (goodIn_of _ (by decide +kernel)) ggX9_takeSlot_X9_has
set_option maxRecDepth 20000 in
theorem ggX9_takeSlot_X9_breaks : GoodIn wsX9_takeSlot wsX9_breaks := goodIn_r _ [25, 26, 30, 31, 32, 33, 34, 35, 36, 37, 38, 39, 40, 41, 42, 43, 44, 45, 46, 47, 48, 49, 50, 51, 52, 53, 54, 55, 56, 57, 58, 59, 60, 61, 62, 63, 64, 65, 66, 67, 68, 69, 70, 71, 72, 73, 74, 75, 76, 77, 78, 79, 80, 81, 82, 83, 84] (by decide +kernel) (by decide +kernel)
set_option maxRecDepth 20000 in
theorem gX9_takeSlot_X9_breaks : GoodIn wsX9_takeSlot (wsV RX9 171 RX9 yX9_breaks wsX9_breaks) := goodIn_app (goodIn_of _ (by decide +kernel)) ggX9_takeSlot_X9_breaks
theorem dX9_takeSlot_0 : decode cX9_takeSlot 0 = .ok (.aload_n 0, 1) := by decide +kernel
theorem dX9_takeSlot_1 : decode cX9_takeSlot 1 = .ok (.iconst 0, 1) := by decide +kernel
theorem dX9_takeSlot_2 : decode cX9_takeSlot 2 = .ok (.bipush 15, 2) := by decide +kernel
theorem dX9_takeSlot_4 : decode cX9_takeSlot 4 = .ok (.invokevirtual 184, 3) := by decide +kernel
theorem dX9_takeSlot_7 : decode cX9_takeSlot 7 = .ok (.istore_n 1, 1) := by decide +kernel
theorem dX9_takeSlot_8 : decode cX9_takeSlot 8 = .ok (.iload_n 1, 1) := by decide +kernel
theorem dX9_takeSlot_9 : decode cX9_takeSlot 9 = .ok (.ifCond .ne 27, 3) := by decide +kernel
theorem dX9_takeSlot_12 : decode cX9_takeSlot 12 = .ok (.aload_n 0, 1) := by decide +kernel
theorem dX9_takeSlot_13 : decode cX9_takeSlot 13 = .ok (.getfield 187, 3) := by decide +kernel
theorem dX9_takeSlot_16 : decode cX9_takeSlot 16 = .ok (.aload_n 0, 1) := by decide +kernel
theorem dX9_takeSlot_17 : decode cX9_takeSlot 17 = .ok (.getfield 178, 3) := by decide +kernel
theorem dX9_takeSlot_20 : decode cX9_takeSlot 20 = .ok (.invokestatic 190, 3) := by decide +kernel
theorem dX9_takeSlot_23 : decode cX9_takeSlot 23 = .ok (.ifCond .eq 13, 3) := by decide +kernel
theorem dX9_takeSlot_26 : decode cX9_takeSlot 26 = .ok (.aload_n 0, 1) := by decide +kernel
theorem dX9_takeSlot_27 : decode cX9_takeSlot 27 = .ok (.iconst 4, 1) := by decide +kernel
theorem dX9_takeSlot_28 : decode cX9_takeSlot 28 = .ok (.aload_n 0, 1) := by decide +kernel
theorem dX9_takeSlot_29 : decode cX9_takeSlot 29 = .ok (.getfield 175, 3) := by decide +kernel
theorem dX9_takeSlot_32 : decode cX9_takeSlot 32 = .ok (.invokevirtual 171, 3) := by decide +kernel
theorem dX9_takeSlot_35 : decode cX9_takeSlot 35 = .ok (.istore_n 1, 1) := by decide +kernel
theorem dX9_takeSlot_36 : decode cX9_takeSlot 36 = .ok (.aload_n 0, 1) := by decide +kernel
theorem dX9_takeSlot_37 : decode cX9_takeSlot 37 = .ok (.dup, 1) := by decide +kernel
theorem dX9_takeSlot_38 : decode cX9_takeSlot 38 = .ok (.getfield 187, 3) := by decide +kernel
theorem dX9_takeSlot_41 : decode cX9_takeSlot 41 = .ok (.iload_n 1, 1) := by decide +kernel
theorem dX9_takeSlot_42 : decode cX9_takeSlot 42 = .ok (.ifCond .le 7, 3) := by decide +kernel
theorem dX9_takeSlot_45 : decode cX9_takeSlot 45 = .ok (.iconst 0, 1) := by decide +kernel
theorem dX9_takeSlot_46 : decode cX9_takeSlot 46 = .ok (.goto 9, 3) := by decide +kernel
theorem dX9_takeSlot_49 : decode cX9_takeSlot 49 = .ok (.iconst 1, 1) := by decide +kernel
theorem dX9_takeSlot_50 : decode cX9_takeSlot 50 = .ok (.aload_n 0, 1) := by decide +kernel
theorem dX9_takeSlot_51 : decode cX9_takeSlot 51 = .ok (.getfield 178, 3) := by decide +kernel
theorem dX9_takeSlot_54 : decode cX9_takeSlot 54 = .ok (.ishl, 1) := by decide +kernel
theorem dX9_takeSlot_55 : decode cX9_takeSlot 55 = .ok (.ior, 1) := by decide +kernel
theorem dX9_takeSlot_56 : decode cX9_takeSlot 56 = .ok (.putfield 187, 3) := by decide +kernel
theorem dX9_takeSlot_59 : decode cX9_takeSlot 59 = .ok (.iload_n 1, 1) := by decide +kernel
theorem dX9_takeSlot_60 : decode cX9_takeSlot 60 = .ok (.ireturn, 1) := by decide +kernel
set_option maxRecDepth 20000 in
theorem ggX9_takeSets_X9_takeSlot : GoodIn wsX9_takeSets wsX9_takeSlot := goodIn_r _ [8, 1, 2, 9, 10, 11, 12, 7, 13, 14, 15, 16, 17, 18, 19, 20, 21, 22, 23, 24, 25, 26, 27, 28, 29, 30, 31, 32, 33, 34, 39, 40, 41, 42, 43, 44, 45, 46, 47, 48, 49, 50, 51, 52, 53, 54, 55, 56, 57, 58, 59, 60, 61, 62, 63, 64, 65, 66, 67, 68, 69, 70, 71, 72, 73, 74, 75, 76, 77, 78, 79, 80, 81, 82, 83, 84, 85, 86, 87, 88, 89, 90, 91, 92, 93] (by decide +kernel) (by decide +kernel)
set_option maxRecDepth 20000 in
theorem gX9_takeSets_X9_takeSlot : GoodIn wsX9_takeSets (wsV RX9 194 RX9 yX9_takeSlot wsX9_takeSlot) := goodIn_app (goodIn_of _ (by decide +kernel)) ggX9_takeSets_X9_takeSlot
set_option maxRecDepth 20000 in
theorem ggX9_takeSets_X9_takeNumber : GoodIn wsX9_takeSets wsX9_takeNumber := goodIn_r _ [13, 14, 15, 16, 9, 2, 17, 18, 19, 20, 21, 22, 7, 23, 24, 25, 26, 27, 28, 29, 30, 31, 39, 40, 41, 42, 43, 44, 45, 46, 47, 48, 49, 50, 51, 52, 53, 54, 55, 56, 57, 58, 59, 60, 61, 62, 63, 64, 65, 66, 67, 68, 69, 70, 71, 72, 73, 74, 75, 76, 77, 78, 79, 80, 81, 82, 83, 84, 85, 86, 87, 88, 89, 90, 91, 92, 93] (by decide +kernel) (by decide +kernel)
set_option maxRecDepth 20000 in
theorem gX9_takeSets_X9_takeNumber : GoodIn wsX9_takeSets (wsV RX9 184 RX9 yX9_takeNumber wsX9_takeNumber) := goodIn_app (goodIn_of _ (by decide +kernel)) ggX9_takeSets_X9_takeNumber
set_option maxRecDepth 20000 in
theorem ggX9_takeSets_X9_isComma : GoodIn wsX9_takeSets wsX9_isComma := goodIn_r _ [38, 16, 20, 21, 22, 7, 23, 17, 18, 39, 40, 41, 42, 43, 44, 45, 46, 47, 48, 49, 50, 51, 52, 53, 54, 55, 56, 57, 58, 59, 60, 61, 62, 63, 64, 65, 66, 67, 68, 69, 70, 71, 72, 73, 74, 75, 76, 77, 78, 79, 80, 81, 82, 83, 84, 85, 86, 87, 88, 89, 90, 91, 92, 93] (by decide +kernel) (by decide +kernel)
set_option maxRecDepth 20000 in
theorem gX9_takeSets_X9_isComma : GoodIn wsX9_takeSets (wsV RX9 197 RX9 yX9_isComma wsX9_isComma) := goodIn_app (goodIn_of _ (by decide +kernel)) ggX9_takeSets_X9_isComma
theorem dX9_takeSets_0 : decode cX9_takeSets 0 = .ok (.aload_n 0, 1) := by decide +kernel
theorem dX9_takeSets_1 : decode cX9_takeSets 1 = .ok (.iconst 0, 1) := by decide +kernel
theorem dX9_takeSets_2 : decode cX9_takeSets 2 = .ok (.putfield 187, 3) := by decide +kernel
theorem dX9_takeSets_5 : decode cX9_takeSets 5 = .ok (.iconst 1, 1) := by decide +kernel
theorem dX9_takeSets_6 : decode cX9_takeSets 6 = .ok (.istore_n 2, 1) := by decide +kernel
theorem dX9_takeSets_7 : decode cX9_takeSets 7 = .ok (.iload_n 2, 1) := by decide +kernel
theorem dX9_takeSets_8 : decode cX9_takeSets 8 = .ok (.ifCond .eq 60, 3) := by decide +kernel
theorem dX9_takeSets_11 : decode cX9_takeSets 11 = .ok (.aload_n 0, 1) := by decide +kernel
theorem dX9_takeSets_12 : decode cX9_takeSets 12 = .ok (.invokevirtual 194, 3) := by decide +kernel
theorem dX9_takeSets_15 : decode cX9_takeSets 15 = .ok (.istore_n 3, 1) := by decide +kernel
theorem dX9_takeSets_16 : decode cX9_takeSets 16 = .ok (.aload_n 0, 1) := by decide +kernel
theorem dX9_takeSets_17 : decode cX9_takeSets 17 = .ok (.getfield 178, 3) := by decide +kernel
theorem dX9_takeSets_20 : decode cX9_takeSets 20 = .ok (.istore 4, 2) := by decide +kernel
theorem dX9_takeSets_22 : decode cX9_takeSets 22 = .ok (.iload_n 3, 1) := by decide +kernel
theorem dX9_takeSets_23 : decode cX9_takeSets 23 = .ok (.ifCond .le 7, 3) := by decide +kernel
theorem dX9_takeSets_26 : decode cX9_takeSets 26 = .ok (.iload_n 3, 1) := by decide +kernel
theorem dX9_takeSets_27 : decode cX9_takeSets 27 = .ok (.goto 10, 3) := by decide +kernel
theorem dX9_takeSets_30 : decode cX9_takeSets 30 = .ok (.aload_n 0, 1) := by decide +kernel
theorem dX9_takeSets_31 : decode cX9_takeSets 31 = .ok (.iconst 1, 1) := by decide +kernel
theorem dX9_takeSets_32 : decode cX9_takeSets 32 = .ok (.bipush 99, 2) := by decide +kernel
theorem dX9_takeSets_34 : decode cX9_takeSets 34 = .ok (.invokevirtual 184, 3) := by decide +kernel
theorem dX9_takeSets_37 : decode cX9_takeSets 37 = .ok (.istore_n 3, 1) := by decide +kernel
theorem dX9_takeSets_38 : decode cX9_takeSets 38 = .ok (.iload_n 3, 1) := by decide +kernel
theorem dX9_takeSets_39 : decode cX9_takeSets 39 = .ok (.ifCond .le 5, 3) := by decide +kernel
theorem dX9_takeSets_42 : decode cX9_takeSets 42 = .ok (.iload_n 3, 1) := by decide +kernel
theorem dX9_takeSets_43 : decode cX9_takeSets 43 = .ok (.ireturn, 1) := by decide +kernel
theorem dX9_takeSets_44 : decode cX9_takeSets 44 = .ok (.aload_n 0, 1) := by decide +kernel
theorem dX9_takeSets_45 : decode cX9_takeSets 45 = .ok (.getfield 59, 3) := by decide +kernel
theorem dX9_takeSets_48 : decode cX9_takeSets 48 = .ok (.bipush 16, 2) := by decide +kernel
theorem dX9_takeSets_50 : decode cX9_takeSets 50 = .ok (.iload_n 1, 1) := by decide +kernel
theorem dX9_takeSets_51 : decode cX9_takeSets 51 = .ok (.imul, 1) := by decide +kernel
theorem dX9_takeSets_52 : decode cX9_takeSets 52 = .ok (.iload 4, 2) := by decide +kernel
theorem dX9_takeSets_54 : decode cX9_takeSets 54 = .ok (.iadd, 1) := by decide +kernel
theorem dX9_takeSets_55 : decode cX9_takeSets 55 = .ok (.aload_n 0, 1) := by decide +kernel
theorem dX9_takeSets_56 : decode cX9_takeSets 56 = .ok (.getfield 178, 3) := by decide +kernel
theorem dX9_takeSets_59 : decode cX9_takeSets 59 = .ok (.iastore, 1) := by decide +kernel
theorem dX9_takeSets_60 : decode cX9_takeSets 60 = .ok (.aload_n 0, 1) := by decide +kernel
theorem dX9_takeSets_61 : decode cX9_takeSets 61 = .ok (.invokevirtual 197, 3) := by decide +kernel
theorem dX9_takeSets_64 : decode cX9_takeSets 64 = .ok (.istore_n 2, 1) := by decide +kernel
theorem dX9_takeSets_65 : decode cX9_takeSets 65 = .ok (.goto (-58), 3) := by decide +kernel
theorem dX9_takeSets_68 : decode cX9_takeSets 68 = .ok (.iconst 0, 1) := by decide +kernel
theorem dX9_takeSets_69 : decode cX9_takeSets 69 = .ok (.ireturn, 1) := by decide +kernel
set_option maxRecDepth 20000 in
theorem ggX9_takeReads_X9_takeSlot : GoodIn wsX9_takeReads wsX9_takeSlot := goodIn_r _ [7, 1, 8, 9, 10, 11, 12, 6, 13, 14, 15, 16, 17, 18, 19, 20, 21, 22, 23, 24, 25, 26, 27, 28, 29, 30, 31, 32, 33, 34, 39, 40, 41, 42, 43, 44, 45, 46, 47, 48, 49, 50, 51, 52, 53, 54, 55, 56, 57, 58, 59, 60, 61, 62, 63, 64, 65, 66, 67, 68, 69, 70, 71, 72, 73, 74, 75, 76, 77, 78, 79, 80, 81, 82, 83, 84, 85, 86, 87, 88, 89, 90, 91, 92, 93] (by decide +kernel) (by decide +kernel)
set_option maxRecDepth 20000 in
theorem gX9_takeReads_X9_takeSlot : GoodIn wsX9_takeReads (wsV RX9 194 RX9 yX9_takeSlot wsX9_takeSlot) := goodIn_app (goodIn_of _ (by decide +kernel)) ggX9_takeReads_X9_takeSlot
set_option maxRecDepth 20000 in
theorem ggX9_takeReads_X9_isComma : GoodIn wsX9_takeReads wsX9_isComma := goodIn_r _ [38, 16, 20, 21, 22, 6, 23, 17, 18, 39, 40, 41, 42, 43, 44, 45, 46, 47, 48, 49, 50, 51, 52, 53, 54, 55, 56, 57, 58, 59, 60, 61, 62, 63, 64, 65, 66, 67, 68, 69, 70, 71, 72, 73, 74, 75, 76, 77, 78, 79, 80, 81, 82, 83, 84, 85, 86, 87, 88, 89, 90, 91, 92, 93] (by decide +kernel) (by decide +kernel)
set_option maxRecDepth 20000 in
theorem gX9_takeReads_X9_isComma : GoodIn wsX9_takeReads (wsV RX9 197 RX9 yX9_isComma wsX9_isComma) := goodIn_app (goodIn_of _ (by decide +kernel)) ggX9_takeReads_X9_isComma
theorem dX9_takeReads_0 : decode cX9_takeReads 0 = .ok (.aload_n 0, 1) := by decide +kernel
theorem dX9_takeReads_1 : decode cX9_takeReads 1 = .ok (.iconst 0, 1) := by decide +kernel
theorem dX9_takeReads_2 : decode cX9_takeReads 2 = .ok (.putfield 187, 3) := by decide +kernel
theorem dX9_takeReads_5 : decode cX9_takeReads 5 = .ok (.iconst 1, 1) := by decide +kernel
theorem dX9_takeReads_6 : decode cX9_takeReads 6 = .ok (.istore_n 2, 1) := by decide +kernel
theorem dX9_takeReads_7 : decode cX9_takeReads 7 = .ok (.iload_n 2, 1) := by decide +kernel
theorem dX9_takeReads_8 : decode cX9_takeReads 8 = .ok (.ifCond .eq 22, 3) := by decide +kernel
theorem dX9_takeReads_11 : decode cX9_takeReads 11 = .ok (.aload_n 0, 1) := by decide +kernel
theorem dX9_takeReads_12 : decode cX9_takeReads 12 = .ok (.invokevirtual 194, 3) := by decide +kernel
theorem dX9_takeReads_15 : decode cX9_takeReads 15 = .ok (.istore_n 3, 1) := by decide +kernel
theorem dX9_takeReads_16 : decode cX9_takeReads 16 = .ok (.iload_n 3, 1) := by decide +kernel
theorem dX9_takeReads_17 : decode cX9_takeReads 17 = .ok (.ifCond .le 5, 3) := by decide +kernel
theorem dX9_takeReads_20 : decode cX9_takeReads 20 = .ok (.iload_n 3, 1) := by decide +kernel
theorem dX9_takeReads_21 : decode cX9_takeReads 21 = .ok (.ireturn, 1) := by decide +kernel
theorem dX9_takeReads_22 : decode cX9_takeReads 22 = .ok (.aload_n 0, 1) := by decide +kernel
theorem dX9_takeReads_23 : decode cX9_takeReads 23 = .ok (.invokevirtual 197, 3) := by decide +kernel
theorem dX9_takeReads_26 : decode cX9_takeReads 26 = .ok (.istore_n 2, 1) := by decide +kernel
theorem dX9_takeReads_27 : decode cX9_takeReads 27 = .ok (.goto (-20), 3) := by decide +kernel
theorem dX9_takeReads_30 : decode cX9_takeReads 30 = .ok (.aload_n 0, 1) := by decide +kernel
theorem dX9_takeReads_31 : decode cX9_takeReads 31 = .ok (.getfield 62, 3) := by decide +kernel
theorem dX9_takeReads_34 : decode cX9_takeReads 34 = .ok (.iload_n 1, 1) := by decide +kernel
theorem dX9_takeReads_35 : decode cX9_takeReads 35 = .ok (.aload_n 0, 1) := by decide +kernel
theorem dX9_takeReads_36 : decode cX9_takeReads 36 = .ok (.getfield 187, 3) := by decide +kernel
theorem dX9_takeReads_39 : decode cX9_takeReads 39 = .ok (.iastore, 1) := by decide +kernel
theorem dX9_takeReads_40 : decode cX9_takeReads 40 = .ok (.iconst 0, 1) := by decide +kernel
theorem dX9_takeReads_41 : decode cX9_takeReads 41 = .ok (.ireturn, 1) := by decide +kernel
set_option maxRecDepth 20000 in
theorem ggX9_takeChange_X9_breaks : GoodIn wsX9_takeChange wsX9_breaks := goodIn_r _ [13, 14, 72, 73, 74, 75, 76, 77, 78, 79, 80, 81, 82, 83, 84, 85, 86, 87, 88, 89, 90, 91, 92, 93, 94, 95, 96, 97, 98, 99, 100, 101, 102, 103, 104, 105, 106, 107, 108, 109, 110, 111, 112, 113, 114, 115, 116, 117, 118, 119, 120, 121, 122, 123, 124, 125, 126] (by decide +kernel) (by decide +kernel)
set_option maxRecDepth 20000 in
theorem gX9_takeChange_X9_breaks : GoodIn wsX9_takeChange (wsV RX9 171 RX9 yX9_breaks wsX9_breaks) := goodIn_app (goodIn_of _ (by decide +kernel)) ggX9_takeChange_X9_breaks
set_option maxRecDepth 20000 in
theorem ggX9_takeChange_X9_here : GoodIn wsX9_takeChange wsX9_here := goodIn_r _ [18, 6, 19, 20, 72, 73, 74, 75, 76, 77, 78, 79, 80, 81, 82, 83, 84, 85, 86, 87, 88, 89, 90, 91, 92, 93, 94, 95, 96, 97, 98, 99, 100, 101, 102, 103, 104, 105, 106, 107, 108, 109, 110, 111, 112, 113, 114, 115, 116, 117, 118, 119, 120, 121, 122, 123, 124, 125, 126] (by decide +kernel) (by decide +kernel)
set_option maxRecDepth 20000 in
theorem gX9_takeChange_X9_here : GoodIn wsX9_takeChange (wsV RX9 144 RX9 yX9_here wsX9_here) := goodIn_app (goodIn_of _ (by decide +kernel)) ggX9_takeChange_X9_here
set_option maxRecDepth 20000 in
theorem ggX9_takeChange_X9_readWord : GoodIn wsX9_takeChange wsX9_readWord := goodIn_r _ [24, 5, 6, 7, 19, 20, 25, 26, 27, 28, 29, 30, 15, 16, 17, 12, 18, 31, 32, 33, 72, 73, 74, 75, 76, 77, 78, 79, 80, 81, 82, 83, 84, 85, 86, 87, 88, 89, 90, 91, 92, 93, 94, 95, 96, 97, 98, 99, 100, 101, 102, 103, 104, 105, 106, 107, 108, 109, 110, 111, 112, 113, 114, 115, 116, 117, 118, 119, 120, 121, 122, 123, 124, 125, 126] (by decide +kernel) (by decide +kernel)
set_option maxRecDepth 20000 in
theorem gX9_takeChange_X9_readWord : GoodIn wsX9_takeChange (wsV RX9 204 RX9 yX9_readWord wsX9_readWord) := goodIn_app (goodIn_of _ (by decide +kernel)) ggX9_takeChange_X9_readWord
set_option maxRecDepth 20000 in
theorem ggX9_takeChange_X9_code : GoodIn wsX9_takeChange wsX9_code := goodIn_r _ [36, 29, 30] (by decide +kernel) (by decide +kernel)
set_option maxRecDepth 20000 in
theorem gX9_takeChange_X9_code : GoodIn wsX9_takeChange (va_wsS RX9 207 yX9_code wsX9_code) := goodIn_app (goodIn_of _ (by decide +kernel)) ggX9_takeChange_X9_code
set_option maxRecDepth 20000 in
theorem ggX9_takeChange_X9_longer : GoodIn wsX9_takeChange wsX9_longer := goodIn_r _ [39, 29, 30] (by decide +kernel) (by decide +kernel)
set_option maxRecDepth 20000 in
theorem gX9_takeChange_X9_longer : GoodIn wsX9_takeChange (va_wsS RX9 211 yX9_longer wsX9_longer) := goodIn_app (goodIn_of _ (by decide +kernel)) ggX9_takeChange_X9_longer
set_option maxRecDepth 20000 in
theorem ggX9_takeChange_X9_takeSets : GoodIn wsX9_takeChange wsX9_takeSets := goodIn_r _ [43, 44, 8, 2, 45, 46, 47, 12, 48, 49, 50, 51, 52, 53, 54, 55, 6, 19, 20, 56, 15, 16, 17, 18, 31, 32, 33, 9, 10, 11, 13, 14, 57, 58, 59, 60, 61, 62, 63, 72, 73, 74, 75, 76, 77, 78, 79, 80, 81, 82, 83, 84, 85, 86, 87, 88, 89, 90, 91, 92, 93, 94, 95, 96, 97, 98, 99, 100, 101, 102, 103, 104, 105, 106, 107, 108, 109, 110, 111, 112, 113, 114, 115, 116, 117, 118, 119, 120, 121, 122, 123, 124, 125, 126] (by decide +kernel) (by decide +kernel)
set_option maxRecDepth 20000 in
theorem gX9_takeChange_X9_takeSets : GoodIn wsX9_takeChange (wsV RX9 215 RX9 yX9_takeSets wsX9_takeSets) := goodIn_app (goodIn_of _ (by decide +kernel)) ggX9_takeChange_X9_takeSets
set_option maxRecDepth 20000 in
theorem ggX9_takeChange_X9_takeReads : GoodIn wsX9_takeChange wsX9_takeReads := goodIn_r _ [67, 44, 3, 45, 46, 47, 12, 48, 8, 49, 50, 51, 52, 53, 54, 55, 6, 19, 20, 56, 15, 16, 17, 18, 31, 32, 33, 9, 10, 11, 13, 14, 57, 58, 59, 60, 61, 62, 63, 72, 73, 74, 75, 76, 77, 78, 79, 80, 81, 82, 83, 84, 85, 86, 87, 88, 89, 90, 91, 92, 93, 94, 95, 96, 97, 98, 99, 100, 101, 102, 103, 104, 105, 106, 107, 108, 109, 110, 111, 112, 113, 114, 115, 116, 117, 118, 119, 120, 121, 122, 123, 124, 125, 126] (by decide +kernel) (by decide +kernel)
set_option maxRecDepth 20000 in
theorem gX9_takeChange_X9_takeReads : GoodIn wsX9_takeChange (wsV RX9 219 RX9 yX9_takeReads wsX9_takeReads) := goodIn_app (goodIn_of _ (by decide +kernel)) ggX9_takeChange_X9_takeReads
set_option maxRecDepth 20000 in
theorem ggX9_takeChange_X9_takeNumber : GoodIn wsX9_takeChange wsX9_takeNumber := goodIn_r _ [53, 54, 55, 6, 49, 8, 19, 20, 56, 15, 16, 17, 12, 18, 31, 32, 33, 9, 10, 11, 13, 14, 72, 73, 74, 75, 76, 77, 78, 79, 80, 81, 82, 83, 84, 85, 86, 87, 88, 89, 90, 91, 92, 93, 94, 95, 96, 97, 98, 99, 100, 101, 102, 103, 104, 105, 106, 107, 108, 109, 110, 111, 112, 113, 114, 115, 116, 117, 118, 119, 120, 121, 122, 123, 124, 125, 126] (by decide +kernel) (by decide +kernel)
set_option maxRecDepth 20000 in
theorem gX9_takeChange_X9_takeNumber : GoodIn wsX9_takeChange (wsV RX9 184 RX9 yX9_takeNumber wsX9_takeNumber) := goodIn_app (goodIn_of _ (by decide +kernel)) ggX9_takeChange_X9_takeNumber
set_option maxRecDepth 20000 in
theorem ggX9_takeChange_X9_takeStop : GoodIn wsX9_takeChange wsX9_takeStop := goodIn_r _ [71, 6, 15, 16, 17, 12, 18, 19, 20, 9, 10, 11, 13, 14, 72, 73, 74, 75, 76, 77, 78, 79, 80, 81, 82, 83, 84, 85, 86, 87, 88, 89, 90, 91, 92, 93, 94, 95, 96, 97, 98, 99, 100, 101, 102, 103, 104, 105, 106, 107, 108, 109, 110, 111, 112, 113, 114, 115, 116, 117, 118, 119, 120, 121, 122, 123, 124, 125, 126] (by decide +kernel) (by decide +kernel)
set_option maxRecDepth 20000 in
theorem gX9_takeChange_X9_takeStop : GoodIn wsX9_takeChange (wsV RX9 222 RX9 yX9_takeStop wsX9_takeStop) := goodIn_app (goodIn_of _ (by decide +kernel)) ggX9_takeChange_X9_takeStop
theorem dX9_takeChange_0 : decode cX9_takeChange 0 = .ok (.aload_n 0, 1) := by decide +kernel
theorem dX9_takeChange_1 : decode cX9_takeChange 1 = .ok (.getfield 201, 3) := by decide +kernel
theorem dX9_takeChange_4 : decode cX9_takeChange 4 = .ok (.bipush 24, 2) := by decide +kernel
theorem dX9_takeChange_6 : decode cX9_takeChange 6 = .ok (.if_icmp .ne 10, 3) := by decide +kernel
theorem dX9_takeChange_9 : decode cX9_takeChange 9 = .ok (.aload_n 0, 1) := by decide +kernel
theorem dX9_takeChange_10 : decode cX9_takeChange 10 = .ok (.iconst 3, 1) := by decide +kernel
theorem dX9_takeChange_11 : decode cX9_takeChange 11 = .ok (.iload_n 1, 1) := by decide +kernel
theorem dX9_takeChange_12 : decode cX9_takeChange 12 = .ok (.invokevirtual 171, 3) := by decide +kernel
theorem dX9_takeChange_15 : decode cX9_takeChange 15 = .ok (.ireturn, 1) := by decide +kernel
theorem dX9_takeChange_16 : decode cX9_takeChange 16 = .ok (.aload_n 0, 1) := by decide +kernel
theorem dX9_takeChange_17 : decode cX9_takeChange 17 = .ok (.getfield 201, 3) := by decide +kernel
theorem dX9_takeChange_20 : decode cX9_takeChange 20 = .ok (.istore_n 2, 1) := by decide +kernel
theorem dX9_takeChange_21 : decode cX9_takeChange 21 = .ok (.iconst 0, 1) := by decide +kernel
theorem dX9_takeChange_22 : decode cX9_takeChange 22 = .ok (.istore_n 3, 1) := by decide +kernel
theorem dX9_takeChange_23 : decode cX9_takeChange 23 = .ok (.iload_n 3, 1) := by decide +kernel
theorem dX9_takeChange_24 : decode cX9_takeChange 24 = .ok (.bipush 16, 2) := by decide +kernel
theorem dX9_takeChange_26 : decode cX9_takeChange 26 = .ok (.if_icmp .ge 21, 3) := by decide +kernel
theorem dX9_takeChange_29 : decode cX9_takeChange 29 = .ok (.aload_n 0, 1) := by decide +kernel
theorem dX9_takeChange_30 : decode cX9_takeChange 30 = .ok (.getfield 59, 3) := by decide +kernel
theorem dX9_takeChange_33 : decode cX9_takeChange 33 = .ok (.bipush 16, 2) := by decide +kernel
theorem dX9_takeChange_35 : decode cX9_takeChange 35 = .ok (.iload_n 2, 1) := by decide +kernel
theorem dX9_takeChange_36 : decode cX9_takeChange 36 = .ok (.imul, 1) := by decide +kernel
theorem dX9_takeChange_37 : decode cX9_takeChange 37 = .ok (.iload_n 3, 1) := by decide +kernel
theorem dX9_takeChange_38 : decode cX9_takeChange 38 = .ok (.iadd, 1) := by decide +kernel
theorem dX9_takeChange_39 : decode cX9_takeChange 39 = .ok (.iconst 0, 1) := by decide +kernel
theorem dX9_takeChange_40 : decode cX9_takeChange 40 = .ok (.iastore, 1) := by decide +kernel
theorem dX9_takeChange_41 : decode cX9_takeChange 41 = .ok (.iinc 3 1, 3) := by decide +kernel
theorem dX9_takeChange_44 : decode cX9_takeChange 44 = .ok (.goto (-21), 3) := by decide +kernel
theorem dX9_takeChange_47 : decode cX9_takeChange 47 = .ok (.aload_n 0, 1) := by decide +kernel
theorem dX9_takeChange_48 : decode cX9_takeChange 48 = .ok (.getfield 62, 3) := by decide +kernel
theorem dX9_takeChange_51 : decode cX9_takeChange 51 = .ok (.iload_n 2, 1) := by decide +kernel
theorem dX9_takeChange_52 : decode cX9_takeChange 52 = .ok (.iconst 0, 1) := by decide +kernel
theorem dX9_takeChange_53 : decode cX9_takeChange 53 = .ok (.iastore, 1) := by decide +kernel
theorem dX9_takeChange_54 : decode cX9_takeChange 54 = .ok (.aload_n 0, 1) := by decide +kernel
theorem dX9_takeChange_55 : decode cX9_takeChange 55 = .ok (.getfield 65, 3) := by decide +kernel
theorem dX9_takeChange_58 : decode cX9_takeChange 58 = .ok (.iload_n 2, 1) := by decide +kernel
theorem dX9_takeChange_59 : decode cX9_takeChange 59 = .ok (.iconst 0, 1) := by decide +kernel
theorem dX9_takeChange_60 : decode cX9_takeChange 60 = .ok (.iastore, 1) := by decide +kernel
theorem dX9_takeChange_61 : decode cX9_takeChange 61 = .ok (.iconst (-1), 1) := by decide +kernel
theorem dX9_takeChange_62 : decode cX9_takeChange 62 = .ok (.istore_n 3, 1) := by decide +kernel
theorem dX9_takeChange_63 : decode cX9_takeChange 63 = .ok (.aload_n 0, 1) := by decide +kernel
theorem dX9_takeChange_64 : decode cX9_takeChange 64 = .ok (.invokevirtual 144, 3) := by decide +kernel
theorem dX9_takeChange_67 : decode cX9_takeChange 67 = .ok (.bipush 59, 2) := by decide +kernel
theorem dX9_takeChange_69 : decode cX9_takeChange 69 = .ok (.if_icmp .eq 178, 3) := by decide +kernel
theorem dX9_takeChange_72 : decode cX9_takeChange 72 = .ok (.aload_n 0, 1) := by decide +kernel
theorem dX9_takeChange_73 : decode cX9_takeChange 73 = .ok (.invokevirtual 204, 3) := by decide +kernel
theorem dX9_takeChange_76 : decode cX9_takeChange 76 = .ok (.aload_n 0, 1) := by decide +kernel
theorem dX9_takeChange_77 : decode cX9_takeChange 77 = .ok (.getfield 148, 3) := by decide +kernel
theorem dX9_takeChange_80 : decode cX9_takeChange 80 = .ok (.bipush 115, 2) := by decide +kernel
theorem dX9_takeChange_82 : decode cX9_takeChange 82 = .ok (.bipush 101, 2) := by decide +kernel
theorem dX9_takeChange_84 : decode cX9_takeChange 84 = .ok (.bipush 116, 2) := by decide +kernel
theorem dX9_takeChange_86 : decode cX9_takeChange 86 = .ok (.bipush 115, 2) := by decide +kernel
theorem dX9_takeChange_88 : decode cX9_takeChange 88 = .ok (.invokestatic 207, 3) := by decide +kernel
theorem dX9_takeChange_91 : decode cX9_takeChange 91 = .ok (.lcmp, 1) := by decide +kernel
theorem dX9_takeChange_92 : decode cX9_takeChange 92 = .ok (.ifCond .ne 7, 3) := by decide +kernel
theorem dX9_takeChange_95 : decode cX9_takeChange 95 = .ok (.iconst 0, 1) := by decide +kernel
theorem dX9_takeChange_96 : decode cX9_takeChange 96 = .ok (.goto 55, 3) := by decide +kernel
theorem dX9_takeChange_99 : decode cX9_takeChange 99 = .ok (.aload_n 0, 1) := by decide +kernel
theorem dX9_takeChange_100 : decode cX9_takeChange 100 = .ok (.getfield 148, 3) := by decide +kernel
theorem dX9_takeChange_103 : decode cX9_takeChange 103 = .ok (.bipush 114, 2) := by decide +kernel
theorem dX9_takeChange_105 : decode cX9_takeChange 105 = .ok (.bipush 101, 2) := by decide +kernel
theorem dX9_takeChange_107 : decode cX9_takeChange 107 = .ok (.bipush 97, 2) := by decide +kernel
theorem dX9_takeChange_109 : decode cX9_takeChange 109 = .ok (.bipush 100, 2) := by decide +kernel
theorem dX9_takeChange_111 : decode cX9_takeChange 111 = .ok (.invokestatic 207, 3) := by decide +kernel
theorem dX9_takeChange_114 : decode cX9_takeChange 114 = .ok (.bipush 115, 2) := by decide +kernel
theorem dX9_takeChange_116 : decode cX9_takeChange 116 = .ok (.invokestatic 211, 3) := by decide +kernel
theorem dX9_takeChange_119 : decode cX9_takeChange 119 = .ok (.lcmp, 1) := by decide +kernel
theorem dX9_takeChange_120 : decode cX9_takeChange 120 = .ok (.ifCond .ne 7, 3) := by decide +kernel
theorem dX9_takeChange_123 : decode cX9_takeChange 123 = .ok (.iconst 1, 1) := by decide +kernel
theorem dX9_takeChange_124 : decode cX9_takeChange 124 = .ok (.goto 27, 3) := by decide +kernel
theorem dX9_takeChange_127 : decode cX9_takeChange 127 = .ok (.aload_n 0, 1) := by decide +kernel
theorem dX9_takeChange_128 : decode cX9_takeChange 128 = .ok (.getfield 148, 3) := by decide +kernel
theorem dX9_takeChange_131 : decode cX9_takeChange 131 = .ok (.bipush 114, 2) := by decide +kernel
theorem dX9_takeChange_133 : decode cX9_takeChange 133 = .ok (.bipush 105, 2) := by decide +kernel
theorem dX9_takeChange_135 : decode cX9_takeChange 135 = .ok (.bipush 115, 2) := by decide +kernel
theorem dX9_takeChange_137 : decode cX9_takeChange 137 = .ok (.bipush 107, 2) := by decide +kernel
theorem dX9_takeChange_139 : decode cX9_takeChange 139 = .ok (.invokestatic 207, 3) := by decide +kernel
theorem dX9_takeChange_142 : decode cX9_takeChange 142 = .ok (.lcmp, 1) := by decide +kernel
theorem dX9_takeChange_143 : decode cX9_takeChange 143 = .ok (.ifCond .ne 7, 3) := by decide +kernel
theorem dX9_takeChange_146 : decode cX9_takeChange 146 = .ok (.iconst 2, 1) := by decide +kernel
theorem dX9_takeChange_147 : decode cX9_takeChange 147 = .ok (.goto 4, 3) := by decide +kernel
theorem dX9_takeChange_150 : decode cX9_takeChange 150 = .ok (.iconst (-1), 1) := by decide +kernel
theorem dX9_takeChange_151 : decode cX9_takeChange 151 = .ok (.istore 4, 2) := by decide +kernel
theorem dX9_takeChange_153 : decode cX9_takeChange 153 = .ok (.iload 4, 2) := by decide +kernel
theorem dX9_takeChange_155 : decode cX9_takeChange 155 = .ok (.iload_n 3, 1) := by decide +kernel
theorem dX9_takeChange_156 : decode cX9_takeChange 156 = .ok (.if_icmp .gt 13, 3) := by decide +kernel
theorem dX9_takeChange_159 : decode cX9_takeChange 159 = .ok (.aload_n 0, 1) := by decide +kernel
theorem dX9_takeChange_160 : decode cX9_takeChange 160 = .ok (.iconst 1, 1) := by decide +kernel
theorem dX9_takeChange_161 : decode cX9_takeChange 161 = .ok (.aload_n 0, 1) := by decide +kernel
theorem dX9_takeChange_162 : decode cX9_takeChange 162 = .ok (.getfield 141, 3) := by decide +kernel
theorem dX9_takeChange_165 : decode cX9_takeChange 165 = .ok (.invokevirtual 171, 3) := by decide +kernel
theorem dX9_takeChange_168 : decode cX9_takeChange 168 = .ok (.ireturn, 1) := by decide +kernel
theorem dX9_takeChange_169 : decode cX9_takeChange 169 = .ok (.iload 4, 2) := by decide +kernel
theorem dX9_takeChange_171 : decode cX9_takeChange 171 = .ok (.istore_n 3, 1) := by decide +kernel
theorem dX9_takeChange_172 : decode cX9_takeChange 172 = .ok (.aload_n 0, 1) := by decide +kernel
theorem dX9_takeChange_173 : decode cX9_takeChange 173 = .ok (.aload_n 0, 1) := by decide +kernel
theorem dX9_takeChange_174 : decode cX9_takeChange 174 = .ok (.getfield 152, 3) := by decide +kernel
theorem dX9_takeChange_177 : decode cX9_takeChange 177 = .ok (.putfield 141, 3) := by decide +kernel
theorem dX9_takeChange_180 : decode cX9_takeChange 180 = .ok (.iload 4, 2) := by decide +kernel
theorem dX9_takeChange_182 : decode cX9_takeChange 182 = .ok (.ifCond .ne 11, 3) := by decide +kernel
theorem dX9_takeChange_185 : decode cX9_takeChange 185 = .ok (.aload_n 0, 1) := by decide +kernel
theorem dX9_takeChange_186 : decode cX9_takeChange 186 = .ok (.iload_n 2, 1) := by decide +kernel
theorem dX9_takeChange_187 : decode cX9_takeChange 187 = .ok (.invokevirtual 215, 3) := by decide +kernel
theorem dX9_takeChange_190 : decode cX9_takeChange 190 = .ok (.goto 24, 3) := by decide +kernel
theorem dX9_takeChange_193 : decode cX9_takeChange 193 = .ok (.iload 4, 2) := by decide +kernel
theorem dX9_takeChange_195 : decode cX9_takeChange 195 = .ok (.iconst 1, 1) := by decide +kernel
theorem dX9_takeChange_196 : decode cX9_takeChange 196 = .ok (.if_icmp .ne 11, 3) := by decide +kernel
theorem dX9_takeChange_199 : decode cX9_takeChange 199 = .ok (.aload_n 0, 1) := by decide +kernel
theorem dX9_takeChange_200 : decode cX9_takeChange 200 = .ok (.iload_n 2, 1) := by decide +kernel
theorem dX9_takeChange_201 : decode cX9_takeChange 201 = .ok (.invokevirtual 219, 3) := by decide +kernel
theorem dX9_takeChange_204 : decode cX9_takeChange 204 = .ok (.goto 10, 3) := by decide +kernel
theorem dX9_takeChange_207 : decode cX9_takeChange 207 = .ok (.aload_n 0, 1) := by decide +kernel
theorem dX9_takeChange_208 : decode cX9_takeChange 208 = .ok (.iconst 0, 1) := by decide +kernel
theorem dX9_takeChange_209 : decode cX9_takeChange 209 = .ok (.bipush 9, 2) := by decide +kernel
theorem dX9_takeChange_211 : decode cX9_takeChange 211 = .ok (.invokevirtual 184, 3) := by decide +kernel
theorem dX9_takeChange_214 : decode cX9_takeChange 214 = .ok (.istore 5, 2) := by decide +kernel
theorem dX9_takeChange_216 : decode cX9_takeChange 216 = .ok (.iload 5, 2) := by decide +kernel
theorem dX9_takeChange_218 : decode cX9_takeChange 218 = .ok (.ifCond .le 6, 3) := by decide +kernel
theorem dX9_takeChange_221 : decode cX9_takeChange 221 = .ok (.iload 5, 2) := by decide +kernel
theorem dX9_takeChange_223 : decode cX9_takeChange 223 = .ok (.ireturn, 1) := by decide +kernel
theorem dX9_takeChange_224 : decode cX9_takeChange 224 = .ok (.aload_n 0, 1) := by decide +kernel
theorem dX9_takeChange_225 : decode cX9_takeChange 225 = .ok (.getfield 65, 3) := by decide +kernel
theorem dX9_takeChange_228 : decode cX9_takeChange 228 = .ok (.iload_n 2, 1) := by decide +kernel
theorem dX9_takeChange_229 : decode cX9_takeChange 229 = .ok (.iload 4, 2) := by decide +kernel
theorem dX9_takeChange_231 : decode cX9_takeChange 231 = .ok (.iconst 2, 1) := by decide +kernel
theorem dX9_takeChange_232 : decode cX9_takeChange 232 = .ok (.if_icmp .ne 10, 3) := by decide +kernel
theorem dX9_takeChange_235 : decode cX9_takeChange 235 = .ok (.aload_n 0, 1) := by decide +kernel
theorem dX9_takeChange_236 : decode cX9_takeChange 236 = .ok (.getfield 178, 3) := by decide +kernel
theorem dX9_takeChange_239 : decode cX9_takeChange 239 = .ok (.goto 4, 3) := by decide +kernel
theorem dX9_takeChange_242 : decode cX9_takeChange 242 = .ok (.iconst 0, 1) := by decide +kernel
theorem dX9_takeChange_243 : decode cX9_takeChange 243 = .ok (.iastore, 1) := by decide +kernel
theorem dX9_takeChange_244 : decode cX9_takeChange 244 = .ok (.goto (-181), 3) := by decide +kernel
theorem dX9_takeChange_247 : decode cX9_takeChange 247 = .ok (.aload_n 0, 1) := by decide +kernel
theorem dX9_takeChange_248 : decode cX9_takeChange 248 = .ok (.dup, 1) := by decide +kernel
theorem dX9_takeChange_249 : decode cX9_takeChange 249 = .ok (.getfield 201, 3) := by decide +kernel
theorem dX9_takeChange_252 : decode cX9_takeChange 252 = .ok (.iconst 1, 1) := by decide +kernel
theorem dX9_takeChange_253 : decode cX9_takeChange 253 = .ok (.iadd, 1) := by decide +kernel
theorem dX9_takeChange_254 : decode cX9_takeChange 254 = .ok (.putfield 201, 3) := by decide +kernel
theorem dX9_takeChange_257 : decode cX9_takeChange 257 = .ok (.aload_n 0, 1) := by decide +kernel
theorem dX9_takeChange_258 : decode cX9_takeChange 258 = .ok (.invokevirtual 222, 3) := by decide +kernel
theorem dX9_takeChange_261 : decode cX9_takeChange 261 = .ok (.ireturn, 1) := by decide +kernel
set_option maxRecDepth 20000 in
theorem ggX9_takeFault_X9_breaks : GoodIn wsX9_takeFault wsX9_breaks := goodIn_r _ [14, 15, 50, 51, 52, 53, 54, 55, 56, 57, 58, 59, 60, 61, 62, 63, 64, 65, 66, 67, 68, 69, 70, 71, 72, 73, 74, 75, 76, 77, 78, 79, 80, 81, 82, 83, 84, 85, 86, 87, 88, 89, 90, 91, 92, 93, 94, 95, 96, 97, 98, 99, 100, 101, 102, 103, 104] (by decide +kernel) (by decide +kernel)
set_option maxRecDepth 20000 in
theorem gX9_takeFault_X9_breaks : GoodIn wsX9_takeFault (wsV RX9 171 RX9 yX9_breaks wsX9_breaks) := goodIn_app (goodIn_of _ (by decide +kernel)) ggX9_takeFault_X9_breaks
set_option maxRecDepth 20000 in
theorem ggX9_takeFault_X9_takeNumber : GoodIn wsX9_takeFault wsX9_takeNumber := goodIn_r _ [19, 20, 21, 5, 22, 3, 23, 24, 25, 26, 27, 28, 13, 29, 30, 31, 32, 10, 11, 12, 14, 15, 50, 51, 52, 53, 54, 55, 56, 57, 58, 59, 60, 61, 62, 63, 64, 65, 66, 67, 68, 69, 70, 71, 72, 73, 74, 75, 76, 77, 78, 79, 80, 81, 82, 83, 84, 85, 86, 87, 88, 89, 90, 91, 92, 93, 94, 95, 96, 97, 98, 99, 100, 101, 102, 103, 104] (by decide +kernel) (by decide +kernel)
set_option maxRecDepth 20000 in
theorem gX9_takeFault_X9_takeNumber : GoodIn wsX9_takeFault (wsV RX9 184 RX9 yX9_takeNumber wsX9_takeNumber) := goodIn_app (goodIn_of _ (by decide +kernel)) ggX9_takeFault_X9_takeNumber
set_option maxRecDepth 20000 in
theorem ggX9_takeFault_X9_readWord : GoodIn wsX9_takeFault wsX9_readWord := goodIn_r _ [36, 4, 5, 6, 23, 24, 37, 38, 39, 40, 41, 42, 26, 27, 28, 13, 29, 30, 31, 32, 50, 51, 52, 53, 54, 55, 56, 57, 58, 59, 60, 61, 62, 63, 64, 65, 66, 67, 68, 69, 70, 71, 72, 73, 74, 75, 76, 77, 78, 79, 80, 81, 82, 83, 84, 85, 86, 87, 88, 89, 90, 91, 92, 93, 94, 95, 96, 97, 98, 99, 100, 101, 102, 103, 104] (by decide +kernel) (by decide +kernel)
set_option maxRecDepth 20000 in
theorem gX9_takeFault_X9_readWord : GoodIn wsX9_takeFault (wsV RX9 204 RX9 yX9_readWord wsX9_readWord) := goodIn_app (goodIn_of _ (by decide +kernel)) ggX9_takeFault_X9_readWord
set_option maxRecDepth 20000 in
theorem ggX9_takeFault_X9_code : GoodIn wsX9_takeFault wsX9_code := goodIn_r _ [45, 41, 42] (by decide +kernel) (by decide +kernel)
set_option maxRecDepth 20000 in
theorem gX9_takeFault_X9_code : GoodIn wsX9_takeFault (va_wsS RX9 207 yX9_code wsX9_code) := goodIn_app (goodIn_of _ (by decide +kernel)) ggX9_takeFault_X9_code
set_option maxRecDepth 20000 in
theorem ggX9_takeFault_X9_here : GoodIn wsX9_takeFault wsX9_here := goodIn_r _ [29, 5, 23, 24, 50, 51, 52, 53, 54, 55, 56, 57, 58, 59, 60, 61, 62, 63, 64, 65, 66, 67, 68, 69, 70, 71, 72, 73, 74, 75, 76, 77, 78, 79, 80, 81, 82, 83, 84, 85, 86, 87, 88, 89, 90, 91, 92, 93, 94, 95, 96, 97, 98, 99, 100, 101, 102, 103, 104] (by decide +kernel) (by decide +kernel)
set_option maxRecDepth 20000 in
theorem gX9_takeFault_X9_here : GoodIn wsX9_takeFault (wsV RX9 144 RX9 yX9_here wsX9_here) := goodIn_app (goodIn_of _ (by decide +kernel)) ggX9_takeFault_X9_here
set_option maxRecDepth 20000 in
theorem ggX9_takeFault_X9_takeStop : GoodIn wsX9_takeFault wsX9_takeStop := goodIn_r _ [49, 5, 26, 27, 28, 13, 29, 23, 24, 10, 11, 12, 14, 15, 50, 51, 52, 53, 54, 55, 56, 57, 58, 59, 60, 61, 62, 63, 64, 65, 66, 67, 68, 69, 70, 71, 72, 73, 74, 75, 76, 77, 78, 79, 80, 81, 82, 83, 84, 85, 86, 87, 88, 89, 90, 91, 92, 93, 94, 95, 96, 97, 98, 99, 100, 101, 102, 103, 104] (by decide +kernel) (by decide +kernel)
set_option maxRecDepth 20000 in
theorem gX9_takeFault_X9_takeStop : GoodIn wsX9_takeFault (wsV RX9 222 RX9 yX9_takeStop wsX9_takeStop) := goodIn_app (goodIn_of _ (by decide +kernel)) ggX9_takeFault_X9_takeStop
theorem dX9_takeFault_0 : decode cX9_takeFault 0 = .ok (.aload_n 0, 1) := by decide +kernel
theorem dX9_takeFault_1 : decode cX9_takeFault 1 = .ok (.getfield 225, 3) := by decide +kernel
theorem dX9_takeFault_4 : decode cX9_takeFault 4 = .ok (.bipush 10, 2) := by decide +kernel
theorem dX9_takeFault_6 : decode cX9_takeFault 6 = .ok (.if_icmp .ne 10, 3) := by decide +kernel
theorem dX9_takeFault_9 : decode cX9_takeFault 9 = .ok (.aload_n 0, 1) := by decide +kernel
theorem dX9_takeFault_10 : decode cX9_takeFault 10 = .ok (.iconst 3, 1) := by decide +kernel
theorem dX9_takeFault_11 : decode cX9_takeFault 11 = .ok (.iload_n 1, 1) := by decide +kernel
theorem dX9_takeFault_12 : decode cX9_takeFault 12 = .ok (.invokevirtual 171, 3) := by decide +kernel
theorem dX9_takeFault_15 : decode cX9_takeFault 15 = .ok (.ireturn, 1) := by decide +kernel
theorem dX9_takeFault_16 : decode cX9_takeFault 16 = .ok (.aload_n 0, 1) := by decide +kernel
theorem dX9_takeFault_17 : decode cX9_takeFault 17 = .ok (.iconst 1, 1) := by decide +kernel
theorem dX9_takeFault_18 : decode cX9_takeFault 18 = .ok (.bipush 99, 2) := by decide +kernel
theorem dX9_takeFault_20 : decode cX9_takeFault 20 = .ok (.invokevirtual 184, 3) := by decide +kernel
theorem dX9_takeFault_23 : decode cX9_takeFault 23 = .ok (.istore_n 2, 1) := by decide +kernel
theorem dX9_takeFault_24 : decode cX9_takeFault 24 = .ok (.aload_n 0, 1) := by decide +kernel
theorem dX9_takeFault_25 : decode cX9_takeFault 25 = .ok (.getfield 68, 3) := by decide +kernel
theorem dX9_takeFault_28 : decode cX9_takeFault 28 = .ok (.aload_n 0, 1) := by decide +kernel
theorem dX9_takeFault_29 : decode cX9_takeFault 29 = .ok (.getfield 225, 3) := by decide +kernel
theorem dX9_takeFault_32 : decode cX9_takeFault 32 = .ok (.aload_n 0, 1) := by decide +kernel
theorem dX9_takeFault_33 : decode cX9_takeFault 33 = .ok (.getfield 178, 3) := by decide +kernel
theorem dX9_takeFault_36 : decode cX9_takeFault 36 = .ok (.iastore, 1) := by decide +kernel
theorem dX9_takeFault_37 : decode cX9_takeFault 37 = .ok (.iload_n 2, 1) := by decide +kernel
theorem dX9_takeFault_38 : decode cX9_takeFault 38 = .ok (.ifCond .le 5, 3) := by decide +kernel
theorem dX9_takeFault_41 : decode cX9_takeFault 41 = .ok (.iload_n 2, 1) := by decide +kernel
theorem dX9_takeFault_42 : decode cX9_takeFault 42 = .ok (.ireturn, 1) := by decide +kernel
theorem dX9_takeFault_43 : decode cX9_takeFault 43 = .ok (.aload_n 0, 1) := by decide +kernel
theorem dX9_takeFault_44 : decode cX9_takeFault 44 = .ok (.invokevirtual 204, 3) := by decide +kernel
theorem dX9_takeFault_47 : decode cX9_takeFault 47 = .ok (.aload_n 0, 1) := by decide +kernel
theorem dX9_takeFault_48 : decode cX9_takeFault 48 = .ok (.getfield 148, 3) := by decide +kernel
theorem dX9_takeFault_51 : decode cX9_takeFault 51 = .ok (.bipush 102, 2) := by decide +kernel
theorem dX9_takeFault_53 : decode cX9_takeFault 53 = .ok (.bipush 114, 2) := by decide +kernel
theorem dX9_takeFault_55 : decode cX9_takeFault 55 = .ok (.bipush 111, 2) := by decide +kernel
theorem dX9_takeFault_57 : decode cX9_takeFault 57 = .ok (.bipush 109, 2) := by decide +kernel
theorem dX9_takeFault_59 : decode cX9_takeFault 59 = .ok (.invokestatic 207, 3) := by decide +kernel
theorem dX9_takeFault_62 : decode cX9_takeFault 62 = .ok (.lcmp, 1) := by decide +kernel
theorem dX9_takeFault_63 : decode cX9_takeFault 63 = .ok (.ifCond .eq 13, 3) := by decide +kernel
theorem dX9_takeFault_66 : decode cX9_takeFault 66 = .ok (.aload_n 0, 1) := by decide +kernel
theorem dX9_takeFault_67 : decode cX9_takeFault 67 = .ok (.iconst 1, 1) := by decide +kernel
theorem dX9_takeFault_68 : decode cX9_takeFault 68 = .ok (.aload_n 0, 1) := by decide +kernel
theorem dX9_takeFault_69 : decode cX9_takeFault 69 = .ok (.getfield 141, 3) := by decide +kernel
theorem dX9_takeFault_72 : decode cX9_takeFault 72 = .ok (.invokevirtual 171, 3) := by decide +kernel
theorem dX9_takeFault_75 : decode cX9_takeFault 75 = .ok (.ireturn, 1) := by decide +kernel
theorem dX9_takeFault_76 : decode cX9_takeFault 76 = .ok (.aload_n 0, 1) := by decide +kernel
theorem dX9_takeFault_77 : decode cX9_takeFault 77 = .ok (.aload_n 0, 1) := by decide +kernel
theorem dX9_takeFault_78 : decode cX9_takeFault 78 = .ok (.getfield 152, 3) := by decide +kernel
theorem dX9_takeFault_81 : decode cX9_takeFault 81 = .ok (.putfield 141, 3) := by decide +kernel
theorem dX9_takeFault_84 : decode cX9_takeFault 84 = .ok (.aload_n 0, 1) := by decide +kernel
theorem dX9_takeFault_85 : decode cX9_takeFault 85 = .ok (.iconst 0, 1) := by decide +kernel
theorem dX9_takeFault_86 : decode cX9_takeFault 86 = .ok (.aload_n 0, 1) := by decide +kernel
theorem dX9_takeFault_87 : decode cX9_takeFault 87 = .ok (.getfield 201, 3) := by decide +kernel
theorem dX9_takeFault_90 : decode cX9_takeFault 90 = .ok (.iconst 1, 1) := by decide +kernel
theorem dX9_takeFault_91 : decode cX9_takeFault 91 = .ok (.isub, 1) := by decide +kernel
theorem dX9_takeFault_92 : decode cX9_takeFault 92 = .ok (.invokevirtual 184, 3) := by decide +kernel
theorem dX9_takeFault_95 : decode cX9_takeFault 95 = .ok (.istore_n 2, 1) := by decide +kernel
theorem dX9_takeFault_96 : decode cX9_takeFault 96 = .ok (.aload_n 0, 1) := by decide +kernel
theorem dX9_takeFault_97 : decode cX9_takeFault 97 = .ok (.getfield 71, 3) := by decide +kernel
theorem dX9_takeFault_100 : decode cX9_takeFault 100 = .ok (.aload_n 0, 1) := by decide +kernel
theorem dX9_takeFault_101 : decode cX9_takeFault 101 = .ok (.getfield 225, 3) := by decide +kernel
theorem dX9_takeFault_104 : decode cX9_takeFault 104 = .ok (.aload_n 0, 1) := by decide +kernel
theorem dX9_takeFault_105 : decode cX9_takeFault 105 = .ok (.getfield 178, 3) := by decide +kernel
theorem dX9_takeFault_108 : decode cX9_takeFault 108 = .ok (.iastore, 1) := by decide +kernel
theorem dX9_takeFault_109 : decode cX9_takeFault 109 = .ok (.aload_n 0, 1) := by decide +kernel
theorem dX9_takeFault_110 : decode cX9_takeFault 110 = .ok (.getfield 74, 3) := by decide +kernel
theorem dX9_takeFault_113 : decode cX9_takeFault 113 = .ok (.aload_n 0, 1) := by decide +kernel
theorem dX9_takeFault_114 : decode cX9_takeFault 114 = .ok (.getfield 225, 3) := by decide +kernel
theorem dX9_takeFault_117 : decode cX9_takeFault 117 = .ok (.iconst (-1), 1) := by decide +kernel
theorem dX9_takeFault_118 : decode cX9_takeFault 118 = .ok (.iastore, 1) := by decide +kernel
theorem dX9_takeFault_119 : decode cX9_takeFault 119 = .ok (.iload_n 2, 1) := by decide +kernel
theorem dX9_takeFault_120 : decode cX9_takeFault 120 = .ok (.ifCond .le 5, 3) := by decide +kernel
theorem dX9_takeFault_123 : decode cX9_takeFault 123 = .ok (.iload_n 2, 1) := by decide +kernel
theorem dX9_takeFault_124 : decode cX9_takeFault 124 = .ok (.ireturn, 1) := by decide +kernel
theorem dX9_takeFault_125 : decode cX9_takeFault 125 = .ok (.aload_n 0, 1) := by decide +kernel
theorem dX9_takeFault_126 : decode cX9_takeFault 126 = .ok (.invokevirtual 144, 3) := by decide +kernel
theorem dX9_takeFault_129 : decode cX9_takeFault 129 = .ok (.bipush 59, 2) := by decide +kernel
theorem dX9_takeFault_131 : decode cX9_takeFault 131 = .ok (.if_icmp .eq 79, 3) := by decide +kernel
theorem dX9_takeFault_134 : decode cX9_takeFault 134 = .ok (.aload_n 0, 1) := by decide +kernel
theorem dX9_takeFault_135 : decode cX9_takeFault 135 = .ok (.invokevirtual 204, 3) := by decide +kernel
theorem dX9_takeFault_138 : decode cX9_takeFault 138 = .ok (.aload_n 0, 1) := by decide +kernel
theorem dX9_takeFault_139 : decode cX9_takeFault 139 = .ok (.getfield 148, 3) := by decide +kernel
theorem dX9_takeFault_142 : decode cX9_takeFault 142 = .ok (.bipush 116, 2) := by decide +kernel
theorem dX9_takeFault_144 : decode cX9_takeFault 144 = .ok (.bipush 105, 2) := by decide +kernel
theorem dX9_takeFault_146 : decode cX9_takeFault 146 = .ok (.bipush 108, 2) := by decide +kernel
theorem dX9_takeFault_148 : decode cX9_takeFault 148 = .ok (.bipush 108, 2) := by decide +kernel
theorem dX9_takeFault_150 : decode cX9_takeFault 150 = .ok (.invokestatic 207, 3) := by decide +kernel
theorem dX9_takeFault_153 : decode cX9_takeFault 153 = .ok (.lcmp, 1) := by decide +kernel
theorem dX9_takeFault_154 : decode cX9_takeFault 154 = .ok (.ifCond .eq 13, 3) := by decide +kernel
theorem dX9_takeFault_157 : decode cX9_takeFault 157 = .ok (.aload_n 0, 1) := by decide +kernel
theorem dX9_takeFault_158 : decode cX9_takeFault 158 = .ok (.iconst 1, 1) := by decide +kernel
theorem dX9_takeFault_159 : decode cX9_takeFault 159 = .ok (.aload_n 0, 1) := by decide +kernel
theorem dX9_takeFault_160 : decode cX9_takeFault 160 = .ok (.getfield 141, 3) := by decide +kernel
theorem dX9_takeFault_163 : decode cX9_takeFault 163 = .ok (.invokevirtual 171, 3) := by decide +kernel
theorem dX9_takeFault_166 : decode cX9_takeFault 166 = .ok (.ireturn, 1) := by decide +kernel
theorem dX9_takeFault_167 : decode cX9_takeFault 167 = .ok (.aload_n 0, 1) := by decide +kernel
theorem dX9_takeFault_168 : decode cX9_takeFault 168 = .ok (.aload_n 0, 1) := by decide +kernel
theorem dX9_takeFault_169 : decode cX9_takeFault 169 = .ok (.getfield 152, 3) := by decide +kernel
theorem dX9_takeFault_172 : decode cX9_takeFault 172 = .ok (.putfield 141, 3) := by decide +kernel
theorem dX9_takeFault_175 : decode cX9_takeFault 175 = .ok (.aload_n 0, 1) := by decide +kernel
theorem dX9_takeFault_176 : decode cX9_takeFault 176 = .ok (.aload_n 0, 1) := by decide +kernel
theorem dX9_takeFault_177 : decode cX9_takeFault 177 = .ok (.getfield 71, 3) := by decide +kernel
theorem dX9_takeFault_180 : decode cX9_takeFault 180 = .ok (.aload_n 0, 1) := by decide +kernel
theorem dX9_takeFault_181 : decode cX9_takeFault 181 = .ok (.getfield 225, 3) := by decide +kernel
theorem dX9_takeFault_184 : decode cX9_takeFault 184 = .ok (.iaload, 1) := by decide +kernel
theorem dX9_takeFault_185 : decode cX9_takeFault 185 = .ok (.iconst 1, 1) := by decide +kernel
theorem dX9_takeFault_186 : decode cX9_takeFault 186 = .ok (.iadd, 1) := by decide +kernel
theorem dX9_takeFault_187 : decode cX9_takeFault 187 = .ok (.aload_n 0, 1) := by decide +kernel
theorem dX9_takeFault_188 : decode cX9_takeFault 188 = .ok (.getfield 201, 3) := by decide +kernel
theorem dX9_takeFault_191 : decode cX9_takeFault 191 = .ok (.iconst 1, 1) := by decide +kernel
theorem dX9_takeFault_192 : decode cX9_takeFault 192 = .ok (.isub, 1) := by decide +kernel
theorem dX9_takeFault_193 : decode cX9_takeFault 193 = .ok (.invokevirtual 184, 3) := by decide +kernel
theorem dX9_takeFault_196 : decode cX9_takeFault 196 = .ok (.istore_n 2, 1) := by decide +kernel
theorem dX9_takeFault_197 : decode cX9_takeFault 197 = .ok (.aload_n 0, 1) := by decide +kernel
theorem dX9_takeFault_198 : decode cX9_takeFault 198 = .ok (.getfield 74, 3) := by decide +kernel
theorem dX9_takeFault_201 : decode cX9_takeFault 201 = .ok (.aload_n 0, 1) := by decide +kernel
theorem dX9_takeFault_202 : decode cX9_takeFault 202 = .ok (.getfield 225, 3) := by decide +kernel
theorem dX9_takeFault_205 : decode cX9_takeFault 205 = .ok (.aload_n 0, 1) := by decide +kernel
theorem dX9_takeFault_206 : decode cX9_takeFault 206 = .ok (.getfield 178, 3) := by decide +kernel
theorem dX9_takeFault_209 : decode cX9_takeFault 209 = .ok (.iastore, 1) := by decide +kernel
theorem dX9_takeFault_210 : decode cX9_takeFault 210 = .ok (.aload_n 0, 1) := by decide +kernel
theorem dX9_takeFault_211 : decode cX9_takeFault 211 = .ok (.dup, 1) := by decide +kernel
theorem dX9_takeFault_212 : decode cX9_takeFault 212 = .ok (.getfield 225, 3) := by decide +kernel
theorem dX9_takeFault_215 : decode cX9_takeFault 215 = .ok (.iconst 1, 1) := by decide +kernel
theorem dX9_takeFault_216 : decode cX9_takeFault 216 = .ok (.iadd, 1) := by decide +kernel
theorem dX9_takeFault_217 : decode cX9_takeFault 217 = .ok (.putfield 225, 3) := by decide +kernel
theorem dX9_takeFault_220 : decode cX9_takeFault 220 = .ok (.iload_n 2, 1) := by decide +kernel
theorem dX9_takeFault_221 : decode cX9_takeFault 221 = .ok (.ifCond .le 7, 3) := by decide +kernel
theorem dX9_takeFault_224 : decode cX9_takeFault 224 = .ok (.iload_n 2, 1) := by decide +kernel
theorem dX9_takeFault_225 : decode cX9_takeFault 225 = .ok (.goto 7, 3) := by decide +kernel
theorem dX9_takeFault_228 : decode cX9_takeFault 228 = .ok (.aload_n 0, 1) := by decide +kernel
theorem dX9_takeFault_229 : decode cX9_takeFault 229 = .ok (.invokevirtual 222, 3) := by decide +kernel
theorem dX9_takeFault_232 : decode cX9_takeFault 232 = .ok (.ireturn, 1) := by decide +kernel
set_option maxRecDepth 20000 in
theorem ggX9_takeClause_X9_readWord : GoodIn wsX9_takeClause wsX9_readWord := goodIn_r _ [8, 2, 1, 3, 9, 10, 11, 12, 13, 14, 15, 16, 17, 18, 19, 7, 20, 21, 22, 23, 84, 85, 86, 87, 88, 89, 90, 91, 92, 93, 94, 95, 96, 97, 98, 99, 100, 101, 102, 103, 104, 105, 106, 107, 108, 109, 110, 111, 112, 113, 114, 115, 116, 117, 118, 119, 120, 121, 122, 123, 124, 125, 126, 127, 128, 129, 130, 131, 132, 133, 134, 135, 136, 137, 138] (by decide +kernel) (by decide +kernel)
set_option maxRecDepth 20000 in
theorem gX9_takeClause_X9_readWord : GoodIn wsX9_takeClause (wsV RX9 204 RX9 yX9_readWord wsX9_readWord) := goodIn_app (goodIn_of _ (by decide +kernel)) ggX9_takeClause_X9_readWord
set_option maxRecDepth 20000 in
theorem ggX9_takeClause_X9_code : GoodIn wsX9_takeClause wsX9_code := goodIn_r _ [26, 15, 16] (by decide +kernel) (by decide +kernel)
set_option maxRecDepth 20000 in
theorem gX9_takeClause_X9_code : GoodIn wsX9_takeClause (va_wsS RX9 207 yX9_code wsX9_code) := goodIn_app (goodIn_of _ (by decide +kernel)) ggX9_takeClause_X9_code
set_option maxRecDepth 20000 in
theorem ggX9_takeClause_X9_longer : GoodIn wsX9_takeClause wsX9_longer := goodIn_r _ [29, 15, 16] (by decide +kernel) (by decide +kernel)
set_option maxRecDepth 20000 in
theorem gX9_takeClause_X9_longer : GoodIn wsX9_takeClause (va_wsS RX9 211 yX9_longer wsX9_longer) := goodIn_app (goodIn_of _ (by decide +kernel)) ggX9_takeClause_X9_longer
set_option maxRecDepth 20000 in
theorem ggX9_takeClause_X9_breaks : GoodIn wsX9_takeClause wsX9_breaks := goodIn_r _ [33, 34, 84, 85, 86, 87, 88, 89, 90, 91, 92, 93, 94, 95, 96, 97, 98, 99, 100, 101, 102, 103, 104, 105, 106, 107, 108, 109, 110, 111, 112, 113, 114, 115, 116, 117, 118, 119, 120, 121, 122, 123, 124, 125, 126, 127, 128, 129, 130, 131, 132, 133, 134, 135, 136, 137, 138] (by decide +kernel) (by decide +kernel)
set_option maxRecDepth 20000 in
theorem gX9_takeClause_X9_breaks : GoodIn wsX9_takeClause (wsV RX9 171 RX9 yX9_breaks wsX9_breaks) := goodIn_app (goodIn_of _ (by decide +kernel)) ggX9_takeClause_X9_breaks
set_option maxRecDepth 20000 in
theorem ggX9_takeClause_X9_takeChange : GoodIn wsX9_takeClause wsX9_takeChange := goodIn_r _ [38, 39, 40, 41, 42, 2, 1, 3, 43, 30, 31, 32, 7, 33, 34, 17, 18, 19, 20, 9, 10, 4, 5, 6, 8, 11, 12, 13, 14, 15, 16, 21, 22, 23, 24, 25, 26, 27, 28, 29, 44, 45, 46, 47, 48, 49, 50, 51, 52, 53, 54, 55, 56, 57, 58, 59, 60, 61, 62, 63, 64, 65, 66, 67, 68, 69, 70, 71, 72, 73, 74, 75, 84, 85, 86, 87, 88, 89, 90, 91, 92, 93, 94, 95, 96, 97, 98, 99, 100, 101, 102, 103, 104, 105, 106, 107, 108, 109, 110, 111, 112, 113, 114, 115, 116, 117, 118, 119, 120, 121, 122, 123, 124, 125, 126, 127, 128, 129, 130, 131, 132, 133, 134, 135, 136, 137, 138] (by decide +kernel) (by decide +kernel)
set_option maxRecDepth 20000 in
theorem gX9_takeClause_X9_takeChange : GoodIn wsX9_takeClause (wsV RX9 228 RX9 yX9_takeChange wsX9_takeChange) := goodIn_app (goodIn_of _ (by decide +kernel)) ggX9_takeClause_X9_takeChange
set_option maxRecDepth 20000 in
theorem ggX9_takeClause_X9_takeFault : GoodIn wsX9_takeClause wsX9_takeFault := goodIn_r _ [79, 80, 81, 43, 2, 1, 3, 39, 82, 83, 30, 31, 32, 7, 33, 34, 54, 55, 56, 57, 58, 59, 53, 9, 10, 60, 17, 18, 19, 20, 21, 22, 23, 4, 5, 6, 8, 11, 12, 13, 14, 15, 16, 24, 25, 26, 72, 73, 74, 75, 84, 85, 86, 87, 88, 89, 90, 91, 92, 93, 94, 95, 96, 97, 98, 99, 100, 101, 102, 103, 104, 105, 106, 107, 108, 109, 110, 111, 112, 113, 114, 115, 116, 117, 118, 119, 120, 121, 122, 123, 124, 125, 126, 127, 128, 129, 130, 131, 132, 133, 134, 135, 136, 137, 138] (by decide +kernel) (by decide +kernel)
set_option maxRecDepth 20000 in
theorem gX9_takeClause_X9_takeFault : GoodIn wsX9_takeClause (wsV RX9 231 RX9 yX9_takeFault wsX9_takeFault) := goodIn_app (goodIn_of _ (by decide +kernel)) ggX9_takeClause_X9_takeFault
theorem dX9_takeClause_0 : decode cX9_takeClause 0 = .ok (.aload_n 0, 1) := by decide +kernel
theorem dX9_takeClause_1 : decode cX9_takeClause 1 = .ok (.invokevirtual 204, 3) := by decide +kernel
theorem dX9_takeClause_4 : decode cX9_takeClause 4 = .ok (.aload_n 0, 1) := by decide +kernel
theorem dX9_takeClause_5 : decode cX9_takeClause 5 = .ok (.getfield 141, 3) := by decide +kernel
theorem dX9_takeClause_8 : decode cX9_takeClause 8 = .ok (.istore_n 1, 1) := by decide +kernel
theorem dX9_takeClause_9 : decode cX9_takeClause 9 = .ok (.aload_n 0, 1) := by decide +kernel
theorem dX9_takeClause_10 : decode cX9_takeClause 10 = .ok (.getfield 148, 3) := by decide +kernel
theorem dX9_takeClause_13 : decode cX9_takeClause 13 = .ok (.bipush 99, 2) := by decide +kernel
theorem dX9_takeClause_15 : decode cX9_takeClause 15 = .ok (.bipush 104, 2) := by decide +kernel
theorem dX9_takeClause_17 : decode cX9_takeClause 17 = .ok (.bipush 97, 2) := by decide +kernel
theorem dX9_takeClause_19 : decode cX9_takeClause 19 = .ok (.bipush 110, 2) := by decide +kernel
theorem dX9_takeClause_21 : decode cX9_takeClause 21 = .ok (.invokestatic 207, 3) := by decide +kernel
theorem dX9_takeClause_24 : decode cX9_takeClause 24 = .ok (.bipush 103, 2) := by decide +kernel
theorem dX9_takeClause_26 : decode cX9_takeClause 26 = .ok (.invokestatic 211, 3) := by decide +kernel
theorem dX9_takeClause_29 : decode cX9_takeClause 29 = .ok (.bipush 101, 2) := by decide +kernel
theorem dX9_takeClause_31 : decode cX9_takeClause 31 = .ok (.invokestatic 211, 3) := by decide +kernel
theorem dX9_takeClause_34 : decode cX9_takeClause 34 = .ok (.lcmp, 1) := by decide +kernel
theorem dX9_takeClause_35 : decode cX9_takeClause 35 = .ok (.ifCond .ne 7, 3) := by decide +kernel
theorem dX9_takeClause_38 : decode cX9_takeClause 38 = .ok (.iconst 1, 1) := by decide +kernel
theorem dX9_takeClause_39 : decode cX9_takeClause 39 = .ok (.goto 4, 3) := by decide +kernel
theorem dX9_takeClause_42 : decode cX9_takeClause 42 = .ok (.iconst 0, 1) := by decide +kernel
theorem dX9_takeClause_43 : decode cX9_takeClause 43 = .ok (.istore_n 2, 1) := by decide +kernel
theorem dX9_takeClause_44 : decode cX9_takeClause 44 = .ok (.iload_n 2, 1) := by decide +kernel
theorem dX9_takeClause_45 : decode cX9_takeClause 45 = .ok (.ifCond .ne 34, 3) := by decide +kernel
theorem dX9_takeClause_48 : decode cX9_takeClause 48 = .ok (.aload_n 0, 1) := by decide +kernel
theorem dX9_takeClause_49 : decode cX9_takeClause 49 = .ok (.getfield 148, 3) := by decide +kernel
theorem dX9_takeClause_52 : decode cX9_takeClause 52 = .ok (.bipush 102, 2) := by decide +kernel
theorem dX9_takeClause_54 : decode cX9_takeClause 54 = .ok (.bipush 97, 2) := by decide +kernel
theorem dX9_takeClause_56 : decode cX9_takeClause 56 = .ok (.bipush 117, 2) := by decide +kernel
theorem dX9_takeClause_58 : decode cX9_takeClause 58 = .ok (.bipush 108, 2) := by decide +kernel
theorem dX9_takeClause_60 : decode cX9_takeClause 60 = .ok (.invokestatic 207, 3) := by decide +kernel
theorem dX9_takeClause_63 : decode cX9_takeClause 63 = .ok (.bipush 116, 2) := by decide +kernel
theorem dX9_takeClause_65 : decode cX9_takeClause 65 = .ok (.invokestatic 211, 3) := by decide +kernel
theorem dX9_takeClause_68 : decode cX9_takeClause 68 = .ok (.lcmp, 1) := by decide +kernel
theorem dX9_takeClause_69 : decode cX9_takeClause 69 = .ok (.ifCond .eq 10, 3) := by decide +kernel
theorem dX9_takeClause_72 : decode cX9_takeClause 72 = .ok (.aload_n 0, 1) := by decide +kernel
theorem dX9_takeClause_73 : decode cX9_takeClause 73 = .ok (.iconst 1, 1) := by decide +kernel
theorem dX9_takeClause_74 : decode cX9_takeClause 74 = .ok (.iload_n 1, 1) := by decide +kernel
theorem dX9_takeClause_75 : decode cX9_takeClause 75 = .ok (.invokevirtual 171, 3) := by decide +kernel
theorem dX9_takeClause_78 : decode cX9_takeClause 78 = .ok (.ireturn, 1) := by decide +kernel
theorem dX9_takeClause_79 : decode cX9_takeClause 79 = .ok (.aload_n 0, 1) := by decide +kernel
theorem dX9_takeClause_80 : decode cX9_takeClause 80 = .ok (.aload_n 0, 1) := by decide +kernel
theorem dX9_takeClause_81 : decode cX9_takeClause 81 = .ok (.getfield 152, 3) := by decide +kernel
theorem dX9_takeClause_84 : decode cX9_takeClause 84 = .ok (.putfield 141, 3) := by decide +kernel
theorem dX9_takeClause_87 : decode cX9_takeClause 87 = .ok (.iload_n 2, 1) := by decide +kernel
theorem dX9_takeClause_88 : decode cX9_takeClause 88 = .ok (.ifCond .eq 11, 3) := by decide +kernel
theorem dX9_takeClause_91 : decode cX9_takeClause 91 = .ok (.aload_n 0, 1) := by decide +kernel
theorem dX9_takeClause_92 : decode cX9_takeClause 92 = .ok (.iload_n 1, 1) := by decide +kernel
theorem dX9_takeClause_93 : decode cX9_takeClause 93 = .ok (.invokevirtual 228, 3) := by decide +kernel
theorem dX9_takeClause_96 : decode cX9_takeClause 96 = .ok (.goto 8, 3) := by decide +kernel
theorem dX9_takeClause_99 : decode cX9_takeClause 99 = .ok (.aload_n 0, 1) := by decide +kernel
theorem dX9_takeClause_100 : decode cX9_takeClause 100 = .ok (.iload_n 1, 1) := by decide +kernel
theorem dX9_takeClause_101 : decode cX9_takeClause 101 = .ok (.invokevirtual 231, 3) := by decide +kernel
theorem dX9_takeClause_104 : decode cX9_takeClause 104 = .ok (.ireturn, 1) := by decide +kernel
set_option maxRecDepth 20000 in
theorem ggX9_trunk_X9_here : GoodIn wsX9_trunk wsX9_here := goodIn_r _ [12, 2, 6, 13, 112, 113, 114, 115, 116, 117, 118, 119, 120, 121, 122, 123, 124, 125, 126, 127, 128, 129, 130, 131, 132, 133, 134, 135, 136, 137, 138, 139, 140, 141, 142, 143, 144, 145, 146, 147, 148, 149, 150, 151, 152, 153, 154, 155, 156, 157, 158, 159, 160, 161, 162, 163, 164, 165, 166] (by decide +kernel) (by decide +kernel)
set_option maxRecDepth 20000 in
theorem gX9_trunk_X9_here : GoodIn wsX9_trunk (wsV RX9 144 RX9 yX9_here wsX9_here) := goodIn_app (goodIn_of _ (by decide +kernel)) ggX9_trunk_X9_here
set_option maxRecDepth 20000 in
theorem ggX9_trunk_X9_takeClause : GoodIn wsX9_trunk wsX9_takeClause := goodIn_r _ [17, 2, 18, 19, 20, 21, 22, 11, 23, 6, 13, 24, 25, 26, 27, 28, 29, 8, 9, 10, 12, 30, 31, 32, 33, 34, 35, 36, 37, 38, 39, 40, 41, 42, 1, 43, 44, 45, 46, 4, 47, 48, 49, 50, 51, 52, 53, 54, 55, 56, 57, 58, 59, 60, 61, 62, 63, 64, 65, 66, 3, 67, 68, 69, 70, 71, 72, 73, 74, 75, 76, 77, 78, 79, 80, 81, 82, 83, 84, 85, 5, 86, 87, 88, 112, 113, 114, 115, 116, 117, 118, 119, 120, 121, 122, 123, 124, 125, 126, 127, 128, 129, 130, 131, 132, 133, 134, 135, 136, 137, 138, 139, 140, 141, 142, 143, 144, 145, 146, 147, 148, 149, 150, 151, 152, 153, 154, 155, 156, 157, 158, 159, 160, 161, 162, 163, 164, 165, 166] (by decide +kernel) (by decide +kernel)
set_option maxRecDepth 20000 in
theorem gX9_trunk_X9_takeClause : GoodIn wsX9_trunk (wsV RX9 234 RX9 yX9_takeClause wsX9_takeClause) := goodIn_app (goodIn_of _ (by decide +kernel)) ggX9_trunk_X9_takeClause
set_option maxRecDepth 20000 in
theorem ggX9_trunk_X9_keepTrunk : GoodIn wsX9_trunk wsX9_keepTrunk := goodIn_r _ [92, 4, 7, 5, 93, 94, 47, 95, 48, 96, 49, 97, 86, 98, 87, 99, 88, 100, 101, 102, 103, 104, 105, 11, 106, 107, 108, 109, 110, 111, 112, 113, 114, 115, 116, 117, 118, 119, 120, 121, 122, 123, 124, 125, 126, 127, 128, 129, 130, 131, 132, 133, 134, 135, 136, 137, 138, 139, 140, 141, 142, 143, 144, 145, 146, 147, 148, 149, 150, 151, 152, 153, 154, 155, 156, 157, 158, 159, 160, 161, 162, 163, 164, 165, 166] (by decide +kernel) (by decide +kernel)
set_option maxRecDepth 20000 in
theorem gX9_trunk_X9_keepTrunk : GoodIn wsX9_trunk (wsV RX9 237 RX9 yX9_keepTrunk wsX9_keepTrunk) := goodIn_app (goodIn_of _ (by decide +kernel)) ggX9_trunk_X9_keepTrunk
theorem dX9_trunk_0 : decode cX9_trunk 0 = .ok (.aload_n 0, 1) := by decide +kernel
theorem dX9_trunk_1 : decode cX9_trunk 1 = .ok (.iconst (-1), 1) := by decide +kernel
theorem dX9_trunk_2 : decode cX9_trunk 2 = .ok (.putfield 55, 3) := by decide +kernel
theorem dX9_trunk_5 : decode cX9_trunk 5 = .ok (.aload_n 0, 1) := by decide +kernel
theorem dX9_trunk_6 : decode cX9_trunk 6 = .ok (.iconst 0, 1) := by decide +kernel
theorem dX9_trunk_7 : decode cX9_trunk 7 = .ok (.putfield 141, 3) := by decide +kernel
theorem dX9_trunk_10 : decode cX9_trunk 10 = .ok (.aload_n 0, 1) := by decide +kernel
theorem dX9_trunk_11 : decode cX9_trunk 11 = .ok (.iconst 2, 1) := by decide +kernel
theorem dX9_trunk_12 : decode cX9_trunk 12 = .ok (.putfield 181, 3) := by decide +kernel
theorem dX9_trunk_15 : decode cX9_trunk 15 = .ok (.aload_n 0, 1) := by decide +kernel
theorem dX9_trunk_16 : decode cX9_trunk 16 = .ok (.iconst 0, 1) := by decide +kernel
theorem dX9_trunk_17 : decode cX9_trunk 17 = .ok (.putfield 201, 3) := by decide +kernel
theorem dX9_trunk_20 : decode cX9_trunk 20 = .ok (.aload_n 0, 1) := by decide +kernel
theorem dX9_trunk_21 : decode cX9_trunk 21 = .ok (.iconst 0, 1) := by decide +kernel
theorem dX9_trunk_22 : decode cX9_trunk 22 = .ok (.putfield 225, 3) := by decide +kernel
theorem dX9_trunk_25 : decode cX9_trunk 25 = .ok (.iconst 0, 1) := by decide +kernel
theorem dX9_trunk_26 : decode cX9_trunk 26 = .ok (.istore_n 1, 1) := by decide +kernel
theorem dX9_trunk_27 : decode cX9_trunk 27 = .ok (.iload_n 1, 1) := by decide +kernel
theorem dX9_trunk_28 : decode cX9_trunk 28 = .ok (.ifCond .ne 18, 3) := by decide +kernel
theorem dX9_trunk_31 : decode cX9_trunk 31 = .ok (.aload_n 0, 1) := by decide +kernel
theorem dX9_trunk_32 : decode cX9_trunk 32 = .ok (.invokevirtual 144, 3) := by decide +kernel
theorem dX9_trunk_35 : decode cX9_trunk 35 = .ok (.ifCond .lt 11, 3) := by decide +kernel
theorem dX9_trunk_38 : decode cX9_trunk 38 = .ok (.aload_n 0, 1) := by decide +kernel
theorem dX9_trunk_39 : decode cX9_trunk 39 = .ok (.invokevirtual 234, 3) := by decide +kernel
theorem dX9_trunk_42 : decode cX9_trunk 42 = .ok (.istore_n 1, 1) := by decide +kernel
theorem dX9_trunk_43 : decode cX9_trunk 43 = .ok (.goto (-16), 3) := by decide +kernel
theorem dX9_trunk_46 : decode cX9_trunk 46 = .ok (.aload_n 0, 1) := by decide +kernel
theorem dX9_trunk_47 : decode cX9_trunk 47 = .ok (.iconst 0, 1) := by decide +kernel
theorem dX9_trunk_48 : decode cX9_trunk 48 = .ok (.putfield 136, 3) := by decide +kernel
theorem dX9_trunk_51 : decode cX9_trunk 51 = .ok (.iload_n 1, 1) := by decide +kernel
theorem dX9_trunk_52 : decode cX9_trunk 52 = .ok (.ifCond .le 8, 3) := by decide +kernel
theorem dX9_trunk_55 : decode cX9_trunk 55 = .ok (.bipush (-10), 2) := by decide +kernel
theorem dX9_trunk_57 : decode cX9_trunk 57 = .ok (.iload_n 1, 1) := by decide +kernel
theorem dX9_trunk_58 : decode cX9_trunk 58 = .ok (.isub, 1) := by decide +kernel
theorem dX9_trunk_59 : decode cX9_trunk 59 = .ok (.ireturn, 1) := by decide +kernel
theorem dX9_trunk_60 : decode cX9_trunk 60 = .ok (.aload_n 0, 1) := by decide +kernel
theorem dX9_trunk_61 : decode cX9_trunk 61 = .ok (.invokevirtual 237, 3) := by decide +kernel
theorem dX9_trunk_64 : decode cX9_trunk 64 = .ok (.aload_n 0, 1) := by decide +kernel
theorem dX9_trunk_65 : decode cX9_trunk 65 = .ok (.getfield 114, 3) := by decide +kernel
theorem dX9_trunk_68 : decode cX9_trunk 68 = .ok (.ireturn, 1) := by decide +kernel
set_option maxRecDepth 20000 in
theorem ggX9_keepTrunk_X9_findAhead : GoodIn wsX9_keepTrunk wsX9_findAhead := goodIn_r _ [24, 2, 25, 5, 26, 27, 28, 23, 29, 30, 31, 32, 33, 34, 35, 36, 37, 38, 39, 40, 41, 42, 43, 44, 45, 46, 47, 48, 49, 50, 51, 52, 53, 54, 55, 56, 57, 58, 59, 60, 61, 62, 63, 64, 65, 66, 67, 68, 69, 70, 71, 72, 73, 74, 75, 76, 77, 78, 79, 80, 81, 82, 83, 84] (by decide +kernel) (by decide +kernel)
set_option maxRecDepth 20000 in
theorem gX9_keepTrunk_X9_findAhead : GoodIn wsX9_keepTrunk (wsV RX9 240 RX9 yX9_findAhead wsX9_findAhead) := goodIn_app (goodIn_of _ (by decide +kernel)) ggX9_keepTrunk_X9_findAhead
theorem dX9_keepTrunk_0 : decode cX9_keepTrunk 0 = .ok (.aload_n 0, 1) := by decide +kernel
theorem dX9_keepTrunk_1 : decode cX9_keepTrunk 1 = .ok (.aload_n 0, 1) := by decide +kernel
theorem dX9_keepTrunk_2 : decode cX9_keepTrunk 2 = .ok (.getfield 201, 3) := by decide +kernel
theorem dX9_keepTrunk_5 : decode cX9_keepTrunk 5 = .ok (.putfield 114, 3) := by decide +kernel
theorem dX9_keepTrunk_8 : decode cX9_keepTrunk 8 = .ok (.aload_n 0, 1) := by decide +kernel
theorem dX9_keepTrunk_9 : decode cX9_keepTrunk 9 = .ok (.aload_n 0, 1) := by decide +kernel
theorem dX9_keepTrunk_10 : decode cX9_keepTrunk 10 = .ok (.getfield 225, 3) := by decide +kernel
theorem dX9_keepTrunk_13 : decode cX9_keepTrunk 13 = .ok (.putfield 123, 3) := by decide +kernel
theorem dX9_keepTrunk_16 : decode cX9_keepTrunk 16 = .ok (.iconst 0, 1) := by decide +kernel
theorem dX9_keepTrunk_17 : decode cX9_keepTrunk 17 = .ok (.istore_n 1, 1) := by decide +kernel
theorem dX9_keepTrunk_18 : decode cX9_keepTrunk 18 = .ok (.iload_n 1, 1) := by decide +kernel
theorem dX9_keepTrunk_19 : decode cX9_keepTrunk 19 = .ok (.bipush 16, 2) := by decide +kernel
theorem dX9_keepTrunk_21 : decode cX9_keepTrunk 21 = .ok (.aload_n 0, 1) := by decide +kernel
theorem dX9_keepTrunk_22 : decode cX9_keepTrunk 22 = .ok (.getfield 114, 3) := by decide +kernel
theorem dX9_keepTrunk_25 : decode cX9_keepTrunk 25 = .ok (.imul, 1) := by decide +kernel
theorem dX9_keepTrunk_26 : decode cX9_keepTrunk 26 = .ok (.if_icmp .ge 21, 3) := by decide +kernel
theorem dX9_keepTrunk_29 : decode cX9_keepTrunk 29 = .ok (.aload_n 0, 1) := by decide +kernel
theorem dX9_keepTrunk_30 : decode cX9_keepTrunk 30 = .ok (.getfield 7, 3) := by decide +kernel
theorem dX9_keepTrunk_33 : decode cX9_keepTrunk 33 = .ok (.iload_n 1, 1) := by decide +kernel
theorem dX9_keepTrunk_34 : decode cX9_keepTrunk 34 = .ok (.aload_n 0, 1) := by decide +kernel
theorem dX9_keepTrunk_35 : decode cX9_keepTrunk 35 = .ok (.getfield 59, 3) := by decide +kernel
theorem dX9_keepTrunk_38 : decode cX9_keepTrunk 38 = .ok (.iload_n 1, 1) := by decide +kernel
theorem dX9_keepTrunk_39 : decode cX9_keepTrunk 39 = .ok (.iaload, 1) := by decide +kernel
theorem dX9_keepTrunk_40 : decode cX9_keepTrunk 40 = .ok (.iastore, 1) := by decide +kernel
theorem dX9_keepTrunk_41 : decode cX9_keepTrunk 41 = .ok (.iinc 1 1, 3) := by decide +kernel
theorem dX9_keepTrunk_44 : decode cX9_keepTrunk 44 = .ok (.goto (-26), 3) := by decide +kernel
theorem dX9_keepTrunk_47 : decode cX9_keepTrunk 47 = .ok (.iconst 0, 1) := by decide +kernel
theorem dX9_keepTrunk_48 : decode cX9_keepTrunk 48 = .ok (.istore_n 1, 1) := by decide +kernel
theorem dX9_keepTrunk_49 : decode cX9_keepTrunk 49 = .ok (.iload_n 1, 1) := by decide +kernel
theorem dX9_keepTrunk_50 : decode cX9_keepTrunk 50 = .ok (.aload_n 0, 1) := by decide +kernel
theorem dX9_keepTrunk_51 : decode cX9_keepTrunk 51 = .ok (.getfield 114, 3) := by decide +kernel
theorem dX9_keepTrunk_54 : decode cX9_keepTrunk 54 = .ok (.if_icmp .ge 33, 3) := by decide +kernel
theorem dX9_keepTrunk_57 : decode cX9_keepTrunk 57 = .ok (.aload_n 0, 1) := by decide +kernel
theorem dX9_keepTrunk_58 : decode cX9_keepTrunk 58 = .ok (.getfield 13, 3) := by decide +kernel
theorem dX9_keepTrunk_61 : decode cX9_keepTrunk 61 = .ok (.iload_n 1, 1) := by decide +kernel
theorem dX9_keepTrunk_62 : decode cX9_keepTrunk 62 = .ok (.aload_n 0, 1) := by decide +kernel
theorem dX9_keepTrunk_63 : decode cX9_keepTrunk 63 = .ok (.getfield 62, 3) := by decide +kernel
theorem dX9_keepTrunk_66 : decode cX9_keepTrunk 66 = .ok (.iload_n 1, 1) := by decide +kernel
theorem dX9_keepTrunk_67 : decode cX9_keepTrunk 67 = .ok (.iaload, 1) := by decide +kernel
theorem dX9_keepTrunk_68 : decode cX9_keepTrunk 68 = .ok (.iastore, 1) := by decide +kernel
theorem dX9_keepTrunk_69 : decode cX9_keepTrunk 69 = .ok (.aload_n 0, 1) := by decide +kernel
theorem dX9_keepTrunk_70 : decode cX9_keepTrunk 70 = .ok (.getfield 16, 3) := by decide +kernel
theorem dX9_keepTrunk_73 : decode cX9_keepTrunk 73 = .ok (.iload_n 1, 1) := by decide +kernel
theorem dX9_keepTrunk_74 : decode cX9_keepTrunk 74 = .ok (.aload_n 0, 1) := by decide +kernel
theorem dX9_keepTrunk_75 : decode cX9_keepTrunk 75 = .ok (.getfield 65, 3) := by decide +kernel
theorem dX9_keepTrunk_78 : decode cX9_keepTrunk 78 = .ok (.iload_n 1, 1) := by decide +kernel
theorem dX9_keepTrunk_79 : decode cX9_keepTrunk 79 = .ok (.iaload, 1) := by decide +kernel
theorem dX9_keepTrunk_80 : decode cX9_keepTrunk 80 = .ok (.iastore, 1) := by decide +kernel
theorem dX9_keepTrunk_81 : decode cX9_keepTrunk 81 = .ok (.iinc 1 1, 3) := by decide +kernel
theorem dX9_keepTrunk_84 : decode cX9_keepTrunk 84 = .ok (.goto (-35), 3) := by decide +kernel
theorem dX9_keepTrunk_87 : decode cX9_keepTrunk 87 = .ok (.iconst 0, 1) := by decide +kernel
theorem dX9_keepTrunk_88 : decode cX9_keepTrunk 88 = .ok (.istore_n 1, 1) := by decide +kernel
theorem dX9_keepTrunk_89 : decode cX9_keepTrunk 89 = .ok (.iload_n 1, 1) := by decide +kernel
theorem dX9_keepTrunk_90 : decode cX9_keepTrunk 90 = .ok (.aload_n 0, 1) := by decide +kernel
theorem dX9_keepTrunk_91 : decode cX9_keepTrunk 91 = .ok (.getfield 123, 3) := by decide +kernel
theorem dX9_keepTrunk_94 : decode cX9_keepTrunk 94 = .ok (.if_icmp .ge 45, 3) := by decide +kernel
theorem dX9_keepTrunk_97 : decode cX9_keepTrunk 97 = .ok (.aload_n 0, 1) := by decide +kernel
theorem dX9_keepTrunk_98 : decode cX9_keepTrunk 98 = .ok (.getfield 19, 3) := by decide +kernel
theorem dX9_keepTrunk_101 : decode cX9_keepTrunk 101 = .ok (.iload_n 1, 1) := by decide +kernel
theorem dX9_keepTrunk_102 : decode cX9_keepTrunk 102 = .ok (.aload_n 0, 1) := by decide +kernel
theorem dX9_keepTrunk_103 : decode cX9_keepTrunk 103 = .ok (.getfield 68, 3) := by decide +kernel
theorem dX9_keepTrunk_106 : decode cX9_keepTrunk 106 = .ok (.iload_n 1, 1) := by decide +kernel
theorem dX9_keepTrunk_107 : decode cX9_keepTrunk 107 = .ok (.iaload, 1) := by decide +kernel
theorem dX9_keepTrunk_108 : decode cX9_keepTrunk 108 = .ok (.iastore, 1) := by decide +kernel
theorem dX9_keepTrunk_109 : decode cX9_keepTrunk 109 = .ok (.aload_n 0, 1) := by decide +kernel
theorem dX9_keepTrunk_110 : decode cX9_keepTrunk 110 = .ok (.getfield 22, 3) := by decide +kernel
theorem dX9_keepTrunk_113 : decode cX9_keepTrunk 113 = .ok (.iload_n 1, 1) := by decide +kernel
theorem dX9_keepTrunk_114 : decode cX9_keepTrunk 114 = .ok (.aload_n 0, 1) := by decide +kernel
theorem dX9_keepTrunk_115 : decode cX9_keepTrunk 115 = .ok (.getfield 71, 3) := by decide +kernel
theorem dX9_keepTrunk_118 : decode cX9_keepTrunk 118 = .ok (.iload_n 1, 1) := by decide +kernel
theorem dX9_keepTrunk_119 : decode cX9_keepTrunk 119 = .ok (.iaload, 1) := by decide +kernel
theorem dX9_keepTrunk_120 : decode cX9_keepTrunk 120 = .ok (.iastore, 1) := by decide +kernel
theorem dX9_keepTrunk_121 : decode cX9_keepTrunk 121 = .ok (.aload_n 0, 1) := by decide +kernel
theorem dX9_keepTrunk_122 : decode cX9_keepTrunk 122 = .ok (.getfield 25, 3) := by decide +kernel
theorem dX9_keepTrunk_125 : decode cX9_keepTrunk 125 = .ok (.iload_n 1, 1) := by decide +kernel
theorem dX9_keepTrunk_126 : decode cX9_keepTrunk 126 = .ok (.aload_n 0, 1) := by decide +kernel
theorem dX9_keepTrunk_127 : decode cX9_keepTrunk 127 = .ok (.getfield 74, 3) := by decide +kernel
theorem dX9_keepTrunk_130 : decode cX9_keepTrunk 130 = .ok (.iload_n 1, 1) := by decide +kernel
theorem dX9_keepTrunk_131 : decode cX9_keepTrunk 131 = .ok (.iaload, 1) := by decide +kernel
theorem dX9_keepTrunk_132 : decode cX9_keepTrunk 132 = .ok (.iastore, 1) := by decide +kernel
theorem dX9_keepTrunk_133 : decode cX9_keepTrunk 133 = .ok (.iinc 1 1, 3) := by decide +kernel
theorem dX9_keepTrunk_136 : decode cX9_keepTrunk 136 = .ok (.goto (-47), 3) := by decide +kernel
theorem dX9_keepTrunk_139 : decode cX9_keepTrunk 139 = .ok (.aload_n 0, 1) := by decide +kernel
theorem dX9_keepTrunk_140 : decode cX9_keepTrunk 140 = .ok (.invokevirtual 240, 3) := by decide +kernel
theorem dX9_keepTrunk_143 : decode cX9_keepTrunk 143 = .ok (.aload_n 0, 1) := by decide +kernel
theorem dX9_keepTrunk_144 : decode cX9_keepTrunk 144 = .ok (.iconst 0, 1) := by decide +kernel
theorem dX9_keepTrunk_145 : decode cX9_keepTrunk 145 = .ok (.putfield 126, 3) := by decide +kernel
theorem dX9_keepTrunk_148 : decode cX9_keepTrunk 148 = .ok (.aload_n 0, 1) := by decide +kernel
theorem dX9_keepTrunk_149 : decode cX9_keepTrunk 149 = .ok (.iconst 0, 1) := by decide +kernel
theorem dX9_keepTrunk_150 : decode cX9_keepTrunk 150 = .ok (.putfield 129, 3) := by decide +kernel
theorem dX9_keepTrunk_153 : decode cX9_keepTrunk 153 = .ok (.aload_n 0, 1) := by decide +kernel
theorem dX9_keepTrunk_154 : decode cX9_keepTrunk 154 = .ok (.getfield 110, 3) := by decide +kernel
theorem dX9_keepTrunk_157 : decode cX9_keepTrunk 157 = .ok (.iconst 0, 1) := by decide +kernel
theorem dX9_keepTrunk_158 : decode cX9_keepTrunk 158 = .ok (.iconst 0, 1) := by decide +kernel
theorem dX9_keepTrunk_159 : decode cX9_keepTrunk 159 = .ok (.bastore, 1) := by decide +kernel
theorem dX9_keepTrunk_160 : decode cX9_keepTrunk 160 = .ok (.aload_n 0, 1) := by decide +kernel
theorem dX9_keepTrunk_161 : decode cX9_keepTrunk 161 = .ok (.getfield 110, 3) := by decide +kernel
theorem dX9_keepTrunk_164 : decode cX9_keepTrunk 164 = .ok (.iconst 1, 1) := by decide +kernel
theorem dX9_keepTrunk_165 : decode cX9_keepTrunk 165 = .ok (.iconst 0, 1) := by decide +kernel
theorem dX9_keepTrunk_166 : decode cX9_keepTrunk 166 = .ok (.bastore, 1) := by decide +kernel
theorem dX9_keepTrunk_167 : decode cX9_keepTrunk 167 = .ok (.return_, 1) := by decide +kernel
theorem dX9_breach_0 : decode cX9_breach 0 = .ok (.aload_n 0, 1) := by decide +kernel
theorem dX9_breach_1 : decode cX9_breach 1 = .ok (.getfield 55, 3) := by decide +kernel
theorem dX9_breach_4 : decode cX9_breach 4 = .ok (.ireturn, 1) := by decide +kernel
theorem dX9_setsOf_0 : decode cX9_setsOf 0 = .ok (.iconst 0, 1) := by decide +kernel
theorem dX9_setsOf_1 : decode cX9_setsOf 1 = .ok (.istore_n 2, 1) := by decide +kernel
theorem dX9_setsOf_2 : decode cX9_setsOf 2 = .ok (.iconst 0, 1) := by decide +kernel
theorem dX9_setsOf_3 : decode cX9_setsOf 3 = .ok (.istore_n 3, 1) := by decide +kernel
theorem dX9_setsOf_4 : decode cX9_setsOf 4 = .ok (.iload_n 3, 1) := by decide +kernel
theorem dX9_setsOf_5 : decode cX9_setsOf 5 = .ok (.bipush 16, 2) := by decide +kernel
theorem dX9_setsOf_7 : decode cX9_setsOf 7 = .ok (.if_icmp .ge 33, 3) := by decide +kernel
theorem dX9_setsOf_10 : decode cX9_setsOf 10 = .ok (.iload_n 2, 1) := by decide +kernel
theorem dX9_setsOf_11 : decode cX9_setsOf 11 = .ok (.aload_n 0, 1) := by decide +kernel
theorem dX9_setsOf_12 : decode cX9_setsOf 12 = .ok (.getfield 7, 3) := by decide +kernel
theorem dX9_setsOf_15 : decode cX9_setsOf 15 = .ok (.bipush 16, 2) := by decide +kernel
theorem dX9_setsOf_17 : decode cX9_setsOf 17 = .ok (.iload_n 1, 1) := by decide +kernel
theorem dX9_setsOf_18 : decode cX9_setsOf 18 = .ok (.imul, 1) := by decide +kernel
theorem dX9_setsOf_19 : decode cX9_setsOf 19 = .ok (.iload_n 3, 1) := by decide +kernel
theorem dX9_setsOf_20 : decode cX9_setsOf 20 = .ok (.iadd, 1) := by decide +kernel
theorem dX9_setsOf_21 : decode cX9_setsOf 21 = .ok (.iaload, 1) := by decide +kernel
theorem dX9_setsOf_22 : decode cX9_setsOf 22 = .ok (.ifCond .le 9, 3) := by decide +kernel
theorem dX9_setsOf_25 : decode cX9_setsOf 25 = .ok (.iconst 1, 1) := by decide +kernel
theorem dX9_setsOf_26 : decode cX9_setsOf 26 = .ok (.iload_n 3, 1) := by decide +kernel
theorem dX9_setsOf_27 : decode cX9_setsOf 27 = .ok (.ishl, 1) := by decide +kernel
theorem dX9_setsOf_28 : decode cX9_setsOf 28 = .ok (.goto 4, 3) := by decide +kernel
theorem dX9_setsOf_31 : decode cX9_setsOf 31 = .ok (.iconst 0, 1) := by decide +kernel
theorem dX9_setsOf_32 : decode cX9_setsOf 32 = .ok (.ior, 1) := by decide +kernel
theorem dX9_setsOf_33 : decode cX9_setsOf 33 = .ok (.istore_n 2, 1) := by decide +kernel
theorem dX9_setsOf_34 : decode cX9_setsOf 34 = .ok (.iinc 3 1, 3) := by decide +kernel
theorem dX9_setsOf_37 : decode cX9_setsOf 37 = .ok (.goto (-33), 3) := by decide +kernel
theorem dX9_setsOf_40 : decode cX9_setsOf 40 = .ok (.iload_n 2, 1) := by decide +kernel
theorem dX9_setsOf_41 : decode cX9_setsOf 41 = .ok (.ireturn, 1) := by decide +kernel
theorem dX9_faultsBy_0 : decode cX9_faultsBy 0 = .ok (.iconst 0, 1) := by decide +kernel
theorem dX9_faultsBy_1 : decode cX9_faultsBy 1 = .ok (.istore_n 3, 1) := by decide +kernel
theorem dX9_faultsBy_2 : decode cX9_faultsBy 2 = .ok (.iconst 0, 1) := by decide +kernel
theorem dX9_faultsBy_3 : decode cX9_faultsBy 3 = .ok (.istore 4, 2) := by decide +kernel
theorem dX9_faultsBy_5 : decode cX9_faultsBy 5 = .ok (.iload 4, 2) := by decide +kernel
theorem dX9_faultsBy_7 : decode cX9_faultsBy 7 = .ok (.aload_n 0, 1) := by decide +kernel
theorem dX9_faultsBy_8 : decode cX9_faultsBy 8 = .ok (.getfield 123, 3) := by decide +kernel
theorem dX9_faultsBy_11 : decode cX9_faultsBy 11 = .ok (.if_icmp .ge 28, 3) := by decide +kernel
theorem dX9_faultsBy_14 : decode cX9_faultsBy 14 = .ok (.iload_n 3, 1) := by decide +kernel
theorem dX9_faultsBy_15 : decode cX9_faultsBy 15 = .ok (.aload_n 2, 1) := by decide +kernel
theorem dX9_faultsBy_16 : decode cX9_faultsBy 16 = .ok (.iload 4, 2) := by decide +kernel
theorem dX9_faultsBy_18 : decode cX9_faultsBy 18 = .ok (.iaload, 1) := by decide +kernel
theorem dX9_faultsBy_19 : decode cX9_faultsBy 19 = .ok (.iload_n 1, 1) := by decide +kernel
theorem dX9_faultsBy_20 : decode cX9_faultsBy 20 = .ok (.if_icmp .ne 10, 3) := by decide +kernel
theorem dX9_faultsBy_23 : decode cX9_faultsBy 23 = .ok (.iconst 1, 1) := by decide +kernel
theorem dX9_faultsBy_24 : decode cX9_faultsBy 24 = .ok (.iload 4, 2) := by decide +kernel
theorem dX9_faultsBy_26 : decode cX9_faultsBy 26 = .ok (.ishl, 1) := by decide +kernel
theorem dX9_faultsBy_27 : decode cX9_faultsBy 27 = .ok (.goto 4, 3) := by decide +kernel
theorem dX9_faultsBy_30 : decode cX9_faultsBy 30 = .ok (.iconst 0, 1) := by decide +kernel
theorem dX9_faultsBy_31 : decode cX9_faultsBy 31 = .ok (.ior, 1) := by decide +kernel
theorem dX9_faultsBy_32 : decode cX9_faultsBy 32 = .ok (.istore_n 3, 1) := by decide +kernel
theorem dX9_faultsBy_33 : decode cX9_faultsBy 33 = .ok (.iinc 4 1, 3) := by decide +kernel
theorem dX9_faultsBy_36 : decode cX9_faultsBy 36 = .ok (.goto (-31), 3) := by decide +kernel
theorem dX9_faultsBy_39 : decode cX9_faultsBy 39 = .ok (.iload_n 3, 1) := by decide +kernel
theorem dX9_faultsBy_40 : decode cX9_faultsBy 40 = .ok (.ireturn, 1) := by decide +kernel
set_option maxRecDepth 20000 in
theorem ggX9_change_X9_isChange : GoodIn wsX9_change wsX9_isChange := goodIn_r _ [9, 10, 11, 12, 8, 13, 24, 25, 26, 27, 28, 29, 30, 31, 32, 33, 34, 35, 36, 37, 38, 39, 40, 41, 42, 43, 44, 45, 46, 47, 48, 49, 50, 51, 52, 53, 54, 55, 56, 57, 58, 59, 60, 61, 62, 63, 64, 65, 66, 67, 68, 69, 70, 71, 72, 73, 74, 75, 76, 77, 78] (by decide +kernel) (by decide +kernel)
set_option maxRecDepth 20000 in
theorem gX9_change_X9_isChange : GoodIn wsX9_change (wsV RX9 243 RX9 yX9_isChange wsX9_isChange) := goodIn_app (goodIn_of _ (by decide +kernel)) ggX9_change_X9_isChange
set_option maxRecDepth 20000 in
theorem ggX9_change_X9_setsOf : GoodIn wsX9_change wsX9_setsOf := goodIn_r _ [17, 18, 24, 25, 26, 27, 28, 29, 30, 31, 32, 33, 34, 35, 36, 37, 38, 39, 40, 41, 42, 43, 44, 45, 46, 47, 48, 49, 50, 51, 52, 53, 54, 55, 56, 57, 58, 59, 60, 61, 62, 63, 64, 65, 66, 67, 68, 69, 70, 71, 72, 73, 74, 75, 76, 77, 78] (by decide +kernel) (by decide +kernel)
set_option maxRecDepth 20000 in
theorem gX9_change_X9_setsOf : GoodIn wsX9_change (wsV RX9 247 RX9 yX9_setsOf wsX9_setsOf) := goodIn_app (goodIn_of _ (by decide +kernel)) ggX9_change_X9_setsOf
set_option maxRecDepth 20000 in
theorem ggX9_change_X9_faultsBy : GoodIn wsX9_change wsX9_faultsBy := goodIn_r _ [22, 23, 24, 25, 26, 27, 28, 29, 30, 31, 32, 33, 34, 35, 36, 37, 38, 39, 40, 41, 42, 43, 44, 45, 46, 47, 48, 49, 50, 51, 52, 53, 54, 55, 56, 57, 58, 59, 60, 61, 62, 63, 64, 65, 66, 67, 68, 69, 70, 71, 72, 73, 74, 75, 76, 77, 78] (by decide +kernel) (by decide +kernel)
set_option maxRecDepth 20000 in
theorem gX9_change_X9_faultsBy : GoodIn wsX9_change (wsV RX9 250 RX9 yX9_faultsBy wsX9_faultsBy) := goodIn_app (goodIn_of _ (by decide +kernel)) ggX9_change_X9_faultsBy
theorem dX9_change_0 : decode cX9_change 0 = .ok (.aload_n 0, 1) := by decide +kernel
theorem dX9_change_1 : decode cX9_change 1 = .ok (.iload_n 1, 1) := by decide +kernel
theorem dX9_change_2 : decode cX9_change 2 = .ok (.invokevirtual 243, 3) := by decide +kernel
theorem dX9_change_5 : decode cX9_change 5 = .ok (.ifCond .ne 7, 3) := by decide +kernel
theorem dX9_change_8 : decode cX9_change 8 = .ok (.sipush (-1001), 3) := by decide +kernel
theorem dX9_change_11 : decode cX9_change 11 = .ok (.ireturn, 1) := by decide +kernel
theorem dX9_change_12 : decode cX9_change 12 = .ok (.iload_n 2, 1) := by decide +kernel
theorem dX9_change_13 : decode cX9_change 13 = .ok (.tableswitch 75 0 4 #[35, 41, 48, 55, 65], 35) := by decide +kernel
theorem dX9_change_48 : decode cX9_change 48 = .ok (.aload_n 0, 1) := by decide +kernel
theorem dX9_change_49 : decode cX9_change 49 = .ok (.iload_n 1, 1) := by decide +kernel
theorem dX9_change_50 : decode cX9_change 50 = .ok (.invokevirtual 247, 3) := by decide +kernel
theorem dX9_change_53 : decode cX9_change 53 = .ok (.ireturn, 1) := by decide +kernel
theorem dX9_change_54 : decode cX9_change 54 = .ok (.aload_n 0, 1) := by decide +kernel
theorem dX9_change_55 : decode cX9_change 55 = .ok (.getfield 13, 3) := by decide +kernel
theorem dX9_change_58 : decode cX9_change 58 = .ok (.iload_n 1, 1) := by decide +kernel
theorem dX9_change_59 : decode cX9_change 59 = .ok (.iaload, 1) := by decide +kernel
theorem dX9_change_60 : decode cX9_change 60 = .ok (.ireturn, 1) := by decide +kernel
theorem dX9_change_61 : decode cX9_change 61 = .ok (.aload_n 0, 1) := by decide +kernel
theorem dX9_change_62 : decode cX9_change 62 = .ok (.getfield 16, 3) := by decide +kernel
theorem dX9_change_65 : decode cX9_change 65 = .ok (.iload_n 1, 1) := by decide +kernel
theorem dX9_change_66 : decode cX9_change 66 = .ok (.iaload, 1) := by decide +kernel
theorem dX9_change_67 : decode cX9_change 67 = .ok (.ireturn, 1) := by decide +kernel
theorem dX9_change_68 : decode cX9_change 68 = .ok (.aload_n 0, 1) := by decide +kernel
theorem dX9_change_69 : decode cX9_change 69 = .ok (.iload_n 1, 1) := by decide +kernel
theorem dX9_change_70 : decode cX9_change 70 = .ok (.aload_n 0, 1) := by decide +kernel
theorem dX9_change_71 : decode cX9_change 71 = .ok (.getfield 22, 3) := by decide +kernel
theorem dX9_change_74 : decode cX9_change 74 = .ok (.invokevirtual 250, 3) := by decide +kernel
theorem dX9_change_77 : decode cX9_change 77 = .ok (.ireturn, 1) := by decide +kernel
theorem dX9_change_78 : decode cX9_change 78 = .ok (.aload_n 0, 1) := by decide +kernel
theorem dX9_change_79 : decode cX9_change 79 = .ok (.iload_n 1, 1) := by decide +kernel
theorem dX9_change_80 : decode cX9_change 80 = .ok (.aload_n 0, 1) := by decide +kernel
theorem dX9_change_81 : decode cX9_change 81 = .ok (.getfield 25, 3) := by decide +kernel
theorem dX9_change_84 : decode cX9_change 84 = .ok (.invokevirtual 250, 3) := by decide +kernel
theorem dX9_change_87 : decode cX9_change 87 = .ok (.ireturn, 1) := by decide +kernel
theorem dX9_change_88 : decode cX9_change 88 = .ok (.sipush (-1002), 3) := by decide +kernel
theorem dX9_change_91 : decode cX9_change 91 = .ok (.ireturn, 1) := by decide +kernel
set_option maxRecDepth 20000 in
theorem ggX9_sets_X9_isChange : GoodIn wsX9_sets wsX9_isChange := goodIn_r _ [6, 7, 8, 9, 5, 10, 15, 16, 17, 18, 19, 20, 21, 22, 23, 24, 25, 26, 27, 28, 29, 30, 31, 32, 33, 34, 35, 36, 37, 38, 39, 40, 41, 42, 43, 44, 45, 46, 47, 48, 49, 50, 51, 52, 53, 54, 55, 56, 57, 58, 59, 60, 61, 62, 63, 64, 65, 66, 67, 68, 69] (by decide +kernel) (by decide +kernel)
set_option maxRecDepth 20000 in
theorem gX9_sets_X9_isChange : GoodIn wsX9_sets (wsV RX9 243 RX9 yX9_isChange wsX9_isChange) := goodIn_app (goodIn_of _ (by decide +kernel)) ggX9_sets_X9_isChange
set_option maxRecDepth 20000 in
theorem ggX9_sets_X9_isSlot : GoodIn wsX9_sets wsX9_isSlot := goodIn_r _ [13, 14, 8, 9, 5, 10] (by decide +kernel) (by decide +kernel)
set_option maxRecDepth 20000 in
theorem gX9_sets_X9_isSlot : GoodIn wsX9_sets (va_wsS RX9 254 yX9_isSlot wsX9_isSlot) := goodIn_app (goodIn_of _ (by decide +kernel)) ggX9_sets_X9_isSlot
theorem dX9_sets_0 : decode cX9_sets 0 = .ok (.aload_n 0, 1) := by decide +kernel
theorem dX9_sets_1 : decode cX9_sets 1 = .ok (.iload_n 1, 1) := by decide +kernel
theorem dX9_sets_2 : decode cX9_sets 2 = .ok (.invokevirtual 243, 3) := by decide +kernel
theorem dX9_sets_5 : decode cX9_sets 5 = .ok (.ifCond .eq 24, 3) := by decide +kernel
theorem dX9_sets_8 : decode cX9_sets 8 = .ok (.iload_n 2, 1) := by decide +kernel
theorem dX9_sets_9 : decode cX9_sets 9 = .ok (.invokestatic 254, 3) := by decide +kernel
theorem dX9_sets_12 : decode cX9_sets 12 = .ok (.ifCond .eq 17, 3) := by decide +kernel
theorem dX9_sets_15 : decode cX9_sets 15 = .ok (.aload_n 0, 1) := by decide +kernel
theorem dX9_sets_16 : decode cX9_sets 16 = .ok (.getfield 7, 3) := by decide +kernel
theorem dX9_sets_19 : decode cX9_sets 19 = .ok (.bipush 16, 2) := by decide +kernel
theorem dX9_sets_21 : decode cX9_sets 21 = .ok (.iload_n 1, 1) := by decide +kernel
theorem dX9_sets_22 : decode cX9_sets 22 = .ok (.imul, 1) := by decide +kernel
theorem dX9_sets_23 : decode cX9_sets 23 = .ok (.iload_n 2, 1) := by decide +kernel
theorem dX9_sets_24 : decode cX9_sets 24 = .ok (.iadd, 1) := by decide +kernel
theorem dX9_sets_25 : decode cX9_sets 25 = .ok (.iaload, 1) := by decide +kernel
theorem dX9_sets_26 : decode cX9_sets 26 = .ok (.goto 6, 3) := by decide +kernel
theorem dX9_sets_29 : decode cX9_sets 29 = .ok (.sipush (-1001), 3) := by decide +kernel
theorem dX9_sets_32 : decode cX9_sets 32 = .ok (.ireturn, 1) := by decide +kernel
theorem dX9_setter_0 : decode cX9_setter 0 = .ok (.iconst (-1), 1) := by decide +kernel
theorem dX9_setter_1 : decode cX9_setter 1 = .ok (.istore_n 3, 1) := by decide +kernel
theorem dX9_setter_2 : decode cX9_setter 2 = .ok (.iconst 0, 1) := by decide +kernel
theorem dX9_setter_3 : decode cX9_setter 3 = .ok (.istore 4, 2) := by decide +kernel
theorem dX9_setter_5 : decode cX9_setter 5 = .ok (.iload 4, 2) := by decide +kernel
theorem dX9_setter_7 : decode cX9_setter 7 = .ok (.iload_n 1, 1) := by decide +kernel
theorem dX9_setter_8 : decode cX9_setter 8 = .ok (.if_icmp .ge 31, 3) := by decide +kernel
theorem dX9_setter_11 : decode cX9_setter 11 = .ok (.aload_n 0, 1) := by decide +kernel
theorem dX9_setter_12 : decode cX9_setter 12 = .ok (.getfield 7, 3) := by decide +kernel
theorem dX9_setter_15 : decode cX9_setter 15 = .ok (.bipush 16, 2) := by decide +kernel
theorem dX9_setter_17 : decode cX9_setter 17 = .ok (.iload 4, 2) := by decide +kernel
theorem dX9_setter_19 : decode cX9_setter 19 = .ok (.imul, 1) := by decide +kernel
theorem dX9_setter_20 : decode cX9_setter 20 = .ok (.iload_n 2, 1) := by decide +kernel
theorem dX9_setter_21 : decode cX9_setter 21 = .ok (.iadd, 1) := by decide +kernel
theorem dX9_setter_22 : decode cX9_setter 22 = .ok (.iaload, 1) := by decide +kernel
theorem dX9_setter_23 : decode cX9_setter 23 = .ok (.ifCond .le 8, 3) := by decide +kernel
theorem dX9_setter_26 : decode cX9_setter 26 = .ok (.iload 4, 2) := by decide +kernel
theorem dX9_setter_28 : decode cX9_setter 28 = .ok (.goto 4, 3) := by decide +kernel
theorem dX9_setter_31 : decode cX9_setter 31 = .ok (.iload_n 3, 1) := by decide +kernel
theorem dX9_setter_32 : decode cX9_setter 32 = .ok (.istore_n 3, 1) := by decide +kernel
theorem dX9_setter_33 : decode cX9_setter 33 = .ok (.iinc 4 1, 3) := by decide +kernel
theorem dX9_setter_36 : decode cX9_setter 36 = .ok (.goto (-31), 3) := by decide +kernel
theorem dX9_setter_39 : decode cX9_setter 39 = .ok (.iload_n 3, 1) := by decide +kernel
theorem dX9_setter_40 : decode cX9_setter 40 = .ok (.ireturn, 1) := by decide +kernel
theorem dX9_aheadOf_0 : decode cX9_aheadOf 0 = .ok (.aload_n 0, 1) := by decide +kernel
theorem dX9_aheadOf_1 : decode cX9_aheadOf 1 = .ok (.getfield 77, 3) := by decide +kernel
theorem dX9_aheadOf_4 : decode cX9_aheadOf 4 = .ok (.bipush 16, 2) := by decide +kernel
theorem dX9_aheadOf_6 : decode cX9_aheadOf 6 = .ok (.iload_n 1, 1) := by decide +kernel
theorem dX9_aheadOf_7 : decode cX9_aheadOf 7 = .ok (.imul, 1) := by decide +kernel
theorem dX9_aheadOf_8 : decode cX9_aheadOf 8 = .ok (.iload_n 2, 1) := by decide +kernel
theorem dX9_aheadOf_9 : decode cX9_aheadOf 9 = .ok (.iadd, 1) := by decide +kernel
theorem dX9_aheadOf_10 : decode cX9_aheadOf 10 = .ok (.iaload, 1) := by decide +kernel
theorem dX9_aheadOf_11 : decode cX9_aheadOf 11 = .ok (.ireturn, 1) := by decide +kernel
set_option maxRecDepth 20000 in
theorem ggX9_findAhead_X9_setter : GoodIn wsX9_findAhead wsX9_setter := goodIn_r _ [8, 3, 9, 10, 11, 12, 13, 14, 15, 16, 17, 18, 19, 20, 21, 22, 23, 24, 25, 26, 27, 28, 29, 30, 31, 32, 33, 34, 35, 36, 37, 38, 39, 40, 41, 42, 43, 44, 45, 46, 47, 48, 49, 50, 51, 52, 53, 54, 55, 56, 57, 58, 59, 60, 61, 62, 63] (by decide +kernel) (by decide +kernel)
set_option maxRecDepth 20000 in
theorem gX9_findAhead_X9_setter : GoodIn wsX9_findAhead (wsV RX9 257 RX9 yX9_setter wsX9_setter) := goodIn_app (goodIn_of _ (by decide +kernel)) ggX9_findAhead_X9_setter
theorem dX9_findAhead_0 : decode cX9_findAhead 0 = .ok (.iconst 0, 1) := by decide +kernel
theorem dX9_findAhead_1 : decode cX9_findAhead 1 = .ok (.istore_n 1, 1) := by decide +kernel
theorem dX9_findAhead_2 : decode cX9_findAhead 2 = .ok (.iload_n 1, 1) := by decide +kernel
theorem dX9_findAhead_3 : decode cX9_findAhead 3 = .ok (.aload_n 0, 1) := by decide +kernel
theorem dX9_findAhead_4 : decode cX9_findAhead 4 = .ok (.getfield 114, 3) := by decide +kernel
theorem dX9_findAhead_7 : decode cX9_findAhead 7 = .ok (.if_icmp .gt 60, 3) := by decide +kernel
theorem dX9_findAhead_10 : decode cX9_findAhead 10 = .ok (.iconst 0, 1) := by decide +kernel
theorem dX9_findAhead_11 : decode cX9_findAhead 11 = .ok (.istore_n 2, 1) := by decide +kernel
theorem dX9_findAhead_12 : decode cX9_findAhead 12 = .ok (.iload_n 2, 1) := by decide +kernel
theorem dX9_findAhead_13 : decode cX9_findAhead 13 = .ok (.bipush 16, 2) := by decide +kernel
theorem dX9_findAhead_15 : decode cX9_findAhead 15 = .ok (.if_icmp .ge 46, 3) := by decide +kernel
theorem dX9_findAhead_18 : decode cX9_findAhead 18 = .ok (.aload_n 0, 1) := by decide +kernel
theorem dX9_findAhead_19 : decode cX9_findAhead 19 = .ok (.iload_n 1, 1) := by decide +kernel
theorem dX9_findAhead_20 : decode cX9_findAhead 20 = .ok (.iload_n 2, 1) := by decide +kernel
theorem dX9_findAhead_21 : decode cX9_findAhead 21 = .ok (.invokevirtual 257, 3) := by decide +kernel
theorem dX9_findAhead_24 : decode cX9_findAhead 24 = .ok (.istore_n 3, 1) := by decide +kernel
theorem dX9_findAhead_25 : decode cX9_findAhead 25 = .ok (.aload_n 0, 1) := by decide +kernel
theorem dX9_findAhead_26 : decode cX9_findAhead 26 = .ok (.getfield 77, 3) := by decide +kernel
theorem dX9_findAhead_29 : decode cX9_findAhead 29 = .ok (.bipush 16, 2) := by decide +kernel
theorem dX9_findAhead_31 : decode cX9_findAhead 31 = .ok (.iload_n 1, 1) := by decide +kernel
theorem dX9_findAhead_32 : decode cX9_findAhead 32 = .ok (.imul, 1) := by decide +kernel
theorem dX9_findAhead_33 : decode cX9_findAhead 33 = .ok (.iload_n 2, 1) := by decide +kernel
theorem dX9_findAhead_34 : decode cX9_findAhead 34 = .ok (.iadd, 1) := by decide +kernel
theorem dX9_findAhead_35 : decode cX9_findAhead 35 = .ok (.iload_n 3, 1) := by decide +kernel
theorem dX9_findAhead_36 : decode cX9_findAhead 36 = .ok (.ifCond .ge 7, 3) := by decide +kernel
theorem dX9_findAhead_39 : decode cX9_findAhead 39 = .ok (.iconst 0, 1) := by decide +kernel
theorem dX9_findAhead_40 : decode cX9_findAhead 40 = .ok (.goto 14, 3) := by decide +kernel
theorem dX9_findAhead_43 : decode cX9_findAhead 43 = .ok (.aload_n 0, 1) := by decide +kernel
theorem dX9_findAhead_44 : decode cX9_findAhead 44 = .ok (.getfield 7, 3) := by decide +kernel
theorem dX9_findAhead_47 : decode cX9_findAhead 47 = .ok (.bipush 16, 2) := by decide +kernel
theorem dX9_findAhead_49 : decode cX9_findAhead 49 = .ok (.iload_n 3, 1) := by decide +kernel
theorem dX9_findAhead_50 : decode cX9_findAhead 50 = .ok (.imul, 1) := by decide +kernel
theorem dX9_findAhead_51 : decode cX9_findAhead 51 = .ok (.iload_n 2, 1) := by decide +kernel
theorem dX9_findAhead_52 : decode cX9_findAhead 52 = .ok (.iadd, 1) := by decide +kernel
theorem dX9_findAhead_53 : decode cX9_findAhead 53 = .ok (.iaload, 1) := by decide +kernel
theorem dX9_findAhead_54 : decode cX9_findAhead 54 = .ok (.iastore, 1) := by decide +kernel
theorem dX9_findAhead_55 : decode cX9_findAhead 55 = .ok (.iinc 2 1, 3) := by decide +kernel
theorem dX9_findAhead_58 : decode cX9_findAhead 58 = .ok (.goto (-46), 3) := by decide +kernel
theorem dX9_findAhead_61 : decode cX9_findAhead 61 = .ok (.iinc 1 1, 3) := by decide +kernel
theorem dX9_findAhead_64 : decode cX9_findAhead 64 = .ok (.goto (-62), 3) := by decide +kernel
theorem dX9_findAhead_67 : decode cX9_findAhead 67 = .ok (.return_, 1) := by decide +kernel
set_option maxRecDepth 20000 in
theorem ggX9_ahead_X9_in : GoodIn wsX9_ahead wsX9_in := goodIn_r _ [5] (by decide +kernel) (by decide +kernel)
set_option maxRecDepth 20000 in
theorem gX9_ahead_X9_in : GoodIn wsX9_ahead (va_wsS RX9 117 yX9_in wsX9_in) := goodIn_app (goodIn_of _ (by decide +kernel)) ggX9_ahead_X9_in
set_option maxRecDepth 20000 in
theorem ggX9_ahead_X9_isSlot : GoodIn wsX9_ahead wsX9_isSlot := goodIn_r _ [8, 9, 2, 3, 4, 5] (by decide +kernel) (by decide +kernel)
set_option maxRecDepth 20000 in
theorem gX9_ahead_X9_isSlot : GoodIn wsX9_ahead (va_wsS RX9 254 yX9_isSlot wsX9_isSlot) := goodIn_app (goodIn_of _ (by decide +kernel)) ggX9_ahead_X9_isSlot
set_option maxRecDepth 20000 in
theorem ggX9_ahead_X9_aheadOf : GoodIn wsX9_ahead wsX9_aheadOf := goodIn_r _ [13, 14, 15, 16, 17, 18, 19, 20, 21, 22, 23, 24, 25, 26, 27, 28, 29, 30, 31, 32, 33, 34, 35, 36, 37, 38, 39, 40, 41, 42, 43, 44, 45, 46, 47, 48, 49, 50, 51, 52, 53, 54, 55, 56, 57, 58, 59, 60, 61, 62, 63, 64, 65, 66, 67, 68, 69] (by decide +kernel) (by decide +kernel)
set_option maxRecDepth 20000 in
theorem gX9_ahead_X9_aheadOf : GoodIn wsX9_ahead (wsV RX9 260 RX9 yX9_aheadOf wsX9_aheadOf) := goodIn_app (goodIn_of _ (by decide +kernel)) ggX9_ahead_X9_aheadOf
theorem dX9_ahead_0 : decode cX9_ahead 0 = .ok (.iload_n 1, 1) := by decide +kernel
theorem dX9_ahead_1 : decode cX9_ahead 1 = .ok (.i2l, 1) := by decide +kernel
theorem dX9_ahead_2 : decode cX9_ahead 2 = .ok (.lconst 0, 1) := by decide +kernel
theorem dX9_ahead_3 : decode cX9_ahead 3 = .ok (.aload_n 0, 1) := by decide +kernel
theorem dX9_ahead_4 : decode cX9_ahead 4 = .ok (.getfield 114, 3) := by decide +kernel
theorem dX9_ahead_7 : decode cX9_ahead 7 = .ok (.i2l, 1) := by decide +kernel
theorem dX9_ahead_8 : decode cX9_ahead 8 = .ok (.invokestatic 117, 3) := by decide +kernel
theorem dX9_ahead_11 : decode cX9_ahead 11 = .ok (.ifCond .eq 19, 3) := by decide +kernel
theorem dX9_ahead_14 : decode cX9_ahead 14 = .ok (.iload_n 2, 1) := by decide +kernel
