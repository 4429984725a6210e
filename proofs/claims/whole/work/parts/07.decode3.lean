theorem dX4_cost_49 : decode cX4_cost 49 = .ok (.ladd, 1) := by decide +kernel
theorem dX4_cost_50 : decode cX4_cost 50 = .ok (.lstore_n 1, 1) := by decide +kernel
theorem dX4_cost_51 : decode cX4_cost 51 = .ok (.iinc 3 1, 3) := by decide +kernel
theorem dX4_cost_54 : decode cX4_cost 54 = .ok (.goto (-45), 3) := by decide +kernel
theorem dX4_cost_57 : decode cX4_cost 57 = .ok (.aload_n 0, 1) := by decide +kernel
theorem dX4_cost_58 : decode cX4_cost 58 = .ok (.getfield 74, 3) := by decide +kernel
theorem dX4_cost_61 : decode cX4_cost 61 = .ok (.ifCond .eq 7, 3) := by decide +kernel
theorem dX4_cost_64 : decode cX4_cost 64 = .ok (.lload_n 1, 1) := by decide +kernel
theorem dX4_cost_65 : decode cX4_cost 65 = .ok (.goto 6, 3) := by decide +kernel
theorem dX4_cost_68 : decode cX4_cost 68 = .ok (.ldc2_w 146, 3) := by decide +kernel
theorem dX4_cost_71 : decode cX4_cost 71 = .ok (.lreturn, 1) := by decide +kernel
set_option maxRecDepth 20000 in
theorem ggX4_into_X4_noNode : GoodIn wsX4_into wsX4_noNode := goodIn_r _ [8, 9, 10, 11, 12, 13, 14, 15, 16, 17, 18, 19, 20, 21, 22, 23, 24, 25, 26, 27, 28, 29, 30, 31, 32, 33, 34] (by decide +kernel) (by decide +kernel)
set_option maxRecDepth 20000 in
theorem gX4_into_X4_noNode : GoodIn wsX4_into (wsV RX4 83 RX4 yX4_noNode wsX4_noNode) := goodIn_app (goodIn_of _ (by decide +kernel)) ggX4_into_X4_noNode
theorem dX4_into_0 : decode cX4_into 0 = .ok (.aload_n 0, 1) := by decide +kernel
theorem dX4_into_1 : decode cX4_into 1 = .ok (.aload_n 0, 1) := by decide +kernel
theorem dX4_into_2 : decode cX4_into 2 = .ok (.iload_n 1, 1) := by decide +kernel
theorem dX4_into_3 : decode cX4_into 3 = .ok (.invokevirtual 83, 3) := by decide +kernel
theorem dX4_into_6 : decode cX4_into 6 = .ok (.ifCond .eq 7, 3) := by decide +kernel
theorem dX4_into_9 : decode cX4_into 9 = .ok (.iconst 1, 1) := by decide +kernel
theorem dX4_into_10 : decode cX4_into 10 = .ok (.goto 4, 3) := by decide +kernel
theorem dX4_into_13 : decode cX4_into 13 = .ok (.iconst 0, 1) := by decide +kernel
theorem dX4_into_14 : decode cX4_into 14 = .ok (.putfield 64, 3) := by decide +kernel
theorem dX4_into_17 : decode cX4_into 17 = .ok (.aload_n 0, 1) := by decide +kernel
theorem dX4_into_18 : decode cX4_into 18 = .ok (.getfield 64, 3) := by decide +kernel
theorem dX4_into_21 : decode cX4_into 21 = .ok (.ifCond .le 7, 3) := by decide +kernel
theorem dX4_into_24 : decode cX4_into 24 = .ok (.iconst 0, 1) := by decide +kernel
theorem dX4_into_25 : decode cX4_into 25 = .ok (.goto 20, 3) := by decide +kernel
theorem dX4_into_28 : decode cX4_into 28 = .ok (.aload_n 0, 1) := by decide +kernel
theorem dX4_into_29 : decode cX4_into 29 = .ok (.getfield 74, 3) := by decide +kernel
theorem dX4_into_32 : decode cX4_into 32 = .ok (.ifCond .eq 12, 3) := by decide +kernel
theorem dX4_into_35 : decode cX4_into 35 = .ok (.aload_n 0, 1) := by decide +kernel
theorem dX4_into_36 : decode cX4_into 36 = .ok (.getfield 31, 3) := by decide +kernel
theorem dX4_into_39 : decode cX4_into 39 = .ok (.iload_n 1, 1) := by decide +kernel
theorem dX4_into_40 : decode cX4_into 40 = .ok (.iaload, 1) := by decide +kernel
theorem dX4_into_41 : decode cX4_into 41 = .ok (.goto 4, 3) := by decide +kernel
theorem dX4_into_44 : decode cX4_into 44 = .ok (.iconst (-1), 1) := by decide +kernel
theorem dX4_into_45 : decode cX4_into 45 = .ok (.ireturn, 1) := by decide +kernel
set_option maxRecDepth 20000 in
theorem ggX4_isReached_X4_noNode : GoodIn wsX4_isReached wsX4_noNode := goodIn_r _ [7, 8, 18, 19, 20, 21, 22, 23, 24, 25, 26, 27, 28, 29, 30, 31, 32, 33, 34, 35, 36, 37, 38, 39, 40, 41, 42] (by decide +kernel) (by decide +kernel)
set_option maxRecDepth 20000 in
theorem gX4_isReached_X4_noNode : GoodIn wsX4_isReached (wsV RX4 83 RX4 yX4_noNode wsX4_noNode) := goodIn_app (goodIn_of _ (by decide +kernel)) ggX4_isReached_X4_noNode
set_option maxRecDepth 20000 in
theorem ggX4_isReached_X4_reach : GoodIn wsX4_isReached wsX4_reach := goodIn_r _ [12, 8, 2, 13, 14, 15, 16, 17, 18, 19, 20, 21, 22, 23, 24, 25, 26, 27, 28, 29, 30, 31, 32, 33, 34, 35, 36, 37, 38, 39, 40, 41, 42] (by decide +kernel) (by decide +kernel)
set_option maxRecDepth 20000 in
theorem gX4_isReached_X4_reach : GoodIn wsX4_isReached (wsV RX4 135 RX4 yX4_reach wsX4_reach) := goodIn_app (goodIn_of _ (by decide +kernel)) ggX4_isReached_X4_reach
theorem dX4_isReached_0 : decode cX4_isReached 0 = .ok (.aload_n 0, 1) := by decide +kernel
theorem dX4_isReached_1 : decode cX4_isReached 1 = .ok (.aload_n 0, 1) := by decide +kernel
theorem dX4_isReached_2 : decode cX4_isReached 2 = .ok (.iload_n 1, 1) := by decide +kernel
theorem dX4_isReached_3 : decode cX4_isReached 3 = .ok (.invokevirtual 83, 3) := by decide +kernel
theorem dX4_isReached_6 : decode cX4_isReached 6 = .ok (.ifCond .eq 7, 3) := by decide +kernel
theorem dX4_isReached_9 : decode cX4_isReached 9 = .ok (.iconst 1, 1) := by decide +kernel
theorem dX4_isReached_10 : decode cX4_isReached 10 = .ok (.goto 4, 3) := by decide +kernel
theorem dX4_isReached_13 : decode cX4_isReached 13 = .ok (.iconst 0, 1) := by decide +kernel
theorem dX4_isReached_14 : decode cX4_isReached 14 = .ok (.putfield 64, 3) := by decide +kernel
theorem dX4_isReached_17 : decode cX4_isReached 17 = .ok (.aload_n 0, 1) := by decide +kernel
theorem dX4_isReached_18 : decode cX4_isReached 18 = .ok (.getfield 64, 3) := by decide +kernel
theorem dX4_isReached_21 : decode cX4_isReached 21 = .ok (.ifCond .le 5, 3) := by decide +kernel
theorem dX4_isReached_24 : decode cX4_isReached 24 = .ok (.iconst 0, 1) := by decide +kernel
theorem dX4_isReached_25 : decode cX4_isReached 25 = .ok (.ireturn, 1) := by decide +kernel
theorem dX4_isReached_26 : decode cX4_isReached 26 = .ok (.aload_n 0, 1) := by decide +kernel
theorem dX4_isReached_27 : decode cX4_isReached 27 = .ok (.invokevirtual 135, 3) := by decide +kernel
theorem dX4_isReached_30 : decode cX4_isReached 30 = .ok (.istore_n 2, 1) := by decide +kernel
theorem dX4_isReached_31 : decode cX4_isReached 31 = .ok (.aload_n 0, 1) := by decide +kernel
theorem dX4_isReached_32 : decode cX4_isReached 32 = .ok (.getfield 28, 3) := by decide +kernel
theorem dX4_isReached_35 : decode cX4_isReached 35 = .ok (.iload_n 1, 1) := by decide +kernel
theorem dX4_isReached_36 : decode cX4_isReached 36 = .ok (.baload, 1) := by decide +kernel
theorem dX4_isReached_37 : decode cX4_isReached 37 = .ok (.ireturn, 1) := by decide +kernel
theorem dX4_sets_0 : decode cX4_sets 0 = .ok (.aload_n 0, 1) := by decide +kernel
theorem dX4_sets_1 : decode cX4_sets 1 = .ok (.iconst 0, 1) := by decide +kernel
theorem dX4_sets_2 : decode cX4_sets 2 = .ok (.putfield 64, 3) := by decide +kernel
theorem dX4_sets_5 : decode cX4_sets 5 = .ok (.aload_n 0, 1) := by decide +kernel
theorem dX4_sets_6 : decode cX4_sets 6 = .ok (.getfield 74, 3) := by decide +kernel
theorem dX4_sets_9 : decode cX4_sets 9 = .ok (.ifCond .eq 10, 3) := by decide +kernel
theorem dX4_sets_12 : decode cX4_sets 12 = .ok (.aload_n 0, 1) := by decide +kernel
theorem dX4_sets_13 : decode cX4_sets 13 = .ok (.getfield 77, 3) := by decide +kernel
theorem dX4_sets_16 : decode cX4_sets 16 = .ok (.goto 4, 3) := by decide +kernel
theorem dX4_sets_19 : decode cX4_sets 19 = .ok (.iconst 0, 1) := by decide +kernel
theorem dX4_sets_20 : decode cX4_sets 20 = .ok (.ireturn, 1) := by decide +kernel
theorem dX4_noSet_0 : decode cX4_noSet 0 = .ok (.aload_n 0, 1) := by decide +kernel
theorem dX4_noSet_1 : decode cX4_noSet 1 = .ok (.getfield 74, 3) := by decide +kernel
theorem dX4_noSet_4 : decode cX4_noSet 4 = .ok (.ifCond .eq 15, 3) := by decide +kernel
theorem dX4_noSet_7 : decode cX4_noSet 7 = .ok (.iload_n 1, 1) := by decide +kernel
theorem dX4_noSet_8 : decode cX4_noSet 8 = .ok (.ifCond .lt 11, 3) := by decide +kernel
theorem dX4_noSet_11 : decode cX4_noSet 11 = .ok (.iload_n 1, 1) := by decide +kernel
theorem dX4_noSet_12 : decode cX4_noSet 12 = .ok (.aload_n 0, 1) := by decide +kernel
theorem dX4_noSet_13 : decode cX4_noSet 13 = .ok (.getfield 77, 3) := by decide +kernel
theorem dX4_noSet_16 : decode cX4_noSet 16 = .ok (.if_icmp .lt 7, 3) := by decide +kernel
theorem dX4_noSet_19 : decode cX4_noSet 19 = .ok (.iconst 1, 1) := by decide +kernel
theorem dX4_noSet_20 : decode cX4_noSet 20 = .ok (.goto 4, 3) := by decide +kernel
theorem dX4_noSet_23 : decode cX4_noSet 23 = .ok (.iconst 0, 1) := by decide +kernel
theorem dX4_noSet_24 : decode cX4_noSet 24 = .ok (.ireturn, 1) := by decide +kernel
theorem dX4_numberOf_0 : decode cX4_numberOf 0 = .ok (.iconst 0, 1) := by decide +kernel
theorem dX4_numberOf_1 : decode cX4_numberOf 1 = .ok (.istore_n 2, 1) := by decide +kernel
theorem dX4_numberOf_2 : decode cX4_numberOf 2 = .ok (.aload_n 0, 1) := by decide +kernel
theorem dX4_numberOf_3 : decode cX4_numberOf 3 = .ok (.getfield 58, 3) := by decide +kernel
theorem dX4_numberOf_6 : decode cX4_numberOf 6 = .ok (.iload_n 2, 1) := by decide +kernel
theorem dX4_numberOf_7 : decode cX4_numberOf 7 = .ok (.iaload, 1) := by decide +kernel
theorem dX4_numberOf_8 : decode cX4_numberOf 8 = .ok (.iload_n 1, 1) := by decide +kernel
theorem dX4_numberOf_9 : decode cX4_numberOf 9 = .ok (.if_icmp .eq 9, 3) := by decide +kernel
theorem dX4_numberOf_12 : decode cX4_numberOf 12 = .ok (.iinc 2 1, 3) := by decide +kernel
theorem dX4_numberOf_15 : decode cX4_numberOf 15 = .ok (.goto (-13), 3) := by decide +kernel
theorem dX4_numberOf_18 : decode cX4_numberOf 18 = .ok (.iload_n 2, 1) := by decide +kernel
theorem dX4_numberOf_19 : decode cX4_numberOf 19 = .ok (.ireturn, 1) := by decide +kernel
set_option maxRecDepth 20000 in
theorem ggX4_set_X4_noSet : GoodIn wsX4_set wsX4_noSet := goodIn_r _ [11, 12, 13, 21, 22, 23, 24, 25, 26, 27, 28, 29, 30, 31, 32, 33, 34, 35, 36, 37, 38, 39, 40, 41, 42, 43, 44, 45] (by decide +kernel) (by decide +kernel)
set_option maxRecDepth 20000 in
theorem gX4_set_X4_noSet : GoodIn wsX4_set (wsV RX4 148 RX4 yX4_noSet wsX4_noSet) := goodIn_app (goodIn_of _ (by decide +kernel)) ggX4_set_X4_noSet
set_option maxRecDepth 20000 in
theorem ggX4_set_X4_bits : GoodIn wsX4_set wsX4_bits := goodIn_r _ [16] (by decide +kernel) (by decide +kernel)
set_option maxRecDepth 20000 in
theorem gX4_set_X4_bits : GoodIn wsX4_set (va_wsS RX4 126 yX4_bits wsX4_bits) := goodIn_app (goodIn_of _ (by decide +kernel)) ggX4_set_X4_bits
set_option maxRecDepth 20000 in
theorem ggX4_set_X4_numberOf : GoodIn wsX4_set wsX4_numberOf := goodIn_r _ [20, 2, 21, 22, 23, 24, 25, 26, 27, 28, 29, 30, 31, 32, 33, 34, 35, 36, 37, 38, 39, 40, 41, 42, 43, 44, 45] (by decide +kernel) (by decide +kernel)
set_option maxRecDepth 20000 in
theorem gX4_set_X4_numberOf : GoodIn wsX4_set (wsV RX4 151 RX4 yX4_numberOf wsX4_numberOf) := goodIn_app (goodIn_of _ (by decide +kernel)) ggX4_set_X4_numberOf
theorem dX4_set_0 : decode cX4_set 0 = .ok (.aload_n 0, 1) := by decide +kernel
theorem dX4_set_1 : decode cX4_set 1 = .ok (.aload_n 0, 1) := by decide +kernel
theorem dX4_set_2 : decode cX4_set 2 = .ok (.iload_n 1, 1) := by decide +kernel
theorem dX4_set_3 : decode cX4_set 3 = .ok (.invokevirtual 148, 3) := by decide +kernel
theorem dX4_set_6 : decode cX4_set 6 = .ok (.ifCond .ne 12, 3) := by decide +kernel
theorem dX4_set_9 : decode cX4_set 9 = .ok (.iload_n 2, 1) := by decide +kernel
theorem dX4_set_10 : decode cX4_set 10 = .ok (.ifCond .lt 8, 3) := by decide +kernel
theorem dX4_set_13 : decode cX4_set 13 = .ok (.iload_n 2, 1) := by decide +kernel
theorem dX4_set_14 : decode cX4_set 14 = .ok (.iconst 3, 1) := by decide +kernel
theorem dX4_set_15 : decode cX4_set 15 = .ok (.if_icmp .le 7, 3) := by decide +kernel
theorem dX4_set_18 : decode cX4_set 18 = .ok (.iconst 1, 1) := by decide +kernel
theorem dX4_set_19 : decode cX4_set 19 = .ok (.goto 4, 3) := by decide +kernel
theorem dX4_set_22 : decode cX4_set 22 = .ok (.iconst 0, 1) := by decide +kernel
theorem dX4_set_23 : decode cX4_set 23 = .ok (.putfield 64, 3) := by decide +kernel
theorem dX4_set_26 : decode cX4_set 26 = .ok (.aload_n 0, 1) := by decide +kernel
theorem dX4_set_27 : decode cX4_set 27 = .ok (.getfield 64, 3) := by decide +kernel
theorem dX4_set_30 : decode cX4_set 30 = .ok (.ifCond .le 5, 3) := by decide +kernel
theorem dX4_set_33 : decode cX4_set 33 = .ok (.iconst 0, 1) := by decide +kernel
theorem dX4_set_34 : decode cX4_set 34 = .ok (.ireturn, 1) := by decide +kernel
theorem dX4_set_35 : decode cX4_set 35 = .ok (.aload_n 0, 1) := by decide +kernel
theorem dX4_set_36 : decode cX4_set 36 = .ok (.getfield 58, 3) := by decide +kernel
theorem dX4_set_39 : decode cX4_set 39 = .ok (.iload_n 1, 1) := by decide +kernel
theorem dX4_set_40 : decode cX4_set 40 = .ok (.iaload, 1) := by decide +kernel
theorem dX4_set_41 : decode cX4_set 41 = .ok (.istore_n 3, 1) := by decide +kernel
theorem dX4_set_42 : decode cX4_set 42 = .ok (.iload_n 2, 1) := by decide +kernel
theorem dX4_set_43 : decode cX4_set 43 = .ok (.tableswitch 57 0 2 #[25, 35, 42], 25) := by decide +kernel
theorem dX4_set_68 : decode cX4_set 68 = .ok (.aload_n 0, 1) := by decide +kernel
theorem dX4_set_69 : decode cX4_set 69 = .ok (.getfield 34, 3) := by decide +kernel
theorem dX4_set_72 : decode cX4_set 72 = .ok (.iload_n 3, 1) := by decide +kernel
theorem dX4_set_73 : decode cX4_set 73 = .ok (.iaload, 1) := by decide +kernel
theorem dX4_set_74 : decode cX4_set 74 = .ok (.invokestatic 126, 3) := by decide +kernel
theorem dX4_set_77 : decode cX4_set 77 = .ok (.ireturn, 1) := by decide +kernel
theorem dX4_set_78 : decode cX4_set 78 = .ok (.aload_n 0, 1) := by decide +kernel
theorem dX4_set_79 : decode cX4_set 79 = .ok (.getfield 37, 3) := by decide +kernel
theorem dX4_set_82 : decode cX4_set 82 = .ok (.iload_n 3, 1) := by decide +kernel
theorem dX4_set_83 : decode cX4_set 83 = .ok (.iaload, 1) := by decide +kernel
theorem dX4_set_84 : decode cX4_set 84 = .ok (.ireturn, 1) := by decide +kernel
theorem dX4_set_85 : decode cX4_set 85 = .ok (.aload_n 0, 1) := by decide +kernel
theorem dX4_set_86 : decode cX4_set 86 = .ok (.getfield 46, 3) := by decide +kernel
theorem dX4_set_89 : decode cX4_set 89 = .ok (.iload_n 3, 1) := by decide +kernel
theorem dX4_set_90 : decode cX4_set 90 = .ok (.baload, 1) := by decide +kernel
theorem dX4_set_91 : decode cX4_set 91 = .ok (.ifCond .eq 7, 3) := by decide +kernel
theorem dX4_set_94 : decode cX4_set 94 = .ok (.iconst 1, 1) := by decide +kernel
theorem dX4_set_95 : decode cX4_set 95 = .ok (.goto 4, 3) := by decide +kernel
theorem dX4_set_98 : decode cX4_set 98 = .ok (.iconst 0, 1) := by decide +kernel
theorem dX4_set_99 : decode cX4_set 99 = .ok (.ireturn, 1) := by decide +kernel
theorem dX4_set_100 : decode cX4_set 100 = .ok (.aload_n 0, 1) := by decide +kernel
theorem dX4_set_101 : decode cX4_set 101 = .ok (.getfield 43, 3) := by decide +kernel
theorem dX4_set_104 : decode cX4_set 104 = .ok (.iload_n 3, 1) := by decide +kernel
theorem dX4_set_105 : decode cX4_set 105 = .ok (.iaload, 1) := by decide +kernel
theorem dX4_set_106 : decode cX4_set 106 = .ok (.ifCond .ge 7, 3) := by decide +kernel
theorem dX4_set_109 : decode cX4_set 109 = .ok (.iconst (-1), 1) := by decide +kernel
theorem dX4_set_110 : decode cX4_set 110 = .ok (.goto 13, 3) := by decide +kernel
theorem dX4_set_113 : decode cX4_set 113 = .ok (.aload_n 0, 1) := by decide +kernel
theorem dX4_set_114 : decode cX4_set 114 = .ok (.aload_n 0, 1) := by decide +kernel
theorem dX4_set_115 : decode cX4_set 115 = .ok (.getfield 43, 3) := by decide +kernel
theorem dX4_set_118 : decode cX4_set 118 = .ok (.iload_n 3, 1) := by decide +kernel
theorem dX4_set_119 : decode cX4_set 119 = .ok (.iaload, 1) := by decide +kernel
theorem dX4_set_120 : decode cX4_set 120 = .ok (.invokevirtual 151, 3) := by decide +kernel
theorem dX4_set_123 : decode cX4_set 123 = .ok (.ireturn, 1) := by decide +kernel
set_option maxRecDepth 20000 in
theorem ggX4_isIn_X4_noSet : GoodIn wsX4_isIn wsX4_noSet := goodIn_r _ [7, 8, 9, 20, 21, 22, 23, 24, 25, 26, 27, 28, 29, 30, 31, 32, 33, 34, 35, 36, 37, 38, 39, 40, 41, 42, 43, 44] (by decide +kernel) (by decide +kernel)
set_option maxRecDepth 20000 in
theorem gX4_isIn_X4_noSet : GoodIn wsX4_isIn (wsV RX4 148 RX4 yX4_noSet wsX4_noSet) := goodIn_app (goodIn_of _ (by decide +kernel)) ggX4_isIn_X4_noSet
set_option maxRecDepth 20000 in
theorem ggX4_isIn_X4_noNode : GoodIn wsX4_isIn wsX4_noNode := goodIn_r _ [13, 14, 20, 21, 22, 23, 24, 25, 26, 27, 28, 29, 30, 31, 32, 33, 34, 35, 36, 37, 38, 39, 40, 41, 42, 43, 44] (by decide +kernel) (by decide +kernel)
set_option maxRecDepth 20000 in
theorem gX4_isIn_X4_noNode : GoodIn wsX4_isIn (wsV RX4 83 RX4 yX4_noNode wsX4_noNode) := goodIn_app (goodIn_of _ (by decide +kernel)) ggX4_isIn_X4_noNode
set_option maxRecDepth 20000 in
theorem ggX4_isIn_X4_has : GoodIn wsX4_isIn wsX4_has := goodIn_r _ [18, 19, 20, 21, 22, 23, 24, 25, 26, 27, 28, 29, 30, 31, 32, 33, 34, 35, 36, 37, 38, 39, 40, 41, 42, 43, 44] (by decide +kernel) (by decide +kernel)
set_option maxRecDepth 20000 in
theorem gX4_isIn_X4_has : GoodIn wsX4_isIn (wsV RX4 102 RX4 yX4_has wsX4_has) := goodIn_app (goodIn_of _ (by decide +kernel)) ggX4_isIn_X4_has
theorem dX4_isIn_0 : decode cX4_isIn 0 = .ok (.aload_n 0, 1) := by decide +kernel
theorem dX4_isIn_1 : decode cX4_isIn 1 = .ok (.aload_n 0, 1) := by decide +kernel
theorem dX4_isIn_2 : decode cX4_isIn 2 = .ok (.iload_n 1, 1) := by decide +kernel
theorem dX4_isIn_3 : decode cX4_isIn 3 = .ok (.invokevirtual 148, 3) := by decide +kernel
theorem dX4_isIn_6 : decode cX4_isIn 6 = .ok (.ifCond .ne 11, 3) := by decide +kernel
theorem dX4_isIn_9 : decode cX4_isIn 9 = .ok (.aload_n 0, 1) := by decide +kernel
theorem dX4_isIn_10 : decode cX4_isIn 10 = .ok (.iload_n 2, 1) := by decide +kernel
theorem dX4_isIn_11 : decode cX4_isIn 11 = .ok (.invokevirtual 83, 3) := by decide +kernel
theorem dX4_isIn_14 : decode cX4_isIn 14 = .ok (.ifCond .eq 7, 3) := by decide +kernel
theorem dX4_isIn_17 : decode cX4_isIn 17 = .ok (.iconst 1, 1) := by decide +kernel
theorem dX4_isIn_18 : decode cX4_isIn 18 = .ok (.goto 4, 3) := by decide +kernel
theorem dX4_isIn_21 : decode cX4_isIn 21 = .ok (.iconst 0, 1) := by decide +kernel
theorem dX4_isIn_22 : decode cX4_isIn 22 = .ok (.putfield 64, 3) := by decide +kernel
theorem dX4_isIn_25 : decode cX4_isIn 25 = .ok (.aload_n 0, 1) := by decide +kernel
theorem dX4_isIn_26 : decode cX4_isIn 26 = .ok (.getfield 64, 3) := by decide +kernel
theorem dX4_isIn_29 : decode cX4_isIn 29 = .ok (.ifCond .ne 21, 3) := by decide +kernel
theorem dX4_isIn_32 : decode cX4_isIn 32 = .ok (.aload_n 0, 1) := by decide +kernel
theorem dX4_isIn_33 : decode cX4_isIn 33 = .ok (.aload_n 0, 1) := by decide +kernel
theorem dX4_isIn_34 : decode cX4_isIn 34 = .ok (.getfield 58, 3) := by decide +kernel
theorem dX4_isIn_37 : decode cX4_isIn 37 = .ok (.iload_n 1, 1) := by decide +kernel
theorem dX4_isIn_38 : decode cX4_isIn 38 = .ok (.iaload, 1) := by decide +kernel
theorem dX4_isIn_39 : decode cX4_isIn 39 = .ok (.iload_n 2, 1) := by decide +kernel
theorem dX4_isIn_40 : decode cX4_isIn 40 = .ok (.invokevirtual 102, 3) := by decide +kernel
theorem dX4_isIn_43 : decode cX4_isIn 43 = .ok (.ifCond .eq 7, 3) := by decide +kernel
theorem dX4_isIn_46 : decode cX4_isIn 46 = .ok (.iconst 1, 1) := by decide +kernel
theorem dX4_isIn_47 : decode cX4_isIn 47 = .ok (.goto 4, 3) := by decide +kernel
theorem dX4_isIn_50 : decode cX4_isIn 50 = .ok (.iconst 0, 1) := by decide +kernel
theorem dX4_isIn_51 : decode cX4_isIn 51 = .ok (.ireturn, 1) := by decide +kernel
set_option maxRecDepth 20000 in
theorem ggX4_dual_X4_noSet : GoodIn wsX4_dual wsX4_noSet := goodIn_r _ [8, 9, 10, 11, 12, 13, 14, 15, 16, 17, 18, 19, 20, 21, 22, 23, 24, 25, 26, 27, 28, 29, 30, 31, 32, 33, 34, 35] (by decide +kernel) (by decide +kernel)
set_option maxRecDepth 20000 in
theorem gX4_dual_X4_noSet : GoodIn wsX4_dual (wsV RX4 148 RX4 yX4_noSet wsX4_noSet) := goodIn_app (goodIn_of _ (by decide +kernel)) ggX4_dual_X4_noSet
theorem dX4_dual_0 : decode cX4_dual 0 = .ok (.aload_n 0, 1) := by decide +kernel
theorem dX4_dual_1 : decode cX4_dual 1 = .ok (.aload_n 0, 1) := by decide +kernel
theorem dX4_dual_2 : decode cX4_dual 2 = .ok (.iload_n 1, 1) := by decide +kernel
theorem dX4_dual_3 : decode cX4_dual 3 = .ok (.invokevirtual 148, 3) := by decide +kernel
theorem dX4_dual_6 : decode cX4_dual 6 = .ok (.ifCond .eq 7, 3) := by decide +kernel
theorem dX4_dual_9 : decode cX4_dual 9 = .ok (.iconst 1, 1) := by decide +kernel
theorem dX4_dual_10 : decode cX4_dual 10 = .ok (.goto 4, 3) := by decide +kernel
theorem dX4_dual_13 : decode cX4_dual 13 = .ok (.iconst 0, 1) := by decide +kernel
theorem dX4_dual_14 : decode cX4_dual 14 = .ok (.putfield 64, 3) := by decide +kernel
theorem dX4_dual_17 : decode cX4_dual 17 = .ok (.aload_n 0, 1) := by decide +kernel
theorem dX4_dual_18 : decode cX4_dual 18 = .ok (.getfield 64, 3) := by decide +kernel
theorem dX4_dual_21 : decode cX4_dual 21 = .ok (.ifCond .le 7, 3) := by decide +kernel
theorem dX4_dual_24 : decode cX4_dual 24 = .ok (.lconst 0, 1) := by decide +kernel
theorem dX4_dual_25 : decode cX4_dual 25 = .ok (.goto 14, 3) := by decide +kernel
theorem dX4_dual_28 : decode cX4_dual 28 = .ok (.aload_n 0, 1) := by decide +kernel
theorem dX4_dual_29 : decode cX4_dual 29 = .ok (.getfield 49, 3) := by decide +kernel
theorem dX4_dual_32 : decode cX4_dual 32 = .ok (.aload_n 0, 1) := by decide +kernel
theorem dX4_dual_33 : decode cX4_dual 33 = .ok (.getfield 58, 3) := by decide +kernel
theorem dX4_dual_36 : decode cX4_dual 36 = .ok (.iload_n 1, 1) := by decide +kernel
theorem dX4_dual_37 : decode cX4_dual 37 = .ok (.iaload, 1) := by decide +kernel
theorem dX4_dual_38 : decode cX4_dual 38 = .ok (.laload, 1) := by decide +kernel
theorem dX4_dual_39 : decode cX4_dual 39 = .ok (.lreturn, 1) := by decide +kernel
set_option maxRecDepth 20000 in
theorem ggX4_slack_X4_noArc : GoodIn wsX4_slack wsX4_noArc := goodIn_r _ [12, 13, 19, 20, 21, 22, 23, 24, 25, 26, 27, 28, 29, 30, 31, 32, 33, 34, 35, 36, 37, 38, 39, 40, 41, 42, 43] (by decide +kernel) (by decide +kernel)
set_option maxRecDepth 20000 in
theorem gX4_slack_X4_noArc : GoodIn wsX4_slack (wsV RX4 89 RX4 yX4_noArc wsX4_noArc) := goodIn_app (goodIn_of _ (by decide +kernel)) ggX4_slack_X4_noArc
set_option maxRecDepth 20000 in
theorem ggX4_slack_X4_has : GoodIn wsX4_slack wsX4_has := goodIn_r _ [17, 18, 19, 20, 21, 22, 23, 24, 25, 26, 27, 28, 29, 30, 31, 32, 33, 34, 35, 36, 37, 38, 39, 40, 41, 42, 43] (by decide +kernel) (by decide +kernel)
set_option maxRecDepth 20000 in
theorem gX4_slack_X4_has : GoodIn wsX4_slack (wsV RX4 102 RX4 yX4_has wsX4_has) := goodIn_app (goodIn_of _ (by decide +kernel)) ggX4_slack_X4_has
theorem dX4_slack_0 : decode cX4_slack 0 = .ok (.aload_n 0, 1) := by decide +kernel
theorem dX4_slack_1 : decode cX4_slack 1 = .ok (.aload_n 0, 1) := by decide +kernel
theorem dX4_slack_2 : decode cX4_slack 2 = .ok (.iload_n 1, 1) := by decide +kernel
theorem dX4_slack_3 : decode cX4_slack 3 = .ok (.invokevirtual 89, 3) := by decide +kernel
theorem dX4_slack_6 : decode cX4_slack 6 = .ok (.ifCond .eq 7, 3) := by decide +kernel
theorem dX4_slack_9 : decode cX4_slack 9 = .ok (.iconst 1, 1) := by decide +kernel
theorem dX4_slack_10 : decode cX4_slack 10 = .ok (.goto 15, 3) := by decide +kernel
theorem dX4_slack_13 : decode cX4_slack 13 = .ok (.aload_n 0, 1) := by decide +kernel
theorem dX4_slack_14 : decode cX4_slack 14 = .ok (.getfield 74, 3) := by decide +kernel
theorem dX4_slack_17 : decode cX4_slack 17 = .ok (.ifCond .ne 7, 3) := by decide +kernel
theorem dX4_slack_20 : decode cX4_slack 20 = .ok (.iconst 2, 1) := by decide +kernel
theorem dX4_slack_21 : decode cX4_slack 21 = .ok (.goto 4, 3) := by decide +kernel
theorem dX4_slack_24 : decode cX4_slack 24 = .ok (.iconst 0, 1) := by decide +kernel
theorem dX4_slack_25 : decode cX4_slack 25 = .ok (.putfield 64, 3) := by decide +kernel
theorem dX4_slack_28 : decode cX4_slack 28 = .ok (.aload_n 0, 1) := by decide +kernel
theorem dX4_slack_29 : decode cX4_slack 29 = .ok (.getfield 64, 3) := by decide +kernel
theorem dX4_slack_32 : decode cX4_slack 32 = .ok (.ifCond .le 5, 3) := by decide +kernel
theorem dX4_slack_35 : decode cX4_slack 35 = .ok (.lconst 0, 1) := by decide +kernel
theorem dX4_slack_36 : decode cX4_slack 36 = .ok (.lreturn, 1) := by decide +kernel
theorem dX4_slack_37 : decode cX4_slack 37 = .ok (.aload_n 0, 1) := by decide +kernel
theorem dX4_slack_38 : decode cX4_slack 38 = .ok (.getfield 20, 3) := by decide +kernel
theorem dX4_slack_41 : decode cX4_slack 41 = .ok (.iload_n 1, 1) := by decide +kernel
theorem dX4_slack_42 : decode cX4_slack 42 = .ok (.laload, 1) := by decide +kernel
theorem dX4_slack_43 : decode cX4_slack 43 = .ok (.lstore_n 2, 1) := by decide +kernel
theorem dX4_slack_44 : decode cX4_slack 44 = .ok (.iconst 0, 1) := by decide +kernel
theorem dX4_slack_45 : decode cX4_slack 45 = .ok (.istore 4, 2) := by decide +kernel
theorem dX4_slack_47 : decode cX4_slack 47 = .ok (.iload 4, 2) := by decide +kernel
theorem dX4_slack_49 : decode cX4_slack 49 = .ok (.aload_n 0, 1) := by decide +kernel
theorem dX4_slack_50 : decode cX4_slack 50 = .ok (.getfield 77, 3) := by decide +kernel
theorem dX4_slack_53 : decode cX4_slack 53 = .ok (.if_icmp .ge 53, 3) := by decide +kernel
theorem dX4_slack_56 : decode cX4_slack 56 = .ok (.lload_n 2, 1) := by decide +kernel
theorem dX4_slack_57 : decode cX4_slack 57 = .ok (.aload_n 0, 1) := by decide +kernel
theorem dX4_slack_58 : decode cX4_slack 58 = .ok (.iload 4, 2) := by decide +kernel
theorem dX4_slack_60 : decode cX4_slack 60 = .ok (.aload_n 0, 1) := by decide +kernel
theorem dX4_slack_61 : decode cX4_slack 61 = .ok (.getfield 17, 3) := by decide +kernel
theorem dX4_slack_64 : decode cX4_slack 64 = .ok (.iload_n 1, 1) := by decide +kernel
theorem dX4_slack_65 : decode cX4_slack 65 = .ok (.iaload, 1) := by decide +kernel
theorem dX4_slack_66 : decode cX4_slack 66 = .ok (.invokevirtual 102, 3) := by decide +kernel
theorem dX4_slack_69 : decode cX4_slack 69 = .ok (.ifCond .eq 28, 3) := by decide +kernel
theorem dX4_slack_72 : decode cX4_slack 72 = .ok (.aload_n 0, 1) := by decide +kernel
theorem dX4_slack_73 : decode cX4_slack 73 = .ok (.iload 4, 2) := by decide +kernel
theorem dX4_slack_75 : decode cX4_slack 75 = .ok (.aload_n 0, 1) := by decide +kernel
theorem dX4_slack_76 : decode cX4_slack 76 = .ok (.getfield 13, 3) := by decide +kernel
theorem dX4_slack_79 : decode cX4_slack 79 = .ok (.iload_n 1, 1) := by decide +kernel
theorem dX4_slack_80 : decode cX4_slack 80 = .ok (.iaload, 1) := by decide +kernel
theorem dX4_slack_81 : decode cX4_slack 81 = .ok (.invokevirtual 102, 3) := by decide +kernel
theorem dX4_slack_84 : decode cX4_slack 84 = .ok (.ifCond .ne 13, 3) := by decide +kernel
theorem dX4_slack_87 : decode cX4_slack 87 = .ok (.aload_n 0, 1) := by decide +kernel
theorem dX4_slack_88 : decode cX4_slack 88 = .ok (.getfield 49, 3) := by decide +kernel
theorem dX4_slack_91 : decode cX4_slack 91 = .ok (.iload 4, 2) := by decide +kernel
theorem dX4_slack_93 : decode cX4_slack 93 = .ok (.laload, 1) := by decide +kernel
theorem dX4_slack_94 : decode cX4_slack 94 = .ok (.goto 4, 3) := by decide +kernel
theorem dX4_slack_97 : decode cX4_slack 97 = .ok (.lconst 0, 1) := by decide +kernel
theorem dX4_slack_98 : decode cX4_slack 98 = .ok (.lsub, 1) := by decide +kernel
theorem dX4_slack_99 : decode cX4_slack 99 = .ok (.lstore_n 2, 1) := by decide +kernel
theorem dX4_slack_100 : decode cX4_slack 100 = .ok (.iinc 4 1, 3) := by decide +kernel
theorem dX4_slack_103 : decode cX4_slack 103 = .ok (.goto (-56), 3) := by decide +kernel
theorem dX4_slack_106 : decode cX4_slack 106 = .ok (.lload_n 2, 1) := by decide +kernel
theorem dX4_slack_107 : decode cX4_slack 107 = .ok (.lreturn, 1) := by decide +kernel
theorem dX4_about_0 : decode cX4_about 0 = .ok (.aload_n 0, 1) := by decide +kernel
theorem dX4_about_1 : decode cX4_about 1 = .ok (.iload_n 1, 1) := by decide +kernel
theorem dX4_about_2 : decode cX4_about 2 = .ok (.ifCond .lt 8, 3) := by decide +kernel
theorem dX4_about_5 : decode cX4_about 5 = .ok (.iload_n 1, 1) := by decide +kernel
theorem dX4_about_6 : decode cX4_about 6 = .ok (.iconst 4, 1) := by decide +kernel
theorem dX4_about_7 : decode cX4_about 7 = .ok (.if_icmp .le 7, 3) := by decide +kernel
theorem dX4_about_10 : decode cX4_about 10 = .ok (.iconst 1, 1) := by decide +kernel
theorem dX4_about_11 : decode cX4_about 11 = .ok (.goto 4, 3) := by decide +kernel
theorem dX4_about_14 : decode cX4_about 14 = .ok (.iconst 0, 1) := by decide +kernel
theorem dX4_about_15 : decode cX4_about 15 = .ok (.putfield 64, 3) := by decide +kernel
theorem dX4_about_18 : decode cX4_about 18 = .ok (.aload_n 0, 1) := by decide +kernel
theorem dX4_about_19 : decode cX4_about 19 = .ok (.getfield 64, 3) := by decide +kernel
theorem dX4_about_22 : decode cX4_about 22 = .ok (.ifCond .le 5, 3) := by decide +kernel
theorem dX4_about_25 : decode cX4_about 25 = .ok (.iconst 0, 1) := by decide +kernel
theorem dX4_about_26 : decode cX4_about 26 = .ok (.ireturn, 1) := by decide +kernel
theorem dX4_about_27 : decode cX4_about 27 = .ok (.iconst 0, 1) := by decide +kernel
theorem dX4_about_28 : decode cX4_about 28 = .ok (.istore_n 2, 1) := by decide +kernel
theorem dX4_about_29 : decode cX4_about 29 = .ok (.iconst 0, 1) := by decide +kernel
theorem dX4_about_30 : decode cX4_about 30 = .ok (.istore_n 3, 1) := by decide +kernel
theorem dX4_about_31 : decode cX4_about 31 = .ok (.iload_n 3, 1) := by decide +kernel
theorem dX4_about_32 : decode cX4_about 32 = .ok (.aload_n 0, 1) := by decide +kernel
theorem dX4_about_33 : decode cX4_about 33 = .ok (.getfield 67, 3) := by decide +kernel
theorem dX4_about_36 : decode cX4_about 36 = .ok (.if_icmp .ge 26, 3) := by decide +kernel
theorem dX4_about_39 : decode cX4_about 39 = .ok (.iload_n 2, 1) := by decide +kernel
theorem dX4_about_40 : decode cX4_about 40 = .ok (.aload_n 0, 1) := by decide +kernel
theorem dX4_about_41 : decode cX4_about 41 = .ok (.getfield 24, 3) := by decide +kernel
theorem dX4_about_44 : decode cX4_about 44 = .ok (.iload_n 3, 1) := by decide +kernel
theorem dX4_about_45 : decode cX4_about 45 = .ok (.baload, 1) := by decide +kernel
theorem dX4_about_46 : decode cX4_about 46 = .ok (.ifCond .eq 7, 3) := by decide +kernel
theorem dX4_about_49 : decode cX4_about 49 = .ok (.iconst 1, 1) := by decide +kernel
theorem dX4_about_50 : decode cX4_about 50 = .ok (.goto 4, 3) := by decide +kernel
theorem dX4_about_53 : decode cX4_about 53 = .ok (.iconst 0, 1) := by decide +kernel
theorem dX4_about_54 : decode cX4_about 54 = .ok (.iadd, 1) := by decide +kernel
theorem dX4_about_55 : decode cX4_about 55 = .ok (.istore_n 2, 1) := by decide +kernel
theorem dX4_about_56 : decode cX4_about 56 = .ok (.iinc 3 1, 3) := by decide +kernel
theorem dX4_about_59 : decode cX4_about 59 = .ok (.goto (-28), 3) := by decide +kernel
theorem dX4_about_62 : decode cX4_about 62 = .ok (.iload_n 1, 1) := by decide +kernel
theorem dX4_about_63 : decode cX4_about 63 = .ok (.ifCond .ne 10, 3) := by decide +kernel
theorem dX4_about_66 : decode cX4_about 66 = .ok (.aload_n 0, 1) := by decide +kernel
theorem dX4_about_67 : decode cX4_about 67 = .ok (.getfield 7, 3) := by decide +kernel
theorem dX4_about_70 : decode cX4_about 70 = .ok (.goto 48, 3) := by decide +kernel
theorem dX4_about_73 : decode cX4_about 73 = .ok (.iload_n 1, 1) := by decide +kernel
theorem dX4_about_74 : decode cX4_about 74 = .ok (.iconst 1, 1) := by decide +kernel
theorem dX4_about_75 : decode cX4_about 75 = .ok (.if_icmp .ne 10, 3) := by decide +kernel
theorem dX4_about_78 : decode cX4_about 78 = .ok (.aload_n 0, 1) := by decide +kernel
theorem dX4_about_79 : decode cX4_about 79 = .ok (.getfield 67, 3) := by decide +kernel
theorem dX4_about_82 : decode cX4_about 82 = .ok (.goto 36, 3) := by decide +kernel
theorem dX4_about_85 : decode cX4_about 85 = .ok (.iload_n 1, 1) := by decide +kernel
theorem dX4_about_86 : decode cX4_about 86 = .ok (.iconst 2, 1) := by decide +kernel
theorem dX4_about_87 : decode cX4_about 87 = .ok (.if_icmp .ne 7, 3) := by decide +kernel
theorem dX4_about_90 : decode cX4_about 90 = .ok (.iload_n 2, 1) := by decide +kernel
theorem dX4_about_91 : decode cX4_about 91 = .ok (.goto 27, 3) := by decide +kernel
theorem dX4_about_94 : decode cX4_about 94 = .ok (.iload_n 1, 1) := by decide +kernel
theorem dX4_about_95 : decode cX4_about 95 = .ok (.iconst 3, 1) := by decide +kernel
theorem dX4_about_96 : decode cX4_about 96 = .ok (.if_icmp .ne 10, 3) := by decide +kernel
theorem dX4_about_99 : decode cX4_about 99 = .ok (.aload_n 0, 1) := by decide +kernel
theorem dX4_about_100 : decode cX4_about 100 = .ok (.getfield 61, 3) := by decide +kernel
theorem dX4_about_103 : decode cX4_about 103 = .ok (.goto 15, 3) := by decide +kernel
theorem dX4_about_106 : decode cX4_about 106 = .ok (.aload_n 0, 1) := by decide +kernel
theorem dX4_about_107 : decode cX4_about 107 = .ok (.getfield 70, 3) := by decide +kernel
theorem dX4_about_110 : decode cX4_about 110 = .ok (.ifCond .eq 7, 3) := by decide +kernel
theorem dX4_about_113 : decode cX4_about 113 = .ok (.iconst 1, 1) := by decide +kernel
theorem dX4_about_114 : decode cX4_about 114 = .ok (.goto 4, 3) := by decide +kernel
theorem dX4_about_117 : decode cX4_about 117 = .ok (.iconst 0, 1) := by decide +kernel
theorem dX4_about_118 : decode cX4_about 118 = .ok (.ireturn, 1) := by decide +kernel
set_option maxRecDepth 20000 in
theorem ggX4_told_X4_noArc : GoodIn wsX4_told wsX4_noArc := goodIn_r _ [11, 12, 13, 14, 15, 16, 17, 18, 19, 20, 21, 22, 23, 24, 25, 26, 27, 28, 29, 30, 31, 32, 33, 34, 35, 36, 37] (by decide +kernel) (by decide +kernel)
set_option maxRecDepth 20000 in
theorem gX4_told_X4_noArc : GoodIn wsX4_told (wsV RX4 89 RX4 yX4_noArc wsX4_noArc) := goodIn_app (goodIn_of _ (by decide +kernel)) ggX4_told_X4_noArc
theorem dX4_told_0 : decode cX4_told 0 = .ok (.aload_n 0, 1) := by decide +kernel
theorem dX4_told_1 : decode cX4_told 1 = .ok (.aload_n 0, 1) := by decide +kernel
theorem dX4_told_2 : decode cX4_told 2 = .ok (.iload_n 1, 1) := by decide +kernel
theorem dX4_told_3 : decode cX4_told 3 = .ok (.invokevirtual 89, 3) := by decide +kernel
theorem dX4_told_6 : decode cX4_told 6 = .ok (.ifCond .ne 12, 3) := by decide +kernel
theorem dX4_told_9 : decode cX4_told 9 = .ok (.iload_n 2, 1) := by decide +kernel
theorem dX4_told_10 : decode cX4_told 10 = .ok (.ifCond .lt 8, 3) := by decide +kernel
theorem dX4_told_13 : decode cX4_told 13 = .ok (.iload_n 2, 1) := by decide +kernel
theorem dX4_told_14 : decode cX4_told 14 = .ok (.iconst 3, 1) := by decide +kernel
theorem dX4_told_15 : decode cX4_told 15 = .ok (.if_icmp .le 7, 3) := by decide +kernel
theorem dX4_told_18 : decode cX4_told 18 = .ok (.iconst 1, 1) := by decide +kernel
theorem dX4_told_19 : decode cX4_told 19 = .ok (.goto 4, 3) := by decide +kernel
theorem dX4_told_22 : decode cX4_told 22 = .ok (.iconst 0, 1) := by decide +kernel
theorem dX4_told_23 : decode cX4_told 23 = .ok (.putfield 64, 3) := by decide +kernel
theorem dX4_told_26 : decode cX4_told 26 = .ok (.aload_n 0, 1) := by decide +kernel
theorem dX4_told_27 : decode cX4_told 27 = .ok (.getfield 64, 3) := by decide +kernel
theorem dX4_told_30 : decode cX4_told 30 = .ok (.ifCond .le 5, 3) := by decide +kernel
theorem dX4_told_33 : decode cX4_told 33 = .ok (.iconst 0, 1) := by decide +kernel
theorem dX4_told_34 : decode cX4_told 34 = .ok (.ireturn, 1) := by decide +kernel
theorem dX4_told_35 : decode cX4_told 35 = .ok (.iload_n 2, 1) := by decide +kernel
theorem dX4_told_36 : decode cX4_told 36 = .ok (.ifCond .ne 12, 3) := by decide +kernel
theorem dX4_told_39 : decode cX4_told 39 = .ok (.aload_n 0, 1) := by decide +kernel
theorem dX4_told_40 : decode cX4_told 40 = .ok (.getfield 13, 3) := by decide +kernel
theorem dX4_told_43 : decode cX4_told 43 = .ok (.iload_n 1, 1) := by decide +kernel
theorem dX4_told_44 : decode cX4_told 44 = .ok (.iaload, 1) := by decide +kernel
theorem dX4_told_45 : decode cX4_told 45 = .ok (.goto 66, 3) := by decide +kernel
theorem dX4_told_48 : decode cX4_told 48 = .ok (.iload_n 2, 1) := by decide +kernel
theorem dX4_told_49 : decode cX4_told 49 = .ok (.iconst 1, 1) := by decide +kernel
theorem dX4_told_50 : decode cX4_told 50 = .ok (.if_icmp .ne 12, 3) := by decide +kernel
theorem dX4_told_53 : decode cX4_told 53 = .ok (.aload_n 0, 1) := by decide +kernel
theorem dX4_told_54 : decode cX4_told 54 = .ok (.getfield 17, 3) := by decide +kernel
theorem dX4_told_57 : decode cX4_told 57 = .ok (.iload_n 1, 1) := by decide +kernel
theorem dX4_told_58 : decode cX4_told 58 = .ok (.iaload, 1) := by decide +kernel
theorem dX4_told_59 : decode cX4_told 59 = .ok (.goto 52, 3) := by decide +kernel
theorem dX4_told_62 : decode cX4_told 62 = .ok (.iload_n 2, 1) := by decide +kernel
theorem dX4_told_63 : decode cX4_told 63 = .ok (.iconst 2, 1) := by decide +kernel
theorem dX4_told_64 : decode cX4_told 64 = .ok (.if_icmp .ne 20, 3) := by decide +kernel
theorem dX4_told_67 : decode cX4_told 67 = .ok (.aload_n 0, 1) := by decide +kernel
theorem dX4_told_68 : decode cX4_told 68 = .ok (.getfield 24, 3) := by decide +kernel
theorem dX4_told_71 : decode cX4_told 71 = .ok (.iload_n 1, 1) := by decide +kernel
theorem dX4_told_72 : decode cX4_told 72 = .ok (.baload, 1) := by decide +kernel
theorem dX4_told_73 : decode cX4_told 73 = .ok (.ifCond .eq 7, 3) := by decide +kernel
theorem dX4_told_76 : decode cX4_told 76 = .ok (.iconst 1, 1) := by decide +kernel
theorem dX4_told_77 : decode cX4_told 77 = .ok (.goto 34, 3) := by decide +kernel
theorem dX4_told_80 : decode cX4_told 80 = .ok (.iconst 0, 1) := by decide +kernel
theorem dX4_told_81 : decode cX4_told 81 = .ok (.goto 30, 3) := by decide +kernel
theorem dX4_told_84 : decode cX4_told 84 = .ok (.aload_n 0, 1) := by decide +kernel
theorem dX4_told_85 : decode cX4_told 85 = .ok (.getfield 74, 3) := by decide +kernel
theorem dX4_told_88 : decode cX4_told 88 = .ok (.ifCond .eq 22, 3) := by decide +kernel
theorem dX4_told_91 : decode cX4_told 91 = .ok (.aload_n 0, 1) := by decide +kernel
theorem dX4_told_92 : decode cX4_told 92 = .ok (.getfield 31, 3) := by decide +kernel
theorem dX4_told_95 : decode cX4_told 95 = .ok (.aload_n 0, 1) := by decide +kernel
theorem dX4_told_96 : decode cX4_told 96 = .ok (.getfield 17, 3) := by decide +kernel
theorem dX4_told_99 : decode cX4_told 99 = .ok (.iload_n 1, 1) := by decide +kernel
theorem dX4_told_100 : decode cX4_told 100 = .ok (.iaload, 1) := by decide +kernel
theorem dX4_told_101 : decode cX4_told 101 = .ok (.iaload, 1) := by decide +kernel
theorem dX4_told_102 : decode cX4_told 102 = .ok (.iload_n 1, 1) := by decide +kernel
theorem dX4_told_103 : decode cX4_told 103 = .ok (.if_icmp .ne 7, 3) := by decide +kernel
theorem dX4_told_106 : decode cX4_told 106 = .ok (.iconst 1, 1) := by decide +kernel
theorem dX4_told_107 : decode cX4_told 107 = .ok (.goto 4, 3) := by decide +kernel
theorem dX4_told_110 : decode cX4_told 110 = .ok (.iconst 0, 1) := by decide +kernel
theorem dX4_told_111 : decode cX4_told 111 = .ok (.ireturn, 1) := by decide +kernel
set_option maxRecDepth 20000 in
theorem ggX4_depth_X4_noNode : GoodIn wsX4_depth wsX4_noNode := goodIn_r _ [10, 11, 12, 13, 14, 15, 16, 17, 18, 19, 20, 21, 22, 23, 24, 25, 26, 27, 28, 29, 30, 31, 32, 33, 34, 35, 36] (by decide +kernel) (by decide +kernel)
set_option maxRecDepth 20000 in
theorem gX4_depth_X4_noNode : GoodIn wsX4_depth (wsV RX4 83 RX4 yX4_noNode wsX4_noNode) := goodIn_app (goodIn_of _ (by decide +kernel)) ggX4_depth_X4_noNode
theorem dX4_depth_0 : decode cX4_depth 0 = .ok (.aload_n 0, 1) := by decide +kernel
theorem dX4_depth_1 : decode cX4_depth 1 = .ok (.aload_n 0, 1) := by decide +kernel
theorem dX4_depth_2 : decode cX4_depth 2 = .ok (.iload_n 1, 1) := by decide +kernel
theorem dX4_depth_3 : decode cX4_depth 3 = .ok (.invokevirtual 83, 3) := by decide +kernel
theorem dX4_depth_6 : decode cX4_depth 6 = .ok (.ifCond .eq 7, 3) := by decide +kernel
theorem dX4_depth_9 : decode cX4_depth 9 = .ok (.iconst 1, 1) := by decide +kernel
theorem dX4_depth_10 : decode cX4_depth 10 = .ok (.goto 4, 3) := by decide +kernel
theorem dX4_depth_13 : decode cX4_depth 13 = .ok (.iconst 0, 1) := by decide +kernel
theorem dX4_depth_14 : decode cX4_depth 14 = .ok (.putfield 64, 3) := by decide +kernel
theorem dX4_depth_17 : decode cX4_depth 17 = .ok (.aload_n 0, 1) := by decide +kernel
theorem dX4_depth_18 : decode cX4_depth 18 = .ok (.getfield 64, 3) := by decide +kernel
theorem dX4_depth_21 : decode cX4_depth 21 = .ok (.ifCond .le 5, 3) := by decide +kernel
theorem dX4_depth_24 : decode cX4_depth 24 = .ok (.iconst 0, 1) := by decide +kernel
theorem dX4_depth_25 : decode cX4_depth 25 = .ok (.ireturn, 1) := by decide +kernel
theorem dX4_depth_26 : decode cX4_depth 26 = .ok (.iconst 0, 1) := by decide +kernel
theorem dX4_depth_27 : decode cX4_depth 27 = .ok (.istore_n 2, 1) := by decide +kernel
theorem dX4_depth_28 : decode cX4_depth 28 = .ok (.iload_n 1, 1) := by decide +kernel
theorem dX4_depth_29 : decode cX4_depth 29 = .ok (.istore_n 3, 1) := by decide +kernel
theorem dX4_depth_30 : decode cX4_depth 30 = .ok (.aload_n 0, 1) := by decide +kernel
theorem dX4_depth_31 : decode cX4_depth 31 = .ok (.getfield 74, 3) := by decide +kernel
theorem dX4_depth_34 : decode cX4_depth 34 = .ok (.ifCond .eq 29, 3) := by decide +kernel
theorem dX4_depth_37 : decode cX4_depth 37 = .ok (.iload_n 3, 1) := by decide +kernel
theorem dX4_depth_38 : decode cX4_depth 38 = .ok (.aload_n 0, 1) := by decide +kernel
theorem dX4_depth_39 : decode cX4_depth 39 = .ok (.getfield 61, 3) := by decide +kernel
theorem dX4_depth_42 : decode cX4_depth 42 = .ok (.if_icmp .eq 21, 3) := by decide +kernel
theorem dX4_depth_45 : decode cX4_depth 45 = .ok (.iinc 2 1, 3) := by decide +kernel
theorem dX4_depth_48 : decode cX4_depth 48 = .ok (.aload_n 0, 1) := by decide +kernel
theorem dX4_depth_49 : decode cX4_depth 49 = .ok (.getfield 13, 3) := by decide +kernel
theorem dX4_depth_52 : decode cX4_depth 52 = .ok (.aload_n 0, 1) := by decide +kernel
theorem dX4_depth_53 : decode cX4_depth 53 = .ok (.getfield 31, 3) := by decide +kernel
theorem dX4_depth_56 : decode cX4_depth 56 = .ok (.iload_n 3, 1) := by decide +kernel
theorem dX4_depth_57 : decode cX4_depth 57 = .ok (.iaload, 1) := by decide +kernel
theorem dX4_depth_58 : decode cX4_depth 58 = .ok (.iaload, 1) := by decide +kernel
theorem dX4_depth_59 : decode cX4_depth 59 = .ok (.istore_n 3, 1) := by decide +kernel
theorem dX4_depth_60 : decode cX4_depth 60 = .ok (.goto (-30), 3) := by decide +kernel
theorem dX4_depth_63 : decode cX4_depth 63 = .ok (.aload_n 0, 1) := by decide +kernel
theorem dX4_depth_64 : decode cX4_depth 64 = .ok (.getfield 74, 3) := by decide +kernel
theorem dX4_depth_67 : decode cX4_depth 67 = .ok (.ifCond .eq 7, 3) := by decide +kernel
theorem dX4_depth_70 : decode cX4_depth 70 = .ok (.iload_n 2, 1) := by decide +kernel
theorem dX4_depth_71 : decode cX4_depth 71 = .ok (.goto 4, 3) := by decide +kernel
theorem dX4_depth_74 : decode cX4_depth 74 = .ok (.iconst (-1), 1) := by decide +kernel
theorem dX4_depth_75 : decode cX4_depth 75 = .ok (.ireturn, 1) := by decide +kernel
set_option maxRecDepth 20000 in
theorem ggX4_far_X4_noNode : GoodIn wsX4_far wsX4_noNode := goodIn_r _ [12, 13, 14, 15, 16, 17, 18, 19, 20, 21, 22, 23, 24, 25, 26, 27, 28, 29, 30, 31, 32, 33, 34, 35, 36, 37, 38] (by decide +kernel) (by decide +kernel)
set_option maxRecDepth 20000 in
theorem gX4_far_X4_noNode : GoodIn wsX4_far (wsV RX4 83 RX4 yX4_noNode wsX4_noNode) := goodIn_app (goodIn_of _ (by decide +kernel)) ggX4_far_X4_noNode
theorem dX4_far_0 : decode cX4_far 0 = .ok (.aload_n 0, 1) := by decide +kernel
theorem dX4_far_1 : decode cX4_far 1 = .ok (.aload_n 0, 1) := by decide +kernel
theorem dX4_far_2 : decode cX4_far 2 = .ok (.iload_n 1, 1) := by decide +kernel
theorem dX4_far_3 : decode cX4_far 3 = .ok (.invokevirtual 83, 3) := by decide +kernel
theorem dX4_far_6 : decode cX4_far 6 = .ok (.ifCond .eq 7, 3) := by decide +kernel
theorem dX4_far_9 : decode cX4_far 9 = .ok (.iconst 1, 1) := by decide +kernel
theorem dX4_far_10 : decode cX4_far 10 = .ok (.goto 4, 3) := by decide +kernel
theorem dX4_far_13 : decode cX4_far 13 = .ok (.iconst 0, 1) := by decide +kernel
theorem dX4_far_14 : decode cX4_far 14 = .ok (.putfield 64, 3) := by decide +kernel
theorem dX4_far_17 : decode cX4_far 17 = .ok (.aload_n 0, 1) := by decide +kernel
theorem dX4_far_18 : decode cX4_far 18 = .ok (.getfield 64, 3) := by decide +kernel
theorem dX4_far_21 : decode cX4_far 21 = .ok (.ifCond .le 5, 3) := by decide +kernel
theorem dX4_far_24 : decode cX4_far 24 = .ok (.lconst 0, 1) := by decide +kernel
theorem dX4_far_25 : decode cX4_far 25 = .ok (.lreturn, 1) := by decide +kernel
theorem dX4_far_26 : decode cX4_far 26 = .ok (.lconst 0, 1) := by decide +kernel
theorem dX4_far_27 : decode cX4_far 27 = .ok (.lstore_n 2, 1) := by decide +kernel
theorem dX4_far_28 : decode cX4_far 28 = .ok (.iload_n 1, 1) := by decide +kernel
theorem dX4_far_29 : decode cX4_far 29 = .ok (.istore 4, 2) := by decide +kernel
theorem dX4_far_31 : decode cX4_far 31 = .ok (.aload_n 0, 1) := by decide +kernel
theorem dX4_far_32 : decode cX4_far 32 = .ok (.getfield 74, 3) := by decide +kernel
theorem dX4_far_35 : decode cX4_far 35 = .ok (.ifCond .eq 44, 3) := by decide +kernel
theorem dX4_far_38 : decode cX4_far 38 = .ok (.iload 4, 2) := by decide +kernel
theorem dX4_far_40 : decode cX4_far 40 = .ok (.aload_n 0, 1) := by decide +kernel
theorem dX4_far_41 : decode cX4_far 41 = .ok (.getfield 61, 3) := by decide +kernel
theorem dX4_far_44 : decode cX4_far 44 = .ok (.if_icmp .eq 35, 3) := by decide +kernel
theorem dX4_far_47 : decode cX4_far 47 = .ok (.lload_n 2, 1) := by decide +kernel
theorem dX4_far_48 : decode cX4_far 48 = .ok (.aload_n 0, 1) := by decide +kernel
theorem dX4_far_49 : decode cX4_far 49 = .ok (.getfield 20, 3) := by decide +kernel
theorem dX4_far_52 : decode cX4_far 52 = .ok (.aload_n 0, 1) := by decide +kernel
theorem dX4_far_53 : decode cX4_far 53 = .ok (.getfield 31, 3) := by decide +kernel
theorem dX4_far_56 : decode cX4_far 56 = .ok (.iload 4, 2) := by decide +kernel
theorem dX4_far_58 : decode cX4_far 58 = .ok (.iaload, 1) := by decide +kernel
theorem dX4_far_59 : decode cX4_far 59 = .ok (.laload, 1) := by decide +kernel
theorem dX4_far_60 : decode cX4_far 60 = .ok (.ladd, 1) := by decide +kernel
theorem dX4_far_61 : decode cX4_far 61 = .ok (.lstore_n 2, 1) := by decide +kernel
theorem dX4_far_62 : decode cX4_far 62 = .ok (.aload_n 0, 1) := by decide +kernel
theorem dX4_far_63 : decode cX4_far 63 = .ok (.getfield 13, 3) := by decide +kernel
theorem dX4_far_66 : decode cX4_far 66 = .ok (.aload_n 0, 1) := by decide +kernel
theorem dX4_far_67 : decode cX4_far 67 = .ok (.getfield 31, 3) := by decide +kernel
theorem dX4_far_70 : decode cX4_far 70 = .ok (.iload 4, 2) := by decide +kernel
theorem dX4_far_72 : decode cX4_far 72 = .ok (.iaload, 1) := by decide +kernel
theorem dX4_far_73 : decode cX4_far 73 = .ok (.iaload, 1) := by decide +kernel
theorem dX4_far_74 : decode cX4_far 74 = .ok (.istore 4, 2) := by decide +kernel
theorem dX4_far_76 : decode cX4_far 76 = .ok (.goto (-45), 3) := by decide +kernel
theorem dX4_far_79 : decode cX4_far 79 = .ok (.aload_n 0, 1) := by decide +kernel
theorem dX4_far_80 : decode cX4_far 80 = .ok (.getfield 74, 3) := by decide +kernel
theorem dX4_far_83 : decode cX4_far 83 = .ok (.ifCond .eq 7, 3) := by decide +kernel
theorem dX4_far_86 : decode cX4_far 86 = .ok (.lload_n 2, 1) := by decide +kernel
theorem dX4_far_87 : decode cX4_far 87 = .ok (.goto 6, 3) := by decide +kernel
theorem dX4_far_90 : decode cX4_far 90 = .ok (.ldc2_w 146, 3) := by decide +kernel
theorem dX4_far_93 : decode cX4_far 93 = .ok (.lreturn, 1) := by decide +kernel
theorem dJ6_bitCount_0f7a4_0 : decode cJ6_bitCount_0f7a4 0 = .ok (.iload_n 0, 1) := by decide +kernel
theorem dJ6_bitCount_0f7a4_1 : decode cJ6_bitCount_0f7a4 1 = .ok (.iload_n 0, 1) := by decide +kernel
theorem dJ6_bitCount_0f7a4_2 : decode cJ6_bitCount_0f7a4 2 = .ok (.iconst 1, 1) := by decide +kernel
theorem dJ6_bitCount_0f7a4_3 : decode cJ6_bitCount_0f7a4 3 = .ok (.iushr, 1) := by decide +kernel
theorem dJ6_bitCount_0f7a4_4 : decode cJ6_bitCount_0f7a4 4 = .ok (.ldc_w 265, 3) := by decide +kernel
theorem dJ6_bitCount_0f7a4_7 : decode cJ6_bitCount_0f7a4 7 = .ok (.iand, 1) := by decide +kernel
theorem dJ6_bitCount_0f7a4_8 : decode cJ6_bitCount_0f7a4 8 = .ok (.isub, 1) := by decide +kernel
theorem dJ6_bitCount_0f7a4_9 : decode cJ6_bitCount_0f7a4 9 = .ok (.istore_n 0, 1) := by decide +kernel
theorem dJ6_bitCount_0f7a4_10 : decode cJ6_bitCount_0f7a4 10 = .ok (.iload_n 0, 1) := by decide +kernel
theorem dJ6_bitCount_0f7a4_11 : decode cJ6_bitCount_0f7a4 11 = .ok (.ldc_w 266, 3) := by decide +kernel
theorem dJ6_bitCount_0f7a4_14 : decode cJ6_bitCount_0f7a4 14 = .ok (.iand, 1) := by decide +kernel
theorem dJ6_bitCount_0f7a4_15 : decode cJ6_bitCount_0f7a4 15 = .ok (.iload_n 0, 1) := by decide +kernel
theorem dJ6_bitCount_0f7a4_16 : decode cJ6_bitCount_0f7a4 16 = .ok (.iconst 2, 1) := by decide +kernel
theorem dJ6_bitCount_0f7a4_17 : decode cJ6_bitCount_0f7a4 17 = .ok (.iushr, 1) := by decide +kernel
theorem dJ6_bitCount_0f7a4_18 : decode cJ6_bitCount_0f7a4 18 = .ok (.ldc_w 266, 3) := by decide +kernel
theorem dJ6_bitCount_0f7a4_21 : decode cJ6_bitCount_0f7a4 21 = .ok (.iand, 1) := by decide +kernel
theorem dJ6_bitCount_0f7a4_22 : decode cJ6_bitCount_0f7a4 22 = .ok (.iadd, 1) := by decide +kernel
theorem dJ6_bitCount_0f7a4_23 : decode cJ6_bitCount_0f7a4 23 = .ok (.istore_n 0, 1) := by decide +kernel
theorem dJ6_bitCount_0f7a4_24 : decode cJ6_bitCount_0f7a4 24 = .ok (.iload_n 0, 1) := by decide +kernel
theorem dJ6_bitCount_0f7a4_25 : decode cJ6_bitCount_0f7a4 25 = .ok (.iload_n 0, 1) := by decide +kernel
theorem dJ6_bitCount_0f7a4_26 : decode cJ6_bitCount_0f7a4 26 = .ok (.iconst 4, 1) := by decide +kernel
theorem dJ6_bitCount_0f7a4_27 : decode cJ6_bitCount_0f7a4 27 = .ok (.iushr, 1) := by decide +kernel
theorem dJ6_bitCount_0f7a4_28 : decode cJ6_bitCount_0f7a4 28 = .ok (.iadd, 1) := by decide +kernel
theorem dJ6_bitCount_0f7a4_29 : decode cJ6_bitCount_0f7a4 29 = .ok (.ldc_w 267, 3) := by decide +kernel
theorem dJ6_bitCount_0f7a4_32 : decode cJ6_bitCount_0f7a4 32 = .ok (.iand, 1) := by decide +kernel
theorem dJ6_bitCount_0f7a4_33 : decode cJ6_bitCount_0f7a4 33 = .ok (.istore_n 0, 1) := by decide +kernel
theorem dJ6_bitCount_0f7a4_34 : decode cJ6_bitCount_0f7a4 34 = .ok (.iload_n 0, 1) := by decide +kernel
theorem dJ6_bitCount_0f7a4_35 : decode cJ6_bitCount_0f7a4 35 = .ok (.iload_n 0, 1) := by decide +kernel
theorem dJ6_bitCount_0f7a4_36 : decode cJ6_bitCount_0f7a4 36 = .ok (.bipush 8, 2) := by decide +kernel
theorem dJ6_bitCount_0f7a4_38 : decode cJ6_bitCount_0f7a4 38 = .ok (.iushr, 1) := by decide +kernel
theorem dJ6_bitCount_0f7a4_39 : decode cJ6_bitCount_0f7a4 39 = .ok (.iadd, 1) := by decide +kernel
theorem dJ6_bitCount_0f7a4_40 : decode cJ6_bitCount_0f7a4 40 = .ok (.istore_n 0, 1) := by decide +kernel
theorem dJ6_bitCount_0f7a4_41 : decode cJ6_bitCount_0f7a4 41 = .ok (.iload_n 0, 1) := by decide +kernel
theorem dJ6_bitCount_0f7a4_42 : decode cJ6_bitCount_0f7a4 42 = .ok (.iload_n 0, 1) := by decide +kernel
theorem dJ6_bitCount_0f7a4_43 : decode cJ6_bitCount_0f7a4 43 = .ok (.bipush 16, 2) := by decide +kernel
theorem dJ6_bitCount_0f7a4_45 : decode cJ6_bitCount_0f7a4 45 = .ok (.iushr, 1) := by decide +kernel
theorem dJ6_bitCount_0f7a4_46 : decode cJ6_bitCount_0f7a4 46 = .ok (.iadd, 1) := by decide +kernel
theorem dJ6_bitCount_0f7a4_47 : decode cJ6_bitCount_0f7a4 47 = .ok (.istore_n 0, 1) := by decide +kernel
theorem dJ6_bitCount_0f7a4_48 : decode cJ6_bitCount_0f7a4 48 = .ok (.iload_n 0, 1) := by decide +kernel
theorem dJ6_bitCount_0f7a4_49 : decode cJ6_bitCount_0f7a4 49 = .ok (.bipush 63, 2) := by decide +kernel
theorem dJ6_bitCount_0f7a4_51 : decode cJ6_bitCount_0f7a4 51 = .ok (.iand, 1) := by decide +kernel
theorem dJ6_bitCount_0f7a4_52 : decode cJ6_bitCount_0f7a4 52 = .ok (.ireturn, 1) := by decide +kernel
theorem dJ7_fill_d0a16_0 : decode cJ7_fill_d0a16 0 = .ok (.iconst 0, 1) := by decide +kernel
theorem dJ7_fill_d0a16_1 : decode cJ7_fill_d0a16 1 = .ok (.istore_n 3, 1) := by decide +kernel
theorem dJ7_fill_d0a16_2 : decode cJ7_fill_d0a16 2 = .ok (.aload_n 0, 1) := by decide +kernel
theorem dJ7_fill_d0a16_3 : decode cJ7_fill_d0a16 3 = .ok (.arraylength, 1) := by decide +kernel
theorem dJ7_fill_d0a16_4 : decode cJ7_fill_d0a16 4 = .ok (.istore 4, 2) := by decide +kernel
theorem dJ7_fill_d0a16_6 : decode cJ7_fill_d0a16 6 = .ok (.iload_n 3, 1) := by decide +kernel
theorem dJ7_fill_d0a16_7 : decode cJ7_fill_d0a16 7 = .ok (.iload 4, 2) := by decide +kernel
theorem dJ7_fill_d0a16_9 : decode cJ7_fill_d0a16 9 = .ok (.if_icmp .ge 13, 3) := by decide +kernel
theorem dJ7_fill_d0a16_12 : decode cJ7_fill_d0a16 12 = .ok (.aload_n 0, 1) := by decide +kernel
theorem dJ7_fill_d0a16_13 : decode cJ7_fill_d0a16 13 = .ok (.iload_n 3, 1) := by decide +kernel
theorem dJ7_fill_d0a16_14 : decode cJ7_fill_d0a16 14 = .ok (.lload_n 1, 1) := by decide +kernel
theorem dJ7_fill_d0a16_15 : decode cJ7_fill_d0a16 15 = .ok (.lastore, 1) := by decide +kernel
theorem dJ7_fill_d0a16_16 : decode cJ7_fill_d0a16 16 = .ok (.iinc 3 1, 3) := by decide +kernel
theorem dJ7_fill_d0a16_19 : decode cJ7_fill_d0a16 19 = .ok (.goto (-13), 3) := by decide +kernel
theorem dJ7_fill_d0a16_22 : decode cJ7_fill_d0a16 22 = .ok (.return_, 1) := by decide +kernel
theorem dJ7_fill_53178_0 : decode cJ7_fill_53178 0 = .ok (.iconst 0, 1) := by decide +kernel
theorem dJ7_fill_53178_1 : decode cJ7_fill_53178 1 = .ok (.istore_n 2, 1) := by decide +kernel
theorem dJ7_fill_53178_2 : decode cJ7_fill_53178 2 = .ok (.aload_n 0, 1) := by decide +kernel
theorem dJ7_fill_53178_3 : decode cJ7_fill_53178 3 = .ok (.arraylength, 1) := by decide +kernel
theorem dJ7_fill_53178_4 : decode cJ7_fill_53178 4 = .ok (.istore_n 3, 1) := by decide +kernel
theorem dJ7_fill_53178_5 : decode cJ7_fill_53178 5 = .ok (.iload_n 2, 1) := by decide +kernel
theorem dJ7_fill_53178_6 : decode cJ7_fill_53178 6 = .ok (.iload_n 3, 1) := by decide +kernel
theorem dJ7_fill_53178_7 : decode cJ7_fill_53178 7 = .ok (.if_icmp .ge 13, 3) := by decide +kernel
theorem dJ7_fill_53178_10 : decode cJ7_fill_53178 10 = .ok (.aload_n 0, 1) := by decide +kernel
theorem dJ7_fill_53178_11 : decode cJ7_fill_53178 11 = .ok (.iload_n 2, 1) := by decide +kernel
theorem dJ7_fill_53178_12 : decode cJ7_fill_53178 12 = .ok (.iload_n 1, 1) := by decide +kernel
theorem dJ7_fill_53178_13 : decode cJ7_fill_53178 13 = .ok (.iastore, 1) := by decide +kernel
theorem dJ7_fill_53178_14 : decode cJ7_fill_53178 14 = .ok (.iinc 2 1, 3) := by decide +kernel
theorem dJ7_fill_53178_17 : decode cJ7_fill_53178 17 = .ok (.goto (-12), 3) := by decide +kernel
theorem dJ7_fill_53178_20 : decode cJ7_fill_53178 20 = .ok (.return_, 1) := by decide +kernel
set_option maxRecDepth 20000 in
theorem ggL_nodes_X3_nodes : GoodIn wsL_nodes wsX3_nodes := goodIn_ca (goodIn_r _ [6, 7, 8, 9, 10, 11, 12, 13, 14, 15, 5, 16, 17, 18, 19, 20, 21, 22, 23, 24, 25, 26, 27, 28, 29, 30] (by decide +kernel) (by decide +kernel)) (goodIn_sub (fun _ h => List.mem_cons_of_mem _ (List.mem_append_right _ h)) (by decide +kernel))
set_option maxRecDepth 20000 in
theorem gL_nodes_X3_nodes : GoodIn wsL_nodes (wsV RL 7 RX3 yX3_nodes wsX3_nodes) := goodIn_app (goodIn_of _ (by decide +kernel)) ggL_nodes_X3_nodes
theorem dL_nodes_0 : decode cL_nodes 0 = .ok (.aload_n 0, 1) := by decide +kernel
theorem dL_nodes_1 : decode cL_nodes 1 = .ok (.iload_n 1, 1) := by decide +kernel
theorem dL_nodes_2 : decode cL_nodes 2 = .ok (.iload_n 2, 1) := by decide +kernel
theorem dL_nodes_3 : decode cL_nodes 3 = .ok (.invokevirtual 7, 3) := by decide +kernel
theorem dL_nodes_6 : decode cL_nodes 6 = .ok (.goto 6, 3) := by decide +kernel
theorem dL_nodes_9 : decode cL_nodes 9 = .ok (.astore_n 3, 1) := by decide +kernel
theorem dL_nodes_10 : decode cL_nodes 10 = .ok (.iconst 1, 1) := by decide +kernel
theorem dL_nodes_11 : decode cL_nodes 11 = .ok (.ireturn, 1) := by decide +kernel
theorem dL_nodes_12 : decode cL_nodes 12 = .ok (.iconst 0, 1) := by decide +kernel
theorem dL_nodes_13 : decode cL_nodes 13 = .ok (.ireturn, 1) := by decide +kernel
set_option maxRecDepth 20000 in
theorem ggL_arc_X3_arc : GoodIn wsL_arc wsX3_arc := goodIn_ca (goodIn_ca (goodIn_r _ [7, 8, 9, 10, 11, 12, 13, 6, 14, 15, 16, 17, 18, 19, 20, 21, 22, 23, 24, 25, 26, 27, 28, 29, 30, 31, 32, 33, 34, 35, 36, 37, 38, 39, 40, 41, 42, 43, 44, 45, 46, 47, 48, 49, 50, 51, 52, 53] (by decide +kernel) (by decide +kernel)) (goodIn_sub (fun _ h => List.mem_cons_of_mem _ (List.mem_append_left _ (List.mem_append_right _ h))) (by decide +kernel))) (goodIn_sub (fun _ h => List.mem_cons_of_mem _ (List.mem_append_right _ h)) (by decide +kernel))
set_option maxRecDepth 20000 in
theorem gL_arc_X3_arc : GoodIn wsL_arc (wsV RL 15 RX3 yX3_arc wsX3_arc) := goodIn_app (goodIn_of _ (by decide +kernel)) ggL_arc_X3_arc
theorem dL_arc_0 : decode cL_arc 0 = .ok (.aload 5, 2) := by decide +kernel
theorem dL_arc_2 : decode cL_arc 2 = .ok (.iconst 0, 1) := by decide +kernel
theorem dL_arc_3 : decode cL_arc 3 = .ok (.aload_n 0, 1) := by decide +kernel
theorem dL_arc_4 : decode cL_arc 4 = .ok (.iload_n 1, 1) := by decide +kernel
theorem dL_arc_5 : decode cL_arc 5 = .ok (.iload_n 2, 1) := by decide +kernel
theorem dL_arc_6 : decode cL_arc 6 = .ok (.lload_n 3, 1) := by decide +kernel
theorem dL_arc_7 : decode cL_arc 7 = .ok (.invokevirtual 15, 3) := by decide +kernel
theorem dL_arc_10 : decode cL_arc 10 = .ok (.i2l, 1) := by decide +kernel
theorem dL_arc_11 : decode cL_arc 11 = .ok (.lastore, 1) := by decide +kernel
theorem dL_arc_12 : decode cL_arc 12 = .ok (.goto 11, 3) := by decide +kernel
theorem dL_arc_15 : decode cL_arc 15 = .ok (.astore 6, 2) := by decide +kernel
theorem dL_arc_17 : decode cL_arc 17 = .ok (.iconst 1, 1) := by decide +kernel
theorem dL_arc_18 : decode cL_arc 18 = .ok (.ireturn, 1) := by decide +kernel
theorem dL_arc_19 : decode cL_arc 19 = .ok (.astore 6, 2) := by decide +kernel
theorem dL_arc_21 : decode cL_arc 21 = .ok (.iconst 2, 1) := by decide +kernel
theorem dL_arc_22 : decode cL_arc 22 = .ok (.ireturn, 1) := by decide +kernel
theorem dL_arc_23 : decode cL_arc 23 = .ok (.iconst 0, 1) := by decide +kernel
theorem dL_arc_24 : decode cL_arc 24 = .ok (.ireturn, 1) := by decide +kernel
set_option maxRecDepth 20000 in
theorem ggL_weigh_X3_weigh : GoodIn wsL_weigh wsX3_weigh := goodIn_ca (goodIn_ca (goodIn_r _ [7, 8, 9, 10, 11, 12, 6, 13, 14, 15, 16, 17, 18, 19, 20, 21, 22, 23, 24, 25, 26, 27, 28, 29, 30, 31, 32, 33, 34, 35, 36, 37, 38, 39, 40, 41, 42, 43, 44, 45] (by decide +kernel) (by decide +kernel)) (goodIn_sub (fun _ h => List.mem_cons_of_mem _ (List.mem_append_left _ (List.mem_append_right _ h))) (by decide +kernel))) (goodIn_sub (fun _ h => List.mem_cons_of_mem _ (List.mem_append_right _ h)) (by decide +kernel))
set_option maxRecDepth 20000 in
theorem gL_weigh_X3_weigh : GoodIn wsL_weigh (wsV RL 21 RX3 yX3_weigh wsX3_weigh) := goodIn_app (goodIn_of _ (by decide +kernel)) ggL_weigh_X3_weigh
theorem dL_weigh_0 : decode cL_weigh 0 = .ok (.aload 4, 2) := by decide +kernel
theorem dL_weigh_2 : decode cL_weigh 2 = .ok (.iconst 0, 1) := by decide +kernel
theorem dL_weigh_3 : decode cL_weigh 3 = .ok (.aload_n 0, 1) := by decide +kernel
theorem dL_weigh_4 : decode cL_weigh 4 = .ok (.iload_n 1, 1) := by decide +kernel
theorem dL_weigh_5 : decode cL_weigh 5 = .ok (.lload_n 2, 1) := by decide +kernel
theorem dL_weigh_6 : decode cL_weigh 6 = .ok (.invokevirtual 21, 3) := by decide +kernel
theorem dL_weigh_9 : decode cL_weigh 9 = .ok (.lastore, 1) := by decide +kernel
theorem dL_weigh_10 : decode cL_weigh 10 = .ok (.goto 11, 3) := by decide +kernel
theorem dL_weigh_13 : decode cL_weigh 13 = .ok (.astore 5, 2) := by decide +kernel
theorem dL_weigh_15 : decode cL_weigh 15 = .ok (.iconst 1, 1) := by decide +kernel
theorem dL_weigh_16 : decode cL_weigh 16 = .ok (.ireturn, 1) := by decide +kernel
theorem dL_weigh_17 : decode cL_weigh 17 = .ok (.astore 5, 2) := by decide +kernel
theorem dL_weigh_19 : decode cL_weigh 19 = .ok (.iconst 2, 1) := by decide +kernel
theorem dL_weigh_20 : decode cL_weigh 20 = .ok (.ireturn, 1) := by decide +kernel
theorem dL_weigh_21 : decode cL_weigh 21 = .ok (.iconst 0, 1) := by decide +kernel
theorem dL_weigh_22 : decode cL_weigh 22 = .ok (.ireturn, 1) := by decide +kernel
set_option maxRecDepth 20000 in
theorem ggL_open_X3_open : GoodIn wsL_open wsX3_open := goodIn_ca (goodIn_r _ [6, 7, 8, 9, 10, 11, 5, 12, 13, 14, 15, 16, 17, 18, 19, 20, 21, 22, 23, 24, 25, 26, 27, 28, 29, 30, 31, 32, 33, 34, 35, 36, 37, 38] (by decide +kernel) (by decide +kernel)) (goodIn_sub (fun _ h => List.mem_cons_of_mem _ (List.mem_append_right _ h)) (by decide +kernel))
set_option maxRecDepth 20000 in
theorem gL_open_X3_open : GoodIn wsL_open (wsV RL 25 RX3 yX3_open wsX3_open) := goodIn_app (goodIn_of _ (by decide +kernel)) ggL_open_X3_open
theorem dL_open_0 : decode cL_open 0 = .ok (.aload_n 3, 1) := by decide +kernel
theorem dL_open_1 : decode cL_open 1 = .ok (.iconst 0, 1) := by decide +kernel
theorem dL_open_2 : decode cL_open 2 = .ok (.aload_n 0, 1) := by decide +kernel
theorem dL_open_3 : decode cL_open 3 = .ok (.iload_n 1, 1) := by decide +kernel
theorem dL_open_4 : decode cL_open 4 = .ok (.iload_n 2, 1) := by decide +kernel
theorem dL_open_5 : decode cL_open 5 = .ok (.invokevirtual 25, 3) := by decide +kernel
theorem dL_open_8 : decode cL_open 8 = .ok (.ifCond .eq 7, 3) := by decide +kernel
theorem dL_open_11 : decode cL_open 11 = .ok (.lconst 1, 1) := by decide +kernel
theorem dL_open_12 : decode cL_open 12 = .ok (.goto 4, 3) := by decide +kernel
theorem dL_open_15 : decode cL_open 15 = .ok (.lconst 0, 1) := by decide +kernel
theorem dL_open_16 : decode cL_open 16 = .ok (.lastore, 1) := by decide +kernel
theorem dL_open_17 : decode cL_open 17 = .ok (.goto 7, 3) := by decide +kernel
theorem dL_open_20 : decode cL_open 20 = .ok (.astore 4, 2) := by decide +kernel
theorem dL_open_22 : decode cL_open 22 = .ok (.iconst 1, 1) := by decide +kernel
theorem dL_open_23 : decode cL_open 23 = .ok (.ireturn, 1) := by decide +kernel
theorem dL_open_24 : decode cL_open 24 = .ok (.iconst 0, 1) := by decide +kernel
theorem dL_open_25 : decode cL_open 25 = .ok (.ireturn, 1) := by decide +kernel
set_option maxRecDepth 20000 in
theorem ggL_into_X3_into : GoodIn wsL_into wsX3_into := goodIn_ca (goodIn_r _ [6, 7, 8, 9, 10, 11, 12, 5, 13, 14, 15, 16, 17, 18, 19, 20, 21, 22, 23, 24, 25, 26, 27, 28, 29, 30, 31, 32, 33, 34, 35, 36, 37] (by decide +kernel) (by decide +kernel)) (goodIn_sub (fun _ h => List.mem_cons_of_mem _ (List.mem_append_right _ h)) (by decide +kernel))
set_option maxRecDepth 20000 in
theorem gL_into_X3_into : GoodIn wsL_into (wsV RL 29 RX3 yX3_into wsX3_into) := goodIn_app (goodIn_of _ (by decide +kernel)) ggL_into_X3_into
theorem dL_into_0 : decode cL_into 0 = .ok (.aload_n 2, 1) := by decide +kernel
theorem dL_into_1 : decode cL_into 1 = .ok (.iconst 0, 1) := by decide +kernel
theorem dL_into_2 : decode cL_into 2 = .ok (.aload_n 0, 1) := by decide +kernel
theorem dL_into_3 : decode cL_into 3 = .ok (.iload_n 1, 1) := by decide +kernel
theorem dL_into_4 : decode cL_into 4 = .ok (.invokevirtual 29, 3) := by decide +kernel
theorem dL_into_7 : decode cL_into 7 = .ok (.i2l, 1) := by decide +kernel
theorem dL_into_8 : decode cL_into 8 = .ok (.lastore, 1) := by decide +kernel
theorem dL_into_9 : decode cL_into 9 = .ok (.goto 6, 3) := by decide +kernel
theorem dL_into_12 : decode cL_into 12 = .ok (.astore_n 3, 1) := by decide +kernel
theorem dL_into_13 : decode cL_into 13 = .ok (.iconst 1, 1) := by decide +kernel
theorem dL_into_14 : decode cL_into 14 = .ok (.ireturn, 1) := by decide +kernel
theorem dL_into_15 : decode cL_into 15 = .ok (.iconst 0, 1) := by decide +kernel
theorem dL_into_16 : decode cL_into 16 = .ok (.ireturn, 1) := by decide +kernel
set_option maxRecDepth 20000 in
theorem ggL_isReached_X3_isReached : GoodIn wsL_isReached wsX3_isReached := goodIn_ca (goodIn_r _ [6, 7, 8, 9, 10, 5, 11, 12, 13, 14, 15, 16, 17, 18, 19, 20, 21, 22, 23, 24, 25, 26, 27, 28, 29, 30, 31, 32, 33, 34, 35, 36, 37, 38, 39, 40, 41, 42, 43, 44, 45, 46, 47] (by decide +kernel) (by decide +kernel)) (goodIn_sub (fun _ h => List.mem_cons_of_mem _ (List.mem_append_right _ h)) (by decide +kernel))
set_option maxRecDepth 20000 in
theorem gL_isReached_X3_isReached : GoodIn wsL_isReached (wsV RL 33 RX3 yX3_isReached wsX3_isReached) := goodIn_app (goodIn_of _ (by decide +kernel)) ggL_isReached_X3_isReached
theorem dL_isReached_0 : decode cL_isReached 0 = .ok (.aload_n 2, 1) := by decide +kernel
theorem dL_isReached_1 : decode cL_isReached 1 = .ok (.iconst 0, 1) := by decide +kernel
theorem dL_isReached_2 : decode cL_isReached 2 = .ok (.aload_n 0, 1) := by decide +kernel
theorem dL_isReached_3 : decode cL_isReached 3 = .ok (.iload_n 1, 1) := by decide +kernel
theorem dL_isReached_4 : decode cL_isReached 4 = .ok (.invokevirtual 33, 3) := by decide +kernel
theorem dL_isReached_7 : decode cL_isReached 7 = .ok (.ifCond .eq 7, 3) := by decide +kernel
theorem dL_isReached_10 : decode cL_isReached 10 = .ok (.lconst 1, 1) := by decide +kernel
theorem dL_isReached_11 : decode cL_isReached 11 = .ok (.goto 4, 3) := by decide +kernel
theorem dL_isReached_14 : decode cL_isReached 14 = .ok (.lconst 0, 1) := by decide +kernel
theorem dL_isReached_15 : decode cL_isReached 15 = .ok (.lastore, 1) := by decide +kernel
theorem dL_isReached_16 : decode cL_isReached 16 = .ok (.goto 6, 3) := by decide +kernel
theorem dL_isReached_19 : decode cL_isReached 19 = .ok (.astore_n 3, 1) := by decide +kernel
theorem dL_isReached_20 : decode cL_isReached 20 = .ok (.iconst 1, 1) := by decide +kernel
theorem dL_isReached_21 : decode cL_isReached 21 = .ok (.ireturn, 1) := by decide +kernel
theorem dL_isReached_22 : decode cL_isReached 22 = .ok (.iconst 0, 1) := by decide +kernel
theorem dL_isReached_23 : decode cL_isReached 23 = .ok (.ireturn, 1) := by decide +kernel
set_option maxRecDepth 20000 in
theorem ggL_set_X3_set : GoodIn wsL_set wsX3_set := goodIn_ca (goodIn_r _ [6, 7, 8, 9, 10, 11, 12, 13, 14, 15, 16, 5, 17, 18, 19, 20, 21, 22, 23, 24, 25, 26, 27, 28, 29, 30, 31, 32, 33, 34, 35, 36, 37, 38, 39, 40, 41, 42, 43, 44, 45, 46, 47, 48, 49, 50, 51, 52, 53, 54] (by decide +kernel) (by decide +kernel)) (goodIn_sub (fun _ h => List.mem_cons_of_mem _ (List.mem_append_right _ h)) (by decide +kernel))
set_option maxRecDepth 20000 in
theorem gL_set_X3_set : GoodIn wsL_set (wsV RL 37 RX3 yX3_set wsX3_set) := goodIn_app (goodIn_of _ (by decide +kernel)) ggL_set_X3_set
theorem dL_set_0 : decode cL_set 0 = .ok (.aload_n 3, 1) := by decide +kernel
theorem dL_set_1 : decode cL_set 1 = .ok (.iconst 0, 1) := by decide +kernel
theorem dL_set_2 : decode cL_set 2 = .ok (.aload_n 0, 1) := by decide +kernel
theorem dL_set_3 : decode cL_set 3 = .ok (.iload_n 1, 1) := by decide +kernel
theorem dL_set_4 : decode cL_set 4 = .ok (.iload_n 2, 1) := by decide +kernel
theorem dL_set_5 : decode cL_set 5 = .ok (.invokevirtual 37, 3) := by decide +kernel
theorem dL_set_8 : decode cL_set 8 = .ok (.i2l, 1) := by decide +kernel
theorem dL_set_9 : decode cL_set 9 = .ok (.lastore, 1) := by decide +kernel
theorem dL_set_10 : decode cL_set 10 = .ok (.goto 7, 3) := by decide +kernel
theorem dL_set_13 : decode cL_set 13 = .ok (.astore 4, 2) := by decide +kernel
theorem dL_set_15 : decode cL_set 15 = .ok (.iconst 1, 1) := by decide +kernel
theorem dL_set_16 : decode cL_set 16 = .ok (.ireturn, 1) := by decide +kernel
theorem dL_set_17 : decode cL_set 17 = .ok (.iconst 0, 1) := by decide +kernel
theorem dL_set_18 : decode cL_set 18 = .ok (.ireturn, 1) := by decide +kernel
set_option maxRecDepth 20000 in
theorem ggL_isIn_X3_isIn : GoodIn wsL_isIn wsX3_isIn := goodIn_ca (goodIn_r _ [6, 7, 8, 9, 10, 11, 12, 5, 13, 14, 15, 16, 17, 18, 19, 20, 21, 22, 23, 24, 25, 26, 27, 28, 29, 30, 31, 32, 33, 34, 35, 36, 37, 38, 39, 40, 41, 42, 43, 44, 45, 46, 47, 48, 49, 50, 51, 52, 53, 54, 55, 56] (by decide +kernel) (by decide +kernel)) (goodIn_sub (fun _ h => List.mem_cons_of_mem _ (List.mem_append_right _ h)) (by decide +kernel))
set_option maxRecDepth 20000 in
theorem gL_isIn_X3_isIn : GoodIn wsL_isIn (wsV RL 41 RX3 yX3_isIn wsX3_isIn) := goodIn_app (goodIn_of _ (by decide +kernel)) ggL_isIn_X3_isIn
theorem dL_isIn_0 : decode cL_isIn 0 = .ok (.aload_n 3, 1) := by decide +kernel
theorem dL_isIn_1 : decode cL_isIn 1 = .ok (.iconst 0, 1) := by decide +kernel
theorem dL_isIn_2 : decode cL_isIn 2 = .ok (.aload_n 0, 1) := by decide +kernel
theorem dL_isIn_3 : decode cL_isIn 3 = .ok (.iload_n 1, 1) := by decide +kernel
theorem dL_isIn_4 : decode cL_isIn 4 = .ok (.iload_n 2, 1) := by decide +kernel
theorem dL_isIn_5 : decode cL_isIn 5 = .ok (.invokevirtual 41, 3) := by decide +kernel
theorem dL_isIn_8 : decode cL_isIn 8 = .ok (.ifCond .eq 7, 3) := by decide +kernel
theorem dL_isIn_11 : decode cL_isIn 11 = .ok (.lconst 1, 1) := by decide +kernel
theorem dL_isIn_12 : decode cL_isIn 12 = .ok (.goto 4, 3) := by decide +kernel
theorem dL_isIn_15 : decode cL_isIn 15 = .ok (.lconst 0, 1) := by decide +kernel
theorem dL_isIn_16 : decode cL_isIn 16 = .ok (.lastore, 1) := by decide +kernel
theorem dL_isIn_17 : decode cL_isIn 17 = .ok (.goto 7, 3) := by decide +kernel
theorem dL_isIn_20 : decode cL_isIn 20 = .ok (.astore 4, 2) := by decide +kernel
theorem dL_isIn_22 : decode cL_isIn 22 = .ok (.iconst 1, 1) := by decide +kernel
theorem dL_isIn_23 : decode cL_isIn 23 = .ok (.ireturn, 1) := by decide +kernel
theorem dL_isIn_24 : decode cL_isIn 24 = .ok (.iconst 0, 1) := by decide +kernel
theorem dL_isIn_25 : decode cL_isIn 25 = .ok (.ireturn, 1) := by decide +kernel
set_option maxRecDepth 20000 in
theorem ggL_dual_X3_dual : GoodIn wsL_dual wsX3_dual := goodIn_ca (goodIn_r _ [6, 7, 8, 9, 10, 11, 12, 5, 13, 14, 15, 16, 17, 18, 19, 20, 21, 22, 23, 24, 25, 26, 27, 28, 29, 30, 31, 32, 33, 34, 35] (by decide +kernel) (by decide +kernel)) (goodIn_sub (fun _ h => List.mem_cons_of_mem _ (List.mem_append_right _ h)) (by decide +kernel))
set_option maxRecDepth 20000 in
theorem gL_dual_X3_dual : GoodIn wsL_dual (wsV RL 45 RX3 yX3_dual wsX3_dual) := goodIn_app (goodIn_of _ (by decide +kernel)) ggL_dual_X3_dual
theorem dL_dual_0 : decode cL_dual 0 = .ok (.aload_n 2, 1) := by decide +kernel
theorem dL_dual_1 : decode cL_dual 1 = .ok (.iconst 0, 1) := by decide +kernel
theorem dL_dual_2 : decode cL_dual 2 = .ok (.aload_n 0, 1) := by decide +kernel
theorem dL_dual_3 : decode cL_dual 3 = .ok (.iload_n 1, 1) := by decide +kernel
theorem dL_dual_4 : decode cL_dual 4 = .ok (.invokevirtual 45, 3) := by decide +kernel
theorem dL_dual_7 : decode cL_dual 7 = .ok (.lastore, 1) := by decide +kernel
theorem dL_dual_8 : decode cL_dual 8 = .ok (.goto 6, 3) := by decide +kernel
theorem dL_dual_11 : decode cL_dual 11 = .ok (.astore_n 3, 1) := by decide +kernel
theorem dL_dual_12 : decode cL_dual 12 = .ok (.iconst 1, 1) := by decide +kernel
theorem dL_dual_13 : decode cL_dual 13 = .ok (.ireturn, 1) := by decide +kernel
theorem dL_dual_14 : decode cL_dual 14 = .ok (.iconst 0, 1) := by decide +kernel
theorem dL_dual_15 : decode cL_dual 15 = .ok (.ireturn, 1) := by decide +kernel
set_option maxRecDepth 20000 in
theorem ggL_slack_X3_slack : GoodIn wsL_slack wsX3_slack := goodIn_ca (goodIn_ca (goodIn_r _ [7, 8, 9, 10, 11, 12, 13, 14, 15, 16, 6, 17, 18, 19, 20, 21, 22, 23, 24, 25, 26, 27, 28, 29, 30, 31, 32, 33, 34, 35, 36, 37, 38, 39, 40, 41, 42, 43, 44, 45, 46, 47, 48, 49, 50, 51, 52, 53, 54, 55, 56, 57, 58, 59, 60, 61, 62, 63, 64, 65, 66, 67] (by decide +kernel) (by decide +kernel)) (goodIn_sub (fun _ h => List.mem_cons_of_mem _ (List.mem_append_left _ (List.mem_append_right _ h))) (by decide +kernel))) (goodIn_sub (fun _ h => List.mem_cons_of_mem _ (List.mem_append_right _ h)) (by decide +kernel))
set_option maxRecDepth 20000 in
theorem gL_slack_X3_slack : GoodIn wsL_slack (wsV RL 49 RX3 yX3_slack wsX3_slack) := goodIn_app (goodIn_of _ (by decide +kernel)) ggL_slack_X3_slack
theorem dL_slack_0 : decode cL_slack 0 = .ok (.aload_n 2, 1) := by decide +kernel
theorem dL_slack_1 : decode cL_slack 1 = .ok (.iconst 0, 1) := by decide +kernel
theorem dL_slack_2 : decode cL_slack 2 = .ok (.aload_n 0, 1) := by decide +kernel
theorem dL_slack_3 : decode cL_slack 3 = .ok (.iload_n 1, 1) := by decide +kernel
theorem dL_slack_4 : decode cL_slack 4 = .ok (.invokevirtual 49, 3) := by decide +kernel
theorem dL_slack_7 : decode cL_slack 7 = .ok (.lastore, 1) := by decide +kernel
theorem dL_slack_8 : decode cL_slack 8 = .ok (.goto 9, 3) := by decide +kernel
theorem dL_slack_11 : decode cL_slack 11 = .ok (.astore_n 3, 1) := by decide +kernel
theorem dL_slack_12 : decode cL_slack 12 = .ok (.iconst 1, 1) := by decide +kernel
theorem dL_slack_13 : decode cL_slack 13 = .ok (.ireturn, 1) := by decide +kernel
theorem dL_slack_14 : decode cL_slack 14 = .ok (.astore_n 3, 1) := by decide +kernel
theorem dL_slack_15 : decode cL_slack 15 = .ok (.iconst 2, 1) := by decide +kernel
theorem dL_slack_16 : decode cL_slack 16 = .ok (.ireturn, 1) := by decide +kernel
theorem dL_slack_17 : decode cL_slack 17 = .ok (.iconst 0, 1) := by decide +kernel
theorem dL_slack_18 : decode cL_slack 18 = .ok (.ireturn, 1) := by decide +kernel
set_option maxRecDepth 20000 in
theorem ggL_about_X3_about : GoodIn wsL_about wsX3_about := goodIn_ca (goodIn_r _ [6, 7, 8, 9, 10, 11, 12, 13, 14, 15, 16, 17, 18, 19, 20, 21, 22, 5, 23, 24, 25, 26, 27, 28, 29, 30, 31, 32, 33, 34, 35] (by decide +kernel) (by decide +kernel)) (goodIn_sub (fun _ h => List.mem_cons_of_mem _ (List.mem_append_right _ h)) (by decide +kernel))
set_option maxRecDepth 20000 in
theorem gL_about_X3_about : GoodIn wsL_about (wsV RL 54 RX3 yX3_about wsX3_about) := goodIn_app (goodIn_of _ (by decide +kernel)) ggL_about_X3_about
theorem dL_about_0 : decode cL_about 0 = .ok (.aload_n 2, 1) := by decide +kernel
theorem dL_about_1 : decode cL_about 1 = .ok (.iconst 0, 1) := by decide +kernel
theorem dL_about_2 : decode cL_about 2 = .ok (.aload_n 0, 1) := by decide +kernel
theorem dL_about_3 : decode cL_about 3 = .ok (.iload_n 1, 1) := by decide +kernel
theorem dL_about_4 : decode cL_about 4 = .ok (.invokevirtual 54, 3) := by decide +kernel
theorem dL_about_7 : decode cL_about 7 = .ok (.i2l, 1) := by decide +kernel
theorem dL_about_8 : decode cL_about 8 = .ok (.lastore, 1) := by decide +kernel
theorem dL_about_9 : decode cL_about 9 = .ok (.goto 6, 3) := by decide +kernel
theorem dL_about_12 : decode cL_about 12 = .ok (.astore_n 3, 1) := by decide +kernel
theorem dL_about_13 : decode cL_about 13 = .ok (.iconst 1, 1) := by decide +kernel
theorem dL_about_14 : decode cL_about 14 = .ok (.ireturn, 1) := by decide +kernel
theorem dL_about_15 : decode cL_about 15 = .ok (.iconst 0, 1) := by decide +kernel
theorem dL_about_16 : decode cL_about 16 = .ok (.ireturn, 1) := by decide +kernel
set_option maxRecDepth 20000 in
theorem ggL_told_X3_told : GoodIn wsL_told wsX3_told := goodIn_ca (goodIn_r _ [6, 7, 8, 9, 10, 11, 12, 13, 14, 15, 16, 17, 5, 18, 19, 20, 21, 22, 23, 24, 25, 26, 27, 28, 29, 30, 31, 32, 33, 34, 35, 36, 37, 38, 39, 40, 41, 42, 43, 44, 45, 46, 47, 48, 49, 50] (by decide +kernel) (by decide +kernel)) (goodIn_sub (fun _ h => List.mem_cons_of_mem _ (List.mem_append_right _ h)) (by decide +kernel))
set_option maxRecDepth 20000 in
theorem gL_told_X3_told : GoodIn wsL_told (wsV RL 57 RX3 yX3_told wsX3_told) := goodIn_app (goodIn_of _ (by decide +kernel)) ggL_told_X3_told
theorem dL_told_0 : decode cL_told 0 = .ok (.aload_n 3, 1) := by decide +kernel
theorem dL_told_1 : decode cL_told 1 = .ok (.iconst 0, 1) := by decide +kernel
theorem dL_told_2 : decode cL_told 2 = .ok (.aload_n 0, 1) := by decide +kernel
theorem dL_told_3 : decode cL_told 3 = .ok (.iload_n 1, 1) := by decide +kernel
theorem dL_told_4 : decode cL_told 4 = .ok (.iload_n 2, 1) := by decide +kernel
theorem dL_told_5 : decode cL_told 5 = .ok (.invokevirtual 57, 3) := by decide +kernel
theorem dL_told_8 : decode cL_told 8 = .ok (.i2l, 1) := by decide +kernel
theorem dL_told_9 : decode cL_told 9 = .ok (.lastore, 1) := by decide +kernel
theorem dL_told_10 : decode cL_told 10 = .ok (.goto 7, 3) := by decide +kernel
theorem dL_told_13 : decode cL_told 13 = .ok (.astore 4, 2) := by decide +kernel
theorem dL_told_15 : decode cL_told 15 = .ok (.iconst 1, 1) := by decide +kernel
theorem dL_told_16 : decode cL_told 16 = .ok (.ireturn, 1) := by decide +kernel
theorem dL_told_17 : decode cL_told 17 = .ok (.iconst 0, 1) := by decide +kernel
theorem dL_told_18 : decode cL_told 18 = .ok (.ireturn, 1) := by decide +kernel
set_option maxRecDepth 20000 in
theorem ggL_depth_X3_depth : GoodIn wsL_depth wsX3_depth := goodIn_ca (goodIn_r _ [6, 7, 8, 9, 10, 11, 5, 12, 13, 14, 15, 16, 17, 18, 19, 20, 21, 22, 23, 24, 25, 26, 27, 28, 29, 30, 31, 32, 33, 34, 35, 36, 37, 38, 39, 40, 41, 42, 43, 44] (by decide +kernel) (by decide +kernel)) (goodIn_sub (fun _ h => List.mem_cons_of_mem _ (List.mem_append_right _ h)) (by decide +kernel))
set_option maxRecDepth 20000 in
theorem gL_depth_X3_depth : GoodIn wsL_depth (wsV RL 60 RX3 yX3_depth wsX3_depth) := goodIn_app (goodIn_of _ (by decide +kernel)) ggL_depth_X3_depth
theorem dL_depth_0 : decode cL_depth 0 = .ok (.aload_n 2, 1) := by decide +kernel
theorem dL_depth_1 : decode cL_depth 1 = .ok (.iconst 0, 1) := by decide +kernel
theorem dL_depth_2 : decode cL_depth 2 = .ok (.aload_n 0, 1) := by decide +kernel
theorem dL_depth_3 : decode cL_depth 3 = .ok (.iload_n 1, 1) := by decide +kernel
theorem dL_depth_4 : decode cL_depth 4 = .ok (.invokevirtual 60, 3) := by decide +kernel
theorem dL_depth_7 : decode cL_depth 7 = .ok (.i2l, 1) := by decide +kernel
theorem dL_depth_8 : decode cL_depth 8 = .ok (.lastore, 1) := by decide +kernel
theorem dL_depth_9 : decode cL_depth 9 = .ok (.goto 6, 3) := by decide +kernel
theorem dL_depth_12 : decode cL_depth 12 = .ok (.astore_n 3, 1) := by decide +kernel
theorem dL_depth_13 : decode cL_depth 13 = .ok (.iconst 1, 1) := by decide +kernel
theorem dL_depth_14 : decode cL_depth 14 = .ok (.ireturn, 1) := by decide +kernel
theorem dL_depth_15 : decode cL_depth 15 = .ok (.iconst 0, 1) := by decide +kernel
theorem dL_depth_16 : decode cL_depth 16 = .ok (.ireturn, 1) := by decide +kernel
set_option maxRecDepth 20000 in
theorem ggL_far_X3_far : GoodIn wsL_far wsX3_far := goodIn_ca (goodIn_r _ [6, 7, 8, 9, 10, 11, 12, 5, 13, 14, 15, 16, 17, 18, 19, 20, 21, 22, 23, 24, 25, 26, 27, 28, 29, 30, 31, 32, 33, 34, 35, 36, 37, 38, 39, 40, 41, 42, 43, 44, 45, 46] (by decide +kernel) (by decide +kernel)) (goodIn_sub (fun _ h => List.mem_cons_of_mem _ (List.mem_append_right _ h)) (by decide +kernel))
set_option maxRecDepth 20000 in
theorem gL_far_X3_far : GoodIn wsL_far (wsV RL 63 RX3 yX3_far wsX3_far) := goodIn_app (goodIn_of _ (by decide +kernel)) ggL_far_X3_far
theorem dL_far_0 : decode cL_far 0 = .ok (.aload_n 2, 1) := by decide +kernel
theorem dL_far_1 : decode cL_far 1 = .ok (.iconst 0, 1) := by decide +kernel
theorem dL_far_2 : decode cL_far 2 = .ok (.aload_n 0, 1) := by decide +kernel
theorem dL_far_3 : decode cL_far 3 = .ok (.iload_n 1, 1) := by decide +kernel
theorem dL_far_4 : decode cL_far 4 = .ok (.invokevirtual 63, 3) := by decide +kernel
theorem dL_far_7 : decode cL_far 7 = .ok (.lastore, 1) := by decide +kernel
theorem dL_far_8 : decode cL_far 8 = .ok (.goto 6, 3) := by decide +kernel
theorem dL_far_11 : decode cL_far 11 = .ok (.astore_n 3, 1) := by decide +kernel
theorem dL_far_12 : decode cL_far 12 = .ok (.iconst 1, 1) := by decide +kernel
theorem dL_far_13 : decode cL_far 13 = .ok (.ireturn, 1) := by decide +kernel
theorem dL_far_14 : decode cL_far 14 = .ok (.iconst 0, 1) := by decide +kernel
theorem dL_far_15 : decode cL_far 15 = .ok (.ireturn, 1) := by decide +kernel
set_option maxRecDepth 20000 in
theorem ggL_law_X3_init : GoodIn wsL_law wsX3_init := goodIn_r _ [10, 11, 12, 13, 14, 15, 16, 17, 18, 19, 20, 21, 22, 23, 24, 25, 26, 27, 28, 29, 30, 31, 32, 33, 34, 6, 35, 36, 37, 38, 39, 40, 41, 42, 43, 44, 45, 46, 47, 48, 49, 50, 51, 52, 53, 54, 55, 56, 57, 58, 59, 60, 61, 62, 63, 64, 554, 555, 556, 557, 558, 559, 560, 524, 525, 526, 527, 528, 561, 562, 563, 564, 565, 566, 567, 568, 569, 570, 571, 572, 573, 574, 575, 576] (by decide +kernel) (by decide +kernel)
set_option maxRecDepth 20000 in
theorem gL_law_X3_init : GoodIn wsL_law (wsX3_init) := ggL_law_X3_init
set_option maxRecDepth 20000 in
theorem ggL_law_X4_init : GoodIn wsL_law wsX4_init := goodIn_r _ [67, 68, 12, 13, 69, 32, 70, 71, 6, 72, 36, 73, 74, 75, 76, 77, 78, 79, 80, 81, 82, 83, 84, 85, 529, 530, 531, 532, 533, 534, 535, 536, 537, 538, 539, 540, 541, 542, 543, 544, 545, 546, 547, 548, 549, 550, 551, 552, 553] (by decide +kernel) (by decide +kernel)
set_option maxRecDepth 20000 in
theorem gL_law_X4_init : GoodIn wsL_law (wsX4_init) := ggL_law_X4_init
set_option maxRecDepth 20000 in
theorem ggL_law_L_nodes : GoodIn wsL_law wsL_nodes := goodIn_ca (goodIn_r _ [89, 90, 91, 92, 93, 2, 94, 95, 96, 17, 97, 98, 99, 100, 101, 102, 103, 26, 27, 524, 525, 526, 527, 528, 554, 555, 556, 557, 558, 559, 560] (by decide +kernel) (by decide +kernel)) (goodIn_sub (fun _ h => List.mem_append_left _ (List.mem_append_left _ (List.mem_append_right _ h))) (by decide +kernel))
set_option maxRecDepth 20000 in
theorem gL_law_L_nodes : GoodIn wsL_law (va_wsS RL 70 yL_nodes wsL_nodes) := goodIn_app (goodIn_of _ (by decide +kernel)) ggL_law_L_nodes
set_option maxRecDepth 20000 in
theorem ggL_law_X4_nodes : GoodIn wsL_law wsX4_nodes := goodIn_r _ [107, 108, 69, 85, 109, 110, 111, 112, 5, 113, 114, 115, 116, 529, 530, 531, 532, 533, 534, 535, 536, 537, 538, 539, 540, 541, 542, 543, 544, 545, 546, 547, 548, 549, 550, 551, 552, 553] (by decide +kernel) (by decide +kernel)
set_option maxRecDepth 20000 in
theorem gL_law_X4_nodes : GoodIn wsL_law (wsV RL 75 RX4 yX4_nodes wsX4_nodes) := goodIn_app (goodIn_of _ (by decide +kernel)) ggL_law_X4_nodes
set_option maxRecDepth 20000 in
theorem ggL_law_X4_thrown : GoodIn wsL_law wsX4_thrown := goodIn_r _ [120, 108, 529, 530, 531, 532, 533, 534, 535, 536, 537, 538, 539, 540, 541, 542, 543, 544, 545, 546, 547, 548, 549, 550, 551, 552, 553] (by decide +kernel) (by decide +kernel)
set_option maxRecDepth 20000 in
theorem gL_law_X4_thrown : GoodIn wsL_law (wsV RL 76 RX4 yX4_thrown wsX4_thrown) := goodIn_app (goodIn_of _ (by decide +kernel)) ggL_law_X4_thrown
set_option maxRecDepth 20000 in
theorem ggL_law_L_arc : GoodIn wsL_law wsL_arc := goodIn_ca (goodIn_ca (goodIn_r _ [123, 124, 90, 125, 126, 127, 2, 128, 95, 96, 17, 129, 130, 131, 132, 133, 134, 135, 136, 137, 16, 138, 38, 139, 140, 141, 142, 143, 144, 145, 146, 40, 33, 34, 35, 37, 100, 101, 102, 103, 26, 27, 524, 525, 526, 527, 528, 554, 555, 556, 557, 558, 559, 560] (by decide +kernel) (by decide +kernel)) (goodIn_sub (fun _ h => List.mem_append_left _ (List.mem_append_left _ (List.mem_append_right _ h))) (by decide +kernel))) (goodIn_sub (fun _ h => List.mem_append_left _ (List.mem_append_right _ h)) (by decide +kernel))
set_option maxRecDepth 20000 in
theorem gL_law_L_arc : GoodIn wsL_law (va_wsS RL 82 yL_arc wsL_arc) := goodIn_app (goodIn_of _ (by decide +kernel)) ggL_law_L_arc
set_option maxRecDepth 20000 in
theorem ggL_law_X4_arc : GoodIn wsL_law wsX4_arc := goodIn_r _ [150, 151, 108, 109, 70, 71, 72, 73, 152, 153, 154, 5, 155, 69, 110, 111, 112, 113, 114, 115, 116, 529, 530, 531, 532, 533, 534, 535, 536, 537, 538, 539, 540, 541, 542, 543, 544, 545, 546, 547, 548, 549, 550, 551, 552, 553] (by decide +kernel) (by decide +kernel)
set_option maxRecDepth 20000 in
theorem gL_law_X4_arc : GoodIn wsL_law (wsV RL 85 RX4 yX4_arc wsX4_arc) := goodIn_app (goodIn_of _ (by decide +kernel)) ggL_law_X4_arc
set_option maxRecDepth 20000 in
theorem ggL_law_L_weigh : GoodIn wsL_law wsL_weigh := goodIn_ca (goodIn_ca (goodIn_r _ [158, 124, 90, 159, 160, 161, 2, 162, 17, 163, 164, 165, 166, 167, 133, 134, 168, 169, 170, 16, 171, 40, 139, 140, 141, 95, 96, 142, 100, 101, 102, 103, 26, 27, 524, 525, 526, 527, 528, 554, 555, 556, 557, 558, 559, 560] (by decide +kernel) (by decide +kernel)) (goodIn_sub (fun _ h => List.mem_append_left _ (List.mem_append_right _ h)) (by decide +kernel))) (goodIn_sub (fun _ h => List.mem_append_left _ (List.mem_append_left _ (List.mem_append_right _ h))) (by decide +kernel))
