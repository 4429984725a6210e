theorem dX4_arc_86 : decode cX4_arc 86 = .ok (.iload_n 2, 1) := by decide +kernel
theorem dX4_arc_87 : decode cX4_arc 87 = .ok (.iastore, 1) := by decide +kernel
theorem dX4_arc_88 : decode cX4_arc 88 = .ok (.aload_n 0, 1) := by decide +kernel
theorem dX4_arc_89 : decode cX4_arc 89 = .ok (.getfield 20, 3) := by decide +kernel
theorem dX4_arc_92 : decode cX4_arc 92 = .ok (.aload_n 0, 1) := by decide +kernel
theorem dX4_arc_93 : decode cX4_arc 93 = .ok (.getfield 67, 3) := by decide +kernel
theorem dX4_arc_96 : decode cX4_arc 96 = .ok (.lload_n 3, 1) := by decide +kernel
theorem dX4_arc_97 : decode cX4_arc 97 = .ok (.lastore, 1) := by decide +kernel
theorem dX4_arc_98 : decode cX4_arc 98 = .ok (.aload_n 0, 1) := by decide +kernel
theorem dX4_arc_99 : decode cX4_arc 99 = .ok (.getfield 24, 3) := by decide +kernel
theorem dX4_arc_102 : decode cX4_arc 102 = .ok (.aload_n 0, 1) := by decide +kernel
theorem dX4_arc_103 : decode cX4_arc 103 = .ok (.getfield 67, 3) := by decide +kernel
theorem dX4_arc_106 : decode cX4_arc 106 = .ok (.iconst 1, 1) := by decide +kernel
theorem dX4_arc_107 : decode cX4_arc 107 = .ok (.bastore, 1) := by decide +kernel
theorem dX4_arc_108 : decode cX4_arc 108 = .ok (.aload_n 0, 1) := by decide +kernel
theorem dX4_arc_109 : decode cX4_arc 109 = .ok (.dup, 1) := by decide +kernel
theorem dX4_arc_110 : decode cX4_arc 110 = .ok (.getfield 67, 3) := by decide +kernel
theorem dX4_arc_113 : decode cX4_arc 113 = .ok (.iconst 1, 1) := by decide +kernel
theorem dX4_arc_114 : decode cX4_arc 114 = .ok (.iadd, 1) := by decide +kernel
theorem dX4_arc_115 : decode cX4_arc 115 = .ok (.putfield 67, 3) := by decide +kernel
theorem dX4_arc_118 : decode cX4_arc 118 = .ok (.aload_n 0, 1) := by decide +kernel
theorem dX4_arc_119 : decode cX4_arc 119 = .ok (.invokevirtual 80, 3) := by decide +kernel
theorem dX4_arc_122 : decode cX4_arc 122 = .ok (.aload_n 0, 1) := by decide +kernel
theorem dX4_arc_123 : decode cX4_arc 123 = .ok (.getfield 67, 3) := by decide +kernel
theorem dX4_arc_126 : decode cX4_arc 126 = .ok (.iconst 1, 1) := by decide +kernel
theorem dX4_arc_127 : decode cX4_arc 127 = .ok (.isub, 1) := by decide +kernel
theorem dX4_arc_128 : decode cX4_arc 128 = .ok (.ireturn, 1) := by decide +kernel
set_option maxRecDepth 20000 in
theorem ggX4_weigh_X4_noArc : GoodIn wsX4_weigh wsX4_noArc := goodIn_r _ [8, 9, 17, 18, 19, 20, 21, 22, 23, 24, 25, 26, 27, 28, 29, 30, 31, 32, 33, 34, 35, 36, 37, 38, 39, 40, 41] (by decide +kernel) (by decide +kernel)
set_option maxRecDepth 20000 in
theorem gX4_weigh_X4_noArc : GoodIn wsX4_weigh (wsV RX4 89 RX4 yX4_noArc wsX4_noArc) := goodIn_app (goodIn_of _ (by decide +kernel)) ggX4_weigh_X4_noArc
set_option maxRecDepth 20000 in
theorem ggX4_weigh_X4_forget : GoodIn wsX4_weigh wsX4_forget := goodIn_r _ [13, 14, 15, 16, 17, 18, 19, 20, 21, 22, 23, 24, 25, 26, 27, 28, 29, 30, 31, 32, 33, 34, 35, 36, 37, 38, 39, 40, 41] (by decide +kernel) (by decide +kernel)
set_option maxRecDepth 20000 in
theorem gX4_weigh_X4_forget : GoodIn wsX4_weigh (wsV RX4 80 RX4 yX4_forget wsX4_forget) := goodIn_app (goodIn_of _ (by decide +kernel)) ggX4_weigh_X4_forget
theorem dX4_weigh_0 : decode cX4_weigh 0 = .ok (.aload_n 0, 1) := by decide +kernel
theorem dX4_weigh_1 : decode cX4_weigh 1 = .ok (.aload_n 0, 1) := by decide +kernel
theorem dX4_weigh_2 : decode cX4_weigh 2 = .ok (.iload_n 1, 1) := by decide +kernel
theorem dX4_weigh_3 : decode cX4_weigh 3 = .ok (.invokevirtual 89, 3) := by decide +kernel
theorem dX4_weigh_6 : decode cX4_weigh 6 = .ok (.ifCond .eq 7, 3) := by decide +kernel
theorem dX4_weigh_9 : decode cX4_weigh 9 = .ok (.iconst 1, 1) := by decide +kernel
theorem dX4_weigh_10 : decode cX4_weigh 10 = .ok (.goto 22, 3) := by decide +kernel
theorem dX4_weigh_13 : decode cX4_weigh 13 = .ok (.lload_n 2, 1) := by decide +kernel
theorem dX4_weigh_14 : decode cX4_weigh 14 = .ok (.lconst 0, 1) := by decide +kernel
theorem dX4_weigh_15 : decode cX4_weigh 15 = .ok (.lcmp, 1) := by decide +kernel
theorem dX4_weigh_16 : decode cX4_weigh 16 = .ok (.ifCond .lt 11, 3) := by decide +kernel
theorem dX4_weigh_19 : decode cX4_weigh 19 = .ok (.lload_n 2, 1) := by decide +kernel
theorem dX4_weigh_20 : decode cX4_weigh 20 = .ok (.ldc2_w 87, 3) := by decide +kernel
theorem dX4_weigh_23 : decode cX4_weigh 23 = .ok (.lcmp, 1) := by decide +kernel
theorem dX4_weigh_24 : decode cX4_weigh 24 = .ok (.ifCond .le 7, 3) := by decide +kernel
theorem dX4_weigh_27 : decode cX4_weigh 27 = .ok (.iconst 2, 1) := by decide +kernel
theorem dX4_weigh_28 : decode cX4_weigh 28 = .ok (.goto 4, 3) := by decide +kernel
theorem dX4_weigh_31 : decode cX4_weigh 31 = .ok (.iconst 0, 1) := by decide +kernel
theorem dX4_weigh_32 : decode cX4_weigh 32 = .ok (.putfield 64, 3) := by decide +kernel
theorem dX4_weigh_35 : decode cX4_weigh 35 = .ok (.aload_n 0, 1) := by decide +kernel
theorem dX4_weigh_36 : decode cX4_weigh 36 = .ok (.getfield 64, 3) := by decide +kernel
theorem dX4_weigh_39 : decode cX4_weigh 39 = .ok (.ifCond .le 5, 3) := by decide +kernel
theorem dX4_weigh_42 : decode cX4_weigh 42 = .ok (.lconst 0, 1) := by decide +kernel
theorem dX4_weigh_43 : decode cX4_weigh 43 = .ok (.lreturn, 1) := by decide +kernel
theorem dX4_weigh_44 : decode cX4_weigh 44 = .ok (.aload_n 0, 1) := by decide +kernel
theorem dX4_weigh_45 : decode cX4_weigh 45 = .ok (.getfield 20, 3) := by decide +kernel
theorem dX4_weigh_48 : decode cX4_weigh 48 = .ok (.iload_n 1, 1) := by decide +kernel
theorem dX4_weigh_49 : decode cX4_weigh 49 = .ok (.laload, 1) := by decide +kernel
theorem dX4_weigh_50 : decode cX4_weigh 50 = .ok (.lstore 4, 2) := by decide +kernel
theorem dX4_weigh_52 : decode cX4_weigh 52 = .ok (.aload_n 0, 1) := by decide +kernel
theorem dX4_weigh_53 : decode cX4_weigh 53 = .ok (.getfield 20, 3) := by decide +kernel
theorem dX4_weigh_56 : decode cX4_weigh 56 = .ok (.iload_n 1, 1) := by decide +kernel
theorem dX4_weigh_57 : decode cX4_weigh 57 = .ok (.lload_n 2, 1) := by decide +kernel
theorem dX4_weigh_58 : decode cX4_weigh 58 = .ok (.lastore, 1) := by decide +kernel
theorem dX4_weigh_59 : decode cX4_weigh 59 = .ok (.aload_n 0, 1) := by decide +kernel
theorem dX4_weigh_60 : decode cX4_weigh 60 = .ok (.invokevirtual 80, 3) := by decide +kernel
theorem dX4_weigh_63 : decode cX4_weigh 63 = .ok (.lload 4, 2) := by decide +kernel
theorem dX4_weigh_65 : decode cX4_weigh 65 = .ok (.lreturn, 1) := by decide +kernel
set_option maxRecDepth 20000 in
theorem ggX4_open_X4_noArc : GoodIn wsX4_open wsX4_noArc := goodIn_r _ [7, 8, 16, 17, 18, 19, 20, 21, 22, 23, 24, 25, 26, 27, 28, 29, 30, 31, 32, 33, 34, 35, 36, 37, 38, 39, 40] (by decide +kernel) (by decide +kernel)
set_option maxRecDepth 20000 in
theorem gX4_open_X4_noArc : GoodIn wsX4_open (wsV RX4 89 RX4 yX4_noArc wsX4_noArc) := goodIn_app (goodIn_of _ (by decide +kernel)) ggX4_open_X4_noArc
set_option maxRecDepth 20000 in
theorem ggX4_open_X4_forget : GoodIn wsX4_open wsX4_forget := goodIn_r _ [12, 13, 14, 15, 16, 17, 18, 19, 20, 21, 22, 23, 24, 25, 26, 27, 28, 29, 30, 31, 32, 33, 34, 35, 36, 37, 38, 39, 40] (by decide +kernel) (by decide +kernel)
set_option maxRecDepth 20000 in
theorem gX4_open_X4_forget : GoodIn wsX4_open (wsV RX4 80 RX4 yX4_forget wsX4_forget) := goodIn_app (goodIn_of _ (by decide +kernel)) ggX4_open_X4_forget
theorem dX4_open_0 : decode cX4_open 0 = .ok (.aload_n 0, 1) := by decide +kernel
theorem dX4_open_1 : decode cX4_open 1 = .ok (.aload_n 0, 1) := by decide +kernel
theorem dX4_open_2 : decode cX4_open 2 = .ok (.iload_n 1, 1) := by decide +kernel
theorem dX4_open_3 : decode cX4_open 3 = .ok (.invokevirtual 89, 3) := by decide +kernel
theorem dX4_open_6 : decode cX4_open 6 = .ok (.ifCond .eq 7, 3) := by decide +kernel
theorem dX4_open_9 : decode cX4_open 9 = .ok (.iconst 1, 1) := by decide +kernel
theorem dX4_open_10 : decode cX4_open 10 = .ok (.goto 4, 3) := by decide +kernel
theorem dX4_open_13 : decode cX4_open 13 = .ok (.iconst 0, 1) := by decide +kernel
theorem dX4_open_14 : decode cX4_open 14 = .ok (.putfield 64, 3) := by decide +kernel
theorem dX4_open_17 : decode cX4_open 17 = .ok (.aload_n 0, 1) := by decide +kernel
theorem dX4_open_18 : decode cX4_open 18 = .ok (.getfield 64, 3) := by decide +kernel
theorem dX4_open_21 : decode cX4_open 21 = .ok (.ifCond .le 5, 3) := by decide +kernel
theorem dX4_open_24 : decode cX4_open 24 = .ok (.iconst 0, 1) := by decide +kernel
theorem dX4_open_25 : decode cX4_open 25 = .ok (.ireturn, 1) := by decide +kernel
theorem dX4_open_26 : decode cX4_open 26 = .ok (.aload_n 0, 1) := by decide +kernel
theorem dX4_open_27 : decode cX4_open 27 = .ok (.getfield 24, 3) := by decide +kernel
theorem dX4_open_30 : decode cX4_open 30 = .ok (.iload_n 1, 1) := by decide +kernel
theorem dX4_open_31 : decode cX4_open 31 = .ok (.baload, 1) := by decide +kernel
theorem dX4_open_32 : decode cX4_open 32 = .ok (.istore_n 3, 1) := by decide +kernel
theorem dX4_open_33 : decode cX4_open 33 = .ok (.aload_n 0, 1) := by decide +kernel
theorem dX4_open_34 : decode cX4_open 34 = .ok (.getfield 24, 3) := by decide +kernel
theorem dX4_open_37 : decode cX4_open 37 = .ok (.iload_n 1, 1) := by decide +kernel
theorem dX4_open_38 : decode cX4_open 38 = .ok (.iload_n 2, 1) := by decide +kernel
theorem dX4_open_39 : decode cX4_open 39 = .ok (.bastore, 1) := by decide +kernel
theorem dX4_open_40 : decode cX4_open 40 = .ok (.aload_n 0, 1) := by decide +kernel
theorem dX4_open_41 : decode cX4_open 41 = .ok (.invokevirtual 80, 3) := by decide +kernel
theorem dX4_open_44 : decode cX4_open 44 = .ok (.iload_n 3, 1) := by decide +kernel
theorem dX4_open_45 : decode cX4_open 45 = .ok (.ireturn, 1) := by decide +kernel
theorem dX4_reach_0 : decode cX4_reach 0 = .ok (.iconst 0, 1) := by decide +kernel
theorem dX4_reach_1 : decode cX4_reach 1 = .ok (.istore_n 1, 1) := by decide +kernel
theorem dX4_reach_2 : decode cX4_reach 2 = .ok (.iload_n 1, 1) := by decide +kernel
theorem dX4_reach_3 : decode cX4_reach 3 = .ok (.aload_n 0, 1) := by decide +kernel
theorem dX4_reach_4 : decode cX4_reach 4 = .ok (.getfield 7, 3) := by decide +kernel
theorem dX4_reach_7 : decode cX4_reach 7 = .ok (.if_icmp .ge 28, 3) := by decide +kernel
theorem dX4_reach_10 : decode cX4_reach 10 = .ok (.aload_n 0, 1) := by decide +kernel
theorem dX4_reach_11 : decode cX4_reach 11 = .ok (.getfield 28, 3) := by decide +kernel
theorem dX4_reach_14 : decode cX4_reach 14 = .ok (.iload_n 1, 1) := by decide +kernel
theorem dX4_reach_15 : decode cX4_reach 15 = .ok (.iload_n 1, 1) := by decide +kernel
theorem dX4_reach_16 : decode cX4_reach 16 = .ok (.aload_n 0, 1) := by decide +kernel
theorem dX4_reach_17 : decode cX4_reach 17 = .ok (.getfield 61, 3) := by decide +kernel
theorem dX4_reach_20 : decode cX4_reach 20 = .ok (.if_icmp .ne 7, 3) := by decide +kernel
theorem dX4_reach_23 : decode cX4_reach 23 = .ok (.iconst 1, 1) := by decide +kernel
theorem dX4_reach_24 : decode cX4_reach 24 = .ok (.goto 4, 3) := by decide +kernel
theorem dX4_reach_27 : decode cX4_reach 27 = .ok (.iconst 0, 1) := by decide +kernel
theorem dX4_reach_28 : decode cX4_reach 28 = .ok (.bastore, 1) := by decide +kernel
theorem dX4_reach_29 : decode cX4_reach 29 = .ok (.iinc 1 1, 3) := by decide +kernel
theorem dX4_reach_32 : decode cX4_reach 32 = .ok (.goto (-30), 3) := by decide +kernel
theorem dX4_reach_35 : decode cX4_reach 35 = .ok (.iconst 1, 1) := by decide +kernel
theorem dX4_reach_36 : decode cX4_reach 36 = .ok (.istore_n 1, 1) := by decide +kernel
theorem dX4_reach_37 : decode cX4_reach 37 = .ok (.iload_n 1, 1) := by decide +kernel
theorem dX4_reach_38 : decode cX4_reach 38 = .ok (.ifCond .eq 75, 3) := by decide +kernel
theorem dX4_reach_41 : decode cX4_reach 41 = .ok (.iconst 0, 1) := by decide +kernel
theorem dX4_reach_42 : decode cX4_reach 42 = .ok (.istore_n 1, 1) := by decide +kernel
theorem dX4_reach_43 : decode cX4_reach 43 = .ok (.iconst 0, 1) := by decide +kernel
theorem dX4_reach_44 : decode cX4_reach 44 = .ok (.istore_n 2, 1) := by decide +kernel
theorem dX4_reach_45 : decode cX4_reach 45 = .ok (.iload_n 2, 1) := by decide +kernel
theorem dX4_reach_46 : decode cX4_reach 46 = .ok (.aload_n 0, 1) := by decide +kernel
theorem dX4_reach_47 : decode cX4_reach 47 = .ok (.getfield 67, 3) := by decide +kernel
theorem dX4_reach_50 : decode cX4_reach 50 = .ok (.if_icmp .ge 60, 3) := by decide +kernel
theorem dX4_reach_53 : decode cX4_reach 53 = .ok (.aload_n 0, 1) := by decide +kernel
theorem dX4_reach_54 : decode cX4_reach 54 = .ok (.getfield 24, 3) := by decide +kernel
theorem dX4_reach_57 : decode cX4_reach 57 = .ok (.iload_n 2, 1) := by decide +kernel
theorem dX4_reach_58 : decode cX4_reach 58 = .ok (.baload, 1) := by decide +kernel
theorem dX4_reach_59 : decode cX4_reach 59 = .ok (.ifCond .eq 45, 3) := by decide +kernel
theorem dX4_reach_62 : decode cX4_reach 62 = .ok (.aload_n 0, 1) := by decide +kernel
theorem dX4_reach_63 : decode cX4_reach 63 = .ok (.getfield 28, 3) := by decide +kernel
theorem dX4_reach_66 : decode cX4_reach 66 = .ok (.aload_n 0, 1) := by decide +kernel
theorem dX4_reach_67 : decode cX4_reach 67 = .ok (.getfield 13, 3) := by decide +kernel
theorem dX4_reach_70 : decode cX4_reach 70 = .ok (.iload_n 2, 1) := by decide +kernel
theorem dX4_reach_71 : decode cX4_reach 71 = .ok (.iaload, 1) := by decide +kernel
theorem dX4_reach_72 : decode cX4_reach 72 = .ok (.baload, 1) := by decide +kernel
theorem dX4_reach_73 : decode cX4_reach 73 = .ok (.ifCond .eq 31, 3) := by decide +kernel
theorem dX4_reach_76 : decode cX4_reach 76 = .ok (.aload_n 0, 1) := by decide +kernel
theorem dX4_reach_77 : decode cX4_reach 77 = .ok (.getfield 28, 3) := by decide +kernel
theorem dX4_reach_80 : decode cX4_reach 80 = .ok (.aload_n 0, 1) := by decide +kernel
theorem dX4_reach_81 : decode cX4_reach 81 = .ok (.getfield 17, 3) := by decide +kernel
theorem dX4_reach_84 : decode cX4_reach 84 = .ok (.iload_n 2, 1) := by decide +kernel
theorem dX4_reach_85 : decode cX4_reach 85 = .ok (.iaload, 1) := by decide +kernel
theorem dX4_reach_86 : decode cX4_reach 86 = .ok (.baload, 1) := by decide +kernel
theorem dX4_reach_87 : decode cX4_reach 87 = .ok (.ifCond .ne 17, 3) := by decide +kernel
theorem dX4_reach_90 : decode cX4_reach 90 = .ok (.aload_n 0, 1) := by decide +kernel
theorem dX4_reach_91 : decode cX4_reach 91 = .ok (.getfield 28, 3) := by decide +kernel
theorem dX4_reach_94 : decode cX4_reach 94 = .ok (.aload_n 0, 1) := by decide +kernel
theorem dX4_reach_95 : decode cX4_reach 95 = .ok (.getfield 17, 3) := by decide +kernel
theorem dX4_reach_98 : decode cX4_reach 98 = .ok (.iload_n 2, 1) := by decide +kernel
theorem dX4_reach_99 : decode cX4_reach 99 = .ok (.iaload, 1) := by decide +kernel
theorem dX4_reach_100 : decode cX4_reach 100 = .ok (.iconst 1, 1) := by decide +kernel
theorem dX4_reach_101 : decode cX4_reach 101 = .ok (.bastore, 1) := by decide +kernel
theorem dX4_reach_102 : decode cX4_reach 102 = .ok (.iconst 1, 1) := by decide +kernel
theorem dX4_reach_103 : decode cX4_reach 103 = .ok (.istore_n 1, 1) := by decide +kernel
theorem dX4_reach_104 : decode cX4_reach 104 = .ok (.iinc 2 1, 3) := by decide +kernel
theorem dX4_reach_107 : decode cX4_reach 107 = .ok (.goto (-62), 3) := by decide +kernel
theorem dX4_reach_110 : decode cX4_reach 110 = .ok (.goto (-73), 3) := by decide +kernel
theorem dX4_reach_113 : decode cX4_reach 113 = .ok (.iconst 0, 1) := by decide +kernel
theorem dX4_reach_114 : decode cX4_reach 114 = .ok (.istore_n 2, 1) := by decide +kernel
theorem dX4_reach_115 : decode cX4_reach 115 = .ok (.iconst 0, 1) := by decide +kernel
theorem dX4_reach_116 : decode cX4_reach 116 = .ok (.istore_n 3, 1) := by decide +kernel
theorem dX4_reach_117 : decode cX4_reach 117 = .ok (.iload_n 3, 1) := by decide +kernel
theorem dX4_reach_118 : decode cX4_reach 118 = .ok (.aload_n 0, 1) := by decide +kernel
theorem dX4_reach_119 : decode cX4_reach 119 = .ok (.getfield 7, 3) := by decide +kernel
theorem dX4_reach_122 : decode cX4_reach 122 = .ok (.if_icmp .ge 26, 3) := by decide +kernel
theorem dX4_reach_125 : decode cX4_reach 125 = .ok (.iload_n 2, 1) := by decide +kernel
theorem dX4_reach_126 : decode cX4_reach 126 = .ok (.aload_n 0, 1) := by decide +kernel
theorem dX4_reach_127 : decode cX4_reach 127 = .ok (.getfield 28, 3) := by decide +kernel
theorem dX4_reach_130 : decode cX4_reach 130 = .ok (.iload_n 3, 1) := by decide +kernel
theorem dX4_reach_131 : decode cX4_reach 131 = .ok (.baload, 1) := by decide +kernel
theorem dX4_reach_132 : decode cX4_reach 132 = .ok (.ifCond .eq 7, 3) := by decide +kernel
theorem dX4_reach_135 : decode cX4_reach 135 = .ok (.iconst 0, 1) := by decide +kernel
theorem dX4_reach_136 : decode cX4_reach 136 = .ok (.goto 4, 3) := by decide +kernel
theorem dX4_reach_139 : decode cX4_reach 139 = .ok (.iconst 1, 1) := by decide +kernel
theorem dX4_reach_140 : decode cX4_reach 140 = .ok (.iadd, 1) := by decide +kernel
theorem dX4_reach_141 : decode cX4_reach 141 = .ok (.istore_n 2, 1) := by decide +kernel
theorem dX4_reach_142 : decode cX4_reach 142 = .ok (.iinc 3 1, 3) := by decide +kernel
theorem dX4_reach_145 : decode cX4_reach 145 = .ok (.goto (-28), 3) := by decide +kernel
theorem dX4_reach_148 : decode cX4_reach 148 = .ok (.iload_n 2, 1) := by decide +kernel
theorem dX4_reach_149 : decode cX4_reach 149 = .ok (.ireturn, 1) := by decide +kernel
theorem dX4_has_0 : decode cX4_has 0 = .ok (.aload_n 0, 1) := by decide +kernel
theorem dX4_has_1 : decode cX4_has 1 = .ok (.getfield 34, 3) := by decide +kernel
theorem dX4_has_4 : decode cX4_has 4 = .ok (.iload_n 1, 1) := by decide +kernel
theorem dX4_has_5 : decode cX4_has 5 = .ok (.iaload, 1) := by decide +kernel
theorem dX4_has_6 : decode cX4_has 6 = .ok (.iload_n 2, 1) := by decide +kernel
theorem dX4_has_7 : decode cX4_has 7 = .ok (.ishr, 1) := by decide +kernel
theorem dX4_has_8 : decode cX4_has 8 = .ok (.iconst 1, 1) := by decide +kernel
theorem dX4_has_9 : decode cX4_has 9 = .ok (.iand, 1) := by decide +kernel
theorem dX4_has_10 : decode cX4_has 10 = .ok (.iconst 1, 1) := by decide +kernel
theorem dX4_has_11 : decode cX4_has 11 = .ok (.if_icmp .ne 7, 3) := by decide +kernel
theorem dX4_has_14 : decode cX4_has 14 = .ok (.iconst 1, 1) := by decide +kernel
theorem dX4_has_15 : decode cX4_has 15 = .ok (.goto 4, 3) := by decide +kernel
theorem dX4_has_18 : decode cX4_has 18 = .ok (.iconst 0, 1) := by decide +kernel
theorem dX4_has_19 : decode cX4_has 19 = .ok (.ireturn, 1) := by decide +kernel
set_option maxRecDepth 20000 in
theorem ggX4_restOf_X4_has : GoodIn wsX4_restOf wsX4_has := goodIn_r _ [16, 6, 17, 18, 19, 20, 21, 22, 23, 24, 25, 26, 27, 28, 29, 30, 31, 32, 33, 34, 35, 36, 37, 38, 39, 40, 41] (by decide +kernel) (by decide +kernel)
set_option maxRecDepth 20000 in
theorem gX4_restOf_X4_has : GoodIn wsX4_restOf (wsV RX4 102 RX4 yX4_has wsX4_has) := goodIn_app (goodIn_of _ (by decide +kernel)) ggX4_restOf_X4_has
theorem dX4_restOf_0 : decode cX4_restOf 0 = .ok (.aload_n 0, 1) := by decide +kernel
theorem dX4_restOf_1 : decode cX4_restOf 1 = .ok (.aload_n 0, 1) := by decide +kernel
theorem dX4_restOf_2 : decode cX4_restOf 2 = .ok (.getfield 20, 3) := by decide +kernel
theorem dX4_restOf_5 : decode cX4_restOf 5 = .ok (.iload_n 1, 1) := by decide +kernel
theorem dX4_restOf_6 : decode cX4_restOf 6 = .ok (.laload, 1) := by decide +kernel
theorem dX4_restOf_7 : decode cX4_restOf 7 = .ok (.putfield 92, 3) := by decide +kernel
theorem dX4_restOf_10 : decode cX4_restOf 10 = .ok (.aload_n 0, 1) := by decide +kernel
theorem dX4_restOf_11 : decode cX4_restOf 11 = .ok (.lconst 0, 1) := by decide +kernel
theorem dX4_restOf_12 : decode cX4_restOf 12 = .ok (.putfield 96, 3) := by decide +kernel
theorem dX4_restOf_15 : decode cX4_restOf 15 = .ok (.aload_n 0, 1) := by decide +kernel
theorem dX4_restOf_16 : decode cX4_restOf 16 = .ok (.lconst 1, 1) := by decide +kernel
theorem dX4_restOf_17 : decode cX4_restOf 17 = .ok (.iload_n 1, 1) := by decide +kernel
theorem dX4_restOf_18 : decode cX4_restOf 18 = .ok (.lshl, 1) := by decide +kernel
theorem dX4_restOf_19 : decode cX4_restOf 19 = .ok (.putfield 99, 3) := by decide +kernel
theorem dX4_restOf_22 : decode cX4_restOf 22 = .ok (.iconst 0, 1) := by decide +kernel
theorem dX4_restOf_23 : decode cX4_restOf 23 = .ok (.istore_n 3, 1) := by decide +kernel
theorem dX4_restOf_24 : decode cX4_restOf 24 = .ok (.iload_n 3, 1) := by decide +kernel
theorem dX4_restOf_25 : decode cX4_restOf 25 = .ok (.aload_n 0, 1) := by decide +kernel
theorem dX4_restOf_26 : decode cX4_restOf 26 = .ok (.getfield 77, 3) := by decide +kernel
theorem dX4_restOf_29 : decode cX4_restOf 29 = .ok (.if_icmp .ge 134, 3) := by decide +kernel
theorem dX4_restOf_32 : decode cX4_restOf 32 = .ok (.iload_n 3, 1) := by decide +kernel
theorem dX4_restOf_33 : decode cX4_restOf 33 = .ok (.iload_n 2, 1) := by decide +kernel
theorem dX4_restOf_34 : decode cX4_restOf 34 = .ok (.if_icmp .eq 39, 3) := by decide +kernel
theorem dX4_restOf_37 : decode cX4_restOf 37 = .ok (.aload_n 0, 1) := by decide +kernel
theorem dX4_restOf_38 : decode cX4_restOf 38 = .ok (.getfield 34, 3) := by decide +kernel
theorem dX4_restOf_41 : decode cX4_restOf 41 = .ok (.iload_n 3, 1) := by decide +kernel
theorem dX4_restOf_42 : decode cX4_restOf 42 = .ok (.iaload, 1) := by decide +kernel
theorem dX4_restOf_43 : decode cX4_restOf 43 = .ok (.aload_n 0, 1) := by decide +kernel
theorem dX4_restOf_44 : decode cX4_restOf 44 = .ok (.getfield 34, 3) := by decide +kernel
theorem dX4_restOf_47 : decode cX4_restOf 47 = .ok (.iload_n 2, 1) := by decide +kernel
theorem dX4_restOf_48 : decode cX4_restOf 48 = .ok (.iaload, 1) := by decide +kernel
theorem dX4_restOf_49 : decode cX4_restOf 49 = .ok (.iconst (-1), 1) := by decide +kernel
theorem dX4_restOf_50 : decode cX4_restOf 50 = .ok (.ixor, 1) := by decide +kernel
theorem dX4_restOf_51 : decode cX4_restOf 51 = .ok (.iand, 1) := by decide +kernel
theorem dX4_restOf_52 : decode cX4_restOf 52 = .ok (.ifCond .ne 21, 3) := by decide +kernel
theorem dX4_restOf_55 : decode cX4_restOf 55 = .ok (.aload_n 0, 1) := by decide +kernel
theorem dX4_restOf_56 : decode cX4_restOf 56 = .ok (.iload_n 3, 1) := by decide +kernel
theorem dX4_restOf_57 : decode cX4_restOf 57 = .ok (.aload_n 0, 1) := by decide +kernel
theorem dX4_restOf_58 : decode cX4_restOf 58 = .ok (.getfield 17, 3) := by decide +kernel
theorem dX4_restOf_61 : decode cX4_restOf 61 = .ok (.iload_n 1, 1) := by decide +kernel
theorem dX4_restOf_62 : decode cX4_restOf 62 = .ok (.iaload, 1) := by decide +kernel
theorem dX4_restOf_63 : decode cX4_restOf 63 = .ok (.invokevirtual 102, 3) := by decide +kernel
theorem dX4_restOf_66 : decode cX4_restOf 66 = .ok (.ifCond .eq 7, 3) := by decide +kernel
theorem dX4_restOf_69 : decode cX4_restOf 69 = .ok (.iconst 1, 1) := by decide +kernel
theorem dX4_restOf_70 : decode cX4_restOf 70 = .ok (.goto 4, 3) := by decide +kernel
theorem dX4_restOf_73 : decode cX4_restOf 73 = .ok (.iconst 0, 1) := by decide +kernel
theorem dX4_restOf_74 : decode cX4_restOf 74 = .ok (.istore 4, 2) := by decide +kernel
theorem dX4_restOf_76 : decode cX4_restOf 76 = .ok (.iload 4, 2) := by decide +kernel
theorem dX4_restOf_78 : decode cX4_restOf 78 = .ok (.ifCond .eq 79, 3) := by decide +kernel
theorem dX4_restOf_81 : decode cX4_restOf 81 = .ok (.aload_n 0, 1) := by decide +kernel
theorem dX4_restOf_82 : decode cX4_restOf 82 = .ok (.dup, 1) := by decide +kernel
theorem dX4_restOf_83 : decode cX4_restOf 83 = .ok (.getfield 92, 3) := by decide +kernel
theorem dX4_restOf_86 : decode cX4_restOf 86 = .ok (.aload_n 0, 1) := by decide +kernel
theorem dX4_restOf_87 : decode cX4_restOf 87 = .ok (.getfield 49, 3) := by decide +kernel
theorem dX4_restOf_90 : decode cX4_restOf 90 = .ok (.iload_n 3, 1) := by decide +kernel
theorem dX4_restOf_91 : decode cX4_restOf 91 = .ok (.laload, 1) := by decide +kernel
theorem dX4_restOf_92 : decode cX4_restOf 92 = .ok (.lsub, 1) := by decide +kernel
theorem dX4_restOf_93 : decode cX4_restOf 93 = .ok (.putfield 92, 3) := by decide +kernel
theorem dX4_restOf_96 : decode cX4_restOf 96 = .ok (.aload_n 0, 1) := by decide +kernel
theorem dX4_restOf_97 : decode cX4_restOf 97 = .ok (.dup, 1) := by decide +kernel
theorem dX4_restOf_98 : decode cX4_restOf 98 = .ok (.getfield 96, 3) := by decide +kernel
theorem dX4_restOf_101 : decode cX4_restOf 101 = .ok (.aload_n 0, 1) := by decide +kernel
theorem dX4_restOf_102 : decode cX4_restOf 102 = .ok (.getfield 52, 3) := by decide +kernel
theorem dX4_restOf_105 : decode cX4_restOf 105 = .ok (.iload_n 3, 1) := by decide +kernel
theorem dX4_restOf_106 : decode cX4_restOf 106 = .ok (.laload, 1) := by decide +kernel
theorem dX4_restOf_107 : decode cX4_restOf 107 = .ok (.lsub, 1) := by decide +kernel
theorem dX4_restOf_108 : decode cX4_restOf 108 = .ok (.putfield 96, 3) := by decide +kernel
theorem dX4_restOf_111 : decode cX4_restOf 111 = .ok (.aload_n 0, 1) := by decide +kernel
theorem dX4_restOf_112 : decode cX4_restOf 112 = .ok (.dup, 1) := by decide +kernel
theorem dX4_restOf_113 : decode cX4_restOf 113 = .ok (.getfield 99, 3) := by decide +kernel
theorem dX4_restOf_116 : decode cX4_restOf 116 = .ok (.aload_n 0, 1) := by decide +kernel
theorem dX4_restOf_117 : decode cX4_restOf 117 = .ok (.getfield 55, 3) := by decide +kernel
theorem dX4_restOf_120 : decode cX4_restOf 120 = .ok (.iload_n 3, 1) := by decide +kernel
theorem dX4_restOf_121 : decode cX4_restOf 121 = .ok (.laload, 1) := by decide +kernel
theorem dX4_restOf_122 : decode cX4_restOf 122 = .ok (.lsub, 1) := by decide +kernel
theorem dX4_restOf_123 : decode cX4_restOf 123 = .ok (.putfield 99, 3) := by decide +kernel
theorem dX4_restOf_126 : decode cX4_restOf 126 = .ok (.aload_n 0, 1) := by decide +kernel
theorem dX4_restOf_127 : decode cX4_restOf 127 = .ok (.getfield 99, 3) := by decide +kernel
theorem dX4_restOf_130 : decode cX4_restOf 130 = .ok (.lconst 0, 1) := by decide +kernel
theorem dX4_restOf_131 : decode cX4_restOf 131 = .ok (.lcmp, 1) := by decide +kernel
theorem dX4_restOf_132 : decode cX4_restOf 132 = .ok (.ifCond .ge 25, 3) := by decide +kernel
theorem dX4_restOf_135 : decode cX4_restOf 135 = .ok (.aload_n 0, 1) := by decide +kernel
theorem dX4_restOf_136 : decode cX4_restOf 136 = .ok (.dup, 1) := by decide +kernel
theorem dX4_restOf_137 : decode cX4_restOf 137 = .ok (.getfield 99, 3) := by decide +kernel
theorem dX4_restOf_140 : decode cX4_restOf 140 = .ok (.ldc2_w 106, 3) := by decide +kernel
theorem dX4_restOf_143 : decode cX4_restOf 143 = .ok (.ladd, 1) := by decide +kernel
theorem dX4_restOf_144 : decode cX4_restOf 144 = .ok (.putfield 99, 3) := by decide +kernel
theorem dX4_restOf_147 : decode cX4_restOf 147 = .ok (.aload_n 0, 1) := by decide +kernel
theorem dX4_restOf_148 : decode cX4_restOf 148 = .ok (.dup, 1) := by decide +kernel
theorem dX4_restOf_149 : decode cX4_restOf 149 = .ok (.getfield 96, 3) := by decide +kernel
theorem dX4_restOf_152 : decode cX4_restOf 152 = .ok (.lconst 1, 1) := by decide +kernel
theorem dX4_restOf_153 : decode cX4_restOf 153 = .ok (.lsub, 1) := by decide +kernel
theorem dX4_restOf_154 : decode cX4_restOf 154 = .ok (.putfield 96, 3) := by decide +kernel
theorem dX4_restOf_157 : decode cX4_restOf 157 = .ok (.iinc 3 1, 3) := by decide +kernel
theorem dX4_restOf_160 : decode cX4_restOf 160 = .ok (.goto (-136), 3) := by decide +kernel
theorem dX4_restOf_163 : decode cX4_restOf 163 = .ok (.return_, 1) := by decide +kernel
theorem dX4_isLess_0 : decode cX4_isLess 0 = .ok (.aload_n 0, 1) := by decide +kernel
theorem dX4_isLess_1 : decode cX4_isLess 1 = .ok (.getfield 92, 3) := by decide +kernel
theorem dX4_isLess_4 : decode cX4_isLess 4 = .ok (.aload_n 0, 1) := by decide +kernel
theorem dX4_isLess_5 : decode cX4_isLess 5 = .ok (.getfield 49, 3) := by decide +kernel
theorem dX4_isLess_8 : decode cX4_isLess 8 = .ok (.iload_n 1, 1) := by decide +kernel
theorem dX4_isLess_9 : decode cX4_isLess 9 = .ok (.laload, 1) := by decide +kernel
theorem dX4_isLess_10 : decode cX4_isLess 10 = .ok (.lcmp, 1) := by decide +kernel
theorem dX4_isLess_11 : decode cX4_isLess 11 = .ok (.ifCond .eq 23, 3) := by decide +kernel
theorem dX4_isLess_14 : decode cX4_isLess 14 = .ok (.aload_n 0, 1) := by decide +kernel
theorem dX4_isLess_15 : decode cX4_isLess 15 = .ok (.getfield 92, 3) := by decide +kernel
theorem dX4_isLess_18 : decode cX4_isLess 18 = .ok (.aload_n 0, 1) := by decide +kernel
theorem dX4_isLess_19 : decode cX4_isLess 19 = .ok (.getfield 49, 3) := by decide +kernel
theorem dX4_isLess_22 : decode cX4_isLess 22 = .ok (.iload_n 1, 1) := by decide +kernel
theorem dX4_isLess_23 : decode cX4_isLess 23 = .ok (.laload, 1) := by decide +kernel
theorem dX4_isLess_24 : decode cX4_isLess 24 = .ok (.lcmp, 1) := by decide +kernel
theorem dX4_isLess_25 : decode cX4_isLess 25 = .ok (.ifCond .ge 7, 3) := by decide +kernel
theorem dX4_isLess_28 : decode cX4_isLess 28 = .ok (.iconst 1, 1) := by decide +kernel
theorem dX4_isLess_29 : decode cX4_isLess 29 = .ok (.goto 4, 3) := by decide +kernel
theorem dX4_isLess_32 : decode cX4_isLess 32 = .ok (.iconst 0, 1) := by decide +kernel
theorem dX4_isLess_33 : decode cX4_isLess 33 = .ok (.ireturn, 1) := by decide +kernel
theorem dX4_isLess_34 : decode cX4_isLess 34 = .ok (.aload_n 0, 1) := by decide +kernel
theorem dX4_isLess_35 : decode cX4_isLess 35 = .ok (.getfield 96, 3) := by decide +kernel
theorem dX4_isLess_38 : decode cX4_isLess 38 = .ok (.aload_n 0, 1) := by decide +kernel
theorem dX4_isLess_39 : decode cX4_isLess 39 = .ok (.getfield 52, 3) := by decide +kernel
theorem dX4_isLess_42 : decode cX4_isLess 42 = .ok (.iload_n 1, 1) := by decide +kernel
theorem dX4_isLess_43 : decode cX4_isLess 43 = .ok (.laload, 1) := by decide +kernel
theorem dX4_isLess_44 : decode cX4_isLess 44 = .ok (.lcmp, 1) := by decide +kernel
theorem dX4_isLess_45 : decode cX4_isLess 45 = .ok (.ifCond .eq 25, 3) := by decide +kernel
theorem dX4_isLess_48 : decode cX4_isLess 48 = .ok (.aload_n 0, 1) := by decide +kernel
theorem dX4_isLess_49 : decode cX4_isLess 49 = .ok (.getfield 96, 3) := by decide +kernel
theorem dX4_isLess_52 : decode cX4_isLess 52 = .ok (.aload_n 0, 1) := by decide +kernel
theorem dX4_isLess_53 : decode cX4_isLess 53 = .ok (.getfield 52, 3) := by decide +kernel
theorem dX4_isLess_56 : decode cX4_isLess 56 = .ok (.iload_n 1, 1) := by decide +kernel
theorem dX4_isLess_57 : decode cX4_isLess 57 = .ok (.laload, 1) := by decide +kernel
theorem dX4_isLess_58 : decode cX4_isLess 58 = .ok (.lcmp, 1) := by decide +kernel
theorem dX4_isLess_59 : decode cX4_isLess 59 = .ok (.ifCond .ge 7, 3) := by decide +kernel
theorem dX4_isLess_62 : decode cX4_isLess 62 = .ok (.iconst 1, 1) := by decide +kernel
theorem dX4_isLess_63 : decode cX4_isLess 63 = .ok (.goto 26, 3) := by decide +kernel
theorem dX4_isLess_66 : decode cX4_isLess 66 = .ok (.iconst 0, 1) := by decide +kernel
theorem dX4_isLess_67 : decode cX4_isLess 67 = .ok (.goto 22, 3) := by decide +kernel
theorem dX4_isLess_70 : decode cX4_isLess 70 = .ok (.aload_n 0, 1) := by decide +kernel
theorem dX4_isLess_71 : decode cX4_isLess 71 = .ok (.getfield 99, 3) := by decide +kernel
theorem dX4_isLess_74 : decode cX4_isLess 74 = .ok (.aload_n 0, 1) := by decide +kernel
theorem dX4_isLess_75 : decode cX4_isLess 75 = .ok (.getfield 55, 3) := by decide +kernel
theorem dX4_isLess_78 : decode cX4_isLess 78 = .ok (.iload_n 1, 1) := by decide +kernel
theorem dX4_isLess_79 : decode cX4_isLess 79 = .ok (.laload, 1) := by decide +kernel
theorem dX4_isLess_80 : decode cX4_isLess 80 = .ok (.lcmp, 1) := by decide +kernel
theorem dX4_isLess_81 : decode cX4_isLess 81 = .ok (.ifCond .ge 7, 3) := by decide +kernel
theorem dX4_isLess_84 : decode cX4_isLess 84 = .ok (.iconst 1, 1) := by decide +kernel
theorem dX4_isLess_85 : decode cX4_isLess 85 = .ok (.goto 4, 3) := by decide +kernel
theorem dX4_isLess_88 : decode cX4_isLess 88 = .ok (.iconst 0, 1) := by decide +kernel
theorem dX4_isLess_89 : decode cX4_isLess 89 = .ok (.ireturn, 1) := by decide +kernel
set_option maxRecDepth 20000 in
theorem ggX4_findArc_X4_has : GoodIn wsX4_findArc wsX4_has := goodIn_r _ [16, 17, 29, 30, 31, 32, 33, 34, 35, 36, 37, 38, 39, 40, 41, 42, 43, 44, 45, 46, 47, 48, 49, 50, 51, 52, 53] (by decide +kernel) (by decide +kernel)
set_option maxRecDepth 20000 in
theorem gX4_findArc_X4_has : GoodIn wsX4_findArc (wsV RX4 102 RX4 yX4_has wsX4_has) := goodIn_app (goodIn_of _ (by decide +kernel)) ggX4_findArc_X4_has
set_option maxRecDepth 20000 in
theorem ggX4_findArc_X4_restOf : GoodIn wsX4_findArc wsX4_restOf := goodIn_r _ [21, 22, 7, 9, 11, 23, 17, 4, 6, 8, 10, 24, 12, 13, 14, 15, 16, 29, 30, 31, 32, 33, 34, 35, 36, 37, 38, 39, 40, 41, 42, 43, 44, 45, 46, 47, 48, 49, 50, 51, 52, 53] (by decide +kernel) (by decide +kernel)
set_option maxRecDepth 20000 in
theorem gX4_findArc_X4_restOf : GoodIn wsX4_findArc (wsV RX4 108 RX4 yX4_restOf wsX4_restOf) := goodIn_app (goodIn_of _ (by decide +kernel)) ggX4_findArc_X4_restOf
set_option maxRecDepth 20000 in
theorem ggX4_findArc_X4_isLess : GoodIn wsX4_findArc wsX4_isLess := goodIn_r _ [28, 7, 6, 9, 8, 11, 10, 29, 30, 31, 32, 33, 34, 35, 36, 37, 38, 39, 40, 41, 42, 43, 44, 45, 46, 47, 48, 49, 50, 51, 52, 53] (by decide +kernel) (by decide +kernel)
set_option maxRecDepth 20000 in
theorem gX4_findArc_X4_isLess : GoodIn wsX4_findArc (wsV RX4 112 RX4 yX4_isLess wsX4_isLess) := goodIn_app (goodIn_of _ (by decide +kernel)) ggX4_findArc_X4_isLess
theorem dX4_findArc_0 : decode cX4_findArc 0 = .ok (.aload_n 0, 1) := by decide +kernel
theorem dX4_findArc_1 : decode cX4_findArc 1 = .ok (.getfield 37, 3) := by decide +kernel
theorem dX4_findArc_4 : decode cX4_findArc 4 = .ok (.iload_n 1, 1) := by decide +kernel
theorem dX4_findArc_5 : decode cX4_findArc 5 = .ok (.iconst (-1), 1) := by decide +kernel
theorem dX4_findArc_6 : decode cX4_findArc 6 = .ok (.iastore, 1) := by decide +kernel
theorem dX4_findArc_7 : decode cX4_findArc 7 = .ok (.iconst 0, 1) := by decide +kernel
theorem dX4_findArc_8 : decode cX4_findArc 8 = .ok (.istore_n 2, 1) := by decide +kernel
theorem dX4_findArc_9 : decode cX4_findArc 9 = .ok (.iload_n 2, 1) := by decide +kernel
theorem dX4_findArc_10 : decode cX4_findArc 10 = .ok (.aload_n 0, 1) := by decide +kernel
theorem dX4_findArc_11 : decode cX4_findArc 11 = .ok (.getfield 67, 3) := by decide +kernel
theorem dX4_findArc_14 : decode cX4_findArc 14 = .ok (.if_icmp .ge 106, 3) := by decide +kernel
theorem dX4_findArc_17 : decode cX4_findArc 17 = .ok (.aload_n 0, 1) := by decide +kernel
theorem dX4_findArc_18 : decode cX4_findArc 18 = .ok (.getfield 24, 3) := by decide +kernel
theorem dX4_findArc_21 : decode cX4_findArc 21 = .ok (.iload_n 2, 1) := by decide +kernel
theorem dX4_findArc_22 : decode cX4_findArc 22 = .ok (.baload, 1) := by decide +kernel
theorem dX4_findArc_23 : decode cX4_findArc 23 = .ok (.ifCond .eq 91, 3) := by decide +kernel
theorem dX4_findArc_26 : decode cX4_findArc 26 = .ok (.aload_n 0, 1) := by decide +kernel
theorem dX4_findArc_27 : decode cX4_findArc 27 = .ok (.iload_n 1, 1) := by decide +kernel
theorem dX4_findArc_28 : decode cX4_findArc 28 = .ok (.aload_n 0, 1) := by decide +kernel
theorem dX4_findArc_29 : decode cX4_findArc 29 = .ok (.getfield 17, 3) := by decide +kernel
theorem dX4_findArc_32 : decode cX4_findArc 32 = .ok (.iload_n 2, 1) := by decide +kernel
theorem dX4_findArc_33 : decode cX4_findArc 33 = .ok (.iaload, 1) := by decide +kernel
theorem dX4_findArc_34 : decode cX4_findArc 34 = .ok (.invokevirtual 102, 3) := by decide +kernel
theorem dX4_findArc_37 : decode cX4_findArc 37 = .ok (.ifCond .eq 77, 3) := by decide +kernel
theorem dX4_findArc_40 : decode cX4_findArc 40 = .ok (.aload_n 0, 1) := by decide +kernel
theorem dX4_findArc_41 : decode cX4_findArc 41 = .ok (.iload_n 1, 1) := by decide +kernel
theorem dX4_findArc_42 : decode cX4_findArc 42 = .ok (.aload_n 0, 1) := by decide +kernel
theorem dX4_findArc_43 : decode cX4_findArc 43 = .ok (.getfield 13, 3) := by decide +kernel
theorem dX4_findArc_46 : decode cX4_findArc 46 = .ok (.iload_n 2, 1) := by decide +kernel
theorem dX4_findArc_47 : decode cX4_findArc 47 = .ok (.iaload, 1) := by decide +kernel
theorem dX4_findArc_48 : decode cX4_findArc 48 = .ok (.invokevirtual 102, 3) := by decide +kernel
theorem dX4_findArc_51 : decode cX4_findArc 51 = .ok (.ifCond .ne 63, 3) := by decide +kernel
theorem dX4_findArc_54 : decode cX4_findArc 54 = .ok (.aload_n 0, 1) := by decide +kernel
theorem dX4_findArc_55 : decode cX4_findArc 55 = .ok (.iload_n 2, 1) := by decide +kernel
theorem dX4_findArc_56 : decode cX4_findArc 56 = .ok (.iload_n 1, 1) := by decide +kernel
theorem dX4_findArc_57 : decode cX4_findArc 57 = .ok (.invokevirtual 108, 3) := by decide +kernel
theorem dX4_findArc_60 : decode cX4_findArc 60 = .ok (.aload_n 0, 1) := by decide +kernel
theorem dX4_findArc_61 : decode cX4_findArc 61 = .ok (.getfield 37, 3) := by decide +kernel
theorem dX4_findArc_64 : decode cX4_findArc 64 = .ok (.iload_n 1, 1) := by decide +kernel
theorem dX4_findArc_65 : decode cX4_findArc 65 = .ok (.iaload, 1) := by decide +kernel
theorem dX4_findArc_66 : decode cX4_findArc 66 = .ok (.ifCond .lt 11, 3) := by decide +kernel
theorem dX4_findArc_69 : decode cX4_findArc 69 = .ok (.aload_n 0, 1) := by decide +kernel
theorem dX4_findArc_70 : decode cX4_findArc 70 = .ok (.iload_n 1, 1) := by decide +kernel
theorem dX4_findArc_71 : decode cX4_findArc 71 = .ok (.invokevirtual 112, 3) := by decide +kernel
theorem dX4_findArc_74 : decode cX4_findArc 74 = .ok (.ifCond .eq 40, 3) := by decide +kernel
theorem dX4_findArc_77 : decode cX4_findArc 77 = .ok (.aload_n 0, 1) := by decide +kernel
theorem dX4_findArc_78 : decode cX4_findArc 78 = .ok (.getfield 37, 3) := by decide +kernel
theorem dX4_findArc_81 : decode cX4_findArc 81 = .ok (.iload_n 1, 1) := by decide +kernel
theorem dX4_findArc_82 : decode cX4_findArc 82 = .ok (.iload_n 2, 1) := by decide +kernel
theorem dX4_findArc_83 : decode cX4_findArc 83 = .ok (.iastore, 1) := by decide +kernel
theorem dX4_findArc_84 : decode cX4_findArc 84 = .ok (.aload_n 0, 1) := by decide +kernel
theorem dX4_findArc_85 : decode cX4_findArc 85 = .ok (.getfield 49, 3) := by decide +kernel
theorem dX4_findArc_88 : decode cX4_findArc 88 = .ok (.iload_n 1, 1) := by decide +kernel
theorem dX4_findArc_89 : decode cX4_findArc 89 = .ok (.aload_n 0, 1) := by decide +kernel
theorem dX4_findArc_90 : decode cX4_findArc 90 = .ok (.getfield 92, 3) := by decide +kernel
theorem dX4_findArc_93 : decode cX4_findArc 93 = .ok (.lastore, 1) := by decide +kernel
theorem dX4_findArc_94 : decode cX4_findArc 94 = .ok (.aload_n 0, 1) := by decide +kernel
theorem dX4_findArc_95 : decode cX4_findArc 95 = .ok (.getfield 52, 3) := by decide +kernel
theorem dX4_findArc_98 : decode cX4_findArc 98 = .ok (.iload_n 1, 1) := by decide +kernel
theorem dX4_findArc_99 : decode cX4_findArc 99 = .ok (.aload_n 0, 1) := by decide +kernel
theorem dX4_findArc_100 : decode cX4_findArc 100 = .ok (.getfield 96, 3) := by decide +kernel
theorem dX4_findArc_103 : decode cX4_findArc 103 = .ok (.lastore, 1) := by decide +kernel
theorem dX4_findArc_104 : decode cX4_findArc 104 = .ok (.aload_n 0, 1) := by decide +kernel
theorem dX4_findArc_105 : decode cX4_findArc 105 = .ok (.getfield 55, 3) := by decide +kernel
theorem dX4_findArc_108 : decode cX4_findArc 108 = .ok (.iload_n 1, 1) := by decide +kernel
theorem dX4_findArc_109 : decode cX4_findArc 109 = .ok (.aload_n 0, 1) := by decide +kernel
theorem dX4_findArc_110 : decode cX4_findArc 110 = .ok (.getfield 99, 3) := by decide +kernel
theorem dX4_findArc_113 : decode cX4_findArc 113 = .ok (.lastore, 1) := by decide +kernel
theorem dX4_findArc_114 : decode cX4_findArc 114 = .ok (.iinc 2 1, 3) := by decide +kernel
theorem dX4_findArc_117 : decode cX4_findArc 117 = .ok (.goto (-108), 3) := by decide +kernel
theorem dX4_findArc_120 : decode cX4_findArc 120 = .ok (.return_, 1) := by decide +kernel
set_option maxRecDepth 20000 in
theorem ggX4_make_X4_findArc : GoodIn wsX4_make wsX4_findArc := goodIn_r _ [9, 10, 11, 12, 13, 14, 15, 16, 17, 18, 19, 20, 21, 22, 23, 8, 24, 2, 25, 26, 27, 28, 29, 1, 30, 31, 32, 33, 34, 35, 36, 37, 38, 39, 40, 41, 42, 43, 44, 45, 46, 47, 48, 49, 50, 51, 52, 53, 54, 55, 56, 57, 58, 59] (by decide +kernel) (by decide +kernel)
set_option maxRecDepth 20000 in
theorem gX4_make_X4_findArc : GoodIn wsX4_make (wsV RX4 115 RX4 yX4_findArc wsX4_findArc) := goodIn_app (goodIn_of _ (by decide +kernel)) ggX4_make_X4_findArc
theorem dX4_make_0 : decode cX4_make 0 = .ok (.aload_n 0, 1) := by decide +kernel
theorem dX4_make_1 : decode cX4_make 1 = .ok (.getfield 77, 3) := by decide +kernel
theorem dX4_make_4 : decode cX4_make 4 = .ok (.istore_n 2, 1) := by decide +kernel
theorem dX4_make_5 : decode cX4_make 5 = .ok (.aload_n 0, 1) := by decide +kernel
theorem dX4_make_6 : decode cX4_make 6 = .ok (.getfield 34, 3) := by decide +kernel
theorem dX4_make_9 : decode cX4_make 9 = .ok (.iload_n 2, 1) := by decide +kernel
theorem dX4_make_10 : decode cX4_make 10 = .ok (.iload_n 1, 1) := by decide +kernel
theorem dX4_make_11 : decode cX4_make 11 = .ok (.iastore, 1) := by decide +kernel
theorem dX4_make_12 : decode cX4_make 12 = .ok (.aload_n 0, 1) := by decide +kernel
theorem dX4_make_13 : decode cX4_make 13 = .ok (.getfield 43, 3) := by decide +kernel
theorem dX4_make_16 : decode cX4_make 16 = .ok (.iload_n 2, 1) := by decide +kernel
theorem dX4_make_17 : decode cX4_make 17 = .ok (.iconst (-1), 1) := by decide +kernel
theorem dX4_make_18 : decode cX4_make 18 = .ok (.iastore, 1) := by decide +kernel
theorem dX4_make_19 : decode cX4_make 19 = .ok (.aload_n 0, 1) := by decide +kernel
theorem dX4_make_20 : decode cX4_make 20 = .ok (.getfield 46, 3) := by decide +kernel
theorem dX4_make_23 : decode cX4_make 23 = .ok (.iload_n 2, 1) := by decide +kernel
theorem dX4_make_24 : decode cX4_make 24 = .ok (.iconst 1, 1) := by decide +kernel
theorem dX4_make_25 : decode cX4_make 25 = .ok (.bastore, 1) := by decide +kernel
theorem dX4_make_26 : decode cX4_make 26 = .ok (.aload_n 0, 1) := by decide +kernel
theorem dX4_make_27 : decode cX4_make 27 = .ok (.dup, 1) := by decide +kernel
theorem dX4_make_28 : decode cX4_make 28 = .ok (.getfield 77, 3) := by decide +kernel
theorem dX4_make_31 : decode cX4_make 31 = .ok (.iconst 1, 1) := by decide +kernel
theorem dX4_make_32 : decode cX4_make 32 = .ok (.iadd, 1) := by decide +kernel
theorem dX4_make_33 : decode cX4_make 33 = .ok (.putfield 77, 3) := by decide +kernel
theorem dX4_make_36 : decode cX4_make 36 = .ok (.aload_n 0, 1) := by decide +kernel
theorem dX4_make_37 : decode cX4_make 37 = .ok (.iload_n 2, 1) := by decide +kernel
theorem dX4_make_38 : decode cX4_make 38 = .ok (.invokevirtual 115, 3) := by decide +kernel
theorem dX4_make_41 : decode cX4_make 41 = .ok (.return_, 1) := by decide +kernel
set_option maxRecDepth 20000 in
theorem ggX4_before_X4_has : GoodIn wsX4_before wsX4_has := goodIn_r _ [9, 10, 11, 12, 13, 14, 15, 16, 17, 18, 19, 20, 21, 22, 23, 24, 25, 26, 27, 28, 29, 30, 31, 32, 33, 34, 35] (by decide +kernel) (by decide +kernel)
set_option maxRecDepth 20000 in
theorem gX4_before_X4_has : GoodIn wsX4_before (wsV RX4 102 RX4 yX4_has wsX4_has) := goodIn_app (goodIn_of _ (by decide +kernel)) ggX4_before_X4_has
theorem dX4_before_0 : decode cX4_before 0 = .ok (.iconst 0, 1) := by decide +kernel
theorem dX4_before_1 : decode cX4_before 1 = .ok (.istore_n 2, 1) := by decide +kernel
theorem dX4_before_2 : decode cX4_before 2 = .ok (.iload_n 2, 1) := by decide +kernel
theorem dX4_before_3 : decode cX4_before 3 = .ok (.aload_n 0, 1) := by decide +kernel
theorem dX4_before_4 : decode cX4_before 4 = .ok (.getfield 77, 3) := by decide +kernel
theorem dX4_before_7 : decode cX4_before 7 = .ok (.if_icmp .ge 39, 3) := by decide +kernel
theorem dX4_before_10 : decode cX4_before 10 = .ok (.aload_n 0, 1) := by decide +kernel
theorem dX4_before_11 : decode cX4_before 11 = .ok (.getfield 46, 3) := by decide +kernel
theorem dX4_before_14 : decode cX4_before 14 = .ok (.iload_n 2, 1) := by decide +kernel
theorem dX4_before_15 : decode cX4_before 15 = .ok (.baload, 1) := by decide +kernel
theorem dX4_before_16 : decode cX4_before 16 = .ok (.ifCond .eq 24, 3) := by decide +kernel
theorem dX4_before_19 : decode cX4_before 19 = .ok (.aload_n 0, 1) := by decide +kernel
theorem dX4_before_20 : decode cX4_before 20 = .ok (.iload_n 2, 1) := by decide +kernel
theorem dX4_before_21 : decode cX4_before 21 = .ok (.aload_n 0, 1) := by decide +kernel
theorem dX4_before_22 : decode cX4_before 22 = .ok (.getfield 13, 3) := by decide +kernel
theorem dX4_before_25 : decode cX4_before 25 = .ok (.aload_n 0, 1) := by decide +kernel
theorem dX4_before_26 : decode cX4_before 26 = .ok (.getfield 37, 3) := by decide +kernel
theorem dX4_before_29 : decode cX4_before 29 = .ok (.iload_n 1, 1) := by decide +kernel
theorem dX4_before_30 : decode cX4_before 30 = .ok (.iaload, 1) := by decide +kernel
theorem dX4_before_31 : decode cX4_before 31 = .ok (.iaload, 1) := by decide +kernel
theorem dX4_before_32 : decode cX4_before 32 = .ok (.invokevirtual 102, 3) := by decide +kernel
theorem dX4_before_35 : decode cX4_before 35 = .ok (.ifCond .eq 5, 3) := by decide +kernel
theorem dX4_before_38 : decode cX4_before 38 = .ok (.iload_n 2, 1) := by decide +kernel
theorem dX4_before_39 : decode cX4_before 39 = .ok (.ireturn, 1) := by decide +kernel
theorem dX4_before_40 : decode cX4_before 40 = .ok (.iinc 2 1, 3) := by decide +kernel
theorem dX4_before_43 : decode cX4_before 43 = .ok (.goto (-41), 3) := by decide +kernel
theorem dX4_before_46 : decode cX4_before 46 = .ok (.iconst (-1), 1) := by decide +kernel
theorem dX4_before_47 : decode cX4_before 47 = .ok (.ireturn, 1) := by decide +kernel
set_option maxRecDepth 20000 in
theorem ggX4_joinRing_X4_before : GoodIn wsX4_joinRing wsX4_before := goodIn_r _ [9, 1, 2, 10, 11, 12, 13, 14, 8, 15, 3, 43, 44, 45, 46, 47, 48, 49, 50, 51, 52, 53, 54, 55, 56, 57, 58, 59, 60, 61, 62, 63, 64, 65, 66, 67] (by decide +kernel) (by decide +kernel)
set_option maxRecDepth 20000 in
theorem gX4_joinRing_X4_before : GoodIn wsX4_joinRing (wsV RX4 119 RX4 yX4_before wsX4_before) := goodIn_app (goodIn_of _ (by decide +kernel)) ggX4_joinRing_X4_before
set_option maxRecDepth 20000 in
theorem ggX4_joinRing_X4_make : GoodIn wsX4_joinRing wsX4_make := goodIn_r _ [19, 1, 3, 4, 2, 20, 21, 22, 8, 23, 11, 24, 25, 26, 10, 27, 28, 29, 30, 31, 32, 12, 13, 14, 15, 33, 34, 35, 36, 37, 38, 39, 40, 41, 42, 43, 44, 45, 46, 47, 48, 49, 50, 51, 52, 53, 54, 55, 56, 57, 58, 59, 60, 61, 62, 63, 64, 65, 66, 67] (by decide +kernel) (by decide +kernel)
set_option maxRecDepth 20000 in
theorem gX4_joinRing_X4_make : GoodIn wsX4_joinRing (wsV RX4 123 RX4 yX4_make wsX4_make) := goodIn_app (goodIn_of _ (by decide +kernel)) ggX4_joinRing_X4_make
theorem dX4_joinRing_0 : decode cX4_joinRing 0 = .ok (.iconst 0, 1) := by decide +kernel
theorem dX4_joinRing_1 : decode cX4_joinRing 1 = .ok (.istore_n 1, 1) := by decide +kernel
theorem dX4_joinRing_2 : decode cX4_joinRing 2 = .ok (.iload_n 1, 1) := by decide +kernel
theorem dX4_joinRing_3 : decode cX4_joinRing 3 = .ok (.aload_n 0, 1) := by decide +kernel
theorem dX4_joinRing_4 : decode cX4_joinRing 4 = .ok (.getfield 77, 3) := by decide +kernel
theorem dX4_joinRing_7 : decode cX4_joinRing 7 = .ok (.if_icmp .ge 148, 3) := by decide +kernel
theorem dX4_joinRing_10 : decode cX4_joinRing 10 = .ok (.aload_n 0, 1) := by decide +kernel
theorem dX4_joinRing_11 : decode cX4_joinRing 11 = .ok (.getfield 46, 3) := by decide +kernel
theorem dX4_joinRing_14 : decode cX4_joinRing 14 = .ok (.iload_n 1, 1) := by decide +kernel
theorem dX4_joinRing_15 : decode cX4_joinRing 15 = .ok (.baload, 1) := by decide +kernel
theorem dX4_joinRing_16 : decode cX4_joinRing 16 = .ok (.ifCond .eq 133, 3) := by decide +kernel
theorem dX4_joinRing_19 : decode cX4_joinRing 19 = .ok (.aload_n 0, 1) := by decide +kernel
theorem dX4_joinRing_20 : decode cX4_joinRing 20 = .ok (.getfield 34, 3) := by decide +kernel
theorem dX4_joinRing_23 : decode cX4_joinRing 23 = .ok (.iload_n 1, 1) := by decide +kernel
theorem dX4_joinRing_24 : decode cX4_joinRing 24 = .ok (.iaload, 1) := by decide +kernel
theorem dX4_joinRing_25 : decode cX4_joinRing 25 = .ok (.istore_n 2, 1) := by decide +kernel
theorem dX4_joinRing_26 : decode cX4_joinRing 26 = .ok (.aload_n 0, 1) := by decide +kernel
theorem dX4_joinRing_27 : decode cX4_joinRing 27 = .ok (.iload_n 1, 1) := by decide +kernel
theorem dX4_joinRing_28 : decode cX4_joinRing 28 = .ok (.invokevirtual 119, 3) := by decide +kernel
theorem dX4_joinRing_31 : decode cX4_joinRing 31 = .ok (.istore_n 3, 1) := by decide +kernel
theorem dX4_joinRing_32 : decode cX4_joinRing 32 = .ok (.iconst 0, 1) := by decide +kernel
theorem dX4_joinRing_33 : decode cX4_joinRing 33 = .ok (.istore 4, 2) := by decide +kernel
theorem dX4_joinRing_35 : decode cX4_joinRing 35 = .ok (.iload_n 3, 1) := by decide +kernel
theorem dX4_joinRing_36 : decode cX4_joinRing 36 = .ok (.ifCond .lt 36, 3) := by decide +kernel
theorem dX4_joinRing_39 : decode cX4_joinRing 39 = .ok (.iload_n 3, 1) := by decide +kernel
theorem dX4_joinRing_40 : decode cX4_joinRing 40 = .ok (.iload_n 1, 1) := by decide +kernel
theorem dX4_joinRing_41 : decode cX4_joinRing 41 = .ok (.if_icmp .eq 31, 3) := by decide +kernel
theorem dX4_joinRing_44 : decode cX4_joinRing 44 = .ok (.iload 4, 2) := by decide +kernel
theorem dX4_joinRing_46 : decode cX4_joinRing 46 = .ok (.bipush 48, 2) := by decide +kernel
theorem dX4_joinRing_48 : decode cX4_joinRing 48 = .ok (.if_icmp .ge 24, 3) := by decide +kernel
theorem dX4_joinRing_51 : decode cX4_joinRing 51 = .ok (.iload_n 2, 1) := by decide +kernel
theorem dX4_joinRing_52 : decode cX4_joinRing 52 = .ok (.aload_n 0, 1) := by decide +kernel
theorem dX4_joinRing_53 : decode cX4_joinRing 53 = .ok (.getfield 34, 3) := by decide +kernel
theorem dX4_joinRing_56 : decode cX4_joinRing 56 = .ok (.iload_n 3, 1) := by decide +kernel
theorem dX4_joinRing_57 : decode cX4_joinRing 57 = .ok (.iaload, 1) := by decide +kernel
theorem dX4_joinRing_58 : decode cX4_joinRing 58 = .ok (.ior, 1) := by decide +kernel
theorem dX4_joinRing_59 : decode cX4_joinRing 59 = .ok (.istore_n 2, 1) := by decide +kernel
theorem dX4_joinRing_60 : decode cX4_joinRing 60 = .ok (.aload_n 0, 1) := by decide +kernel
theorem dX4_joinRing_61 : decode cX4_joinRing 61 = .ok (.iload_n 3, 1) := by decide +kernel
theorem dX4_joinRing_62 : decode cX4_joinRing 62 = .ok (.invokevirtual 119, 3) := by decide +kernel
theorem dX4_joinRing_65 : decode cX4_joinRing 65 = .ok (.istore_n 3, 1) := by decide +kernel
theorem dX4_joinRing_66 : decode cX4_joinRing 66 = .ok (.iinc 4 1, 3) := by decide +kernel
theorem dX4_joinRing_69 : decode cX4_joinRing 69 = .ok (.goto (-34), 3) := by decide +kernel
theorem dX4_joinRing_72 : decode cX4_joinRing 72 = .ok (.iload_n 3, 1) := by decide +kernel
theorem dX4_joinRing_73 : decode cX4_joinRing 73 = .ok (.iload_n 1, 1) := by decide +kernel
theorem dX4_joinRing_74 : decode cX4_joinRing 74 = .ok (.if_icmp .ne 75, 3) := by decide +kernel
theorem dX4_joinRing_77 : decode cX4_joinRing 77 = .ok (.aload_n 0, 1) := by decide +kernel
theorem dX4_joinRing_78 : decode cX4_joinRing 78 = .ok (.getfield 77, 3) := by decide +kernel
theorem dX4_joinRing_81 : decode cX4_joinRing 81 = .ok (.istore 5, 2) := by decide +kernel
theorem dX4_joinRing_83 : decode cX4_joinRing 83 = .ok (.iconst 0, 1) := by decide +kernel
theorem dX4_joinRing_84 : decode cX4_joinRing 84 = .ok (.istore 6, 2) := by decide +kernel
theorem dX4_joinRing_86 : decode cX4_joinRing 86 = .ok (.iload 6, 2) := by decide +kernel
theorem dX4_joinRing_88 : decode cX4_joinRing 88 = .ok (.aload_n 0, 1) := by decide +kernel
theorem dX4_joinRing_89 : decode cX4_joinRing 89 = .ok (.getfield 77, 3) := by decide +kernel
theorem dX4_joinRing_92 : decode cX4_joinRing 92 = .ok (.if_icmp .ge 50, 3) := by decide +kernel
theorem dX4_joinRing_95 : decode cX4_joinRing 95 = .ok (.aload_n 0, 1) := by decide +kernel
theorem dX4_joinRing_96 : decode cX4_joinRing 96 = .ok (.getfield 46, 3) := by decide +kernel
theorem dX4_joinRing_99 : decode cX4_joinRing 99 = .ok (.iload 6, 2) := by decide +kernel
theorem dX4_joinRing_101 : decode cX4_joinRing 101 = .ok (.baload, 1) := by decide +kernel
theorem dX4_joinRing_102 : decode cX4_joinRing 102 = .ok (.ifCond .eq 34, 3) := by decide +kernel
theorem dX4_joinRing_105 : decode cX4_joinRing 105 = .ok (.aload_n 0, 1) := by decide +kernel
theorem dX4_joinRing_106 : decode cX4_joinRing 106 = .ok (.getfield 34, 3) := by decide +kernel
theorem dX4_joinRing_109 : decode cX4_joinRing 109 = .ok (.iload 6, 2) := by decide +kernel
theorem dX4_joinRing_111 : decode cX4_joinRing 111 = .ok (.iaload, 1) := by decide +kernel
theorem dX4_joinRing_112 : decode cX4_joinRing 112 = .ok (.iload_n 2, 1) := by decide +kernel
theorem dX4_joinRing_113 : decode cX4_joinRing 113 = .ok (.iconst (-1), 1) := by decide +kernel
theorem dX4_joinRing_114 : decode cX4_joinRing 114 = .ok (.ixor, 1) := by decide +kernel
theorem dX4_joinRing_115 : decode cX4_joinRing 115 = .ok (.iand, 1) := by decide +kernel
theorem dX4_joinRing_116 : decode cX4_joinRing 116 = .ok (.ifCond .ne 20, 3) := by decide +kernel
theorem dX4_joinRing_119 : decode cX4_joinRing 119 = .ok (.aload_n 0, 1) := by decide +kernel
theorem dX4_joinRing_120 : decode cX4_joinRing 120 = .ok (.getfield 46, 3) := by decide +kernel
theorem dX4_joinRing_123 : decode cX4_joinRing 123 = .ok (.iload 6, 2) := by decide +kernel
theorem dX4_joinRing_125 : decode cX4_joinRing 125 = .ok (.iconst 0, 1) := by decide +kernel
theorem dX4_joinRing_126 : decode cX4_joinRing 126 = .ok (.bastore, 1) := by decide +kernel
theorem dX4_joinRing_127 : decode cX4_joinRing 127 = .ok (.aload_n 0, 1) := by decide +kernel
theorem dX4_joinRing_128 : decode cX4_joinRing 128 = .ok (.getfield 43, 3) := by decide +kernel
theorem dX4_joinRing_131 : decode cX4_joinRing 131 = .ok (.iload 6, 2) := by decide +kernel
theorem dX4_joinRing_133 : decode cX4_joinRing 133 = .ok (.iload 5, 2) := by decide +kernel
theorem dX4_joinRing_135 : decode cX4_joinRing 135 = .ok (.iastore, 1) := by decide +kernel
theorem dX4_joinRing_136 : decode cX4_joinRing 136 = .ok (.iinc 6 1, 3) := by decide +kernel
theorem dX4_joinRing_139 : decode cX4_joinRing 139 = .ok (.goto (-53), 3) := by decide +kernel
theorem dX4_joinRing_142 : decode cX4_joinRing 142 = .ok (.aload_n 0, 1) := by decide +kernel
theorem dX4_joinRing_143 : decode cX4_joinRing 143 = .ok (.iload_n 2, 1) := by decide +kernel
theorem dX4_joinRing_144 : decode cX4_joinRing 144 = .ok (.invokevirtual 123, 3) := by decide +kernel
theorem dX4_joinRing_147 : decode cX4_joinRing 147 = .ok (.iconst 1, 1) := by decide +kernel
theorem dX4_joinRing_148 : decode cX4_joinRing 148 = .ok (.ireturn, 1) := by decide +kernel
theorem dX4_joinRing_149 : decode cX4_joinRing 149 = .ok (.iinc 1 1, 3) := by decide +kernel
theorem dX4_joinRing_152 : decode cX4_joinRing 152 = .ok (.goto (-150), 3) := by decide +kernel
theorem dX4_joinRing_155 : decode cX4_joinRing 155 = .ok (.iconst 0, 1) := by decide +kernel
theorem dX4_joinRing_156 : decode cX4_joinRing 156 = .ok (.ireturn, 1) := by decide +kernel
theorem dX4_bits_0 : decode cX4_bits 0 = .ok (.iconst 0, 1) := by decide +kernel
theorem dX4_bits_1 : decode cX4_bits 1 = .ok (.istore_n 1, 1) := by decide +kernel
theorem dX4_bits_2 : decode cX4_bits 2 = .ok (.iconst 0, 1) := by decide +kernel
theorem dX4_bits_3 : decode cX4_bits 3 = .ok (.istore_n 2, 1) := by decide +kernel
theorem dX4_bits_4 : decode cX4_bits 4 = .ok (.iload_n 2, 1) := by decide +kernel
theorem dX4_bits_5 : decode cX4_bits 5 = .ok (.bipush 24, 2) := by decide +kernel
theorem dX4_bits_7 : decode cX4_bits 7 = .ok (.if_icmp .ge 17, 3) := by decide +kernel
theorem dX4_bits_10 : decode cX4_bits 10 = .ok (.iload_n 1, 1) := by decide +kernel
theorem dX4_bits_11 : decode cX4_bits 11 = .ok (.iload_n 0, 1) := by decide +kernel
theorem dX4_bits_12 : decode cX4_bits 12 = .ok (.iload_n 2, 1) := by decide +kernel
theorem dX4_bits_13 : decode cX4_bits 13 = .ok (.ishr, 1) := by decide +kernel
theorem dX4_bits_14 : decode cX4_bits 14 = .ok (.iconst 1, 1) := by decide +kernel
theorem dX4_bits_15 : decode cX4_bits 15 = .ok (.iand, 1) := by decide +kernel
theorem dX4_bits_16 : decode cX4_bits 16 = .ok (.iadd, 1) := by decide +kernel
theorem dX4_bits_17 : decode cX4_bits 17 = .ok (.istore_n 1, 1) := by decide +kernel
theorem dX4_bits_18 : decode cX4_bits 18 = .ok (.iinc 2 1, 3) := by decide +kernel
theorem dX4_bits_21 : decode cX4_bits 21 = .ok (.goto (-17), 3) := by decide +kernel
theorem dX4_bits_24 : decode cX4_bits 24 = .ok (.iload_n 1, 1) := by decide +kernel
theorem dX4_bits_25 : decode cX4_bits 25 = .ok (.ireturn, 1) := by decide +kernel
theorem dX4_leastOf_0 : decode cX4_leastOf 0 = .ok (.iconst 0, 1) := by decide +kernel
theorem dX4_leastOf_1 : decode cX4_leastOf 1 = .ok (.istore_n 1, 1) := by decide +kernel
theorem dX4_leastOf_2 : decode cX4_leastOf 2 = .ok (.iload_n 0, 1) := by decide +kernel
theorem dX4_leastOf_3 : decode cX4_leastOf 3 = .ok (.iload_n 1, 1) := by decide +kernel
theorem dX4_leastOf_4 : decode cX4_leastOf 4 = .ok (.ishr, 1) := by decide +kernel
theorem dX4_leastOf_5 : decode cX4_leastOf 5 = .ok (.iconst 1, 1) := by decide +kernel
theorem dX4_leastOf_6 : decode cX4_leastOf 6 = .ok (.iand, 1) := by decide +kernel
theorem dX4_leastOf_7 : decode cX4_leastOf 7 = .ok (.ifCond .ne 9, 3) := by decide +kernel
theorem dX4_leastOf_10 : decode cX4_leastOf 10 = .ok (.iinc 1 1, 3) := by decide +kernel
theorem dX4_leastOf_13 : decode cX4_leastOf 13 = .ok (.goto (-11), 3) := by decide +kernel
theorem dX4_leastOf_16 : decode cX4_leastOf 16 = .ok (.iload_n 1, 1) := by decide +kernel
theorem dX4_leastOf_17 : decode cX4_leastOf 17 = .ok (.ireturn, 1) := by decide +kernel
set_option maxRecDepth 20000 in
theorem ggX4_isBefore_X4_bits : GoodIn wsX4_isBefore wsX4_bits := goodIn_r _ [5] (by decide +kernel) (by decide +kernel)
set_option maxRecDepth 20000 in
theorem gX4_isBefore_X4_bits : GoodIn wsX4_isBefore (va_wsS RX4 126 yX4_bits wsX4_bits) := goodIn_app (goodIn_of _ (by decide +kernel)) ggX4_isBefore_X4_bits
set_option maxRecDepth 20000 in
theorem ggX4_isBefore_X4_leastOf : GoodIn wsX4_isBefore wsX4_leastOf := goodIn_r _ [8] (by decide +kernel) (by decide +kernel)
set_option maxRecDepth 20000 in
theorem gX4_isBefore_X4_leastOf : GoodIn wsX4_isBefore (va_wsS RX4 129 yX4_leastOf wsX4_leastOf) := goodIn_app (goodIn_of _ (by decide +kernel)) ggX4_isBefore_X4_leastOf
theorem dX4_isBefore_0 : decode cX4_isBefore 0 = .ok (.aload_n 0, 1) := by decide +kernel
theorem dX4_isBefore_1 : decode cX4_isBefore 1 = .ok (.getfield 34, 3) := by decide +kernel
theorem dX4_isBefore_4 : decode cX4_isBefore 4 = .ok (.iload_n 1, 1) := by decide +kernel
theorem dX4_isBefore_5 : decode cX4_isBefore 5 = .ok (.iaload, 1) := by decide +kernel
theorem dX4_isBefore_6 : decode cX4_isBefore 6 = .ok (.invokestatic 126, 3) := by decide +kernel
theorem dX4_isBefore_9 : decode cX4_isBefore 9 = .ok (.istore_n 3, 1) := by decide +kernel
theorem dX4_isBefore_10 : decode cX4_isBefore 10 = .ok (.aload_n 0, 1) := by decide +kernel
theorem dX4_isBefore_11 : decode cX4_isBefore 11 = .ok (.getfield 34, 3) := by decide +kernel
theorem dX4_isBefore_14 : decode cX4_isBefore 14 = .ok (.iload_n 2, 1) := by decide +kernel
theorem dX4_isBefore_15 : decode cX4_isBefore 15 = .ok (.iaload, 1) := by decide +kernel
theorem dX4_isBefore_16 : decode cX4_isBefore 16 = .ok (.invokestatic 126, 3) := by decide +kernel
theorem dX4_isBefore_19 : decode cX4_isBefore 19 = .ok (.istore 4, 2) := by decide +kernel
theorem dX4_isBefore_21 : decode cX4_isBefore 21 = .ok (.iload_n 3, 1) := by decide +kernel
theorem dX4_isBefore_22 : decode cX4_isBefore 22 = .ok (.iload 4, 2) := by decide +kernel
theorem dX4_isBefore_24 : decode cX4_isBefore 24 = .ok (.if_icmp .eq 17, 3) := by decide +kernel
theorem dX4_isBefore_27 : decode cX4_isBefore 27 = .ok (.iload_n 3, 1) := by decide +kernel
theorem dX4_isBefore_28 : decode cX4_isBefore 28 = .ok (.iload 4, 2) := by decide +kernel
theorem dX4_isBefore_30 : decode cX4_isBefore 30 = .ok (.if_icmp .ge 7, 3) := by decide +kernel
theorem dX4_isBefore_33 : decode cX4_isBefore 33 = .ok (.iconst 1, 1) := by decide +kernel
theorem dX4_isBefore_34 : decode cX4_isBefore 34 = .ok (.goto 33, 3) := by decide +kernel
theorem dX4_isBefore_37 : decode cX4_isBefore 37 = .ok (.iconst 0, 1) := by decide +kernel
theorem dX4_isBefore_38 : decode cX4_isBefore 38 = .ok (.goto 29, 3) := by decide +kernel
theorem dX4_isBefore_41 : decode cX4_isBefore 41 = .ok (.aload_n 0, 1) := by decide +kernel
theorem dX4_isBefore_42 : decode cX4_isBefore 42 = .ok (.getfield 34, 3) := by decide +kernel
theorem dX4_isBefore_45 : decode cX4_isBefore 45 = .ok (.iload_n 1, 1) := by decide +kernel
theorem dX4_isBefore_46 : decode cX4_isBefore 46 = .ok (.iaload, 1) := by decide +kernel
theorem dX4_isBefore_47 : decode cX4_isBefore 47 = .ok (.invokestatic 129, 3) := by decide +kernel
theorem dX4_isBefore_50 : decode cX4_isBefore 50 = .ok (.aload_n 0, 1) := by decide +kernel
theorem dX4_isBefore_51 : decode cX4_isBefore 51 = .ok (.getfield 34, 3) := by decide +kernel
theorem dX4_isBefore_54 : decode cX4_isBefore 54 = .ok (.iload_n 2, 1) := by decide +kernel
theorem dX4_isBefore_55 : decode cX4_isBefore 55 = .ok (.iaload, 1) := by decide +kernel
theorem dX4_isBefore_56 : decode cX4_isBefore 56 = .ok (.invokestatic 129, 3) := by decide +kernel
theorem dX4_isBefore_59 : decode cX4_isBefore 59 = .ok (.if_icmp .ge 7, 3) := by decide +kernel
theorem dX4_isBefore_62 : decode cX4_isBefore 62 = .ok (.iconst 1, 1) := by decide +kernel
theorem dX4_isBefore_63 : decode cX4_isBefore 63 = .ok (.goto 4, 3) := by decide +kernel
theorem dX4_isBefore_66 : decode cX4_isBefore 66 = .ok (.iconst 0, 1) := by decide +kernel
theorem dX4_isBefore_67 : decode cX4_isBefore 67 = .ok (.ireturn, 1) := by decide +kernel
set_option maxRecDepth 20000 in
theorem ggX4_number_X4_isBefore : GoodIn wsX4_number wsX4_isBefore := goodIn_r _ [7, 8, 9, 10, 6, 11, 12, 13, 14, 15, 16, 17, 18, 19, 20, 21, 22, 23, 24, 25, 26, 27, 28, 29, 30, 31, 32, 33, 34, 35, 36, 37, 38, 39] (by decide +kernel) (by decide +kernel)
set_option maxRecDepth 20000 in
theorem gX4_number_X4_isBefore : GoodIn wsX4_number (wsV RX4 132 RX4 yX4_isBefore wsX4_isBefore) := goodIn_app (goodIn_of _ (by decide +kernel)) ggX4_number_X4_isBefore
theorem dX4_number_0 : decode cX4_number 0 = .ok (.iconst 0, 1) := by decide +kernel
theorem dX4_number_1 : decode cX4_number 1 = .ok (.istore_n 1, 1) := by decide +kernel
theorem dX4_number_2 : decode cX4_number 2 = .ok (.iload_n 1, 1) := by decide +kernel
theorem dX4_number_3 : decode cX4_number 3 = .ok (.aload_n 0, 1) := by decide +kernel
theorem dX4_number_4 : decode cX4_number 4 = .ok (.getfield 77, 3) := by decide +kernel
theorem dX4_number_7 : decode cX4_number 7 = .ok (.if_icmp .ge 58, 3) := by decide +kernel
theorem dX4_number_10 : decode cX4_number 10 = .ok (.iload_n 1, 1) := by decide +kernel
theorem dX4_number_11 : decode cX4_number 11 = .ok (.istore_n 2, 1) := by decide +kernel
theorem dX4_number_12 : decode cX4_number 12 = .ok (.iload_n 2, 1) := by decide +kernel
theorem dX4_number_13 : decode cX4_number 13 = .ok (.ifCond .le 39, 3) := by decide +kernel
theorem dX4_number_16 : decode cX4_number 16 = .ok (.aload_n 0, 1) := by decide +kernel
theorem dX4_number_17 : decode cX4_number 17 = .ok (.iload_n 1, 1) := by decide +kernel
theorem dX4_number_18 : decode cX4_number 18 = .ok (.aload_n 0, 1) := by decide +kernel
theorem dX4_number_19 : decode cX4_number 19 = .ok (.getfield 58, 3) := by decide +kernel
theorem dX4_number_22 : decode cX4_number 22 = .ok (.iload_n 2, 1) := by decide +kernel
theorem dX4_number_23 : decode cX4_number 23 = .ok (.iconst 1, 1) := by decide +kernel
theorem dX4_number_24 : decode cX4_number 24 = .ok (.isub, 1) := by decide +kernel
theorem dX4_number_25 : decode cX4_number 25 = .ok (.iaload, 1) := by decide +kernel
theorem dX4_number_26 : decode cX4_number 26 = .ok (.invokevirtual 132, 3) := by decide +kernel
theorem dX4_number_29 : decode cX4_number 29 = .ok (.ifCond .eq 23, 3) := by decide +kernel
theorem dX4_number_32 : decode cX4_number 32 = .ok (.aload_n 0, 1) := by decide +kernel
theorem dX4_number_33 : decode cX4_number 33 = .ok (.getfield 58, 3) := by decide +kernel
theorem dX4_number_36 : decode cX4_number 36 = .ok (.iload_n 2, 1) := by decide +kernel
theorem dX4_number_37 : decode cX4_number 37 = .ok (.aload_n 0, 1) := by decide +kernel
theorem dX4_number_38 : decode cX4_number 38 = .ok (.getfield 58, 3) := by decide +kernel
theorem dX4_number_41 : decode cX4_number 41 = .ok (.iload_n 2, 1) := by decide +kernel
theorem dX4_number_42 : decode cX4_number 42 = .ok (.iconst 1, 1) := by decide +kernel
theorem dX4_number_43 : decode cX4_number 43 = .ok (.isub, 1) := by decide +kernel
theorem dX4_number_44 : decode cX4_number 44 = .ok (.iaload, 1) := by decide +kernel
theorem dX4_number_45 : decode cX4_number 45 = .ok (.iastore, 1) := by decide +kernel
theorem dX4_number_46 : decode cX4_number 46 = .ok (.iinc 2 (-1), 3) := by decide +kernel
theorem dX4_number_49 : decode cX4_number 49 = .ok (.goto (-37), 3) := by decide +kernel
theorem dX4_number_52 : decode cX4_number 52 = .ok (.aload_n 0, 1) := by decide +kernel
theorem dX4_number_53 : decode cX4_number 53 = .ok (.getfield 58, 3) := by decide +kernel
theorem dX4_number_56 : decode cX4_number 56 = .ok (.iload_n 2, 1) := by decide +kernel
theorem dX4_number_57 : decode cX4_number 57 = .ok (.iload_n 1, 1) := by decide +kernel
theorem dX4_number_58 : decode cX4_number 58 = .ok (.iastore, 1) := by decide +kernel
theorem dX4_number_59 : decode cX4_number 59 = .ok (.iinc 1 1, 3) := by decide +kernel
theorem dX4_number_62 : decode cX4_number 62 = .ok (.goto (-60), 3) := by decide +kernel
theorem dX4_number_65 : decode cX4_number 65 = .ok (.return_, 1) := by decide +kernel
set_option maxRecDepth 20000 in
theorem ggX4_solve_X4_forget : GoodIn wsX4_solve wsX4_forget := goodIn_r _ [17, 2, 3, 7, 78, 79, 80, 81, 82, 83, 84, 85, 86, 87, 88, 89, 90, 91, 92, 93, 94, 95, 96, 97, 98, 99, 100, 101, 102] (by decide +kernel) (by decide +kernel)
set_option maxRecDepth 20000 in
theorem gX4_solve_X4_forget : GoodIn wsX4_solve (wsV RX4 80 RX4 yX4_forget wsX4_forget) := goodIn_app (goodIn_of _ (by decide +kernel)) ggX4_solve_X4_forget
set_option maxRecDepth 20000 in
theorem ggX4_solve_X4_reach : GoodIn wsX4_solve wsX4_reach := goodIn_r _ [21, 4, 22, 6, 23, 24, 25, 10, 78, 79, 80, 81, 82, 83, 84, 85, 86, 87, 88, 89, 90, 91, 92, 93, 94, 95, 96, 97, 98, 99, 100, 101, 102] (by decide +kernel) (by decide +kernel)
set_option maxRecDepth 20000 in
theorem gX4_solve_X4_reach : GoodIn wsX4_solve (wsV RX4 135 RX4 yX4_reach wsX4_reach) := goodIn_app (goodIn_of _ (by decide +kernel)) ggX4_solve_X4_reach
set_option maxRecDepth 20000 in
theorem ggX4_solve_X4_make : GoodIn wsX4_solve wsX4_make := goodIn_r _ [29, 7, 12, 8, 30, 31, 32, 33, 16, 34, 11, 23, 24, 10, 25, 35, 36, 37, 38, 39, 40, 41, 42, 43, 44, 45, 46, 47, 48, 49, 50, 51, 52, 53, 54, 78, 79, 80, 81, 82, 83, 84, 85, 86, 87, 88, 89, 90, 91, 92, 93, 94, 95, 96, 97, 98, 99, 100, 101, 102] (by decide +kernel) (by decide +kernel)
set_option maxRecDepth 20000 in
theorem gX4_solve_X4_make : GoodIn wsX4_solve (wsV RX4 123 RX4 yX4_make wsX4_make) := goodIn_app (goodIn_of _ (by decide +kernel)) ggX4_solve_X4_make
set_option maxRecDepth 20000 in
theorem ggX4_solve_X4_joinRing : GoodIn wsX4_solve wsX4_joinRing := goodIn_r _ [58, 7, 30, 12, 8, 59, 60, 61, 16, 62, 25, 11, 41, 42, 43, 44, 26, 27, 28, 29, 31, 32, 33, 34, 23, 24, 10, 35, 36, 37, 38, 39, 40, 45, 46, 47, 48, 49, 50, 51, 52, 53, 54, 78, 79, 80, 81, 82, 83, 84, 85, 86, 87, 88, 89, 90, 91, 92, 93, 94, 95, 96, 97, 98, 99, 100, 101, 102] (by decide +kernel) (by decide +kernel)
set_option maxRecDepth 20000 in
theorem gX4_solve_X4_joinRing : GoodIn wsX4_solve (wsV RX4 139 RX4 yX4_joinRing wsX4_joinRing) := goodIn_app (goodIn_of _ (by decide +kernel)) ggX4_solve_X4_joinRing
set_option maxRecDepth 20000 in
theorem ggX4_solve_X4_has : GoodIn wsX4_solve wsX4_has := goodIn_r _ [44, 12, 78, 79, 80, 81, 82, 83, 84, 85, 86, 87, 88, 89, 90, 91, 92, 93, 94, 95, 96, 97, 98, 99, 100, 101, 102] (by decide +kernel) (by decide +kernel)
set_option maxRecDepth 20000 in
theorem gX4_solve_X4_has : GoodIn wsX4_solve (wsV RX4 102 RX4 yX4_has wsX4_has) := goodIn_app (goodIn_of _ (by decide +kernel)) ggX4_solve_X4_has
set_option maxRecDepth 20000 in
theorem ggX4_solve_X4_bits : GoodIn wsX4_solve wsX4_bits := goodIn_r _ [65] (by decide +kernel) (by decide +kernel)
set_option maxRecDepth 20000 in
theorem gX4_solve_X4_bits : GoodIn wsX4_solve (va_wsS RX4 126 yX4_bits wsX4_bits) := goodIn_app (goodIn_of _ (by decide +kernel)) ggX4_solve_X4_bits
set_option maxRecDepth 20000 in
theorem ggX4_solve_X4_leastOf : GoodIn wsX4_solve wsX4_leastOf := goodIn_r _ [68] (by decide +kernel) (by decide +kernel)
set_option maxRecDepth 20000 in
theorem gX4_solve_X4_leastOf : GoodIn wsX4_solve (va_wsS RX4 129 yX4_leastOf wsX4_leastOf) := goodIn_app (goodIn_of _ (by decide +kernel)) ggX4_solve_X4_leastOf
set_option maxRecDepth 20000 in
theorem ggX4_solve_X4_number : GoodIn wsX4_solve wsX4_number := goodIn_r _ [72, 7, 73, 74, 75, 76, 16, 77, 12, 63, 64, 65, 66, 67, 68, 78, 79, 80, 81, 82, 83, 84, 85, 86, 87, 88, 89, 90, 91, 92, 93, 94, 95, 96, 97, 98, 99, 100, 101, 102] (by decide +kernel) (by decide +kernel)
set_option maxRecDepth 20000 in
theorem gX4_solve_X4_number : GoodIn wsX4_solve (wsV RX4 143 RX4 yX4_number wsX4_number) := goodIn_app (goodIn_of _ (by decide +kernel)) ggX4_solve_X4_number
theorem dX4_solve_0 : decode cX4_solve 0 = .ok (.aload_n 0, 1) := by decide +kernel
theorem dX4_solve_1 : decode cX4_solve 1 = .ok (.iconst 0, 1) := by decide +kernel
theorem dX4_solve_2 : decode cX4_solve 2 = .ok (.putfield 64, 3) := by decide +kernel
theorem dX4_solve_5 : decode cX4_solve 5 = .ok (.aload_n 0, 1) := by decide +kernel
theorem dX4_solve_6 : decode cX4_solve 6 = .ok (.invokevirtual 80, 3) := by decide +kernel
theorem dX4_solve_9 : decode cX4_solve 9 = .ok (.aload_n 0, 1) := by decide +kernel
theorem dX4_solve_10 : decode cX4_solve 10 = .ok (.iconst 1, 1) := by decide +kernel
theorem dX4_solve_11 : decode cX4_solve 11 = .ok (.putfield 70, 3) := by decide +kernel
theorem dX4_solve_14 : decode cX4_solve 14 = .ok (.aload_n 0, 1) := by decide +kernel
theorem dX4_solve_15 : decode cX4_solve 15 = .ok (.invokevirtual 135, 3) := by decide +kernel
theorem dX4_solve_18 : decode cX4_solve 18 = .ok (.istore_n 1, 1) := by decide +kernel
theorem dX4_solve_19 : decode cX4_solve 19 = .ok (.iload_n 1, 1) := by decide +kernel
theorem dX4_solve_20 : decode cX4_solve 20 = .ok (.ifCond .le 5, 3) := by decide +kernel
theorem dX4_solve_23 : decode cX4_solve 23 = .ok (.iload_n 1, 1) := by decide +kernel
theorem dX4_solve_24 : decode cX4_solve 24 = .ok (.ireturn, 1) := by decide +kernel
theorem dX4_solve_25 : decode cX4_solve 25 = .ok (.aload_n 0, 1) := by decide +kernel
theorem dX4_solve_26 : decode cX4_solve 26 = .ok (.iconst 1, 1) := by decide +kernel
theorem dX4_solve_27 : decode cX4_solve 27 = .ok (.putfield 74, 3) := by decide +kernel
theorem dX4_solve_30 : decode cX4_solve 30 = .ok (.iconst 0, 1) := by decide +kernel
theorem dX4_solve_31 : decode cX4_solve 31 = .ok (.istore_n 2, 1) := by decide +kernel
theorem dX4_solve_32 : decode cX4_solve 32 = .ok (.iload_n 2, 1) := by decide +kernel
theorem dX4_solve_33 : decode cX4_solve 33 = .ok (.aload_n 0, 1) := by decide +kernel
theorem dX4_solve_34 : decode cX4_solve 34 = .ok (.getfield 7, 3) := by decide +kernel
theorem dX4_solve_37 : decode cX4_solve 37 = .ok (.if_icmp .ge 31, 3) := by decide +kernel
theorem dX4_solve_40 : decode cX4_solve 40 = .ok (.aload_n 0, 1) := by decide +kernel
theorem dX4_solve_41 : decode cX4_solve 41 = .ok (.getfield 31, 3) := by decide +kernel
theorem dX4_solve_44 : decode cX4_solve 44 = .ok (.iload_n 2, 1) := by decide +kernel
theorem dX4_solve_45 : decode cX4_solve 45 = .ok (.iconst (-1), 1) := by decide +kernel
theorem dX4_solve_46 : decode cX4_solve 46 = .ok (.iastore, 1) := by decide +kernel
theorem dX4_solve_47 : decode cX4_solve 47 = .ok (.iload_n 2, 1) := by decide +kernel
theorem dX4_solve_48 : decode cX4_solve 48 = .ok (.aload_n 0, 1) := by decide +kernel
theorem dX4_solve_49 : decode cX4_solve 49 = .ok (.getfield 61, 3) := by decide +kernel
theorem dX4_solve_52 : decode cX4_solve 52 = .ok (.if_icmp .eq 10, 3) := by decide +kernel
theorem dX4_solve_55 : decode cX4_solve 55 = .ok (.aload_n 0, 1) := by decide +kernel
theorem dX4_solve_56 : decode cX4_solve 56 = .ok (.iconst 1, 1) := by decide +kernel
theorem dX4_solve_57 : decode cX4_solve 57 = .ok (.iload_n 2, 1) := by decide +kernel
theorem dX4_solve_58 : decode cX4_solve 58 = .ok (.ishl, 1) := by decide +kernel
theorem dX4_solve_59 : decode cX4_solve 59 = .ok (.invokevirtual 123, 3) := by decide +kernel
theorem dX4_solve_62 : decode cX4_solve 62 = .ok (.iinc 2 1, 3) := by decide +kernel
theorem dX4_solve_65 : decode cX4_solve 65 = .ok (.goto (-33), 3) := by decide +kernel
theorem dX4_solve_68 : decode cX4_solve 68 = .ok (.iconst 1, 1) := by decide +kernel
theorem dX4_solve_69 : decode cX4_solve 69 = .ok (.istore_n 2, 1) := by decide +kernel
theorem dX4_solve_70 : decode cX4_solve 70 = .ok (.iload_n 2, 1) := by decide +kernel
theorem dX4_solve_71 : decode cX4_solve 71 = .ok (.ifCond .eq 11, 3) := by decide +kernel
theorem dX4_solve_74 : decode cX4_solve 74 = .ok (.aload_n 0, 1) := by decide +kernel
theorem dX4_solve_75 : decode cX4_solve 75 = .ok (.invokevirtual 139, 3) := by decide +kernel
theorem dX4_solve_78 : decode cX4_solve 78 = .ok (.istore_n 2, 1) := by decide +kernel
theorem dX4_solve_79 : decode cX4_solve 79 = .ok (.goto (-9), 3) := by decide +kernel
theorem dX4_solve_82 : decode cX4_solve 82 = .ok (.aload_n 0, 1) := by decide +kernel
theorem dX4_solve_83 : decode cX4_solve 83 = .ok (.getfield 77, 3) := by decide +kernel
theorem dX4_solve_86 : decode cX4_solve 86 = .ok (.iconst 1, 1) := by decide +kernel
theorem dX4_solve_87 : decode cX4_solve 87 = .ok (.isub, 1) := by decide +kernel
theorem dX4_solve_88 : decode cX4_solve 88 = .ok (.istore_n 3, 1) := by decide +kernel
theorem dX4_solve_89 : decode cX4_solve 89 = .ok (.iload_n 3, 1) := by decide +kernel
theorem dX4_solve_90 : decode cX4_solve 90 = .ok (.ifCond .lt 97, 3) := by decide +kernel
theorem dX4_solve_93 : decode cX4_solve 93 = .ok (.aload_n 0, 1) := by decide +kernel
theorem dX4_solve_94 : decode cX4_solve 94 = .ok (.getfield 43, 3) := by decide +kernel
theorem dX4_solve_97 : decode cX4_solve 97 = .ok (.iload_n 3, 1) := by decide +kernel
theorem dX4_solve_98 : decode cX4_solve 98 = .ok (.iaload, 1) := by decide +kernel
theorem dX4_solve_99 : decode cX4_solve 99 = .ok (.istore 4, 2) := by decide +kernel
theorem dX4_solve_101 : decode cX4_solve 101 = .ok (.aload_n 0, 1) := by decide +kernel
theorem dX4_solve_102 : decode cX4_solve 102 = .ok (.getfield 40, 3) := by decide +kernel
theorem dX4_solve_105 : decode cX4_solve 105 = .ok (.iload_n 3, 1) := by decide +kernel
theorem dX4_solve_106 : decode cX4_solve 106 = .ok (.iload 4, 2) := by decide +kernel
theorem dX4_solve_108 : decode cX4_solve 108 = .ok (.ifCond .lt 33, 3) := by decide +kernel
theorem dX4_solve_111 : decode cX4_solve 111 = .ok (.aload_n 0, 1) := by decide +kernel
theorem dX4_solve_112 : decode cX4_solve 112 = .ok (.iload_n 3, 1) := by decide +kernel
theorem dX4_solve_113 : decode cX4_solve 113 = .ok (.aload_n 0, 1) := by decide +kernel
theorem dX4_solve_114 : decode cX4_solve 114 = .ok (.getfield 17, 3) := by decide +kernel
theorem dX4_solve_117 : decode cX4_solve 117 = .ok (.aload_n 0, 1) := by decide +kernel
theorem dX4_solve_118 : decode cX4_solve 118 = .ok (.getfield 40, 3) := by decide +kernel
theorem dX4_solve_121 : decode cX4_solve 121 = .ok (.iload 4, 2) := by decide +kernel
theorem dX4_solve_123 : decode cX4_solve 123 = .ok (.iaload, 1) := by decide +kernel
theorem dX4_solve_124 : decode cX4_solve 124 = .ok (.iaload, 1) := by decide +kernel
theorem dX4_solve_125 : decode cX4_solve 125 = .ok (.invokevirtual 102, 3) := by decide +kernel
theorem dX4_solve_128 : decode cX4_solve 128 = .ok (.ifCond .eq 13, 3) := by decide +kernel
theorem dX4_solve_131 : decode cX4_solve 131 = .ok (.aload_n 0, 1) := by decide +kernel
theorem dX4_solve_132 : decode cX4_solve 132 = .ok (.getfield 40, 3) := by decide +kernel
theorem dX4_solve_135 : decode cX4_solve 135 = .ok (.iload 4, 2) := by decide +kernel
theorem dX4_solve_137 : decode cX4_solve 137 = .ok (.iaload, 1) := by decide +kernel
theorem dX4_solve_138 : decode cX4_solve 138 = .ok (.goto 9, 3) := by decide +kernel
theorem dX4_solve_141 : decode cX4_solve 141 = .ok (.aload_n 0, 1) := by decide +kernel
theorem dX4_solve_142 : decode cX4_solve 142 = .ok (.getfield 37, 3) := by decide +kernel
theorem dX4_solve_145 : decode cX4_solve 145 = .ok (.iload_n 3, 1) := by decide +kernel
theorem dX4_solve_146 : decode cX4_solve 146 = .ok (.iaload, 1) := by decide +kernel
theorem dX4_solve_147 : decode cX4_solve 147 = .ok (.iastore, 1) := by decide +kernel
theorem dX4_solve_148 : decode cX4_solve 148 = .ok (.aload_n 0, 1) := by decide +kernel
theorem dX4_solve_149 : decode cX4_solve 149 = .ok (.getfield 34, 3) := by decide +kernel
theorem dX4_solve_152 : decode cX4_solve 152 = .ok (.iload_n 3, 1) := by decide +kernel
theorem dX4_solve_153 : decode cX4_solve 153 = .ok (.iaload, 1) := by decide +kernel
theorem dX4_solve_154 : decode cX4_solve 154 = .ok (.invokestatic 126, 3) := by decide +kernel
theorem dX4_solve_157 : decode cX4_solve 157 = .ok (.iconst 1, 1) := by decide +kernel
theorem dX4_solve_158 : decode cX4_solve 158 = .ok (.if_icmp .ne 23, 3) := by decide +kernel
theorem dX4_solve_161 : decode cX4_solve 161 = .ok (.aload_n 0, 1) := by decide +kernel
theorem dX4_solve_162 : decode cX4_solve 162 = .ok (.getfield 31, 3) := by decide +kernel
theorem dX4_solve_165 : decode cX4_solve 165 = .ok (.aload_n 0, 1) := by decide +kernel
theorem dX4_solve_166 : decode cX4_solve 166 = .ok (.getfield 34, 3) := by decide +kernel
theorem dX4_solve_169 : decode cX4_solve 169 = .ok (.iload_n 3, 1) := by decide +kernel
theorem dX4_solve_170 : decode cX4_solve 170 = .ok (.iaload, 1) := by decide +kernel
theorem dX4_solve_171 : decode cX4_solve 171 = .ok (.invokestatic 129, 3) := by decide +kernel
theorem dX4_solve_174 : decode cX4_solve 174 = .ok (.aload_n 0, 1) := by decide +kernel
theorem dX4_solve_175 : decode cX4_solve 175 = .ok (.getfield 40, 3) := by decide +kernel
theorem dX4_solve_178 : decode cX4_solve 178 = .ok (.iload_n 3, 1) := by decide +kernel
theorem dX4_solve_179 : decode cX4_solve 179 = .ok (.iaload, 1) := by decide +kernel
theorem dX4_solve_180 : decode cX4_solve 180 = .ok (.iastore, 1) := by decide +kernel
theorem dX4_solve_181 : decode cX4_solve 181 = .ok (.iinc 3 (-1), 3) := by decide +kernel
theorem dX4_solve_184 : decode cX4_solve 184 = .ok (.goto (-95), 3) := by decide +kernel
theorem dX4_solve_187 : decode cX4_solve 187 = .ok (.aload_n 0, 1) := by decide +kernel
theorem dX4_solve_188 : decode cX4_solve 188 = .ok (.invokevirtual 143, 3) := by decide +kernel
theorem dX4_solve_191 : decode cX4_solve 191 = .ok (.iconst 0, 1) := by decide +kernel
theorem dX4_solve_192 : decode cX4_solve 192 = .ok (.ireturn, 1) := by decide +kernel
theorem dX4_cost_0 : decode cX4_cost 0 = .ok (.aload_n 0, 1) := by decide +kernel
theorem dX4_cost_1 : decode cX4_cost 1 = .ok (.iconst 0, 1) := by decide +kernel
theorem dX4_cost_2 : decode cX4_cost 2 = .ok (.putfield 64, 3) := by decide +kernel
theorem dX4_cost_5 : decode cX4_cost 5 = .ok (.lconst 0, 1) := by decide +kernel
theorem dX4_cost_6 : decode cX4_cost 6 = .ok (.lstore_n 1, 1) := by decide +kernel
theorem dX4_cost_7 : decode cX4_cost 7 = .ok (.iconst 0, 1) := by decide +kernel
theorem dX4_cost_8 : decode cX4_cost 8 = .ok (.istore_n 3, 1) := by decide +kernel
theorem dX4_cost_9 : decode cX4_cost 9 = .ok (.iload_n 3, 1) := by decide +kernel
theorem dX4_cost_10 : decode cX4_cost 10 = .ok (.aload_n 0, 1) := by decide +kernel
theorem dX4_cost_11 : decode cX4_cost 11 = .ok (.getfield 7, 3) := by decide +kernel
theorem dX4_cost_14 : decode cX4_cost 14 = .ok (.if_icmp .ge 43, 3) := by decide +kernel
theorem dX4_cost_17 : decode cX4_cost 17 = .ok (.aload_n 0, 1) := by decide +kernel
theorem dX4_cost_18 : decode cX4_cost 18 = .ok (.getfield 74, 3) := by decide +kernel
theorem dX4_cost_21 : decode cX4_cost 21 = .ok (.ifCond .eq 36, 3) := by decide +kernel
theorem dX4_cost_24 : decode cX4_cost 24 = .ok (.lload_n 1, 1) := by decide +kernel
theorem dX4_cost_25 : decode cX4_cost 25 = .ok (.aload_n 0, 1) := by decide +kernel
theorem dX4_cost_26 : decode cX4_cost 26 = .ok (.getfield 31, 3) := by decide +kernel
theorem dX4_cost_29 : decode cX4_cost 29 = .ok (.iload_n 3, 1) := by decide +kernel
theorem dX4_cost_30 : decode cX4_cost 30 = .ok (.iaload, 1) := by decide +kernel
theorem dX4_cost_31 : decode cX4_cost 31 = .ok (.ifCond .lt 17, 3) := by decide +kernel
theorem dX4_cost_34 : decode cX4_cost 34 = .ok (.aload_n 0, 1) := by decide +kernel
theorem dX4_cost_35 : decode cX4_cost 35 = .ok (.getfield 20, 3) := by decide +kernel
theorem dX4_cost_38 : decode cX4_cost 38 = .ok (.aload_n 0, 1) := by decide +kernel
theorem dX4_cost_39 : decode cX4_cost 39 = .ok (.getfield 31, 3) := by decide +kernel
theorem dX4_cost_42 : decode cX4_cost 42 = .ok (.iload_n 3, 1) := by decide +kernel
theorem dX4_cost_43 : decode cX4_cost 43 = .ok (.iaload, 1) := by decide +kernel
theorem dX4_cost_44 : decode cX4_cost 44 = .ok (.laload, 1) := by decide +kernel
theorem dX4_cost_45 : decode cX4_cost 45 = .ok (.goto 4, 3) := by decide +kernel
theorem dX4_cost_48 : decode cX4_cost 48 = .ok (.lconst 0, 1) := by decide +kernel
