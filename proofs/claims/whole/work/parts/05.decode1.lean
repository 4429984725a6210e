theorem dX2_arcsOnWayTo_3 : decode cX2_arcsOnWayTo 3 = .ok (.getfield 9, 3) := by decide +kernel
theorem dX2_arcsOnWayTo_6 : decode cX2_arcsOnWayTo 6 = .ok (.iload_n 1, 1) := by decide +kernel
theorem dX2_arcsOnWayTo_7 : decode cX2_arcsOnWayTo 7 = .ok (.iaload, 1) := by decide +kernel
theorem dX2_arcsOnWayTo_8 : decode cX2_arcsOnWayTo 8 = .ok (.istore_n 3, 1) := by decide +kernel
theorem dX2_arcsOnWayTo_9 : decode cX2_arcsOnWayTo 9 = .ok (.iload_n 3, 1) := by decide +kernel
theorem dX2_arcsOnWayTo_10 : decode cX2_arcsOnWayTo 10 = .ok (.iconst (-1), 1) := by decide +kernel
theorem dX2_arcsOnWayTo_11 : decode cX2_arcsOnWayTo 11 = .ok (.if_icmp .eq 30, 3) := by decide +kernel
theorem dX2_arcsOnWayTo_14 : decode cX2_arcsOnWayTo 14 = .ok (.iload_n 2, 1) := by decide +kernel
theorem dX2_arcsOnWayTo_15 : decode cX2_arcsOnWayTo 15 = .ok (.bipush 24, 2) := by decide +kernel
theorem dX2_arcsOnWayTo_17 : decode cX2_arcsOnWayTo 17 = .ok (.if_icmp .ge 24, 3) := by decide +kernel
theorem dX2_arcsOnWayTo_20 : decode cX2_arcsOnWayTo 20 = .ok (.iinc 2 1, 3) := by decide +kernel
theorem dX2_arcsOnWayTo_23 : decode cX2_arcsOnWayTo 23 = .ok (.aload_n 0, 1) := by decide +kernel
theorem dX2_arcsOnWayTo_24 : decode cX2_arcsOnWayTo 24 = .ok (.getfield 9, 3) := by decide +kernel
theorem dX2_arcsOnWayTo_27 : decode cX2_arcsOnWayTo 27 = .ok (.aload_n 0, 1) := by decide +kernel
theorem dX2_arcsOnWayTo_28 : decode cX2_arcsOnWayTo 28 = .ok (.getfield 15, 3) := by decide +kernel
theorem dX2_arcsOnWayTo_31 : decode cX2_arcsOnWayTo 31 = .ok (.getfield 53, 3) := by decide +kernel
theorem dX2_arcsOnWayTo_34 : decode cX2_arcsOnWayTo 34 = .ok (.iload_n 3, 1) := by decide +kernel
theorem dX2_arcsOnWayTo_35 : decode cX2_arcsOnWayTo 35 = .ok (.iaload, 1) := by decide +kernel
theorem dX2_arcsOnWayTo_36 : decode cX2_arcsOnWayTo 36 = .ok (.iaload, 1) := by decide +kernel
theorem dX2_arcsOnWayTo_37 : decode cX2_arcsOnWayTo 37 = .ok (.istore_n 3, 1) := by decide +kernel
theorem dX2_arcsOnWayTo_38 : decode cX2_arcsOnWayTo 38 = .ok (.goto (-29), 3) := by decide +kernel
theorem dX2_arcsOnWayTo_41 : decode cX2_arcsOnWayTo 41 = .ok (.iload_n 2, 1) := by decide +kernel
theorem dX2_arcsOnWayTo_42 : decode cX2_arcsOnWayTo 42 = .ok (.ireturn, 1) := by decide +kernel
theorem dX2_weightOfWayTo_0 : decode cX2_weightOfWayTo 0 = .ok (.lconst 0, 1) := by decide +kernel
theorem dX2_weightOfWayTo_1 : decode cX2_weightOfWayTo 1 = .ok (.lstore_n 2, 1) := by decide +kernel
theorem dX2_weightOfWayTo_2 : decode cX2_weightOfWayTo 2 = .ok (.aload_n 0, 1) := by decide +kernel
theorem dX2_weightOfWayTo_3 : decode cX2_weightOfWayTo 3 = .ok (.getfield 9, 3) := by decide +kernel
theorem dX2_weightOfWayTo_6 : decode cX2_weightOfWayTo 6 = .ok (.iload_n 1, 1) := by decide +kernel
theorem dX2_weightOfWayTo_7 : decode cX2_weightOfWayTo 7 = .ok (.iaload, 1) := by decide +kernel
theorem dX2_weightOfWayTo_8 : decode cX2_weightOfWayTo 8 = .ok (.istore 4, 2) := by decide +kernel
theorem dX2_weightOfWayTo_10 : decode cX2_weightOfWayTo 10 = .ok (.iconst 0, 1) := by decide +kernel
theorem dX2_weightOfWayTo_11 : decode cX2_weightOfWayTo 11 = .ok (.istore 5, 2) := by decide +kernel
theorem dX2_weightOfWayTo_13 : decode cX2_weightOfWayTo 13 = .ok (.iload 5, 2) := by decide +kernel
theorem dX2_weightOfWayTo_15 : decode cX2_weightOfWayTo 15 = .ok (.bipush 24, 2) := by decide +kernel
theorem dX2_weightOfWayTo_17 : decode cX2_weightOfWayTo 17 = .ok (.if_icmp .ge 45, 3) := by decide +kernel
theorem dX2_weightOfWayTo_20 : decode cX2_weightOfWayTo 20 = .ok (.iload 4, 2) := by decide +kernel
theorem dX2_weightOfWayTo_22 : decode cX2_weightOfWayTo 22 = .ok (.iconst (-1), 1) := by decide +kernel
theorem dX2_weightOfWayTo_23 : decode cX2_weightOfWayTo 23 = .ok (.if_icmp .eq 39, 3) := by decide +kernel
theorem dX2_weightOfWayTo_26 : decode cX2_weightOfWayTo 26 = .ok (.lload_n 2, 1) := by decide +kernel
theorem dX2_weightOfWayTo_27 : decode cX2_weightOfWayTo 27 = .ok (.aload_n 0, 1) := by decide +kernel
theorem dX2_weightOfWayTo_28 : decode cX2_weightOfWayTo 28 = .ok (.getfield 15, 3) := by decide +kernel
theorem dX2_weightOfWayTo_31 : decode cX2_weightOfWayTo 31 = .ok (.getfield 49, 3) := by decide +kernel
theorem dX2_weightOfWayTo_34 : decode cX2_weightOfWayTo 34 = .ok (.iload 4, 2) := by decide +kernel
theorem dX2_weightOfWayTo_36 : decode cX2_weightOfWayTo 36 = .ok (.laload, 1) := by decide +kernel
theorem dX2_weightOfWayTo_37 : decode cX2_weightOfWayTo 37 = .ok (.ladd, 1) := by decide +kernel
theorem dX2_weightOfWayTo_38 : decode cX2_weightOfWayTo 38 = .ok (.lstore_n 2, 1) := by decide +kernel
theorem dX2_weightOfWayTo_39 : decode cX2_weightOfWayTo 39 = .ok (.aload_n 0, 1) := by decide +kernel
theorem dX2_weightOfWayTo_40 : decode cX2_weightOfWayTo 40 = .ok (.getfield 9, 3) := by decide +kernel
theorem dX2_weightOfWayTo_43 : decode cX2_weightOfWayTo 43 = .ok (.aload_n 0, 1) := by decide +kernel
theorem dX2_weightOfWayTo_44 : decode cX2_weightOfWayTo 44 = .ok (.getfield 15, 3) := by decide +kernel
theorem dX2_weightOfWayTo_47 : decode cX2_weightOfWayTo 47 = .ok (.getfield 53, 3) := by decide +kernel
theorem dX2_weightOfWayTo_50 : decode cX2_weightOfWayTo 50 = .ok (.iload 4, 2) := by decide +kernel
theorem dX2_weightOfWayTo_52 : decode cX2_weightOfWayTo 52 = .ok (.iaload, 1) := by decide +kernel
theorem dX2_weightOfWayTo_53 : decode cX2_weightOfWayTo 53 = .ok (.iaload, 1) := by decide +kernel
theorem dX2_weightOfWayTo_54 : decode cX2_weightOfWayTo 54 = .ok (.istore 4, 2) := by decide +kernel
theorem dX2_weightOfWayTo_56 : decode cX2_weightOfWayTo 56 = .ok (.iinc 5 1, 3) := by decide +kernel
theorem dX2_weightOfWayTo_59 : decode cX2_weightOfWayTo 59 = .ok (.goto (-46), 3) := by decide +kernel
theorem dX2_weightOfWayTo_62 : decode cX2_weightOfWayTo 62 = .ok (.lload_n 2, 1) := by decide +kernel
theorem dX2_weightOfWayTo_63 : decode cX2_weightOfWayTo 63 = .ok (.lreturn, 1) := by decide +kernel
set_option maxRecDepth 20000 in
theorem ggX3_init_X1_init : GoodIn wsX3_init wsX1_init := goodIn_r _ [20, 21, 2, 3, 22, 23, 24, 25, 26, 27, 28, 29, 30, 31, 56, 57, 58, 59, 60, 61, 62] (by decide +kernel) (by decide +kernel)
set_option maxRecDepth 20000 in
theorem gX3_init_X1_init : GoodIn wsX3_init (wsX1_init) := ggX3_init_X1_init
set_option maxRecDepth 20000 in
theorem ggX3_init_X0_init : GoodIn wsX3_init wsX0_init := goodIn_r _ [34, 35, 2, 3, 22, 36, 37, 38, 25, 39, 40, 41, 42, 43, 44, 45, 46, 47, 48, 68, 69, 70, 71, 72, 73, 74, 75, 76, 77, 78, 79, 80] (by decide +kernel) (by decide +kernel)
set_option maxRecDepth 20000 in
theorem gX3_init_X0_init : GoodIn wsX3_init (wsX0_init) := ggX3_init_X0_init
set_option maxRecDepth 20000 in
theorem ggX3_init_X2_init : GoodIn wsX3_init wsX2_init := goodIn_r _ [51, 52, 2, 3, 22, 53, 54, 55, 81, 82, 83] (by decide +kernel) (by decide +kernel)
set_option maxRecDepth 20000 in
theorem gX3_init_X2_init : GoodIn wsX3_init (wsX2_init) := ggX3_init_X2_init
theorem dX3_init_0 : decode cX3_init 0 = .ok (.aload_n 0, 1) := by decide +kernel
theorem dX3_init_1 : decode cX3_init 1 = .ok (.invokespecial 3, 3) := by decide +kernel
theorem dX3_init_4 : decode cX3_init 4 = .ok (.aload_n 0, 1) := by decide +kernel
theorem dX3_init_5 : decode cX3_init 5 = .ok (.new 9, 3) := by decide +kernel
theorem dX3_init_8 : decode cX3_init 8 = .ok (.dup, 1) := by decide +kernel
theorem dX3_init_9 : decode cX3_init 9 = .ok (.invokespecial 11, 3) := by decide +kernel
theorem dX3_init_12 : decode cX3_init 12 = .ok (.putfield 12, 3) := by decide +kernel
theorem dX3_init_15 : decode cX3_init 15 = .ok (.aload_n 0, 1) := by decide +kernel
theorem dX3_init_16 : decode cX3_init 16 = .ok (.new 16, 3) := by decide +kernel
theorem dX3_init_19 : decode cX3_init 19 = .ok (.dup, 1) := by decide +kernel
theorem dX3_init_20 : decode cX3_init 20 = .ok (.aload_n 0, 1) := by decide +kernel
theorem dX3_init_21 : decode cX3_init 21 = .ok (.getfield 12, 3) := by decide +kernel
theorem dX3_init_24 : decode cX3_init 24 = .ok (.invokespecial 18, 3) := by decide +kernel
theorem dX3_init_27 : decode cX3_init 27 = .ok (.putfield 21, 3) := by decide +kernel
theorem dX3_init_30 : decode cX3_init 30 = .ok (.aload_n 0, 1) := by decide +kernel
theorem dX3_init_31 : decode cX3_init 31 = .ok (.new 25, 3) := by decide +kernel
theorem dX3_init_34 : decode cX3_init 34 = .ok (.dup, 1) := by decide +kernel
theorem dX3_init_35 : decode cX3_init 35 = .ok (.aload_n 0, 1) := by decide +kernel
theorem dX3_init_36 : decode cX3_init 36 = .ok (.getfield 12, 3) := by decide +kernel
theorem dX3_init_39 : decode cX3_init 39 = .ok (.aload_n 0, 1) := by decide +kernel
theorem dX3_init_40 : decode cX3_init 40 = .ok (.getfield 21, 3) := by decide +kernel
theorem dX3_init_43 : decode cX3_init 43 = .ok (.invokespecial 27, 3) := by decide +kernel
theorem dX3_init_46 : decode cX3_init 46 = .ok (.putfield 30, 3) := by decide +kernel
theorem dX3_init_49 : decode cX3_init 49 = .ok (.aload_n 0, 1) := by decide +kernel
theorem dX3_init_50 : decode cX3_init 50 = .ok (.iconst 0, 1) := by decide +kernel
theorem dX3_init_51 : decode cX3_init 51 = .ok (.putfield 34, 3) := by decide +kernel
theorem dX3_init_54 : decode cX3_init 54 = .ok (.aload_n 0, 1) := by decide +kernel
theorem dX3_init_55 : decode cX3_init 55 = .ok (.iconst 0, 1) := by decide +kernel
theorem dX3_init_56 : decode cX3_init 56 = .ok (.putfield 38, 3) := by decide +kernel
theorem dX3_init_59 : decode cX3_init 59 = .ok (.return_, 1) := by decide +kernel
set_option maxRecDepth 20000 in
theorem ggX3_nodes_X3_forgetSolution : GoodIn wsX3_nodes wsX3_forgetSolution := goodIn_r _ [11, 12, 13, 14, 15, 16, 17, 18] (by decide +kernel) (by decide +kernel)
set_option maxRecDepth 20000 in
theorem gX3_nodes_X3_forgetSolution : GoodIn wsX3_nodes (wsV RX3 60 RX3 yX3_forgetSolution wsX3_forgetSolution) := goodIn_app (goodIn_of _ (by decide +kernel)) ggX3_nodes_X3_forgetSolution
theorem dX3_nodes_0 : decode cX3_nodes 0 = .ok (.iload_n 1, 1) := by decide +kernel
theorem dX3_nodes_1 : decode cX3_nodes 1 = .ok (.iconst 1, 1) := by decide +kernel
theorem dX3_nodes_2 : decode cX3_nodes 2 = .ok (.if_icmp .lt 9, 3) := by decide +kernel
theorem dX3_nodes_5 : decode cX3_nodes 5 = .ok (.iload_n 1, 1) := by decide +kernel
theorem dX3_nodes_6 : decode cX3_nodes 6 = .ok (.bipush 24, 2) := by decide +kernel
theorem dX3_nodes_8 : decode cX3_nodes 8 = .ok (.if_icmp .le 13, 3) := by decide +kernel
theorem dX3_nodes_11 : decode cX3_nodes 11 = .ok (.new 41, 3) := by decide +kernel
theorem dX3_nodes_14 : decode cX3_nodes 14 = .ok (.dup, 1) := by decide +kernel
theorem dX3_nodes_15 : decode cX3_nodes 15 = .ok (.ldc 43, 2) := by decide +kernel
theorem dX3_nodes_17 : decode cX3_nodes 17 = .ok (.invokespecial 45, 3) := by decide +kernel
theorem dX3_nodes_20 : decode cX3_nodes 20 = .ok (.athrow, 1) := by decide +kernel
theorem dX3_nodes_21 : decode cX3_nodes 21 = .ok (.iload_n 2, 1) := by decide +kernel
theorem dX3_nodes_22 : decode cX3_nodes 22 = .ok (.ifCond .lt 8, 3) := by decide +kernel
theorem dX3_nodes_25 : decode cX3_nodes 25 = .ok (.iload_n 2, 1) := by decide +kernel
theorem dX3_nodes_26 : decode cX3_nodes 26 = .ok (.iload_n 1, 1) := by decide +kernel
theorem dX3_nodes_27 : decode cX3_nodes 27 = .ok (.if_icmp .lt 13, 3) := by decide +kernel
theorem dX3_nodes_30 : decode cX3_nodes 30 = .ok (.new 41, 3) := by decide +kernel
theorem dX3_nodes_33 : decode cX3_nodes 33 = .ok (.dup, 1) := by decide +kernel
theorem dX3_nodes_34 : decode cX3_nodes 34 = .ok (.ldc 48, 2) := by decide +kernel
theorem dX3_nodes_36 : decode cX3_nodes 36 = .ok (.invokespecial 45, 3) := by decide +kernel
theorem dX3_nodes_39 : decode cX3_nodes 39 = .ok (.athrow, 1) := by decide +kernel
theorem dX3_nodes_40 : decode cX3_nodes 40 = .ok (.aload_n 0, 1) := by decide +kernel
theorem dX3_nodes_41 : decode cX3_nodes 41 = .ok (.getfield 12, 3) := by decide +kernel
theorem dX3_nodes_44 : decode cX3_nodes 44 = .ok (.iload_n 1, 1) := by decide +kernel
theorem dX3_nodes_45 : decode cX3_nodes 45 = .ok (.putfield 50, 3) := by decide +kernel
theorem dX3_nodes_48 : decode cX3_nodes 48 = .ok (.aload_n 0, 1) := by decide +kernel
theorem dX3_nodes_49 : decode cX3_nodes 49 = .ok (.getfield 12, 3) := by decide +kernel
theorem dX3_nodes_52 : decode cX3_nodes 52 = .ok (.iload_n 2, 1) := by decide +kernel
theorem dX3_nodes_53 : decode cX3_nodes 53 = .ok (.putfield 54, 3) := by decide +kernel
theorem dX3_nodes_56 : decode cX3_nodes 56 = .ok (.aload_n 0, 1) := by decide +kernel
theorem dX3_nodes_57 : decode cX3_nodes 57 = .ok (.getfield 12, 3) := by decide +kernel
theorem dX3_nodes_60 : decode cX3_nodes 60 = .ok (.iconst 0, 1) := by decide +kernel
theorem dX3_nodes_61 : decode cX3_nodes 61 = .ok (.putfield 57, 3) := by decide +kernel
theorem dX3_nodes_64 : decode cX3_nodes 64 = .ok (.aload_n 0, 1) := by decide +kernel
theorem dX3_nodes_65 : decode cX3_nodes 65 = .ok (.invokevirtual 60, 3) := by decide +kernel
theorem dX3_nodes_68 : decode cX3_nodes 68 = .ok (.return_, 1) := by decide +kernel
set_option maxRecDepth 20000 in
theorem ggX3_arc_X3_checkNode : GoodIn wsX3_arc wsX3_checkNode := goodIn_ca (goodIn_r _ [8, 9, 10, 3, 11, 12, 13, 14, 15, 16, 36, 37, 38, 39, 40, 41, 42, 43, 44, 45, 46, 47] (by decide +kernel) (by decide +kernel)) (goodIn_sub (fun _ h => List.mem_cons_of_mem _ (List.mem_append_right _ h)) (by decide +kernel))
set_option maxRecDepth 20000 in
theorem gX3_arc_X3_checkNode : GoodIn wsX3_arc (wsV RX3 63 RX3 yX3_checkNode wsX3_checkNode) := goodIn_app (goodIn_of _ (by decide +kernel)) ggX3_arc_X3_checkNode
set_option maxRecDepth 20000 in
theorem ggX3_arc_X3_checkWeight : GoodIn wsX3_arc wsX3_checkWeight := goodIn_ca (goodIn_r _ [19, 1, 2, 20] (by decide +kernel) (by decide +kernel)) (goodIn_sub (fun _ h => List.mem_cons_of_mem _ (List.mem_append_left _ (List.mem_append_right _ h))) (by decide +kernel))
set_option maxRecDepth 20000 in
theorem gX3_arc_X3_checkWeight : GoodIn wsX3_arc (va_wsS RX3 69 yX3_checkWeight wsX3_checkWeight) := goodIn_app (goodIn_of _ (by decide +kernel)) ggX3_arc_X3_checkWeight
set_option maxRecDepth 20000 in
theorem ggX3_arc_X1_addArc : GoodIn wsX3_arc wsX1_addArc := goodIn_r _ [24, 25, 26, 27, 28, 29, 41, 42, 43, 44, 45, 46, 47] (by decide +kernel) (by decide +kernel)
set_option maxRecDepth 20000 in
theorem gX3_arc_X1_addArc : GoodIn wsX3_arc (wsV RX3 73 RX1 yX1_addArc wsX1_addArc) := goodIn_app (goodIn_of _ (by decide +kernel)) ggX3_arc_X1_addArc
set_option maxRecDepth 20000 in
theorem ggX3_arc_X3_forgetSolution : GoodIn wsX3_arc wsX3_forgetSolution := goodIn_r _ [33, 34, 35, 36, 37, 38, 39, 40] (by decide +kernel) (by decide +kernel)
set_option maxRecDepth 20000 in
theorem gX3_arc_X3_forgetSolution : GoodIn wsX3_arc (wsV RX3 60 RX3 yX3_forgetSolution wsX3_forgetSolution) := goodIn_app (goodIn_of _ (by decide +kernel)) ggX3_arc_X3_forgetSolution
theorem dX3_arc_0 : decode cX3_arc 0 = .ok (.aload_n 0, 1) := by decide +kernel
theorem dX3_arc_1 : decode cX3_arc 1 = .ok (.iload_n 1, 1) := by decide +kernel
theorem dX3_arc_2 : decode cX3_arc 2 = .ok (.invokevirtual 63, 3) := by decide +kernel
theorem dX3_arc_5 : decode cX3_arc 5 = .ok (.aload_n 0, 1) := by decide +kernel
theorem dX3_arc_6 : decode cX3_arc 6 = .ok (.iload_n 2, 1) := by decide +kernel
theorem dX3_arc_7 : decode cX3_arc 7 = .ok (.invokevirtual 63, 3) := by decide +kernel
theorem dX3_arc_10 : decode cX3_arc 10 = .ok (.iload_n 1, 1) := by decide +kernel
theorem dX3_arc_11 : decode cX3_arc 11 = .ok (.iload_n 2, 1) := by decide +kernel
theorem dX3_arc_12 : decode cX3_arc 12 = .ok (.if_icmp .ne 13, 3) := by decide +kernel
theorem dX3_arc_15 : decode cX3_arc 15 = .ok (.new 41, 3) := by decide +kernel
theorem dX3_arc_18 : decode cX3_arc 18 = .ok (.dup, 1) := by decide +kernel
theorem dX3_arc_19 : decode cX3_arc 19 = .ok (.ldc 67, 2) := by decide +kernel
theorem dX3_arc_21 : decode cX3_arc 21 = .ok (.invokespecial 45, 3) := by decide +kernel
theorem dX3_arc_24 : decode cX3_arc 24 = .ok (.athrow, 1) := by decide +kernel
theorem dX3_arc_25 : decode cX3_arc 25 = .ok (.lload_n 3, 1) := by decide +kernel
theorem dX3_arc_26 : decode cX3_arc 26 = .ok (.invokestatic 69, 3) := by decide +kernel
theorem dX3_arc_29 : decode cX3_arc 29 = .ok (.aload_n 0, 1) := by decide +kernel
theorem dX3_arc_30 : decode cX3_arc 30 = .ok (.getfield 12, 3) := by decide +kernel
theorem dX3_arc_33 : decode cX3_arc 33 = .ok (.iload_n 1, 1) := by decide +kernel
theorem dX3_arc_34 : decode cX3_arc 34 = .ok (.iload_n 2, 1) := by decide +kernel
theorem dX3_arc_35 : decode cX3_arc 35 = .ok (.lload_n 3, 1) := by decide +kernel
theorem dX3_arc_36 : decode cX3_arc 36 = .ok (.invokevirtual 73, 3) := by decide +kernel
theorem dX3_arc_39 : decode cX3_arc 39 = .ok (.istore 5, 2) := by decide +kernel
theorem dX3_arc_41 : decode cX3_arc 41 = .ok (.iload 5, 2) := by decide +kernel
theorem dX3_arc_43 : decode cX3_arc 43 = .ok (.iconst (-1), 1) := by decide +kernel
theorem dX3_arc_44 : decode cX3_arc 44 = .ok (.if_icmp .eq 7, 3) := by decide +kernel
theorem dX3_arc_47 : decode cX3_arc 47 = .ok (.aload_n 0, 1) := by decide +kernel
theorem dX3_arc_48 : decode cX3_arc 48 = .ok (.invokevirtual 60, 3) := by decide +kernel
theorem dX3_arc_51 : decode cX3_arc 51 = .ok (.iload 5, 2) := by decide +kernel
theorem dX3_arc_53 : decode cX3_arc 53 = .ok (.ireturn, 1) := by decide +kernel
set_option maxRecDepth 20000 in
theorem ggX3_weigh_X3_checkArc : GoodIn wsX3_weigh wsX3_checkArc := goodIn_ca (goodIn_r _ [7, 8, 9, 1, 10, 11, 12, 13, 14, 15, 28, 29, 30, 31, 32, 33, 34, 35, 36, 37, 38, 39] (by decide +kernel) (by decide +kernel)) (goodIn_sub (fun _ h => List.mem_cons_of_mem _ (List.mem_append_left _ (List.mem_append_right _ h))) (by decide +kernel))
set_option maxRecDepth 20000 in
theorem gX3_weigh_X3_checkArc : GoodIn wsX3_weigh (wsV RX3 77 RX3 yX3_checkArc wsX3_checkArc) := goodIn_app (goodIn_of _ (by decide +kernel)) ggX3_weigh_X3_checkArc
set_option maxRecDepth 20000 in
theorem ggX3_weigh_X3_checkWeight : GoodIn wsX3_weigh wsX3_checkWeight := goodIn_ca (goodIn_r _ [18, 19, 20, 21] (by decide +kernel) (by decide +kernel)) (goodIn_sub (fun _ h => List.mem_cons_of_mem _ (List.mem_append_right _ h)) (by decide +kernel))
set_option maxRecDepth 20000 in
theorem gX3_weigh_X3_checkWeight : GoodIn wsX3_weigh (va_wsS RX3 69 yX3_checkWeight wsX3_checkWeight) := goodIn_app (goodIn_of _ (by decide +kernel)) ggX3_weigh_X3_checkWeight
set_option maxRecDepth 20000 in
theorem ggX3_weigh_X3_forgetSolution : GoodIn wsX3_weigh wsX3_forgetSolution := goodIn_r _ [25, 26, 27, 28, 29, 30, 31, 32] (by decide +kernel) (by decide +kernel)
set_option maxRecDepth 20000 in
theorem gX3_weigh_X3_forgetSolution : GoodIn wsX3_weigh (wsV RX3 60 RX3 yX3_forgetSolution wsX3_forgetSolution) := goodIn_app (goodIn_of _ (by decide +kernel)) ggX3_weigh_X3_forgetSolution
theorem dX3_weigh_0 : decode cX3_weigh 0 = .ok (.aload_n 0, 1) := by decide +kernel
theorem dX3_weigh_1 : decode cX3_weigh 1 = .ok (.iload_n 1, 1) := by decide +kernel
theorem dX3_weigh_2 : decode cX3_weigh 2 = .ok (.invokevirtual 77, 3) := by decide +kernel
theorem dX3_weigh_5 : decode cX3_weigh 5 = .ok (.lload_n 2, 1) := by decide +kernel
theorem dX3_weigh_6 : decode cX3_weigh 6 = .ok (.invokestatic 69, 3) := by decide +kernel
theorem dX3_weigh_9 : decode cX3_weigh 9 = .ok (.aload_n 0, 1) := by decide +kernel
theorem dX3_weigh_10 : decode cX3_weigh 10 = .ok (.getfield 12, 3) := by decide +kernel
theorem dX3_weigh_13 : decode cX3_weigh 13 = .ok (.getfield 80, 3) := by decide +kernel
theorem dX3_weigh_16 : decode cX3_weigh 16 = .ok (.iload_n 1, 1) := by decide +kernel
theorem dX3_weigh_17 : decode cX3_weigh 17 = .ok (.laload, 1) := by decide +kernel
theorem dX3_weigh_18 : decode cX3_weigh 18 = .ok (.lstore 4, 2) := by decide +kernel
theorem dX3_weigh_20 : decode cX3_weigh 20 = .ok (.aload_n 0, 1) := by decide +kernel
theorem dX3_weigh_21 : decode cX3_weigh 21 = .ok (.getfield 12, 3) := by decide +kernel
theorem dX3_weigh_24 : decode cX3_weigh 24 = .ok (.getfield 80, 3) := by decide +kernel
theorem dX3_weigh_27 : decode cX3_weigh 27 = .ok (.iload_n 1, 1) := by decide +kernel
theorem dX3_weigh_28 : decode cX3_weigh 28 = .ok (.lload_n 2, 1) := by decide +kernel
theorem dX3_weigh_29 : decode cX3_weigh 29 = .ok (.lastore, 1) := by decide +kernel
theorem dX3_weigh_30 : decode cX3_weigh 30 = .ok (.aload_n 0, 1) := by decide +kernel
theorem dX3_weigh_31 : decode cX3_weigh 31 = .ok (.invokevirtual 60, 3) := by decide +kernel
theorem dX3_weigh_34 : decode cX3_weigh 34 = .ok (.lload 4, 2) := by decide +kernel
theorem dX3_weigh_36 : decode cX3_weigh 36 = .ok (.lreturn, 1) := by decide +kernel
set_option maxRecDepth 20000 in
theorem ggX3_open_X3_checkArc : GoodIn wsX3_open wsX3_checkArc := goodIn_ca (goodIn_r _ [7, 8, 9, 1, 10, 11, 12, 13, 14, 15, 22, 23, 24, 25, 26, 27, 28, 29, 30, 31, 32, 33] (by decide +kernel) (by decide +kernel)) (goodIn_sub (fun _ h => List.mem_cons_of_mem _ (List.mem_append_right _ h)) (by decide +kernel))
set_option maxRecDepth 20000 in
theorem gX3_open_X3_checkArc : GoodIn wsX3_open (wsV RX3 77 RX3 yX3_checkArc wsX3_checkArc) := goodIn_app (goodIn_of _ (by decide +kernel)) ggX3_open_X3_checkArc
set_option maxRecDepth 20000 in
theorem ggX3_open_X3_forgetSolution : GoodIn wsX3_open wsX3_forgetSolution := goodIn_r _ [19, 20, 21, 22, 23, 24, 25, 26] (by decide +kernel) (by decide +kernel)
set_option maxRecDepth 20000 in
theorem gX3_open_X3_forgetSolution : GoodIn wsX3_open (wsV RX3 60 RX3 yX3_forgetSolution wsX3_forgetSolution) := goodIn_app (goodIn_of _ (by decide +kernel)) ggX3_open_X3_forgetSolution
theorem dX3_open_0 : decode cX3_open 0 = .ok (.aload_n 0, 1) := by decide +kernel
theorem dX3_open_1 : decode cX3_open 1 = .ok (.iload_n 1, 1) := by decide +kernel
theorem dX3_open_2 : decode cX3_open 2 = .ok (.invokevirtual 77, 3) := by decide +kernel
theorem dX3_open_5 : decode cX3_open 5 = .ok (.aload_n 0, 1) := by decide +kernel
theorem dX3_open_6 : decode cX3_open 6 = .ok (.getfield 12, 3) := by decide +kernel
theorem dX3_open_9 : decode cX3_open 9 = .ok (.getfield 84, 3) := by decide +kernel
theorem dX3_open_12 : decode cX3_open 12 = .ok (.iload_n 1, 1) := by decide +kernel
theorem dX3_open_13 : decode cX3_open 13 = .ok (.baload, 1) := by decide +kernel
theorem dX3_open_14 : decode cX3_open 14 = .ok (.istore_n 3, 1) := by decide +kernel
theorem dX3_open_15 : decode cX3_open 15 = .ok (.aload_n 0, 1) := by decide +kernel
theorem dX3_open_16 : decode cX3_open 16 = .ok (.getfield 12, 3) := by decide +kernel
theorem dX3_open_19 : decode cX3_open 19 = .ok (.getfield 84, 3) := by decide +kernel
theorem dX3_open_22 : decode cX3_open 22 = .ok (.iload_n 1, 1) := by decide +kernel
theorem dX3_open_23 : decode cX3_open 23 = .ok (.iload_n 2, 1) := by decide +kernel
theorem dX3_open_24 : decode cX3_open 24 = .ok (.bastore, 1) := by decide +kernel
theorem dX3_open_25 : decode cX3_open 25 = .ok (.aload_n 0, 1) := by decide +kernel
theorem dX3_open_26 : decode cX3_open 26 = .ok (.invokevirtual 60, 3) := by decide +kernel
theorem dX3_open_29 : decode cX3_open 29 = .ok (.iload_n 3, 1) := by decide +kernel
theorem dX3_open_30 : decode cX3_open 30 = .ok (.ireturn, 1) := by decide +kernel
set_option maxRecDepth 20000 in
theorem ggX3_solve_X1_reachedNodes : GoodIn wsX3_solve wsX1_reachedNodes := goodIn_r _ [11, 12, 13, 14, 15, 16, 10, 17, 18, 19, 20, 21, 22, 23, 24, 125, 126, 127, 128, 129, 130, 131] (by decide +kernel) (by decide +kernel)
set_option maxRecDepth 20000 in
theorem gX3_solve_X1_reachedNodes : GoodIn wsX3_solve (wsV RX3 88 RX1 yX1_reachedNodes wsX1_reachedNodes) := goodIn_app (goodIn_of _ (by decide +kernel)) ggX3_solve_X1_reachedNodes
set_option maxRecDepth 20000 in
theorem ggX3_solve_J6_bitCount_0f7a4 : GoodIn wsX3_solve wsJ6_bitCount_0f7a4 := goodIn_r _ [28, 29, 30, 31] (by decide +kernel) (by decide +kernel)
set_option maxRecDepth 20000 in
theorem gX3_solve_J6_bitCount_0f7a4 : GoodIn wsX3_solve (va_wsS RX3 92 yJ6_bitCount_0f7a4 wsJ6_bitCount_0f7a4) := goodIn_app (goodIn_of _ (by decide +kernel)) ggX3_solve_J6_bitCount_0f7a4
set_option maxRecDepth 20000 in
theorem ggX3_solve_X0_grow : GoodIn wsX3_solve wsX0_grow := goodIn_r _ [36, 37, 38, 39, 40, 41, 42, 43, 44, 45, 46, 47, 48, 49, 50, 51, 52, 53, 35, 54, 55, 56, 57, 58, 59, 60, 61, 62, 63, 64, 65, 66, 67, 68, 69, 70, 71, 72, 73, 74, 75, 10, 76, 21, 20, 22, 23, 24, 77, 78, 79, 80, 81, 82, 83, 84, 85, 86, 87, 88, 89, 90, 91, 92, 93, 94, 95, 96, 97, 98, 99, 100, 101, 102, 103, 26, 27, 28, 29, 30, 31, 104, 105, 106, 132, 133, 134, 135, 136, 137, 138, 139, 140, 141, 142, 143, 144, 125, 126, 127, 128, 129, 130, 131] (by decide +kernel) (by decide +kernel)
set_option maxRecDepth 20000 in
theorem gX3_solve_X0_grow : GoodIn wsX3_solve (wsV RX3 98 RX0 yX0_grow wsX0_grow) := goodIn_app (goodIn_of _ (by decide +kernel)) ggX3_solve_X0_grow
set_option maxRecDepth 20000 in
theorem ggX3_solve_X2_unfold : GoodIn wsX3_solve wsX2_unfold := goodIn_r _ [111, 112, 113, 114, 115, 116, 117, 118, 119, 45, 46, 47, 145, 146, 147, 132, 133, 134, 135, 136, 137, 138, 139, 140, 141, 142, 143, 144, 125, 126, 127, 128, 129, 130, 131] (by decide +kernel) (by decide +kernel)
set_option maxRecDepth 20000 in
theorem gX3_solve_X2_unfold : GoodIn wsX3_solve (wsV RX3 101 RX2 yX2_unfold wsX2_unfold) := goodIn_app (goodIn_of _ (by decide +kernel)) ggX3_solve_X2_unfold
theorem dX3_solve_0 : decode cX3_solve 0 = .ok (.aload_n 0, 1) := by decide +kernel
theorem dX3_solve_1 : decode cX3_solve 1 = .ok (.getfield 12, 3) := by decide +kernel
theorem dX3_solve_4 : decode cX3_solve 4 = .ok (.getfield 50, 3) := by decide +kernel
theorem dX3_solve_7 : decode cX3_solve 7 = .ok (.aload_n 0, 1) := by decide +kernel
theorem dX3_solve_8 : decode cX3_solve 8 = .ok (.getfield 12, 3) := by decide +kernel
theorem dX3_solve_11 : decode cX3_solve 11 = .ok (.invokevirtual 88, 3) := by decide +kernel
theorem dX3_solve_14 : decode cX3_solve 14 = .ok (.invokestatic 92, 3) := by decide +kernel
theorem dX3_solve_17 : decode cX3_solve 17 = .ok (.isub, 1) := by decide +kernel
theorem dX3_solve_18 : decode cX3_solve 18 = .ok (.istore_n 1, 1) := by decide +kernel
theorem dX3_solve_19 : decode cX3_solve 19 = .ok (.aload_n 0, 1) := by decide +kernel
theorem dX3_solve_20 : decode cX3_solve 20 = .ok (.iconst 1, 1) := by decide +kernel
theorem dX3_solve_21 : decode cX3_solve 21 = .ok (.putfield 34, 3) := by decide +kernel
theorem dX3_solve_24 : decode cX3_solve 24 = .ok (.aload_n 0, 1) := by decide +kernel
theorem dX3_solve_25 : decode cX3_solve 25 = .ok (.iload_n 1, 1) := by decide +kernel
theorem dX3_solve_26 : decode cX3_solve 26 = .ok (.ifCond .ne 7, 3) := by decide +kernel
theorem dX3_solve_29 : decode cX3_solve 29 = .ok (.iconst 1, 1) := by decide +kernel
theorem dX3_solve_30 : decode cX3_solve 30 = .ok (.goto 4, 3) := by decide +kernel
theorem dX3_solve_33 : decode cX3_solve 33 = .ok (.iconst 0, 1) := by decide +kernel
theorem dX3_solve_34 : decode cX3_solve 34 = .ok (.putfield 38, 3) := by decide +kernel
theorem dX3_solve_37 : decode cX3_solve 37 = .ok (.aload_n 0, 1) := by decide +kernel
theorem dX3_solve_38 : decode cX3_solve 38 = .ok (.getfield 38, 3) := by decide +kernel
theorem dX3_solve_41 : decode cX3_solve 41 = .ok (.ifCond .eq 17, 3) := by decide +kernel
theorem dX3_solve_44 : decode cX3_solve 44 = .ok (.aload_n 0, 1) := by decide +kernel
theorem dX3_solve_45 : decode cX3_solve 45 = .ok (.getfield 21, 3) := by decide +kernel
theorem dX3_solve_48 : decode cX3_solve 48 = .ok (.invokevirtual 98, 3) := by decide +kernel
theorem dX3_solve_51 : decode cX3_solve 51 = .ok (.aload_n 0, 1) := by decide +kernel
theorem dX3_solve_52 : decode cX3_solve 52 = .ok (.getfield 30, 3) := by decide +kernel
theorem dX3_solve_55 : decode cX3_solve 55 = .ok (.invokevirtual 101, 3) := by decide +kernel
theorem dX3_solve_58 : decode cX3_solve 58 = .ok (.iload_n 1, 1) := by decide +kernel
theorem dX3_solve_59 : decode cX3_solve 59 = .ok (.ireturn, 1) := by decide +kernel
set_option maxRecDepth 20000 in
theorem ggX3_cost_X2_sumOfWeights : GoodIn wsX3_cost wsX2_sumOfWeights := goodIn_r _ [8, 9, 10, 11, 12, 18, 19, 20, 21, 22, 23, 24, 25, 26, 27] (by decide +kernel) (by decide +kernel)
set_option maxRecDepth 20000 in
theorem gX3_cost_X2_sumOfWeights : GoodIn wsX3_cost (wsV RX3 104 RX2 yX2_sumOfWeights wsX2_sumOfWeights) := goodIn_app (goodIn_of _ (by decide +kernel)) ggX3_cost_X2_sumOfWeights
theorem dX3_cost_0 : decode cX3_cost 0 = .ok (.aload_n 0, 1) := by decide +kernel
theorem dX3_cost_1 : decode cX3_cost 1 = .ok (.getfield 38, 3) := by decide +kernel
theorem dX3_cost_4 : decode cX3_cost 4 = .ok (.ifCond .eq 13, 3) := by decide +kernel
theorem dX3_cost_7 : decode cX3_cost 7 = .ok (.aload_n 0, 1) := by decide +kernel
theorem dX3_cost_8 : decode cX3_cost 8 = .ok (.getfield 30, 3) := by decide +kernel
theorem dX3_cost_11 : decode cX3_cost 11 = .ok (.invokevirtual 104, 3) := by decide +kernel
theorem dX3_cost_14 : decode cX3_cost 14 = .ok (.goto 6, 3) := by decide +kernel
theorem dX3_cost_17 : decode cX3_cost 17 = .ok (.ldc2_w 108, 3) := by decide +kernel
theorem dX3_cost_20 : decode cX3_cost 20 = .ok (.lreturn, 1) := by decide +kernel
set_option maxRecDepth 20000 in
theorem ggX3_into_X3_checkNode : GoodIn wsX3_into wsX3_checkNode := goodIn_ca (goodIn_r _ [8, 9, 10, 11, 12, 13, 14, 15, 16, 17, 18, 19, 20, 21, 22, 26, 27, 28, 29, 30, 31, 32] (by decide +kernel) (by decide +kernel)) (goodIn_sub (fun _ h => List.mem_cons_of_mem _ (List.mem_append_right _ h)) (by decide +kernel))
set_option maxRecDepth 20000 in
theorem gX3_into_X3_checkNode : GoodIn wsX3_into (wsV RX3 63 RX3 yX3_checkNode wsX3_checkNode) := goodIn_app (goodIn_of _ (by decide +kernel)) ggX3_into_X3_checkNode
theorem dX3_into_0 : decode cX3_into 0 = .ok (.aload_n 0, 1) := by decide +kernel
theorem dX3_into_1 : decode cX3_into 1 = .ok (.iload_n 1, 1) := by decide +kernel
theorem dX3_into_2 : decode cX3_into 2 = .ok (.invokevirtual 63, 3) := by decide +kernel
theorem dX3_into_5 : decode cX3_into 5 = .ok (.aload_n 0, 1) := by decide +kernel
theorem dX3_into_6 : decode cX3_into 6 = .ok (.getfield 38, 3) := by decide +kernel
theorem dX3_into_9 : decode cX3_into 9 = .ok (.ifCond .eq 15, 3) := by decide +kernel
theorem dX3_into_12 : decode cX3_into 12 = .ok (.aload_n 0, 1) := by decide +kernel
theorem dX3_into_13 : decode cX3_into 13 = .ok (.getfield 30, 3) := by decide +kernel
theorem dX3_into_16 : decode cX3_into 16 = .ok (.getfield 110, 3) := by decide +kernel
theorem dX3_into_19 : decode cX3_into 19 = .ok (.iload_n 1, 1) := by decide +kernel
theorem dX3_into_20 : decode cX3_into 20 = .ok (.iaload, 1) := by decide +kernel
theorem dX3_into_21 : decode cX3_into 21 = .ok (.goto 4, 3) := by decide +kernel
theorem dX3_into_24 : decode cX3_into 24 = .ok (.iconst (-1), 1) := by decide +kernel
theorem dX3_into_25 : decode cX3_into 25 = .ok (.ireturn, 1) := by decide +kernel
set_option maxRecDepth 20000 in
theorem ggX3_isReached_X3_checkNode : GoodIn wsX3_isReached wsX3_checkNode := goodIn_ca (goodIn_r _ [6, 7, 8, 1, 9, 10, 11, 12, 13, 14, 31, 32, 33, 34, 35, 36, 37, 38, 39, 40, 41, 42] (by decide +kernel) (by decide +kernel)) (goodIn_sub (fun _ h => List.mem_cons_of_mem _ (List.mem_append_right _ h)) (by decide +kernel))
set_option maxRecDepth 20000 in
theorem gX3_isReached_X3_checkNode : GoodIn wsX3_isReached (wsV RX3 63 RX3 yX3_checkNode wsX3_checkNode) := goodIn_app (goodIn_of _ (by decide +kernel)) ggX3_isReached_X3_checkNode
set_option maxRecDepth 20000 in
theorem ggX3_isReached_X1_reachedNodes : GoodIn wsX3_isReached wsX1_reachedNodes := goodIn_r _ [18, 19, 14, 20, 21, 22, 12, 23, 24, 25, 26, 27, 28, 5, 29, 36, 37, 38, 39, 40, 41, 42] (by decide +kernel) (by decide +kernel)
set_option maxRecDepth 20000 in
theorem gX3_isReached_X1_reachedNodes : GoodIn wsX3_isReached (wsV RX3 88 RX1 yX1_reachedNodes wsX1_reachedNodes) := goodIn_app (goodIn_of _ (by decide +kernel)) ggX3_isReached_X1_reachedNodes
set_option maxRecDepth 20000 in
theorem ggX3_isReached_X3_holds : GoodIn wsX3_isReached wsX3_holds := goodIn_r _ [29] (by decide +kernel) (by decide +kernel)
set_option maxRecDepth 20000 in
theorem gX3_isReached_X3_holds : GoodIn wsX3_isReached (va_wsS RX3 114 yX3_holds wsX3_holds) := goodIn_app (goodIn_of _ (by decide +kernel)) ggX3_isReached_X3_holds
theorem dX3_isReached_0 : decode cX3_isReached 0 = .ok (.aload_n 0, 1) := by decide +kernel
theorem dX3_isReached_1 : decode cX3_isReached 1 = .ok (.iload_n 1, 1) := by decide +kernel
theorem dX3_isReached_2 : decode cX3_isReached 2 = .ok (.invokevirtual 63, 3) := by decide +kernel
theorem dX3_isReached_5 : decode cX3_isReached 5 = .ok (.aload_n 0, 1) := by decide +kernel
theorem dX3_isReached_6 : decode cX3_isReached 6 = .ok (.getfield 12, 3) := by decide +kernel
theorem dX3_isReached_9 : decode cX3_isReached 9 = .ok (.invokevirtual 88, 3) := by decide +kernel
theorem dX3_isReached_12 : decode cX3_isReached 12 = .ok (.iload_n 1, 1) := by decide +kernel
theorem dX3_isReached_13 : decode cX3_isReached 13 = .ok (.invokestatic 114, 3) := by decide +kernel
theorem dX3_isReached_16 : decode cX3_isReached 16 = .ok (.ireturn, 1) := by decide +kernel
theorem dX3_sets_0 : decode cX3_sets 0 = .ok (.aload_n 0, 1) := by decide +kernel
theorem dX3_sets_1 : decode cX3_sets 1 = .ok (.getfield 38, 3) := by decide +kernel
theorem dX3_sets_4 : decode cX3_sets 4 = .ok (.ifCond .eq 13, 3) := by decide +kernel
theorem dX3_sets_7 : decode cX3_sets 7 = .ok (.aload_n 0, 1) := by decide +kernel
theorem dX3_sets_8 : decode cX3_sets 8 = .ok (.getfield 21, 3) := by decide +kernel
theorem dX3_sets_11 : decode cX3_sets 11 = .ok (.getfield 118, 3) := by decide +kernel
theorem dX3_sets_14 : decode cX3_sets 14 = .ok (.goto 4, 3) := by decide +kernel
theorem dX3_sets_17 : decode cX3_sets 17 = .ok (.iconst 0, 1) := by decide +kernel
theorem dX3_sets_18 : decode cX3_sets 18 = .ok (.ireturn, 1) := by decide +kernel
set_option maxRecDepth 20000 in
theorem ggX3_set_X3_checkSet : GoodIn wsX3_set wsX3_checkSet := goodIn_ca (goodIn_r _ [12, 1, 2, 13, 3, 14, 32, 33, 34, 35, 36, 37, 38, 39, 40, 41, 42, 43, 44, 45, 46, 47, 48, 49] (by decide +kernel) (by decide +kernel)) (goodIn_sub (fun _ h => List.mem_cons_of_mem _ (List.mem_append_right _ h)) (by decide +kernel))
set_option maxRecDepth 20000 in
theorem gX3_set_X3_checkSet : GoodIn wsX3_set (wsV RX3 121 RX3 yX3_checkSet wsX3_checkSet) := goodIn_app (goodIn_of _ (by decide +kernel)) ggX3_set_X3_checkSet
set_option maxRecDepth 20000 in
theorem ggX3_set_J6_bitCount_0f7a4 : GoodIn wsX3_set wsJ6_bitCount_0f7a4 := goodIn_r _ [18, 19, 20, 21] (by decide +kernel) (by decide +kernel)
set_option maxRecDepth 20000 in
theorem gX3_set_J6_bitCount_0f7a4 : GoodIn wsX3_set (va_wsS RX3 92 yJ6_bitCount_0f7a4 wsJ6_bitCount_0f7a4) := goodIn_app (goodIn_of _ (by decide +kernel)) ggX3_set_J6_bitCount_0f7a4
set_option maxRecDepth 20000 in
theorem ggX3_set_X3_asNumber : GoodIn wsX3_set wsX3_asNumber := goodIn_r _ [24] (by decide +kernel) (by decide +kernel)
set_option maxRecDepth 20000 in
theorem gX3_set_X3_asNumber : GoodIn wsX3_set (va_wsS RX3 136 yX3_asNumber wsX3_asNumber) := goodIn_app (goodIn_of _ (by decide +kernel)) ggX3_set_X3_asNumber
set_option maxRecDepth 20000 in
theorem ggX3_set_X0_numberOfOuter : GoodIn wsX3_set wsX0_numberOfOuter := goodIn_r _ [29, 30, 31, 37, 38, 39, 40, 41, 42, 43, 44, 45, 46, 47, 48, 49] (by decide +kernel) (by decide +kernel)
set_option maxRecDepth 20000 in
theorem gX3_set_X0_numberOfOuter : GoodIn wsX3_set (wsV RX3 140 RX0 yX0_numberOfOuter wsX0_numberOfOuter) := goodIn_app (goodIn_of _ (by decide +kernel)) ggX3_set_X0_numberOfOuter
theorem dX3_set_0 : decode cX3_set 0 = .ok (.aload_n 0, 1) := by decide +kernel
theorem dX3_set_1 : decode cX3_set 1 = .ok (.iload_n 1, 1) := by decide +kernel
theorem dX3_set_2 : decode cX3_set 2 = .ok (.invokevirtual 121, 3) := by decide +kernel
theorem dX3_set_5 : decode cX3_set 5 = .ok (.aload_n 0, 1) := by decide +kernel
theorem dX3_set_6 : decode cX3_set 6 = .ok (.getfield 21, 3) := by decide +kernel
theorem dX3_set_9 : decode cX3_set 9 = .ok (.getfield 124, 3) := by decide +kernel
theorem dX3_set_12 : decode cX3_set 12 = .ok (.iload_n 1, 1) := by decide +kernel
theorem dX3_set_13 : decode cX3_set 13 = .ok (.iaload, 1) := by decide +kernel
theorem dX3_set_14 : decode cX3_set 14 = .ok (.istore_n 3, 1) := by decide +kernel
theorem dX3_set_15 : decode cX3_set 15 = .ok (.iload_n 2, 1) := by decide +kernel
theorem dX3_set_16 : decode cX3_set 16 = .ok (.tableswitch 86 0 3 #[32, 45, 55, 77], 32) := by decide +kernel
theorem dX3_set_48 : decode cX3_set 48 = .ok (.aload_n 0, 1) := by decide +kernel
theorem dX3_set_49 : decode cX3_set 49 = .ok (.getfield 21, 3) := by decide +kernel
theorem dX3_set_52 : decode cX3_set 52 = .ok (.getfield 127, 3) := by decide +kernel
theorem dX3_set_55 : decode cX3_set 55 = .ok (.iload_n 3, 1) := by decide +kernel
theorem dX3_set_56 : decode cX3_set 56 = .ok (.iaload, 1) := by decide +kernel
theorem dX3_set_57 : decode cX3_set 57 = .ok (.invokestatic 92, 3) := by decide +kernel
theorem dX3_set_60 : decode cX3_set 60 = .ok (.ireturn, 1) := by decide +kernel
theorem dX3_set_61 : decode cX3_set 61 = .ok (.aload_n 0, 1) := by decide +kernel
theorem dX3_set_62 : decode cX3_set 62 = .ok (.getfield 21, 3) := by decide +kernel
theorem dX3_set_65 : decode cX3_set 65 = .ok (.getfield 130, 3) := by decide +kernel
theorem dX3_set_68 : decode cX3_set 68 = .ok (.iload_n 3, 1) := by decide +kernel
theorem dX3_set_69 : decode cX3_set 69 = .ok (.iaload, 1) := by decide +kernel
theorem dX3_set_70 : decode cX3_set 70 = .ok (.ireturn, 1) := by decide +kernel
theorem dX3_set_71 : decode cX3_set 71 = .ok (.aload_n 0, 1) := by decide +kernel
theorem dX3_set_72 : decode cX3_set 72 = .ok (.getfield 21, 3) := by decide +kernel
theorem dX3_set_75 : decode cX3_set 75 = .ok (.getfield 133, 3) := by decide +kernel
theorem dX3_set_78 : decode cX3_set 78 = .ok (.iload_n 3, 1) := by decide +kernel
theorem dX3_set_79 : decode cX3_set 79 = .ok (.iaload, 1) := by decide +kernel
theorem dX3_set_80 : decode cX3_set 80 = .ok (.iconst (-1), 1) := by decide +kernel
theorem dX3_set_81 : decode cX3_set 81 = .ok (.if_icmp .ne 7, 3) := by decide +kernel
theorem dX3_set_84 : decode cX3_set 84 = .ok (.iconst 1, 1) := by decide +kernel
theorem dX3_set_85 : decode cX3_set 85 = .ok (.goto 4, 3) := by decide +kernel
theorem dX3_set_88 : decode cX3_set 88 = .ok (.iconst 0, 1) := by decide +kernel
theorem dX3_set_89 : decode cX3_set 89 = .ok (.invokestatic 136, 3) := by decide +kernel
theorem dX3_set_92 : decode cX3_set 92 = .ok (.ireturn, 1) := by decide +kernel
theorem dX3_set_93 : decode cX3_set 93 = .ok (.aload_n 0, 1) := by decide +kernel
theorem dX3_set_94 : decode cX3_set 94 = .ok (.getfield 21, 3) := by decide +kernel
theorem dX3_set_97 : decode cX3_set 97 = .ok (.iload_n 3, 1) := by decide +kernel
theorem dX3_set_98 : decode cX3_set 98 = .ok (.invokevirtual 140, 3) := by decide +kernel
theorem dX3_set_101 : decode cX3_set 101 = .ok (.ireturn, 1) := by decide +kernel
theorem dX3_set_102 : decode cX3_set 102 = .ok (.new 143, 3) := by decide +kernel
theorem dX3_set_105 : decode cX3_set 105 = .ok (.dup, 1) := by decide +kernel
theorem dX3_set_106 : decode cX3_set 106 = .ok (.ldc 145, 2) := by decide +kernel
theorem dX3_set_108 : decode cX3_set 108 = .ok (.invokespecial 147, 3) := by decide +kernel
theorem dX3_set_111 : decode cX3_set 111 = .ok (.athrow, 1) := by decide +kernel
set_option maxRecDepth 20000 in
theorem ggX3_isIn_X3_checkSet : GoodIn wsX3_isIn wsX3_checkSet := goodIn_ca (goodIn_r _ [8, 9, 10, 11, 1, 12, 27, 28, 29, 30, 31, 32, 33, 34, 35, 36, 37, 38, 39, 40, 41, 42, 43, 44] (by decide +kernel) (by decide +kernel)) (goodIn_sub (fun _ h => List.mem_cons_of_mem _ (List.mem_append_right _ h)) (by decide +kernel))
set_option maxRecDepth 20000 in
theorem gX3_isIn_X3_checkSet : GoodIn wsX3_isIn (wsV RX3 121 RX3 yX3_checkSet wsX3_checkSet) := goodIn_app (goodIn_of _ (by decide +kernel)) ggX3_isIn_X3_checkSet
set_option maxRecDepth 20000 in
theorem ggX3_isIn_X3_checkNode : GoodIn wsX3_isIn wsX3_checkNode := goodIn_ca (goodIn_r _ [16, 9, 10, 17, 18, 19, 20, 21, 22, 23, 27, 28, 29, 30, 31, 45, 46, 47, 48, 49, 50, 51] (by decide +kernel) (by decide +kernel)) (goodIn_sub (fun _ h => List.mem_cons_of_mem _ (List.mem_append_right _ h)) (by decide +kernel))
set_option maxRecDepth 20000 in
theorem gX3_isIn_X3_checkNode : GoodIn wsX3_isIn (wsV RX3 63 RX3 yX3_checkNode wsX3_checkNode) := goodIn_app (goodIn_of _ (by decide +kernel)) ggX3_isIn_X3_checkNode
set_option maxRecDepth 20000 in
theorem ggX3_isIn_X3_holds : GoodIn wsX3_isIn wsX3_holds := goodIn_r _ [26] (by decide +kernel) (by decide +kernel)
set_option maxRecDepth 20000 in
theorem gX3_isIn_X3_holds : GoodIn wsX3_isIn (va_wsS RX3 114 yX3_holds wsX3_holds) := goodIn_app (goodIn_of _ (by decide +kernel)) ggX3_isIn_X3_holds
theorem dX3_isIn_0 : decode cX3_isIn 0 = .ok (.aload_n 0, 1) := by decide +kernel
theorem dX3_isIn_1 : decode cX3_isIn 1 = .ok (.iload_n 1, 1) := by decide +kernel
theorem dX3_isIn_2 : decode cX3_isIn 2 = .ok (.invokevirtual 121, 3) := by decide +kernel
theorem dX3_isIn_5 : decode cX3_isIn 5 = .ok (.aload_n 0, 1) := by decide +kernel
theorem dX3_isIn_6 : decode cX3_isIn 6 = .ok (.iload_n 2, 1) := by decide +kernel
theorem dX3_isIn_7 : decode cX3_isIn 7 = .ok (.invokevirtual 63, 3) := by decide +kernel
theorem dX3_isIn_10 : decode cX3_isIn 10 = .ok (.aload_n 0, 1) := by decide +kernel
theorem dX3_isIn_11 : decode cX3_isIn 11 = .ok (.getfield 21, 3) := by decide +kernel
theorem dX3_isIn_14 : decode cX3_isIn 14 = .ok (.getfield 127, 3) := by decide +kernel
theorem dX3_isIn_17 : decode cX3_isIn 17 = .ok (.aload_n 0, 1) := by decide +kernel
theorem dX3_isIn_18 : decode cX3_isIn 18 = .ok (.getfield 21, 3) := by decide +kernel
theorem dX3_isIn_21 : decode cX3_isIn 21 = .ok (.getfield 124, 3) := by decide +kernel
theorem dX3_isIn_24 : decode cX3_isIn 24 = .ok (.iload_n 1, 1) := by decide +kernel
theorem dX3_isIn_25 : decode cX3_isIn 25 = .ok (.iaload, 1) := by decide +kernel
theorem dX3_isIn_26 : decode cX3_isIn 26 = .ok (.iaload, 1) := by decide +kernel
theorem dX3_isIn_27 : decode cX3_isIn 27 = .ok (.iload_n 2, 1) := by decide +kernel
theorem dX3_isIn_28 : decode cX3_isIn 28 = .ok (.invokestatic 114, 3) := by decide +kernel
theorem dX3_isIn_31 : decode cX3_isIn 31 = .ok (.ireturn, 1) := by decide +kernel
set_option maxRecDepth 20000 in
theorem ggX3_dual_X3_checkSet : GoodIn wsX3_dual wsX3_checkSet := goodIn_ca (goodIn_r _ [8, 9, 10, 11, 1, 12, 13, 14, 15, 16, 17, 18, 19, 20, 21, 22, 23, 24, 25, 26, 27, 28, 29, 30] (by decide +kernel) (by decide +kernel)) (goodIn_sub (fun _ h => List.mem_cons_of_mem _ (List.mem_append_right _ h)) (by decide +kernel))
set_option maxRecDepth 20000 in
theorem gX3_dual_X3_checkSet : GoodIn wsX3_dual (wsV RX3 121 RX3 yX3_checkSet wsX3_checkSet) := goodIn_app (goodIn_of _ (by decide +kernel)) ggX3_dual_X3_checkSet
theorem dX3_dual_0 : decode cX3_dual 0 = .ok (.aload_n 0, 1) := by decide +kernel
theorem dX3_dual_1 : decode cX3_dual 1 = .ok (.iload_n 1, 1) := by decide +kernel
theorem dX3_dual_2 : decode cX3_dual 2 = .ok (.invokevirtual 121, 3) := by decide +kernel
theorem dX3_dual_5 : decode cX3_dual 5 = .ok (.aload_n 0, 1) := by decide +kernel
theorem dX3_dual_6 : decode cX3_dual 6 = .ok (.getfield 21, 3) := by decide +kernel
theorem dX3_dual_9 : decode cX3_dual 9 = .ok (.getfield 148, 3) := by decide +kernel
theorem dX3_dual_12 : decode cX3_dual 12 = .ok (.aload_n 0, 1) := by decide +kernel
theorem dX3_dual_13 : decode cX3_dual 13 = .ok (.getfield 21, 3) := by decide +kernel
theorem dX3_dual_16 : decode cX3_dual 16 = .ok (.getfield 124, 3) := by decide +kernel
theorem dX3_dual_19 : decode cX3_dual 19 = .ok (.iload_n 1, 1) := by decide +kernel
theorem dX3_dual_20 : decode cX3_dual 20 = .ok (.iaload, 1) := by decide +kernel
theorem dX3_dual_21 : decode cX3_dual 21 = .ok (.laload, 1) := by decide +kernel
theorem dX3_dual_22 : decode cX3_dual 22 = .ok (.lreturn, 1) := by decide +kernel
set_option maxRecDepth 20000 in
theorem ggX3_slack_X3_checkArc : GoodIn wsX3_slack wsX3_checkArc := goodIn_ca (goodIn_r _ [11, 12, 13, 4, 14, 15, 16, 17, 18, 19, 37, 38, 39, 40, 41, 42, 43, 44, 45, 46, 47, 48] (by decide +kernel) (by decide +kernel)) (goodIn_sub (fun _ h => List.mem_cons_of_mem _ (List.mem_append_right _ h)) (by decide +kernel))
set_option maxRecDepth 20000 in
theorem gX3_slack_X3_checkArc : GoodIn wsX3_slack (wsV RX3 77 RX3 yX3_checkArc wsX3_checkArc) := goodIn_app (goodIn_of _ (by decide +kernel)) ggX3_slack_X3_checkArc
set_option maxRecDepth 20000 in
theorem ggX3_slack_X0_sumOfDualsEntered : GoodIn wsX3_slack wsX0_sumOfDualsEntered := goodIn_r _ [24, 25, 26, 27, 28, 29, 30, 31, 17, 32, 33, 34, 35, 10, 36, 49, 50, 51, 52, 53, 54, 55, 56, 57, 58, 59, 60, 61, 42, 43, 44, 45, 46, 47, 48] (by decide +kernel) (by decide +kernel)
set_option maxRecDepth 20000 in
theorem gX3_slack_X0_sumOfDualsEntered : GoodIn wsX3_slack (wsV RX3 156 RX0 yX0_sumOfDualsEntered wsX0_sumOfDualsEntered) := goodIn_app (goodIn_of _ (by decide +kernel)) ggX3_slack_X0_sumOfDualsEntered
theorem dX3_slack_0 : decode cX3_slack 0 = .ok (.aload_n 0, 1) := by decide +kernel
theorem dX3_slack_1 : decode cX3_slack 1 = .ok (.iload_n 1, 1) := by decide +kernel
theorem dX3_slack_2 : decode cX3_slack 2 = .ok (.invokevirtual 77, 3) := by decide +kernel
theorem dX3_slack_5 : decode cX3_slack 5 = .ok (.aload_n 0, 1) := by decide +kernel
theorem dX3_slack_6 : decode cX3_slack 6 = .ok (.getfield 38, 3) := by decide +kernel
theorem dX3_slack_9 : decode cX3_slack 9 = .ok (.ifCond .ne 13, 3) := by decide +kernel
theorem dX3_slack_12 : decode cX3_slack 12 = .ok (.new 151, 3) := by decide +kernel
theorem dX3_slack_15 : decode cX3_slack 15 = .ok (.dup, 1) := by decide +kernel
theorem dX3_slack_16 : decode cX3_slack 16 = .ok (.ldc 153, 2) := by decide +kernel
theorem dX3_slack_18 : decode cX3_slack 18 = .ok (.invokespecial 155, 3) := by decide +kernel
theorem dX3_slack_21 : decode cX3_slack 21 = .ok (.athrow, 1) := by decide +kernel
theorem dX3_slack_22 : decode cX3_slack 22 = .ok (.aload_n 0, 1) := by decide +kernel
theorem dX3_slack_23 : decode cX3_slack 23 = .ok (.getfield 12, 3) := by decide +kernel
theorem dX3_slack_26 : decode cX3_slack 26 = .ok (.getfield 80, 3) := by decide +kernel
theorem dX3_slack_29 : decode cX3_slack 29 = .ok (.iload_n 1, 1) := by decide +kernel
theorem dX3_slack_30 : decode cX3_slack 30 = .ok (.laload, 1) := by decide +kernel
theorem dX3_slack_31 : decode cX3_slack 31 = .ok (.aload_n 0, 1) := by decide +kernel
theorem dX3_slack_32 : decode cX3_slack 32 = .ok (.getfield 21, 3) := by decide +kernel
theorem dX3_slack_35 : decode cX3_slack 35 = .ok (.iload_n 1, 1) := by decide +kernel
theorem dX3_slack_36 : decode cX3_slack 36 = .ok (.invokevirtual 156, 3) := by decide +kernel
theorem dX3_slack_39 : decode cX3_slack 39 = .ok (.lsub, 1) := by decide +kernel
theorem dX3_slack_40 : decode cX3_slack 40 = .ok (.lreturn, 1) := by decide +kernel
set_option maxRecDepth 20000 in
theorem ggX3_about_X1_openCount : GoodIn wsX3_about wsX1_openCount := goodIn_r _ [12, 13, 14, 24, 25, 26, 27, 28, 29, 30] (by decide +kernel) (by decide +kernel)
set_option maxRecDepth 20000 in
theorem gX3_about_X1_openCount : GoodIn wsX3_about (wsV RX3 160 RX1 yX1_openCount wsX1_openCount) := goodIn_app (goodIn_of _ (by decide +kernel)) ggX3_about_X1_openCount
set_option maxRecDepth 20000 in
theorem ggX3_about_X3_asNumber : GoodIn wsX3_about wsX3_asNumber := goodIn_r _ [18] (by decide +kernel) (by decide +kernel)
set_option maxRecDepth 20000 in
theorem gX3_about_X3_asNumber : GoodIn wsX3_about (va_wsS RX3 136 yX3_asNumber wsX3_asNumber) := goodIn_app (goodIn_of _ (by decide +kernel)) ggX3_about_X3_asNumber
theorem dX3_about_0 : decode cX3_about 0 = .ok (.iload_n 1, 1) := by decide +kernel
theorem dX3_about_1 : decode cX3_about 1 = .ok (.tableswitch 75 0 4 #[35, 43, 51, 59, 67], 35) := by decide +kernel
theorem dX3_about_36 : decode cX3_about 36 = .ok (.aload_n 0, 1) := by decide +kernel
theorem dX3_about_37 : decode cX3_about 37 = .ok (.getfield 12, 3) := by decide +kernel
theorem dX3_about_40 : decode cX3_about 40 = .ok (.getfield 50, 3) := by decide +kernel
theorem dX3_about_43 : decode cX3_about 43 = .ok (.ireturn, 1) := by decide +kernel
theorem dX3_about_44 : decode cX3_about 44 = .ok (.aload_n 0, 1) := by decide +kernel
theorem dX3_about_45 : decode cX3_about 45 = .ok (.getfield 12, 3) := by decide +kernel
theorem dX3_about_48 : decode cX3_about 48 = .ok (.getfield 57, 3) := by decide +kernel
theorem dX3_about_51 : decode cX3_about 51 = .ok (.ireturn, 1) := by decide +kernel
theorem dX3_about_52 : decode cX3_about 52 = .ok (.aload_n 0, 1) := by decide +kernel
theorem dX3_about_53 : decode cX3_about 53 = .ok (.getfield 12, 3) := by decide +kernel
theorem dX3_about_56 : decode cX3_about 56 = .ok (.invokevirtual 160, 3) := by decide +kernel
theorem dX3_about_59 : decode cX3_about 59 = .ok (.ireturn, 1) := by decide +kernel
theorem dX3_about_60 : decode cX3_about 60 = .ok (.aload_n 0, 1) := by decide +kernel
theorem dX3_about_61 : decode cX3_about 61 = .ok (.getfield 12, 3) := by decide +kernel
theorem dX3_about_64 : decode cX3_about 64 = .ok (.getfield 54, 3) := by decide +kernel
theorem dX3_about_67 : decode cX3_about 67 = .ok (.ireturn, 1) := by decide +kernel
theorem dX3_about_68 : decode cX3_about 68 = .ok (.aload_n 0, 1) := by decide +kernel
theorem dX3_about_69 : decode cX3_about 69 = .ok (.getfield 34, 3) := by decide +kernel
theorem dX3_about_72 : decode cX3_about 72 = .ok (.invokestatic 136, 3) := by decide +kernel
theorem dX3_about_75 : decode cX3_about 75 = .ok (.ireturn, 1) := by decide +kernel
theorem dX3_about_76 : decode cX3_about 76 = .ok (.new 143, 3) := by decide +kernel
theorem dX3_about_79 : decode cX3_about 79 = .ok (.dup, 1) := by decide +kernel
theorem dX3_about_80 : decode cX3_about 80 = .ok (.ldc 163, 2) := by decide +kernel
theorem dX3_about_82 : decode cX3_about 82 = .ok (.invokespecial 147, 3) := by decide +kernel
theorem dX3_about_85 : decode cX3_about 85 = .ok (.athrow, 1) := by decide +kernel
set_option maxRecDepth 20000 in
theorem ggX3_told_X3_checkArc : GoodIn wsX3_told wsX3_checkArc := goodIn_ca (goodIn_r _ [13, 1, 2, 3, 14, 15, 16, 17, 18, 19, 31, 32, 33, 34, 35, 36, 37, 38, 39, 40, 41, 42] (by decide +kernel) (by decide +kernel)) (goodIn_sub (fun _ h => List.mem_cons_of_mem _ (List.mem_append_right _ h)) (by decide +kernel))
set_option maxRecDepth 20000 in
theorem gX3_told_X3_checkArc : GoodIn wsX3_told (wsV RX3 77 RX3 yX3_checkArc wsX3_checkArc) := goodIn_app (goodIn_of _ (by decide +kernel)) ggX3_told_X3_checkArc
set_option maxRecDepth 20000 in
theorem ggX3_told_X3_asNumber : GoodIn wsX3_told wsX3_asNumber := goodIn_r _ [22] (by decide +kernel) (by decide +kernel)
set_option maxRecDepth 20000 in
theorem gX3_told_X3_asNumber : GoodIn wsX3_told (va_wsS RX3 136 yX3_asNumber wsX3_asNumber) := goodIn_app (goodIn_of _ (by decide +kernel)) ggX3_told_X3_asNumber
set_option maxRecDepth 20000 in
theorem ggX3_told_X2_hasArc : GoodIn wsX3_told wsX2_hasArc := goodIn_r _ [27, 28, 29, 30, 43, 44, 45, 36, 37, 38, 39, 40, 41, 42] (by decide +kernel) (by decide +kernel)
set_option maxRecDepth 20000 in
theorem gX3_told_X2_hasArc : GoodIn wsX3_told (wsV RX3 171 RX2 yX2_hasArc wsX2_hasArc) := goodIn_app (goodIn_of _ (by decide +kernel)) ggX3_told_X2_hasArc
theorem dX3_told_0 : decode cX3_told 0 = .ok (.aload_n 0, 1) := by decide +kernel
theorem dX3_told_1 : decode cX3_told 1 = .ok (.iload_n 1, 1) := by decide +kernel
theorem dX3_told_2 : decode cX3_told 2 = .ok (.invokevirtual 77, 3) := by decide +kernel
theorem dX3_told_5 : decode cX3_told 5 = .ok (.iload_n 2, 1) := by decide +kernel
theorem dX3_told_6 : decode cX3_told 6 = .ok (.tableswitch 90 0 3 #[30, 40, 50, 63], 30) := by decide +kernel
theorem dX3_told_36 : decode cX3_told 36 = .ok (.aload_n 0, 1) := by decide +kernel
theorem dX3_told_37 : decode cX3_told 37 = .ok (.getfield 12, 3) := by decide +kernel
theorem dX3_told_40 : decode cX3_told 40 = .ok (.getfield 165, 3) := by decide +kernel
theorem dX3_told_43 : decode cX3_told 43 = .ok (.iload_n 1, 1) := by decide +kernel
theorem dX3_told_44 : decode cX3_told 44 = .ok (.iaload, 1) := by decide +kernel
theorem dX3_told_45 : decode cX3_told 45 = .ok (.ireturn, 1) := by decide +kernel
theorem dX3_told_46 : decode cX3_told 46 = .ok (.aload_n 0, 1) := by decide +kernel
theorem dX3_told_47 : decode cX3_told 47 = .ok (.getfield 12, 3) := by decide +kernel
theorem dX3_told_50 : decode cX3_told 50 = .ok (.getfield 168, 3) := by decide +kernel
theorem dX3_told_53 : decode cX3_told 53 = .ok (.iload_n 1, 1) := by decide +kernel
theorem dX3_told_54 : decode cX3_told 54 = .ok (.iaload, 1) := by decide +kernel
theorem dX3_told_55 : decode cX3_told 55 = .ok (.ireturn, 1) := by decide +kernel
theorem dX3_told_56 : decode cX3_told 56 = .ok (.aload_n 0, 1) := by decide +kernel
theorem dX3_told_57 : decode cX3_told 57 = .ok (.getfield 12, 3) := by decide +kernel
theorem dX3_told_60 : decode cX3_told 60 = .ok (.getfield 84, 3) := by decide +kernel
theorem dX3_told_63 : decode cX3_told 63 = .ok (.iload_n 1, 1) := by decide +kernel
theorem dX3_told_64 : decode cX3_told 64 = .ok (.baload, 1) := by decide +kernel
theorem dX3_told_65 : decode cX3_told 65 = .ok (.invokestatic 136, 3) := by decide +kernel
theorem dX3_told_68 : decode cX3_told 68 = .ok (.ireturn, 1) := by decide +kernel
theorem dX3_told_69 : decode cX3_told 69 = .ok (.aload_n 0, 1) := by decide +kernel
theorem dX3_told_70 : decode cX3_told 70 = .ok (.getfield 38, 3) := by decide +kernel
theorem dX3_told_73 : decode cX3_told 73 = .ok (.ifCond .eq 18, 3) := by decide +kernel
theorem dX3_told_76 : decode cX3_told 76 = .ok (.aload_n 0, 1) := by decide +kernel
theorem dX3_told_77 : decode cX3_told 77 = .ok (.getfield 30, 3) := by decide +kernel
theorem dX3_told_80 : decode cX3_told 80 = .ok (.iload_n 1, 1) := by decide +kernel
theorem dX3_told_81 : decode cX3_told 81 = .ok (.invokevirtual 171, 3) := by decide +kernel
theorem dX3_told_84 : decode cX3_told 84 = .ok (.ifCond .eq 7, 3) := by decide +kernel
theorem dX3_told_87 : decode cX3_told 87 = .ok (.iconst 1, 1) := by decide +kernel
theorem dX3_told_88 : decode cX3_told 88 = .ok (.goto 4, 3) := by decide +kernel
theorem dX3_told_91 : decode cX3_told 91 = .ok (.iconst 0, 1) := by decide +kernel
theorem dX3_told_92 : decode cX3_told 92 = .ok (.invokestatic 136, 3) := by decide +kernel
theorem dX3_told_95 : decode cX3_told 95 = .ok (.ireturn, 1) := by decide +kernel
theorem dX3_told_96 : decode cX3_told 96 = .ok (.new 143, 3) := by decide +kernel
theorem dX3_told_99 : decode cX3_told 99 = .ok (.dup, 1) := by decide +kernel
theorem dX3_told_100 : decode cX3_told 100 = .ok (.ldc 175, 2) := by decide +kernel
theorem dX3_told_102 : decode cX3_told 102 = .ok (.invokespecial 147, 3) := by decide +kernel
theorem dX3_told_105 : decode cX3_told 105 = .ok (.athrow, 1) := by decide +kernel
set_option maxRecDepth 20000 in
theorem ggX3_depth_X3_checkNode : GoodIn wsX3_depth wsX3_checkNode := goodIn_ca (goodIn_r _ [7, 8, 9, 10, 11, 12, 13, 14, 15, 16, 25, 26, 27, 28, 29, 30, 31, 32, 33, 34, 35, 36] (by decide +kernel) (by decide +kernel)) (goodIn_sub (fun _ h => List.mem_cons_of_mem _ (List.mem_append_right _ h)) (by decide +kernel))
set_option maxRecDepth 20000 in
theorem gX3_depth_X3_checkNode : GoodIn wsX3_depth (wsV RX3 63 RX3 yX3_checkNode wsX3_checkNode) := goodIn_app (goodIn_of _ (by decide +kernel)) ggX3_depth_X3_checkNode
set_option maxRecDepth 20000 in
theorem ggX3_depth_X2_arcsOnWayTo : GoodIn wsX3_depth wsX2_arcsOnWayTo := goodIn_r _ [21, 22, 23, 24, 37, 38, 39, 30, 31, 32, 33, 34, 35, 36] (by decide +kernel) (by decide +kernel)
set_option maxRecDepth 20000 in
theorem gX3_depth_X2_arcsOnWayTo : GoodIn wsX3_depth (wsV RX3 177 RX2 yX2_arcsOnWayTo wsX2_arcsOnWayTo) := goodIn_app (goodIn_of _ (by decide +kernel)) ggX3_depth_X2_arcsOnWayTo
theorem dX3_depth_0 : decode cX3_depth 0 = .ok (.aload_n 0, 1) := by decide +kernel
theorem dX3_depth_1 : decode cX3_depth 1 = .ok (.iload_n 1, 1) := by decide +kernel
theorem dX3_depth_2 : decode cX3_depth 2 = .ok (.invokevirtual 63, 3) := by decide +kernel
theorem dX3_depth_5 : decode cX3_depth 5 = .ok (.aload_n 0, 1) := by decide +kernel
theorem dX3_depth_6 : decode cX3_depth 6 = .ok (.getfield 38, 3) := by decide +kernel
theorem dX3_depth_9 : decode cX3_depth 9 = .ok (.ifCond .eq 14, 3) := by decide +kernel
theorem dX3_depth_12 : decode cX3_depth 12 = .ok (.aload_n 0, 1) := by decide +kernel
theorem dX3_depth_13 : decode cX3_depth 13 = .ok (.getfield 30, 3) := by decide +kernel
theorem dX3_depth_16 : decode cX3_depth 16 = .ok (.iload_n 1, 1) := by decide +kernel
theorem dX3_depth_17 : decode cX3_depth 17 = .ok (.invokevirtual 177, 3) := by decide +kernel
theorem dX3_depth_20 : decode cX3_depth 20 = .ok (.goto 4, 3) := by decide +kernel
theorem dX3_depth_23 : decode cX3_depth 23 = .ok (.iconst (-1), 1) := by decide +kernel
theorem dX3_depth_24 : decode cX3_depth 24 = .ok (.ireturn, 1) := by decide +kernel
set_option maxRecDepth 20000 in
theorem ggX3_far_X3_checkNode : GoodIn wsX3_far wsX3_checkNode := goodIn_ca (goodIn_r _ [8, 9, 10, 11, 12, 13, 14, 15, 16, 17, 27, 28, 29, 30, 31, 32, 33, 34, 35, 36, 37, 38] (by decide +kernel) (by decide +kernel)) (goodIn_sub (fun _ h => List.mem_cons_of_mem _ (List.mem_append_right _ h)) (by decide +kernel))
set_option maxRecDepth 20000 in
theorem gX3_far_X3_checkNode : GoodIn wsX3_far (wsV RX3 63 RX3 yX3_checkNode wsX3_checkNode) := goodIn_app (goodIn_of _ (by decide +kernel)) ggX3_far_X3_checkNode
set_option maxRecDepth 20000 in
theorem ggX3_far_X2_weightOfWayTo : GoodIn wsX3_far wsX2_weightOfWayTo := goodIn_r _ [22, 23, 24, 25, 26, 39, 40, 41, 32, 33, 34, 35, 36, 37, 38] (by decide +kernel) (by decide +kernel)
set_option maxRecDepth 20000 in
theorem gX3_far_X2_weightOfWayTo : GoodIn wsX3_far (wsV RX3 180 RX2 yX2_weightOfWayTo wsX2_weightOfWayTo) := goodIn_app (goodIn_of _ (by decide +kernel)) ggX3_far_X2_weightOfWayTo
theorem dX3_far_0 : decode cX3_far 0 = .ok (.aload_n 0, 1) := by decide +kernel
theorem dX3_far_1 : decode cX3_far 1 = .ok (.iload_n 1, 1) := by decide +kernel
theorem dX3_far_2 : decode cX3_far 2 = .ok (.invokevirtual 63, 3) := by decide +kernel
theorem dX3_far_5 : decode cX3_far 5 = .ok (.aload_n 0, 1) := by decide +kernel
theorem dX3_far_6 : decode cX3_far 6 = .ok (.getfield 38, 3) := by decide +kernel
theorem dX3_far_9 : decode cX3_far 9 = .ok (.ifCond .eq 14, 3) := by decide +kernel
theorem dX3_far_12 : decode cX3_far 12 = .ok (.aload_n 0, 1) := by decide +kernel
theorem dX3_far_13 : decode cX3_far 13 = .ok (.getfield 30, 3) := by decide +kernel
theorem dX3_far_16 : decode cX3_far 16 = .ok (.iload_n 1, 1) := by decide +kernel
theorem dX3_far_17 : decode cX3_far 17 = .ok (.invokevirtual 180, 3) := by decide +kernel
theorem dX3_far_20 : decode cX3_far 20 = .ok (.goto 6, 3) := by decide +kernel
theorem dX3_far_23 : decode cX3_far 23 = .ok (.ldc2_w 108, 3) := by decide +kernel
theorem dX3_far_26 : decode cX3_far 26 = .ok (.lreturn, 1) := by decide +kernel
theorem dX3_forgetSolution_0 : decode cX3_forgetSolution 0 = .ok (.aload_n 0, 1) := by decide +kernel
theorem dX3_forgetSolution_1 : decode cX3_forgetSolution 1 = .ok (.iconst 0, 1) := by decide +kernel
theorem dX3_forgetSolution_2 : decode cX3_forgetSolution 2 = .ok (.putfield 34, 3) := by decide +kernel
theorem dX3_forgetSolution_5 : decode cX3_forgetSolution 5 = .ok (.aload_n 0, 1) := by decide +kernel
theorem dX3_forgetSolution_6 : decode cX3_forgetSolution 6 = .ok (.iconst 0, 1) := by decide +kernel
theorem dX3_forgetSolution_7 : decode cX3_forgetSolution 7 = .ok (.putfield 38, 3) := by decide +kernel
theorem dX3_forgetSolution_10 : decode cX3_forgetSolution 10 = .ok (.return_, 1) := by decide +kernel
set_option maxRecDepth 20000 in
theorem ggX3_checkNode_X1_isNode : GoodIn wsX3_checkNode wsX1_isNode := goodIn_r _ [8, 9, 15, 16, 17, 18, 19, 20, 21] (by decide +kernel) (by decide +kernel)
set_option maxRecDepth 20000 in
theorem gX3_checkNode_X1_isNode : GoodIn wsX3_checkNode (wsV RX3 183 RX1 yX1_isNode wsX1_isNode) := goodIn_app (goodIn_of _ (by decide +kernel)) ggX3_checkNode_X1_isNode
theorem dX3_checkNode_0 : decode cX3_checkNode 0 = .ok (.aload_n 0, 1) := by decide +kernel
theorem dX3_checkNode_1 : decode cX3_checkNode 1 = .ok (.getfield 12, 3) := by decide +kernel
theorem dX3_checkNode_4 : decode cX3_checkNode 4 = .ok (.iload_n 1, 1) := by decide +kernel
theorem dX3_checkNode_5 : decode cX3_checkNode 5 = .ok (.invokevirtual 183, 3) := by decide +kernel
theorem dX3_checkNode_8 : decode cX3_checkNode 8 = .ok (.ifCond .ne 13, 3) := by decide +kernel
theorem dX3_checkNode_11 : decode cX3_checkNode 11 = .ok (.new 143, 3) := by decide +kernel
theorem dX3_checkNode_14 : decode cX3_checkNode 14 = .ok (.dup, 1) := by decide +kernel
theorem dX3_checkNode_15 : decode cX3_checkNode 15 = .ok (.ldc 186, 2) := by decide +kernel
theorem dX3_checkNode_17 : decode cX3_checkNode 17 = .ok (.invokespecial 147, 3) := by decide +kernel
theorem dX3_checkNode_20 : decode cX3_checkNode 20 = .ok (.athrow, 1) := by decide +kernel
theorem dX3_checkNode_21 : decode cX3_checkNode 21 = .ok (.return_, 1) := by decide +kernel
set_option maxRecDepth 20000 in
theorem ggX3_checkArc_X1_isArc : GoodIn wsX3_checkArc wsX1_isArc := goodIn_r _ [8, 9, 15, 16, 17, 18, 19, 20, 21] (by decide +kernel) (by decide +kernel)
set_option maxRecDepth 20000 in
theorem gX3_checkArc_X1_isArc : GoodIn wsX3_checkArc (wsV RX3 188 RX1 yX1_isArc wsX1_isArc) := goodIn_app (goodIn_of _ (by decide +kernel)) ggX3_checkArc_X1_isArc
theorem dX3_checkArc_0 : decode cX3_checkArc 0 = .ok (.aload_n 0, 1) := by decide +kernel
theorem dX3_checkArc_1 : decode cX3_checkArc 1 = .ok (.getfield 12, 3) := by decide +kernel
theorem dX3_checkArc_4 : decode cX3_checkArc 4 = .ok (.iload_n 1, 1) := by decide +kernel
theorem dX3_checkArc_5 : decode cX3_checkArc 5 = .ok (.invokevirtual 188, 3) := by decide +kernel
theorem dX3_checkArc_8 : decode cX3_checkArc 8 = .ok (.ifCond .ne 13, 3) := by decide +kernel
theorem dX3_checkArc_11 : decode cX3_checkArc 11 = .ok (.new 143, 3) := by decide +kernel
theorem dX3_checkArc_14 : decode cX3_checkArc 14 = .ok (.dup, 1) := by decide +kernel
theorem dX3_checkArc_15 : decode cX3_checkArc 15 = .ok (.ldc 191, 2) := by decide +kernel
theorem dX3_checkArc_17 : decode cX3_checkArc 17 = .ok (.invokespecial 147, 3) := by decide +kernel
theorem dX3_checkArc_20 : decode cX3_checkArc 20 = .ok (.athrow, 1) := by decide +kernel
theorem dX3_checkArc_21 : decode cX3_checkArc 21 = .ok (.return_, 1) := by decide +kernel
theorem dX3_checkSet_0 : decode cX3_checkSet 0 = .ok (.aload_n 0, 1) := by decide +kernel
theorem dX3_checkSet_1 : decode cX3_checkSet 1 = .ok (.getfield 38, 3) := by decide +kernel
theorem dX3_checkSet_4 : decode cX3_checkSet 4 = .ok (.ifCond .eq 18, 3) := by decide +kernel
theorem dX3_checkSet_7 : decode cX3_checkSet 7 = .ok (.iload_n 1, 1) := by decide +kernel
theorem dX3_checkSet_8 : decode cX3_checkSet 8 = .ok (.ifCond .lt 14, 3) := by decide +kernel
theorem dX3_checkSet_11 : decode cX3_checkSet 11 = .ok (.iload_n 1, 1) := by decide +kernel
theorem dX3_checkSet_12 : decode cX3_checkSet 12 = .ok (.aload_n 0, 1) := by decide +kernel
theorem dX3_checkSet_13 : decode cX3_checkSet 13 = .ok (.getfield 21, 3) := by decide +kernel
theorem dX3_checkSet_16 : decode cX3_checkSet 16 = .ok (.getfield 118, 3) := by decide +kernel
theorem dX3_checkSet_19 : decode cX3_checkSet 19 = .ok (.if_icmp .lt 13, 3) := by decide +kernel
theorem dX3_checkSet_22 : decode cX3_checkSet 22 = .ok (.new 143, 3) := by decide +kernel
theorem dX3_checkSet_25 : decode cX3_checkSet 25 = .ok (.dup, 1) := by decide +kernel
theorem dX3_checkSet_26 : decode cX3_checkSet 26 = .ok (.ldc 193, 2) := by decide +kernel
theorem dX3_checkSet_28 : decode cX3_checkSet 28 = .ok (.invokespecial 147, 3) := by decide +kernel
theorem dX3_checkSet_31 : decode cX3_checkSet 31 = .ok (.athrow, 1) := by decide +kernel
theorem dX3_checkSet_32 : decode cX3_checkSet 32 = .ok (.return_, 1) := by decide +kernel
theorem dX3_checkWeight_0 : decode cX3_checkWeight 0 = .ok (.lload_n 0, 1) := by decide +kernel
theorem dX3_checkWeight_1 : decode cX3_checkWeight 1 = .ok (.lconst 0, 1) := by decide +kernel
theorem dX3_checkWeight_2 : decode cX3_checkWeight 2 = .ok (.lcmp, 1) := by decide +kernel
theorem dX3_checkWeight_3 : decode cX3_checkWeight 3 = .ok (.ifCond .lt 11, 3) := by decide +kernel
theorem dX3_checkWeight_6 : decode cX3_checkWeight 6 = .ok (.lload_n 0, 1) := by decide +kernel
theorem dX3_checkWeight_7 : decode cX3_checkWeight 7 = .ok (.ldc2_w 195, 3) := by decide +kernel
theorem dX3_checkWeight_10 : decode cX3_checkWeight 10 = .ok (.lcmp, 1) := by decide +kernel
theorem dX3_checkWeight_11 : decode cX3_checkWeight 11 = .ok (.ifCond .le 13, 3) := by decide +kernel
theorem dX3_checkWeight_14 : decode cX3_checkWeight 14 = .ok (.new 41, 3) := by decide +kernel
theorem dX3_checkWeight_17 : decode cX3_checkWeight 17 = .ok (.dup, 1) := by decide +kernel
theorem dX3_checkWeight_18 : decode cX3_checkWeight 18 = .ok (.ldc 197, 2) := by decide +kernel
theorem dX3_checkWeight_20 : decode cX3_checkWeight 20 = .ok (.invokespecial 45, 3) := by decide +kernel
theorem dX3_checkWeight_23 : decode cX3_checkWeight 23 = .ok (.athrow, 1) := by decide +kernel
theorem dX3_checkWeight_24 : decode cX3_checkWeight 24 = .ok (.return_, 1) := by decide +kernel
theorem dX3_asNumber_0 : decode cX3_asNumber 0 = .ok (.iload_n 0, 1) := by decide +kernel
theorem dX3_asNumber_1 : decode cX3_asNumber 1 = .ok (.ifCond .eq 7, 3) := by decide +kernel
theorem dX3_asNumber_4 : decode cX3_asNumber 4 = .ok (.iconst 1, 1) := by decide +kernel
theorem dX3_asNumber_5 : decode cX3_asNumber 5 = .ok (.goto 4, 3) := by decide +kernel
theorem dX3_asNumber_8 : decode cX3_asNumber 8 = .ok (.iconst 0, 1) := by decide +kernel
theorem dX3_asNumber_9 : decode cX3_asNumber 9 = .ok (.ireturn, 1) := by decide +kernel
theorem dX3_holds_0 : decode cX3_holds 0 = .ok (.iload_n 0, 1) := by decide +kernel
theorem dX3_holds_1 : decode cX3_holds 1 = .ok (.iload_n 1, 1) := by decide +kernel
theorem dX3_holds_2 : decode cX3_holds 2 = .ok (.ishr, 1) := by decide +kernel
theorem dX3_holds_3 : decode cX3_holds 3 = .ok (.iconst 1, 1) := by decide +kernel
theorem dX3_holds_4 : decode cX3_holds 4 = .ok (.iand, 1) := by decide +kernel
theorem dX3_holds_5 : decode cX3_holds 5 = .ok (.iconst 1, 1) := by decide +kernel
theorem dX3_holds_6 : decode cX3_holds 6 = .ok (.if_icmp .ne 7, 3) := by decide +kernel
theorem dX3_holds_9 : decode cX3_holds 9 = .ok (.iconst 1, 1) := by decide +kernel
theorem dX3_holds_10 : decode cX3_holds 10 = .ok (.goto 4, 3) := by decide +kernel
theorem dX3_holds_13 : decode cX3_holds 13 = .ok (.iconst 0, 1) := by decide +kernel
theorem dX3_holds_14 : decode cX3_holds 14 = .ok (.ireturn, 1) := by decide +kernel
theorem dX4_init_0 : decode cX4_init 0 = .ok (.aload_n 0, 1) := by decide +kernel
theorem dX4_init_1 : decode cX4_init 1 = .ok (.invokespecial 1, 3) := by decide +kernel
theorem dX4_init_4 : decode cX4_init 4 = .ok (.aload_n 0, 1) := by decide +kernel
theorem dX4_init_5 : decode cX4_init 5 = .ok (.iconst 1, 1) := by decide +kernel
theorem dX4_init_6 : decode cX4_init 6 = .ok (.putfield 7, 3) := by decide +kernel
theorem dX4_init_9 : decode cX4_init 9 = .ok (.aload_n 0, 1) := by decide +kernel
theorem dX4_init_10 : decode cX4_init 10 = .ok (.bipush 60, 2) := by decide +kernel
theorem dX4_init_12 : decode cX4_init 12 = .ok (.newarray .int, 2) := by decide +kernel
theorem dX4_init_14 : decode cX4_init 14 = .ok (.putfield 13, 3) := by decide +kernel
theorem dX4_init_17 : decode cX4_init 17 = .ok (.aload_n 0, 1) := by decide +kernel
theorem dX4_init_18 : decode cX4_init 18 = .ok (.bipush 60, 2) := by decide +kernel
theorem dX4_init_20 : decode cX4_init 20 = .ok (.newarray .int, 2) := by decide +kernel
theorem dX4_init_22 : decode cX4_init 22 = .ok (.putfield 17, 3) := by decide +kernel
theorem dX4_init_25 : decode cX4_init 25 = .ok (.aload_n 0, 1) := by decide +kernel
theorem dX4_init_26 : decode cX4_init 26 = .ok (.bipush 60, 2) := by decide +kernel
theorem dX4_init_28 : decode cX4_init 28 = .ok (.newarray .long, 2) := by decide +kernel
theorem dX4_init_30 : decode cX4_init 30 = .ok (.putfield 20, 3) := by decide +kernel
theorem dX4_init_33 : decode cX4_init 33 = .ok (.aload_n 0, 1) := by decide +kernel
theorem dX4_init_34 : decode cX4_init 34 = .ok (.bipush 60, 2) := by decide +kernel
theorem dX4_init_36 : decode cX4_init 36 = .ok (.newarray .boolean, 2) := by decide +kernel
theorem dX4_init_38 : decode cX4_init 38 = .ok (.putfield 24, 3) := by decide +kernel
theorem dX4_init_41 : decode cX4_init 41 = .ok (.aload_n 0, 1) := by decide +kernel
theorem dX4_init_42 : decode cX4_init 42 = .ok (.bipush 24, 2) := by decide +kernel
theorem dX4_init_44 : decode cX4_init 44 = .ok (.newarray .boolean, 2) := by decide +kernel
theorem dX4_init_46 : decode cX4_init 46 = .ok (.putfield 28, 3) := by decide +kernel
theorem dX4_init_49 : decode cX4_init 49 = .ok (.aload_n 0, 1) := by decide +kernel
theorem dX4_init_50 : decode cX4_init 50 = .ok (.bipush 24, 2) := by decide +kernel
theorem dX4_init_52 : decode cX4_init 52 = .ok (.newarray .int, 2) := by decide +kernel
theorem dX4_init_54 : decode cX4_init 54 = .ok (.putfield 31, 3) := by decide +kernel
theorem dX4_init_57 : decode cX4_init 57 = .ok (.aload_n 0, 1) := by decide +kernel
theorem dX4_init_58 : decode cX4_init 58 = .ok (.bipush 48, 2) := by decide +kernel
theorem dX4_init_60 : decode cX4_init 60 = .ok (.newarray .int, 2) := by decide +kernel
theorem dX4_init_62 : decode cX4_init 62 = .ok (.putfield 34, 3) := by decide +kernel
theorem dX4_init_65 : decode cX4_init 65 = .ok (.aload_n 0, 1) := by decide +kernel
theorem dX4_init_66 : decode cX4_init 66 = .ok (.bipush 48, 2) := by decide +kernel
theorem dX4_init_68 : decode cX4_init 68 = .ok (.newarray .int, 2) := by decide +kernel
theorem dX4_init_70 : decode cX4_init 70 = .ok (.putfield 37, 3) := by decide +kernel
theorem dX4_init_73 : decode cX4_init 73 = .ok (.aload_n 0, 1) := by decide +kernel
theorem dX4_init_74 : decode cX4_init 74 = .ok (.bipush 48, 2) := by decide +kernel
theorem dX4_init_76 : decode cX4_init 76 = .ok (.newarray .int, 2) := by decide +kernel
theorem dX4_init_78 : decode cX4_init 78 = .ok (.putfield 40, 3) := by decide +kernel
theorem dX4_init_81 : decode cX4_init 81 = .ok (.aload_n 0, 1) := by decide +kernel
theorem dX4_init_82 : decode cX4_init 82 = .ok (.bipush 48, 2) := by decide +kernel
theorem dX4_init_84 : decode cX4_init 84 = .ok (.newarray .int, 2) := by decide +kernel
theorem dX4_init_86 : decode cX4_init 86 = .ok (.putfield 43, 3) := by decide +kernel
theorem dX4_init_89 : decode cX4_init 89 = .ok (.aload_n 0, 1) := by decide +kernel
theorem dX4_init_90 : decode cX4_init 90 = .ok (.bipush 48, 2) := by decide +kernel
theorem dX4_init_92 : decode cX4_init 92 = .ok (.newarray .boolean, 2) := by decide +kernel
theorem dX4_init_94 : decode cX4_init 94 = .ok (.putfield 46, 3) := by decide +kernel
theorem dX4_init_97 : decode cX4_init 97 = .ok (.aload_n 0, 1) := by decide +kernel
theorem dX4_init_98 : decode cX4_init 98 = .ok (.bipush 48, 2) := by decide +kernel
theorem dX4_init_100 : decode cX4_init 100 = .ok (.newarray .long, 2) := by decide +kernel
theorem dX4_init_102 : decode cX4_init 102 = .ok (.putfield 49, 3) := by decide +kernel
theorem dX4_init_105 : decode cX4_init 105 = .ok (.aload_n 0, 1) := by decide +kernel
theorem dX4_init_106 : decode cX4_init 106 = .ok (.bipush 48, 2) := by decide +kernel
theorem dX4_init_108 : decode cX4_init 108 = .ok (.newarray .long, 2) := by decide +kernel
theorem dX4_init_110 : decode cX4_init 110 = .ok (.putfield 52, 3) := by decide +kernel
theorem dX4_init_113 : decode cX4_init 113 = .ok (.aload_n 0, 1) := by decide +kernel
theorem dX4_init_114 : decode cX4_init 114 = .ok (.bipush 48, 2) := by decide +kernel
theorem dX4_init_116 : decode cX4_init 116 = .ok (.newarray .long, 2) := by decide +kernel
theorem dX4_init_118 : decode cX4_init 118 = .ok (.putfield 55, 3) := by decide +kernel
theorem dX4_init_121 : decode cX4_init 121 = .ok (.aload_n 0, 1) := by decide +kernel
theorem dX4_init_122 : decode cX4_init 122 = .ok (.bipush 48, 2) := by decide +kernel
theorem dX4_init_124 : decode cX4_init 124 = .ok (.newarray .int, 2) := by decide +kernel
theorem dX4_init_126 : decode cX4_init 126 = .ok (.putfield 58, 3) := by decide +kernel
theorem dX4_init_129 : decode cX4_init 129 = .ok (.aload_n 0, 1) := by decide +kernel
theorem dX4_init_130 : decode cX4_init 130 = .ok (.iconst 0, 1) := by decide +kernel
theorem dX4_init_131 : decode cX4_init 131 = .ok (.putfield 61, 3) := by decide +kernel
theorem dX4_init_134 : decode cX4_init 134 = .ok (.return_, 1) := by decide +kernel
theorem dX4_thrown_0 : decode cX4_thrown 0 = .ok (.aload_n 0, 1) := by decide +kernel
theorem dX4_thrown_1 : decode cX4_thrown 1 = .ok (.getfield 64, 3) := by decide +kernel
theorem dX4_thrown_4 : decode cX4_thrown 4 = .ok (.ireturn, 1) := by decide +kernel
theorem dX4_noNode_0 : decode cX4_noNode 0 = .ok (.iload_n 1, 1) := by decide +kernel
theorem dX4_noNode_1 : decode cX4_noNode 1 = .ok (.ifCond .lt 11, 3) := by decide +kernel
theorem dX4_noNode_4 : decode cX4_noNode 4 = .ok (.iload_n 1, 1) := by decide +kernel
theorem dX4_noNode_5 : decode cX4_noNode 5 = .ok (.aload_n 0, 1) := by decide +kernel
theorem dX4_noNode_6 : decode cX4_noNode 6 = .ok (.getfield 7, 3) := by decide +kernel
theorem dX4_noNode_9 : decode cX4_noNode 9 = .ok (.if_icmp .lt 7, 3) := by decide +kernel
theorem dX4_noNode_12 : decode cX4_noNode 12 = .ok (.iconst 1, 1) := by decide +kernel
theorem dX4_noNode_13 : decode cX4_noNode 13 = .ok (.goto 4, 3) := by decide +kernel
theorem dX4_noNode_16 : decode cX4_noNode 16 = .ok (.iconst 0, 1) := by decide +kernel
theorem dX4_noNode_17 : decode cX4_noNode 17 = .ok (.ireturn, 1) := by decide +kernel
theorem dX4_noArc_0 : decode cX4_noArc 0 = .ok (.iload_n 1, 1) := by decide +kernel
theorem dX4_noArc_1 : decode cX4_noArc 1 = .ok (.ifCond .lt 11, 3) := by decide +kernel
theorem dX4_noArc_4 : decode cX4_noArc 4 = .ok (.iload_n 1, 1) := by decide +kernel
theorem dX4_noArc_5 : decode cX4_noArc 5 = .ok (.aload_n 0, 1) := by decide +kernel
theorem dX4_noArc_6 : decode cX4_noArc 6 = .ok (.getfield 67, 3) := by decide +kernel
theorem dX4_noArc_9 : decode cX4_noArc 9 = .ok (.if_icmp .lt 7, 3) := by decide +kernel
theorem dX4_noArc_12 : decode cX4_noArc 12 = .ok (.iconst 1, 1) := by decide +kernel
theorem dX4_noArc_13 : decode cX4_noArc 13 = .ok (.goto 4, 3) := by decide +kernel
theorem dX4_noArc_16 : decode cX4_noArc 16 = .ok (.iconst 0, 1) := by decide +kernel
theorem dX4_noArc_17 : decode cX4_noArc 17 = .ok (.ireturn, 1) := by decide +kernel
theorem dX4_forget_0 : decode cX4_forget 0 = .ok (.aload_n 0, 1) := by decide +kernel
theorem dX4_forget_1 : decode cX4_forget 1 = .ok (.iconst 0, 1) := by decide +kernel
theorem dX4_forget_2 : decode cX4_forget 2 = .ok (.putfield 70, 3) := by decide +kernel
theorem dX4_forget_5 : decode cX4_forget 5 = .ok (.aload_n 0, 1) := by decide +kernel
theorem dX4_forget_6 : decode cX4_forget 6 = .ok (.iconst 0, 1) := by decide +kernel
theorem dX4_forget_7 : decode cX4_forget 7 = .ok (.putfield 74, 3) := by decide +kernel
theorem dX4_forget_10 : decode cX4_forget 10 = .ok (.aload_n 0, 1) := by decide +kernel
theorem dX4_forget_11 : decode cX4_forget 11 = .ok (.iconst 0, 1) := by decide +kernel
theorem dX4_forget_12 : decode cX4_forget 12 = .ok (.putfield 77, 3) := by decide +kernel
theorem dX4_forget_15 : decode cX4_forget 15 = .ok (.return_, 1) := by decide +kernel
set_option maxRecDepth 20000 in
theorem ggX4_nodes_X4_forget : GoodIn wsX4_nodes wsX4_forget := goodIn_r _ [9, 10, 11, 12, 13, 14, 15, 16, 17, 18, 19, 20, 21, 22, 23, 24, 25, 26, 27, 28, 29, 30, 31, 32, 33, 34, 35, 36, 37] (by decide +kernel) (by decide +kernel)
set_option maxRecDepth 20000 in
theorem gX4_nodes_X4_forget : GoodIn wsX4_nodes (wsV RX4 80 RX4 yX4_forget wsX4_forget) := goodIn_app (goodIn_of _ (by decide +kernel)) ggX4_nodes_X4_forget
theorem dX4_nodes_0 : decode cX4_nodes 0 = .ok (.aload_n 0, 1) := by decide +kernel
theorem dX4_nodes_1 : decode cX4_nodes 1 = .ok (.iload_n 1, 1) := by decide +kernel
theorem dX4_nodes_2 : decode cX4_nodes 2 = .ok (.iconst 1, 1) := by decide +kernel
theorem dX4_nodes_3 : decode cX4_nodes 3 = .ok (.if_icmp .lt 18, 3) := by decide +kernel
theorem dX4_nodes_6 : decode cX4_nodes 6 = .ok (.iload_n 1, 1) := by decide +kernel
theorem dX4_nodes_7 : decode cX4_nodes 7 = .ok (.bipush 24, 2) := by decide +kernel
theorem dX4_nodes_9 : decode cX4_nodes 9 = .ok (.if_icmp .gt 12, 3) := by decide +kernel
theorem dX4_nodes_12 : decode cX4_nodes 12 = .ok (.iload_n 2, 1) := by decide +kernel
theorem dX4_nodes_13 : decode cX4_nodes 13 = .ok (.ifCond .lt 8, 3) := by decide +kernel
theorem dX4_nodes_16 : decode cX4_nodes 16 = .ok (.iload_n 2, 1) := by decide +kernel
theorem dX4_nodes_17 : decode cX4_nodes 17 = .ok (.iload_n 1, 1) := by decide +kernel
theorem dX4_nodes_18 : decode cX4_nodes 18 = .ok (.if_icmp .lt 7, 3) := by decide +kernel
theorem dX4_nodes_21 : decode cX4_nodes 21 = .ok (.iconst 1, 1) := by decide +kernel
theorem dX4_nodes_22 : decode cX4_nodes 22 = .ok (.goto 4, 3) := by decide +kernel
theorem dX4_nodes_25 : decode cX4_nodes 25 = .ok (.iconst 0, 1) := by decide +kernel
theorem dX4_nodes_26 : decode cX4_nodes 26 = .ok (.putfield 64, 3) := by decide +kernel
theorem dX4_nodes_29 : decode cX4_nodes 29 = .ok (.aload_n 0, 1) := by decide +kernel
theorem dX4_nodes_30 : decode cX4_nodes 30 = .ok (.getfield 64, 3) := by decide +kernel
theorem dX4_nodes_33 : decode cX4_nodes 33 = .ok (.ifCond .ne 22, 3) := by decide +kernel
theorem dX4_nodes_36 : decode cX4_nodes 36 = .ok (.aload_n 0, 1) := by decide +kernel
theorem dX4_nodes_37 : decode cX4_nodes 37 = .ok (.iload_n 1, 1) := by decide +kernel
theorem dX4_nodes_38 : decode cX4_nodes 38 = .ok (.putfield 7, 3) := by decide +kernel
theorem dX4_nodes_41 : decode cX4_nodes 41 = .ok (.aload_n 0, 1) := by decide +kernel
theorem dX4_nodes_42 : decode cX4_nodes 42 = .ok (.iload_n 2, 1) := by decide +kernel
theorem dX4_nodes_43 : decode cX4_nodes 43 = .ok (.putfield 61, 3) := by decide +kernel
theorem dX4_nodes_46 : decode cX4_nodes 46 = .ok (.aload_n 0, 1) := by decide +kernel
theorem dX4_nodes_47 : decode cX4_nodes 47 = .ok (.iconst 0, 1) := by decide +kernel
theorem dX4_nodes_48 : decode cX4_nodes 48 = .ok (.putfield 67, 3) := by decide +kernel
theorem dX4_nodes_51 : decode cX4_nodes 51 = .ok (.aload_n 0, 1) := by decide +kernel
theorem dX4_nodes_52 : decode cX4_nodes 52 = .ok (.invokevirtual 80, 3) := by decide +kernel
theorem dX4_nodes_55 : decode cX4_nodes 55 = .ok (.return_, 1) := by decide +kernel
set_option maxRecDepth 20000 in
theorem ggX4_arc_X4_noNode : GoodIn wsX4_arc wsX4_noNode := goodIn_r _ [12, 13, 21, 22, 23, 24, 25, 26, 27, 28, 29, 30, 31, 32, 33, 34, 35, 36, 37, 38, 39, 40, 41, 42, 43, 44, 45] (by decide +kernel) (by decide +kernel)
set_option maxRecDepth 20000 in
theorem gX4_arc_X4_noNode : GoodIn wsX4_arc (wsV RX4 83 RX4 yX4_noNode wsX4_noNode) := goodIn_app (goodIn_of _ (by decide +kernel)) ggX4_arc_X4_noNode
set_option maxRecDepth 20000 in
theorem ggX4_arc_X4_forget : GoodIn wsX4_arc wsX4_forget := goodIn_r _ [17, 18, 19, 20, 21, 22, 23, 24, 25, 26, 27, 28, 29, 30, 31, 32, 33, 34, 35, 36, 37, 38, 39, 40, 41, 42, 43, 44, 45] (by decide +kernel) (by decide +kernel)
set_option maxRecDepth 20000 in
theorem gX4_arc_X4_forget : GoodIn wsX4_arc (wsV RX4 80 RX4 yX4_forget wsX4_forget) := goodIn_app (goodIn_of _ (by decide +kernel)) ggX4_arc_X4_forget
theorem dX4_arc_0 : decode cX4_arc 0 = .ok (.aload_n 0, 1) := by decide +kernel
theorem dX4_arc_1 : decode cX4_arc 1 = .ok (.aload_n 0, 1) := by decide +kernel
theorem dX4_arc_2 : decode cX4_arc 2 = .ok (.iload_n 1, 1) := by decide +kernel
theorem dX4_arc_3 : decode cX4_arc 3 = .ok (.invokevirtual 83, 3) := by decide +kernel
theorem dX4_arc_6 : decode cX4_arc 6 = .ok (.ifCond .ne 11, 3) := by decide +kernel
theorem dX4_arc_9 : decode cX4_arc 9 = .ok (.aload_n 0, 1) := by decide +kernel
theorem dX4_arc_10 : decode cX4_arc 10 = .ok (.iload_n 2, 1) := by decide +kernel
theorem dX4_arc_11 : decode cX4_arc 11 = .ok (.invokevirtual 83, 3) := by decide +kernel
theorem dX4_arc_14 : decode cX4_arc 14 = .ok (.ifCond .eq 7, 3) := by decide +kernel
theorem dX4_arc_17 : decode cX4_arc 17 = .ok (.iconst 1, 1) := by decide +kernel
theorem dX4_arc_18 : decode cX4_arc 18 = .ok (.goto 27, 3) := by decide +kernel
theorem dX4_arc_21 : decode cX4_arc 21 = .ok (.iload_n 1, 1) := by decide +kernel
theorem dX4_arc_22 : decode cX4_arc 22 = .ok (.iload_n 2, 1) := by decide +kernel
theorem dX4_arc_23 : decode cX4_arc 23 = .ok (.if_icmp .eq 17, 3) := by decide +kernel
theorem dX4_arc_26 : decode cX4_arc 26 = .ok (.lload_n 3, 1) := by decide +kernel
theorem dX4_arc_27 : decode cX4_arc 27 = .ok (.lconst 0, 1) := by decide +kernel
theorem dX4_arc_28 : decode cX4_arc 28 = .ok (.lcmp, 1) := by decide +kernel
theorem dX4_arc_29 : decode cX4_arc 29 = .ok (.ifCond .lt 11, 3) := by decide +kernel
theorem dX4_arc_32 : decode cX4_arc 32 = .ok (.lload_n 3, 1) := by decide +kernel
theorem dX4_arc_33 : decode cX4_arc 33 = .ok (.ldc2_w 87, 3) := by decide +kernel
theorem dX4_arc_36 : decode cX4_arc 36 = .ok (.lcmp, 1) := by decide +kernel
theorem dX4_arc_37 : decode cX4_arc 37 = .ok (.ifCond .le 7, 3) := by decide +kernel
theorem dX4_arc_40 : decode cX4_arc 40 = .ok (.iconst 2, 1) := by decide +kernel
theorem dX4_arc_41 : decode cX4_arc 41 = .ok (.goto 4, 3) := by decide +kernel
theorem dX4_arc_44 : decode cX4_arc 44 = .ok (.iconst 0, 1) := by decide +kernel
theorem dX4_arc_45 : decode cX4_arc 45 = .ok (.putfield 64, 3) := by decide +kernel
theorem dX4_arc_48 : decode cX4_arc 48 = .ok (.aload_n 0, 1) := by decide +kernel
theorem dX4_arc_49 : decode cX4_arc 49 = .ok (.getfield 64, 3) := by decide +kernel
theorem dX4_arc_52 : decode cX4_arc 52 = .ok (.ifCond .le 5, 3) := by decide +kernel
theorem dX4_arc_55 : decode cX4_arc 55 = .ok (.iconst 0, 1) := by decide +kernel
theorem dX4_arc_56 : decode cX4_arc 56 = .ok (.ireturn, 1) := by decide +kernel
theorem dX4_arc_57 : decode cX4_arc 57 = .ok (.aload_n 0, 1) := by decide +kernel
theorem dX4_arc_58 : decode cX4_arc 58 = .ok (.getfield 67, 3) := by decide +kernel
theorem dX4_arc_61 : decode cX4_arc 61 = .ok (.bipush 60, 2) := by decide +kernel
theorem dX4_arc_63 : decode cX4_arc 63 = .ok (.if_icmp .ne 5, 3) := by decide +kernel
theorem dX4_arc_66 : decode cX4_arc 66 = .ok (.iconst (-1), 1) := by decide +kernel
theorem dX4_arc_67 : decode cX4_arc 67 = .ok (.ireturn, 1) := by decide +kernel
theorem dX4_arc_68 : decode cX4_arc 68 = .ok (.aload_n 0, 1) := by decide +kernel
theorem dX4_arc_69 : decode cX4_arc 69 = .ok (.getfield 13, 3) := by decide +kernel
theorem dX4_arc_72 : decode cX4_arc 72 = .ok (.aload_n 0, 1) := by decide +kernel
theorem dX4_arc_73 : decode cX4_arc 73 = .ok (.getfield 67, 3) := by decide +kernel
theorem dX4_arc_76 : decode cX4_arc 76 = .ok (.iload_n 1, 1) := by decide +kernel
theorem dX4_arc_77 : decode cX4_arc 77 = .ok (.iastore, 1) := by decide +kernel
theorem dX4_arc_78 : decode cX4_arc 78 = .ok (.aload_n 0, 1) := by decide +kernel
theorem dX4_arc_79 : decode cX4_arc 79 = .ok (.getfield 17, 3) := by decide +kernel
theorem dX4_arc_82 : decode cX4_arc 82 = .ok (.aload_n 0, 1) := by decide +kernel
theorem dX4_arc_83 : decode cX4_arc 83 = .ok (.getfield 67, 3) := by decide +kernel
