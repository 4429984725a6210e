theorem dX0_init_0 : decode cX0_init 0 = .ok (.aload_n 0, 1) := by decide +kernel
theorem dX0_init_1 : decode cX0_init 1 = .ok (.invokespecial 3, 3) := by decide +kernel
theorem dX0_init_4 : decode cX0_init 4 = .ok (.aload_n 0, 1) := by decide +kernel
theorem dX0_init_5 : decode cX0_init 5 = .ok (.bipush 45, 2) := by decide +kernel
theorem dX0_init_7 : decode cX0_init 7 = .ok (.newarray .int, 2) := by decide +kernel
theorem dX0_init_9 : decode cX0_init 9 = .ok (.putfield 9, 3) := by decide +kernel
theorem dX0_init_12 : decode cX0_init 12 = .ok (.aload_n 0, 1) := by decide +kernel
theorem dX0_init_13 : decode cX0_init 13 = .ok (.bipush 45, 2) := by decide +kernel
theorem dX0_init_15 : decode cX0_init 15 = .ok (.newarray .int, 2) := by decide +kernel
theorem dX0_init_17 : decode cX0_init 17 = .ok (.putfield 15, 3) := by decide +kernel
theorem dX0_init_20 : decode cX0_init 20 = .ok (.aload_n 0, 1) := by decide +kernel
theorem dX0_init_21 : decode cX0_init 21 = .ok (.bipush 45, 2) := by decide +kernel
theorem dX0_init_23 : decode cX0_init 23 = .ok (.newarray .int, 2) := by decide +kernel
theorem dX0_init_25 : decode cX0_init 25 = .ok (.putfield 18, 3) := by decide +kernel
theorem dX0_init_28 : decode cX0_init 28 = .ok (.aload_n 0, 1) := by decide +kernel
theorem dX0_init_29 : decode cX0_init 29 = .ok (.bipush 45, 2) := by decide +kernel
theorem dX0_init_31 : decode cX0_init 31 = .ok (.newarray .long, 2) := by decide +kernel
theorem dX0_init_33 : decode cX0_init 33 = .ok (.putfield 21, 3) := by decide +kernel
theorem dX0_init_36 : decode cX0_init 36 = .ok (.aload_n 0, 1) := by decide +kernel
theorem dX0_init_37 : decode cX0_init 37 = .ok (.bipush 45, 2) := by decide +kernel
theorem dX0_init_39 : decode cX0_init 39 = .ok (.newarray .long, 2) := by decide +kernel
theorem dX0_init_41 : decode cX0_init 41 = .ok (.putfield 25, 3) := by decide +kernel
theorem dX0_init_44 : decode cX0_init 44 = .ok (.aload_n 0, 1) := by decide +kernel
theorem dX0_init_45 : decode cX0_init 45 = .ok (.bipush 45, 2) := by decide +kernel
theorem dX0_init_47 : decode cX0_init 47 = .ok (.newarray .int, 2) := by decide +kernel
theorem dX0_init_49 : decode cX0_init 49 = .ok (.putfield 28, 3) := by decide +kernel
theorem dX0_init_52 : decode cX0_init 52 = .ok (.aload_n 0, 1) := by decide +kernel
theorem dX0_init_53 : decode cX0_init 53 = .ok (.iconst 0, 1) := by decide +kernel
theorem dX0_init_54 : decode cX0_init 54 = .ok (.putfield 31, 3) := by decide +kernel
theorem dX0_init_57 : decode cX0_init 57 = .ok (.aload_n 0, 1) := by decide +kernel
theorem dX0_init_58 : decode cX0_init 58 = .ok (.bipush 45, 2) := by decide +kernel
theorem dX0_init_60 : decode cX0_init 60 = .ok (.newarray .int, 2) := by decide +kernel
theorem dX0_init_62 : decode cX0_init 62 = .ok (.putfield 35, 3) := by decide +kernel
theorem dX0_init_65 : decode cX0_init 65 = .ok (.aload_n 0, 1) := by decide +kernel
theorem dX0_init_66 : decode cX0_init 66 = .ok (.bipush 45, 2) := by decide +kernel
theorem dX0_init_68 : decode cX0_init 68 = .ok (.newarray .int, 2) := by decide +kernel
theorem dX0_init_70 : decode cX0_init 70 = .ok (.putfield 38, 3) := by decide +kernel
theorem dX0_init_73 : decode cX0_init 73 = .ok (.aload_n 0, 1) := by decide +kernel
theorem dX0_init_74 : decode cX0_init 74 = .ok (.bipush 24, 2) := by decide +kernel
theorem dX0_init_76 : decode cX0_init 76 = .ok (.newarray .int, 2) := by decide +kernel
theorem dX0_init_78 : decode cX0_init 78 = .ok (.putfield 41, 3) := by decide +kernel
theorem dX0_init_81 : decode cX0_init 81 = .ok (.aload_n 0, 1) := by decide +kernel
theorem dX0_init_82 : decode cX0_init 82 = .ok (.bipush 24, 2) := by decide +kernel
theorem dX0_init_84 : decode cX0_init 84 = .ok (.newarray .long, 2) := by decide +kernel
theorem dX0_init_86 : decode cX0_init 86 = .ok (.putfield 44, 3) := by decide +kernel
theorem dX0_init_89 : decode cX0_init 89 = .ok (.aload_n 0, 1) := by decide +kernel
theorem dX0_init_90 : decode cX0_init 90 = .ok (.bipush 24, 2) := by decide +kernel
theorem dX0_init_92 : decode cX0_init 92 = .ok (.newarray .long, 2) := by decide +kernel
theorem dX0_init_94 : decode cX0_init 94 = .ok (.putfield 47, 3) := by decide +kernel
theorem dX0_init_97 : decode cX0_init 97 = .ok (.aload_n 0, 1) := by decide +kernel
theorem dX0_init_98 : decode cX0_init 98 = .ok (.aload_n 1, 1) := by decide +kernel
theorem dX0_init_99 : decode cX0_init 99 = .ok (.putfield 50, 3) := by decide +kernel
theorem dX0_init_102 : decode cX0_init 102 = .ok (.return_, 1) := by decide +kernel
set_option maxRecDepth 20000 in
theorem ggX0_grow_J7_fill_53178 : GoodIn wsX0_grow wsJ7_fill_53178 := goodIn_r _ [11] (by decide +kernel) (by decide +kernel)
set_option maxRecDepth 20000 in
theorem gX0_grow_J7_fill_53178 : GoodIn wsX0_grow (va_wsS RX0 54 yJ7_fill_53178 wsJ7_fill_53178) := goodIn_app (goodIn_of _ (by decide +kernel)) ggX0_grow_J7_fill_53178
set_option maxRecDepth 20000 in
theorem ggX0_grow_J7_fill_d0a16 : GoodIn wsX0_grow wsJ7_fill_d0a16 := goodIn_r _ [14] (by decide +kernel) (by decide +kernel)
set_option maxRecDepth 20000 in
theorem gX0_grow_J7_fill_d0a16 : GoodIn wsX0_grow (va_wsS RX0 60 yJ7_fill_d0a16 wsJ7_fill_d0a16) := goodIn_app (goodIn_of _ (by decide +kernel)) ggX0_grow_J7_fill_d0a16
set_option maxRecDepth 20000 in
theorem ggX0_grow_X0_addSet : GoodIn wsX0_grow wsX0_addSet := goodIn_r _ [19, 1, 20, 21, 22, 23, 24, 25, 18, 26, 27, 28, 29, 30, 5, 31, 32, 33, 34, 3, 4, 35, 36, 37, 38, 39, 40, 41, 42, 43, 44, 45, 46, 47, 48, 49, 50, 51, 6, 2, 84, 85, 86, 87, 88, 89, 90, 91, 92, 93, 94, 95, 96, 97, 98, 99, 100, 101, 102, 103] (by decide +kernel) (by decide +kernel)
set_option maxRecDepth 20000 in
theorem gX0_grow_X0_addSet : GoodIn wsX0_grow (wsV RX0 71 RX0 yX0_addSet wsX0_addSet) := goodIn_app (goodIn_of _ (by decide +kernel)) ggX0_grow_X0_addSet
set_option maxRecDepth 20000 in
theorem ggX0_grow_X0_walkBackFrom : GoodIn wsX0_grow wsX0_walkBackFrom := goodIn_r _ [55, 2, 22, 56, 57, 58, 18, 59, 35, 5, 60, 61, 62, 63, 64, 20, 15, 16, 17, 19, 1, 21, 23, 24, 25, 26, 27, 28, 29, 30, 31, 32, 33, 34, 3, 4, 36, 37, 38, 39, 40, 41, 42, 43, 44, 45, 46, 47, 48, 49, 50, 51, 6, 84, 85, 86, 87, 88, 89, 90, 91, 92, 93, 94, 95, 96, 97, 98, 99, 100, 101, 102, 103] (by decide +kernel) (by decide +kernel)
set_option maxRecDepth 20000 in
theorem gX0_grow_X0_walkBackFrom : GoodIn wsX0_grow (wsV RX0 75 RX0 yX0_walkBackFrom wsX0_walkBackFrom) := goodIn_app (goodIn_of _ (by decide +kernel)) ggX0_grow_X0_walkBackFrom
set_option maxRecDepth 20000 in
theorem ggX0_grow_X0_numberSets : GoodIn wsX0_grow wsX0_numberSets := goodIn_r _ [68, 1, 20, 69, 70, 71, 72, 18, 73, 74, 75, 76, 77, 78, 79, 80, 81, 82, 83, 84, 85, 86, 87, 88, 89, 90, 91, 92, 93, 94, 95, 96] (by decide +kernel) (by decide +kernel)
set_option maxRecDepth 20000 in
theorem gX0_grow_X0_numberSets : GoodIn wsX0_grow (wsV RX0 79 RX0 yX0_numberSets wsX0_numberSets) := goodIn_app (goodIn_of _ (by decide +kernel)) ggX0_grow_X0_numberSets
theorem dX0_grow_0 : decode cX0_grow 0 = .ok (.aload_n 0, 1) := by decide +kernel
theorem dX0_grow_1 : decode cX0_grow 1 = .ok (.iconst 0, 1) := by decide +kernel
theorem dX0_grow_2 : decode cX0_grow 2 = .ok (.putfield 31, 3) := by decide +kernel
theorem dX0_grow_5 : decode cX0_grow 5 = .ok (.aload_n 0, 1) := by decide +kernel
theorem dX0_grow_6 : decode cX0_grow 6 = .ok (.getfield 41, 3) := by decide +kernel
theorem dX0_grow_9 : decode cX0_grow 9 = .ok (.iconst (-1), 1) := by decide +kernel
theorem dX0_grow_10 : decode cX0_grow 10 = .ok (.invokestatic 54, 3) := by decide +kernel
theorem dX0_grow_13 : decode cX0_grow 13 = .ok (.aload_n 0, 1) := by decide +kernel
theorem dX0_grow_14 : decode cX0_grow 14 = .ok (.getfield 44, 3) := by decide +kernel
theorem dX0_grow_17 : decode cX0_grow 17 = .ok (.lconst 0, 1) := by decide +kernel
theorem dX0_grow_18 : decode cX0_grow 18 = .ok (.invokestatic 60, 3) := by decide +kernel
theorem dX0_grow_21 : decode cX0_grow 21 = .ok (.aload_n 0, 1) := by decide +kernel
theorem dX0_grow_22 : decode cX0_grow 22 = .ok (.getfield 47, 3) := by decide +kernel
theorem dX0_grow_25 : decode cX0_grow 25 = .ok (.lconst 0, 1) := by decide +kernel
theorem dX0_grow_26 : decode cX0_grow 26 = .ok (.invokestatic 60, 3) := by decide +kernel
theorem dX0_grow_29 : decode cX0_grow 29 = .ok (.iconst 0, 1) := by decide +kernel
theorem dX0_grow_30 : decode cX0_grow 30 = .ok (.istore_n 1, 1) := by decide +kernel
theorem dX0_grow_31 : decode cX0_grow 31 = .ok (.iload_n 1, 1) := by decide +kernel
theorem dX0_grow_32 : decode cX0_grow 32 = .ok (.aload_n 0, 1) := by decide +kernel
theorem dX0_grow_33 : decode cX0_grow 33 = .ok (.getfield 50, 3) := by decide +kernel
theorem dX0_grow_36 : decode cX0_grow 36 = .ok (.getfield 63, 3) := by decide +kernel
theorem dX0_grow_39 : decode cX0_grow 39 = .ok (.if_icmp .ge 28, 3) := by decide +kernel
theorem dX0_grow_42 : decode cX0_grow 42 = .ok (.iload_n 1, 1) := by decide +kernel
theorem dX0_grow_43 : decode cX0_grow 43 = .ok (.aload_n 0, 1) := by decide +kernel
theorem dX0_grow_44 : decode cX0_grow 44 = .ok (.getfield 50, 3) := by decide +kernel
theorem dX0_grow_47 : decode cX0_grow 47 = .ok (.getfield 68, 3) := by decide +kernel
theorem dX0_grow_50 : decode cX0_grow 50 = .ok (.if_icmp .eq 11, 3) := by decide +kernel
theorem dX0_grow_53 : decode cX0_grow 53 = .ok (.aload_n 0, 1) := by decide +kernel
theorem dX0_grow_54 : decode cX0_grow 54 = .ok (.iconst 1, 1) := by decide +kernel
theorem dX0_grow_55 : decode cX0_grow 55 = .ok (.iload_n 1, 1) := by decide +kernel
theorem dX0_grow_56 : decode cX0_grow 56 = .ok (.ishl, 1) := by decide +kernel
theorem dX0_grow_57 : decode cX0_grow 57 = .ok (.invokevirtual 71, 3) := by decide +kernel
theorem dX0_grow_60 : decode cX0_grow 60 = .ok (.pop, 1) := by decide +kernel
theorem dX0_grow_61 : decode cX0_grow 61 = .ok (.iinc 1 1, 3) := by decide +kernel
theorem dX0_grow_64 : decode cX0_grow 64 = .ok (.goto (-33), 3) := by decide +kernel
theorem dX0_grow_67 : decode cX0_grow 67 = .ok (.iconst 0, 1) := by decide +kernel
theorem dX0_grow_68 : decode cX0_grow 68 = .ok (.istore_n 1, 1) := by decide +kernel
theorem dX0_grow_69 : decode cX0_grow 69 = .ok (.iload_n 1, 1) := by decide +kernel
theorem dX0_grow_70 : decode cX0_grow 70 = .ok (.aload_n 0, 1) := by decide +kernel
theorem dX0_grow_71 : decode cX0_grow 71 = .ok (.getfield 50, 3) := by decide +kernel
theorem dX0_grow_74 : decode cX0_grow 74 = .ok (.getfield 63, 3) := by decide +kernel
theorem dX0_grow_77 : decode cX0_grow 77 = .ok (.if_icmp .ge 14, 3) := by decide +kernel
theorem dX0_grow_80 : decode cX0_grow 80 = .ok (.aload_n 0, 1) := by decide +kernel
theorem dX0_grow_81 : decode cX0_grow 81 = .ok (.iload_n 1, 1) := by decide +kernel
theorem dX0_grow_82 : decode cX0_grow 82 = .ok (.invokevirtual 75, 3) := by decide +kernel
theorem dX0_grow_85 : decode cX0_grow 85 = .ok (.iinc 1 1, 3) := by decide +kernel
theorem dX0_grow_88 : decode cX0_grow 88 = .ok (.goto (-19), 3) := by decide +kernel
theorem dX0_grow_91 : decode cX0_grow 91 = .ok (.aload_n 0, 1) := by decide +kernel
theorem dX0_grow_92 : decode cX0_grow 92 = .ok (.invokevirtual 79, 3) := by decide +kernel
theorem dX0_grow_95 : decode cX0_grow 95 = .ok (.return_, 1) := by decide +kernel
theorem dX0_numberOfOuter_0 : decode cX0_numberOfOuter 0 = .ok (.aload_n 0, 1) := by decide +kernel
theorem dX0_numberOfOuter_1 : decode cX0_numberOfOuter 1 = .ok (.getfield 18, 3) := by decide +kernel
theorem dX0_numberOfOuter_4 : decode cX0_numberOfOuter 4 = .ok (.iload_n 1, 1) := by decide +kernel
theorem dX0_numberOfOuter_5 : decode cX0_numberOfOuter 5 = .ok (.iaload, 1) := by decide +kernel
theorem dX0_numberOfOuter_6 : decode cX0_numberOfOuter 6 = .ok (.istore_n 2, 1) := by decide +kernel
theorem dX0_numberOfOuter_7 : decode cX0_numberOfOuter 7 = .ok (.iload_n 2, 1) := by decide +kernel
theorem dX0_numberOfOuter_8 : decode cX0_numberOfOuter 8 = .ok (.iconst (-1), 1) := by decide +kernel
theorem dX0_numberOfOuter_9 : decode cX0_numberOfOuter 9 = .ok (.if_icmp .ne 7, 3) := by decide +kernel
theorem dX0_numberOfOuter_12 : decode cX0_numberOfOuter 12 = .ok (.iconst (-1), 1) := by decide +kernel
theorem dX0_numberOfOuter_13 : decode cX0_numberOfOuter 13 = .ok (.goto 9, 3) := by decide +kernel
theorem dX0_numberOfOuter_16 : decode cX0_numberOfOuter 16 = .ok (.aload_n 0, 1) := by decide +kernel
theorem dX0_numberOfOuter_17 : decode cX0_numberOfOuter 17 = .ok (.getfield 35, 3) := by decide +kernel
theorem dX0_numberOfOuter_20 : decode cX0_numberOfOuter 20 = .ok (.iload_n 2, 1) := by decide +kernel
theorem dX0_numberOfOuter_21 : decode cX0_numberOfOuter 21 = .ok (.iaload, 1) := by decide +kernel
theorem dX0_numberOfOuter_22 : decode cX0_numberOfOuter 22 = .ok (.ireturn, 1) := by decide +kernel
set_option maxRecDepth 20000 in
theorem ggX0_sumOfDualsEntered_X1_enters : GoodIn wsX0_sumOfDualsEntered wsX1_enters := goodIn_r _ [9, 10, 11, 12, 13, 14, 28, 29, 30, 31, 32, 33, 34] (by decide +kernel) (by decide +kernel)
set_option maxRecDepth 20000 in
theorem gX0_sumOfDualsEntered_X1_enters : GoodIn wsX0_sumOfDualsEntered (wsV RX0 82 RX1 yX1_enters wsX1_enters) := goodIn_app (goodIn_of _ (by decide +kernel)) ggX0_sumOfDualsEntered_X1_enters
theorem dX0_sumOfDualsEntered_0 : decode cX0_sumOfDualsEntered 0 = .ok (.lconst 0, 1) := by decide +kernel
theorem dX0_sumOfDualsEntered_1 : decode cX0_sumOfDualsEntered 1 = .ok (.lstore_n 2, 1) := by decide +kernel
theorem dX0_sumOfDualsEntered_2 : decode cX0_sumOfDualsEntered 2 = .ok (.iconst 0, 1) := by decide +kernel
theorem dX0_sumOfDualsEntered_3 : decode cX0_sumOfDualsEntered 3 = .ok (.istore 4, 2) := by decide +kernel
theorem dX0_sumOfDualsEntered_5 : decode cX0_sumOfDualsEntered 5 = .ok (.iload 4, 2) := by decide +kernel
theorem dX0_sumOfDualsEntered_7 : decode cX0_sumOfDualsEntered 7 = .ok (.aload_n 0, 1) := by decide +kernel
theorem dX0_sumOfDualsEntered_8 : decode cX0_sumOfDualsEntered 8 = .ok (.getfield 31, 3) := by decide +kernel
theorem dX0_sumOfDualsEntered_11 : decode cX0_sumOfDualsEntered 11 = .ok (.if_icmp .ge 37, 3) := by decide +kernel
theorem dX0_sumOfDualsEntered_14 : decode cX0_sumOfDualsEntered 14 = .ok (.aload_n 0, 1) := by decide +kernel
theorem dX0_sumOfDualsEntered_15 : decode cX0_sumOfDualsEntered 15 = .ok (.getfield 50, 3) := by decide +kernel
theorem dX0_sumOfDualsEntered_18 : decode cX0_sumOfDualsEntered 18 = .ok (.iload_n 1, 1) := by decide +kernel
theorem dX0_sumOfDualsEntered_19 : decode cX0_sumOfDualsEntered 19 = .ok (.aload_n 0, 1) := by decide +kernel
theorem dX0_sumOfDualsEntered_20 : decode cX0_sumOfDualsEntered 20 = .ok (.getfield 9, 3) := by decide +kernel
theorem dX0_sumOfDualsEntered_23 : decode cX0_sumOfDualsEntered 23 = .ok (.iload 4, 2) := by decide +kernel
theorem dX0_sumOfDualsEntered_25 : decode cX0_sumOfDualsEntered 25 = .ok (.iaload, 1) := by decide +kernel
theorem dX0_sumOfDualsEntered_26 : decode cX0_sumOfDualsEntered 26 = .ok (.invokevirtual 82, 3) := by decide +kernel
theorem dX0_sumOfDualsEntered_29 : decode cX0_sumOfDualsEntered 29 = .ok (.ifCond .eq 13, 3) := by decide +kernel
theorem dX0_sumOfDualsEntered_32 : decode cX0_sumOfDualsEntered 32 = .ok (.lload_n 2, 1) := by decide +kernel
theorem dX0_sumOfDualsEntered_33 : decode cX0_sumOfDualsEntered 33 = .ok (.aload_n 0, 1) := by decide +kernel
theorem dX0_sumOfDualsEntered_34 : decode cX0_sumOfDualsEntered 34 = .ok (.getfield 21, 3) := by decide +kernel
theorem dX0_sumOfDualsEntered_37 : decode cX0_sumOfDualsEntered 37 = .ok (.iload 4, 2) := by decide +kernel
theorem dX0_sumOfDualsEntered_39 : decode cX0_sumOfDualsEntered 39 = .ok (.laload, 1) := by decide +kernel
theorem dX0_sumOfDualsEntered_40 : decode cX0_sumOfDualsEntered 40 = .ok (.ladd, 1) := by decide +kernel
theorem dX0_sumOfDualsEntered_41 : decode cX0_sumOfDualsEntered 41 = .ok (.lstore_n 2, 1) := by decide +kernel
theorem dX0_sumOfDualsEntered_42 : decode cX0_sumOfDualsEntered 42 = .ok (.iinc 4 1, 3) := by decide +kernel
theorem dX0_sumOfDualsEntered_45 : decode cX0_sumOfDualsEntered 45 = .ok (.goto (-40), 3) := by decide +kernel
theorem dX0_sumOfDualsEntered_48 : decode cX0_sumOfDualsEntered 48 = .ok (.lload_n 2, 1) := by decide +kernel
theorem dX0_sumOfDualsEntered_49 : decode cX0_sumOfDualsEntered 49 = .ok (.lreturn, 1) := by decide +kernel
set_option maxRecDepth 20000 in
theorem ggX0_walkBackFrom_X0_setBefore : GoodIn wsX0_walkBackFrom wsX0_setBefore := goodIn_r _ [7, 8, 1, 9, 10, 53, 54, 55, 56, 57, 58, 59, 60, 61, 62, 63, 64, 65, 66, 67, 68, 69, 70, 71, 72] (by decide +kernel) (by decide +kernel)
set_option maxRecDepth 20000 in
theorem gX0_walkBackFrom_X0_setBefore : GoodIn wsX0_walkBackFrom (wsV RX0 86 RX0 yX0_setBefore wsX0_setBefore) := goodIn_app (goodIn_of _ (by decide +kernel)) ggX0_walkBackFrom_X0_setBefore
set_option maxRecDepth 20000 in
theorem ggX0_walkBackFrom_X0_nodesOfRing : GoodIn wsX0_walkBackFrom wsX0_nodesOfRing := goodIn_r _ [14, 15, 3, 4, 5, 6, 7, 8, 1, 9, 10, 53, 54, 55, 56, 57, 58, 59, 60, 61, 62, 63, 64, 65, 66, 67, 68, 69, 70, 71, 72] (by decide +kernel) (by decide +kernel)
set_option maxRecDepth 20000 in
theorem gX0_walkBackFrom_X0_nodesOfRing : GoodIn wsX0_walkBackFrom (wsV RX0 89 RX0 yX0_nodesOfRing wsX0_nodesOfRing) := goodIn_app (goodIn_of _ (by decide +kernel)) ggX0_walkBackFrom_X0_nodesOfRing
set_option maxRecDepth 20000 in
theorem ggX0_walkBackFrom_X0_addSet : GoodIn wsX0_walkBackFrom wsX0_addSet := goodIn_r _ [19, 20, 15, 21, 2, 22, 23, 24, 6, 25, 26, 27, 28, 29, 9, 30, 31, 32, 33, 34, 35, 8, 36, 37, 38, 39, 40, 41, 42, 43, 44, 45, 46, 47, 48, 49, 50, 51, 52, 1, 53, 54, 55, 56, 57, 58, 59, 60, 61, 62, 63, 64, 65, 66, 67, 68, 69, 70, 71, 72] (by decide +kernel) (by decide +kernel)
set_option maxRecDepth 20000 in
theorem gX0_walkBackFrom_X0_addSet : GoodIn wsX0_walkBackFrom (wsV RX0 71 RX0 yX0_addSet wsX0_addSet) := goodIn_app (goodIn_of _ (by decide +kernel)) ggX0_walkBackFrom_X0_addSet
theorem dX0_walkBackFrom_0 : decode cX0_walkBackFrom 0 = .ok (.aload_n 0, 1) := by decide +kernel
theorem dX0_walkBackFrom_1 : decode cX0_walkBackFrom 1 = .ok (.getfield 41, 3) := by decide +kernel
theorem dX0_walkBackFrom_4 : decode cX0_walkBackFrom 4 = .ok (.iload_n 1, 1) := by decide +kernel
theorem dX0_walkBackFrom_5 : decode cX0_walkBackFrom 5 = .ok (.iaload, 1) := by decide +kernel
theorem dX0_walkBackFrom_6 : decode cX0_walkBackFrom 6 = .ok (.istore_n 2, 1) := by decide +kernel
theorem dX0_walkBackFrom_7 : decode cX0_walkBackFrom 7 = .ok (.iconst 0, 1) := by decide +kernel
theorem dX0_walkBackFrom_8 : decode cX0_walkBackFrom 8 = .ok (.istore_n 3, 1) := by decide +kernel
theorem dX0_walkBackFrom_9 : decode cX0_walkBackFrom 9 = .ok (.iload_n 3, 1) := by decide +kernel
theorem dX0_walkBackFrom_10 : decode cX0_walkBackFrom 10 = .ok (.bipush 90, 2) := by decide +kernel
theorem dX0_walkBackFrom_12 : decode cX0_walkBackFrom 12 = .ok (.if_icmp .ge 60, 3) := by decide +kernel
theorem dX0_walkBackFrom_15 : decode cX0_walkBackFrom 15 = .ok (.iload_n 2, 1) := by decide +kernel
theorem dX0_walkBackFrom_16 : decode cX0_walkBackFrom 16 = .ok (.iconst (-1), 1) := by decide +kernel
theorem dX0_walkBackFrom_17 : decode cX0_walkBackFrom 17 = .ok (.if_icmp .eq 55, 3) := by decide +kernel
theorem dX0_walkBackFrom_20 : decode cX0_walkBackFrom 20 = .ok (.aload_n 0, 1) := by decide +kernel
theorem dX0_walkBackFrom_21 : decode cX0_walkBackFrom 21 = .ok (.getfield 38, 3) := by decide +kernel
theorem dX0_walkBackFrom_24 : decode cX0_walkBackFrom 24 = .ok (.iload_n 2, 1) := by decide +kernel
theorem dX0_walkBackFrom_25 : decode cX0_walkBackFrom 25 = .ok (.iaload, 1) := by decide +kernel
theorem dX0_walkBackFrom_26 : decode cX0_walkBackFrom 26 = .ok (.iconst (-1), 1) := by decide +kernel
theorem dX0_walkBackFrom_27 : decode cX0_walkBackFrom 27 = .ok (.if_icmp .ne 19, 3) := by decide +kernel
theorem dX0_walkBackFrom_30 : decode cX0_walkBackFrom 30 = .ok (.aload_n 0, 1) := by decide +kernel
theorem dX0_walkBackFrom_31 : decode cX0_walkBackFrom 31 = .ok (.getfield 38, 3) := by decide +kernel
theorem dX0_walkBackFrom_34 : decode cX0_walkBackFrom 34 = .ok (.iload_n 2, 1) := by decide +kernel
theorem dX0_walkBackFrom_35 : decode cX0_walkBackFrom 35 = .ok (.iload_n 1, 1) := by decide +kernel
theorem dX0_walkBackFrom_36 : decode cX0_walkBackFrom 36 = .ok (.iastore, 1) := by decide +kernel
theorem dX0_walkBackFrom_37 : decode cX0_walkBackFrom 37 = .ok (.aload_n 0, 1) := by decide +kernel
theorem dX0_walkBackFrom_38 : decode cX0_walkBackFrom 38 = .ok (.iload_n 2, 1) := by decide +kernel
theorem dX0_walkBackFrom_39 : decode cX0_walkBackFrom 39 = .ok (.invokevirtual 86, 3) := by decide +kernel
theorem dX0_walkBackFrom_42 : decode cX0_walkBackFrom 42 = .ok (.istore_n 2, 1) := by decide +kernel
theorem dX0_walkBackFrom_43 : decode cX0_walkBackFrom 43 = .ok (.goto 23, 3) := by decide +kernel
theorem dX0_walkBackFrom_46 : decode cX0_walkBackFrom 46 = .ok (.aload_n 0, 1) := by decide +kernel
theorem dX0_walkBackFrom_47 : decode cX0_walkBackFrom 47 = .ok (.getfield 38, 3) := by decide +kernel
theorem dX0_walkBackFrom_50 : decode cX0_walkBackFrom 50 = .ok (.iload_n 2, 1) := by decide +kernel
theorem dX0_walkBackFrom_51 : decode cX0_walkBackFrom 51 = .ok (.iaload, 1) := by decide +kernel
theorem dX0_walkBackFrom_52 : decode cX0_walkBackFrom 52 = .ok (.iload_n 1, 1) := by decide +kernel
theorem dX0_walkBackFrom_53 : decode cX0_walkBackFrom 53 = .ok (.if_icmp .ne 19, 3) := by decide +kernel
theorem dX0_walkBackFrom_56 : decode cX0_walkBackFrom 56 = .ok (.aload_n 0, 1) := by decide +kernel
theorem dX0_walkBackFrom_57 : decode cX0_walkBackFrom 57 = .ok (.aload_n 0, 1) := by decide +kernel
theorem dX0_walkBackFrom_58 : decode cX0_walkBackFrom 58 = .ok (.iload_n 2, 1) := by decide +kernel
theorem dX0_walkBackFrom_59 : decode cX0_walkBackFrom 59 = .ok (.invokevirtual 89, 3) := by decide +kernel
theorem dX0_walkBackFrom_62 : decode cX0_walkBackFrom 62 = .ok (.invokevirtual 71, 3) := by decide +kernel
theorem dX0_walkBackFrom_65 : decode cX0_walkBackFrom 65 = .ok (.istore_n 2, 1) := by decide +kernel
theorem dX0_walkBackFrom_66 : decode cX0_walkBackFrom 66 = .ok (.iinc 3 1, 3) := by decide +kernel
theorem dX0_walkBackFrom_69 : decode cX0_walkBackFrom 69 = .ok (.goto (-60), 3) := by decide +kernel
theorem dX0_walkBackFrom_72 : decode cX0_walkBackFrom 72 = .ok (.return_, 1) := by decide +kernel
theorem dX0_setBefore_0 : decode cX0_setBefore 0 = .ok (.aload_n 0, 1) := by decide +kernel
theorem dX0_setBefore_1 : decode cX0_setBefore 1 = .ok (.getfield 15, 3) := by decide +kernel
theorem dX0_setBefore_4 : decode cX0_setBefore 4 = .ok (.iload_n 1, 1) := by decide +kernel
theorem dX0_setBefore_5 : decode cX0_setBefore 5 = .ok (.iaload, 1) := by decide +kernel
theorem dX0_setBefore_6 : decode cX0_setBefore 6 = .ok (.istore_n 2, 1) := by decide +kernel
theorem dX0_setBefore_7 : decode cX0_setBefore 7 = .ok (.iload_n 2, 1) := by decide +kernel
theorem dX0_setBefore_8 : decode cX0_setBefore 8 = .ok (.iconst (-1), 1) := by decide +kernel
theorem dX0_setBefore_9 : decode cX0_setBefore 9 = .ok (.if_icmp .ne 7, 3) := by decide +kernel
theorem dX0_setBefore_12 : decode cX0_setBefore 12 = .ok (.iconst (-1), 1) := by decide +kernel
theorem dX0_setBefore_13 : decode cX0_setBefore 13 = .ok (.goto 17, 3) := by decide +kernel
theorem dX0_setBefore_16 : decode cX0_setBefore 16 = .ok (.aload_n 0, 1) := by decide +kernel
theorem dX0_setBefore_17 : decode cX0_setBefore 17 = .ok (.getfield 41, 3) := by decide +kernel
theorem dX0_setBefore_20 : decode cX0_setBefore 20 = .ok (.aload_n 0, 1) := by decide +kernel
theorem dX0_setBefore_21 : decode cX0_setBefore 21 = .ok (.getfield 50, 3) := by decide +kernel
theorem dX0_setBefore_24 : decode cX0_setBefore 24 = .ok (.getfield 92, 3) := by decide +kernel
theorem dX0_setBefore_27 : decode cX0_setBefore 27 = .ok (.iload_n 2, 1) := by decide +kernel
theorem dX0_setBefore_28 : decode cX0_setBefore 28 = .ok (.iaload, 1) := by decide +kernel
theorem dX0_setBefore_29 : decode cX0_setBefore 29 = .ok (.iaload, 1) := by decide +kernel
theorem dX0_setBefore_30 : decode cX0_setBefore 30 = .ok (.ireturn, 1) := by decide +kernel
set_option maxRecDepth 20000 in
theorem ggX0_nodesOfRing_X0_setBefore : GoodIn wsX0_nodesOfRing wsX0_setBefore := goodIn_r _ [6, 7, 8, 9, 10, 11, 12, 13, 14, 15, 16, 17, 18, 19, 20, 21, 22, 23, 24, 25, 26, 27, 28, 29, 30] (by decide +kernel) (by decide +kernel)
set_option maxRecDepth 20000 in
theorem gX0_nodesOfRing_X0_setBefore : GoodIn wsX0_nodesOfRing (wsV RX0 86 RX0 yX0_setBefore wsX0_setBefore) := goodIn_app (goodIn_of _ (by decide +kernel)) ggX0_nodesOfRing_X0_setBefore
theorem dX0_nodesOfRing_0 : decode cX0_nodesOfRing 0 = .ok (.iconst 0, 1) := by decide +kernel
theorem dX0_nodesOfRing_1 : decode cX0_nodesOfRing 1 = .ok (.istore_n 2, 1) := by decide +kernel
theorem dX0_nodesOfRing_2 : decode cX0_nodesOfRing 2 = .ok (.iload_n 1, 1) := by decide +kernel
theorem dX0_nodesOfRing_3 : decode cX0_nodesOfRing 3 = .ok (.istore_n 3, 1) := by decide +kernel
theorem dX0_nodesOfRing_4 : decode cX0_nodesOfRing 4 = .ok (.iconst 0, 1) := by decide +kernel
theorem dX0_nodesOfRing_5 : decode cX0_nodesOfRing 5 = .ok (.istore 4, 2) := by decide +kernel
theorem dX0_nodesOfRing_7 : decode cX0_nodesOfRing 7 = .ok (.iload 4, 2) := by decide +kernel
theorem dX0_nodesOfRing_9 : decode cX0_nodesOfRing 9 = .ok (.bipush 45, 2) := by decide +kernel
theorem dX0_nodesOfRing_11 : decode cX0_nodesOfRing 11 = .ok (.if_icmp .ge 37, 3) := by decide +kernel
theorem dX0_nodesOfRing_14 : decode cX0_nodesOfRing 14 = .ok (.iload_n 3, 1) := by decide +kernel
theorem dX0_nodesOfRing_15 : decode cX0_nodesOfRing 15 = .ok (.iconst (-1), 1) := by decide +kernel
theorem dX0_nodesOfRing_16 : decode cX0_nodesOfRing 16 = .ok (.if_icmp .eq 32, 3) := by decide +kernel
theorem dX0_nodesOfRing_19 : decode cX0_nodesOfRing 19 = .ok (.iload_n 2, 1) := by decide +kernel
theorem dX0_nodesOfRing_20 : decode cX0_nodesOfRing 20 = .ok (.aload_n 0, 1) := by decide +kernel
theorem dX0_nodesOfRing_21 : decode cX0_nodesOfRing 21 = .ok (.getfield 9, 3) := by decide +kernel
theorem dX0_nodesOfRing_24 : decode cX0_nodesOfRing 24 = .ok (.iload_n 3, 1) := by decide +kernel
theorem dX0_nodesOfRing_25 : decode cX0_nodesOfRing 25 = .ok (.iaload, 1) := by decide +kernel
theorem dX0_nodesOfRing_26 : decode cX0_nodesOfRing 26 = .ok (.ior, 1) := by decide +kernel
theorem dX0_nodesOfRing_27 : decode cX0_nodesOfRing 27 = .ok (.istore_n 2, 1) := by decide +kernel
theorem dX0_nodesOfRing_28 : decode cX0_nodesOfRing 28 = .ok (.aload_n 0, 1) := by decide +kernel
theorem dX0_nodesOfRing_29 : decode cX0_nodesOfRing 29 = .ok (.iload_n 3, 1) := by decide +kernel
theorem dX0_nodesOfRing_30 : decode cX0_nodesOfRing 30 = .ok (.invokevirtual 86, 3) := by decide +kernel
theorem dX0_nodesOfRing_33 : decode cX0_nodesOfRing 33 = .ok (.istore_n 3, 1) := by decide +kernel
theorem dX0_nodesOfRing_34 : decode cX0_nodesOfRing 34 = .ok (.iload_n 3, 1) := by decide +kernel
theorem dX0_nodesOfRing_35 : decode cX0_nodesOfRing 35 = .ok (.iload_n 1, 1) := by decide +kernel
theorem dX0_nodesOfRing_36 : decode cX0_nodesOfRing 36 = .ok (.if_icmp .ne 6, 3) := by decide +kernel
theorem dX0_nodesOfRing_39 : decode cX0_nodesOfRing 39 = .ok (.goto 9, 3) := by decide +kernel
theorem dX0_nodesOfRing_42 : decode cX0_nodesOfRing 42 = .ok (.iinc 4 1, 3) := by decide +kernel
theorem dX0_nodesOfRing_45 : decode cX0_nodesOfRing 45 = .ok (.goto (-38), 3) := by decide +kernel
theorem dX0_nodesOfRing_48 : decode cX0_nodesOfRing 48 = .ok (.iload_n 2, 1) := by decide +kernel
theorem dX0_nodesOfRing_49 : decode cX0_nodesOfRing 49 = .ok (.ireturn, 1) := by decide +kernel
set_option maxRecDepth 20000 in
theorem ggX0_addSet_X0_takeInParts : GoodIn wsX0_addSet wsX0_takeInParts := goodIn_r _ [9, 1, 3, 2, 40, 41, 42, 43, 44, 45, 46, 47, 48, 49, 50, 51, 52] (by decide +kernel) (by decide +kernel)
set_option maxRecDepth 20000 in
theorem gX0_addSet_X0_takeInParts : GoodIn wsX0_addSet (wsV RX0 95 RX0 yX0_takeInParts wsX0_takeInParts) := goodIn_app (goodIn_of _ (by decide +kernel)) ggX0_addSet_X0_takeInParts
set_option maxRecDepth 20000 in
theorem ggX0_addSet_X0_chooseArc : GoodIn wsX0_addSet wsX0_chooseArc := goodIn_r _ [13, 14, 15, 16, 2, 17, 18, 19, 20, 21, 22, 23, 24, 25, 26, 27, 28, 29, 30, 31, 32, 33, 40, 41, 42, 43, 44, 45, 46, 47, 48, 49, 50, 51, 52, 53, 54, 55, 56, 57, 58, 59] (by decide +kernel) (by decide +kernel)
set_option maxRecDepth 20000 in
theorem gX0_addSet_X0_chooseArc : GoodIn wsX0_addSet (wsV RX0 99 RX0 yX0_chooseArc wsX0_chooseArc) := goodIn_app (goodIn_of _ (by decide +kernel)) ggX0_addSet_X0_chooseArc
set_option maxRecDepth 20000 in
theorem ggX0_addSet_X0_addDualToNodes : GoodIn wsX0_addSet wsX0_addDualToNodes := goodIn_r _ [37, 14, 38, 2, 39, 19, 22, 20, 23, 31, 32, 33, 40, 41, 42, 43, 44, 45, 46, 47, 48, 49, 50, 51, 52, 53, 54, 55, 56, 57, 58, 59] (by decide +kernel) (by decide +kernel)
set_option maxRecDepth 20000 in
theorem gX0_addSet_X0_addDualToNodes : GoodIn wsX0_addSet (wsV RX0 102 RX0 yX0_addDualToNodes wsX0_addDualToNodes) := goodIn_app (goodIn_of _ (by decide +kernel)) ggX0_addSet_X0_addDualToNodes
theorem dX0_addSet_0 : decode cX0_addSet 0 = .ok (.aload_n 0, 1) := by decide +kernel
theorem dX0_addSet_1 : decode cX0_addSet 1 = .ok (.getfield 31, 3) := by decide +kernel
theorem dX0_addSet_4 : decode cX0_addSet 4 = .ok (.bipush 45, 2) := by decide +kernel
theorem dX0_addSet_6 : decode cX0_addSet 6 = .ok (.if_icmp .lt 5, 3) := by decide +kernel
theorem dX0_addSet_9 : decode cX0_addSet 9 = .ok (.iconst (-1), 1) := by decide +kernel
theorem dX0_addSet_10 : decode cX0_addSet 10 = .ok (.ireturn, 1) := by decide +kernel
theorem dX0_addSet_11 : decode cX0_addSet 11 = .ok (.aload_n 0, 1) := by decide +kernel
theorem dX0_addSet_12 : decode cX0_addSet 12 = .ok (.getfield 31, 3) := by decide +kernel
theorem dX0_addSet_15 : decode cX0_addSet 15 = .ok (.istore_n 2, 1) := by decide +kernel
theorem dX0_addSet_16 : decode cX0_addSet 16 = .ok (.aload_n 0, 1) := by decide +kernel
theorem dX0_addSet_17 : decode cX0_addSet 17 = .ok (.iload_n 1, 1) := by decide +kernel
theorem dX0_addSet_18 : decode cX0_addSet 18 = .ok (.iload_n 2, 1) := by decide +kernel
theorem dX0_addSet_19 : decode cX0_addSet 19 = .ok (.invokevirtual 95, 3) := by decide +kernel
theorem dX0_addSet_22 : decode cX0_addSet 22 = .ok (.aload_n 0, 1) := by decide +kernel
theorem dX0_addSet_23 : decode cX0_addSet 23 = .ok (.getfield 9, 3) := by decide +kernel
theorem dX0_addSet_26 : decode cX0_addSet 26 = .ok (.iload_n 2, 1) := by decide +kernel
theorem dX0_addSet_27 : decode cX0_addSet 27 = .ok (.iload_n 1, 1) := by decide +kernel
theorem dX0_addSet_28 : decode cX0_addSet 28 = .ok (.iastore, 1) := by decide +kernel
theorem dX0_addSet_29 : decode cX0_addSet 29 = .ok (.aload_n 0, 1) := by decide +kernel
theorem dX0_addSet_30 : decode cX0_addSet 30 = .ok (.getfield 18, 3) := by decide +kernel
theorem dX0_addSet_33 : decode cX0_addSet 33 = .ok (.iload_n 2, 1) := by decide +kernel
theorem dX0_addSet_34 : decode cX0_addSet 34 = .ok (.iconst (-1), 1) := by decide +kernel
theorem dX0_addSet_35 : decode cX0_addSet 35 = .ok (.iastore, 1) := by decide +kernel
theorem dX0_addSet_36 : decode cX0_addSet 36 = .ok (.aload_n 0, 1) := by decide +kernel
theorem dX0_addSet_37 : decode cX0_addSet 37 = .ok (.getfield 38, 3) := by decide +kernel
theorem dX0_addSet_40 : decode cX0_addSet 40 = .ok (.iload_n 2, 1) := by decide +kernel
theorem dX0_addSet_41 : decode cX0_addSet 41 = .ok (.iconst (-1), 1) := by decide +kernel
theorem dX0_addSet_42 : decode cX0_addSet 42 = .ok (.iastore, 1) := by decide +kernel
theorem dX0_addSet_43 : decode cX0_addSet 43 = .ok (.aload_n 0, 1) := by decide +kernel
theorem dX0_addSet_44 : decode cX0_addSet 44 = .ok (.iload_n 2, 1) := by decide +kernel
theorem dX0_addSet_45 : decode cX0_addSet 45 = .ok (.invokevirtual 99, 3) := by decide +kernel
theorem dX0_addSet_48 : decode cX0_addSet 48 = .ok (.aload_n 0, 1) := by decide +kernel
theorem dX0_addSet_49 : decode cX0_addSet 49 = .ok (.iload_n 2, 1) := by decide +kernel
theorem dX0_addSet_50 : decode cX0_addSet 50 = .ok (.invokevirtual 102, 3) := by decide +kernel
theorem dX0_addSet_53 : decode cX0_addSet 53 = .ok (.aload_n 0, 1) := by decide +kernel
theorem dX0_addSet_54 : decode cX0_addSet 54 = .ok (.dup, 1) := by decide +kernel
theorem dX0_addSet_55 : decode cX0_addSet 55 = .ok (.getfield 31, 3) := by decide +kernel
theorem dX0_addSet_58 : decode cX0_addSet 58 = .ok (.iconst 1, 1) := by decide +kernel
theorem dX0_addSet_59 : decode cX0_addSet 59 = .ok (.iadd, 1) := by decide +kernel
theorem dX0_addSet_60 : decode cX0_addSet 60 = .ok (.putfield 31, 3) := by decide +kernel
theorem dX0_addSet_63 : decode cX0_addSet 63 = .ok (.iload_n 2, 1) := by decide +kernel
theorem dX0_addSet_64 : decode cX0_addSet 64 = .ok (.ireturn, 1) := by decide +kernel
theorem dX0_takeInParts_0 : decode cX0_takeInParts 0 = .ok (.iconst 0, 1) := by decide +kernel
theorem dX0_takeInParts_1 : decode cX0_takeInParts 1 = .ok (.istore_n 3, 1) := by decide +kernel
theorem dX0_takeInParts_2 : decode cX0_takeInParts 2 = .ok (.iload_n 3, 1) := by decide +kernel
theorem dX0_takeInParts_3 : decode cX0_takeInParts 3 = .ok (.aload_n 0, 1) := by decide +kernel
theorem dX0_takeInParts_4 : decode cX0_takeInParts 4 = .ok (.getfield 31, 3) := by decide +kernel
theorem dX0_takeInParts_7 : decode cX0_takeInParts 7 = .ok (.if_icmp .ge 37, 3) := by decide +kernel
theorem dX0_takeInParts_10 : decode cX0_takeInParts 10 = .ok (.aload_n 0, 1) := by decide +kernel
theorem dX0_takeInParts_11 : decode cX0_takeInParts 11 = .ok (.getfield 18, 3) := by decide +kernel
theorem dX0_takeInParts_14 : decode cX0_takeInParts 14 = .ok (.iload_n 3, 1) := by decide +kernel
theorem dX0_takeInParts_15 : decode cX0_takeInParts 15 = .ok (.iaload, 1) := by decide +kernel
theorem dX0_takeInParts_16 : decode cX0_takeInParts 16 = .ok (.iconst (-1), 1) := by decide +kernel
theorem dX0_takeInParts_17 : decode cX0_takeInParts 17 = .ok (.if_icmp .ne 21, 3) := by decide +kernel
theorem dX0_takeInParts_20 : decode cX0_takeInParts 20 = .ok (.aload_n 0, 1) := by decide +kernel
theorem dX0_takeInParts_21 : decode cX0_takeInParts 21 = .ok (.getfield 9, 3) := by decide +kernel
theorem dX0_takeInParts_24 : decode cX0_takeInParts 24 = .ok (.iload_n 3, 1) := by decide +kernel
theorem dX0_takeInParts_25 : decode cX0_takeInParts 25 = .ok (.iaload, 1) := by decide +kernel
theorem dX0_takeInParts_26 : decode cX0_takeInParts 26 = .ok (.iload_n 1, 1) := by decide +kernel
theorem dX0_takeInParts_27 : decode cX0_takeInParts 27 = .ok (.iand, 1) := by decide +kernel
theorem dX0_takeInParts_28 : decode cX0_takeInParts 28 = .ok (.ifCond .eq 10, 3) := by decide +kernel
theorem dX0_takeInParts_31 : decode cX0_takeInParts 31 = .ok (.aload_n 0, 1) := by decide +kernel
theorem dX0_takeInParts_32 : decode cX0_takeInParts 32 = .ok (.getfield 18, 3) := by decide +kernel
theorem dX0_takeInParts_35 : decode cX0_takeInParts 35 = .ok (.iload_n 3, 1) := by decide +kernel
theorem dX0_takeInParts_36 : decode cX0_takeInParts 36 = .ok (.iload_n 2, 1) := by decide +kernel
theorem dX0_takeInParts_37 : decode cX0_takeInParts 37 = .ok (.iastore, 1) := by decide +kernel
theorem dX0_takeInParts_38 : decode cX0_takeInParts 38 = .ok (.iinc 3 1, 3) := by decide +kernel
theorem dX0_takeInParts_41 : decode cX0_takeInParts 41 = .ok (.goto (-39), 3) := by decide +kernel
theorem dX0_takeInParts_44 : decode cX0_takeInParts 44 = .ok (.return_, 1) := by decide +kernel
set_option maxRecDepth 20000 in
theorem ggX0_chooseArc_X1_enters : GoodIn wsX0_chooseArc wsX1_enters := goodIn_r _ [16, 17, 18, 19, 20, 21, 35, 36, 37, 38, 39, 40, 41] (by decide +kernel) (by decide +kernel)
set_option maxRecDepth 20000 in
theorem gX0_chooseArc_X1_enters : GoodIn wsX0_chooseArc (wsV RX0 82 RX1 yX1_enters wsX1_enters) := goodIn_app (goodIn_of _ (by decide +kernel)) ggX0_chooseArc_X1_enters
theorem dX0_chooseArc_0 : decode cX0_chooseArc 0 = .ok (.iconst (-1), 1) := by decide +kernel
theorem dX0_chooseArc_1 : decode cX0_chooseArc 1 = .ok (.istore_n 2, 1) := by decide +kernel
theorem dX0_chooseArc_2 : decode cX0_chooseArc 2 = .ok (.lconst 0, 1) := by decide +kernel
theorem dX0_chooseArc_3 : decode cX0_chooseArc 3 = .ok (.lstore_n 3, 1) := by decide +kernel
theorem dX0_chooseArc_4 : decode cX0_chooseArc 4 = .ok (.lconst 0, 1) := by decide +kernel
theorem dX0_chooseArc_5 : decode cX0_chooseArc 5 = .ok (.lstore 5, 2) := by decide +kernel
theorem dX0_chooseArc_7 : decode cX0_chooseArc 7 = .ok (.iconst 0, 1) := by decide +kernel
theorem dX0_chooseArc_8 : decode cX0_chooseArc 8 = .ok (.istore 7, 2) := by decide +kernel
theorem dX0_chooseArc_10 : decode cX0_chooseArc 10 = .ok (.iload 7, 2) := by decide +kernel
theorem dX0_chooseArc_12 : decode cX0_chooseArc 12 = .ok (.aload_n 0, 1) := by decide +kernel
theorem dX0_chooseArc_13 : decode cX0_chooseArc 13 = .ok (.getfield 50, 3) := by decide +kernel
theorem dX0_chooseArc_16 : decode cX0_chooseArc 16 = .ok (.getfield 105, 3) := by decide +kernel
theorem dX0_chooseArc_19 : decode cX0_chooseArc 19 = .ok (.if_icmp .ge 138, 3) := by decide +kernel
theorem dX0_chooseArc_22 : decode cX0_chooseArc 22 = .ok (.aload_n 0, 1) := by decide +kernel
theorem dX0_chooseArc_23 : decode cX0_chooseArc 23 = .ok (.getfield 50, 3) := by decide +kernel
theorem dX0_chooseArc_26 : decode cX0_chooseArc 26 = .ok (.getfield 108, 3) := by decide +kernel
theorem dX0_chooseArc_29 : decode cX0_chooseArc 29 = .ok (.iload 7, 2) := by decide +kernel
theorem dX0_chooseArc_31 : decode cX0_chooseArc 31 = .ok (.baload, 1) := by decide +kernel
theorem dX0_chooseArc_32 : decode cX0_chooseArc 32 = .ok (.ifCond .eq 119, 3) := by decide +kernel
theorem dX0_chooseArc_35 : decode cX0_chooseArc 35 = .ok (.aload_n 0, 1) := by decide +kernel
theorem dX0_chooseArc_36 : decode cX0_chooseArc 36 = .ok (.getfield 50, 3) := by decide +kernel
theorem dX0_chooseArc_39 : decode cX0_chooseArc 39 = .ok (.iload 7, 2) := by decide +kernel
theorem dX0_chooseArc_41 : decode cX0_chooseArc 41 = .ok (.aload_n 0, 1) := by decide +kernel
theorem dX0_chooseArc_42 : decode cX0_chooseArc 42 = .ok (.getfield 9, 3) := by decide +kernel
theorem dX0_chooseArc_45 : decode cX0_chooseArc 45 = .ok (.iload_n 1, 1) := by decide +kernel
theorem dX0_chooseArc_46 : decode cX0_chooseArc 46 = .ok (.iaload, 1) := by decide +kernel
theorem dX0_chooseArc_47 : decode cX0_chooseArc 47 = .ok (.invokevirtual 82, 3) := by decide +kernel
theorem dX0_chooseArc_50 : decode cX0_chooseArc 50 = .ok (.ifCond .ne 6, 3) := by decide +kernel
theorem dX0_chooseArc_53 : decode cX0_chooseArc 53 = .ok (.goto 98, 3) := by decide +kernel
theorem dX0_chooseArc_56 : decode cX0_chooseArc 56 = .ok (.aload_n 0, 1) := by decide +kernel
theorem dX0_chooseArc_57 : decode cX0_chooseArc 57 = .ok (.getfield 50, 3) := by decide +kernel
theorem dX0_chooseArc_60 : decode cX0_chooseArc 60 = .ok (.getfield 112, 3) := by decide +kernel
theorem dX0_chooseArc_63 : decode cX0_chooseArc 63 = .ok (.iload 7, 2) := by decide +kernel
theorem dX0_chooseArc_65 : decode cX0_chooseArc 65 = .ok (.iaload, 1) := by decide +kernel
theorem dX0_chooseArc_66 : decode cX0_chooseArc 66 = .ok (.istore 8, 2) := by decide +kernel
theorem dX0_chooseArc_68 : decode cX0_chooseArc 68 = .ok (.aload_n 0, 1) := by decide +kernel
theorem dX0_chooseArc_69 : decode cX0_chooseArc 69 = .ok (.getfield 50, 3) := by decide +kernel
theorem dX0_chooseArc_72 : decode cX0_chooseArc 72 = .ok (.getfield 115, 3) := by decide +kernel
theorem dX0_chooseArc_75 : decode cX0_chooseArc 75 = .ok (.iload 7, 2) := by decide +kernel
theorem dX0_chooseArc_77 : decode cX0_chooseArc 77 = .ok (.laload, 1) := by decide +kernel
theorem dX0_chooseArc_78 : decode cX0_chooseArc 78 = .ok (.aload_n 0, 1) := by decide +kernel
theorem dX0_chooseArc_79 : decode cX0_chooseArc 79 = .ok (.getfield 44, 3) := by decide +kernel
theorem dX0_chooseArc_82 : decode cX0_chooseArc 82 = .ok (.iload 8, 2) := by decide +kernel
theorem dX0_chooseArc_84 : decode cX0_chooseArc 84 = .ok (.laload, 1) := by decide +kernel
theorem dX0_chooseArc_85 : decode cX0_chooseArc 85 = .ok (.lsub, 1) := by decide +kernel
theorem dX0_chooseArc_86 : decode cX0_chooseArc 86 = .ok (.lstore 9, 2) := by decide +kernel
theorem dX0_chooseArc_88 : decode cX0_chooseArc 88 = .ok (.lconst 1, 1) := by decide +kernel
theorem dX0_chooseArc_89 : decode cX0_chooseArc 89 = .ok (.iload 7, 2) := by decide +kernel
theorem dX0_chooseArc_91 : decode cX0_chooseArc 91 = .ok (.lshl, 1) := by decide +kernel
theorem dX0_chooseArc_92 : decode cX0_chooseArc 92 = .ok (.aload_n 0, 1) := by decide +kernel
theorem dX0_chooseArc_93 : decode cX0_chooseArc 93 = .ok (.getfield 47, 3) := by decide +kernel
theorem dX0_chooseArc_96 : decode cX0_chooseArc 96 = .ok (.iload 8, 2) := by decide +kernel
theorem dX0_chooseArc_98 : decode cX0_chooseArc 98 = .ok (.laload, 1) := by decide +kernel
theorem dX0_chooseArc_99 : decode cX0_chooseArc 99 = .ok (.lsub, 1) := by decide +kernel
theorem dX0_chooseArc_100 : decode cX0_chooseArc 100 = .ok (.lstore 11, 2) := by decide +kernel
theorem dX0_chooseArc_102 : decode cX0_chooseArc 102 = .ok (.lload 9, 2) := by decide +kernel
theorem dX0_chooseArc_104 : decode cX0_chooseArc 104 = .ok (.lload_n 3, 1) := by decide +kernel
theorem dX0_chooseArc_105 : decode cX0_chooseArc 105 = .ok (.lcmp, 1) := by decide +kernel
theorem dX0_chooseArc_106 : decode cX0_chooseArc 106 = .ok (.ifCond .lt 18, 3) := by decide +kernel
theorem dX0_chooseArc_109 : decode cX0_chooseArc 109 = .ok (.lload 9, 2) := by decide +kernel
theorem dX0_chooseArc_111 : decode cX0_chooseArc 111 = .ok (.lload_n 3, 1) := by decide +kernel
theorem dX0_chooseArc_112 : decode cX0_chooseArc 112 = .ok (.lcmp, 1) := by decide +kernel
theorem dX0_chooseArc_113 : decode cX0_chooseArc 113 = .ok (.ifCond .ne 15, 3) := by decide +kernel
theorem dX0_chooseArc_116 : decode cX0_chooseArc 116 = .ok (.lload 11, 2) := by decide +kernel
theorem dX0_chooseArc_118 : decode cX0_chooseArc 118 = .ok (.lload 5, 2) := by decide +kernel
theorem dX0_chooseArc_120 : decode cX0_chooseArc 120 = .ok (.lcmp, 1) := by decide +kernel
theorem dX0_chooseArc_121 : decode cX0_chooseArc 121 = .ok (.ifCond .ge 7, 3) := by decide +kernel
theorem dX0_chooseArc_124 : decode cX0_chooseArc 124 = .ok (.iconst 1, 1) := by decide +kernel
theorem dX0_chooseArc_125 : decode cX0_chooseArc 125 = .ok (.goto 4, 3) := by decide +kernel
theorem dX0_chooseArc_128 : decode cX0_chooseArc 128 = .ok (.iconst 0, 1) := by decide +kernel
theorem dX0_chooseArc_129 : decode cX0_chooseArc 129 = .ok (.istore 13, 2) := by decide +kernel
theorem dX0_chooseArc_131 : decode cX0_chooseArc 131 = .ok (.iload_n 2, 1) := by decide +kernel
theorem dX0_chooseArc_132 : decode cX0_chooseArc 132 = .ok (.iconst (-1), 1) := by decide +kernel
theorem dX0_chooseArc_133 : decode cX0_chooseArc 133 = .ok (.if_icmp .eq 8, 3) := by decide +kernel
theorem dX0_chooseArc_136 : decode cX0_chooseArc 136 = .ok (.iload 13, 2) := by decide +kernel
theorem dX0_chooseArc_138 : decode cX0_chooseArc 138 = .ok (.ifCond .eq 13, 3) := by decide +kernel
theorem dX0_chooseArc_141 : decode cX0_chooseArc 141 = .ok (.iload 7, 2) := by decide +kernel
theorem dX0_chooseArc_143 : decode cX0_chooseArc 143 = .ok (.istore_n 2, 1) := by decide +kernel
theorem dX0_chooseArc_144 : decode cX0_chooseArc 144 = .ok (.lload 9, 2) := by decide +kernel
theorem dX0_chooseArc_146 : decode cX0_chooseArc 146 = .ok (.lstore_n 3, 1) := by decide +kernel
theorem dX0_chooseArc_147 : decode cX0_chooseArc 147 = .ok (.lload 11, 2) := by decide +kernel
theorem dX0_chooseArc_149 : decode cX0_chooseArc 149 = .ok (.lstore 5, 2) := by decide +kernel
theorem dX0_chooseArc_151 : decode cX0_chooseArc 151 = .ok (.iinc 7 1, 3) := by decide +kernel
theorem dX0_chooseArc_154 : decode cX0_chooseArc 154 = .ok (.goto (-144), 3) := by decide +kernel
theorem dX0_chooseArc_157 : decode cX0_chooseArc 157 = .ok (.aload_n 0, 1) := by decide +kernel
theorem dX0_chooseArc_158 : decode cX0_chooseArc 158 = .ok (.getfield 15, 3) := by decide +kernel
theorem dX0_chooseArc_161 : decode cX0_chooseArc 161 = .ok (.iload_n 1, 1) := by decide +kernel
theorem dX0_chooseArc_162 : decode cX0_chooseArc 162 = .ok (.iload_n 2, 1) := by decide +kernel
theorem dX0_chooseArc_163 : decode cX0_chooseArc 163 = .ok (.iastore, 1) := by decide +kernel
theorem dX0_chooseArc_164 : decode cX0_chooseArc 164 = .ok (.aload_n 0, 1) := by decide +kernel
theorem dX0_chooseArc_165 : decode cX0_chooseArc 165 = .ok (.getfield 21, 3) := by decide +kernel
theorem dX0_chooseArc_168 : decode cX0_chooseArc 168 = .ok (.iload_n 1, 1) := by decide +kernel
theorem dX0_chooseArc_169 : decode cX0_chooseArc 169 = .ok (.lload_n 3, 1) := by decide +kernel
theorem dX0_chooseArc_170 : decode cX0_chooseArc 170 = .ok (.lastore, 1) := by decide +kernel
theorem dX0_chooseArc_171 : decode cX0_chooseArc 171 = .ok (.aload_n 0, 1) := by decide +kernel
theorem dX0_chooseArc_172 : decode cX0_chooseArc 172 = .ok (.getfield 25, 3) := by decide +kernel
theorem dX0_chooseArc_175 : decode cX0_chooseArc 175 = .ok (.iload_n 1, 1) := by decide +kernel
theorem dX0_chooseArc_176 : decode cX0_chooseArc 176 = .ok (.lload 5, 2) := by decide +kernel
theorem dX0_chooseArc_178 : decode cX0_chooseArc 178 = .ok (.lastore, 1) := by decide +kernel
theorem dX0_chooseArc_179 : decode cX0_chooseArc 179 = .ok (.return_, 1) := by decide +kernel
set_option maxRecDepth 20000 in
theorem ggX0_addDualToNodes_X3_holds : GoodIn wsX0_addDualToNodes wsX3_holds := goodIn_r _ [11] (by decide +kernel) (by decide +kernel)
set_option maxRecDepth 20000 in
theorem gX0_addDualToNodes_X3_holds_n118 : GoodIn wsX0_addDualToNodes (wsX3_holds) := ggX0_addDualToNodes_X3_holds
theorem dX0_addDualToNodes_0 : decode cX0_addDualToNodes 0 = .ok (.iconst 0, 1) := by decide +kernel
theorem dX0_addDualToNodes_1 : decode cX0_addDualToNodes 1 = .ok (.istore_n 2, 1) := by decide +kernel
theorem dX0_addDualToNodes_2 : decode cX0_addDualToNodes 2 = .ok (.iload_n 2, 1) := by decide +kernel
theorem dX0_addDualToNodes_3 : decode cX0_addDualToNodes 3 = .ok (.aload_n 0, 1) := by decide +kernel
theorem dX0_addDualToNodes_4 : decode cX0_addDualToNodes 4 = .ok (.getfield 50, 3) := by decide +kernel
theorem dX0_addDualToNodes_7 : decode cX0_addDualToNodes 7 = .ok (.getfield 63, 3) := by decide +kernel
theorem dX0_addDualToNodes_10 : decode cX0_addDualToNodes 10 = .ok (.if_icmp .ge 59, 3) := by decide +kernel
theorem dX0_addDualToNodes_13 : decode cX0_addDualToNodes 13 = .ok (.aload_n 0, 1) := by decide +kernel
theorem dX0_addDualToNodes_14 : decode cX0_addDualToNodes 14 = .ok (.getfield 9, 3) := by decide +kernel
theorem dX0_addDualToNodes_17 : decode cX0_addDualToNodes 17 = .ok (.iload_n 1, 1) := by decide +kernel
theorem dX0_addDualToNodes_18 : decode cX0_addDualToNodes 18 = .ok (.iaload, 1) := by decide +kernel
theorem dX0_addDualToNodes_19 : decode cX0_addDualToNodes 19 = .ok (.iload_n 2, 1) := by decide +kernel
theorem dX0_addDualToNodes_20 : decode cX0_addDualToNodes 20 = .ok (.invokestatic 118, 3) := by decide +kernel
theorem dX0_addDualToNodes_23 : decode cX0_addDualToNodes 23 = .ok (.ifCond .eq 40, 3) := by decide +kernel
theorem dX0_addDualToNodes_26 : decode cX0_addDualToNodes 26 = .ok (.aload_n 0, 1) := by decide +kernel
theorem dX0_addDualToNodes_27 : decode cX0_addDualToNodes 27 = .ok (.getfield 41, 3) := by decide +kernel
theorem dX0_addDualToNodes_30 : decode cX0_addDualToNodes 30 = .ok (.iload_n 2, 1) := by decide +kernel
theorem dX0_addDualToNodes_31 : decode cX0_addDualToNodes 31 = .ok (.iload_n 1, 1) := by decide +kernel
theorem dX0_addDualToNodes_32 : decode cX0_addDualToNodes 32 = .ok (.iastore, 1) := by decide +kernel
theorem dX0_addDualToNodes_33 : decode cX0_addDualToNodes 33 = .ok (.aload_n 0, 1) := by decide +kernel
theorem dX0_addDualToNodes_34 : decode cX0_addDualToNodes 34 = .ok (.getfield 44, 3) := by decide +kernel
theorem dX0_addDualToNodes_37 : decode cX0_addDualToNodes 37 = .ok (.iload_n 2, 1) := by decide +kernel
theorem dX0_addDualToNodes_38 : decode cX0_addDualToNodes 38 = .ok (.dup2, 1) := by decide +kernel
theorem dX0_addDualToNodes_39 : decode cX0_addDualToNodes 39 = .ok (.laload, 1) := by decide +kernel
theorem dX0_addDualToNodes_40 : decode cX0_addDualToNodes 40 = .ok (.aload_n 0, 1) := by decide +kernel
theorem dX0_addDualToNodes_41 : decode cX0_addDualToNodes 41 = .ok (.getfield 21, 3) := by decide +kernel
theorem dX0_addDualToNodes_44 : decode cX0_addDualToNodes 44 = .ok (.iload_n 1, 1) := by decide +kernel
theorem dX0_addDualToNodes_45 : decode cX0_addDualToNodes 45 = .ok (.laload, 1) := by decide +kernel
theorem dX0_addDualToNodes_46 : decode cX0_addDualToNodes 46 = .ok (.ladd, 1) := by decide +kernel
theorem dX0_addDualToNodes_47 : decode cX0_addDualToNodes 47 = .ok (.lastore, 1) := by decide +kernel
theorem dX0_addDualToNodes_48 : decode cX0_addDualToNodes 48 = .ok (.aload_n 0, 1) := by decide +kernel
theorem dX0_addDualToNodes_49 : decode cX0_addDualToNodes 49 = .ok (.getfield 47, 3) := by decide +kernel
theorem dX0_addDualToNodes_52 : decode cX0_addDualToNodes 52 = .ok (.iload_n 2, 1) := by decide +kernel
theorem dX0_addDualToNodes_53 : decode cX0_addDualToNodes 53 = .ok (.dup2, 1) := by decide +kernel
theorem dX0_addDualToNodes_54 : decode cX0_addDualToNodes 54 = .ok (.laload, 1) := by decide +kernel
theorem dX0_addDualToNodes_55 : decode cX0_addDualToNodes 55 = .ok (.aload_n 0, 1) := by decide +kernel
theorem dX0_addDualToNodes_56 : decode cX0_addDualToNodes 56 = .ok (.getfield 25, 3) := by decide +kernel
theorem dX0_addDualToNodes_59 : decode cX0_addDualToNodes 59 = .ok (.iload_n 1, 1) := by decide +kernel
theorem dX0_addDualToNodes_60 : decode cX0_addDualToNodes 60 = .ok (.laload, 1) := by decide +kernel
theorem dX0_addDualToNodes_61 : decode cX0_addDualToNodes 61 = .ok (.ladd, 1) := by decide +kernel
theorem dX0_addDualToNodes_62 : decode cX0_addDualToNodes 62 = .ok (.lastore, 1) := by decide +kernel
theorem dX0_addDualToNodes_63 : decode cX0_addDualToNodes 63 = .ok (.iinc 2 1, 3) := by decide +kernel
theorem dX0_addDualToNodes_66 : decode cX0_addDualToNodes 66 = .ok (.goto (-64), 3) := by decide +kernel
theorem dX0_addDualToNodes_69 : decode cX0_addDualToNodes 69 = .ok (.return_, 1) := by decide +kernel
set_option maxRecDepth 20000 in
theorem ggX0_numberSets_X0_comesFirst : GoodIn wsX0_numberSets wsX0_comesFirst := goodIn_r _ [8, 9, 10, 11, 12, 13, 14, 15, 16, 17, 7, 18] (by decide +kernel) (by decide +kernel)
set_option maxRecDepth 20000 in
theorem gX0_numberSets_X0_comesFirst : GoodIn wsX0_numberSets (va_wsS RX0 121 yX0_comesFirst wsX0_comesFirst) := goodIn_app (goodIn_of _ (by decide +kernel)) ggX0_numberSets_X0_comesFirst
theorem dX0_numberSets_0 : decode cX0_numberSets 0 = .ok (.iconst 0, 1) := by decide +kernel
theorem dX0_numberSets_1 : decode cX0_numberSets 1 = .ok (.istore_n 1, 1) := by decide +kernel
theorem dX0_numberSets_2 : decode cX0_numberSets 2 = .ok (.iload_n 1, 1) := by decide +kernel
theorem dX0_numberSets_3 : decode cX0_numberSets 3 = .ok (.aload_n 0, 1) := by decide +kernel
theorem dX0_numberSets_4 : decode cX0_numberSets 4 = .ok (.getfield 31, 3) := by decide +kernel
theorem dX0_numberSets_7 : decode cX0_numberSets 7 = .ok (.if_icmp .ge 62, 3) := by decide +kernel
theorem dX0_numberSets_10 : decode cX0_numberSets 10 = .ok (.iconst 0, 1) := by decide +kernel
theorem dX0_numberSets_11 : decode cX0_numberSets 11 = .ok (.istore_n 2, 1) := by decide +kernel
theorem dX0_numberSets_12 : decode cX0_numberSets 12 = .ok (.iconst 0, 1) := by decide +kernel
theorem dX0_numberSets_13 : decode cX0_numberSets 13 = .ok (.istore_n 3, 1) := by decide +kernel
theorem dX0_numberSets_14 : decode cX0_numberSets 14 = .ok (.iload_n 3, 1) := by decide +kernel
theorem dX0_numberSets_15 : decode cX0_numberSets 15 = .ok (.aload_n 0, 1) := by decide +kernel
theorem dX0_numberSets_16 : decode cX0_numberSets 16 = .ok (.getfield 31, 3) := by decide +kernel
theorem dX0_numberSets_19 : decode cX0_numberSets 19 = .ok (.if_icmp .ge 30, 3) := by decide +kernel
theorem dX0_numberSets_22 : decode cX0_numberSets 22 = .ok (.aload_n 0, 1) := by decide +kernel
theorem dX0_numberSets_23 : decode cX0_numberSets 23 = .ok (.getfield 9, 3) := by decide +kernel
theorem dX0_numberSets_26 : decode cX0_numberSets 26 = .ok (.iload_n 3, 1) := by decide +kernel
theorem dX0_numberSets_27 : decode cX0_numberSets 27 = .ok (.iaload, 1) := by decide +kernel
theorem dX0_numberSets_28 : decode cX0_numberSets 28 = .ok (.aload_n 0, 1) := by decide +kernel
theorem dX0_numberSets_29 : decode cX0_numberSets 29 = .ok (.getfield 9, 3) := by decide +kernel
theorem dX0_numberSets_32 : decode cX0_numberSets 32 = .ok (.iload_n 1, 1) := by decide +kernel
theorem dX0_numberSets_33 : decode cX0_numberSets 33 = .ok (.iaload, 1) := by decide +kernel
theorem dX0_numberSets_34 : decode cX0_numberSets 34 = .ok (.invokestatic 121, 3) := by decide +kernel
theorem dX0_numberSets_37 : decode cX0_numberSets 37 = .ok (.ifCond .eq 6, 3) := by decide +kernel
theorem dX0_numberSets_40 : decode cX0_numberSets 40 = .ok (.iinc 2 1, 3) := by decide +kernel
theorem dX0_numberSets_43 : decode cX0_numberSets 43 = .ok (.iinc 3 1, 3) := by decide +kernel
theorem dX0_numberSets_46 : decode cX0_numberSets 46 = .ok (.goto (-32), 3) := by decide +kernel
theorem dX0_numberSets_49 : decode cX0_numberSets 49 = .ok (.aload_n 0, 1) := by decide +kernel
theorem dX0_numberSets_50 : decode cX0_numberSets 50 = .ok (.getfield 35, 3) := by decide +kernel
theorem dX0_numberSets_53 : decode cX0_numberSets 53 = .ok (.iload_n 1, 1) := by decide +kernel
theorem dX0_numberSets_54 : decode cX0_numberSets 54 = .ok (.iload_n 2, 1) := by decide +kernel
theorem dX0_numberSets_55 : decode cX0_numberSets 55 = .ok (.iastore, 1) := by decide +kernel
theorem dX0_numberSets_56 : decode cX0_numberSets 56 = .ok (.aload_n 0, 1) := by decide +kernel
theorem dX0_numberSets_57 : decode cX0_numberSets 57 = .ok (.getfield 28, 3) := by decide +kernel
theorem dX0_numberSets_60 : decode cX0_numberSets 60 = .ok (.iload_n 2, 1) := by decide +kernel
theorem dX0_numberSets_61 : decode cX0_numberSets 61 = .ok (.iload_n 1, 1) := by decide +kernel
theorem dX0_numberSets_62 : decode cX0_numberSets 62 = .ok (.iastore, 1) := by decide +kernel
theorem dX0_numberSets_63 : decode cX0_numberSets 63 = .ok (.iinc 1 1, 3) := by decide +kernel
theorem dX0_numberSets_66 : decode cX0_numberSets 66 = .ok (.goto (-64), 3) := by decide +kernel
theorem dX0_numberSets_69 : decode cX0_numberSets 69 = .ok (.return_, 1) := by decide +kernel
set_option maxRecDepth 20000 in
theorem ggX0_comesFirst_J6_bitCount_0f7a4 : GoodIn wsX0_comesFirst wsJ6_bitCount_0f7a4 := goodIn_r _ [4, 5, 6, 7] (by decide +kernel) (by decide +kernel)
set_option maxRecDepth 20000 in
theorem gX0_comesFirst_J6_bitCount_0f7a4 : GoodIn wsX0_comesFirst (va_wsS RX0 124 yJ6_bitCount_0f7a4 wsJ6_bitCount_0f7a4) := goodIn_app (goodIn_of _ (by decide +kernel)) ggX0_comesFirst_J6_bitCount_0f7a4
set_option maxRecDepth 20000 in
theorem ggX0_comesFirst_X0_lowestBit : GoodIn wsX0_comesFirst wsX0_lowestBit := goodIn_r _ [11] (by decide +kernel) (by decide +kernel)
set_option maxRecDepth 20000 in
theorem gX0_comesFirst_X0_lowestBit : GoodIn wsX0_comesFirst (va_wsS RX0 129 yX0_lowestBit wsX0_lowestBit) := goodIn_app (goodIn_of _ (by decide +kernel)) ggX0_comesFirst_X0_lowestBit
theorem dX0_comesFirst_0 : decode cX0_comesFirst 0 = .ok (.iload_n 0, 1) := by decide +kernel
theorem dX0_comesFirst_1 : decode cX0_comesFirst 1 = .ok (.invokestatic 124, 3) := by decide +kernel
theorem dX0_comesFirst_4 : decode cX0_comesFirst 4 = .ok (.istore_n 2, 1) := by decide +kernel
theorem dX0_comesFirst_5 : decode cX0_comesFirst 5 = .ok (.iload_n 1, 1) := by decide +kernel
theorem dX0_comesFirst_6 : decode cX0_comesFirst 6 = .ok (.invokestatic 124, 3) := by decide +kernel
theorem dX0_comesFirst_9 : decode cX0_comesFirst 9 = .ok (.istore_n 3, 1) := by decide +kernel
theorem dX0_comesFirst_10 : decode cX0_comesFirst 10 = .ok (.iload_n 2, 1) := by decide +kernel
theorem dX0_comesFirst_11 : decode cX0_comesFirst 11 = .ok (.iload_n 3, 1) := by decide +kernel
theorem dX0_comesFirst_12 : decode cX0_comesFirst 12 = .ok (.if_icmp .eq 14, 3) := by decide +kernel
theorem dX0_comesFirst_15 : decode cX0_comesFirst 15 = .ok (.iload_n 2, 1) := by decide +kernel
theorem dX0_comesFirst_16 : decode cX0_comesFirst 16 = .ok (.iload_n 3, 1) := by decide +kernel
theorem dX0_comesFirst_17 : decode cX0_comesFirst 17 = .ok (.if_icmp .ge 7, 3) := by decide +kernel
theorem dX0_comesFirst_20 : decode cX0_comesFirst 20 = .ok (.iconst 1, 1) := by decide +kernel
theorem dX0_comesFirst_21 : decode cX0_comesFirst 21 = .ok (.goto 4, 3) := by decide +kernel
theorem dX0_comesFirst_24 : decode cX0_comesFirst 24 = .ok (.iconst 0, 1) := by decide +kernel
theorem dX0_comesFirst_25 : decode cX0_comesFirst 25 = .ok (.ireturn, 1) := by decide +kernel
theorem dX0_comesFirst_26 : decode cX0_comesFirst 26 = .ok (.iload_n 0, 1) := by decide +kernel
theorem dX0_comesFirst_27 : decode cX0_comesFirst 27 = .ok (.invokestatic 129, 3) := by decide +kernel
theorem dX0_comesFirst_30 : decode cX0_comesFirst 30 = .ok (.iload_n 1, 1) := by decide +kernel
theorem dX0_comesFirst_31 : decode cX0_comesFirst 31 = .ok (.invokestatic 129, 3) := by decide +kernel
theorem dX0_comesFirst_34 : decode cX0_comesFirst 34 = .ok (.if_icmp .ge 7, 3) := by decide +kernel
theorem dX0_comesFirst_37 : decode cX0_comesFirst 37 = .ok (.iconst 1, 1) := by decide +kernel
theorem dX0_comesFirst_38 : decode cX0_comesFirst 38 = .ok (.goto 4, 3) := by decide +kernel
theorem dX0_comesFirst_41 : decode cX0_comesFirst 41 = .ok (.iconst 0, 1) := by decide +kernel
theorem dX0_comesFirst_42 : decode cX0_comesFirst 42 = .ok (.ireturn, 1) := by decide +kernel
theorem dX0_lowestBit_0 : decode cX0_lowestBit 0 = .ok (.iload_n 0, 1) := by decide +kernel
theorem dX0_lowestBit_1 : decode cX0_lowestBit 1 = .ok (.iload_n 0, 1) := by decide +kernel
theorem dX0_lowestBit_2 : decode cX0_lowestBit 2 = .ok (.ineg, 1) := by decide +kernel
theorem dX0_lowestBit_3 : decode cX0_lowestBit 3 = .ok (.iand, 1) := by decide +kernel
theorem dX0_lowestBit_4 : decode cX0_lowestBit 4 = .ok (.ireturn, 1) := by decide +kernel
theorem dX1_init_0 : decode cX1_init 0 = .ok (.aload_n 0, 1) := by decide +kernel
theorem dX1_init_1 : decode cX1_init 1 = .ok (.invokespecial 3, 3) := by decide +kernel
theorem dX1_init_4 : decode cX1_init 4 = .ok (.aload_n 0, 1) := by decide +kernel
theorem dX1_init_5 : decode cX1_init 5 = .ok (.bipush 60, 2) := by decide +kernel
theorem dX1_init_7 : decode cX1_init 7 = .ok (.newarray .int, 2) := by decide +kernel
theorem dX1_init_9 : decode cX1_init 9 = .ok (.putfield 9, 3) := by decide +kernel
theorem dX1_init_12 : decode cX1_init 12 = .ok (.aload_n 0, 1) := by decide +kernel
theorem dX1_init_13 : decode cX1_init 13 = .ok (.bipush 60, 2) := by decide +kernel
theorem dX1_init_15 : decode cX1_init 15 = .ok (.newarray .int, 2) := by decide +kernel
theorem dX1_init_17 : decode cX1_init 17 = .ok (.putfield 15, 3) := by decide +kernel
theorem dX1_init_20 : decode cX1_init 20 = .ok (.aload_n 0, 1) := by decide +kernel
theorem dX1_init_21 : decode cX1_init 21 = .ok (.bipush 60, 2) := by decide +kernel
theorem dX1_init_23 : decode cX1_init 23 = .ok (.newarray .long, 2) := by decide +kernel
theorem dX1_init_25 : decode cX1_init 25 = .ok (.putfield 18, 3) := by decide +kernel
theorem dX1_init_28 : decode cX1_init 28 = .ok (.aload_n 0, 1) := by decide +kernel
theorem dX1_init_29 : decode cX1_init 29 = .ok (.bipush 60, 2) := by decide +kernel
theorem dX1_init_31 : decode cX1_init 31 = .ok (.newarray .boolean, 2) := by decide +kernel
theorem dX1_init_33 : decode cX1_init 33 = .ok (.putfield 22, 3) := by decide +kernel
theorem dX1_init_36 : decode cX1_init 36 = .ok (.aload_n 0, 1) := by decide +kernel
theorem dX1_init_37 : decode cX1_init 37 = .ok (.iconst 1, 1) := by decide +kernel
theorem dX1_init_38 : decode cX1_init 38 = .ok (.putfield 26, 3) := by decide +kernel
theorem dX1_init_41 : decode cX1_init 41 = .ok (.aload_n 0, 1) := by decide +kernel
theorem dX1_init_42 : decode cX1_init 42 = .ok (.iconst 0, 1) := by decide +kernel
theorem dX1_init_43 : decode cX1_init 43 = .ok (.putfield 30, 3) := by decide +kernel
theorem dX1_init_46 : decode cX1_init 46 = .ok (.aload_n 0, 1) := by decide +kernel
theorem dX1_init_47 : decode cX1_init 47 = .ok (.iconst 0, 1) := by decide +kernel
theorem dX1_init_48 : decode cX1_init 48 = .ok (.putfield 33, 3) := by decide +kernel
theorem dX1_init_51 : decode cX1_init 51 = .ok (.return_, 1) := by decide +kernel
theorem dX1_isNode_0 : decode cX1_isNode 0 = .ok (.iload_n 1, 1) := by decide +kernel
theorem dX1_isNode_1 : decode cX1_isNode 1 = .ok (.ifCond .lt 15, 3) := by decide +kernel
theorem dX1_isNode_4 : decode cX1_isNode 4 = .ok (.iload_n 1, 1) := by decide +kernel
theorem dX1_isNode_5 : decode cX1_isNode 5 = .ok (.aload_n 0, 1) := by decide +kernel
theorem dX1_isNode_6 : decode cX1_isNode 6 = .ok (.getfield 26, 3) := by decide +kernel
theorem dX1_isNode_9 : decode cX1_isNode 9 = .ok (.if_icmp .ge 7, 3) := by decide +kernel
theorem dX1_isNode_12 : decode cX1_isNode 12 = .ok (.iconst 1, 1) := by decide +kernel
theorem dX1_isNode_13 : decode cX1_isNode 13 = .ok (.goto 4, 3) := by decide +kernel
theorem dX1_isNode_16 : decode cX1_isNode 16 = .ok (.iconst 0, 1) := by decide +kernel
theorem dX1_isNode_17 : decode cX1_isNode 17 = .ok (.ireturn, 1) := by decide +kernel
theorem dX1_isArc_0 : decode cX1_isArc 0 = .ok (.iload_n 1, 1) := by decide +kernel
theorem dX1_isArc_1 : decode cX1_isArc 1 = .ok (.ifCond .lt 15, 3) := by decide +kernel
theorem dX1_isArc_4 : decode cX1_isArc 4 = .ok (.iload_n 1, 1) := by decide +kernel
theorem dX1_isArc_5 : decode cX1_isArc 5 = .ok (.aload_n 0, 1) := by decide +kernel
theorem dX1_isArc_6 : decode cX1_isArc 6 = .ok (.getfield 33, 3) := by decide +kernel
theorem dX1_isArc_9 : decode cX1_isArc 9 = .ok (.if_icmp .ge 7, 3) := by decide +kernel
theorem dX1_isArc_12 : decode cX1_isArc 12 = .ok (.iconst 1, 1) := by decide +kernel
theorem dX1_isArc_13 : decode cX1_isArc 13 = .ok (.goto 4, 3) := by decide +kernel
theorem dX1_isArc_16 : decode cX1_isArc 16 = .ok (.iconst 0, 1) := by decide +kernel
theorem dX1_isArc_17 : decode cX1_isArc 17 = .ok (.ireturn, 1) := by decide +kernel
theorem dX1_addArc_0 : decode cX1_addArc 0 = .ok (.aload_n 0, 1) := by decide +kernel
theorem dX1_addArc_1 : decode cX1_addArc 1 = .ok (.getfield 33, 3) := by decide +kernel
theorem dX1_addArc_4 : decode cX1_addArc 4 = .ok (.bipush 60, 2) := by decide +kernel
theorem dX1_addArc_6 : decode cX1_addArc 6 = .ok (.if_icmp .lt 5, 3) := by decide +kernel
theorem dX1_addArc_9 : decode cX1_addArc 9 = .ok (.iconst (-1), 1) := by decide +kernel
theorem dX1_addArc_10 : decode cX1_addArc 10 = .ok (.ireturn, 1) := by decide +kernel
theorem dX1_addArc_11 : decode cX1_addArc 11 = .ok (.aload_n 0, 1) := by decide +kernel
theorem dX1_addArc_12 : decode cX1_addArc 12 = .ok (.getfield 33, 3) := by decide +kernel
theorem dX1_addArc_15 : decode cX1_addArc 15 = .ok (.istore 5, 2) := by decide +kernel
theorem dX1_addArc_17 : decode cX1_addArc 17 = .ok (.aload_n 0, 1) := by decide +kernel
theorem dX1_addArc_18 : decode cX1_addArc 18 = .ok (.getfield 9, 3) := by decide +kernel
theorem dX1_addArc_21 : decode cX1_addArc 21 = .ok (.iload 5, 2) := by decide +kernel
theorem dX1_addArc_23 : decode cX1_addArc 23 = .ok (.iload_n 1, 1) := by decide +kernel
theorem dX1_addArc_24 : decode cX1_addArc 24 = .ok (.iastore, 1) := by decide +kernel
theorem dX1_addArc_25 : decode cX1_addArc 25 = .ok (.aload_n 0, 1) := by decide +kernel
theorem dX1_addArc_26 : decode cX1_addArc 26 = .ok (.getfield 15, 3) := by decide +kernel
theorem dX1_addArc_29 : decode cX1_addArc 29 = .ok (.iload 5, 2) := by decide +kernel
theorem dX1_addArc_31 : decode cX1_addArc 31 = .ok (.iload_n 2, 1) := by decide +kernel
theorem dX1_addArc_32 : decode cX1_addArc 32 = .ok (.iastore, 1) := by decide +kernel
theorem dX1_addArc_33 : decode cX1_addArc 33 = .ok (.aload_n 0, 1) := by decide +kernel
theorem dX1_addArc_34 : decode cX1_addArc 34 = .ok (.getfield 18, 3) := by decide +kernel
theorem dX1_addArc_37 : decode cX1_addArc 37 = .ok (.iload 5, 2) := by decide +kernel
theorem dX1_addArc_39 : decode cX1_addArc 39 = .ok (.lload_n 3, 1) := by decide +kernel
theorem dX1_addArc_40 : decode cX1_addArc 40 = .ok (.lastore, 1) := by decide +kernel
theorem dX1_addArc_41 : decode cX1_addArc 41 = .ok (.aload_n 0, 1) := by decide +kernel
theorem dX1_addArc_42 : decode cX1_addArc 42 = .ok (.getfield 22, 3) := by decide +kernel
theorem dX1_addArc_45 : decode cX1_addArc 45 = .ok (.iload 5, 2) := by decide +kernel
theorem dX1_addArc_47 : decode cX1_addArc 47 = .ok (.iconst 1, 1) := by decide +kernel
theorem dX1_addArc_48 : decode cX1_addArc 48 = .ok (.bastore, 1) := by decide +kernel
theorem dX1_addArc_49 : decode cX1_addArc 49 = .ok (.aload_n 0, 1) := by decide +kernel
theorem dX1_addArc_50 : decode cX1_addArc 50 = .ok (.dup, 1) := by decide +kernel
theorem dX1_addArc_51 : decode cX1_addArc 51 = .ok (.getfield 33, 3) := by decide +kernel
theorem dX1_addArc_54 : decode cX1_addArc 54 = .ok (.iconst 1, 1) := by decide +kernel
theorem dX1_addArc_55 : decode cX1_addArc 55 = .ok (.iadd, 1) := by decide +kernel
theorem dX1_addArc_56 : decode cX1_addArc 56 = .ok (.putfield 33, 3) := by decide +kernel
theorem dX1_addArc_59 : decode cX1_addArc 59 = .ok (.iload 5, 2) := by decide +kernel
theorem dX1_addArc_61 : decode cX1_addArc 61 = .ok (.ireturn, 1) := by decide +kernel
theorem dX1_openCount_0 : decode cX1_openCount 0 = .ok (.iconst 0, 1) := by decide +kernel
theorem dX1_openCount_1 : decode cX1_openCount 1 = .ok (.istore_n 1, 1) := by decide +kernel
theorem dX1_openCount_2 : decode cX1_openCount 2 = .ok (.iconst 0, 1) := by decide +kernel
theorem dX1_openCount_3 : decode cX1_openCount 3 = .ok (.istore_n 2, 1) := by decide +kernel
theorem dX1_openCount_4 : decode cX1_openCount 4 = .ok (.iload_n 2, 1) := by decide +kernel
theorem dX1_openCount_5 : decode cX1_openCount 5 = .ok (.aload_n 0, 1) := by decide +kernel
theorem dX1_openCount_6 : decode cX1_openCount 6 = .ok (.getfield 33, 3) := by decide +kernel
theorem dX1_openCount_9 : decode cX1_openCount 9 = .ok (.if_icmp .ge 21, 3) := by decide +kernel
theorem dX1_openCount_12 : decode cX1_openCount 12 = .ok (.aload_n 0, 1) := by decide +kernel
theorem dX1_openCount_13 : decode cX1_openCount 13 = .ok (.getfield 22, 3) := by decide +kernel
theorem dX1_openCount_16 : decode cX1_openCount 16 = .ok (.iload_n 2, 1) := by decide +kernel
theorem dX1_openCount_17 : decode cX1_openCount 17 = .ok (.baload, 1) := by decide +kernel
theorem dX1_openCount_18 : decode cX1_openCount 18 = .ok (.ifCond .eq 6, 3) := by decide +kernel
theorem dX1_openCount_21 : decode cX1_openCount 21 = .ok (.iinc 1 1, 3) := by decide +kernel
theorem dX1_openCount_24 : decode cX1_openCount 24 = .ok (.iinc 2 1, 3) := by decide +kernel
theorem dX1_openCount_27 : decode cX1_openCount 27 = .ok (.goto (-23), 3) := by decide +kernel
theorem dX1_openCount_30 : decode cX1_openCount 30 = .ok (.iload_n 1, 1) := by decide +kernel
theorem dX1_openCount_31 : decode cX1_openCount 31 = .ok (.ireturn, 1) := by decide +kernel
set_option maxRecDepth 20000 in
theorem ggX1_enters_X3_holds : GoodIn wsX1_enters wsX3_holds := goodIn_r _ [5] (by decide +kernel) (by decide +kernel)
set_option maxRecDepth 20000 in
theorem gX1_enters_X3_holds_n36 : GoodIn wsX1_enters (wsX3_holds) := ggX1_enters_X3_holds
theorem dX1_enters_0 : decode cX1_enters 0 = .ok (.iload_n 2, 1) := by decide +kernel
theorem dX1_enters_1 : decode cX1_enters 1 = .ok (.aload_n 0, 1) := by decide +kernel
theorem dX1_enters_2 : decode cX1_enters 2 = .ok (.getfield 15, 3) := by decide +kernel
theorem dX1_enters_5 : decode cX1_enters 5 = .ok (.iload_n 1, 1) := by decide +kernel
theorem dX1_enters_6 : decode cX1_enters 6 = .ok (.iaload, 1) := by decide +kernel
theorem dX1_enters_7 : decode cX1_enters 7 = .ok (.invokestatic 36, 3) := by decide +kernel
theorem dX1_enters_10 : decode cX1_enters 10 = .ok (.ifCond .eq 20, 3) := by decide +kernel
theorem dX1_enters_13 : decode cX1_enters 13 = .ok (.iload_n 2, 1) := by decide +kernel
theorem dX1_enters_14 : decode cX1_enters 14 = .ok (.aload_n 0, 1) := by decide +kernel
theorem dX1_enters_15 : decode cX1_enters 15 = .ok (.getfield 9, 3) := by decide +kernel
theorem dX1_enters_18 : decode cX1_enters 18 = .ok (.iload_n 1, 1) := by decide +kernel
theorem dX1_enters_19 : decode cX1_enters 19 = .ok (.iaload, 1) := by decide +kernel
theorem dX1_enters_20 : decode cX1_enters 20 = .ok (.invokestatic 36, 3) := by decide +kernel
theorem dX1_enters_23 : decode cX1_enters 23 = .ok (.ifCond .ne 7, 3) := by decide +kernel
theorem dX1_enters_26 : decode cX1_enters 26 = .ok (.iconst 1, 1) := by decide +kernel
theorem dX1_enters_27 : decode cX1_enters 27 = .ok (.goto 4, 3) := by decide +kernel
theorem dX1_enters_30 : decode cX1_enters 30 = .ok (.iconst 0, 1) := by decide +kernel
theorem dX1_enters_31 : decode cX1_enters 31 = .ok (.ireturn, 1) := by decide +kernel
set_option maxRecDepth 20000 in
theorem ggX1_reachedNodes_X1_oneRoundFurther : GoodIn wsX1_reachedNodes wsX1_oneRoundFurther := goodIn_r _ [7, 8, 9, 10, 11, 12, 13, 14, 15, 16, 17, 18, 19, 20, 21] (by decide +kernel) (by decide +kernel)
set_option maxRecDepth 20000 in
theorem gX1_reachedNodes_X1_oneRoundFurther : GoodIn wsX1_reachedNodes (wsV RX1 40 RX1 yX1_oneRoundFurther wsX1_oneRoundFurther) := goodIn_app (goodIn_of _ (by decide +kernel)) ggX1_reachedNodes_X1_oneRoundFurther
theorem dX1_reachedNodes_0 : decode cX1_reachedNodes 0 = .ok (.iconst 1, 1) := by decide +kernel
theorem dX1_reachedNodes_1 : decode cX1_reachedNodes 1 = .ok (.aload_n 0, 1) := by decide +kernel
theorem dX1_reachedNodes_2 : decode cX1_reachedNodes 2 = .ok (.getfield 30, 3) := by decide +kernel
theorem dX1_reachedNodes_5 : decode cX1_reachedNodes 5 = .ok (.ishl, 1) := by decide +kernel
theorem dX1_reachedNodes_6 : decode cX1_reachedNodes 6 = .ok (.istore_n 1, 1) := by decide +kernel
theorem dX1_reachedNodes_7 : decode cX1_reachedNodes 7 = .ok (.iconst 0, 1) := by decide +kernel
theorem dX1_reachedNodes_8 : decode cX1_reachedNodes 8 = .ok (.istore_n 2, 1) := by decide +kernel
theorem dX1_reachedNodes_9 : decode cX1_reachedNodes 9 = .ok (.iload_n 2, 1) := by decide +kernel
theorem dX1_reachedNodes_10 : decode cX1_reachedNodes 10 = .ok (.aload_n 0, 1) := by decide +kernel
theorem dX1_reachedNodes_11 : decode cX1_reachedNodes 11 = .ok (.getfield 26, 3) := by decide +kernel
theorem dX1_reachedNodes_14 : decode cX1_reachedNodes 14 = .ok (.if_icmp .ge 25, 3) := by decide +kernel
theorem dX1_reachedNodes_17 : decode cX1_reachedNodes 17 = .ok (.aload_n 0, 1) := by decide +kernel
theorem dX1_reachedNodes_18 : decode cX1_reachedNodes 18 = .ok (.iload_n 1, 1) := by decide +kernel
theorem dX1_reachedNodes_19 : decode cX1_reachedNodes 19 = .ok (.invokevirtual 40, 3) := by decide +kernel
theorem dX1_reachedNodes_22 : decode cX1_reachedNodes 22 = .ok (.istore_n 3, 1) := by decide +kernel
theorem dX1_reachedNodes_23 : decode cX1_reachedNodes 23 = .ok (.iload_n 3, 1) := by decide +kernel
theorem dX1_reachedNodes_24 : decode cX1_reachedNodes 24 = .ok (.iload_n 1, 1) := by decide +kernel
theorem dX1_reachedNodes_25 : decode cX1_reachedNodes 25 = .ok (.if_icmp .ne 6, 3) := by decide +kernel
theorem dX1_reachedNodes_28 : decode cX1_reachedNodes 28 = .ok (.goto 11, 3) := by decide +kernel
theorem dX1_reachedNodes_31 : decode cX1_reachedNodes 31 = .ok (.iload_n 3, 1) := by decide +kernel
theorem dX1_reachedNodes_32 : decode cX1_reachedNodes 32 = .ok (.istore_n 1, 1) := by decide +kernel
theorem dX1_reachedNodes_33 : decode cX1_reachedNodes 33 = .ok (.iinc 2 1, 3) := by decide +kernel
theorem dX1_reachedNodes_36 : decode cX1_reachedNodes 36 = .ok (.goto (-27), 3) := by decide +kernel
theorem dX1_reachedNodes_39 : decode cX1_reachedNodes 39 = .ok (.iload_n 1, 1) := by decide +kernel
theorem dX1_reachedNodes_40 : decode cX1_reachedNodes 40 = .ok (.ireturn, 1) := by decide +kernel
set_option maxRecDepth 20000 in
theorem ggX1_oneRoundFurther_X3_holds : GoodIn wsX1_oneRoundFurther wsX3_holds := goodIn_r _ [7] (by decide +kernel) (by decide +kernel)
set_option maxRecDepth 20000 in
theorem gX1_oneRoundFurther_X3_holds_n36 : GoodIn wsX1_oneRoundFurther (wsX3_holds) := ggX1_oneRoundFurther_X3_holds
theorem dX1_oneRoundFurther_0 : decode cX1_oneRoundFurther 0 = .ok (.iload_n 1, 1) := by decide +kernel
theorem dX1_oneRoundFurther_1 : decode cX1_oneRoundFurther 1 = .ok (.istore_n 2, 1) := by decide +kernel
theorem dX1_oneRoundFurther_2 : decode cX1_oneRoundFurther 2 = .ok (.iconst 0, 1) := by decide +kernel
theorem dX1_oneRoundFurther_3 : decode cX1_oneRoundFurther 3 = .ok (.istore_n 3, 1) := by decide +kernel
theorem dX1_oneRoundFurther_4 : decode cX1_oneRoundFurther 4 = .ok (.iload_n 3, 1) := by decide +kernel
theorem dX1_oneRoundFurther_5 : decode cX1_oneRoundFurther 5 = .ok (.aload_n 0, 1) := by decide +kernel
theorem dX1_oneRoundFurther_6 : decode cX1_oneRoundFurther 6 = .ok (.getfield 33, 3) := by decide +kernel
theorem dX1_oneRoundFurther_9 : decode cX1_oneRoundFurther 9 = .ok (.if_icmp .ge 42, 3) := by decide +kernel
theorem dX1_oneRoundFurther_12 : decode cX1_oneRoundFurther 12 = .ok (.aload_n 0, 1) := by decide +kernel
theorem dX1_oneRoundFurther_13 : decode cX1_oneRoundFurther 13 = .ok (.getfield 22, 3) := by decide +kernel
theorem dX1_oneRoundFurther_16 : decode cX1_oneRoundFurther 16 = .ok (.iload_n 3, 1) := by decide +kernel
theorem dX1_oneRoundFurther_17 : decode cX1_oneRoundFurther 17 = .ok (.baload, 1) := by decide +kernel
theorem dX1_oneRoundFurther_18 : decode cX1_oneRoundFurther 18 = .ok (.ifCond .eq 27, 3) := by decide +kernel
theorem dX1_oneRoundFurther_21 : decode cX1_oneRoundFurther 21 = .ok (.iload_n 2, 1) := by decide +kernel
theorem dX1_oneRoundFurther_22 : decode cX1_oneRoundFurther 22 = .ok (.aload_n 0, 1) := by decide +kernel
theorem dX1_oneRoundFurther_23 : decode cX1_oneRoundFurther 23 = .ok (.getfield 9, 3) := by decide +kernel
theorem dX1_oneRoundFurther_26 : decode cX1_oneRoundFurther 26 = .ok (.iload_n 3, 1) := by decide +kernel
theorem dX1_oneRoundFurther_27 : decode cX1_oneRoundFurther 27 = .ok (.iaload, 1) := by decide +kernel
theorem dX1_oneRoundFurther_28 : decode cX1_oneRoundFurther 28 = .ok (.invokestatic 36, 3) := by decide +kernel
theorem dX1_oneRoundFurther_31 : decode cX1_oneRoundFurther 31 = .ok (.ifCond .eq 14, 3) := by decide +kernel
theorem dX1_oneRoundFurther_34 : decode cX1_oneRoundFurther 34 = .ok (.iload_n 2, 1) := by decide +kernel
theorem dX1_oneRoundFurther_35 : decode cX1_oneRoundFurther 35 = .ok (.iconst 1, 1) := by decide +kernel
theorem dX1_oneRoundFurther_36 : decode cX1_oneRoundFurther 36 = .ok (.aload_n 0, 1) := by decide +kernel
theorem dX1_oneRoundFurther_37 : decode cX1_oneRoundFurther 37 = .ok (.getfield 15, 3) := by decide +kernel
theorem dX1_oneRoundFurther_40 : decode cX1_oneRoundFurther 40 = .ok (.iload_n 3, 1) := by decide +kernel
theorem dX1_oneRoundFurther_41 : decode cX1_oneRoundFurther 41 = .ok (.iaload, 1) := by decide +kernel
theorem dX1_oneRoundFurther_42 : decode cX1_oneRoundFurther 42 = .ok (.ishl, 1) := by decide +kernel
theorem dX1_oneRoundFurther_43 : decode cX1_oneRoundFurther 43 = .ok (.ior, 1) := by decide +kernel
theorem dX1_oneRoundFurther_44 : decode cX1_oneRoundFurther 44 = .ok (.istore_n 2, 1) := by decide +kernel
theorem dX1_oneRoundFurther_45 : decode cX1_oneRoundFurther 45 = .ok (.iinc 3 1, 3) := by decide +kernel
theorem dX1_oneRoundFurther_48 : decode cX1_oneRoundFurther 48 = .ok (.goto (-44), 3) := by decide +kernel
theorem dX1_oneRoundFurther_51 : decode cX1_oneRoundFurther 51 = .ok (.iload_n 2, 1) := by decide +kernel
theorem dX1_oneRoundFurther_52 : decode cX1_oneRoundFurther 52 = .ok (.ireturn, 1) := by decide +kernel
theorem dX2_init_0 : decode cX2_init 0 = .ok (.aload_n 0, 1) := by decide +kernel
theorem dX2_init_1 : decode cX2_init 1 = .ok (.invokespecial 3, 3) := by decide +kernel
theorem dX2_init_4 : decode cX2_init 4 = .ok (.aload_n 0, 1) := by decide +kernel
theorem dX2_init_5 : decode cX2_init 5 = .ok (.bipush 24, 2) := by decide +kernel
theorem dX2_init_7 : decode cX2_init 7 = .ok (.newarray .int, 2) := by decide +kernel
theorem dX2_init_9 : decode cX2_init 9 = .ok (.putfield 9, 3) := by decide +kernel
theorem dX2_init_12 : decode cX2_init 12 = .ok (.aload_n 0, 1) := by decide +kernel
theorem dX2_init_13 : decode cX2_init 13 = .ok (.aload_n 1, 1) := by decide +kernel
theorem dX2_init_14 : decode cX2_init 14 = .ok (.putfield 15, 3) := by decide +kernel
theorem dX2_init_17 : decode cX2_init 17 = .ok (.aload_n 0, 1) := by decide +kernel
theorem dX2_init_18 : decode cX2_init 18 = .ok (.aload_n 2, 1) := by decide +kernel
theorem dX2_init_19 : decode cX2_init 19 = .ok (.putfield 19, 3) := by decide +kernel
theorem dX2_init_22 : decode cX2_init 22 = .ok (.return_, 1) := by decide +kernel
set_option maxRecDepth 20000 in
theorem ggX2_unfold_J7_fill_53178 : GoodIn wsX2_unfold wsJ7_fill_53178 := goodIn_r _ [11] (by decide +kernel) (by decide +kernel)
set_option maxRecDepth 20000 in
theorem gX2_unfold_J7_fill_53178 : GoodIn wsX2_unfold (va_wsS RX2 23 yJ7_fill_53178 wsJ7_fill_53178) := goodIn_app (goodIn_of _ (by decide +kernel)) ggX2_unfold_J7_fill_53178
theorem dX2_unfold_0 : decode cX2_unfold 0 = .ok (.aload_n 0, 1) := by decide +kernel
theorem dX2_unfold_1 : decode cX2_unfold 1 = .ok (.getfield 9, 3) := by decide +kernel
theorem dX2_unfold_4 : decode cX2_unfold 4 = .ok (.iconst (-1), 1) := by decide +kernel
theorem dX2_unfold_5 : decode cX2_unfold 5 = .ok (.invokestatic 23, 3) := by decide +kernel
theorem dX2_unfold_8 : decode cX2_unfold 8 = .ok (.iconst 0, 1) := by decide +kernel
theorem dX2_unfold_9 : decode cX2_unfold 9 = .ok (.istore_n 1, 1) := by decide +kernel
theorem dX2_unfold_10 : decode cX2_unfold 10 = .ok (.aload_n 0, 1) := by decide +kernel
theorem dX2_unfold_11 : decode cX2_unfold 11 = .ok (.getfield 19, 3) := by decide +kernel
theorem dX2_unfold_14 : decode cX2_unfold 14 = .ok (.getfield 29, 3) := by decide +kernel
theorem dX2_unfold_17 : decode cX2_unfold 17 = .ok (.iconst 1, 1) := by decide +kernel
theorem dX2_unfold_18 : decode cX2_unfold 18 = .ok (.isub, 1) := by decide +kernel
theorem dX2_unfold_19 : decode cX2_unfold 19 = .ok (.istore_n 2, 1) := by decide +kernel
theorem dX2_unfold_20 : decode cX2_unfold 20 = .ok (.iload_n 2, 1) := by decide +kernel
theorem dX2_unfold_21 : decode cX2_unfold 21 = .ok (.ifCond .lt 64, 3) := by decide +kernel
theorem dX2_unfold_24 : decode cX2_unfold 24 = .ok (.aload_n 0, 1) := by decide +kernel
theorem dX2_unfold_25 : decode cX2_unfold 25 = .ok (.getfield 19, 3) := by decide +kernel
theorem dX2_unfold_28 : decode cX2_unfold 28 = .ok (.getfield 35, 3) := by decide +kernel
theorem dX2_unfold_31 : decode cX2_unfold 31 = .ok (.iload_n 2, 1) := by decide +kernel
theorem dX2_unfold_32 : decode cX2_unfold 32 = .ok (.iaload, 1) := by decide +kernel
theorem dX2_unfold_33 : decode cX2_unfold 33 = .ok (.istore_n 3, 1) := by decide +kernel
theorem dX2_unfold_34 : decode cX2_unfold 34 = .ok (.iload_n 3, 1) := by decide +kernel
theorem dX2_unfold_35 : decode cX2_unfold 35 = .ok (.iconst (-1), 1) := by decide +kernel
theorem dX2_unfold_36 : decode cX2_unfold 36 = .ok (.if_icmp .eq 43, 3) := by decide +kernel
theorem dX2_unfold_39 : decode cX2_unfold 39 = .ok (.aload_n 0, 1) := by decide +kernel
theorem dX2_unfold_40 : decode cX2_unfold 40 = .ok (.getfield 19, 3) := by decide +kernel
theorem dX2_unfold_43 : decode cX2_unfold 43 = .ok (.getfield 38, 3) := by decide +kernel
theorem dX2_unfold_46 : decode cX2_unfold 46 = .ok (.iload_n 2, 1) := by decide +kernel
theorem dX2_unfold_47 : decode cX2_unfold 47 = .ok (.iaload, 1) := by decide +kernel
theorem dX2_unfold_48 : decode cX2_unfold 48 = .ok (.iload_n 1, 1) := by decide +kernel
theorem dX2_unfold_49 : decode cX2_unfold 49 = .ok (.iand, 1) := by decide +kernel
theorem dX2_unfold_50 : decode cX2_unfold 50 = .ok (.ifCond .ne 29, 3) := by decide +kernel
theorem dX2_unfold_53 : decode cX2_unfold 53 = .ok (.aload_n 0, 1) := by decide +kernel
theorem dX2_unfold_54 : decode cX2_unfold 54 = .ok (.getfield 15, 3) := by decide +kernel
theorem dX2_unfold_57 : decode cX2_unfold 57 = .ok (.getfield 41, 3) := by decide +kernel
theorem dX2_unfold_60 : decode cX2_unfold 60 = .ok (.iload_n 3, 1) := by decide +kernel
theorem dX2_unfold_61 : decode cX2_unfold 61 = .ok (.iaload, 1) := by decide +kernel
theorem dX2_unfold_62 : decode cX2_unfold 62 = .ok (.istore 4, 2) := by decide +kernel
theorem dX2_unfold_64 : decode cX2_unfold 64 = .ok (.aload_n 0, 1) := by decide +kernel
theorem dX2_unfold_65 : decode cX2_unfold 65 = .ok (.getfield 9, 3) := by decide +kernel
theorem dX2_unfold_68 : decode cX2_unfold 68 = .ok (.iload 4, 2) := by decide +kernel
theorem dX2_unfold_70 : decode cX2_unfold 70 = .ok (.iload_n 3, 1) := by decide +kernel
theorem dX2_unfold_71 : decode cX2_unfold 71 = .ok (.iastore, 1) := by decide +kernel
theorem dX2_unfold_72 : decode cX2_unfold 72 = .ok (.iload_n 1, 1) := by decide +kernel
theorem dX2_unfold_73 : decode cX2_unfold 73 = .ok (.iconst 1, 1) := by decide +kernel
theorem dX2_unfold_74 : decode cX2_unfold 74 = .ok (.iload 4, 2) := by decide +kernel
theorem dX2_unfold_76 : decode cX2_unfold 76 = .ok (.ishl, 1) := by decide +kernel
theorem dX2_unfold_77 : decode cX2_unfold 77 = .ok (.ior, 1) := by decide +kernel
theorem dX2_unfold_78 : decode cX2_unfold 78 = .ok (.istore_n 1, 1) := by decide +kernel
theorem dX2_unfold_79 : decode cX2_unfold 79 = .ok (.iinc 2 (-1), 3) := by decide +kernel
theorem dX2_unfold_82 : decode cX2_unfold 82 = .ok (.goto (-62), 3) := by decide +kernel
theorem dX2_unfold_85 : decode cX2_unfold 85 = .ok (.return_, 1) := by decide +kernel
theorem dX2_hasArc_0 : decode cX2_hasArc 0 = .ok (.aload_n 0, 1) := by decide +kernel
theorem dX2_hasArc_1 : decode cX2_hasArc 1 = .ok (.getfield 9, 3) := by decide +kernel
theorem dX2_hasArc_4 : decode cX2_hasArc 4 = .ok (.aload_n 0, 1) := by decide +kernel
theorem dX2_hasArc_5 : decode cX2_hasArc 5 = .ok (.getfield 15, 3) := by decide +kernel
theorem dX2_hasArc_8 : decode cX2_hasArc 8 = .ok (.getfield 41, 3) := by decide +kernel
theorem dX2_hasArc_11 : decode cX2_hasArc 11 = .ok (.iload_n 1, 1) := by decide +kernel
theorem dX2_hasArc_12 : decode cX2_hasArc 12 = .ok (.iaload, 1) := by decide +kernel
theorem dX2_hasArc_13 : decode cX2_hasArc 13 = .ok (.iaload, 1) := by decide +kernel
theorem dX2_hasArc_14 : decode cX2_hasArc 14 = .ok (.iload_n 1, 1) := by decide +kernel
theorem dX2_hasArc_15 : decode cX2_hasArc 15 = .ok (.if_icmp .ne 7, 3) := by decide +kernel
theorem dX2_hasArc_18 : decode cX2_hasArc 18 = .ok (.iconst 1, 1) := by decide +kernel
theorem dX2_hasArc_19 : decode cX2_hasArc 19 = .ok (.goto 4, 3) := by decide +kernel
theorem dX2_hasArc_22 : decode cX2_hasArc 22 = .ok (.iconst 0, 1) := by decide +kernel
theorem dX2_hasArc_23 : decode cX2_hasArc 23 = .ok (.ireturn, 1) := by decide +kernel
theorem dX2_sumOfWeights_0 : decode cX2_sumOfWeights 0 = .ok (.lconst 0, 1) := by decide +kernel
theorem dX2_sumOfWeights_1 : decode cX2_sumOfWeights 1 = .ok (.lstore_n 1, 1) := by decide +kernel
theorem dX2_sumOfWeights_2 : decode cX2_sumOfWeights 2 = .ok (.iconst 0, 1) := by decide +kernel
theorem dX2_sumOfWeights_3 : decode cX2_sumOfWeights 3 = .ok (.istore_n 3, 1) := by decide +kernel
theorem dX2_sumOfWeights_4 : decode cX2_sumOfWeights 4 = .ok (.iload_n 3, 1) := by decide +kernel
theorem dX2_sumOfWeights_5 : decode cX2_sumOfWeights 5 = .ok (.aload_n 0, 1) := by decide +kernel
theorem dX2_sumOfWeights_6 : decode cX2_sumOfWeights 6 = .ok (.getfield 15, 3) := by decide +kernel
theorem dX2_sumOfWeights_9 : decode cX2_sumOfWeights 9 = .ok (.getfield 46, 3) := by decide +kernel
theorem dX2_sumOfWeights_12 : decode cX2_sumOfWeights 12 = .ok (.if_icmp .ge 36, 3) := by decide +kernel
theorem dX2_sumOfWeights_15 : decode cX2_sumOfWeights 15 = .ok (.aload_n 0, 1) := by decide +kernel
theorem dX2_sumOfWeights_16 : decode cX2_sumOfWeights 16 = .ok (.getfield 9, 3) := by decide +kernel
theorem dX2_sumOfWeights_19 : decode cX2_sumOfWeights 19 = .ok (.iload_n 3, 1) := by decide +kernel
theorem dX2_sumOfWeights_20 : decode cX2_sumOfWeights 20 = .ok (.iaload, 1) := by decide +kernel
theorem dX2_sumOfWeights_21 : decode cX2_sumOfWeights 21 = .ok (.istore 4, 2) := by decide +kernel
theorem dX2_sumOfWeights_23 : decode cX2_sumOfWeights 23 = .ok (.iload 4, 2) := by decide +kernel
theorem dX2_sumOfWeights_25 : decode cX2_sumOfWeights 25 = .ok (.iconst (-1), 1) := by decide +kernel
theorem dX2_sumOfWeights_26 : decode cX2_sumOfWeights 26 = .ok (.if_icmp .eq 16, 3) := by decide +kernel
theorem dX2_sumOfWeights_29 : decode cX2_sumOfWeights 29 = .ok (.lload_n 1, 1) := by decide +kernel
theorem dX2_sumOfWeights_30 : decode cX2_sumOfWeights 30 = .ok (.aload_n 0, 1) := by decide +kernel
theorem dX2_sumOfWeights_31 : decode cX2_sumOfWeights 31 = .ok (.getfield 15, 3) := by decide +kernel
theorem dX2_sumOfWeights_34 : decode cX2_sumOfWeights 34 = .ok (.getfield 49, 3) := by decide +kernel
theorem dX2_sumOfWeights_37 : decode cX2_sumOfWeights 37 = .ok (.iload 4, 2) := by decide +kernel
theorem dX2_sumOfWeights_39 : decode cX2_sumOfWeights 39 = .ok (.laload, 1) := by decide +kernel
theorem dX2_sumOfWeights_40 : decode cX2_sumOfWeights 40 = .ok (.ladd, 1) := by decide +kernel
theorem dX2_sumOfWeights_41 : decode cX2_sumOfWeights 41 = .ok (.lstore_n 1, 1) := by decide +kernel
theorem dX2_sumOfWeights_42 : decode cX2_sumOfWeights 42 = .ok (.iinc 3 1, 3) := by decide +kernel
theorem dX2_sumOfWeights_45 : decode cX2_sumOfWeights 45 = .ok (.goto (-41), 3) := by decide +kernel
theorem dX2_sumOfWeights_48 : decode cX2_sumOfWeights 48 = .ok (.lload_n 1, 1) := by decide +kernel
theorem dX2_sumOfWeights_49 : decode cX2_sumOfWeights 49 = .ok (.lreturn, 1) := by decide +kernel
theorem dX2_arcsOnWayTo_0 : decode cX2_arcsOnWayTo 0 = .ok (.iconst 0, 1) := by decide +kernel
theorem dX2_arcsOnWayTo_1 : decode cX2_arcsOnWayTo 1 = .ok (.istore_n 2, 1) := by decide +kernel
theorem dX2_arcsOnWayTo_2 : decode cX2_arcsOnWayTo 2 = .ok (.aload_n 0, 1) := by decide +kernel
