theorem dX0_init_0 : decode cX0_init 0 = .ok (.aload_n 0, 1) := by decide +kernel
theorem dX0_init_1 : decode cX0_init 1 = .ok (.invokespecial 3, 3) := by decide +kernel
theorem dX0_init_4 : decode cX0_init 4 = .ok (.aload_n 0, 1) := by decide +kernel
theorem dX0_init_5 : decode cX0_init 5 = .ok (.iload_n 1, 1) := by decide +kernel
theorem dX0_init_6 : decode cX0_init 6 = .ok (.ifCond .ge 7, 3) := by decide +kernel
theorem dX0_init_9 : decode cX0_init 9 = .ok (.iconst 0, 1) := by decide +kernel
theorem dX0_init_10 : decode cX0_init 10 = .ok (.goto 4, 3) := by decide +kernel
theorem dX0_init_13 : decode cX0_init 13 = .ok (.iload_n 1, 1) := by decide +kernel
theorem dX0_init_14 : decode cX0_init 14 = .ok (.newarray .int, 2) := by decide +kernel
theorem dX0_init_16 : decode cX0_init 16 = .ok (.putfield 9, 3) := by decide +kernel
theorem dX0_init_19 : decode cX0_init 19 = .ok (.return_, 1) := by decide +kernel
theorem dX0_at_0 : decode cX0_at 0 = .ok (.iload_n 1, 1) := by decide +kernel
theorem dX0_at_1 : decode cX0_at 1 = .ok (.ifCond .lt 21, 3) := by decide +kernel
theorem dX0_at_4 : decode cX0_at 4 = .ok (.iload_n 1, 1) := by decide +kernel
theorem dX0_at_5 : decode cX0_at 5 = .ok (.aload_n 0, 1) := by decide +kernel
theorem dX0_at_6 : decode cX0_at 6 = .ok (.getfield 9, 3) := by decide +kernel
theorem dX0_at_9 : decode cX0_at 9 = .ok (.arraylength, 1) := by decide +kernel
theorem dX0_at_10 : decode cX0_at 10 = .ok (.if_icmp .ge 12, 3) := by decide +kernel
theorem dX0_at_13 : decode cX0_at 13 = .ok (.aload_n 0, 1) := by decide +kernel
theorem dX0_at_14 : decode cX0_at 14 = .ok (.getfield 9, 3) := by decide +kernel
theorem dX0_at_17 : decode cX0_at 17 = .ok (.iload_n 1, 1) := by decide +kernel
theorem dX0_at_18 : decode cX0_at 18 = .ok (.iaload, 1) := by decide +kernel
theorem dX0_at_19 : decode cX0_at 19 = .ok (.goto 4, 3) := by decide +kernel
theorem dX0_at_22 : decode cX0_at 22 = .ok (.iconst (-1), 1) := by decide +kernel
theorem dX0_at_23 : decode cX0_at 23 = .ok (.ireturn, 1) := by decide +kernel
theorem dX0_put_0 : decode cX0_put 0 = .ok (.iload_n 1, 1) := by decide +kernel
theorem dX0_put_1 : decode cX0_put 1 = .ok (.ifCond .lt 19, 3) := by decide +kernel
theorem dX0_put_4 : decode cX0_put 4 = .ok (.iload_n 1, 1) := by decide +kernel
theorem dX0_put_5 : decode cX0_put 5 = .ok (.aload_n 0, 1) := by decide +kernel
theorem dX0_put_6 : decode cX0_put 6 = .ok (.getfield 9, 3) := by decide +kernel
theorem dX0_put_9 : decode cX0_put 9 = .ok (.arraylength, 1) := by decide +kernel
theorem dX0_put_10 : decode cX0_put 10 = .ok (.if_icmp .ge 10, 3) := by decide +kernel
theorem dX0_put_13 : decode cX0_put 13 = .ok (.aload_n 0, 1) := by decide +kernel
theorem dX0_put_14 : decode cX0_put 14 = .ok (.getfield 9, 3) := by decide +kernel
theorem dX0_put_17 : decode cX0_put 17 = .ok (.iload_n 1, 1) := by decide +kernel
theorem dX0_put_18 : decode cX0_put 18 = .ok (.iload_n 2, 1) := by decide +kernel
theorem dX0_put_19 : decode cX0_put 19 = .ok (.iastore, 1) := by decide +kernel
theorem dX0_put_20 : decode cX0_put 20 = .ok (.return_, 1) := by decide +kernel
set_option maxRecDepth 20000 in
theorem ggX0_fill_J7_fill_53178 : GoodIn wsX0_fill wsJ7_fill_53178 := goodIn_r _ [5] (by decide +kernel) (by decide +kernel)
set_option maxRecDepth 20000 in
theorem gX0_fill_J7_fill_53178 : GoodIn wsX0_fill (va_wsS RX0 15 yJ7_fill_53178 wsJ7_fill_53178) := goodIn_app (goodIn_of _ (by decide +kernel)) ggX0_fill_J7_fill_53178
theorem dX0_fill_0 : decode cX0_fill 0 = .ok (.aload_n 0, 1) := by decide +kernel
theorem dX0_fill_1 : decode cX0_fill 1 = .ok (.getfield 9, 3) := by decide +kernel
theorem dX0_fill_4 : decode cX0_fill 4 = .ok (.iload_n 1, 1) := by decide +kernel
theorem dX0_fill_5 : decode cX0_fill 5 = .ok (.invokestatic 15, 3) := by decide +kernel
theorem dX0_fill_8 : decode cX0_fill 8 = .ok (.return_, 1) := by decide +kernel
theorem dX0_copyFrom_0 : decode cX0_copyFrom 0 = .ok (.aload_n 1, 1) := by decide +kernel
theorem dX0_copyFrom_1 : decode cX0_copyFrom 1 = .ok (.getfield 9, 3) := by decide +kernel
theorem dX0_copyFrom_4 : decode cX0_copyFrom 4 = .ok (.iconst 0, 1) := by decide +kernel
theorem dX0_copyFrom_5 : decode cX0_copyFrom 5 = .ok (.aload_n 0, 1) := by decide +kernel
theorem dX0_copyFrom_6 : decode cX0_copyFrom 6 = .ok (.getfield 9, 3) := by decide +kernel
theorem dX0_copyFrom_9 : decode cX0_copyFrom 9 = .ok (.iconst 0, 1) := by decide +kernel
theorem dX0_copyFrom_10 : decode cX0_copyFrom 10 = .ok (.aload_n 0, 1) := by decide +kernel
theorem dX0_copyFrom_11 : decode cX0_copyFrom 11 = .ok (.getfield 9, 3) := by decide +kernel
theorem dX0_copyFrom_14 : decode cX0_copyFrom 14 = .ok (.arraylength, 1) := by decide +kernel
theorem dX0_copyFrom_15 : decode cX0_copyFrom 15 = .ok (.aload_n 1, 1) := by decide +kernel
theorem dX0_copyFrom_16 : decode cX0_copyFrom 16 = .ok (.getfield 9, 3) := by decide +kernel
theorem dX0_copyFrom_19 : decode cX0_copyFrom 19 = .ok (.arraylength, 1) := by decide +kernel
theorem dX0_copyFrom_20 : decode cX0_copyFrom 20 = .ok (.invokestatic 21, 3) := by decide +kernel
theorem dX0_copyFrom_23 : decode cX0_copyFrom 23 = .ok (.invokestatic 27, 3) := by decide +kernel
theorem dX0_copyFrom_26 : decode cX0_copyFrom 26 = .ok (.return_, 1) := by decide +kernel
set_option maxRecDepth 20000 in
theorem ggX1_init_X0_init : GoodIn wsX1_init wsX0_init := goodIn_r _ [16, 17, 2, 3, 18, 19, 30] (by decide +kernel) (by decide +kernel)
set_option maxRecDepth 20000 in
theorem gX1_init_X0_init : GoodIn wsX1_init (wsX0_init) := ggX1_init_X0_init
set_option maxRecDepth 20000 in
theorem ggX1_init_X1_addNode : GoodIn wsX1_init wsX1_addNode := goodIn_r _ [24, 25, 7, 8, 9, 10, 11, 26, 27, 28, 6, 29, 19, 31, 32, 33, 34, 35, 36, 37, 38, 39, 40, 30] (by decide +kernel) (by decide +kernel)
set_option maxRecDepth 20000 in
theorem gX1_init_X1_addNode : GoodIn wsX1_init (wsV RX1 38 RX1 yX1_addNode wsX1_addNode) := goodIn_app (goodIn_of _ (by decide +kernel)) ggX1_init_X1_addNode
theorem dX1_init_0 : decode cX1_init 0 = .ok (.aload_n 0, 1) := by decide +kernel
theorem dX1_init_1 : decode cX1_init 1 = .ok (.invokespecial 3, 3) := by decide +kernel
theorem dX1_init_4 : decode cX1_init 4 = .ok (.aload_n 0, 1) := by decide +kernel
theorem dX1_init_5 : decode cX1_init 5 = .ok (.new 9, 3) := by decide +kernel
theorem dX1_init_8 : decode cX1_init 8 = .ok (.dup, 1) := by decide +kernel
theorem dX1_init_9 : decode cX1_init 9 = .ok (.sipush 400, 3) := by decide +kernel
theorem dX1_init_12 : decode cX1_init 12 = .ok (.invokespecial 11, 3) := by decide +kernel
theorem dX1_init_15 : decode cX1_init 15 = .ok (.putfield 14, 3) := by decide +kernel
theorem dX1_init_18 : decode cX1_init 18 = .ok (.aload_n 0, 1) := by decide +kernel
theorem dX1_init_19 : decode cX1_init 19 = .ok (.new 9, 3) := by decide +kernel
theorem dX1_init_22 : decode cX1_init 22 = .ok (.dup, 1) := by decide +kernel
theorem dX1_init_23 : decode cX1_init 23 = .ok (.sipush 400, 3) := by decide +kernel
theorem dX1_init_26 : decode cX1_init 26 = .ok (.invokespecial 11, 3) := by decide +kernel
theorem dX1_init_29 : decode cX1_init 29 = .ok (.putfield 20, 3) := by decide +kernel
theorem dX1_init_32 : decode cX1_init 32 = .ok (.aload_n 0, 1) := by decide +kernel
theorem dX1_init_33 : decode cX1_init 33 = .ok (.new 9, 3) := by decide +kernel
theorem dX1_init_36 : decode cX1_init 36 = .ok (.dup, 1) := by decide +kernel
theorem dX1_init_37 : decode cX1_init 37 = .ok (.sipush 400, 3) := by decide +kernel
theorem dX1_init_40 : decode cX1_init 40 = .ok (.invokespecial 11, 3) := by decide +kernel
theorem dX1_init_43 : decode cX1_init 43 = .ok (.putfield 23, 3) := by decide +kernel
theorem dX1_init_46 : decode cX1_init 46 = .ok (.aload_n 0, 1) := by decide +kernel
theorem dX1_init_47 : decode cX1_init 47 = .ok (.new 9, 3) := by decide +kernel
theorem dX1_init_50 : decode cX1_init 50 = .ok (.dup, 1) := by decide +kernel
theorem dX1_init_51 : decode cX1_init 51 = .ok (.sipush 400, 3) := by decide +kernel
theorem dX1_init_54 : decode cX1_init 54 = .ok (.invokespecial 11, 3) := by decide +kernel
theorem dX1_init_57 : decode cX1_init 57 = .ok (.putfield 26, 3) := by decide +kernel
theorem dX1_init_60 : decode cX1_init 60 = .ok (.aload_n 0, 1) := by decide +kernel
theorem dX1_init_61 : decode cX1_init 61 = .ok (.new 9, 3) := by decide +kernel
theorem dX1_init_64 : decode cX1_init 64 = .ok (.dup, 1) := by decide +kernel
theorem dX1_init_65 : decode cX1_init 65 = .ok (.sipush 400, 3) := by decide +kernel
theorem dX1_init_68 : decode cX1_init 68 = .ok (.invokespecial 11, 3) := by decide +kernel
theorem dX1_init_71 : decode cX1_init 71 = .ok (.putfield 29, 3) := by decide +kernel
theorem dX1_init_74 : decode cX1_init 74 = .ok (.aload_n 0, 1) := by decide +kernel
theorem dX1_init_75 : decode cX1_init 75 = .ok (.new 9, 3) := by decide +kernel
theorem dX1_init_78 : decode cX1_init 78 = .ok (.dup, 1) := by decide +kernel
theorem dX1_init_79 : decode cX1_init 79 = .ok (.bipush 40, 2) := by decide +kernel
theorem dX1_init_81 : decode cX1_init 81 = .ok (.invokespecial 11, 3) := by decide +kernel
theorem dX1_init_84 : decode cX1_init 84 = .ok (.putfield 32, 3) := by decide +kernel
theorem dX1_init_87 : decode cX1_init 87 = .ok (.aload_n 0, 1) := by decide +kernel
theorem dX1_init_88 : decode cX1_init 88 = .ok (.new 9, 3) := by decide +kernel
theorem dX1_init_91 : decode cX1_init 91 = .ok (.dup, 1) := by decide +kernel
theorem dX1_init_92 : decode cX1_init 92 = .ok (.bipush 40, 2) := by decide +kernel
theorem dX1_init_94 : decode cX1_init 94 = .ok (.invokespecial 11, 3) := by decide +kernel
theorem dX1_init_97 : decode cX1_init 97 = .ok (.putfield 35, 3) := by decide +kernel
theorem dX1_init_100 : decode cX1_init 100 = .ok (.aload_n 0, 1) := by decide +kernel
theorem dX1_init_101 : decode cX1_init 101 = .ok (.iconst 0, 1) := by decide +kernel
theorem dX1_init_102 : decode cX1_init 102 = .ok (.invokevirtual 38, 3) := by decide +kernel
theorem dX1_init_105 : decode cX1_init 105 = .ok (.pop, 1) := by decide +kernel
theorem dX1_init_106 : decode cX1_init 106 = .ok (.return_, 1) := by decide +kernel
set_option maxRecDepth 20000 in
theorem ggX1_copyFrom_X0_copyFrom : GoodIn wsX1_copyFrom wsX0_copyFrom := goodIn_r _ [15, 16, 17, 18, 19, 20, 21, 22, 23, 24, 35] (by decide +kernel) (by decide +kernel)
set_option maxRecDepth 20000 in
theorem gX1_copyFrom_X0_copyFrom : GoodIn wsX1_copyFrom (wsV RX1 42 RX0 yX0_copyFrom wsX0_copyFrom) := goodIn_app (goodIn_of _ (by decide +kernel)) ggX1_copyFrom_X0_copyFrom
theorem dX1_copyFrom_0 : decode cX1_copyFrom 0 = .ok (.aload_n 0, 1) := by decide +kernel
theorem dX1_copyFrom_1 : decode cX1_copyFrom 1 = .ok (.getfield 14, 3) := by decide +kernel
theorem dX1_copyFrom_4 : decode cX1_copyFrom 4 = .ok (.aload_n 1, 1) := by decide +kernel
theorem dX1_copyFrom_5 : decode cX1_copyFrom 5 = .ok (.getfield 14, 3) := by decide +kernel
theorem dX1_copyFrom_8 : decode cX1_copyFrom 8 = .ok (.invokevirtual 42, 3) := by decide +kernel
theorem dX1_copyFrom_11 : decode cX1_copyFrom 11 = .ok (.aload_n 0, 1) := by decide +kernel
theorem dX1_copyFrom_12 : decode cX1_copyFrom 12 = .ok (.getfield 20, 3) := by decide +kernel
theorem dX1_copyFrom_15 : decode cX1_copyFrom 15 = .ok (.aload_n 1, 1) := by decide +kernel
theorem dX1_copyFrom_16 : decode cX1_copyFrom 16 = .ok (.getfield 20, 3) := by decide +kernel
theorem dX1_copyFrom_19 : decode cX1_copyFrom 19 = .ok (.invokevirtual 42, 3) := by decide +kernel
theorem dX1_copyFrom_22 : decode cX1_copyFrom 22 = .ok (.aload_n 0, 1) := by decide +kernel
theorem dX1_copyFrom_23 : decode cX1_copyFrom 23 = .ok (.getfield 23, 3) := by decide +kernel
theorem dX1_copyFrom_26 : decode cX1_copyFrom 26 = .ok (.aload_n 1, 1) := by decide +kernel
theorem dX1_copyFrom_27 : decode cX1_copyFrom 27 = .ok (.getfield 23, 3) := by decide +kernel
theorem dX1_copyFrom_30 : decode cX1_copyFrom 30 = .ok (.invokevirtual 42, 3) := by decide +kernel
theorem dX1_copyFrom_33 : decode cX1_copyFrom 33 = .ok (.aload_n 0, 1) := by decide +kernel
theorem dX1_copyFrom_34 : decode cX1_copyFrom 34 = .ok (.getfield 26, 3) := by decide +kernel
theorem dX1_copyFrom_37 : decode cX1_copyFrom 37 = .ok (.aload_n 1, 1) := by decide +kernel
theorem dX1_copyFrom_38 : decode cX1_copyFrom 38 = .ok (.getfield 26, 3) := by decide +kernel
theorem dX1_copyFrom_41 : decode cX1_copyFrom 41 = .ok (.invokevirtual 42, 3) := by decide +kernel
theorem dX1_copyFrom_44 : decode cX1_copyFrom 44 = .ok (.aload_n 0, 1) := by decide +kernel
theorem dX1_copyFrom_45 : decode cX1_copyFrom 45 = .ok (.getfield 29, 3) := by decide +kernel
theorem dX1_copyFrom_48 : decode cX1_copyFrom 48 = .ok (.aload_n 1, 1) := by decide +kernel
theorem dX1_copyFrom_49 : decode cX1_copyFrom 49 = .ok (.getfield 29, 3) := by decide +kernel
theorem dX1_copyFrom_52 : decode cX1_copyFrom 52 = .ok (.invokevirtual 42, 3) := by decide +kernel
theorem dX1_copyFrom_55 : decode cX1_copyFrom 55 = .ok (.aload_n 0, 1) := by decide +kernel
theorem dX1_copyFrom_56 : decode cX1_copyFrom 56 = .ok (.getfield 32, 3) := by decide +kernel
theorem dX1_copyFrom_59 : decode cX1_copyFrom 59 = .ok (.aload_n 1, 1) := by decide +kernel
theorem dX1_copyFrom_60 : decode cX1_copyFrom 60 = .ok (.getfield 32, 3) := by decide +kernel
theorem dX1_copyFrom_63 : decode cX1_copyFrom 63 = .ok (.invokevirtual 42, 3) := by decide +kernel
theorem dX1_copyFrom_66 : decode cX1_copyFrom 66 = .ok (.aload_n 0, 1) := by decide +kernel
theorem dX1_copyFrom_67 : decode cX1_copyFrom 67 = .ok (.getfield 35, 3) := by decide +kernel
theorem dX1_copyFrom_70 : decode cX1_copyFrom 70 = .ok (.aload_n 1, 1) := by decide +kernel
theorem dX1_copyFrom_71 : decode cX1_copyFrom 71 = .ok (.getfield 35, 3) := by decide +kernel
theorem dX1_copyFrom_74 : decode cX1_copyFrom 74 = .ok (.invokevirtual 42, 3) := by decide +kernel
theorem dX1_copyFrom_77 : decode cX1_copyFrom 77 = .ok (.aload_n 0, 1) := by decide +kernel
theorem dX1_copyFrom_78 : decode cX1_copyFrom 78 = .ok (.aload_n 1, 1) := by decide +kernel
theorem dX1_copyFrom_79 : decode cX1_copyFrom 79 = .ok (.getfield 46, 3) := by decide +kernel
theorem dX1_copyFrom_82 : decode cX1_copyFrom 82 = .ok (.putfield 46, 3) := by decide +kernel
theorem dX1_copyFrom_85 : decode cX1_copyFrom 85 = .ok (.aload_n 0, 1) := by decide +kernel
theorem dX1_copyFrom_86 : decode cX1_copyFrom 86 = .ok (.aload_n 1, 1) := by decide +kernel
theorem dX1_copyFrom_87 : decode cX1_copyFrom 87 = .ok (.getfield 50, 3) := by decide +kernel
theorem dX1_copyFrom_90 : decode cX1_copyFrom 90 = .ok (.putfield 50, 3) := by decide +kernel
theorem dX1_copyFrom_93 : decode cX1_copyFrom 93 = .ok (.aload_n 0, 1) := by decide +kernel
theorem dX1_copyFrom_94 : decode cX1_copyFrom 94 = .ok (.aload_n 1, 1) := by decide +kernel
theorem dX1_copyFrom_95 : decode cX1_copyFrom 95 = .ok (.getfield 53, 3) := by decide +kernel
theorem dX1_copyFrom_98 : decode cX1_copyFrom 98 = .ok (.putfield 53, 3) := by decide +kernel
theorem dX1_copyFrom_101 : decode cX1_copyFrom 101 = .ok (.return_, 1) := by decide +kernel
theorem dX1_nodesGiven_0 : decode cX1_nodesGiven 0 = .ok (.aload_n 0, 1) := by decide +kernel
theorem dX1_nodesGiven_1 : decode cX1_nodesGiven 1 = .ok (.getfield 46, 3) := by decide +kernel
theorem dX1_nodesGiven_4 : decode cX1_nodesGiven 4 = .ok (.ireturn, 1) := by decide +kernel
set_option maxRecDepth 20000 in
theorem ggX1_sortOf_X0_at : GoodIn wsX1_sortOf wsX0_at := goodIn_r _ [6, 7, 18] (by decide +kernel) (by decide +kernel)
set_option maxRecDepth 20000 in
theorem gX1_sortOf_X0_at : GoodIn wsX1_sortOf (wsV RX1 56 RX0 yX0_at wsX0_at) := goodIn_app (goodIn_of _ (by decide +kernel)) ggX1_sortOf_X0_at
theorem dX1_sortOf_0 : decode cX1_sortOf 0 = .ok (.aload_n 0, 1) := by decide +kernel
theorem dX1_sortOf_1 : decode cX1_sortOf 1 = .ok (.getfield 14, 3) := by decide +kernel
theorem dX1_sortOf_4 : decode cX1_sortOf 4 = .ok (.iload_n 1, 1) := by decide +kernel
theorem dX1_sortOf_5 : decode cX1_sortOf 5 = .ok (.invokevirtual 56, 3) := by decide +kernel
theorem dX1_sortOf_8 : decode cX1_sortOf 8 = .ok (.ireturn, 1) := by decide +kernel
set_option maxRecDepth 20000 in
theorem ggX1_lesserFanin_X0_at : GoodIn wsX1_lesserFanin wsX0_at := goodIn_r _ [6, 7, 18] (by decide +kernel) (by decide +kernel)
set_option maxRecDepth 20000 in
theorem gX1_lesserFanin_X0_at : GoodIn wsX1_lesserFanin (wsV RX1 56 RX0 yX0_at wsX0_at) := goodIn_app (goodIn_of _ (by decide +kernel)) ggX1_lesserFanin_X0_at
theorem dX1_lesserFanin_0 : decode cX1_lesserFanin 0 = .ok (.aload_n 0, 1) := by decide +kernel
theorem dX1_lesserFanin_1 : decode cX1_lesserFanin 1 = .ok (.getfield 20, 3) := by decide +kernel
theorem dX1_lesserFanin_4 : decode cX1_lesserFanin 4 = .ok (.iload_n 1, 1) := by decide +kernel
theorem dX1_lesserFanin_5 : decode cX1_lesserFanin 5 = .ok (.invokevirtual 56, 3) := by decide +kernel
theorem dX1_lesserFanin_8 : decode cX1_lesserFanin 8 = .ok (.ireturn, 1) := by decide +kernel
set_option maxRecDepth 20000 in
theorem ggX1_greaterFanin_X0_at : GoodIn wsX1_greaterFanin wsX0_at := goodIn_r _ [6, 7, 18] (by decide +kernel) (by decide +kernel)
set_option maxRecDepth 20000 in
theorem gX1_greaterFanin_X0_at : GoodIn wsX1_greaterFanin (wsV RX1 56 RX0 yX0_at wsX0_at) := goodIn_app (goodIn_of _ (by decide +kernel)) ggX1_greaterFanin_X0_at
theorem dX1_greaterFanin_0 : decode cX1_greaterFanin 0 = .ok (.aload_n 0, 1) := by decide +kernel
theorem dX1_greaterFanin_1 : decode cX1_greaterFanin 1 = .ok (.getfield 23, 3) := by decide +kernel
theorem dX1_greaterFanin_4 : decode cX1_greaterFanin 4 = .ok (.iload_n 1, 1) := by decide +kernel
theorem dX1_greaterFanin_5 : decode cX1_greaterFanin 5 = .ok (.invokevirtual 56, 3) := by decide +kernel
theorem dX1_greaterFanin_8 : decode cX1_greaterFanin 8 = .ok (.ireturn, 1) := by decide +kernel
set_option maxRecDepth 20000 in
theorem ggX1_nextLiteral_X0_at : GoodIn wsX1_nextLiteral wsX0_at := goodIn_r _ [6, 7, 18] (by decide +kernel) (by decide +kernel)
set_option maxRecDepth 20000 in
theorem gX1_nextLiteral_X0_at : GoodIn wsX1_nextLiteral (wsV RX1 56 RX0 yX0_at wsX0_at) := goodIn_app (goodIn_of _ (by decide +kernel)) ggX1_nextLiteral_X0_at
theorem dX1_nextLiteral_0 : decode cX1_nextLiteral 0 = .ok (.aload_n 0, 1) := by decide +kernel
theorem dX1_nextLiteral_1 : decode cX1_nextLiteral 1 = .ok (.getfield 26, 3) := by decide +kernel
theorem dX1_nextLiteral_4 : decode cX1_nextLiteral 4 = .ok (.iload_n 1, 1) := by decide +kernel
theorem dX1_nextLiteral_5 : decode cX1_nextLiteral 5 = .ok (.invokevirtual 56, 3) := by decide +kernel
theorem dX1_nextLiteral_8 : decode cX1_nextLiteral 8 = .ok (.ireturn, 1) := by decide +kernel
set_option maxRecDepth 20000 in
theorem ggX1_standInOf_X0_at : GoodIn wsX1_standInOf wsX0_at := goodIn_r _ [6, 7, 18] (by decide +kernel) (by decide +kernel)
set_option maxRecDepth 20000 in
theorem gX1_standInOf_X0_at : GoodIn wsX1_standInOf (wsV RX1 56 RX0 yX0_at wsX0_at) := goodIn_app (goodIn_of _ (by decide +kernel)) ggX1_standInOf_X0_at
theorem dX1_standInOf_0 : decode cX1_standInOf 0 = .ok (.aload_n 0, 1) := by decide +kernel
theorem dX1_standInOf_1 : decode cX1_standInOf 1 = .ok (.getfield 29, 3) := by decide +kernel
theorem dX1_standInOf_4 : decode cX1_standInOf 4 = .ok (.iload_n 1, 1) := by decide +kernel
theorem dX1_standInOf_5 : decode cX1_standInOf 5 = .ok (.invokevirtual 56, 3) := by decide +kernel
theorem dX1_standInOf_8 : decode cX1_standInOf 8 = .ok (.ireturn, 1) := by decide +kernel
set_option maxRecDepth 20000 in
theorem ggX1_howMany_X0_at : GoodIn wsX1_howMany wsX0_at := goodIn_r _ [7, 8, 19] (by decide +kernel) (by decide +kernel)
set_option maxRecDepth 20000 in
theorem gX1_howMany_X0_at : GoodIn wsX1_howMany (wsV RX1 56 RX0 yX0_at wsX0_at) := goodIn_app (goodIn_of _ (by decide +kernel)) ggX1_howMany_X0_at
theorem dX1_howMany_0 : decode cX1_howMany 0 = .ok (.iconst 0, 1) := by decide +kernel
theorem dX1_howMany_1 : decode cX1_howMany 1 = .ok (.istore_n 2, 1) := by decide +kernel
theorem dX1_howMany_2 : decode cX1_howMany 2 = .ok (.iconst 0, 1) := by decide +kernel
theorem dX1_howMany_3 : decode cX1_howMany 3 = .ok (.istore_n 3, 1) := by decide +kernel
theorem dX1_howMany_4 : decode cX1_howMany 4 = .ok (.iload_n 3, 1) := by decide +kernel
theorem dX1_howMany_5 : decode cX1_howMany 5 = .ok (.aload_n 0, 1) := by decide +kernel
theorem dX1_howMany_6 : decode cX1_howMany 6 = .ok (.getfield 46, 3) := by decide +kernel
theorem dX1_howMany_9 : decode cX1_howMany 9 = .ok (.if_icmp .ge 29, 3) := by decide +kernel
theorem dX1_howMany_12 : decode cX1_howMany 12 = .ok (.iload_n 2, 1) := by decide +kernel
theorem dX1_howMany_13 : decode cX1_howMany 13 = .ok (.aload_n 0, 1) := by decide +kernel
theorem dX1_howMany_14 : decode cX1_howMany 14 = .ok (.getfield 14, 3) := by decide +kernel
theorem dX1_howMany_17 : decode cX1_howMany 17 = .ok (.iload_n 3, 1) := by decide +kernel
theorem dX1_howMany_18 : decode cX1_howMany 18 = .ok (.invokevirtual 56, 3) := by decide +kernel
theorem dX1_howMany_21 : decode cX1_howMany 21 = .ok (.iload_n 1, 1) := by decide +kernel
theorem dX1_howMany_22 : decode cX1_howMany 22 = .ok (.if_icmp .ne 7, 3) := by decide +kernel
theorem dX1_howMany_25 : decode cX1_howMany 25 = .ok (.iconst 1, 1) := by decide +kernel
theorem dX1_howMany_26 : decode cX1_howMany 26 = .ok (.goto 4, 3) := by decide +kernel
theorem dX1_howMany_29 : decode cX1_howMany 29 = .ok (.iconst 0, 1) := by decide +kernel
theorem dX1_howMany_30 : decode cX1_howMany 30 = .ok (.iadd, 1) := by decide +kernel
theorem dX1_howMany_31 : decode cX1_howMany 31 = .ok (.istore_n 2, 1) := by decide +kernel
theorem dX1_howMany_32 : decode cX1_howMany 32 = .ok (.iinc 3 1, 3) := by decide +kernel
theorem dX1_howMany_35 : decode cX1_howMany 35 = .ok (.goto (-31), 3) := by decide +kernel
theorem dX1_howMany_38 : decode cX1_howMany 38 = .ok (.iload_n 2, 1) := by decide +kernel
theorem dX1_howMany_39 : decode cX1_howMany 39 = .ok (.ireturn, 1) := by decide +kernel
set_option maxRecDepth 20000 in
theorem ggX1_addNode_X0_put : GoodIn wsX1_addNode wsX0_put := goodIn_r _ [11, 12, 23] (by decide +kernel) (by decide +kernel)
set_option maxRecDepth 20000 in
theorem gX1_addNode_X0_put : GoodIn wsX1_addNode (wsV RX1 59 RX0 yX0_put wsX0_put) := goodIn_app (goodIn_of _ (by decide +kernel)) ggX1_addNode_X0_put
theorem dX1_addNode_0 : decode cX1_addNode 0 = .ok (.aload_n 0, 1) := by decide +kernel
theorem dX1_addNode_1 : decode cX1_addNode 1 = .ok (.getfield 46, 3) := by decide +kernel
theorem dX1_addNode_4 : decode cX1_addNode 4 = .ok (.istore_n 2, 1) := by decide +kernel
theorem dX1_addNode_5 : decode cX1_addNode 5 = .ok (.aload_n 0, 1) := by decide +kernel
theorem dX1_addNode_6 : decode cX1_addNode 6 = .ok (.getfield 14, 3) := by decide +kernel
theorem dX1_addNode_9 : decode cX1_addNode 9 = .ok (.iload_n 2, 1) := by decide +kernel
theorem dX1_addNode_10 : decode cX1_addNode 10 = .ok (.iload_n 1, 1) := by decide +kernel
theorem dX1_addNode_11 : decode cX1_addNode 11 = .ok (.invokevirtual 59, 3) := by decide +kernel
theorem dX1_addNode_14 : decode cX1_addNode 14 = .ok (.aload_n 0, 1) := by decide +kernel
theorem dX1_addNode_15 : decode cX1_addNode 15 = .ok (.getfield 20, 3) := by decide +kernel
theorem dX1_addNode_18 : decode cX1_addNode 18 = .ok (.iload_n 2, 1) := by decide +kernel
theorem dX1_addNode_19 : decode cX1_addNode 19 = .ok (.iconst (-1), 1) := by decide +kernel
theorem dX1_addNode_20 : decode cX1_addNode 20 = .ok (.invokevirtual 59, 3) := by decide +kernel
theorem dX1_addNode_23 : decode cX1_addNode 23 = .ok (.aload_n 0, 1) := by decide +kernel
theorem dX1_addNode_24 : decode cX1_addNode 24 = .ok (.getfield 23, 3) := by decide +kernel
theorem dX1_addNode_27 : decode cX1_addNode 27 = .ok (.iload_n 2, 1) := by decide +kernel
theorem dX1_addNode_28 : decode cX1_addNode 28 = .ok (.iconst (-1), 1) := by decide +kernel
theorem dX1_addNode_29 : decode cX1_addNode 29 = .ok (.invokevirtual 59, 3) := by decide +kernel
theorem dX1_addNode_32 : decode cX1_addNode 32 = .ok (.aload_n 0, 1) := by decide +kernel
theorem dX1_addNode_33 : decode cX1_addNode 33 = .ok (.getfield 26, 3) := by decide +kernel
theorem dX1_addNode_36 : decode cX1_addNode 36 = .ok (.iload_n 2, 1) := by decide +kernel
theorem dX1_addNode_37 : decode cX1_addNode 37 = .ok (.iconst (-1), 1) := by decide +kernel
theorem dX1_addNode_38 : decode cX1_addNode 38 = .ok (.invokevirtual 59, 3) := by decide +kernel
theorem dX1_addNode_41 : decode cX1_addNode 41 = .ok (.aload_n 0, 1) := by decide +kernel
theorem dX1_addNode_42 : decode cX1_addNode 42 = .ok (.getfield 29, 3) := by decide +kernel
theorem dX1_addNode_45 : decode cX1_addNode 45 = .ok (.iload_n 2, 1) := by decide +kernel
theorem dX1_addNode_46 : decode cX1_addNode 46 = .ok (.iconst (-1), 1) := by decide +kernel
theorem dX1_addNode_47 : decode cX1_addNode 47 = .ok (.invokevirtual 59, 3) := by decide +kernel
theorem dX1_addNode_50 : decode cX1_addNode 50 = .ok (.aload_n 0, 1) := by decide +kernel
theorem dX1_addNode_51 : decode cX1_addNode 51 = .ok (.dup, 1) := by decide +kernel
theorem dX1_addNode_52 : decode cX1_addNode 52 = .ok (.getfield 46, 3) := by decide +kernel
theorem dX1_addNode_55 : decode cX1_addNode 55 = .ok (.iconst 1, 1) := by decide +kernel
theorem dX1_addNode_56 : decode cX1_addNode 56 = .ok (.iadd, 1) := by decide +kernel
theorem dX1_addNode_57 : decode cX1_addNode 57 = .ok (.putfield 46, 3) := by decide +kernel
theorem dX1_addNode_60 : decode cX1_addNode 60 = .ok (.iload_n 2, 1) := by decide +kernel
theorem dX1_addNode_61 : decode cX1_addNode 61 = .ok (.ireturn, 1) := by decide +kernel
set_option maxRecDepth 20000 in
theorem ggX1_giveFanins_X0_put : GoodIn wsX1_giveFanins wsX0_put := goodIn_r _ [14, 15, 26] (by decide +kernel) (by decide +kernel)
set_option maxRecDepth 20000 in
theorem gX1_giveFanins_X0_put : GoodIn wsX1_giveFanins (wsV RX1 59 RX0 yX0_put wsX0_put) := goodIn_app (goodIn_of _ (by decide +kernel)) ggX1_giveFanins_X0_put
theorem dX1_giveFanins_0 : decode cX1_giveFanins 0 = .ok (.aload_n 0, 1) := by decide +kernel
theorem dX1_giveFanins_1 : decode cX1_giveFanins 1 = .ok (.getfield 20, 3) := by decide +kernel
theorem dX1_giveFanins_4 : decode cX1_giveFanins 4 = .ok (.iload_n 1, 1) := by decide +kernel
theorem dX1_giveFanins_5 : decode cX1_giveFanins 5 = .ok (.iload_n 2, 1) := by decide +kernel
theorem dX1_giveFanins_6 : decode cX1_giveFanins 6 = .ok (.iload_n 3, 1) := by decide +kernel
theorem dX1_giveFanins_7 : decode cX1_giveFanins 7 = .ok (.invokestatic 63, 3) := by decide +kernel
theorem dX1_giveFanins_10 : decode cX1_giveFanins 10 = .ok (.invokevirtual 59, 3) := by decide +kernel
theorem dX1_giveFanins_13 : decode cX1_giveFanins 13 = .ok (.aload_n 0, 1) := by decide +kernel
theorem dX1_giveFanins_14 : decode cX1_giveFanins 14 = .ok (.getfield 23, 3) := by decide +kernel
theorem dX1_giveFanins_17 : decode cX1_giveFanins 17 = .ok (.iload_n 1, 1) := by decide +kernel
theorem dX1_giveFanins_18 : decode cX1_giveFanins 18 = .ok (.iload_n 2, 1) := by decide +kernel
theorem dX1_giveFanins_19 : decode cX1_giveFanins 19 = .ok (.iload_n 3, 1) := by decide +kernel
theorem dX1_giveFanins_20 : decode cX1_giveFanins 20 = .ok (.invokestatic 69, 3) := by decide +kernel
theorem dX1_giveFanins_23 : decode cX1_giveFanins 23 = .ok (.invokevirtual 59, 3) := by decide +kernel
theorem dX1_giveFanins_26 : decode cX1_giveFanins 26 = .ok (.return_, 1) := by decide +kernel
set_option maxRecDepth 20000 in
theorem ggX1_giveNext_X0_put : GoodIn wsX1_giveNext wsX0_put := goodIn_r _ [6, 7, 18] (by decide +kernel) (by decide +kernel)
set_option maxRecDepth 20000 in
theorem gX1_giveNext_X0_put : GoodIn wsX1_giveNext (wsV RX1 59 RX0 yX0_put wsX0_put) := goodIn_app (goodIn_of _ (by decide +kernel)) ggX1_giveNext_X0_put
theorem dX1_giveNext_0 : decode cX1_giveNext 0 = .ok (.aload_n 0, 1) := by decide +kernel
theorem dX1_giveNext_1 : decode cX1_giveNext 1 = .ok (.getfield 26, 3) := by decide +kernel
theorem dX1_giveNext_4 : decode cX1_giveNext 4 = .ok (.iload_n 1, 1) := by decide +kernel
theorem dX1_giveNext_5 : decode cX1_giveNext 5 = .ok (.iload_n 2, 1) := by decide +kernel
theorem dX1_giveNext_6 : decode cX1_giveNext 6 = .ok (.invokevirtual 59, 3) := by decide +kernel
theorem dX1_giveNext_9 : decode cX1_giveNext 9 = .ok (.return_, 1) := by decide +kernel
set_option maxRecDepth 20000 in
theorem ggX1_makeGone_X0_put : GoodIn wsX1_makeGone wsX0_put := goodIn_r _ [9, 10, 21] (by decide +kernel) (by decide +kernel)
set_option maxRecDepth 20000 in
theorem gX1_makeGone_X0_put : GoodIn wsX1_makeGone (wsV RX1 59 RX0 yX0_put wsX0_put) := goodIn_app (goodIn_of _ (by decide +kernel)) ggX1_makeGone_X0_put
theorem dX1_makeGone_0 : decode cX1_makeGone 0 = .ok (.aload_n 0, 1) := by decide +kernel
theorem dX1_makeGone_1 : decode cX1_makeGone 1 = .ok (.getfield 14, 3) := by decide +kernel
theorem dX1_makeGone_4 : decode cX1_makeGone 4 = .ok (.iload_n 1, 1) := by decide +kernel
theorem dX1_makeGone_5 : decode cX1_makeGone 5 = .ok (.iconst 5, 1) := by decide +kernel
theorem dX1_makeGone_6 : decode cX1_makeGone 6 = .ok (.invokevirtual 59, 3) := by decide +kernel
theorem dX1_makeGone_9 : decode cX1_makeGone 9 = .ok (.aload_n 0, 1) := by decide +kernel
theorem dX1_makeGone_10 : decode cX1_makeGone 10 = .ok (.getfield 20, 3) := by decide +kernel
theorem dX1_makeGone_13 : decode cX1_makeGone 13 = .ok (.iload_n 1, 1) := by decide +kernel
theorem dX1_makeGone_14 : decode cX1_makeGone 14 = .ok (.iconst (-1), 1) := by decide +kernel
theorem dX1_makeGone_15 : decode cX1_makeGone 15 = .ok (.invokevirtual 59, 3) := by decide +kernel
theorem dX1_makeGone_18 : decode cX1_makeGone 18 = .ok (.aload_n 0, 1) := by decide +kernel
theorem dX1_makeGone_19 : decode cX1_makeGone 19 = .ok (.getfield 23, 3) := by decide +kernel
theorem dX1_makeGone_22 : decode cX1_makeGone 22 = .ok (.iload_n 1, 1) := by decide +kernel
theorem dX1_makeGone_23 : decode cX1_makeGone 23 = .ok (.iconst (-1), 1) := by decide +kernel
theorem dX1_makeGone_24 : decode cX1_makeGone 24 = .ok (.invokevirtual 59, 3) := by decide +kernel
theorem dX1_makeGone_27 : decode cX1_makeGone 27 = .ok (.aload_n 0, 1) := by decide +kernel
theorem dX1_makeGone_28 : decode cX1_makeGone 28 = .ok (.getfield 29, 3) := by decide +kernel
theorem dX1_makeGone_31 : decode cX1_makeGone 31 = .ok (.iload_n 1, 1) := by decide +kernel
theorem dX1_makeGone_32 : decode cX1_makeGone 32 = .ok (.iload_n 2, 1) := by decide +kernel
theorem dX1_makeGone_33 : decode cX1_makeGone 33 = .ok (.invokevirtual 59, 3) := by decide +kernel
theorem dX1_makeGone_36 : decode cX1_makeGone 36 = .ok (.return_, 1) := by decide +kernel
theorem dX1_outputsGiven_0 : decode cX1_outputsGiven 0 = .ok (.aload_n 0, 1) := by decide +kernel
theorem dX1_outputsGiven_1 : decode cX1_outputsGiven 1 = .ok (.getfield 50, 3) := by decide +kernel
theorem dX1_outputsGiven_4 : decode cX1_outputsGiven 4 = .ok (.ireturn, 1) := by decide +kernel
set_option maxRecDepth 20000 in
theorem ggX1_outputLiteral_X0_at : GoodIn wsX1_outputLiteral wsX0_at := goodIn_r _ [6, 7, 18] (by decide +kernel) (by decide +kernel)
set_option maxRecDepth 20000 in
theorem gX1_outputLiteral_X0_at : GoodIn wsX1_outputLiteral (wsV RX1 56 RX0 yX0_at wsX0_at) := goodIn_app (goodIn_of _ (by decide +kernel)) ggX1_outputLiteral_X0_at
theorem dX1_outputLiteral_0 : decode cX1_outputLiteral 0 = .ok (.aload_n 0, 1) := by decide +kernel
theorem dX1_outputLiteral_1 : decode cX1_outputLiteral 1 = .ok (.getfield 32, 3) := by decide +kernel
theorem dX1_outputLiteral_4 : decode cX1_outputLiteral 4 = .ok (.iload_n 1, 1) := by decide +kernel
theorem dX1_outputLiteral_5 : decode cX1_outputLiteral 5 = .ok (.invokevirtual 56, 3) := by decide +kernel
theorem dX1_outputLiteral_8 : decode cX1_outputLiteral 8 = .ok (.ireturn, 1) := by decide +kernel
set_option maxRecDepth 20000 in
theorem ggX1_isBoxed_X0_at : GoodIn wsX1_isBoxed wsX0_at := goodIn_r _ [6, 7, 18] (by decide +kernel) (by decide +kernel)
set_option maxRecDepth 20000 in
theorem gX1_isBoxed_X0_at : GoodIn wsX1_isBoxed (wsV RX1 56 RX0 yX0_at wsX0_at) := goodIn_app (goodIn_of _ (by decide +kernel)) ggX1_isBoxed_X0_at
theorem dX1_isBoxed_0 : decode cX1_isBoxed 0 = .ok (.aload_n 0, 1) := by decide +kernel
theorem dX1_isBoxed_1 : decode cX1_isBoxed 1 = .ok (.getfield 35, 3) := by decide +kernel
theorem dX1_isBoxed_4 : decode cX1_isBoxed 4 = .ok (.iload_n 1, 1) := by decide +kernel
theorem dX1_isBoxed_5 : decode cX1_isBoxed 5 = .ok (.invokevirtual 56, 3) := by decide +kernel
theorem dX1_isBoxed_8 : decode cX1_isBoxed 8 = .ok (.iconst 1, 1) := by decide +kernel
theorem dX1_isBoxed_9 : decode cX1_isBoxed 9 = .ok (.if_icmp .ne 7, 3) := by decide +kernel
theorem dX1_isBoxed_12 : decode cX1_isBoxed 12 = .ok (.iconst 1, 1) := by decide +kernel
theorem dX1_isBoxed_13 : decode cX1_isBoxed 13 = .ok (.goto 4, 3) := by decide +kernel
theorem dX1_isBoxed_16 : decode cX1_isBoxed 16 = .ok (.iconst 0, 1) := by decide +kernel
theorem dX1_isBoxed_17 : decode cX1_isBoxed 17 = .ok (.ireturn, 1) := by decide +kernel
set_option maxRecDepth 20000 in
theorem ggX1_addOutput_X0_put : GoodIn wsX1_addOutput wsX0_put := goodIn_r _ [8, 9, 20] (by decide +kernel) (by decide +kernel)
set_option maxRecDepth 20000 in
theorem gX1_addOutput_X0_put : GoodIn wsX1_addOutput (wsV RX1 59 RX0 yX0_put wsX0_put) := goodIn_app (goodIn_of _ (by decide +kernel)) ggX1_addOutput_X0_put
theorem dX1_addOutput_0 : decode cX1_addOutput 0 = .ok (.aload_n 0, 1) := by decide +kernel
theorem dX1_addOutput_1 : decode cX1_addOutput 1 = .ok (.getfield 50, 3) := by decide +kernel
theorem dX1_addOutput_4 : decode cX1_addOutput 4 = .ok (.istore_n 2, 1) := by decide +kernel
theorem dX1_addOutput_5 : decode cX1_addOutput 5 = .ok (.aload_n 0, 1) := by decide +kernel
theorem dX1_addOutput_6 : decode cX1_addOutput 6 = .ok (.getfield 32, 3) := by decide +kernel
theorem dX1_addOutput_9 : decode cX1_addOutput 9 = .ok (.iload_n 2, 1) := by decide +kernel
theorem dX1_addOutput_10 : decode cX1_addOutput 10 = .ok (.iload_n 1, 1) := by decide +kernel
theorem dX1_addOutput_11 : decode cX1_addOutput 11 = .ok (.invokevirtual 59, 3) := by decide +kernel
theorem dX1_addOutput_14 : decode cX1_addOutput 14 = .ok (.aload_n 0, 1) := by decide +kernel
theorem dX1_addOutput_15 : decode cX1_addOutput 15 = .ok (.getfield 35, 3) := by decide +kernel
theorem dX1_addOutput_18 : decode cX1_addOutput 18 = .ok (.iload_n 2, 1) := by decide +kernel
theorem dX1_addOutput_19 : decode cX1_addOutput 19 = .ok (.iconst 0, 1) := by decide +kernel
theorem dX1_addOutput_20 : decode cX1_addOutput 20 = .ok (.invokevirtual 59, 3) := by decide +kernel
theorem dX1_addOutput_23 : decode cX1_addOutput 23 = .ok (.aload_n 0, 1) := by decide +kernel
theorem dX1_addOutput_24 : decode cX1_addOutput 24 = .ok (.dup, 1) := by decide +kernel
theorem dX1_addOutput_25 : decode cX1_addOutput 25 = .ok (.getfield 50, 3) := by decide +kernel
theorem dX1_addOutput_28 : decode cX1_addOutput 28 = .ok (.iconst 1, 1) := by decide +kernel
theorem dX1_addOutput_29 : decode cX1_addOutput 29 = .ok (.iadd, 1) := by decide +kernel
theorem dX1_addOutput_30 : decode cX1_addOutput 30 = .ok (.putfield 50, 3) := by decide +kernel
theorem dX1_addOutput_33 : decode cX1_addOutput 33 = .ok (.iload_n 2, 1) := by decide +kernel
theorem dX1_addOutput_34 : decode cX1_addOutput 34 = .ok (.ireturn, 1) := by decide +kernel
theorem dX1_outputsToBox_0 : decode cX1_outputsToBox 0 = .ok (.aload_n 0, 1) := by decide +kernel
theorem dX1_outputsToBox_1 : decode cX1_outputsToBox 1 = .ok (.getfield 50, 3) := by decide +kernel
theorem dX1_outputsToBox_4 : decode cX1_outputsToBox 4 = .ok (.aload_n 0, 1) := by decide +kernel
theorem dX1_outputsToBox_5 : decode cX1_outputsToBox 5 = .ok (.getfield 53, 3) := by decide +kernel
theorem dX1_outputsToBox_8 : decode cX1_outputsToBox 8 = .ok (.isub, 1) := by decide +kernel
theorem dX1_outputsToBox_9 : decode cX1_outputsToBox 9 = .ok (.ireturn, 1) := by decide +kernel
set_option maxRecDepth 20000 in
theorem ggX1_boxLatest_X0_put : GoodIn wsX1_boxLatest wsX0_put := goodIn_r _ [8, 9, 20] (by decide +kernel) (by decide +kernel)
set_option maxRecDepth 20000 in
theorem gX1_boxLatest_X0_put : GoodIn wsX1_boxLatest (wsV RX1 59 RX0 yX0_put wsX0_put) := goodIn_app (goodIn_of _ (by decide +kernel)) ggX1_boxLatest_X0_put
theorem dX1_boxLatest_0 : decode cX1_boxLatest 0 = .ok (.aload_n 0, 1) := by decide +kernel
theorem dX1_boxLatest_1 : decode cX1_boxLatest 1 = .ok (.getfield 50, 3) := by decide +kernel
theorem dX1_boxLatest_4 : decode cX1_boxLatest 4 = .ok (.iload_n 1, 1) := by decide +kernel
theorem dX1_boxLatest_5 : decode cX1_boxLatest 5 = .ok (.isub, 1) := by decide +kernel
theorem dX1_boxLatest_6 : decode cX1_boxLatest 6 = .ok (.istore_n 2, 1) := by decide +kernel
theorem dX1_boxLatest_7 : decode cX1_boxLatest 7 = .ok (.iload_n 2, 1) := by decide +kernel
theorem dX1_boxLatest_8 : decode cX1_boxLatest 8 = .ok (.aload_n 0, 1) := by decide +kernel
theorem dX1_boxLatest_9 : decode cX1_boxLatest 9 = .ok (.getfield 50, 3) := by decide +kernel
theorem dX1_boxLatest_12 : decode cX1_boxLatest 12 = .ok (.if_icmp .ge 18, 3) := by decide +kernel
theorem dX1_boxLatest_15 : decode cX1_boxLatest 15 = .ok (.aload_n 0, 1) := by decide +kernel
theorem dX1_boxLatest_16 : decode cX1_boxLatest 16 = .ok (.getfield 35, 3) := by decide +kernel
theorem dX1_boxLatest_19 : decode cX1_boxLatest 19 = .ok (.iload_n 2, 1) := by decide +kernel
theorem dX1_boxLatest_20 : decode cX1_boxLatest 20 = .ok (.iconst 1, 1) := by decide +kernel
theorem dX1_boxLatest_21 : decode cX1_boxLatest 21 = .ok (.invokevirtual 59, 3) := by decide +kernel
theorem dX1_boxLatest_24 : decode cX1_boxLatest 24 = .ok (.iinc 2 1, 3) := by decide +kernel
theorem dX1_boxLatest_27 : decode cX1_boxLatest 27 = .ok (.goto (-20), 3) := by decide +kernel
theorem dX1_boxLatest_30 : decode cX1_boxLatest 30 = .ok (.iload_n 1, 1) := by decide +kernel
theorem dX1_boxLatest_31 : decode cX1_boxLatest 31 = .ok (.ifCond .le 11, 3) := by decide +kernel
theorem dX1_boxLatest_34 : decode cX1_boxLatest 34 = .ok (.aload_n 0, 1) := by decide +kernel
theorem dX1_boxLatest_35 : decode cX1_boxLatest 35 = .ok (.aload_n 0, 1) := by decide +kernel
theorem dX1_boxLatest_36 : decode cX1_boxLatest 36 = .ok (.getfield 50, 3) := by decide +kernel
theorem dX1_boxLatest_39 : decode cX1_boxLatest 39 = .ok (.putfield 53, 3) := by decide +kernel
theorem dX1_boxLatest_42 : decode cX1_boxLatest 42 = .ok (.return_, 1) := by decide +kernel
set_option maxRecDepth 20000 in
theorem ggX1_usesOf_X0_at : GoodIn wsX1_usesOf wsX0_at := goodIn_r _ [11, 12, 26] (by decide +kernel) (by decide +kernel)
set_option maxRecDepth 20000 in
theorem gX1_usesOf_X0_at : GoodIn wsX1_usesOf (wsV RX1 56 RX0 yX0_at wsX0_at) := goodIn_app (goodIn_of _ (by decide +kernel)) ggX1_usesOf_X0_at
set_option maxRecDepth 20000 in
theorem ggX1_usesOf_X6_nodeOf : GoodIn wsX1_usesOf wsX6_nodeOf := goodIn_r _ [15] (by decide +kernel) (by decide +kernel)
set_option maxRecDepth 20000 in
theorem gX1_usesOf_X6_nodeOf_n72 : GoodIn wsX1_usesOf (wsX6_nodeOf) := ggX1_usesOf_X6_nodeOf
theorem dX1_usesOf_0 : decode cX1_usesOf 0 = .ok (.iconst 0, 1) := by decide +kernel
theorem dX1_usesOf_1 : decode cX1_usesOf 1 = .ok (.istore_n 2, 1) := by decide +kernel
theorem dX1_usesOf_2 : decode cX1_usesOf 2 = .ok (.iconst 0, 1) := by decide +kernel
theorem dX1_usesOf_3 : decode cX1_usesOf 3 = .ok (.istore_n 3, 1) := by decide +kernel
theorem dX1_usesOf_4 : decode cX1_usesOf 4 = .ok (.iload_n 3, 1) := by decide +kernel
theorem dX1_usesOf_5 : decode cX1_usesOf 5 = .ok (.aload_n 0, 1) := by decide +kernel
theorem dX1_usesOf_6 : decode cX1_usesOf 6 = .ok (.getfield 46, 3) := by decide +kernel
theorem dX1_usesOf_9 : decode cX1_usesOf 9 = .ok (.if_icmp .ge 78, 3) := by decide +kernel
theorem dX1_usesOf_12 : decode cX1_usesOf 12 = .ok (.iload_n 2, 1) := by decide +kernel
theorem dX1_usesOf_13 : decode cX1_usesOf 13 = .ok (.aload_n 0, 1) := by decide +kernel
theorem dX1_usesOf_14 : decode cX1_usesOf 14 = .ok (.getfield 20, 3) := by decide +kernel
theorem dX1_usesOf_17 : decode cX1_usesOf 17 = .ok (.iload_n 3, 1) := by decide +kernel
theorem dX1_usesOf_18 : decode cX1_usesOf 18 = .ok (.invokevirtual 56, 3) := by decide +kernel
theorem dX1_usesOf_21 : decode cX1_usesOf 21 = .ok (.invokestatic 72, 3) := by decide +kernel
theorem dX1_usesOf_24 : decode cX1_usesOf 24 = .ok (.iload_n 1, 1) := by decide +kernel
theorem dX1_usesOf_25 : decode cX1_usesOf 25 = .ok (.if_icmp .ne 7, 3) := by decide +kernel
theorem dX1_usesOf_28 : decode cX1_usesOf 28 = .ok (.iconst 1, 1) := by decide +kernel
theorem dX1_usesOf_29 : decode cX1_usesOf 29 = .ok (.goto 4, 3) := by decide +kernel
theorem dX1_usesOf_32 : decode cX1_usesOf 32 = .ok (.iconst 0, 1) := by decide +kernel
theorem dX1_usesOf_33 : decode cX1_usesOf 33 = .ok (.iadd, 1) := by decide +kernel
theorem dX1_usesOf_34 : decode cX1_usesOf 34 = .ok (.istore_n 2, 1) := by decide +kernel
theorem dX1_usesOf_35 : decode cX1_usesOf 35 = .ok (.iload_n 2, 1) := by decide +kernel
theorem dX1_usesOf_36 : decode cX1_usesOf 36 = .ok (.aload_n 0, 1) := by decide +kernel
theorem dX1_usesOf_37 : decode cX1_usesOf 37 = .ok (.getfield 23, 3) := by decide +kernel
theorem dX1_usesOf_40 : decode cX1_usesOf 40 = .ok (.iload_n 3, 1) := by decide +kernel
theorem dX1_usesOf_41 : decode cX1_usesOf 41 = .ok (.invokevirtual 56, 3) := by decide +kernel
theorem dX1_usesOf_44 : decode cX1_usesOf 44 = .ok (.invokestatic 72, 3) := by decide +kernel
theorem dX1_usesOf_47 : decode cX1_usesOf 47 = .ok (.iload_n 1, 1) := by decide +kernel
theorem dX1_usesOf_48 : decode cX1_usesOf 48 = .ok (.if_icmp .ne 7, 3) := by decide +kernel
theorem dX1_usesOf_51 : decode cX1_usesOf 51 = .ok (.iconst 1, 1) := by decide +kernel
theorem dX1_usesOf_52 : decode cX1_usesOf 52 = .ok (.goto 4, 3) := by decide +kernel
theorem dX1_usesOf_55 : decode cX1_usesOf 55 = .ok (.iconst 0, 1) := by decide +kernel
theorem dX1_usesOf_56 : decode cX1_usesOf 56 = .ok (.iadd, 1) := by decide +kernel
theorem dX1_usesOf_57 : decode cX1_usesOf 57 = .ok (.istore_n 2, 1) := by decide +kernel
theorem dX1_usesOf_58 : decode cX1_usesOf 58 = .ok (.iload_n 2, 1) := by decide +kernel
theorem dX1_usesOf_59 : decode cX1_usesOf 59 = .ok (.aload_n 0, 1) := by decide +kernel
theorem dX1_usesOf_60 : decode cX1_usesOf 60 = .ok (.getfield 26, 3) := by decide +kernel
theorem dX1_usesOf_63 : decode cX1_usesOf 63 = .ok (.iload_n 3, 1) := by decide +kernel
theorem dX1_usesOf_64 : decode cX1_usesOf 64 = .ok (.invokevirtual 56, 3) := by decide +kernel
theorem dX1_usesOf_67 : decode cX1_usesOf 67 = .ok (.invokestatic 72, 3) := by decide +kernel
theorem dX1_usesOf_70 : decode cX1_usesOf 70 = .ok (.iload_n 1, 1) := by decide +kernel
theorem dX1_usesOf_71 : decode cX1_usesOf 71 = .ok (.if_icmp .ne 7, 3) := by decide +kernel
theorem dX1_usesOf_74 : decode cX1_usesOf 74 = .ok (.iconst 1, 1) := by decide +kernel
theorem dX1_usesOf_75 : decode cX1_usesOf 75 = .ok (.goto 4, 3) := by decide +kernel
theorem dX1_usesOf_78 : decode cX1_usesOf 78 = .ok (.iconst 0, 1) := by decide +kernel
theorem dX1_usesOf_79 : decode cX1_usesOf 79 = .ok (.iadd, 1) := by decide +kernel
theorem dX1_usesOf_80 : decode cX1_usesOf 80 = .ok (.istore_n 2, 1) := by decide +kernel
theorem dX1_usesOf_81 : decode cX1_usesOf 81 = .ok (.iinc 3 1, 3) := by decide +kernel
theorem dX1_usesOf_84 : decode cX1_usesOf 84 = .ok (.goto (-80), 3) := by decide +kernel
theorem dX1_usesOf_87 : decode cX1_usesOf 87 = .ok (.iconst 0, 1) := by decide +kernel
theorem dX1_usesOf_88 : decode cX1_usesOf 88 = .ok (.istore_n 3, 1) := by decide +kernel
theorem dX1_usesOf_89 : decode cX1_usesOf 89 = .ok (.iload_n 3, 1) := by decide +kernel
theorem dX1_usesOf_90 : decode cX1_usesOf 90 = .ok (.aload_n 0, 1) := by decide +kernel
theorem dX1_usesOf_91 : decode cX1_usesOf 91 = .ok (.getfield 50, 3) := by decide +kernel
theorem dX1_usesOf_94 : decode cX1_usesOf 94 = .ok (.if_icmp .ge 32, 3) := by decide +kernel
theorem dX1_usesOf_97 : decode cX1_usesOf 97 = .ok (.iload_n 2, 1) := by decide +kernel
theorem dX1_usesOf_98 : decode cX1_usesOf 98 = .ok (.aload_n 0, 1) := by decide +kernel
theorem dX1_usesOf_99 : decode cX1_usesOf 99 = .ok (.getfield 32, 3) := by decide +kernel
theorem dX1_usesOf_102 : decode cX1_usesOf 102 = .ok (.iload_n 3, 1) := by decide +kernel
theorem dX1_usesOf_103 : decode cX1_usesOf 103 = .ok (.invokevirtual 56, 3) := by decide +kernel
theorem dX1_usesOf_106 : decode cX1_usesOf 106 = .ok (.invokestatic 72, 3) := by decide +kernel
theorem dX1_usesOf_109 : decode cX1_usesOf 109 = .ok (.iload_n 1, 1) := by decide +kernel
theorem dX1_usesOf_110 : decode cX1_usesOf 110 = .ok (.if_icmp .ne 7, 3) := by decide +kernel
theorem dX1_usesOf_113 : decode cX1_usesOf 113 = .ok (.iconst 1, 1) := by decide +kernel
theorem dX1_usesOf_114 : decode cX1_usesOf 114 = .ok (.goto 4, 3) := by decide +kernel
theorem dX1_usesOf_117 : decode cX1_usesOf 117 = .ok (.iconst 0, 1) := by decide +kernel
theorem dX1_usesOf_118 : decode cX1_usesOf 118 = .ok (.iadd, 1) := by decide +kernel
theorem dX1_usesOf_119 : decode cX1_usesOf 119 = .ok (.istore_n 2, 1) := by decide +kernel
theorem dX1_usesOf_120 : decode cX1_usesOf 120 = .ok (.iinc 3 1, 3) := by decide +kernel
theorem dX1_usesOf_123 : decode cX1_usesOf 123 = .ok (.goto (-34), 3) := by decide +kernel
theorem dX1_usesOf_126 : decode cX1_usesOf 126 = .ok (.iload_n 2, 1) := by decide +kernel
theorem dX1_usesOf_127 : decode cX1_usesOf 127 = .ok (.ireturn, 1) := by decide +kernel
set_option maxRecDepth 20000 in
theorem ggX1_knownAnd_X6_turned : GoodIn wsX1_knownAnd wsX6_turned := goodIn_r _ [10] (by decide +kernel) (by decide +kernel)
set_option maxRecDepth 20000 in
theorem gX1_knownAnd_X6_turned_n75 : GoodIn wsX1_knownAnd (wsX6_turned) := ggX1_knownAnd_X6_turned
set_option maxRecDepth 20000 in
theorem ggX1_knownAnd_X1_standingAnd : GoodIn wsX1_knownAnd wsX1_standingAnd := goodIn_r _ [15, 16, 17, 18, 19, 20, 21, 22, 23, 24, 25, 9, 26, 27, 28, 29, 30, 31, 32, 33, 34, 35, 36, 37] (by decide +kernel) (by decide +kernel)
set_option maxRecDepth 20000 in
theorem gX1_knownAnd_X1_standingAnd : GoodIn wsX1_knownAnd (wsV RX1 78 RX1 yX1_standingAnd wsX1_standingAnd) := goodIn_app (goodIn_of _ (by decide +kernel)) ggX1_knownAnd_X1_standingAnd
theorem dX1_knownAnd_0 : decode cX1_knownAnd 0 = .ok (.iload_n 1, 1) := by decide +kernel
theorem dX1_knownAnd_1 : decode cX1_knownAnd 1 = .ok (.iload_n 2, 1) := by decide +kernel
theorem dX1_knownAnd_2 : decode cX1_knownAnd 2 = .ok (.if_icmp .ne 5, 3) := by decide +kernel
theorem dX1_knownAnd_5 : decode cX1_knownAnd 5 = .ok (.iload_n 1, 1) := by decide +kernel
theorem dX1_knownAnd_6 : decode cX1_knownAnd 6 = .ok (.ireturn, 1) := by decide +kernel
theorem dX1_knownAnd_7 : decode cX1_knownAnd 7 = .ok (.iload_n 1, 1) := by decide +kernel
theorem dX1_knownAnd_8 : decode cX1_knownAnd 8 = .ok (.iload_n 2, 1) := by decide +kernel
theorem dX1_knownAnd_9 : decode cX1_knownAnd 9 = .ok (.invokestatic 75, 3) := by decide +kernel
theorem dX1_knownAnd_12 : decode cX1_knownAnd 12 = .ok (.if_icmp .eq 11, 3) := by decide +kernel
theorem dX1_knownAnd_15 : decode cX1_knownAnd 15 = .ok (.iload_n 1, 1) := by decide +kernel
theorem dX1_knownAnd_16 : decode cX1_knownAnd 16 = .ok (.ifCond .eq 7, 3) := by decide +kernel
theorem dX1_knownAnd_19 : decode cX1_knownAnd 19 = .ok (.iload_n 2, 1) := by decide +kernel
theorem dX1_knownAnd_20 : decode cX1_knownAnd 20 = .ok (.ifCond .ne 5, 3) := by decide +kernel
theorem dX1_knownAnd_23 : decode cX1_knownAnd 23 = .ok (.iconst 0, 1) := by decide +kernel
theorem dX1_knownAnd_24 : decode cX1_knownAnd 24 = .ok (.ireturn, 1) := by decide +kernel
theorem dX1_knownAnd_25 : decode cX1_knownAnd 25 = .ok (.iload_n 1, 1) := by decide +kernel
theorem dX1_knownAnd_26 : decode cX1_knownAnd 26 = .ok (.iconst 1, 1) := by decide +kernel
theorem dX1_knownAnd_27 : decode cX1_knownAnd 27 = .ok (.if_icmp .ne 5, 3) := by decide +kernel
theorem dX1_knownAnd_30 : decode cX1_knownAnd 30 = .ok (.iload_n 2, 1) := by decide +kernel
theorem dX1_knownAnd_31 : decode cX1_knownAnd 31 = .ok (.ireturn, 1) := by decide +kernel
theorem dX1_knownAnd_32 : decode cX1_knownAnd 32 = .ok (.iload_n 2, 1) := by decide +kernel
theorem dX1_knownAnd_33 : decode cX1_knownAnd 33 = .ok (.iconst 1, 1) := by decide +kernel
theorem dX1_knownAnd_34 : decode cX1_knownAnd 34 = .ok (.if_icmp .ne 5, 3) := by decide +kernel
theorem dX1_knownAnd_37 : decode cX1_knownAnd 37 = .ok (.iload_n 1, 1) := by decide +kernel
theorem dX1_knownAnd_38 : decode cX1_knownAnd 38 = .ok (.ireturn, 1) := by decide +kernel
theorem dX1_knownAnd_39 : decode cX1_knownAnd 39 = .ok (.aload_n 0, 1) := by decide +kernel
theorem dX1_knownAnd_40 : decode cX1_knownAnd 40 = .ok (.iload_n 1, 1) := by decide +kernel
theorem dX1_knownAnd_41 : decode cX1_knownAnd 41 = .ok (.iload_n 2, 1) := by decide +kernel
theorem dX1_knownAnd_42 : decode cX1_knownAnd 42 = .ok (.invokestatic 63, 3) := by decide +kernel
theorem dX1_knownAnd_45 : decode cX1_knownAnd 45 = .ok (.iload_n 1, 1) := by decide +kernel
theorem dX1_knownAnd_46 : decode cX1_knownAnd 46 = .ok (.iload_n 2, 1) := by decide +kernel
theorem dX1_knownAnd_47 : decode cX1_knownAnd 47 = .ok (.invokestatic 69, 3) := by decide +kernel
theorem dX1_knownAnd_50 : decode cX1_knownAnd 50 = .ok (.iload_n 3, 1) := by decide +kernel
theorem dX1_knownAnd_51 : decode cX1_knownAnd 51 = .ok (.invokevirtual 78, 3) := by decide +kernel
theorem dX1_knownAnd_54 : decode cX1_knownAnd 54 = .ok (.ireturn, 1) := by decide +kernel
set_option maxRecDepth 20000 in
theorem ggX1_standingAnd_X0_at : GoodIn wsX1_standingAnd wsX0_at := goodIn_r _ [8, 9, 23] (by decide +kernel) (by decide +kernel)
set_option maxRecDepth 20000 in
theorem gX1_standingAnd_X0_at : GoodIn wsX1_standingAnd (wsV RX1 56 RX0 yX0_at wsX0_at) := goodIn_app (goodIn_of _ (by decide +kernel)) ggX1_standingAnd_X0_at
set_option maxRecDepth 20000 in
theorem ggX1_standingAnd_X6_literalOf : GoodIn wsX1_standingAnd wsX6_literalOf := goodIn_r _ [12] (by decide +kernel) (by decide +kernel)
set_option maxRecDepth 20000 in
theorem gX1_standingAnd_X6_literalOf_n82 : GoodIn wsX1_standingAnd (wsX6_literalOf) := ggX1_standingAnd_X6_literalOf
theorem dX1_standingAnd_0 : decode cX1_standingAnd 0 = .ok (.iconst 0, 1) := by decide +kernel
theorem dX1_standingAnd_1 : decode cX1_standingAnd 1 = .ok (.istore 4, 2) := by decide +kernel
theorem dX1_standingAnd_3 : decode cX1_standingAnd 3 = .ok (.iload 4, 2) := by decide +kernel
theorem dX1_standingAnd_5 : decode cX1_standingAnd 5 = .ok (.aload_n 0, 1) := by decide +kernel
theorem dX1_standingAnd_6 : decode cX1_standingAnd 6 = .ok (.getfield 46, 3) := by decide +kernel
theorem dX1_standingAnd_9 : decode cX1_standingAnd 9 = .ok (.if_icmp .ge 47, 3) := by decide +kernel
theorem dX1_standingAnd_12 : decode cX1_standingAnd 12 = .ok (.aload_n 0, 1) := by decide +kernel
theorem dX1_standingAnd_13 : decode cX1_standingAnd 13 = .ok (.getfield 20, 3) := by decide +kernel
theorem dX1_standingAnd_16 : decode cX1_standingAnd 16 = .ok (.iload 4, 2) := by decide +kernel
theorem dX1_standingAnd_18 : decode cX1_standingAnd 18 = .ok (.invokevirtual 56, 3) := by decide +kernel
theorem dX1_standingAnd_21 : decode cX1_standingAnd 21 = .ok (.iload_n 1, 1) := by decide +kernel
theorem dX1_standingAnd_22 : decode cX1_standingAnd 22 = .ok (.if_icmp .ne 28, 3) := by decide +kernel
theorem dX1_standingAnd_25 : decode cX1_standingAnd 25 = .ok (.aload_n 0, 1) := by decide +kernel
theorem dX1_standingAnd_26 : decode cX1_standingAnd 26 = .ok (.getfield 23, 3) := by decide +kernel
theorem dX1_standingAnd_29 : decode cX1_standingAnd 29 = .ok (.iload 4, 2) := by decide +kernel
theorem dX1_standingAnd_31 : decode cX1_standingAnd 31 = .ok (.invokevirtual 56, 3) := by decide +kernel
theorem dX1_standingAnd_34 : decode cX1_standingAnd 34 = .ok (.iload_n 2, 1) := by decide +kernel
theorem dX1_standingAnd_35 : decode cX1_standingAnd 35 = .ok (.if_icmp .ne 15, 3) := by decide +kernel
theorem dX1_standingAnd_38 : decode cX1_standingAnd 38 = .ok (.iload 4, 2) := by decide +kernel
theorem dX1_standingAnd_40 : decode cX1_standingAnd 40 = .ok (.iload_n 3, 1) := by decide +kernel
theorem dX1_standingAnd_41 : decode cX1_standingAnd 41 = .ok (.if_icmp .eq 9, 3) := by decide +kernel
theorem dX1_standingAnd_44 : decode cX1_standingAnd 44 = .ok (.iload 4, 2) := by decide +kernel
theorem dX1_standingAnd_46 : decode cX1_standingAnd 46 = .ok (.invokestatic 82, 3) := by decide +kernel
theorem dX1_standingAnd_49 : decode cX1_standingAnd 49 = .ok (.ireturn, 1) := by decide +kernel
theorem dX1_standingAnd_50 : decode cX1_standingAnd 50 = .ok (.iinc 4 1, 3) := by decide +kernel
theorem dX1_standingAnd_53 : decode cX1_standingAnd 53 = .ok (.goto (-50), 3) := by decide +kernel
theorem dX1_standingAnd_56 : decode cX1_standingAnd 56 = .ok (.iconst (-1), 1) := by decide +kernel
theorem dX1_standingAnd_57 : decode cX1_standingAnd 57 = .ok (.ireturn, 1) := by decide +kernel
set_option maxRecDepth 20000 in
theorem ggX1_replaceEverywhere_X1_makeGone : GoodIn wsX1_replaceEverywhere wsX1_makeGone := goodIn_r _ [10, 11, 12, 13, 14, 15, 16, 17, 18, 19, 20, 69, 70, 71, 72, 73, 74, 75, 76, 77, 78, 79] (by decide +kernel) (by decide +kernel)
set_option maxRecDepth 20000 in
theorem gX1_replaceEverywhere_X1_makeGone : GoodIn wsX1_replaceEverywhere (wsV RX1 85 RX1 yX1_makeGone wsX1_makeGone) := goodIn_app (goodIn_of _ (by decide +kernel)) ggX1_replaceEverywhere_X1_makeGone
set_option maxRecDepth 20000 in
theorem ggX1_replaceEverywhere_X1_leastOutdated : GoodIn wsX1_replaceEverywhere wsX1_leastOutdated := goodIn_r _ [24, 4, 12, 13, 25, 26, 27, 18, 28, 20, 29, 30, 31, 9, 32, 14, 33, 34, 35, 69, 70, 71, 72, 73, 74, 75, 76, 77, 78, 79] (by decide +kernel) (by decide +kernel)
set_option maxRecDepth 20000 in
theorem gX1_replaceEverywhere_X1_leastOutdated : GoodIn wsX1_replaceEverywhere (wsV RX1 88 RX1 yX1_leastOutdated wsX1_leastOutdated) := goodIn_app (goodIn_of _ (by decide +kernel)) ggX1_replaceEverywhere_X1_leastOutdated
set_option maxRecDepth 20000 in
theorem ggX1_replaceEverywhere_X1_renew : GoodIn wsX1_replaceEverywhere wsX1_renew := goodIn_r _ [39, 12, 13, 25, 26, 27, 18, 28, 20, 40, 41, 42, 9, 43, 14, 29, 30, 31, 32, 33, 34, 35, 44, 45, 46, 47, 48, 49, 50, 51, 52, 53, 54, 55, 56, 57, 58, 59, 60, 61, 62, 4, 63, 64, 6, 7, 8, 10, 11, 15, 16, 17, 19, 65, 66, 67, 68, 69, 70, 71, 72, 73, 74, 75, 76, 77, 78, 79] (by decide +kernel) (by decide +kernel)
set_option maxRecDepth 20000 in
theorem gX1_replaceEverywhere_X1_renew : GoodIn wsX1_replaceEverywhere (wsV RX1 92 RX1 yX1_renew wsX1_renew) := goodIn_app (goodIn_of _ (by decide +kernel)) ggX1_replaceEverywhere_X1_renew
set_option maxRecDepth 20000 in
theorem ggX1_replaceEverywhere_X0_at : GoodIn wsX1_replaceEverywhere wsX0_at := goodIn_r _ [28, 20, 79] (by decide +kernel) (by decide +kernel)
set_option maxRecDepth 20000 in
theorem gX1_replaceEverywhere_X0_at : GoodIn wsX1_replaceEverywhere (wsV RX1 56 RX0 yX0_at wsX0_at) := goodIn_app (goodIn_of _ (by decide +kernel)) ggX1_replaceEverywhere_X0_at
set_option maxRecDepth 20000 in
theorem ggX1_replaceEverywhere_X1_standing : GoodIn wsX1_replaceEverywhere wsX1_standing := goodIn_r _ [43, 14, 29, 30, 31, 9, 32, 33, 34, 35, 25, 26, 27, 18, 28, 20, 44, 45, 46, 47, 69, 70, 71, 72, 73, 74, 75, 76, 77, 78, 79] (by decide +kernel) (by decide +kernel)
set_option maxRecDepth 20000 in
theorem gX1_replaceEverywhere_X1_standing : GoodIn wsX1_replaceEverywhere (wsV RX1 96 RX1 yX1_standing wsX1_standing) := goodIn_app (goodIn_of _ (by decide +kernel)) ggX1_replaceEverywhere_X1_standing
set_option maxRecDepth 20000 in
theorem ggX1_replaceEverywhere_X0_put : GoodIn wsX1_replaceEverywhere wsX0_put := goodIn_r _ [19, 20, 79] (by decide +kernel) (by decide +kernel)
set_option maxRecDepth 20000 in
theorem gX1_replaceEverywhere_X0_put : GoodIn wsX1_replaceEverywhere (wsV RX1 59 RX0 yX0_put wsX0_put) := goodIn_app (goodIn_of _ (by decide +kernel)) ggX1_replaceEverywhere_X0_put
theorem dX1_replaceEverywhere_0 : decode cX1_replaceEverywhere 0 = .ok (.aload_n 0, 1) := by decide +kernel
theorem dX1_replaceEverywhere_1 : decode cX1_replaceEverywhere 1 = .ok (.iload_n 1, 1) := by decide +kernel
theorem dX1_replaceEverywhere_2 : decode cX1_replaceEverywhere 2 = .ok (.iload_n 2, 1) := by decide +kernel
theorem dX1_replaceEverywhere_3 : decode cX1_replaceEverywhere 3 = .ok (.invokevirtual 85, 3) := by decide +kernel
theorem dX1_replaceEverywhere_6 : decode cX1_replaceEverywhere 6 = .ok (.aload_n 0, 1) := by decide +kernel
theorem dX1_replaceEverywhere_7 : decode cX1_replaceEverywhere 7 = .ok (.iconst 0, 1) := by decide +kernel
theorem dX1_replaceEverywhere_8 : decode cX1_replaceEverywhere 8 = .ok (.invokevirtual 88, 3) := by decide +kernel
theorem dX1_replaceEverywhere_11 : decode cX1_replaceEverywhere 11 = .ok (.istore_n 3, 1) := by decide +kernel
theorem dX1_replaceEverywhere_12 : decode cX1_replaceEverywhere 12 = .ok (.iconst 0, 1) := by decide +kernel
theorem dX1_replaceEverywhere_13 : decode cX1_replaceEverywhere 13 = .ok (.istore 4, 2) := by decide +kernel
theorem dX1_replaceEverywhere_15 : decode cX1_replaceEverywhere 15 = .ok (.iload 4, 2) := by decide +kernel
theorem dX1_replaceEverywhere_17 : decode cX1_replaceEverywhere 17 = .ok (.ldc 91, 2) := by decide +kernel
theorem dX1_replaceEverywhere_19 : decode cX1_replaceEverywhere 19 = .ok (.if_icmp .ge 34, 3) := by decide +kernel
theorem dX1_replaceEverywhere_22 : decode cX1_replaceEverywhere 22 = .ok (.iload_n 3, 1) := by decide +kernel
theorem dX1_replaceEverywhere_23 : decode cX1_replaceEverywhere 23 = .ok (.iconst (-1), 1) := by decide +kernel
theorem dX1_replaceEverywhere_24 : decode cX1_replaceEverywhere 24 = .ok (.if_icmp .eq 29, 3) := by decide +kernel
theorem dX1_replaceEverywhere_27 : decode cX1_replaceEverywhere 27 = .ok (.aload_n 0, 1) := by decide +kernel
theorem dX1_replaceEverywhere_28 : decode cX1_replaceEverywhere 28 = .ok (.aload_n 0, 1) := by decide +kernel
theorem dX1_replaceEverywhere_29 : decode cX1_replaceEverywhere 29 = .ok (.iload_n 3, 1) := by decide +kernel
theorem dX1_replaceEverywhere_30 : decode cX1_replaceEverywhere 30 = .ok (.invokevirtual 92, 3) := by decide +kernel
theorem dX1_replaceEverywhere_33 : decode cX1_replaceEverywhere 33 = .ok (.ifCond .eq 9, 3) := by decide +kernel
theorem dX1_replaceEverywhere_36 : decode cX1_replaceEverywhere 36 = .ok (.iload_n 3, 1) := by decide +kernel
theorem dX1_replaceEverywhere_37 : decode cX1_replaceEverywhere 37 = .ok (.iconst 1, 1) := by decide +kernel
theorem dX1_replaceEverywhere_38 : decode cX1_replaceEverywhere 38 = .ok (.iadd, 1) := by decide +kernel
theorem dX1_replaceEverywhere_39 : decode cX1_replaceEverywhere 39 = .ok (.goto 4, 3) := by decide +kernel
theorem dX1_replaceEverywhere_42 : decode cX1_replaceEverywhere 42 = .ok (.iconst 0, 1) := by decide +kernel
theorem dX1_replaceEverywhere_43 : decode cX1_replaceEverywhere 43 = .ok (.invokevirtual 88, 3) := by decide +kernel
theorem dX1_replaceEverywhere_46 : decode cX1_replaceEverywhere 46 = .ok (.istore_n 3, 1) := by decide +kernel
theorem dX1_replaceEverywhere_47 : decode cX1_replaceEverywhere 47 = .ok (.iinc 4 1, 3) := by decide +kernel
theorem dX1_replaceEverywhere_50 : decode cX1_replaceEverywhere 50 = .ok (.goto (-35), 3) := by decide +kernel
theorem dX1_replaceEverywhere_53 : decode cX1_replaceEverywhere 53 = .ok (.iconst 0, 1) := by decide +kernel
theorem dX1_replaceEverywhere_54 : decode cX1_replaceEverywhere 54 = .ok (.istore 4, 2) := by decide +kernel
theorem dX1_replaceEverywhere_56 : decode cX1_replaceEverywhere 56 = .ok (.iload 4, 2) := by decide +kernel
theorem dX1_replaceEverywhere_58 : decode cX1_replaceEverywhere 58 = .ok (.aload_n 0, 1) := by decide +kernel
theorem dX1_replaceEverywhere_59 : decode cX1_replaceEverywhere 59 = .ok (.getfield 50, 3) := by decide +kernel
theorem dX1_replaceEverywhere_62 : decode cX1_replaceEverywhere 62 = .ok (.if_icmp .ge 31, 3) := by decide +kernel
theorem dX1_replaceEverywhere_65 : decode cX1_replaceEverywhere 65 = .ok (.aload_n 0, 1) := by decide +kernel
theorem dX1_replaceEverywhere_66 : decode cX1_replaceEverywhere 66 = .ok (.getfield 32, 3) := by decide +kernel
theorem dX1_replaceEverywhere_69 : decode cX1_replaceEverywhere 69 = .ok (.iload 4, 2) := by decide +kernel
theorem dX1_replaceEverywhere_71 : decode cX1_replaceEverywhere 71 = .ok (.aload_n 0, 1) := by decide +kernel
theorem dX1_replaceEverywhere_72 : decode cX1_replaceEverywhere 72 = .ok (.aload_n 0, 1) := by decide +kernel
theorem dX1_replaceEverywhere_73 : decode cX1_replaceEverywhere 73 = .ok (.getfield 32, 3) := by decide +kernel
theorem dX1_replaceEverywhere_76 : decode cX1_replaceEverywhere 76 = .ok (.iload 4, 2) := by decide +kernel
theorem dX1_replaceEverywhere_78 : decode cX1_replaceEverywhere 78 = .ok (.invokevirtual 56, 3) := by decide +kernel
theorem dX1_replaceEverywhere_81 : decode cX1_replaceEverywhere 81 = .ok (.invokevirtual 96, 3) := by decide +kernel
theorem dX1_replaceEverywhere_84 : decode cX1_replaceEverywhere 84 = .ok (.invokevirtual 59, 3) := by decide +kernel
theorem dX1_replaceEverywhere_87 : decode cX1_replaceEverywhere 87 = .ok (.iinc 4 1, 3) := by decide +kernel
theorem dX1_replaceEverywhere_90 : decode cX1_replaceEverywhere 90 = .ok (.goto (-34), 3) := by decide +kernel
theorem dX1_replaceEverywhere_93 : decode cX1_replaceEverywhere 93 = .ok (.iconst 0, 1) := by decide +kernel
theorem dX1_replaceEverywhere_94 : decode cX1_replaceEverywhere 94 = .ok (.istore 4, 2) := by decide +kernel
theorem dX1_replaceEverywhere_96 : decode cX1_replaceEverywhere 96 = .ok (.iload 4, 2) := by decide +kernel
theorem dX1_replaceEverywhere_98 : decode cX1_replaceEverywhere 98 = .ok (.aload_n 0, 1) := by decide +kernel
theorem dX1_replaceEverywhere_99 : decode cX1_replaceEverywhere 99 = .ok (.getfield 46, 3) := by decide +kernel
theorem dX1_replaceEverywhere_102 : decode cX1_replaceEverywhere 102 = .ok (.if_icmp .ge 31, 3) := by decide +kernel
theorem dX1_replaceEverywhere_105 : decode cX1_replaceEverywhere 105 = .ok (.aload_n 0, 1) := by decide +kernel
theorem dX1_replaceEverywhere_106 : decode cX1_replaceEverywhere 106 = .ok (.getfield 26, 3) := by decide +kernel
theorem dX1_replaceEverywhere_109 : decode cX1_replaceEverywhere 109 = .ok (.iload 4, 2) := by decide +kernel
theorem dX1_replaceEverywhere_111 : decode cX1_replaceEverywhere 111 = .ok (.aload_n 0, 1) := by decide +kernel
theorem dX1_replaceEverywhere_112 : decode cX1_replaceEverywhere 112 = .ok (.aload_n 0, 1) := by decide +kernel
theorem dX1_replaceEverywhere_113 : decode cX1_replaceEverywhere 113 = .ok (.getfield 26, 3) := by decide +kernel
theorem dX1_replaceEverywhere_116 : decode cX1_replaceEverywhere 116 = .ok (.iload 4, 2) := by decide +kernel
theorem dX1_replaceEverywhere_118 : decode cX1_replaceEverywhere 118 = .ok (.invokevirtual 56, 3) := by decide +kernel
theorem dX1_replaceEverywhere_121 : decode cX1_replaceEverywhere 121 = .ok (.invokevirtual 96, 3) := by decide +kernel
theorem dX1_replaceEverywhere_124 : decode cX1_replaceEverywhere 124 = .ok (.invokevirtual 59, 3) := by decide +kernel
theorem dX1_replaceEverywhere_127 : decode cX1_replaceEverywhere 127 = .ok (.iinc 4 1, 3) := by decide +kernel
theorem dX1_replaceEverywhere_130 : decode cX1_replaceEverywhere 130 = .ok (.goto (-34), 3) := by decide +kernel
theorem dX1_replaceEverywhere_133 : decode cX1_replaceEverywhere 133 = .ok (.return_, 1) := by decide +kernel
set_option maxRecDepth 20000 in
theorem ggX1_leastOutdated_X0_at : GoodIn wsX1_leastOutdated wsX0_at := goodIn_r _ [8, 9, 29] (by decide +kernel) (by decide +kernel)
set_option maxRecDepth 20000 in
theorem gX1_leastOutdated_X0_at : GoodIn wsX1_leastOutdated (wsV RX1 56 RX0 yX0_at wsX0_at) := goodIn_app (goodIn_of _ (by decide +kernel)) ggX1_leastOutdated_X0_at
set_option maxRecDepth 20000 in
theorem ggX1_leastOutdated_X1_isReplaced : GoodIn wsX1_leastOutdated wsX1_isReplaced := goodIn_r _ [14, 15, 16, 17, 18, 4, 5, 6, 7, 8, 9, 19, 20, 21, 22, 23, 24, 25, 26, 27, 28, 29] (by decide +kernel) (by decide +kernel)
set_option maxRecDepth 20000 in
theorem gX1_leastOutdated_X1_isReplaced : GoodIn wsX1_leastOutdated (wsV RX1 99 RX1 yX1_isReplaced wsX1_isReplaced) := goodIn_app (goodIn_of _ (by decide +kernel)) ggX1_leastOutdated_X1_isReplaced
theorem dX1_leastOutdated_0 : decode cX1_leastOutdated 0 = .ok (.iload_n 1, 1) := by decide +kernel
theorem dX1_leastOutdated_1 : decode cX1_leastOutdated 1 = .ok (.istore_n 2, 1) := by decide +kernel
theorem dX1_leastOutdated_2 : decode cX1_leastOutdated 2 = .ok (.iload_n 2, 1) := by decide +kernel
theorem dX1_leastOutdated_3 : decode cX1_leastOutdated 3 = .ok (.aload_n 0, 1) := by decide +kernel
theorem dX1_leastOutdated_4 : decode cX1_leastOutdated 4 = .ok (.getfield 46, 3) := by decide +kernel
theorem dX1_leastOutdated_7 : decode cX1_leastOutdated 7 = .ok (.if_icmp .ge 41, 3) := by decide +kernel
theorem dX1_leastOutdated_10 : decode cX1_leastOutdated 10 = .ok (.aload_n 0, 1) := by decide +kernel
theorem dX1_leastOutdated_11 : decode cX1_leastOutdated 11 = .ok (.aload_n 0, 1) := by decide +kernel
theorem dX1_leastOutdated_12 : decode cX1_leastOutdated 12 = .ok (.getfield 20, 3) := by decide +kernel
theorem dX1_leastOutdated_15 : decode cX1_leastOutdated 15 = .ok (.iload_n 2, 1) := by decide +kernel
theorem dX1_leastOutdated_16 : decode cX1_leastOutdated 16 = .ok (.invokevirtual 56, 3) := by decide +kernel
theorem dX1_leastOutdated_19 : decode cX1_leastOutdated 19 = .ok (.invokevirtual 99, 3) := by decide +kernel
theorem dX1_leastOutdated_22 : decode cX1_leastOutdated 22 = .ok (.ifCond .ne 18, 3) := by decide +kernel
theorem dX1_leastOutdated_25 : decode cX1_leastOutdated 25 = .ok (.aload_n 0, 1) := by decide +kernel
theorem dX1_leastOutdated_26 : decode cX1_leastOutdated 26 = .ok (.aload_n 0, 1) := by decide +kernel
theorem dX1_leastOutdated_27 : decode cX1_leastOutdated 27 = .ok (.getfield 23, 3) := by decide +kernel
theorem dX1_leastOutdated_30 : decode cX1_leastOutdated 30 = .ok (.iload_n 2, 1) := by decide +kernel
theorem dX1_leastOutdated_31 : decode cX1_leastOutdated 31 = .ok (.invokevirtual 56, 3) := by decide +kernel
theorem dX1_leastOutdated_34 : decode cX1_leastOutdated 34 = .ok (.invokevirtual 99, 3) := by decide +kernel
theorem dX1_leastOutdated_37 : decode cX1_leastOutdated 37 = .ok (.ifCond .eq 5, 3) := by decide +kernel
theorem dX1_leastOutdated_40 : decode cX1_leastOutdated 40 = .ok (.iload_n 2, 1) := by decide +kernel
theorem dX1_leastOutdated_41 : decode cX1_leastOutdated 41 = .ok (.ireturn, 1) := by decide +kernel
theorem dX1_leastOutdated_42 : decode cX1_leastOutdated 42 = .ok (.iinc 2 1, 3) := by decide +kernel
theorem dX1_leastOutdated_45 : decode cX1_leastOutdated 45 = .ok (.goto (-43), 3) := by decide +kernel
theorem dX1_leastOutdated_48 : decode cX1_leastOutdated 48 = .ok (.iconst (-1), 1) := by decide +kernel
theorem dX1_leastOutdated_49 : decode cX1_leastOutdated 49 = .ok (.ireturn, 1) := by decide +kernel
set_option maxRecDepth 20000 in
theorem ggX1_isReplaced_X6_nodeOf : GoodIn wsX1_isReplaced wsX6_nodeOf := goodIn_r _ [4] (by decide +kernel) (by decide +kernel)
set_option maxRecDepth 20000 in
theorem gX1_isReplaced_X6_nodeOf_n72 : GoodIn wsX1_isReplaced (wsX6_nodeOf) := ggX1_isReplaced_X6_nodeOf
set_option maxRecDepth 20000 in
theorem ggX1_isReplaced_X0_at : GoodIn wsX1_isReplaced wsX0_at := goodIn_r _ [9, 10, 21] (by decide +kernel) (by decide +kernel)
set_option maxRecDepth 20000 in
theorem gX1_isReplaced_X0_at : GoodIn wsX1_isReplaced (wsV RX1 56 RX0 yX0_at wsX0_at) := goodIn_app (goodIn_of _ (by decide +kernel)) ggX1_isReplaced_X0_at
theorem dX1_isReplaced_0 : decode cX1_isReplaced 0 = .ok (.aload_n 0, 1) := by decide +kernel
theorem dX1_isReplaced_1 : decode cX1_isReplaced 1 = .ok (.getfield 29, 3) := by decide +kernel
theorem dX1_isReplaced_4 : decode cX1_isReplaced 4 = .ok (.iload_n 1, 1) := by decide +kernel
theorem dX1_isReplaced_5 : decode cX1_isReplaced 5 = .ok (.invokestatic 72, 3) := by decide +kernel
theorem dX1_isReplaced_8 : decode cX1_isReplaced 8 = .ok (.invokevirtual 56, 3) := by decide +kernel
theorem dX1_isReplaced_11 : decode cX1_isReplaced 11 = .ok (.iconst (-1), 1) := by decide +kernel
theorem dX1_isReplaced_12 : decode cX1_isReplaced 12 = .ok (.if_icmp .eq 7, 3) := by decide +kernel
theorem dX1_isReplaced_15 : decode cX1_isReplaced 15 = .ok (.iconst 1, 1) := by decide +kernel
theorem dX1_isReplaced_16 : decode cX1_isReplaced 16 = .ok (.goto 4, 3) := by decide +kernel
theorem dX1_isReplaced_19 : decode cX1_isReplaced 19 = .ok (.iconst 0, 1) := by decide +kernel
theorem dX1_isReplaced_20 : decode cX1_isReplaced 20 = .ok (.ireturn, 1) := by decide +kernel
set_option maxRecDepth 20000 in
theorem ggX1_renew_X0_at : GoodIn wsX1_renew wsX0_at := goodIn_r _ [7, 8, 67] (by decide +kernel) (by decide +kernel)
set_option maxRecDepth 20000 in
theorem gX1_renew_X0_at : GoodIn wsX1_renew (wsV RX1 56 RX0 yX0_at wsX0_at) := goodIn_app (goodIn_of _ (by decide +kernel)) ggX1_renew_X0_at
set_option maxRecDepth 20000 in
theorem ggX1_renew_X1_standing : GoodIn wsX1_renew wsX1_standing := goodIn_r _ [13, 14, 15, 16, 17, 12, 18, 19, 20, 21, 3, 4, 5, 6, 7, 8, 22, 23, 24, 25, 57, 58, 59, 60, 61, 62, 63, 64, 65, 66, 67] (by decide +kernel) (by decide +kernel)
set_option maxRecDepth 20000 in
theorem gX1_renew_X1_standing : GoodIn wsX1_renew (wsV RX1 96 RX1 yX1_standing wsX1_standing) := goodIn_app (goodIn_of _ (by decide +kernel)) ggX1_renew_X1_standing
set_option maxRecDepth 20000 in
theorem ggX1_renew_X1_knownAnd : GoodIn wsX1_renew wsX1_knownAnd := goodIn_r _ [29, 30, 31, 32, 33, 34, 35, 36, 24, 20, 25, 37, 38, 39, 12, 40, 41, 1, 2, 3, 4, 5, 6, 7, 8, 42, 43, 57, 58, 59, 60, 61, 62, 63, 64, 65, 66, 67] (by decide +kernel) (by decide +kernel)
set_option maxRecDepth 20000 in
theorem gX1_renew_X1_knownAnd : GoodIn wsX1_renew (wsV RX1 102 RX1 yX1_knownAnd wsX1_knownAnd) := goodIn_app (goodIn_of _ (by decide +kernel)) ggX1_renew_X1_knownAnd
set_option maxRecDepth 20000 in
theorem ggX1_renew_X1_makeGone : GoodIn wsX1_renew wsX1_makeGone := goodIn_r _ [47, 48, 1, 2, 14, 49, 50, 51, 6, 52, 8, 57, 58, 59, 60, 61, 62, 63, 64, 65, 66, 67] (by decide +kernel) (by decide +kernel)
set_option maxRecDepth 20000 in
theorem gX1_renew_X1_makeGone : GoodIn wsX1_renew (wsV RX1 85 RX1 yX1_makeGone wsX1_makeGone) := goodIn_app (goodIn_of _ (by decide +kernel)) ggX1_renew_X1_makeGone
set_option maxRecDepth 20000 in
theorem ggX1_renew_X1_giveFanins : GoodIn wsX1_renew wsX1_giveFanins := goodIn_r _ [56, 1, 30, 31, 32, 33, 2, 34, 35, 36, 49, 50, 51, 6, 52, 8, 57, 58, 59, 60, 61, 62, 63, 64, 65, 66, 67] (by decide +kernel) (by decide +kernel)
set_option maxRecDepth 20000 in
theorem gX1_renew_X1_giveFanins : GoodIn wsX1_renew (wsV RX1 105 RX1 yX1_giveFanins wsX1_giveFanins) := goodIn_app (goodIn_of _ (by decide +kernel)) ggX1_renew_X1_giveFanins
theorem dX1_renew_0 : decode cX1_renew 0 = .ok (.aload_n 0, 1) := by decide +kernel
theorem dX1_renew_1 : decode cX1_renew 1 = .ok (.aload_n 0, 1) := by decide +kernel
theorem dX1_renew_2 : decode cX1_renew 2 = .ok (.getfield 20, 3) := by decide +kernel
theorem dX1_renew_5 : decode cX1_renew 5 = .ok (.iload_n 1, 1) := by decide +kernel
theorem dX1_renew_6 : decode cX1_renew 6 = .ok (.invokevirtual 56, 3) := by decide +kernel
theorem dX1_renew_9 : decode cX1_renew 9 = .ok (.invokevirtual 96, 3) := by decide +kernel
theorem dX1_renew_12 : decode cX1_renew 12 = .ok (.istore_n 2, 1) := by decide +kernel
theorem dX1_renew_13 : decode cX1_renew 13 = .ok (.aload_n 0, 1) := by decide +kernel
theorem dX1_renew_14 : decode cX1_renew 14 = .ok (.aload_n 0, 1) := by decide +kernel
theorem dX1_renew_15 : decode cX1_renew 15 = .ok (.getfield 23, 3) := by decide +kernel
theorem dX1_renew_18 : decode cX1_renew 18 = .ok (.iload_n 1, 1) := by decide +kernel
theorem dX1_renew_19 : decode cX1_renew 19 = .ok (.invokevirtual 56, 3) := by decide +kernel
theorem dX1_renew_22 : decode cX1_renew 22 = .ok (.invokevirtual 96, 3) := by decide +kernel
theorem dX1_renew_25 : decode cX1_renew 25 = .ok (.istore_n 3, 1) := by decide +kernel
theorem dX1_renew_26 : decode cX1_renew 26 = .ok (.aload_n 0, 1) := by decide +kernel
theorem dX1_renew_27 : decode cX1_renew 27 = .ok (.iload_n 2, 1) := by decide +kernel
theorem dX1_renew_28 : decode cX1_renew 28 = .ok (.iload_n 3, 1) := by decide +kernel
theorem dX1_renew_29 : decode cX1_renew 29 = .ok (.iload_n 1, 1) := by decide +kernel
theorem dX1_renew_30 : decode cX1_renew 30 = .ok (.invokevirtual 102, 3) := by decide +kernel
theorem dX1_renew_33 : decode cX1_renew 33 = .ok (.istore 4, 2) := by decide +kernel
theorem dX1_renew_35 : decode cX1_renew 35 = .ok (.iload 4, 2) := by decide +kernel
theorem dX1_renew_37 : decode cX1_renew 37 = .ok (.iconst (-1), 1) := by decide +kernel
theorem dX1_renew_38 : decode cX1_renew 38 = .ok (.if_icmp .eq 12, 3) := by decide +kernel
theorem dX1_renew_41 : decode cX1_renew 41 = .ok (.aload_n 0, 1) := by decide +kernel
theorem dX1_renew_42 : decode cX1_renew 42 = .ok (.iload_n 1, 1) := by decide +kernel
theorem dX1_renew_43 : decode cX1_renew 43 = .ok (.iload 4, 2) := by decide +kernel
theorem dX1_renew_45 : decode cX1_renew 45 = .ok (.invokevirtual 85, 3) := by decide +kernel
theorem dX1_renew_48 : decode cX1_renew 48 = .ok (.iconst 0, 1) := by decide +kernel
theorem dX1_renew_49 : decode cX1_renew 49 = .ok (.ireturn, 1) := by decide +kernel
theorem dX1_renew_50 : decode cX1_renew 50 = .ok (.aload_n 0, 1) := by decide +kernel
theorem dX1_renew_51 : decode cX1_renew 51 = .ok (.iload_n 1, 1) := by decide +kernel
theorem dX1_renew_52 : decode cX1_renew 52 = .ok (.iload_n 2, 1) := by decide +kernel
theorem dX1_renew_53 : decode cX1_renew 53 = .ok (.iload_n 3, 1) := by decide +kernel
theorem dX1_renew_54 : decode cX1_renew 54 = .ok (.invokevirtual 105, 3) := by decide +kernel
theorem dX1_renew_57 : decode cX1_renew 57 = .ok (.iconst 1, 1) := by decide +kernel
theorem dX1_renew_58 : decode cX1_renew 58 = .ok (.ireturn, 1) := by decide +kernel
set_option maxRecDepth 20000 in
theorem ggX1_standing_X1_isReplaced : GoodIn wsX1_standing wsX1_isReplaced := goodIn_r _ [6, 1, 7, 8, 9, 10, 11, 12, 13, 14, 15, 20, 21, 22, 23, 24, 25, 26, 27, 28, 29, 30] (by decide +kernel) (by decide +kernel)
set_option maxRecDepth 20000 in
theorem gX1_standing_X1_isReplaced : GoodIn wsX1_standing (wsV RX1 99 RX1 yX1_isReplaced wsX1_isReplaced) := goodIn_app (goodIn_of _ (by decide +kernel)) ggX1_standing_X1_isReplaced
set_option maxRecDepth 20000 in
theorem ggX1_standing_X6_nodeOf : GoodIn wsX1_standing wsX6_nodeOf := goodIn_r _ [9] (by decide +kernel) (by decide +kernel)
set_option maxRecDepth 20000 in
theorem gX1_standing_X6_nodeOf_n72 : GoodIn wsX1_standing (wsX6_nodeOf) := ggX1_standing_X6_nodeOf
set_option maxRecDepth 20000 in
theorem ggX1_standing_X0_at : GoodIn wsX1_standing wsX0_at := goodIn_r _ [14, 15, 30] (by decide +kernel) (by decide +kernel)
set_option maxRecDepth 20000 in
theorem gX1_standing_X0_at : GoodIn wsX1_standing (wsV RX1 56 RX0 yX0_at wsX0_at) := goodIn_app (goodIn_of _ (by decide +kernel)) ggX1_standing_X0_at
set_option maxRecDepth 20000 in
theorem ggX1_standing_X6_isTurned : GoodIn wsX1_standing wsX6_isTurned := goodIn_r _ [17] (by decide +kernel) (by decide +kernel)
set_option maxRecDepth 20000 in
theorem gX1_standing_X6_isTurned_n109 : GoodIn wsX1_standing (wsX6_isTurned) := ggX1_standing_X6_isTurned
set_option maxRecDepth 20000 in
theorem ggX1_standing_X6_turned : GoodIn wsX1_standing wsX6_turned := goodIn_r _ [19] (by decide +kernel) (by decide +kernel)
set_option maxRecDepth 20000 in
theorem gX1_standing_X6_turned_n75 : GoodIn wsX1_standing (wsX6_turned) := ggX1_standing_X6_turned
theorem dX1_standing_0 : decode cX1_standing 0 = .ok (.iload_n 1, 1) := by decide +kernel
theorem dX1_standing_1 : decode cX1_standing 1 = .ok (.istore_n 2, 1) := by decide +kernel
theorem dX1_standing_2 : decode cX1_standing 2 = .ok (.iconst 0, 1) := by decide +kernel
theorem dX1_standing_3 : decode cX1_standing 3 = .ok (.istore_n 3, 1) := by decide +kernel
theorem dX1_standing_4 : decode cX1_standing 4 = .ok (.iload_n 3, 1) := by decide +kernel
theorem dX1_standing_5 : decode cX1_standing 5 = .ok (.sipush 400, 3) := by decide +kernel
theorem dX1_standing_8 : decode cX1_standing 8 = .ok (.if_icmp .ge 48, 3) := by decide +kernel
theorem dX1_standing_11 : decode cX1_standing 11 = .ok (.aload_n 0, 1) := by decide +kernel
theorem dX1_standing_12 : decode cX1_standing 12 = .ok (.iload_n 2, 1) := by decide +kernel
theorem dX1_standing_13 : decode cX1_standing 13 = .ok (.invokevirtual 99, 3) := by decide +kernel
theorem dX1_standing_16 : decode cX1_standing 16 = .ok (.ifCond .eq 40, 3) := by decide +kernel
theorem dX1_standing_19 : decode cX1_standing 19 = .ok (.aload_n 0, 1) := by decide +kernel
theorem dX1_standing_20 : decode cX1_standing 20 = .ok (.getfield 29, 3) := by decide +kernel
theorem dX1_standing_23 : decode cX1_standing 23 = .ok (.iload_n 2, 1) := by decide +kernel
theorem dX1_standing_24 : decode cX1_standing 24 = .ok (.invokestatic 72, 3) := by decide +kernel
theorem dX1_standing_27 : decode cX1_standing 27 = .ok (.invokevirtual 56, 3) := by decide +kernel
theorem dX1_standing_30 : decode cX1_standing 30 = .ok (.istore 4, 2) := by decide +kernel
theorem dX1_standing_32 : decode cX1_standing 32 = .ok (.iload_n 2, 1) := by decide +kernel
theorem dX1_standing_33 : decode cX1_standing 33 = .ok (.invokestatic 109, 3) := by decide +kernel
theorem dX1_standing_36 : decode cX1_standing 36 = .ok (.ifCond .eq 11, 3) := by decide +kernel
theorem dX1_standing_39 : decode cX1_standing 39 = .ok (.iload 4, 2) := by decide +kernel
theorem dX1_standing_41 : decode cX1_standing 41 = .ok (.invokestatic 75, 3) := by decide +kernel
theorem dX1_standing_44 : decode cX1_standing 44 = .ok (.goto 5, 3) := by decide +kernel
theorem dX1_standing_47 : decode cX1_standing 47 = .ok (.iload 4, 2) := by decide +kernel
theorem dX1_standing_49 : decode cX1_standing 49 = .ok (.istore_n 2, 1) := by decide +kernel
theorem dX1_standing_50 : decode cX1_standing 50 = .ok (.iinc 3 1, 3) := by decide +kernel
theorem dX1_standing_53 : decode cX1_standing 53 = .ok (.goto (-49), 3) := by decide +kernel
theorem dX1_standing_56 : decode cX1_standing 56 = .ok (.iload_n 2, 1) := by decide +kernel
theorem dX1_standing_57 : decode cX1_standing 57 = .ok (.ireturn, 1) := by decide +kernel
theorem dX2_init_0 : decode cX2_init 0 = .ok (.aload_n 0, 1) := by decide +kernel
theorem dX2_init_1 : decode cX2_init 1 = .ok (.invokespecial 3, 3) := by decide +kernel
theorem dX2_init_4 : decode cX2_init 4 = .ok (.aload_n 0, 1) := by decide +kernel
theorem dX2_init_5 : decode cX2_init 5 = .ok (.bipush 30, 2) := by decide +kernel
theorem dX2_init_7 : decode cX2_init 7 = .ok (.anewarray 9, 3) := by decide +kernel
theorem dX2_init_10 : decode cX2_init 10 = .ok (.putfield 11, 3) := by decide +kernel
theorem dX2_init_13 : decode cX2_init 13 = .ok (.return_, 1) := by decide +kernel
theorem dX2_changesKept_0 : decode cX2_changesKept 0 = .ok (.aload_n 0, 1) := by decide +kernel
theorem dX2_changesKept_1 : decode cX2_changesKept 1 = .ok (.getfield 17, 3) := by decide +kernel
theorem dX2_changesKept_4 : decode cX2_changesKept 4 = .ok (.ireturn, 1) := by decide +kernel
set_option maxRecDepth 20000 in
theorem ggX2_keep_X1_init : GoodIn wsX2_keep wsX1_init := goodIn_r _ [13, 14, 15, 16, 17, 18, 19, 20, 21, 22, 23, 24, 25, 26, 27, 28, 29, 30, 31, 32, 33, 34, 35, 5, 36, 37, 38, 39, 40, 41, 70, 60, 61, 62, 63, 64, 65, 66, 67, 68, 69] (by decide +kernel) (by decide +kernel)
set_option maxRecDepth 20000 in
theorem gX2_keep_X1_init : GoodIn wsX2_keep (wsX1_init) := ggX2_keep_X1_init
set_option maxRecDepth 20000 in
theorem ggX2_keep_X1_copyFrom : GoodIn wsX2_keep wsX1_copyFrom := goodIn_r _ [45, 20, 21, 22, 23, 24, 25, 26, 37, 46, 47, 48, 49, 50, 19, 51, 32, 52, 8, 9, 10, 53, 54, 55, 56, 60, 61, 62, 63, 64, 65, 66, 67, 68, 69, 70] (by decide +kernel) (by decide +kernel)
set_option maxRecDepth 20000 in
theorem gX2_keep_X1_copyFrom : GoodIn wsX2_keep (wsV RX2 25 RX1 yX1_copyFrom wsX1_copyFrom) := goodIn_app (goodIn_of _ (by decide +kernel)) ggX2_keep_X1_copyFrom
theorem dX2_keep_0 : decode cX2_keep 0 = .ok (.aload_n 0, 1) := by decide +kernel
theorem dX2_keep_1 : decode cX2_keep 1 = .ok (.getfield 21, 3) := by decide +kernel
theorem dX2_keep_4 : decode cX2_keep 4 = .ok (.ifCond .lt 15, 3) := by decide +kernel
theorem dX2_keep_7 : decode cX2_keep 7 = .ok (.aload_n 0, 1) := by decide +kernel
theorem dX2_keep_8 : decode cX2_keep 8 = .ok (.getfield 21, 3) := by decide +kernel
theorem dX2_keep_11 : decode cX2_keep 11 = .ok (.aload_n 0, 1) := by decide +kernel
theorem dX2_keep_12 : decode cX2_keep 12 = .ok (.getfield 11, 3) := by decide +kernel
theorem dX2_keep_15 : decode cX2_keep 15 = .ok (.arraylength, 1) := by decide +kernel
theorem dX2_keep_16 : decode cX2_keep 16 = .ok (.if_icmp .lt 4, 3) := by decide +kernel
theorem dX2_keep_19 : decode cX2_keep 19 = .ok (.return_, 1) := by decide +kernel
theorem dX2_keep_20 : decode cX2_keep 20 = .ok (.aload_n 0, 1) := by decide +kernel
theorem dX2_keep_21 : decode cX2_keep 21 = .ok (.getfield 11, 3) := by decide +kernel
theorem dX2_keep_24 : decode cX2_keep 24 = .ok (.aload_n 0, 1) := by decide +kernel
theorem dX2_keep_25 : decode cX2_keep 25 = .ok (.getfield 21, 3) := by decide +kernel
theorem dX2_keep_28 : decode cX2_keep 28 = .ok (.aaload, 1) := by decide +kernel
theorem dX2_keep_29 : decode cX2_keep 29 = .ok (.astore_n 2, 1) := by decide +kernel
theorem dX2_keep_30 : decode cX2_keep 30 = .ok (.aload_n 2, 1) := by decide +kernel
theorem dX2_keep_31 : decode cX2_keep 31 = .ok (.ifnonnull 21, 3) := by decide +kernel
theorem dX2_keep_34 : decode cX2_keep 34 = .ok (.new 9, 3) := by decide +kernel
theorem dX2_keep_37 : decode cX2_keep 37 = .ok (.dup, 1) := by decide +kernel
theorem dX2_keep_38 : decode cX2_keep 38 = .ok (.invokespecial 24, 3) := by decide +kernel
theorem dX2_keep_41 : decode cX2_keep 41 = .ok (.astore_n 2, 1) := by decide +kernel
theorem dX2_keep_42 : decode cX2_keep 42 = .ok (.aload_n 0, 1) := by decide +kernel
theorem dX2_keep_43 : decode cX2_keep 43 = .ok (.getfield 11, 3) := by decide +kernel
theorem dX2_keep_46 : decode cX2_keep 46 = .ok (.aload_n 0, 1) := by decide +kernel
theorem dX2_keep_47 : decode cX2_keep 47 = .ok (.getfield 21, 3) := by decide +kernel
theorem dX2_keep_50 : decode cX2_keep 50 = .ok (.aload_n 2, 1) := by decide +kernel
theorem dX2_keep_51 : decode cX2_keep 51 = .ok (.aastore, 1) := by decide +kernel
theorem dX2_keep_52 : decode cX2_keep 52 = .ok (.aload_n 2, 1) := by decide +kernel
theorem dX2_keep_53 : decode cX2_keep 53 = .ok (.aload_n 1, 1) := by decide +kernel
theorem dX2_keep_54 : decode cX2_keep 54 = .ok (.invokevirtual 25, 3) := by decide +kernel
theorem dX2_keep_57 : decode cX2_keep 57 = .ok (.aload_n 0, 1) := by decide +kernel
theorem dX2_keep_58 : decode cX2_keep 58 = .ok (.aload_n 0, 1) := by decide +kernel
theorem dX2_keep_59 : decode cX2_keep 59 = .ok (.getfield 21, 3) := by decide +kernel
theorem dX2_keep_62 : decode cX2_keep 62 = .ok (.iconst 1, 1) := by decide +kernel
theorem dX2_keep_63 : decode cX2_keep 63 = .ok (.iadd, 1) := by decide +kernel
theorem dX2_keep_64 : decode cX2_keep 64 = .ok (.aload_n 0, 1) := by decide +kernel
theorem dX2_keep_65 : decode cX2_keep 65 = .ok (.getfield 11, 3) := by decide +kernel
theorem dX2_keep_68 : decode cX2_keep 68 = .ok (.arraylength, 1) := by decide +kernel
theorem dX2_keep_69 : decode cX2_keep 69 = .ok (.if_icmp .ge 12, 3) := by decide +kernel
theorem dX2_keep_72 : decode cX2_keep 72 = .ok (.aload_n 0, 1) := by decide +kernel
theorem dX2_keep_73 : decode cX2_keep 73 = .ok (.getfield 21, 3) := by decide +kernel
theorem dX2_keep_76 : decode cX2_keep 76 = .ok (.iconst 1, 1) := by decide +kernel
theorem dX2_keep_77 : decode cX2_keep 77 = .ok (.iadd, 1) := by decide +kernel
theorem dX2_keep_78 : decode cX2_keep 78 = .ok (.goto 4, 3) := by decide +kernel
theorem dX2_keep_81 : decode cX2_keep 81 = .ok (.iconst 0, 1) := by decide +kernel
theorem dX2_keep_82 : decode cX2_keep 82 = .ok (.putfield 21, 3) := by decide +kernel
theorem dX2_keep_85 : decode cX2_keep 85 = .ok (.aload_n 0, 1) := by decide +kernel
theorem dX2_keep_86 : decode cX2_keep 86 = .ok (.aload_n 0, 1) := by decide +kernel
theorem dX2_keep_87 : decode cX2_keep 87 = .ok (.getfield 17, 3) := by decide +kernel
theorem dX2_keep_90 : decode cX2_keep 90 = .ok (.iconst 1, 1) := by decide +kernel
theorem dX2_keep_91 : decode cX2_keep 91 = .ok (.iadd, 1) := by decide +kernel
theorem dX2_keep_92 : decode cX2_keep 92 = .ok (.aload_n 0, 1) := by decide +kernel
theorem dX2_keep_93 : decode cX2_keep 93 = .ok (.getfield 11, 3) := by decide +kernel
theorem dX2_keep_96 : decode cX2_keep 96 = .ok (.arraylength, 1) := by decide +kernel
theorem dX2_keep_97 : decode cX2_keep 97 = .ok (.invokestatic 29, 3) := by decide +kernel
theorem dX2_keep_100 : decode cX2_keep 100 = .ok (.putfield 17, 3) := by decide +kernel
theorem dX2_keep_103 : decode cX2_keep 103 = .ok (.return_, 1) := by decide +kernel
set_option maxRecDepth 20000 in
theorem ggX2_takeBack_X1_copyFrom : GoodIn wsX2_takeBack wsX1_copyFrom := goodIn_r _ [8, 9, 10, 11, 12, 13, 14, 15, 16, 17, 18, 19, 20, 21, 22, 23, 24, 25, 26, 27, 28, 29, 30, 31, 32, 36, 37, 38, 39, 40, 41, 42, 43, 44, 45, 46] (by decide +kernel) (by decide +kernel)
set_option maxRecDepth 20000 in
theorem gX2_takeBack_X1_copyFrom : GoodIn wsX2_takeBack (wsV RX2 25 RX1 yX1_copyFrom wsX1_copyFrom) := goodIn_app (goodIn_of _ (by decide +kernel)) ggX2_takeBack_X1_copyFrom
theorem dX2_takeBack_0 : decode cX2_takeBack 0 = .ok (.aload_n 0, 1) := by decide +kernel
theorem dX2_takeBack_1 : decode cX2_takeBack 1 = .ok (.getfield 21, 3) := by decide +kernel
theorem dX2_takeBack_4 : decode cX2_takeBack 4 = .ok (.ifCond .le 12, 3) := by decide +kernel
theorem dX2_takeBack_7 : decode cX2_takeBack 7 = .ok (.aload_n 0, 1) := by decide +kernel
theorem dX2_takeBack_8 : decode cX2_takeBack 8 = .ok (.getfield 21, 3) := by decide +kernel
theorem dX2_takeBack_11 : decode cX2_takeBack 11 = .ok (.iconst 1, 1) := by decide +kernel
theorem dX2_takeBack_12 : decode cX2_takeBack 12 = .ok (.isub, 1) := by decide +kernel
theorem dX2_takeBack_13 : decode cX2_takeBack 13 = .ok (.goto 10, 3) := by decide +kernel
theorem dX2_takeBack_16 : decode cX2_takeBack 16 = .ok (.aload_n 0, 1) := by decide +kernel
theorem dX2_takeBack_17 : decode cX2_takeBack 17 = .ok (.getfield 11, 3) := by decide +kernel
theorem dX2_takeBack_20 : decode cX2_takeBack 20 = .ok (.arraylength, 1) := by decide +kernel
theorem dX2_takeBack_21 : decode cX2_takeBack 21 = .ok (.iconst 1, 1) := by decide +kernel
theorem dX2_takeBack_22 : decode cX2_takeBack 22 = .ok (.isub, 1) := by decide +kernel
theorem dX2_takeBack_23 : decode cX2_takeBack 23 = .ok (.istore_n 2, 1) := by decide +kernel
theorem dX2_takeBack_24 : decode cX2_takeBack 24 = .ok (.aload_n 0, 1) := by decide +kernel
theorem dX2_takeBack_25 : decode cX2_takeBack 25 = .ok (.getfield 17, 3) := by decide +kernel
theorem dX2_takeBack_28 : decode cX2_takeBack 28 = .ok (.ifCond .eq 16, 3) := by decide +kernel
theorem dX2_takeBack_31 : decode cX2_takeBack 31 = .ok (.iload_n 2, 1) := by decide +kernel
theorem dX2_takeBack_32 : decode cX2_takeBack 32 = .ok (.ifCond .lt 12, 3) := by decide +kernel
theorem dX2_takeBack_35 : decode cX2_takeBack 35 = .ok (.iload_n 2, 1) := by decide +kernel
theorem dX2_takeBack_36 : decode cX2_takeBack 36 = .ok (.aload_n 0, 1) := by decide +kernel
theorem dX2_takeBack_37 : decode cX2_takeBack 37 = .ok (.getfield 11, 3) := by decide +kernel
theorem dX2_takeBack_40 : decode cX2_takeBack 40 = .ok (.arraylength, 1) := by decide +kernel
theorem dX2_takeBack_41 : decode cX2_takeBack 41 = .ok (.if_icmp .lt 5, 3) := by decide +kernel
theorem dX2_takeBack_44 : decode cX2_takeBack 44 = .ok (.iconst 0, 1) := by decide +kernel
theorem dX2_takeBack_45 : decode cX2_takeBack 45 = .ok (.ireturn, 1) := by decide +kernel
theorem dX2_takeBack_46 : decode cX2_takeBack 46 = .ok (.aload_n 0, 1) := by decide +kernel
theorem dX2_takeBack_47 : decode cX2_takeBack 47 = .ok (.getfield 11, 3) := by decide +kernel
theorem dX2_takeBack_50 : decode cX2_takeBack 50 = .ok (.iload_n 2, 1) := by decide +kernel
theorem dX2_takeBack_51 : decode cX2_takeBack 51 = .ok (.aaload, 1) := by decide +kernel
theorem dX2_takeBack_52 : decode cX2_takeBack 52 = .ok (.astore_n 3, 1) := by decide +kernel
theorem dX2_takeBack_53 : decode cX2_takeBack 53 = .ok (.aload_n 3, 1) := by decide +kernel
theorem dX2_takeBack_54 : decode cX2_takeBack 54 = .ok (.ifnonnull 5, 3) := by decide +kernel
theorem dX2_takeBack_57 : decode cX2_takeBack 57 = .ok (.iconst 0, 1) := by decide +kernel
theorem dX2_takeBack_58 : decode cX2_takeBack 58 = .ok (.ireturn, 1) := by decide +kernel
theorem dX2_takeBack_59 : decode cX2_takeBack 59 = .ok (.aload_n 1, 1) := by decide +kernel
theorem dX2_takeBack_60 : decode cX2_takeBack 60 = .ok (.aload_n 3, 1) := by decide +kernel
theorem dX2_takeBack_61 : decode cX2_takeBack 61 = .ok (.invokevirtual 25, 3) := by decide +kernel
theorem dX2_takeBack_64 : decode cX2_takeBack 64 = .ok (.aload_n 0, 1) := by decide +kernel
theorem dX2_takeBack_65 : decode cX2_takeBack 65 = .ok (.iload_n 2, 1) := by decide +kernel
theorem dX2_takeBack_66 : decode cX2_takeBack 66 = .ok (.putfield 21, 3) := by decide +kernel
theorem dX2_takeBack_69 : decode cX2_takeBack 69 = .ok (.aload_n 0, 1) := by decide +kernel
theorem dX2_takeBack_70 : decode cX2_takeBack 70 = .ok (.dup, 1) := by decide +kernel
theorem dX2_takeBack_71 : decode cX2_takeBack 71 = .ok (.getfield 17, 3) := by decide +kernel
theorem dX2_takeBack_74 : decode cX2_takeBack 74 = .ok (.iconst 1, 1) := by decide +kernel
theorem dX2_takeBack_75 : decode cX2_takeBack 75 = .ok (.isub, 1) := by decide +kernel
theorem dX2_takeBack_76 : decode cX2_takeBack 76 = .ok (.putfield 17, 3) := by decide +kernel
theorem dX2_takeBack_79 : decode cX2_takeBack 79 = .ok (.iconst 1, 1) := by decide +kernel
theorem dX2_takeBack_80 : decode cX2_takeBack 80 = .ok (.ireturn, 1) := by decide +kernel
set_option maxRecDepth 20000 in
theorem ggX3_init_X0_init : GoodIn wsX3_init wsX0_init := goodIn_r _ [10, 11, 2, 3, 12, 13, 14] (by decide +kernel) (by decide +kernel)
set_option maxRecDepth 20000 in
theorem gX3_init_X0_init : GoodIn wsX3_init (wsX0_init) := ggX3_init_X0_init
theorem dX3_init_0 : decode cX3_init 0 = .ok (.aload_n 0, 1) := by decide +kernel
theorem dX3_init_1 : decode cX3_init 1 = .ok (.invokespecial 3, 3) := by decide +kernel
theorem dX3_init_4 : decode cX3_init 4 = .ok (.aload_n 0, 1) := by decide +kernel
theorem dX3_init_5 : decode cX3_init 5 = .ok (.new 9, 3) := by decide +kernel
theorem dX3_init_8 : decode cX3_init 8 = .ok (.dup, 1) := by decide +kernel
theorem dX3_init_9 : decode cX3_init 9 = .ok (.sipush 400, 3) := by decide +kernel
theorem dX3_init_12 : decode cX3_init 12 = .ok (.invokespecial 11, 3) := by decide +kernel
theorem dX3_init_15 : decode cX3_init 15 = .ok (.putfield 14, 3) := by decide +kernel
theorem dX3_init_18 : decode cX3_init 18 = .ok (.return_, 1) := by decide +kernel
set_option maxRecDepth 20000 in
theorem ggX3_at_X0_at : GoodIn wsX3_at wsX0_at := goodIn_r _ [6, 7, 9] (by decide +kernel) (by decide +kernel)
set_option maxRecDepth 20000 in
theorem gX3_at_X0_at : GoodIn wsX3_at (wsV RX3 20 RX0 yX0_at wsX0_at) := goodIn_app (goodIn_of _ (by decide +kernel)) ggX3_at_X0_at
theorem dX3_at_0 : decode cX3_at 0 = .ok (.aload_n 0, 1) := by decide +kernel
theorem dX3_at_1 : decode cX3_at 1 = .ok (.getfield 14, 3) := by decide +kernel
theorem dX3_at_4 : decode cX3_at 4 = .ok (.iload_n 1, 1) := by decide +kernel
theorem dX3_at_5 : decode cX3_at 5 = .ok (.invokevirtual 20, 3) := by decide +kernel
theorem dX3_at_8 : decode cX3_at 8 = .ok (.ireturn, 1) := by decide +kernel
set_option maxRecDepth 20000 in
theorem ggX3_greatest_X0_at : GoodIn wsX3_greatest wsX0_at := goodIn_r _ [10, 11, 13] (by decide +kernel) (by decide +kernel)
set_option maxRecDepth 20000 in
theorem gX3_greatest_X0_at : GoodIn wsX3_greatest (wsV RX3 20 RX0 yX0_at wsX0_at) := goodIn_app (goodIn_of _ (by decide +kernel)) ggX3_greatest_X0_at
theorem dX3_greatest_0 : decode cX3_greatest 0 = .ok (.iconst 0, 1) := by decide +kernel
theorem dX3_greatest_1 : decode cX3_greatest 1 = .ok (.istore_n 1, 1) := by decide +kernel
theorem dX3_greatest_2 : decode cX3_greatest 2 = .ok (.iconst 0, 1) := by decide +kernel
theorem dX3_greatest_3 : decode cX3_greatest 3 = .ok (.istore_n 2, 1) := by decide +kernel
theorem dX3_greatest_4 : decode cX3_greatest 4 = .ok (.iload_n 2, 1) := by decide +kernel
theorem dX3_greatest_5 : decode cX3_greatest 5 = .ok (.sipush 400, 3) := by decide +kernel
theorem dX3_greatest_8 : decode cX3_greatest 8 = .ok (.if_icmp .ge 22, 3) := by decide +kernel
theorem dX3_greatest_11 : decode cX3_greatest 11 = .ok (.iload_n 1, 1) := by decide +kernel
theorem dX3_greatest_12 : decode cX3_greatest 12 = .ok (.aload_n 0, 1) := by decide +kernel
theorem dX3_greatest_13 : decode cX3_greatest 13 = .ok (.getfield 14, 3) := by decide +kernel
theorem dX3_greatest_16 : decode cX3_greatest 16 = .ok (.iload_n 2, 1) := by decide +kernel
theorem dX3_greatest_17 : decode cX3_greatest 17 = .ok (.invokevirtual 20, 3) := by decide +kernel
theorem dX3_greatest_20 : decode cX3_greatest 20 = .ok (.invokestatic 24, 3) := by decide +kernel
theorem dX3_greatest_23 : decode cX3_greatest 23 = .ok (.istore_n 1, 1) := by decide +kernel
theorem dX3_greatest_24 : decode cX3_greatest 24 = .ok (.iinc 2 1, 3) := by decide +kernel
theorem dX3_greatest_27 : decode cX3_greatest 27 = .ok (.goto (-23), 3) := by decide +kernel
theorem dX3_greatest_30 : decode cX3_greatest 30 = .ok (.iload_n 1, 1) := by decide +kernel
theorem dX3_greatest_31 : decode cX3_greatest 31 = .ok (.ireturn, 1) := by decide +kernel
set_option maxRecDepth 20000 in
theorem ggX3_workOut_X0_fill : GoodIn wsX3_workOut wsX0_fill := goodIn_r _ [6, 7, 8, 9, 10, 11, 55] (by decide +kernel) (by decide +kernel)
set_option maxRecDepth 20000 in
theorem gX3_workOut_X0_fill : GoodIn wsX3_workOut (wsV RX3 30 RX0 yX0_fill wsX0_fill) := goodIn_app (goodIn_of _ (by decide +kernel)) ggX3_workOut_X0_fill
set_option maxRecDepth 20000 in
theorem ggX3_workOut_X3_raise : GoodIn wsX3_workOut wsX3_raise := goodIn_r _ [16, 1, 17, 18, 19, 20, 21, 22, 23, 24, 25, 26, 27, 28, 29, 30, 31, 32, 33, 34, 5, 35, 7, 36, 37, 38, 39, 40, 41, 42, 43, 44, 45, 46, 47, 48, 49, 50, 51, 52, 53, 54, 56, 57, 58, 59, 60, 61, 62, 63, 64, 65, 55] (by decide +kernel) (by decide +kernel)
set_option maxRecDepth 20000 in
theorem gX3_workOut_X3_raise : GoodIn wsX3_workOut (wsV RX3 33 RX3 yX3_raise wsX3_raise) := goodIn_app (goodIn_of _ (by decide +kernel)) ggX3_workOut_X3_raise
theorem dX3_workOut_0 : decode cX3_workOut 0 = .ok (.aload_n 0, 1) := by decide +kernel
theorem dX3_workOut_1 : decode cX3_workOut 1 = .ok (.getfield 14, 3) := by decide +kernel
theorem dX3_workOut_4 : decode cX3_workOut 4 = .ok (.iconst 0, 1) := by decide +kernel
theorem dX3_workOut_5 : decode cX3_workOut 5 = .ok (.invokevirtual 30, 3) := by decide +kernel
theorem dX3_workOut_8 : decode cX3_workOut 8 = .ok (.iconst 1, 1) := by decide +kernel
theorem dX3_workOut_9 : decode cX3_workOut 9 = .ok (.istore_n 2, 1) := by decide +kernel
theorem dX3_workOut_10 : decode cX3_workOut 10 = .ok (.iconst 0, 1) := by decide +kernel
theorem dX3_workOut_11 : decode cX3_workOut 11 = .ok (.istore_n 3, 1) := by decide +kernel
theorem dX3_workOut_12 : decode cX3_workOut 12 = .ok (.iload_n 3, 1) := by decide +kernel
theorem dX3_workOut_13 : decode cX3_workOut 13 = .ok (.sipush 400, 3) := by decide +kernel
theorem dX3_workOut_16 : decode cX3_workOut 16 = .ok (.if_icmp .ge 19, 3) := by decide +kernel
theorem dX3_workOut_19 : decode cX3_workOut 19 = .ok (.iload_n 2, 1) := by decide +kernel
theorem dX3_workOut_20 : decode cX3_workOut 20 = .ok (.ifCond .eq 15, 3) := by decide +kernel
theorem dX3_workOut_23 : decode cX3_workOut 23 = .ok (.aload_n 0, 1) := by decide +kernel
theorem dX3_workOut_24 : decode cX3_workOut 24 = .ok (.aload_n 1, 1) := by decide +kernel
theorem dX3_workOut_25 : decode cX3_workOut 25 = .ok (.invokevirtual 33, 3) := by decide +kernel
theorem dX3_workOut_28 : decode cX3_workOut 28 = .ok (.istore_n 2, 1) := by decide +kernel
theorem dX3_workOut_29 : decode cX3_workOut 29 = .ok (.iinc 3 1, 3) := by decide +kernel
theorem dX3_workOut_32 : decode cX3_workOut 32 = .ok (.goto (-20), 3) := by decide +kernel
theorem dX3_workOut_35 : decode cX3_workOut 35 = .ok (.return_, 1) := by decide +kernel
set_option maxRecDepth 20000 in
theorem ggX3_raise_X1_nodesGiven : GoodIn wsX3_raise wsX1_nodesGiven := goodIn_r _ [10, 11, 42, 43, 44, 45, 46, 47, 48, 49, 50, 51] (by decide +kernel) (by decide +kernel)
set_option maxRecDepth 20000 in
theorem gX3_raise_X1_nodesGiven : GoodIn wsX3_raise (wsV RX3 37 RX1 yX1_nodesGiven wsX1_nodesGiven) := goodIn_app (goodIn_of _ (by decide +kernel)) ggX3_raise_X1_nodesGiven
set_option maxRecDepth 20000 in
theorem ggX3_raise_X1_sortOf : GoodIn wsX3_raise wsX1_sortOf := goodIn_r _ [15, 16, 17, 18, 19, 20, 21, 22, 42, 43, 44, 45, 46, 47, 48, 49, 50, 51, 52] (by decide +kernel) (by decide +kernel)
set_option maxRecDepth 20000 in
theorem gX3_raise_X1_sortOf : GoodIn wsX3_raise (wsV RX3 43 RX1 yX1_sortOf wsX1_sortOf) := goodIn_app (goodIn_of _ (by decide +kernel)) ggX3_raise_X1_sortOf
set_option maxRecDepth 20000 in
theorem ggX3_raise_X1_lesserFanin : GoodIn wsX3_raise wsX1_lesserFanin := goodIn_r _ [26, 27, 17, 18, 19, 20, 21, 22, 42, 43, 44, 45, 46, 47, 48, 49, 50, 51, 52] (by decide +kernel) (by decide +kernel)
set_option maxRecDepth 20000 in
theorem gX3_raise_X1_lesserFanin : GoodIn wsX3_raise (wsV RX3 46 RX1 yX1_lesserFanin wsX1_lesserFanin) := goodIn_app (goodIn_of _ (by decide +kernel)) ggX3_raise_X1_lesserFanin
set_option maxRecDepth 20000 in
theorem ggX3_raise_X6_nodeOf : GoodIn wsX3_raise wsX6_nodeOf := goodIn_r _ [30] (by decide +kernel) (by decide +kernel)
set_option maxRecDepth 20000 in
theorem gX3_raise_X6_nodeOf_n49 : GoodIn wsX3_raise (wsX6_nodeOf) := ggX3_raise_X6_nodeOf
set_option maxRecDepth 20000 in
theorem ggX3_raise_X0_at : GoodIn wsX3_raise wsX0_at := goodIn_r _ [21, 22, 52] (by decide +kernel) (by decide +kernel)
set_option maxRecDepth 20000 in
theorem gX3_raise_X0_at : GoodIn wsX3_raise (wsV RX3 20 RX0 yX0_at wsX0_at) := goodIn_app (goodIn_of _ (by decide +kernel)) ggX3_raise_X0_at
set_option maxRecDepth 20000 in
theorem ggX3_raise_X1_greaterFanin : GoodIn wsX3_raise wsX1_greaterFanin := goodIn_r _ [35, 36, 17, 18, 19, 20, 21, 22, 42, 43, 44, 45, 46, 47, 48, 49, 50, 51, 52] (by decide +kernel) (by decide +kernel)
set_option maxRecDepth 20000 in
theorem gX3_raise_X1_greaterFanin : GoodIn wsX3_raise (wsV RX3 52 RX1 yX1_greaterFanin wsX1_greaterFanin) := goodIn_app (goodIn_of _ (by decide +kernel)) ggX3_raise_X1_greaterFanin
set_option maxRecDepth 20000 in
theorem ggX3_raise_X0_put : GoodIn wsX3_raise wsX0_put := goodIn_r _ [40, 22, 52] (by decide +kernel) (by decide +kernel)
set_option maxRecDepth 20000 in
theorem gX3_raise_X0_put : GoodIn wsX3_raise (wsV RX3 55 RX0 yX0_put wsX0_put) := goodIn_app (goodIn_of _ (by decide +kernel)) ggX3_raise_X0_put
theorem dX3_raise_0 : decode cX3_raise 0 = .ok (.iconst 0, 1) := by decide +kernel
theorem dX3_raise_1 : decode cX3_raise 1 = .ok (.istore_n 2, 1) := by decide +kernel
theorem dX3_raise_2 : decode cX3_raise 2 = .ok (.iconst 0, 1) := by decide +kernel
theorem dX3_raise_3 : decode cX3_raise 3 = .ok (.istore_n 3, 1) := by decide +kernel
theorem dX3_raise_4 : decode cX3_raise 4 = .ok (.iload_n 3, 1) := by decide +kernel
theorem dX3_raise_5 : decode cX3_raise 5 = .ok (.aload_n 1, 1) := by decide +kernel
theorem dX3_raise_6 : decode cX3_raise 6 = .ok (.invokevirtual 37, 3) := by decide +kernel
theorem dX3_raise_9 : decode cX3_raise 9 = .ok (.if_icmp .ge 96, 3) := by decide +kernel
theorem dX3_raise_12 : decode cX3_raise 12 = .ok (.aload_n 1, 1) := by decide +kernel
theorem dX3_raise_13 : decode cX3_raise 13 = .ok (.iload_n 3, 1) := by decide +kernel
theorem dX3_raise_14 : decode cX3_raise 14 = .ok (.invokevirtual 43, 3) := by decide +kernel
theorem dX3_raise_17 : decode cX3_raise 17 = .ok (.iconst 2, 1) := by decide +kernel
theorem dX3_raise_18 : decode cX3_raise 18 = .ok (.if_icmp .ne 81, 3) := by decide +kernel
theorem dX3_raise_21 : decode cX3_raise 21 = .ok (.aload_n 0, 1) := by decide +kernel
theorem dX3_raise_22 : decode cX3_raise 22 = .ok (.getfield 14, 3) := by decide +kernel
theorem dX3_raise_25 : decode cX3_raise 25 = .ok (.aload_n 1, 1) := by decide +kernel
theorem dX3_raise_26 : decode cX3_raise 26 = .ok (.iload_n 3, 1) := by decide +kernel
theorem dX3_raise_27 : decode cX3_raise 27 = .ok (.invokevirtual 46, 3) := by decide +kernel
theorem dX3_raise_30 : decode cX3_raise 30 = .ok (.invokestatic 49, 3) := by decide +kernel
theorem dX3_raise_33 : decode cX3_raise 33 = .ok (.invokevirtual 20, 3) := by decide +kernel
theorem dX3_raise_36 : decode cX3_raise 36 = .ok (.istore 4, 2) := by decide +kernel
theorem dX3_raise_38 : decode cX3_raise 38 = .ok (.aload_n 0, 1) := by decide +kernel
theorem dX3_raise_39 : decode cX3_raise 39 = .ok (.getfield 14, 3) := by decide +kernel
theorem dX3_raise_42 : decode cX3_raise 42 = .ok (.aload_n 1, 1) := by decide +kernel
theorem dX3_raise_43 : decode cX3_raise 43 = .ok (.iload_n 3, 1) := by decide +kernel
theorem dX3_raise_44 : decode cX3_raise 44 = .ok (.invokevirtual 52, 3) := by decide +kernel
theorem dX3_raise_47 : decode cX3_raise 47 = .ok (.invokestatic 49, 3) := by decide +kernel
theorem dX3_raise_50 : decode cX3_raise 50 = .ok (.invokevirtual 20, 3) := by decide +kernel
theorem dX3_raise_53 : decode cX3_raise 53 = .ok (.istore 5, 2) := by decide +kernel
theorem dX3_raise_55 : decode cX3_raise 55 = .ok (.iconst 1, 1) := by decide +kernel
theorem dX3_raise_56 : decode cX3_raise 56 = .ok (.iload 4, 2) := by decide +kernel
theorem dX3_raise_58 : decode cX3_raise 58 = .ok (.iload 5, 2) := by decide +kernel
theorem dX3_raise_60 : decode cX3_raise 60 = .ok (.invokestatic 24, 3) := by decide +kernel
theorem dX3_raise_63 : decode cX3_raise 63 = .ok (.iadd, 1) := by decide +kernel
theorem dX3_raise_64 : decode cX3_raise 64 = .ok (.istore 6, 2) := by decide +kernel
theorem dX3_raise_66 : decode cX3_raise 66 = .ok (.iload_n 2, 1) := by decide +kernel
theorem dX3_raise_67 : decode cX3_raise 67 = .ok (.ifCond .ne 16, 3) := by decide +kernel
theorem dX3_raise_70 : decode cX3_raise 70 = .ok (.aload_n 0, 1) := by decide +kernel
theorem dX3_raise_71 : decode cX3_raise 71 = .ok (.getfield 14, 3) := by decide +kernel
theorem dX3_raise_74 : decode cX3_raise 74 = .ok (.iload_n 3, 1) := by decide +kernel
theorem dX3_raise_75 : decode cX3_raise 75 = .ok (.invokevirtual 20, 3) := by decide +kernel
theorem dX3_raise_78 : decode cX3_raise 78 = .ok (.iload 6, 2) := by decide +kernel
theorem dX3_raise_80 : decode cX3_raise 80 = .ok (.if_icmp .eq 7, 3) := by decide +kernel
theorem dX3_raise_83 : decode cX3_raise 83 = .ok (.iconst 1, 1) := by decide +kernel
theorem dX3_raise_84 : decode cX3_raise 84 = .ok (.goto 4, 3) := by decide +kernel
theorem dX3_raise_87 : decode cX3_raise 87 = .ok (.iconst 0, 1) := by decide +kernel
theorem dX3_raise_88 : decode cX3_raise 88 = .ok (.istore_n 2, 1) := by decide +kernel
theorem dX3_raise_89 : decode cX3_raise 89 = .ok (.aload_n 0, 1) := by decide +kernel
theorem dX3_raise_90 : decode cX3_raise 90 = .ok (.getfield 14, 3) := by decide +kernel
theorem dX3_raise_93 : decode cX3_raise 93 = .ok (.iload_n 3, 1) := by decide +kernel
theorem dX3_raise_94 : decode cX3_raise 94 = .ok (.iload 6, 2) := by decide +kernel
theorem dX3_raise_96 : decode cX3_raise 96 = .ok (.invokevirtual 55, 3) := by decide +kernel
theorem dX3_raise_99 : decode cX3_raise 99 = .ok (.iinc 3 1, 3) := by decide +kernel
theorem dX3_raise_102 : decode cX3_raise 102 = .ok (.goto (-98), 3) := by decide +kernel
theorem dX3_raise_105 : decode cX3_raise 105 = .ok (.iload_n 2, 1) := by decide +kernel
theorem dX3_raise_106 : decode cX3_raise 106 = .ok (.ireturn, 1) := by decide +kernel
set_option maxRecDepth 20000 in
theorem ggX4_init_X0_init : GoodIn wsX4_init wsX0_init := goodIn_r _ [11, 12, 2, 3, 13, 14, 15] (by decide +kernel) (by decide +kernel)
set_option maxRecDepth 20000 in
theorem gX4_init_X0_init : GoodIn wsX4_init (wsX0_init) := ggX4_init_X0_init
theorem dX4_init_0 : decode cX4_init 0 = .ok (.aload_n 0, 1) := by decide +kernel
theorem dX4_init_1 : decode cX4_init 1 = .ok (.invokespecial 3, 3) := by decide +kernel
theorem dX4_init_4 : decode cX4_init 4 = .ok (.aload_n 0, 1) := by decide +kernel
theorem dX4_init_5 : decode cX4_init 5 = .ok (.new 9, 3) := by decide +kernel
theorem dX4_init_8 : decode cX4_init 8 = .ok (.dup, 1) := by decide +kernel
theorem dX4_init_9 : decode cX4_init 9 = .ok (.sipush 400, 3) := by decide +kernel
theorem dX4_init_12 : decode cX4_init 12 = .ok (.invokespecial 11, 3) := by decide +kernel
theorem dX4_init_15 : decode cX4_init 15 = .ok (.putfield 14, 3) := by decide +kernel
theorem dX4_init_18 : decode cX4_init 18 = .ok (.aload_n 0, 1) := by decide +kernel
theorem dX4_init_19 : decode cX4_init 19 = .ok (.new 9, 3) := by decide +kernel
theorem dX4_init_22 : decode cX4_init 22 = .ok (.dup, 1) := by decide +kernel
theorem dX4_init_23 : decode cX4_init 23 = .ok (.sipush 400, 3) := by decide +kernel
theorem dX4_init_26 : decode cX4_init 26 = .ok (.invokespecial 11, 3) := by decide +kernel
theorem dX4_init_29 : decode cX4_init 29 = .ok (.putfield 20, 3) := by decide +kernel
theorem dX4_init_32 : decode cX4_init 32 = .ok (.return_, 1) := by decide +kernel
set_option maxRecDepth 20000 in
theorem ggX4_has_X0_at : GoodIn wsX4_has wsX0_at := goodIn_r _ [6, 7, 11] (by decide +kernel) (by decide +kernel)
set_option maxRecDepth 20000 in
theorem gX4_has_X0_at : GoodIn wsX4_has (wsV RX4 23 RX0 yX0_at wsX0_at) := goodIn_app (goodIn_of _ (by decide +kernel)) ggX4_has_X0_at
theorem dX4_has_0 : decode cX4_has 0 = .ok (.aload_n 0, 1) := by decide +kernel
theorem dX4_has_1 : decode cX4_has 1 = .ok (.getfield 14, 3) := by decide +kernel
theorem dX4_has_4 : decode cX4_has 4 = .ok (.iload_n 1, 1) := by decide +kernel
theorem dX4_has_5 : decode cX4_has 5 = .ok (.invokevirtual 23, 3) := by decide +kernel
theorem dX4_has_8 : decode cX4_has 8 = .ok (.iconst 1, 1) := by decide +kernel
theorem dX4_has_9 : decode cX4_has 9 = .ok (.if_icmp .ne 7, 3) := by decide +kernel
theorem dX4_has_12 : decode cX4_has 12 = .ok (.iconst 1, 1) := by decide +kernel
theorem dX4_has_13 : decode cX4_has 13 = .ok (.goto 4, 3) := by decide +kernel
theorem dX4_has_16 : decode cX4_has 16 = .ok (.iconst 0, 1) := by decide +kernel
theorem dX4_has_17 : decode cX4_has 17 = .ok (.ireturn, 1) := by decide +kernel
set_option maxRecDepth 20000 in
theorem ggX4_isAtOrAbove_X4_clear : GoodIn wsX4_isAtOrAbove wsX4_clear := goodIn_r _ [5, 6, 7, 8, 9, 10, 11, 12, 13, 14, 15, 16, 17, 54, 55, 56, 57] (by decide +kernel) (by decide +kernel)
set_option maxRecDepth 20000 in
theorem gX4_isAtOrAbove_X4_clear : GoodIn wsX4_isAtOrAbove (wsV RX4 27 RX4 yX4_clear wsX4_clear) := goodIn_app (goodIn_of _ (by decide +kernel)) ggX4_isAtOrAbove_X4_clear
set_option maxRecDepth 20000 in
theorem ggX4_isAtOrAbove_X4_mark : GoodIn wsX4_isAtOrAbove wsX4_mark := goodIn_r _ [21, 6, 22, 7, 23, 24, 25, 11, 26, 13, 27, 28, 29, 30, 54, 55, 56, 57] (by decide +kernel) (by decide +kernel)
set_option maxRecDepth 20000 in
theorem gX4_isAtOrAbove_X4_mark : GoodIn wsX4_isAtOrAbove (wsV RX4 30 RX4 yX4_mark wsX4_mark) := goodIn_app (goodIn_of _ (by decide +kernel)) ggX4_isAtOrAbove_X4_mark
set_option maxRecDepth 20000 in
theorem ggX4_isAtOrAbove_X4_spread : GoodIn wsX4_isAtOrAbove wsX4_spread := goodIn_r _ [34, 7, 22, 23, 24, 25, 11, 26, 13, 35, 36, 37, 38, 39, 40, 41, 42, 43, 44, 18, 19, 20, 4, 21, 6, 27, 28, 29, 30, 45, 46, 47, 48, 49, 54, 55, 56, 57, 58, 59, 60, 61, 62, 63, 64, 65, 66, 67] (by decide +kernel) (by decide +kernel)
set_option maxRecDepth 20000 in
theorem gX4_isAtOrAbove_X4_spread : GoodIn wsX4_isAtOrAbove (wsV RX4 33 RX4 yX4_spread wsX4_spread) := goodIn_app (goodIn_of _ (by decide +kernel)) ggX4_isAtOrAbove_X4_spread
set_option maxRecDepth 20000 in
theorem ggX4_isAtOrAbove_X4_has : GoodIn wsX4_isAtOrAbove wsX4_has := goodIn_r _ [53, 6, 23, 24, 25, 11, 26, 13, 54, 55, 56, 57] (by decide +kernel) (by decide +kernel)
set_option maxRecDepth 20000 in
theorem gX4_isAtOrAbove_X4_has : GoodIn wsX4_isAtOrAbove (wsV RX4 37 RX4 yX4_has wsX4_has) := goodIn_app (goodIn_of _ (by decide +kernel)) ggX4_isAtOrAbove_X4_has
theorem dX4_isAtOrAbove_0 : decode cX4_isAtOrAbove 0 = .ok (.aload_n 0, 1) := by decide +kernel
theorem dX4_isAtOrAbove_1 : decode cX4_isAtOrAbove 1 = .ok (.invokevirtual 27, 3) := by decide +kernel
theorem dX4_isAtOrAbove_4 : decode cX4_isAtOrAbove 4 = .ok (.aload_n 0, 1) := by decide +kernel
theorem dX4_isAtOrAbove_5 : decode cX4_isAtOrAbove 5 = .ok (.iload_n 2, 1) := by decide +kernel
theorem dX4_isAtOrAbove_6 : decode cX4_isAtOrAbove 6 = .ok (.invokevirtual 30, 3) := by decide +kernel
theorem dX4_isAtOrAbove_9 : decode cX4_isAtOrAbove 9 = .ok (.aload_n 0, 1) := by decide +kernel
theorem dX4_isAtOrAbove_10 : decode cX4_isAtOrAbove 10 = .ok (.aload_n 1, 1) := by decide +kernel
theorem dX4_isAtOrAbove_11 : decode cX4_isAtOrAbove 11 = .ok (.invokevirtual 33, 3) := by decide +kernel
theorem dX4_isAtOrAbove_14 : decode cX4_isAtOrAbove 14 = .ok (.aload_n 0, 1) := by decide +kernel
theorem dX4_isAtOrAbove_15 : decode cX4_isAtOrAbove 15 = .ok (.iload_n 3, 1) := by decide +kernel
theorem dX4_isAtOrAbove_16 : decode cX4_isAtOrAbove 16 = .ok (.invokevirtual 37, 3) := by decide +kernel
theorem dX4_isAtOrAbove_19 : decode cX4_isAtOrAbove 19 = .ok (.ireturn, 1) := by decide +kernel
set_option maxRecDepth 20000 in
theorem ggX4_spreadFromUsers_X4_clear : GoodIn wsX4_spreadFromUsers wsX4_clear := goodIn_r _ [5, 6, 7, 8, 9, 10, 11, 12, 13, 14, 15, 16, 17, 70, 71, 72, 73] (by decide +kernel) (by decide +kernel)
set_option maxRecDepth 20000 in
theorem gX4_spreadFromUsers_X4_clear : GoodIn wsX4_spreadFromUsers (wsV RX4 27 RX4 yX4_clear wsX4_clear) := goodIn_app (goodIn_of _ (by decide +kernel)) ggX4_spreadFromUsers_X4_clear
set_option maxRecDepth 20000 in
theorem ggX4_spreadFromUsers_X1_outputsGiven : GoodIn wsX4_spreadFromUsers wsX1_outputsGiven := goodIn_r _ [22, 23, 74, 75, 76, 77, 78, 79, 80, 81, 82, 83] (by decide +kernel) (by decide +kernel)
set_option maxRecDepth 20000 in
theorem gX4_spreadFromUsers_X1_outputsGiven : GoodIn wsX4_spreadFromUsers (wsV RX4 41 RX1 yX1_outputsGiven wsX1_outputsGiven) := goodIn_app (goodIn_of _ (by decide +kernel)) ggX4_spreadFromUsers_X1_outputsGiven
set_option maxRecDepth 20000 in
theorem ggX4_spreadFromUsers_X1_outputLiteral : GoodIn wsX4_spreadFromUsers wsX1_outputLiteral := goodIn_r _ [27, 28, 29, 30, 31, 11, 32, 13, 74, 75, 76, 77, 78, 79, 80, 81, 82, 83, 73] (by decide +kernel) (by decide +kernel)
set_option maxRecDepth 20000 in
theorem gX4_spreadFromUsers_X1_outputLiteral : GoodIn wsX4_spreadFromUsers (wsV RX4 47 RX1 yX1_outputLiteral wsX1_outputLiteral) := goodIn_app (goodIn_of _ (by decide +kernel)) ggX4_spreadFromUsers_X1_outputLiteral
set_option maxRecDepth 20000 in
theorem ggX4_spreadFromUsers_X6_nodeOf : GoodIn wsX4_spreadFromUsers wsX6_nodeOf := goodIn_r _ [35] (by decide +kernel) (by decide +kernel)
set_option maxRecDepth 20000 in
theorem gX4_spreadFromUsers_X6_nodeOf_n50 : GoodIn wsX4_spreadFromUsers (wsX6_nodeOf) := ggX4_spreadFromUsers_X6_nodeOf
set_option maxRecDepth 20000 in
theorem ggX4_spreadFromUsers_X4_mark : GoodIn wsX4_spreadFromUsers wsX4_mark := goodIn_r _ [39, 6, 40, 7, 41, 30, 31, 11, 32, 13, 42, 43, 44, 45, 70, 71, 72, 73] (by decide +kernel) (by decide +kernel)
set_option maxRecDepth 20000 in
theorem gX4_spreadFromUsers_X4_mark : GoodIn wsX4_spreadFromUsers (wsV RX4 30 RX4 yX4_mark wsX4_mark) := goodIn_app (goodIn_of _ (by decide +kernel)) ggX4_spreadFromUsers_X4_mark
set_option maxRecDepth 20000 in
theorem ggX4_spreadFromUsers_X1_nodesGiven : GoodIn wsX4_spreadFromUsers wsX1_nodesGiven := goodIn_r _ [49, 50, 74, 75, 76, 77, 78, 79, 80, 81, 82, 83] (by decide +kernel) (by decide +kernel)
set_option maxRecDepth 20000 in
theorem gX4_spreadFromUsers_X1_nodesGiven : GoodIn wsX4_spreadFromUsers (wsV RX4 53 RX1 yX1_nodesGiven wsX1_nodesGiven) := goodIn_app (goodIn_of _ (by decide +kernel)) ggX4_spreadFromUsers_X1_nodesGiven
set_option maxRecDepth 20000 in
theorem ggX4_spreadFromUsers_X1_nextLiteral : GoodIn wsX4_spreadFromUsers wsX1_nextLiteral := goodIn_r _ [54, 55, 29, 30, 31, 11, 32, 13, 74, 75, 76, 77, 78, 79, 80, 81, 82, 83, 73] (by decide +kernel) (by decide +kernel)
set_option maxRecDepth 20000 in
theorem gX4_spreadFromUsers_X1_nextLiteral : GoodIn wsX4_spreadFromUsers (wsV RX4 56 RX1 yX1_nextLiteral wsX1_nextLiteral) := goodIn_app (goodIn_of _ (by decide +kernel)) ggX4_spreadFromUsers_X1_nextLiteral
set_option maxRecDepth 20000 in
theorem ggX4_spreadFromUsers_X4_spread : GoodIn wsX4_spreadFromUsers wsX4_spread := goodIn_r _ [59, 7, 40, 41, 30, 31, 11, 32, 13, 60, 61, 62, 21, 63, 64, 29, 33, 34, 35, 36, 37, 38, 4, 39, 6, 42, 43, 44, 45, 65, 66, 67, 68, 69, 70, 71, 72, 73, 74, 75, 76, 77, 78, 79, 80, 81, 82, 83] (by decide +kernel) (by decide +kernel)
set_option maxRecDepth 20000 in
theorem gX4_spreadFromUsers_X4_spread : GoodIn wsX4_spreadFromUsers (wsV RX4 33 RX4 yX4_spread wsX4_spread) := goodIn_app (goodIn_of _ (by decide +kernel)) ggX4_spreadFromUsers_X4_spread
theorem dX4_spreadFromUsers_0 : decode cX4_spreadFromUsers 0 = .ok (.aload_n 0, 1) := by decide +kernel
theorem dX4_spreadFromUsers_1 : decode cX4_spreadFromUsers 1 = .ok (.invokevirtual 27, 3) := by decide +kernel
theorem dX4_spreadFromUsers_4 : decode cX4_spreadFromUsers 4 = .ok (.iconst 0, 1) := by decide +kernel
theorem dX4_spreadFromUsers_5 : decode cX4_spreadFromUsers 5 = .ok (.istore_n 2, 1) := by decide +kernel
theorem dX4_spreadFromUsers_6 : decode cX4_spreadFromUsers 6 = .ok (.iload_n 2, 1) := by decide +kernel
theorem dX4_spreadFromUsers_7 : decode cX4_spreadFromUsers 7 = .ok (.aload_n 1, 1) := by decide +kernel
theorem dX4_spreadFromUsers_8 : decode cX4_spreadFromUsers 8 = .ok (.invokevirtual 41, 3) := by decide +kernel
theorem dX4_spreadFromUsers_11 : decode cX4_spreadFromUsers 11 = .ok (.if_icmp .ge 21, 3) := by decide +kernel
theorem dX4_spreadFromUsers_14 : decode cX4_spreadFromUsers 14 = .ok (.aload_n 0, 1) := by decide +kernel
theorem dX4_spreadFromUsers_15 : decode cX4_spreadFromUsers 15 = .ok (.aload_n 1, 1) := by decide +kernel
theorem dX4_spreadFromUsers_16 : decode cX4_spreadFromUsers 16 = .ok (.iload_n 2, 1) := by decide +kernel
theorem dX4_spreadFromUsers_17 : decode cX4_spreadFromUsers 17 = .ok (.invokevirtual 47, 3) := by decide +kernel
theorem dX4_spreadFromUsers_20 : decode cX4_spreadFromUsers 20 = .ok (.invokestatic 50, 3) := by decide +kernel
theorem dX4_spreadFromUsers_23 : decode cX4_spreadFromUsers 23 = .ok (.invokevirtual 30, 3) := by decide +kernel
theorem dX4_spreadFromUsers_26 : decode cX4_spreadFromUsers 26 = .ok (.iinc 2 1, 3) := by decide +kernel
theorem dX4_spreadFromUsers_29 : decode cX4_spreadFromUsers 29 = .ok (.goto (-23), 3) := by decide +kernel
theorem dX4_spreadFromUsers_32 : decode cX4_spreadFromUsers 32 = .ok (.iconst 0, 1) := by decide +kernel
theorem dX4_spreadFromUsers_33 : decode cX4_spreadFromUsers 33 = .ok (.istore_n 2, 1) := by decide +kernel
theorem dX4_spreadFromUsers_34 : decode cX4_spreadFromUsers 34 = .ok (.iload_n 2, 1) := by decide +kernel
theorem dX4_spreadFromUsers_35 : decode cX4_spreadFromUsers 35 = .ok (.aload_n 1, 1) := by decide +kernel
theorem dX4_spreadFromUsers_36 : decode cX4_spreadFromUsers 36 = .ok (.invokevirtual 53, 3) := by decide +kernel
theorem dX4_spreadFromUsers_39 : decode cX4_spreadFromUsers 39 = .ok (.if_icmp .ge 21, 3) := by decide +kernel
theorem dX4_spreadFromUsers_42 : decode cX4_spreadFromUsers 42 = .ok (.aload_n 0, 1) := by decide +kernel
theorem dX4_spreadFromUsers_43 : decode cX4_spreadFromUsers 43 = .ok (.aload_n 1, 1) := by decide +kernel
theorem dX4_spreadFromUsers_44 : decode cX4_spreadFromUsers 44 = .ok (.iload_n 2, 1) := by decide +kernel
theorem dX4_spreadFromUsers_45 : decode cX4_spreadFromUsers 45 = .ok (.invokevirtual 56, 3) := by decide +kernel
theorem dX4_spreadFromUsers_48 : decode cX4_spreadFromUsers 48 = .ok (.invokestatic 50, 3) := by decide +kernel
theorem dX4_spreadFromUsers_51 : decode cX4_spreadFromUsers 51 = .ok (.invokevirtual 30, 3) := by decide +kernel
theorem dX4_spreadFromUsers_54 : decode cX4_spreadFromUsers 54 = .ok (.iinc 2 1, 3) := by decide +kernel
theorem dX4_spreadFromUsers_57 : decode cX4_spreadFromUsers 57 = .ok (.goto (-23), 3) := by decide +kernel
theorem dX4_spreadFromUsers_60 : decode cX4_spreadFromUsers 60 = .ok (.aload_n 0, 1) := by decide +kernel
theorem dX4_spreadFromUsers_61 : decode cX4_spreadFromUsers 61 = .ok (.aload_n 1, 1) := by decide +kernel
theorem dX4_spreadFromUsers_62 : decode cX4_spreadFromUsers 62 = .ok (.invokevirtual 33, 3) := by decide +kernel
theorem dX4_spreadFromUsers_65 : decode cX4_spreadFromUsers 65 = .ok (.return_, 1) := by decide +kernel
set_option maxRecDepth 20000 in
theorem ggX4_clear_X0_fill : GoodIn wsX4_clear wsX0_fill := goodIn_r _ [7, 8, 9, 10, 11, 12, 16] (by decide +kernel) (by decide +kernel)
set_option maxRecDepth 20000 in
theorem gX4_clear_X0_fill : GoodIn wsX4_clear (wsV RX4 59 RX0 yX0_fill wsX0_fill) := goodIn_app (goodIn_of _ (by decide +kernel)) ggX4_clear_X0_fill
theorem dX4_clear_0 : decode cX4_clear 0 = .ok (.aload_n 0, 1) := by decide +kernel
theorem dX4_clear_1 : decode cX4_clear 1 = .ok (.getfield 14, 3) := by decide +kernel
theorem dX4_clear_4 : decode cX4_clear 4 = .ok (.iconst 0, 1) := by decide +kernel
theorem dX4_clear_5 : decode cX4_clear 5 = .ok (.invokevirtual 59, 3) := by decide +kernel
theorem dX4_clear_8 : decode cX4_clear 8 = .ok (.aload_n 0, 1) := by decide +kernel
theorem dX4_clear_9 : decode cX4_clear 9 = .ok (.iconst 0, 1) := by decide +kernel
theorem dX4_clear_10 : decode cX4_clear 10 = .ok (.putfield 62, 3) := by decide +kernel
theorem dX4_clear_13 : decode cX4_clear 13 = .ok (.return_, 1) := by decide +kernel
set_option maxRecDepth 20000 in
theorem ggX4_mark_X0_at : GoodIn wsX4_mark wsX0_at := goodIn_r _ [8, 9, 17] (by decide +kernel) (by decide +kernel)
set_option maxRecDepth 20000 in
theorem gX4_mark_X0_at : GoodIn wsX4_mark (wsV RX4 23 RX0 yX0_at wsX0_at) := goodIn_app (goodIn_of _ (by decide +kernel)) ggX4_mark_X0_at
set_option maxRecDepth 20000 in
theorem ggX4_mark_X0_put : GoodIn wsX4_mark wsX0_put := goodIn_r _ [13, 9, 17] (by decide +kernel) (by decide +kernel)
set_option maxRecDepth 20000 in
theorem gX4_mark_X0_put : GoodIn wsX4_mark (wsV RX4 66 RX0 yX0_put wsX0_put) := goodIn_app (goodIn_of _ (by decide +kernel)) ggX4_mark_X0_put
theorem dX4_mark_0 : decode cX4_mark 0 = .ok (.aload_n 0, 1) := by decide +kernel
theorem dX4_mark_1 : decode cX4_mark 1 = .ok (.getfield 14, 3) := by decide +kernel
theorem dX4_mark_4 : decode cX4_mark 4 = .ok (.iload_n 1, 1) := by decide +kernel
theorem dX4_mark_5 : decode cX4_mark 5 = .ok (.invokevirtual 23, 3) := by decide +kernel
theorem dX4_mark_8 : decode cX4_mark 8 = .ok (.ifCond .ne 34, 3) := by decide +kernel
theorem dX4_mark_11 : decode cX4_mark 11 = .ok (.aload_n 0, 1) := by decide +kernel
theorem dX4_mark_12 : decode cX4_mark 12 = .ok (.getfield 14, 3) := by decide +kernel
theorem dX4_mark_15 : decode cX4_mark 15 = .ok (.iload_n 1, 1) := by decide +kernel
theorem dX4_mark_16 : decode cX4_mark 16 = .ok (.iconst 1, 1) := by decide +kernel
theorem dX4_mark_17 : decode cX4_mark 17 = .ok (.invokevirtual 66, 3) := by decide +kernel
theorem dX4_mark_20 : decode cX4_mark 20 = .ok (.aload_n 0, 1) := by decide +kernel
theorem dX4_mark_21 : decode cX4_mark 21 = .ok (.getfield 20, 3) := by decide +kernel
theorem dX4_mark_24 : decode cX4_mark 24 = .ok (.aload_n 0, 1) := by decide +kernel
theorem dX4_mark_25 : decode cX4_mark 25 = .ok (.getfield 62, 3) := by decide +kernel
theorem dX4_mark_28 : decode cX4_mark 28 = .ok (.iload_n 1, 1) := by decide +kernel
theorem dX4_mark_29 : decode cX4_mark 29 = .ok (.invokevirtual 66, 3) := by decide +kernel
theorem dX4_mark_32 : decode cX4_mark 32 = .ok (.aload_n 0, 1) := by decide +kernel
theorem dX4_mark_33 : decode cX4_mark 33 = .ok (.dup, 1) := by decide +kernel
theorem dX4_mark_34 : decode cX4_mark 34 = .ok (.getfield 62, 3) := by decide +kernel
theorem dX4_mark_37 : decode cX4_mark 37 = .ok (.iconst 1, 1) := by decide +kernel
theorem dX4_mark_38 : decode cX4_mark 38 = .ok (.iadd, 1) := by decide +kernel
theorem dX4_mark_39 : decode cX4_mark 39 = .ok (.putfield 62, 3) := by decide +kernel
theorem dX4_mark_42 : decode cX4_mark 42 = .ok (.return_, 1) := by decide +kernel
set_option maxRecDepth 20000 in
theorem ggX4_spread_X0_at : GoodIn wsX4_spread wsX0_at := goodIn_r _ [7, 8, 37] (by decide +kernel) (by decide +kernel)
set_option maxRecDepth 20000 in
theorem gX4_spread_X0_at : GoodIn wsX4_spread (wsV RX4 23 RX0 yX0_at wsX0_at) := goodIn_app (goodIn_of _ (by decide +kernel)) ggX4_spread_X0_at
set_option maxRecDepth 20000 in
theorem ggX4_spread_X1_lesserFanin : GoodIn wsX4_spread wsX1_lesserFanin := goodIn_r _ [13, 14, 15, 4, 5, 6, 7, 8, 38, 39, 40, 41, 42, 43, 44, 45, 46, 47, 37] (by decide +kernel) (by decide +kernel)
set_option maxRecDepth 20000 in
theorem gX4_spread_X1_lesserFanin : GoodIn wsX4_spread (wsV RX4 70 RX1 yX1_lesserFanin wsX1_lesserFanin) := goodIn_app (goodIn_of _ (by decide +kernel)) ggX4_spread_X1_lesserFanin
set_option maxRecDepth 20000 in
theorem ggX4_spread_X6_nodeOf : GoodIn wsX4_spread wsX6_nodeOf := goodIn_r _ [18] (by decide +kernel) (by decide +kernel)
set_option maxRecDepth 20000 in
theorem gX4_spread_X6_nodeOf_n50 : GoodIn wsX4_spread (wsX6_nodeOf) := ggX4_spread_X6_nodeOf
set_option maxRecDepth 20000 in
theorem ggX4_spread_X4_mark : GoodIn wsX4_spread wsX4_mark := goodIn_r _ [23, 24, 2, 1, 3, 4, 5, 6, 7, 8, 25, 26, 27, 28, 34, 35, 36, 37] (by decide +kernel) (by decide +kernel)
set_option maxRecDepth 20000 in
theorem gX4_spread_X4_mark : GoodIn wsX4_spread (wsV RX4 30 RX4 yX4_mark wsX4_mark) := goodIn_app (goodIn_of _ (by decide +kernel)) ggX4_spread_X4_mark
set_option maxRecDepth 20000 in
theorem ggX4_spread_X1_greaterFanin : GoodIn wsX4_spread wsX1_greaterFanin := goodIn_r _ [32, 33, 15, 4, 5, 6, 7, 8, 38, 39, 40, 41, 42, 43, 44, 45, 46, 47, 37] (by decide +kernel) (by decide +kernel)
set_option maxRecDepth 20000 in
theorem gX4_spread_X1_greaterFanin : GoodIn wsX4_spread (wsV RX4 73 RX1 yX1_greaterFanin wsX1_greaterFanin) := goodIn_app (goodIn_of _ (by decide +kernel)) ggX4_spread_X1_greaterFanin
theorem dX4_spread_0 : decode cX4_spread 0 = .ok (.iconst 0, 1) := by decide +kernel
theorem dX4_spread_1 : decode cX4_spread 1 = .ok (.istore_n 2, 1) := by decide +kernel
theorem dX4_spread_2 : decode cX4_spread 2 = .ok (.iload_n 2, 1) := by decide +kernel
theorem dX4_spread_3 : decode cX4_spread 3 = .ok (.sipush 400, 3) := by decide +kernel
theorem dX4_spread_6 : decode cX4_spread 6 = .ok (.if_icmp .ge 62, 3) := by decide +kernel
theorem dX4_spread_9 : decode cX4_spread 9 = .ok (.aload_n 0, 1) := by decide +kernel
theorem dX4_spread_10 : decode cX4_spread 10 = .ok (.getfield 62, 3) := by decide +kernel
theorem dX4_spread_13 : decode cX4_spread 13 = .ok (.ifCond .le 55, 3) := by decide +kernel
theorem dX4_spread_16 : decode cX4_spread 16 = .ok (.aload_n 0, 1) := by decide +kernel
theorem dX4_spread_17 : decode cX4_spread 17 = .ok (.dup, 1) := by decide +kernel
theorem dX4_spread_18 : decode cX4_spread 18 = .ok (.getfield 62, 3) := by decide +kernel
theorem dX4_spread_21 : decode cX4_spread 21 = .ok (.iconst 1, 1) := by decide +kernel
theorem dX4_spread_22 : decode cX4_spread 22 = .ok (.isub, 1) := by decide +kernel
theorem dX4_spread_23 : decode cX4_spread 23 = .ok (.putfield 62, 3) := by decide +kernel
theorem dX4_spread_26 : decode cX4_spread 26 = .ok (.aload_n 0, 1) := by decide +kernel
theorem dX4_spread_27 : decode cX4_spread 27 = .ok (.getfield 20, 3) := by decide +kernel
theorem dX4_spread_30 : decode cX4_spread 30 = .ok (.aload_n 0, 1) := by decide +kernel
theorem dX4_spread_31 : decode cX4_spread 31 = .ok (.getfield 62, 3) := by decide +kernel
theorem dX4_spread_34 : decode cX4_spread 34 = .ok (.invokevirtual 23, 3) := by decide +kernel
theorem dX4_spread_37 : decode cX4_spread 37 = .ok (.istore_n 3, 1) := by decide +kernel
theorem dX4_spread_38 : decode cX4_spread 38 = .ok (.aload_n 0, 1) := by decide +kernel
theorem dX4_spread_39 : decode cX4_spread 39 = .ok (.aload_n 1, 1) := by decide +kernel
theorem dX4_spread_40 : decode cX4_spread 40 = .ok (.iload_n 3, 1) := by decide +kernel
theorem dX4_spread_41 : decode cX4_spread 41 = .ok (.invokevirtual 70, 3) := by decide +kernel
theorem dX4_spread_44 : decode cX4_spread 44 = .ok (.invokestatic 50, 3) := by decide +kernel
theorem dX4_spread_47 : decode cX4_spread 47 = .ok (.invokevirtual 30, 3) := by decide +kernel
theorem dX4_spread_50 : decode cX4_spread 50 = .ok (.aload_n 0, 1) := by decide +kernel
theorem dX4_spread_51 : decode cX4_spread 51 = .ok (.aload_n 1, 1) := by decide +kernel
theorem dX4_spread_52 : decode cX4_spread 52 = .ok (.iload_n 3, 1) := by decide +kernel
theorem dX4_spread_53 : decode cX4_spread 53 = .ok (.invokevirtual 73, 3) := by decide +kernel
theorem dX4_spread_56 : decode cX4_spread 56 = .ok (.invokestatic 50, 3) := by decide +kernel
theorem dX4_spread_59 : decode cX4_spread 59 = .ok (.invokevirtual 30, 3) := by decide +kernel
theorem dX4_spread_62 : decode cX4_spread 62 = .ok (.iinc 2 1, 3) := by decide +kernel
theorem dX4_spread_65 : decode cX4_spread 65 = .ok (.goto (-63), 3) := by decide +kernel
theorem dX4_spread_68 : decode cX4_spread 68 = .ok (.return_, 1) := by decide +kernel
theorem dX5_init_0 : decode cX5_init 0 = .ok (.aload_n 0, 1) := by decide +kernel
theorem dX5_init_1 : decode cX5_init 1 = .ok (.invokespecial 3, 3) := by decide +kernel
theorem dX5_init_4 : decode cX5_init 4 = .ok (.aload_n 0, 1) := by decide +kernel
theorem dX5_init_5 : decode cX5_init 5 = .ok (.sipush 400, 3) := by decide +kernel
theorem dX5_init_8 : decode cX5_init 8 = .ok (.newarray .long, 2) := by decide +kernel
theorem dX5_init_10 : decode cX5_init 10 = .ok (.putfield 9, 3) := by decide +kernel
theorem dX5_init_13 : decode cX5_init 13 = .ok (.return_, 1) := by decide +kernel
theorem dX5_areWorkedOut_0 : decode cX5_areWorkedOut 0 = .ok (.aload_n 0, 1) := by decide +kernel
theorem dX5_areWorkedOut_1 : decode cX5_areWorkedOut 1 = .ok (.getfield 15, 3) := by decide +kernel
theorem dX5_areWorkedOut_4 : decode cX5_areWorkedOut 4 = .ok (.ireturn, 1) := by decide +kernel
theorem dX5_forget_0 : decode cX5_forget 0 = .ok (.aload_n 0, 1) := by decide +kernel
theorem dX5_forget_1 : decode cX5_forget 1 = .ok (.iconst 0, 1) := by decide +kernel
theorem dX5_forget_2 : decode cX5_forget 2 = .ok (.putfield 15, 3) := by decide +kernel
theorem dX5_forget_5 : decode cX5_forget 5 = .ok (.return_, 1) := by decide +kernel
theorem dX5_at_0 : decode cX5_at 0 = .ok (.iload_n 1, 1) := by decide +kernel
theorem dX5_at_1 : decode cX5_at 1 = .ok (.ifCond .lt 21, 3) := by decide +kernel
theorem dX5_at_4 : decode cX5_at 4 = .ok (.iload_n 1, 1) := by decide +kernel
theorem dX5_at_5 : decode cX5_at 5 = .ok (.aload_n 0, 1) := by decide +kernel
theorem dX5_at_6 : decode cX5_at 6 = .ok (.getfield 9, 3) := by decide +kernel
theorem dX5_at_9 : decode cX5_at 9 = .ok (.arraylength, 1) := by decide +kernel
theorem dX5_at_10 : decode cX5_at 10 = .ok (.if_icmp .ge 12, 3) := by decide +kernel
theorem dX5_at_13 : decode cX5_at 13 = .ok (.aload_n 0, 1) := by decide +kernel
theorem dX5_at_14 : decode cX5_at 14 = .ok (.getfield 9, 3) := by decide +kernel
theorem dX5_at_17 : decode cX5_at 17 = .ok (.iload_n 1, 1) := by decide +kernel
theorem dX5_at_18 : decode cX5_at 18 = .ok (.laload, 1) := by decide +kernel
theorem dX5_at_19 : decode cX5_at 19 = .ok (.goto 4, 3) := by decide +kernel
theorem dX5_at_22 : decode cX5_at 22 = .ok (.lconst 0, 1) := by decide +kernel
theorem dX5_at_23 : decode cX5_at 23 = .ok (.lreturn, 1) := by decide +kernel
set_option maxRecDepth 20000 in
theorem ggX5_workOut_J7_fill_d0a16 : GoodIn wsX5_workOut wsJ7_fill_d0a16 := goodIn_r _ [6] (by decide +kernel) (by decide +kernel)
set_option maxRecDepth 20000 in
theorem gX5_workOut_J7_fill_d0a16 : GoodIn wsX5_workOut (va_wsS RX5 19 yJ7_fill_d0a16 wsJ7_fill_d0a16) := goodIn_app (goodIn_of _ (by decide +kernel)) ggX5_workOut_J7_fill_d0a16
set_option maxRecDepth 20000 in
theorem ggX5_workOut_X5_mixSources : GoodIn wsX5_workOut wsX5_mixSources := goodIn_r _ [11, 12, 13, 14, 15, 16, 17, 18, 19, 20, 21, 22, 23, 24, 25, 26, 27, 28, 29, 30, 10, 31, 32, 33, 34, 35, 36, 37, 38, 1, 69, 70, 71, 72, 73, 74, 75, 76, 77, 78, 79, 67, 68] (by decide +kernel) (by decide +kernel)
set_option maxRecDepth 20000 in
theorem gX5_workOut_X5_mixSources : GoodIn wsX5_workOut (wsV RX5 25 RX5 yX5_mixSources wsX5_mixSources) := goodIn_app (goodIn_of _ (by decide +kernel)) ggX5_workOut_X5_mixSources
set_option maxRecDepth 20000 in
theorem ggX5_workOut_X5_passAnds : GoodIn wsX5_workOut wsX5_passAnds := goodIn_r _ [42, 12, 13, 14, 15, 16, 17, 18, 19, 20, 21, 22, 23, 24, 25, 26, 27, 28, 43, 44, 45, 46, 47, 48, 49, 50, 10, 51, 52, 53, 54, 55, 56, 57, 58, 59, 1, 60, 61, 62, 63, 64, 65, 66, 35, 36, 37, 38, 69, 70, 71, 72, 73, 74, 75, 76, 77, 78, 79, 67, 68] (by decide +kernel) (by decide +kernel)
set_option maxRecDepth 20000 in
theorem gX5_workOut_X5_passAnds : GoodIn wsX5_workOut (wsV RX5 29 RX5 yX5_passAnds wsX5_passAnds) := goodIn_app (goodIn_of _ (by decide +kernel)) ggX5_workOut_X5_passAnds
theorem dX5_workOut_0 : decode cX5_workOut 0 = .ok (.aload_n 0, 1) := by decide +kernel
theorem dX5_workOut_1 : decode cX5_workOut 1 = .ok (.getfield 9, 3) := by decide +kernel
theorem dX5_workOut_4 : decode cX5_workOut 4 = .ok (.lconst 0, 1) := by decide +kernel
theorem dX5_workOut_5 : decode cX5_workOut 5 = .ok (.invokestatic 19, 3) := by decide +kernel
theorem dX5_workOut_8 : decode cX5_workOut 8 = .ok (.aload_n 0, 1) := by decide +kernel
theorem dX5_workOut_9 : decode cX5_workOut 9 = .ok (.aload_n 1, 1) := by decide +kernel
theorem dX5_workOut_10 : decode cX5_workOut 10 = .ok (.lload_n 2, 1) := by decide +kernel
theorem dX5_workOut_11 : decode cX5_workOut 11 = .ok (.invokevirtual 25, 3) := by decide +kernel
theorem dX5_workOut_14 : decode cX5_workOut 14 = .ok (.iconst 1, 1) := by decide +kernel
theorem dX5_workOut_15 : decode cX5_workOut 15 = .ok (.istore 4, 2) := by decide +kernel
theorem dX5_workOut_17 : decode cX5_workOut 17 = .ok (.iconst 0, 1) := by decide +kernel
theorem dX5_workOut_18 : decode cX5_workOut 18 = .ok (.istore 5, 2) := by decide +kernel
theorem dX5_workOut_20 : decode cX5_workOut 20 = .ok (.iload 5, 2) := by decide +kernel
theorem dX5_workOut_22 : decode cX5_workOut 22 = .ok (.sipush 400, 3) := by decide +kernel
theorem dX5_workOut_25 : decode cX5_workOut 25 = .ok (.if_icmp .ge 21, 3) := by decide +kernel
theorem dX5_workOut_28 : decode cX5_workOut 28 = .ok (.iload 4, 2) := by decide +kernel
theorem dX5_workOut_30 : decode cX5_workOut 30 = .ok (.ifCond .eq 16, 3) := by decide +kernel
theorem dX5_workOut_33 : decode cX5_workOut 33 = .ok (.aload_n 0, 1) := by decide +kernel
theorem dX5_workOut_34 : decode cX5_workOut 34 = .ok (.aload_n 1, 1) := by decide +kernel
theorem dX5_workOut_35 : decode cX5_workOut 35 = .ok (.invokevirtual 29, 3) := by decide +kernel
theorem dX5_workOut_38 : decode cX5_workOut 38 = .ok (.istore 4, 2) := by decide +kernel
theorem dX5_workOut_40 : decode cX5_workOut 40 = .ok (.iinc 5 1, 3) := by decide +kernel
theorem dX5_workOut_43 : decode cX5_workOut 43 = .ok (.goto (-23), 3) := by decide +kernel
theorem dX5_workOut_46 : decode cX5_workOut 46 = .ok (.aload_n 0, 1) := by decide +kernel
theorem dX5_workOut_47 : decode cX5_workOut 47 = .ok (.iconst 1, 1) := by decide +kernel
theorem dX5_workOut_48 : decode cX5_workOut 48 = .ok (.putfield 15, 3) := by decide +kernel
theorem dX5_workOut_51 : decode cX5_workOut 51 = .ok (.return_, 1) := by decide +kernel
theorem dX5_put_0 : decode cX5_put 0 = .ok (.iload_n 1, 1) := by decide +kernel
theorem dX5_put_1 : decode cX5_put 1 = .ok (.ifCond .lt 19, 3) := by decide +kernel
theorem dX5_put_4 : decode cX5_put 4 = .ok (.iload_n 1, 1) := by decide +kernel
theorem dX5_put_5 : decode cX5_put 5 = .ok (.aload_n 0, 1) := by decide +kernel
theorem dX5_put_6 : decode cX5_put 6 = .ok (.getfield 9, 3) := by decide +kernel
theorem dX5_put_9 : decode cX5_put 9 = .ok (.arraylength, 1) := by decide +kernel
theorem dX5_put_10 : decode cX5_put 10 = .ok (.if_icmp .ge 10, 3) := by decide +kernel
theorem dX5_put_13 : decode cX5_put 13 = .ok (.aload_n 0, 1) := by decide +kernel
theorem dX5_put_14 : decode cX5_put 14 = .ok (.getfield 9, 3) := by decide +kernel
theorem dX5_put_17 : decode cX5_put 17 = .ok (.iload_n 1, 1) := by decide +kernel
theorem dX5_put_18 : decode cX5_put 18 = .ok (.lload_n 2, 1) := by decide +kernel
theorem dX5_put_19 : decode cX5_put 19 = .ok (.lastore, 1) := by decide +kernel
theorem dX5_put_20 : decode cX5_put 20 = .ok (.return_, 1) := by decide +kernel
set_option maxRecDepth 20000 in
theorem ggX5_mixSources_X1_nodesGiven : GoodIn wsX5_mixSources wsX1_nodesGiven := goodIn_r _ [5, 6, 30, 31, 32, 33, 34, 35, 36, 37, 38, 39] (by decide +kernel) (by decide +kernel)
set_option maxRecDepth 20000 in
theorem gX5_mixSources_X1_nodesGiven : GoodIn wsX5_mixSources (wsV RX5 33 RX1 yX1_nodesGiven wsX1_nodesGiven) := goodIn_app (goodIn_of _ (by decide +kernel)) ggX5_mixSources_X1_nodesGiven
set_option maxRecDepth 20000 in
theorem ggX5_mixSources_X1_sortOf : GoodIn wsX5_mixSources wsX1_sortOf := goodIn_r _ [10, 11, 12, 13, 14, 15, 16, 17, 30, 31, 32, 33, 34, 35, 36, 37, 38, 39, 40] (by decide +kernel) (by decide +kernel)
set_option maxRecDepth 20000 in
theorem gX5_mixSources_X1_sortOf : GoodIn wsX5_mixSources (wsV RX5 39 RX1 yX1_sortOf wsX1_sortOf) := goodIn_app (goodIn_of _ (by decide +kernel)) ggX5_mixSources_X1_sortOf
set_option maxRecDepth 20000 in
theorem ggX5_mixSources_X5_mix : GoodIn wsX5_mixSources wsX5_mix := goodIn_r _ [21, 22, 23, 24] (by decide +kernel) (by decide +kernel)
set_option maxRecDepth 20000 in
theorem gX5_mixSources_X5_mix : GoodIn wsX5_mixSources (va_wsS RX5 43 yX5_mix wsX5_mix) := goodIn_app (goodIn_of _ (by decide +kernel)) ggX5_mixSources_X5_mix
set_option maxRecDepth 20000 in
theorem ggX5_mixSources_X5_put : GoodIn wsX5_mixSources wsX5_put := goodIn_r _ [28, 29, 41, 42] (by decide +kernel) (by decide +kernel)
set_option maxRecDepth 20000 in
theorem gX5_mixSources_X5_put : GoodIn wsX5_mixSources (wsV RX5 47 RX5 yX5_put wsX5_put) := goodIn_app (goodIn_of _ (by decide +kernel)) ggX5_mixSources_X5_put
theorem dX5_mixSources_0 : decode cX5_mixSources 0 = .ok (.iconst 0, 1) := by decide +kernel
theorem dX5_mixSources_1 : decode cX5_mixSources 1 = .ok (.istore 4, 2) := by decide +kernel
theorem dX5_mixSources_3 : decode cX5_mixSources 3 = .ok (.iconst 0, 1) := by decide +kernel
theorem dX5_mixSources_4 : decode cX5_mixSources 4 = .ok (.istore 5, 2) := by decide +kernel
theorem dX5_mixSources_6 : decode cX5_mixSources 6 = .ok (.iload 5, 2) := by decide +kernel
theorem dX5_mixSources_8 : decode cX5_mixSources 8 = .ok (.aload_n 1, 1) := by decide +kernel
theorem dX5_mixSources_9 : decode cX5_mixSources 9 = .ok (.invokevirtual 33, 3) := by decide +kernel
theorem dX5_mixSources_12 : decode cX5_mixSources 12 = .ok (.if_icmp .ge 50, 3) := by decide +kernel
theorem dX5_mixSources_15 : decode cX5_mixSources 15 = .ok (.aload_n 1, 1) := by decide +kernel
theorem dX5_mixSources_16 : decode cX5_mixSources 16 = .ok (.iload 5, 2) := by decide +kernel
theorem dX5_mixSources_18 : decode cX5_mixSources 18 = .ok (.invokevirtual 39, 3) := by decide +kernel
theorem dX5_mixSources_21 : decode cX5_mixSources 21 = .ok (.istore 6, 2) := by decide +kernel
theorem dX5_mixSources_23 : decode cX5_mixSources 23 = .ok (.iload 6, 2) := by decide +kernel
theorem dX5_mixSources_25 : decode cX5_mixSources 25 = .ok (.iconst 1, 1) := by decide +kernel
theorem dX5_mixSources_26 : decode cX5_mixSources 26 = .ok (.if_icmp .eq 15, 3) := by decide +kernel
theorem dX5_mixSources_29 : decode cX5_mixSources 29 = .ok (.iload 6, 2) := by decide +kernel
theorem dX5_mixSources_31 : decode cX5_mixSources 31 = .ok (.iconst 3, 1) := by decide +kernel
theorem dX5_mixSources_32 : decode cX5_mixSources 32 = .ok (.if_icmp .eq 9, 3) := by decide +kernel
theorem dX5_mixSources_35 : decode cX5_mixSources 35 = .ok (.iload 6, 2) := by decide +kernel
theorem dX5_mixSources_37 : decode cX5_mixSources 37 = .ok (.iconst 4, 1) := by decide +kernel
theorem dX5_mixSources_38 : decode cX5_mixSources 38 = .ok (.if_icmp .ne 18, 3) := by decide +kernel
theorem dX5_mixSources_41 : decode cX5_mixSources 41 = .ok (.aload_n 0, 1) := by decide +kernel
theorem dX5_mixSources_42 : decode cX5_mixSources 42 = .ok (.iload 5, 2) := by decide +kernel
theorem dX5_mixSources_44 : decode cX5_mixSources 44 = .ok (.lload_n 2, 1) := by decide +kernel
theorem dX5_mixSources_45 : decode cX5_mixSources 45 = .ok (.iload 4, 2) := by decide +kernel
theorem dX5_mixSources_47 : decode cX5_mixSources 47 = .ok (.invokestatic 43, 3) := by decide +kernel
theorem dX5_mixSources_50 : decode cX5_mixSources 50 = .ok (.invokevirtual 47, 3) := by decide +kernel
theorem dX5_mixSources_53 : decode cX5_mixSources 53 = .ok (.iinc 4 1, 3) := by decide +kernel
theorem dX5_mixSources_56 : decode cX5_mixSources 56 = .ok (.iinc 5 1, 3) := by decide +kernel
theorem dX5_mixSources_59 : decode cX5_mixSources 59 = .ok (.goto (-53), 3) := by decide +kernel
theorem dX5_mixSources_62 : decode cX5_mixSources 62 = .ok (.return_, 1) := by decide +kernel
set_option maxRecDepth 20000 in
theorem ggX5_passAnds_X1_nodesGiven : GoodIn wsX5_passAnds wsX1_nodesGiven := goodIn_r _ [5, 6, 48, 49, 50, 51, 52, 53, 54, 55, 56, 57] (by decide +kernel) (by decide +kernel)
set_option maxRecDepth 20000 in
theorem gX5_passAnds_X1_nodesGiven : GoodIn wsX5_passAnds (wsV RX5 33 RX1 yX1_nodesGiven wsX1_nodesGiven) := goodIn_app (goodIn_of _ (by decide +kernel)) ggX5_passAnds_X1_nodesGiven
set_option maxRecDepth 20000 in
theorem ggX5_passAnds_X1_sortOf : GoodIn wsX5_passAnds wsX1_sortOf := goodIn_r _ [10, 11, 12, 13, 14, 15, 16, 17, 48, 49, 50, 51, 52, 53, 54, 55, 56, 57, 58] (by decide +kernel) (by decide +kernel)
set_option maxRecDepth 20000 in
theorem gX5_passAnds_X1_sortOf : GoodIn wsX5_passAnds (wsV RX5 39 RX1 yX1_sortOf wsX1_sortOf) := goodIn_app (goodIn_of _ (by decide +kernel)) ggX5_passAnds_X1_sortOf
set_option maxRecDepth 20000 in
theorem ggX5_passAnds_X1_lesserFanin : GoodIn wsX5_passAnds wsX1_lesserFanin := goodIn_r _ [21, 22, 12, 13, 14, 15, 16, 17, 48, 49, 50, 51, 52, 53, 54, 55, 56, 57, 58] (by decide +kernel) (by decide +kernel)
set_option maxRecDepth 20000 in
theorem gX5_passAnds_X1_lesserFanin : GoodIn wsX5_passAnds (wsV RX5 51 RX1 yX1_lesserFanin wsX1_lesserFanin) := goodIn_app (goodIn_of _ (by decide +kernel)) ggX5_passAnds_X1_lesserFanin
set_option maxRecDepth 20000 in
theorem ggX5_passAnds_X5_bitsOf : GoodIn wsX5_passAnds wsX5_bitsOf := goodIn_r _ [27, 28, 29, 30, 31, 32, 33, 34, 26, 35, 36, 37, 38, 59, 60] (by decide +kernel) (by decide +kernel)
set_option maxRecDepth 20000 in
theorem gX5_passAnds_X5_bitsOf : GoodIn wsX5_passAnds (wsV RX5 54 RX5 yX5_bitsOf wsX5_bitsOf) := goodIn_app (goodIn_of _ (by decide +kernel)) ggX5_passAnds_X5_bitsOf
set_option maxRecDepth 20000 in
theorem ggX5_passAnds_X1_greaterFanin : GoodIn wsX5_passAnds wsX1_greaterFanin := goodIn_r _ [42, 43, 12, 13, 14, 15, 16, 17, 48, 49, 50, 51, 52, 53, 54, 55, 56, 57, 58] (by decide +kernel) (by decide +kernel)
set_option maxRecDepth 20000 in
theorem gX5_passAnds_X1_greaterFanin : GoodIn wsX5_passAnds (wsV RX5 58 RX1 yX1_greaterFanin wsX1_greaterFanin) := goodIn_app (goodIn_of _ (by decide +kernel)) ggX5_passAnds_X1_greaterFanin
set_option maxRecDepth 20000 in
theorem ggX5_passAnds_X5_at : GoodIn wsX5_passAnds wsX5_at := goodIn_r _ [35, 36, 59, 60] (by decide +kernel) (by decide +kernel)
set_option maxRecDepth 20000 in
theorem gX5_passAnds_X5_at : GoodIn wsX5_passAnds (wsV RX5 61 RX5 yX5_at wsX5_at) := goodIn_app (goodIn_of _ (by decide +kernel)) ggX5_passAnds_X5_at
set_option maxRecDepth 20000 in
theorem ggX5_passAnds_X5_put : GoodIn wsX5_passAnds wsX5_put := goodIn_r _ [47, 36, 59, 60] (by decide +kernel) (by decide +kernel)
set_option maxRecDepth 20000 in
theorem gX5_passAnds_X5_put : GoodIn wsX5_passAnds (wsV RX5 47 RX5 yX5_put wsX5_put) := goodIn_app (goodIn_of _ (by decide +kernel)) ggX5_passAnds_X5_put
