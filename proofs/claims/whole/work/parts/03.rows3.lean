theorem dX7_undo_205 : decode cX7_undo 205 = .ok (.putfield 57, 3) := by decide +kernel
theorem dX7_undo_208 : decode cX7_undo 208 = .ok (.iconst 1, 1) := by decide +kernel
theorem dX7_undo_209 : decode cX7_undo 209 = .ok (.ireturn, 1) := by decide +kernel
theorem dX7_was_0 : decode cX7_was 0 = .ok (.iload_n 1, 1) := by decide +kernel
theorem dX7_was_1 : decode cX7_was 1 = .ok (.ifCond .lt 15, 3) := by decide +kernel
theorem dX7_was_4 : decode cX7_was 4 = .ok (.iload_n 1, 1) := by decide +kernel
theorem dX7_was_5 : decode cX7_was 5 = .ok (.aload_n 0, 1) := by decide +kernel
theorem dX7_was_6 : decode cX7_was 6 = .ok (.getfield 43, 3) := by decide +kernel
theorem dX7_was_9 : decode cX7_was 9 = .ok (.if_icmp .ge 7, 3) := by decide +kernel
theorem dX7_was_12 : decode cX7_was 12 = .ok (.iconst 1, 1) := by decide +kernel
theorem dX7_was_13 : decode cX7_was 13 = .ok (.goto 4, 3) := by decide +kernel
theorem dX7_was_16 : decode cX7_was 16 = .ok (.iconst 0, 1) := by decide +kernel
theorem dX7_was_17 : decode cX7_was 17 = .ok (.ireturn, 1) := by decide +kernel
set_option maxRecDepth 20000 in
theorem ggX7_wrong_X7_was : GoodIn wsX7_wrong wsX7_was := goodIn_r _ [6, 7, 8, 9, 10, 11, 12, 13, 14, 15, 16, 17, 18, 19, 20, 21, 22] (by decide +kernel) (by decide +kernel)
set_option maxRecDepth 20000 in
theorem gX7_wrong_X7_was : GoodIn wsX7_wrong (wsV RX7 61 RX7 yX7_was wsX7_was) := goodIn_app (goodIn_of _ (by decide +kernel)) ggX7_wrong_X7_was
theorem dX7_wrong_0 : decode cX7_wrong 0 = .ok (.iload_n 1, 1) := by decide +kernel
theorem dX7_wrong_1 : decode cX7_wrong 1 = .ok (.ifCond .lt 13, 3) := by decide +kernel
theorem dX7_wrong_4 : decode cX7_wrong 4 = .ok (.aload_n 0, 1) := by decide +kernel
theorem dX7_wrong_5 : decode cX7_wrong 5 = .ok (.iload_n 1, 1) := by decide +kernel
theorem dX7_wrong_6 : decode cX7_wrong 6 = .ok (.iconst 2, 1) := by decide +kernel
theorem dX7_wrong_7 : decode cX7_wrong 7 = .ok (.idiv, 1) := by decide +kernel
theorem dX7_wrong_8 : decode cX7_wrong 8 = .ok (.invokevirtual 61, 3) := by decide +kernel
theorem dX7_wrong_11 : decode cX7_wrong 11 = .ok (.ifCond .ne 7, 3) := by decide +kernel
theorem dX7_wrong_14 : decode cX7_wrong 14 = .ok (.iconst 1, 1) := by decide +kernel
theorem dX7_wrong_15 : decode cX7_wrong 15 = .ok (.goto 20, 3) := by decide +kernel
theorem dX7_wrong_18 : decode cX7_wrong 18 = .ok (.aload_n 0, 1) := by decide +kernel
theorem dX7_wrong_19 : decode cX7_wrong 19 = .ok (.getfield 7, 3) := by decide +kernel
theorem dX7_wrong_22 : decode cX7_wrong 22 = .ok (.iload_n 1, 1) := by decide +kernel
theorem dX7_wrong_23 : decode cX7_wrong 23 = .ok (.iconst 2, 1) := by decide +kernel
theorem dX7_wrong_24 : decode cX7_wrong 24 = .ok (.idiv, 1) := by decide +kernel
theorem dX7_wrong_25 : decode cX7_wrong 25 = .ok (.iaload, 1) := by decide +kernel
theorem dX7_wrong_26 : decode cX7_wrong 26 = .ok (.iconst 5, 1) := by decide +kernel
theorem dX7_wrong_27 : decode cX7_wrong 27 = .ok (.if_icmp .ne 7, 3) := by decide +kernel
theorem dX7_wrong_30 : decode cX7_wrong 30 = .ok (.iconst 2, 1) := by decide +kernel
theorem dX7_wrong_31 : decode cX7_wrong 31 = .ok (.goto 4, 3) := by decide +kernel
theorem dX7_wrong_34 : decode cX7_wrong 34 = .ok (.iconst 0, 1) := by decide +kernel
theorem dX7_wrong_35 : decode cX7_wrong 35 = .ok (.ireturn, 1) := by decide +kernel
theorem dX7_newNode_0 : decode cX7_newNode 0 = .ok (.aload_n 0, 1) := by decide +kernel
theorem dX7_newNode_1 : decode cX7_newNode 1 = .ok (.getfield 7, 3) := by decide +kernel
theorem dX7_newNode_4 : decode cX7_newNode 4 = .ok (.aload_n 0, 1) := by decide +kernel
theorem dX7_newNode_5 : decode cX7_newNode 5 = .ok (.getfield 43, 3) := by decide +kernel
theorem dX7_newNode_8 : decode cX7_newNode 8 = .ok (.iload_n 1, 1) := by decide +kernel
theorem dX7_newNode_9 : decode cX7_newNode 9 = .ok (.iastore, 1) := by decide +kernel
theorem dX7_newNode_10 : decode cX7_newNode 10 = .ok (.aload_n 0, 1) := by decide +kernel
theorem dX7_newNode_11 : decode cX7_newNode 11 = .ok (.getfield 13, 3) := by decide +kernel
theorem dX7_newNode_14 : decode cX7_newNode 14 = .ok (.aload_n 0, 1) := by decide +kernel
theorem dX7_newNode_15 : decode cX7_newNode 15 = .ok (.getfield 43, 3) := by decide +kernel
theorem dX7_newNode_18 : decode cX7_newNode 18 = .ok (.iload_n 2, 1) := by decide +kernel
theorem dX7_newNode_19 : decode cX7_newNode 19 = .ok (.iastore, 1) := by decide +kernel
theorem dX7_newNode_20 : decode cX7_newNode 20 = .ok (.aload_n 0, 1) := by decide +kernel
theorem dX7_newNode_21 : decode cX7_newNode 21 = .ok (.getfield 16, 3) := by decide +kernel
theorem dX7_newNode_24 : decode cX7_newNode 24 = .ok (.aload_n 0, 1) := by decide +kernel
theorem dX7_newNode_25 : decode cX7_newNode 25 = .ok (.getfield 43, 3) := by decide +kernel
theorem dX7_newNode_28 : decode cX7_newNode 28 = .ok (.iload_n 3, 1) := by decide +kernel
theorem dX7_newNode_29 : decode cX7_newNode 29 = .ok (.iastore, 1) := by decide +kernel
theorem dX7_newNode_30 : decode cX7_newNode 30 = .ok (.aload_n 0, 1) := by decide +kernel
theorem dX7_newNode_31 : decode cX7_newNode 31 = .ok (.getfield 19, 3) := by decide +kernel
theorem dX7_newNode_34 : decode cX7_newNode 34 = .ok (.aload_n 0, 1) := by decide +kernel
theorem dX7_newNode_35 : decode cX7_newNode 35 = .ok (.getfield 43, 3) := by decide +kernel
theorem dX7_newNode_38 : decode cX7_newNode 38 = .ok (.iconst (-1), 1) := by decide +kernel
theorem dX7_newNode_39 : decode cX7_newNode 39 = .ok (.iastore, 1) := by decide +kernel
theorem dX7_newNode_40 : decode cX7_newNode 40 = .ok (.aload_n 0, 1) := by decide +kernel
theorem dX7_newNode_41 : decode cX7_newNode 41 = .ok (.dup, 1) := by decide +kernel
theorem dX7_newNode_42 : decode cX7_newNode 42 = .ok (.getfield 43, 3) := by decide +kernel
theorem dX7_newNode_45 : decode cX7_newNode 45 = .ok (.iconst 1, 1) := by decide +kernel
theorem dX7_newNode_46 : decode cX7_newNode 46 = .ok (.iadd, 1) := by decide +kernel
theorem dX7_newNode_47 : decode cX7_newNode 47 = .ok (.putfield 43, 3) := by decide +kernel
theorem dX7_newNode_50 : decode cX7_newNode 50 = .ok (.aload_n 0, 1) := by decide +kernel
theorem dX7_newNode_51 : decode cX7_newNode 51 = .ok (.getfield 43, 3) := by decide +kernel
theorem dX7_newNode_54 : decode cX7_newNode 54 = .ok (.iconst 1, 1) := by decide +kernel
theorem dX7_newNode_55 : decode cX7_newNode 55 = .ok (.isub, 1) := by decide +kernel
theorem dX7_newNode_56 : decode cX7_newNode 56 = .ok (.ireturn, 1) := by decide +kernel
theorem dX7_simple_0 : decode cX7_simple 0 = .ok (.iload_n 1, 1) := by decide +kernel
theorem dX7_simple_1 : decode cX7_simple 1 = .ok (.iload_n 2, 1) := by decide +kernel
theorem dX7_simple_2 : decode cX7_simple 2 = .ok (.if_icmp .ne 5, 3) := by decide +kernel
theorem dX7_simple_5 : decode cX7_simple 5 = .ok (.iload_n 1, 1) := by decide +kernel
theorem dX7_simple_6 : decode cX7_simple 6 = .ok (.ireturn, 1) := by decide +kernel
theorem dX7_simple_7 : decode cX7_simple 7 = .ok (.iload_n 1, 1) := by decide +kernel
theorem dX7_simple_8 : decode cX7_simple 8 = .ok (.iconst 2, 1) := by decide +kernel
theorem dX7_simple_9 : decode cX7_simple 9 = .ok (.idiv, 1) := by decide +kernel
theorem dX7_simple_10 : decode cX7_simple 10 = .ok (.iload_n 2, 1) := by decide +kernel
theorem dX7_simple_11 : decode cX7_simple 11 = .ok (.iconst 2, 1) := by decide +kernel
theorem dX7_simple_12 : decode cX7_simple 12 = .ok (.idiv, 1) := by decide +kernel
theorem dX7_simple_13 : decode cX7_simple 13 = .ok (.if_icmp .eq 11, 3) := by decide +kernel
theorem dX7_simple_16 : decode cX7_simple 16 = .ok (.iload_n 1, 1) := by decide +kernel
theorem dX7_simple_17 : decode cX7_simple 17 = .ok (.ifCond .eq 7, 3) := by decide +kernel
theorem dX7_simple_20 : decode cX7_simple 20 = .ok (.iload_n 2, 1) := by decide +kernel
theorem dX7_simple_21 : decode cX7_simple 21 = .ok (.ifCond .ne 5, 3) := by decide +kernel
theorem dX7_simple_24 : decode cX7_simple 24 = .ok (.iconst 0, 1) := by decide +kernel
theorem dX7_simple_25 : decode cX7_simple 25 = .ok (.ireturn, 1) := by decide +kernel
theorem dX7_simple_26 : decode cX7_simple 26 = .ok (.iload_n 1, 1) := by decide +kernel
theorem dX7_simple_27 : decode cX7_simple 27 = .ok (.iconst 1, 1) := by decide +kernel
theorem dX7_simple_28 : decode cX7_simple 28 = .ok (.if_icmp .eq 8, 3) := by decide +kernel
theorem dX7_simple_31 : decode cX7_simple 31 = .ok (.iload_n 2, 1) := by decide +kernel
theorem dX7_simple_32 : decode cX7_simple 32 = .ok (.iconst 1, 1) := by decide +kernel
theorem dX7_simple_33 : decode cX7_simple 33 = .ok (.if_icmp .ne 14, 3) := by decide +kernel
theorem dX7_simple_36 : decode cX7_simple 36 = .ok (.iload_n 1, 1) := by decide +kernel
theorem dX7_simple_37 : decode cX7_simple 37 = .ok (.iconst 1, 1) := by decide +kernel
theorem dX7_simple_38 : decode cX7_simple 38 = .ok (.if_icmp .ne 7, 3) := by decide +kernel
theorem dX7_simple_41 : decode cX7_simple 41 = .ok (.iload_n 2, 1) := by decide +kernel
theorem dX7_simple_42 : decode cX7_simple 42 = .ok (.goto 4, 3) := by decide +kernel
theorem dX7_simple_45 : decode cX7_simple 45 = .ok (.iload_n 1, 1) := by decide +kernel
theorem dX7_simple_46 : decode cX7_simple 46 = .ok (.ireturn, 1) := by decide +kernel
theorem dX7_simple_47 : decode cX7_simple 47 = .ok (.iconst 0, 1) := by decide +kernel
theorem dX7_simple_48 : decode cX7_simple 48 = .ok (.istore 4, 2) := by decide +kernel
theorem dX7_simple_50 : decode cX7_simple 50 = .ok (.iload 4, 2) := by decide +kernel
theorem dX7_simple_52 : decode cX7_simple 52 = .ok (.aload_n 0, 1) := by decide +kernel
theorem dX7_simple_53 : decode cX7_simple 53 = .ok (.getfield 43, 3) := by decide +kernel
theorem dX7_simple_56 : decode cX7_simple 56 = .ok (.if_icmp .ge 87, 3) := by decide +kernel
theorem dX7_simple_59 : decode cX7_simple 59 = .ok (.aload_n 0, 1) := by decide +kernel
theorem dX7_simple_60 : decode cX7_simple 60 = .ok (.getfield 7, 3) := by decide +kernel
theorem dX7_simple_63 : decode cX7_simple 63 = .ok (.iload 4, 2) := by decide +kernel
theorem dX7_simple_65 : decode cX7_simple 65 = .ok (.iaload, 1) := by decide +kernel
theorem dX7_simple_66 : decode cX7_simple 66 = .ok (.iconst 2, 1) := by decide +kernel
theorem dX7_simple_67 : decode cX7_simple 67 = .ok (.if_icmp .ne 57, 3) := by decide +kernel
theorem dX7_simple_70 : decode cX7_simple 70 = .ok (.iload 4, 2) := by decide +kernel
theorem dX7_simple_72 : decode cX7_simple 72 = .ok (.iload_n 3, 1) := by decide +kernel
theorem dX7_simple_73 : decode cX7_simple 73 = .ok (.if_icmp .eq 51, 3) := by decide +kernel
theorem dX7_simple_76 : decode cX7_simple 76 = .ok (.aload_n 0, 1) := by decide +kernel
theorem dX7_simple_77 : decode cX7_simple 77 = .ok (.getfield 13, 3) := by decide +kernel
theorem dX7_simple_80 : decode cX7_simple 80 = .ok (.iload 4, 2) := by decide +kernel
theorem dX7_simple_82 : decode cX7_simple 82 = .ok (.iaload, 1) := by decide +kernel
theorem dX7_simple_83 : decode cX7_simple 83 = .ok (.iload_n 1, 1) := by decide +kernel
theorem dX7_simple_84 : decode cX7_simple 84 = .ok (.if_icmp .ne 14, 3) := by decide +kernel
theorem dX7_simple_87 : decode cX7_simple 87 = .ok (.aload_n 0, 1) := by decide +kernel
theorem dX7_simple_88 : decode cX7_simple 88 = .ok (.getfield 16, 3) := by decide +kernel
theorem dX7_simple_91 : decode cX7_simple 91 = .ok (.iload 4, 2) := by decide +kernel
theorem dX7_simple_93 : decode cX7_simple 93 = .ok (.iaload, 1) := by decide +kernel
theorem dX7_simple_94 : decode cX7_simple 94 = .ok (.iload_n 2, 1) := by decide +kernel
theorem dX7_simple_95 : decode cX7_simple 95 = .ok (.if_icmp .eq 25, 3) := by decide +kernel
theorem dX7_simple_98 : decode cX7_simple 98 = .ok (.aload_n 0, 1) := by decide +kernel
theorem dX7_simple_99 : decode cX7_simple 99 = .ok (.getfield 13, 3) := by decide +kernel
theorem dX7_simple_102 : decode cX7_simple 102 = .ok (.iload 4, 2) := by decide +kernel
theorem dX7_simple_104 : decode cX7_simple 104 = .ok (.iaload, 1) := by decide +kernel
theorem dX7_simple_105 : decode cX7_simple 105 = .ok (.iload_n 2, 1) := by decide +kernel
theorem dX7_simple_106 : decode cX7_simple 106 = .ok (.if_icmp .ne 18, 3) := by decide +kernel
theorem dX7_simple_109 : decode cX7_simple 109 = .ok (.aload_n 0, 1) := by decide +kernel
theorem dX7_simple_110 : decode cX7_simple 110 = .ok (.getfield 16, 3) := by decide +kernel
theorem dX7_simple_113 : decode cX7_simple 113 = .ok (.iload 4, 2) := by decide +kernel
theorem dX7_simple_115 : decode cX7_simple 115 = .ok (.iaload, 1) := by decide +kernel
theorem dX7_simple_116 : decode cX7_simple 116 = .ok (.iload_n 1, 1) := by decide +kernel
theorem dX7_simple_117 : decode cX7_simple 117 = .ok (.if_icmp .ne 7, 3) := by decide +kernel
theorem dX7_simple_120 : decode cX7_simple 120 = .ok (.iconst 1, 1) := by decide +kernel
theorem dX7_simple_121 : decode cX7_simple 121 = .ok (.goto 4, 3) := by decide +kernel
theorem dX7_simple_124 : decode cX7_simple 124 = .ok (.iconst 0, 1) := by decide +kernel
theorem dX7_simple_125 : decode cX7_simple 125 = .ok (.istore 5, 2) := by decide +kernel
theorem dX7_simple_127 : decode cX7_simple 127 = .ok (.iload 5, 2) := by decide +kernel
theorem dX7_simple_129 : decode cX7_simple 129 = .ok (.ifCond .eq 8, 3) := by decide +kernel
theorem dX7_simple_132 : decode cX7_simple 132 = .ok (.iconst 2, 1) := by decide +kernel
theorem dX7_simple_133 : decode cX7_simple 133 = .ok (.iload 4, 2) := by decide +kernel
theorem dX7_simple_135 : decode cX7_simple 135 = .ok (.imul, 1) := by decide +kernel
theorem dX7_simple_136 : decode cX7_simple 136 = .ok (.ireturn, 1) := by decide +kernel
theorem dX7_simple_137 : decode cX7_simple 137 = .ok (.iinc 4 1, 3) := by decide +kernel
theorem dX7_simple_140 : decode cX7_simple 140 = .ok (.goto (-90), 3) := by decide +kernel
theorem dX7_simple_143 : decode cX7_simple 143 = .ok (.iconst (-1), 1) := by decide +kernel
theorem dX7_simple_144 : decode cX7_simple 144 = .ok (.ireturn, 1) := by decide +kernel
set_option maxRecDepth 20000 in
theorem ggX7_input_X7_save : GoodIn wsX7_input wsX7_save := goodIn_r _ [7, 8, 9, 10, 11, 12, 13, 14, 15, 16, 1, 17, 18, 23, 24, 25, 26, 27, 28, 29, 30, 31, 32, 33, 34, 35, 36, 37] (by decide +kernel) (by decide +kernel)
set_option maxRecDepth 20000 in
theorem gX7_input_X7_save : GoodIn wsX7_input (wsV RX7 65 RX7 yX7_save wsX7_save) := goodIn_app (goodIn_of _ (by decide +kernel)) ggX7_input_X7_save
set_option maxRecDepth 20000 in
theorem ggX7_input_X7_newNode : GoodIn wsX7_input wsX7_newNode := goodIn_r _ [22, 11, 1, 12, 13, 14, 23, 24, 25, 26, 27, 28, 29, 30, 31, 32, 33, 34, 35, 36, 37] (by decide +kernel) (by decide +kernel)
set_option maxRecDepth 20000 in
theorem gX7_input_X7_newNode : GoodIn wsX7_input (wsV RX7 68 RX7 yX7_newNode wsX7_newNode) := goodIn_app (goodIn_of _ (by decide +kernel)) ggX7_input_X7_newNode
theorem dX7_input_0 : decode cX7_input 0 = .ok (.aload_n 0, 1) := by decide +kernel
theorem dX7_input_1 : decode cX7_input 1 = .ok (.aload_n 0, 1) := by decide +kernel
theorem dX7_input_2 : decode cX7_input 2 = .ok (.getfield 43, 3) := by decide +kernel
theorem dX7_input_5 : decode cX7_input 5 = .ok (.sipush 400, 3) := by decide +kernel
theorem dX7_input_8 : decode cX7_input 8 = .ok (.if_icmp .ne 7, 3) := by decide +kernel
theorem dX7_input_11 : decode cX7_input 11 = .ok (.iconst 1, 1) := by decide +kernel
theorem dX7_input_12 : decode cX7_input 12 = .ok (.goto 4, 3) := by decide +kernel
theorem dX7_input_15 : decode cX7_input 15 = .ok (.iconst 0, 1) := by decide +kernel
theorem dX7_input_16 : decode cX7_input 16 = .ok (.putfield 47, 3) := by decide +kernel
theorem dX7_input_19 : decode cX7_input 19 = .ok (.aload_n 0, 1) := by decide +kernel
theorem dX7_input_20 : decode cX7_input 20 = .ok (.getfield 47, 3) := by decide +kernel
theorem dX7_input_23 : decode cX7_input 23 = .ok (.ifCond .le 5, 3) := by decide +kernel
theorem dX7_input_26 : decode cX7_input 26 = .ok (.iconst 0, 1) := by decide +kernel
theorem dX7_input_27 : decode cX7_input 27 = .ok (.ireturn, 1) := by decide +kernel
theorem dX7_input_28 : decode cX7_input 28 = .ok (.aload_n 0, 1) := by decide +kernel
theorem dX7_input_29 : decode cX7_input 29 = .ok (.invokevirtual 65, 3) := by decide +kernel
theorem dX7_input_32 : decode cX7_input 32 = .ok (.iconst 2, 1) := by decide +kernel
theorem dX7_input_33 : decode cX7_input 33 = .ok (.aload_n 0, 1) := by decide +kernel
theorem dX7_input_34 : decode cX7_input 34 = .ok (.iconst 1, 1) := by decide +kernel
theorem dX7_input_35 : decode cX7_input 35 = .ok (.iconst 0, 1) := by decide +kernel
theorem dX7_input_36 : decode cX7_input 36 = .ok (.iconst 0, 1) := by decide +kernel
theorem dX7_input_37 : decode cX7_input 37 = .ok (.invokevirtual 68, 3) := by decide +kernel
theorem dX7_input_40 : decode cX7_input 40 = .ok (.imul, 1) := by decide +kernel
theorem dX7_input_41 : decode cX7_input 41 = .ok (.ireturn, 1) := by decide +kernel
set_option maxRecDepth 20000 in
theorem ggX7_and_X7_wrong : GoodIn wsX7_and wsX7_wrong := goodIn_r _ [7, 8, 9, 10, 11, 6, 12, 2, 35, 36, 37, 38, 39, 40, 41, 42, 43, 44, 45, 46, 47, 48, 49] (by decide +kernel) (by decide +kernel)
set_option maxRecDepth 20000 in
theorem gX7_and_X7_wrong : GoodIn wsX7_and (wsV RX7 72 RX7 yX7_wrong wsX7_wrong) := goodIn_app (goodIn_of _ (by decide +kernel)) ggX7_and_X7_wrong
set_option maxRecDepth 20000 in
theorem ggX7_and_X7_simple : GoodIn wsX7_and wsX7_simple := goodIn_r _ [16, 2, 8, 17, 18, 35, 36, 37, 38, 39, 40, 41, 42, 43, 44, 45, 46, 47, 48, 49] (by decide +kernel) (by decide +kernel)
set_option maxRecDepth 20000 in
theorem gX7_and_X7_simple : GoodIn wsX7_and (wsV RX7 76 RX7 yX7_simple wsX7_simple) := goodIn_app (goodIn_of _ (by decide +kernel)) ggX7_and_X7_simple
set_option maxRecDepth 20000 in
theorem ggX7_and_X7_save : GoodIn wsX7_and wsX7_save := goodIn_r _ [22, 23, 24, 25, 8, 17, 18, 26, 27, 28, 2, 29, 30, 35, 36, 37, 38, 39, 40, 41, 42, 43, 44, 45, 46, 47, 48, 49] (by decide +kernel) (by decide +kernel)
set_option maxRecDepth 20000 in
theorem gX7_and_X7_save : GoodIn wsX7_and (wsV RX7 65 RX7 yX7_save wsX7_save) := goodIn_app (goodIn_of _ (by decide +kernel)) ggX7_and_X7_save
set_option maxRecDepth 20000 in
theorem ggX7_and_X7_newNode : GoodIn wsX7_and wsX7_newNode := goodIn_r _ [34, 8, 2, 17, 18, 26, 35, 36, 37, 38, 39, 40, 41, 42, 43, 44, 45, 46, 47, 48, 49] (by decide +kernel) (by decide +kernel)
set_option maxRecDepth 20000 in
theorem gX7_and_X7_newNode : GoodIn wsX7_and (wsV RX7 68 RX7 yX7_newNode wsX7_newNode) := goodIn_app (goodIn_of _ (by decide +kernel)) ggX7_and_X7_newNode
theorem dX7_and_0 : decode cX7_and 0 = .ok (.aload_n 0, 1) := by decide +kernel
theorem dX7_and_1 : decode cX7_and 1 = .ok (.iload_n 1, 1) := by decide +kernel
theorem dX7_and_2 : decode cX7_and 2 = .ok (.invokevirtual 72, 3) := by decide +kernel
theorem dX7_and_5 : decode cX7_and 5 = .ok (.iconst 1, 1) := by decide +kernel
theorem dX7_and_6 : decode cX7_and 6 = .ok (.if_icmp .eq 12, 3) := by decide +kernel
theorem dX7_and_9 : decode cX7_and 9 = .ok (.aload_n 0, 1) := by decide +kernel
theorem dX7_and_10 : decode cX7_and 10 = .ok (.iload_n 2, 1) := by decide +kernel
theorem dX7_and_11 : decode cX7_and 11 = .ok (.invokevirtual 72, 3) := by decide +kernel
theorem dX7_and_14 : decode cX7_and 14 = .ok (.iconst 1, 1) := by decide +kernel
theorem dX7_and_15 : decode cX7_and 15 = .ok (.if_icmp .ne 7, 3) := by decide +kernel
theorem dX7_and_18 : decode cX7_and 18 = .ok (.iconst 1, 1) := by decide +kernel
theorem dX7_and_19 : decode cX7_and 19 = .ok (.goto 24, 3) := by decide +kernel
theorem dX7_and_22 : decode cX7_and 22 = .ok (.aload_n 0, 1) := by decide +kernel
theorem dX7_and_23 : decode cX7_and 23 = .ok (.iload_n 1, 1) := by decide +kernel
theorem dX7_and_24 : decode cX7_and 24 = .ok (.invokevirtual 72, 3) := by decide +kernel
theorem dX7_and_27 : decode cX7_and 27 = .ok (.ifCond .gt 11, 3) := by decide +kernel
theorem dX7_and_30 : decode cX7_and 30 = .ok (.aload_n 0, 1) := by decide +kernel
theorem dX7_and_31 : decode cX7_and 31 = .ok (.iload_n 2, 1) := by decide +kernel
theorem dX7_and_32 : decode cX7_and 32 = .ok (.invokevirtual 72, 3) := by decide +kernel
theorem dX7_and_35 : decode cX7_and 35 = .ok (.ifCond .le 7, 3) := by decide +kernel
theorem dX7_and_38 : decode cX7_and 38 = .ok (.iconst 2, 1) := by decide +kernel
theorem dX7_and_39 : decode cX7_and 39 = .ok (.goto 4, 3) := by decide +kernel
theorem dX7_and_42 : decode cX7_and 42 = .ok (.iconst 0, 1) := by decide +kernel
theorem dX7_and_43 : decode cX7_and 43 = .ok (.istore_n 3, 1) := by decide +kernel
theorem dX7_and_44 : decode cX7_and 44 = .ok (.aload_n 0, 1) := by decide +kernel
theorem dX7_and_45 : decode cX7_and 45 = .ok (.iload_n 3, 1) := by decide +kernel
theorem dX7_and_46 : decode cX7_and 46 = .ok (.putfield 47, 3) := by decide +kernel
theorem dX7_and_49 : decode cX7_and 49 = .ok (.aload_n 0, 1) := by decide +kernel
theorem dX7_and_50 : decode cX7_and 50 = .ok (.getfield 47, 3) := by decide +kernel
theorem dX7_and_53 : decode cX7_and 53 = .ok (.ifCond .le 5, 3) := by decide +kernel
theorem dX7_and_56 : decode cX7_and 56 = .ok (.iconst 0, 1) := by decide +kernel
theorem dX7_and_57 : decode cX7_and 57 = .ok (.ireturn, 1) := by decide +kernel
theorem dX7_and_58 : decode cX7_and 58 = .ok (.aload_n 0, 1) := by decide +kernel
theorem dX7_and_59 : decode cX7_and 59 = .ok (.iload_n 1, 1) := by decide +kernel
theorem dX7_and_60 : decode cX7_and 60 = .ok (.iload_n 2, 1) := by decide +kernel
theorem dX7_and_61 : decode cX7_and 61 = .ok (.iconst (-1), 1) := by decide +kernel
theorem dX7_and_62 : decode cX7_and 62 = .ok (.invokevirtual 76, 3) := by decide +kernel
theorem dX7_and_65 : decode cX7_and 65 = .ok (.istore 4, 2) := by decide +kernel
theorem dX7_and_67 : decode cX7_and 67 = .ok (.iload 4, 2) := by decide +kernel
theorem dX7_and_69 : decode cX7_and 69 = .ok (.ifCond .lt 6, 3) := by decide +kernel
theorem dX7_and_72 : decode cX7_and 72 = .ok (.iload 4, 2) := by decide +kernel
theorem dX7_and_74 : decode cX7_and 74 = .ok (.ireturn, 1) := by decide +kernel
theorem dX7_and_75 : decode cX7_and 75 = .ok (.aload_n 0, 1) := by decide +kernel
theorem dX7_and_76 : decode cX7_and 76 = .ok (.aload_n 0, 1) := by decide +kernel
theorem dX7_and_77 : decode cX7_and 77 = .ok (.getfield 43, 3) := by decide +kernel
theorem dX7_and_80 : decode cX7_and 80 = .ok (.sipush 400, 3) := by decide +kernel
theorem dX7_and_83 : decode cX7_and 83 = .ok (.if_icmp .ne 7, 3) := by decide +kernel
theorem dX7_and_86 : decode cX7_and 86 = .ok (.iconst 3, 1) := by decide +kernel
theorem dX7_and_87 : decode cX7_and 87 = .ok (.goto 4, 3) := by decide +kernel
theorem dX7_and_90 : decode cX7_and 90 = .ok (.iconst 0, 1) := by decide +kernel
theorem dX7_and_91 : decode cX7_and 91 = .ok (.putfield 47, 3) := by decide +kernel
theorem dX7_and_94 : decode cX7_and 94 = .ok (.aload_n 0, 1) := by decide +kernel
theorem dX7_and_95 : decode cX7_and 95 = .ok (.getfield 47, 3) := by decide +kernel
theorem dX7_and_98 : decode cX7_and 98 = .ok (.ifCond .le 5, 3) := by decide +kernel
theorem dX7_and_101 : decode cX7_and 101 = .ok (.iconst 0, 1) := by decide +kernel
theorem dX7_and_102 : decode cX7_and 102 = .ok (.ireturn, 1) := by decide +kernel
theorem dX7_and_103 : decode cX7_and 103 = .ok (.aload_n 0, 1) := by decide +kernel
theorem dX7_and_104 : decode cX7_and 104 = .ok (.invokevirtual 65, 3) := by decide +kernel
theorem dX7_and_107 : decode cX7_and 107 = .ok (.iconst 2, 1) := by decide +kernel
theorem dX7_and_108 : decode cX7_and 108 = .ok (.aload_n 0, 1) := by decide +kernel
theorem dX7_and_109 : decode cX7_and 109 = .ok (.iconst 2, 1) := by decide +kernel
theorem dX7_and_110 : decode cX7_and 110 = .ok (.iload_n 1, 1) := by decide +kernel
theorem dX7_and_111 : decode cX7_and 111 = .ok (.iload_n 2, 1) := by decide +kernel
theorem dX7_and_112 : decode cX7_and 112 = .ok (.if_icmp .ge 7, 3) := by decide +kernel
theorem dX7_and_115 : decode cX7_and 115 = .ok (.iload_n 1, 1) := by decide +kernel
theorem dX7_and_116 : decode cX7_and 116 = .ok (.goto 4, 3) := by decide +kernel
theorem dX7_and_119 : decode cX7_and 119 = .ok (.iload_n 2, 1) := by decide +kernel
theorem dX7_and_120 : decode cX7_and 120 = .ok (.iload_n 1, 1) := by decide +kernel
theorem dX7_and_121 : decode cX7_and 121 = .ok (.iload_n 2, 1) := by decide +kernel
theorem dX7_and_122 : decode cX7_and 122 = .ok (.if_icmp .ge 7, 3) := by decide +kernel
theorem dX7_and_125 : decode cX7_and 125 = .ok (.iload_n 2, 1) := by decide +kernel
theorem dX7_and_126 : decode cX7_and 126 = .ok (.goto 4, 3) := by decide +kernel
theorem dX7_and_129 : decode cX7_and 129 = .ok (.iload_n 1, 1) := by decide +kernel
theorem dX7_and_130 : decode cX7_and 130 = .ok (.invokevirtual 68, 3) := by decide +kernel
theorem dX7_and_133 : decode cX7_and 133 = .ok (.imul, 1) := by decide +kernel
theorem dX7_and_134 : decode cX7_and 134 = .ok (.ireturn, 1) := by decide +kernel
set_option maxRecDepth 20000 in
theorem ggX7_output_X7_wrong : GoodIn wsX7_output wsX7_wrong := goodIn_r _ [9, 10, 11, 12, 13, 8, 14, 15, 27, 28, 29, 30, 31, 32, 33, 34, 35, 36, 37, 38, 39, 40, 41] (by decide +kernel) (by decide +kernel)
set_option maxRecDepth 20000 in
theorem gX7_output_X7_wrong : GoodIn wsX7_output (wsV RX7 72 RX7 yX7_wrong wsX7_wrong) := goodIn_app (goodIn_of _ (by decide +kernel)) ggX7_output_X7_wrong
set_option maxRecDepth 20000 in
theorem ggX7_output_X7_save : GoodIn wsX7_output wsX7_save := goodIn_r _ [19, 20, 21, 22, 10, 23, 24, 25, 3, 4, 15, 1, 26, 27, 28, 29, 30, 31, 32, 33, 34, 35, 36, 37, 38, 39, 40, 41] (by decide +kernel) (by decide +kernel)
set_option maxRecDepth 20000 in
theorem gX7_output_X7_save : GoodIn wsX7_output (wsV RX7 65 RX7 yX7_save wsX7_save) := goodIn_app (goodIn_of _ (by decide +kernel)) ggX7_output_X7_save
theorem dX7_output_0 : decode cX7_output 0 = .ok (.aload_n 0, 1) := by decide +kernel
theorem dX7_output_1 : decode cX7_output 1 = .ok (.aload_n 0, 1) := by decide +kernel
theorem dX7_output_2 : decode cX7_output 2 = .ok (.iload_n 1, 1) := by decide +kernel
theorem dX7_output_3 : decode cX7_output 3 = .ok (.invokevirtual 72, 3) := by decide +kernel
theorem dX7_output_6 : decode cX7_output 6 = .ok (.ifCond .le 11, 3) := by decide +kernel
theorem dX7_output_9 : decode cX7_output 9 = .ok (.aload_n 0, 1) := by decide +kernel
theorem dX7_output_10 : decode cX7_output 10 = .ok (.iload_n 1, 1) := by decide +kernel
theorem dX7_output_11 : decode cX7_output 11 = .ok (.invokevirtual 72, 3) := by decide +kernel
theorem dX7_output_14 : decode cX7_output 14 = .ok (.goto 17, 3) := by decide +kernel
theorem dX7_output_17 : decode cX7_output 17 = .ok (.aload_n 0, 1) := by decide +kernel
theorem dX7_output_18 : decode cX7_output 18 = .ok (.getfield 54, 3) := by decide +kernel
theorem dX7_output_21 : decode cX7_output 21 = .ok (.bipush 40, 2) := by decide +kernel
theorem dX7_output_23 : decode cX7_output 23 = .ok (.if_icmp .ne 7, 3) := by decide +kernel
theorem dX7_output_26 : decode cX7_output 26 = .ok (.iconst 3, 1) := by decide +kernel
theorem dX7_output_27 : decode cX7_output 27 = .ok (.goto 4, 3) := by decide +kernel
theorem dX7_output_30 : decode cX7_output 30 = .ok (.iconst 0, 1) := by decide +kernel
theorem dX7_output_31 : decode cX7_output 31 = .ok (.putfield 47, 3) := by decide +kernel
theorem dX7_output_34 : decode cX7_output 34 = .ok (.aload_n 0, 1) := by decide +kernel
theorem dX7_output_35 : decode cX7_output 35 = .ok (.getfield 47, 3) := by decide +kernel
theorem dX7_output_38 : decode cX7_output 38 = .ok (.ifCond .le 5, 3) := by decide +kernel
theorem dX7_output_41 : decode cX7_output 41 = .ok (.iconst 0, 1) := by decide +kernel
theorem dX7_output_42 : decode cX7_output 42 = .ok (.ireturn, 1) := by decide +kernel
theorem dX7_output_43 : decode cX7_output 43 = .ok (.aload_n 0, 1) := by decide +kernel
theorem dX7_output_44 : decode cX7_output 44 = .ok (.invokevirtual 65, 3) := by decide +kernel
theorem dX7_output_47 : decode cX7_output 47 = .ok (.aload_n 0, 1) := by decide +kernel
theorem dX7_output_48 : decode cX7_output 48 = .ok (.getfield 22, 3) := by decide +kernel
theorem dX7_output_51 : decode cX7_output 51 = .ok (.aload_n 0, 1) := by decide +kernel
theorem dX7_output_52 : decode cX7_output 52 = .ok (.getfield 54, 3) := by decide +kernel
theorem dX7_output_55 : decode cX7_output 55 = .ok (.iload_n 1, 1) := by decide +kernel
theorem dX7_output_56 : decode cX7_output 56 = .ok (.iastore, 1) := by decide +kernel
theorem dX7_output_57 : decode cX7_output 57 = .ok (.aload_n 0, 1) := by decide +kernel
theorem dX7_output_58 : decode cX7_output 58 = .ok (.getfield 25, 3) := by decide +kernel
theorem dX7_output_61 : decode cX7_output 61 = .ok (.aload_n 0, 1) := by decide +kernel
theorem dX7_output_62 : decode cX7_output 62 = .ok (.getfield 54, 3) := by decide +kernel
theorem dX7_output_65 : decode cX7_output 65 = .ok (.iconst 0, 1) := by decide +kernel
theorem dX7_output_66 : decode cX7_output 66 = .ok (.bastore, 1) := by decide +kernel
theorem dX7_output_67 : decode cX7_output 67 = .ok (.aload_n 0, 1) := by decide +kernel
theorem dX7_output_68 : decode cX7_output 68 = .ok (.dup, 1) := by decide +kernel
theorem dX7_output_69 : decode cX7_output 69 = .ok (.getfield 54, 3) := by decide +kernel
theorem dX7_output_72 : decode cX7_output 72 = .ok (.iconst 1, 1) := by decide +kernel
theorem dX7_output_73 : decode cX7_output 73 = .ok (.iadd, 1) := by decide +kernel
theorem dX7_output_74 : decode cX7_output 74 = .ok (.putfield 54, 3) := by decide +kernel
theorem dX7_output_77 : decode cX7_output 77 = .ok (.aload_n 0, 1) := by decide +kernel
theorem dX7_output_78 : decode cX7_output 78 = .ok (.getfield 54, 3) := by decide +kernel
theorem dX7_output_81 : decode cX7_output 81 = .ok (.iconst 1, 1) := by decide +kernel
theorem dX7_output_82 : decode cX7_output 82 = .ok (.isub, 1) := by decide +kernel
theorem dX7_output_83 : decode cX7_output 83 = .ok (.ireturn, 1) := by decide +kernel
theorem dX7_outputAt_0 : decode cX7_outputAt 0 = .ok (.aload_n 0, 1) := by decide +kernel
theorem dX7_outputAt_1 : decode cX7_outputAt 1 = .ok (.iload_n 1, 1) := by decide +kernel
theorem dX7_outputAt_2 : decode cX7_outputAt 2 = .ok (.ifCond .lt 15, 3) := by decide +kernel
theorem dX7_outputAt_5 : decode cX7_outputAt 5 = .ok (.iload_n 1, 1) := by decide +kernel
theorem dX7_outputAt_6 : decode cX7_outputAt 6 = .ok (.aload_n 0, 1) := by decide +kernel
theorem dX7_outputAt_7 : decode cX7_outputAt 7 = .ok (.getfield 54, 3) := by decide +kernel
theorem dX7_outputAt_10 : decode cX7_outputAt 10 = .ok (.if_icmp .ge 7, 3) := by decide +kernel
theorem dX7_outputAt_13 : decode cX7_outputAt 13 = .ok (.iconst 0, 1) := by decide +kernel
theorem dX7_outputAt_14 : decode cX7_outputAt 14 = .ok (.goto 4, 3) := by decide +kernel
theorem dX7_outputAt_17 : decode cX7_outputAt 17 = .ok (.iconst 1, 1) := by decide +kernel
theorem dX7_outputAt_18 : decode cX7_outputAt 18 = .ok (.putfield 47, 3) := by decide +kernel
theorem dX7_outputAt_21 : decode cX7_outputAt 21 = .ok (.aload_n 0, 1) := by decide +kernel
theorem dX7_outputAt_22 : decode cX7_outputAt 22 = .ok (.getfield 47, 3) := by decide +kernel
theorem dX7_outputAt_25 : decode cX7_outputAt 25 = .ok (.ifCond .le 7, 3) := by decide +kernel
theorem dX7_outputAt_28 : decode cX7_outputAt 28 = .ok (.iconst 0, 1) := by decide +kernel
theorem dX7_outputAt_29 : decode cX7_outputAt 29 = .ok (.goto 22, 3) := by decide +kernel
theorem dX7_outputAt_32 : decode cX7_outputAt 32 = .ok (.aload_n 0, 1) := by decide +kernel
theorem dX7_outputAt_33 : decode cX7_outputAt 33 = .ok (.getfield 25, 3) := by decide +kernel
theorem dX7_outputAt_36 : decode cX7_outputAt 36 = .ok (.iload_n 1, 1) := by decide +kernel
theorem dX7_outputAt_37 : decode cX7_outputAt 37 = .ok (.baload, 1) := by decide +kernel
theorem dX7_outputAt_38 : decode cX7_outputAt 38 = .ok (.ifCond .eq 7, 3) := by decide +kernel
theorem dX7_outputAt_41 : decode cX7_outputAt 41 = .ok (.iconst (-1), 1) := by decide +kernel
theorem dX7_outputAt_42 : decode cX7_outputAt 42 = .ok (.goto 9, 3) := by decide +kernel
theorem dX7_outputAt_45 : decode cX7_outputAt 45 = .ok (.aload_n 0, 1) := by decide +kernel
theorem dX7_outputAt_46 : decode cX7_outputAt 46 = .ok (.getfield 22, 3) := by decide +kernel
theorem dX7_outputAt_49 : decode cX7_outputAt 49 = .ok (.iload_n 1, 1) := by decide +kernel
theorem dX7_outputAt_50 : decode cX7_outputAt 50 = .ok (.iaload, 1) := by decide +kernel
theorem dX7_outputAt_51 : decode cX7_outputAt 51 = .ok (.ireturn, 1) := by decide +kernel
set_option maxRecDepth 20000 in
theorem ggX7_latch_X7_save : GoodIn wsX7_latch wsX7_save := goodIn_r _ [7, 8, 9, 10, 11, 12, 13, 14, 15, 16, 1, 17, 18, 23, 24, 25, 26, 27, 28, 29, 30, 31, 32, 33, 34, 35, 36, 37] (by decide +kernel) (by decide +kernel)
set_option maxRecDepth 20000 in
theorem gX7_latch_X7_save : GoodIn wsX7_latch (wsV RX7 65 RX7 yX7_save wsX7_save) := goodIn_app (goodIn_of _ (by decide +kernel)) ggX7_latch_X7_save
set_option maxRecDepth 20000 in
theorem ggX7_latch_X7_newNode : GoodIn wsX7_latch wsX7_newNode := goodIn_r _ [22, 11, 1, 12, 13, 14, 23, 24, 25, 26, 27, 28, 29, 30, 31, 32, 33, 34, 35, 36, 37] (by decide +kernel) (by decide +kernel)
set_option maxRecDepth 20000 in
theorem gX7_latch_X7_newNode : GoodIn wsX7_latch (wsV RX7 68 RX7 yX7_newNode wsX7_newNode) := goodIn_app (goodIn_of _ (by decide +kernel)) ggX7_latch_X7_newNode
theorem dX7_latch_0 : decode cX7_latch 0 = .ok (.aload_n 0, 1) := by decide +kernel
theorem dX7_latch_1 : decode cX7_latch 1 = .ok (.iload_n 1, 1) := by decide +kernel
theorem dX7_latch_2 : decode cX7_latch 2 = .ok (.ifCond .eq 12, 3) := by decide +kernel
theorem dX7_latch_5 : decode cX7_latch 5 = .ok (.iload_n 1, 1) := by decide +kernel
theorem dX7_latch_6 : decode cX7_latch 6 = .ok (.iconst 1, 1) := by decide +kernel
theorem dX7_latch_7 : decode cX7_latch 7 = .ok (.if_icmp .eq 7, 3) := by decide +kernel
theorem dX7_latch_10 : decode cX7_latch 10 = .ok (.iconst 1, 1) := by decide +kernel
theorem dX7_latch_11 : decode cX7_latch 11 = .ok (.goto 18, 3) := by decide +kernel
theorem dX7_latch_14 : decode cX7_latch 14 = .ok (.aload_n 0, 1) := by decide +kernel
theorem dX7_latch_15 : decode cX7_latch 15 = .ok (.getfield 43, 3) := by decide +kernel
theorem dX7_latch_18 : decode cX7_latch 18 = .ok (.sipush 400, 3) := by decide +kernel
theorem dX7_latch_21 : decode cX7_latch 21 = .ok (.if_icmp .ne 7, 3) := by decide +kernel
theorem dX7_latch_24 : decode cX7_latch 24 = .ok (.iconst 2, 1) := by decide +kernel
theorem dX7_latch_25 : decode cX7_latch 25 = .ok (.goto 4, 3) := by decide +kernel
theorem dX7_latch_28 : decode cX7_latch 28 = .ok (.iconst 0, 1) := by decide +kernel
theorem dX7_latch_29 : decode cX7_latch 29 = .ok (.putfield 47, 3) := by decide +kernel
theorem dX7_latch_32 : decode cX7_latch 32 = .ok (.aload_n 0, 1) := by decide +kernel
theorem dX7_latch_33 : decode cX7_latch 33 = .ok (.getfield 47, 3) := by decide +kernel
theorem dX7_latch_36 : decode cX7_latch 36 = .ok (.ifCond .le 5, 3) := by decide +kernel
theorem dX7_latch_39 : decode cX7_latch 39 = .ok (.iconst 0, 1) := by decide +kernel
theorem dX7_latch_40 : decode cX7_latch 40 = .ok (.ireturn, 1) := by decide +kernel
theorem dX7_latch_41 : decode cX7_latch 41 = .ok (.aload_n 0, 1) := by decide +kernel
theorem dX7_latch_42 : decode cX7_latch 42 = .ok (.invokevirtual 65, 3) := by decide +kernel
theorem dX7_latch_45 : decode cX7_latch 45 = .ok (.iconst 2, 1) := by decide +kernel
theorem dX7_latch_46 : decode cX7_latch 46 = .ok (.aload_n 0, 1) := by decide +kernel
theorem dX7_latch_47 : decode cX7_latch 47 = .ok (.iconst 3, 1) := by decide +kernel
theorem dX7_latch_48 : decode cX7_latch 48 = .ok (.iconst 0, 1) := by decide +kernel
theorem dX7_latch_49 : decode cX7_latch 49 = .ok (.iconst 0, 1) := by decide +kernel
theorem dX7_latch_50 : decode cX7_latch 50 = .ok (.invokevirtual 68, 3) := by decide +kernel
theorem dX7_latch_53 : decode cX7_latch 53 = .ok (.imul, 1) := by decide +kernel
theorem dX7_latch_54 : decode cX7_latch 54 = .ok (.ireturn, 1) := by decide +kernel
set_option maxRecDepth 20000 in
theorem ggX7_wrongLatch_X7_was : GoodIn wsX7_wrongLatch wsX7_was := goodIn_r _ [6, 7, 8, 9, 10, 11, 12, 13, 14, 15, 16, 17, 18, 19, 20, 21, 22] (by decide +kernel) (by decide +kernel)
set_option maxRecDepth 20000 in
theorem gX7_wrongLatch_X7_was : GoodIn wsX7_wrongLatch (wsV RX7 61 RX7 yX7_was wsX7_was) := goodIn_app (goodIn_of _ (by decide +kernel)) ggX7_wrongLatch_X7_was
theorem dX7_wrongLatch_0 : decode cX7_wrongLatch 0 = .ok (.iload_n 1, 1) := by decide +kernel
theorem dX7_wrongLatch_1 : decode cX7_wrongLatch 1 = .ok (.ifCond .lt 13, 3) := by decide +kernel
theorem dX7_wrongLatch_4 : decode cX7_wrongLatch 4 = .ok (.aload_n 0, 1) := by decide +kernel
theorem dX7_wrongLatch_5 : decode cX7_wrongLatch 5 = .ok (.iload_n 1, 1) := by decide +kernel
theorem dX7_wrongLatch_6 : decode cX7_wrongLatch 6 = .ok (.iconst 2, 1) := by decide +kernel
theorem dX7_wrongLatch_7 : decode cX7_wrongLatch 7 = .ok (.idiv, 1) := by decide +kernel
theorem dX7_wrongLatch_8 : decode cX7_wrongLatch 8 = .ok (.invokevirtual 61, 3) := by decide +kernel
theorem dX7_wrongLatch_11 : decode cX7_wrongLatch 11 = .ok (.ifCond .ne 7, 3) := by decide +kernel
theorem dX7_wrongLatch_14 : decode cX7_wrongLatch 14 = .ok (.iconst 1, 1) := by decide +kernel
theorem dX7_wrongLatch_15 : decode cX7_wrongLatch 15 = .ok (.goto 20, 3) := by decide +kernel
theorem dX7_wrongLatch_18 : decode cX7_wrongLatch 18 = .ok (.aload_n 0, 1) := by decide +kernel
theorem dX7_wrongLatch_19 : decode cX7_wrongLatch 19 = .ok (.getfield 7, 3) := by decide +kernel
theorem dX7_wrongLatch_22 : decode cX7_wrongLatch 22 = .ok (.iload_n 1, 1) := by decide +kernel
theorem dX7_wrongLatch_23 : decode cX7_wrongLatch 23 = .ok (.iconst 2, 1) := by decide +kernel
theorem dX7_wrongLatch_24 : decode cX7_wrongLatch 24 = .ok (.idiv, 1) := by decide +kernel
theorem dX7_wrongLatch_25 : decode cX7_wrongLatch 25 = .ok (.iaload, 1) := by decide +kernel
theorem dX7_wrongLatch_26 : decode cX7_wrongLatch 26 = .ok (.iconst 3, 1) := by decide +kernel
theorem dX7_wrongLatch_27 : decode cX7_wrongLatch 27 = .ok (.if_icmp .eq 7, 3) := by decide +kernel
theorem dX7_wrongLatch_30 : decode cX7_wrongLatch 30 = .ok (.iconst 2, 1) := by decide +kernel
theorem dX7_wrongLatch_31 : decode cX7_wrongLatch 31 = .ok (.goto 4, 3) := by decide +kernel
theorem dX7_wrongLatch_34 : decode cX7_wrongLatch 34 = .ok (.iconst 0, 1) := by decide +kernel
theorem dX7_wrongLatch_35 : decode cX7_wrongLatch 35 = .ok (.ireturn, 1) := by decide +kernel
set_option maxRecDepth 20000 in
theorem ggX7_next_X7_wrongLatch : GoodIn wsX7_next wsX7_wrongLatch := goodIn_r _ [7, 8, 9, 10, 11, 6, 12, 13, 31, 32, 33, 34, 35, 36, 37, 38, 39, 40, 41, 42, 43, 44, 45] (by decide +kernel) (by decide +kernel)
set_option maxRecDepth 20000 in
theorem gX7_next_X7_wrongLatch : GoodIn wsX7_next (wsV RX7 79 RX7 yX7_wrongLatch wsX7_wrongLatch) := goodIn_app (goodIn_of _ (by decide +kernel)) ggX7_next_X7_wrongLatch
set_option maxRecDepth 20000 in
theorem ggX7_next_X7_wrong : GoodIn wsX7_next wsX7_wrong := goodIn_r _ [17, 8, 9, 10, 11, 6, 12, 13, 31, 32, 33, 34, 35, 36, 37, 38, 39, 40, 41, 42, 43, 44, 45] (by decide +kernel) (by decide +kernel)
set_option maxRecDepth 20000 in
theorem gX7_next_X7_wrong : GoodIn wsX7_next (wsV RX7 72 RX7 yX7_wrong wsX7_wrong) := goodIn_app (goodIn_of _ (by decide +kernel)) ggX7_next_X7_wrong
set_option maxRecDepth 20000 in
theorem ggX7_next_X7_save : GoodIn wsX7_next wsX7_save := goodIn_r _ [21, 22, 23, 24, 8, 2, 25, 26, 27, 28, 13, 29, 30, 31, 32, 33, 34, 35, 36, 37, 38, 39, 40, 41, 42, 43, 44, 45] (by decide +kernel) (by decide +kernel)
set_option maxRecDepth 20000 in
theorem gX7_next_X7_save : GoodIn wsX7_next (wsV RX7 65 RX7 yX7_save wsX7_save) := goodIn_app (goodIn_of _ (by decide +kernel)) ggX7_next_X7_save
theorem dX7_next_0 : decode cX7_next 0 = .ok (.aload_n 0, 1) := by decide +kernel
theorem dX7_next_1 : decode cX7_next 1 = .ok (.iload_n 1, 1) := by decide +kernel
theorem dX7_next_2 : decode cX7_next 2 = .ok (.invokevirtual 79, 3) := by decide +kernel
theorem dX7_next_5 : decode cX7_next 5 = .ok (.iconst 1, 1) := by decide +kernel
theorem dX7_next_6 : decode cX7_next 6 = .ok (.if_icmp .eq 12, 3) := by decide +kernel
theorem dX7_next_9 : decode cX7_next 9 = .ok (.aload_n 0, 1) := by decide +kernel
theorem dX7_next_10 : decode cX7_next 10 = .ok (.iload_n 2, 1) := by decide +kernel
theorem dX7_next_11 : decode cX7_next 11 = .ok (.invokevirtual 72, 3) := by decide +kernel
theorem dX7_next_14 : decode cX7_next 14 = .ok (.iconst 1, 1) := by decide +kernel
theorem dX7_next_15 : decode cX7_next 15 = .ok (.if_icmp .ne 7, 3) := by decide +kernel
theorem dX7_next_18 : decode cX7_next 18 = .ok (.iconst 1, 1) := by decide +kernel
theorem dX7_next_19 : decode cX7_next 19 = .ok (.goto 4, 3) := by decide +kernel
theorem dX7_next_22 : decode cX7_next 22 = .ok (.iconst 0, 1) := by decide +kernel
theorem dX7_next_23 : decode cX7_next 23 = .ok (.istore_n 3, 1) := by decide +kernel
theorem dX7_next_24 : decode cX7_next 24 = .ok (.aload_n 0, 1) := by decide +kernel
theorem dX7_next_25 : decode cX7_next 25 = .ok (.iload_n 3, 1) := by decide +kernel
theorem dX7_next_26 : decode cX7_next 26 = .ok (.ifCond .eq 7, 3) := by decide +kernel
theorem dX7_next_29 : decode cX7_next 29 = .ok (.iconst 1, 1) := by decide +kernel
theorem dX7_next_30 : decode cX7_next 30 = .ok (.goto 24, 3) := by decide +kernel
theorem dX7_next_33 : decode cX7_next 33 = .ok (.aload_n 0, 1) := by decide +kernel
theorem dX7_next_34 : decode cX7_next 34 = .ok (.iload_n 1, 1) := by decide +kernel
theorem dX7_next_35 : decode cX7_next 35 = .ok (.invokevirtual 79, 3) := by decide +kernel
theorem dX7_next_38 : decode cX7_next 38 = .ok (.ifCond .gt 11, 3) := by decide +kernel
theorem dX7_next_41 : decode cX7_next 41 = .ok (.aload_n 0, 1) := by decide +kernel
theorem dX7_next_42 : decode cX7_next 42 = .ok (.iload_n 2, 1) := by decide +kernel
theorem dX7_next_43 : decode cX7_next 43 = .ok (.invokevirtual 72, 3) := by decide +kernel
theorem dX7_next_46 : decode cX7_next 46 = .ok (.ifCond .le 7, 3) := by decide +kernel
theorem dX7_next_49 : decode cX7_next 49 = .ok (.iconst 2, 1) := by decide +kernel
theorem dX7_next_50 : decode cX7_next 50 = .ok (.goto 4, 3) := by decide +kernel
theorem dX7_next_53 : decode cX7_next 53 = .ok (.iconst 0, 1) := by decide +kernel
theorem dX7_next_54 : decode cX7_next 54 = .ok (.putfield 47, 3) := by decide +kernel
theorem dX7_next_57 : decode cX7_next 57 = .ok (.aload_n 0, 1) := by decide +kernel
theorem dX7_next_58 : decode cX7_next 58 = .ok (.getfield 47, 3) := by decide +kernel
theorem dX7_next_61 : decode cX7_next 61 = .ok (.ifCond .gt 15, 3) := by decide +kernel
theorem dX7_next_64 : decode cX7_next 64 = .ok (.aload_n 0, 1) := by decide +kernel
theorem dX7_next_65 : decode cX7_next 65 = .ok (.getfield 13, 3) := by decide +kernel
theorem dX7_next_68 : decode cX7_next 68 = .ok (.iload_n 1, 1) := by decide +kernel
theorem dX7_next_69 : decode cX7_next 69 = .ok (.iconst 2, 1) := by decide +kernel
theorem dX7_next_70 : decode cX7_next 70 = .ok (.idiv, 1) := by decide +kernel
theorem dX7_next_71 : decode cX7_next 71 = .ok (.iaload, 1) := by decide +kernel
theorem dX7_next_72 : decode cX7_next 72 = .ok (.iload_n 2, 1) := by decide +kernel
theorem dX7_next_73 : decode cX7_next 73 = .ok (.if_icmp .ne 5, 3) := by decide +kernel
theorem dX7_next_76 : decode cX7_next 76 = .ok (.iconst 0, 1) := by decide +kernel
theorem dX7_next_77 : decode cX7_next 77 = .ok (.ireturn, 1) := by decide +kernel
theorem dX7_next_78 : decode cX7_next 78 = .ok (.aload_n 0, 1) := by decide +kernel
theorem dX7_next_79 : decode cX7_next 79 = .ok (.invokevirtual 65, 3) := by decide +kernel
theorem dX7_next_82 : decode cX7_next 82 = .ok (.aload_n 0, 1) := by decide +kernel
theorem dX7_next_83 : decode cX7_next 83 = .ok (.getfield 13, 3) := by decide +kernel
theorem dX7_next_86 : decode cX7_next 86 = .ok (.iload_n 1, 1) := by decide +kernel
theorem dX7_next_87 : decode cX7_next 87 = .ok (.iconst 2, 1) := by decide +kernel
theorem dX7_next_88 : decode cX7_next 88 = .ok (.idiv, 1) := by decide +kernel
theorem dX7_next_89 : decode cX7_next 89 = .ok (.iload_n 2, 1) := by decide +kernel
theorem dX7_next_90 : decode cX7_next 90 = .ok (.iastore, 1) := by decide +kernel
theorem dX7_next_91 : decode cX7_next 91 = .ok (.iconst 1, 1) := by decide +kernel
theorem dX7_next_92 : decode cX7_next 92 = .ok (.ireturn, 1) := by decide +kernel
set_option maxRecDepth 20000 in
theorem ggX7_nextOf_X7_wrongLatch : GoodIn wsX7_nextOf wsX7_wrongLatch := goodIn_r _ [7, 8, 9, 10, 11, 6, 12, 13, 14, 15, 16, 17, 18, 19, 20, 21, 22, 23, 24, 25, 26, 27, 28] (by decide +kernel) (by decide +kernel)
set_option maxRecDepth 20000 in
theorem gX7_nextOf_X7_wrongLatch : GoodIn wsX7_nextOf (wsV RX7 79 RX7 yX7_wrongLatch wsX7_wrongLatch) := goodIn_app (goodIn_of _ (by decide +kernel)) ggX7_nextOf_X7_wrongLatch
theorem dX7_nextOf_0 : decode cX7_nextOf 0 = .ok (.aload_n 0, 1) := by decide +kernel
theorem dX7_nextOf_1 : decode cX7_nextOf 1 = .ok (.aload_n 0, 1) := by decide +kernel
theorem dX7_nextOf_2 : decode cX7_nextOf 2 = .ok (.iload_n 1, 1) := by decide +kernel
theorem dX7_nextOf_3 : decode cX7_nextOf 3 = .ok (.invokevirtual 79, 3) := by decide +kernel
theorem dX7_nextOf_6 : decode cX7_nextOf 6 = .ok (.putfield 47, 3) := by decide +kernel
theorem dX7_nextOf_9 : decode cX7_nextOf 9 = .ok (.aload_n 0, 1) := by decide +kernel
theorem dX7_nextOf_10 : decode cX7_nextOf 10 = .ok (.getfield 47, 3) := by decide +kernel
theorem dX7_nextOf_13 : decode cX7_nextOf 13 = .ok (.ifCond .le 7, 3) := by decide +kernel
theorem dX7_nextOf_16 : decode cX7_nextOf 16 = .ok (.iconst 0, 1) := by decide +kernel
theorem dX7_nextOf_17 : decode cX7_nextOf 17 = .ok (.goto 11, 3) := by decide +kernel
theorem dX7_nextOf_20 : decode cX7_nextOf 20 = .ok (.aload_n 0, 1) := by decide +kernel
theorem dX7_nextOf_21 : decode cX7_nextOf 21 = .ok (.getfield 13, 3) := by decide +kernel
theorem dX7_nextOf_24 : decode cX7_nextOf 24 = .ok (.iload_n 1, 1) := by decide +kernel
theorem dX7_nextOf_25 : decode cX7_nextOf 25 = .ok (.iconst 2, 1) := by decide +kernel
theorem dX7_nextOf_26 : decode cX7_nextOf 26 = .ok (.idiv, 1) := by decide +kernel
theorem dX7_nextOf_27 : decode cX7_nextOf 27 = .ok (.iaload, 1) := by decide +kernel
theorem dX7_nextOf_28 : decode cX7_nextOf 28 = .ok (.ireturn, 1) := by decide +kernel
set_option maxRecDepth 20000 in
theorem ggX7_box_X7_save : GoodIn wsX7_box wsX7_save := goodIn_r _ [9, 10, 11, 12, 13, 14, 15, 16, 17, 2, 3, 1, 18, 23, 24, 25, 26, 27, 28, 29, 30, 31, 32, 33, 34, 35, 36, 37] (by decide +kernel) (by decide +kernel)
set_option maxRecDepth 20000 in
theorem gX7_box_X7_save : GoodIn wsX7_box (wsV RX7 65 RX7 yX7_save wsX7_save) := goodIn_app (goodIn_of _ (by decide +kernel)) ggX7_box_X7_save
set_option maxRecDepth 20000 in
theorem ggX7_box_X7_newNode : GoodIn wsX7_box wsX7_newNode := goodIn_r _ [22, 13, 3, 14, 15, 16, 23, 24, 25, 26, 27, 28, 29, 30, 31, 32, 33, 34, 35, 36, 37] (by decide +kernel) (by decide +kernel)
set_option maxRecDepth 20000 in
theorem gX7_box_X7_newNode : GoodIn wsX7_box (wsV RX7 68 RX7 yX7_newNode wsX7_newNode) := goodIn_app (goodIn_of _ (by decide +kernel)) ggX7_box_X7_newNode
theorem dX7_box_0 : decode cX7_box 0 = .ok (.iconst 0, 1) := by decide +kernel
theorem dX7_box_1 : decode cX7_box 1 = .ok (.istore_n 3, 1) := by decide +kernel
theorem dX7_box_2 : decode cX7_box 2 = .ok (.iload_n 3, 1) := by decide +kernel
theorem dX7_box_3 : decode cX7_box 3 = .ok (.aload_n 0, 1) := by decide +kernel
theorem dX7_box_4 : decode cX7_box 4 = .ok (.getfield 54, 3) := by decide +kernel
theorem dX7_box_7 : decode cX7_box 7 = .ok (.if_icmp .ge 25, 3) := by decide +kernel
theorem dX7_box_10 : decode cX7_box 10 = .ok (.aload_n 0, 1) := by decide +kernel
theorem dX7_box_11 : decode cX7_box 11 = .ok (.getfield 25, 3) := by decide +kernel
theorem dX7_box_14 : decode cX7_box 14 = .ok (.aload_n 0, 1) := by decide +kernel
theorem dX7_box_15 : decode cX7_box 15 = .ok (.getfield 54, 3) := by decide +kernel
theorem dX7_box_18 : decode cX7_box 18 = .ok (.iconst 1, 1) := by decide +kernel
theorem dX7_box_19 : decode cX7_box 19 = .ok (.isub, 1) := by decide +kernel
theorem dX7_box_20 : decode cX7_box 20 = .ok (.iload_n 3, 1) := by decide +kernel
theorem dX7_box_21 : decode cX7_box 21 = .ok (.isub, 1) := by decide +kernel
theorem dX7_box_22 : decode cX7_box 22 = .ok (.baload, 1) := by decide +kernel
theorem dX7_box_23 : decode cX7_box 23 = .ok (.ifCond .ne 9, 3) := by decide +kernel
theorem dX7_box_26 : decode cX7_box 26 = .ok (.iinc 3 1, 3) := by decide +kernel
theorem dX7_box_29 : decode cX7_box 29 = .ok (.goto (-27), 3) := by decide +kernel
theorem dX7_box_32 : decode cX7_box 32 = .ok (.aload_n 0, 1) := by decide +kernel
theorem dX7_box_33 : decode cX7_box 33 = .ok (.iload_n 1, 1) := by decide +kernel
theorem dX7_box_34 : decode cX7_box 34 = .ok (.ifCond .lt 19, 3) := by decide +kernel
theorem dX7_box_37 : decode cX7_box 37 = .ok (.iload_n 1, 1) := by decide +kernel
theorem dX7_box_38 : decode cX7_box 38 = .ok (.iload_n 3, 1) := by decide +kernel
theorem dX7_box_39 : decode cX7_box 39 = .ok (.if_icmp .gt 14, 3) := by decide +kernel
theorem dX7_box_42 : decode cX7_box 42 = .ok (.iload_n 2, 1) := by decide +kernel
theorem dX7_box_43 : decode cX7_box 43 = .ok (.iconst 1, 1) := by decide +kernel
theorem dX7_box_44 : decode cX7_box 44 = .ok (.if_icmp .lt 9, 3) := by decide +kernel
theorem dX7_box_47 : decode cX7_box 47 = .ok (.iload_n 2, 1) := by decide +kernel
theorem dX7_box_48 : decode cX7_box 48 = .ok (.bipush 20, 2) := by decide +kernel
theorem dX7_box_50 : decode cX7_box 50 = .ok (.if_icmp .le 7, 3) := by decide +kernel
theorem dX7_box_53 : decode cX7_box 53 = .ok (.iconst 1, 1) := by decide +kernel
theorem dX7_box_54 : decode cX7_box 54 = .ok (.goto 20, 3) := by decide +kernel
theorem dX7_box_57 : decode cX7_box 57 = .ok (.aload_n 0, 1) := by decide +kernel
theorem dX7_box_58 : decode cX7_box 58 = .ok (.getfield 43, 3) := by decide +kernel
theorem dX7_box_61 : decode cX7_box 61 = .ok (.iload_n 2, 1) := by decide +kernel
theorem dX7_box_62 : decode cX7_box 62 = .ok (.iadd, 1) := by decide +kernel
theorem dX7_box_63 : decode cX7_box 63 = .ok (.sipush 400, 3) := by decide +kernel
theorem dX7_box_66 : decode cX7_box 66 = .ok (.if_icmp .le 7, 3) := by decide +kernel
theorem dX7_box_69 : decode cX7_box 69 = .ok (.iconst 2, 1) := by decide +kernel
theorem dX7_box_70 : decode cX7_box 70 = .ok (.goto 4, 3) := by decide +kernel
theorem dX7_box_73 : decode cX7_box 73 = .ok (.iconst 0, 1) := by decide +kernel
theorem dX7_box_74 : decode cX7_box 74 = .ok (.putfield 47, 3) := by decide +kernel
theorem dX7_box_77 : decode cX7_box 77 = .ok (.aload_n 0, 1) := by decide +kernel
theorem dX7_box_78 : decode cX7_box 78 = .ok (.getfield 47, 3) := by decide +kernel
theorem dX7_box_81 : decode cX7_box 81 = .ok (.ifCond .le 5, 3) := by decide +kernel
theorem dX7_box_84 : decode cX7_box 84 = .ok (.iconst 0, 1) := by decide +kernel
theorem dX7_box_85 : decode cX7_box 85 = .ok (.ireturn, 1) := by decide +kernel
theorem dX7_box_86 : decode cX7_box 86 = .ok (.aload_n 0, 1) := by decide +kernel
theorem dX7_box_87 : decode cX7_box 87 = .ok (.invokevirtual 65, 3) := by decide +kernel
theorem dX7_box_90 : decode cX7_box 90 = .ok (.iconst 0, 1) := by decide +kernel
theorem dX7_box_91 : decode cX7_box 91 = .ok (.istore 4, 2) := by decide +kernel
theorem dX7_box_93 : decode cX7_box 93 = .ok (.iload 4, 2) := by decide +kernel
theorem dX7_box_95 : decode cX7_box 95 = .ok (.iload_n 1, 1) := by decide +kernel
theorem dX7_box_96 : decode cX7_box 96 = .ok (.if_icmp .ge 24, 3) := by decide +kernel
theorem dX7_box_99 : decode cX7_box 99 = .ok (.aload_n 0, 1) := by decide +kernel
theorem dX7_box_100 : decode cX7_box 100 = .ok (.getfield 25, 3) := by decide +kernel
theorem dX7_box_103 : decode cX7_box 103 = .ok (.aload_n 0, 1) := by decide +kernel
theorem dX7_box_104 : decode cX7_box 104 = .ok (.getfield 54, 3) := by decide +kernel
theorem dX7_box_107 : decode cX7_box 107 = .ok (.iconst 1, 1) := by decide +kernel
theorem dX7_box_108 : decode cX7_box 108 = .ok (.isub, 1) := by decide +kernel
theorem dX7_box_109 : decode cX7_box 109 = .ok (.iload 4, 2) := by decide +kernel
theorem dX7_box_111 : decode cX7_box 111 = .ok (.isub, 1) := by decide +kernel
theorem dX7_box_112 : decode cX7_box 112 = .ok (.iconst 1, 1) := by decide +kernel
theorem dX7_box_113 : decode cX7_box 113 = .ok (.bastore, 1) := by decide +kernel
theorem dX7_box_114 : decode cX7_box 114 = .ok (.iinc 4 1, 3) := by decide +kernel
theorem dX7_box_117 : decode cX7_box 117 = .ok (.goto (-24), 3) := by decide +kernel
theorem dX7_box_120 : decode cX7_box 120 = .ok (.aload_n 0, 1) := by decide +kernel
theorem dX7_box_121 : decode cX7_box 121 = .ok (.getfield 43, 3) := by decide +kernel
theorem dX7_box_124 : decode cX7_box 124 = .ok (.istore 4, 2) := by decide +kernel
theorem dX7_box_126 : decode cX7_box 126 = .ok (.iconst 0, 1) := by decide +kernel
theorem dX7_box_127 : decode cX7_box 127 = .ok (.istore 5, 2) := by decide +kernel
theorem dX7_box_129 : decode cX7_box 129 = .ok (.iload 5, 2) := by decide +kernel
theorem dX7_box_131 : decode cX7_box 131 = .ok (.iload_n 2, 1) := by decide +kernel
theorem dX7_box_132 : decode cX7_box 132 = .ok (.if_icmp .ge 17, 3) := by decide +kernel
theorem dX7_box_135 : decode cX7_box 135 = .ok (.aload_n 0, 1) := by decide +kernel
theorem dX7_box_136 : decode cX7_box 136 = .ok (.iconst 4, 1) := by decide +kernel
theorem dX7_box_137 : decode cX7_box 137 = .ok (.iconst 0, 1) := by decide +kernel
theorem dX7_box_138 : decode cX7_box 138 = .ok (.iconst 0, 1) := by decide +kernel
theorem dX7_box_139 : decode cX7_box 139 = .ok (.invokevirtual 68, 3) := by decide +kernel
theorem dX7_box_142 : decode cX7_box 142 = .ok (.pop, 1) := by decide +kernel
theorem dX7_box_143 : decode cX7_box 143 = .ok (.iinc 5 1, 3) := by decide +kernel
theorem dX7_box_146 : decode cX7_box 146 = .ok (.goto (-17), 3) := by decide +kernel
theorem dX7_box_149 : decode cX7_box 149 = .ok (.iconst 2, 1) := by decide +kernel
theorem dX7_box_150 : decode cX7_box 150 = .ok (.iload 4, 2) := by decide +kernel
theorem dX7_box_152 : decode cX7_box 152 = .ok (.imul, 1) := by decide +kernel
theorem dX7_box_153 : decode cX7_box 153 = .ok (.ireturn, 1) := by decide +kernel
theorem dX7_cone_0 : decode cX7_cone 0 = .ok (.iconst 0, 1) := by decide +kernel
theorem dX7_cone_1 : decode cX7_cone 1 = .ok (.istore_n 2, 1) := by decide +kernel
theorem dX7_cone_2 : decode cX7_cone 2 = .ok (.iload_n 2, 1) := by decide +kernel
theorem dX7_cone_3 : decode cX7_cone 3 = .ok (.aload_n 0, 1) := by decide +kernel
theorem dX7_cone_4 : decode cX7_cone 4 = .ok (.getfield 43, 3) := by decide +kernel
theorem dX7_cone_7 : decode cX7_cone 7 = .ok (.if_icmp .ge 25, 3) := by decide +kernel
theorem dX7_cone_10 : decode cX7_cone 10 = .ok (.aload_n 0, 1) := by decide +kernel
theorem dX7_cone_11 : decode cX7_cone 11 = .ok (.getfield 40, 3) := by decide +kernel
theorem dX7_cone_14 : decode cX7_cone 14 = .ok (.iload_n 2, 1) := by decide +kernel
theorem dX7_cone_15 : decode cX7_cone 15 = .ok (.iload_n 2, 1) := by decide +kernel
theorem dX7_cone_16 : decode cX7_cone 16 = .ok (.iload_n 1, 1) := by decide +kernel
theorem dX7_cone_17 : decode cX7_cone 17 = .ok (.if_icmp .ne 7, 3) := by decide +kernel
theorem dX7_cone_20 : decode cX7_cone 20 = .ok (.iconst 1, 1) := by decide +kernel
theorem dX7_cone_21 : decode cX7_cone 21 = .ok (.goto 4, 3) := by decide +kernel
theorem dX7_cone_24 : decode cX7_cone 24 = .ok (.iconst 0, 1) := by decide +kernel
theorem dX7_cone_25 : decode cX7_cone 25 = .ok (.bastore, 1) := by decide +kernel
theorem dX7_cone_26 : decode cX7_cone 26 = .ok (.iinc 2 1, 3) := by decide +kernel
theorem dX7_cone_29 : decode cX7_cone 29 = .ok (.goto (-27), 3) := by decide +kernel
theorem dX7_cone_32 : decode cX7_cone 32 = .ok (.iconst 1, 1) := by decide +kernel
theorem dX7_cone_33 : decode cX7_cone 33 = .ok (.istore_n 2, 1) := by decide +kernel
theorem dX7_cone_34 : decode cX7_cone 34 = .ok (.iload_n 2, 1) := by decide +kernel
theorem dX7_cone_35 : decode cX7_cone 35 = .ok (.ifCond .eq 105, 3) := by decide +kernel
theorem dX7_cone_38 : decode cX7_cone 38 = .ok (.iconst 0, 1) := by decide +kernel
theorem dX7_cone_39 : decode cX7_cone 39 = .ok (.istore_n 2, 1) := by decide +kernel
theorem dX7_cone_40 : decode cX7_cone 40 = .ok (.iconst 0, 1) := by decide +kernel
theorem dX7_cone_41 : decode cX7_cone 41 = .ok (.istore_n 3, 1) := by decide +kernel
theorem dX7_cone_42 : decode cX7_cone 42 = .ok (.iload_n 3, 1) := by decide +kernel
theorem dX7_cone_43 : decode cX7_cone 43 = .ok (.aload_n 0, 1) := by decide +kernel
theorem dX7_cone_44 : decode cX7_cone 44 = .ok (.getfield 43, 3) := by decide +kernel
theorem dX7_cone_47 : decode cX7_cone 47 = .ok (.if_icmp .ge 90, 3) := by decide +kernel
theorem dX7_cone_50 : decode cX7_cone 50 = .ok (.aload_n 0, 1) := by decide +kernel
theorem dX7_cone_51 : decode cX7_cone 51 = .ok (.getfield 40, 3) := by decide +kernel
theorem dX7_cone_54 : decode cX7_cone 54 = .ok (.iload_n 3, 1) := by decide +kernel
theorem dX7_cone_55 : decode cX7_cone 55 = .ok (.baload, 1) := by decide +kernel
theorem dX7_cone_56 : decode cX7_cone 56 = .ok (.ifCond .eq 75, 3) := by decide +kernel
theorem dX7_cone_59 : decode cX7_cone 59 = .ok (.aload_n 0, 1) := by decide +kernel
theorem dX7_cone_60 : decode cX7_cone 60 = .ok (.getfield 7, 3) := by decide +kernel
theorem dX7_cone_63 : decode cX7_cone 63 = .ok (.iload_n 3, 1) := by decide +kernel
theorem dX7_cone_64 : decode cX7_cone 64 = .ok (.iaload, 1) := by decide +kernel
theorem dX7_cone_65 : decode cX7_cone 65 = .ok (.iconst 2, 1) := by decide +kernel
theorem dX7_cone_66 : decode cX7_cone 66 = .ok (.if_icmp .ne 65, 3) := by decide +kernel
theorem dX7_cone_69 : decode cX7_cone 69 = .ok (.aload_n 0, 1) := by decide +kernel
theorem dX7_cone_70 : decode cX7_cone 70 = .ok (.getfield 40, 3) := by decide +kernel
theorem dX7_cone_73 : decode cX7_cone 73 = .ok (.aload_n 0, 1) := by decide +kernel
theorem dX7_cone_74 : decode cX7_cone 74 = .ok (.getfield 13, 3) := by decide +kernel
theorem dX7_cone_77 : decode cX7_cone 77 = .ok (.iload_n 3, 1) := by decide +kernel
theorem dX7_cone_78 : decode cX7_cone 78 = .ok (.iaload, 1) := by decide +kernel
theorem dX7_cone_79 : decode cX7_cone 79 = .ok (.iconst 2, 1) := by decide +kernel
theorem dX7_cone_80 : decode cX7_cone 80 = .ok (.idiv, 1) := by decide +kernel
theorem dX7_cone_81 : decode cX7_cone 81 = .ok (.baload, 1) := by decide +kernel
theorem dX7_cone_82 : decode cX7_cone 82 = .ok (.ifCond .eq 19, 3) := by decide +kernel
theorem dX7_cone_85 : decode cX7_cone 85 = .ok (.aload_n 0, 1) := by decide +kernel
theorem dX7_cone_86 : decode cX7_cone 86 = .ok (.getfield 40, 3) := by decide +kernel
theorem dX7_cone_89 : decode cX7_cone 89 = .ok (.aload_n 0, 1) := by decide +kernel
theorem dX7_cone_90 : decode cX7_cone 90 = .ok (.getfield 16, 3) := by decide +kernel
theorem dX7_cone_93 : decode cX7_cone 93 = .ok (.iload_n 3, 1) := by decide +kernel
theorem dX7_cone_94 : decode cX7_cone 94 = .ok (.iaload, 1) := by decide +kernel
theorem dX7_cone_95 : decode cX7_cone 95 = .ok (.iconst 2, 1) := by decide +kernel
theorem dX7_cone_96 : decode cX7_cone 96 = .ok (.idiv, 1) := by decide +kernel
theorem dX7_cone_97 : decode cX7_cone 97 = .ok (.baload, 1) := by decide +kernel
theorem dX7_cone_98 : decode cX7_cone 98 = .ok (.ifCond .ne 33, 3) := by decide +kernel
theorem dX7_cone_101 : decode cX7_cone 101 = .ok (.aload_n 0, 1) := by decide +kernel
theorem dX7_cone_102 : decode cX7_cone 102 = .ok (.getfield 40, 3) := by decide +kernel
theorem dX7_cone_105 : decode cX7_cone 105 = .ok (.aload_n 0, 1) := by decide +kernel
theorem dX7_cone_106 : decode cX7_cone 106 = .ok (.getfield 13, 3) := by decide +kernel
theorem dX7_cone_109 : decode cX7_cone 109 = .ok (.iload_n 3, 1) := by decide +kernel
theorem dX7_cone_110 : decode cX7_cone 110 = .ok (.iaload, 1) := by decide +kernel
theorem dX7_cone_111 : decode cX7_cone 111 = .ok (.iconst 2, 1) := by decide +kernel
theorem dX7_cone_112 : decode cX7_cone 112 = .ok (.idiv, 1) := by decide +kernel
theorem dX7_cone_113 : decode cX7_cone 113 = .ok (.iconst 1, 1) := by decide +kernel
theorem dX7_cone_114 : decode cX7_cone 114 = .ok (.bastore, 1) := by decide +kernel
theorem dX7_cone_115 : decode cX7_cone 115 = .ok (.aload_n 0, 1) := by decide +kernel
theorem dX7_cone_116 : decode cX7_cone 116 = .ok (.getfield 40, 3) := by decide +kernel
theorem dX7_cone_119 : decode cX7_cone 119 = .ok (.aload_n 0, 1) := by decide +kernel
theorem dX7_cone_120 : decode cX7_cone 120 = .ok (.getfield 16, 3) := by decide +kernel
theorem dX7_cone_123 : decode cX7_cone 123 = .ok (.iload_n 3, 1) := by decide +kernel
theorem dX7_cone_124 : decode cX7_cone 124 = .ok (.iaload, 1) := by decide +kernel
theorem dX7_cone_125 : decode cX7_cone 125 = .ok (.iconst 2, 1) := by decide +kernel
theorem dX7_cone_126 : decode cX7_cone 126 = .ok (.idiv, 1) := by decide +kernel
theorem dX7_cone_127 : decode cX7_cone 127 = .ok (.iconst 1, 1) := by decide +kernel
theorem dX7_cone_128 : decode cX7_cone 128 = .ok (.bastore, 1) := by decide +kernel
theorem dX7_cone_129 : decode cX7_cone 129 = .ok (.iconst 1, 1) := by decide +kernel
theorem dX7_cone_130 : decode cX7_cone 130 = .ok (.istore_n 2, 1) := by decide +kernel
theorem dX7_cone_131 : decode cX7_cone 131 = .ok (.iinc 3 1, 3) := by decide +kernel
theorem dX7_cone_134 : decode cX7_cone 134 = .ok (.goto (-92), 3) := by decide +kernel
theorem dX7_cone_137 : decode cX7_cone 137 = .ok (.goto (-103), 3) := by decide +kernel
theorem dX7_cone_140 : decode cX7_cone 140 = .ok (.return_, 1) := by decide +kernel
theorem dX7_standing_0 : decode cX7_standing 0 = .ok (.iload_n 1, 1) := by decide +kernel
theorem dX7_standing_1 : decode cX7_standing 1 = .ok (.istore_n 2, 1) := by decide +kernel
theorem dX7_standing_2 : decode cX7_standing 2 = .ok (.aload_n 0, 1) := by decide +kernel
theorem dX7_standing_3 : decode cX7_standing 3 = .ok (.getfield 7, 3) := by decide +kernel
theorem dX7_standing_6 : decode cX7_standing 6 = .ok (.iload_n 2, 1) := by decide +kernel
theorem dX7_standing_7 : decode cX7_standing 7 = .ok (.iconst 2, 1) := by decide +kernel
theorem dX7_standing_8 : decode cX7_standing 8 = .ok (.idiv, 1) := by decide +kernel
theorem dX7_standing_9 : decode cX7_standing 9 = .ok (.iaload, 1) := by decide +kernel
theorem dX7_standing_10 : decode cX7_standing 10 = .ok (.iconst 5, 1) := by decide +kernel
theorem dX7_standing_11 : decode cX7_standing 11 = .ok (.if_icmp .ne 30, 3) := by decide +kernel
theorem dX7_standing_14 : decode cX7_standing 14 = .ok (.aload_n 0, 1) := by decide +kernel
theorem dX7_standing_15 : decode cX7_standing 15 = .ok (.getfield 19, 3) := by decide +kernel
theorem dX7_standing_18 : decode cX7_standing 18 = .ok (.iload_n 2, 1) := by decide +kernel
theorem dX7_standing_19 : decode cX7_standing 19 = .ok (.iconst 2, 1) := by decide +kernel
theorem dX7_standing_20 : decode cX7_standing 20 = .ok (.idiv, 1) := by decide +kernel
theorem dX7_standing_21 : decode cX7_standing 21 = .ok (.iaload, 1) := by decide +kernel
theorem dX7_standing_22 : decode cX7_standing 22 = .ok (.ifCond .lt 19, 3) := by decide +kernel
theorem dX7_standing_25 : decode cX7_standing 25 = .ok (.aload_n 0, 1) := by decide +kernel
theorem dX7_standing_26 : decode cX7_standing 26 = .ok (.getfield 19, 3) := by decide +kernel
theorem dX7_standing_29 : decode cX7_standing 29 = .ok (.iload_n 2, 1) := by decide +kernel
theorem dX7_standing_30 : decode cX7_standing 30 = .ok (.iconst 2, 1) := by decide +kernel
theorem dX7_standing_31 : decode cX7_standing 31 = .ok (.idiv, 1) := by decide +kernel
theorem dX7_standing_32 : decode cX7_standing 32 = .ok (.iaload, 1) := by decide +kernel
theorem dX7_standing_33 : decode cX7_standing 33 = .ok (.iload_n 2, 1) := by decide +kernel
theorem dX7_standing_34 : decode cX7_standing 34 = .ok (.iconst 1, 1) := by decide +kernel
theorem dX7_standing_35 : decode cX7_standing 35 = .ok (.iand, 1) := by decide +kernel
theorem dX7_standing_36 : decode cX7_standing 36 = .ok (.ixor, 1) := by decide +kernel
theorem dX7_standing_37 : decode cX7_standing 37 = .ok (.istore_n 2, 1) := by decide +kernel
theorem dX7_standing_38 : decode cX7_standing 38 = .ok (.goto (-36), 3) := by decide +kernel
theorem dX7_standing_41 : decode cX7_standing 41 = .ok (.iload_n 2, 1) := by decide +kernel
theorem dX7_standing_42 : decode cX7_standing 42 = .ok (.ireturn, 1) := by decide +kernel
theorem dX7_isReplaced_0 : decode cX7_isReplaced 0 = .ok (.aload_n 0, 1) := by decide +kernel
theorem dX7_isReplaced_1 : decode cX7_isReplaced 1 = .ok (.getfield 7, 3) := by decide +kernel
theorem dX7_isReplaced_4 : decode cX7_isReplaced 4 = .ok (.iload_n 1, 1) := by decide +kernel
theorem dX7_isReplaced_5 : decode cX7_isReplaced 5 = .ok (.iconst 2, 1) := by decide +kernel
theorem dX7_isReplaced_6 : decode cX7_isReplaced 6 = .ok (.idiv, 1) := by decide +kernel
theorem dX7_isReplaced_7 : decode cX7_isReplaced 7 = .ok (.iaload, 1) := by decide +kernel
theorem dX7_isReplaced_8 : decode cX7_isReplaced 8 = .ok (.iconst 5, 1) := by decide +kernel
theorem dX7_isReplaced_9 : decode cX7_isReplaced 9 = .ok (.if_icmp .ne 7, 3) := by decide +kernel
theorem dX7_isReplaced_12 : decode cX7_isReplaced 12 = .ok (.iconst 1, 1) := by decide +kernel
theorem dX7_isReplaced_13 : decode cX7_isReplaced 13 = .ok (.goto 4, 3) := by decide +kernel
theorem dX7_isReplaced_16 : decode cX7_isReplaced 16 = .ok (.iconst 0, 1) := by decide +kernel
theorem dX7_isReplaced_17 : decode cX7_isReplaced 17 = .ok (.ireturn, 1) := by decide +kernel
theorem dX7_leave_0 : decode cX7_leave 0 = .ok (.aload_n 0, 1) := by decide +kernel
theorem dX7_leave_1 : decode cX7_leave 1 = .ok (.getfield 7, 3) := by decide +kernel
theorem dX7_leave_4 : decode cX7_leave 4 = .ok (.iload_n 1, 1) := by decide +kernel
theorem dX7_leave_5 : decode cX7_leave 5 = .ok (.iconst 5, 1) := by decide +kernel
theorem dX7_leave_6 : decode cX7_leave 6 = .ok (.iastore, 1) := by decide +kernel
theorem dX7_leave_7 : decode cX7_leave 7 = .ok (.aload_n 0, 1) := by decide +kernel
theorem dX7_leave_8 : decode cX7_leave 8 = .ok (.getfield 19, 3) := by decide +kernel
theorem dX7_leave_11 : decode cX7_leave 11 = .ok (.iload_n 1, 1) := by decide +kernel
theorem dX7_leave_12 : decode cX7_leave 12 = .ok (.iload_n 2, 1) := by decide +kernel
theorem dX7_leave_13 : decode cX7_leave 13 = .ok (.iastore, 1) := by decide +kernel
theorem dX7_leave_14 : decode cX7_leave 14 = .ok (.return_, 1) := by decide +kernel
set_option maxRecDepth 20000 in
theorem ggX7_replace_X7_was : GoodIn wsX7_replace wsX7_was := goodIn_r _ [13, 4, 52, 53, 54, 55, 56, 57, 58, 59, 60, 61, 62, 63, 64, 65, 66] (by decide +kernel) (by decide +kernel)
set_option maxRecDepth 20000 in
theorem gX7_replace_X7_was : GoodIn wsX7_replace (wsV RX7 61 RX7 yX7_was wsX7_was) := goodIn_app (goodIn_of _ (by decide +kernel)) ggX7_replace_X7_was
set_option maxRecDepth 20000 in
theorem ggX7_replace_X7_wrong : GoodIn wsX7_replace wsX7_wrong := goodIn_r _ [17, 1, 9, 10, 11, 12, 13, 4, 52, 53, 54, 55, 56, 57, 58, 59, 60, 61, 62, 63, 64, 65, 66] (by decide +kernel) (by decide +kernel)
set_option maxRecDepth 20000 in
theorem gX7_replace_X7_wrong : GoodIn wsX7_replace (wsV RX7 72 RX7 yX7_wrong wsX7_wrong) := goodIn_app (goodIn_of _ (by decide +kernel)) ggX7_replace_X7_wrong
set_option maxRecDepth 20000 in
theorem ggX7_replace_X7_cone : GoodIn wsX7_replace wsX7_cone := goodIn_r _ [21, 4, 3, 1, 5, 6, 52, 53, 54, 55, 56, 57, 58, 59, 60, 61, 62, 63, 64, 65, 66] (by decide +kernel) (by decide +kernel)
set_option maxRecDepth 20000 in
theorem gX7_replace_X7_cone : GoodIn wsX7_replace (wsV RX7 82 RX7 yX7_cone wsX7_cone) := goodIn_app (goodIn_of _ (by decide +kernel)) ggX7_replace_X7_cone
set_option maxRecDepth 20000 in
theorem ggX7_replace_X7_save : GoodIn wsX7_replace wsX7_save := goodIn_r _ [25, 26, 27, 28, 1, 5, 6, 29, 8, 30, 4, 7, 31, 52, 53, 54, 55, 56, 57, 58, 59, 60, 61, 62, 63, 64, 65, 66] (by decide +kernel) (by decide +kernel)
set_option maxRecDepth 20000 in
theorem gX7_replace_X7_save : GoodIn wsX7_replace (wsV RX7 65 RX7 yX7_save wsX7_save) := goodIn_app (goodIn_of _ (by decide +kernel)) ggX7_replace_X7_save
set_option maxRecDepth 20000 in
theorem ggX7_replace_X7_leave : GoodIn wsX7_replace wsX7_leave := goodIn_r _ [35, 1, 29, 52, 53, 54, 55, 56, 57, 58, 59, 60, 61, 62, 63, 64, 65, 66] (by decide +kernel) (by decide +kernel)
set_option maxRecDepth 20000 in
theorem gX7_replace_X7_leave : GoodIn wsX7_replace (wsV RX7 86 RX7 yX7_leave wsX7_leave) := goodIn_app (goodIn_of _ (by decide +kernel)) ggX7_replace_X7_leave
set_option maxRecDepth 20000 in
theorem ggX7_replace_X7_isReplaced : GoodIn wsX7_replace wsX7_isReplaced := goodIn_r _ [39, 1, 52, 53, 54, 55, 56, 57, 58, 59, 60, 61, 62, 63, 64, 65, 66] (by decide +kernel) (by decide +kernel)
set_option maxRecDepth 20000 in
theorem gX7_replace_X7_isReplaced : GoodIn wsX7_replace (wsV RX7 90 RX7 yX7_isReplaced wsX7_isReplaced) := goodIn_app (goodIn_of _ (by decide +kernel)) ggX7_replace_X7_isReplaced
set_option maxRecDepth 20000 in
theorem ggX7_replace_X7_change : GoodIn wsX7_replace wsX7_change := goodIn_r _ [43, 5, 6, 44, 45, 46, 12, 47, 1, 29, 48, 49, 50, 51, 4, 32, 33, 34, 35, 52, 53, 54, 55, 56, 57, 58, 59, 60, 61, 62, 63, 64, 65, 66] (by decide +kernel) (by decide +kernel)
set_option maxRecDepth 20000 in
theorem gX7_replace_X7_change : GoodIn wsX7_replace (wsV RX7 93 RX7 yX7_change wsX7_change) := goodIn_app (goodIn_of _ (by decide +kernel)) ggX7_replace_X7_change
set_option maxRecDepth 20000 in
theorem ggX7_replace_X7_standing : GoodIn wsX7_replace wsX7_standing := goodIn_r _ [47, 1, 29, 52, 53, 54, 55, 56, 57, 58, 59, 60, 61, 62, 63, 64, 65, 66] (by decide +kernel) (by decide +kernel)
set_option maxRecDepth 20000 in
theorem gX7_replace_X7_standing : GoodIn wsX7_replace (wsV RX7 96 RX7 yX7_standing wsX7_standing) := goodIn_app (goodIn_of _ (by decide +kernel)) ggX7_replace_X7_standing
theorem dX7_replace_0 : decode cX7_replace 0 = .ok (.aload_n 0, 1) := by decide +kernel
theorem dX7_replace_1 : decode cX7_replace 1 = .ok (.iload_n 1, 1) := by decide +kernel
theorem dX7_replace_2 : decode cX7_replace 2 = .ok (.invokevirtual 61, 3) := by decide +kernel
theorem dX7_replace_5 : decode cX7_replace 5 = .ok (.ifCond .ne 7, 3) := by decide +kernel
theorem dX7_replace_8 : decode cX7_replace 8 = .ok (.iconst 1, 1) := by decide +kernel
theorem dX7_replace_9 : decode cX7_replace 9 = .ok (.goto 28, 3) := by decide +kernel
theorem dX7_replace_12 : decode cX7_replace 12 = .ok (.aload_n 0, 1) := by decide +kernel
theorem dX7_replace_13 : decode cX7_replace 13 = .ok (.getfield 7, 3) := by decide +kernel
theorem dX7_replace_16 : decode cX7_replace 16 = .ok (.iload_n 1, 1) := by decide +kernel
theorem dX7_replace_17 : decode cX7_replace 17 = .ok (.iaload, 1) := by decide +kernel
theorem dX7_replace_18 : decode cX7_replace 18 = .ok (.iconst 1, 1) := by decide +kernel
theorem dX7_replace_19 : decode cX7_replace 19 = .ok (.if_icmp .eq 13, 3) := by decide +kernel
theorem dX7_replace_22 : decode cX7_replace 22 = .ok (.aload_n 0, 1) := by decide +kernel
theorem dX7_replace_23 : decode cX7_replace 23 = .ok (.getfield 7, 3) := by decide +kernel
theorem dX7_replace_26 : decode cX7_replace 26 = .ok (.iload_n 1, 1) := by decide +kernel
theorem dX7_replace_27 : decode cX7_replace 27 = .ok (.iaload, 1) := by decide +kernel
theorem dX7_replace_28 : decode cX7_replace 28 = .ok (.iconst 2, 1) := by decide +kernel
theorem dX7_replace_29 : decode cX7_replace 29 = .ok (.if_icmp .ne 7, 3) := by decide +kernel
theorem dX7_replace_32 : decode cX7_replace 32 = .ok (.iconst 0, 1) := by decide +kernel
theorem dX7_replace_33 : decode cX7_replace 33 = .ok (.goto 4, 3) := by decide +kernel
theorem dX7_replace_36 : decode cX7_replace 36 = .ok (.iconst 2, 1) := by decide +kernel
theorem dX7_replace_37 : decode cX7_replace 37 = .ok (.istore_n 3, 1) := by decide +kernel
theorem dX7_replace_38 : decode cX7_replace 38 = .ok (.aload_n 0, 1) := by decide +kernel
theorem dX7_replace_39 : decode cX7_replace 39 = .ok (.iload_n 3, 1) := by decide +kernel
theorem dX7_replace_40 : decode cX7_replace 40 = .ok (.iconst 1, 1) := by decide +kernel
theorem dX7_replace_41 : decode cX7_replace 41 = .ok (.if_icmp .eq 12, 3) := by decide +kernel
theorem dX7_replace_44 : decode cX7_replace 44 = .ok (.aload_n 0, 1) := by decide +kernel
theorem dX7_replace_45 : decode cX7_replace 45 = .ok (.iload_n 2, 1) := by decide +kernel
theorem dX7_replace_46 : decode cX7_replace 46 = .ok (.invokevirtual 72, 3) := by decide +kernel
theorem dX7_replace_49 : decode cX7_replace 49 = .ok (.iconst 1, 1) := by decide +kernel
theorem dX7_replace_50 : decode cX7_replace 50 = .ok (.if_icmp .ne 7, 3) := by decide +kernel
theorem dX7_replace_53 : decode cX7_replace 53 = .ok (.iconst 1, 1) := by decide +kernel
theorem dX7_replace_54 : decode cX7_replace 54 = .ok (.goto 20, 3) := by decide +kernel
theorem dX7_replace_57 : decode cX7_replace 57 = .ok (.iload_n 3, 1) := by decide +kernel
theorem dX7_replace_58 : decode cX7_replace 58 = .ok (.ifCond .gt 11, 3) := by decide +kernel
theorem dX7_replace_61 : decode cX7_replace 61 = .ok (.aload_n 0, 1) := by decide +kernel
theorem dX7_replace_62 : decode cX7_replace 62 = .ok (.iload_n 2, 1) := by decide +kernel
theorem dX7_replace_63 : decode cX7_replace 63 = .ok (.invokevirtual 72, 3) := by decide +kernel
theorem dX7_replace_66 : decode cX7_replace 66 = .ok (.ifCond .le 7, 3) := by decide +kernel
theorem dX7_replace_69 : decode cX7_replace 69 = .ok (.iconst 2, 1) := by decide +kernel
theorem dX7_replace_70 : decode cX7_replace 70 = .ok (.goto 4, 3) := by decide +kernel
theorem dX7_replace_73 : decode cX7_replace 73 = .ok (.iconst 0, 1) := by decide +kernel
theorem dX7_replace_74 : decode cX7_replace 74 = .ok (.putfield 47, 3) := by decide +kernel
theorem dX7_replace_77 : decode cX7_replace 77 = .ok (.aload_n 0, 1) := by decide +kernel
theorem dX7_replace_78 : decode cX7_replace 78 = .ok (.getfield 47, 3) := by decide +kernel
theorem dX7_replace_81 : decode cX7_replace 81 = .ok (.ifCond .le 5, 3) := by decide +kernel
theorem dX7_replace_84 : decode cX7_replace 84 = .ok (.iconst 0, 1) := by decide +kernel
theorem dX7_replace_85 : decode cX7_replace 85 = .ok (.ireturn, 1) := by decide +kernel
theorem dX7_replace_86 : decode cX7_replace 86 = .ok (.aload_n 0, 1) := by decide +kernel
theorem dX7_replace_87 : decode cX7_replace 87 = .ok (.iload_n 2, 1) := by decide +kernel
theorem dX7_replace_88 : decode cX7_replace 88 = .ok (.iconst 2, 1) := by decide +kernel
theorem dX7_replace_89 : decode cX7_replace 89 = .ok (.idiv, 1) := by decide +kernel
theorem dX7_replace_90 : decode cX7_replace 90 = .ok (.invokevirtual 82, 3) := by decide +kernel
theorem dX7_replace_93 : decode cX7_replace 93 = .ok (.aload_n 0, 1) := by decide +kernel
theorem dX7_replace_94 : decode cX7_replace 94 = .ok (.getfield 40, 3) := by decide +kernel
theorem dX7_replace_97 : decode cX7_replace 97 = .ok (.iload_n 1, 1) := by decide +kernel
theorem dX7_replace_98 : decode cX7_replace 98 = .ok (.baload, 1) := by decide +kernel
theorem dX7_replace_99 : decode cX7_replace 99 = .ok (.ifCond .eq 5, 3) := by decide +kernel
theorem dX7_replace_102 : decode cX7_replace 102 = .ok (.iconst 1, 1) := by decide +kernel
theorem dX7_replace_103 : decode cX7_replace 103 = .ok (.ireturn, 1) := by decide +kernel
theorem dX7_replace_104 : decode cX7_replace 104 = .ok (.aload_n 0, 1) := by decide +kernel
theorem dX7_replace_105 : decode cX7_replace 105 = .ok (.invokevirtual 65, 3) := by decide +kernel
theorem dX7_replace_108 : decode cX7_replace 108 = .ok (.aload_n 0, 1) := by decide +kernel
theorem dX7_replace_109 : decode cX7_replace 109 = .ok (.iload_n 1, 1) := by decide +kernel
theorem dX7_replace_110 : decode cX7_replace 110 = .ok (.iload_n 2, 1) := by decide +kernel
theorem dX7_replace_111 : decode cX7_replace 111 = .ok (.invokevirtual 86, 3) := by decide +kernel
theorem dX7_replace_114 : decode cX7_replace 114 = .ok (.iconst 1, 1) := by decide +kernel
theorem dX7_replace_115 : decode cX7_replace 115 = .ok (.istore 4, 2) := by decide +kernel
theorem dX7_replace_117 : decode cX7_replace 117 = .ok (.iload 4, 2) := by decide +kernel
theorem dX7_replace_119 : decode cX7_replace 119 = .ok (.ifCond .eq 80, 3) := by decide +kernel
theorem dX7_replace_122 : decode cX7_replace 122 = .ok (.iconst 0, 1) := by decide +kernel
theorem dX7_replace_123 : decode cX7_replace 123 = .ok (.istore 4, 2) := by decide +kernel
theorem dX7_replace_125 : decode cX7_replace 125 = .ok (.iconst 0, 1) := by decide +kernel
theorem dX7_replace_126 : decode cX7_replace 126 = .ok (.istore 5, 2) := by decide +kernel
theorem dX7_replace_128 : decode cX7_replace 128 = .ok (.iload 5, 2) := by decide +kernel
theorem dX7_replace_130 : decode cX7_replace 130 = .ok (.aload_n 0, 1) := by decide +kernel
theorem dX7_replace_131 : decode cX7_replace 131 = .ok (.getfield 43, 3) := by decide +kernel
theorem dX7_replace_134 : decode cX7_replace 134 = .ok (.if_icmp .ge 62, 3) := by decide +kernel
theorem dX7_replace_137 : decode cX7_replace 137 = .ok (.iload 4, 2) := by decide +kernel
theorem dX7_replace_139 : decode cX7_replace 139 = .ok (.ifCond .ne 57, 3) := by decide +kernel
theorem dX7_replace_142 : decode cX7_replace 142 = .ok (.aload_n 0, 1) := by decide +kernel
theorem dX7_replace_143 : decode cX7_replace 143 = .ok (.getfield 7, 3) := by decide +kernel
theorem dX7_replace_146 : decode cX7_replace 146 = .ok (.iload 5, 2) := by decide +kernel
theorem dX7_replace_148 : decode cX7_replace 148 = .ok (.iaload, 1) := by decide +kernel
theorem dX7_replace_149 : decode cX7_replace 149 = .ok (.iconst 2, 1) := by decide +kernel
theorem dX7_replace_150 : decode cX7_replace 150 = .ok (.if_icmp .ne 40, 3) := by decide +kernel
theorem dX7_replace_153 : decode cX7_replace 153 = .ok (.aload_n 0, 1) := by decide +kernel
theorem dX7_replace_154 : decode cX7_replace 154 = .ok (.aload_n 0, 1) := by decide +kernel
theorem dX7_replace_155 : decode cX7_replace 155 = .ok (.getfield 13, 3) := by decide +kernel
theorem dX7_replace_158 : decode cX7_replace 158 = .ok (.iload 5, 2) := by decide +kernel
theorem dX7_replace_160 : decode cX7_replace 160 = .ok (.iaload, 1) := by decide +kernel
theorem dX7_replace_161 : decode cX7_replace 161 = .ok (.invokevirtual 90, 3) := by decide +kernel
theorem dX7_replace_164 : decode cX7_replace 164 = .ok (.ifCond .ne 17, 3) := by decide +kernel
theorem dX7_replace_167 : decode cX7_replace 167 = .ok (.aload_n 0, 1) := by decide +kernel
theorem dX7_replace_168 : decode cX7_replace 168 = .ok (.aload_n 0, 1) := by decide +kernel
theorem dX7_replace_169 : decode cX7_replace 169 = .ok (.getfield 16, 3) := by decide +kernel
theorem dX7_replace_172 : decode cX7_replace 172 = .ok (.iload 5, 2) := by decide +kernel
theorem dX7_replace_174 : decode cX7_replace 174 = .ok (.iaload, 1) := by decide +kernel
theorem dX7_replace_175 : decode cX7_replace 175 = .ok (.invokevirtual 90, 3) := by decide +kernel
theorem dX7_replace_178 : decode cX7_replace 178 = .ok (.ifCond .eq 12, 3) := by decide +kernel
theorem dX7_replace_181 : decode cX7_replace 181 = .ok (.iconst 1, 1) := by decide +kernel
theorem dX7_replace_182 : decode cX7_replace 182 = .ok (.istore 4, 2) := by decide +kernel
theorem dX7_replace_184 : decode cX7_replace 184 = .ok (.aload_n 0, 1) := by decide +kernel
theorem dX7_replace_185 : decode cX7_replace 185 = .ok (.iload 5, 2) := by decide +kernel
theorem dX7_replace_187 : decode cX7_replace 187 = .ok (.invokevirtual 93, 3) := by decide +kernel
theorem dX7_replace_190 : decode cX7_replace 190 = .ok (.iinc 5 1, 3) := by decide +kernel
theorem dX7_replace_193 : decode cX7_replace 193 = .ok (.goto (-65), 3) := by decide +kernel
theorem dX7_replace_196 : decode cX7_replace 196 = .ok (.goto (-79), 3) := by decide +kernel
theorem dX7_replace_199 : decode cX7_replace 199 = .ok (.iconst 0, 1) := by decide +kernel
theorem dX7_replace_200 : decode cX7_replace 200 = .ok (.istore 5, 2) := by decide +kernel
theorem dX7_replace_202 : decode cX7_replace 202 = .ok (.iload 5, 2) := by decide +kernel
theorem dX7_replace_204 : decode cX7_replace 204 = .ok (.aload_n 0, 1) := by decide +kernel
theorem dX7_replace_205 : decode cX7_replace 205 = .ok (.getfield 43, 3) := by decide +kernel
theorem dX7_replace_208 : decode cX7_replace 208 = .ok (.if_icmp .ge 48, 3) := by decide +kernel
theorem dX7_replace_211 : decode cX7_replace 211 = .ok (.aload_n 0, 1) := by decide +kernel
theorem dX7_replace_212 : decode cX7_replace 212 = .ok (.getfield 13, 3) := by decide +kernel
theorem dX7_replace_215 : decode cX7_replace 215 = .ok (.iload 5, 2) := by decide +kernel
theorem dX7_replace_217 : decode cX7_replace 217 = .ok (.aload_n 0, 1) := by decide +kernel
theorem dX7_replace_218 : decode cX7_replace 218 = .ok (.getfield 7, 3) := by decide +kernel
theorem dX7_replace_221 : decode cX7_replace 221 = .ok (.iload 5, 2) := by decide +kernel
theorem dX7_replace_223 : decode cX7_replace 223 = .ok (.iaload, 1) := by decide +kernel
theorem dX7_replace_224 : decode cX7_replace 224 = .ok (.iconst 3, 1) := by decide +kernel
theorem dX7_replace_225 : decode cX7_replace 225 = .ok (.if_icmp .ne 17, 3) := by decide +kernel
theorem dX7_replace_228 : decode cX7_replace 228 = .ok (.aload_n 0, 1) := by decide +kernel
theorem dX7_replace_229 : decode cX7_replace 229 = .ok (.aload_n 0, 1) := by decide +kernel
theorem dX7_replace_230 : decode cX7_replace 230 = .ok (.getfield 13, 3) := by decide +kernel
theorem dX7_replace_233 : decode cX7_replace 233 = .ok (.iload 5, 2) := by decide +kernel
theorem dX7_replace_235 : decode cX7_replace 235 = .ok (.iaload, 1) := by decide +kernel
theorem dX7_replace_236 : decode cX7_replace 236 = .ok (.invokevirtual 96, 3) := by decide +kernel
theorem dX7_replace_239 : decode cX7_replace 239 = .ok (.goto 10, 3) := by decide +kernel
theorem dX7_replace_242 : decode cX7_replace 242 = .ok (.aload_n 0, 1) := by decide +kernel
theorem dX7_replace_243 : decode cX7_replace 243 = .ok (.getfield 13, 3) := by decide +kernel
theorem dX7_replace_246 : decode cX7_replace 246 = .ok (.iload 5, 2) := by decide +kernel
theorem dX7_replace_248 : decode cX7_replace 248 = .ok (.iaload, 1) := by decide +kernel
theorem dX7_replace_249 : decode cX7_replace 249 = .ok (.iastore, 1) := by decide +kernel
theorem dX7_replace_250 : decode cX7_replace 250 = .ok (.iinc 5 1, 3) := by decide +kernel
theorem dX7_replace_253 : decode cX7_replace 253 = .ok (.goto (-51), 3) := by decide +kernel
theorem dX7_replace_256 : decode cX7_replace 256 = .ok (.iconst 0, 1) := by decide +kernel
theorem dX7_replace_257 : decode cX7_replace 257 = .ok (.istore 5, 2) := by decide +kernel
theorem dX7_replace_259 : decode cX7_replace 259 = .ok (.iload 5, 2) := by decide +kernel
theorem dX7_replace_261 : decode cX7_replace 261 = .ok (.aload_n 0, 1) := by decide +kernel
theorem dX7_replace_262 : decode cX7_replace 262 = .ok (.getfield 54, 3) := by decide +kernel
theorem dX7_replace_265 : decode cX7_replace 265 = .ok (.if_icmp .ge 27, 3) := by decide +kernel
theorem dX7_replace_268 : decode cX7_replace 268 = .ok (.aload_n 0, 1) := by decide +kernel
theorem dX7_replace_269 : decode cX7_replace 269 = .ok (.getfield 22, 3) := by decide +kernel
theorem dX7_replace_272 : decode cX7_replace 272 = .ok (.iload 5, 2) := by decide +kernel
theorem dX7_replace_274 : decode cX7_replace 274 = .ok (.aload_n 0, 1) := by decide +kernel
theorem dX7_replace_275 : decode cX7_replace 275 = .ok (.aload_n 0, 1) := by decide +kernel
theorem dX7_replace_276 : decode cX7_replace 276 = .ok (.getfield 22, 3) := by decide +kernel
theorem dX7_replace_279 : decode cX7_replace 279 = .ok (.iload 5, 2) := by decide +kernel
theorem dX7_replace_281 : decode cX7_replace 281 = .ok (.iaload, 1) := by decide +kernel
theorem dX7_replace_282 : decode cX7_replace 282 = .ok (.invokevirtual 96, 3) := by decide +kernel
theorem dX7_replace_285 : decode cX7_replace 285 = .ok (.iastore, 1) := by decide +kernel
theorem dX7_replace_286 : decode cX7_replace 286 = .ok (.iinc 5 1, 3) := by decide +kernel
theorem dX7_replace_289 : decode cX7_replace 289 = .ok (.goto (-30), 3) := by decide +kernel
theorem dX7_replace_292 : decode cX7_replace 292 = .ok (.iconst 0, 1) := by decide +kernel
theorem dX7_replace_293 : decode cX7_replace 293 = .ok (.ireturn, 1) := by decide +kernel
set_option maxRecDepth 20000 in
theorem ggX7_change_X7_standing : GoodIn wsX7_change wsX7_standing := goodIn_r _ [7, 8, 9, 19, 20, 21, 22, 23, 24, 25, 26, 27, 28, 29, 30, 31, 32, 33] (by decide +kernel) (by decide +kernel)
set_option maxRecDepth 20000 in
theorem gX7_change_X7_standing : GoodIn wsX7_change (wsV RX7 96 RX7 yX7_standing wsX7_standing) := goodIn_app (goodIn_of _ (by decide +kernel)) ggX7_change_X7_standing
set_option maxRecDepth 20000 in
theorem ggX7_change_X7_simple : GoodIn wsX7_change wsX7_simple := goodIn_r _ [13, 14, 8, 1, 2, 19, 20, 21, 22, 23, 24, 25, 26, 27, 28, 29, 30, 31, 32, 33] (by decide +kernel) (by decide +kernel)
set_option maxRecDepth 20000 in
theorem gX7_change_X7_simple : GoodIn wsX7_change (wsV RX7 76 RX7 yX7_simple wsX7_simple) := goodIn_app (goodIn_of _ (by decide +kernel)) ggX7_change_X7_simple
set_option maxRecDepth 20000 in
theorem ggX7_change_X7_leave : GoodIn wsX7_change wsX7_leave := goodIn_r _ [18, 8, 9, 19, 20, 21, 22, 23, 24, 25, 26, 27, 28, 29, 30, 31, 32, 33] (by decide +kernel) (by decide +kernel)
set_option maxRecDepth 20000 in
theorem gX7_change_X7_leave : GoodIn wsX7_change (wsV RX7 86 RX7 yX7_leave wsX7_leave) := goodIn_app (goodIn_of _ (by decide +kernel)) ggX7_change_X7_leave
theorem dX7_change_0 : decode cX7_change 0 = .ok (.aload_n 0, 1) := by decide +kernel
theorem dX7_change_1 : decode cX7_change 1 = .ok (.aload_n 0, 1) := by decide +kernel
theorem dX7_change_2 : decode cX7_change 2 = .ok (.getfield 13, 3) := by decide +kernel
theorem dX7_change_5 : decode cX7_change 5 = .ok (.iload_n 1, 1) := by decide +kernel
theorem dX7_change_6 : decode cX7_change 6 = .ok (.iaload, 1) := by decide +kernel
theorem dX7_change_7 : decode cX7_change 7 = .ok (.invokevirtual 96, 3) := by decide +kernel
theorem dX7_change_10 : decode cX7_change 10 = .ok (.istore_n 2, 1) := by decide +kernel
theorem dX7_change_11 : decode cX7_change 11 = .ok (.aload_n 0, 1) := by decide +kernel
theorem dX7_change_12 : decode cX7_change 12 = .ok (.aload_n 0, 1) := by decide +kernel
theorem dX7_change_13 : decode cX7_change 13 = .ok (.getfield 16, 3) := by decide +kernel
theorem dX7_change_16 : decode cX7_change 16 = .ok (.iload_n 1, 1) := by decide +kernel
theorem dX7_change_17 : decode cX7_change 17 = .ok (.iaload, 1) := by decide +kernel
theorem dX7_change_18 : decode cX7_change 18 = .ok (.invokevirtual 96, 3) := by decide +kernel
theorem dX7_change_21 : decode cX7_change 21 = .ok (.istore_n 3, 1) := by decide +kernel
theorem dX7_change_22 : decode cX7_change 22 = .ok (.aload_n 0, 1) := by decide +kernel
theorem dX7_change_23 : decode cX7_change 23 = .ok (.iload_n 2, 1) := by decide +kernel
theorem dX7_change_24 : decode cX7_change 24 = .ok (.iload_n 3, 1) := by decide +kernel
theorem dX7_change_25 : decode cX7_change 25 = .ok (.iload_n 1, 1) := by decide +kernel
theorem dX7_change_26 : decode cX7_change 26 = .ok (.invokevirtual 76, 3) := by decide +kernel
theorem dX7_change_29 : decode cX7_change 29 = .ok (.istore 4, 2) := by decide +kernel
theorem dX7_change_31 : decode cX7_change 31 = .ok (.aload_n 0, 1) := by decide +kernel
theorem dX7_change_32 : decode cX7_change 32 = .ok (.getfield 13, 3) := by decide +kernel
theorem dX7_change_35 : decode cX7_change 35 = .ok (.iload_n 1, 1) := by decide +kernel
theorem dX7_change_36 : decode cX7_change 36 = .ok (.iload_n 2, 1) := by decide +kernel
theorem dX7_change_37 : decode cX7_change 37 = .ok (.iload_n 3, 1) := by decide +kernel
theorem dX7_change_38 : decode cX7_change 38 = .ok (.if_icmp .ge 7, 3) := by decide +kernel
theorem dX7_change_41 : decode cX7_change 41 = .ok (.iload_n 2, 1) := by decide +kernel
theorem dX7_change_42 : decode cX7_change 42 = .ok (.goto 4, 3) := by decide +kernel
theorem dX7_change_45 : decode cX7_change 45 = .ok (.iload_n 3, 1) := by decide +kernel
theorem dX7_change_46 : decode cX7_change 46 = .ok (.iastore, 1) := by decide +kernel
theorem dX7_change_47 : decode cX7_change 47 = .ok (.aload_n 0, 1) := by decide +kernel
theorem dX7_change_48 : decode cX7_change 48 = .ok (.getfield 16, 3) := by decide +kernel
theorem dX7_change_51 : decode cX7_change 51 = .ok (.iload_n 1, 1) := by decide +kernel
theorem dX7_change_52 : decode cX7_change 52 = .ok (.iload_n 2, 1) := by decide +kernel
theorem dX7_change_53 : decode cX7_change 53 = .ok (.iload_n 3, 1) := by decide +kernel
theorem dX7_change_54 : decode cX7_change 54 = .ok (.if_icmp .ge 7, 3) := by decide +kernel
theorem dX7_change_57 : decode cX7_change 57 = .ok (.iload_n 3, 1) := by decide +kernel
theorem dX7_change_58 : decode cX7_change 58 = .ok (.goto 4, 3) := by decide +kernel
theorem dX7_change_61 : decode cX7_change 61 = .ok (.iload_n 2, 1) := by decide +kernel
theorem dX7_change_62 : decode cX7_change 62 = .ok (.iastore, 1) := by decide +kernel
theorem dX7_change_63 : decode cX7_change 63 = .ok (.iload 4, 2) := by decide +kernel
theorem dX7_change_65 : decode cX7_change 65 = .ok (.ifCond .lt 10, 3) := by decide +kernel
theorem dX7_change_68 : decode cX7_change 68 = .ok (.aload_n 0, 1) := by decide +kernel
theorem dX7_change_69 : decode cX7_change 69 = .ok (.iload_n 1, 1) := by decide +kernel
theorem dX7_change_70 : decode cX7_change 70 = .ok (.iload 4, 2) := by decide +kernel
theorem dX7_change_72 : decode cX7_change 72 = .ok (.invokevirtual 86, 3) := by decide +kernel
theorem dX7_change_75 : decode cX7_change 75 = .ok (.return_, 1) := by decide +kernel
theorem dX7_used_0 : decode cX7_used 0 = .ok (.iconst 0, 1) := by decide +kernel
theorem dX7_used_1 : decode cX7_used 1 = .ok (.istore_n 1, 1) := by decide +kernel
theorem dX7_used_2 : decode cX7_used 2 = .ok (.iload_n 1, 1) := by decide +kernel
theorem dX7_used_3 : decode cX7_used 3 = .ok (.aload_n 0, 1) := by decide +kernel
theorem dX7_used_4 : decode cX7_used 4 = .ok (.getfield 43, 3) := by decide +kernel
theorem dX7_used_7 : decode cX7_used 7 = .ok (.if_icmp .ge 16, 3) := by decide +kernel
theorem dX7_used_10 : decode cX7_used 10 = .ok (.aload_n 0, 1) := by decide +kernel
theorem dX7_used_11 : decode cX7_used 11 = .ok (.getfield 40, 3) := by decide +kernel
theorem dX7_used_14 : decode cX7_used 14 = .ok (.iload_n 1, 1) := by decide +kernel
theorem dX7_used_15 : decode cX7_used 15 = .ok (.iconst 0, 1) := by decide +kernel
theorem dX7_used_16 : decode cX7_used 16 = .ok (.bastore, 1) := by decide +kernel
theorem dX7_used_17 : decode cX7_used 17 = .ok (.iinc 1 1, 3) := by decide +kernel
theorem dX7_used_20 : decode cX7_used 20 = .ok (.goto (-18), 3) := by decide +kernel
theorem dX7_used_23 : decode cX7_used 23 = .ok (.iconst 0, 1) := by decide +kernel
theorem dX7_used_24 : decode cX7_used 24 = .ok (.istore_n 1, 1) := by decide +kernel
theorem dX7_used_25 : decode cX7_used 25 = .ok (.iload_n 1, 1) := by decide +kernel
theorem dX7_used_26 : decode cX7_used 26 = .ok (.aload_n 0, 1) := by decide +kernel
theorem dX7_used_27 : decode cX7_used 27 = .ok (.getfield 54, 3) := by decide +kernel
theorem dX7_used_30 : decode cX7_used 30 = .ok (.if_icmp .ge 23, 3) := by decide +kernel
theorem dX7_used_33 : decode cX7_used 33 = .ok (.aload_n 0, 1) := by decide +kernel
theorem dX7_used_34 : decode cX7_used 34 = .ok (.getfield 40, 3) := by decide +kernel
theorem dX7_used_37 : decode cX7_used 37 = .ok (.aload_n 0, 1) := by decide +kernel
theorem dX7_used_38 : decode cX7_used 38 = .ok (.getfield 22, 3) := by decide +kernel
theorem dX7_used_41 : decode cX7_used 41 = .ok (.iload_n 1, 1) := by decide +kernel
theorem dX7_used_42 : decode cX7_used 42 = .ok (.iaload, 1) := by decide +kernel
theorem dX7_used_43 : decode cX7_used 43 = .ok (.iconst 2, 1) := by decide +kernel
theorem dX7_used_44 : decode cX7_used 44 = .ok (.idiv, 1) := by decide +kernel
theorem dX7_used_45 : decode cX7_used 45 = .ok (.iconst 1, 1) := by decide +kernel
theorem dX7_used_46 : decode cX7_used 46 = .ok (.bastore, 1) := by decide +kernel
theorem dX7_used_47 : decode cX7_used 47 = .ok (.iinc 1 1, 3) := by decide +kernel
theorem dX7_used_50 : decode cX7_used 50 = .ok (.goto (-25), 3) := by decide +kernel
theorem dX7_used_53 : decode cX7_used 53 = .ok (.iconst 0, 1) := by decide +kernel
theorem dX7_used_54 : decode cX7_used 54 = .ok (.istore_n 1, 1) := by decide +kernel
theorem dX7_used_55 : decode cX7_used 55 = .ok (.iload_n 1, 1) := by decide +kernel
theorem dX7_used_56 : decode cX7_used 56 = .ok (.aload_n 0, 1) := by decide +kernel
theorem dX7_used_57 : decode cX7_used 57 = .ok (.getfield 43, 3) := by decide +kernel
theorem dX7_used_60 : decode cX7_used 60 = .ok (.if_icmp .ge 33, 3) := by decide +kernel
theorem dX7_used_63 : decode cX7_used 63 = .ok (.aload_n 0, 1) := by decide +kernel
theorem dX7_used_64 : decode cX7_used 64 = .ok (.getfield 7, 3) := by decide +kernel
theorem dX7_used_67 : decode cX7_used 67 = .ok (.iload_n 1, 1) := by decide +kernel
theorem dX7_used_68 : decode cX7_used 68 = .ok (.iaload, 1) := by decide +kernel
theorem dX7_used_69 : decode cX7_used 69 = .ok (.iconst 3, 1) := by decide +kernel
theorem dX7_used_70 : decode cX7_used 70 = .ok (.if_icmp .ne 17, 3) := by decide +kernel
theorem dX7_used_73 : decode cX7_used 73 = .ok (.aload_n 0, 1) := by decide +kernel
theorem dX7_used_74 : decode cX7_used 74 = .ok (.getfield 40, 3) := by decide +kernel
theorem dX7_used_77 : decode cX7_used 77 = .ok (.aload_n 0, 1) := by decide +kernel
theorem dX7_used_78 : decode cX7_used 78 = .ok (.getfield 13, 3) := by decide +kernel
theorem dX7_used_81 : decode cX7_used 81 = .ok (.iload_n 1, 1) := by decide +kernel
theorem dX7_used_82 : decode cX7_used 82 = .ok (.iaload, 1) := by decide +kernel
theorem dX7_used_83 : decode cX7_used 83 = .ok (.iconst 2, 1) := by decide +kernel
theorem dX7_used_84 : decode cX7_used 84 = .ok (.idiv, 1) := by decide +kernel
theorem dX7_used_85 : decode cX7_used 85 = .ok (.iconst 1, 1) := by decide +kernel
theorem dX7_used_86 : decode cX7_used 86 = .ok (.bastore, 1) := by decide +kernel
theorem dX7_used_87 : decode cX7_used 87 = .ok (.iinc 1 1, 3) := by decide +kernel
theorem dX7_used_90 : decode cX7_used 90 = .ok (.goto (-35), 3) := by decide +kernel
theorem dX7_used_93 : decode cX7_used 93 = .ok (.iconst 1, 1) := by decide +kernel
theorem dX7_used_94 : decode cX7_used 94 = .ok (.istore_n 1, 1) := by decide +kernel
theorem dX7_used_95 : decode cX7_used 95 = .ok (.iload_n 1, 1) := by decide +kernel
theorem dX7_used_96 : decode cX7_used 96 = .ok (.ifCond .eq 105, 3) := by decide +kernel
theorem dX7_used_99 : decode cX7_used 99 = .ok (.iconst 0, 1) := by decide +kernel
theorem dX7_used_100 : decode cX7_used 100 = .ok (.istore_n 1, 1) := by decide +kernel
theorem dX7_used_101 : decode cX7_used 101 = .ok (.iconst 0, 1) := by decide +kernel
theorem dX7_used_102 : decode cX7_used 102 = .ok (.istore_n 2, 1) := by decide +kernel
theorem dX7_used_103 : decode cX7_used 103 = .ok (.iload_n 2, 1) := by decide +kernel
theorem dX7_used_104 : decode cX7_used 104 = .ok (.aload_n 0, 1) := by decide +kernel
theorem dX7_used_105 : decode cX7_used 105 = .ok (.getfield 43, 3) := by decide +kernel
theorem dX7_used_108 : decode cX7_used 108 = .ok (.if_icmp .ge 90, 3) := by decide +kernel
theorem dX7_used_111 : decode cX7_used 111 = .ok (.aload_n 0, 1) := by decide +kernel
theorem dX7_used_112 : decode cX7_used 112 = .ok (.getfield 40, 3) := by decide +kernel
theorem dX7_used_115 : decode cX7_used 115 = .ok (.iload_n 2, 1) := by decide +kernel
theorem dX7_used_116 : decode cX7_used 116 = .ok (.baload, 1) := by decide +kernel
theorem dX7_used_117 : decode cX7_used 117 = .ok (.ifCond .eq 75, 3) := by decide +kernel
theorem dX7_used_120 : decode cX7_used 120 = .ok (.aload_n 0, 1) := by decide +kernel
theorem dX7_used_121 : decode cX7_used 121 = .ok (.getfield 7, 3) := by decide +kernel
theorem dX7_used_124 : decode cX7_used 124 = .ok (.iload_n 2, 1) := by decide +kernel
theorem dX7_used_125 : decode cX7_used 125 = .ok (.iaload, 1) := by decide +kernel
theorem dX7_used_126 : decode cX7_used 126 = .ok (.iconst 2, 1) := by decide +kernel
theorem dX7_used_127 : decode cX7_used 127 = .ok (.if_icmp .ne 65, 3) := by decide +kernel
theorem dX7_used_130 : decode cX7_used 130 = .ok (.aload_n 0, 1) := by decide +kernel
theorem dX7_used_131 : decode cX7_used 131 = .ok (.getfield 40, 3) := by decide +kernel
theorem dX7_used_134 : decode cX7_used 134 = .ok (.aload_n 0, 1) := by decide +kernel
theorem dX7_used_135 : decode cX7_used 135 = .ok (.getfield 13, 3) := by decide +kernel
theorem dX7_used_138 : decode cX7_used 138 = .ok (.iload_n 2, 1) := by decide +kernel
theorem dX7_used_139 : decode cX7_used 139 = .ok (.iaload, 1) := by decide +kernel
theorem dX7_used_140 : decode cX7_used 140 = .ok (.iconst 2, 1) := by decide +kernel
theorem dX7_used_141 : decode cX7_used 141 = .ok (.idiv, 1) := by decide +kernel
theorem dX7_used_142 : decode cX7_used 142 = .ok (.baload, 1) := by decide +kernel
theorem dX7_used_143 : decode cX7_used 143 = .ok (.ifCond .eq 19, 3) := by decide +kernel
theorem dX7_used_146 : decode cX7_used 146 = .ok (.aload_n 0, 1) := by decide +kernel
theorem dX7_used_147 : decode cX7_used 147 = .ok (.getfield 40, 3) := by decide +kernel
theorem dX7_used_150 : decode cX7_used 150 = .ok (.aload_n 0, 1) := by decide +kernel
theorem dX7_used_151 : decode cX7_used 151 = .ok (.getfield 16, 3) := by decide +kernel
theorem dX7_used_154 : decode cX7_used 154 = .ok (.iload_n 2, 1) := by decide +kernel
theorem dX7_used_155 : decode cX7_used 155 = .ok (.iaload, 1) := by decide +kernel
theorem dX7_used_156 : decode cX7_used 156 = .ok (.iconst 2, 1) := by decide +kernel
theorem dX7_used_157 : decode cX7_used 157 = .ok (.idiv, 1) := by decide +kernel
theorem dX7_used_158 : decode cX7_used 158 = .ok (.baload, 1) := by decide +kernel
theorem dX7_used_159 : decode cX7_used 159 = .ok (.ifCond .ne 33, 3) := by decide +kernel
theorem dX7_used_162 : decode cX7_used 162 = .ok (.aload_n 0, 1) := by decide +kernel
theorem dX7_used_163 : decode cX7_used 163 = .ok (.getfield 40, 3) := by decide +kernel
theorem dX7_used_166 : decode cX7_used 166 = .ok (.aload_n 0, 1) := by decide +kernel
theorem dX7_used_167 : decode cX7_used 167 = .ok (.getfield 13, 3) := by decide +kernel
theorem dX7_used_170 : decode cX7_used 170 = .ok (.iload_n 2, 1) := by decide +kernel
theorem dX7_used_171 : decode cX7_used 171 = .ok (.iaload, 1) := by decide +kernel
theorem dX7_used_172 : decode cX7_used 172 = .ok (.iconst 2, 1) := by decide +kernel
theorem dX7_used_173 : decode cX7_used 173 = .ok (.idiv, 1) := by decide +kernel
theorem dX7_used_174 : decode cX7_used 174 = .ok (.iconst 1, 1) := by decide +kernel
theorem dX7_used_175 : decode cX7_used 175 = .ok (.bastore, 1) := by decide +kernel
theorem dX7_used_176 : decode cX7_used 176 = .ok (.aload_n 0, 1) := by decide +kernel
theorem dX7_used_177 : decode cX7_used 177 = .ok (.getfield 40, 3) := by decide +kernel
theorem dX7_used_180 : decode cX7_used 180 = .ok (.aload_n 0, 1) := by decide +kernel
theorem dX7_used_181 : decode cX7_used 181 = .ok (.getfield 16, 3) := by decide +kernel
theorem dX7_used_184 : decode cX7_used 184 = .ok (.iload_n 2, 1) := by decide +kernel
theorem dX7_used_185 : decode cX7_used 185 = .ok (.iaload, 1) := by decide +kernel
theorem dX7_used_186 : decode cX7_used 186 = .ok (.iconst 2, 1) := by decide +kernel
theorem dX7_used_187 : decode cX7_used 187 = .ok (.idiv, 1) := by decide +kernel
theorem dX7_used_188 : decode cX7_used 188 = .ok (.iconst 1, 1) := by decide +kernel
theorem dX7_used_189 : decode cX7_used 189 = .ok (.bastore, 1) := by decide +kernel
theorem dX7_used_190 : decode cX7_used 190 = .ok (.iconst 1, 1) := by decide +kernel
theorem dX7_used_191 : decode cX7_used 191 = .ok (.istore_n 1, 1) := by decide +kernel
theorem dX7_used_192 : decode cX7_used 192 = .ok (.iinc 2 1, 3) := by decide +kernel
theorem dX7_used_195 : decode cX7_used 195 = .ok (.goto (-92), 3) := by decide +kernel
theorem dX7_used_198 : decode cX7_used 198 = .ok (.goto (-103), 3) := by decide +kernel
theorem dX7_used_201 : decode cX7_used 201 = .ok (.return_, 1) := by decide +kernel
set_option maxRecDepth 20000 in
theorem ggX7_sweep_X7_used : GoodIn wsX7_sweep wsX7_used := goodIn_r _ [9, 2, 4, 10, 11, 3, 12, 13, 28, 29, 30, 31, 32, 33, 34, 35, 36, 37, 38, 39, 40, 41, 42] (by decide +kernel) (by decide +kernel)
set_option maxRecDepth 20000 in
theorem gX7_sweep_X7_used : GoodIn wsX7_sweep (wsV RX7 99 RX7 yX7_used wsX7_used) := goodIn_app (goodIn_of _ (by decide +kernel)) ggX7_sweep_X7_used
set_option maxRecDepth 20000 in
theorem ggX7_sweep_X7_save : GoodIn wsX7_sweep wsX7_save := goodIn_r _ [17, 18, 19, 20, 3, 12, 13, 21, 11, 22, 2, 10, 23, 28, 29, 30, 31, 32, 33, 34, 35, 36, 37, 38, 39, 40, 41, 42] (by decide +kernel) (by decide +kernel)
set_option maxRecDepth 20000 in
theorem gX7_sweep_X7_save : GoodIn wsX7_sweep (wsV RX7 65 RX7 yX7_save wsX7_save) := goodIn_app (goodIn_of _ (by decide +kernel)) ggX7_sweep_X7_save
set_option maxRecDepth 20000 in
theorem ggX7_sweep_X7_leave : GoodIn wsX7_sweep wsX7_leave := goodIn_r _ [27, 3, 21, 28, 29, 30, 31, 32, 33, 34, 35, 36, 37, 38, 39, 40, 41, 42] (by decide +kernel) (by decide +kernel)
set_option maxRecDepth 20000 in
theorem gX7_sweep_X7_leave : GoodIn wsX7_sweep (wsV RX7 86 RX7 yX7_leave wsX7_leave) := goodIn_app (goodIn_of _ (by decide +kernel)) ggX7_sweep_X7_leave
theorem dX7_sweep_0 : decode cX7_sweep 0 = .ok (.aload_n 0, 1) := by decide +kernel
theorem dX7_sweep_1 : decode cX7_sweep 1 = .ok (.iconst 0, 1) := by decide +kernel
theorem dX7_sweep_2 : decode cX7_sweep 2 = .ok (.putfield 47, 3) := by decide +kernel
theorem dX7_sweep_5 : decode cX7_sweep 5 = .ok (.aload_n 0, 1) := by decide +kernel
theorem dX7_sweep_6 : decode cX7_sweep 6 = .ok (.invokevirtual 99, 3) := by decide +kernel
theorem dX7_sweep_9 : decode cX7_sweep 9 = .ok (.iconst 0, 1) := by decide +kernel
theorem dX7_sweep_10 : decode cX7_sweep 10 = .ok (.istore_n 1, 1) := by decide +kernel
theorem dX7_sweep_11 : decode cX7_sweep 11 = .ok (.iconst 0, 1) := by decide +kernel
theorem dX7_sweep_12 : decode cX7_sweep 12 = .ok (.istore_n 2, 1) := by decide +kernel
theorem dX7_sweep_13 : decode cX7_sweep 13 = .ok (.iload_n 2, 1) := by decide +kernel
theorem dX7_sweep_14 : decode cX7_sweep 14 = .ok (.aload_n 0, 1) := by decide +kernel
theorem dX7_sweep_15 : decode cX7_sweep 15 = .ok (.getfield 43, 3) := by decide +kernel
theorem dX7_sweep_18 : decode cX7_sweep 18 = .ok (.if_icmp .ge 36, 3) := by decide +kernel
theorem dX7_sweep_21 : decode cX7_sweep 21 = .ok (.aload_n 0, 1) := by decide +kernel
theorem dX7_sweep_22 : decode cX7_sweep 22 = .ok (.getfield 7, 3) := by decide +kernel
theorem dX7_sweep_25 : decode cX7_sweep 25 = .ok (.iload_n 2, 1) := by decide +kernel
theorem dX7_sweep_26 : decode cX7_sweep 26 = .ok (.iaload, 1) := by decide +kernel
theorem dX7_sweep_27 : decode cX7_sweep 27 = .ok (.iconst 2, 1) := by decide +kernel
theorem dX7_sweep_28 : decode cX7_sweep 28 = .ok (.if_icmp .ne 18, 3) := by decide +kernel
theorem dX7_sweep_31 : decode cX7_sweep 31 = .ok (.aload_n 0, 1) := by decide +kernel
theorem dX7_sweep_32 : decode cX7_sweep 32 = .ok (.getfield 40, 3) := by decide +kernel
theorem dX7_sweep_35 : decode cX7_sweep 35 = .ok (.iload_n 2, 1) := by decide +kernel
theorem dX7_sweep_36 : decode cX7_sweep 36 = .ok (.baload, 1) := by decide +kernel
theorem dX7_sweep_37 : decode cX7_sweep 37 = .ok (.ifCond .ne 9, 3) := by decide +kernel
theorem dX7_sweep_40 : decode cX7_sweep 40 = .ok (.iload_n 1, 1) := by decide +kernel
theorem dX7_sweep_41 : decode cX7_sweep 41 = .ok (.iconst 1, 1) := by decide +kernel
theorem dX7_sweep_42 : decode cX7_sweep 42 = .ok (.iadd, 1) := by decide +kernel
theorem dX7_sweep_43 : decode cX7_sweep 43 = .ok (.goto 4, 3) := by decide +kernel
theorem dX7_sweep_46 : decode cX7_sweep 46 = .ok (.iload_n 1, 1) := by decide +kernel
theorem dX7_sweep_47 : decode cX7_sweep 47 = .ok (.istore_n 1, 1) := by decide +kernel
theorem dX7_sweep_48 : decode cX7_sweep 48 = .ok (.iinc 2 1, 3) := by decide +kernel
theorem dX7_sweep_51 : decode cX7_sweep 51 = .ok (.goto (-38), 3) := by decide +kernel
theorem dX7_sweep_54 : decode cX7_sweep 54 = .ok (.iload_n 1, 1) := by decide +kernel
theorem dX7_sweep_55 : decode cX7_sweep 55 = .ok (.ifCond .le 48, 3) := by decide +kernel
theorem dX7_sweep_58 : decode cX7_sweep 58 = .ok (.aload_n 0, 1) := by decide +kernel
theorem dX7_sweep_59 : decode cX7_sweep 59 = .ok (.invokevirtual 65, 3) := by decide +kernel
theorem dX7_sweep_62 : decode cX7_sweep 62 = .ok (.iconst 0, 1) := by decide +kernel
theorem dX7_sweep_63 : decode cX7_sweep 63 = .ok (.istore_n 2, 1) := by decide +kernel
theorem dX7_sweep_64 : decode cX7_sweep 64 = .ok (.iload_n 2, 1) := by decide +kernel
theorem dX7_sweep_65 : decode cX7_sweep 65 = .ok (.aload_n 0, 1) := by decide +kernel
theorem dX7_sweep_66 : decode cX7_sweep 66 = .ok (.getfield 43, 3) := by decide +kernel
theorem dX7_sweep_69 : decode cX7_sweep 69 = .ok (.if_icmp .ge 34, 3) := by decide +kernel
theorem dX7_sweep_72 : decode cX7_sweep 72 = .ok (.aload_n 0, 1) := by decide +kernel
theorem dX7_sweep_73 : decode cX7_sweep 73 = .ok (.getfield 7, 3) := by decide +kernel
theorem dX7_sweep_76 : decode cX7_sweep 76 = .ok (.iload_n 2, 1) := by decide +kernel
theorem dX7_sweep_77 : decode cX7_sweep 77 = .ok (.iaload, 1) := by decide +kernel
theorem dX7_sweep_78 : decode cX7_sweep 78 = .ok (.iconst 2, 1) := by decide +kernel
theorem dX7_sweep_79 : decode cX7_sweep 79 = .ok (.if_icmp .ne 18, 3) := by decide +kernel
theorem dX7_sweep_82 : decode cX7_sweep 82 = .ok (.aload_n 0, 1) := by decide +kernel
theorem dX7_sweep_83 : decode cX7_sweep 83 = .ok (.getfield 40, 3) := by decide +kernel
theorem dX7_sweep_86 : decode cX7_sweep 86 = .ok (.iload_n 2, 1) := by decide +kernel
theorem dX7_sweep_87 : decode cX7_sweep 87 = .ok (.baload, 1) := by decide +kernel
theorem dX7_sweep_88 : decode cX7_sweep 88 = .ok (.ifCond .ne 9, 3) := by decide +kernel
theorem dX7_sweep_91 : decode cX7_sweep 91 = .ok (.aload_n 0, 1) := by decide +kernel
theorem dX7_sweep_92 : decode cX7_sweep 92 = .ok (.iload_n 2, 1) := by decide +kernel
theorem dX7_sweep_93 : decode cX7_sweep 93 = .ok (.iconst (-1), 1) := by decide +kernel
theorem dX7_sweep_94 : decode cX7_sweep 94 = .ok (.invokevirtual 86, 3) := by decide +kernel
theorem dX7_sweep_97 : decode cX7_sweep 97 = .ok (.iinc 2 1, 3) := by decide +kernel
theorem dX7_sweep_100 : decode cX7_sweep 100 = .ok (.goto (-36), 3) := by decide +kernel
theorem dX7_sweep_103 : decode cX7_sweep 103 = .ok (.iload_n 1, 1) := by decide +kernel
theorem dX7_sweep_104 : decode cX7_sweep 104 = .ok (.ireturn, 1) := by decide +kernel
theorem dX7_mix_0 : decode cX7_mix 0 = .ok (.lload_n 0, 1) := by decide +kernel
theorem dX7_mix_1 : decode cX7_mix 1 = .ok (.lload_n 2, 1) := by decide +kernel
theorem dX7_mix_2 : decode cX7_mix 2 = .ok (.lconst 1, 1) := by decide +kernel
theorem dX7_mix_3 : decode cX7_mix 3 = .ok (.ladd, 1) := by decide +kernel
theorem dX7_mix_4 : decode cX7_mix 4 = .ok (.ldc2_w 102, 3) := by decide +kernel
theorem dX7_mix_7 : decode cX7_mix 7 = .ok (.lmul, 1) := by decide +kernel
theorem dX7_mix_8 : decode cX7_mix 8 = .ok (.ladd, 1) := by decide +kernel
theorem dX7_mix_9 : decode cX7_mix 9 = .ok (.lstore 4, 2) := by decide +kernel
theorem dX7_mix_11 : decode cX7_mix 11 = .ok (.lload 4, 2) := by decide +kernel
theorem dX7_mix_13 : decode cX7_mix 13 = .ok (.lload 4, 2) := by decide +kernel
theorem dX7_mix_15 : decode cX7_mix 15 = .ok (.bipush 30, 2) := by decide +kernel
theorem dX7_mix_17 : decode cX7_mix 17 = .ok (.lushr, 1) := by decide +kernel
theorem dX7_mix_18 : decode cX7_mix 18 = .ok (.lxor, 1) := by decide +kernel
theorem dX7_mix_19 : decode cX7_mix 19 = .ok (.ldc2_w 104, 3) := by decide +kernel
theorem dX7_mix_22 : decode cX7_mix 22 = .ok (.lmul, 1) := by decide +kernel
theorem dX7_mix_23 : decode cX7_mix 23 = .ok (.lstore 4, 2) := by decide +kernel
theorem dX7_mix_25 : decode cX7_mix 25 = .ok (.lload 4, 2) := by decide +kernel
theorem dX7_mix_27 : decode cX7_mix 27 = .ok (.lload 4, 2) := by decide +kernel
theorem dX7_mix_29 : decode cX7_mix 29 = .ok (.bipush 27, 2) := by decide +kernel
theorem dX7_mix_31 : decode cX7_mix 31 = .ok (.lushr, 1) := by decide +kernel
theorem dX7_mix_32 : decode cX7_mix 32 = .ok (.lxor, 1) := by decide +kernel
theorem dX7_mix_33 : decode cX7_mix 33 = .ok (.ldc2_w 106, 3) := by decide +kernel
theorem dX7_mix_36 : decode cX7_mix 36 = .ok (.lmul, 1) := by decide +kernel
theorem dX7_mix_37 : decode cX7_mix 37 = .ok (.lstore 4, 2) := by decide +kernel
theorem dX7_mix_39 : decode cX7_mix 39 = .ok (.lload 4, 2) := by decide +kernel
theorem dX7_mix_41 : decode cX7_mix 41 = .ok (.lload 4, 2) := by decide +kernel
theorem dX7_mix_43 : decode cX7_mix 43 = .ok (.bipush 31, 2) := by decide +kernel
theorem dX7_mix_45 : decode cX7_mix 45 = .ok (.lushr, 1) := by decide +kernel
theorem dX7_mix_46 : decode cX7_mix 46 = .ok (.lxor, 1) := by decide +kernel
theorem dX7_mix_47 : decode cX7_mix 47 = .ok (.lreturn, 1) := by decide +kernel
theorem dX7_rowOf_0 : decode cX7_rowOf 0 = .ok (.iload_n 1, 1) := by decide +kernel
theorem dX7_rowOf_1 : decode cX7_rowOf 1 = .ok (.iconst 2, 1) := by decide +kernel
theorem dX7_rowOf_2 : decode cX7_rowOf 2 = .ok (.irem, 1) := by decide +kernel
theorem dX7_rowOf_3 : decode cX7_rowOf 3 = .ok (.ifCond .ne 14, 3) := by decide +kernel
theorem dX7_rowOf_6 : decode cX7_rowOf 6 = .ok (.aload_n 0, 1) := by decide +kernel
theorem dX7_rowOf_7 : decode cX7_rowOf 7 = .ok (.getfield 33, 3) := by decide +kernel
theorem dX7_rowOf_10 : decode cX7_rowOf 10 = .ok (.iload_n 1, 1) := by decide +kernel
theorem dX7_rowOf_11 : decode cX7_rowOf 11 = .ok (.iconst 2, 1) := by decide +kernel
theorem dX7_rowOf_12 : decode cX7_rowOf 12 = .ok (.idiv, 1) := by decide +kernel
theorem dX7_rowOf_13 : decode cX7_rowOf 13 = .ok (.laload, 1) := by decide +kernel
theorem dX7_rowOf_14 : decode cX7_rowOf 14 = .ok (.goto 15, 3) := by decide +kernel
theorem dX7_rowOf_17 : decode cX7_rowOf 17 = .ok (.aload_n 0, 1) := by decide +kernel
theorem dX7_rowOf_18 : decode cX7_rowOf 18 = .ok (.getfield 33, 3) := by decide +kernel
theorem dX7_rowOf_21 : decode cX7_rowOf 21 = .ok (.iload_n 1, 1) := by decide +kernel
theorem dX7_rowOf_22 : decode cX7_rowOf 22 = .ok (.iconst 2, 1) := by decide +kernel
theorem dX7_rowOf_23 : decode cX7_rowOf 23 = .ok (.idiv, 1) := by decide +kernel
theorem dX7_rowOf_24 : decode cX7_rowOf 24 = .ok (.laload, 1) := by decide +kernel
theorem dX7_rowOf_25 : decode cX7_rowOf 25 = .ok (.ldc2_w 108, 3) := by decide +kernel
theorem dX7_rowOf_28 : decode cX7_rowOf 28 = .ok (.lxor, 1) := by decide +kernel
theorem dX7_rowOf_29 : decode cX7_rowOf 29 = .ok (.lreturn, 1) := by decide +kernel
set_option maxRecDepth 20000 in
theorem ggX7_simulate_X7_findLevels : GoodIn wsX7_simulate wsX7_findLevels := goodIn_r _ [13, 2, 5, 3, 6, 7, 29, 30, 31, 32, 33, 34, 35, 36, 37, 38, 39, 40, 41, 42, 43] (by decide +kernel) (by decide +kernel)
set_option maxRecDepth 20000 in
theorem gX7_simulate_X7_findLevels : GoodIn wsX7_simulate (wsV RX7 110 RX7 yX7_findLevels wsX7_findLevels) := goodIn_app (goodIn_of _ (by decide +kernel)) ggX7_simulate_X7_findLevels
set_option maxRecDepth 20000 in
theorem ggX7_simulate_X7_mix : GoodIn wsX7_simulate wsX7_mix := goodIn_r _ [16, 17, 18, 19] (by decide +kernel) (by decide +kernel)
set_option maxRecDepth 20000 in
theorem gX7_simulate_X7_mix : GoodIn wsX7_simulate (va_wsS RX7 113 yX7_mix wsX7_mix) := goodIn_app (goodIn_of _ (by decide +kernel)) ggX7_simulate_X7_mix
set_option maxRecDepth 20000 in
theorem ggX7_simulate_X7_greatest : GoodIn wsX7_simulate wsX7_greatest := goodIn_r _ [23, 2, 5, 29, 30, 31, 32, 33, 34, 35, 36, 37, 38, 39, 40, 41, 42, 43] (by decide +kernel) (by decide +kernel)
set_option maxRecDepth 20000 in
theorem gX7_simulate_X7_greatest : GoodIn wsX7_simulate (wsV RX7 117 RX7 yX7_greatest wsX7_greatest) := goodIn_app (goodIn_of _ (by decide +kernel)) ggX7_simulate_X7_greatest
set_option maxRecDepth 20000 in
theorem ggX7_simulate_X7_rowOf : GoodIn wsX7_simulate wsX7_rowOf := goodIn_r _ [27, 4, 28, 29, 30, 31, 32, 33, 34, 35, 36, 37, 38, 39, 40, 41, 42, 43] (by decide +kernel) (by decide +kernel)
set_option maxRecDepth 20000 in
theorem gX7_simulate_X7_rowOf : GoodIn wsX7_simulate (wsV RX7 121 RX7 yX7_rowOf wsX7_rowOf) := goodIn_app (goodIn_of _ (by decide +kernel)) ggX7_simulate_X7_rowOf
theorem dX7_simulate_0 : decode cX7_simulate 0 = .ok (.aload_n 0, 1) := by decide +kernel
theorem dX7_simulate_1 : decode cX7_simulate 1 = .ok (.iconst 0, 1) := by decide +kernel
theorem dX7_simulate_2 : decode cX7_simulate 2 = .ok (.putfield 47, 3) := by decide +kernel
theorem dX7_simulate_5 : decode cX7_simulate 5 = .ok (.iconst 0, 1) := by decide +kernel
theorem dX7_simulate_6 : decode cX7_simulate 6 = .ok (.istore_n 3, 1) := by decide +kernel
theorem dX7_simulate_7 : decode cX7_simulate 7 = .ok (.iconst 0, 1) := by decide +kernel
theorem dX7_simulate_8 : decode cX7_simulate 8 = .ok (.istore 4, 2) := by decide +kernel
theorem dX7_simulate_10 : decode cX7_simulate 10 = .ok (.aload_n 0, 1) := by decide +kernel
theorem dX7_simulate_11 : decode cX7_simulate 11 = .ok (.invokevirtual 110, 3) := by decide +kernel
theorem dX7_simulate_14 : decode cX7_simulate 14 = .ok (.iconst 0, 1) := by decide +kernel
theorem dX7_simulate_15 : decode cX7_simulate 15 = .ok (.istore 5, 2) := by decide +kernel
theorem dX7_simulate_17 : decode cX7_simulate 17 = .ok (.iload 5, 2) := by decide +kernel
theorem dX7_simulate_19 : decode cX7_simulate 19 = .ok (.aload_n 0, 1) := by decide +kernel
theorem dX7_simulate_20 : decode cX7_simulate 20 = .ok (.getfield 43, 3) := by decide +kernel
theorem dX7_simulate_23 : decode cX7_simulate 23 = .ok (.if_icmp .ge 106, 3) := by decide +kernel
theorem dX7_simulate_26 : decode cX7_simulate 26 = .ok (.aload_n 0, 1) := by decide +kernel
theorem dX7_simulate_27 : decode cX7_simulate 27 = .ok (.getfield 7, 3) := by decide +kernel
theorem dX7_simulate_30 : decode cX7_simulate 30 = .ok (.iload 5, 2) := by decide +kernel
theorem dX7_simulate_32 : decode cX7_simulate 32 = .ok (.iaload, 1) := by decide +kernel
theorem dX7_simulate_33 : decode cX7_simulate 33 = .ok (.iconst 1, 1) := by decide +kernel
theorem dX7_simulate_34 : decode cX7_simulate 34 = .ok (.if_icmp .eq 25, 3) := by decide +kernel
theorem dX7_simulate_37 : decode cX7_simulate 37 = .ok (.aload_n 0, 1) := by decide +kernel
theorem dX7_simulate_38 : decode cX7_simulate 38 = .ok (.getfield 7, 3) := by decide +kernel
theorem dX7_simulate_41 : decode cX7_simulate 41 = .ok (.iload 5, 2) := by decide +kernel
theorem dX7_simulate_43 : decode cX7_simulate 43 = .ok (.iaload, 1) := by decide +kernel
theorem dX7_simulate_44 : decode cX7_simulate 44 = .ok (.iconst 3, 1) := by decide +kernel
theorem dX7_simulate_45 : decode cX7_simulate 45 = .ok (.if_icmp .eq 14, 3) := by decide +kernel
theorem dX7_simulate_48 : decode cX7_simulate 48 = .ok (.aload_n 0, 1) := by decide +kernel
theorem dX7_simulate_49 : decode cX7_simulate 49 = .ok (.getfield 7, 3) := by decide +kernel
theorem dX7_simulate_52 : decode cX7_simulate 52 = .ok (.iload 5, 2) := by decide +kernel
theorem dX7_simulate_54 : decode cX7_simulate 54 = .ok (.iaload, 1) := by decide +kernel
theorem dX7_simulate_55 : decode cX7_simulate 55 = .ok (.iconst 4, 1) := by decide +kernel
theorem dX7_simulate_56 : decode cX7_simulate 56 = .ok (.if_icmp .ne 7, 3) := by decide +kernel
theorem dX7_simulate_59 : decode cX7_simulate 59 = .ok (.iconst 1, 1) := by decide +kernel
theorem dX7_simulate_60 : decode cX7_simulate 60 = .ok (.goto 4, 3) := by decide +kernel
theorem dX7_simulate_63 : decode cX7_simulate 63 = .ok (.iconst 0, 1) := by decide +kernel
theorem dX7_simulate_64 : decode cX7_simulate 64 = .ok (.istore 6, 2) := by decide +kernel
theorem dX7_simulate_66 : decode cX7_simulate 66 = .ok (.aload_n 0, 1) := by decide +kernel
theorem dX7_simulate_67 : decode cX7_simulate 67 = .ok (.getfield 33, 3) := by decide +kernel
theorem dX7_simulate_70 : decode cX7_simulate 70 = .ok (.iload 5, 2) := by decide +kernel
theorem dX7_simulate_72 : decode cX7_simulate 72 = .ok (.iload 6, 2) := by decide +kernel
theorem dX7_simulate_74 : decode cX7_simulate 74 = .ok (.ifCond .eq 12, 3) := by decide +kernel
theorem dX7_simulate_77 : decode cX7_simulate 77 = .ok (.lload_n 1, 1) := by decide +kernel
theorem dX7_simulate_78 : decode cX7_simulate 78 = .ok (.iload_n 3, 1) := by decide +kernel
theorem dX7_simulate_79 : decode cX7_simulate 79 = .ok (.i2l, 1) := by decide +kernel
theorem dX7_simulate_80 : decode cX7_simulate 80 = .ok (.invokestatic 113, 3) := by decide +kernel
theorem dX7_simulate_83 : decode cX7_simulate 83 = .ok (.goto 4, 3) := by decide +kernel
theorem dX7_simulate_86 : decode cX7_simulate 86 = .ok (.lconst 0, 1) := by decide +kernel
theorem dX7_simulate_87 : decode cX7_simulate 87 = .ok (.lastore, 1) := by decide +kernel
theorem dX7_simulate_88 : decode cX7_simulate 88 = .ok (.iload 6, 2) := by decide +kernel
theorem dX7_simulate_90 : decode cX7_simulate 90 = .ok (.ifCond .eq 9, 3) := by decide +kernel
theorem dX7_simulate_93 : decode cX7_simulate 93 = .ok (.iload_n 3, 1) := by decide +kernel
theorem dX7_simulate_94 : decode cX7_simulate 94 = .ok (.iconst 1, 1) := by decide +kernel
theorem dX7_simulate_95 : decode cX7_simulate 95 = .ok (.iadd, 1) := by decide +kernel
theorem dX7_simulate_96 : decode cX7_simulate 96 = .ok (.goto 4, 3) := by decide +kernel
theorem dX7_simulate_99 : decode cX7_simulate 99 = .ok (.iload_n 3, 1) := by decide +kernel
theorem dX7_simulate_100 : decode cX7_simulate 100 = .ok (.istore_n 3, 1) := by decide +kernel
theorem dX7_simulate_101 : decode cX7_simulate 101 = .ok (.aload_n 0, 1) := by decide +kernel
theorem dX7_simulate_102 : decode cX7_simulate 102 = .ok (.getfield 7, 3) := by decide +kernel
theorem dX7_simulate_105 : decode cX7_simulate 105 = .ok (.iload 5, 2) := by decide +kernel
theorem dX7_simulate_107 : decode cX7_simulate 107 = .ok (.iaload, 1) := by decide +kernel
theorem dX7_simulate_108 : decode cX7_simulate 108 = .ok (.iconst 5, 1) := by decide +kernel
theorem dX7_simulate_109 : decode cX7_simulate 109 = .ok (.if_icmp .ne 8, 3) := by decide +kernel
theorem dX7_simulate_112 : decode cX7_simulate 112 = .ok (.iload 4, 2) := by decide +kernel
theorem dX7_simulate_114 : decode cX7_simulate 114 = .ok (.goto 7, 3) := by decide +kernel
theorem dX7_simulate_117 : decode cX7_simulate 117 = .ok (.iload 4, 2) := by decide +kernel
theorem dX7_simulate_119 : decode cX7_simulate 119 = .ok (.iconst 1, 1) := by decide +kernel
theorem dX7_simulate_120 : decode cX7_simulate 120 = .ok (.iadd, 1) := by decide +kernel
theorem dX7_simulate_121 : decode cX7_simulate 121 = .ok (.istore 4, 2) := by decide +kernel
theorem dX7_simulate_123 : decode cX7_simulate 123 = .ok (.iinc 5 1, 3) := by decide +kernel
theorem dX7_simulate_126 : decode cX7_simulate 126 = .ok (.goto (-109), 3) := by decide +kernel
theorem dX7_simulate_129 : decode cX7_simulate 129 = .ok (.aload_n 0, 1) := by decide +kernel
theorem dX7_simulate_130 : decode cX7_simulate 130 = .ok (.invokevirtual 117, 3) := by decide +kernel
theorem dX7_simulate_133 : decode cX7_simulate 133 = .ok (.istore 5, 2) := by decide +kernel
theorem dX7_simulate_135 : decode cX7_simulate 135 = .ok (.iconst 1, 1) := by decide +kernel
theorem dX7_simulate_136 : decode cX7_simulate 136 = .ok (.istore 6, 2) := by decide +kernel
theorem dX7_simulate_138 : decode cX7_simulate 138 = .ok (.iload 6, 2) := by decide +kernel
theorem dX7_simulate_140 : decode cX7_simulate 140 = .ok (.iload 5, 2) := by decide +kernel
theorem dX7_simulate_142 : decode cX7_simulate 142 = .ok (.if_icmp .gt 80, 3) := by decide +kernel
theorem dX7_simulate_145 : decode cX7_simulate 145 = .ok (.iconst 0, 1) := by decide +kernel
theorem dX7_simulate_146 : decode cX7_simulate 146 = .ok (.istore 7, 2) := by decide +kernel
theorem dX7_simulate_148 : decode cX7_simulate 148 = .ok (.iload 7, 2) := by decide +kernel
theorem dX7_simulate_150 : decode cX7_simulate 150 = .ok (.aload_n 0, 1) := by decide +kernel
theorem dX7_simulate_151 : decode cX7_simulate 151 = .ok (.getfield 43, 3) := by decide +kernel
theorem dX7_simulate_154 : decode cX7_simulate 154 = .ok (.if_icmp .ge 62, 3) := by decide +kernel
theorem dX7_simulate_157 : decode cX7_simulate 157 = .ok (.aload_n 0, 1) := by decide +kernel
theorem dX7_simulate_158 : decode cX7_simulate 158 = .ok (.getfield 7, 3) := by decide +kernel
theorem dX7_simulate_161 : decode cX7_simulate 161 = .ok (.iload 7, 2) := by decide +kernel
theorem dX7_simulate_163 : decode cX7_simulate 163 = .ok (.iaload, 1) := by decide +kernel
theorem dX7_simulate_164 : decode cX7_simulate 164 = .ok (.iconst 2, 1) := by decide +kernel
theorem dX7_simulate_165 : decode cX7_simulate 165 = .ok (.if_icmp .ne 45, 3) := by decide +kernel
theorem dX7_simulate_168 : decode cX7_simulate 168 = .ok (.aload_n 0, 1) := by decide +kernel
theorem dX7_simulate_169 : decode cX7_simulate 169 = .ok (.getfield 37, 3) := by decide +kernel
theorem dX7_simulate_172 : decode cX7_simulate 172 = .ok (.iload 7, 2) := by decide +kernel
theorem dX7_simulate_174 : decode cX7_simulate 174 = .ok (.iaload, 1) := by decide +kernel
theorem dX7_simulate_175 : decode cX7_simulate 175 = .ok (.iload 6, 2) := by decide +kernel
theorem dX7_simulate_177 : decode cX7_simulate 177 = .ok (.if_icmp .ne 33, 3) := by decide +kernel
theorem dX7_simulate_180 : decode cX7_simulate 180 = .ok (.aload_n 0, 1) := by decide +kernel
theorem dX7_simulate_181 : decode cX7_simulate 181 = .ok (.getfield 33, 3) := by decide +kernel
theorem dX7_simulate_184 : decode cX7_simulate 184 = .ok (.iload 7, 2) := by decide +kernel
theorem dX7_simulate_186 : decode cX7_simulate 186 = .ok (.aload_n 0, 1) := by decide +kernel
theorem dX7_simulate_187 : decode cX7_simulate 187 = .ok (.aload_n 0, 1) := by decide +kernel
theorem dX7_simulate_188 : decode cX7_simulate 188 = .ok (.getfield 13, 3) := by decide +kernel
theorem dX7_simulate_191 : decode cX7_simulate 191 = .ok (.iload 7, 2) := by decide +kernel
theorem dX7_simulate_193 : decode cX7_simulate 193 = .ok (.iaload, 1) := by decide +kernel
theorem dX7_simulate_194 : decode cX7_simulate 194 = .ok (.invokevirtual 121, 3) := by decide +kernel
theorem dX7_simulate_197 : decode cX7_simulate 197 = .ok (.aload_n 0, 1) := by decide +kernel
theorem dX7_simulate_198 : decode cX7_simulate 198 = .ok (.aload_n 0, 1) := by decide +kernel
theorem dX7_simulate_199 : decode cX7_simulate 199 = .ok (.getfield 16, 3) := by decide +kernel
theorem dX7_simulate_202 : decode cX7_simulate 202 = .ok (.iload 7, 2) := by decide +kernel
theorem dX7_simulate_204 : decode cX7_simulate 204 = .ok (.iaload, 1) := by decide +kernel
theorem dX7_simulate_205 : decode cX7_simulate 205 = .ok (.invokevirtual 121, 3) := by decide +kernel
theorem dX7_simulate_208 : decode cX7_simulate 208 = .ok (.land, 1) := by decide +kernel
theorem dX7_simulate_209 : decode cX7_simulate 209 = .ok (.lastore, 1) := by decide +kernel
theorem dX7_simulate_210 : decode cX7_simulate 210 = .ok (.iinc 7 1, 3) := by decide +kernel
theorem dX7_simulate_213 : decode cX7_simulate 213 = .ok (.goto (-65), 3) := by decide +kernel
theorem dX7_simulate_216 : decode cX7_simulate 216 = .ok (.iinc 6 1, 3) := by decide +kernel
theorem dX7_simulate_219 : decode cX7_simulate 219 = .ok (.goto (-81), 3) := by decide +kernel
theorem dX7_simulate_222 : decode cX7_simulate 222 = .ok (.aload_n 0, 1) := by decide +kernel
theorem dX7_simulate_223 : decode cX7_simulate 223 = .ok (.iconst 1, 1) := by decide +kernel
theorem dX7_simulate_224 : decode cX7_simulate 224 = .ok (.putfield 57, 3) := by decide +kernel
theorem dX7_simulate_227 : decode cX7_simulate 227 = .ok (.iload 4, 2) := by decide +kernel
theorem dX7_simulate_229 : decode cX7_simulate 229 = .ok (.ireturn, 1) := by decide +kernel
theorem dX7_findLevels_0 : decode cX7_findLevels 0 = .ok (.iconst 0, 1) := by decide +kernel
theorem dX7_findLevels_1 : decode cX7_findLevels 1 = .ok (.istore_n 1, 1) := by decide +kernel
theorem dX7_findLevels_2 : decode cX7_findLevels 2 = .ok (.iload_n 1, 1) := by decide +kernel
theorem dX7_findLevels_3 : decode cX7_findLevels 3 = .ok (.aload_n 0, 1) := by decide +kernel
theorem dX7_findLevels_4 : decode cX7_findLevels 4 = .ok (.getfield 43, 3) := by decide +kernel
theorem dX7_findLevels_7 : decode cX7_findLevels 7 = .ok (.if_icmp .ge 16, 3) := by decide +kernel
theorem dX7_findLevels_10 : decode cX7_findLevels 10 = .ok (.aload_n 0, 1) := by decide +kernel
theorem dX7_findLevels_11 : decode cX7_findLevels 11 = .ok (.getfield 37, 3) := by decide +kernel
theorem dX7_findLevels_14 : decode cX7_findLevels 14 = .ok (.iload_n 1, 1) := by decide +kernel
theorem dX7_findLevels_15 : decode cX7_findLevels 15 = .ok (.iconst 0, 1) := by decide +kernel
theorem dX7_findLevels_16 : decode cX7_findLevels 16 = .ok (.iastore, 1) := by decide +kernel
theorem dX7_findLevels_17 : decode cX7_findLevels 17 = .ok (.iinc 1 1, 3) := by decide +kernel
theorem dX7_findLevels_20 : decode cX7_findLevels 20 = .ok (.goto (-18), 3) := by decide +kernel
theorem dX7_findLevels_23 : decode cX7_findLevels 23 = .ok (.iconst 1, 1) := by decide +kernel
theorem dX7_findLevels_24 : decode cX7_findLevels 24 = .ok (.istore_n 1, 1) := by decide +kernel
theorem dX7_findLevels_25 : decode cX7_findLevels 25 = .ok (.iload_n 1, 1) := by decide +kernel
theorem dX7_findLevels_26 : decode cX7_findLevels 26 = .ok (.ifCond .eq 108, 3) := by decide +kernel
theorem dX7_findLevels_29 : decode cX7_findLevels 29 = .ok (.iconst 0, 1) := by decide +kernel
theorem dX7_findLevels_30 : decode cX7_findLevels 30 = .ok (.istore_n 1, 1) := by decide +kernel
theorem dX7_findLevels_31 : decode cX7_findLevels 31 = .ok (.iconst 0, 1) := by decide +kernel
theorem dX7_findLevels_32 : decode cX7_findLevels 32 = .ok (.istore_n 2, 1) := by decide +kernel
theorem dX7_findLevels_33 : decode cX7_findLevels 33 = .ok (.iload_n 2, 1) := by decide +kernel
theorem dX7_findLevels_34 : decode cX7_findLevels 34 = .ok (.aload_n 0, 1) := by decide +kernel
theorem dX7_findLevels_35 : decode cX7_findLevels 35 = .ok (.getfield 43, 3) := by decide +kernel
theorem dX7_findLevels_38 : decode cX7_findLevels 38 = .ok (.if_icmp .ge 93, 3) := by decide +kernel
theorem dX7_findLevels_41 : decode cX7_findLevels 41 = .ok (.aload_n 0, 1) := by decide +kernel
theorem dX7_findLevels_42 : decode cX7_findLevels 42 = .ok (.getfield 7, 3) := by decide +kernel
theorem dX7_findLevels_45 : decode cX7_findLevels 45 = .ok (.iload_n 2, 1) := by decide +kernel
theorem dX7_findLevels_46 : decode cX7_findLevels 46 = .ok (.iaload, 1) := by decide +kernel
theorem dX7_findLevels_47 : decode cX7_findLevels 47 = .ok (.iconst 2, 1) := by decide +kernel
theorem dX7_findLevels_48 : decode cX7_findLevels 48 = .ok (.if_icmp .ne 77, 3) := by decide +kernel
theorem dX7_findLevels_51 : decode cX7_findLevels 51 = .ok (.aload_n 0, 1) := by decide +kernel
theorem dX7_findLevels_52 : decode cX7_findLevels 52 = .ok (.getfield 37, 3) := by decide +kernel
theorem dX7_findLevels_55 : decode cX7_findLevels 55 = .ok (.aload_n 0, 1) := by decide +kernel
theorem dX7_findLevels_56 : decode cX7_findLevels 56 = .ok (.getfield 13, 3) := by decide +kernel
theorem dX7_findLevels_59 : decode cX7_findLevels 59 = .ok (.iload_n 2, 1) := by decide +kernel
theorem dX7_findLevels_60 : decode cX7_findLevels 60 = .ok (.iaload, 1) := by decide +kernel
theorem dX7_findLevels_61 : decode cX7_findLevels 61 = .ok (.iconst 2, 1) := by decide +kernel
theorem dX7_findLevels_62 : decode cX7_findLevels 62 = .ok (.idiv, 1) := by decide +kernel
theorem dX7_findLevels_63 : decode cX7_findLevels 63 = .ok (.iaload, 1) := by decide +kernel
theorem dX7_findLevels_64 : decode cX7_findLevels 64 = .ok (.istore_n 3, 1) := by decide +kernel
theorem dX7_findLevels_65 : decode cX7_findLevels 65 = .ok (.aload_n 0, 1) := by decide +kernel
theorem dX7_findLevels_66 : decode cX7_findLevels 66 = .ok (.getfield 37, 3) := by decide +kernel
theorem dX7_findLevels_69 : decode cX7_findLevels 69 = .ok (.aload_n 0, 1) := by decide +kernel
theorem dX7_findLevels_70 : decode cX7_findLevels 70 = .ok (.getfield 16, 3) := by decide +kernel
theorem dX7_findLevels_73 : decode cX7_findLevels 73 = .ok (.iload_n 2, 1) := by decide +kernel
theorem dX7_findLevels_74 : decode cX7_findLevels 74 = .ok (.iaload, 1) := by decide +kernel
theorem dX7_findLevels_75 : decode cX7_findLevels 75 = .ok (.iconst 2, 1) := by decide +kernel
theorem dX7_findLevels_76 : decode cX7_findLevels 76 = .ok (.idiv, 1) := by decide +kernel
theorem dX7_findLevels_77 : decode cX7_findLevels 77 = .ok (.iaload, 1) := by decide +kernel
theorem dX7_findLevels_78 : decode cX7_findLevels 78 = .ok (.istore 4, 2) := by decide +kernel
theorem dX7_findLevels_80 : decode cX7_findLevels 80 = .ok (.iconst 1, 1) := by decide +kernel
theorem dX7_findLevels_81 : decode cX7_findLevels 81 = .ok (.iload_n 3, 1) := by decide +kernel
theorem dX7_findLevels_82 : decode cX7_findLevels 82 = .ok (.iload 4, 2) := by decide +kernel
theorem dX7_findLevels_84 : decode cX7_findLevels 84 = .ok (.if_icmp .le 7, 3) := by decide +kernel
theorem dX7_findLevels_87 : decode cX7_findLevels 87 = .ok (.iload_n 3, 1) := by decide +kernel
theorem dX7_findLevels_88 : decode cX7_findLevels 88 = .ok (.goto 5, 3) := by decide +kernel
theorem dX7_findLevels_91 : decode cX7_findLevels 91 = .ok (.iload 4, 2) := by decide +kernel
theorem dX7_findLevels_93 : decode cX7_findLevels 93 = .ok (.iadd, 1) := by decide +kernel
theorem dX7_findLevels_94 : decode cX7_findLevels 94 = .ok (.istore 5, 2) := by decide +kernel
theorem dX7_findLevels_96 : decode cX7_findLevels 96 = .ok (.iload_n 1, 1) := by decide +kernel
theorem dX7_findLevels_97 : decode cX7_findLevels 97 = .ok (.ifCond .ne 14, 3) := by decide +kernel
theorem dX7_findLevels_100 : decode cX7_findLevels 100 = .ok (.iload 5, 2) := by decide +kernel
theorem dX7_findLevels_102 : decode cX7_findLevels 102 = .ok (.aload_n 0, 1) := by decide +kernel
theorem dX7_findLevels_103 : decode cX7_findLevels 103 = .ok (.getfield 37, 3) := by decide +kernel
theorem dX7_findLevels_106 : decode cX7_findLevels 106 = .ok (.iload_n 2, 1) := by decide +kernel
theorem dX7_findLevels_107 : decode cX7_findLevels 107 = .ok (.iaload, 1) := by decide +kernel
theorem dX7_findLevels_108 : decode cX7_findLevels 108 = .ok (.if_icmp .eq 7, 3) := by decide +kernel
theorem dX7_findLevels_111 : decode cX7_findLevels 111 = .ok (.iconst 1, 1) := by decide +kernel
theorem dX7_findLevels_112 : decode cX7_findLevels 112 = .ok (.goto 4, 3) := by decide +kernel
theorem dX7_findLevels_115 : decode cX7_findLevels 115 = .ok (.iconst 0, 1) := by decide +kernel
theorem dX7_findLevels_116 : decode cX7_findLevels 116 = .ok (.istore_n 1, 1) := by decide +kernel
theorem dX7_findLevels_117 : decode cX7_findLevels 117 = .ok (.aload_n 0, 1) := by decide +kernel
theorem dX7_findLevels_118 : decode cX7_findLevels 118 = .ok (.getfield 37, 3) := by decide +kernel
theorem dX7_findLevels_121 : decode cX7_findLevels 121 = .ok (.iload_n 2, 1) := by decide +kernel
theorem dX7_findLevels_122 : decode cX7_findLevels 122 = .ok (.iload 5, 2) := by decide +kernel
theorem dX7_findLevels_124 : decode cX7_findLevels 124 = .ok (.iastore, 1) := by decide +kernel
theorem dX7_findLevels_125 : decode cX7_findLevels 125 = .ok (.iinc 2 1, 3) := by decide +kernel
theorem dX7_findLevels_128 : decode cX7_findLevels 128 = .ok (.goto (-95), 3) := by decide +kernel
theorem dX7_findLevels_131 : decode cX7_findLevels 131 = .ok (.goto (-106), 3) := by decide +kernel
theorem dX7_findLevels_134 : decode cX7_findLevels 134 = .ok (.return_, 1) := by decide +kernel
theorem dX7_greatest_0 : decode cX7_greatest 0 = .ok (.iconst 0, 1) := by decide +kernel
theorem dX7_greatest_1 : decode cX7_greatest 1 = .ok (.istore_n 1, 1) := by decide +kernel
