theorem dX5_passAnds_0 : decode cX5_passAnds 0 = .ok (.iconst 0, 1) := by decide +kernel
theorem dX5_passAnds_1 : decode cX5_passAnds 1 = .ok (.istore_n 2, 1) := by decide +kernel
theorem dX5_passAnds_2 : decode cX5_passAnds 2 = .ok (.iconst 0, 1) := by decide +kernel
theorem dX5_passAnds_3 : decode cX5_passAnds 3 = .ok (.istore_n 3, 1) := by decide +kernel
theorem dX5_passAnds_4 : decode cX5_passAnds 4 = .ok (.iload_n 3, 1) := by decide +kernel
theorem dX5_passAnds_5 : decode cX5_passAnds 5 = .ok (.aload_n 1, 1) := by decide +kernel
theorem dX5_passAnds_6 : decode cX5_passAnds 6 = .ok (.invokevirtual 33, 3) := by decide +kernel
theorem dX5_passAnds_9 : decode cX5_passAnds 9 = .ok (.if_icmp .ge 67, 3) := by decide +kernel
theorem dX5_passAnds_12 : decode cX5_passAnds 12 = .ok (.aload_n 1, 1) := by decide +kernel
theorem dX5_passAnds_13 : decode cX5_passAnds 13 = .ok (.iload_n 3, 1) := by decide +kernel
theorem dX5_passAnds_14 : decode cX5_passAnds 14 = .ok (.invokevirtual 39, 3) := by decide +kernel
theorem dX5_passAnds_17 : decode cX5_passAnds 17 = .ok (.iconst 2, 1) := by decide +kernel
theorem dX5_passAnds_18 : decode cX5_passAnds 18 = .ok (.if_icmp .ne 52, 3) := by decide +kernel
theorem dX5_passAnds_21 : decode cX5_passAnds 21 = .ok (.aload_n 0, 1) := by decide +kernel
theorem dX5_passAnds_22 : decode cX5_passAnds 22 = .ok (.aload_n 1, 1) := by decide +kernel
theorem dX5_passAnds_23 : decode cX5_passAnds 23 = .ok (.iload_n 3, 1) := by decide +kernel
theorem dX5_passAnds_24 : decode cX5_passAnds 24 = .ok (.invokevirtual 51, 3) := by decide +kernel
theorem dX5_passAnds_27 : decode cX5_passAnds 27 = .ok (.invokevirtual 54, 3) := by decide +kernel
theorem dX5_passAnds_30 : decode cX5_passAnds 30 = .ok (.aload_n 0, 1) := by decide +kernel
theorem dX5_passAnds_31 : decode cX5_passAnds 31 = .ok (.aload_n 1, 1) := by decide +kernel
theorem dX5_passAnds_32 : decode cX5_passAnds 32 = .ok (.iload_n 3, 1) := by decide +kernel
theorem dX5_passAnds_33 : decode cX5_passAnds 33 = .ok (.invokevirtual 58, 3) := by decide +kernel
theorem dX5_passAnds_36 : decode cX5_passAnds 36 = .ok (.invokevirtual 54, 3) := by decide +kernel
theorem dX5_passAnds_39 : decode cX5_passAnds 39 = .ok (.land, 1) := by decide +kernel
theorem dX5_passAnds_40 : decode cX5_passAnds 40 = .ok (.lstore 4, 2) := by decide +kernel
theorem dX5_passAnds_42 : decode cX5_passAnds 42 = .ok (.iload_n 2, 1) := by decide +kernel
theorem dX5_passAnds_43 : decode cX5_passAnds 43 = .ok (.ifCond .ne 14, 3) := by decide +kernel
theorem dX5_passAnds_46 : decode cX5_passAnds 46 = .ok (.aload_n 0, 1) := by decide +kernel
theorem dX5_passAnds_47 : decode cX5_passAnds 47 = .ok (.iload_n 3, 1) := by decide +kernel
theorem dX5_passAnds_48 : decode cX5_passAnds 48 = .ok (.invokevirtual 61, 3) := by decide +kernel
theorem dX5_passAnds_51 : decode cX5_passAnds 51 = .ok (.lload 4, 2) := by decide +kernel
theorem dX5_passAnds_53 : decode cX5_passAnds 53 = .ok (.lcmp, 1) := by decide +kernel
theorem dX5_passAnds_54 : decode cX5_passAnds 54 = .ok (.ifCond .eq 7, 3) := by decide +kernel
theorem dX5_passAnds_57 : decode cX5_passAnds 57 = .ok (.iconst 1, 1) := by decide +kernel
theorem dX5_passAnds_58 : decode cX5_passAnds 58 = .ok (.goto 4, 3) := by decide +kernel
theorem dX5_passAnds_61 : decode cX5_passAnds 61 = .ok (.iconst 0, 1) := by decide +kernel
theorem dX5_passAnds_62 : decode cX5_passAnds 62 = .ok (.istore_n 2, 1) := by decide +kernel
theorem dX5_passAnds_63 : decode cX5_passAnds 63 = .ok (.aload_n 0, 1) := by decide +kernel
theorem dX5_passAnds_64 : decode cX5_passAnds 64 = .ok (.iload_n 3, 1) := by decide +kernel
theorem dX5_passAnds_65 : decode cX5_passAnds 65 = .ok (.lload 4, 2) := by decide +kernel
theorem dX5_passAnds_67 : decode cX5_passAnds 67 = .ok (.invokevirtual 47, 3) := by decide +kernel
theorem dX5_passAnds_70 : decode cX5_passAnds 70 = .ok (.iinc 3 1, 3) := by decide +kernel
theorem dX5_passAnds_73 : decode cX5_passAnds 73 = .ok (.goto (-69), 3) := by decide +kernel
theorem dX5_passAnds_76 : decode cX5_passAnds 76 = .ok (.iload_n 2, 1) := by decide +kernel
theorem dX5_passAnds_77 : decode cX5_passAnds 77 = .ok (.ireturn, 1) := by decide +kernel
set_option maxRecDepth 20000 in
theorem ggX5_bitsOf_X6_nodeOf : GoodIn wsX5_bitsOf wsX6_nodeOf := goodIn_r _ [4] (by decide +kernel) (by decide +kernel)
set_option maxRecDepth 20000 in
theorem gX5_bitsOf_X6_nodeOf_n64 : GoodIn wsX5_bitsOf (wsX6_nodeOf) := ggX5_bitsOf_X6_nodeOf
set_option maxRecDepth 20000 in
theorem ggX5_bitsOf_X5_at : GoodIn wsX5_bitsOf wsX5_at := goodIn_r _ [9, 10, 13, 14] (by decide +kernel) (by decide +kernel)
set_option maxRecDepth 20000 in
theorem gX5_bitsOf_X5_at : GoodIn wsX5_bitsOf (wsV RX5 61 RX5 yX5_at wsX5_at) := goodIn_app (goodIn_of _ (by decide +kernel)) ggX5_bitsOf_X5_at
set_option maxRecDepth 20000 in
theorem ggX5_bitsOf_X6_isTurned : GoodIn wsX5_bitsOf wsX6_isTurned := goodIn_r _ [12] (by decide +kernel) (by decide +kernel)
set_option maxRecDepth 20000 in
theorem gX5_bitsOf_X6_isTurned_n67 : GoodIn wsX5_bitsOf (wsX6_isTurned) := ggX5_bitsOf_X6_isTurned
theorem dX5_bitsOf_0 : decode cX5_bitsOf 0 = .ok (.aload_n 0, 1) := by decide +kernel
theorem dX5_bitsOf_1 : decode cX5_bitsOf 1 = .ok (.iload_n 1, 1) := by decide +kernel
theorem dX5_bitsOf_2 : decode cX5_bitsOf 2 = .ok (.invokestatic 64, 3) := by decide +kernel
theorem dX5_bitsOf_5 : decode cX5_bitsOf 5 = .ok (.invokevirtual 61, 3) := by decide +kernel
theorem dX5_bitsOf_8 : decode cX5_bitsOf 8 = .ok (.lstore_n 2, 1) := by decide +kernel
theorem dX5_bitsOf_9 : decode cX5_bitsOf 9 = .ok (.iload_n 1, 1) := by decide +kernel
theorem dX5_bitsOf_10 : decode cX5_bitsOf 10 = .ok (.invokestatic 67, 3) := by decide +kernel
theorem dX5_bitsOf_13 : decode cX5_bitsOf 13 = .ok (.ifCond .eq 11, 3) := by decide +kernel
theorem dX5_bitsOf_16 : decode cX5_bitsOf 16 = .ok (.lload_n 2, 1) := by decide +kernel
theorem dX5_bitsOf_17 : decode cX5_bitsOf 17 = .ok (.ldc2_w 71, 3) := by decide +kernel
theorem dX5_bitsOf_20 : decode cX5_bitsOf 20 = .ok (.lxor, 1) := by decide +kernel
theorem dX5_bitsOf_21 : decode cX5_bitsOf 21 = .ok (.goto 4, 3) := by decide +kernel
theorem dX5_bitsOf_24 : decode cX5_bitsOf 24 = .ok (.lload_n 2, 1) := by decide +kernel
theorem dX5_bitsOf_25 : decode cX5_bitsOf 25 = .ok (.lreturn, 1) := by decide +kernel
theorem dX5_mix_0 : decode cX5_mix 0 = .ok (.lload_n 0, 1) := by decide +kernel
theorem dX5_mix_1 : decode cX5_mix 1 = .ok (.iload_n 2, 1) := by decide +kernel
theorem dX5_mix_2 : decode cX5_mix 2 = .ok (.iconst 1, 1) := by decide +kernel
theorem dX5_mix_3 : decode cX5_mix 3 = .ok (.iadd, 1) := by decide +kernel
theorem dX5_mix_4 : decode cX5_mix 4 = .ok (.i2l, 1) := by decide +kernel
theorem dX5_mix_5 : decode cX5_mix 5 = .ok (.ldc2_w 73, 3) := by decide +kernel
theorem dX5_mix_8 : decode cX5_mix 8 = .ok (.lmul, 1) := by decide +kernel
theorem dX5_mix_9 : decode cX5_mix 9 = .ok (.ladd, 1) := by decide +kernel
theorem dX5_mix_10 : decode cX5_mix 10 = .ok (.lstore_n 3, 1) := by decide +kernel
theorem dX5_mix_11 : decode cX5_mix 11 = .ok (.lload_n 3, 1) := by decide +kernel
theorem dX5_mix_12 : decode cX5_mix 12 = .ok (.lload_n 3, 1) := by decide +kernel
theorem dX5_mix_13 : decode cX5_mix 13 = .ok (.bipush 30, 2) := by decide +kernel
theorem dX5_mix_15 : decode cX5_mix 15 = .ok (.lushr, 1) := by decide +kernel
theorem dX5_mix_16 : decode cX5_mix 16 = .ok (.lxor, 1) := by decide +kernel
theorem dX5_mix_17 : decode cX5_mix 17 = .ok (.ldc2_w 75, 3) := by decide +kernel
theorem dX5_mix_20 : decode cX5_mix 20 = .ok (.lmul, 1) := by decide +kernel
theorem dX5_mix_21 : decode cX5_mix 21 = .ok (.lstore_n 3, 1) := by decide +kernel
theorem dX5_mix_22 : decode cX5_mix 22 = .ok (.lload_n 3, 1) := by decide +kernel
theorem dX5_mix_23 : decode cX5_mix 23 = .ok (.lload_n 3, 1) := by decide +kernel
theorem dX5_mix_24 : decode cX5_mix 24 = .ok (.bipush 27, 2) := by decide +kernel
theorem dX5_mix_26 : decode cX5_mix 26 = .ok (.lushr, 1) := by decide +kernel
theorem dX5_mix_27 : decode cX5_mix 27 = .ok (.lxor, 1) := by decide +kernel
theorem dX5_mix_28 : decode cX5_mix 28 = .ok (.ldc2_w 77, 3) := by decide +kernel
theorem dX5_mix_31 : decode cX5_mix 31 = .ok (.lmul, 1) := by decide +kernel
theorem dX5_mix_32 : decode cX5_mix 32 = .ok (.lstore_n 3, 1) := by decide +kernel
theorem dX5_mix_33 : decode cX5_mix 33 = .ok (.lload_n 3, 1) := by decide +kernel
theorem dX5_mix_34 : decode cX5_mix 34 = .ok (.lload_n 3, 1) := by decide +kernel
theorem dX5_mix_35 : decode cX5_mix 35 = .ok (.bipush 31, 2) := by decide +kernel
theorem dX5_mix_37 : decode cX5_mix 37 = .ok (.lushr, 1) := by decide +kernel
theorem dX5_mix_38 : decode cX5_mix 38 = .ok (.lxor, 1) := by decide +kernel
theorem dX5_mix_39 : decode cX5_mix 39 = .ok (.lreturn, 1) := by decide +kernel
set_option maxRecDepth 20000 in
theorem ggX6_init_X1_init : GoodIn wsX6_init wsX1_init := goodIn_r _ [26, 27, 2, 3, 28, 29, 30, 31, 32, 33, 34, 35, 36, 37, 38, 39, 40, 41, 42, 43, 44, 45, 46, 6, 47, 48, 49, 50, 51, 52, 104, 80, 81, 82, 83, 84, 85, 86, 87, 88, 89] (by decide +kernel) (by decide +kernel)
set_option maxRecDepth 20000 in
theorem gX6_init_X1_init : GoodIn wsX6_init (wsX1_init) := ggX6_init_X1_init
set_option maxRecDepth 20000 in
theorem ggX6_init_X2_init : GoodIn wsX6_init wsX2_init := goodIn_r _ [55, 56, 2, 3, 57, 58, 95, 96, 97] (by decide +kernel) (by decide +kernel)
set_option maxRecDepth 20000 in
theorem gX6_init_X2_init : GoodIn wsX6_init (wsX2_init) := ggX6_init_X2_init
set_option maxRecDepth 20000 in
theorem ggX6_init_X5_init : GoodIn wsX6_init wsX5_init := goodIn_r _ [61, 62, 2, 3, 63, 64, 98, 99] (by decide +kernel) (by decide +kernel)
set_option maxRecDepth 20000 in
theorem gX6_init_X5_init : GoodIn wsX6_init (wsX5_init) := ggX6_init_X5_init
set_option maxRecDepth 20000 in
theorem ggX6_init_X3_init : GoodIn wsX6_init wsX3_init := goodIn_r _ [67, 68, 2, 3, 69, 29, 30, 70, 71, 39, 40, 41, 42, 43, 104, 100] (by decide +kernel) (by decide +kernel)
set_option maxRecDepth 20000 in
theorem gX6_init_X3_init : GoodIn wsX6_init (wsX3_init) := ggX6_init_X3_init
set_option maxRecDepth 20000 in
theorem ggX6_init_X4_init : GoodIn wsX6_init wsX4_init := goodIn_r _ [74, 75, 2, 3, 76, 29, 30, 77, 78, 79, 39, 40, 41, 42, 43, 104, 101, 102, 103] (by decide +kernel) (by decide +kernel)
set_option maxRecDepth 20000 in
theorem gX6_init_X4_init : GoodIn wsX6_init (wsX4_init) := ggX6_init_X4_init
theorem dX6_init_0 : decode cX6_init 0 = .ok (.aload_n 0, 1) := by decide +kernel
theorem dX6_init_1 : decode cX6_init 1 = .ok (.invokespecial 3, 3) := by decide +kernel
theorem dX6_init_4 : decode cX6_init 4 = .ok (.aload_n 0, 1) := by decide +kernel
theorem dX6_init_5 : decode cX6_init 5 = .ok (.new 9, 3) := by decide +kernel
theorem dX6_init_8 : decode cX6_init 8 = .ok (.dup, 1) := by decide +kernel
theorem dX6_init_9 : decode cX6_init 9 = .ok (.invokespecial 11, 3) := by decide +kernel
theorem dX6_init_12 : decode cX6_init 12 = .ok (.putfield 12, 3) := by decide +kernel
theorem dX6_init_15 : decode cX6_init 15 = .ok (.aload_n 0, 1) := by decide +kernel
theorem dX6_init_16 : decode cX6_init 16 = .ok (.new 16, 3) := by decide +kernel
theorem dX6_init_19 : decode cX6_init 19 = .ok (.dup, 1) := by decide +kernel
theorem dX6_init_20 : decode cX6_init 20 = .ok (.invokespecial 18, 3) := by decide +kernel
theorem dX6_init_23 : decode cX6_init 23 = .ok (.putfield 19, 3) := by decide +kernel
theorem dX6_init_26 : decode cX6_init 26 = .ok (.aload_n 0, 1) := by decide +kernel
theorem dX6_init_27 : decode cX6_init 27 = .ok (.new 23, 3) := by decide +kernel
theorem dX6_init_30 : decode cX6_init 30 = .ok (.dup, 1) := by decide +kernel
theorem dX6_init_31 : decode cX6_init 31 = .ok (.invokespecial 25, 3) := by decide +kernel
theorem dX6_init_34 : decode cX6_init 34 = .ok (.putfield 26, 3) := by decide +kernel
theorem dX6_init_37 : decode cX6_init 37 = .ok (.aload_n 0, 1) := by decide +kernel
theorem dX6_init_38 : decode cX6_init 38 = .ok (.new 30, 3) := by decide +kernel
theorem dX6_init_41 : decode cX6_init 41 = .ok (.dup, 1) := by decide +kernel
theorem dX6_init_42 : decode cX6_init 42 = .ok (.invokespecial 32, 3) := by decide +kernel
theorem dX6_init_45 : decode cX6_init 45 = .ok (.putfield 33, 3) := by decide +kernel
theorem dX6_init_48 : decode cX6_init 48 = .ok (.aload_n 0, 1) := by decide +kernel
theorem dX6_init_49 : decode cX6_init 49 = .ok (.new 37, 3) := by decide +kernel
theorem dX6_init_52 : decode cX6_init 52 = .ok (.dup, 1) := by decide +kernel
theorem dX6_init_53 : decode cX6_init 53 = .ok (.invokespecial 39, 3) := by decide +kernel
theorem dX6_init_56 : decode cX6_init 56 = .ok (.putfield 40, 3) := by decide +kernel
theorem dX6_init_59 : decode cX6_init 59 = .ok (.return_, 1) := by decide +kernel
set_option maxRecDepth 20000 in
theorem ggX6_input_X6_needRoomFor : GoodIn wsX6_input wsX6_needRoomFor := goodIn_ca (goodIn_r _ [6, 7, 8, 1, 9, 10, 11, 12, 13, 14, 90, 91, 92, 93, 94, 95, 96, 97, 98, 99, 100, 101, 102, 103, 104] (by decide +kernel) (by decide +kernel)) (goodIn_sub (fun _ h => List.mem_cons_of_mem _ (List.mem_append_right _ h)) (by decide +kernel))
set_option maxRecDepth 20000 in
theorem gX6_input_X6_needRoomFor : GoodIn wsX6_input (wsV RX6 44 RX6 yX6_needRoomFor wsX6_needRoomFor) := goodIn_app (goodIn_of _ (by decide +kernel)) ggX6_input_X6_needRoomFor
set_option maxRecDepth 20000 in
theorem ggX6_input_X6_startChange : GoodIn wsX6_input wsX6_startChange := goodIn_r _ [18, 19, 1, 20, 21, 22, 23, 24, 25, 26, 27, 28, 29, 12, 30, 31, 32, 33, 34, 35, 36, 37, 38, 39, 40, 41, 42, 43, 44, 45, 46, 47, 48, 49, 50, 51, 52, 53, 54, 55, 56, 57, 58, 59, 60, 14, 61, 62, 63, 64, 65, 66, 67, 68, 69, 70, 71, 72, 73, 74, 75, 76, 77, 78, 79, 80, 81, 82, 83, 84, 85, 90, 91, 92, 93, 94, 105, 106, 107, 95, 96, 97, 98, 99, 100, 101, 102, 103, 104, 108, 109, 110] (by decide +kernel) (by decide +kernel)
set_option maxRecDepth 20000 in
theorem gX6_input_X6_startChange : GoodIn wsX6_input (wsV RX6 48 RX6 yX6_startChange wsX6_startChange) := goodIn_app (goodIn_of _ (by decide +kernel)) ggX6_input_X6_startChange
set_option maxRecDepth 20000 in
theorem ggX6_input_X1_addNode : GoodIn wsX6_input wsX1_addNode := goodIn_r _ [60, 14, 44, 45, 46, 47, 48, 61, 62, 63, 43, 64, 56, 95, 96, 97, 98, 99, 100, 101, 102, 103, 104, 108] (by decide +kernel) (by decide +kernel)
set_option maxRecDepth 20000 in
theorem gX6_input_X1_addNode : GoodIn wsX6_input (wsV RX6 51 RX1 yX1_addNode wsX1_addNode) := goodIn_app (goodIn_of _ (by decide +kernel)) ggX6_input_X1_addNode
set_option maxRecDepth 20000 in
theorem ggX6_input_X6_literalOf : GoodIn wsX6_input wsX6_literalOf := goodIn_r _ [89] (by decide +kernel) (by decide +kernel)
set_option maxRecDepth 20000 in
theorem gX6_input_X6_literalOf : GoodIn wsX6_input (va_wsS RX6 55 yX6_literalOf wsX6_literalOf) := goodIn_app (goodIn_of _ (by decide +kernel)) ggX6_input_X6_literalOf
theorem dX6_input_0 : decode cX6_input 0 = .ok (.aload_n 0, 1) := by decide +kernel
theorem dX6_input_1 : decode cX6_input 1 = .ok (.iconst 1, 1) := by decide +kernel
theorem dX6_input_2 : decode cX6_input 2 = .ok (.invokevirtual 44, 3) := by decide +kernel
theorem dX6_input_5 : decode cX6_input 5 = .ok (.aload_n 0, 1) := by decide +kernel
theorem dX6_input_6 : decode cX6_input 6 = .ok (.invokevirtual 48, 3) := by decide +kernel
theorem dX6_input_9 : decode cX6_input 9 = .ok (.aload_n 0, 1) := by decide +kernel
theorem dX6_input_10 : decode cX6_input 10 = .ok (.getfield 12, 3) := by decide +kernel
theorem dX6_input_13 : decode cX6_input 13 = .ok (.iconst 1, 1) := by decide +kernel
theorem dX6_input_14 : decode cX6_input 14 = .ok (.invokevirtual 51, 3) := by decide +kernel
theorem dX6_input_17 : decode cX6_input 17 = .ok (.invokestatic 55, 3) := by decide +kernel
theorem dX6_input_20 : decode cX6_input 20 = .ok (.ireturn, 1) := by decide +kernel
set_option maxRecDepth 20000 in
theorem ggX6_and_X6_needLiteral : GoodIn wsX6_and wsX6_needLiteral := goodIn_ca (goodIn_r _ [6, 7, 8, 1, 9, 10, 5, 11, 12, 13, 14, 15, 16, 17, 131, 132, 133, 134, 135, 136, 137, 138, 139, 140, 141, 142, 143, 144, 145] (by decide +kernel) (by decide +kernel)) (goodIn_sub (fun _ h => List.mem_cons_of_mem _ (List.mem_append_left _ (List.mem_append_left _ (List.mem_append_right _ h)))) (by decide +kernel))
set_option maxRecDepth 20000 in
theorem gX6_and_X6_needLiteral : GoodIn wsX6_and (wsV RX6 58 RX6 yX6_needLiteral wsX6_needLiteral) := goodIn_app (goodIn_of _ (by decide +kernel)) ggX6_and_X6_needLiteral
set_option maxRecDepth 20000 in
theorem ggX6_and_X6_nodeOf : GoodIn wsX6_and wsX6_nodeOf := goodIn_r _ [11] (by decide +kernel) (by decide +kernel)
set_option maxRecDepth 20000 in
theorem gX6_and_X6_nodeOf : GoodIn wsX6_and (va_wsS RX6 61 yX6_nodeOf wsX6_nodeOf) := goodIn_app (goodIn_of _ (by decide +kernel)) ggX6_and_X6_nodeOf
set_option maxRecDepth 20000 in
theorem ggX6_and_X6_needStanding : GoodIn wsX6_and wsX6_needStanding := goodIn_ca (goodIn_r _ [21, 22, 23, 1, 24, 25, 26, 15, 27, 28, 29, 30, 31, 32, 33, 34, 131, 132, 133, 134, 135, 136, 137, 138, 139, 140, 141, 142, 143, 144, 145, 146] (by decide +kernel) (by decide +kernel)) (goodIn_sub (fun _ h => List.mem_cons_of_mem _ (List.mem_append_left _ (List.mem_append_right _ h))) (by decide +kernel))
set_option maxRecDepth 20000 in
theorem gX6_and_X6_needStanding : GoodIn wsX6_and (wsV RX6 64 RX6 yX6_needStanding wsX6_needStanding) := goodIn_app (goodIn_of _ (by decide +kernel)) ggX6_and_X6_needStanding
set_option maxRecDepth 20000 in
theorem ggX6_and_X1_knownAnd : GoodIn wsX6_and wsX1_knownAnd := goodIn_r _ [38, 39, 40, 41, 42, 43, 44, 45, 46, 5, 47, 48, 49, 50, 15, 51, 17, 52, 53, 29, 30, 31, 32, 33, 34, 54, 55, 136, 137, 138, 139, 140, 141, 142, 143, 144, 145, 146] (by decide +kernel) (by decide +kernel)
set_option maxRecDepth 20000 in
theorem gX6_and_X1_knownAnd : GoodIn wsX6_and (wsV RX6 67 RX1 yX1_knownAnd wsX1_knownAnd) := goodIn_app (goodIn_of _ (by decide +kernel)) ggX6_and_X1_knownAnd
set_option maxRecDepth 20000 in
theorem ggX6_and_X6_needRoomFor : GoodIn wsX6_and wsX6_needRoomFor := goodIn_ca (goodIn_r _ [59, 60, 61, 1, 12, 13, 14, 15, 16, 17, 131, 132, 133, 134, 135, 136, 137, 138, 139, 140, 141, 142, 143, 144, 145] (by decide +kernel) (by decide +kernel)) (goodIn_sub (fun _ h => List.mem_cons_of_mem _ (List.mem_append_right _ h)) (by decide +kernel))
set_option maxRecDepth 20000 in
theorem gX6_and_X6_needRoomFor : GoodIn wsX6_and (wsV RX6 44 RX6 yX6_needRoomFor wsX6_needRoomFor) := goodIn_app (goodIn_of _ (by decide +kernel)) ggX6_and_X6_needRoomFor
set_option maxRecDepth 20000 in
theorem ggX6_and_X6_startChange : GoodIn wsX6_and wsX6_startChange := goodIn_r _ [65, 66, 1, 67, 68, 69, 70, 71, 72, 73, 74, 75, 76, 15, 77, 78, 40, 41, 42, 79, 80, 81, 82, 83, 84, 85, 86, 32, 28, 52, 53, 87, 88, 89, 90, 91, 92, 93, 94, 95, 34, 96, 97, 98, 99, 17, 100, 101, 102, 103, 104, 105, 106, 107, 108, 109, 110, 111, 112, 113, 114, 115, 116, 117, 118, 119, 120, 121, 122, 123, 124, 131, 132, 133, 134, 135, 147, 148, 149, 136, 137, 138, 139, 140, 141, 142, 143, 144, 145, 146, 150, 151] (by decide +kernel) (by decide +kernel)
set_option maxRecDepth 20000 in
theorem gX6_and_X6_startChange : GoodIn wsX6_and (wsV RX6 48 RX6 yX6_startChange wsX6_startChange) := goodIn_app (goodIn_of _ (by decide +kernel)) ggX6_and_X6_startChange
set_option maxRecDepth 20000 in
theorem ggX6_and_X1_addNode : GoodIn wsX6_and wsX1_addNode := goodIn_r _ [99, 17, 28, 52, 53, 87, 88, 100, 101, 102, 32, 103, 34, 136, 137, 138, 139, 140, 141, 142, 143, 144, 145, 146] (by decide +kernel) (by decide +kernel)
set_option maxRecDepth 20000 in
theorem gX6_and_X1_addNode : GoodIn wsX6_and (wsV RX6 51 RX1 yX1_addNode wsX1_addNode) := goodIn_app (goodIn_of _ (by decide +kernel)) ggX6_and_X1_addNode
set_option maxRecDepth 20000 in
theorem ggX6_and_X1_giveFanins : GoodIn wsX6_and wsX1_giveFanins := goodIn_r _ [129, 52, 39, 40, 41, 42, 53, 43, 44, 45, 100, 101, 102, 32, 103, 34, 136, 137, 138, 139, 140, 141, 142, 143, 144, 145, 146] (by decide +kernel) (by decide +kernel)
set_option maxRecDepth 20000 in
theorem gX6_and_X1_giveFanins : GoodIn wsX6_and (wsV RX6 71 RX1 yX1_giveFanins wsX1_giveFanins) := goodIn_app (goodIn_of _ (by decide +kernel)) ggX6_and_X1_giveFanins
set_option maxRecDepth 20000 in
theorem ggX6_and_X6_literalOf : GoodIn wsX6_and wsX6_literalOf := goodIn_r _ [55] (by decide +kernel) (by decide +kernel)
set_option maxRecDepth 20000 in
theorem gX6_and_X6_literalOf : GoodIn wsX6_and (va_wsS RX6 55 yX6_literalOf wsX6_literalOf) := goodIn_app (goodIn_of _ (by decide +kernel)) ggX6_and_X6_literalOf
theorem dX6_and_0 : decode cX6_and 0 = .ok (.aload_n 0, 1) := by decide +kernel
theorem dX6_and_1 : decode cX6_and 1 = .ok (.iload_n 1, 1) := by decide +kernel
theorem dX6_and_2 : decode cX6_and 2 = .ok (.invokevirtual 58, 3) := by decide +kernel
theorem dX6_and_5 : decode cX6_and 5 = .ok (.aload_n 0, 1) := by decide +kernel
theorem dX6_and_6 : decode cX6_and 6 = .ok (.iload_n 2, 1) := by decide +kernel
theorem dX6_and_7 : decode cX6_and 7 = .ok (.invokevirtual 58, 3) := by decide +kernel
theorem dX6_and_10 : decode cX6_and 10 = .ok (.aload_n 0, 1) := by decide +kernel
theorem dX6_and_11 : decode cX6_and 11 = .ok (.iload_n 1, 1) := by decide +kernel
theorem dX6_and_12 : decode cX6_and 12 = .ok (.invokestatic 61, 3) := by decide +kernel
theorem dX6_and_15 : decode cX6_and 15 = .ok (.invokevirtual 64, 3) := by decide +kernel
theorem dX6_and_18 : decode cX6_and 18 = .ok (.aload_n 0, 1) := by decide +kernel
theorem dX6_and_19 : decode cX6_and 19 = .ok (.iload_n 2, 1) := by decide +kernel
theorem dX6_and_20 : decode cX6_and 20 = .ok (.invokestatic 61, 3) := by decide +kernel
theorem dX6_and_23 : decode cX6_and 23 = .ok (.invokevirtual 64, 3) := by decide +kernel
theorem dX6_and_26 : decode cX6_and 26 = .ok (.aload_n 0, 1) := by decide +kernel
theorem dX6_and_27 : decode cX6_and 27 = .ok (.getfield 12, 3) := by decide +kernel
theorem dX6_and_30 : decode cX6_and 30 = .ok (.iload_n 1, 1) := by decide +kernel
theorem dX6_and_31 : decode cX6_and 31 = .ok (.iload_n 2, 1) := by decide +kernel
theorem dX6_and_32 : decode cX6_and 32 = .ok (.iconst (-1), 1) := by decide +kernel
theorem dX6_and_33 : decode cX6_and 33 = .ok (.invokevirtual 67, 3) := by decide +kernel
theorem dX6_and_36 : decode cX6_and 36 = .ok (.istore_n 3, 1) := by decide +kernel
theorem dX6_and_37 : decode cX6_and 37 = .ok (.iload_n 3, 1) := by decide +kernel
theorem dX6_and_38 : decode cX6_and 38 = .ok (.iconst (-1), 1) := by decide +kernel
theorem dX6_and_39 : decode cX6_and 39 = .ok (.if_icmp .eq 5, 3) := by decide +kernel
theorem dX6_and_42 : decode cX6_and 42 = .ok (.iload_n 3, 1) := by decide +kernel
theorem dX6_and_43 : decode cX6_and 43 = .ok (.ireturn, 1) := by decide +kernel
theorem dX6_and_44 : decode cX6_and 44 = .ok (.aload_n 0, 1) := by decide +kernel
theorem dX6_and_45 : decode cX6_and 45 = .ok (.iconst 1, 1) := by decide +kernel
theorem dX6_and_46 : decode cX6_and 46 = .ok (.invokevirtual 44, 3) := by decide +kernel
theorem dX6_and_49 : decode cX6_and 49 = .ok (.aload_n 0, 1) := by decide +kernel
theorem dX6_and_50 : decode cX6_and 50 = .ok (.invokevirtual 48, 3) := by decide +kernel
theorem dX6_and_53 : decode cX6_and 53 = .ok (.aload_n 0, 1) := by decide +kernel
theorem dX6_and_54 : decode cX6_and 54 = .ok (.getfield 12, 3) := by decide +kernel
theorem dX6_and_57 : decode cX6_and 57 = .ok (.iconst 2, 1) := by decide +kernel
theorem dX6_and_58 : decode cX6_and 58 = .ok (.invokevirtual 51, 3) := by decide +kernel
theorem dX6_and_61 : decode cX6_and 61 = .ok (.istore 4, 2) := by decide +kernel
theorem dX6_and_63 : decode cX6_and 63 = .ok (.aload_n 0, 1) := by decide +kernel
theorem dX6_and_64 : decode cX6_and 64 = .ok (.getfield 12, 3) := by decide +kernel
theorem dX6_and_67 : decode cX6_and 67 = .ok (.iload 4, 2) := by decide +kernel
theorem dX6_and_69 : decode cX6_and 69 = .ok (.iload_n 1, 1) := by decide +kernel
theorem dX6_and_70 : decode cX6_and 70 = .ok (.iload_n 2, 1) := by decide +kernel
theorem dX6_and_71 : decode cX6_and 71 = .ok (.invokevirtual 71, 3) := by decide +kernel
theorem dX6_and_74 : decode cX6_and 74 = .ok (.iload 4, 2) := by decide +kernel
theorem dX6_and_76 : decode cX6_and 76 = .ok (.invokestatic 55, 3) := by decide +kernel
theorem dX6_and_79 : decode cX6_and 79 = .ok (.ireturn, 1) := by decide +kernel
set_option maxRecDepth 20000 in
theorem ggX6_output_X6_needLiteral : GoodIn wsX6_output wsX6_needLiteral := goodIn_ca (goodIn_r _ [8, 9, 10, 3, 11, 12, 7, 13, 14, 15, 16, 17, 18, 19, 113, 114, 115, 116, 117, 118, 119, 120, 121, 122, 123, 124, 125, 126, 127] (by decide +kernel) (by decide +kernel)) (goodIn_sub (fun _ h => List.mem_cons_of_mem _ (List.mem_append_left _ (List.mem_append_right _ h))) (by decide +kernel))
set_option maxRecDepth 20000 in
theorem gX6_output_X6_needLiteral : GoodIn wsX6_output (wsV RX6 58 RX6 yX6_needLiteral wsX6_needLiteral) := goodIn_app (goodIn_of _ (by decide +kernel)) ggX6_output_X6_needLiteral
set_option maxRecDepth 20000 in
theorem ggX6_output_X6_nodeOf : GoodIn wsX6_output wsX6_nodeOf := goodIn_r _ [13] (by decide +kernel) (by decide +kernel)
set_option maxRecDepth 20000 in
theorem gX6_output_X6_nodeOf : GoodIn wsX6_output (va_wsS RX6 61 yX6_nodeOf wsX6_nodeOf) := goodIn_app (goodIn_of _ (by decide +kernel)) ggX6_output_X6_nodeOf
set_option maxRecDepth 20000 in
theorem ggX6_output_X6_needStanding : GoodIn wsX6_output wsX6_needStanding := goodIn_ca (goodIn_r _ [23, 24, 25, 3, 26, 27, 28, 17, 29, 30, 31, 32, 33, 34, 35, 36, 113, 114, 115, 116, 117, 118, 119, 120, 121, 122, 123, 124, 125, 126, 127, 128] (by decide +kernel) (by decide +kernel)) (goodIn_sub (fun _ h => List.mem_cons_of_mem _ (List.mem_append_right _ h)) (by decide +kernel))
set_option maxRecDepth 20000 in
theorem gX6_output_X6_needStanding : GoodIn wsX6_output (wsV RX6 64 RX6 yX6_needStanding wsX6_needStanding) := goodIn_app (goodIn_of _ (by decide +kernel)) ggX6_output_X6_needStanding
set_option maxRecDepth 20000 in
theorem ggX6_output_X1_outputsGiven : GoodIn wsX6_output wsX1_outputsGiven := goodIn_r _ [40, 41, 118, 119, 120, 121, 122, 123, 124, 125, 126, 127] (by decide +kernel) (by decide +kernel)
set_option maxRecDepth 20000 in
theorem gX6_output_X1_outputsGiven : GoodIn wsX6_output (wsV RX6 75 RX1 yX1_outputsGiven wsX1_outputsGiven) := goodIn_app (goodIn_of _ (by decide +kernel)) ggX6_output_X1_outputsGiven
set_option maxRecDepth 20000 in
theorem ggX6_output_X6_startChange : GoodIn wsX6_output wsX6_startChange := goodIn_r _ [45, 46, 3, 47, 48, 49, 50, 51, 52, 53, 54, 55, 56, 17, 57, 58, 59, 60, 61, 62, 63, 64, 65, 66, 67, 68, 69, 34, 30, 70, 71, 72, 73, 74, 75, 76, 77, 78, 79, 80, 36, 81, 82, 83, 84, 19, 85, 86, 87, 88, 89, 90, 91, 92, 41, 93, 94, 95, 96, 97, 98, 99, 100, 101, 102, 103, 104, 105, 106, 107, 108, 113, 114, 115, 116, 117, 129, 130, 131, 118, 119, 120, 121, 122, 123, 124, 125, 126, 127, 128, 132, 133] (by decide +kernel) (by decide +kernel)
set_option maxRecDepth 20000 in
theorem gX6_output_X6_startChange : GoodIn wsX6_output (wsV RX6 48 RX6 yX6_startChange wsX6_startChange) := goodIn_app (goodIn_of _ (by decide +kernel)) ggX6_output_X6_startChange
set_option maxRecDepth 20000 in
theorem ggX6_output_X1_addOutput : GoodIn wsX6_output wsX1_addOutput := goodIn_r _ [112, 41, 74, 75, 85, 86, 87, 34, 88, 36, 118, 119, 120, 121, 122, 123, 124, 125, 126, 127, 128] (by decide +kernel) (by decide +kernel)
set_option maxRecDepth 20000 in
theorem gX6_output_X1_addOutput : GoodIn wsX6_output (wsV RX6 86 RX1 yX1_addOutput wsX1_addOutput) := goodIn_app (goodIn_of _ (by decide +kernel)) ggX6_output_X1_addOutput
theorem dX6_output_0 : decode cX6_output 0 = .ok (.aload_n 0, 1) := by decide +kernel
theorem dX6_output_1 : decode cX6_output 1 = .ok (.iload_n 1, 1) := by decide +kernel
theorem dX6_output_2 : decode cX6_output 2 = .ok (.invokevirtual 58, 3) := by decide +kernel
theorem dX6_output_5 : decode cX6_output 5 = .ok (.aload_n 0, 1) := by decide +kernel
theorem dX6_output_6 : decode cX6_output 6 = .ok (.iload_n 1, 1) := by decide +kernel
theorem dX6_output_7 : decode cX6_output 7 = .ok (.invokestatic 61, 3) := by decide +kernel
theorem dX6_output_10 : decode cX6_output 10 = .ok (.invokevirtual 64, 3) := by decide +kernel
theorem dX6_output_13 : decode cX6_output 13 = .ok (.aload_n 0, 1) := by decide +kernel
theorem dX6_output_14 : decode cX6_output 14 = .ok (.getfield 12, 3) := by decide +kernel
theorem dX6_output_17 : decode cX6_output 17 = .ok (.invokevirtual 75, 3) := by decide +kernel
theorem dX6_output_20 : decode cX6_output 20 = .ok (.bipush 40, 2) := by decide +kernel
theorem dX6_output_22 : decode cX6_output 22 = .ok (.if_icmp .lt 13, 3) := by decide +kernel
theorem dX6_output_25 : decode cX6_output 25 = .ok (.new 79, 3) := by decide +kernel
theorem dX6_output_28 : decode cX6_output 28 = .ok (.dup, 1) := by decide +kernel
theorem dX6_output_29 : decode cX6_output 29 = .ok (.ldc 81, 2) := by decide +kernel
theorem dX6_output_31 : decode cX6_output 31 = .ok (.invokespecial 83, 3) := by decide +kernel
theorem dX6_output_34 : decode cX6_output 34 = .ok (.athrow, 1) := by decide +kernel
theorem dX6_output_35 : decode cX6_output 35 = .ok (.aload_n 0, 1) := by decide +kernel
theorem dX6_output_36 : decode cX6_output 36 = .ok (.invokevirtual 48, 3) := by decide +kernel
theorem dX6_output_39 : decode cX6_output 39 = .ok (.aload_n 0, 1) := by decide +kernel
theorem dX6_output_40 : decode cX6_output 40 = .ok (.getfield 12, 3) := by decide +kernel
theorem dX6_output_43 : decode cX6_output 43 = .ok (.iload_n 1, 1) := by decide +kernel
theorem dX6_output_44 : decode cX6_output 44 = .ok (.invokevirtual 86, 3) := by decide +kernel
theorem dX6_output_47 : decode cX6_output 47 = .ok (.ireturn, 1) := by decide +kernel
set_option maxRecDepth 20000 in
theorem ggX6_outputAt_X1_outputsGiven : GoodIn wsX6_outputAt wsX1_outputsGiven := goodIn_r _ [8, 9, 31, 32, 33, 34, 35, 36, 37, 38, 39, 40] (by decide +kernel) (by decide +kernel)
set_option maxRecDepth 20000 in
theorem gX6_outputAt_X1_outputsGiven : GoodIn wsX6_outputAt (wsV RX6 75 RX1 yX1_outputsGiven wsX1_outputsGiven) := goodIn_app (goodIn_of _ (by decide +kernel)) ggX6_outputAt_X1_outputsGiven
set_option maxRecDepth 20000 in
theorem ggX6_outputAt_X1_isBoxed : GoodIn wsX6_outputAt wsX1_isBoxed := goodIn_r _ [13, 14, 15, 16, 17, 18, 19, 20, 31, 32, 33, 34, 35, 36, 37, 38, 39, 40, 41] (by decide +kernel) (by decide +kernel)
set_option maxRecDepth 20000 in
theorem gX6_outputAt_X1_isBoxed : GoodIn wsX6_outputAt (wsV RX6 94 RX1 yX1_isBoxed wsX1_isBoxed) := goodIn_app (goodIn_of _ (by decide +kernel)) ggX6_outputAt_X1_isBoxed
set_option maxRecDepth 20000 in
theorem ggX6_outputAt_X1_outputLiteral : GoodIn wsX6_outputAt wsX1_outputLiteral := goodIn_r _ [24, 25, 15, 16, 17, 18, 19, 20, 31, 32, 33, 34, 35, 36, 37, 38, 39, 40, 41] (by decide +kernel) (by decide +kernel)
set_option maxRecDepth 20000 in
theorem gX6_outputAt_X1_outputLiteral : GoodIn wsX6_outputAt (wsV RX6 98 RX1 yX1_outputLiteral wsX1_outputLiteral) := goodIn_app (goodIn_of _ (by decide +kernel)) ggX6_outputAt_X1_outputLiteral
theorem dX6_outputAt_0 : decode cX6_outputAt 0 = .ok (.iload_n 1, 1) := by decide +kernel
theorem dX6_outputAt_1 : decode cX6_outputAt 1 = .ok (.ifCond .lt 14, 3) := by decide +kernel
theorem dX6_outputAt_4 : decode cX6_outputAt 4 = .ok (.iload_n 1, 1) := by decide +kernel
theorem dX6_outputAt_5 : decode cX6_outputAt 5 = .ok (.aload_n 0, 1) := by decide +kernel
theorem dX6_outputAt_6 : decode cX6_outputAt 6 = .ok (.getfield 12, 3) := by decide +kernel
theorem dX6_outputAt_9 : decode cX6_outputAt 9 = .ok (.invokevirtual 75, 3) := by decide +kernel
theorem dX6_outputAt_12 : decode cX6_outputAt 12 = .ok (.if_icmp .lt 13, 3) := by decide +kernel
theorem dX6_outputAt_15 : decode cX6_outputAt 15 = .ok (.new 89, 3) := by decide +kernel
theorem dX6_outputAt_18 : decode cX6_outputAt 18 = .ok (.dup, 1) := by decide +kernel
theorem dX6_outputAt_19 : decode cX6_outputAt 19 = .ok (.ldc 91, 2) := by decide +kernel
theorem dX6_outputAt_21 : decode cX6_outputAt 21 = .ok (.invokespecial 93, 3) := by decide +kernel
theorem dX6_outputAt_24 : decode cX6_outputAt 24 = .ok (.athrow, 1) := by decide +kernel
theorem dX6_outputAt_25 : decode cX6_outputAt 25 = .ok (.aload_n 0, 1) := by decide +kernel
theorem dX6_outputAt_26 : decode cX6_outputAt 26 = .ok (.getfield 12, 3) := by decide +kernel
theorem dX6_outputAt_29 : decode cX6_outputAt 29 = .ok (.iload_n 1, 1) := by decide +kernel
theorem dX6_outputAt_30 : decode cX6_outputAt 30 = .ok (.invokevirtual 94, 3) := by decide +kernel
theorem dX6_outputAt_33 : decode cX6_outputAt 33 = .ok (.ifCond .eq 7, 3) := by decide +kernel
theorem dX6_outputAt_36 : decode cX6_outputAt 36 = .ok (.iconst (-1), 1) := by decide +kernel
theorem dX6_outputAt_37 : decode cX6_outputAt 37 = .ok (.goto 11, 3) := by decide +kernel
theorem dX6_outputAt_40 : decode cX6_outputAt 40 = .ok (.aload_n 0, 1) := by decide +kernel
theorem dX6_outputAt_41 : decode cX6_outputAt 41 = .ok (.getfield 12, 3) := by decide +kernel
theorem dX6_outputAt_44 : decode cX6_outputAt 44 = .ok (.iload_n 1, 1) := by decide +kernel
theorem dX6_outputAt_45 : decode cX6_outputAt 45 = .ok (.invokevirtual 98, 3) := by decide +kernel
theorem dX6_outputAt_48 : decode cX6_outputAt 48 = .ok (.ireturn, 1) := by decide +kernel
set_option maxRecDepth 20000 in
theorem ggX6_latch_X6_needRoomFor : GoodIn wsX6_latch wsX6_needRoomFor := goodIn_ca (goodIn_r _ [8, 9, 10, 3, 11, 12, 13, 14, 15, 16, 96, 97, 98, 99, 100, 101, 102, 103, 104, 105, 106, 107, 108, 109, 110] (by decide +kernel) (by decide +kernel)) (goodIn_sub (fun _ h => List.mem_cons_of_mem _ (List.mem_append_right _ h)) (by decide +kernel))
set_option maxRecDepth 20000 in
theorem gX6_latch_X6_needRoomFor : GoodIn wsX6_latch (wsV RX6 44 RX6 yX6_needRoomFor wsX6_needRoomFor) := goodIn_app (goodIn_of _ (by decide +kernel)) ggX6_latch_X6_needRoomFor
set_option maxRecDepth 20000 in
theorem ggX6_latch_X6_startChange : GoodIn wsX6_latch wsX6_startChange := goodIn_r _ [20, 21, 3, 22, 23, 24, 25, 26, 27, 28, 29, 30, 31, 14, 32, 33, 34, 35, 36, 37, 38, 39, 40, 41, 42, 43, 44, 45, 46, 47, 48, 49, 50, 51, 52, 53, 54, 55, 56, 57, 58, 59, 60, 61, 62, 16, 63, 64, 65, 66, 67, 68, 69, 70, 71, 72, 73, 74, 75, 76, 77, 78, 79, 80, 81, 82, 83, 84, 85, 86, 87, 96, 97, 98, 99, 100, 111, 112, 113, 101, 102, 103, 104, 105, 106, 107, 108, 109, 110, 114, 115, 116] (by decide +kernel) (by decide +kernel)
set_option maxRecDepth 20000 in
theorem gX6_latch_X6_startChange : GoodIn wsX6_latch (wsV RX6 48 RX6 yX6_startChange wsX6_startChange) := goodIn_app (goodIn_of _ (by decide +kernel)) ggX6_latch_X6_startChange
set_option maxRecDepth 20000 in
theorem ggX6_latch_X1_addNode : GoodIn wsX6_latch wsX1_addNode := goodIn_r _ [62, 16, 46, 47, 48, 49, 50, 63, 64, 65, 45, 66, 58, 101, 102, 103, 104, 105, 106, 107, 108, 109, 110, 114] (by decide +kernel) (by decide +kernel)
set_option maxRecDepth 20000 in
theorem gX6_latch_X1_addNode : GoodIn wsX6_latch (wsV RX6 51 RX1 yX1_addNode wsX1_addNode) := goodIn_app (goodIn_of _ (by decide +kernel)) ggX6_latch_X1_addNode
set_option maxRecDepth 20000 in
theorem ggX6_latch_X1_giveNext : GoodIn wsX6_latch wsX1_giveNext := goodIn_r _ [92, 49, 63, 64, 65, 45, 66, 58, 101, 102, 103, 104, 105, 106, 107, 108, 109, 110, 114] (by decide +kernel) (by decide +kernel)
set_option maxRecDepth 20000 in
theorem gX6_latch_X1_giveNext : GoodIn wsX6_latch (wsV RX6 106 RX1 yX1_giveNext wsX1_giveNext) := goodIn_app (goodIn_of _ (by decide +kernel)) ggX6_latch_X1_giveNext
set_option maxRecDepth 20000 in
theorem ggX6_latch_X6_literalOf : GoodIn wsX6_latch wsX6_literalOf := goodIn_r _ [95] (by decide +kernel) (by decide +kernel)
set_option maxRecDepth 20000 in
theorem gX6_latch_X6_literalOf : GoodIn wsX6_latch (va_wsS RX6 55 yX6_literalOf wsX6_literalOf) := goodIn_app (goodIn_of _ (by decide +kernel)) ggX6_latch_X6_literalOf
theorem dX6_latch_0 : decode cX6_latch 0 = .ok (.iload_n 1, 1) := by decide +kernel
theorem dX6_latch_1 : decode cX6_latch 1 = .ok (.ifCond .eq 18, 3) := by decide +kernel
theorem dX6_latch_4 : decode cX6_latch 4 = .ok (.iload_n 1, 1) := by decide +kernel
theorem dX6_latch_5 : decode cX6_latch 5 = .ok (.iconst 1, 1) := by decide +kernel
theorem dX6_latch_6 : decode cX6_latch 6 = .ok (.if_icmp .eq 13, 3) := by decide +kernel
theorem dX6_latch_9 : decode cX6_latch 9 = .ok (.new 101, 3) := by decide +kernel
theorem dX6_latch_12 : decode cX6_latch 12 = .ok (.dup, 1) := by decide +kernel
theorem dX6_latch_13 : decode cX6_latch 13 = .ok (.ldc 103, 2) := by decide +kernel
theorem dX6_latch_15 : decode cX6_latch 15 = .ok (.invokespecial 105, 3) := by decide +kernel
theorem dX6_latch_18 : decode cX6_latch 18 = .ok (.athrow, 1) := by decide +kernel
theorem dX6_latch_19 : decode cX6_latch 19 = .ok (.aload_n 0, 1) := by decide +kernel
theorem dX6_latch_20 : decode cX6_latch 20 = .ok (.iconst 1, 1) := by decide +kernel
theorem dX6_latch_21 : decode cX6_latch 21 = .ok (.invokevirtual 44, 3) := by decide +kernel
theorem dX6_latch_24 : decode cX6_latch 24 = .ok (.aload_n 0, 1) := by decide +kernel
theorem dX6_latch_25 : decode cX6_latch 25 = .ok (.invokevirtual 48, 3) := by decide +kernel
theorem dX6_latch_28 : decode cX6_latch 28 = .ok (.aload_n 0, 1) := by decide +kernel
theorem dX6_latch_29 : decode cX6_latch 29 = .ok (.getfield 12, 3) := by decide +kernel
theorem dX6_latch_32 : decode cX6_latch 32 = .ok (.iconst 3, 1) := by decide +kernel
theorem dX6_latch_33 : decode cX6_latch 33 = .ok (.invokevirtual 51, 3) := by decide +kernel
theorem dX6_latch_36 : decode cX6_latch 36 = .ok (.istore_n 2, 1) := by decide +kernel
theorem dX6_latch_37 : decode cX6_latch 37 = .ok (.aload_n 0, 1) := by decide +kernel
theorem dX6_latch_38 : decode cX6_latch 38 = .ok (.getfield 12, 3) := by decide +kernel
theorem dX6_latch_41 : decode cX6_latch 41 = .ok (.iload_n 2, 1) := by decide +kernel
theorem dX6_latch_42 : decode cX6_latch 42 = .ok (.iconst 0, 1) := by decide +kernel
theorem dX6_latch_43 : decode cX6_latch 43 = .ok (.invokevirtual 106, 3) := by decide +kernel
theorem dX6_latch_46 : decode cX6_latch 46 = .ok (.iload_n 2, 1) := by decide +kernel
theorem dX6_latch_47 : decode cX6_latch 47 = .ok (.invokestatic 55, 3) := by decide +kernel
theorem dX6_latch_50 : decode cX6_latch 50 = .ok (.ireturn, 1) := by decide +kernel
set_option maxRecDepth 20000 in
theorem ggX6_next_X6_needLiteral : GoodIn wsX6_next wsX6_needLiteral := goodIn_ca (goodIn_r _ [6, 7, 8, 1, 9, 10, 5, 11, 12, 13, 14, 15, 16, 17, 115, 116, 117, 118, 119, 120, 121, 122, 123, 124, 125, 126, 127, 128, 129] (by decide +kernel) (by decide +kernel)) (goodIn_sub (fun _ h => List.mem_cons_of_mem _ (List.mem_append_left _ (List.mem_append_right _ h))) (by decide +kernel))
set_option maxRecDepth 20000 in
theorem gX6_next_X6_needLiteral : GoodIn wsX6_next (wsV RX6 58 RX6 yX6_needLiteral wsX6_needLiteral) := goodIn_app (goodIn_of _ (by decide +kernel)) ggX6_next_X6_needLiteral
set_option maxRecDepth 20000 in
theorem ggX6_next_X6_nodeOf : GoodIn wsX6_next wsX6_nodeOf := goodIn_r _ [11] (by decide +kernel) (by decide +kernel)
set_option maxRecDepth 20000 in
theorem gX6_next_X6_nodeOf : GoodIn wsX6_next (va_wsS RX6 61 yX6_nodeOf wsX6_nodeOf) := goodIn_app (goodIn_of _ (by decide +kernel)) ggX6_next_X6_nodeOf
set_option maxRecDepth 20000 in
theorem ggX6_next_X6_needLatch : GoodIn wsX6_next wsX6_needLatch := goodIn_ca (goodIn_r _ [21, 22, 23, 1, 24, 25, 26, 15, 27, 28, 29, 30, 31, 32, 33, 34, 115, 116, 117, 118, 119, 120, 121, 122, 123, 124, 125, 126, 127, 128, 129, 130] (by decide +kernel) (by decide +kernel)) (goodIn_sub (fun _ h => List.mem_cons_of_mem _ (List.mem_append_right _ h)) (by decide +kernel))
set_option maxRecDepth 20000 in
theorem gX6_next_X6_needLatch : GoodIn wsX6_next (wsV RX6 110 RX6 yX6_needLatch wsX6_needLatch) := goodIn_app (goodIn_of _ (by decide +kernel)) ggX6_next_X6_needLatch
set_option maxRecDepth 20000 in
theorem ggX6_next_X6_needStanding : GoodIn wsX6_next wsX6_needStanding := goodIn_ca (goodIn_r _ [38, 22, 23, 1, 24, 25, 26, 15, 27, 28, 29, 30, 31, 32, 33, 34, 115, 116, 117, 118, 119, 120, 121, 122, 123, 124, 125, 126, 127, 128, 129, 130] (by decide +kernel) (by decide +kernel)) (goodIn_sub (fun _ h => List.mem_cons_of_mem _ (List.mem_append_right _ h)) (by decide +kernel))
set_option maxRecDepth 20000 in
theorem gX6_next_X6_needStanding : GoodIn wsX6_next (wsV RX6 64 RX6 yX6_needStanding wsX6_needStanding) := goodIn_app (goodIn_of _ (by decide +kernel)) ggX6_next_X6_needStanding
set_option maxRecDepth 20000 in
theorem ggX6_next_X1_nextLiteral : GoodIn wsX6_next wsX1_nextLiteral := goodIn_r _ [42, 43, 29, 30, 31, 32, 33, 34, 120, 121, 122, 123, 124, 125, 126, 127, 128, 129, 130] (by decide +kernel) (by decide +kernel)
set_option maxRecDepth 20000 in
theorem gX6_next_X1_nextLiteral : GoodIn wsX6_next (wsV RX6 113 RX1 yX1_nextLiteral wsX1_nextLiteral) := goodIn_app (goodIn_of _ (by decide +kernel)) ggX6_next_X1_nextLiteral
set_option maxRecDepth 20000 in
theorem ggX6_next_X6_startChange : GoodIn wsX6_next wsX6_startChange := goodIn_r _ [47, 48, 1, 49, 50, 51, 52, 53, 54, 55, 56, 57, 58, 15, 59, 60, 61, 62, 63, 64, 65, 66, 67, 68, 69, 70, 71, 32, 28, 72, 73, 43, 74, 75, 76, 77, 78, 79, 80, 81, 34, 82, 83, 84, 85, 17, 86, 87, 88, 89, 90, 91, 92, 93, 94, 95, 96, 97, 98, 99, 100, 101, 102, 103, 104, 105, 106, 107, 108, 109, 110, 115, 116, 117, 118, 119, 131, 132, 133, 120, 121, 122, 123, 124, 125, 126, 127, 128, 129, 130, 134, 135] (by decide +kernel) (by decide +kernel)
set_option maxRecDepth 20000 in
theorem gX6_next_X6_startChange : GoodIn wsX6_next (wsV RX6 48 RX6 yX6_startChange wsX6_startChange) := goodIn_app (goodIn_of _ (by decide +kernel)) ggX6_next_X6_startChange
set_option maxRecDepth 20000 in
theorem ggX6_next_X1_giveNext : GoodIn wsX6_next wsX1_giveNext := goodIn_r _ [114, 43, 86, 87, 88, 32, 89, 34, 120, 121, 122, 123, 124, 125, 126, 127, 128, 129, 130] (by decide +kernel) (by decide +kernel)
set_option maxRecDepth 20000 in
theorem gX6_next_X1_giveNext : GoodIn wsX6_next (wsV RX6 106 RX1 yX1_giveNext wsX1_giveNext) := goodIn_app (goodIn_of _ (by decide +kernel)) ggX6_next_X1_giveNext
theorem dX6_next_0 : decode cX6_next 0 = .ok (.aload_n 0, 1) := by decide +kernel
theorem dX6_next_1 : decode cX6_next 1 = .ok (.iload_n 1, 1) := by decide +kernel
theorem dX6_next_2 : decode cX6_next 2 = .ok (.invokevirtual 58, 3) := by decide +kernel
theorem dX6_next_5 : decode cX6_next 5 = .ok (.aload_n 0, 1) := by decide +kernel
theorem dX6_next_6 : decode cX6_next 6 = .ok (.iload_n 2, 1) := by decide +kernel
theorem dX6_next_7 : decode cX6_next 7 = .ok (.invokevirtual 58, 3) := by decide +kernel
theorem dX6_next_10 : decode cX6_next 10 = .ok (.aload_n 0, 1) := by decide +kernel
theorem dX6_next_11 : decode cX6_next 11 = .ok (.iload_n 1, 1) := by decide +kernel
theorem dX6_next_12 : decode cX6_next 12 = .ok (.invokestatic 61, 3) := by decide +kernel
theorem dX6_next_15 : decode cX6_next 15 = .ok (.invokevirtual 110, 3) := by decide +kernel
theorem dX6_next_18 : decode cX6_next 18 = .ok (.aload_n 0, 1) := by decide +kernel
theorem dX6_next_19 : decode cX6_next 19 = .ok (.iload_n 2, 1) := by decide +kernel
theorem dX6_next_20 : decode cX6_next 20 = .ok (.invokestatic 61, 3) := by decide +kernel
theorem dX6_next_23 : decode cX6_next 23 = .ok (.invokevirtual 64, 3) := by decide +kernel
theorem dX6_next_26 : decode cX6_next 26 = .ok (.aload_n 0, 1) := by decide +kernel
theorem dX6_next_27 : decode cX6_next 27 = .ok (.getfield 12, 3) := by decide +kernel
theorem dX6_next_30 : decode cX6_next 30 = .ok (.iload_n 1, 1) := by decide +kernel
theorem dX6_next_31 : decode cX6_next 31 = .ok (.invokestatic 61, 3) := by decide +kernel
theorem dX6_next_34 : decode cX6_next 34 = .ok (.invokevirtual 113, 3) := by decide +kernel
theorem dX6_next_37 : decode cX6_next 37 = .ok (.iload_n 2, 1) := by decide +kernel
theorem dX6_next_38 : decode cX6_next 38 = .ok (.if_icmp .ne 5, 3) := by decide +kernel
theorem dX6_next_41 : decode cX6_next 41 = .ok (.iconst 0, 1) := by decide +kernel
theorem dX6_next_42 : decode cX6_next 42 = .ok (.ireturn, 1) := by decide +kernel
theorem dX6_next_43 : decode cX6_next 43 = .ok (.aload_n 0, 1) := by decide +kernel
theorem dX6_next_44 : decode cX6_next 44 = .ok (.invokevirtual 48, 3) := by decide +kernel
theorem dX6_next_47 : decode cX6_next 47 = .ok (.aload_n 0, 1) := by decide +kernel
theorem dX6_next_48 : decode cX6_next 48 = .ok (.getfield 12, 3) := by decide +kernel
theorem dX6_next_51 : decode cX6_next 51 = .ok (.iload_n 1, 1) := by decide +kernel
theorem dX6_next_52 : decode cX6_next 52 = .ok (.invokestatic 61, 3) := by decide +kernel
theorem dX6_next_55 : decode cX6_next 55 = .ok (.iload_n 2, 1) := by decide +kernel
theorem dX6_next_56 : decode cX6_next 56 = .ok (.invokevirtual 106, 3) := by decide +kernel
theorem dX6_next_59 : decode cX6_next 59 = .ok (.iconst 1, 1) := by decide +kernel
theorem dX6_next_60 : decode cX6_next 60 = .ok (.ireturn, 1) := by decide +kernel
set_option maxRecDepth 20000 in
theorem ggX6_nextOf_X6_needLiteral : GoodIn wsX6_nextOf wsX6_needLiteral := goodIn_ca (goodIn_r _ [6, 7, 8, 1, 9, 10, 5, 11, 12, 13, 14, 15, 16, 17, 40, 41, 42, 43, 44, 45, 46, 47, 48, 49, 50, 51, 52, 53, 54] (by decide +kernel) (by decide +kernel)) (goodIn_sub (fun _ h => List.mem_cons_of_mem _ (List.mem_append_left _ (List.mem_append_right _ h))) (by decide +kernel))
set_option maxRecDepth 20000 in
theorem gX6_nextOf_X6_needLiteral : GoodIn wsX6_nextOf (wsV RX6 58 RX6 yX6_needLiteral wsX6_needLiteral) := goodIn_app (goodIn_of _ (by decide +kernel)) ggX6_nextOf_X6_needLiteral
set_option maxRecDepth 20000 in
theorem ggX6_nextOf_X6_nodeOf : GoodIn wsX6_nextOf wsX6_nodeOf := goodIn_r _ [11] (by decide +kernel) (by decide +kernel)
set_option maxRecDepth 20000 in
theorem gX6_nextOf_X6_nodeOf : GoodIn wsX6_nextOf (va_wsS RX6 61 yX6_nodeOf wsX6_nodeOf) := goodIn_app (goodIn_of _ (by decide +kernel)) ggX6_nextOf_X6_nodeOf
set_option maxRecDepth 20000 in
theorem ggX6_nextOf_X6_needLatch : GoodIn wsX6_nextOf wsX6_needLatch := goodIn_ca (goodIn_r _ [21, 22, 23, 1, 24, 25, 26, 15, 27, 28, 29, 30, 31, 32, 33, 34, 40, 41, 42, 43, 44, 45, 46, 47, 48, 49, 50, 51, 52, 53, 54, 55] (by decide +kernel) (by decide +kernel)) (goodIn_sub (fun _ h => List.mem_cons_of_mem _ (List.mem_append_right _ h)) (by decide +kernel))
set_option maxRecDepth 20000 in
theorem gX6_nextOf_X6_needLatch : GoodIn wsX6_nextOf (wsV RX6 110 RX6 yX6_needLatch wsX6_needLatch) := goodIn_app (goodIn_of _ (by decide +kernel)) ggX6_nextOf_X6_needLatch
set_option maxRecDepth 20000 in
theorem ggX6_nextOf_X1_nextLiteral : GoodIn wsX6_nextOf wsX1_nextLiteral := goodIn_r _ [38, 39, 29, 30, 31, 32, 33, 34, 45, 46, 47, 48, 49, 50, 51, 52, 53, 54, 55] (by decide +kernel) (by decide +kernel)
set_option maxRecDepth 20000 in
theorem gX6_nextOf_X1_nextLiteral : GoodIn wsX6_nextOf (wsV RX6 113 RX1 yX1_nextLiteral wsX1_nextLiteral) := goodIn_app (goodIn_of _ (by decide +kernel)) ggX6_nextOf_X1_nextLiteral
theorem dX6_nextOf_0 : decode cX6_nextOf 0 = .ok (.aload_n 0, 1) := by decide +kernel
theorem dX6_nextOf_1 : decode cX6_nextOf 1 = .ok (.iload_n 1, 1) := by decide +kernel
theorem dX6_nextOf_2 : decode cX6_nextOf 2 = .ok (.invokevirtual 58, 3) := by decide +kernel
theorem dX6_nextOf_5 : decode cX6_nextOf 5 = .ok (.aload_n 0, 1) := by decide +kernel
theorem dX6_nextOf_6 : decode cX6_nextOf 6 = .ok (.iload_n 1, 1) := by decide +kernel
theorem dX6_nextOf_7 : decode cX6_nextOf 7 = .ok (.invokestatic 61, 3) := by decide +kernel
theorem dX6_nextOf_10 : decode cX6_nextOf 10 = .ok (.invokevirtual 110, 3) := by decide +kernel
theorem dX6_nextOf_13 : decode cX6_nextOf 13 = .ok (.aload_n 0, 1) := by decide +kernel
theorem dX6_nextOf_14 : decode cX6_nextOf 14 = .ok (.getfield 12, 3) := by decide +kernel
theorem dX6_nextOf_17 : decode cX6_nextOf 17 = .ok (.iload_n 1, 1) := by decide +kernel
theorem dX6_nextOf_18 : decode cX6_nextOf 18 = .ok (.invokestatic 61, 3) := by decide +kernel
theorem dX6_nextOf_21 : decode cX6_nextOf 21 = .ok (.invokevirtual 113, 3) := by decide +kernel
theorem dX6_nextOf_24 : decode cX6_nextOf 24 = .ok (.ireturn, 1) := by decide +kernel
set_option maxRecDepth 20000 in
theorem ggX6_box_X1_outputsToBox : GoodIn wsX6_box wsX1_outputsToBox := goodIn_r _ [8, 9, 10, 105, 106, 107, 108, 109, 110, 111, 112, 113, 114] (by decide +kernel) (by decide +kernel)
set_option maxRecDepth 20000 in
theorem gX6_box_X1_outputsToBox : GoodIn wsX6_box (wsV RX6 116 RX1 yX1_outputsToBox wsX1_outputsToBox) := goodIn_app (goodIn_of _ (by decide +kernel)) ggX6_box_X1_outputsToBox
set_option maxRecDepth 20000 in
theorem ggX6_box_X6_needRoomFor : GoodIn wsX6_box wsX6_needRoomFor := goodIn_ca (goodIn_r _ [15, 16, 17, 3, 18, 19, 20, 7, 21, 22, 100, 101, 102, 103, 104, 105, 106, 107, 108, 109, 110, 111, 112, 113, 114] (by decide +kernel) (by decide +kernel)) (goodIn_sub (fun _ h => List.mem_cons_of_mem _ (List.mem_append_right _ h)) (by decide +kernel))
set_option maxRecDepth 20000 in
theorem gX6_box_X6_needRoomFor : GoodIn wsX6_box (wsV RX6 44 RX6 yX6_needRoomFor wsX6_needRoomFor) := goodIn_app (goodIn_of _ (by decide +kernel)) ggX6_box_X6_needRoomFor
set_option maxRecDepth 20000 in
theorem ggX6_box_X6_startChange : GoodIn wsX6_box wsX6_startChange := goodIn_r _ [26, 27, 3, 28, 29, 30, 31, 32, 33, 34, 35, 36, 37, 7, 38, 39, 40, 41, 42, 43, 44, 45, 46, 47, 48, 49, 50, 51, 52, 53, 54, 55, 56, 57, 58, 59, 60, 61, 62, 63, 64, 65, 66, 67, 68, 22, 69, 70, 71, 72, 73, 74, 75, 76, 9, 10, 77, 78, 79, 80, 81, 82, 83, 84, 85, 86, 87, 88, 89, 90, 91, 100, 101, 102, 103, 104, 115, 116, 117, 105, 106, 107, 108, 109, 110, 111, 112, 113, 114, 118, 119, 120] (by decide +kernel) (by decide +kernel)
set_option maxRecDepth 20000 in
theorem gX6_box_X6_startChange : GoodIn wsX6_box (wsV RX6 48 RX6 yX6_startChange wsX6_startChange) := goodIn_app (goodIn_of _ (by decide +kernel)) ggX6_box_X6_startChange
set_option maxRecDepth 20000 in
theorem ggX6_box_X1_boxLatest : GoodIn wsX6_box wsX1_boxLatest := goodIn_r _ [95, 9, 58, 10, 69, 70, 71, 51, 72, 64, 105, 106, 107, 108, 109, 110, 111, 112, 113, 114, 118] (by decide +kernel) (by decide +kernel)
set_option maxRecDepth 20000 in
theorem gX6_box_X1_boxLatest : GoodIn wsX6_box (wsV RX6 123 RX1 yX1_boxLatest wsX1_boxLatest) := goodIn_app (goodIn_of _ (by decide +kernel)) ggX6_box_X1_boxLatest
set_option maxRecDepth 20000 in
theorem ggX6_box_X1_addNode : GoodIn wsX6_box wsX1_addNode := goodIn_r _ [68, 22, 52, 53, 54, 55, 56, 69, 70, 71, 51, 72, 64, 105, 106, 107, 108, 109, 110, 111, 112, 113, 114, 118] (by decide +kernel) (by decide +kernel)
set_option maxRecDepth 20000 in
theorem gX6_box_X1_addNode : GoodIn wsX6_box (wsV RX6 51 RX1 yX1_addNode wsX1_addNode) := goodIn_app (goodIn_of _ (by decide +kernel)) ggX6_box_X1_addNode
set_option maxRecDepth 20000 in
theorem ggX6_box_X6_literalOf : GoodIn wsX6_box wsX6_literalOf := goodIn_r _ [99] (by decide +kernel) (by decide +kernel)
set_option maxRecDepth 20000 in
theorem gX6_box_X6_literalOf : GoodIn wsX6_box (va_wsS RX6 55 yX6_literalOf wsX6_literalOf) := goodIn_app (goodIn_of _ (by decide +kernel)) ggX6_box_X6_literalOf
theorem dX6_box_0 : decode cX6_box 0 = .ok (.iload_n 1, 1) := by decide +kernel
theorem dX6_box_1 : decode cX6_box 1 = .ok (.ifCond .lt 14, 3) := by decide +kernel
theorem dX6_box_4 : decode cX6_box 4 = .ok (.iload_n 1, 1) := by decide +kernel
theorem dX6_box_5 : decode cX6_box 5 = .ok (.aload_n 0, 1) := by decide +kernel
theorem dX6_box_6 : decode cX6_box 6 = .ok (.getfield 12, 3) := by decide +kernel
theorem dX6_box_9 : decode cX6_box 9 = .ok (.invokevirtual 116, 3) := by decide +kernel
theorem dX6_box_12 : decode cX6_box 12 = .ok (.if_icmp .le 13, 3) := by decide +kernel
theorem dX6_box_15 : decode cX6_box 15 = .ok (.new 101, 3) := by decide +kernel
theorem dX6_box_18 : decode cX6_box 18 = .ok (.dup, 1) := by decide +kernel
theorem dX6_box_19 : decode cX6_box 19 = .ok (.ldc 119, 2) := by decide +kernel
theorem dX6_box_21 : decode cX6_box 21 = .ok (.invokespecial 105, 3) := by decide +kernel
theorem dX6_box_24 : decode cX6_box 24 = .ok (.athrow, 1) := by decide +kernel
theorem dX6_box_25 : decode cX6_box 25 = .ok (.iload_n 2, 1) := by decide +kernel
theorem dX6_box_26 : decode cX6_box 26 = .ok (.iconst 1, 1) := by decide +kernel
theorem dX6_box_27 : decode cX6_box 27 = .ok (.if_icmp .lt 9, 3) := by decide +kernel
theorem dX6_box_30 : decode cX6_box 30 = .ok (.iload_n 2, 1) := by decide +kernel
theorem dX6_box_31 : decode cX6_box 31 = .ok (.bipush 20, 2) := by decide +kernel
theorem dX6_box_33 : decode cX6_box 33 = .ok (.if_icmp .le 13, 3) := by decide +kernel
theorem dX6_box_36 : decode cX6_box 36 = .ok (.new 101, 3) := by decide +kernel
theorem dX6_box_39 : decode cX6_box 39 = .ok (.dup, 1) := by decide +kernel
theorem dX6_box_40 : decode cX6_box 40 = .ok (.ldc 121, 2) := by decide +kernel
theorem dX6_box_42 : decode cX6_box 42 = .ok (.invokespecial 105, 3) := by decide +kernel
theorem dX6_box_45 : decode cX6_box 45 = .ok (.athrow, 1) := by decide +kernel
theorem dX6_box_46 : decode cX6_box 46 = .ok (.aload_n 0, 1) := by decide +kernel
theorem dX6_box_47 : decode cX6_box 47 = .ok (.iload_n 2, 1) := by decide +kernel
theorem dX6_box_48 : decode cX6_box 48 = .ok (.invokevirtual 44, 3) := by decide +kernel
theorem dX6_box_51 : decode cX6_box 51 = .ok (.aload_n 0, 1) := by decide +kernel
theorem dX6_box_52 : decode cX6_box 52 = .ok (.invokevirtual 48, 3) := by decide +kernel
theorem dX6_box_55 : decode cX6_box 55 = .ok (.aload_n 0, 1) := by decide +kernel
theorem dX6_box_56 : decode cX6_box 56 = .ok (.getfield 12, 3) := by decide +kernel
theorem dX6_box_59 : decode cX6_box 59 = .ok (.iload_n 1, 1) := by decide +kernel
theorem dX6_box_60 : decode cX6_box 60 = .ok (.invokevirtual 123, 3) := by decide +kernel
theorem dX6_box_63 : decode cX6_box 63 = .ok (.aload_n 0, 1) := by decide +kernel
theorem dX6_box_64 : decode cX6_box 64 = .ok (.getfield 12, 3) := by decide +kernel
theorem dX6_box_67 : decode cX6_box 67 = .ok (.iconst 4, 1) := by decide +kernel
theorem dX6_box_68 : decode cX6_box 68 = .ok (.invokevirtual 51, 3) := by decide +kernel
theorem dX6_box_71 : decode cX6_box 71 = .ok (.istore_n 3, 1) := by decide +kernel
theorem dX6_box_72 : decode cX6_box 72 = .ok (.iconst 1, 1) := by decide +kernel
theorem dX6_box_73 : decode cX6_box 73 = .ok (.istore 4, 2) := by decide +kernel
theorem dX6_box_75 : decode cX6_box 75 = .ok (.iload 4, 2) := by decide +kernel
theorem dX6_box_77 : decode cX6_box 77 = .ok (.iload_n 2, 1) := by decide +kernel
theorem dX6_box_78 : decode cX6_box 78 = .ok (.if_icmp .ge 18, 3) := by decide +kernel
theorem dX6_box_81 : decode cX6_box 81 = .ok (.aload_n 0, 1) := by decide +kernel
theorem dX6_box_82 : decode cX6_box 82 = .ok (.getfield 12, 3) := by decide +kernel
theorem dX6_box_85 : decode cX6_box 85 = .ok (.iconst 4, 1) := by decide +kernel
theorem dX6_box_86 : decode cX6_box 86 = .ok (.invokevirtual 51, 3) := by decide +kernel
theorem dX6_box_89 : decode cX6_box 89 = .ok (.pop, 1) := by decide +kernel
theorem dX6_box_90 : decode cX6_box 90 = .ok (.iinc 4 1, 3) := by decide +kernel
theorem dX6_box_93 : decode cX6_box 93 = .ok (.goto (-18), 3) := by decide +kernel
theorem dX6_box_96 : decode cX6_box 96 = .ok (.iload_n 3, 1) := by decide +kernel
theorem dX6_box_97 : decode cX6_box 97 = .ok (.invokestatic 55, 3) := by decide +kernel
theorem dX6_box_100 : decode cX6_box 100 = .ok (.ireturn, 1) := by decide +kernel
set_option maxRecDepth 20000 in
theorem ggX6_replace_X6_needNode : GoodIn wsX6_replace wsX6_needNode := goodIn_ca (goodIn_r _ [9, 10, 11, 3, 12, 13, 14, 15, 16, 17, 197, 198, 199, 200, 201, 202, 203, 204, 205, 206, 207, 208, 209, 210, 211] (by decide +kernel) (by decide +kernel)) (goodIn_sub (fun _ h => List.mem_cons_of_mem _ (List.mem_append_right _ h)) (by decide +kernel))
set_option maxRecDepth 20000 in
theorem gX6_replace_X6_needNode : GoodIn wsX6_replace (wsV RX6 126 RX6 yX6_needNode wsX6_needNode) := goodIn_app (goodIn_of _ (by decide +kernel)) ggX6_replace_X6_needNode
set_option maxRecDepth 20000 in
theorem ggX6_replace_X6_needLiteral : GoodIn wsX6_replace wsX6_needLiteral := goodIn_ca (goodIn_r _ [21, 10, 11, 3, 22, 23, 8, 24, 12, 13, 14, 15, 16, 17, 197, 198, 199, 200, 201, 202, 203, 204, 205, 206, 207, 208, 209, 210, 211] (by decide +kernel) (by decide +kernel)) (goodIn_sub (fun _ h => List.mem_cons_of_mem _ (List.mem_append_right _ h)) (by decide +kernel))
set_option maxRecDepth 20000 in
theorem gX6_replace_X6_needLiteral : GoodIn wsX6_replace (wsV RX6 58 RX6 yX6_needLiteral wsX6_needLiteral) := goodIn_app (goodIn_of _ (by decide +kernel)) ggX6_replace_X6_needLiteral
set_option maxRecDepth 20000 in
theorem ggX6_replace_X1_sortOf : GoodIn wsX6_replace wsX1_sortOf := goodIn_r _ [28, 29, 30, 31, 32, 33, 34, 35, 202, 203, 204, 205, 206, 207, 208, 209, 210, 211, 212] (by decide +kernel) (by decide +kernel)
set_option maxRecDepth 20000 in
theorem gX6_replace_X1_sortOf : GoodIn wsX6_replace (wsV RX6 129 RX1 yX1_sortOf wsX1_sortOf) := goodIn_app (goodIn_of _ (by decide +kernel)) ggX6_replace_X1_sortOf
set_option maxRecDepth 20000 in
theorem ggX6_replace_X6_nodeOf : GoodIn wsX6_replace wsX6_nodeOf := goodIn_r _ [24] (by decide +kernel) (by decide +kernel)
set_option maxRecDepth 20000 in
theorem gX6_replace_X6_nodeOf : GoodIn wsX6_replace (va_wsS RX6 61 yX6_nodeOf wsX6_nodeOf) := goodIn_app (goodIn_of _ (by decide +kernel)) ggX6_replace_X6_nodeOf
set_option maxRecDepth 20000 in
theorem ggX6_replace_X6_needStanding : GoodIn wsX6_replace wsX6_needStanding := goodIn_ca (goodIn_r _ [39, 1, 2, 3, 25, 26, 27, 15, 28, 29, 30, 31, 32, 33, 34, 35, 197, 198, 199, 200, 201, 202, 203, 204, 205, 206, 207, 208, 209, 210, 211, 212] (by decide +kernel) (by decide +kernel)) (goodIn_sub (fun _ h => List.mem_cons_of_mem _ (List.mem_append_left _ (List.mem_append_right _ h))) (by decide +kernel))
set_option maxRecDepth 20000 in
theorem gX6_replace_X6_needStanding : GoodIn wsX6_replace (wsV RX6 64 RX6 yX6_needStanding wsX6_needStanding) := goodIn_app (goodIn_of _ (by decide +kernel)) ggX6_replace_X6_needStanding
set_option maxRecDepth 20000 in
theorem ggX6_replace_X4_isAtOrAbove : GoodIn wsX6_replace wsX4_isAtOrAbove := goodIn_r _ [44, 45, 46, 47, 43, 48, 49, 50, 51, 52, 53, 33, 54, 35, 55, 56, 57, 58, 59, 60, 61, 62, 63, 64, 31, 32, 34, 65, 66, 67, 68, 69, 70, 71, 72, 73, 74, 75, 15, 76, 77, 30, 23, 8, 24, 78, 79, 80, 81, 82, 83, 84, 85, 86, 213, 214, 215, 212, 202, 203, 204, 205, 206, 207, 208, 209, 210, 211] (by decide +kernel) (by decide +kernel)
set_option maxRecDepth 20000 in
theorem gX6_replace_X4_isAtOrAbove : GoodIn wsX6_replace (wsV RX6 134 RX4 yX4_isAtOrAbove wsX4_isAtOrAbove) := goodIn_app (goodIn_of _ (by decide +kernel)) ggX6_replace_X4_isAtOrAbove
set_option maxRecDepth 20000 in
theorem ggX6_replace_X6_startChange : GoodIn wsX6_replace wsX6_startChange := goodIn_r _ [90, 91, 3, 92, 93, 94, 95, 96, 97, 98, 99, 100, 101, 15, 102, 103, 104, 105, 106, 107, 108, 109, 110, 111, 112, 113, 114, 33, 29, 77, 82, 115, 116, 117, 118, 119, 120, 121, 122, 123, 35, 124, 125, 126, 127, 17, 128, 66, 67, 68, 129, 130, 131, 132, 133, 134, 135, 136, 137, 138, 139, 140, 141, 142, 143, 144, 145, 146, 147, 148, 149, 197, 198, 199, 200, 201, 216, 217, 218, 202, 203, 204, 205, 206, 207, 208, 209, 210, 211, 212, 219, 220] (by decide +kernel) (by decide +kernel)
set_option maxRecDepth 20000 in
theorem gX6_replace_X6_startChange : GoodIn wsX6_replace (wsV RX6 48 RX6 yX6_startChange wsX6_startChange) := goodIn_app (goodIn_of _ (by decide +kernel)) ggX6_replace_X6_startChange
set_option maxRecDepth 20000 in
theorem ggX6_replace_X1_replaceEverywhere : GoodIn wsX6_replace wsX1_replaceEverywhere := goodIn_r _ [153, 154, 133, 117, 17, 115, 155, 156, 157, 15, 158, 29, 77, 82, 116, 128, 66, 67, 33, 68, 35, 159, 160, 161, 162, 30, 31, 32, 34, 163, 164, 165, 166, 23, 8, 24, 167, 168, 169, 170, 171, 172, 173, 174, 175, 176, 177, 178, 179, 180, 181, 182, 183, 104, 105, 106, 184, 185, 186, 187, 188, 189, 190, 191, 192, 193, 194, 195, 196, 202, 203, 204, 205, 206, 207, 208, 209, 210, 211, 212] (by decide +kernel) (by decide +kernel)
set_option maxRecDepth 20000 in
theorem gX6_replace_X1_replaceEverywhere : GoodIn wsX6_replace (wsV RX6 138 RX1 yX1_replaceEverywhere wsX1_replaceEverywhere) := goodIn_app (goodIn_of _ (by decide +kernel)) ggX6_replace_X1_replaceEverywhere
theorem dX6_replace_0 : decode cX6_replace 0 = .ok (.aload_n 0, 1) := by decide +kernel
theorem dX6_replace_1 : decode cX6_replace 1 = .ok (.iload_n 1, 1) := by decide +kernel
theorem dX6_replace_2 : decode cX6_replace 2 = .ok (.invokevirtual 126, 3) := by decide +kernel
theorem dX6_replace_5 : decode cX6_replace 5 = .ok (.aload_n 0, 1) := by decide +kernel
theorem dX6_replace_6 : decode cX6_replace 6 = .ok (.iload_n 2, 1) := by decide +kernel
theorem dX6_replace_7 : decode cX6_replace 7 = .ok (.invokevirtual 58, 3) := by decide +kernel
theorem dX6_replace_10 : decode cX6_replace 10 = .ok (.aload_n 0, 1) := by decide +kernel
theorem dX6_replace_11 : decode cX6_replace 11 = .ok (.getfield 12, 3) := by decide +kernel
theorem dX6_replace_14 : decode cX6_replace 14 = .ok (.iload_n 1, 1) := by decide +kernel
theorem dX6_replace_15 : decode cX6_replace 15 = .ok (.invokevirtual 129, 3) := by decide +kernel
theorem dX6_replace_18 : decode cX6_replace 18 = .ok (.iconst 1, 1) := by decide +kernel
theorem dX6_replace_19 : decode cX6_replace 19 = .ok (.if_icmp .eq 25, 3) := by decide +kernel
theorem dX6_replace_22 : decode cX6_replace 22 = .ok (.aload_n 0, 1) := by decide +kernel
theorem dX6_replace_23 : decode cX6_replace 23 = .ok (.getfield 12, 3) := by decide +kernel
theorem dX6_replace_26 : decode cX6_replace 26 = .ok (.iload_n 1, 1) := by decide +kernel
theorem dX6_replace_27 : decode cX6_replace 27 = .ok (.invokevirtual 129, 3) := by decide +kernel
theorem dX6_replace_30 : decode cX6_replace 30 = .ok (.iconst 2, 1) := by decide +kernel
theorem dX6_replace_31 : decode cX6_replace 31 = .ok (.if_icmp .eq 13, 3) := by decide +kernel
theorem dX6_replace_34 : decode cX6_replace 34 = .ok (.new 101, 3) := by decide +kernel
theorem dX6_replace_37 : decode cX6_replace 37 = .ok (.dup, 1) := by decide +kernel
theorem dX6_replace_38 : decode cX6_replace 38 = .ok (.ldc 132, 2) := by decide +kernel
theorem dX6_replace_40 : decode cX6_replace 40 = .ok (.invokespecial 105, 3) := by decide +kernel
theorem dX6_replace_43 : decode cX6_replace 43 = .ok (.athrow, 1) := by decide +kernel
theorem dX6_replace_44 : decode cX6_replace 44 = .ok (.aload_n 0, 1) := by decide +kernel
theorem dX6_replace_45 : decode cX6_replace 45 = .ok (.iload_n 2, 1) := by decide +kernel
theorem dX6_replace_46 : decode cX6_replace 46 = .ok (.invokestatic 61, 3) := by decide +kernel
theorem dX6_replace_49 : decode cX6_replace 49 = .ok (.invokevirtual 64, 3) := by decide +kernel
theorem dX6_replace_52 : decode cX6_replace 52 = .ok (.aload_n 0, 1) := by decide +kernel
theorem dX6_replace_53 : decode cX6_replace 53 = .ok (.getfield 40, 3) := by decide +kernel
theorem dX6_replace_56 : decode cX6_replace 56 = .ok (.aload_n 0, 1) := by decide +kernel
theorem dX6_replace_57 : decode cX6_replace 57 = .ok (.getfield 12, 3) := by decide +kernel
theorem dX6_replace_60 : decode cX6_replace 60 = .ok (.iload_n 2, 1) := by decide +kernel
theorem dX6_replace_61 : decode cX6_replace 61 = .ok (.invokestatic 61, 3) := by decide +kernel
theorem dX6_replace_64 : decode cX6_replace 64 = .ok (.iload_n 1, 1) := by decide +kernel
theorem dX6_replace_65 : decode cX6_replace 65 = .ok (.invokevirtual 134, 3) := by decide +kernel
theorem dX6_replace_68 : decode cX6_replace 68 = .ok (.ifCond .eq 5, 3) := by decide +kernel
theorem dX6_replace_71 : decode cX6_replace 71 = .ok (.iconst 1, 1) := by decide +kernel
theorem dX6_replace_72 : decode cX6_replace 72 = .ok (.ireturn, 1) := by decide +kernel
theorem dX6_replace_73 : decode cX6_replace 73 = .ok (.aload_n 0, 1) := by decide +kernel
theorem dX6_replace_74 : decode cX6_replace 74 = .ok (.invokevirtual 48, 3) := by decide +kernel
theorem dX6_replace_77 : decode cX6_replace 77 = .ok (.aload_n 0, 1) := by decide +kernel
theorem dX6_replace_78 : decode cX6_replace 78 = .ok (.getfield 12, 3) := by decide +kernel
theorem dX6_replace_81 : decode cX6_replace 81 = .ok (.iload_n 1, 1) := by decide +kernel
theorem dX6_replace_82 : decode cX6_replace 82 = .ok (.iload_n 2, 1) := by decide +kernel
theorem dX6_replace_83 : decode cX6_replace 83 = .ok (.invokevirtual 138, 3) := by decide +kernel
theorem dX6_replace_86 : decode cX6_replace 86 = .ok (.iconst 0, 1) := by decide +kernel
theorem dX6_replace_87 : decode cX6_replace 87 = .ok (.ireturn, 1) := by decide +kernel
set_option maxRecDepth 20000 in
theorem ggX6_sweep_X4_spreadFromUsers : GoodIn wsX6_sweep wsX4_spreadFromUsers := goodIn_r _ [7, 8, 9, 10, 6, 11, 12, 13, 14, 15, 16, 17, 18, 19, 20, 21, 22, 23, 24, 25, 26, 27, 28, 29, 30, 31, 32, 33, 34, 35, 36, 37, 38, 39, 40, 41, 42, 43, 44, 45, 46, 47, 48, 49, 50, 51, 52, 53, 54, 55, 56, 57, 58, 59, 60, 61, 62, 63, 64, 65, 66, 67, 68, 69, 70, 71, 72, 73, 74, 75, 159, 160, 161, 162, 163, 164, 165, 166, 167, 168, 169, 170, 171, 172] (by decide +kernel) (by decide +kernel)
set_option maxRecDepth 20000 in
theorem gX6_sweep_X4_spreadFromUsers : GoodIn wsX6_sweep (wsV RX6 141 RX4 yX4_spreadFromUsers wsX4_spreadFromUsers) := goodIn_app (goodIn_of _ (by decide +kernel)) ggX6_sweep_X4_spreadFromUsers
set_option maxRecDepth 20000 in
theorem ggX6_sweep_X1_nodesGiven : GoodIn wsX6_sweep wsX1_nodesGiven := goodIn_r _ [55, 56, 163, 164, 165, 166, 167, 168, 169, 170, 171, 172] (by decide +kernel) (by decide +kernel)
set_option maxRecDepth 20000 in
theorem gX6_sweep_X1_nodesGiven : GoodIn wsX6_sweep (wsV RX6 145 RX1 yX1_nodesGiven wsX1_nodesGiven) := goodIn_app (goodIn_of _ (by decide +kernel)) ggX6_sweep_X1_nodesGiven
set_option maxRecDepth 20000 in
theorem ggX6_sweep_X6_isUnusedAnd : GoodIn wsX6_sweep wsX6_isUnusedAnd := goodIn_r _ [80, 2, 1, 81, 82, 83, 27, 84, 85, 35, 36, 37, 17, 38, 19, 86, 87, 88, 6, 89, 12, 47, 154, 155, 156, 157, 158, 163, 164, 165, 166, 167, 168, 169, 170, 171, 172, 162, 159, 160, 161] (by decide +kernel) (by decide +kernel)
set_option maxRecDepth 20000 in
theorem gX6_sweep_X6_isUnusedAnd : GoodIn wsX6_sweep (wsV RX6 148 RX6 yX6_isUnusedAnd wsX6_isUnusedAnd) := goodIn_app (goodIn_of _ (by decide +kernel)) ggX6_sweep_X6_isUnusedAnd
set_option maxRecDepth 20000 in
theorem ggX6_sweep_X6_startChange : GoodIn wsX6_sweep wsX6_startChange := goodIn_r _ [93, 94, 2, 95, 96, 97, 98, 99, 100, 101, 102, 103, 104, 27, 105, 106, 107, 108, 109, 110, 111, 112, 113, 114, 115, 116, 117, 17, 85, 70, 75, 61, 118, 34, 119, 120, 121, 122, 123, 124, 19, 125, 126, 127, 128, 56, 129, 49, 50, 51, 130, 131, 132, 133, 29, 134, 135, 136, 137, 138, 139, 140, 141, 142, 143, 144, 145, 146, 147, 148, 149, 154, 155, 156, 157, 158, 173, 174, 175, 163, 164, 165, 166, 167, 168, 169, 170, 171, 172, 162, 176, 177] (by decide +kernel) (by decide +kernel)
set_option maxRecDepth 20000 in
theorem gX6_sweep_X6_startChange : GoodIn wsX6_sweep (wsV RX6 48 RX6 yX6_startChange wsX6_startChange) := goodIn_app (goodIn_of _ (by decide +kernel)) ggX6_sweep_X6_startChange
set_option maxRecDepth 20000 in
theorem ggX6_sweep_X1_makeGone : GoodIn wsX6_sweep wsX1_makeGone := goodIn_r _ [153, 85, 70, 75, 118, 129, 49, 50, 17, 51, 19, 163, 164, 165, 166, 167, 168, 169, 170, 171, 172, 162] (by decide +kernel) (by decide +kernel)
set_option maxRecDepth 20000 in
theorem gX6_sweep_X1_makeGone : GoodIn wsX6_sweep (wsV RX6 151 RX1 yX1_makeGone wsX1_makeGone) := goodIn_app (goodIn_of _ (by decide +kernel)) ggX6_sweep_X1_makeGone
theorem dX6_sweep_0 : decode cX6_sweep 0 = .ok (.aload_n 0, 1) := by decide +kernel
theorem dX6_sweep_1 : decode cX6_sweep 1 = .ok (.getfield 40, 3) := by decide +kernel
theorem dX6_sweep_4 : decode cX6_sweep 4 = .ok (.aload_n 0, 1) := by decide +kernel
theorem dX6_sweep_5 : decode cX6_sweep 5 = .ok (.getfield 12, 3) := by decide +kernel
theorem dX6_sweep_8 : decode cX6_sweep 8 = .ok (.invokevirtual 141, 3) := by decide +kernel
theorem dX6_sweep_11 : decode cX6_sweep 11 = .ok (.iconst 0, 1) := by decide +kernel
theorem dX6_sweep_12 : decode cX6_sweep 12 = .ok (.istore_n 1, 1) := by decide +kernel
theorem dX6_sweep_13 : decode cX6_sweep 13 = .ok (.iconst 0, 1) := by decide +kernel
theorem dX6_sweep_14 : decode cX6_sweep 14 = .ok (.istore_n 2, 1) := by decide +kernel
theorem dX6_sweep_15 : decode cX6_sweep 15 = .ok (.iload_n 2, 1) := by decide +kernel
theorem dX6_sweep_16 : decode cX6_sweep 16 = .ok (.aload_n 0, 1) := by decide +kernel
theorem dX6_sweep_17 : decode cX6_sweep 17 = .ok (.getfield 12, 3) := by decide +kernel
theorem dX6_sweep_20 : decode cX6_sweep 20 = .ok (.invokevirtual 145, 3) := by decide +kernel
theorem dX6_sweep_23 : decode cX6_sweep 23 = .ok (.if_icmp .ge 25, 3) := by decide +kernel
theorem dX6_sweep_26 : decode cX6_sweep 26 = .ok (.iload_n 1, 1) := by decide +kernel
theorem dX6_sweep_27 : decode cX6_sweep 27 = .ok (.aload_n 0, 1) := by decide +kernel
theorem dX6_sweep_28 : decode cX6_sweep 28 = .ok (.iload_n 2, 1) := by decide +kernel
theorem dX6_sweep_29 : decode cX6_sweep 29 = .ok (.invokevirtual 148, 3) := by decide +kernel
theorem dX6_sweep_32 : decode cX6_sweep 32 = .ok (.ifCond .eq 7, 3) := by decide +kernel
theorem dX6_sweep_35 : decode cX6_sweep 35 = .ok (.iconst 1, 1) := by decide +kernel
theorem dX6_sweep_36 : decode cX6_sweep 36 = .ok (.goto 4, 3) := by decide +kernel
theorem dX6_sweep_39 : decode cX6_sweep 39 = .ok (.iconst 0, 1) := by decide +kernel
theorem dX6_sweep_40 : decode cX6_sweep 40 = .ok (.iadd, 1) := by decide +kernel
theorem dX6_sweep_41 : decode cX6_sweep 41 = .ok (.istore_n 1, 1) := by decide +kernel
theorem dX6_sweep_42 : decode cX6_sweep 42 = .ok (.iinc 2 1, 3) := by decide +kernel
theorem dX6_sweep_45 : decode cX6_sweep 45 = .ok (.goto (-30), 3) := by decide +kernel
theorem dX6_sweep_48 : decode cX6_sweep 48 = .ok (.iload_n 1, 1) := by decide +kernel
theorem dX6_sweep_49 : decode cX6_sweep 49 = .ok (.ifCond .ne 5, 3) := by decide +kernel
theorem dX6_sweep_52 : decode cX6_sweep 52 = .ok (.iconst 0, 1) := by decide +kernel
theorem dX6_sweep_53 : decode cX6_sweep 53 = .ok (.ireturn, 1) := by decide +kernel
theorem dX6_sweep_54 : decode cX6_sweep 54 = .ok (.aload_n 0, 1) := by decide +kernel
theorem dX6_sweep_55 : decode cX6_sweep 55 = .ok (.invokevirtual 48, 3) := by decide +kernel
theorem dX6_sweep_58 : decode cX6_sweep 58 = .ok (.iconst 0, 1) := by decide +kernel
theorem dX6_sweep_59 : decode cX6_sweep 59 = .ok (.istore_n 2, 1) := by decide +kernel
theorem dX6_sweep_60 : decode cX6_sweep 60 = .ok (.iload_n 2, 1) := by decide +kernel
theorem dX6_sweep_61 : decode cX6_sweep 61 = .ok (.aload_n 0, 1) := by decide +kernel
theorem dX6_sweep_62 : decode cX6_sweep 62 = .ok (.getfield 12, 3) := by decide +kernel
theorem dX6_sweep_65 : decode cX6_sweep 65 = .ok (.invokevirtual 145, 3) := by decide +kernel
theorem dX6_sweep_68 : decode cX6_sweep 68 = .ok (.if_icmp .ge 26, 3) := by decide +kernel
theorem dX6_sweep_71 : decode cX6_sweep 71 = .ok (.aload_n 0, 1) := by decide +kernel
theorem dX6_sweep_72 : decode cX6_sweep 72 = .ok (.iload_n 2, 1) := by decide +kernel
theorem dX6_sweep_73 : decode cX6_sweep 73 = .ok (.invokevirtual 148, 3) := by decide +kernel
theorem dX6_sweep_76 : decode cX6_sweep 76 = .ok (.ifCond .eq 12, 3) := by decide +kernel
theorem dX6_sweep_79 : decode cX6_sweep 79 = .ok (.aload_n 0, 1) := by decide +kernel
theorem dX6_sweep_80 : decode cX6_sweep 80 = .ok (.getfield 12, 3) := by decide +kernel
theorem dX6_sweep_83 : decode cX6_sweep 83 = .ok (.iload_n 2, 1) := by decide +kernel
theorem dX6_sweep_84 : decode cX6_sweep 84 = .ok (.iconst (-1), 1) := by decide +kernel
theorem dX6_sweep_85 : decode cX6_sweep 85 = .ok (.invokevirtual 151, 3) := by decide +kernel
theorem dX6_sweep_88 : decode cX6_sweep 88 = .ok (.iinc 2 1, 3) := by decide +kernel
theorem dX6_sweep_91 : decode cX6_sweep 91 = .ok (.goto (-31), 3) := by decide +kernel
theorem dX6_sweep_94 : decode cX6_sweep 94 = .ok (.iload_n 1, 1) := by decide +kernel
theorem dX6_sweep_95 : decode cX6_sweep 95 = .ok (.ireturn, 1) := by decide +kernel
set_option maxRecDepth 20000 in
theorem ggX6_undo_X2_takeBack : GoodIn wsX6_undo wsX2_takeBack := goodIn_r _ [8, 9, 10, 11, 12, 13, 14, 15, 16, 17, 18, 19, 20, 21, 22, 23, 24, 25, 26, 27, 28, 29, 30, 31, 32, 33, 34, 35, 36, 37, 38, 39, 40, 52, 53, 54, 55, 56, 57, 58, 59, 60, 61, 62, 63, 64, 65] (by decide +kernel) (by decide +kernel)
set_option maxRecDepth 20000 in
theorem gX6_undo_X2_takeBack : GoodIn wsX6_undo (wsV RX6 154 RX2 yX2_takeBack wsX2_takeBack) := goodIn_app (goodIn_of _ (by decide +kernel)) ggX6_undo_X2_takeBack
set_option maxRecDepth 20000 in
theorem ggX6_undo_X5_forget : GoodIn wsX6_undo wsX5_forget := goodIn_r _ [45, 46, 66, 67] (by decide +kernel) (by decide +kernel)
set_option maxRecDepth 20000 in
theorem gX6_undo_X5_forget : GoodIn wsX6_undo (wsV RX6 158 RX5 yX5_forget wsX5_forget) := goodIn_app (goodIn_of _ (by decide +kernel)) ggX6_undo_X5_forget
theorem dX6_undo_0 : decode cX6_undo 0 = .ok (.aload_n 0, 1) := by decide +kernel
theorem dX6_undo_1 : decode cX6_undo 1 = .ok (.getfield 19, 3) := by decide +kernel
theorem dX6_undo_4 : decode cX6_undo 4 = .ok (.aload_n 0, 1) := by decide +kernel
theorem dX6_undo_5 : decode cX6_undo 5 = .ok (.getfield 12, 3) := by decide +kernel
theorem dX6_undo_8 : decode cX6_undo 8 = .ok (.invokevirtual 154, 3) := by decide +kernel
theorem dX6_undo_11 : decode cX6_undo 11 = .ok (.ifCond .ne 5, 3) := by decide +kernel
theorem dX6_undo_14 : decode cX6_undo 14 = .ok (.iconst 0, 1) := by decide +kernel
theorem dX6_undo_15 : decode cX6_undo 15 = .ok (.ireturn, 1) := by decide +kernel
theorem dX6_undo_16 : decode cX6_undo 16 = .ok (.aload_n 0, 1) := by decide +kernel
theorem dX6_undo_17 : decode cX6_undo 17 = .ok (.getfield 26, 3) := by decide +kernel
theorem dX6_undo_20 : decode cX6_undo 20 = .ok (.invokevirtual 158, 3) := by decide +kernel
theorem dX6_undo_23 : decode cX6_undo 23 = .ok (.iconst 1, 1) := by decide +kernel
theorem dX6_undo_24 : decode cX6_undo 24 = .ok (.ireturn, 1) := by decide +kernel
set_option maxRecDepth 20000 in
theorem ggX6_simulate_X5_workOut : GoodIn wsX6_simulate wsX5_workOut := goodIn_r _ [7, 8, 9, 10, 11, 12, 13, 14, 15, 16, 6, 17, 18, 19, 20, 21, 22, 23, 24, 25, 26, 27, 28, 29, 30, 31, 32, 33, 34, 35, 36, 37, 38, 39, 40, 41, 42, 43, 44, 45, 46, 47, 48, 49, 50, 51, 52, 53, 54, 55, 56, 57, 58, 59, 60, 61, 62, 63, 64, 65, 66, 67, 68, 69, 70, 71, 72, 83, 84, 85, 86, 87, 88, 89, 90, 91, 92, 93, 94, 95] (by decide +kernel) (by decide +kernel)
set_option maxRecDepth 20000 in
theorem gX6_simulate_X5_workOut : GoodIn wsX6_simulate (wsV RX6 161 RX5 yX5_workOut wsX5_workOut) := goodIn_app (goodIn_of _ (by decide +kernel)) ggX6_simulate_X5_workOut
set_option maxRecDepth 20000 in
theorem ggX6_simulate_X1_nodesGiven : GoodIn wsX6_simulate wsX1_nodesGiven := goodIn_r _ [22, 23, 85, 86, 87, 88, 89, 90, 91, 92, 93, 94] (by decide +kernel) (by decide +kernel)
set_option maxRecDepth 20000 in
theorem gX6_simulate_X1_nodesGiven : GoodIn wsX6_simulate (wsV RX6 145 RX1 yX1_nodesGiven wsX1_nodesGiven) := goodIn_app (goodIn_of _ (by decide +kernel)) ggX6_simulate_X1_nodesGiven
set_option maxRecDepth 20000 in
theorem ggX6_simulate_X1_howMany : GoodIn wsX6_simulate wsX1_howMany := goodIn_r _ [77, 23, 28, 29, 30, 31, 32, 33, 34, 85, 86, 87, 88, 89, 90, 91, 92, 93, 94, 95] (by decide +kernel) (by decide +kernel)
set_option maxRecDepth 20000 in
theorem gX6_simulate_X1_howMany : GoodIn wsX6_simulate (wsV RX6 165 RX1 yX1_howMany wsX1_howMany) := goodIn_app (goodIn_of _ (by decide +kernel)) ggX6_simulate_X1_howMany
theorem dX6_simulate_0 : decode cX6_simulate 0 = .ok (.aload_n 0, 1) := by decide +kernel
theorem dX6_simulate_1 : decode cX6_simulate 1 = .ok (.getfield 26, 3) := by decide +kernel
theorem dX6_simulate_4 : decode cX6_simulate 4 = .ok (.aload_n 0, 1) := by decide +kernel
theorem dX6_simulate_5 : decode cX6_simulate 5 = .ok (.getfield 12, 3) := by decide +kernel
theorem dX6_simulate_8 : decode cX6_simulate 8 = .ok (.lload_n 1, 1) := by decide +kernel
theorem dX6_simulate_9 : decode cX6_simulate 9 = .ok (.invokevirtual 161, 3) := by decide +kernel
theorem dX6_simulate_12 : decode cX6_simulate 12 = .ok (.aload_n 0, 1) := by decide +kernel
theorem dX6_simulate_13 : decode cX6_simulate 13 = .ok (.getfield 12, 3) := by decide +kernel
theorem dX6_simulate_16 : decode cX6_simulate 16 = .ok (.invokevirtual 145, 3) := by decide +kernel
theorem dX6_simulate_19 : decode cX6_simulate 19 = .ok (.aload_n 0, 1) := by decide +kernel
theorem dX6_simulate_20 : decode cX6_simulate 20 = .ok (.getfield 12, 3) := by decide +kernel
theorem dX6_simulate_23 : decode cX6_simulate 23 = .ok (.iconst 5, 1) := by decide +kernel
theorem dX6_simulate_24 : decode cX6_simulate 24 = .ok (.invokevirtual 165, 3) := by decide +kernel
theorem dX6_simulate_27 : decode cX6_simulate 27 = .ok (.isub, 1) := by decide +kernel
theorem dX6_simulate_28 : decode cX6_simulate 28 = .ok (.ireturn, 1) := by decide +kernel
set_option maxRecDepth 20000 in
theorem ggX6_row_X6_needNode : GoodIn wsX6_row wsX6_needNode := goodIn_ca (goodIn_r _ [8, 9, 10, 11, 12, 13, 14, 15, 16, 17, 46, 47, 48, 49, 50, 51, 52, 53, 54, 55, 56, 57, 58, 59, 60] (by decide +kernel) (by decide +kernel)) (goodIn_sub (fun _ h => List.mem_cons_of_mem _ (List.mem_append_left _ (List.mem_append_right _ h))) (by decide +kernel))
set_option maxRecDepth 20000 in
theorem gX6_row_X6_needNode : GoodIn wsX6_row (wsV RX6 126 RX6 yX6_needNode wsX6_needNode) := goodIn_app (goodIn_of _ (by decide +kernel)) ggX6_row_X6_needNode
set_option maxRecDepth 20000 in
theorem ggX6_row_X5_areWorkedOut : GoodIn wsX6_row wsX5_areWorkedOut := goodIn_r _ [22, 23, 61, 62] (by decide +kernel) (by decide +kernel)
set_option maxRecDepth 20000 in
theorem gX6_row_X5_areWorkedOut : GoodIn wsX6_row (wsV RX6 168 RX5 yX5_areWorkedOut wsX5_areWorkedOut) := goodIn_app (goodIn_of _ (by decide +kernel)) ggX6_row_X5_areWorkedOut
set_option maxRecDepth 20000 in
theorem ggX6_row_X6_needStanding : GoodIn wsX6_row wsX6_needStanding := goodIn_ca (goodIn_r _ [27, 28, 29, 11, 30, 31, 32, 15, 33, 34, 35, 36, 37, 38, 39, 40, 46, 47, 48, 49, 50, 51, 52, 53, 54, 55, 56, 57, 58, 59, 60, 63] (by decide +kernel) (by decide +kernel)) (goodIn_sub (fun _ h => List.mem_cons_of_mem _ (List.mem_append_right _ h)) (by decide +kernel))
set_option maxRecDepth 20000 in
theorem gX6_row_X6_needStanding : GoodIn wsX6_row (wsV RX6 64 RX6 yX6_needStanding wsX6_needStanding) := goodIn_app (goodIn_of _ (by decide +kernel)) ggX6_row_X6_needStanding
set_option maxRecDepth 20000 in
theorem ggX6_row_X5_at : GoodIn wsX6_row wsX5_at := goodIn_r _ [44, 45, 61, 62] (by decide +kernel) (by decide +kernel)
set_option maxRecDepth 20000 in
theorem gX6_row_X5_at : GoodIn wsX6_row (wsV RX6 177 RX5 yX5_at wsX5_at) := goodIn_app (goodIn_of _ (by decide +kernel)) ggX6_row_X5_at
theorem dX6_row_0 : decode cX6_row 0 = .ok (.aload_n 0, 1) := by decide +kernel
theorem dX6_row_1 : decode cX6_row 1 = .ok (.iload_n 1, 1) := by decide +kernel
theorem dX6_row_2 : decode cX6_row 2 = .ok (.invokevirtual 126, 3) := by decide +kernel
theorem dX6_row_5 : decode cX6_row 5 = .ok (.aload_n 0, 1) := by decide +kernel
theorem dX6_row_6 : decode cX6_row 6 = .ok (.getfield 26, 3) := by decide +kernel
theorem dX6_row_9 : decode cX6_row 9 = .ok (.invokevirtual 168, 3) := by decide +kernel
theorem dX6_row_12 : decode cX6_row 12 = .ok (.ifCond .ne 13, 3) := by decide +kernel
theorem dX6_row_15 : decode cX6_row 15 = .ok (.new 172, 3) := by decide +kernel
theorem dX6_row_18 : decode cX6_row 18 = .ok (.dup, 1) := by decide +kernel
theorem dX6_row_19 : decode cX6_row 19 = .ok (.ldc 174, 2) := by decide +kernel
theorem dX6_row_21 : decode cX6_row 21 = .ok (.invokespecial 176, 3) := by decide +kernel
theorem dX6_row_24 : decode cX6_row 24 = .ok (.athrow, 1) := by decide +kernel
theorem dX6_row_25 : decode cX6_row 25 = .ok (.aload_n 0, 1) := by decide +kernel
theorem dX6_row_26 : decode cX6_row 26 = .ok (.iload_n 1, 1) := by decide +kernel
theorem dX6_row_27 : decode cX6_row 27 = .ok (.invokevirtual 64, 3) := by decide +kernel
theorem dX6_row_30 : decode cX6_row 30 = .ok (.aload_n 0, 1) := by decide +kernel
theorem dX6_row_31 : decode cX6_row 31 = .ok (.getfield 26, 3) := by decide +kernel
theorem dX6_row_34 : decode cX6_row 34 = .ok (.iload_n 1, 1) := by decide +kernel
theorem dX6_row_35 : decode cX6_row 35 = .ok (.invokevirtual 177, 3) := by decide +kernel
theorem dX6_row_38 : decode cX6_row 38 = .ok (.lreturn, 1) := by decide +kernel
set_option maxRecDepth 20000 in
theorem ggX6_level_X6_needNode : GoodIn wsX6_level wsX6_needNode := goodIn_ca (goodIn_r _ [7, 8, 9, 2, 10, 11, 12, 13, 14, 15, 78, 79, 80, 81, 82, 83, 84, 85, 86, 87, 88, 89, 90, 91, 92] (by decide +kernel) (by decide +kernel)) (goodIn_sub (fun _ h => List.mem_cons_of_mem _ (List.mem_append_left _ (List.mem_append_right _ h))) (by decide +kernel))
set_option maxRecDepth 20000 in
theorem gX6_level_X6_needNode : GoodIn wsX6_level (wsV RX6 126 RX6 yX6_needNode wsX6_needNode) := goodIn_app (goodIn_of _ (by decide +kernel)) ggX6_level_X6_needNode
set_option maxRecDepth 20000 in
theorem ggX6_level_X6_needStanding : GoodIn wsX6_level wsX6_needStanding := goodIn_ca (goodIn_r _ [19, 20, 21, 2, 22, 23, 24, 13, 25, 26, 27, 28, 29, 30, 31, 32, 78, 79, 80, 81, 82, 83, 84, 85, 86, 87, 88, 89, 90, 91, 92, 93] (by decide +kernel) (by decide +kernel)) (goodIn_sub (fun _ h => List.mem_cons_of_mem _ (List.mem_append_right _ h)) (by decide +kernel))
set_option maxRecDepth 20000 in
theorem gX6_level_X6_needStanding : GoodIn wsX6_level (wsV RX6 64 RX6 yX6_needStanding wsX6_needStanding) := goodIn_app (goodIn_of _ (by decide +kernel)) ggX6_level_X6_needStanding
set_option maxRecDepth 20000 in
theorem ggX6_level_X3_workOut : GoodIn wsX6_level wsX3_workOut := goodIn_r _ [37, 38, 39, 40, 41, 30, 42, 32, 43, 44, 45, 46, 47, 48, 49, 36, 50, 51, 52, 53, 54, 55, 11, 12, 13, 14, 15, 56, 23, 24, 25, 26, 27, 28, 29, 31, 57, 58, 59, 60, 61, 62, 6, 63, 64, 65, 66, 67, 68, 69, 70, 71, 72, 73, 94, 93, 83, 84, 85, 86, 87, 88, 89, 90, 91, 92] (by decide +kernel) (by decide +kernel)
set_option maxRecDepth 20000 in
theorem gX6_level_X3_workOut : GoodIn wsX6_level (wsV RX6 181 RX3 yX3_workOut wsX3_workOut) := goodIn_app (goodIn_of _ (by decide +kernel)) ggX6_level_X3_workOut
set_option maxRecDepth 20000 in
theorem ggX6_level_X3_at : GoodIn wsX6_level wsX3_at := goodIn_r _ [77, 38, 64, 28, 29, 30, 31, 32, 94, 93] (by decide +kernel) (by decide +kernel)
set_option maxRecDepth 20000 in
theorem gX6_level_X3_at : GoodIn wsX6_level (wsV RX6 183 RX3 yX3_at wsX3_at) := goodIn_app (goodIn_of _ (by decide +kernel)) ggX6_level_X3_at
theorem dX6_level_0 : decode cX6_level 0 = .ok (.aload_n 0, 1) := by decide +kernel
theorem dX6_level_1 : decode cX6_level 1 = .ok (.iload_n 1, 1) := by decide +kernel
theorem dX6_level_2 : decode cX6_level 2 = .ok (.invokevirtual 126, 3) := by decide +kernel
theorem dX6_level_5 : decode cX6_level 5 = .ok (.aload_n 0, 1) := by decide +kernel
theorem dX6_level_6 : decode cX6_level 6 = .ok (.iload_n 1, 1) := by decide +kernel
theorem dX6_level_7 : decode cX6_level 7 = .ok (.invokevirtual 64, 3) := by decide +kernel
theorem dX6_level_10 : decode cX6_level 10 = .ok (.aload_n 0, 1) := by decide +kernel
theorem dX6_level_11 : decode cX6_level 11 = .ok (.getfield 33, 3) := by decide +kernel
theorem dX6_level_14 : decode cX6_level 14 = .ok (.aload_n 0, 1) := by decide +kernel
theorem dX6_level_15 : decode cX6_level 15 = .ok (.getfield 12, 3) := by decide +kernel
theorem dX6_level_18 : decode cX6_level 18 = .ok (.invokevirtual 181, 3) := by decide +kernel
theorem dX6_level_21 : decode cX6_level 21 = .ok (.aload_n 0, 1) := by decide +kernel
theorem dX6_level_22 : decode cX6_level 22 = .ok (.getfield 33, 3) := by decide +kernel
theorem dX6_level_25 : decode cX6_level 25 = .ok (.iload_n 1, 1) := by decide +kernel
theorem dX6_level_26 : decode cX6_level 26 = .ok (.invokevirtual 183, 3) := by decide +kernel
theorem dX6_level_29 : decode cX6_level 29 = .ok (.ireturn, 1) := by decide +kernel
set_option maxRecDepth 20000 in
theorem ggX6_fan_X6_needNode : GoodIn wsX6_fan wsX6_needNode := goodIn_ca (goodIn_r _ [6, 7, 8, 1, 9, 10, 11, 12, 13, 14, 43, 44, 45, 46, 47, 48, 49, 50, 51, 52, 53, 54, 55, 56, 57] (by decide +kernel) (by decide +kernel)) (goodIn_sub (fun _ h => List.mem_cons_of_mem _ (List.mem_append_left _ (List.mem_append_right _ h))) (by decide +kernel))
set_option maxRecDepth 20000 in
theorem gX6_fan_X6_needNode : GoodIn wsX6_fan (wsV RX6 126 RX6 yX6_needNode wsX6_needNode) := goodIn_app (goodIn_of _ (by decide +kernel)) ggX6_fan_X6_needNode
set_option maxRecDepth 20000 in
theorem ggX6_fan_X6_needStanding : GoodIn wsX6_fan wsX6_needStanding := goodIn_ca (goodIn_r _ [18, 19, 20, 1, 21, 22, 23, 12, 24, 25, 26, 27, 28, 29, 30, 31, 43, 44, 45, 46, 47, 48, 49, 50, 51, 52, 53, 54, 55, 56, 57, 58] (by decide +kernel) (by decide +kernel)) (goodIn_sub (fun _ h => List.mem_cons_of_mem _ (List.mem_append_right _ h)) (by decide +kernel))
set_option maxRecDepth 20000 in
theorem gX6_fan_X6_needStanding : GoodIn wsX6_fan (wsV RX6 64 RX6 yX6_needStanding wsX6_needStanding) := goodIn_app (goodIn_of _ (by decide +kernel)) ggX6_fan_X6_needStanding
set_option maxRecDepth 20000 in
theorem ggX6_fan_X1_usesOf : GoodIn wsX6_fan wsX1_usesOf := goodIn_r _ [35, 14, 36, 37, 38, 39, 40, 26, 27, 28, 29, 30, 31, 41, 5, 42, 48, 49, 50, 51, 52, 53, 54, 55, 56, 57, 58] (by decide +kernel) (by decide +kernel)
set_option maxRecDepth 20000 in
theorem gX6_fan_X1_usesOf : GoodIn wsX6_fan (wsV RX6 185 RX1 yX1_usesOf wsX1_usesOf) := goodIn_app (goodIn_of _ (by decide +kernel)) ggX6_fan_X1_usesOf
theorem dX6_fan_0 : decode cX6_fan 0 = .ok (.aload_n 0, 1) := by decide +kernel
theorem dX6_fan_1 : decode cX6_fan 1 = .ok (.iload_n 1, 1) := by decide +kernel
theorem dX6_fan_2 : decode cX6_fan 2 = .ok (.invokevirtual 126, 3) := by decide +kernel
theorem dX6_fan_5 : decode cX6_fan 5 = .ok (.aload_n 0, 1) := by decide +kernel
theorem dX6_fan_6 : decode cX6_fan 6 = .ok (.iload_n 1, 1) := by decide +kernel
theorem dX6_fan_7 : decode cX6_fan 7 = .ok (.invokevirtual 64, 3) := by decide +kernel
theorem dX6_fan_10 : decode cX6_fan 10 = .ok (.aload_n 0, 1) := by decide +kernel
theorem dX6_fan_11 : decode cX6_fan 11 = .ok (.getfield 12, 3) := by decide +kernel
theorem dX6_fan_14 : decode cX6_fan 14 = .ok (.iload_n 1, 1) := by decide +kernel
theorem dX6_fan_15 : decode cX6_fan 15 = .ok (.invokevirtual 185, 3) := by decide +kernel
theorem dX6_fan_18 : decode cX6_fan 18 = .ok (.ireturn, 1) := by decide +kernel
set_option maxRecDepth 20000 in
theorem ggX6_node_X6_needNode : GoodIn wsX6_node wsX6_needNode := goodIn_ca (goodIn_r _ [8, 9, 10, 3, 11, 12, 13, 14, 15, 16, 43, 44, 45, 46, 47, 48, 49, 50, 51, 52, 53, 54, 55, 56, 57] (by decide +kernel) (by decide +kernel)) (goodIn_sub (fun _ h => List.mem_cons_of_mem _ (List.mem_append_right _ h)) (by decide +kernel))
set_option maxRecDepth 20000 in
theorem gX6_node_X6_needNode : GoodIn wsX6_node (wsV RX6 126 RX6 yX6_needNode wsX6_needNode) := goodIn_app (goodIn_of _ (by decide +kernel)) ggX6_node_X6_needNode
set_option maxRecDepth 20000 in
theorem ggX6_node_X1_sortOf : GoodIn wsX6_node wsX1_sortOf := goodIn_r _ [20, 21, 22, 23, 24, 25, 26, 27, 48, 49, 50, 51, 52, 53, 54, 55, 56, 57, 58] (by decide +kernel) (by decide +kernel)
set_option maxRecDepth 20000 in
theorem gX6_node_X1_sortOf : GoodIn wsX6_node (wsV RX6 129 RX1 yX1_sortOf wsX1_sortOf) := goodIn_app (goodIn_of _ (by decide +kernel)) ggX6_node_X1_sortOf
set_option maxRecDepth 20000 in
theorem ggX6_node_X1_lesserFanin : GoodIn wsX6_node wsX1_lesserFanin := goodIn_r _ [31, 32, 22, 23, 24, 25, 26, 27, 48, 49, 50, 51, 52, 53, 54, 55, 56, 57, 58] (by decide +kernel) (by decide +kernel)
set_option maxRecDepth 20000 in
theorem gX6_node_X1_lesserFanin : GoodIn wsX6_node (wsV RX6 188 RX1 yX1_lesserFanin wsX1_lesserFanin) := goodIn_app (goodIn_of _ (by decide +kernel)) ggX6_node_X1_lesserFanin
set_option maxRecDepth 20000 in
theorem ggX6_node_X1_greaterFanin : GoodIn wsX6_node wsX1_greaterFanin := goodIn_r _ [36, 37, 22, 23, 24, 25, 26, 27, 48, 49, 50, 51, 52, 53, 54, 55, 56, 57, 58] (by decide +kernel) (by decide +kernel)
set_option maxRecDepth 20000 in
theorem gX6_node_X1_greaterFanin : GoodIn wsX6_node (wsV RX6 191 RX1 yX1_greaterFanin wsX1_greaterFanin) := goodIn_app (goodIn_of _ (by decide +kernel)) ggX6_node_X1_greaterFanin
set_option maxRecDepth 20000 in
theorem ggX6_node_X1_standInOf : GoodIn wsX6_node wsX1_standInOf := goodIn_r _ [41, 42, 22, 23, 24, 25, 26, 27, 48, 49, 50, 51, 52, 53, 54, 55, 56, 57, 58] (by decide +kernel) (by decide +kernel)
set_option maxRecDepth 20000 in
theorem gX6_node_X1_standInOf : GoodIn wsX6_node (wsV RX6 194 RX1 yX1_standInOf wsX1_standInOf) := goodIn_app (goodIn_of _ (by decide +kernel)) ggX6_node_X1_standInOf
theorem dX6_node_0 : decode cX6_node 0 = .ok (.aload_n 0, 1) := by decide +kernel
theorem dX6_node_1 : decode cX6_node 1 = .ok (.iload_n 1, 1) := by decide +kernel
theorem dX6_node_2 : decode cX6_node 2 = .ok (.invokevirtual 126, 3) := by decide +kernel
theorem dX6_node_5 : decode cX6_node 5 = .ok (.iload_n 2, 1) := by decide +kernel
theorem dX6_node_6 : decode cX6_node 6 = .ok (.tableswitch 66 0 3 #[30, 39, 48, 57], 30) := by decide +kernel
theorem dX6_node_36 : decode cX6_node 36 = .ok (.aload_n 0, 1) := by decide +kernel
theorem dX6_node_37 : decode cX6_node 37 = .ok (.getfield 12, 3) := by decide +kernel
theorem dX6_node_40 : decode cX6_node 40 = .ok (.iload_n 1, 1) := by decide +kernel
theorem dX6_node_41 : decode cX6_node 41 = .ok (.invokevirtual 129, 3) := by decide +kernel
theorem dX6_node_44 : decode cX6_node 44 = .ok (.ireturn, 1) := by decide +kernel
theorem dX6_node_45 : decode cX6_node 45 = .ok (.aload_n 0, 1) := by decide +kernel
theorem dX6_node_46 : decode cX6_node 46 = .ok (.getfield 12, 3) := by decide +kernel
theorem dX6_node_49 : decode cX6_node 49 = .ok (.iload_n 1, 1) := by decide +kernel
theorem dX6_node_50 : decode cX6_node 50 = .ok (.invokevirtual 188, 3) := by decide +kernel
theorem dX6_node_53 : decode cX6_node 53 = .ok (.ireturn, 1) := by decide +kernel
theorem dX6_node_54 : decode cX6_node 54 = .ok (.aload_n 0, 1) := by decide +kernel
theorem dX6_node_55 : decode cX6_node 55 = .ok (.getfield 12, 3) := by decide +kernel
theorem dX6_node_58 : decode cX6_node 58 = .ok (.iload_n 1, 1) := by decide +kernel
theorem dX6_node_59 : decode cX6_node 59 = .ok (.invokevirtual 191, 3) := by decide +kernel
theorem dX6_node_62 : decode cX6_node 62 = .ok (.ireturn, 1) := by decide +kernel
theorem dX6_node_63 : decode cX6_node 63 = .ok (.aload_n 0, 1) := by decide +kernel
theorem dX6_node_64 : decode cX6_node 64 = .ok (.getfield 12, 3) := by decide +kernel
theorem dX6_node_67 : decode cX6_node 67 = .ok (.iload_n 1, 1) := by decide +kernel
theorem dX6_node_68 : decode cX6_node 68 = .ok (.invokevirtual 194, 3) := by decide +kernel
theorem dX6_node_71 : decode cX6_node 71 = .ok (.ireturn, 1) := by decide +kernel
theorem dX6_node_72 : decode cX6_node 72 = .ok (.new 101, 3) := by decide +kernel
theorem dX6_node_75 : decode cX6_node 75 = .ok (.dup, 1) := by decide +kernel
theorem dX6_node_76 : decode cX6_node 76 = .ok (.ldc 197, 2) := by decide +kernel
theorem dX6_node_78 : decode cX6_node 78 = .ok (.invokespecial 105, 3) := by decide +kernel
theorem dX6_node_81 : decode cX6_node 81 = .ok (.athrow, 1) := by decide +kernel
set_option maxRecDepth 20000 in
theorem ggX6_size_X1_howMany : GoodIn wsX6_size wsX1_howMany := goodIn_r _ [6, 7, 8, 9, 10, 11, 12, 13, 14, 20, 21, 22, 23, 24, 25, 26, 27, 28, 29, 30] (by decide +kernel) (by decide +kernel)
set_option maxRecDepth 20000 in
theorem gX6_size_X1_howMany : GoodIn wsX6_size (wsV RX6 165 RX1 yX1_howMany wsX1_howMany) := goodIn_app (goodIn_of _ (by decide +kernel)) ggX6_size_X1_howMany
theorem dX6_size_0 : decode cX6_size 0 = .ok (.aload_n 0, 1) := by decide +kernel
theorem dX6_size_1 : decode cX6_size 1 = .ok (.getfield 12, 3) := by decide +kernel
theorem dX6_size_4 : decode cX6_size 4 = .ok (.iconst 2, 1) := by decide +kernel
theorem dX6_size_5 : decode cX6_size 5 = .ok (.invokevirtual 165, 3) := by decide +kernel
theorem dX6_size_8 : decode cX6_size 8 = .ok (.ireturn, 1) := by decide +kernel
set_option maxRecDepth 20000 in
theorem ggX6_count_X1_nodesGiven : GoodIn wsX6_count wsX1_nodesGiven := goodIn_r _ [10, 11, 88, 89, 90, 91, 92, 93, 94, 95, 96, 97] (by decide +kernel) (by decide +kernel)
set_option maxRecDepth 20000 in
theorem gX6_count_X1_nodesGiven : GoodIn wsX6_count (wsV RX6 145 RX1 yX1_nodesGiven wsX1_nodesGiven) := goodIn_app (goodIn_of _ (by decide +kernel)) ggX6_count_X1_nodesGiven
set_option maxRecDepth 20000 in
theorem ggX6_count_X1_howMany : GoodIn wsX6_count wsX1_howMany := goodIn_r _ [15, 11, 16, 17, 18, 19, 20, 21, 22, 88, 89, 90, 91, 92, 93, 94, 95, 96, 97, 98] (by decide +kernel) (by decide +kernel)
set_option maxRecDepth 20000 in
theorem gX6_count_X1_howMany : GoodIn wsX6_count (wsV RX6 165 RX1 yX1_howMany wsX1_howMany) := goodIn_app (goodIn_of _ (by decide +kernel)) ggX6_count_X1_howMany
set_option maxRecDepth 20000 in
theorem ggX6_count_X1_outputsGiven : GoodIn wsX6_count wsX1_outputsGiven := goodIn_r _ [26, 27, 88, 89, 90, 91, 92, 93, 94, 95, 96, 97] (by decide +kernel) (by decide +kernel)
set_option maxRecDepth 20000 in
theorem gX6_count_X1_outputsGiven : GoodIn wsX6_count (wsV RX6 75 RX1 yX1_outputsGiven wsX1_outputsGiven) := goodIn_app (goodIn_of _ (by decide +kernel)) ggX6_count_X1_outputsGiven
set_option maxRecDepth 20000 in
theorem ggX6_count_X2_changesKept : GoodIn wsX6_count wsX2_changesKept := goodIn_r _ [32, 33, 99, 100, 101] (by decide +kernel) (by decide +kernel)
set_option maxRecDepth 20000 in
theorem gX6_count_X2_changesKept : GoodIn wsX6_count (wsV RX6 199 RX2 yX2_changesKept wsX2_changesKept) := goodIn_app (goodIn_of _ (by decide +kernel)) ggX6_count_X2_changesKept
set_option maxRecDepth 20000 in
theorem ggX6_count_X3_workOut : GoodIn wsX6_count wsX3_workOut := goodIn_r _ [38, 39, 40, 41, 42, 20, 43, 22, 44, 45, 46, 47, 48, 49, 50, 37, 51, 52, 53, 54, 55, 56, 7, 8, 9, 10, 11, 57, 58, 59, 60, 16, 17, 18, 19, 21, 61, 62, 63, 64, 65, 66, 67, 68, 69, 70, 71, 72, 73, 74, 75, 76, 77, 78, 102, 98, 88, 89, 90, 91, 92, 93, 94, 95, 96, 97] (by decide +kernel) (by decide +kernel)
set_option maxRecDepth 20000 in
theorem gX6_count_X3_workOut : GoodIn wsX6_count (wsV RX6 181 RX3 yX3_workOut wsX3_workOut) := goodIn_app (goodIn_of _ (by decide +kernel)) ggX6_count_X3_workOut
set_option maxRecDepth 20000 in
theorem ggX6_count_X3_greatest : GoodIn wsX6_count wsX3_greatest := goodIn_r _ [82, 39, 52, 53, 54, 55, 69, 18, 19, 20, 21, 22, 102, 98] (by decide +kernel) (by decide +kernel)
set_option maxRecDepth 20000 in
theorem gX6_count_X3_greatest : GoodIn wsX6_count (wsV RX6 202 RX3 yX3_greatest wsX3_greatest) := goodIn_app (goodIn_of _ (by decide +kernel)) ggX6_count_X3_greatest
theorem dX6_count_0 : decode cX6_count 0 = .ok (.iload_n 1, 1) := by decide +kernel
theorem dX6_count_1 : decode cX6_count 1 = .ok (.tableswitch 100 0 5 #[39, 47, 56, 64, 73, 81], 39) := by decide +kernel
theorem dX6_count_40 : decode cX6_count 40 = .ok (.aload_n 0, 1) := by decide +kernel
theorem dX6_count_41 : decode cX6_count 41 = .ok (.getfield 12, 3) := by decide +kernel
theorem dX6_count_44 : decode cX6_count 44 = .ok (.invokevirtual 145, 3) := by decide +kernel
theorem dX6_count_47 : decode cX6_count 47 = .ok (.ireturn, 1) := by decide +kernel
theorem dX6_count_48 : decode cX6_count 48 = .ok (.aload_n 0, 1) := by decide +kernel
theorem dX6_count_49 : decode cX6_count 49 = .ok (.getfield 12, 3) := by decide +kernel
theorem dX6_count_52 : decode cX6_count 52 = .ok (.iconst 1, 1) := by decide +kernel
theorem dX6_count_53 : decode cX6_count 53 = .ok (.invokevirtual 165, 3) := by decide +kernel
theorem dX6_count_56 : decode cX6_count 56 = .ok (.ireturn, 1) := by decide +kernel
theorem dX6_count_57 : decode cX6_count 57 = .ok (.aload_n 0, 1) := by decide +kernel
theorem dX6_count_58 : decode cX6_count 58 = .ok (.getfield 12, 3) := by decide +kernel
theorem dX6_count_61 : decode cX6_count 61 = .ok (.invokevirtual 75, 3) := by decide +kernel
theorem dX6_count_64 : decode cX6_count 64 = .ok (.ireturn, 1) := by decide +kernel
theorem dX6_count_65 : decode cX6_count 65 = .ok (.aload_n 0, 1) := by decide +kernel
theorem dX6_count_66 : decode cX6_count 66 = .ok (.getfield 12, 3) := by decide +kernel
theorem dX6_count_69 : decode cX6_count 69 = .ok (.iconst 3, 1) := by decide +kernel
theorem dX6_count_70 : decode cX6_count 70 = .ok (.invokevirtual 165, 3) := by decide +kernel
theorem dX6_count_73 : decode cX6_count 73 = .ok (.ireturn, 1) := by decide +kernel
theorem dX6_count_74 : decode cX6_count 74 = .ok (.aload_n 0, 1) := by decide +kernel
theorem dX6_count_75 : decode cX6_count 75 = .ok (.getfield 19, 3) := by decide +kernel
theorem dX6_count_78 : decode cX6_count 78 = .ok (.invokevirtual 199, 3) := by decide +kernel
theorem dX6_count_81 : decode cX6_count 81 = .ok (.ireturn, 1) := by decide +kernel
theorem dX6_count_82 : decode cX6_count 82 = .ok (.aload_n 0, 1) := by decide +kernel
theorem dX6_count_83 : decode cX6_count 83 = .ok (.getfield 33, 3) := by decide +kernel
theorem dX6_count_86 : decode cX6_count 86 = .ok (.aload_n 0, 1) := by decide +kernel
theorem dX6_count_87 : decode cX6_count 87 = .ok (.getfield 12, 3) := by decide +kernel
theorem dX6_count_90 : decode cX6_count 90 = .ok (.invokevirtual 181, 3) := by decide +kernel
theorem dX6_count_93 : decode cX6_count 93 = .ok (.aload_n 0, 1) := by decide +kernel
theorem dX6_count_94 : decode cX6_count 94 = .ok (.getfield 33, 3) := by decide +kernel
theorem dX6_count_97 : decode cX6_count 97 = .ok (.invokevirtual 202, 3) := by decide +kernel
theorem dX6_count_100 : decode cX6_count 100 = .ok (.ireturn, 1) := by decide +kernel
theorem dX6_count_101 : decode cX6_count 101 = .ok (.new 101, 3) := by decide +kernel
theorem dX6_count_104 : decode cX6_count 104 = .ok (.dup, 1) := by decide +kernel
theorem dX6_count_105 : decode cX6_count 105 = .ok (.ldc 205, 2) := by decide +kernel
theorem dX6_count_107 : decode cX6_count 107 = .ok (.invokespecial 105, 3) := by decide +kernel
theorem dX6_count_110 : decode cX6_count 110 = .ok (.athrow, 1) := by decide +kernel
set_option maxRecDepth 20000 in
theorem ggX6_startChange_X2_keep : GoodIn wsX6_startChange wsX2_keep := goodIn_r _ [8, 9, 10, 11, 12, 13, 14, 15, 16, 17, 18, 19, 20, 21, 22, 23, 24, 25, 26, 27, 28, 29, 30, 31, 32, 33, 34, 35, 36, 37, 38, 39, 40, 41, 42, 43, 44, 45, 46, 47, 48, 49, 50, 51, 52, 53, 54, 55, 56, 57, 58, 59, 60, 61, 62, 63, 64, 76, 77, 78, 79, 80, 81, 82, 83, 84, 85, 86, 87, 88, 89] (by decide +kernel) (by decide +kernel)
set_option maxRecDepth 20000 in
theorem gX6_startChange_X2_keep : GoodIn wsX6_startChange (wsV RX6 207 RX2 yX2_keep wsX2_keep) := goodIn_app (goodIn_of _ (by decide +kernel)) ggX6_startChange_X2_keep
set_option maxRecDepth 20000 in
theorem ggX6_startChange_X5_forget : GoodIn wsX6_startChange wsX5_forget := goodIn_r _ [69, 70, 90, 91] (by decide +kernel) (by decide +kernel)
set_option maxRecDepth 20000 in
theorem gX6_startChange_X5_forget : GoodIn wsX6_startChange (wsV RX6 158 RX5 yX5_forget wsX5_forget) := goodIn_app (goodIn_of _ (by decide +kernel)) ggX6_startChange_X5_forget
theorem dX6_startChange_0 : decode cX6_startChange 0 = .ok (.aload_n 0, 1) := by decide +kernel
theorem dX6_startChange_1 : decode cX6_startChange 1 = .ok (.getfield 19, 3) := by decide +kernel
theorem dX6_startChange_4 : decode cX6_startChange 4 = .ok (.aload_n 0, 1) := by decide +kernel
theorem dX6_startChange_5 : decode cX6_startChange 5 = .ok (.getfield 12, 3) := by decide +kernel
theorem dX6_startChange_8 : decode cX6_startChange 8 = .ok (.invokevirtual 207, 3) := by decide +kernel
theorem dX6_startChange_11 : decode cX6_startChange 11 = .ok (.aload_n 0, 1) := by decide +kernel
theorem dX6_startChange_12 : decode cX6_startChange 12 = .ok (.getfield 26, 3) := by decide +kernel
theorem dX6_startChange_15 : decode cX6_startChange 15 = .ok (.invokevirtual 158, 3) := by decide +kernel
theorem dX6_startChange_18 : decode cX6_startChange 18 = .ok (.return_, 1) := by decide +kernel
set_option maxRecDepth 20000 in
theorem ggX6_isUnusedAnd_X1_sortOf : GoodIn wsX6_isUnusedAnd wsX1_sortOf := goodIn_r _ [7, 8, 9, 10, 11, 12, 13, 14, 27, 28, 29, 30, 31, 32, 33, 34, 35, 36, 37] (by decide +kernel) (by decide +kernel)
set_option maxRecDepth 20000 in
theorem gX6_isUnusedAnd_X1_sortOf : GoodIn wsX6_isUnusedAnd (wsV RX6 129 RX1 yX1_sortOf wsX1_sortOf) := goodIn_app (goodIn_of _ (by decide +kernel)) ggX6_isUnusedAnd_X1_sortOf
set_option maxRecDepth 20000 in
theorem ggX6_isUnusedAnd_X4_has : GoodIn wsX6_isUnusedAnd wsX4_has := goodIn_r _ [19, 20, 21, 10, 11, 12, 13, 14, 38, 39, 40, 37] (by decide +kernel) (by decide +kernel)
set_option maxRecDepth 20000 in
theorem gX6_isUnusedAnd_X4_has : GoodIn wsX6_isUnusedAnd (wsV RX6 210 RX4 yX4_has wsX4_has) := goodIn_app (goodIn_of _ (by decide +kernel)) ggX6_isUnusedAnd_X4_has
theorem dX6_isUnusedAnd_0 : decode cX6_isUnusedAnd 0 = .ok (.aload_n 0, 1) := by decide +kernel
theorem dX6_isUnusedAnd_1 : decode cX6_isUnusedAnd 1 = .ok (.getfield 12, 3) := by decide +kernel
theorem dX6_isUnusedAnd_4 : decode cX6_isUnusedAnd 4 = .ok (.iload_n 1, 1) := by decide +kernel
theorem dX6_isUnusedAnd_5 : decode cX6_isUnusedAnd 5 = .ok (.invokevirtual 129, 3) := by decide +kernel
theorem dX6_isUnusedAnd_8 : decode cX6_isUnusedAnd 8 = .ok (.iconst 2, 1) := by decide +kernel
theorem dX6_isUnusedAnd_9 : decode cX6_isUnusedAnd 9 = .ok (.if_icmp .ne 18, 3) := by decide +kernel
theorem dX6_isUnusedAnd_12 : decode cX6_isUnusedAnd 12 = .ok (.aload_n 0, 1) := by decide +kernel
theorem dX6_isUnusedAnd_13 : decode cX6_isUnusedAnd 13 = .ok (.getfield 40, 3) := by decide +kernel
theorem dX6_isUnusedAnd_16 : decode cX6_isUnusedAnd 16 = .ok (.iload_n 1, 1) := by decide +kernel
theorem dX6_isUnusedAnd_17 : decode cX6_isUnusedAnd 17 = .ok (.invokevirtual 210, 3) := by decide +kernel
theorem dX6_isUnusedAnd_20 : decode cX6_isUnusedAnd 20 = .ok (.ifCond .ne 7, 3) := by decide +kernel
theorem dX6_isUnusedAnd_23 : decode cX6_isUnusedAnd 23 = .ok (.iconst 1, 1) := by decide +kernel
theorem dX6_isUnusedAnd_24 : decode cX6_isUnusedAnd 24 = .ok (.goto 4, 3) := by decide +kernel
theorem dX6_isUnusedAnd_27 : decode cX6_isUnusedAnd 27 = .ok (.iconst 0, 1) := by decide +kernel
theorem dX6_isUnusedAnd_28 : decode cX6_isUnusedAnd 28 = .ok (.ireturn, 1) := by decide +kernel
set_option maxRecDepth 20000 in
theorem ggX6_needNode_X1_nodesGiven : GoodIn wsX6_needNode wsX1_nodesGiven := goodIn_r _ [8, 9, 15, 16, 17, 18, 19, 20, 21, 22, 23, 24] (by decide +kernel) (by decide +kernel)
set_option maxRecDepth 20000 in
theorem gX6_needNode_X1_nodesGiven : GoodIn wsX6_needNode (wsV RX6 145 RX1 yX1_nodesGiven wsX1_nodesGiven) := goodIn_app (goodIn_of _ (by decide +kernel)) ggX6_needNode_X1_nodesGiven
theorem dX6_needNode_0 : decode cX6_needNode 0 = .ok (.iload_n 1, 1) := by decide +kernel
theorem dX6_needNode_1 : decode cX6_needNode 1 = .ok (.ifCond .lt 14, 3) := by decide +kernel
theorem dX6_needNode_4 : decode cX6_needNode 4 = .ok (.iload_n 1, 1) := by decide +kernel
theorem dX6_needNode_5 : decode cX6_needNode 5 = .ok (.aload_n 0, 1) := by decide +kernel
theorem dX6_needNode_6 : decode cX6_needNode 6 = .ok (.getfield 12, 3) := by decide +kernel
theorem dX6_needNode_9 : decode cX6_needNode 9 = .ok (.invokevirtual 145, 3) := by decide +kernel
theorem dX6_needNode_12 : decode cX6_needNode 12 = .ok (.if_icmp .lt 13, 3) := by decide +kernel
theorem dX6_needNode_15 : decode cX6_needNode 15 = .ok (.new 89, 3) := by decide +kernel
theorem dX6_needNode_18 : decode cX6_needNode 18 = .ok (.dup, 1) := by decide +kernel
theorem dX6_needNode_19 : decode cX6_needNode 19 = .ok (.ldc 213, 2) := by decide +kernel
theorem dX6_needNode_21 : decode cX6_needNode 21 = .ok (.invokespecial 93, 3) := by decide +kernel
theorem dX6_needNode_24 : decode cX6_needNode 24 = .ok (.athrow, 1) := by decide +kernel
theorem dX6_needNode_25 : decode cX6_needNode 25 = .ok (.return_, 1) := by decide +kernel
set_option maxRecDepth 20000 in
theorem ggX6_needLiteral_X6_nodeOf : GoodIn wsX6_needLiteral wsX6_nodeOf := goodIn_r _ [7] (by decide +kernel) (by decide +kernel)
set_option maxRecDepth 20000 in
theorem gX6_needLiteral_X6_nodeOf : GoodIn wsX6_needLiteral (va_wsS RX6 61 yX6_nodeOf wsX6_nodeOf) := goodIn_app (goodIn_of _ (by decide +kernel)) ggX6_needLiteral_X6_nodeOf
set_option maxRecDepth 20000 in
theorem ggX6_needLiteral_X1_nodesGiven : GoodIn wsX6_needLiteral wsX1_nodesGiven := goodIn_r _ [12, 13, 19, 20, 21, 22, 23, 24, 25, 26, 27, 28] (by decide +kernel) (by decide +kernel)
set_option maxRecDepth 20000 in
theorem gX6_needLiteral_X1_nodesGiven : GoodIn wsX6_needLiteral (wsV RX6 145 RX1 yX1_nodesGiven wsX1_nodesGiven) := goodIn_app (goodIn_of _ (by decide +kernel)) ggX6_needLiteral_X1_nodesGiven
theorem dX6_needLiteral_0 : decode cX6_needLiteral 0 = .ok (.iload_n 1, 1) := by decide +kernel
theorem dX6_needLiteral_1 : decode cX6_needLiteral 1 = .ok (.ifCond .lt 17, 3) := by decide +kernel
theorem dX6_needLiteral_4 : decode cX6_needLiteral 4 = .ok (.iload_n 1, 1) := by decide +kernel
theorem dX6_needLiteral_5 : decode cX6_needLiteral 5 = .ok (.invokestatic 61, 3) := by decide +kernel
theorem dX6_needLiteral_8 : decode cX6_needLiteral 8 = .ok (.aload_n 0, 1) := by decide +kernel
theorem dX6_needLiteral_9 : decode cX6_needLiteral 9 = .ok (.getfield 12, 3) := by decide +kernel
theorem dX6_needLiteral_12 : decode cX6_needLiteral 12 = .ok (.invokevirtual 145, 3) := by decide +kernel
theorem dX6_needLiteral_15 : decode cX6_needLiteral 15 = .ok (.if_icmp .lt 13, 3) := by decide +kernel
theorem dX6_needLiteral_18 : decode cX6_needLiteral 18 = .ok (.new 89, 3) := by decide +kernel
theorem dX6_needLiteral_21 : decode cX6_needLiteral 21 = .ok (.dup, 1) := by decide +kernel
theorem dX6_needLiteral_22 : decode cX6_needLiteral 22 = .ok (.ldc 215, 2) := by decide +kernel
theorem dX6_needLiteral_24 : decode cX6_needLiteral 24 = .ok (.invokespecial 93, 3) := by decide +kernel
theorem dX6_needLiteral_27 : decode cX6_needLiteral 27 = .ok (.athrow, 1) := by decide +kernel
theorem dX6_needLiteral_28 : decode cX6_needLiteral 28 = .ok (.return_, 1) := by decide +kernel
set_option maxRecDepth 20000 in
theorem ggX6_needStanding_X1_sortOf : GoodIn wsX6_needStanding wsX1_sortOf := goodIn_r _ [8, 9, 10, 11, 12, 13, 14, 15, 21, 22, 23, 24, 25, 26, 27, 28, 29, 30, 31] (by decide +kernel) (by decide +kernel)
set_option maxRecDepth 20000 in
theorem gX6_needStanding_X1_sortOf : GoodIn wsX6_needStanding (wsV RX6 129 RX1 yX1_sortOf wsX1_sortOf) := goodIn_app (goodIn_of _ (by decide +kernel)) ggX6_needStanding_X1_sortOf
theorem dX6_needStanding_0 : decode cX6_needStanding 0 = .ok (.aload_n 0, 1) := by decide +kernel
theorem dX6_needStanding_1 : decode cX6_needStanding 1 = .ok (.getfield 12, 3) := by decide +kernel
theorem dX6_needStanding_4 : decode cX6_needStanding 4 = .ok (.iload_n 1, 1) := by decide +kernel
theorem dX6_needStanding_5 : decode cX6_needStanding 5 = .ok (.invokevirtual 129, 3) := by decide +kernel
theorem dX6_needStanding_8 : decode cX6_needStanding 8 = .ok (.iconst 5, 1) := by decide +kernel
theorem dX6_needStanding_9 : decode cX6_needStanding 9 = .ok (.if_icmp .ne 13, 3) := by decide +kernel
theorem dX6_needStanding_12 : decode cX6_needStanding 12 = .ok (.new 101, 3) := by decide +kernel
theorem dX6_needStanding_15 : decode cX6_needStanding 15 = .ok (.dup, 1) := by decide +kernel
theorem dX6_needStanding_16 : decode cX6_needStanding 16 = .ok (.ldc 217, 2) := by decide +kernel
theorem dX6_needStanding_18 : decode cX6_needStanding 18 = .ok (.invokespecial 105, 3) := by decide +kernel
theorem dX6_needStanding_21 : decode cX6_needStanding 21 = .ok (.athrow, 1) := by decide +kernel
theorem dX6_needStanding_22 : decode cX6_needStanding 22 = .ok (.return_, 1) := by decide +kernel
set_option maxRecDepth 20000 in
theorem ggX6_needLatch_X1_sortOf : GoodIn wsX6_needLatch wsX1_sortOf := goodIn_r _ [8, 9, 10, 11, 12, 13, 14, 15, 21, 22, 23, 24, 25, 26, 27, 28, 29, 30, 31] (by decide +kernel) (by decide +kernel)
set_option maxRecDepth 20000 in
theorem gX6_needLatch_X1_sortOf : GoodIn wsX6_needLatch (wsV RX6 129 RX1 yX1_sortOf wsX1_sortOf) := goodIn_app (goodIn_of _ (by decide +kernel)) ggX6_needLatch_X1_sortOf
theorem dX6_needLatch_0 : decode cX6_needLatch 0 = .ok (.aload_n 0, 1) := by decide +kernel
theorem dX6_needLatch_1 : decode cX6_needLatch 1 = .ok (.getfield 12, 3) := by decide +kernel
theorem dX6_needLatch_4 : decode cX6_needLatch 4 = .ok (.iload_n 1, 1) := by decide +kernel
theorem dX6_needLatch_5 : decode cX6_needLatch 5 = .ok (.invokevirtual 129, 3) := by decide +kernel
theorem dX6_needLatch_8 : decode cX6_needLatch 8 = .ok (.iconst 3, 1) := by decide +kernel
theorem dX6_needLatch_9 : decode cX6_needLatch 9 = .ok (.if_icmp .eq 13, 3) := by decide +kernel
theorem dX6_needLatch_12 : decode cX6_needLatch 12 = .ok (.new 101, 3) := by decide +kernel
theorem dX6_needLatch_15 : decode cX6_needLatch 15 = .ok (.dup, 1) := by decide +kernel
theorem dX6_needLatch_16 : decode cX6_needLatch 16 = .ok (.ldc 219, 2) := by decide +kernel
theorem dX6_needLatch_18 : decode cX6_needLatch 18 = .ok (.invokespecial 105, 3) := by decide +kernel
theorem dX6_needLatch_21 : decode cX6_needLatch 21 = .ok (.athrow, 1) := by decide +kernel
theorem dX6_needLatch_22 : decode cX6_needLatch 22 = .ok (.return_, 1) := by decide +kernel
set_option maxRecDepth 20000 in
theorem ggX6_needRoomFor_X1_nodesGiven : GoodIn wsX6_needRoomFor wsX1_nodesGiven := goodIn_r _ [8, 9, 15, 16, 17, 18, 19, 20, 21, 22, 23, 24] (by decide +kernel) (by decide +kernel)
set_option maxRecDepth 20000 in
theorem gX6_needRoomFor_X1_nodesGiven : GoodIn wsX6_needRoomFor (wsV RX6 145 RX1 yX1_nodesGiven wsX1_nodesGiven) := goodIn_app (goodIn_of _ (by decide +kernel)) ggX6_needRoomFor_X1_nodesGiven
theorem dX6_needRoomFor_0 : decode cX6_needRoomFor 0 = .ok (.aload_n 0, 1) := by decide +kernel
theorem dX6_needRoomFor_1 : decode cX6_needRoomFor 1 = .ok (.getfield 12, 3) := by decide +kernel
theorem dX6_needRoomFor_4 : decode cX6_needRoomFor 4 = .ok (.invokevirtual 145, 3) := by decide +kernel
theorem dX6_needRoomFor_7 : decode cX6_needRoomFor 7 = .ok (.iload_n 1, 1) := by decide +kernel
theorem dX6_needRoomFor_8 : decode cX6_needRoomFor 8 = .ok (.iadd, 1) := by decide +kernel
theorem dX6_needRoomFor_9 : decode cX6_needRoomFor 9 = .ok (.sipush 400, 3) := by decide +kernel
theorem dX6_needRoomFor_12 : decode cX6_needRoomFor 12 = .ok (.if_icmp .le 13, 3) := by decide +kernel
theorem dX6_needRoomFor_15 : decode cX6_needRoomFor 15 = .ok (.new 79, 3) := by decide +kernel
theorem dX6_needRoomFor_18 : decode cX6_needRoomFor 18 = .ok (.dup, 1) := by decide +kernel
theorem dX6_needRoomFor_19 : decode cX6_needRoomFor 19 = .ok (.ldc 221, 2) := by decide +kernel
theorem dX6_needRoomFor_21 : decode cX6_needRoomFor 21 = .ok (.invokespecial 83, 3) := by decide +kernel
theorem dX6_needRoomFor_24 : decode cX6_needRoomFor 24 = .ok (.athrow, 1) := by decide +kernel
theorem dX6_needRoomFor_25 : decode cX6_needRoomFor 25 = .ok (.return_, 1) := by decide +kernel
theorem dX6_nodeOf_0 : decode cX6_nodeOf 0 = .ok (.iload_n 0, 1) := by decide +kernel
theorem dX6_nodeOf_1 : decode cX6_nodeOf 1 = .ok (.iconst 1, 1) := by decide +kernel
theorem dX6_nodeOf_2 : decode cX6_nodeOf 2 = .ok (.ishr, 1) := by decide +kernel
theorem dX6_nodeOf_3 : decode cX6_nodeOf 3 = .ok (.ireturn, 1) := by decide +kernel
theorem dX6_literalOf_0 : decode cX6_literalOf 0 = .ok (.iload_n 0, 1) := by decide +kernel
theorem dX6_literalOf_1 : decode cX6_literalOf 1 = .ok (.iconst 1, 1) := by decide +kernel
theorem dX6_literalOf_2 : decode cX6_literalOf 2 = .ok (.ishl, 1) := by decide +kernel
theorem dX6_literalOf_3 : decode cX6_literalOf 3 = .ok (.ireturn, 1) := by decide +kernel
theorem dX6_isTurned_0 : decode cX6_isTurned 0 = .ok (.iload_n 0, 1) := by decide +kernel
theorem dX6_isTurned_1 : decode cX6_isTurned 1 = .ok (.iconst 1, 1) := by decide +kernel
theorem dX6_isTurned_2 : decode cX6_isTurned 2 = .ok (.iand, 1) := by decide +kernel
theorem dX6_isTurned_3 : decode cX6_isTurned 3 = .ok (.iconst 1, 1) := by decide +kernel
theorem dX6_isTurned_4 : decode cX6_isTurned 4 = .ok (.if_icmp .ne 7, 3) := by decide +kernel
theorem dX6_isTurned_7 : decode cX6_isTurned 7 = .ok (.iconst 1, 1) := by decide +kernel
theorem dX6_isTurned_8 : decode cX6_isTurned 8 = .ok (.goto 4, 3) := by decide +kernel
theorem dX6_isTurned_11 : decode cX6_isTurned 11 = .ok (.iconst 0, 1) := by decide +kernel
theorem dX6_isTurned_12 : decode cX6_isTurned 12 = .ok (.ireturn, 1) := by decide +kernel
theorem dX6_turned_0 : decode cX6_turned 0 = .ok (.iload_n 0, 1) := by decide +kernel
theorem dX6_turned_1 : decode cX6_turned 1 = .ok (.iconst 1, 1) := by decide +kernel
theorem dX6_turned_2 : decode cX6_turned 2 = .ok (.ixor, 1) := by decide +kernel
theorem dX6_turned_3 : decode cX6_turned 3 = .ok (.ireturn, 1) := by decide +kernel
theorem dX7_init_0 : decode cX7_init 0 = .ok (.aload_n 0, 1) := by decide +kernel
theorem dX7_init_1 : decode cX7_init 1 = .ok (.invokespecial 1, 3) := by decide +kernel
theorem dX7_init_4 : decode cX7_init 4 = .ok (.aload_n 0, 1) := by decide +kernel
theorem dX7_init_5 : decode cX7_init 5 = .ok (.sipush 400, 3) := by decide +kernel
theorem dX7_init_8 : decode cX7_init 8 = .ok (.newarray .int, 2) := by decide +kernel
theorem dX7_init_10 : decode cX7_init 10 = .ok (.putfield 7, 3) := by decide +kernel
theorem dX7_init_13 : decode cX7_init 13 = .ok (.aload_n 0, 1) := by decide +kernel
theorem dX7_init_14 : decode cX7_init 14 = .ok (.sipush 400, 3) := by decide +kernel
theorem dX7_init_17 : decode cX7_init 17 = .ok (.newarray .int, 2) := by decide +kernel
theorem dX7_init_19 : decode cX7_init 19 = .ok (.putfield 13, 3) := by decide +kernel
theorem dX7_init_22 : decode cX7_init 22 = .ok (.aload_n 0, 1) := by decide +kernel
theorem dX7_init_23 : decode cX7_init 23 = .ok (.sipush 400, 3) := by decide +kernel
theorem dX7_init_26 : decode cX7_init 26 = .ok (.newarray .int, 2) := by decide +kernel
theorem dX7_init_28 : decode cX7_init 28 = .ok (.putfield 16, 3) := by decide +kernel
theorem dX7_init_31 : decode cX7_init 31 = .ok (.aload_n 0, 1) := by decide +kernel
theorem dX7_init_32 : decode cX7_init 32 = .ok (.sipush 400, 3) := by decide +kernel
theorem dX7_init_35 : decode cX7_init 35 = .ok (.newarray .int, 2) := by decide +kernel
theorem dX7_init_37 : decode cX7_init 37 = .ok (.putfield 19, 3) := by decide +kernel
theorem dX7_init_40 : decode cX7_init 40 = .ok (.aload_n 0, 1) := by decide +kernel
theorem dX7_init_41 : decode cX7_init 41 = .ok (.bipush 40, 2) := by decide +kernel
theorem dX7_init_43 : decode cX7_init 43 = .ok (.newarray .int, 2) := by decide +kernel
theorem dX7_init_45 : decode cX7_init 45 = .ok (.putfield 22, 3) := by decide +kernel
theorem dX7_init_48 : decode cX7_init 48 = .ok (.aload_n 0, 1) := by decide +kernel
theorem dX7_init_49 : decode cX7_init 49 = .ok (.bipush 40, 2) := by decide +kernel
theorem dX7_init_51 : decode cX7_init 51 = .ok (.newarray .boolean, 2) := by decide +kernel
theorem dX7_init_53 : decode cX7_init 53 = .ok (.putfield 25, 3) := by decide +kernel
theorem dX7_init_56 : decode cX7_init 56 = .ok (.aload_n 0, 1) := by decide +kernel
theorem dX7_init_57 : decode cX7_init 57 = .ok (.ldc 29, 2) := by decide +kernel
theorem dX7_init_59 : decode cX7_init 59 = .ok (.newarray .int, 2) := by decide +kernel
theorem dX7_init_61 : decode cX7_init 61 = .ok (.putfield 30, 3) := by decide +kernel
theorem dX7_init_64 : decode cX7_init 64 = .ok (.aload_n 0, 1) := by decide +kernel
theorem dX7_init_65 : decode cX7_init 65 = .ok (.sipush 400, 3) := by decide +kernel
theorem dX7_init_68 : decode cX7_init 68 = .ok (.newarray .long, 2) := by decide +kernel
theorem dX7_init_70 : decode cX7_init 70 = .ok (.putfield 33, 3) := by decide +kernel
theorem dX7_init_73 : decode cX7_init 73 = .ok (.aload_n 0, 1) := by decide +kernel
theorem dX7_init_74 : decode cX7_init 74 = .ok (.sipush 400, 3) := by decide +kernel
theorem dX7_init_77 : decode cX7_init 77 = .ok (.newarray .int, 2) := by decide +kernel
theorem dX7_init_79 : decode cX7_init 79 = .ok (.putfield 37, 3) := by decide +kernel
theorem dX7_init_82 : decode cX7_init 82 = .ok (.aload_n 0, 1) := by decide +kernel
theorem dX7_init_83 : decode cX7_init 83 = .ok (.sipush 400, 3) := by decide +kernel
theorem dX7_init_86 : decode cX7_init 86 = .ok (.newarray .boolean, 2) := by decide +kernel
theorem dX7_init_88 : decode cX7_init 88 = .ok (.putfield 40, 3) := by decide +kernel
theorem dX7_init_91 : decode cX7_init 91 = .ok (.aload_n 0, 1) := by decide +kernel
theorem dX7_init_92 : decode cX7_init 92 = .ok (.iconst 1, 1) := by decide +kernel
theorem dX7_init_93 : decode cX7_init 93 = .ok (.putfield 43, 3) := by decide +kernel
theorem dX7_init_96 : decode cX7_init 96 = .ok (.aload_n 0, 1) := by decide +kernel
theorem dX7_init_97 : decode cX7_init 97 = .ok (.getfield 19, 3) := by decide +kernel
theorem dX7_init_100 : decode cX7_init 100 = .ok (.iconst 0, 1) := by decide +kernel
theorem dX7_init_101 : decode cX7_init 101 = .ok (.iconst (-1), 1) := by decide +kernel
theorem dX7_init_102 : decode cX7_init 102 = .ok (.iastore, 1) := by decide +kernel
theorem dX7_init_103 : decode cX7_init 103 = .ok (.return_, 1) := by decide +kernel
theorem dX7_thrown_0 : decode cX7_thrown 0 = .ok (.aload_n 0, 1) := by decide +kernel
theorem dX7_thrown_1 : decode cX7_thrown 1 = .ok (.getfield 47, 3) := by decide +kernel
theorem dX7_thrown_4 : decode cX7_thrown 4 = .ok (.ireturn, 1) := by decide +kernel
theorem dX7_save_0 : decode cX7_save 0 = .ok (.aload_n 0, 1) := by decide +kernel
theorem dX7_save_1 : decode cX7_save 1 = .ok (.getfield 50, 3) := by decide +kernel
theorem dX7_save_4 : decode cX7_save 4 = .ok (.bipush 30, 2) := by decide +kernel
theorem dX7_save_6 : decode cX7_save 6 = .ok (.if_icmp .ne 43, 3) := by decide +kernel
theorem dX7_save_9 : decode cX7_save 9 = .ok (.iconst 0, 1) := by decide +kernel
theorem dX7_save_10 : decode cX7_save 10 = .ok (.istore_n 1, 1) := by decide +kernel
theorem dX7_save_11 : decode cX7_save 11 = .ok (.iload_n 1, 1) := by decide +kernel
theorem dX7_save_12 : decode cX7_save 12 = .ok (.ldc 53, 2) := by decide +kernel
theorem dX7_save_14 : decode cX7_save 14 = .ok (.if_icmp .ge 25, 3) := by decide +kernel
theorem dX7_save_17 : decode cX7_save 17 = .ok (.aload_n 0, 1) := by decide +kernel
theorem dX7_save_18 : decode cX7_save 18 = .ok (.getfield 30, 3) := by decide +kernel
theorem dX7_save_21 : decode cX7_save 21 = .ok (.iload_n 1, 1) := by decide +kernel
theorem dX7_save_22 : decode cX7_save 22 = .ok (.aload_n 0, 1) := by decide +kernel
theorem dX7_save_23 : decode cX7_save 23 = .ok (.getfield 30, 3) := by decide +kernel
theorem dX7_save_26 : decode cX7_save 26 = .ok (.iload_n 1, 1) := by decide +kernel
theorem dX7_save_27 : decode cX7_save 27 = .ok (.sipush 2100, 3) := by decide +kernel
theorem dX7_save_30 : decode cX7_save 30 = .ok (.iadd, 1) := by decide +kernel
theorem dX7_save_31 : decode cX7_save 31 = .ok (.iaload, 1) := by decide +kernel
theorem dX7_save_32 : decode cX7_save 32 = .ok (.iastore, 1) := by decide +kernel
theorem dX7_save_33 : decode cX7_save 33 = .ok (.iinc 1 1, 3) := by decide +kernel
theorem dX7_save_36 : decode cX7_save 36 = .ok (.goto (-25), 3) := by decide +kernel
theorem dX7_save_39 : decode cX7_save 39 = .ok (.aload_n 0, 1) := by decide +kernel
theorem dX7_save_40 : decode cX7_save 40 = .ok (.dup, 1) := by decide +kernel
theorem dX7_save_41 : decode cX7_save 41 = .ok (.getfield 50, 3) := by decide +kernel
theorem dX7_save_44 : decode cX7_save 44 = .ok (.iconst 1, 1) := by decide +kernel
theorem dX7_save_45 : decode cX7_save 45 = .ok (.isub, 1) := by decide +kernel
theorem dX7_save_46 : decode cX7_save 46 = .ok (.putfield 50, 3) := by decide +kernel
theorem dX7_save_49 : decode cX7_save 49 = .ok (.sipush 2100, 3) := by decide +kernel
theorem dX7_save_52 : decode cX7_save 52 = .ok (.aload_n 0, 1) := by decide +kernel
theorem dX7_save_53 : decode cX7_save 53 = .ok (.getfield 50, 3) := by decide +kernel
theorem dX7_save_56 : decode cX7_save 56 = .ok (.imul, 1) := by decide +kernel
theorem dX7_save_57 : decode cX7_save 57 = .ok (.istore_n 1, 1) := by decide +kernel
theorem dX7_save_58 : decode cX7_save 58 = .ok (.aload_n 0, 1) := by decide +kernel
theorem dX7_save_59 : decode cX7_save 59 = .ok (.dup, 1) := by decide +kernel
theorem dX7_save_60 : decode cX7_save 60 = .ok (.getfield 50, 3) := by decide +kernel
theorem dX7_save_63 : decode cX7_save 63 = .ok (.iconst 1, 1) := by decide +kernel
theorem dX7_save_64 : decode cX7_save 64 = .ok (.iadd, 1) := by decide +kernel
theorem dX7_save_65 : decode cX7_save 65 = .ok (.putfield 50, 3) := by decide +kernel
theorem dX7_save_68 : decode cX7_save 68 = .ok (.iconst 0, 1) := by decide +kernel
theorem dX7_save_69 : decode cX7_save 69 = .ok (.istore_n 2, 1) := by decide +kernel
theorem dX7_save_70 : decode cX7_save 70 = .ok (.iload_n 2, 1) := by decide +kernel
theorem dX7_save_71 : decode cX7_save 71 = .ok (.sipush 400, 3) := by decide +kernel
theorem dX7_save_74 : decode cX7_save 74 = .ok (.if_icmp .ge 77, 3) := by decide +kernel
theorem dX7_save_77 : decode cX7_save 77 = .ok (.aload_n 0, 1) := by decide +kernel
theorem dX7_save_78 : decode cX7_save 78 = .ok (.getfield 30, 3) := by decide +kernel
theorem dX7_save_81 : decode cX7_save 81 = .ok (.iload_n 1, 1) := by decide +kernel
theorem dX7_save_82 : decode cX7_save 82 = .ok (.iload_n 2, 1) := by decide +kernel
theorem dX7_save_83 : decode cX7_save 83 = .ok (.iadd, 1) := by decide +kernel
theorem dX7_save_84 : decode cX7_save 84 = .ok (.aload_n 0, 1) := by decide +kernel
theorem dX7_save_85 : decode cX7_save 85 = .ok (.getfield 7, 3) := by decide +kernel
theorem dX7_save_88 : decode cX7_save 88 = .ok (.iload_n 2, 1) := by decide +kernel
theorem dX7_save_89 : decode cX7_save 89 = .ok (.iaload, 1) := by decide +kernel
theorem dX7_save_90 : decode cX7_save 90 = .ok (.iastore, 1) := by decide +kernel
theorem dX7_save_91 : decode cX7_save 91 = .ok (.aload_n 0, 1) := by decide +kernel
theorem dX7_save_92 : decode cX7_save 92 = .ok (.getfield 30, 3) := by decide +kernel
theorem dX7_save_95 : decode cX7_save 95 = .ok (.iload_n 1, 1) := by decide +kernel
theorem dX7_save_96 : decode cX7_save 96 = .ok (.sipush 400, 3) := by decide +kernel
theorem dX7_save_99 : decode cX7_save 99 = .ok (.iadd, 1) := by decide +kernel
theorem dX7_save_100 : decode cX7_save 100 = .ok (.iload_n 2, 1) := by decide +kernel
theorem dX7_save_101 : decode cX7_save 101 = .ok (.iadd, 1) := by decide +kernel
theorem dX7_save_102 : decode cX7_save 102 = .ok (.aload_n 0, 1) := by decide +kernel
theorem dX7_save_103 : decode cX7_save 103 = .ok (.getfield 13, 3) := by decide +kernel
theorem dX7_save_106 : decode cX7_save 106 = .ok (.iload_n 2, 1) := by decide +kernel
theorem dX7_save_107 : decode cX7_save 107 = .ok (.iaload, 1) := by decide +kernel
theorem dX7_save_108 : decode cX7_save 108 = .ok (.iastore, 1) := by decide +kernel
theorem dX7_save_109 : decode cX7_save 109 = .ok (.aload_n 0, 1) := by decide +kernel
theorem dX7_save_110 : decode cX7_save 110 = .ok (.getfield 30, 3) := by decide +kernel
theorem dX7_save_113 : decode cX7_save 113 = .ok (.iload_n 1, 1) := by decide +kernel
theorem dX7_save_114 : decode cX7_save 114 = .ok (.sipush 800, 3) := by decide +kernel
theorem dX7_save_117 : decode cX7_save 117 = .ok (.iadd, 1) := by decide +kernel
theorem dX7_save_118 : decode cX7_save 118 = .ok (.iload_n 2, 1) := by decide +kernel
theorem dX7_save_119 : decode cX7_save 119 = .ok (.iadd, 1) := by decide +kernel
theorem dX7_save_120 : decode cX7_save 120 = .ok (.aload_n 0, 1) := by decide +kernel
theorem dX7_save_121 : decode cX7_save 121 = .ok (.getfield 16, 3) := by decide +kernel
theorem dX7_save_124 : decode cX7_save 124 = .ok (.iload_n 2, 1) := by decide +kernel
theorem dX7_save_125 : decode cX7_save 125 = .ok (.iaload, 1) := by decide +kernel
theorem dX7_save_126 : decode cX7_save 126 = .ok (.iastore, 1) := by decide +kernel
theorem dX7_save_127 : decode cX7_save 127 = .ok (.aload_n 0, 1) := by decide +kernel
theorem dX7_save_128 : decode cX7_save 128 = .ok (.getfield 30, 3) := by decide +kernel
theorem dX7_save_131 : decode cX7_save 131 = .ok (.iload_n 1, 1) := by decide +kernel
theorem dX7_save_132 : decode cX7_save 132 = .ok (.sipush 1200, 3) := by decide +kernel
theorem dX7_save_135 : decode cX7_save 135 = .ok (.iadd, 1) := by decide +kernel
theorem dX7_save_136 : decode cX7_save 136 = .ok (.iload_n 2, 1) := by decide +kernel
theorem dX7_save_137 : decode cX7_save 137 = .ok (.iadd, 1) := by decide +kernel
theorem dX7_save_138 : decode cX7_save 138 = .ok (.aload_n 0, 1) := by decide +kernel
theorem dX7_save_139 : decode cX7_save 139 = .ok (.getfield 19, 3) := by decide +kernel
theorem dX7_save_142 : decode cX7_save 142 = .ok (.iload_n 2, 1) := by decide +kernel
theorem dX7_save_143 : decode cX7_save 143 = .ok (.iaload, 1) := by decide +kernel
theorem dX7_save_144 : decode cX7_save 144 = .ok (.iastore, 1) := by decide +kernel
theorem dX7_save_145 : decode cX7_save 145 = .ok (.iinc 2 1, 3) := by decide +kernel
theorem dX7_save_148 : decode cX7_save 148 = .ok (.goto (-78), 3) := by decide +kernel
theorem dX7_save_151 : decode cX7_save 151 = .ok (.iconst 0, 1) := by decide +kernel
theorem dX7_save_152 : decode cX7_save 152 = .ok (.istore_n 2, 1) := by decide +kernel
theorem dX7_save_153 : decode cX7_save 153 = .ok (.iload_n 2, 1) := by decide +kernel
theorem dX7_save_154 : decode cX7_save 154 = .ok (.bipush 40, 2) := by decide +kernel
theorem dX7_save_156 : decode cX7_save 156 = .ok (.if_icmp .ge 53, 3) := by decide +kernel
theorem dX7_save_159 : decode cX7_save 159 = .ok (.aload_n 0, 1) := by decide +kernel
theorem dX7_save_160 : decode cX7_save 160 = .ok (.getfield 30, 3) := by decide +kernel
theorem dX7_save_163 : decode cX7_save 163 = .ok (.iload_n 1, 1) := by decide +kernel
theorem dX7_save_164 : decode cX7_save 164 = .ok (.sipush 1600, 3) := by decide +kernel
theorem dX7_save_167 : decode cX7_save 167 = .ok (.iadd, 1) := by decide +kernel
theorem dX7_save_168 : decode cX7_save 168 = .ok (.iload_n 2, 1) := by decide +kernel
theorem dX7_save_169 : decode cX7_save 169 = .ok (.iadd, 1) := by decide +kernel
theorem dX7_save_170 : decode cX7_save 170 = .ok (.aload_n 0, 1) := by decide +kernel
theorem dX7_save_171 : decode cX7_save 171 = .ok (.getfield 22, 3) := by decide +kernel
theorem dX7_save_174 : decode cX7_save 174 = .ok (.iload_n 2, 1) := by decide +kernel
theorem dX7_save_175 : decode cX7_save 175 = .ok (.iaload, 1) := by decide +kernel
theorem dX7_save_176 : decode cX7_save 176 = .ok (.iastore, 1) := by decide +kernel
theorem dX7_save_177 : decode cX7_save 177 = .ok (.aload_n 0, 1) := by decide +kernel
theorem dX7_save_178 : decode cX7_save 178 = .ok (.getfield 30, 3) := by decide +kernel
theorem dX7_save_181 : decode cX7_save 181 = .ok (.iload_n 1, 1) := by decide +kernel
theorem dX7_save_182 : decode cX7_save 182 = .ok (.sipush 1640, 3) := by decide +kernel
theorem dX7_save_185 : decode cX7_save 185 = .ok (.iadd, 1) := by decide +kernel
theorem dX7_save_186 : decode cX7_save 186 = .ok (.iload_n 2, 1) := by decide +kernel
theorem dX7_save_187 : decode cX7_save 187 = .ok (.iadd, 1) := by decide +kernel
theorem dX7_save_188 : decode cX7_save 188 = .ok (.aload_n 0, 1) := by decide +kernel
theorem dX7_save_189 : decode cX7_save 189 = .ok (.getfield 25, 3) := by decide +kernel
theorem dX7_save_192 : decode cX7_save 192 = .ok (.iload_n 2, 1) := by decide +kernel
theorem dX7_save_193 : decode cX7_save 193 = .ok (.baload, 1) := by decide +kernel
theorem dX7_save_194 : decode cX7_save 194 = .ok (.ifCond .eq 7, 3) := by decide +kernel
theorem dX7_save_197 : decode cX7_save 197 = .ok (.iconst 1, 1) := by decide +kernel
theorem dX7_save_198 : decode cX7_save 198 = .ok (.goto 4, 3) := by decide +kernel
theorem dX7_save_201 : decode cX7_save 201 = .ok (.iconst 0, 1) := by decide +kernel
theorem dX7_save_202 : decode cX7_save 202 = .ok (.iastore, 1) := by decide +kernel
theorem dX7_save_203 : decode cX7_save 203 = .ok (.iinc 2 1, 3) := by decide +kernel
theorem dX7_save_206 : decode cX7_save 206 = .ok (.goto (-53), 3) := by decide +kernel
theorem dX7_save_209 : decode cX7_save 209 = .ok (.aload_n 0, 1) := by decide +kernel
theorem dX7_save_210 : decode cX7_save 210 = .ok (.getfield 30, 3) := by decide +kernel
theorem dX7_save_213 : decode cX7_save 213 = .ok (.iload_n 1, 1) := by decide +kernel
theorem dX7_save_214 : decode cX7_save 214 = .ok (.sipush 1680, 3) := by decide +kernel
theorem dX7_save_217 : decode cX7_save 217 = .ok (.iadd, 1) := by decide +kernel
theorem dX7_save_218 : decode cX7_save 218 = .ok (.aload_n 0, 1) := by decide +kernel
theorem dX7_save_219 : decode cX7_save 219 = .ok (.getfield 43, 3) := by decide +kernel
theorem dX7_save_222 : decode cX7_save 222 = .ok (.iastore, 1) := by decide +kernel
theorem dX7_save_223 : decode cX7_save 223 = .ok (.aload_n 0, 1) := by decide +kernel
theorem dX7_save_224 : decode cX7_save 224 = .ok (.getfield 30, 3) := by decide +kernel
theorem dX7_save_227 : decode cX7_save 227 = .ok (.iload_n 1, 1) := by decide +kernel
theorem dX7_save_228 : decode cX7_save 228 = .ok (.sipush 1681, 3) := by decide +kernel
theorem dX7_save_231 : decode cX7_save 231 = .ok (.iadd, 1) := by decide +kernel
theorem dX7_save_232 : decode cX7_save 232 = .ok (.aload_n 0, 1) := by decide +kernel
theorem dX7_save_233 : decode cX7_save 233 = .ok (.getfield 54, 3) := by decide +kernel
theorem dX7_save_236 : decode cX7_save 236 = .ok (.iastore, 1) := by decide +kernel
theorem dX7_save_237 : decode cX7_save 237 = .ok (.aload_n 0, 1) := by decide +kernel
theorem dX7_save_238 : decode cX7_save 238 = .ok (.iconst 0, 1) := by decide +kernel
theorem dX7_save_239 : decode cX7_save 239 = .ok (.putfield 57, 3) := by decide +kernel
theorem dX7_save_242 : decode cX7_save 242 = .ok (.return_, 1) := by decide +kernel
theorem dX7_undo_0 : decode cX7_undo 0 = .ok (.aload_n 0, 1) := by decide +kernel
theorem dX7_undo_1 : decode cX7_undo 1 = .ok (.iconst 0, 1) := by decide +kernel
theorem dX7_undo_2 : decode cX7_undo 2 = .ok (.putfield 47, 3) := by decide +kernel
theorem dX7_undo_5 : decode cX7_undo 5 = .ok (.aload_n 0, 1) := by decide +kernel
theorem dX7_undo_6 : decode cX7_undo 6 = .ok (.getfield 50, 3) := by decide +kernel
theorem dX7_undo_9 : decode cX7_undo 9 = .ok (.ifCond .ne 5, 3) := by decide +kernel
theorem dX7_undo_12 : decode cX7_undo 12 = .ok (.iconst 0, 1) := by decide +kernel
theorem dX7_undo_13 : decode cX7_undo 13 = .ok (.ireturn, 1) := by decide +kernel
theorem dX7_undo_14 : decode cX7_undo 14 = .ok (.aload_n 0, 1) := by decide +kernel
theorem dX7_undo_15 : decode cX7_undo 15 = .ok (.dup, 1) := by decide +kernel
theorem dX7_undo_16 : decode cX7_undo 16 = .ok (.getfield 50, 3) := by decide +kernel
theorem dX7_undo_19 : decode cX7_undo 19 = .ok (.iconst 1, 1) := by decide +kernel
theorem dX7_undo_20 : decode cX7_undo 20 = .ok (.isub, 1) := by decide +kernel
theorem dX7_undo_21 : decode cX7_undo 21 = .ok (.putfield 50, 3) := by decide +kernel
theorem dX7_undo_24 : decode cX7_undo 24 = .ok (.sipush 2100, 3) := by decide +kernel
theorem dX7_undo_27 : decode cX7_undo 27 = .ok (.aload_n 0, 1) := by decide +kernel
theorem dX7_undo_28 : decode cX7_undo 28 = .ok (.getfield 50, 3) := by decide +kernel
theorem dX7_undo_31 : decode cX7_undo 31 = .ok (.imul, 1) := by decide +kernel
theorem dX7_undo_32 : decode cX7_undo 32 = .ok (.istore_n 1, 1) := by decide +kernel
theorem dX7_undo_33 : decode cX7_undo 33 = .ok (.iconst 0, 1) := by decide +kernel
theorem dX7_undo_34 : decode cX7_undo 34 = .ok (.istore_n 2, 1) := by decide +kernel
theorem dX7_undo_35 : decode cX7_undo 35 = .ok (.iload_n 2, 1) := by decide +kernel
theorem dX7_undo_36 : decode cX7_undo 36 = .ok (.sipush 400, 3) := by decide +kernel
theorem dX7_undo_39 : decode cX7_undo 39 = .ok (.if_icmp .ge 77, 3) := by decide +kernel
theorem dX7_undo_42 : decode cX7_undo 42 = .ok (.aload_n 0, 1) := by decide +kernel
theorem dX7_undo_43 : decode cX7_undo 43 = .ok (.getfield 7, 3) := by decide +kernel
theorem dX7_undo_46 : decode cX7_undo 46 = .ok (.iload_n 2, 1) := by decide +kernel
theorem dX7_undo_47 : decode cX7_undo 47 = .ok (.aload_n 0, 1) := by decide +kernel
theorem dX7_undo_48 : decode cX7_undo 48 = .ok (.getfield 30, 3) := by decide +kernel
theorem dX7_undo_51 : decode cX7_undo 51 = .ok (.iload_n 1, 1) := by decide +kernel
theorem dX7_undo_52 : decode cX7_undo 52 = .ok (.iload_n 2, 1) := by decide +kernel
theorem dX7_undo_53 : decode cX7_undo 53 = .ok (.iadd, 1) := by decide +kernel
theorem dX7_undo_54 : decode cX7_undo 54 = .ok (.iaload, 1) := by decide +kernel
theorem dX7_undo_55 : decode cX7_undo 55 = .ok (.iastore, 1) := by decide +kernel
theorem dX7_undo_56 : decode cX7_undo 56 = .ok (.aload_n 0, 1) := by decide +kernel
theorem dX7_undo_57 : decode cX7_undo 57 = .ok (.getfield 13, 3) := by decide +kernel
theorem dX7_undo_60 : decode cX7_undo 60 = .ok (.iload_n 2, 1) := by decide +kernel
theorem dX7_undo_61 : decode cX7_undo 61 = .ok (.aload_n 0, 1) := by decide +kernel
theorem dX7_undo_62 : decode cX7_undo 62 = .ok (.getfield 30, 3) := by decide +kernel
theorem dX7_undo_65 : decode cX7_undo 65 = .ok (.iload_n 1, 1) := by decide +kernel
theorem dX7_undo_66 : decode cX7_undo 66 = .ok (.sipush 400, 3) := by decide +kernel
theorem dX7_undo_69 : decode cX7_undo 69 = .ok (.iadd, 1) := by decide +kernel
theorem dX7_undo_70 : decode cX7_undo 70 = .ok (.iload_n 2, 1) := by decide +kernel
theorem dX7_undo_71 : decode cX7_undo 71 = .ok (.iadd, 1) := by decide +kernel
theorem dX7_undo_72 : decode cX7_undo 72 = .ok (.iaload, 1) := by decide +kernel
theorem dX7_undo_73 : decode cX7_undo 73 = .ok (.iastore, 1) := by decide +kernel
theorem dX7_undo_74 : decode cX7_undo 74 = .ok (.aload_n 0, 1) := by decide +kernel
theorem dX7_undo_75 : decode cX7_undo 75 = .ok (.getfield 16, 3) := by decide +kernel
theorem dX7_undo_78 : decode cX7_undo 78 = .ok (.iload_n 2, 1) := by decide +kernel
theorem dX7_undo_79 : decode cX7_undo 79 = .ok (.aload_n 0, 1) := by decide +kernel
theorem dX7_undo_80 : decode cX7_undo 80 = .ok (.getfield 30, 3) := by decide +kernel
theorem dX7_undo_83 : decode cX7_undo 83 = .ok (.iload_n 1, 1) := by decide +kernel
theorem dX7_undo_84 : decode cX7_undo 84 = .ok (.sipush 800, 3) := by decide +kernel
theorem dX7_undo_87 : decode cX7_undo 87 = .ok (.iadd, 1) := by decide +kernel
theorem dX7_undo_88 : decode cX7_undo 88 = .ok (.iload_n 2, 1) := by decide +kernel
theorem dX7_undo_89 : decode cX7_undo 89 = .ok (.iadd, 1) := by decide +kernel
theorem dX7_undo_90 : decode cX7_undo 90 = .ok (.iaload, 1) := by decide +kernel
theorem dX7_undo_91 : decode cX7_undo 91 = .ok (.iastore, 1) := by decide +kernel
theorem dX7_undo_92 : decode cX7_undo 92 = .ok (.aload_n 0, 1) := by decide +kernel
theorem dX7_undo_93 : decode cX7_undo 93 = .ok (.getfield 19, 3) := by decide +kernel
theorem dX7_undo_96 : decode cX7_undo 96 = .ok (.iload_n 2, 1) := by decide +kernel
theorem dX7_undo_97 : decode cX7_undo 97 = .ok (.aload_n 0, 1) := by decide +kernel
theorem dX7_undo_98 : decode cX7_undo 98 = .ok (.getfield 30, 3) := by decide +kernel
theorem dX7_undo_101 : decode cX7_undo 101 = .ok (.iload_n 1, 1) := by decide +kernel
theorem dX7_undo_102 : decode cX7_undo 102 = .ok (.sipush 1200, 3) := by decide +kernel
theorem dX7_undo_105 : decode cX7_undo 105 = .ok (.iadd, 1) := by decide +kernel
theorem dX7_undo_106 : decode cX7_undo 106 = .ok (.iload_n 2, 1) := by decide +kernel
theorem dX7_undo_107 : decode cX7_undo 107 = .ok (.iadd, 1) := by decide +kernel
theorem dX7_undo_108 : decode cX7_undo 108 = .ok (.iaload, 1) := by decide +kernel
theorem dX7_undo_109 : decode cX7_undo 109 = .ok (.iastore, 1) := by decide +kernel
theorem dX7_undo_110 : decode cX7_undo 110 = .ok (.iinc 2 1, 3) := by decide +kernel
theorem dX7_undo_113 : decode cX7_undo 113 = .ok (.goto (-78), 3) := by decide +kernel
theorem dX7_undo_116 : decode cX7_undo 116 = .ok (.iconst 0, 1) := by decide +kernel
theorem dX7_undo_117 : decode cX7_undo 117 = .ok (.istore_n 2, 1) := by decide +kernel
theorem dX7_undo_118 : decode cX7_undo 118 = .ok (.iload_n 2, 1) := by decide +kernel
theorem dX7_undo_119 : decode cX7_undo 119 = .ok (.bipush 40, 2) := by decide +kernel
theorem dX7_undo_121 : decode cX7_undo 121 = .ok (.if_icmp .ge 54, 3) := by decide +kernel
theorem dX7_undo_124 : decode cX7_undo 124 = .ok (.aload_n 0, 1) := by decide +kernel
theorem dX7_undo_125 : decode cX7_undo 125 = .ok (.getfield 22, 3) := by decide +kernel
theorem dX7_undo_128 : decode cX7_undo 128 = .ok (.iload_n 2, 1) := by decide +kernel
theorem dX7_undo_129 : decode cX7_undo 129 = .ok (.aload_n 0, 1) := by decide +kernel
theorem dX7_undo_130 : decode cX7_undo 130 = .ok (.getfield 30, 3) := by decide +kernel
theorem dX7_undo_133 : decode cX7_undo 133 = .ok (.iload_n 1, 1) := by decide +kernel
theorem dX7_undo_134 : decode cX7_undo 134 = .ok (.sipush 1600, 3) := by decide +kernel
theorem dX7_undo_137 : decode cX7_undo 137 = .ok (.iadd, 1) := by decide +kernel
theorem dX7_undo_138 : decode cX7_undo 138 = .ok (.iload_n 2, 1) := by decide +kernel
theorem dX7_undo_139 : decode cX7_undo 139 = .ok (.iadd, 1) := by decide +kernel
theorem dX7_undo_140 : decode cX7_undo 140 = .ok (.iaload, 1) := by decide +kernel
theorem dX7_undo_141 : decode cX7_undo 141 = .ok (.iastore, 1) := by decide +kernel
theorem dX7_undo_142 : decode cX7_undo 142 = .ok (.aload_n 0, 1) := by decide +kernel
theorem dX7_undo_143 : decode cX7_undo 143 = .ok (.getfield 25, 3) := by decide +kernel
theorem dX7_undo_146 : decode cX7_undo 146 = .ok (.iload_n 2, 1) := by decide +kernel
theorem dX7_undo_147 : decode cX7_undo 147 = .ok (.aload_n 0, 1) := by decide +kernel
theorem dX7_undo_148 : decode cX7_undo 148 = .ok (.getfield 30, 3) := by decide +kernel
theorem dX7_undo_151 : decode cX7_undo 151 = .ok (.iload_n 1, 1) := by decide +kernel
theorem dX7_undo_152 : decode cX7_undo 152 = .ok (.sipush 1640, 3) := by decide +kernel
theorem dX7_undo_155 : decode cX7_undo 155 = .ok (.iadd, 1) := by decide +kernel
theorem dX7_undo_156 : decode cX7_undo 156 = .ok (.iload_n 2, 1) := by decide +kernel
theorem dX7_undo_157 : decode cX7_undo 157 = .ok (.iadd, 1) := by decide +kernel
theorem dX7_undo_158 : decode cX7_undo 158 = .ok (.iaload, 1) := by decide +kernel
theorem dX7_undo_159 : decode cX7_undo 159 = .ok (.iconst 1, 1) := by decide +kernel
theorem dX7_undo_160 : decode cX7_undo 160 = .ok (.if_icmp .ne 7, 3) := by decide +kernel
theorem dX7_undo_163 : decode cX7_undo 163 = .ok (.iconst 1, 1) := by decide +kernel
theorem dX7_undo_164 : decode cX7_undo 164 = .ok (.goto 4, 3) := by decide +kernel
theorem dX7_undo_167 : decode cX7_undo 167 = .ok (.iconst 0, 1) := by decide +kernel
theorem dX7_undo_168 : decode cX7_undo 168 = .ok (.bastore, 1) := by decide +kernel
theorem dX7_undo_169 : decode cX7_undo 169 = .ok (.iinc 2 1, 3) := by decide +kernel
theorem dX7_undo_172 : decode cX7_undo 172 = .ok (.goto (-54), 3) := by decide +kernel
theorem dX7_undo_175 : decode cX7_undo 175 = .ok (.aload_n 0, 1) := by decide +kernel
theorem dX7_undo_176 : decode cX7_undo 176 = .ok (.aload_n 0, 1) := by decide +kernel
theorem dX7_undo_177 : decode cX7_undo 177 = .ok (.getfield 30, 3) := by decide +kernel
theorem dX7_undo_180 : decode cX7_undo 180 = .ok (.iload_n 1, 1) := by decide +kernel
theorem dX7_undo_181 : decode cX7_undo 181 = .ok (.sipush 1680, 3) := by decide +kernel
theorem dX7_undo_184 : decode cX7_undo 184 = .ok (.iadd, 1) := by decide +kernel
theorem dX7_undo_185 : decode cX7_undo 185 = .ok (.iaload, 1) := by decide +kernel
theorem dX7_undo_186 : decode cX7_undo 186 = .ok (.putfield 43, 3) := by decide +kernel
theorem dX7_undo_189 : decode cX7_undo 189 = .ok (.aload_n 0, 1) := by decide +kernel
theorem dX7_undo_190 : decode cX7_undo 190 = .ok (.aload_n 0, 1) := by decide +kernel
theorem dX7_undo_191 : decode cX7_undo 191 = .ok (.getfield 30, 3) := by decide +kernel
theorem dX7_undo_194 : decode cX7_undo 194 = .ok (.iload_n 1, 1) := by decide +kernel
theorem dX7_undo_195 : decode cX7_undo 195 = .ok (.sipush 1681, 3) := by decide +kernel
theorem dX7_undo_198 : decode cX7_undo 198 = .ok (.iadd, 1) := by decide +kernel
theorem dX7_undo_199 : decode cX7_undo 199 = .ok (.iaload, 1) := by decide +kernel
theorem dX7_undo_200 : decode cX7_undo 200 = .ok (.putfield 54, 3) := by decide +kernel
theorem dX7_undo_203 : decode cX7_undo 203 = .ok (.aload_n 0, 1) := by decide +kernel
theorem dX7_undo_204 : decode cX7_undo 204 = .ok (.iconst 0, 1) := by decide +kernel
