set_option maxRecDepth 20000 in
theorem ggX8_init_X5_init : GoodIn wsX8_init wsX5_init := goodIn_r _ [30, 31, 2, 3, 32, 33, 34, 35, 36, 37, 38, 6, 39, 40, 41, 42, 43, 44, 45, 46, 47, 48, 134, 135, 136, 137] (by decide +kernel) (by decide +kernel)
set_option maxRecDepth 20000 in
theorem gX8_init_X5_init : GoodIn wsX8_init (wsX5_init) := ggX8_init_X5_init
set_option maxRecDepth 20000 in
theorem ggX8_init_X2_init : GoodIn wsX8_init wsX2_init := goodIn_r _ [51, 52, 2, 3, 53, 54, 55, 56, 57, 58, 59, 60, 61, 62, 42, 63, 64, 32, 65, 66, 67, 68, 69, 70, 71, 10, 72, 73, 74, 75, 76, 77, 78, 79, 80, 81, 82, 46, 47, 48, 170, 171, 144, 145, 146, 147, 148, 149] (by decide +kernel) (by decide +kernel)
set_option maxRecDepth 20000 in
theorem gX8_init_X2_init : GoodIn wsX8_init (wsX2_init) := ggX8_init_X2_init
set_option maxRecDepth 20000 in
theorem ggX8_init_X7_init : GoodIn wsX8_init wsX7_init := goodIn_r _ [85, 86, 2, 3, 32, 87, 88, 150, 151] (by decide +kernel) (by decide +kernel)
set_option maxRecDepth 20000 in
theorem gX8_init_X7_init : GoodIn wsX8_init (wsX7_init) := ggX8_init_X7_init
set_option maxRecDepth 20000 in
theorem ggX8_init_X3_init : GoodIn wsX8_init wsX3_init := goodIn_r _ [91, 92, 2, 3, 93, 9, 10, 94, 32, 95, 96, 97, 98, 99, 100, 101, 102, 50, 51, 52, 53, 54, 55, 56, 57, 58, 59, 60, 61, 62, 42, 63, 64, 65, 66, 67, 68, 69, 70, 71, 72, 73, 74, 75, 76, 77, 78, 79, 80, 81, 82, 46, 47, 48, 144, 145, 146, 147, 148, 149, 152, 153, 154, 155, 156, 157, 158, 159, 160, 161, 170, 171] (by decide +kernel) (by decide +kernel)
set_option maxRecDepth 20000 in
theorem gX8_init_X3_init : GoodIn wsX8_init (wsX3_init) := ggX8_init_X3_init
set_option maxRecDepth 20000 in
theorem ggX8_init_X0_init : GoodIn wsX8_init wsX0_init := goodIn_r _ [105, 106, 2, 3, 107, 108, 109, 110, 111, 112, 113, 114, 115, 32, 116, 117, 118, 119, 120, 121, 122, 123, 124, 125, 172, 173, 174, 175, 176, 177, 162, 163] (by decide +kernel) (by decide +kernel)
set_option maxRecDepth 20000 in
theorem gX8_init_X0_init : GoodIn wsX8_init (wsX0_init) := ggX8_init_X0_init
set_option maxRecDepth 20000 in
theorem ggX8_init_X1_init : GoodIn wsX8_init wsX1_init := goodIn_r _ [128, 129, 2, 3, 130, 131, 32, 132, 133, 164, 165, 166, 167, 168, 169] (by decide +kernel) (by decide +kernel)
set_option maxRecDepth 20000 in
theorem gX8_init_X1_init : GoodIn wsX8_init (wsX1_init) := ggX8_init_X1_init
theorem dX8_init_0 : decode cX8_init 0 = .ok (.aload_n 0, 1) := by decide +kernel
theorem dX8_init_1 : decode cX8_init 1 = .ok (.invokespecial 1, 3) := by decide +kernel
theorem dX8_init_4 : decode cX8_init 4 = .ok (.aload_n 0, 1) := by decide +kernel
theorem dX8_init_5 : decode cX8_init 5 = .ok (.new 7, 3) := by decide +kernel
theorem dX8_init_8 : decode cX8_init 8 = .ok (.dup, 1) := by decide +kernel
theorem dX8_init_9 : decode cX8_init 9 = .ok (.invokespecial 9, 3) := by decide +kernel
theorem dX8_init_12 : decode cX8_init 12 = .ok (.putfield 10, 3) := by decide +kernel
theorem dX8_init_15 : decode cX8_init 15 = .ok (.aload_n 0, 1) := by decide +kernel
theorem dX8_init_16 : decode cX8_init 16 = .ok (.new 16, 3) := by decide +kernel
theorem dX8_init_19 : decode cX8_init 19 = .ok (.dup, 1) := by decide +kernel
theorem dX8_init_20 : decode cX8_init 20 = .ok (.sipush 5000, 3) := by decide +kernel
theorem dX8_init_23 : decode cX8_init 23 = .ok (.invokespecial 18, 3) := by decide +kernel
theorem dX8_init_26 : decode cX8_init 26 = .ok (.putfield 21, 3) := by decide +kernel
theorem dX8_init_29 : decode cX8_init 29 = .ok (.aload_n 0, 1) := by decide +kernel
theorem dX8_init_30 : decode cX8_init 30 = .ok (.new 25, 3) := by decide +kernel
theorem dX8_init_33 : decode cX8_init 33 = .ok (.dup, 1) := by decide +kernel
theorem dX8_init_34 : decode cX8_init 34 = .ok (.invokespecial 27, 3) := by decide +kernel
theorem dX8_init_37 : decode cX8_init 37 = .ok (.putfield 28, 3) := by decide +kernel
theorem dX8_init_40 : decode cX8_init 40 = .ok (.aload_n 0, 1) := by decide +kernel
theorem dX8_init_41 : decode cX8_init 41 = .ok (.new 32, 3) := by decide +kernel
theorem dX8_init_44 : decode cX8_init 44 = .ok (.dup, 1) := by decide +kernel
theorem dX8_init_45 : decode cX8_init 45 = .ok (.invokespecial 34, 3) := by decide +kernel
theorem dX8_init_48 : decode cX8_init 48 = .ok (.putfield 35, 3) := by decide +kernel
theorem dX8_init_51 : decode cX8_init 51 = .ok (.aload_n 0, 1) := by decide +kernel
theorem dX8_init_52 : decode cX8_init 52 = .ok (.new 39, 3) := by decide +kernel
theorem dX8_init_55 : decode cX8_init 55 = .ok (.dup, 1) := by decide +kernel
theorem dX8_init_56 : decode cX8_init 56 = .ok (.invokespecial 41, 3) := by decide +kernel
theorem dX8_init_59 : decode cX8_init 59 = .ok (.putfield 42, 3) := by decide +kernel
theorem dX8_init_62 : decode cX8_init 62 = .ok (.aload_n 0, 1) := by decide +kernel
theorem dX8_init_63 : decode cX8_init 63 = .ok (.new 46, 3) := by decide +kernel
theorem dX8_init_66 : decode cX8_init 66 = .ok (.dup, 1) := by decide +kernel
theorem dX8_init_67 : decode cX8_init 67 = .ok (.invokespecial 48, 3) := by decide +kernel
theorem dX8_init_70 : decode cX8_init 70 = .ok (.putfield 49, 3) := by decide +kernel
theorem dX8_init_73 : decode cX8_init 73 = .ok (.return_, 1) := by decide +kernel
set_option maxRecDepth 20000 in
theorem ggX8_setStates_X5_reset : GoodIn wsX8_setStates wsX5_reset := goodIn_r _ [7, 8, 9, 10, 11, 12, 13, 14, 15, 16, 17, 42, 43, 44, 45] (by decide +kernel) (by decide +kernel)
set_option maxRecDepth 20000 in
theorem gX8_setStates_X5_reset : GoodIn wsX8_setStates (wsV RX8 57 RX5 yX5_reset wsX5_reset) := goodIn_app (goodIn_of _ (by decide +kernel)) ggX8_setStates_X5_reset
set_option maxRecDepth 20000 in
theorem ggX8_setStates_X2_begin : GoodIn wsX8_setStates wsX2_begin := goodIn_r _ [22, 23, 24, 25, 26, 27, 28, 29, 30, 31, 32, 33, 34, 35, 15, 16, 17, 46, 47, 48, 49, 50, 51, 52, 53] (by decide +kernel) (by decide +kernel)
set_option maxRecDepth 20000 in
theorem gX8_setStates_X2_begin : GoodIn wsX8_setStates (wsV RX8 60 RX2 yX2_begin wsX2_begin) := goodIn_app (goodIn_of _ (by decide +kernel)) ggX8_setStates_X2_begin
theorem dX8_setStates_0 : decode cX8_setStates 0 = .ok (.iload_n 1, 1) := by decide +kernel
theorem dX8_setStates_1 : decode cX8_setStates 1 = .ok (.iconst 1, 1) := by decide +kernel
theorem dX8_setStates_2 : decode cX8_setStates 2 = .ok (.if_icmp .lt 8, 3) := by decide +kernel
theorem dX8_setStates_5 : decode cX8_setStates 5 = .ok (.iload_n 1, 1) := by decide +kernel
theorem dX8_setStates_6 : decode cX8_setStates 6 = .ok (.iconst 5, 1) := by decide +kernel
theorem dX8_setStates_7 : decode cX8_setStates 7 = .ok (.if_icmp .le 7, 3) := by decide +kernel
theorem dX8_setStates_10 : decode cX8_setStates 10 = .ok (.sipush (-1002), 3) := by decide +kernel
theorem dX8_setStates_13 : decode cX8_setStates 13 = .ok (.ireturn, 1) := by decide +kernel
theorem dX8_setStates_14 : decode cX8_setStates 14 = .ok (.aload_n 0, 1) := by decide +kernel
theorem dX8_setStates_15 : decode cX8_setStates 15 = .ok (.getfield 10, 3) := by decide +kernel
theorem dX8_setStates_18 : decode cX8_setStates 18 = .ok (.getfield 53, 3) := by decide +kernel
theorem dX8_setStates_21 : decode cX8_setStates 21 = .ok (.istore_n 2, 1) := by decide +kernel
theorem dX8_setStates_22 : decode cX8_setStates 22 = .ok (.aload_n 0, 1) := by decide +kernel
theorem dX8_setStates_23 : decode cX8_setStates 23 = .ok (.getfield 10, 3) := by decide +kernel
theorem dX8_setStates_26 : decode cX8_setStates 26 = .ok (.iload_n 1, 1) := by decide +kernel
theorem dX8_setStates_27 : decode cX8_setStates 27 = .ok (.invokevirtual 57, 3) := by decide +kernel
theorem dX8_setStates_30 : decode cX8_setStates 30 = .ok (.aload_n 0, 1) := by decide +kernel
theorem dX8_setStates_31 : decode cX8_setStates 31 = .ok (.getfield 21, 3) := by decide +kernel
theorem dX8_setStates_34 : decode cX8_setStates 34 = .ok (.invokevirtual 60, 3) := by decide +kernel
theorem dX8_setStates_37 : decode cX8_setStates 37 = .ok (.iload_n 2, 1) := by decide +kernel
theorem dX8_setStates_38 : decode cX8_setStates 38 = .ok (.ireturn, 1) := by decide +kernel
theorem dX8_states_0 : decode cX8_states 0 = .ok (.aload_n 0, 1) := by decide +kernel
theorem dX8_states_1 : decode cX8_states 1 = .ok (.getfield 10, 3) := by decide +kernel
theorem dX8_states_4 : decode cX8_states 4 = .ok (.getfield 53, 3) := by decide +kernel
theorem dX8_states_7 : decode cX8_states 7 = .ok (.ireturn, 1) := by decide +kernel
set_option maxRecDepth 20000 in
theorem ggX8_setTransition_X5_exists : GoodIn wsX8_setTransition wsX5_exists := goodIn_r _ [7, 8, 59, 60, 61, 62] (by decide +kernel) (by decide +kernel)
set_option maxRecDepth 20000 in
theorem gX8_setTransition_X5_exists : GoodIn wsX8_setTransition (wsV RX8 63 RX5 yX5_exists wsX5_exists) := goodIn_app (goodIn_of _ (by decide +kernel)) ggX8_setTransition_X5_exists
set_option maxRecDepth 20000 in
theorem ggX8_setTransition_X8_isSymbol : GoodIn wsX8_setTransition wsX8_isSymbol := goodIn_r _ [12] (by decide +kernel) (by decide +kernel)
set_option maxRecDepth 20000 in
theorem gX8_setTransition_X8_isSymbol : GoodIn wsX8_setTransition (va_wsS RX8 67 yX8_isSymbol wsX8_isSymbol) := goodIn_app (goodIn_of _ (by decide +kernel)) ggX8_setTransition_X8_isSymbol
set_option maxRecDepth 20000 in
theorem ggX8_setTransition_X5_has : GoodIn wsX8_setTransition wsX5_has := goodIn_r _ [16, 17, 18, 19, 6, 20, 21, 22, 23, 24, 25, 8, 59, 60, 61, 62] (by decide +kernel) (by decide +kernel)
set_option maxRecDepth 20000 in
theorem gX8_setTransition_X5_has : GoodIn wsX8_setTransition (wsV RX8 70 RX5 yX5_has wsX5_has) := goodIn_app (goodIn_of _ (by decide +kernel)) ggX8_setTransition_X5_has
set_option maxRecDepth 20000 in
theorem ggX8_setTransition_X5_put : GoodIn wsX8_setTransition wsX5_put := goodIn_r _ [29, 30, 31, 21, 22, 23, 24, 6, 25, 8, 59, 60, 61, 62] (by decide +kernel) (by decide +kernel)
set_option maxRecDepth 20000 in
theorem gX8_setTransition_X5_put : GoodIn wsX8_setTransition (wsV RX8 74 RX5 yX5_put wsX5_put) := goodIn_app (goodIn_of _ (by decide +kernel)) ggX8_setTransition_X5_put
set_option maxRecDepth 20000 in
theorem ggX8_setTransition_X2_begin : GoodIn wsX8_setTransition wsX2_begin := goodIn_r _ [36, 37, 38, 39, 40, 41, 42, 43, 44, 45, 46, 47, 48, 49, 50, 51, 52, 63, 64, 65, 66, 67, 68, 69, 70] (by decide +kernel) (by decide +kernel)
set_option maxRecDepth 20000 in
theorem gX8_setTransition_X2_begin : GoodIn wsX8_setTransition (wsV RX8 60 RX2 yX2_begin wsX2_begin) := goodIn_app (goodIn_of _ (by decide +kernel)) ggX8_setTransition_X2_begin
theorem dX8_setTransition_0 : decode cX8_setTransition 0 = .ok (.aload_n 0, 1) := by decide +kernel
theorem dX8_setTransition_1 : decode cX8_setTransition 1 = .ok (.getfield 10, 3) := by decide +kernel
theorem dX8_setTransition_4 : decode cX8_setTransition 4 = .ok (.iload_n 1, 1) := by decide +kernel
theorem dX8_setTransition_5 : decode cX8_setTransition 5 = .ok (.invokevirtual 63, 3) := by decide +kernel
theorem dX8_setTransition_8 : decode cX8_setTransition 8 = .ok (.ifCond .eq 22, 3) := by decide +kernel
theorem dX8_setTransition_11 : decode cX8_setTransition 11 = .ok (.aload_n 0, 1) := by decide +kernel
theorem dX8_setTransition_12 : decode cX8_setTransition 12 = .ok (.getfield 10, 3) := by decide +kernel
theorem dX8_setTransition_15 : decode cX8_setTransition 15 = .ok (.iload 5, 2) := by decide +kernel
theorem dX8_setTransition_17 : decode cX8_setTransition 17 = .ok (.invokevirtual 63, 3) := by decide +kernel
theorem dX8_setTransition_20 : decode cX8_setTransition 20 = .ok (.ifCond .ne 14, 3) := by decide +kernel
theorem dX8_setTransition_23 : decode cX8_setTransition 23 = .ok (.iload 5, 2) := by decide +kernel
theorem dX8_setTransition_25 : decode cX8_setTransition 25 = .ok (.bipush 9, 2) := by decide +kernel
theorem dX8_setTransition_27 : decode cX8_setTransition 27 = .ok (.if_icmp .eq 7, 3) := by decide +kernel
theorem dX8_setTransition_30 : decode cX8_setTransition 30 = .ok (.sipush (-1001), 3) := by decide +kernel
theorem dX8_setTransition_33 : decode cX8_setTransition 33 = .ok (.ireturn, 1) := by decide +kernel
theorem dX8_setTransition_34 : decode cX8_setTransition 34 = .ok (.iload_n 2, 1) := by decide +kernel
theorem dX8_setTransition_35 : decode cX8_setTransition 35 = .ok (.invokestatic 67, 3) := by decide +kernel
theorem dX8_setTransition_38 : decode cX8_setTransition 38 = .ok (.ifCond .eq 21, 3) := by decide +kernel
theorem dX8_setTransition_41 : decode cX8_setTransition 41 = .ok (.iload_n 3, 1) := by decide +kernel
theorem dX8_setTransition_42 : decode cX8_setTransition 42 = .ok (.invokestatic 67, 3) := by decide +kernel
theorem dX8_setTransition_45 : decode cX8_setTransition 45 = .ok (.ifCond .eq 14, 3) := by decide +kernel
theorem dX8_setTransition_48 : decode cX8_setTransition 48 = .ok (.iload 4, 2) := by decide +kernel
theorem dX8_setTransition_50 : decode cX8_setTransition 50 = .ok (.ifCond .eq 13, 3) := by decide +kernel
theorem dX8_setTransition_53 : decode cX8_setTransition 53 = .ok (.iload 4, 2) := by decide +kernel
theorem dX8_setTransition_55 : decode cX8_setTransition 55 = .ok (.iconst 1, 1) := by decide +kernel
theorem dX8_setTransition_56 : decode cX8_setTransition 56 = .ok (.if_icmp .eq 7, 3) := by decide +kernel
theorem dX8_setTransition_59 : decode cX8_setTransition 59 = .ok (.sipush (-1002), 3) := by decide +kernel
theorem dX8_setTransition_62 : decode cX8_setTransition 62 = .ok (.ireturn, 1) := by decide +kernel
theorem dX8_setTransition_63 : decode cX8_setTransition 63 = .ok (.aload_n 0, 1) := by decide +kernel
theorem dX8_setTransition_64 : decode cX8_setTransition 64 = .ok (.getfield 10, 3) := by decide +kernel
theorem dX8_setTransition_67 : decode cX8_setTransition 67 = .ok (.iload_n 1, 1) := by decide +kernel
theorem dX8_setTransition_68 : decode cX8_setTransition 68 = .ok (.iload_n 2, 1) := by decide +kernel
theorem dX8_setTransition_69 : decode cX8_setTransition 69 = .ok (.invokevirtual 70, 3) := by decide +kernel
theorem dX8_setTransition_72 : decode cX8_setTransition 72 = .ok (.ifCond .eq 7, 3) := by decide +kernel
theorem dX8_setTransition_75 : decode cX8_setTransition 75 = .ok (.iconst 1, 1) := by decide +kernel
theorem dX8_setTransition_76 : decode cX8_setTransition 76 = .ok (.goto 4, 3) := by decide +kernel
theorem dX8_setTransition_79 : decode cX8_setTransition 79 = .ok (.iconst 0, 1) := by decide +kernel
theorem dX8_setTransition_80 : decode cX8_setTransition 80 = .ok (.istore 6, 2) := by decide +kernel
theorem dX8_setTransition_82 : decode cX8_setTransition 82 = .ok (.aload_n 0, 1) := by decide +kernel
theorem dX8_setTransition_83 : decode cX8_setTransition 83 = .ok (.getfield 10, 3) := by decide +kernel
theorem dX8_setTransition_86 : decode cX8_setTransition 86 = .ok (.iload_n 1, 1) := by decide +kernel
theorem dX8_setTransition_87 : decode cX8_setTransition 87 = .ok (.iload_n 2, 1) := by decide +kernel
theorem dX8_setTransition_88 : decode cX8_setTransition 88 = .ok (.iload_n 3, 1) := by decide +kernel
theorem dX8_setTransition_89 : decode cX8_setTransition 89 = .ok (.iload 4, 2) := by decide +kernel
theorem dX8_setTransition_91 : decode cX8_setTransition 91 = .ok (.iload 5, 2) := by decide +kernel
theorem dX8_setTransition_93 : decode cX8_setTransition 93 = .ok (.invokevirtual 74, 3) := by decide +kernel
theorem dX8_setTransition_96 : decode cX8_setTransition 96 = .ok (.aload_n 0, 1) := by decide +kernel
theorem dX8_setTransition_97 : decode cX8_setTransition 97 = .ok (.getfield 21, 3) := by decide +kernel
theorem dX8_setTransition_100 : decode cX8_setTransition 100 = .ok (.invokevirtual 60, 3) := by decide +kernel
theorem dX8_setTransition_103 : decode cX8_setTransition 103 = .ok (.iload 6, 2) := by decide +kernel
theorem dX8_setTransition_105 : decode cX8_setTransition 105 = .ok (.ireturn, 1) := by decide +kernel
set_option maxRecDepth 20000 in
theorem ggX8_removeTransition_X8_transitionError : GoodIn wsX8_removeTransition wsX8_transitionError := goodIn_r _ [7, 1, 8, 9, 10, 11, 12, 13, 14, 15, 6, 16, 17, 18, 19, 20, 21, 22, 23, 24, 25, 26, 27, 28, 29, 57, 58, 59, 60, 61, 62, 63, 64, 65, 66] (by decide +kernel) (by decide +kernel)
set_option maxRecDepth 20000 in
theorem gX8_removeTransition_X8_transitionError : GoodIn wsX8_removeTransition (wsV RX8 78 RX8 yX8_transitionError wsX8_transitionError) := goodIn_app (goodIn_of _ (by decide +kernel)) ggX8_removeTransition_X8_transitionError
set_option maxRecDepth 20000 in
theorem ggX8_removeTransition_X5_put : GoodIn wsX8_removeTransition wsX5_put := goodIn_r _ [33, 34, 35, 25, 26, 27, 28, 11, 29, 13, 63, 64, 65, 66] (by decide +kernel) (by decide +kernel)
set_option maxRecDepth 20000 in
theorem gX8_removeTransition_X5_put : GoodIn wsX8_removeTransition (wsV RX8 74 RX5 yX5_put wsX5_put) := goodIn_app (goodIn_of _ (by decide +kernel)) ggX8_removeTransition_X5_put
set_option maxRecDepth 20000 in
theorem ggX8_removeTransition_X2_begin : GoodIn wsX8_removeTransition wsX2_begin := goodIn_r _ [40, 41, 42, 43, 44, 45, 46, 47, 48, 49, 50, 51, 52, 53, 54, 55, 56, 67, 68, 69, 70, 71, 72, 73, 74] (by decide +kernel) (by decide +kernel)
set_option maxRecDepth 20000 in
theorem gX8_removeTransition_X2_begin : GoodIn wsX8_removeTransition (wsV RX8 60 RX2 yX2_begin wsX2_begin) := goodIn_app (goodIn_of _ (by decide +kernel)) ggX8_removeTransition_X2_begin
theorem dX8_removeTransition_0 : decode cX8_removeTransition 0 = .ok (.aload_n 0, 1) := by decide +kernel
theorem dX8_removeTransition_1 : decode cX8_removeTransition 1 = .ok (.iload_n 1, 1) := by decide +kernel
theorem dX8_removeTransition_2 : decode cX8_removeTransition 2 = .ok (.iload_n 2, 1) := by decide +kernel
theorem dX8_removeTransition_3 : decode cX8_removeTransition 3 = .ok (.invokevirtual 78, 3) := by decide +kernel
theorem dX8_removeTransition_6 : decode cX8_removeTransition 6 = .ok (.istore_n 3, 1) := by decide +kernel
theorem dX8_removeTransition_7 : decode cX8_removeTransition 7 = .ok (.iload_n 3, 1) := by decide +kernel
theorem dX8_removeTransition_8 : decode cX8_removeTransition 8 = .ok (.ifCond .eq 5, 3) := by decide +kernel
theorem dX8_removeTransition_11 : decode cX8_removeTransition 11 = .ok (.iload_n 3, 1) := by decide +kernel
theorem dX8_removeTransition_12 : decode cX8_removeTransition 12 = .ok (.ireturn, 1) := by decide +kernel
theorem dX8_removeTransition_13 : decode cX8_removeTransition 13 = .ok (.aload_n 0, 1) := by decide +kernel
theorem dX8_removeTransition_14 : decode cX8_removeTransition 14 = .ok (.getfield 10, 3) := by decide +kernel
theorem dX8_removeTransition_17 : decode cX8_removeTransition 17 = .ok (.iload_n 1, 1) := by decide +kernel
theorem dX8_removeTransition_18 : decode cX8_removeTransition 18 = .ok (.iload_n 2, 1) := by decide +kernel
theorem dX8_removeTransition_19 : decode cX8_removeTransition 19 = .ok (.iconst 0, 1) := by decide +kernel
theorem dX8_removeTransition_20 : decode cX8_removeTransition 20 = .ok (.iconst 0, 1) := by decide +kernel
theorem dX8_removeTransition_21 : decode cX8_removeTransition 21 = .ok (.iconst (-1), 1) := by decide +kernel
theorem dX8_removeTransition_22 : decode cX8_removeTransition 22 = .ok (.invokevirtual 74, 3) := by decide +kernel
theorem dX8_removeTransition_25 : decode cX8_removeTransition 25 = .ok (.aload_n 0, 1) := by decide +kernel
theorem dX8_removeTransition_26 : decode cX8_removeTransition 26 = .ok (.getfield 21, 3) := by decide +kernel
theorem dX8_removeTransition_29 : decode cX8_removeTransition 29 = .ok (.invokevirtual 60, 3) := by decide +kernel
theorem dX8_removeTransition_32 : decode cX8_removeTransition 32 = .ok (.iconst 1, 1) := by decide +kernel
theorem dX8_removeTransition_33 : decode cX8_removeTransition 33 = .ok (.ireturn, 1) := by decide +kernel
set_option maxRecDepth 20000 in
theorem ggX8_writes_X8_transitionError : GoodIn wsX8_writes wsX8_transitionError := goodIn_r _ [6, 1, 7, 8, 9, 10, 11, 12, 13, 14, 5, 15, 16, 17, 18, 19, 20, 21, 22, 23, 24, 25, 26, 27, 28, 34, 35, 36, 37, 38, 39, 40, 41, 42, 43] (by decide +kernel) (by decide +kernel)
set_option maxRecDepth 20000 in
theorem gX8_writes_X8_transitionError : GoodIn wsX8_writes (wsV RX8 78 RX8 yX8_transitionError wsX8_transitionError) := goodIn_app (goodIn_of _ (by decide +kernel)) ggX8_writes_X8_transitionError
set_option maxRecDepth 20000 in
theorem ggX8_writes_X5_writtenBy : GoodIn wsX8_writes wsX5_writtenBy := goodIn_r _ [32, 33, 25, 26, 27, 10, 28, 12, 40, 41, 42, 43] (by decide +kernel) (by decide +kernel)
set_option maxRecDepth 20000 in
theorem gX8_writes_X5_writtenBy : GoodIn wsX8_writes (wsV RX8 82 RX5 yX5_writtenBy wsX5_writtenBy) := goodIn_app (goodIn_of _ (by decide +kernel)) ggX8_writes_X5_writtenBy
theorem dX8_writes_0 : decode cX8_writes 0 = .ok (.aload_n 0, 1) := by decide +kernel
theorem dX8_writes_1 : decode cX8_writes 1 = .ok (.iload_n 1, 1) := by decide +kernel
theorem dX8_writes_2 : decode cX8_writes 2 = .ok (.iload_n 2, 1) := by decide +kernel
theorem dX8_writes_3 : decode cX8_writes 3 = .ok (.invokevirtual 78, 3) := by decide +kernel
theorem dX8_writes_6 : decode cX8_writes 6 = .ok (.istore_n 3, 1) := by decide +kernel
theorem dX8_writes_7 : decode cX8_writes 7 = .ok (.iload_n 3, 1) := by decide +kernel
theorem dX8_writes_8 : decode cX8_writes 8 = .ok (.ifCond .eq 7, 3) := by decide +kernel
theorem dX8_writes_11 : decode cX8_writes 11 = .ok (.iload_n 3, 1) := by decide +kernel
theorem dX8_writes_12 : decode cX8_writes 12 = .ok (.goto 12, 3) := by decide +kernel
theorem dX8_writes_15 : decode cX8_writes 15 = .ok (.aload_n 0, 1) := by decide +kernel
theorem dX8_writes_16 : decode cX8_writes 16 = .ok (.getfield 10, 3) := by decide +kernel
theorem dX8_writes_19 : decode cX8_writes 19 = .ok (.iload_n 1, 1) := by decide +kernel
theorem dX8_writes_20 : decode cX8_writes 20 = .ok (.iload_n 2, 1) := by decide +kernel
theorem dX8_writes_21 : decode cX8_writes 21 = .ok (.invokevirtual 82, 3) := by decide +kernel
theorem dX8_writes_24 : decode cX8_writes 24 = .ok (.ireturn, 1) := by decide +kernel
set_option maxRecDepth 20000 in
theorem ggX8_moves_X8_transitionError : GoodIn wsX8_moves wsX8_transitionError := goodIn_r _ [6, 1, 7, 8, 9, 10, 11, 12, 13, 14, 5, 15, 16, 17, 18, 19, 20, 21, 22, 23, 24, 25, 26, 27, 28, 34, 35, 36, 37, 38, 39, 40, 41, 42, 43] (by decide +kernel) (by decide +kernel)
set_option maxRecDepth 20000 in
theorem gX8_moves_X8_transitionError : GoodIn wsX8_moves (wsV RX8 78 RX8 yX8_transitionError wsX8_transitionError) := goodIn_app (goodIn_of _ (by decide +kernel)) ggX8_moves_X8_transitionError
set_option maxRecDepth 20000 in
theorem ggX8_moves_X5_moveOf : GoodIn wsX8_moves wsX5_moveOf := goodIn_r _ [32, 33, 25, 26, 27, 10, 28, 12, 40, 41, 42, 43] (by decide +kernel) (by decide +kernel)
set_option maxRecDepth 20000 in
theorem gX8_moves_X5_moveOf : GoodIn wsX8_moves (wsV RX8 85 RX5 yX5_moveOf wsX5_moveOf) := goodIn_app (goodIn_of _ (by decide +kernel)) ggX8_moves_X5_moveOf
theorem dX8_moves_0 : decode cX8_moves 0 = .ok (.aload_n 0, 1) := by decide +kernel
theorem dX8_moves_1 : decode cX8_moves 1 = .ok (.iload_n 1, 1) := by decide +kernel
theorem dX8_moves_2 : decode cX8_moves 2 = .ok (.iload_n 2, 1) := by decide +kernel
theorem dX8_moves_3 : decode cX8_moves 3 = .ok (.invokevirtual 78, 3) := by decide +kernel
theorem dX8_moves_6 : decode cX8_moves 6 = .ok (.istore_n 3, 1) := by decide +kernel
theorem dX8_moves_7 : decode cX8_moves 7 = .ok (.iload_n 3, 1) := by decide +kernel
theorem dX8_moves_8 : decode cX8_moves 8 = .ok (.ifCond .eq 7, 3) := by decide +kernel
theorem dX8_moves_11 : decode cX8_moves 11 = .ok (.iload_n 3, 1) := by decide +kernel
theorem dX8_moves_12 : decode cX8_moves 12 = .ok (.goto 12, 3) := by decide +kernel
theorem dX8_moves_15 : decode cX8_moves 15 = .ok (.aload_n 0, 1) := by decide +kernel
theorem dX8_moves_16 : decode cX8_moves 16 = .ok (.getfield 10, 3) := by decide +kernel
theorem dX8_moves_19 : decode cX8_moves 19 = .ok (.iload_n 1, 1) := by decide +kernel
theorem dX8_moves_20 : decode cX8_moves 20 = .ok (.iload_n 2, 1) := by decide +kernel
theorem dX8_moves_21 : decode cX8_moves 21 = .ok (.invokevirtual 85, 3) := by decide +kernel
theorem dX8_moves_24 : decode cX8_moves 24 = .ok (.ireturn, 1) := by decide +kernel
set_option maxRecDepth 20000 in
theorem ggX8_next_X8_transitionError : GoodIn wsX8_next wsX8_transitionError := goodIn_r _ [6, 1, 7, 8, 9, 10, 11, 12, 13, 14, 5, 15, 16, 17, 18, 19, 20, 21, 22, 23, 24, 25, 26, 27, 28, 30, 31, 32, 33, 34, 35, 36, 37, 38, 39] (by decide +kernel) (by decide +kernel)
set_option maxRecDepth 20000 in
theorem gX8_next_X8_transitionError : GoodIn wsX8_next (wsV RX8 78 RX8 yX8_transitionError wsX8_transitionError) := goodIn_app (goodIn_of _ (by decide +kernel)) ggX8_next_X8_transitionError
set_option maxRecDepth 20000 in
theorem ggX8_next_X5_nextOf : GoodIn wsX8_next wsX5_nextOf := goodIn_r _ [23, 24, 25, 26, 27, 10, 28, 12, 36, 37, 38, 39] (by decide +kernel) (by decide +kernel)
set_option maxRecDepth 20000 in
theorem gX8_next_X5_nextOf : GoodIn wsX8_next (wsV RX8 88 RX5 yX5_nextOf wsX5_nextOf) := goodIn_app (goodIn_of _ (by decide +kernel)) ggX8_next_X5_nextOf
theorem dX8_next_0 : decode cX8_next 0 = .ok (.aload_n 0, 1) := by decide +kernel
theorem dX8_next_1 : decode cX8_next 1 = .ok (.iload_n 1, 1) := by decide +kernel
theorem dX8_next_2 : decode cX8_next 2 = .ok (.iload_n 2, 1) := by decide +kernel
theorem dX8_next_3 : decode cX8_next 3 = .ok (.invokevirtual 78, 3) := by decide +kernel
theorem dX8_next_6 : decode cX8_next 6 = .ok (.istore_n 3, 1) := by decide +kernel
theorem dX8_next_7 : decode cX8_next 7 = .ok (.iload_n 3, 1) := by decide +kernel
theorem dX8_next_8 : decode cX8_next 8 = .ok (.ifCond .eq 7, 3) := by decide +kernel
theorem dX8_next_11 : decode cX8_next 11 = .ok (.iload_n 3, 1) := by decide +kernel
theorem dX8_next_12 : decode cX8_next 12 = .ok (.goto 12, 3) := by decide +kernel
theorem dX8_next_15 : decode cX8_next 15 = .ok (.aload_n 0, 1) := by decide +kernel
theorem dX8_next_16 : decode cX8_next 16 = .ok (.getfield 10, 3) := by decide +kernel
theorem dX8_next_19 : decode cX8_next 19 = .ok (.iload_n 1, 1) := by decide +kernel
theorem dX8_next_20 : decode cX8_next 20 = .ok (.iload_n 2, 1) := by decide +kernel
theorem dX8_next_21 : decode cX8_next 21 = .ok (.invokevirtual 88, 3) := by decide +kernel
theorem dX8_next_24 : decode cX8_next 24 = .ok (.ireturn, 1) := by decide +kernel
set_option maxRecDepth 20000 in
theorem ggX8_type_X7_append : GoodIn wsX8_type wsX7_append := goodIn_r _ [6, 7, 8, 15, 16] (by decide +kernel) (by decide +kernel)
set_option maxRecDepth 20000 in
theorem gX8_type_X7_append : GoodIn wsX8_type (wsV RX8 91 RX7 yX7_append wsX7_append) := goodIn_app (goodIn_of _ (by decide +kernel)) ggX8_type_X7_append
theorem dX8_type_0 : decode cX8_type 0 = .ok (.iload_n 1, 1) := by decide +kernel
theorem dX8_type_1 : decode cX8_type 1 = .ok (.bipush 33, 2) := by decide +kernel
theorem dX8_type_3 : decode cX8_type 3 = .ok (.if_icmp .lt 9, 3) := by decide +kernel
theorem dX8_type_6 : decode cX8_type 6 = .ok (.iload_n 1, 1) := by decide +kernel
theorem dX8_type_7 : decode cX8_type 7 = .ok (.bipush 126, 2) := by decide +kernel
theorem dX8_type_9 : decode cX8_type 9 = .ok (.if_icmp .le 7, 3) := by decide +kernel
theorem dX8_type_12 : decode cX8_type 12 = .ok (.sipush (-1002), 3) := by decide +kernel
theorem dX8_type_15 : decode cX8_type 15 = .ok (.ireturn, 1) := by decide +kernel
theorem dX8_type_16 : decode cX8_type 16 = .ok (.aload_n 0, 1) := by decide +kernel
theorem dX8_type_17 : decode cX8_type 17 = .ok (.getfield 28, 3) := by decide +kernel
theorem dX8_type_20 : decode cX8_type 20 = .ok (.iload_n 1, 1) := by decide +kernel
theorem dX8_type_21 : decode cX8_type 21 = .ok (.invokevirtual 91, 3) := by decide +kernel
theorem dX8_type_24 : decode cX8_type 24 = .ok (.ifCond .eq 13, 3) := by decide +kernel
theorem dX8_type_27 : decode cX8_type 27 = .ok (.aload_n 0, 1) := by decide +kernel
theorem dX8_type_28 : decode cX8_type 28 = .ok (.getfield 28, 3) := by decide +kernel
theorem dX8_type_31 : decode cX8_type 31 = .ok (.getfield 94, 3) := by decide +kernel
theorem dX8_type_34 : decode cX8_type 34 = .ok (.goto 6, 3) := by decide +kernel
theorem dX8_type_37 : decode cX8_type 37 = .ok (.sipush (-1006), 3) := by decide +kernel
theorem dX8_type_40 : decode cX8_type 40 = .ok (.ireturn, 1) := by decide +kernel
set_option maxRecDepth 20000 in
theorem ggX8_load_X7_firstWrong : GoodIn wsX8_load wsX7_firstWrong := goodIn_r _ [8, 9, 10, 11, 7, 12, 13, 14, 15, 16, 17, 18, 19, 20, 21, 22, 23, 24, 25, 26, 27, 28, 29, 30, 31, 32, 33, 98, 99] (by decide +kernel) (by decide +kernel)
set_option maxRecDepth 20000 in
theorem gX8_load_X7_firstWrong : GoodIn wsX8_load (wsV RX8 97 RX7 yX7_firstWrong wsX7_firstWrong) := goodIn_app (goodIn_of _ (by decide +kernel)) ggX8_load_X7_firstWrong
set_option maxRecDepth 20000 in
theorem ggX8_load_X7_rowCount : GoodIn wsX8_load wsX7_rowCount := goodIn_r _ [33, 13, 98, 99] (by decide +kernel) (by decide +kernel)
set_option maxRecDepth 20000 in
theorem gX8_load_X7_rowCount : GoodIn wsX8_load (wsV RX8 101 RX7 yX7_rowCount wsX7_rowCount) := goodIn_app (goodIn_of _ (by decide +kernel)) ggX8_load_X7_rowCount
set_option maxRecDepth 20000 in
theorem ggX8_load_X5_copyFrom : GoodIn wsX8_load wsX5_copyFrom := goodIn_r _ [39, 40, 41, 31, 32, 7, 33, 13, 42, 43, 44, 38, 45, 46, 47, 48, 49, 50, 51, 52, 53, 54, 55, 56, 57, 58, 59, 19, 20, 21, 22, 60, 61, 62, 63, 64, 65, 66, 67, 68, 69, 100, 101, 102, 103, 98, 99] (by decide +kernel) (by decide +kernel)
set_option maxRecDepth 20000 in
theorem gX8_load_X5_copyFrom : GoodIn wsX8_load (wsV RX8 104 RX5 yX5_copyFrom wsX5_copyFrom) := goodIn_app (goodIn_of _ (by decide +kernel)) ggX8_load_X5_copyFrom
set_option maxRecDepth 20000 in
theorem ggX8_load_X2_begin : GoodIn wsX8_load wsX2_begin := goodIn_r _ [74, 75, 76, 77, 78, 79, 80, 81, 82, 83, 84, 85, 86, 87, 52, 53, 54, 104, 105, 106, 107, 108, 109, 110, 111] (by decide +kernel) (by decide +kernel)
set_option maxRecDepth 20000 in
theorem gX8_load_X2_begin : GoodIn wsX8_load (wsV RX8 60 RX2 yX2_begin wsX2_begin) := goodIn_app (goodIn_of _ (by decide +kernel)) ggX8_load_X2_begin
set_option maxRecDepth 20000 in
theorem ggX8_load_X7_clear : GoodIn wsX8_load wsX7_clear := goodIn_r _ [91, 13, 98, 99] (by decide +kernel) (by decide +kernel)
set_option maxRecDepth 20000 in
theorem gX8_load_X7_clear : GoodIn wsX8_load (wsV RX8 108 RX7 yX7_clear wsX7_clear) := goodIn_app (goodIn_of _ (by decide +kernel)) ggX8_load_X7_clear
theorem dX8_load_0 : decode cX8_load 0 = .ok (.aload_n 0, 1) := by decide +kernel
theorem dX8_load_1 : decode cX8_load 1 = .ok (.getfield 28, 3) := by decide +kernel
theorem dX8_load_4 : decode cX8_load 4 = .ok (.invokevirtual 97, 3) := by decide +kernel
theorem dX8_load_7 : decode cX8_load 7 = .ok (.istore_n 1, 1) := by decide +kernel
theorem dX8_load_8 : decode cX8_load 8 = .ok (.iload_n 1, 1) := by decide +kernel
theorem dX8_load_9 : decode cX8_load 9 = .ok (.iconst (-1), 1) := by decide +kernel
theorem dX8_load_10 : decode cX8_load 10 = .ok (.if_icmp .ne 13, 3) := by decide +kernel
theorem dX8_load_13 : decode cX8_load 13 = .ok (.aload_n 0, 1) := by decide +kernel
theorem dX8_load_14 : decode cX8_load 14 = .ok (.getfield 28, 3) := by decide +kernel
theorem dX8_load_17 : decode cX8_load 17 = .ok (.invokevirtual 101, 3) := by decide +kernel
theorem dX8_load_20 : decode cX8_load 20 = .ok (.goto 6, 3) := by decide +kernel
theorem dX8_load_23 : decode cX8_load 23 = .ok (.iconst (-1), 1) := by decide +kernel
theorem dX8_load_24 : decode cX8_load 24 = .ok (.iload_n 1, 1) := by decide +kernel
theorem dX8_load_25 : decode cX8_load 25 = .ok (.isub, 1) := by decide +kernel
theorem dX8_load_26 : decode cX8_load 26 = .ok (.istore_n 2, 1) := by decide +kernel
theorem dX8_load_27 : decode cX8_load 27 = .ok (.iload_n 1, 1) := by decide +kernel
theorem dX8_load_28 : decode cX8_load 28 = .ok (.iconst (-1), 1) := by decide +kernel
theorem dX8_load_29 : decode cX8_load 29 = .ok (.if_icmp .ne 21, 3) := by decide +kernel
theorem dX8_load_32 : decode cX8_load 32 = .ok (.aload_n 0, 1) := by decide +kernel
theorem dX8_load_33 : decode cX8_load 33 = .ok (.getfield 10, 3) := by decide +kernel
theorem dX8_load_36 : decode cX8_load 36 = .ok (.aload_n 0, 1) := by decide +kernel
theorem dX8_load_37 : decode cX8_load 37 = .ok (.getfield 28, 3) := by decide +kernel
theorem dX8_load_40 : decode cX8_load 40 = .ok (.invokevirtual 104, 3) := by decide +kernel
theorem dX8_load_43 : decode cX8_load 43 = .ok (.aload_n 0, 1) := by decide +kernel
theorem dX8_load_44 : decode cX8_load 44 = .ok (.getfield 21, 3) := by decide +kernel
theorem dX8_load_47 : decode cX8_load 47 = .ok (.invokevirtual 60, 3) := by decide +kernel
theorem dX8_load_50 : decode cX8_load 50 = .ok (.aload_n 0, 1) := by decide +kernel
theorem dX8_load_51 : decode cX8_load 51 = .ok (.getfield 28, 3) := by decide +kernel
theorem dX8_load_54 : decode cX8_load 54 = .ok (.invokevirtual 108, 3) := by decide +kernel
theorem dX8_load_57 : decode cX8_load 57 = .ok (.iload_n 2, 1) := by decide +kernel
theorem dX8_load_58 : decode cX8_load 58 = .ok (.ireturn, 1) := by decide +kernel
set_option maxRecDepth 20000 in
theorem ggX8_textAt_X5_characterAt : GoodIn wsX8_textAt wsX5_characterAt := goodIn_r _ [6, 7, 8, 9, 5, 10, 11, 12, 13, 14, 15, 16, 17, 18, 19, 20, 21, 22, 23, 24, 25, 26, 27, 28, 29, 30, 37, 38, 39, 40] (by decide +kernel) (by decide +kernel)
set_option maxRecDepth 20000 in
theorem gX8_textAt_X5_characterAt : GoodIn wsX8_textAt (wsV RX8 111 RX5 yX5_characterAt wsX5_characterAt) := goodIn_app (goodIn_of _ (by decide +kernel)) ggX8_textAt_X5_characterAt
theorem dX8_textAt_0 : decode cX8_textAt 0 = .ok (.iload_n 1, 1) := by decide +kernel
theorem dX8_textAt_1 : decode cX8_textAt 1 = .ok (.ifCond .lt 19, 3) := by decide +kernel
theorem dX8_textAt_4 : decode cX8_textAt 4 = .ok (.iload_n 1, 1) := by decide +kernel
theorem dX8_textAt_5 : decode cX8_textAt 5 = .ok (.bipush 7, 2) := by decide +kernel
theorem dX8_textAt_7 : decode cX8_textAt 7 = .ok (.aload_n 0, 1) := by decide +kernel
theorem dX8_textAt_8 : decode cX8_textAt 8 = .ok (.getfield 10, 3) := by decide +kernel
theorem dX8_textAt_11 : decode cX8_textAt 11 = .ok (.getfield 53, 3) := by decide +kernel
theorem dX8_textAt_14 : decode cX8_textAt 14 = .ok (.imul, 1) := by decide +kernel
theorem dX8_textAt_15 : decode cX8_textAt 15 = .ok (.iconst 1, 1) := by decide +kernel
theorem dX8_textAt_16 : decode cX8_textAt 16 = .ok (.isub, 1) := by decide +kernel
theorem dX8_textAt_17 : decode cX8_textAt 17 = .ok (.if_icmp .lt 7, 3) := by decide +kernel
theorem dX8_textAt_20 : decode cX8_textAt 20 = .ok (.sipush (-1005), 3) := by decide +kernel
theorem dX8_textAt_23 : decode cX8_textAt 23 = .ok (.ireturn, 1) := by decide +kernel
theorem dX8_textAt_24 : decode cX8_textAt 24 = .ok (.aload_n 0, 1) := by decide +kernel
theorem dX8_textAt_25 : decode cX8_textAt 25 = .ok (.getfield 10, 3) := by decide +kernel
theorem dX8_textAt_28 : decode cX8_textAt 28 = .ok (.iload_n 1, 1) := by decide +kernel
theorem dX8_textAt_29 : decode cX8_textAt 29 = .ok (.bipush 7, 2) := by decide +kernel
theorem dX8_textAt_31 : decode cX8_textAt 31 = .ok (.idiv, 1) := by decide +kernel
theorem dX8_textAt_32 : decode cX8_textAt 32 = .ok (.iload_n 1, 1) := by decide +kernel
theorem dX8_textAt_33 : decode cX8_textAt 33 = .ok (.bipush 7, 2) := by decide +kernel
theorem dX8_textAt_35 : decode cX8_textAt 35 = .ok (.irem, 1) := by decide +kernel
theorem dX8_textAt_36 : decode cX8_textAt 36 = .ok (.invokevirtual 111, 3) := by decide +kernel
theorem dX8_textAt_39 : decode cX8_textAt 39 = .ok (.ireturn, 1) := by decide +kernel
set_option maxRecDepth 20000 in
theorem ggX8_restart_X2_begin : GoodIn wsX8_restart wsX2_begin := goodIn_r _ [6, 7, 8, 9, 10, 11, 12, 13, 14, 15, 16, 17, 18, 19, 20, 21, 22, 29, 30, 31, 32, 33, 34, 35, 36] (by decide +kernel) (by decide +kernel)
set_option maxRecDepth 20000 in
theorem gX8_restart_X2_begin : GoodIn wsX8_restart (wsV RX8 60 RX2 yX2_begin wsX2_begin) := goodIn_app (goodIn_of _ (by decide +kernel)) ggX8_restart_X2_begin
theorem dX8_restart_0 : decode cX8_restart 0 = .ok (.aload_n 0, 1) := by decide +kernel
theorem dX8_restart_1 : decode cX8_restart 1 = .ok (.getfield 21, 3) := by decide +kernel
theorem dX8_restart_4 : decode cX8_restart 4 = .ok (.getfield 114, 3) := by decide +kernel
theorem dX8_restart_7 : decode cX8_restart 7 = .ok (.istore_n 1, 1) := by decide +kernel
theorem dX8_restart_8 : decode cX8_restart 8 = .ok (.aload_n 0, 1) := by decide +kernel
theorem dX8_restart_9 : decode cX8_restart 9 = .ok (.getfield 21, 3) := by decide +kernel
theorem dX8_restart_12 : decode cX8_restart 12 = .ok (.invokevirtual 60, 3) := by decide +kernel
theorem dX8_restart_15 : decode cX8_restart 15 = .ok (.iload_n 1, 1) := by decide +kernel
theorem dX8_restart_16 : decode cX8_restart 16 = .ok (.ireturn, 1) := by decide +kernel
set_option maxRecDepth 20000 in
theorem ggX8_step_X2_isOver : GoodIn wsX8_step wsX2_isOver := goodIn_r _ [7, 8, 9, 10, 11, 12, 13, 14, 15, 16, 17, 18, 19, 20, 21, 22, 23, 24, 25, 26, 27, 28, 29, 30, 31, 32, 33, 34, 35, 71, 72, 73, 74, 75, 76, 77, 78, 79, 80, 81, 82] (by decide +kernel) (by decide +kernel)
set_option maxRecDepth 20000 in
theorem gX8_step_X2_isOver : GoodIn wsX8_step (wsV RX8 117 RX2 yX2_isOver wsX2_isOver) := goodIn_app (goodIn_of _ (by decide +kernel)) ggX8_step_X2_isOver
set_option maxRecDepth 20000 in
theorem ggX8_step_X2_advance : GoodIn wsX8_step wsX2_advance := goodIn_r _ [39, 9, 10, 8, 40, 41, 42, 43, 44, 45, 46, 47, 48, 49, 11, 12, 13, 14, 15, 16, 17, 18, 19, 20, 50, 51, 52, 24, 53, 54, 31, 32, 33, 34, 35, 55, 56, 57, 58, 59, 60, 61, 62, 63, 64, 27, 28, 29, 30, 71, 72, 73, 74, 75, 76, 77, 78, 79, 80, 81, 82] (by decide +kernel) (by decide +kernel)
set_option maxRecDepth 20000 in
theorem gX8_step_X2_advance : GoodIn wsX8_step (wsV RX8 121 RX2 yX2_advance wsX2_advance) := goodIn_app (goodIn_of _ (by decide +kernel)) ggX8_step_X2_advance
theorem dX8_step_0 : decode cX8_step 0 = .ok (.iload_n 1, 1) := by decide +kernel
theorem dX8_step_1 : decode cX8_step 1 = .ok (.iconst 1, 1) := by decide +kernel
theorem dX8_step_2 : decode cX8_step 2 = .ok (.if_icmp .lt 25, 3) := by decide +kernel
theorem dX8_step_5 : decode cX8_step 5 = .ok (.iload_n 1, 1) := by decide +kernel
theorem dX8_step_6 : decode cX8_step 6 = .ok (.sipush 1000, 3) := by decide +kernel
theorem dX8_step_9 : decode cX8_step 9 = .ok (.if_icmp .gt 18, 3) := by decide +kernel
theorem dX8_step_12 : decode cX8_step 12 = .ok (.aload_n 0, 1) := by decide +kernel
theorem dX8_step_13 : decode cX8_step 13 = .ok (.getfield 21, 3) := by decide +kernel
theorem dX8_step_16 : decode cX8_step 16 = .ok (.getfield 114, 3) := by decide +kernel
theorem dX8_step_19 : decode cX8_step 19 = .ok (.iload_n 1, 1) := by decide +kernel
theorem dX8_step_20 : decode cX8_step 20 = .ok (.iadd, 1) := by decide +kernel
theorem dX8_step_21 : decode cX8_step 21 = .ok (.sipush 5000, 3) := by decide +kernel
theorem dX8_step_24 : decode cX8_step 24 = .ok (.if_icmp .le 7, 3) := by decide +kernel
theorem dX8_step_27 : decode cX8_step 27 = .ok (.sipush (-1002), 3) := by decide +kernel
theorem dX8_step_30 : decode cX8_step 30 = .ok (.ireturn, 1) := by decide +kernel
theorem dX8_step_31 : decode cX8_step 31 = .ok (.aload_n 0, 1) := by decide +kernel
theorem dX8_step_32 : decode cX8_step 32 = .ok (.getfield 21, 3) := by decide +kernel
theorem dX8_step_35 : decode cX8_step 35 = .ok (.aload_n 0, 1) := by decide +kernel
theorem dX8_step_36 : decode cX8_step 36 = .ok (.getfield 10, 3) := by decide +kernel
theorem dX8_step_39 : decode cX8_step 39 = .ok (.invokevirtual 117, 3) := by decide +kernel
theorem dX8_step_42 : decode cX8_step 42 = .ok (.ifCond .eq 7, 3) := by decide +kernel
theorem dX8_step_45 : decode cX8_step 45 = .ok (.sipush (-1004), 3) := by decide +kernel
theorem dX8_step_48 : decode cX8_step 48 = .ok (.ireturn, 1) := by decide +kernel
theorem dX8_step_49 : decode cX8_step 49 = .ok (.iconst 0, 1) := by decide +kernel
theorem dX8_step_50 : decode cX8_step 50 = .ok (.istore_n 2, 1) := by decide +kernel
theorem dX8_step_51 : decode cX8_step 51 = .ok (.iload_n 2, 1) := by decide +kernel
theorem dX8_step_52 : decode cX8_step 52 = .ok (.iload_n 1, 1) := by decide +kernel
theorem dX8_step_53 : decode cX8_step 53 = .ok (.if_icmp .ge 34, 3) := by decide +kernel
theorem dX8_step_56 : decode cX8_step 56 = .ok (.aload_n 0, 1) := by decide +kernel
theorem dX8_step_57 : decode cX8_step 57 = .ok (.getfield 21, 3) := by decide +kernel
theorem dX8_step_60 : decode cX8_step 60 = .ok (.aload_n 0, 1) := by decide +kernel
theorem dX8_step_61 : decode cX8_step 61 = .ok (.getfield 10, 3) := by decide +kernel
theorem dX8_step_64 : decode cX8_step 64 = .ok (.invokevirtual 117, 3) := by decide +kernel
theorem dX8_step_67 : decode cX8_step 67 = .ok (.ifCond .ne 20, 3) := by decide +kernel
theorem dX8_step_70 : decode cX8_step 70 = .ok (.aload_n 0, 1) := by decide +kernel
theorem dX8_step_71 : decode cX8_step 71 = .ok (.getfield 21, 3) := by decide +kernel
theorem dX8_step_74 : decode cX8_step 74 = .ok (.aload_n 0, 1) := by decide +kernel
theorem dX8_step_75 : decode cX8_step 75 = .ok (.getfield 10, 3) := by decide +kernel
theorem dX8_step_78 : decode cX8_step 78 = .ok (.invokevirtual 121, 3) := by decide +kernel
theorem dX8_step_81 : decode cX8_step 81 = .ok (.iinc 2 1, 3) := by decide +kernel
theorem dX8_step_84 : decode cX8_step 84 = .ok (.goto (-33), 3) := by decide +kernel
theorem dX8_step_87 : decode cX8_step 87 = .ok (.iload_n 2, 1) := by decide +kernel
theorem dX8_step_88 : decode cX8_step 88 = .ok (.ireturn, 1) := by decide +kernel
theorem dX8_time_0 : decode cX8_time 0 = .ok (.aload_n 0, 1) := by decide +kernel
theorem dX8_time_1 : decode cX8_time 1 = .ok (.getfield 21, 3) := by decide +kernel
theorem dX8_time_4 : decode cX8_time 4 = .ok (.getfield 114, 3) := by decide +kernel
theorem dX8_time_7 : decode cX8_time 7 = .ok (.ireturn, 1) := by decide +kernel
theorem dX8_state_0 : decode cX8_state 0 = .ok (.aload_n 0, 1) := by decide +kernel
theorem dX8_state_1 : decode cX8_state 1 = .ok (.getfield 21, 3) := by decide +kernel
theorem dX8_state_4 : decode cX8_state 4 = .ok (.getfield 125, 3) := by decide +kernel
theorem dX8_state_7 : decode cX8_state 7 = .ok (.ireturn, 1) := by decide +kernel
set_option maxRecDepth 20000 in
theorem ggX8_halted_X2_isOver : GoodIn wsX8_halted wsX2_isOver := goodIn_r _ [7, 8, 9, 10, 11, 12, 13, 14, 15, 16, 17, 18, 19, 20, 21, 22, 23, 24, 25, 26, 27, 28, 29, 30, 31, 32, 33, 34, 35, 42, 43, 44, 45, 46, 47, 48, 49, 50, 51, 52, 53] (by decide +kernel) (by decide +kernel)
set_option maxRecDepth 20000 in
theorem gX8_halted_X2_isOver : GoodIn wsX8_halted (wsV RX8 117 RX2 yX2_isOver wsX2_isOver) := goodIn_app (goodIn_of _ (by decide +kernel)) ggX8_halted_X2_isOver
theorem dX8_halted_0 : decode cX8_halted 0 = .ok (.aload_n 0, 1) := by decide +kernel
theorem dX8_halted_1 : decode cX8_halted 1 = .ok (.getfield 21, 3) := by decide +kernel
theorem dX8_halted_4 : decode cX8_halted 4 = .ok (.aload_n 0, 1) := by decide +kernel
theorem dX8_halted_5 : decode cX8_halted 5 = .ok (.getfield 10, 3) := by decide +kernel
theorem dX8_halted_8 : decode cX8_halted 8 = .ok (.invokevirtual 117, 3) := by decide +kernel
theorem dX8_halted_11 : decode cX8_halted 11 = .ok (.ireturn, 1) := by decide +kernel
theorem dX8_head_0 : decode cX8_head 0 = .ok (.aload_n 0, 1) := by decide +kernel
theorem dX8_head_1 : decode cX8_head 1 = .ok (.getfield 21, 3) := by decide +kernel
theorem dX8_head_4 : decode cX8_head 4 = .ok (.getfield 128, 3) := by decide +kernel
theorem dX8_head_7 : decode cX8_head 7 = .ok (.ireturn, 1) := by decide +kernel
set_option maxRecDepth 20000 in
theorem ggX8_cell_X6_read : GoodIn wsX8_cell wsX6_read := goodIn_r _ [6, 7, 8, 9, 10, 5, 11, 24, 25] (by decide +kernel) (by decide +kernel)
set_option maxRecDepth 20000 in
theorem gX8_cell_X6_read : GoodIn wsX8_cell (wsV RX8 135 RX6 yX6_read wsX6_read) := goodIn_app (goodIn_of _ (by decide +kernel)) ggX8_cell_X6_read
theorem dX8_cell_0 : decode cX8_cell 0 = .ok (.aload_n 0, 1) := by decide +kernel
theorem dX8_cell_1 : decode cX8_cell 1 = .ok (.getfield 21, 3) := by decide +kernel
theorem dX8_cell_4 : decode cX8_cell 4 = .ok (.getfield 131, 3) := by decide +kernel
theorem dX8_cell_7 : decode cX8_cell 7 = .ok (.iload_n 1, 1) := by decide +kernel
theorem dX8_cell_8 : decode cX8_cell 8 = .ok (.invokevirtual 135, 3) := by decide +kernel
theorem dX8_cell_11 : decode cX8_cell 11 = .ok (.ireturn, 1) := by decide +kernel
set_option maxRecDepth 20000 in
theorem ggX8_ones_X6_countOnes : GoodIn wsX8_ones wsX6_countOnes := goodIn_r _ [6, 7, 8, 9, 10, 11, 12, 13, 14, 27, 28] (by decide +kernel) (by decide +kernel)
set_option maxRecDepth 20000 in
theorem gX8_ones_X6_countOnes : GoodIn wsX8_ones (wsV RX8 141 RX6 yX6_countOnes wsX6_countOnes) := goodIn_app (goodIn_of _ (by decide +kernel)) ggX8_ones_X6_countOnes
theorem dX8_ones_0 : decode cX8_ones 0 = .ok (.aload_n 0, 1) := by decide +kernel
theorem dX8_ones_1 : decode cX8_ones 1 = .ok (.getfield 21, 3) := by decide +kernel
theorem dX8_ones_4 : decode cX8_ones 4 = .ok (.getfield 131, 3) := by decide +kernel
theorem dX8_ones_7 : decode cX8_ones 7 = .ok (.invokevirtual 141, 3) := by decide +kernel
theorem dX8_ones_10 : decode cX8_ones 10 = .ok (.ireturn, 1) := by decide +kernel
theorem dX8_visited_0 : decode cX8_visited 0 = .ok (.aload_n 0, 1) := by decide +kernel
theorem dX8_visited_1 : decode cX8_visited 1 = .ok (.getfield 21, 3) := by decide +kernel
theorem dX8_visited_4 : decode cX8_visited 4 = .ok (.getfield 144, 3) := by decide +kernel
theorem dX8_visited_7 : decode cX8_visited 7 = .ok (.aload_n 0, 1) := by decide +kernel
theorem dX8_visited_8 : decode cX8_visited 8 = .ok (.getfield 21, 3) := by decide +kernel
theorem dX8_visited_11 : decode cX8_visited 11 = .ok (.getfield 147, 3) := by decide +kernel
theorem dX8_visited_14 : decode cX8_visited 14 = .ok (.isub, 1) := by decide +kernel
theorem dX8_visited_15 : decode cX8_visited 15 = .ok (.iconst 1, 1) := by decide +kernel
theorem dX8_visited_16 : decode cX8_visited 16 = .ok (.iadd, 1) := by decide +kernel
theorem dX8_visited_17 : decode cX8_visited 17 = .ok (.ireturn, 1) := by decide +kernel
set_option maxRecDepth 20000 in
theorem ggX8_haltingTime_X8_isLimit : GoodIn wsX8_haltingTime wsX8_isLimit := goodIn_r _ [6] (by decide +kernel) (by decide +kernel)
set_option maxRecDepth 20000 in
theorem gX8_haltingTime_X8_isLimit : GoodIn wsX8_haltingTime (va_wsS RX8 150 yX8_isLimit wsX8_isLimit) := goodIn_app (goodIn_of _ (by decide +kernel)) ggX8_haltingTime_X8_isLimit
set_option maxRecDepth 20000 in
theorem ggX8_haltingTime_X3_record : GoodIn wsX8_haltingTime wsX3_record := goodIn_r _ [11, 12, 13, 14, 15, 16, 17, 18, 19, 20, 21, 22, 23, 24, 25, 26, 27, 28, 29, 30, 31, 32, 33, 34, 35, 36, 37, 38, 39, 40, 41, 42, 10, 43, 44, 45, 46, 47, 48, 49, 50, 51, 52, 53, 54, 55, 56, 57, 58, 59, 60, 61, 62, 63, 64, 65, 66, 67, 68, 69, 70, 71, 72, 73, 74, 75, 76, 77, 78, 79, 80, 81, 82, 83, 84, 85, 86, 87, 88, 89, 90, 91, 92, 93, 94, 95, 96, 97, 98, 105, 106, 107, 108, 109, 110, 111, 112, 113, 114, 115, 116, 117, 118, 119, 120, 121, 122, 123, 124, 125, 126] (by decide +kernel) (by decide +kernel)
set_option maxRecDepth 20000 in
theorem gX8_haltingTime_X3_record : GoodIn wsX8_haltingTime (wsV RX8 153 RX3 yX3_record wsX3_record) := goodIn_app (goodIn_of _ (by decide +kernel)) ggX8_haltingTime_X3_record
theorem dX8_haltingTime_0 : decode cX8_haltingTime 0 = .ok (.iload_n 1, 1) := by decide +kernel
theorem dX8_haltingTime_1 : decode cX8_haltingTime 1 = .ok (.invokestatic 150, 3) := by decide +kernel
theorem dX8_haltingTime_4 : decode cX8_haltingTime 4 = .ok (.ifCond .ne 7, 3) := by decide +kernel
theorem dX8_haltingTime_7 : decode cX8_haltingTime 7 = .ok (.sipush (-1002), 3) := by decide +kernel
theorem dX8_haltingTime_10 : decode cX8_haltingTime 10 = .ok (.ireturn, 1) := by decide +kernel
theorem dX8_haltingTime_11 : decode cX8_haltingTime 11 = .ok (.aload_n 0, 1) := by decide +kernel
theorem dX8_haltingTime_12 : decode cX8_haltingTime 12 = .ok (.getfield 35, 3) := by decide +kernel
theorem dX8_haltingTime_15 : decode cX8_haltingTime 15 = .ok (.aload_n 0, 1) := by decide +kernel
theorem dX8_haltingTime_16 : decode cX8_haltingTime 16 = .ok (.getfield 10, 3) := by decide +kernel
theorem dX8_haltingTime_19 : decode cX8_haltingTime 19 = .ok (.iload_n 1, 1) := by decide +kernel
theorem dX8_haltingTime_20 : decode cX8_haltingTime 20 = .ok (.invokevirtual 153, 3) := by decide +kernel
theorem dX8_haltingTime_23 : decode cX8_haltingTime 23 = .ok (.aload_n 0, 1) := by decide +kernel
theorem dX8_haltingTime_24 : decode cX8_haltingTime 24 = .ok (.getfield 35, 3) := by decide +kernel
theorem dX8_haltingTime_27 : decode cX8_haltingTime 27 = .ok (.getfield 157, 3) := by decide +kernel
theorem dX8_haltingTime_30 : decode cX8_haltingTime 30 = .ok (.ifCond .eq 13, 3) := by decide +kernel
theorem dX8_haltingTime_33 : decode cX8_haltingTime 33 = .ok (.aload_n 0, 1) := by decide +kernel
theorem dX8_haltingTime_34 : decode cX8_haltingTime 34 = .ok (.getfield 35, 3) := by decide +kernel
theorem dX8_haltingTime_37 : decode cX8_haltingTime 37 = .ok (.getfield 161, 3) := by decide +kernel
theorem dX8_haltingTime_40 : decode cX8_haltingTime 40 = .ok (.goto 6, 3) := by decide +kernel
theorem dX8_haltingTime_43 : decode cX8_haltingTime 43 = .ok (.sipush (-1005), 3) := by decide +kernel
theorem dX8_haltingTime_46 : decode cX8_haltingTime 46 = .ok (.ireturn, 1) := by decide +kernel
set_option maxRecDepth 20000 in
theorem ggX8_cycleStart_X8_isLimit : GoodIn wsX8_cycleStart wsX8_isLimit := goodIn_r _ [6] (by decide +kernel) (by decide +kernel)
set_option maxRecDepth 20000 in
theorem gX8_cycleStart_X8_isLimit : GoodIn wsX8_cycleStart (va_wsS RX8 150 yX8_isLimit wsX8_isLimit) := goodIn_app (goodIn_of _ (by decide +kernel)) ggX8_cycleStart_X8_isLimit
set_option maxRecDepth 20000 in
theorem ggX8_cycleStart_X3_record : GoodIn wsX8_cycleStart wsX3_record := goodIn_r _ [11, 12, 13, 14, 15, 16, 17, 18, 19, 20, 21, 22, 23, 24, 25, 26, 27, 28, 29, 30, 31, 32, 33, 34, 35, 36, 37, 38, 39, 40, 41, 42, 10, 43, 44, 45, 46, 47, 48, 49, 50, 51, 52, 53, 54, 55, 56, 57, 58, 59, 60, 61, 62, 63, 64, 65, 66, 67, 68, 69, 70, 71, 72, 73, 74, 75, 76, 77, 78, 79, 80, 81, 82, 83, 84, 85, 86, 87, 88, 89, 90, 91, 92, 93, 94, 95, 96, 97, 98, 131, 132, 133, 134, 135, 136, 137, 138, 139, 140, 141, 142, 143, 144, 145, 146, 147, 148, 149, 150, 151, 152] (by decide +kernel) (by decide +kernel)
set_option maxRecDepth 20000 in
theorem gX8_cycleStart_X3_record : GoodIn wsX8_cycleStart (wsV RX8 153 RX3 yX3_record wsX3_record) := goodIn_app (goodIn_of _ (by decide +kernel)) ggX8_cycleStart_X3_record
set_option maxRecDepth 20000 in
theorem ggX8_cycleStart_X3_findCycle : GoodIn wsX8_cycleStart wsX3_findCycle := goodIn_r _ [102, 17, 103, 104, 105, 106, 107, 10, 108, 109, 110, 111, 112, 113, 114, 115, 116, 45, 117, 118, 119, 120, 44, 121, 122, 123, 124, 48, 131, 132, 133, 134, 135, 136, 137, 138, 139, 140] (by decide +kernel) (by decide +kernel)
set_option maxRecDepth 20000 in
theorem gX8_cycleStart_X3_findCycle : GoodIn wsX8_cycleStart (wsV RX8 164 RX3 yX3_findCycle wsX3_findCycle) := goodIn_app (goodIn_of _ (by decide +kernel)) ggX8_cycleStart_X3_findCycle
theorem dX8_cycleStart_0 : decode cX8_cycleStart 0 = .ok (.iload_n 1, 1) := by decide +kernel
theorem dX8_cycleStart_1 : decode cX8_cycleStart 1 = .ok (.invokestatic 150, 3) := by decide +kernel
theorem dX8_cycleStart_4 : decode cX8_cycleStart 4 = .ok (.ifCond .ne 7, 3) := by decide +kernel
theorem dX8_cycleStart_7 : decode cX8_cycleStart 7 = .ok (.sipush (-1002), 3) := by decide +kernel
theorem dX8_cycleStart_10 : decode cX8_cycleStart 10 = .ok (.ireturn, 1) := by decide +kernel
theorem dX8_cycleStart_11 : decode cX8_cycleStart 11 = .ok (.aload_n 0, 1) := by decide +kernel
theorem dX8_cycleStart_12 : decode cX8_cycleStart 12 = .ok (.getfield 35, 3) := by decide +kernel
theorem dX8_cycleStart_15 : decode cX8_cycleStart 15 = .ok (.aload_n 0, 1) := by decide +kernel
theorem dX8_cycleStart_16 : decode cX8_cycleStart 16 = .ok (.getfield 10, 3) := by decide +kernel
theorem dX8_cycleStart_19 : decode cX8_cycleStart 19 = .ok (.iload_n 1, 1) := by decide +kernel
theorem dX8_cycleStart_20 : decode cX8_cycleStart 20 = .ok (.invokevirtual 153, 3) := by decide +kernel
theorem dX8_cycleStart_23 : decode cX8_cycleStart 23 = .ok (.aload_n 0, 1) := by decide +kernel
theorem dX8_cycleStart_24 : decode cX8_cycleStart 24 = .ok (.getfield 35, 3) := by decide +kernel
theorem dX8_cycleStart_27 : decode cX8_cycleStart 27 = .ok (.invokevirtual 164, 3) := by decide +kernel
theorem dX8_cycleStart_30 : decode cX8_cycleStart 30 = .ok (.ifCond .eq 13, 3) := by decide +kernel
theorem dX8_cycleStart_33 : decode cX8_cycleStart 33 = .ok (.aload_n 0, 1) := by decide +kernel
theorem dX8_cycleStart_34 : decode cX8_cycleStart 34 = .ok (.getfield 35, 3) := by decide +kernel
theorem dX8_cycleStart_37 : decode cX8_cycleStart 37 = .ok (.getfield 168, 3) := by decide +kernel
theorem dX8_cycleStart_40 : decode cX8_cycleStart 40 = .ok (.goto 6, 3) := by decide +kernel
theorem dX8_cycleStart_43 : decode cX8_cycleStart 43 = .ok (.sipush (-1005), 3) := by decide +kernel
theorem dX8_cycleStart_46 : decode cX8_cycleStart 46 = .ok (.ireturn, 1) := by decide +kernel
set_option maxRecDepth 20000 in
theorem ggX8_cycleLength_X8_isLimit : GoodIn wsX8_cycleLength wsX8_isLimit := goodIn_r _ [6] (by decide +kernel) (by decide +kernel)
set_option maxRecDepth 20000 in
theorem gX8_cycleLength_X8_isLimit : GoodIn wsX8_cycleLength (va_wsS RX8 150 yX8_isLimit wsX8_isLimit) := goodIn_app (goodIn_of _ (by decide +kernel)) ggX8_cycleLength_X8_isLimit
set_option maxRecDepth 20000 in
theorem ggX8_cycleLength_X3_record : GoodIn wsX8_cycleLength wsX3_record := goodIn_r _ [11, 12, 13, 14, 15, 16, 17, 18, 19, 20, 21, 22, 23, 24, 25, 26, 27, 28, 29, 30, 31, 32, 33, 34, 35, 36, 37, 38, 39, 40, 41, 42, 10, 43, 44, 45, 46, 47, 48, 49, 50, 51, 52, 53, 54, 55, 56, 57, 58, 59, 60, 61, 62, 63, 64, 65, 66, 67, 68, 69, 70, 71, 72, 73, 74, 75, 76, 77, 78, 79, 80, 81, 82, 83, 84, 85, 86, 87, 88, 89, 90, 91, 92, 93, 94, 95, 96, 97, 98, 131, 132, 133, 134, 135, 136, 137, 138, 139, 140, 141, 142, 143, 144, 145, 146, 147, 148, 149, 150, 151, 152] (by decide +kernel) (by decide +kernel)
set_option maxRecDepth 20000 in
theorem gX8_cycleLength_X3_record : GoodIn wsX8_cycleLength (wsV RX8 153 RX3 yX3_record wsX3_record) := goodIn_app (goodIn_of _ (by decide +kernel)) ggX8_cycleLength_X3_record
set_option maxRecDepth 20000 in
theorem ggX8_cycleLength_X3_findCycle : GoodIn wsX8_cycleLength wsX3_findCycle := goodIn_r _ [102, 17, 103, 104, 105, 106, 107, 10, 108, 109, 110, 111, 112, 113, 114, 115, 116, 45, 117, 118, 119, 120, 44, 121, 122, 123, 124, 48, 131, 132, 133, 134, 135, 136, 137, 138, 139, 140] (by decide +kernel) (by decide +kernel)
set_option maxRecDepth 20000 in
theorem gX8_cycleLength_X3_findCycle : GoodIn wsX8_cycleLength (wsV RX8 164 RX3 yX3_findCycle wsX3_findCycle) := goodIn_app (goodIn_of _ (by decide +kernel)) ggX8_cycleLength_X3_findCycle
theorem dX8_cycleLength_0 : decode cX8_cycleLength 0 = .ok (.iload_n 1, 1) := by decide +kernel
theorem dX8_cycleLength_1 : decode cX8_cycleLength 1 = .ok (.invokestatic 150, 3) := by decide +kernel
theorem dX8_cycleLength_4 : decode cX8_cycleLength 4 = .ok (.ifCond .ne 7, 3) := by decide +kernel
theorem dX8_cycleLength_7 : decode cX8_cycleLength 7 = .ok (.sipush (-1002), 3) := by decide +kernel
theorem dX8_cycleLength_10 : decode cX8_cycleLength 10 = .ok (.ireturn, 1) := by decide +kernel
theorem dX8_cycleLength_11 : decode cX8_cycleLength 11 = .ok (.aload_n 0, 1) := by decide +kernel
theorem dX8_cycleLength_12 : decode cX8_cycleLength 12 = .ok (.getfield 35, 3) := by decide +kernel
theorem dX8_cycleLength_15 : decode cX8_cycleLength 15 = .ok (.aload_n 0, 1) := by decide +kernel
theorem dX8_cycleLength_16 : decode cX8_cycleLength 16 = .ok (.getfield 10, 3) := by decide +kernel
theorem dX8_cycleLength_19 : decode cX8_cycleLength 19 = .ok (.iload_n 1, 1) := by decide +kernel
theorem dX8_cycleLength_20 : decode cX8_cycleLength 20 = .ok (.invokevirtual 153, 3) := by decide +kernel
theorem dX8_cycleLength_23 : decode cX8_cycleLength 23 = .ok (.aload_n 0, 1) := by decide +kernel
theorem dX8_cycleLength_24 : decode cX8_cycleLength 24 = .ok (.getfield 35, 3) := by decide +kernel
theorem dX8_cycleLength_27 : decode cX8_cycleLength 27 = .ok (.invokevirtual 164, 3) := by decide +kernel
theorem dX8_cycleLength_30 : decode cX8_cycleLength 30 = .ok (.ifCond .eq 21, 3) := by decide +kernel
theorem dX8_cycleLength_33 : decode cX8_cycleLength 33 = .ok (.aload_n 0, 1) := by decide +kernel
theorem dX8_cycleLength_34 : decode cX8_cycleLength 34 = .ok (.getfield 35, 3) := by decide +kernel
theorem dX8_cycleLength_37 : decode cX8_cycleLength 37 = .ok (.getfield 171, 3) := by decide +kernel
theorem dX8_cycleLength_40 : decode cX8_cycleLength 40 = .ok (.aload_n 0, 1) := by decide +kernel
theorem dX8_cycleLength_41 : decode cX8_cycleLength 41 = .ok (.getfield 35, 3) := by decide +kernel
theorem dX8_cycleLength_44 : decode cX8_cycleLength 44 = .ok (.getfield 168, 3) := by decide +kernel
theorem dX8_cycleLength_47 : decode cX8_cycleLength 47 = .ok (.isub, 1) := by decide +kernel
theorem dX8_cycleLength_48 : decode cX8_cycleLength 48 = .ok (.goto 6, 3) := by decide +kernel
theorem dX8_cycleLength_51 : decode cX8_cycleLength 51 = .ok (.sipush (-1005), 3) := by decide +kernel
theorem dX8_cycleLength_54 : decode cX8_cycleLength 54 = .ok (.ireturn, 1) := by decide +kernel
set_option maxRecDepth 20000 in
theorem ggX8_driftPeriod_X8_isLimit : GoodIn wsX8_driftPeriod wsX8_isLimit := goodIn_r _ [6] (by decide +kernel) (by decide +kernel)
set_option maxRecDepth 20000 in
theorem gX8_driftPeriod_X8_isLimit : GoodIn wsX8_driftPeriod (va_wsS RX8 150 yX8_isLimit wsX8_isLimit) := goodIn_app (goodIn_of _ (by decide +kernel)) ggX8_driftPeriod_X8_isLimit
set_option maxRecDepth 20000 in
theorem ggX8_driftPeriod_X3_record : GoodIn wsX8_driftPeriod wsX3_record := goodIn_r _ [11, 12, 13, 14, 15, 16, 17, 18, 19, 20, 21, 22, 23, 24, 25, 26, 27, 28, 29, 30, 31, 32, 33, 34, 35, 36, 37, 38, 39, 40, 41, 42, 10, 43, 44, 45, 46, 47, 48, 49, 50, 51, 52, 53, 54, 55, 56, 57, 58, 59, 60, 61, 62, 63, 64, 65, 66, 67, 68, 69, 70, 71, 72, 73, 74, 75, 76, 77, 78, 79, 80, 81, 82, 83, 84, 85, 86, 87, 88, 89, 90, 91, 92, 93, 94, 95, 96, 97, 98, 137, 138, 139, 140, 141, 142, 143, 144, 145, 146, 147, 148, 149, 150, 151, 152, 153, 154, 155, 156, 157, 158] (by decide +kernel) (by decide +kernel)
set_option maxRecDepth 20000 in
theorem gX8_driftPeriod_X3_record : GoodIn wsX8_driftPeriod (wsV RX8 153 RX3 yX3_record wsX3_record) := goodIn_app (goodIn_of _ (by decide +kernel)) ggX8_driftPeriod_X3_record
set_option maxRecDepth 20000 in
theorem ggX8_driftPeriod_X3_findDrift : GoodIn wsX8_driftPeriod wsX3_findDrift := goodIn_r _ [102, 17, 103, 82, 15, 83, 104, 105, 106, 107, 108, 10, 109, 13, 14, 16, 110, 111, 112, 113, 46, 47, 114, 115, 116, 117, 45, 118, 119, 120, 121, 44, 122, 123, 124, 125, 126, 127, 128, 129, 48, 130, 59, 33, 60, 137, 138, 139, 140, 141, 142, 143, 144, 145, 146] (by decide +kernel) (by decide +kernel)
set_option maxRecDepth 20000 in
theorem gX8_driftPeriod_X3_findDrift : GoodIn wsX8_driftPeriod (wsV RX8 174 RX3 yX3_findDrift wsX3_findDrift) := goodIn_app (goodIn_of _ (by decide +kernel)) ggX8_driftPeriod_X3_findDrift
theorem dX8_driftPeriod_0 : decode cX8_driftPeriod 0 = .ok (.iload_n 1, 1) := by decide +kernel
theorem dX8_driftPeriod_1 : decode cX8_driftPeriod 1 = .ok (.invokestatic 150, 3) := by decide +kernel
theorem dX8_driftPeriod_4 : decode cX8_driftPeriod 4 = .ok (.ifCond .ne 7, 3) := by decide +kernel
theorem dX8_driftPeriod_7 : decode cX8_driftPeriod 7 = .ok (.sipush (-1002), 3) := by decide +kernel
theorem dX8_driftPeriod_10 : decode cX8_driftPeriod 10 = .ok (.ireturn, 1) := by decide +kernel
theorem dX8_driftPeriod_11 : decode cX8_driftPeriod 11 = .ok (.aload_n 0, 1) := by decide +kernel
theorem dX8_driftPeriod_12 : decode cX8_driftPeriod 12 = .ok (.getfield 35, 3) := by decide +kernel
theorem dX8_driftPeriod_15 : decode cX8_driftPeriod 15 = .ok (.aload_n 0, 1) := by decide +kernel
theorem dX8_driftPeriod_16 : decode cX8_driftPeriod 16 = .ok (.getfield 10, 3) := by decide +kernel
theorem dX8_driftPeriod_19 : decode cX8_driftPeriod 19 = .ok (.iload_n 1, 1) := by decide +kernel
theorem dX8_driftPeriod_20 : decode cX8_driftPeriod 20 = .ok (.invokevirtual 153, 3) := by decide +kernel
theorem dX8_driftPeriod_23 : decode cX8_driftPeriod 23 = .ok (.aload_n 0, 1) := by decide +kernel
theorem dX8_driftPeriod_24 : decode cX8_driftPeriod 24 = .ok (.getfield 35, 3) := by decide +kernel
theorem dX8_driftPeriod_27 : decode cX8_driftPeriod 27 = .ok (.invokevirtual 174, 3) := by decide +kernel
theorem dX8_driftPeriod_30 : decode cX8_driftPeriod 30 = .ok (.ifCond .eq 21, 3) := by decide +kernel
theorem dX8_driftPeriod_33 : decode cX8_driftPeriod 33 = .ok (.aload_n 0, 1) := by decide +kernel
theorem dX8_driftPeriod_34 : decode cX8_driftPeriod 34 = .ok (.getfield 35, 3) := by decide +kernel
theorem dX8_driftPeriod_37 : decode cX8_driftPeriod 37 = .ok (.getfield 171, 3) := by decide +kernel
theorem dX8_driftPeriod_40 : decode cX8_driftPeriod 40 = .ok (.aload_n 0, 1) := by decide +kernel
theorem dX8_driftPeriod_41 : decode cX8_driftPeriod 41 = .ok (.getfield 35, 3) := by decide +kernel
theorem dX8_driftPeriod_44 : decode cX8_driftPeriod 44 = .ok (.getfield 168, 3) := by decide +kernel
theorem dX8_driftPeriod_47 : decode cX8_driftPeriod 47 = .ok (.isub, 1) := by decide +kernel
theorem dX8_driftPeriod_48 : decode cX8_driftPeriod 48 = .ok (.goto 6, 3) := by decide +kernel
theorem dX8_driftPeriod_51 : decode cX8_driftPeriod 51 = .ok (.sipush (-1005), 3) := by decide +kernel
theorem dX8_driftPeriod_54 : decode cX8_driftPeriod 54 = .ok (.ireturn, 1) := by decide +kernel
set_option maxRecDepth 20000 in
theorem ggX8_driftOffset_X8_isLimit : GoodIn wsX8_driftOffset wsX8_isLimit := goodIn_r _ [6] (by decide +kernel) (by decide +kernel)
set_option maxRecDepth 20000 in
theorem gX8_driftOffset_X8_isLimit : GoodIn wsX8_driftOffset (va_wsS RX8 150 yX8_isLimit wsX8_isLimit) := goodIn_app (goodIn_of _ (by decide +kernel)) ggX8_driftOffset_X8_isLimit
set_option maxRecDepth 20000 in
theorem ggX8_driftOffset_X3_record : GoodIn wsX8_driftOffset wsX3_record := goodIn_r _ [11, 12, 13, 14, 15, 16, 17, 18, 19, 20, 21, 22, 23, 24, 25, 26, 27, 28, 29, 30, 31, 32, 33, 34, 35, 36, 37, 38, 39, 40, 41, 42, 10, 43, 44, 45, 46, 47, 48, 49, 50, 51, 52, 53, 54, 55, 56, 57, 58, 59, 60, 61, 62, 63, 64, 65, 66, 67, 68, 69, 70, 71, 72, 73, 74, 75, 76, 77, 78, 79, 80, 81, 82, 83, 84, 85, 86, 87, 88, 89, 90, 91, 92, 93, 94, 95, 96, 97, 98, 138, 139, 140, 141, 142, 143, 144, 145, 146, 147, 148, 149, 150, 151, 152, 153, 154, 155, 156, 157, 158, 159] (by decide +kernel) (by decide +kernel)
set_option maxRecDepth 20000 in
theorem gX8_driftOffset_X3_record : GoodIn wsX8_driftOffset (wsV RX8 153 RX3 yX3_record wsX3_record) := goodIn_app (goodIn_of _ (by decide +kernel)) ggX8_driftOffset_X3_record
set_option maxRecDepth 20000 in
theorem ggX8_driftOffset_X3_findDrift : GoodIn wsX8_driftOffset wsX3_findDrift := goodIn_r _ [102, 17, 103, 82, 15, 83, 104, 105, 106, 107, 108, 10, 109, 13, 14, 16, 110, 111, 112, 113, 46, 47, 114, 115, 116, 117, 45, 118, 119, 120, 121, 44, 122, 123, 124, 125, 126, 127, 128, 129, 48, 130, 59, 33, 60, 138, 139, 140, 141, 142, 143, 144, 145, 146, 147] (by decide +kernel) (by decide +kernel)
set_option maxRecDepth 20000 in
theorem gX8_driftOffset_X3_findDrift : GoodIn wsX8_driftOffset (wsV RX8 174 RX3 yX3_findDrift wsX3_findDrift) := goodIn_app (goodIn_of _ (by decide +kernel)) ggX8_driftOffset_X3_findDrift
set_option maxRecDepth 20000 in
theorem ggX8_driftOffset_X3_headAt : GoodIn wsX8_driftOffset wsX3_headAt := goodIn_r _ [117, 45, 138, 139, 140, 141, 142, 143, 144, 145, 146, 147] (by decide +kernel) (by decide +kernel)
set_option maxRecDepth 20000 in
theorem gX8_driftOffset_X3_headAt : GoodIn wsX8_driftOffset (wsV RX8 177 RX3 yX3_headAt wsX3_headAt) := goodIn_app (goodIn_of _ (by decide +kernel)) ggX8_driftOffset_X3_headAt
theorem dX8_driftOffset_0 : decode cX8_driftOffset 0 = .ok (.iload_n 1, 1) := by decide +kernel
theorem dX8_driftOffset_1 : decode cX8_driftOffset 1 = .ok (.invokestatic 150, 3) := by decide +kernel
theorem dX8_driftOffset_4 : decode cX8_driftOffset 4 = .ok (.ifCond .ne 7, 3) := by decide +kernel
theorem dX8_driftOffset_7 : decode cX8_driftOffset 7 = .ok (.sipush (-1002), 3) := by decide +kernel
theorem dX8_driftOffset_10 : decode cX8_driftOffset 10 = .ok (.ireturn, 1) := by decide +kernel
theorem dX8_driftOffset_11 : decode cX8_driftOffset 11 = .ok (.aload_n 0, 1) := by decide +kernel
theorem dX8_driftOffset_12 : decode cX8_driftOffset 12 = .ok (.getfield 35, 3) := by decide +kernel
theorem dX8_driftOffset_15 : decode cX8_driftOffset 15 = .ok (.aload_n 0, 1) := by decide +kernel
theorem dX8_driftOffset_16 : decode cX8_driftOffset 16 = .ok (.getfield 10, 3) := by decide +kernel
theorem dX8_driftOffset_19 : decode cX8_driftOffset 19 = .ok (.iload_n 1, 1) := by decide +kernel
theorem dX8_driftOffset_20 : decode cX8_driftOffset 20 = .ok (.invokevirtual 153, 3) := by decide +kernel
theorem dX8_driftOffset_23 : decode cX8_driftOffset 23 = .ok (.aload_n 0, 1) := by decide +kernel
theorem dX8_driftOffset_24 : decode cX8_driftOffset 24 = .ok (.getfield 35, 3) := by decide +kernel
theorem dX8_driftOffset_27 : decode cX8_driftOffset 27 = .ok (.invokevirtual 174, 3) := by decide +kernel
theorem dX8_driftOffset_30 : decode cX8_driftOffset 30 = .ok (.ifCond .eq 35, 3) := by decide +kernel
theorem dX8_driftOffset_33 : decode cX8_driftOffset 33 = .ok (.aload_n 0, 1) := by decide +kernel
theorem dX8_driftOffset_34 : decode cX8_driftOffset 34 = .ok (.getfield 35, 3) := by decide +kernel
theorem dX8_driftOffset_37 : decode cX8_driftOffset 37 = .ok (.aload_n 0, 1) := by decide +kernel
theorem dX8_driftOffset_38 : decode cX8_driftOffset 38 = .ok (.getfield 35, 3) := by decide +kernel
theorem dX8_driftOffset_41 : decode cX8_driftOffset 41 = .ok (.getfield 171, 3) := by decide +kernel
theorem dX8_driftOffset_44 : decode cX8_driftOffset 44 = .ok (.invokevirtual 177, 3) := by decide +kernel
theorem dX8_driftOffset_47 : decode cX8_driftOffset 47 = .ok (.aload_n 0, 1) := by decide +kernel
theorem dX8_driftOffset_48 : decode cX8_driftOffset 48 = .ok (.getfield 35, 3) := by decide +kernel
theorem dX8_driftOffset_51 : decode cX8_driftOffset 51 = .ok (.aload_n 0, 1) := by decide +kernel
theorem dX8_driftOffset_52 : decode cX8_driftOffset 52 = .ok (.getfield 35, 3) := by decide +kernel
theorem dX8_driftOffset_55 : decode cX8_driftOffset 55 = .ok (.getfield 168, 3) := by decide +kernel
theorem dX8_driftOffset_58 : decode cX8_driftOffset 58 = .ok (.invokevirtual 177, 3) := by decide +kernel
theorem dX8_driftOffset_61 : decode cX8_driftOffset 61 = .ok (.isub, 1) := by decide +kernel
theorem dX8_driftOffset_62 : decode cX8_driftOffset 62 = .ok (.goto 6, 3) := by decide +kernel
theorem dX8_driftOffset_65 : decode cX8_driftOffset 65 = .ok (.sipush (-1005), 3) := by decide +kernel
theorem dX8_driftOffset_68 : decode cX8_driftOffset 68 = .ok (.ireturn, 1) := by decide +kernel
set_option maxRecDepth 20000 in
theorem ggX8_backwardDepth_X0_findDepth : GoodIn wsX8_backwardDepth wsX0_findDepth := goodIn_r _ [7, 8, 9, 10, 11, 12, 6, 13, 14, 15, 16, 17, 18, 19, 20, 21, 22, 23, 24, 25, 26, 27, 28, 29, 30, 31, 32, 33, 34, 35, 36, 37, 38, 39, 40, 41, 42, 43, 44, 45, 46, 47, 48, 49, 50, 51, 52, 53, 54, 55, 56, 57, 58, 59, 60, 61, 62, 63, 64, 65, 72, 73, 74, 75, 76, 77, 78, 79, 80, 81, 82, 83] (by decide +kernel) (by decide +kernel)
set_option maxRecDepth 20000 in
theorem gX8_backwardDepth_X0_findDepth : GoodIn wsX8_backwardDepth (wsV RX8 180 RX0 yX0_findDepth wsX0_findDepth) := goodIn_app (goodIn_of _ (by decide +kernel)) ggX8_backwardDepth_X0_findDepth
theorem dX8_backwardDepth_0 : decode cX8_backwardDepth 0 = .ok (.iload_n 1, 1) := by decide +kernel
theorem dX8_backwardDepth_1 : decode cX8_backwardDepth 1 = .ok (.iconst 1, 1) := by decide +kernel
theorem dX8_backwardDepth_2 : decode cX8_backwardDepth 2 = .ok (.if_icmp .lt 9, 3) := by decide +kernel
theorem dX8_backwardDepth_5 : decode cX8_backwardDepth 5 = .ok (.iload_n 1, 1) := by decide +kernel
theorem dX8_backwardDepth_6 : decode cX8_backwardDepth 6 = .ok (.bipush 8, 2) := by decide +kernel
theorem dX8_backwardDepth_8 : decode cX8_backwardDepth 8 = .ok (.if_icmp .le 7, 3) := by decide +kernel
theorem dX8_backwardDepth_11 : decode cX8_backwardDepth 11 = .ok (.sipush (-1002), 3) := by decide +kernel
theorem dX8_backwardDepth_14 : decode cX8_backwardDepth 14 = .ok (.ireturn, 1) := by decide +kernel
theorem dX8_backwardDepth_15 : decode cX8_backwardDepth 15 = .ok (.aload_n 0, 1) := by decide +kernel
theorem dX8_backwardDepth_16 : decode cX8_backwardDepth 16 = .ok (.getfield 42, 3) := by decide +kernel
theorem dX8_backwardDepth_19 : decode cX8_backwardDepth 19 = .ok (.aload_n 0, 1) := by decide +kernel
theorem dX8_backwardDepth_20 : decode cX8_backwardDepth 20 = .ok (.getfield 10, 3) := by decide +kernel
theorem dX8_backwardDepth_23 : decode cX8_backwardDepth 23 = .ok (.iload_n 1, 1) := by decide +kernel
theorem dX8_backwardDepth_24 : decode cX8_backwardDepth 24 = .ok (.invokevirtual 180, 3) := by decide +kernel
theorem dX8_backwardDepth_27 : decode cX8_backwardDepth 27 = .ok (.ireturn, 1) := by decide +kernel
set_option maxRecDepth 20000 in
theorem ggX8_closedSet_X1_countElements : GoodIn wsX8_closedSet wsX1_countElements := goodIn_r _ [7, 8, 9, 10, 11, 12, 13, 14, 15, 16, 17, 18, 19, 20, 21, 22, 23, 24, 25, 26, 6, 27, 28, 29, 30, 31, 32, 33, 34, 35, 36, 37, 38, 39, 40, 41, 42, 43, 44, 45, 46, 47, 48, 49, 50, 51, 52, 53, 54, 55, 56, 57, 58, 59, 60, 61, 62, 63, 64, 65, 66, 67, 68, 69, 70, 71, 72, 73, 74, 75, 76, 77, 84, 85, 86, 87, 88, 89, 90, 91, 92, 93] (by decide +kernel) (by decide +kernel)
set_option maxRecDepth 20000 in
theorem gX8_closedSet_X1_countElements : GoodIn wsX8_closedSet (wsV RX8 184 RX1 yX1_countElements wsX1_countElements) := goodIn_app (goodIn_of _ (by decide +kernel)) ggX8_closedSet_X1_countElements
theorem dX8_closedSet_0 : decode cX8_closedSet 0 = .ok (.iload_n 1, 1) := by decide +kernel
theorem dX8_closedSet_1 : decode cX8_closedSet 1 = .ok (.iconst 1, 1) := by decide +kernel
theorem dX8_closedSet_2 : decode cX8_closedSet 2 = .ok (.if_icmp .lt 8, 3) := by decide +kernel
theorem dX8_closedSet_5 : decode cX8_closedSet 5 = .ok (.iload_n 1, 1) := by decide +kernel
theorem dX8_closedSet_6 : decode cX8_closedSet 6 = .ok (.iconst 3, 1) := by decide +kernel
theorem dX8_closedSet_7 : decode cX8_closedSet 7 = .ok (.if_icmp .le 7, 3) := by decide +kernel
theorem dX8_closedSet_10 : decode cX8_closedSet 10 = .ok (.sipush (-1002), 3) := by decide +kernel
theorem dX8_closedSet_13 : decode cX8_closedSet 13 = .ok (.ireturn, 1) := by decide +kernel
theorem dX8_closedSet_14 : decode cX8_closedSet 14 = .ok (.aload_n 0, 1) := by decide +kernel
theorem dX8_closedSet_15 : decode cX8_closedSet 15 = .ok (.getfield 49, 3) := by decide +kernel
theorem dX8_closedSet_18 : decode cX8_closedSet 18 = .ok (.aload_n 0, 1) := by decide +kernel
theorem dX8_closedSet_19 : decode cX8_closedSet 19 = .ok (.getfield 10, 3) := by decide +kernel
theorem dX8_closedSet_22 : decode cX8_closedSet 22 = .ok (.iload_n 1, 1) := by decide +kernel
theorem dX8_closedSet_23 : decode cX8_closedSet 23 = .ok (.invokevirtual 184, 3) := by decide +kernel
theorem dX8_closedSet_26 : decode cX8_closedSet 26 = .ok (.ireturn, 1) := by decide +kernel
set_option maxRecDepth 20000 in
theorem ggX8_decide_X8_isLimit : GoodIn wsX8_decide wsX8_isLimit := goodIn_r _ [7] (by decide +kernel) (by decide +kernel)
set_option maxRecDepth 20000 in
theorem gX8_decide_X8_isLimit : GoodIn wsX8_decide (va_wsS RX8 150 yX8_isLimit wsX8_isLimit) := goodIn_app (goodIn_of _ (by decide +kernel)) ggX8_decide_X8_isLimit
set_option maxRecDepth 20000 in
theorem ggX8_decide_X3_record : GoodIn wsX8_decide wsX3_record := goodIn_r _ [12, 13, 14, 15, 16, 17, 18, 19, 20, 21, 22, 23, 24, 25, 26, 27, 28, 29, 30, 31, 32, 33, 34, 35, 36, 37, 38, 39, 40, 41, 42, 43, 11, 44, 45, 46, 47, 48, 49, 50, 51, 52, 53, 54, 55, 56, 57, 58, 59, 60, 61, 62, 63, 64, 65, 66, 67, 68, 69, 70, 71, 72, 73, 74, 75, 76, 77, 78, 79, 80, 81, 82, 83, 84, 85, 86, 87, 88, 89, 90, 91, 92, 93, 94, 95, 96, 97, 98, 99, 252, 253, 254, 255, 256, 257, 258, 259, 260, 261, 262, 263, 264, 265, 266, 267, 268, 269, 270, 271, 272, 273] (by decide +kernel) (by decide +kernel)
set_option maxRecDepth 20000 in
theorem gX8_decide_X3_record : GoodIn wsX8_decide (wsV RX8 153 RX3 yX3_record wsX3_record) := goodIn_app (goodIn_of _ (by decide +kernel)) ggX8_decide_X3_record
set_option maxRecDepth 20000 in
theorem ggX8_decide_X3_findCycle : GoodIn wsX8_decide wsX3_findCycle := goodIn_r _ [103, 18, 104, 105, 106, 107, 108, 11, 109, 110, 111, 112, 113, 114, 115, 116, 117, 46, 118, 119, 120, 121, 45, 122, 123, 124, 125, 49, 252, 253, 254, 255, 256, 257, 258, 259, 260, 261] (by decide +kernel) (by decide +kernel)
set_option maxRecDepth 20000 in
theorem gX8_decide_X3_findCycle : GoodIn wsX8_decide (wsV RX8 164 RX3 yX3_findCycle wsX3_findCycle) := goodIn_app (goodIn_of _ (by decide +kernel)) ggX8_decide_X3_findCycle
set_option maxRecDepth 20000 in
theorem ggX8_decide_X3_findDrift : GoodIn wsX8_decide wsX3_findDrift := goodIn_r _ [129, 18, 130, 83, 16, 84, 104, 105, 131, 132, 133, 11, 134, 14, 15, 17, 135, 136, 137, 138, 47, 48, 114, 115, 116, 117, 46, 118, 119, 120, 121, 45, 139, 140, 141, 142, 143, 144, 145, 146, 49, 147, 60, 34, 61, 252, 253, 254, 255, 256, 257, 258, 259, 260, 261] (by decide +kernel) (by decide +kernel)
set_option maxRecDepth 20000 in
theorem gX8_decide_X3_findDrift : GoodIn wsX8_decide (wsV RX8 174 RX3 yX3_findDrift wsX3_findDrift) := goodIn_app (goodIn_of _ (by decide +kernel)) ggX8_decide_X3_findDrift
set_option maxRecDepth 20000 in
theorem ggX8_decide_X0_findDepth : GoodIn wsX8_decide wsX0_findDepth := goodIn_r _ [152, 153, 154, 155, 156, 157, 151, 158, 159, 160, 161, 162, 163, 164, 165, 166, 167, 168, 65, 169, 71, 72, 73, 74, 75, 76, 170, 171, 172, 173, 174, 175, 176, 177, 178, 179, 180, 181, 182, 183, 184, 185, 186, 187, 188, 189, 190, 68, 69, 70, 191, 95, 96, 97, 98, 192, 86, 87, 88, 89, 274, 275, 276, 277, 278, 279, 280, 281, 270, 271, 272, 273] (by decide +kernel) (by decide +kernel)
set_option maxRecDepth 20000 in
theorem gX8_decide_X0_findDepth : GoodIn wsX8_decide (wsV RX8 180 RX0 yX0_findDepth wsX0_findDepth) := goodIn_app (goodIn_of _ (by decide +kernel)) ggX8_decide_X0_findDepth
set_option maxRecDepth 20000 in
theorem ggX8_decide_X8_hasClosedSet : GoodIn wsX8_decide wsX8_hasClosedSet := goodIn_r _ [196, 197, 2, 198, 199, 200, 201, 202, 203, 83, 16, 84, 204, 15, 17, 205, 206, 207, 208, 209, 210, 211, 39, 212, 213, 214, 215, 216, 217, 218, 219, 220, 221, 222, 223, 224, 225, 226, 167, 168, 65, 169, 71, 72, 73, 74, 75, 76, 227, 68, 69, 70, 228, 86, 87, 88, 89, 229, 95, 96, 97, 98, 230, 231, 232, 233, 234, 235, 236, 237, 238, 239, 240, 241, 242, 243, 244, 245, 246, 247, 248, 249, 250, 251, 282, 283, 284, 285, 286, 287, 270, 271, 272, 273] (by decide +kernel) (by decide +kernel)
set_option maxRecDepth 20000 in
theorem gX8_decide_X8_hasClosedSet : GoodIn wsX8_decide (wsV RX8 187 RX8 yX8_hasClosedSet wsX8_hasClosedSet) := goodIn_app (goodIn_of _ (by decide +kernel)) ggX8_decide_X8_hasClosedSet
theorem dX8_decide_0 : decode cX8_decide 0 = .ok (.iload_n 1, 1) := by decide +kernel
theorem dX8_decide_1 : decode cX8_decide 1 = .ok (.invokestatic 150, 3) := by decide +kernel
theorem dX8_decide_4 : decode cX8_decide 4 = .ok (.ifCond .ne 7, 3) := by decide +kernel
theorem dX8_decide_7 : decode cX8_decide 7 = .ok (.sipush (-1002), 3) := by decide +kernel
theorem dX8_decide_10 : decode cX8_decide 10 = .ok (.ireturn, 1) := by decide +kernel
theorem dX8_decide_11 : decode cX8_decide 11 = .ok (.aload_n 0, 1) := by decide +kernel
theorem dX8_decide_12 : decode cX8_decide 12 = .ok (.getfield 35, 3) := by decide +kernel
theorem dX8_decide_15 : decode cX8_decide 15 = .ok (.aload_n 0, 1) := by decide +kernel
theorem dX8_decide_16 : decode cX8_decide 16 = .ok (.getfield 10, 3) := by decide +kernel
theorem dX8_decide_19 : decode cX8_decide 19 = .ok (.iload_n 1, 1) := by decide +kernel
theorem dX8_decide_20 : decode cX8_decide 20 = .ok (.invokevirtual 153, 3) := by decide +kernel
theorem dX8_decide_23 : decode cX8_decide 23 = .ok (.aload_n 0, 1) := by decide +kernel
theorem dX8_decide_24 : decode cX8_decide 24 = .ok (.getfield 35, 3) := by decide +kernel
theorem dX8_decide_27 : decode cX8_decide 27 = .ok (.getfield 157, 3) := by decide +kernel
theorem dX8_decide_30 : decode cX8_decide 30 = .ok (.ifCond .eq 5, 3) := by decide +kernel
theorem dX8_decide_33 : decode cX8_decide 33 = .ok (.iconst 1, 1) := by decide +kernel
theorem dX8_decide_34 : decode cX8_decide 34 = .ok (.ireturn, 1) := by decide +kernel
theorem dX8_decide_35 : decode cX8_decide 35 = .ok (.aload_n 0, 1) := by decide +kernel
theorem dX8_decide_36 : decode cX8_decide 36 = .ok (.getfield 35, 3) := by decide +kernel
theorem dX8_decide_39 : decode cX8_decide 39 = .ok (.invokevirtual 164, 3) := by decide +kernel
theorem dX8_decide_42 : decode cX8_decide 42 = .ok (.ifCond .eq 5, 3) := by decide +kernel
theorem dX8_decide_45 : decode cX8_decide 45 = .ok (.iconst 2, 1) := by decide +kernel
theorem dX8_decide_46 : decode cX8_decide 46 = .ok (.ireturn, 1) := by decide +kernel
theorem dX8_decide_47 : decode cX8_decide 47 = .ok (.aload_n 0, 1) := by decide +kernel
theorem dX8_decide_48 : decode cX8_decide 48 = .ok (.getfield 35, 3) := by decide +kernel
theorem dX8_decide_51 : decode cX8_decide 51 = .ok (.invokevirtual 174, 3) := by decide +kernel
theorem dX8_decide_54 : decode cX8_decide 54 = .ok (.ifCond .eq 5, 3) := by decide +kernel
theorem dX8_decide_57 : decode cX8_decide 57 = .ok (.iconst 3, 1) := by decide +kernel
theorem dX8_decide_58 : decode cX8_decide 58 = .ok (.ireturn, 1) := by decide +kernel
theorem dX8_decide_59 : decode cX8_decide 59 = .ok (.aload_n 0, 1) := by decide +kernel
theorem dX8_decide_60 : decode cX8_decide 60 = .ok (.getfield 42, 3) := by decide +kernel
theorem dX8_decide_63 : decode cX8_decide 63 = .ok (.aload_n 0, 1) := by decide +kernel
theorem dX8_decide_64 : decode cX8_decide 64 = .ok (.getfield 10, 3) := by decide +kernel
theorem dX8_decide_67 : decode cX8_decide 67 = .ok (.bipush 8, 2) := by decide +kernel
theorem dX8_decide_69 : decode cX8_decide 69 = .ok (.invokevirtual 180, 3) := by decide +kernel
theorem dX8_decide_72 : decode cX8_decide 72 = .ok (.sipush (-1005), 3) := by decide +kernel
theorem dX8_decide_75 : decode cX8_decide 75 = .ok (.if_icmp .eq 5, 3) := by decide +kernel
theorem dX8_decide_78 : decode cX8_decide 78 = .ok (.iconst 4, 1) := by decide +kernel
theorem dX8_decide_79 : decode cX8_decide 79 = .ok (.ireturn, 1) := by decide +kernel
theorem dX8_decide_80 : decode cX8_decide 80 = .ok (.aload_n 0, 1) := by decide +kernel
theorem dX8_decide_81 : decode cX8_decide 81 = .ok (.invokevirtual 187, 3) := by decide +kernel
theorem dX8_decide_84 : decode cX8_decide 84 = .ok (.ifCond .eq 7, 3) := by decide +kernel
theorem dX8_decide_87 : decode cX8_decide 87 = .ok (.iconst 5, 1) := by decide +kernel
theorem dX8_decide_88 : decode cX8_decide 88 = .ok (.goto 4, 3) := by decide +kernel
theorem dX8_decide_91 : decode cX8_decide 91 = .ok (.iconst 0, 1) := by decide +kernel
theorem dX8_decide_92 : decode cX8_decide 92 = .ok (.ireturn, 1) := by decide +kernel
set_option maxRecDepth 20000 in
theorem ggX8_hasClosedSet_X1_countElements : GoodIn wsX8_hasClosedSet wsX1_countElements := goodIn_r _ [7, 8, 9, 10, 11, 12, 13, 14, 15, 16, 17, 18, 19, 20, 21, 22, 23, 24, 25, 26, 6, 27, 28, 29, 30, 31, 32, 33, 34, 35, 36, 37, 38, 39, 40, 41, 42, 43, 44, 45, 46, 47, 48, 49, 50, 51, 52, 53, 54, 55, 56, 57, 58, 59, 60, 61, 62, 63, 64, 65, 66, 67, 68, 69, 70, 71, 72, 73, 74, 75, 76, 77, 84, 85, 86, 87, 88, 89, 90, 91, 92, 93] (by decide +kernel) (by decide +kernel)
set_option maxRecDepth 20000 in
theorem gX8_hasClosedSet_X1_countElements : GoodIn wsX8_hasClosedSet (wsV RX8 184 RX1 yX1_countElements wsX1_countElements) := goodIn_app (goodIn_of _ (by decide +kernel)) ggX8_hasClosedSet_X1_countElements
theorem dX8_hasClosedSet_0 : decode cX8_hasClosedSet 0 = .ok (.iconst 1, 1) := by decide +kernel
theorem dX8_hasClosedSet_1 : decode cX8_hasClosedSet 1 = .ok (.istore_n 1, 1) := by decide +kernel
theorem dX8_hasClosedSet_2 : decode cX8_hasClosedSet 2 = .ok (.iload_n 1, 1) := by decide +kernel
theorem dX8_hasClosedSet_3 : decode cX8_hasClosedSet 3 = .ok (.iconst 3, 1) := by decide +kernel
theorem dX8_hasClosedSet_4 : decode cX8_hasClosedSet 4 = .ok (.if_icmp .gt 29, 3) := by decide +kernel
theorem dX8_hasClosedSet_7 : decode cX8_hasClosedSet 7 = .ok (.aload_n 0, 1) := by decide +kernel
theorem dX8_hasClosedSet_8 : decode cX8_hasClosedSet 8 = .ok (.getfield 49, 3) := by decide +kernel
theorem dX8_hasClosedSet_11 : decode cX8_hasClosedSet 11 = .ok (.aload_n 0, 1) := by decide +kernel
theorem dX8_hasClosedSet_12 : decode cX8_hasClosedSet 12 = .ok (.getfield 10, 3) := by decide +kernel
theorem dX8_hasClosedSet_15 : decode cX8_hasClosedSet 15 = .ok (.iload_n 1, 1) := by decide +kernel
theorem dX8_hasClosedSet_16 : decode cX8_hasClosedSet 16 = .ok (.invokevirtual 184, 3) := by decide +kernel
theorem dX8_hasClosedSet_19 : decode cX8_hasClosedSet 19 = .ok (.sipush (-1005), 3) := by decide +kernel
theorem dX8_hasClosedSet_22 : decode cX8_hasClosedSet 22 = .ok (.if_icmp .eq 5, 3) := by decide +kernel
theorem dX8_hasClosedSet_25 : decode cX8_hasClosedSet 25 = .ok (.iconst 1, 1) := by decide +kernel
theorem dX8_hasClosedSet_26 : decode cX8_hasClosedSet 26 = .ok (.ireturn, 1) := by decide +kernel
theorem dX8_hasClosedSet_27 : decode cX8_hasClosedSet 27 = .ok (.iinc 1 1, 3) := by decide +kernel
theorem dX8_hasClosedSet_30 : decode cX8_hasClosedSet 30 = .ok (.goto (-28), 3) := by decide +kernel
theorem dX8_hasClosedSet_33 : decode cX8_hasClosedSet 33 = .ok (.iconst 0, 1) := by decide +kernel
theorem dX8_hasClosedSet_34 : decode cX8_hasClosedSet 34 = .ok (.ireturn, 1) := by decide +kernel
set_option maxRecDepth 20000 in
theorem ggX8_transitionError_X5_exists : GoodIn wsX8_transitionError wsX5_exists := goodIn_r _ [6, 7, 31, 32, 33, 34] (by decide +kernel) (by decide +kernel)
set_option maxRecDepth 20000 in
theorem gX8_transitionError_X5_exists : GoodIn wsX8_transitionError (wsV RX8 63 RX5 yX5_exists wsX5_exists) := goodIn_app (goodIn_of _ (by decide +kernel)) ggX8_transitionError_X5_exists
set_option maxRecDepth 20000 in
theorem ggX8_transitionError_X8_isSymbol : GoodIn wsX8_transitionError wsX8_isSymbol := goodIn_r _ [11] (by decide +kernel) (by decide +kernel)
set_option maxRecDepth 20000 in
theorem gX8_transitionError_X8_isSymbol : GoodIn wsX8_transitionError (va_wsS RX8 67 yX8_isSymbol wsX8_isSymbol) := goodIn_app (goodIn_of _ (by decide +kernel)) ggX8_transitionError_X8_isSymbol
set_option maxRecDepth 20000 in
theorem ggX8_transitionError_X5_has : GoodIn wsX8_transitionError wsX5_has := goodIn_r _ [15, 16, 17, 18, 5, 19, 20, 21, 22, 23, 24, 7, 31, 32, 33, 34] (by decide +kernel) (by decide +kernel)
set_option maxRecDepth 20000 in
theorem gX8_transitionError_X5_has : GoodIn wsX8_transitionError (wsV RX8 70 RX5 yX5_has wsX5_has) := goodIn_app (goodIn_of _ (by decide +kernel)) ggX8_transitionError_X5_has
theorem dX8_transitionError_0 : decode cX8_transitionError 0 = .ok (.aload_n 0, 1) := by decide +kernel
theorem dX8_transitionError_1 : decode cX8_transitionError 1 = .ok (.getfield 10, 3) := by decide +kernel
theorem dX8_transitionError_4 : decode cX8_transitionError 4 = .ok (.iload_n 1, 1) := by decide +kernel
theorem dX8_transitionError_5 : decode cX8_transitionError 5 = .ok (.invokevirtual 63, 3) := by decide +kernel
theorem dX8_transitionError_8 : decode cX8_transitionError 8 = .ok (.ifCond .ne 7, 3) := by decide +kernel
theorem dX8_transitionError_11 : decode cX8_transitionError 11 = .ok (.sipush (-1001), 3) := by decide +kernel
theorem dX8_transitionError_14 : decode cX8_transitionError 14 = .ok (.ireturn, 1) := by decide +kernel
theorem dX8_transitionError_15 : decode cX8_transitionError 15 = .ok (.iload_n 2, 1) := by decide +kernel
theorem dX8_transitionError_16 : decode cX8_transitionError 16 = .ok (.invokestatic 67, 3) := by decide +kernel
theorem dX8_transitionError_19 : decode cX8_transitionError 19 = .ok (.ifCond .ne 7, 3) := by decide +kernel
theorem dX8_transitionError_22 : decode cX8_transitionError 22 = .ok (.sipush (-1002), 3) := by decide +kernel
theorem dX8_transitionError_25 : decode cX8_transitionError 25 = .ok (.ireturn, 1) := by decide +kernel
theorem dX8_transitionError_26 : decode cX8_transitionError 26 = .ok (.aload_n 0, 1) := by decide +kernel
theorem dX8_transitionError_27 : decode cX8_transitionError 27 = .ok (.getfield 10, 3) := by decide +kernel
theorem dX8_transitionError_30 : decode cX8_transitionError 30 = .ok (.iload_n 1, 1) := by decide +kernel
theorem dX8_transitionError_31 : decode cX8_transitionError 31 = .ok (.iload_n 2, 1) := by decide +kernel
theorem dX8_transitionError_32 : decode cX8_transitionError 32 = .ok (.invokevirtual 70, 3) := by decide +kernel
theorem dX8_transitionError_35 : decode cX8_transitionError 35 = .ok (.ifCond .eq 7, 3) := by decide +kernel
theorem dX8_transitionError_38 : decode cX8_transitionError 38 = .ok (.iconst 0, 1) := by decide +kernel
theorem dX8_transitionError_39 : decode cX8_transitionError 39 = .ok (.goto 6, 3) := by decide +kernel
theorem dX8_transitionError_42 : decode cX8_transitionError 42 = .ok (.sipush (-1003), 3) := by decide +kernel
theorem dX8_transitionError_45 : decode cX8_transitionError 45 = .ok (.ireturn, 1) := by decide +kernel
theorem dX8_isSymbol_0 : decode cX8_isSymbol 0 = .ok (.iload_n 0, 1) := by decide +kernel
theorem dX8_isSymbol_1 : decode cX8_isSymbol 1 = .ok (.ifCond .eq 8, 3) := by decide +kernel
theorem dX8_isSymbol_4 : decode cX8_isSymbol 4 = .ok (.iload_n 0, 1) := by decide +kernel
theorem dX8_isSymbol_5 : decode cX8_isSymbol 5 = .ok (.iconst 1, 1) := by decide +kernel
theorem dX8_isSymbol_6 : decode cX8_isSymbol 6 = .ok (.if_icmp .ne 7, 3) := by decide +kernel
theorem dX8_isSymbol_9 : decode cX8_isSymbol 9 = .ok (.iconst 1, 1) := by decide +kernel
theorem dX8_isSymbol_10 : decode cX8_isSymbol 10 = .ok (.goto 4, 3) := by decide +kernel
theorem dX8_isSymbol_13 : decode cX8_isSymbol 13 = .ok (.iconst 0, 1) := by decide +kernel
theorem dX8_isSymbol_14 : decode cX8_isSymbol 14 = .ok (.ireturn, 1) := by decide +kernel
theorem dX8_isLimit_0 : decode cX8_isLimit 0 = .ok (.iload_n 0, 1) := by decide +kernel
theorem dX8_isLimit_1 : decode cX8_isLimit 1 = .ok (.iconst 1, 1) := by decide +kernel
theorem dX8_isLimit_2 : decode cX8_isLimit 2 = .ok (.if_icmp .lt 14, 3) := by decide +kernel
theorem dX8_isLimit_5 : decode cX8_isLimit 5 = .ok (.iload_n 0, 1) := by decide +kernel
theorem dX8_isLimit_6 : decode cX8_isLimit 6 = .ok (.sipush 200, 3) := by decide +kernel
theorem dX8_isLimit_9 : decode cX8_isLimit 9 = .ok (.if_icmp .gt 7, 3) := by decide +kernel
theorem dX8_isLimit_12 : decode cX8_isLimit 12 = .ok (.iconst 1, 1) := by decide +kernel
theorem dX8_isLimit_13 : decode cX8_isLimit 13 = .ok (.goto 4, 3) := by decide +kernel
theorem dX8_isLimit_16 : decode cX8_isLimit 16 = .ok (.iconst 0, 1) := by decide +kernel
theorem dX8_isLimit_17 : decode cX8_isLimit 17 = .ok (.ireturn, 1) := by decide +kernel
