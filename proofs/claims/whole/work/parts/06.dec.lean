set_option maxRecDepth 20000 in
theorem ggX9_init_X9_begin : GoodIn wsX9_init wsX9_begin := goodIn_r _ [27, 12, 13, 28, 29, 30, 31, 32, 33, 34, 35, 36, 37, 38, 39, 40, 41, 42, 43, 44, 45, 46, 47, 48, 49, 50, 51, 52, 53, 54, 55, 56, 57, 58, 59, 60] (by decide +kernel) (by decide +kernel)
set_option maxRecDepth 20000 in
theorem gX9_init_X9_begin : GoodIn wsX9_init (wsV RX9 61 RX9 yX9_begin wsX9_begin) := goodIn_app (goodIn_of _ (by decide +kernel)) ggX9_init_X9_begin
theorem dX9_init_0 : decode cX9_init 0 = .ok (.aload_n 0, 1) := by decide +kernel
theorem dX9_init_1 : decode cX9_init 1 = .ok (.invokespecial 1, 3) := by decide +kernel
theorem dX9_init_4 : decode cX9_init 4 = .ok (.aload_n 0, 1) := by decide +kernel
theorem dX9_init_5 : decode cX9_init 5 = .ok (.iconst 2, 1) := by decide +kernel
theorem dX9_init_6 : decode cX9_init 6 = .ok (.putfield 7, 3) := by decide +kernel
theorem dX9_init_9 : decode cX9_init 9 = .ok (.aload_n 0, 1) := by decide +kernel
theorem dX9_init_10 : decode cX9_init 10 = .ok (.bipush 10, 2) := by decide +kernel
theorem dX9_init_12 : decode cX9_init 12 = .ok (.newarray .boolean, 2) := by decide +kernel
theorem dX9_init_14 : decode cX9_init 14 = .ok (.putfield 13, 3) := by decide +kernel
theorem dX9_init_17 : decode cX9_init 17 = .ok (.aload_n 0, 1) := by decide +kernel
theorem dX9_init_18 : decode cX9_init 18 = .ok (.bipush 10, 2) := by decide +kernel
theorem dX9_init_20 : decode cX9_init 20 = .ok (.newarray .int, 2) := by decide +kernel
theorem dX9_init_22 : decode cX9_init 22 = .ok (.putfield 17, 3) := by decide +kernel
theorem dX9_init_25 : decode cX9_init 25 = .ok (.aload_n 0, 1) := by decide +kernel
theorem dX9_init_26 : decode cX9_init 26 = .ok (.bipush 10, 2) := by decide +kernel
theorem dX9_init_28 : decode cX9_init 28 = .ok (.newarray .int, 2) := by decide +kernel
theorem dX9_init_30 : decode cX9_init 30 = .ok (.putfield 21, 3) := by decide +kernel
theorem dX9_init_33 : decode cX9_init 33 = .ok (.aload_n 0, 1) := by decide +kernel
theorem dX9_init_34 : decode cX9_init 34 = .ok (.bipush 10, 2) := by decide +kernel
theorem dX9_init_36 : decode cX9_init 36 = .ok (.newarray .int, 2) := by decide +kernel
theorem dX9_init_38 : decode cX9_init 38 = .ok (.putfield 24, 3) := by decide +kernel
theorem dX9_init_41 : decode cX9_init 41 = .ok (.aload_n 0, 1) := by decide +kernel
theorem dX9_init_42 : decode cX9_init 42 = .ok (.bipush 40, 2) := by decide +kernel
theorem dX9_init_44 : decode cX9_init 44 = .ok (.newarray .int, 2) := by decide +kernel
theorem dX9_init_46 : decode cX9_init 46 = .ok (.putfield 27, 3) := by decide +kernel
theorem dX9_init_49 : decode cX9_init 49 = .ok (.aload_n 0, 1) := by decide +kernel
theorem dX9_init_50 : decode cX9_init 50 = .ok (.sipush 10003, 3) := by decide +kernel
theorem dX9_init_53 : decode cX9_init 53 = .ok (.newarray .int, 2) := by decide +kernel
theorem dX9_init_55 : decode cX9_init 55 = .ok (.putfield 30, 3) := by decide +kernel
theorem dX9_init_58 : decode cX9_init 58 = .ok (.aload_n 0, 1) := by decide +kernel
theorem dX9_init_59 : decode cX9_init 59 = .ok (.sipush 10003, 3) := by decide +kernel
theorem dX9_init_62 : decode cX9_init 62 = .ok (.newarray .boolean, 2) := by decide +kernel
theorem dX9_init_64 : decode cX9_init 64 = .ok (.putfield 33, 3) := by decide +kernel
theorem dX9_init_67 : decode cX9_init 67 = .ok (.aload_n 0, 1) := by decide +kernel
theorem dX9_init_68 : decode cX9_init 68 = .ok (.ldc 36, 2) := by decide +kernel
theorem dX9_init_70 : decode cX9_init 70 = .ok (.newarray .int, 2) := by decide +kernel
theorem dX9_init_72 : decode cX9_init 72 = .ok (.putfield 37, 3) := by decide +kernel
theorem dX9_init_75 : decode cX9_init 75 = .ok (.aload_n 0, 1) := by decide +kernel
theorem dX9_init_76 : decode cX9_init 76 = .ok (.sipush 201, 3) := by decide +kernel
theorem dX9_init_79 : decode cX9_init 79 = .ok (.newarray .int, 2) := by decide +kernel
theorem dX9_init_81 : decode cX9_init 81 = .ok (.putfield 40, 3) := by decide +kernel
theorem dX9_init_84 : decode cX9_init 84 = .ok (.aload_n 0, 1) := by decide +kernel
theorem dX9_init_85 : decode cX9_init 85 = .ok (.sipush 201, 3) := by decide +kernel
theorem dX9_init_88 : decode cX9_init 88 = .ok (.newarray .int, 2) := by decide +kernel
theorem dX9_init_90 : decode cX9_init 90 = .ok (.putfield 43, 3) := by decide +kernel
theorem dX9_init_93 : decode cX9_init 93 = .ok (.aload_n 0, 1) := by decide +kernel
theorem dX9_init_94 : decode cX9_init 94 = .ok (.sipush 1300, 3) := by decide +kernel
theorem dX9_init_97 : decode cX9_init 97 = .ok (.newarray .int, 2) := by decide +kernel
theorem dX9_init_99 : decode cX9_init 99 = .ok (.putfield 46, 3) := by decide +kernel
theorem dX9_init_102 : decode cX9_init 102 = .ok (.aload_n 0, 1) := by decide +kernel
theorem dX9_init_103 : decode cX9_init 103 = .ok (.sipush 1300, 3) := by decide +kernel
theorem dX9_init_106 : decode cX9_init 106 = .ok (.newarray .int, 2) := by decide +kernel
theorem dX9_init_108 : decode cX9_init 108 = .ok (.putfield 49, 3) := by decide +kernel
theorem dX9_init_111 : decode cX9_init 111 = .ok (.aload_n 0, 1) := by decide +kernel
theorem dX9_init_112 : decode cX9_init 112 = .ok (.sipush 640, 3) := by decide +kernel
theorem dX9_init_115 : decode cX9_init 115 = .ok (.newarray .boolean, 2) := by decide +kernel
theorem dX9_init_117 : decode cX9_init 117 = .ok (.putfield 52, 3) := by decide +kernel
theorem dX9_init_120 : decode cX9_init 120 = .ok (.aload_n 0, 1) := by decide +kernel
theorem dX9_init_121 : decode cX9_init 121 = .ok (.bipush 8, 2) := by decide +kernel
theorem dX9_init_123 : decode cX9_init 123 = .ok (.newarray .boolean, 2) := by decide +kernel
theorem dX9_init_125 : decode cX9_init 125 = .ok (.putfield 55, 3) := by decide +kernel
theorem dX9_init_128 : decode cX9_init 128 = .ok (.aload_n 0, 1) := by decide +kernel
theorem dX9_init_129 : decode cX9_init 129 = .ok (.bipush 8, 2) := by decide +kernel
theorem dX9_init_131 : decode cX9_init 131 = .ok (.newarray .boolean, 2) := by decide +kernel
theorem dX9_init_133 : decode cX9_init 133 = .ok (.putfield 58, 3) := by decide +kernel
theorem dX9_init_136 : decode cX9_init 136 = .ok (.aload_n 0, 1) := by decide +kernel
theorem dX9_init_137 : decode cX9_init 137 = .ok (.invokevirtual 61, 3) := by decide +kernel
theorem dX9_init_140 : decode cX9_init 140 = .ok (.return_, 1) := by decide +kernel
theorem dX9_in_0 : decode cX9_in 0 = .ok (.iload_n 0, 1) := by decide +kernel
theorem dX9_in_1 : decode cX9_in 1 = .ok (.iload_n 1, 1) := by decide +kernel
theorem dX9_in_2 : decode cX9_in 2 = .ok (.if_icmp .lt 12, 3) := by decide +kernel
theorem dX9_in_5 : decode cX9_in 5 = .ok (.iload_n 0, 1) := by decide +kernel
theorem dX9_in_6 : decode cX9_in 6 = .ok (.iload_n 2, 1) := by decide +kernel
theorem dX9_in_7 : decode cX9_in 7 = .ok (.if_icmp .gt 7, 3) := by decide +kernel
theorem dX9_in_10 : decode cX9_in 10 = .ok (.iconst 1, 1) := by decide +kernel
theorem dX9_in_11 : decode cX9_in 11 = .ok (.goto 4, 3) := by decide +kernel
theorem dX9_in_14 : decode cX9_in 14 = .ok (.iconst 0, 1) := by decide +kernel
theorem dX9_in_15 : decode cX9_in 15 = .ok (.ireturn, 1) := by decide +kernel
set_option maxRecDepth 20000 in
theorem ggX9_isState_X9_in : GoodIn wsX9_isState wsX9_in := goodIn_r _ [5] (by decide +kernel) (by decide +kernel)
set_option maxRecDepth 20000 in
theorem gX9_isState_X9_in : GoodIn wsX9_isState (va_wsS RX9 64 yX9_in wsX9_in) := goodIn_app (goodIn_of _ (by decide +kernel)) ggX9_isState_X9_in
theorem dX9_isState_0 : decode cX9_isState 0 = .ok (.iload_n 1, 1) := by decide +kernel
theorem dX9_isState_1 : decode cX9_isState 1 = .ok (.iconst 0, 1) := by decide +kernel
theorem dX9_isState_2 : decode cX9_isState 2 = .ok (.aload_n 0, 1) := by decide +kernel
theorem dX9_isState_3 : decode cX9_isState 3 = .ok (.getfield 7, 3) := by decide +kernel
theorem dX9_isState_6 : decode cX9_isState 6 = .ok (.iconst 1, 1) := by decide +kernel
theorem dX9_isState_7 : decode cX9_isState 7 = .ok (.isub, 1) := by decide +kernel
theorem dX9_isState_8 : decode cX9_isState 8 = .ok (.invokestatic 64, 3) := by decide +kernel
theorem dX9_isState_11 : decode cX9_isState 11 = .ok (.ireturn, 1) := by decide +kernel
theorem dX9_begin_0 : decode cX9_begin 0 = .ok (.iconst 0, 1) := by decide +kernel
theorem dX9_begin_1 : decode cX9_begin 1 = .ok (.istore_n 1, 1) := by decide +kernel
theorem dX9_begin_2 : decode cX9_begin 2 = .ok (.iload_n 1, 1) := by decide +kernel
theorem dX9_begin_3 : decode cX9_begin 3 = .ok (.aload_n 0, 1) := by decide +kernel
theorem dX9_begin_4 : decode cX9_begin 4 = .ok (.getfield 30, 3) := by decide +kernel
theorem dX9_begin_7 : decode cX9_begin 7 = .ok (.arraylength, 1) := by decide +kernel
theorem dX9_begin_8 : decode cX9_begin 8 = .ok (.if_icmp .ge 23, 3) := by decide +kernel
theorem dX9_begin_11 : decode cX9_begin 11 = .ok (.aload_n 0, 1) := by decide +kernel
theorem dX9_begin_12 : decode cX9_begin 12 = .ok (.getfield 30, 3) := by decide +kernel
theorem dX9_begin_15 : decode cX9_begin 15 = .ok (.iload_n 1, 1) := by decide +kernel
theorem dX9_begin_16 : decode cX9_begin 16 = .ok (.iconst 0, 1) := by decide +kernel
theorem dX9_begin_17 : decode cX9_begin 17 = .ok (.iastore, 1) := by decide +kernel
theorem dX9_begin_18 : decode cX9_begin 18 = .ok (.aload_n 0, 1) := by decide +kernel
theorem dX9_begin_19 : decode cX9_begin 19 = .ok (.getfield 33, 3) := by decide +kernel
theorem dX9_begin_22 : decode cX9_begin 22 = .ok (.iload_n 1, 1) := by decide +kernel
theorem dX9_begin_23 : decode cX9_begin 23 = .ok (.iconst 0, 1) := by decide +kernel
theorem dX9_begin_24 : decode cX9_begin 24 = .ok (.bastore, 1) := by decide +kernel
theorem dX9_begin_25 : decode cX9_begin 25 = .ok (.iinc 1 1, 3) := by decide +kernel
theorem dX9_begin_28 : decode cX9_begin 28 = .ok (.goto (-26), 3) := by decide +kernel
theorem dX9_begin_31 : decode cX9_begin 31 = .ok (.aload_n 0, 1) := by decide +kernel
theorem dX9_begin_32 : decode cX9_begin 32 = .ok (.iconst 0, 1) := by decide +kernel
theorem dX9_begin_33 : decode cX9_begin 33 = .ok (.putfield 68, 3) := by decide +kernel
theorem dX9_begin_36 : decode cX9_begin 36 = .ok (.aload_n 0, 1) := by decide +kernel
theorem dX9_begin_37 : decode cX9_begin 37 = .ok (.iconst 0, 1) := by decide +kernel
theorem dX9_begin_38 : decode cX9_begin 38 = .ok (.putfield 71, 3) := by decide +kernel
theorem dX9_begin_41 : decode cX9_begin 41 = .ok (.aload_n 0, 1) := by decide +kernel
theorem dX9_begin_42 : decode cX9_begin 42 = .ok (.iconst 0, 1) := by decide +kernel
theorem dX9_begin_43 : decode cX9_begin 43 = .ok (.putfield 74, 3) := by decide +kernel
theorem dX9_begin_46 : decode cX9_begin 46 = .ok (.aload_n 0, 1) := by decide +kernel
theorem dX9_begin_47 : decode cX9_begin 47 = .ok (.getfield 33, 3) := by decide +kernel
theorem dX9_begin_50 : decode cX9_begin 50 = .ok (.sipush 5001, 3) := by decide +kernel
theorem dX9_begin_53 : decode cX9_begin 53 = .ok (.iconst 1, 1) := by decide +kernel
theorem dX9_begin_54 : decode cX9_begin 54 = .ok (.bastore, 1) := by decide +kernel
theorem dX9_begin_55 : decode cX9_begin 55 = .ok (.return_, 1) := by decide +kernel
theorem dX9_clearMachine_0 : decode cX9_clearMachine 0 = .ok (.aload_n 0, 1) := by decide +kernel
theorem dX9_clearMachine_1 : decode cX9_clearMachine 1 = .ok (.iload_n 1, 1) := by decide +kernel
theorem dX9_clearMachine_2 : decode cX9_clearMachine 2 = .ok (.putfield 7, 3) := by decide +kernel
theorem dX9_clearMachine_5 : decode cX9_clearMachine 5 = .ok (.iconst 0, 1) := by decide +kernel
theorem dX9_clearMachine_6 : decode cX9_clearMachine 6 = .ok (.istore_n 2, 1) := by decide +kernel
theorem dX9_clearMachine_7 : decode cX9_clearMachine 7 = .ok (.iload_n 2, 1) := by decide +kernel
theorem dX9_clearMachine_8 : decode cX9_clearMachine 8 = .ok (.bipush 10, 2) := by decide +kernel
theorem dX9_clearMachine_10 : decode cX9_clearMachine 10 = .ok (.if_icmp .ge 16, 3) := by decide +kernel
theorem dX9_clearMachine_13 : decode cX9_clearMachine 13 = .ok (.aload_n 0, 1) := by decide +kernel
theorem dX9_clearMachine_14 : decode cX9_clearMachine 14 = .ok (.getfield 13, 3) := by decide +kernel
theorem dX9_clearMachine_17 : decode cX9_clearMachine 17 = .ok (.iload_n 2, 1) := by decide +kernel
theorem dX9_clearMachine_18 : decode cX9_clearMachine 18 = .ok (.iconst 0, 1) := by decide +kernel
theorem dX9_clearMachine_19 : decode cX9_clearMachine 19 = .ok (.bastore, 1) := by decide +kernel
theorem dX9_clearMachine_20 : decode cX9_clearMachine 20 = .ok (.iinc 2 1, 3) := by decide +kernel
theorem dX9_clearMachine_23 : decode cX9_clearMachine 23 = .ok (.goto (-16), 3) := by decide +kernel
theorem dX9_clearMachine_26 : decode cX9_clearMachine 26 = .ok (.return_, 1) := by decide +kernel
set_option maxRecDepth 20000 in
theorem ggX9_setStates_X9_in : GoodIn wsX9_setStates wsX9_in := goodIn_r _ [5] (by decide +kernel) (by decide +kernel)
set_option maxRecDepth 20000 in
theorem gX9_setStates_X9_in : GoodIn wsX9_setStates (va_wsS RX9 64 yX9_in wsX9_in) := goodIn_app (goodIn_of _ (by decide +kernel)) ggX9_setStates_X9_in
set_option maxRecDepth 20000 in
theorem ggX9_setStates_X9_clearMachine : GoodIn wsX9_setStates wsX9_clearMachine := goodIn_r _ [9, 1, 10, 20, 21, 22, 23, 24, 25, 26, 27, 28, 29, 30, 31, 32, 33, 34, 35, 36, 37, 38, 39, 40, 41, 42, 43, 44, 45, 46, 47, 48, 49] (by decide +kernel) (by decide +kernel)
set_option maxRecDepth 20000 in
theorem gX9_setStates_X9_clearMachine : GoodIn wsX9_setStates (wsV RX9 77 RX9 yX9_clearMachine wsX9_clearMachine) := goodIn_app (goodIn_of _ (by decide +kernel)) ggX9_setStates_X9_clearMachine
set_option maxRecDepth 20000 in
theorem ggX9_setStates_X9_begin : GoodIn wsX9_setStates wsX9_begin := goodIn_r _ [14, 15, 16, 17, 18, 19, 20, 21, 22, 23, 24, 25, 26, 27, 28, 29, 30, 31, 32, 33, 34, 35, 36, 37, 38, 39, 40, 41, 42, 43, 44, 45, 46, 47, 48, 49] (by decide +kernel) (by decide +kernel)
set_option maxRecDepth 20000 in
theorem gX9_setStates_X9_begin : GoodIn wsX9_setStates (wsV RX9 61 RX9 yX9_begin wsX9_begin) := goodIn_app (goodIn_of _ (by decide +kernel)) ggX9_setStates_X9_begin
theorem dX9_setStates_0 : decode cX9_setStates 0 = .ok (.iload_n 1, 1) := by decide +kernel
theorem dX9_setStates_1 : decode cX9_setStates 1 = .ok (.iconst 1, 1) := by decide +kernel
theorem dX9_setStates_2 : decode cX9_setStates 2 = .ok (.iconst 5, 1) := by decide +kernel
theorem dX9_setStates_3 : decode cX9_setStates 3 = .ok (.invokestatic 64, 3) := by decide +kernel
theorem dX9_setStates_6 : decode cX9_setStates 6 = .ok (.ifCond .ne 7, 3) := by decide +kernel
theorem dX9_setStates_9 : decode cX9_setStates 9 = .ok (.sipush (-1002), 3) := by decide +kernel
theorem dX9_setStates_12 : decode cX9_setStates 12 = .ok (.ireturn, 1) := by decide +kernel
theorem dX9_setStates_13 : decode cX9_setStates 13 = .ok (.aload_n 0, 1) := by decide +kernel
theorem dX9_setStates_14 : decode cX9_setStates 14 = .ok (.getfield 7, 3) := by decide +kernel
theorem dX9_setStates_17 : decode cX9_setStates 17 = .ok (.istore_n 2, 1) := by decide +kernel
theorem dX9_setStates_18 : decode cX9_setStates 18 = .ok (.aload_n 0, 1) := by decide +kernel
theorem dX9_setStates_19 : decode cX9_setStates 19 = .ok (.iload_n 1, 1) := by decide +kernel
theorem dX9_setStates_20 : decode cX9_setStates 20 = .ok (.invokevirtual 77, 3) := by decide +kernel
theorem dX9_setStates_23 : decode cX9_setStates 23 = .ok (.aload_n 0, 1) := by decide +kernel
theorem dX9_setStates_24 : decode cX9_setStates 24 = .ok (.invokevirtual 61, 3) := by decide +kernel
theorem dX9_setStates_27 : decode cX9_setStates 27 = .ok (.iload_n 2, 1) := by decide +kernel
theorem dX9_setStates_28 : decode cX9_setStates 28 = .ok (.ireturn, 1) := by decide +kernel
theorem dX9_states_0 : decode cX9_states 0 = .ok (.aload_n 0, 1) := by decide +kernel
theorem dX9_states_1 : decode cX9_states 1 = .ok (.getfield 7, 3) := by decide +kernel
theorem dX9_states_4 : decode cX9_states 4 = .ok (.ireturn, 1) := by decide +kernel
theorem dX9_lay_0 : decode cX9_lay 0 = .ok (.aload_n 0, 1) := by decide +kernel
theorem dX9_lay_1 : decode cX9_lay 1 = .ok (.getfield 13, 3) := by decide +kernel
theorem dX9_lay_4 : decode cX9_lay 4 = .ok (.iload_n 1, 1) := by decide +kernel
theorem dX9_lay_5 : decode cX9_lay 5 = .ok (.iconst 1, 1) := by decide +kernel
theorem dX9_lay_6 : decode cX9_lay 6 = .ok (.bastore, 1) := by decide +kernel
theorem dX9_lay_7 : decode cX9_lay 7 = .ok (.aload_n 0, 1) := by decide +kernel
theorem dX9_lay_8 : decode cX9_lay 8 = .ok (.getfield 17, 3) := by decide +kernel
theorem dX9_lay_11 : decode cX9_lay 11 = .ok (.iload_n 1, 1) := by decide +kernel
theorem dX9_lay_12 : decode cX9_lay 12 = .ok (.iload_n 2, 1) := by decide +kernel
theorem dX9_lay_13 : decode cX9_lay 13 = .ok (.iastore, 1) := by decide +kernel
theorem dX9_lay_14 : decode cX9_lay 14 = .ok (.aload_n 0, 1) := by decide +kernel
theorem dX9_lay_15 : decode cX9_lay 15 = .ok (.getfield 21, 3) := by decide +kernel
theorem dX9_lay_18 : decode cX9_lay 18 = .ok (.iload_n 1, 1) := by decide +kernel
theorem dX9_lay_19 : decode cX9_lay 19 = .ok (.iload_n 3, 1) := by decide +kernel
theorem dX9_lay_20 : decode cX9_lay 20 = .ok (.iastore, 1) := by decide +kernel
theorem dX9_lay_21 : decode cX9_lay 21 = .ok (.aload_n 0, 1) := by decide +kernel
theorem dX9_lay_22 : decode cX9_lay 22 = .ok (.getfield 24, 3) := by decide +kernel
theorem dX9_lay_25 : decode cX9_lay 25 = .ok (.iload_n 1, 1) := by decide +kernel
theorem dX9_lay_26 : decode cX9_lay 26 = .ok (.iload 4, 2) := by decide +kernel
theorem dX9_lay_28 : decode cX9_lay 28 = .ok (.iastore, 1) := by decide +kernel
theorem dX9_lay_29 : decode cX9_lay 29 = .ok (.return_, 1) := by decide +kernel
set_option maxRecDepth 20000 in
theorem ggX9_setTransition_X9_isState : GoodIn wsX9_setTransition wsX9_isState := goodIn_r _ [6, 7, 8, 9, 5, 10, 27, 28, 29, 30, 31, 32, 33, 34, 35, 36, 37, 38, 39, 40, 41, 42, 43, 44, 45, 46, 47, 48, 49, 50, 51, 52, 53, 54, 55, 56] (by decide +kernel) (by decide +kernel)
set_option maxRecDepth 20000 in
theorem gX9_setTransition_X9_isState : GoodIn wsX9_setTransition (wsV RX9 81 RX9 yX9_isState wsX9_isState) := goodIn_app (goodIn_of _ (by decide +kernel)) ggX9_setTransition_X9_isState
set_option maxRecDepth 20000 in
theorem ggX9_setTransition_X9_in : GoodIn wsX9_setTransition wsX9_in := goodIn_r _ [10] (by decide +kernel) (by decide +kernel)
set_option maxRecDepth 20000 in
theorem gX9_setTransition_X9_in : GoodIn wsX9_setTransition (va_wsS RX9 64 yX9_in wsX9_in) := goodIn_app (goodIn_of _ (by decide +kernel)) ggX9_setTransition_X9_in
set_option maxRecDepth 20000 in
theorem ggX9_setTransition_X9_lay : GoodIn wsX9_setTransition wsX9_lay := goodIn_r _ [14, 1, 15, 16, 17, 27, 28, 29, 30, 31, 32, 33, 34, 35, 36, 37, 38, 39, 40, 41, 42, 43, 44, 45, 46, 47, 48, 49, 50, 51, 52, 53, 54, 55, 56] (by decide +kernel) (by decide +kernel)
set_option maxRecDepth 20000 in
theorem gX9_setTransition_X9_lay : GoodIn wsX9_setTransition (wsV RX9 85 RX9 yX9_lay wsX9_lay) := goodIn_app (goodIn_of _ (by decide +kernel)) ggX9_setTransition_X9_lay
set_option maxRecDepth 20000 in
theorem ggX9_setTransition_X9_begin : GoodIn wsX9_setTransition wsX9_begin := goodIn_r _ [21, 22, 23, 24, 25, 26, 27, 28, 29, 30, 31, 32, 33, 34, 35, 36, 37, 38, 39, 40, 41, 42, 43, 44, 45, 46, 47, 48, 49, 50, 51, 52, 53, 54, 55, 56] (by decide +kernel) (by decide +kernel)
set_option maxRecDepth 20000 in
theorem gX9_setTransition_X9_begin : GoodIn wsX9_setTransition (wsV RX9 61 RX9 yX9_begin wsX9_begin) := goodIn_app (goodIn_of _ (by decide +kernel)) ggX9_setTransition_X9_begin
theorem dX9_setTransition_0 : decode cX9_setTransition 0 = .ok (.aload_n 0, 1) := by decide +kernel
theorem dX9_setTransition_1 : decode cX9_setTransition 1 = .ok (.iload_n 1, 1) := by decide +kernel
theorem dX9_setTransition_2 : decode cX9_setTransition 2 = .ok (.invokevirtual 81, 3) := by decide +kernel
theorem dX9_setTransition_5 : decode cX9_setTransition 5 = .ok (.ifCond .eq 19, 3) := by decide +kernel
theorem dX9_setTransition_8 : decode cX9_setTransition 8 = .ok (.aload_n 0, 1) := by decide +kernel
theorem dX9_setTransition_9 : decode cX9_setTransition 9 = .ok (.iload 5, 2) := by decide +kernel
theorem dX9_setTransition_11 : decode cX9_setTransition 11 = .ok (.invokevirtual 81, 3) := by decide +kernel
theorem dX9_setTransition_14 : decode cX9_setTransition 14 = .ok (.ifCond .ne 14, 3) := by decide +kernel
theorem dX9_setTransition_17 : decode cX9_setTransition 17 = .ok (.iload 5, 2) := by decide +kernel
theorem dX9_setTransition_19 : decode cX9_setTransition 19 = .ok (.bipush 9, 2) := by decide +kernel
theorem dX9_setTransition_21 : decode cX9_setTransition 21 = .ok (.if_icmp .eq 7, 3) := by decide +kernel
theorem dX9_setTransition_24 : decode cX9_setTransition 24 = .ok (.sipush (-1001), 3) := by decide +kernel
theorem dX9_setTransition_27 : decode cX9_setTransition 27 = .ok (.ireturn, 1) := by decide +kernel
theorem dX9_setTransition_28 : decode cX9_setTransition 28 = .ok (.iload_n 2, 1) := by decide +kernel
theorem dX9_setTransition_29 : decode cX9_setTransition 29 = .ok (.iconst 0, 1) := by decide +kernel
theorem dX9_setTransition_30 : decode cX9_setTransition 30 = .ok (.iconst 1, 1) := by decide +kernel
theorem dX9_setTransition_31 : decode cX9_setTransition 31 = .ok (.invokestatic 64, 3) := by decide +kernel
theorem dX9_setTransition_34 : decode cX9_setTransition 34 = .ok (.ifCond .eq 22, 3) := by decide +kernel
theorem dX9_setTransition_37 : decode cX9_setTransition 37 = .ok (.iload_n 3, 1) := by decide +kernel
theorem dX9_setTransition_38 : decode cX9_setTransition 38 = .ok (.iconst 0, 1) := by decide +kernel
theorem dX9_setTransition_39 : decode cX9_setTransition 39 = .ok (.iconst 1, 1) := by decide +kernel
theorem dX9_setTransition_40 : decode cX9_setTransition 40 = .ok (.invokestatic 64, 3) := by decide +kernel
theorem dX9_setTransition_43 : decode cX9_setTransition 43 = .ok (.ifCond .eq 13, 3) := by decide +kernel
theorem dX9_setTransition_46 : decode cX9_setTransition 46 = .ok (.iload 4, 2) := by decide +kernel
theorem dX9_setTransition_48 : decode cX9_setTransition 48 = .ok (.iconst 0, 1) := by decide +kernel
theorem dX9_setTransition_49 : decode cX9_setTransition 49 = .ok (.iconst 1, 1) := by decide +kernel
theorem dX9_setTransition_50 : decode cX9_setTransition 50 = .ok (.invokestatic 64, 3) := by decide +kernel
theorem dX9_setTransition_53 : decode cX9_setTransition 53 = .ok (.ifCond .ne 7, 3) := by decide +kernel
theorem dX9_setTransition_56 : decode cX9_setTransition 56 = .ok (.sipush (-1002), 3) := by decide +kernel
theorem dX9_setTransition_59 : decode cX9_setTransition 59 = .ok (.ireturn, 1) := by decide +kernel
theorem dX9_setTransition_60 : decode cX9_setTransition 60 = .ok (.aload_n 0, 1) := by decide +kernel
theorem dX9_setTransition_61 : decode cX9_setTransition 61 = .ok (.getfield 13, 3) := by decide +kernel
theorem dX9_setTransition_64 : decode cX9_setTransition 64 = .ok (.iconst 2, 1) := by decide +kernel
theorem dX9_setTransition_65 : decode cX9_setTransition 65 = .ok (.iload_n 1, 1) := by decide +kernel
theorem dX9_setTransition_66 : decode cX9_setTransition 66 = .ok (.imul, 1) := by decide +kernel
theorem dX9_setTransition_67 : decode cX9_setTransition 67 = .ok (.iload_n 2, 1) := by decide +kernel
theorem dX9_setTransition_68 : decode cX9_setTransition 68 = .ok (.iadd, 1) := by decide +kernel
theorem dX9_setTransition_69 : decode cX9_setTransition 69 = .ok (.baload, 1) := by decide +kernel
theorem dX9_setTransition_70 : decode cX9_setTransition 70 = .ok (.ifCond .eq 7, 3) := by decide +kernel
theorem dX9_setTransition_73 : decode cX9_setTransition 73 = .ok (.iconst 1, 1) := by decide +kernel
theorem dX9_setTransition_74 : decode cX9_setTransition 74 = .ok (.goto 4, 3) := by decide +kernel
theorem dX9_setTransition_77 : decode cX9_setTransition 77 = .ok (.iconst 0, 1) := by decide +kernel
theorem dX9_setTransition_78 : decode cX9_setTransition 78 = .ok (.istore 6, 2) := by decide +kernel
theorem dX9_setTransition_80 : decode cX9_setTransition 80 = .ok (.aload_n 0, 1) := by decide +kernel
theorem dX9_setTransition_81 : decode cX9_setTransition 81 = .ok (.iconst 2, 1) := by decide +kernel
theorem dX9_setTransition_82 : decode cX9_setTransition 82 = .ok (.iload_n 1, 1) := by decide +kernel
theorem dX9_setTransition_83 : decode cX9_setTransition 83 = .ok (.imul, 1) := by decide +kernel
theorem dX9_setTransition_84 : decode cX9_setTransition 84 = .ok (.iload_n 2, 1) := by decide +kernel
theorem dX9_setTransition_85 : decode cX9_setTransition 85 = .ok (.iadd, 1) := by decide +kernel
theorem dX9_setTransition_86 : decode cX9_setTransition 86 = .ok (.iload_n 3, 1) := by decide +kernel
theorem dX9_setTransition_87 : decode cX9_setTransition 87 = .ok (.iload 4, 2) := by decide +kernel
theorem dX9_setTransition_89 : decode cX9_setTransition 89 = .ok (.iload 5, 2) := by decide +kernel
theorem dX9_setTransition_91 : decode cX9_setTransition 91 = .ok (.invokevirtual 85, 3) := by decide +kernel
theorem dX9_setTransition_94 : decode cX9_setTransition 94 = .ok (.aload_n 0, 1) := by decide +kernel
theorem dX9_setTransition_95 : decode cX9_setTransition 95 = .ok (.invokevirtual 61, 3) := by decide +kernel
theorem dX9_setTransition_98 : decode cX9_setTransition 98 = .ok (.iload 6, 2) := by decide +kernel
theorem dX9_setTransition_100 : decode cX9_setTransition 100 = .ok (.ireturn, 1) := by decide +kernel
set_option maxRecDepth 20000 in
theorem ggX9_wrong_X9_isState : GoodIn wsX9_wrong wsX9_isState := goodIn_r _ [6, 7, 8, 9, 5, 10, 11, 12, 13, 14, 15, 16, 17, 18, 19, 20, 21, 22, 23, 24, 25, 26, 27, 28, 29, 30, 31, 32, 33, 34, 35, 36, 37, 38, 39, 40] (by decide +kernel) (by decide +kernel)
set_option maxRecDepth 20000 in
theorem gX9_wrong_X9_isState : GoodIn wsX9_wrong (wsV RX9 81 RX9 yX9_isState wsX9_isState) := goodIn_app (goodIn_of _ (by decide +kernel)) ggX9_wrong_X9_isState
set_option maxRecDepth 20000 in
theorem ggX9_wrong_X9_in : GoodIn wsX9_wrong wsX9_in := goodIn_r _ [10] (by decide +kernel) (by decide +kernel)
set_option maxRecDepth 20000 in
theorem gX9_wrong_X9_in : GoodIn wsX9_wrong (va_wsS RX9 64 yX9_in wsX9_in) := goodIn_app (goodIn_of _ (by decide +kernel)) ggX9_wrong_X9_in
theorem dX9_wrong_0 : decode cX9_wrong 0 = .ok (.aload_n 0, 1) := by decide +kernel
theorem dX9_wrong_1 : decode cX9_wrong 1 = .ok (.iload_n 1, 1) := by decide +kernel
theorem dX9_wrong_2 : decode cX9_wrong 2 = .ok (.invokevirtual 81, 3) := by decide +kernel
theorem dX9_wrong_5 : decode cX9_wrong 5 = .ok (.ifCond .ne 7, 3) := by decide +kernel
theorem dX9_wrong_8 : decode cX9_wrong 8 = .ok (.sipush (-1001), 3) := by decide +kernel
theorem dX9_wrong_11 : decode cX9_wrong 11 = .ok (.ireturn, 1) := by decide +kernel
theorem dX9_wrong_12 : decode cX9_wrong 12 = .ok (.iload_n 2, 1) := by decide +kernel
theorem dX9_wrong_13 : decode cX9_wrong 13 = .ok (.iconst 0, 1) := by decide +kernel
theorem dX9_wrong_14 : decode cX9_wrong 14 = .ok (.iconst 1, 1) := by decide +kernel
theorem dX9_wrong_15 : decode cX9_wrong 15 = .ok (.invokestatic 64, 3) := by decide +kernel
theorem dX9_wrong_18 : decode cX9_wrong 18 = .ok (.ifCond .ne 7, 3) := by decide +kernel
theorem dX9_wrong_21 : decode cX9_wrong 21 = .ok (.sipush (-1002), 3) := by decide +kernel
theorem dX9_wrong_24 : decode cX9_wrong 24 = .ok (.ireturn, 1) := by decide +kernel
theorem dX9_wrong_25 : decode cX9_wrong 25 = .ok (.aload_n 0, 1) := by decide +kernel
theorem dX9_wrong_26 : decode cX9_wrong 26 = .ok (.getfield 13, 3) := by decide +kernel
theorem dX9_wrong_29 : decode cX9_wrong 29 = .ok (.iconst 2, 1) := by decide +kernel
theorem dX9_wrong_30 : decode cX9_wrong 30 = .ok (.iload_n 1, 1) := by decide +kernel
theorem dX9_wrong_31 : decode cX9_wrong 31 = .ok (.imul, 1) := by decide +kernel
theorem dX9_wrong_32 : decode cX9_wrong 32 = .ok (.iload_n 2, 1) := by decide +kernel
theorem dX9_wrong_33 : decode cX9_wrong 33 = .ok (.iadd, 1) := by decide +kernel
theorem dX9_wrong_34 : decode cX9_wrong 34 = .ok (.baload, 1) := by decide +kernel
theorem dX9_wrong_35 : decode cX9_wrong 35 = .ok (.ifCond .eq 7, 3) := by decide +kernel
theorem dX9_wrong_38 : decode cX9_wrong 38 = .ok (.iconst 0, 1) := by decide +kernel
theorem dX9_wrong_39 : decode cX9_wrong 39 = .ok (.goto 6, 3) := by decide +kernel
theorem dX9_wrong_42 : decode cX9_wrong 42 = .ok (.sipush (-1003), 3) := by decide +kernel
theorem dX9_wrong_45 : decode cX9_wrong 45 = .ok (.ireturn, 1) := by decide +kernel
set_option maxRecDepth 20000 in
theorem ggX9_removeTransition_X9_wrong : GoodIn wsX9_removeTransition wsX9_wrong := goodIn_r _ [6, 1, 7, 8, 9, 5, 10, 11, 12, 13, 14, 24, 25, 26, 27, 28, 29, 30, 31, 32, 33, 34, 35, 36, 37, 38, 39, 40, 41, 42, 43, 44, 45, 46, 47, 48, 49, 50, 51, 52, 53] (by decide +kernel) (by decide +kernel)
set_option maxRecDepth 20000 in
theorem gX9_removeTransition_X9_wrong : GoodIn wsX9_removeTransition (wsV RX9 89 RX9 yX9_wrong wsX9_wrong) := goodIn_app (goodIn_of _ (by decide +kernel)) ggX9_removeTransition_X9_wrong
set_option maxRecDepth 20000 in
theorem ggX9_removeTransition_X9_begin : GoodIn wsX9_removeTransition wsX9_begin := goodIn_r _ [18, 19, 20, 21, 22, 23, 24, 25, 26, 27, 28, 29, 30, 31, 32, 33, 34, 35, 36, 37, 38, 39, 40, 41, 42, 43, 44, 45, 46, 47, 48, 49, 50, 51, 52, 53] (by decide +kernel) (by decide +kernel)
set_option maxRecDepth 20000 in
theorem gX9_removeTransition_X9_begin : GoodIn wsX9_removeTransition (wsV RX9 61 RX9 yX9_begin wsX9_begin) := goodIn_app (goodIn_of _ (by decide +kernel)) ggX9_removeTransition_X9_begin
theorem dX9_removeTransition_0 : decode cX9_removeTransition 0 = .ok (.aload_n 0, 1) := by decide +kernel
theorem dX9_removeTransition_1 : decode cX9_removeTransition 1 = .ok (.iload_n 1, 1) := by decide +kernel
theorem dX9_removeTransition_2 : decode cX9_removeTransition 2 = .ok (.iload_n 2, 1) := by decide +kernel
theorem dX9_removeTransition_3 : decode cX9_removeTransition 3 = .ok (.invokevirtual 89, 3) := by decide +kernel
theorem dX9_removeTransition_6 : decode cX9_removeTransition 6 = .ok (.istore_n 3, 1) := by decide +kernel
theorem dX9_removeTransition_7 : decode cX9_removeTransition 7 = .ok (.iload_n 3, 1) := by decide +kernel
theorem dX9_removeTransition_8 : decode cX9_removeTransition 8 = .ok (.ifCond .eq 5, 3) := by decide +kernel
theorem dX9_removeTransition_11 : decode cX9_removeTransition 11 = .ok (.iload_n 3, 1) := by decide +kernel
theorem dX9_removeTransition_12 : decode cX9_removeTransition 12 = .ok (.ireturn, 1) := by decide +kernel
theorem dX9_removeTransition_13 : decode cX9_removeTransition 13 = .ok (.aload_n 0, 1) := by decide +kernel
theorem dX9_removeTransition_14 : decode cX9_removeTransition 14 = .ok (.getfield 13, 3) := by decide +kernel
theorem dX9_removeTransition_17 : decode cX9_removeTransition 17 = .ok (.iconst 2, 1) := by decide +kernel
theorem dX9_removeTransition_18 : decode cX9_removeTransition 18 = .ok (.iload_n 1, 1) := by decide +kernel
theorem dX9_removeTransition_19 : decode cX9_removeTransition 19 = .ok (.imul, 1) := by decide +kernel
theorem dX9_removeTransition_20 : decode cX9_removeTransition 20 = .ok (.iload_n 2, 1) := by decide +kernel
theorem dX9_removeTransition_21 : decode cX9_removeTransition 21 = .ok (.iadd, 1) := by decide +kernel
theorem dX9_removeTransition_22 : decode cX9_removeTransition 22 = .ok (.iconst 0, 1) := by decide +kernel
theorem dX9_removeTransition_23 : decode cX9_removeTransition 23 = .ok (.bastore, 1) := by decide +kernel
theorem dX9_removeTransition_24 : decode cX9_removeTransition 24 = .ok (.aload_n 0, 1) := by decide +kernel
theorem dX9_removeTransition_25 : decode cX9_removeTransition 25 = .ok (.invokevirtual 61, 3) := by decide +kernel
theorem dX9_removeTransition_28 : decode cX9_removeTransition 28 = .ok (.iconst 1, 1) := by decide +kernel
theorem dX9_removeTransition_29 : decode cX9_removeTransition 29 = .ok (.ireturn, 1) := by decide +kernel
set_option maxRecDepth 20000 in
theorem ggX9_writes_X9_wrong : GoodIn wsX9_writes wsX9_wrong := goodIn_r _ [6, 7, 8, 9, 10, 5, 11, 12, 13, 14, 15, 16, 17, 18, 19, 20, 21, 22, 23, 24, 25, 26, 27, 28, 29, 30, 31, 32, 33, 34, 35, 36, 37, 38, 39, 40, 41, 42, 43, 44, 45] (by decide +kernel) (by decide +kernel)
set_option maxRecDepth 20000 in
theorem gX9_writes_X9_wrong : GoodIn wsX9_writes (wsV RX9 89 RX9 yX9_wrong wsX9_wrong) := goodIn_app (goodIn_of _ (by decide +kernel)) ggX9_writes_X9_wrong
theorem dX9_writes_0 : decode cX9_writes 0 = .ok (.aload_n 0, 1) := by decide +kernel
theorem dX9_writes_1 : decode cX9_writes 1 = .ok (.iload_n 1, 1) := by decide +kernel
theorem dX9_writes_2 : decode cX9_writes 2 = .ok (.iload_n 2, 1) := by decide +kernel
theorem dX9_writes_3 : decode cX9_writes 3 = .ok (.invokevirtual 89, 3) := by decide +kernel
theorem dX9_writes_6 : decode cX9_writes 6 = .ok (.istore_n 3, 1) := by decide +kernel
theorem dX9_writes_7 : decode cX9_writes 7 = .ok (.iload_n 3, 1) := by decide +kernel
theorem dX9_writes_8 : decode cX9_writes 8 = .ok (.ifCond .eq 7, 3) := by decide +kernel
theorem dX9_writes_11 : decode cX9_writes 11 = .ok (.iload_n 3, 1) := by decide +kernel
theorem dX9_writes_12 : decode cX9_writes 12 = .ok (.goto 13, 3) := by decide +kernel
theorem dX9_writes_15 : decode cX9_writes 15 = .ok (.aload_n 0, 1) := by decide +kernel
theorem dX9_writes_16 : decode cX9_writes 16 = .ok (.getfield 17, 3) := by decide +kernel
theorem dX9_writes_19 : decode cX9_writes 19 = .ok (.iconst 2, 1) := by decide +kernel
theorem dX9_writes_20 : decode cX9_writes 20 = .ok (.iload_n 1, 1) := by decide +kernel
theorem dX9_writes_21 : decode cX9_writes 21 = .ok (.imul, 1) := by decide +kernel
theorem dX9_writes_22 : decode cX9_writes 22 = .ok (.iload_n 2, 1) := by decide +kernel
theorem dX9_writes_23 : decode cX9_writes 23 = .ok (.iadd, 1) := by decide +kernel
theorem dX9_writes_24 : decode cX9_writes 24 = .ok (.iaload, 1) := by decide +kernel
theorem dX9_writes_25 : decode cX9_writes 25 = .ok (.ireturn, 1) := by decide +kernel
set_option maxRecDepth 20000 in
theorem ggX9_moves_X9_wrong : GoodIn wsX9_moves wsX9_wrong := goodIn_r _ [6, 7, 8, 9, 10, 5, 11, 12, 13, 14, 15, 16, 17, 18, 19, 20, 21, 22, 23, 24, 25, 26, 27, 28, 29, 30, 31, 32, 33, 34, 35, 36, 37, 38, 39, 40, 41, 42, 43, 44, 45] (by decide +kernel) (by decide +kernel)
set_option maxRecDepth 20000 in
theorem gX9_moves_X9_wrong : GoodIn wsX9_moves (wsV RX9 89 RX9 yX9_wrong wsX9_wrong) := goodIn_app (goodIn_of _ (by decide +kernel)) ggX9_moves_X9_wrong
theorem dX9_moves_0 : decode cX9_moves 0 = .ok (.aload_n 0, 1) := by decide +kernel
theorem dX9_moves_1 : decode cX9_moves 1 = .ok (.iload_n 1, 1) := by decide +kernel
theorem dX9_moves_2 : decode cX9_moves 2 = .ok (.iload_n 2, 1) := by decide +kernel
theorem dX9_moves_3 : decode cX9_moves 3 = .ok (.invokevirtual 89, 3) := by decide +kernel
theorem dX9_moves_6 : decode cX9_moves 6 = .ok (.istore_n 3, 1) := by decide +kernel
theorem dX9_moves_7 : decode cX9_moves 7 = .ok (.iload_n 3, 1) := by decide +kernel
theorem dX9_moves_8 : decode cX9_moves 8 = .ok (.ifCond .eq 7, 3) := by decide +kernel
theorem dX9_moves_11 : decode cX9_moves 11 = .ok (.iload_n 3, 1) := by decide +kernel
theorem dX9_moves_12 : decode cX9_moves 12 = .ok (.goto 13, 3) := by decide +kernel
theorem dX9_moves_15 : decode cX9_moves 15 = .ok (.aload_n 0, 1) := by decide +kernel
theorem dX9_moves_16 : decode cX9_moves 16 = .ok (.getfield 21, 3) := by decide +kernel
theorem dX9_moves_19 : decode cX9_moves 19 = .ok (.iconst 2, 1) := by decide +kernel
theorem dX9_moves_20 : decode cX9_moves 20 = .ok (.iload_n 1, 1) := by decide +kernel
theorem dX9_moves_21 : decode cX9_moves 21 = .ok (.imul, 1) := by decide +kernel
theorem dX9_moves_22 : decode cX9_moves 22 = .ok (.iload_n 2, 1) := by decide +kernel
theorem dX9_moves_23 : decode cX9_moves 23 = .ok (.iadd, 1) := by decide +kernel
theorem dX9_moves_24 : decode cX9_moves 24 = .ok (.iaload, 1) := by decide +kernel
theorem dX9_moves_25 : decode cX9_moves 25 = .ok (.ireturn, 1) := by decide +kernel
set_option maxRecDepth 20000 in
theorem ggX9_next_X9_wrong : GoodIn wsX9_next wsX9_wrong := goodIn_r _ [6, 7, 8, 9, 10, 5, 11, 12, 13, 14, 15, 16, 17, 18, 19, 20, 21, 22, 23, 24, 25, 26, 27, 28, 29, 30, 31, 32, 33, 34, 35, 36, 37, 38, 39, 40, 41, 42, 43, 44, 45] (by decide +kernel) (by decide +kernel)
set_option maxRecDepth 20000 in
theorem gX9_next_X9_wrong : GoodIn wsX9_next (wsV RX9 89 RX9 yX9_wrong wsX9_wrong) := goodIn_app (goodIn_of _ (by decide +kernel)) ggX9_next_X9_wrong
theorem dX9_next_0 : decode cX9_next 0 = .ok (.aload_n 0, 1) := by decide +kernel
theorem dX9_next_1 : decode cX9_next 1 = .ok (.iload_n 1, 1) := by decide +kernel
theorem dX9_next_2 : decode cX9_next 2 = .ok (.iload_n 2, 1) := by decide +kernel
theorem dX9_next_3 : decode cX9_next 3 = .ok (.invokevirtual 89, 3) := by decide +kernel
theorem dX9_next_6 : decode cX9_next 6 = .ok (.istore_n 3, 1) := by decide +kernel
theorem dX9_next_7 : decode cX9_next 7 = .ok (.iload_n 3, 1) := by decide +kernel
theorem dX9_next_8 : decode cX9_next 8 = .ok (.ifCond .eq 7, 3) := by decide +kernel
theorem dX9_next_11 : decode cX9_next 11 = .ok (.iload_n 3, 1) := by decide +kernel
theorem dX9_next_12 : decode cX9_next 12 = .ok (.goto 13, 3) := by decide +kernel
theorem dX9_next_15 : decode cX9_next 15 = .ok (.aload_n 0, 1) := by decide +kernel
theorem dX9_next_16 : decode cX9_next 16 = .ok (.getfield 24, 3) := by decide +kernel
theorem dX9_next_19 : decode cX9_next 19 = .ok (.iconst 2, 1) := by decide +kernel
theorem dX9_next_20 : decode cX9_next 20 = .ok (.iload_n 1, 1) := by decide +kernel
theorem dX9_next_21 : decode cX9_next 21 = .ok (.imul, 1) := by decide +kernel
theorem dX9_next_22 : decode cX9_next 22 = .ok (.iload_n 2, 1) := by decide +kernel
theorem dX9_next_23 : decode cX9_next 23 = .ok (.iadd, 1) := by decide +kernel
theorem dX9_next_24 : decode cX9_next 24 = .ok (.iaload, 1) := by decide +kernel
theorem dX9_next_25 : decode cX9_next 25 = .ok (.ireturn, 1) := by decide +kernel
set_option maxRecDepth 20000 in
theorem ggX9_type_X9_in : GoodIn wsX9_type wsX9_in := goodIn_r _ [6] (by decide +kernel) (by decide +kernel)
set_option maxRecDepth 20000 in
theorem gX9_type_X9_in : GoodIn wsX9_type (va_wsS RX9 64 yX9_in wsX9_in) := goodIn_app (goodIn_of _ (by decide +kernel)) ggX9_type_X9_in
theorem dX9_type_0 : decode cX9_type 0 = .ok (.iload_n 1, 1) := by decide +kernel
theorem dX9_type_1 : decode cX9_type 1 = .ok (.bipush 33, 2) := by decide +kernel
theorem dX9_type_3 : decode cX9_type 3 = .ok (.bipush 126, 2) := by decide +kernel
theorem dX9_type_5 : decode cX9_type 5 = .ok (.invokestatic 64, 3) := by decide +kernel
theorem dX9_type_8 : decode cX9_type 8 = .ok (.ifCond .ne 7, 3) := by decide +kernel
theorem dX9_type_11 : decode cX9_type 11 = .ok (.sipush (-1002), 3) := by decide +kernel
theorem dX9_type_14 : decode cX9_type 14 = .ok (.ireturn, 1) := by decide +kernel
theorem dX9_type_15 : decode cX9_type 15 = .ok (.aload_n 0, 1) := by decide +kernel
theorem dX9_type_16 : decode cX9_type 16 = .ok (.getfield 93, 3) := by decide +kernel
theorem dX9_type_19 : decode cX9_type 19 = .ok (.bipush 40, 2) := by decide +kernel
theorem dX9_type_21 : decode cX9_type 21 = .ok (.if_icmp .ne 7, 3) := by decide +kernel
theorem dX9_type_24 : decode cX9_type 24 = .ok (.sipush (-1006), 3) := by decide +kernel
theorem dX9_type_27 : decode cX9_type 27 = .ok (.ireturn, 1) := by decide +kernel
theorem dX9_type_28 : decode cX9_type 28 = .ok (.aload_n 0, 1) := by decide +kernel
theorem dX9_type_29 : decode cX9_type 29 = .ok (.getfield 27, 3) := by decide +kernel
theorem dX9_type_32 : decode cX9_type 32 = .ok (.aload_n 0, 1) := by decide +kernel
theorem dX9_type_33 : decode cX9_type 33 = .ok (.getfield 93, 3) := by decide +kernel
theorem dX9_type_36 : decode cX9_type 36 = .ok (.iload_n 1, 1) := by decide +kernel
theorem dX9_type_37 : decode cX9_type 37 = .ok (.iastore, 1) := by decide +kernel
theorem dX9_type_38 : decode cX9_type 38 = .ok (.aload_n 0, 1) := by decide +kernel
theorem dX9_type_39 : decode cX9_type 39 = .ok (.dup, 1) := by decide +kernel
theorem dX9_type_40 : decode cX9_type 40 = .ok (.getfield 93, 3) := by decide +kernel
theorem dX9_type_43 : decode cX9_type 43 = .ok (.iconst 1, 1) := by decide +kernel
theorem dX9_type_44 : decode cX9_type 44 = .ok (.iadd, 1) := by decide +kernel
theorem dX9_type_45 : decode cX9_type 45 = .ok (.putfield 93, 3) := by decide +kernel
theorem dX9_type_48 : decode cX9_type 48 = .ok (.aload_n 0, 1) := by decide +kernel
theorem dX9_type_49 : decode cX9_type 49 = .ok (.getfield 93, 3) := by decide +kernel
theorem dX9_type_52 : decode cX9_type 52 = .ok (.ireturn, 1) := by decide +kernel
set_option maxRecDepth 20000 in
theorem ggX9_fits_X9_in : GoodIn wsX9_fits wsX9_in := goodIn_r _ [5] (by decide +kernel) (by decide +kernel)
set_option maxRecDepth 20000 in
theorem gX9_fits_X9_in : GoodIn wsX9_fits (va_wsS RX9 64 yX9_in wsX9_in) := goodIn_app (goodIn_of _ (by decide +kernel)) ggX9_fits_X9_in
theorem dX9_fits_0 : decode cX9_fits 0 = .ok (.aload_n 0, 1) := by decide +kernel
theorem dX9_fits_1 : decode cX9_fits 1 = .ok (.getfield 27, 3) := by decide +kernel
theorem dX9_fits_4 : decode cX9_fits 4 = .ok (.iload_n 1, 1) := by decide +kernel
theorem dX9_fits_5 : decode cX9_fits 5 = .ok (.iaload, 1) := by decide +kernel
theorem dX9_fits_6 : decode cX9_fits 6 = .ok (.istore_n 2, 1) := by decide +kernel
theorem dX9_fits_7 : decode cX9_fits 7 = .ok (.iload_n 1, 1) := by decide +kernel
theorem dX9_fits_8 : decode cX9_fits 8 = .ok (.bipush 7, 2) := by decide +kernel
theorem dX9_fits_10 : decode cX9_fits 10 = .ok (.irem, 1) := by decide +kernel
theorem dX9_fits_11 : decode cX9_fits 11 = .ok (.istore_n 3, 1) := by decide +kernel
theorem dX9_fits_12 : decode cX9_fits 12 = .ok (.iload_n 3, 1) := by decide +kernel
theorem dX9_fits_13 : decode cX9_fits 13 = .ok (.bipush 6, 2) := by decide +kernel
theorem dX9_fits_15 : decode cX9_fits 15 = .ok (.if_icmp .ne 23, 3) := by decide +kernel
theorem dX9_fits_18 : decode cX9_fits 18 = .ok (.iload_n 2, 1) := by decide +kernel
theorem dX9_fits_19 : decode cX9_fits 19 = .ok (.bipush 95, 2) := by decide +kernel
theorem dX9_fits_21 : decode cX9_fits 21 = .ok (.if_icmp .ne 15, 3) := by decide +kernel
theorem dX9_fits_24 : decode cX9_fits 24 = .ok (.iload_n 1, 1) := by decide +kernel
theorem dX9_fits_25 : decode cX9_fits 25 = .ok (.bipush 7, 2) := by decide +kernel
theorem dX9_fits_27 : decode cX9_fits 27 = .ok (.idiv, 1) := by decide +kernel
theorem dX9_fits_28 : decode cX9_fits 28 = .ok (.iconst 4, 1) := by decide +kernel
theorem dX9_fits_29 : decode cX9_fits 29 = .ok (.if_icmp .ge 7, 3) := by decide +kernel
theorem dX9_fits_32 : decode cX9_fits 32 = .ok (.iconst 1, 1) := by decide +kernel
theorem dX9_fits_33 : decode cX9_fits 33 = .ok (.goto 4, 3) := by decide +kernel
theorem dX9_fits_36 : decode cX9_fits 36 = .ok (.iconst 0, 1) := by decide +kernel
theorem dX9_fits_37 : decode cX9_fits 37 = .ok (.ireturn, 1) := by decide +kernel
theorem dX9_fits_38 : decode cX9_fits 38 = .ok (.aload_n 0, 1) := by decide +kernel
theorem dX9_fits_39 : decode cX9_fits 39 = .ok (.getfield 27, 3) := by decide +kernel
theorem dX9_fits_42 : decode cX9_fits 42 = .ok (.iload_n 1, 1) := by decide +kernel
theorem dX9_fits_43 : decode cX9_fits 43 = .ok (.iload_n 3, 1) := by decide +kernel
theorem dX9_fits_44 : decode cX9_fits 44 = .ok (.iconst 3, 1) := by decide +kernel
theorem dX9_fits_45 : decode cX9_fits 45 = .ok (.irem, 1) := by decide +kernel
theorem dX9_fits_46 : decode cX9_fits 46 = .ok (.isub, 1) := by decide +kernel
theorem dX9_fits_47 : decode cX9_fits 47 = .ok (.iaload, 1) := by decide +kernel
theorem dX9_fits_48 : decode cX9_fits 48 = .ok (.istore 4, 2) := by decide +kernel
theorem dX9_fits_50 : decode cX9_fits 50 = .ok (.iload_n 3, 1) := by decide +kernel
theorem dX9_fits_51 : decode cX9_fits 51 = .ok (.iconst 3, 1) := by decide +kernel
theorem dX9_fits_52 : decode cX9_fits 52 = .ok (.irem, 1) := by decide +kernel
theorem dX9_fits_53 : decode cX9_fits 53 = .ok (.ifCond .ne 27, 3) := by decide +kernel
theorem dX9_fits_56 : decode cX9_fits 56 = .ok (.iload_n 2, 1) := by decide +kernel
theorem dX9_fits_57 : decode cX9_fits 57 = .ok (.bipush 48, 2) := by decide +kernel
theorem dX9_fits_59 : decode cX9_fits 59 = .ok (.if_icmp .eq 15, 3) := by decide +kernel
theorem dX9_fits_62 : decode cX9_fits 62 = .ok (.iload_n 2, 1) := by decide +kernel
theorem dX9_fits_63 : decode cX9_fits 63 = .ok (.bipush 49, 2) := by decide +kernel
theorem dX9_fits_65 : decode cX9_fits 65 = .ok (.if_icmp .eq 9, 3) := by decide +kernel
theorem dX9_fits_68 : decode cX9_fits 68 = .ok (.iload_n 2, 1) := by decide +kernel
theorem dX9_fits_69 : decode cX9_fits 69 = .ok (.bipush 45, 2) := by decide +kernel
theorem dX9_fits_71 : decode cX9_fits 71 = .ok (.if_icmp .ne 7, 3) := by decide +kernel
theorem dX9_fits_74 : decode cX9_fits 74 = .ok (.iconst 1, 1) := by decide +kernel
theorem dX9_fits_75 : decode cX9_fits 75 = .ok (.goto 4, 3) := by decide +kernel
theorem dX9_fits_78 : decode cX9_fits 78 = .ok (.iconst 0, 1) := by decide +kernel
theorem dX9_fits_79 : decode cX9_fits 79 = .ok (.ireturn, 1) := by decide +kernel
theorem dX9_fits_80 : decode cX9_fits 80 = .ok (.iload 4, 2) := by decide +kernel
theorem dX9_fits_82 : decode cX9_fits 82 = .ok (.bipush 45, 2) := by decide +kernel
theorem dX9_fits_84 : decode cX9_fits 84 = .ok (.if_icmp .ne 15, 3) := by decide +kernel
theorem dX9_fits_87 : decode cX9_fits 87 = .ok (.iload_n 2, 1) := by decide +kernel
theorem dX9_fits_88 : decode cX9_fits 88 = .ok (.bipush 45, 2) := by decide +kernel
theorem dX9_fits_90 : decode cX9_fits 90 = .ok (.if_icmp .ne 7, 3) := by decide +kernel
theorem dX9_fits_93 : decode cX9_fits 93 = .ok (.iconst 1, 1) := by decide +kernel
theorem dX9_fits_94 : decode cX9_fits 94 = .ok (.goto 4, 3) := by decide +kernel
theorem dX9_fits_97 : decode cX9_fits 97 = .ok (.iconst 0, 1) := by decide +kernel
theorem dX9_fits_98 : decode cX9_fits 98 = .ok (.ireturn, 1) := by decide +kernel
theorem dX9_fits_99 : decode cX9_fits 99 = .ok (.iload_n 3, 1) := by decide +kernel
theorem dX9_fits_100 : decode cX9_fits 100 = .ok (.iconst 3, 1) := by decide +kernel
theorem dX9_fits_101 : decode cX9_fits 101 = .ok (.irem, 1) := by decide +kernel
theorem dX9_fits_102 : decode cX9_fits 102 = .ok (.iconst 1, 1) := by decide +kernel
theorem dX9_fits_103 : decode cX9_fits 103 = .ok (.if_icmp .ne 23, 3) := by decide +kernel
theorem dX9_fits_106 : decode cX9_fits 106 = .ok (.iload_n 2, 1) := by decide +kernel
theorem dX9_fits_107 : decode cX9_fits 107 = .ok (.bipush 76, 2) := by decide +kernel
theorem dX9_fits_109 : decode cX9_fits 109 = .ok (.if_icmp .eq 9, 3) := by decide +kernel
theorem dX9_fits_112 : decode cX9_fits 112 = .ok (.iload_n 2, 1) := by decide +kernel
theorem dX9_fits_113 : decode cX9_fits 113 = .ok (.bipush 82, 2) := by decide +kernel
theorem dX9_fits_115 : decode cX9_fits 115 = .ok (.if_icmp .ne 7, 3) := by decide +kernel
theorem dX9_fits_118 : decode cX9_fits 118 = .ok (.iconst 1, 1) := by decide +kernel
theorem dX9_fits_119 : decode cX9_fits 119 = .ok (.goto 29, 3) := by decide +kernel
theorem dX9_fits_122 : decode cX9_fits 122 = .ok (.iconst 0, 1) := by decide +kernel
theorem dX9_fits_123 : decode cX9_fits 123 = .ok (.goto 25, 3) := by decide +kernel
theorem dX9_fits_126 : decode cX9_fits 126 = .ok (.iload_n 2, 1) := by decide +kernel
theorem dX9_fits_127 : decode cX9_fits 127 = .ok (.bipush 65, 2) := by decide +kernel
theorem dX9_fits_129 : decode cX9_fits 129 = .ok (.bipush 69, 2) := by decide +kernel
theorem dX9_fits_131 : decode cX9_fits 131 = .ok (.invokestatic 64, 3) := by decide +kernel
theorem dX9_fits_134 : decode cX9_fits 134 = .ok (.ifCond .ne 9, 3) := by decide +kernel
theorem dX9_fits_137 : decode cX9_fits 137 = .ok (.iload_n 2, 1) := by decide +kernel
theorem dX9_fits_138 : decode cX9_fits 138 = .ok (.bipush 90, 2) := by decide +kernel
theorem dX9_fits_140 : decode cX9_fits 140 = .ok (.if_icmp .ne 7, 3) := by decide +kernel
theorem dX9_fits_143 : decode cX9_fits 143 = .ok (.iconst 1, 1) := by decide +kernel
theorem dX9_fits_144 : decode cX9_fits 144 = .ok (.goto 4, 3) := by decide +kernel
theorem dX9_fits_147 : decode cX9_fits 147 = .ok (.iconst 0, 1) := by decide +kernel
theorem dX9_fits_148 : decode cX9_fits 148 = .ok (.ireturn, 1) := by decide +kernel
set_option maxRecDepth 20000 in
theorem ggX9_firstWrong_X9_fits : GoodIn wsX9_firstWrong wsX9_fits := goodIn_r _ [7, 2, 8, 9, 6, 10, 11, 12, 13, 14, 15, 16, 17, 18, 19, 20, 21, 22, 23, 24, 25, 26, 27, 28, 29, 30, 31, 32, 33, 34, 35, 36, 37, 38, 39, 40] (by decide +kernel) (by decide +kernel)
set_option maxRecDepth 20000 in
theorem gX9_firstWrong_X9_fits : GoodIn wsX9_firstWrong (wsV RX9 96 RX9 yX9_fits wsX9_fits) := goodIn_app (goodIn_of _ (by decide +kernel)) ggX9_firstWrong_X9_fits
set_option maxRecDepth 20000 in
theorem ggX9_firstWrong_X9_in : GoodIn wsX9_firstWrong wsX9_in := goodIn_r _ [10] (by decide +kernel) (by decide +kernel)
set_option maxRecDepth 20000 in
theorem gX9_firstWrong_X9_in : GoodIn wsX9_firstWrong (va_wsS RX9 64 yX9_in wsX9_in) := goodIn_app (goodIn_of _ (by decide +kernel)) ggX9_firstWrong_X9_in
theorem dX9_firstWrong_0 : decode cX9_firstWrong 0 = .ok (.iconst 0, 1) := by decide +kernel
theorem dX9_firstWrong_1 : decode cX9_firstWrong 1 = .ok (.istore_n 1, 1) := by decide +kernel
theorem dX9_firstWrong_2 : decode cX9_firstWrong 2 = .ok (.iload_n 1, 1) := by decide +kernel
theorem dX9_firstWrong_3 : decode cX9_firstWrong 3 = .ok (.aload_n 0, 1) := by decide +kernel
theorem dX9_firstWrong_4 : decode cX9_firstWrong 4 = .ok (.getfield 93, 3) := by decide +kernel
theorem dX9_firstWrong_7 : decode cX9_firstWrong 7 = .ok (.if_icmp .ge 19, 3) := by decide +kernel
theorem dX9_firstWrong_10 : decode cX9_firstWrong 10 = .ok (.aload_n 0, 1) := by decide +kernel
theorem dX9_firstWrong_11 : decode cX9_firstWrong 11 = .ok (.iload_n 1, 1) := by decide +kernel
theorem dX9_firstWrong_12 : decode cX9_firstWrong 12 = .ok (.invokevirtual 96, 3) := by decide +kernel
theorem dX9_firstWrong_15 : decode cX9_firstWrong 15 = .ok (.ifCond .ne 5, 3) := by decide +kernel
theorem dX9_firstWrong_18 : decode cX9_firstWrong 18 = .ok (.iload_n 1, 1) := by decide +kernel
theorem dX9_firstWrong_19 : decode cX9_firstWrong 19 = .ok (.ireturn, 1) := by decide +kernel
theorem dX9_firstWrong_20 : decode cX9_firstWrong 20 = .ok (.iinc 1 1, 3) := by decide +kernel
theorem dX9_firstWrong_23 : decode cX9_firstWrong 23 = .ok (.goto (-21), 3) := by decide +kernel
theorem dX9_firstWrong_26 : decode cX9_firstWrong 26 = .ok (.aload_n 0, 1) := by decide +kernel
theorem dX9_firstWrong_27 : decode cX9_firstWrong 27 = .ok (.getfield 93, 3) := by decide +kernel
theorem dX9_firstWrong_30 : decode cX9_firstWrong 30 = .ok (.bipush 7, 2) := by decide +kernel
theorem dX9_firstWrong_32 : decode cX9_firstWrong 32 = .ok (.irem, 1) := by decide +kernel
theorem dX9_firstWrong_33 : decode cX9_firstWrong 33 = .ok (.bipush 6, 2) := by decide +kernel
theorem dX9_firstWrong_35 : decode cX9_firstWrong 35 = .ok (.if_icmp .eq 8, 3) := by decide +kernel
theorem dX9_firstWrong_38 : decode cX9_firstWrong 38 = .ok (.aload_n 0, 1) := by decide +kernel
theorem dX9_firstWrong_39 : decode cX9_firstWrong 39 = .ok (.getfield 93, 3) := by decide +kernel
theorem dX9_firstWrong_42 : decode cX9_firstWrong 42 = .ok (.ireturn, 1) := by decide +kernel
theorem dX9_firstWrong_43 : decode cX9_firstWrong 43 = .ok (.aload_n 0, 1) := by decide +kernel
theorem dX9_firstWrong_44 : decode cX9_firstWrong 44 = .ok (.getfield 93, 3) := by decide +kernel
theorem dX9_firstWrong_47 : decode cX9_firstWrong 47 = .ok (.iconst 1, 1) := by decide +kernel
theorem dX9_firstWrong_48 : decode cX9_firstWrong 48 = .ok (.iadd, 1) := by decide +kernel
theorem dX9_firstWrong_49 : decode cX9_firstWrong 49 = .ok (.bipush 7, 2) := by decide +kernel
theorem dX9_firstWrong_51 : decode cX9_firstWrong 51 = .ok (.idiv, 1) := by decide +kernel
theorem dX9_firstWrong_52 : decode cX9_firstWrong 52 = .ok (.istore_n 1, 1) := by decide +kernel
theorem dX9_firstWrong_53 : decode cX9_firstWrong 53 = .ok (.iconst 0, 1) := by decide +kernel
theorem dX9_firstWrong_54 : decode cX9_firstWrong 54 = .ok (.istore_n 2, 1) := by decide +kernel
theorem dX9_firstWrong_55 : decode cX9_firstWrong 55 = .ok (.iload_n 2, 1) := by decide +kernel
theorem dX9_firstWrong_56 : decode cX9_firstWrong 56 = .ok (.aload_n 0, 1) := by decide +kernel
theorem dX9_firstWrong_57 : decode cX9_firstWrong 57 = .ok (.getfield 93, 3) := by decide +kernel
theorem dX9_firstWrong_60 : decode cX9_firstWrong 60 = .ok (.if_icmp .ge 66, 3) := by decide +kernel
theorem dX9_firstWrong_63 : decode cX9_firstWrong 63 = .ok (.iload_n 2, 1) := by decide +kernel
theorem dX9_firstWrong_64 : decode cX9_firstWrong 64 = .ok (.bipush 7, 2) := by decide +kernel
theorem dX9_firstWrong_66 : decode cX9_firstWrong 66 = .ok (.irem, 1) := by decide +kernel
theorem dX9_firstWrong_67 : decode cX9_firstWrong 67 = .ok (.iconst 2, 1) := by decide +kernel
theorem dX9_firstWrong_68 : decode cX9_firstWrong 68 = .ok (.if_icmp .eq 11, 3) := by decide +kernel
theorem dX9_firstWrong_71 : decode cX9_firstWrong 71 = .ok (.iload_n 2, 1) := by decide +kernel
theorem dX9_firstWrong_72 : decode cX9_firstWrong 72 = .ok (.bipush 7, 2) := by decide +kernel
theorem dX9_firstWrong_74 : decode cX9_firstWrong 74 = .ok (.irem, 1) := by decide +kernel
theorem dX9_firstWrong_75 : decode cX9_firstWrong 75 = .ok (.iconst 5, 1) := by decide +kernel
theorem dX9_firstWrong_76 : decode cX9_firstWrong 76 = .ok (.if_icmp .ne 7, 3) := by decide +kernel
theorem dX9_firstWrong_79 : decode cX9_firstWrong 79 = .ok (.iconst 1, 1) := by decide +kernel
theorem dX9_firstWrong_80 : decode cX9_firstWrong 80 = .ok (.goto 4, 3) := by decide +kernel
theorem dX9_firstWrong_83 : decode cX9_firstWrong 83 = .ok (.iconst 0, 1) := by decide +kernel
theorem dX9_firstWrong_84 : decode cX9_firstWrong 84 = .ok (.istore_n 3, 1) := by decide +kernel
theorem dX9_firstWrong_85 : decode cX9_firstWrong 85 = .ok (.iload_n 3, 1) := by decide +kernel
theorem dX9_firstWrong_86 : decode cX9_firstWrong 86 = .ok (.ifCond .eq 34, 3) := by decide +kernel
theorem dX9_firstWrong_89 : decode cX9_firstWrong 89 = .ok (.aload_n 0, 1) := by decide +kernel
theorem dX9_firstWrong_90 : decode cX9_firstWrong 90 = .ok (.getfield 27, 3) := by decide +kernel
theorem dX9_firstWrong_93 : decode cX9_firstWrong 93 = .ok (.iload_n 2, 1) := by decide +kernel
theorem dX9_firstWrong_94 : decode cX9_firstWrong 94 = .ok (.iaload, 1) := by decide +kernel
theorem dX9_firstWrong_95 : decode cX9_firstWrong 95 = .ok (.bipush 65, 2) := by decide +kernel
theorem dX9_firstWrong_97 : decode cX9_firstWrong 97 = .ok (.bipush 69, 2) := by decide +kernel
theorem dX9_firstWrong_99 : decode cX9_firstWrong 99 = .ok (.invokestatic 64, 3) := by decide +kernel
theorem dX9_firstWrong_102 : decode cX9_firstWrong 102 = .ok (.ifCond .eq 18, 3) := by decide +kernel
theorem dX9_firstWrong_105 : decode cX9_firstWrong 105 = .ok (.aload_n 0, 1) := by decide +kernel
theorem dX9_firstWrong_106 : decode cX9_firstWrong 106 = .ok (.getfield 27, 3) := by decide +kernel
theorem dX9_firstWrong_109 : decode cX9_firstWrong 109 = .ok (.iload_n 2, 1) := by decide +kernel
theorem dX9_firstWrong_110 : decode cX9_firstWrong 110 = .ok (.iaload, 1) := by decide +kernel
theorem dX9_firstWrong_111 : decode cX9_firstWrong 111 = .ok (.bipush 65, 2) := by decide +kernel
theorem dX9_firstWrong_113 : decode cX9_firstWrong 113 = .ok (.isub, 1) := by decide +kernel
theorem dX9_firstWrong_114 : decode cX9_firstWrong 114 = .ok (.iload_n 1, 1) := by decide +kernel
theorem dX9_firstWrong_115 : decode cX9_firstWrong 115 = .ok (.if_icmp .lt 5, 3) := by decide +kernel
theorem dX9_firstWrong_118 : decode cX9_firstWrong 118 = .ok (.iload_n 2, 1) := by decide +kernel
theorem dX9_firstWrong_119 : decode cX9_firstWrong 119 = .ok (.ireturn, 1) := by decide +kernel
theorem dX9_firstWrong_120 : decode cX9_firstWrong 120 = .ok (.iinc 2 1, 3) := by decide +kernel
theorem dX9_firstWrong_123 : decode cX9_firstWrong 123 = .ok (.goto (-68), 3) := by decide +kernel
theorem dX9_firstWrong_126 : decode cX9_firstWrong 126 = .ok (.sipush (-1005), 3) := by decide +kernel
theorem dX9_firstWrong_129 : decode cX9_firstWrong 129 = .ok (.ireturn, 1) := by decide +kernel
set_option maxRecDepth 20000 in
theorem ggX9_layText_X9_clearMachine : GoodIn wsX9_layText wsX9_clearMachine := goodIn_r _ [6, 7, 8, 25, 26, 27, 28, 29, 30, 31, 32, 33, 34, 35, 36, 37, 38, 39, 40, 41, 42, 43, 44, 45, 46, 47, 48, 49, 50, 51, 52, 53, 54] (by decide +kernel) (by decide +kernel)
set_option maxRecDepth 20000 in
theorem gX9_layText_X9_clearMachine : GoodIn wsX9_layText (wsV RX9 77 RX9 yX9_clearMachine wsX9_clearMachine) := goodIn_app (goodIn_of _ (by decide +kernel)) ggX9_layText_X9_clearMachine
set_option maxRecDepth 20000 in
theorem ggX9_layText_X9_lay : GoodIn wsX9_layText wsX9_lay := goodIn_r _ [12, 8, 13, 14, 15, 25, 26, 27, 28, 29, 30, 31, 32, 33, 34, 35, 36, 37, 38, 39, 40, 41, 42, 43, 44, 45, 46, 47, 48, 49, 50, 51, 52, 53, 54] (by decide +kernel) (by decide +kernel)
set_option maxRecDepth 20000 in
theorem gX9_layText_X9_lay : GoodIn wsX9_layText (wsV RX9 85 RX9 yX9_lay wsX9_lay) := goodIn_app (goodIn_of _ (by decide +kernel)) ggX9_layText_X9_lay
set_option maxRecDepth 20000 in
theorem ggX9_layText_X9_begin : GoodIn wsX9_layText wsX9_begin := goodIn_r _ [19, 20, 21, 22, 23, 24, 25, 26, 27, 28, 29, 30, 31, 32, 33, 34, 35, 36, 37, 38, 39, 40, 41, 42, 43, 44, 45, 46, 47, 48, 49, 50, 51, 52, 53, 54] (by decide +kernel) (by decide +kernel)
set_option maxRecDepth 20000 in
theorem gX9_layText_X9_begin : GoodIn wsX9_layText (wsV RX9 61 RX9 yX9_begin wsX9_begin) := goodIn_app (goodIn_of _ (by decide +kernel)) ggX9_layText_X9_begin
theorem dX9_layText_0 : decode cX9_layText 0 = .ok (.aload_n 0, 1) := by decide +kernel
theorem dX9_layText_1 : decode cX9_layText 1 = .ok (.iload_n 1, 1) := by decide +kernel
theorem dX9_layText_2 : decode cX9_layText 2 = .ok (.invokevirtual 77, 3) := by decide +kernel
theorem dX9_layText_5 : decode cX9_layText 5 = .ok (.iconst 0, 1) := by decide +kernel
theorem dX9_layText_6 : decode cX9_layText 6 = .ok (.istore_n 2, 1) := by decide +kernel
theorem dX9_layText_7 : decode cX9_layText 7 = .ok (.iload_n 2, 1) := by decide +kernel
theorem dX9_layText_8 : decode cX9_layText 8 = .ok (.iconst 2, 1) := by decide +kernel
theorem dX9_layText_9 : decode cX9_layText 9 = .ok (.iload_n 1, 1) := by decide +kernel
theorem dX9_layText_10 : decode cX9_layText 10 = .ok (.imul, 1) := by decide +kernel
theorem dX9_layText_11 : decode cX9_layText 11 = .ok (.if_icmp .ge 94, 3) := by decide +kernel
theorem dX9_layText_14 : decode cX9_layText 14 = .ok (.bipush 7, 2) := by decide +kernel
theorem dX9_layText_16 : decode cX9_layText 16 = .ok (.iload_n 2, 1) := by decide +kernel
theorem dX9_layText_17 : decode cX9_layText 17 = .ok (.iconst 2, 1) := by decide +kernel
theorem dX9_layText_18 : decode cX9_layText 18 = .ok (.idiv, 1) := by decide +kernel
theorem dX9_layText_19 : decode cX9_layText 19 = .ok (.imul, 1) := by decide +kernel
theorem dX9_layText_20 : decode cX9_layText 20 = .ok (.iconst 3, 1) := by decide +kernel
theorem dX9_layText_21 : decode cX9_layText 21 = .ok (.iload_n 2, 1) := by decide +kernel
theorem dX9_layText_22 : decode cX9_layText 22 = .ok (.iconst 2, 1) := by decide +kernel
theorem dX9_layText_23 : decode cX9_layText 23 = .ok (.irem, 1) := by decide +kernel
theorem dX9_layText_24 : decode cX9_layText 24 = .ok (.imul, 1) := by decide +kernel
theorem dX9_layText_25 : decode cX9_layText 25 = .ok (.iadd, 1) := by decide +kernel
theorem dX9_layText_26 : decode cX9_layText 26 = .ok (.istore_n 3, 1) := by decide +kernel
theorem dX9_layText_27 : decode cX9_layText 27 = .ok (.aload_n 0, 1) := by decide +kernel
theorem dX9_layText_28 : decode cX9_layText 28 = .ok (.getfield 27, 3) := by decide +kernel
theorem dX9_layText_31 : decode cX9_layText 31 = .ok (.iload_n 3, 1) := by decide +kernel
theorem dX9_layText_32 : decode cX9_layText 32 = .ok (.iaload, 1) := by decide +kernel
theorem dX9_layText_33 : decode cX9_layText 33 = .ok (.bipush 45, 2) := by decide +kernel
theorem dX9_layText_35 : decode cX9_layText 35 = .ok (.if_icmp .eq 64, 3) := by decide +kernel
theorem dX9_layText_38 : decode cX9_layText 38 = .ok (.aload_n 0, 1) := by decide +kernel
theorem dX9_layText_39 : decode cX9_layText 39 = .ok (.iload_n 2, 1) := by decide +kernel
theorem dX9_layText_40 : decode cX9_layText 40 = .ok (.aload_n 0, 1) := by decide +kernel
theorem dX9_layText_41 : decode cX9_layText 41 = .ok (.getfield 27, 3) := by decide +kernel
theorem dX9_layText_44 : decode cX9_layText 44 = .ok (.iload_n 3, 1) := by decide +kernel
theorem dX9_layText_45 : decode cX9_layText 45 = .ok (.iaload, 1) := by decide +kernel
theorem dX9_layText_46 : decode cX9_layText 46 = .ok (.bipush 48, 2) := by decide +kernel
theorem dX9_layText_48 : decode cX9_layText 48 = .ok (.isub, 1) := by decide +kernel
theorem dX9_layText_49 : decode cX9_layText 49 = .ok (.aload_n 0, 1) := by decide +kernel
theorem dX9_layText_50 : decode cX9_layText 50 = .ok (.getfield 27, 3) := by decide +kernel
theorem dX9_layText_53 : decode cX9_layText 53 = .ok (.iload_n 3, 1) := by decide +kernel
theorem dX9_layText_54 : decode cX9_layText 54 = .ok (.iconst 1, 1) := by decide +kernel
theorem dX9_layText_55 : decode cX9_layText 55 = .ok (.iadd, 1) := by decide +kernel
theorem dX9_layText_56 : decode cX9_layText 56 = .ok (.iaload, 1) := by decide +kernel
theorem dX9_layText_57 : decode cX9_layText 57 = .ok (.bipush 82, 2) := by decide +kernel
theorem dX9_layText_59 : decode cX9_layText 59 = .ok (.if_icmp .ne 7, 3) := by decide +kernel
theorem dX9_layText_62 : decode cX9_layText 62 = .ok (.iconst 1, 1) := by decide +kernel
theorem dX9_layText_63 : decode cX9_layText 63 = .ok (.goto 4, 3) := by decide +kernel
theorem dX9_layText_66 : decode cX9_layText 66 = .ok (.iconst 0, 1) := by decide +kernel
theorem dX9_layText_67 : decode cX9_layText 67 = .ok (.aload_n 0, 1) := by decide +kernel
theorem dX9_layText_68 : decode cX9_layText 68 = .ok (.getfield 27, 3) := by decide +kernel
theorem dX9_layText_71 : decode cX9_layText 71 = .ok (.iload_n 3, 1) := by decide +kernel
theorem dX9_layText_72 : decode cX9_layText 72 = .ok (.iconst 2, 1) := by decide +kernel
theorem dX9_layText_73 : decode cX9_layText 73 = .ok (.iadd, 1) := by decide +kernel
theorem dX9_layText_74 : decode cX9_layText 74 = .ok (.iaload, 1) := by decide +kernel
theorem dX9_layText_75 : decode cX9_layText 75 = .ok (.bipush 90, 2) := by decide +kernel
theorem dX9_layText_77 : decode cX9_layText 77 = .ok (.if_icmp .ne 8, 3) := by decide +kernel
theorem dX9_layText_80 : decode cX9_layText 80 = .ok (.bipush 9, 2) := by decide +kernel
theorem dX9_layText_82 : decode cX9_layText 82 = .ok (.goto 14, 3) := by decide +kernel
theorem dX9_layText_85 : decode cX9_layText 85 = .ok (.aload_n 0, 1) := by decide +kernel
theorem dX9_layText_86 : decode cX9_layText 86 = .ok (.getfield 27, 3) := by decide +kernel
theorem dX9_layText_89 : decode cX9_layText 89 = .ok (.iload_n 3, 1) := by decide +kernel
theorem dX9_layText_90 : decode cX9_layText 90 = .ok (.iconst 2, 1) := by decide +kernel
theorem dX9_layText_91 : decode cX9_layText 91 = .ok (.iadd, 1) := by decide +kernel
theorem dX9_layText_92 : decode cX9_layText 92 = .ok (.iaload, 1) := by decide +kernel
theorem dX9_layText_93 : decode cX9_layText 93 = .ok (.bipush 65, 2) := by decide +kernel
theorem dX9_layText_95 : decode cX9_layText 95 = .ok (.isub, 1) := by decide +kernel
theorem dX9_layText_96 : decode cX9_layText 96 = .ok (.invokevirtual 85, 3) := by decide +kernel
theorem dX9_layText_99 : decode cX9_layText 99 = .ok (.iinc 2 1, 3) := by decide +kernel
theorem dX9_layText_102 : decode cX9_layText 102 = .ok (.goto (-95), 3) := by decide +kernel
theorem dX9_layText_105 : decode cX9_layText 105 = .ok (.aload_n 0, 1) := by decide +kernel
theorem dX9_layText_106 : decode cX9_layText 106 = .ok (.invokevirtual 61, 3) := by decide +kernel
theorem dX9_layText_109 : decode cX9_layText 109 = .ok (.return_, 1) := by decide +kernel
set_option maxRecDepth 20000 in
theorem ggX9_load_X9_firstWrong : GoodIn wsX9_load wsX9_firstWrong := goodIn_r _ [6, 1, 7, 8, 9, 10, 5, 11, 12, 13, 14, 41, 42, 43, 44, 45, 46, 47, 48, 49, 50, 51, 52, 53, 54, 55, 56, 57, 58, 59, 60, 61, 62, 63, 64, 65, 66, 67, 68, 69, 70] (by decide +kernel) (by decide +kernel)
set_option maxRecDepth 20000 in
theorem gX9_load_X9_firstWrong : GoodIn wsX9_load (wsV RX9 99 RX9 yX9_firstWrong wsX9_firstWrong) := goodIn_app (goodIn_of _ (by decide +kernel)) ggX9_load_X9_firstWrong
set_option maxRecDepth 20000 in
theorem ggX9_load_X9_layText : GoodIn wsX9_load wsX9_layText := goodIn_r _ [18, 7, 19, 20, 21, 5, 22, 23, 24, 25, 26, 27, 28, 29, 30, 31, 32, 33, 34, 35, 36, 37, 38, 39, 40, 41, 42, 43, 44, 45, 46, 47, 48, 49, 50, 51, 52, 53, 54, 55, 56, 57, 58, 59, 60, 61, 62, 63, 64, 65, 66, 67, 68, 69, 70] (by decide +kernel) (by decide +kernel)
set_option maxRecDepth 20000 in
theorem gX9_load_X9_layText : GoodIn wsX9_load (wsV RX9 103 RX9 yX9_layText wsX9_layText) := goodIn_app (goodIn_of _ (by decide +kernel)) ggX9_load_X9_layText
theorem dX9_load_0 : decode cX9_load 0 = .ok (.aload_n 0, 1) := by decide +kernel
theorem dX9_load_1 : decode cX9_load 1 = .ok (.invokevirtual 99, 3) := by decide +kernel
theorem dX9_load_4 : decode cX9_load 4 = .ok (.istore_n 1, 1) := by decide +kernel
theorem dX9_load_5 : decode cX9_load 5 = .ok (.aload_n 0, 1) := by decide +kernel
theorem dX9_load_6 : decode cX9_load 6 = .ok (.getfield 93, 3) := by decide +kernel
theorem dX9_load_9 : decode cX9_load 9 = .ok (.iconst 1, 1) := by decide +kernel
theorem dX9_load_10 : decode cX9_load 10 = .ok (.iadd, 1) := by decide +kernel
theorem dX9_load_11 : decode cX9_load 11 = .ok (.bipush 7, 2) := by decide +kernel
theorem dX9_load_13 : decode cX9_load 13 = .ok (.idiv, 1) := by decide +kernel
theorem dX9_load_14 : decode cX9_load 14 = .ok (.istore_n 2, 1) := by decide +kernel
theorem dX9_load_15 : decode cX9_load 15 = .ok (.iload_n 1, 1) := by decide +kernel
theorem dX9_load_16 : decode cX9_load 16 = .ok (.ifCond .ge 8, 3) := by decide +kernel
theorem dX9_load_19 : decode cX9_load 19 = .ok (.aload_n 0, 1) := by decide +kernel
theorem dX9_load_20 : decode cX9_load 20 = .ok (.iload_n 2, 1) := by decide +kernel
theorem dX9_load_21 : decode cX9_load 21 = .ok (.invokevirtual 103, 3) := by decide +kernel
theorem dX9_load_24 : decode cX9_load 24 = .ok (.aload_n 0, 1) := by decide +kernel
theorem dX9_load_25 : decode cX9_load 25 = .ok (.iconst 0, 1) := by decide +kernel
theorem dX9_load_26 : decode cX9_load 26 = .ok (.putfield 93, 3) := by decide +kernel
theorem dX9_load_29 : decode cX9_load 29 = .ok (.iload_n 1, 1) := by decide +kernel
theorem dX9_load_30 : decode cX9_load 30 = .ok (.ifCond .ge 7, 3) := by decide +kernel
theorem dX9_load_33 : decode cX9_load 33 = .ok (.iload_n 2, 1) := by decide +kernel
theorem dX9_load_34 : decode cX9_load 34 = .ok (.goto 6, 3) := by decide +kernel
theorem dX9_load_37 : decode cX9_load 37 = .ok (.iconst (-1), 1) := by decide +kernel
theorem dX9_load_38 : decode cX9_load 38 = .ok (.iload_n 1, 1) := by decide +kernel
theorem dX9_load_39 : decode cX9_load 39 = .ok (.isub, 1) := by decide +kernel
theorem dX9_load_40 : decode cX9_load 40 = .ok (.ireturn, 1) := by decide +kernel
set_option maxRecDepth 20000 in
theorem ggX9_textAt_X9_in : GoodIn wsX9_textAt wsX9_in := goodIn_r _ [9] (by decide +kernel) (by decide +kernel)
set_option maxRecDepth 20000 in
theorem gX9_textAt_X9_in : GoodIn wsX9_textAt (va_wsS RX9 64 yX9_in wsX9_in) := goodIn_app (goodIn_of _ (by decide +kernel)) ggX9_textAt_X9_in
theorem dX9_textAt_0 : decode cX9_textAt 0 = .ok (.iload_n 1, 1) := by decide +kernel
theorem dX9_textAt_1 : decode cX9_textAt 1 = .ok (.iconst 0, 1) := by decide +kernel
theorem dX9_textAt_2 : decode cX9_textAt 2 = .ok (.bipush 7, 2) := by decide +kernel
theorem dX9_textAt_4 : decode cX9_textAt 4 = .ok (.aload_n 0, 1) := by decide +kernel
theorem dX9_textAt_5 : decode cX9_textAt 5 = .ok (.getfield 7, 3) := by decide +kernel
theorem dX9_textAt_8 : decode cX9_textAt 8 = .ok (.imul, 1) := by decide +kernel
theorem dX9_textAt_9 : decode cX9_textAt 9 = .ok (.iconst 2, 1) := by decide +kernel
theorem dX9_textAt_10 : decode cX9_textAt 10 = .ok (.isub, 1) := by decide +kernel
theorem dX9_textAt_11 : decode cX9_textAt 11 = .ok (.invokestatic 64, 3) := by decide +kernel
theorem dX9_textAt_14 : decode cX9_textAt 14 = .ok (.ifCond .ne 7, 3) := by decide +kernel
theorem dX9_textAt_17 : decode cX9_textAt 17 = .ok (.sipush (-1005), 3) := by decide +kernel
theorem dX9_textAt_20 : decode cX9_textAt 20 = .ok (.ireturn, 1) := by decide +kernel
theorem dX9_textAt_21 : decode cX9_textAt 21 = .ok (.iload_n 1, 1) := by decide +kernel
theorem dX9_textAt_22 : decode cX9_textAt 22 = .ok (.bipush 7, 2) := by decide +kernel
theorem dX9_textAt_24 : decode cX9_textAt 24 = .ok (.irem, 1) := by decide +kernel
theorem dX9_textAt_25 : decode cX9_textAt 25 = .ok (.istore_n 2, 1) := by decide +kernel
theorem dX9_textAt_26 : decode cX9_textAt 26 = .ok (.iload_n 2, 1) := by decide +kernel
theorem dX9_textAt_27 : decode cX9_textAt 27 = .ok (.bipush 6, 2) := by decide +kernel
theorem dX9_textAt_29 : decode cX9_textAt 29 = .ok (.if_icmp .ne 6, 3) := by decide +kernel
theorem dX9_textAt_32 : decode cX9_textAt 32 = .ok (.bipush 95, 2) := by decide +kernel
theorem dX9_textAt_34 : decode cX9_textAt 34 = .ok (.ireturn, 1) := by decide +kernel
theorem dX9_textAt_35 : decode cX9_textAt 35 = .ok (.iconst 2, 1) := by decide +kernel
theorem dX9_textAt_36 : decode cX9_textAt 36 = .ok (.iload_n 1, 1) := by decide +kernel
theorem dX9_textAt_37 : decode cX9_textAt 37 = .ok (.bipush 7, 2) := by decide +kernel
theorem dX9_textAt_39 : decode cX9_textAt 39 = .ok (.idiv, 1) := by decide +kernel
theorem dX9_textAt_40 : decode cX9_textAt 40 = .ok (.imul, 1) := by decide +kernel
theorem dX9_textAt_41 : decode cX9_textAt 41 = .ok (.iload_n 2, 1) := by decide +kernel
theorem dX9_textAt_42 : decode cX9_textAt 42 = .ok (.iconst 3, 1) := by decide +kernel
theorem dX9_textAt_43 : decode cX9_textAt 43 = .ok (.idiv, 1) := by decide +kernel
theorem dX9_textAt_44 : decode cX9_textAt 44 = .ok (.iadd, 1) := by decide +kernel
theorem dX9_textAt_45 : decode cX9_textAt 45 = .ok (.istore_n 3, 1) := by decide +kernel
theorem dX9_textAt_46 : decode cX9_textAt 46 = .ok (.aload_n 0, 1) := by decide +kernel
theorem dX9_textAt_47 : decode cX9_textAt 47 = .ok (.getfield 13, 3) := by decide +kernel
theorem dX9_textAt_50 : decode cX9_textAt 50 = .ok (.iload_n 3, 1) := by decide +kernel
theorem dX9_textAt_51 : decode cX9_textAt 51 = .ok (.baload, 1) := by decide +kernel
theorem dX9_textAt_52 : decode cX9_textAt 52 = .ok (.ifCond .ne 6, 3) := by decide +kernel
theorem dX9_textAt_55 : decode cX9_textAt 55 = .ok (.bipush 45, 2) := by decide +kernel
theorem dX9_textAt_57 : decode cX9_textAt 57 = .ok (.ireturn, 1) := by decide +kernel
theorem dX9_textAt_58 : decode cX9_textAt 58 = .ok (.iload_n 2, 1) := by decide +kernel
theorem dX9_textAt_59 : decode cX9_textAt 59 = .ok (.iconst 3, 1) := by decide +kernel
theorem dX9_textAt_60 : decode cX9_textAt 60 = .ok (.irem, 1) := by decide +kernel
theorem dX9_textAt_61 : decode cX9_textAt 61 = .ok (.ifCond .ne 15, 3) := by decide +kernel
theorem dX9_textAt_64 : decode cX9_textAt 64 = .ok (.bipush 48, 2) := by decide +kernel
theorem dX9_textAt_66 : decode cX9_textAt 66 = .ok (.aload_n 0, 1) := by decide +kernel
theorem dX9_textAt_67 : decode cX9_textAt 67 = .ok (.getfield 17, 3) := by decide +kernel
theorem dX9_textAt_70 : decode cX9_textAt 70 = .ok (.iload_n 3, 1) := by decide +kernel
theorem dX9_textAt_71 : decode cX9_textAt 71 = .ok (.iaload, 1) := by decide +kernel
theorem dX9_textAt_72 : decode cX9_textAt 72 = .ok (.iadd, 1) := by decide +kernel
theorem dX9_textAt_73 : decode cX9_textAt 73 = .ok (.goto 55, 3) := by decide +kernel
theorem dX9_textAt_76 : decode cX9_textAt 76 = .ok (.iload_n 2, 1) := by decide +kernel
theorem dX9_textAt_77 : decode cX9_textAt 77 = .ok (.iconst 3, 1) := by decide +kernel
theorem dX9_textAt_78 : decode cX9_textAt 78 = .ok (.irem, 1) := by decide +kernel
theorem dX9_textAt_79 : decode cX9_textAt 79 = .ok (.iconst 1, 1) := by decide +kernel
theorem dX9_textAt_80 : decode cX9_textAt 80 = .ok (.if_icmp .ne 23, 3) := by decide +kernel
theorem dX9_textAt_83 : decode cX9_textAt 83 = .ok (.aload_n 0, 1) := by decide +kernel
theorem dX9_textAt_84 : decode cX9_textAt 84 = .ok (.getfield 21, 3) := by decide +kernel
theorem dX9_textAt_87 : decode cX9_textAt 87 = .ok (.iload_n 3, 1) := by decide +kernel
theorem dX9_textAt_88 : decode cX9_textAt 88 = .ok (.iaload, 1) := by decide +kernel
theorem dX9_textAt_89 : decode cX9_textAt 89 = .ok (.iconst 1, 1) := by decide +kernel
theorem dX9_textAt_90 : decode cX9_textAt 90 = .ok (.if_icmp .ne 8, 3) := by decide +kernel
theorem dX9_textAt_93 : decode cX9_textAt 93 = .ok (.bipush 82, 2) := by decide +kernel
theorem dX9_textAt_95 : decode cX9_textAt 95 = .ok (.goto 33, 3) := by decide +kernel
theorem dX9_textAt_98 : decode cX9_textAt 98 = .ok (.bipush 76, 2) := by decide +kernel
theorem dX9_textAt_100 : decode cX9_textAt 100 = .ok (.goto 28, 3) := by decide +kernel
theorem dX9_textAt_103 : decode cX9_textAt 103 = .ok (.aload_n 0, 1) := by decide +kernel
theorem dX9_textAt_104 : decode cX9_textAt 104 = .ok (.getfield 24, 3) := by decide +kernel
theorem dX9_textAt_107 : decode cX9_textAt 107 = .ok (.iload_n 3, 1) := by decide +kernel
theorem dX9_textAt_108 : decode cX9_textAt 108 = .ok (.iaload, 1) := by decide +kernel
theorem dX9_textAt_109 : decode cX9_textAt 109 = .ok (.bipush 9, 2) := by decide +kernel
theorem dX9_textAt_111 : decode cX9_textAt 111 = .ok (.if_icmp .ne 8, 3) := by decide +kernel
theorem dX9_textAt_114 : decode cX9_textAt 114 = .ok (.bipush 90, 2) := by decide +kernel
theorem dX9_textAt_116 : decode cX9_textAt 116 = .ok (.goto 12, 3) := by decide +kernel
theorem dX9_textAt_119 : decode cX9_textAt 119 = .ok (.bipush 65, 2) := by decide +kernel
theorem dX9_textAt_121 : decode cX9_textAt 121 = .ok (.aload_n 0, 1) := by decide +kernel
theorem dX9_textAt_122 : decode cX9_textAt 122 = .ok (.getfield 24, 3) := by decide +kernel
theorem dX9_textAt_125 : decode cX9_textAt 125 = .ok (.iload_n 3, 1) := by decide +kernel
theorem dX9_textAt_126 : decode cX9_textAt 126 = .ok (.iaload, 1) := by decide +kernel
theorem dX9_textAt_127 : decode cX9_textAt 127 = .ok (.iadd, 1) := by decide +kernel
theorem dX9_textAt_128 : decode cX9_textAt 128 = .ok (.ireturn, 1) := by decide +kernel
set_option maxRecDepth 20000 in
theorem ggX9_restart_X9_begin : GoodIn wsX9_restart wsX9_begin := goodIn_r _ [6, 7, 8, 1, 9, 10, 11, 12, 13, 14, 15, 16, 17, 18, 19, 20, 21, 22, 23, 24, 25, 26, 27, 28, 29, 30, 31, 32, 33, 34, 35, 36, 37, 38, 39, 40] (by decide +kernel) (by decide +kernel)
set_option maxRecDepth 20000 in
theorem gX9_restart_X9_begin : GoodIn wsX9_restart (wsV RX9 61 RX9 yX9_begin wsX9_begin) := goodIn_app (goodIn_of _ (by decide +kernel)) ggX9_restart_X9_begin
theorem dX9_restart_0 : decode cX9_restart 0 = .ok (.aload_n 0, 1) := by decide +kernel
theorem dX9_restart_1 : decode cX9_restart 1 = .ok (.getfield 68, 3) := by decide +kernel
theorem dX9_restart_4 : decode cX9_restart 4 = .ok (.istore_n 1, 1) := by decide +kernel
theorem dX9_restart_5 : decode cX9_restart 5 = .ok (.aload_n 0, 1) := by decide +kernel
theorem dX9_restart_6 : decode cX9_restart 6 = .ok (.invokevirtual 61, 3) := by decide +kernel
theorem dX9_restart_9 : decode cX9_restart 9 = .ok (.iload_n 1, 1) := by decide +kernel
theorem dX9_restart_10 : decode cX9_restart 10 = .ok (.ireturn, 1) := by decide +kernel
theorem dX9_hasHalted_0 : decode cX9_hasHalted 0 = .ok (.aload_n 0, 1) := by decide +kernel
