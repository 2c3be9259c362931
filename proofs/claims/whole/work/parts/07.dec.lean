theorem dX9_hasHalted_1 : decode cX9_hasHalted 1 = .ok (.getfield 71, 3) := by decide +kernel
theorem dX9_hasHalted_4 : decode cX9_hasHalted 4 = .ok (.bipush 9, 2) := by decide +kernel
theorem dX9_hasHalted_6 : decode cX9_hasHalted 6 = .ok (.if_icmp .eq 33, 3) := by decide +kernel
theorem dX9_hasHalted_9 : decode cX9_hasHalted 9 = .ok (.aload_n 0, 1) := by decide +kernel
theorem dX9_hasHalted_10 : decode cX9_hasHalted 10 = .ok (.getfield 13, 3) := by decide +kernel
theorem dX9_hasHalted_13 : decode cX9_hasHalted 13 = .ok (.iconst 2, 1) := by decide +kernel
theorem dX9_hasHalted_14 : decode cX9_hasHalted 14 = .ok (.aload_n 0, 1) := by decide +kernel
theorem dX9_hasHalted_15 : decode cX9_hasHalted 15 = .ok (.getfield 71, 3) := by decide +kernel
theorem dX9_hasHalted_18 : decode cX9_hasHalted 18 = .ok (.imul, 1) := by decide +kernel
theorem dX9_hasHalted_19 : decode cX9_hasHalted 19 = .ok (.aload_n 0, 1) := by decide +kernel
theorem dX9_hasHalted_20 : decode cX9_hasHalted 20 = .ok (.getfield 30, 3) := by decide +kernel
theorem dX9_hasHalted_23 : decode cX9_hasHalted 23 = .ok (.aload_n 0, 1) := by decide +kernel
theorem dX9_hasHalted_24 : decode cX9_hasHalted 24 = .ok (.getfield 74, 3) := by decide +kernel
theorem dX9_hasHalted_27 : decode cX9_hasHalted 27 = .ok (.sipush 5000, 3) := by decide +kernel
theorem dX9_hasHalted_30 : decode cX9_hasHalted 30 = .ok (.iadd, 1) := by decide +kernel
theorem dX9_hasHalted_31 : decode cX9_hasHalted 31 = .ok (.iconst 1, 1) := by decide +kernel
theorem dX9_hasHalted_32 : decode cX9_hasHalted 32 = .ok (.iadd, 1) := by decide +kernel
theorem dX9_hasHalted_33 : decode cX9_hasHalted 33 = .ok (.iaload, 1) := by decide +kernel
theorem dX9_hasHalted_34 : decode cX9_hasHalted 34 = .ok (.iadd, 1) := by decide +kernel
theorem dX9_hasHalted_35 : decode cX9_hasHalted 35 = .ok (.baload, 1) := by decide +kernel
theorem dX9_hasHalted_36 : decode cX9_hasHalted 36 = .ok (.ifCond .ne 7, 3) := by decide +kernel
theorem dX9_hasHalted_39 : decode cX9_hasHalted 39 = .ok (.iconst 1, 1) := by decide +kernel
theorem dX9_hasHalted_40 : decode cX9_hasHalted 40 = .ok (.goto 4, 3) := by decide +kernel
theorem dX9_hasHalted_43 : decode cX9_hasHalted 43 = .ok (.iconst 0, 1) := by decide +kernel
theorem dX9_hasHalted_44 : decode cX9_hasHalted 44 = .ok (.ireturn, 1) := by decide +kernel
theorem dX9_makeStep_0 : decode cX9_makeStep 0 = .ok (.aload_n 0, 1) := by decide +kernel
theorem dX9_makeStep_1 : decode cX9_makeStep 1 = .ok (.getfield 74, 3) := by decide +kernel
theorem dX9_makeStep_4 : decode cX9_makeStep 4 = .ok (.sipush 5000, 3) := by decide +kernel
theorem dX9_makeStep_7 : decode cX9_makeStep 7 = .ok (.iadd, 1) := by decide +kernel
theorem dX9_makeStep_8 : decode cX9_makeStep 8 = .ok (.iconst 1, 1) := by decide +kernel
theorem dX9_makeStep_9 : decode cX9_makeStep 9 = .ok (.iadd, 1) := by decide +kernel
theorem dX9_makeStep_10 : decode cX9_makeStep 10 = .ok (.istore_n 1, 1) := by decide +kernel
theorem dX9_makeStep_11 : decode cX9_makeStep 11 = .ok (.iconst 2, 1) := by decide +kernel
theorem dX9_makeStep_12 : decode cX9_makeStep 12 = .ok (.aload_n 0, 1) := by decide +kernel
theorem dX9_makeStep_13 : decode cX9_makeStep 13 = .ok (.getfield 71, 3) := by decide +kernel
theorem dX9_makeStep_16 : decode cX9_makeStep 16 = .ok (.imul, 1) := by decide +kernel
theorem dX9_makeStep_17 : decode cX9_makeStep 17 = .ok (.aload_n 0, 1) := by decide +kernel
theorem dX9_makeStep_18 : decode cX9_makeStep 18 = .ok (.getfield 30, 3) := by decide +kernel
theorem dX9_makeStep_21 : decode cX9_makeStep 21 = .ok (.iload_n 1, 1) := by decide +kernel
theorem dX9_makeStep_22 : decode cX9_makeStep 22 = .ok (.iaload, 1) := by decide +kernel
theorem dX9_makeStep_23 : decode cX9_makeStep 23 = .ok (.iadd, 1) := by decide +kernel
theorem dX9_makeStep_24 : decode cX9_makeStep 24 = .ok (.istore_n 2, 1) := by decide +kernel
theorem dX9_makeStep_25 : decode cX9_makeStep 25 = .ok (.aload_n 0, 1) := by decide +kernel
theorem dX9_makeStep_26 : decode cX9_makeStep 26 = .ok (.getfield 30, 3) := by decide +kernel
theorem dX9_makeStep_29 : decode cX9_makeStep 29 = .ok (.iload_n 1, 1) := by decide +kernel
theorem dX9_makeStep_30 : decode cX9_makeStep 30 = .ok (.aload_n 0, 1) := by decide +kernel
theorem dX9_makeStep_31 : decode cX9_makeStep 31 = .ok (.getfield 17, 3) := by decide +kernel
theorem dX9_makeStep_34 : decode cX9_makeStep 34 = .ok (.iload_n 2, 1) := by decide +kernel
theorem dX9_makeStep_35 : decode cX9_makeStep 35 = .ok (.iaload, 1) := by decide +kernel
theorem dX9_makeStep_36 : decode cX9_makeStep 36 = .ok (.iastore, 1) := by decide +kernel
theorem dX9_makeStep_37 : decode cX9_makeStep 37 = .ok (.aload_n 0, 1) := by decide +kernel
theorem dX9_makeStep_38 : decode cX9_makeStep 38 = .ok (.dup, 1) := by decide +kernel
theorem dX9_makeStep_39 : decode cX9_makeStep 39 = .ok (.getfield 74, 3) := by decide +kernel
theorem dX9_makeStep_42 : decode cX9_makeStep 42 = .ok (.aload_n 0, 1) := by decide +kernel
theorem dX9_makeStep_43 : decode cX9_makeStep 43 = .ok (.getfield 21, 3) := by decide +kernel
theorem dX9_makeStep_46 : decode cX9_makeStep 46 = .ok (.iload_n 2, 1) := by decide +kernel
theorem dX9_makeStep_47 : decode cX9_makeStep 47 = .ok (.iaload, 1) := by decide +kernel
theorem dX9_makeStep_48 : decode cX9_makeStep 48 = .ok (.iconst 1, 1) := by decide +kernel
theorem dX9_makeStep_49 : decode cX9_makeStep 49 = .ok (.if_icmp .ne 7, 3) := by decide +kernel
theorem dX9_makeStep_52 : decode cX9_makeStep 52 = .ok (.iconst 1, 1) := by decide +kernel
theorem dX9_makeStep_53 : decode cX9_makeStep 53 = .ok (.goto 4, 3) := by decide +kernel
theorem dX9_makeStep_56 : decode cX9_makeStep 56 = .ok (.iconst (-1), 1) := by decide +kernel
theorem dX9_makeStep_57 : decode cX9_makeStep 57 = .ok (.iadd, 1) := by decide +kernel
theorem dX9_makeStep_58 : decode cX9_makeStep 58 = .ok (.putfield 74, 3) := by decide +kernel
theorem dX9_makeStep_61 : decode cX9_makeStep 61 = .ok (.aload_n 0, 1) := by decide +kernel
theorem dX9_makeStep_62 : decode cX9_makeStep 62 = .ok (.aload_n 0, 1) := by decide +kernel
theorem dX9_makeStep_63 : decode cX9_makeStep 63 = .ok (.getfield 24, 3) := by decide +kernel
theorem dX9_makeStep_66 : decode cX9_makeStep 66 = .ok (.iload_n 2, 1) := by decide +kernel
theorem dX9_makeStep_67 : decode cX9_makeStep 67 = .ok (.iaload, 1) := by decide +kernel
theorem dX9_makeStep_68 : decode cX9_makeStep 68 = .ok (.putfield 71, 3) := by decide +kernel
theorem dX9_makeStep_71 : decode cX9_makeStep 71 = .ok (.aload_n 0, 1) := by decide +kernel
theorem dX9_makeStep_72 : decode cX9_makeStep 72 = .ok (.dup, 1) := by decide +kernel
theorem dX9_makeStep_73 : decode cX9_makeStep 73 = .ok (.getfield 68, 3) := by decide +kernel
theorem dX9_makeStep_76 : decode cX9_makeStep 76 = .ok (.iconst 1, 1) := by decide +kernel
theorem dX9_makeStep_77 : decode cX9_makeStep 77 = .ok (.iadd, 1) := by decide +kernel
theorem dX9_makeStep_78 : decode cX9_makeStep 78 = .ok (.putfield 68, 3) := by decide +kernel
theorem dX9_makeStep_81 : decode cX9_makeStep 81 = .ok (.aload_n 0, 1) := by decide +kernel
theorem dX9_makeStep_82 : decode cX9_makeStep 82 = .ok (.getfield 33, 3) := by decide +kernel
theorem dX9_makeStep_85 : decode cX9_makeStep 85 = .ok (.aload_n 0, 1) := by decide +kernel
theorem dX9_makeStep_86 : decode cX9_makeStep 86 = .ok (.getfield 74, 3) := by decide +kernel
theorem dX9_makeStep_89 : decode cX9_makeStep 89 = .ok (.sipush 5000, 3) := by decide +kernel
theorem dX9_makeStep_92 : decode cX9_makeStep 92 = .ok (.iadd, 1) := by decide +kernel
theorem dX9_makeStep_93 : decode cX9_makeStep 93 = .ok (.iconst 1, 1) := by decide +kernel
theorem dX9_makeStep_94 : decode cX9_makeStep 94 = .ok (.iadd, 1) := by decide +kernel
theorem dX9_makeStep_95 : decode cX9_makeStep 95 = .ok (.iconst 1, 1) := by decide +kernel
theorem dX9_makeStep_96 : decode cX9_makeStep 96 = .ok (.bastore, 1) := by decide +kernel
theorem dX9_makeStep_97 : decode cX9_makeStep 97 = .ok (.return_, 1) := by decide +kernel
set_option maxRecDepth 20000 in
theorem ggX9_step_X9_in : GoodIn wsX9_step wsX9_in := goodIn_r _ [5] (by decide +kernel) (by decide +kernel)
set_option maxRecDepth 20000 in
theorem gX9_step_X9_in : GoodIn wsX9_step (va_wsS RX9 64 yX9_in wsX9_in) := goodIn_app (goodIn_of _ (by decide +kernel)) ggX9_step_X9_in
set_option maxRecDepth 20000 in
theorem ggX9_step_X9_hasHalted : GoodIn wsX9_step wsX9_hasHalted := goodIn_r _ [9, 10, 11, 12, 13, 22, 23, 24, 25, 26, 27, 28, 29, 30, 31, 32, 33, 34, 35, 36, 37, 38, 39, 40, 41, 42, 43, 44, 45, 46, 47, 48, 49, 50, 51] (by decide +kernel) (by decide +kernel)
set_option maxRecDepth 20000 in
theorem gX9_step_X9_hasHalted : GoodIn wsX9_step (wsV RX9 106 RX9 yX9_hasHalted wsX9_hasHalted) := goodIn_app (goodIn_of _ (by decide +kernel)) ggX9_step_X9_hasHalted
set_option maxRecDepth 20000 in
theorem ggX9_step_X9_makeStep : GoodIn wsX9_step wsX9_makeStep := goodIn_r _ [17, 13, 10, 12, 18, 19, 20, 1, 21, 22, 23, 24, 25, 26, 27, 28, 29, 30, 31, 32, 33, 34, 35, 36, 37, 38, 39, 40, 41, 42, 43, 44, 45, 46, 47, 48, 49, 50, 51] (by decide +kernel) (by decide +kernel)
set_option maxRecDepth 20000 in
theorem gX9_step_X9_makeStep : GoodIn wsX9_step (wsV RX9 110 RX9 yX9_makeStep wsX9_makeStep) := goodIn_app (goodIn_of _ (by decide +kernel)) ggX9_step_X9_makeStep
theorem dX9_step_0 : decode cX9_step 0 = .ok (.iload_n 1, 1) := by decide +kernel
theorem dX9_step_1 : decode cX9_step 1 = .ok (.iconst 1, 1) := by decide +kernel
theorem dX9_step_2 : decode cX9_step 2 = .ok (.sipush 1000, 3) := by decide +kernel
theorem dX9_step_5 : decode cX9_step 5 = .ok (.invokestatic 64, 3) := by decide +kernel
theorem dX9_step_8 : decode cX9_step 8 = .ok (.ifCond .eq 15, 3) := by decide +kernel
theorem dX9_step_11 : decode cX9_step 11 = .ok (.aload_n 0, 1) := by decide +kernel
theorem dX9_step_12 : decode cX9_step 12 = .ok (.getfield 68, 3) := by decide +kernel
theorem dX9_step_15 : decode cX9_step 15 = .ok (.iload_n 1, 1) := by decide +kernel
theorem dX9_step_16 : decode cX9_step 16 = .ok (.iadd, 1) := by decide +kernel
theorem dX9_step_17 : decode cX9_step 17 = .ok (.sipush 5000, 3) := by decide +kernel
theorem dX9_step_20 : decode cX9_step 20 = .ok (.if_icmp .le 7, 3) := by decide +kernel
theorem dX9_step_23 : decode cX9_step 23 = .ok (.sipush (-1002), 3) := by decide +kernel
theorem dX9_step_26 : decode cX9_step 26 = .ok (.ireturn, 1) := by decide +kernel
theorem dX9_step_27 : decode cX9_step 27 = .ok (.aload_n 0, 1) := by decide +kernel
theorem dX9_step_28 : decode cX9_step 28 = .ok (.invokevirtual 106, 3) := by decide +kernel
theorem dX9_step_31 : decode cX9_step 31 = .ok (.ifCond .eq 7, 3) := by decide +kernel
theorem dX9_step_34 : decode cX9_step 34 = .ok (.sipush (-1004), 3) := by decide +kernel
theorem dX9_step_37 : decode cX9_step 37 = .ok (.ireturn, 1) := by decide +kernel
theorem dX9_step_38 : decode cX9_step 38 = .ok (.iconst 0, 1) := by decide +kernel
theorem dX9_step_39 : decode cX9_step 39 = .ok (.istore_n 2, 1) := by decide +kernel
theorem dX9_step_40 : decode cX9_step 40 = .ok (.iload_n 2, 1) := by decide +kernel
theorem dX9_step_41 : decode cX9_step 41 = .ok (.iload_n 1, 1) := by decide +kernel
theorem dX9_step_42 : decode cX9_step 42 = .ok (.if_icmp .ge 20, 3) := by decide +kernel
theorem dX9_step_45 : decode cX9_step 45 = .ok (.aload_n 0, 1) := by decide +kernel
theorem dX9_step_46 : decode cX9_step 46 = .ok (.invokevirtual 106, 3) := by decide +kernel
theorem dX9_step_49 : decode cX9_step 49 = .ok (.ifCond .ne 13, 3) := by decide +kernel
theorem dX9_step_52 : decode cX9_step 52 = .ok (.aload_n 0, 1) := by decide +kernel
theorem dX9_step_53 : decode cX9_step 53 = .ok (.invokevirtual 110, 3) := by decide +kernel
theorem dX9_step_56 : decode cX9_step 56 = .ok (.iinc 2 1, 3) := by decide +kernel
theorem dX9_step_59 : decode cX9_step 59 = .ok (.goto (-19), 3) := by decide +kernel
theorem dX9_step_62 : decode cX9_step 62 = .ok (.iload_n 2, 1) := by decide +kernel
theorem dX9_step_63 : decode cX9_step 63 = .ok (.ireturn, 1) := by decide +kernel
theorem dX9_time_0 : decode cX9_time 0 = .ok (.aload_n 0, 1) := by decide +kernel
theorem dX9_time_1 : decode cX9_time 1 = .ok (.getfield 68, 3) := by decide +kernel
theorem dX9_time_4 : decode cX9_time 4 = .ok (.ireturn, 1) := by decide +kernel
theorem dX9_state_0 : decode cX9_state 0 = .ok (.aload_n 0, 1) := by decide +kernel
theorem dX9_state_1 : decode cX9_state 1 = .ok (.getfield 71, 3) := by decide +kernel
theorem dX9_state_4 : decode cX9_state 4 = .ok (.ireturn, 1) := by decide +kernel
set_option maxRecDepth 20000 in
theorem ggX9_halted_X9_hasHalted : GoodIn wsX9_halted wsX9_hasHalted := goodIn_r _ [5, 6, 7, 8, 9, 10, 11, 12, 13, 14, 15, 16, 17, 18, 19, 20, 21, 22, 23, 24, 25, 26, 27, 28, 29, 30, 31, 32, 33, 34, 35, 36, 37, 38, 39] (by decide +kernel) (by decide +kernel)
set_option maxRecDepth 20000 in
theorem gX9_halted_X9_hasHalted : GoodIn wsX9_halted (wsV RX9 106 RX9 yX9_hasHalted wsX9_hasHalted) := goodIn_app (goodIn_of _ (by decide +kernel)) ggX9_halted_X9_hasHalted
theorem dX9_halted_0 : decode cX9_halted 0 = .ok (.aload_n 0, 1) := by decide +kernel
theorem dX9_halted_1 : decode cX9_halted 1 = .ok (.invokevirtual 106, 3) := by decide +kernel
theorem dX9_halted_4 : decode cX9_halted 4 = .ok (.ireturn, 1) := by decide +kernel
theorem dX9_head_0 : decode cX9_head 0 = .ok (.aload_n 0, 1) := by decide +kernel
theorem dX9_head_1 : decode cX9_head 1 = .ok (.getfield 74, 3) := by decide +kernel
theorem dX9_head_4 : decode cX9_head 4 = .ok (.ireturn, 1) := by decide +kernel
set_option maxRecDepth 20000 in
theorem ggX9_cell_X9_in : GoodIn wsX9_cell wsX9_in := goodIn_r _ [5] (by decide +kernel) (by decide +kernel)
set_option maxRecDepth 20000 in
theorem gX9_cell_X9_in : GoodIn wsX9_cell (va_wsS RX9 64 yX9_in wsX9_in) := goodIn_app (goodIn_of _ (by decide +kernel)) ggX9_cell_X9_in
theorem dX9_cell_0 : decode cX9_cell 0 = .ok (.iload_n 1, 1) := by decide +kernel
theorem dX9_cell_1 : decode cX9_cell 1 = .ok (.sipush (-5000), 3) := by decide +kernel
theorem dX9_cell_4 : decode cX9_cell 4 = .ok (.sipush 5000, 3) := by decide +kernel
theorem dX9_cell_7 : decode cX9_cell 7 = .ok (.invokestatic 64, 3) := by decide +kernel
theorem dX9_cell_10 : decode cX9_cell 10 = .ok (.ifCond .eq 18, 3) := by decide +kernel
theorem dX9_cell_13 : decode cX9_cell 13 = .ok (.aload_n 0, 1) := by decide +kernel
theorem dX9_cell_14 : decode cX9_cell 14 = .ok (.getfield 30, 3) := by decide +kernel
theorem dX9_cell_17 : decode cX9_cell 17 = .ok (.iload_n 1, 1) := by decide +kernel
theorem dX9_cell_18 : decode cX9_cell 18 = .ok (.sipush 5000, 3) := by decide +kernel
theorem dX9_cell_21 : decode cX9_cell 21 = .ok (.iadd, 1) := by decide +kernel
theorem dX9_cell_22 : decode cX9_cell 22 = .ok (.iconst 1, 1) := by decide +kernel
theorem dX9_cell_23 : decode cX9_cell 23 = .ok (.iadd, 1) := by decide +kernel
theorem dX9_cell_24 : decode cX9_cell 24 = .ok (.iaload, 1) := by decide +kernel
theorem dX9_cell_25 : decode cX9_cell 25 = .ok (.goto 4, 3) := by decide +kernel
theorem dX9_cell_28 : decode cX9_cell 28 = .ok (.iconst 0, 1) := by decide +kernel
theorem dX9_cell_29 : decode cX9_cell 29 = .ok (.ireturn, 1) := by decide +kernel
theorem dX9_ones_0 : decode cX9_ones 0 = .ok (.iconst 0, 1) := by decide +kernel
theorem dX9_ones_1 : decode cX9_ones 1 = .ok (.istore_n 1, 1) := by decide +kernel
theorem dX9_ones_2 : decode cX9_ones 2 = .ok (.iconst 0, 1) := by decide +kernel
theorem dX9_ones_3 : decode cX9_ones 3 = .ok (.istore_n 2, 1) := by decide +kernel
theorem dX9_ones_4 : decode cX9_ones 4 = .ok (.iload_n 2, 1) := by decide +kernel
theorem dX9_ones_5 : decode cX9_ones 5 = .ok (.aload_n 0, 1) := by decide +kernel
theorem dX9_ones_6 : decode cX9_ones 6 = .ok (.getfield 30, 3) := by decide +kernel
theorem dX9_ones_9 : decode cX9_ones 9 = .ok (.arraylength, 1) := by decide +kernel
theorem dX9_ones_10 : decode cX9_ones 10 = .ok (.if_icmp .ge 18, 3) := by decide +kernel
theorem dX9_ones_13 : decode cX9_ones 13 = .ok (.iload_n 1, 1) := by decide +kernel
theorem dX9_ones_14 : decode cX9_ones 14 = .ok (.aload_n 0, 1) := by decide +kernel
theorem dX9_ones_15 : decode cX9_ones 15 = .ok (.getfield 30, 3) := by decide +kernel
theorem dX9_ones_18 : decode cX9_ones 18 = .ok (.iload_n 2, 1) := by decide +kernel
theorem dX9_ones_19 : decode cX9_ones 19 = .ok (.iaload, 1) := by decide +kernel
theorem dX9_ones_20 : decode cX9_ones 20 = .ok (.iadd, 1) := by decide +kernel
theorem dX9_ones_21 : decode cX9_ones 21 = .ok (.istore_n 1, 1) := by decide +kernel
theorem dX9_ones_22 : decode cX9_ones 22 = .ok (.iinc 2 1, 3) := by decide +kernel
theorem dX9_ones_25 : decode cX9_ones 25 = .ok (.goto (-21), 3) := by decide +kernel
theorem dX9_ones_28 : decode cX9_ones 28 = .ok (.iload_n 1, 1) := by decide +kernel
theorem dX9_ones_29 : decode cX9_ones 29 = .ok (.ireturn, 1) := by decide +kernel
theorem dX9_visited_0 : decode cX9_visited 0 = .ok (.iconst 0, 1) := by decide +kernel
theorem dX9_visited_1 : decode cX9_visited 1 = .ok (.istore_n 1, 1) := by decide +kernel
theorem dX9_visited_2 : decode cX9_visited 2 = .ok (.iconst 0, 1) := by decide +kernel
theorem dX9_visited_3 : decode cX9_visited 3 = .ok (.istore_n 2, 1) := by decide +kernel
theorem dX9_visited_4 : decode cX9_visited 4 = .ok (.iload_n 2, 1) := by decide +kernel
theorem dX9_visited_5 : decode cX9_visited 5 = .ok (.aload_n 0, 1) := by decide +kernel
theorem dX9_visited_6 : decode cX9_visited 6 = .ok (.getfield 30, 3) := by decide +kernel
theorem dX9_visited_9 : decode cX9_visited 9 = .ok (.arraylength, 1) := by decide +kernel
theorem dX9_visited_10 : decode cX9_visited 10 = .ok (.if_icmp .ge 26, 3) := by decide +kernel
theorem dX9_visited_13 : decode cX9_visited 13 = .ok (.iload_n 1, 1) := by decide +kernel
theorem dX9_visited_14 : decode cX9_visited 14 = .ok (.aload_n 0, 1) := by decide +kernel
theorem dX9_visited_15 : decode cX9_visited 15 = .ok (.getfield 33, 3) := by decide +kernel
theorem dX9_visited_18 : decode cX9_visited 18 = .ok (.iload_n 2, 1) := by decide +kernel
theorem dX9_visited_19 : decode cX9_visited 19 = .ok (.baload, 1) := by decide +kernel
theorem dX9_visited_20 : decode cX9_visited 20 = .ok (.ifCond .eq 7, 3) := by decide +kernel
theorem dX9_visited_23 : decode cX9_visited 23 = .ok (.iconst 1, 1) := by decide +kernel
theorem dX9_visited_24 : decode cX9_visited 24 = .ok (.goto 4, 3) := by decide +kernel
theorem dX9_visited_27 : decode cX9_visited 27 = .ok (.iconst 0, 1) := by decide +kernel
theorem dX9_visited_28 : decode cX9_visited 28 = .ok (.iadd, 1) := by decide +kernel
theorem dX9_visited_29 : decode cX9_visited 29 = .ok (.istore_n 1, 1) := by decide +kernel
theorem dX9_visited_30 : decode cX9_visited 30 = .ok (.iinc 2 1, 3) := by decide +kernel
theorem dX9_visited_33 : decode cX9_visited 33 = .ok (.goto (-29), 3) := by decide +kernel
theorem dX9_visited_36 : decode cX9_visited 36 = .ok (.iload_n 1, 1) := by decide +kernel
theorem dX9_visited_37 : decode cX9_visited 37 = .ok (.ireturn, 1) := by decide +kernel
theorem dX9_symbolAt_0 : decode cX9_symbolAt 0 = .ok (.aload_n 0, 1) := by decide +kernel
theorem dX9_symbolAt_1 : decode cX9_symbolAt 1 = .ok (.getfield 37, 3) := by decide +kernel
theorem dX9_symbolAt_4 : decode cX9_symbolAt 4 = .ok (.sipush 403, 3) := by decide +kernel
theorem dX9_symbolAt_7 : decode cX9_symbolAt 7 = .ok (.iload_n 1, 1) := by decide +kernel
theorem dX9_symbolAt_8 : decode cX9_symbolAt 8 = .ok (.imul, 1) := by decide +kernel
theorem dX9_symbolAt_9 : decode cX9_symbolAt 9 = .ok (.sipush 201, 3) := by decide +kernel
theorem dX9_symbolAt_12 : decode cX9_symbolAt 12 = .ok (.iadd, 1) := by decide +kernel
theorem dX9_symbolAt_13 : decode cX9_symbolAt 13 = .ok (.iload_n 2, 1) := by decide +kernel
theorem dX9_symbolAt_14 : decode cX9_symbolAt 14 = .ok (.iadd, 1) := by decide +kernel
theorem dX9_symbolAt_15 : decode cX9_symbolAt 15 = .ok (.iaload, 1) := by decide +kernel
theorem dX9_symbolAt_16 : decode cX9_symbolAt 16 = .ok (.ireturn, 1) := by decide +kernel
set_option maxRecDepth 20000 in
theorem ggX9_haltsAt_X9_symbolAt : GoodIn wsX9_haltsAt wsX9_symbolAt := goodIn_r _ [8, 9, 10, 11, 12, 13, 14, 15, 16, 17, 18, 19, 20, 21, 22, 23, 24, 25, 26, 27, 28, 29, 30, 31, 32, 33, 34, 35, 36, 37, 38, 39] (by decide +kernel) (by decide +kernel)
set_option maxRecDepth 20000 in
theorem gX9_haltsAt_X9_symbolAt : GoodIn wsX9_haltsAt (wsV RX9 113 RX9 yX9_symbolAt wsX9_symbolAt) := goodIn_app (goodIn_of _ (by decide +kernel)) ggX9_haltsAt_X9_symbolAt
theorem dX9_haltsAt_0 : decode cX9_haltsAt 0 = .ok (.aload_n 0, 1) := by decide +kernel
theorem dX9_haltsAt_1 : decode cX9_haltsAt 1 = .ok (.getfield 43, 3) := by decide +kernel
theorem dX9_haltsAt_4 : decode cX9_haltsAt 4 = .ok (.iload_n 1, 1) := by decide +kernel
theorem dX9_haltsAt_5 : decode cX9_haltsAt 5 = .ok (.iaload, 1) := by decide +kernel
theorem dX9_haltsAt_6 : decode cX9_haltsAt 6 = .ok (.bipush 9, 2) := by decide +kernel
theorem dX9_haltsAt_8 : decode cX9_haltsAt 8 = .ok (.if_icmp .eq 31, 3) := by decide +kernel
theorem dX9_haltsAt_11 : decode cX9_haltsAt 11 = .ok (.aload_n 0, 1) := by decide +kernel
theorem dX9_haltsAt_12 : decode cX9_haltsAt 12 = .ok (.getfield 13, 3) := by decide +kernel
theorem dX9_haltsAt_15 : decode cX9_haltsAt 15 = .ok (.iconst 2, 1) := by decide +kernel
theorem dX9_haltsAt_16 : decode cX9_haltsAt 16 = .ok (.aload_n 0, 1) := by decide +kernel
theorem dX9_haltsAt_17 : decode cX9_haltsAt 17 = .ok (.getfield 43, 3) := by decide +kernel
theorem dX9_haltsAt_20 : decode cX9_haltsAt 20 = .ok (.iload_n 1, 1) := by decide +kernel
theorem dX9_haltsAt_21 : decode cX9_haltsAt 21 = .ok (.iaload, 1) := by decide +kernel
theorem dX9_haltsAt_22 : decode cX9_haltsAt 22 = .ok (.imul, 1) := by decide +kernel
theorem dX9_haltsAt_23 : decode cX9_haltsAt 23 = .ok (.aload_n 0, 1) := by decide +kernel
theorem dX9_haltsAt_24 : decode cX9_haltsAt 24 = .ok (.iload_n 1, 1) := by decide +kernel
theorem dX9_haltsAt_25 : decode cX9_haltsAt 25 = .ok (.aload_n 0, 1) := by decide +kernel
theorem dX9_haltsAt_26 : decode cX9_haltsAt 26 = .ok (.getfield 40, 3) := by decide +kernel
theorem dX9_haltsAt_29 : decode cX9_haltsAt 29 = .ok (.iload_n 1, 1) := by decide +kernel
theorem dX9_haltsAt_30 : decode cX9_haltsAt 30 = .ok (.iaload, 1) := by decide +kernel
theorem dX9_haltsAt_31 : decode cX9_haltsAt 31 = .ok (.invokevirtual 113, 3) := by decide +kernel
theorem dX9_haltsAt_34 : decode cX9_haltsAt 34 = .ok (.iadd, 1) := by decide +kernel
theorem dX9_haltsAt_35 : decode cX9_haltsAt 35 = .ok (.baload, 1) := by decide +kernel
theorem dX9_haltsAt_36 : decode cX9_haltsAt 36 = .ok (.ifCond .ne 7, 3) := by decide +kernel
theorem dX9_haltsAt_39 : decode cX9_haltsAt 39 = .ok (.iconst 1, 1) := by decide +kernel
theorem dX9_haltsAt_40 : decode cX9_haltsAt 40 = .ok (.goto 4, 3) := by decide +kernel
theorem dX9_haltsAt_43 : decode cX9_haltsAt 43 = .ok (.iconst 0, 1) := by decide +kernel
theorem dX9_haltsAt_44 : decode cX9_haltsAt 44 = .ok (.ireturn, 1) := by decide +kernel
set_option maxRecDepth 20000 in
theorem ggX9_layNext_X9_symbolAt : GoodIn wsX9_layNext wsX9_symbolAt := goodIn_r _ [11, 1, 12, 13, 14, 15, 16, 17, 18, 19, 20, 21, 22, 23, 24, 25, 26, 27, 28, 29, 30, 31, 32, 33, 34, 35, 36, 37, 38, 39, 40, 41] (by decide +kernel) (by decide +kernel)
set_option maxRecDepth 20000 in
theorem gX9_layNext_X9_symbolAt : GoodIn wsX9_layNext (wsV RX9 113 RX9 yX9_symbolAt wsX9_symbolAt) := goodIn_app (goodIn_of _ (by decide +kernel)) ggX9_layNext_X9_symbolAt
theorem dX9_layNext_0 : decode cX9_layNext 0 = .ok (.iconst 0, 1) := by decide +kernel
theorem dX9_layNext_1 : decode cX9_layNext 1 = .ok (.istore_n 2, 1) := by decide +kernel
theorem dX9_layNext_2 : decode cX9_layNext 2 = .ok (.iload_n 2, 1) := by decide +kernel
theorem dX9_layNext_3 : decode cX9_layNext 3 = .ok (.sipush 403, 3) := by decide +kernel
theorem dX9_layNext_6 : decode cX9_layNext 6 = .ok (.if_icmp .ge 35, 3) := by decide +kernel
theorem dX9_layNext_9 : decode cX9_layNext 9 = .ok (.aload_n 0, 1) := by decide +kernel
theorem dX9_layNext_10 : decode cX9_layNext 10 = .ok (.getfield 37, 3) := by decide +kernel
theorem dX9_layNext_13 : decode cX9_layNext 13 = .ok (.sipush 403, 3) := by decide +kernel
theorem dX9_layNext_16 : decode cX9_layNext 16 = .ok (.iload_n 1, 1) := by decide +kernel
theorem dX9_layNext_17 : decode cX9_layNext 17 = .ok (.iconst 1, 1) := by decide +kernel
theorem dX9_layNext_18 : decode cX9_layNext 18 = .ok (.iadd, 1) := by decide +kernel
theorem dX9_layNext_19 : decode cX9_layNext 19 = .ok (.imul, 1) := by decide +kernel
theorem dX9_layNext_20 : decode cX9_layNext 20 = .ok (.iload_n 2, 1) := by decide +kernel
theorem dX9_layNext_21 : decode cX9_layNext 21 = .ok (.iadd, 1) := by decide +kernel
theorem dX9_layNext_22 : decode cX9_layNext 22 = .ok (.aload_n 0, 1) := by decide +kernel
theorem dX9_layNext_23 : decode cX9_layNext 23 = .ok (.getfield 37, 3) := by decide +kernel
theorem dX9_layNext_26 : decode cX9_layNext 26 = .ok (.sipush 403, 3) := by decide +kernel
theorem dX9_layNext_29 : decode cX9_layNext 29 = .ok (.iload_n 1, 1) := by decide +kernel
theorem dX9_layNext_30 : decode cX9_layNext 30 = .ok (.imul, 1) := by decide +kernel
theorem dX9_layNext_31 : decode cX9_layNext 31 = .ok (.iload_n 2, 1) := by decide +kernel
theorem dX9_layNext_32 : decode cX9_layNext 32 = .ok (.iadd, 1) := by decide +kernel
theorem dX9_layNext_33 : decode cX9_layNext 33 = .ok (.iaload, 1) := by decide +kernel
theorem dX9_layNext_34 : decode cX9_layNext 34 = .ok (.iastore, 1) := by decide +kernel
theorem dX9_layNext_35 : decode cX9_layNext 35 = .ok (.iinc 2 1, 3) := by decide +kernel
theorem dX9_layNext_38 : decode cX9_layNext 38 = .ok (.goto (-36), 3) := by decide +kernel
theorem dX9_layNext_41 : decode cX9_layNext 41 = .ok (.iconst 2, 1) := by decide +kernel
theorem dX9_layNext_42 : decode cX9_layNext 42 = .ok (.aload_n 0, 1) := by decide +kernel
theorem dX9_layNext_43 : decode cX9_layNext 43 = .ok (.getfield 43, 3) := by decide +kernel
theorem dX9_layNext_46 : decode cX9_layNext 46 = .ok (.iload_n 1, 1) := by decide +kernel
theorem dX9_layNext_47 : decode cX9_layNext 47 = .ok (.iaload, 1) := by decide +kernel
theorem dX9_layNext_48 : decode cX9_layNext 48 = .ok (.imul, 1) := by decide +kernel
theorem dX9_layNext_49 : decode cX9_layNext 49 = .ok (.aload_n 0, 1) := by decide +kernel
theorem dX9_layNext_50 : decode cX9_layNext 50 = .ok (.iload_n 1, 1) := by decide +kernel
theorem dX9_layNext_51 : decode cX9_layNext 51 = .ok (.aload_n 0, 1) := by decide +kernel
theorem dX9_layNext_52 : decode cX9_layNext 52 = .ok (.getfield 40, 3) := by decide +kernel
theorem dX9_layNext_55 : decode cX9_layNext 55 = .ok (.iload_n 1, 1) := by decide +kernel
theorem dX9_layNext_56 : decode cX9_layNext 56 = .ok (.iaload, 1) := by decide +kernel
theorem dX9_layNext_57 : decode cX9_layNext 57 = .ok (.invokevirtual 113, 3) := by decide +kernel
theorem dX9_layNext_60 : decode cX9_layNext 60 = .ok (.iadd, 1) := by decide +kernel
theorem dX9_layNext_61 : decode cX9_layNext 61 = .ok (.istore_n 2, 1) := by decide +kernel
theorem dX9_layNext_62 : decode cX9_layNext 62 = .ok (.aload_n 0, 1) := by decide +kernel
theorem dX9_layNext_63 : decode cX9_layNext 63 = .ok (.getfield 37, 3) := by decide +kernel
theorem dX9_layNext_66 : decode cX9_layNext 66 = .ok (.sipush 403, 3) := by decide +kernel
theorem dX9_layNext_69 : decode cX9_layNext 69 = .ok (.iload_n 1, 1) := by decide +kernel
theorem dX9_layNext_70 : decode cX9_layNext 70 = .ok (.iconst 1, 1) := by decide +kernel
theorem dX9_layNext_71 : decode cX9_layNext 71 = .ok (.iadd, 1) := by decide +kernel
theorem dX9_layNext_72 : decode cX9_layNext 72 = .ok (.imul, 1) := by decide +kernel
theorem dX9_layNext_73 : decode cX9_layNext 73 = .ok (.sipush 201, 3) := by decide +kernel
theorem dX9_layNext_76 : decode cX9_layNext 76 = .ok (.iadd, 1) := by decide +kernel
theorem dX9_layNext_77 : decode cX9_layNext 77 = .ok (.aload_n 0, 1) := by decide +kernel
theorem dX9_layNext_78 : decode cX9_layNext 78 = .ok (.getfield 40, 3) := by decide +kernel
theorem dX9_layNext_81 : decode cX9_layNext 81 = .ok (.iload_n 1, 1) := by decide +kernel
theorem dX9_layNext_82 : decode cX9_layNext 82 = .ok (.iaload, 1) := by decide +kernel
theorem dX9_layNext_83 : decode cX9_layNext 83 = .ok (.iadd, 1) := by decide +kernel
theorem dX9_layNext_84 : decode cX9_layNext 84 = .ok (.aload_n 0, 1) := by decide +kernel
theorem dX9_layNext_85 : decode cX9_layNext 85 = .ok (.getfield 17, 3) := by decide +kernel
theorem dX9_layNext_88 : decode cX9_layNext 88 = .ok (.iload_n 2, 1) := by decide +kernel
theorem dX9_layNext_89 : decode cX9_layNext 89 = .ok (.iaload, 1) := by decide +kernel
theorem dX9_layNext_90 : decode cX9_layNext 90 = .ok (.iastore, 1) := by decide +kernel
theorem dX9_layNext_91 : decode cX9_layNext 91 = .ok (.aload_n 0, 1) := by decide +kernel
theorem dX9_layNext_92 : decode cX9_layNext 92 = .ok (.getfield 40, 3) := by decide +kernel
theorem dX9_layNext_95 : decode cX9_layNext 95 = .ok (.iload_n 1, 1) := by decide +kernel
theorem dX9_layNext_96 : decode cX9_layNext 96 = .ok (.iconst 1, 1) := by decide +kernel
theorem dX9_layNext_97 : decode cX9_layNext 97 = .ok (.iadd, 1) := by decide +kernel
theorem dX9_layNext_98 : decode cX9_layNext 98 = .ok (.aload_n 0, 1) := by decide +kernel
theorem dX9_layNext_99 : decode cX9_layNext 99 = .ok (.getfield 40, 3) := by decide +kernel
theorem dX9_layNext_102 : decode cX9_layNext 102 = .ok (.iload_n 1, 1) := by decide +kernel
theorem dX9_layNext_103 : decode cX9_layNext 103 = .ok (.iaload, 1) := by decide +kernel
theorem dX9_layNext_104 : decode cX9_layNext 104 = .ok (.aload_n 0, 1) := by decide +kernel
theorem dX9_layNext_105 : decode cX9_layNext 105 = .ok (.getfield 21, 3) := by decide +kernel
theorem dX9_layNext_108 : decode cX9_layNext 108 = .ok (.iload_n 2, 1) := by decide +kernel
theorem dX9_layNext_109 : decode cX9_layNext 109 = .ok (.iaload, 1) := by decide +kernel
theorem dX9_layNext_110 : decode cX9_layNext 110 = .ok (.iconst 1, 1) := by decide +kernel
theorem dX9_layNext_111 : decode cX9_layNext 111 = .ok (.if_icmp .ne 7, 3) := by decide +kernel
theorem dX9_layNext_114 : decode cX9_layNext 114 = .ok (.iconst 1, 1) := by decide +kernel
theorem dX9_layNext_115 : decode cX9_layNext 115 = .ok (.goto 4, 3) := by decide +kernel
theorem dX9_layNext_118 : decode cX9_layNext 118 = .ok (.iconst (-1), 1) := by decide +kernel
theorem dX9_layNext_119 : decode cX9_layNext 119 = .ok (.iadd, 1) := by decide +kernel
theorem dX9_layNext_120 : decode cX9_layNext 120 = .ok (.iastore, 1) := by decide +kernel
theorem dX9_layNext_121 : decode cX9_layNext 121 = .ok (.aload_n 0, 1) := by decide +kernel
theorem dX9_layNext_122 : decode cX9_layNext 122 = .ok (.getfield 43, 3) := by decide +kernel
theorem dX9_layNext_125 : decode cX9_layNext 125 = .ok (.iload_n 1, 1) := by decide +kernel
theorem dX9_layNext_126 : decode cX9_layNext 126 = .ok (.iconst 1, 1) := by decide +kernel
theorem dX9_layNext_127 : decode cX9_layNext 127 = .ok (.iadd, 1) := by decide +kernel
theorem dX9_layNext_128 : decode cX9_layNext 128 = .ok (.aload_n 0, 1) := by decide +kernel
theorem dX9_layNext_129 : decode cX9_layNext 129 = .ok (.getfield 24, 3) := by decide +kernel
theorem dX9_layNext_132 : decode cX9_layNext 132 = .ok (.iload_n 2, 1) := by decide +kernel
theorem dX9_layNext_133 : decode cX9_layNext 133 = .ok (.iaload, 1) := by decide +kernel
theorem dX9_layNext_134 : decode cX9_layNext 134 = .ok (.iastore, 1) := by decide +kernel
theorem dX9_layNext_135 : decode cX9_layNext 135 = .ok (.return_, 1) := by decide +kernel
set_option maxRecDepth 20000 in
theorem ggX9_simulate_X9_haltsAt : GoodIn wsX9_simulate wsX9_haltsAt := goodIn_r _ [10, 3, 11, 2, 12, 13, 14, 9, 15, 1, 23, 24, 25, 26, 27, 28, 29, 30, 31, 32, 33, 34, 35, 36, 37, 38, 39, 40, 41, 42, 43, 44, 45, 46, 47, 48, 49, 50, 51, 52] (by decide +kernel) (by decide +kernel)
set_option maxRecDepth 20000 in
theorem gX9_simulate_X9_haltsAt : GoodIn wsX9_simulate (wsV RX9 122 RX9 yX9_haltsAt wsX9_haltsAt) := goodIn_app (goodIn_of _ (by decide +kernel)) ggX9_simulate_X9_haltsAt
set_option maxRecDepth 20000 in
theorem ggX9_simulate_X9_layNext : GoodIn wsX9_simulate wsX9_layNext := goodIn_r _ [19, 1, 3, 2, 20, 21, 22, 12, 13, 14, 9, 15, 23, 24, 25, 26, 27, 28, 29, 30, 31, 32, 33, 34, 35, 36, 37, 38, 39, 40, 41, 42, 43, 44, 45, 46, 47, 48, 49, 50, 51, 52] (by decide +kernel) (by decide +kernel)
set_option maxRecDepth 20000 in
theorem gX9_simulate_X9_layNext : GoodIn wsX9_simulate (wsV RX9 125 RX9 yX9_layNext wsX9_layNext) := goodIn_app (goodIn_of _ (by decide +kernel)) ggX9_simulate_X9_layNext
theorem dX9_simulate_0 : decode cX9_simulate 0 = .ok (.iconst 0, 1) := by decide +kernel
theorem dX9_simulate_1 : decode cX9_simulate 1 = .ok (.istore_n 2, 1) := by decide +kernel
theorem dX9_simulate_2 : decode cX9_simulate 2 = .ok (.iload_n 2, 1) := by decide +kernel
theorem dX9_simulate_3 : decode cX9_simulate 3 = .ok (.sipush 403, 3) := by decide +kernel
theorem dX9_simulate_6 : decode cX9_simulate 6 = .ok (.if_icmp .ge 16, 3) := by decide +kernel
theorem dX9_simulate_9 : decode cX9_simulate 9 = .ok (.aload_n 0, 1) := by decide +kernel
theorem dX9_simulate_10 : decode cX9_simulate 10 = .ok (.getfield 37, 3) := by decide +kernel
theorem dX9_simulate_13 : decode cX9_simulate 13 = .ok (.iload_n 2, 1) := by decide +kernel
theorem dX9_simulate_14 : decode cX9_simulate 14 = .ok (.iconst 0, 1) := by decide +kernel
theorem dX9_simulate_15 : decode cX9_simulate 15 = .ok (.iastore, 1) := by decide +kernel
theorem dX9_simulate_16 : decode cX9_simulate 16 = .ok (.iinc 2 1, 3) := by decide +kernel
theorem dX9_simulate_19 : decode cX9_simulate 19 = .ok (.goto (-17), 3) := by decide +kernel
theorem dX9_simulate_22 : decode cX9_simulate 22 = .ok (.aload_n 0, 1) := by decide +kernel
theorem dX9_simulate_23 : decode cX9_simulate 23 = .ok (.getfield 40, 3) := by decide +kernel
theorem dX9_simulate_26 : decode cX9_simulate 26 = .ok (.iconst 0, 1) := by decide +kernel
theorem dX9_simulate_27 : decode cX9_simulate 27 = .ok (.iconst 0, 1) := by decide +kernel
theorem dX9_simulate_28 : decode cX9_simulate 28 = .ok (.iastore, 1) := by decide +kernel
theorem dX9_simulate_29 : decode cX9_simulate 29 = .ok (.aload_n 0, 1) := by decide +kernel
theorem dX9_simulate_30 : decode cX9_simulate 30 = .ok (.getfield 43, 3) := by decide +kernel
theorem dX9_simulate_33 : decode cX9_simulate 33 = .ok (.iconst 0, 1) := by decide +kernel
theorem dX9_simulate_34 : decode cX9_simulate 34 = .ok (.iconst 0, 1) := by decide +kernel
theorem dX9_simulate_35 : decode cX9_simulate 35 = .ok (.iastore, 1) := by decide +kernel
theorem dX9_simulate_36 : decode cX9_simulate 36 = .ok (.aload_n 0, 1) := by decide +kernel
theorem dX9_simulate_37 : decode cX9_simulate 37 = .ok (.sipush (-1005), 3) := by decide +kernel
theorem dX9_simulate_40 : decode cX9_simulate 40 = .ok (.putfield 116, 3) := by decide +kernel
theorem dX9_simulate_43 : decode cX9_simulate 43 = .ok (.aload_n 0, 1) := by decide +kernel
theorem dX9_simulate_44 : decode cX9_simulate 44 = .ok (.iconst 0, 1) := by decide +kernel
theorem dX9_simulate_45 : decode cX9_simulate 45 = .ok (.putfield 119, 3) := by decide +kernel
theorem dX9_simulate_48 : decode cX9_simulate 48 = .ok (.iconst 0, 1) := by decide +kernel
theorem dX9_simulate_49 : decode cX9_simulate 49 = .ok (.istore_n 2, 1) := by decide +kernel
theorem dX9_simulate_50 : decode cX9_simulate 50 = .ok (.iload_n 2, 1) := by decide +kernel
theorem dX9_simulate_51 : decode cX9_simulate 51 = .ok (.iload_n 1, 1) := by decide +kernel
theorem dX9_simulate_52 : decode cX9_simulate 52 = .ok (.if_icmp .gt 52, 3) := by decide +kernel
theorem dX9_simulate_55 : decode cX9_simulate 55 = .ok (.aload_n 0, 1) := by decide +kernel
theorem dX9_simulate_56 : decode cX9_simulate 56 = .ok (.getfield 116, 3) := by decide +kernel
theorem dX9_simulate_59 : decode cX9_simulate 59 = .ok (.ifCond .ge 45, 3) := by decide +kernel
theorem dX9_simulate_62 : decode cX9_simulate 62 = .ok (.aload_n 0, 1) := by decide +kernel
theorem dX9_simulate_63 : decode cX9_simulate 63 = .ok (.iload_n 2, 1) := by decide +kernel
theorem dX9_simulate_64 : decode cX9_simulate 64 = .ok (.invokevirtual 122, 3) := by decide +kernel
theorem dX9_simulate_67 : decode cX9_simulate 67 = .ok (.ifCond .eq 11, 3) := by decide +kernel
theorem dX9_simulate_70 : decode cX9_simulate 70 = .ok (.aload_n 0, 1) := by decide +kernel
theorem dX9_simulate_71 : decode cX9_simulate 71 = .ok (.iload_n 2, 1) := by decide +kernel
theorem dX9_simulate_72 : decode cX9_simulate 72 = .ok (.putfield 116, 3) := by decide +kernel
theorem dX9_simulate_75 : decode cX9_simulate 75 = .ok (.goto 23, 3) := by decide +kernel
theorem dX9_simulate_78 : decode cX9_simulate 78 = .ok (.aload_n 0, 1) := by decide +kernel
theorem dX9_simulate_79 : decode cX9_simulate 79 = .ok (.dup, 1) := by decide +kernel
theorem dX9_simulate_80 : decode cX9_simulate 80 = .ok (.getfield 119, 3) := by decide +kernel
theorem dX9_simulate_83 : decode cX9_simulate 83 = .ok (.iconst 1, 1) := by decide +kernel
theorem dX9_simulate_84 : decode cX9_simulate 84 = .ok (.iadd, 1) := by decide +kernel
theorem dX9_simulate_85 : decode cX9_simulate 85 = .ok (.putfield 119, 3) := by decide +kernel
theorem dX9_simulate_88 : decode cX9_simulate 88 = .ok (.iload_n 2, 1) := by decide +kernel
theorem dX9_simulate_89 : decode cX9_simulate 89 = .ok (.iload_n 1, 1) := by decide +kernel
theorem dX9_simulate_90 : decode cX9_simulate 90 = .ok (.if_icmp .ge 8, 3) := by decide +kernel
theorem dX9_simulate_93 : decode cX9_simulate 93 = .ok (.aload_n 0, 1) := by decide +kernel
theorem dX9_simulate_94 : decode cX9_simulate 94 = .ok (.iload_n 2, 1) := by decide +kernel
theorem dX9_simulate_95 : decode cX9_simulate 95 = .ok (.invokevirtual 125, 3) := by decide +kernel
theorem dX9_simulate_98 : decode cX9_simulate 98 = .ok (.iinc 2 1, 3) := by decide +kernel
theorem dX9_simulate_101 : decode cX9_simulate 101 = .ok (.goto (-51), 3) := by decide +kernel
theorem dX9_simulate_104 : decode cX9_simulate 104 = .ok (.return_, 1) := by decide +kernel
set_option maxRecDepth 20000 in
theorem ggX9_isLimit_X9_in : GoodIn wsX9_isLimit wsX9_in := goodIn_r _ [4] (by decide +kernel) (by decide +kernel)
set_option maxRecDepth 20000 in
theorem gX9_isLimit_X9_in : GoodIn wsX9_isLimit (va_wsS RX9 64 yX9_in wsX9_in) := goodIn_app (goodIn_of _ (by decide +kernel)) ggX9_isLimit_X9_in
theorem dX9_isLimit_0 : decode cX9_isLimit 0 = .ok (.iload_n 0, 1) := by decide +kernel
theorem dX9_isLimit_1 : decode cX9_isLimit 1 = .ok (.iconst 1, 1) := by decide +kernel
theorem dX9_isLimit_2 : decode cX9_isLimit 2 = .ok (.sipush 200, 3) := by decide +kernel
theorem dX9_isLimit_5 : decode cX9_isLimit 5 = .ok (.invokestatic 64, 3) := by decide +kernel
theorem dX9_isLimit_8 : decode cX9_isLimit 8 = .ok (.ireturn, 1) := by decide +kernel
set_option maxRecDepth 20000 in
theorem ggX9_haltingTime_X9_isLimit : GoodIn wsX9_haltingTime wsX9_isLimit := goodIn_r _ [5, 6, 7, 4, 8] (by decide +kernel) (by decide +kernel)
set_option maxRecDepth 20000 in
theorem gX9_haltingTime_X9_isLimit : GoodIn wsX9_haltingTime (va_wsS RX9 128 yX9_isLimit wsX9_isLimit) := goodIn_app (goodIn_of _ (by decide +kernel)) ggX9_haltingTime_X9_isLimit
set_option maxRecDepth 20000 in
theorem ggX9_haltingTime_X9_simulate : GoodIn wsX9_haltingTime wsX9_simulate := goodIn_r _ [12, 13, 14, 15, 1, 16, 17, 18, 19, 4, 20, 21, 22, 23, 24, 25, 26, 27, 28, 29, 30, 31, 32, 33, 34, 35, 36, 37, 38, 39, 40, 41, 42, 43, 44, 45, 46, 47, 48, 49, 50, 51, 52, 53, 54, 55, 56, 57, 58, 59, 60, 61, 62] (by decide +kernel) (by decide +kernel)
set_option maxRecDepth 20000 in
theorem gX9_haltingTime_X9_simulate : GoodIn wsX9_haltingTime (wsV RX9 131 RX9 yX9_simulate wsX9_simulate) := goodIn_app (goodIn_of _ (by decide +kernel)) ggX9_haltingTime_X9_simulate
theorem dX9_haltingTime_0 : decode cX9_haltingTime 0 = .ok (.iload_n 1, 1) := by decide +kernel
theorem dX9_haltingTime_1 : decode cX9_haltingTime 1 = .ok (.invokestatic 128, 3) := by decide +kernel
theorem dX9_haltingTime_4 : decode cX9_haltingTime 4 = .ok (.ifCond .ne 7, 3) := by decide +kernel
theorem dX9_haltingTime_7 : decode cX9_haltingTime 7 = .ok (.sipush (-1002), 3) := by decide +kernel
theorem dX9_haltingTime_10 : decode cX9_haltingTime 10 = .ok (.ireturn, 1) := by decide +kernel
theorem dX9_haltingTime_11 : decode cX9_haltingTime 11 = .ok (.aload_n 0, 1) := by decide +kernel
theorem dX9_haltingTime_12 : decode cX9_haltingTime 12 = .ok (.iload_n 1, 1) := by decide +kernel
theorem dX9_haltingTime_13 : decode cX9_haltingTime 13 = .ok (.invokevirtual 131, 3) := by decide +kernel
theorem dX9_haltingTime_16 : decode cX9_haltingTime 16 = .ok (.aload_n 0, 1) := by decide +kernel
theorem dX9_haltingTime_17 : decode cX9_haltingTime 17 = .ok (.getfield 116, 3) := by decide +kernel
theorem dX9_haltingTime_20 : decode cX9_haltingTime 20 = .ok (.ireturn, 1) := by decide +kernel
theorem dX9_areEqual_0 : decode cX9_areEqual 0 = .ok (.aload_n 0, 1) := by decide +kernel
theorem dX9_areEqual_1 : decode cX9_areEqual 1 = .ok (.getfield 43, 3) := by decide +kernel
theorem dX9_areEqual_4 : decode cX9_areEqual 4 = .ok (.iload_n 1, 1) := by decide +kernel
theorem dX9_areEqual_5 : decode cX9_areEqual 5 = .ok (.iaload, 1) := by decide +kernel
theorem dX9_areEqual_6 : decode cX9_areEqual 6 = .ok (.aload_n 0, 1) := by decide +kernel
theorem dX9_areEqual_7 : decode cX9_areEqual 7 = .ok (.getfield 43, 3) := by decide +kernel
theorem dX9_areEqual_10 : decode cX9_areEqual 10 = .ok (.iload_n 2, 1) := by decide +kernel
theorem dX9_areEqual_11 : decode cX9_areEqual 11 = .ok (.iaload, 1) := by decide +kernel
theorem dX9_areEqual_12 : decode cX9_areEqual 12 = .ok (.if_icmp .ne 22, 3) := by decide +kernel
theorem dX9_areEqual_15 : decode cX9_areEqual 15 = .ok (.aload_n 0, 1) := by decide +kernel
theorem dX9_areEqual_16 : decode cX9_areEqual 16 = .ok (.getfield 40, 3) := by decide +kernel
theorem dX9_areEqual_19 : decode cX9_areEqual 19 = .ok (.iload_n 1, 1) := by decide +kernel
theorem dX9_areEqual_20 : decode cX9_areEqual 20 = .ok (.iaload, 1) := by decide +kernel
theorem dX9_areEqual_21 : decode cX9_areEqual 21 = .ok (.aload_n 0, 1) := by decide +kernel
theorem dX9_areEqual_22 : decode cX9_areEqual 22 = .ok (.getfield 40, 3) := by decide +kernel
theorem dX9_areEqual_25 : decode cX9_areEqual 25 = .ok (.iload_n 2, 1) := by decide +kernel
theorem dX9_areEqual_26 : decode cX9_areEqual 26 = .ok (.iaload, 1) := by decide +kernel
theorem dX9_areEqual_27 : decode cX9_areEqual 27 = .ok (.if_icmp .ne 7, 3) := by decide +kernel
theorem dX9_areEqual_30 : decode cX9_areEqual 30 = .ok (.iconst 1, 1) := by decide +kernel
theorem dX9_areEqual_31 : decode cX9_areEqual 31 = .ok (.goto 4, 3) := by decide +kernel
theorem dX9_areEqual_34 : decode cX9_areEqual 34 = .ok (.iconst 0, 1) := by decide +kernel
theorem dX9_areEqual_35 : decode cX9_areEqual 35 = .ok (.istore_n 3, 1) := by decide +kernel
theorem dX9_areEqual_36 : decode cX9_areEqual 36 = .ok (.iconst 0, 1) := by decide +kernel
theorem dX9_areEqual_37 : decode cX9_areEqual 37 = .ok (.istore 4, 2) := by decide +kernel
theorem dX9_areEqual_39 : decode cX9_areEqual 39 = .ok (.iload 4, 2) := by decide +kernel
theorem dX9_areEqual_41 : decode cX9_areEqual 41 = .ok (.sipush 403, 3) := by decide +kernel
theorem dX9_areEqual_44 : decode cX9_areEqual 44 = .ok (.if_icmp .ge 48, 3) := by decide +kernel
theorem dX9_areEqual_47 : decode cX9_areEqual 47 = .ok (.iload_n 3, 1) := by decide +kernel
theorem dX9_areEqual_48 : decode cX9_areEqual 48 = .ok (.ifCond .eq 44, 3) := by decide +kernel
theorem dX9_areEqual_51 : decode cX9_areEqual 51 = .ok (.aload_n 0, 1) := by decide +kernel
theorem dX9_areEqual_52 : decode cX9_areEqual 52 = .ok (.getfield 37, 3) := by decide +kernel
theorem dX9_areEqual_55 : decode cX9_areEqual 55 = .ok (.sipush 403, 3) := by decide +kernel
theorem dX9_areEqual_58 : decode cX9_areEqual 58 = .ok (.iload_n 1, 1) := by decide +kernel
theorem dX9_areEqual_59 : decode cX9_areEqual 59 = .ok (.imul, 1) := by decide +kernel
theorem dX9_areEqual_60 : decode cX9_areEqual 60 = .ok (.iload 4, 2) := by decide +kernel
theorem dX9_areEqual_62 : decode cX9_areEqual 62 = .ok (.iadd, 1) := by decide +kernel
theorem dX9_areEqual_63 : decode cX9_areEqual 63 = .ok (.iaload, 1) := by decide +kernel
theorem dX9_areEqual_64 : decode cX9_areEqual 64 = .ok (.aload_n 0, 1) := by decide +kernel
theorem dX9_areEqual_65 : decode cX9_areEqual 65 = .ok (.getfield 37, 3) := by decide +kernel
theorem dX9_areEqual_68 : decode cX9_areEqual 68 = .ok (.sipush 403, 3) := by decide +kernel
theorem dX9_areEqual_71 : decode cX9_areEqual 71 = .ok (.iload_n 2, 1) := by decide +kernel
theorem dX9_areEqual_72 : decode cX9_areEqual 72 = .ok (.imul, 1) := by decide +kernel
theorem dX9_areEqual_73 : decode cX9_areEqual 73 = .ok (.iload 4, 2) := by decide +kernel
theorem dX9_areEqual_75 : decode cX9_areEqual 75 = .ok (.iadd, 1) := by decide +kernel
theorem dX9_areEqual_76 : decode cX9_areEqual 76 = .ok (.iaload, 1) := by decide +kernel
theorem dX9_areEqual_77 : decode cX9_areEqual 77 = .ok (.if_icmp .ne 7, 3) := by decide +kernel
theorem dX9_areEqual_80 : decode cX9_areEqual 80 = .ok (.iconst 1, 1) := by decide +kernel
theorem dX9_areEqual_81 : decode cX9_areEqual 81 = .ok (.goto 4, 3) := by decide +kernel
theorem dX9_areEqual_84 : decode cX9_areEqual 84 = .ok (.iconst 0, 1) := by decide +kernel
theorem dX9_areEqual_85 : decode cX9_areEqual 85 = .ok (.istore_n 3, 1) := by decide +kernel
theorem dX9_areEqual_86 : decode cX9_areEqual 86 = .ok (.iinc 4 1, 3) := by decide +kernel
theorem dX9_areEqual_89 : decode cX9_areEqual 89 = .ok (.goto (-50), 3) := by decide +kernel
theorem dX9_areEqual_92 : decode cX9_areEqual 92 = .ok (.iload_n 3, 1) := by decide +kernel
theorem dX9_areEqual_93 : decode cX9_areEqual 93 = .ok (.ireturn, 1) := by decide +kernel
set_option maxRecDepth 20000 in
theorem ggX9_findCycle_X9_areEqual : GoodIn wsX9_findCycle wsX9_areEqual := goodIn_r _ [8, 9, 10, 11, 12, 13, 14, 15, 16, 17, 18, 19, 20, 21, 22, 23, 24, 25, 26, 27, 28, 29, 30, 31, 32, 33, 34, 35, 36, 37, 38, 39, 40, 41] (by decide +kernel) (by decide +kernel)
set_option maxRecDepth 20000 in
theorem gX9_findCycle_X9_areEqual : GoodIn wsX9_findCycle (wsV RX9 140 RX9 yX9_areEqual wsX9_areEqual) := goodIn_app (goodIn_of _ (by decide +kernel)) ggX9_findCycle_X9_areEqual
theorem dX9_findCycle_0 : decode cX9_findCycle 0 = .ok (.aload_n 0, 1) := by decide +kernel
theorem dX9_findCycle_1 : decode cX9_findCycle 1 = .ok (.sipush (-1005), 3) := by decide +kernel
theorem dX9_findCycle_4 : decode cX9_findCycle 4 = .ok (.putfield 134, 3) := by decide +kernel
theorem dX9_findCycle_7 : decode cX9_findCycle 7 = .ok (.aload_n 0, 1) := by decide +kernel
theorem dX9_findCycle_8 : decode cX9_findCycle 8 = .ok (.sipush (-1005), 3) := by decide +kernel
theorem dX9_findCycle_11 : decode cX9_findCycle 11 = .ok (.putfield 137, 3) := by decide +kernel
theorem dX9_findCycle_14 : decode cX9_findCycle 14 = .ok (.iconst 1, 1) := by decide +kernel
theorem dX9_findCycle_15 : decode cX9_findCycle 15 = .ok (.istore_n 1, 1) := by decide +kernel
theorem dX9_findCycle_16 : decode cX9_findCycle 16 = .ok (.iload_n 1, 1) := by decide +kernel
theorem dX9_findCycle_17 : decode cX9_findCycle 17 = .ok (.aload_n 0, 1) := by decide +kernel
theorem dX9_findCycle_18 : decode cX9_findCycle 18 = .ok (.getfield 119, 3) := by decide +kernel
theorem dX9_findCycle_21 : decode cX9_findCycle 21 = .ok (.if_icmp .ge 57, 3) := by decide +kernel
theorem dX9_findCycle_24 : decode cX9_findCycle 24 = .ok (.aload_n 0, 1) := by decide +kernel
theorem dX9_findCycle_25 : decode cX9_findCycle 25 = .ok (.getfield 134, 3) := by decide +kernel
theorem dX9_findCycle_28 : decode cX9_findCycle 28 = .ok (.ifCond .ge 50, 3) := by decide +kernel
theorem dX9_findCycle_31 : decode cX9_findCycle 31 = .ok (.iconst 0, 1) := by decide +kernel
theorem dX9_findCycle_32 : decode cX9_findCycle 32 = .ok (.istore_n 2, 1) := by decide +kernel
theorem dX9_findCycle_33 : decode cX9_findCycle 33 = .ok (.iload_n 2, 1) := by decide +kernel
theorem dX9_findCycle_34 : decode cX9_findCycle 34 = .ok (.iload_n 1, 1) := by decide +kernel
theorem dX9_findCycle_35 : decode cX9_findCycle 35 = .ok (.if_icmp .ge 37, 3) := by decide +kernel
theorem dX9_findCycle_38 : decode cX9_findCycle 38 = .ok (.aload_n 0, 1) := by decide +kernel
theorem dX9_findCycle_39 : decode cX9_findCycle 39 = .ok (.getfield 134, 3) := by decide +kernel
theorem dX9_findCycle_42 : decode cX9_findCycle 42 = .ok (.ifCond .ge 30, 3) := by decide +kernel
theorem dX9_findCycle_45 : decode cX9_findCycle 45 = .ok (.aload_n 0, 1) := by decide +kernel
theorem dX9_findCycle_46 : decode cX9_findCycle 46 = .ok (.iload_n 2, 1) := by decide +kernel
theorem dX9_findCycle_47 : decode cX9_findCycle 47 = .ok (.iload_n 1, 1) := by decide +kernel
theorem dX9_findCycle_48 : decode cX9_findCycle 48 = .ok (.invokevirtual 140, 3) := by decide +kernel
theorem dX9_findCycle_51 : decode cX9_findCycle 51 = .ok (.ifCond .eq 15, 3) := by decide +kernel
theorem dX9_findCycle_54 : decode cX9_findCycle 54 = .ok (.aload_n 0, 1) := by decide +kernel
theorem dX9_findCycle_55 : decode cX9_findCycle 55 = .ok (.iload_n 2, 1) := by decide +kernel
theorem dX9_findCycle_56 : decode cX9_findCycle 56 = .ok (.putfield 134, 3) := by decide +kernel
theorem dX9_findCycle_59 : decode cX9_findCycle 59 = .ok (.aload_n 0, 1) := by decide +kernel
theorem dX9_findCycle_60 : decode cX9_findCycle 60 = .ok (.iload_n 1, 1) := by decide +kernel
theorem dX9_findCycle_61 : decode cX9_findCycle 61 = .ok (.iload_n 2, 1) := by decide +kernel
theorem dX9_findCycle_62 : decode cX9_findCycle 62 = .ok (.isub, 1) := by decide +kernel
theorem dX9_findCycle_63 : decode cX9_findCycle 63 = .ok (.putfield 137, 3) := by decide +kernel
theorem dX9_findCycle_66 : decode cX9_findCycle 66 = .ok (.iinc 2 1, 3) := by decide +kernel
theorem dX9_findCycle_69 : decode cX9_findCycle 69 = .ok (.goto (-36), 3) := by decide +kernel
theorem dX9_findCycle_72 : decode cX9_findCycle 72 = .ok (.iinc 1 1, 3) := by decide +kernel
theorem dX9_findCycle_75 : decode cX9_findCycle 75 = .ok (.goto (-59), 3) := by decide +kernel
theorem dX9_findCycle_78 : decode cX9_findCycle 78 = .ok (.return_, 1) := by decide +kernel
set_option maxRecDepth 20000 in
theorem ggX9_cycleStart_X9_isLimit : GoodIn wsX9_cycleStart wsX9_isLimit := goodIn_r _ [5, 6, 7, 4, 8] (by decide +kernel) (by decide +kernel)
set_option maxRecDepth 20000 in
theorem gX9_cycleStart_X9_isLimit : GoodIn wsX9_cycleStart (va_wsS RX9 128 yX9_isLimit wsX9_isLimit) := goodIn_app (goodIn_of _ (by decide +kernel)) ggX9_cycleStart_X9_isLimit
set_option maxRecDepth 20000 in
theorem ggX9_cycleStart_X9_simulate : GoodIn wsX9_cycleStart wsX9_simulate := goodIn_r _ [12, 13, 14, 15, 16, 17, 18, 19, 20, 4, 21, 22, 23, 24, 25, 26, 27, 28, 29, 30, 31, 32, 33, 43, 44, 45, 46, 47, 48, 49, 50, 51, 52, 53, 54, 55, 56, 57, 58, 59, 60, 61, 62, 63, 64, 65, 66, 67, 68, 69, 70, 71, 72] (by decide +kernel) (by decide +kernel)
set_option maxRecDepth 20000 in
theorem gX9_cycleStart_X9_simulate : GoodIn wsX9_cycleStart (wsV RX9 131 RX9 yX9_simulate wsX9_simulate) := goodIn_app (goodIn_of _ (by decide +kernel)) ggX9_cycleStart_X9_simulate
set_option maxRecDepth 20000 in
theorem ggX9_cycleStart_X9_findCycle : GoodIn wsX9_cycleStart wsX9_findCycle := goodIn_r _ [37, 1, 38, 17, 39, 40, 41, 4, 42, 15, 14, 13, 43, 44, 45, 46, 47, 48, 49, 50, 51, 52, 53, 54, 55, 56, 57, 58, 59, 60, 61, 62, 63, 64, 65, 66, 67, 68, 69, 70, 71, 72] (by decide +kernel) (by decide +kernel)
set_option maxRecDepth 20000 in
theorem gX9_cycleStart_X9_findCycle : GoodIn wsX9_cycleStart (wsV RX9 144 RX9 yX9_findCycle wsX9_findCycle) := goodIn_app (goodIn_of _ (by decide +kernel)) ggX9_cycleStart_X9_findCycle
theorem dX9_cycleStart_0 : decode cX9_cycleStart 0 = .ok (.iload_n 1, 1) := by decide +kernel
theorem dX9_cycleStart_1 : decode cX9_cycleStart 1 = .ok (.invokestatic 128, 3) := by decide +kernel
theorem dX9_cycleStart_4 : decode cX9_cycleStart 4 = .ok (.ifCond .ne 7, 3) := by decide +kernel
theorem dX9_cycleStart_7 : decode cX9_cycleStart 7 = .ok (.sipush (-1002), 3) := by decide +kernel
theorem dX9_cycleStart_10 : decode cX9_cycleStart 10 = .ok (.ireturn, 1) := by decide +kernel
theorem dX9_cycleStart_11 : decode cX9_cycleStart 11 = .ok (.aload_n 0, 1) := by decide +kernel
theorem dX9_cycleStart_12 : decode cX9_cycleStart 12 = .ok (.iload_n 1, 1) := by decide +kernel
theorem dX9_cycleStart_13 : decode cX9_cycleStart 13 = .ok (.invokevirtual 131, 3) := by decide +kernel
theorem dX9_cycleStart_16 : decode cX9_cycleStart 16 = .ok (.aload_n 0, 1) := by decide +kernel
theorem dX9_cycleStart_17 : decode cX9_cycleStart 17 = .ok (.invokevirtual 144, 3) := by decide +kernel
theorem dX9_cycleStart_20 : decode cX9_cycleStart 20 = .ok (.aload_n 0, 1) := by decide +kernel
theorem dX9_cycleStart_21 : decode cX9_cycleStart 21 = .ok (.getfield 134, 3) := by decide +kernel
theorem dX9_cycleStart_24 : decode cX9_cycleStart 24 = .ok (.ireturn, 1) := by decide +kernel
set_option maxRecDepth 20000 in
theorem ggX9_cycleLength_X9_isLimit : GoodIn wsX9_cycleLength wsX9_isLimit := goodIn_r _ [5, 6, 7, 4, 8] (by decide +kernel) (by decide +kernel)
set_option maxRecDepth 20000 in
theorem gX9_cycleLength_X9_isLimit : GoodIn wsX9_cycleLength (va_wsS RX9 128 yX9_isLimit wsX9_isLimit) := goodIn_app (goodIn_of _ (by decide +kernel)) ggX9_cycleLength_X9_isLimit
set_option maxRecDepth 20000 in
theorem ggX9_cycleLength_X9_simulate : GoodIn wsX9_cycleLength wsX9_simulate := goodIn_r _ [12, 13, 14, 15, 16, 17, 18, 19, 20, 4, 21, 22, 23, 24, 25, 26, 27, 28, 29, 30, 31, 32, 33, 43, 44, 45, 46, 47, 48, 49, 50, 51, 52, 53, 54, 55, 56, 57, 58, 59, 60, 61, 62, 63, 64, 65, 66, 67, 68, 69, 70, 71, 72] (by decide +kernel) (by decide +kernel)
set_option maxRecDepth 20000 in
theorem gX9_cycleLength_X9_simulate : GoodIn wsX9_cycleLength (wsV RX9 131 RX9 yX9_simulate wsX9_simulate) := goodIn_app (goodIn_of _ (by decide +kernel)) ggX9_cycleLength_X9_simulate
set_option maxRecDepth 20000 in
theorem ggX9_cycleLength_X9_findCycle : GoodIn wsX9_cycleLength wsX9_findCycle := goodIn_r _ [37, 38, 1, 17, 39, 40, 41, 4, 42, 15, 14, 13, 43, 44, 45, 46, 47, 48, 49, 50, 51, 52, 53, 54, 55, 56, 57, 58, 59, 60, 61, 62, 63, 64, 65, 66, 67, 68, 69, 70, 71, 72] (by decide +kernel) (by decide +kernel)
set_option maxRecDepth 20000 in
theorem gX9_cycleLength_X9_findCycle : GoodIn wsX9_cycleLength (wsV RX9 144 RX9 yX9_findCycle wsX9_findCycle) := goodIn_app (goodIn_of _ (by decide +kernel)) ggX9_cycleLength_X9_findCycle
theorem dX9_cycleLength_0 : decode cX9_cycleLength 0 = .ok (.iload_n 1, 1) := by decide +kernel
theorem dX9_cycleLength_1 : decode cX9_cycleLength 1 = .ok (.invokestatic 128, 3) := by decide +kernel
theorem dX9_cycleLength_4 : decode cX9_cycleLength 4 = .ok (.ifCond .ne 7, 3) := by decide +kernel
theorem dX9_cycleLength_7 : decode cX9_cycleLength 7 = .ok (.sipush (-1002), 3) := by decide +kernel
theorem dX9_cycleLength_10 : decode cX9_cycleLength 10 = .ok (.ireturn, 1) := by decide +kernel
theorem dX9_cycleLength_11 : decode cX9_cycleLength 11 = .ok (.aload_n 0, 1) := by decide +kernel
theorem dX9_cycleLength_12 : decode cX9_cycleLength 12 = .ok (.iload_n 1, 1) := by decide +kernel
theorem dX9_cycleLength_13 : decode cX9_cycleLength 13 = .ok (.invokevirtual 131, 3) := by decide +kernel
theorem dX9_cycleLength_16 : decode cX9_cycleLength 16 = .ok (.aload_n 0, 1) := by decide +kernel
theorem dX9_cycleLength_17 : decode cX9_cycleLength 17 = .ok (.invokevirtual 144, 3) := by decide +kernel
theorem dX9_cycleLength_20 : decode cX9_cycleLength 20 = .ok (.aload_n 0, 1) := by decide +kernel
theorem dX9_cycleLength_21 : decode cX9_cycleLength 21 = .ok (.getfield 137, 3) := by decide +kernel
theorem dX9_cycleLength_24 : decode cX9_cycleLength 24 = .ok (.ireturn, 1) := by decide +kernel
theorem dX9_isRecord_0 : decode cX9_isRecord 0 = .ok (.iconst 1, 1) := by decide +kernel
theorem dX9_isRecord_1 : decode cX9_isRecord 1 = .ok (.istore_n 3, 1) := by decide +kernel
theorem dX9_isRecord_2 : decode cX9_isRecord 2 = .ok (.iconst 0, 1) := by decide +kernel
theorem dX9_isRecord_3 : decode cX9_isRecord 3 = .ok (.istore 4, 2) := by decide +kernel
theorem dX9_isRecord_5 : decode cX9_isRecord 5 = .ok (.iload 4, 2) := by decide +kernel
theorem dX9_isRecord_7 : decode cX9_isRecord 7 = .ok (.iload_n 1, 1) := by decide +kernel
theorem dX9_isRecord_8 : decode cX9_isRecord 8 = .ok (.if_icmp .ge 39, 3) := by decide +kernel
theorem dX9_isRecord_11 : decode cX9_isRecord 11 = .ok (.iload_n 3, 1) := by decide +kernel
theorem dX9_isRecord_12 : decode cX9_isRecord 12 = .ok (.ifCond .eq 27, 3) := by decide +kernel
theorem dX9_isRecord_15 : decode cX9_isRecord 15 = .ok (.iload_n 2, 1) := by decide +kernel
theorem dX9_isRecord_16 : decode cX9_isRecord 16 = .ok (.aload_n 0, 1) := by decide +kernel
theorem dX9_isRecord_17 : decode cX9_isRecord 17 = .ok (.getfield 40, 3) := by decide +kernel
theorem dX9_isRecord_20 : decode cX9_isRecord 20 = .ok (.iload 4, 2) := by decide +kernel
theorem dX9_isRecord_22 : decode cX9_isRecord 22 = .ok (.iaload, 1) := by decide +kernel
theorem dX9_isRecord_23 : decode cX9_isRecord 23 = .ok (.imul, 1) := by decide +kernel
theorem dX9_isRecord_24 : decode cX9_isRecord 24 = .ok (.iload_n 2, 1) := by decide +kernel
theorem dX9_isRecord_25 : decode cX9_isRecord 25 = .ok (.aload_n 0, 1) := by decide +kernel
theorem dX9_isRecord_26 : decode cX9_isRecord 26 = .ok (.getfield 40, 3) := by decide +kernel
theorem dX9_isRecord_29 : decode cX9_isRecord 29 = .ok (.iload_n 1, 1) := by decide +kernel
theorem dX9_isRecord_30 : decode cX9_isRecord 30 = .ok (.iaload, 1) := by decide +kernel
theorem dX9_isRecord_31 : decode cX9_isRecord 31 = .ok (.imul, 1) := by decide +kernel
theorem dX9_isRecord_32 : decode cX9_isRecord 32 = .ok (.if_icmp .ge 7, 3) := by decide +kernel
theorem dX9_isRecord_35 : decode cX9_isRecord 35 = .ok (.iconst 1, 1) := by decide +kernel
theorem dX9_isRecord_36 : decode cX9_isRecord 36 = .ok (.goto 4, 3) := by decide +kernel
theorem dX9_isRecord_39 : decode cX9_isRecord 39 = .ok (.iconst 0, 1) := by decide +kernel
theorem dX9_isRecord_40 : decode cX9_isRecord 40 = .ok (.istore_n 3, 1) := by decide +kernel
theorem dX9_isRecord_41 : decode cX9_isRecord 41 = .ok (.iinc 4 1, 3) := by decide +kernel
theorem dX9_isRecord_44 : decode cX9_isRecord 44 = .ok (.goto (-39), 3) := by decide +kernel
theorem dX9_isRecord_47 : decode cX9_isRecord 47 = .ok (.iload_n 3, 1) := by decide +kernel
theorem dX9_isRecord_48 : decode cX9_isRecord 48 = .ok (.ireturn, 1) := by decide +kernel
set_option maxRecDepth 20000 in
theorem ggX9_isDrift_X9_isRecord : GoodIn wsX9_isDrift wsX9_isRecord := goodIn_r _ [7, 2, 13, 14, 15, 16, 17, 18, 19, 20, 21, 22, 23, 24, 25, 26, 27, 28, 29, 30, 31, 32, 33, 34, 35, 36, 37, 38, 39, 40, 41, 42] (by decide +kernel) (by decide +kernel)
set_option maxRecDepth 20000 in
theorem gX9_isDrift_X9_isRecord : GoodIn wsX9_isDrift (wsV RX9 147 RX9 yX9_isRecord wsX9_isRecord) := goodIn_app (goodIn_of _ (by decide +kernel)) ggX9_isDrift_X9_isRecord
set_option maxRecDepth 20000 in
theorem ggX9_isDrift_X9_symbolAt : GoodIn wsX9_isDrift wsX9_symbolAt := goodIn_r _ [11, 12, 13, 14, 15, 16, 17, 18, 19, 20, 21, 22, 23, 24, 25, 26, 27, 28, 29, 30, 31, 32, 33, 34, 35, 36, 37, 38, 39, 40, 41, 42] (by decide +kernel) (by decide +kernel)
set_option maxRecDepth 20000 in
theorem gX9_isDrift_X9_symbolAt : GoodIn wsX9_isDrift (wsV RX9 113 RX9 yX9_symbolAt wsX9_symbolAt) := goodIn_app (goodIn_of _ (by decide +kernel)) ggX9_isDrift_X9_symbolAt
theorem dX9_isDrift_0 : decode cX9_isDrift 0 = .ok (.aload_n 0, 1) := by decide +kernel
theorem dX9_isDrift_1 : decode cX9_isDrift 1 = .ok (.getfield 43, 3) := by decide +kernel
theorem dX9_isDrift_4 : decode cX9_isDrift 4 = .ok (.iload_n 1, 1) := by decide +kernel
theorem dX9_isDrift_5 : decode cX9_isDrift 5 = .ok (.iaload, 1) := by decide +kernel
theorem dX9_isDrift_6 : decode cX9_isDrift 6 = .ok (.aload_n 0, 1) := by decide +kernel
theorem dX9_isDrift_7 : decode cX9_isDrift 7 = .ok (.getfield 43, 3) := by decide +kernel
theorem dX9_isDrift_10 : decode cX9_isDrift 10 = .ok (.iload_n 2, 1) := by decide +kernel
theorem dX9_isDrift_11 : decode cX9_isDrift 11 = .ok (.iaload, 1) := by decide +kernel
theorem dX9_isDrift_12 : decode cX9_isDrift 12 = .ok (.if_icmp .ne 12, 3) := by decide +kernel
theorem dX9_isDrift_15 : decode cX9_isDrift 15 = .ok (.aload_n 0, 1) := by decide +kernel
theorem dX9_isDrift_16 : decode cX9_isDrift 16 = .ok (.iload_n 1, 1) := by decide +kernel
theorem dX9_isDrift_17 : decode cX9_isDrift 17 = .ok (.iload_n 3, 1) := by decide +kernel
theorem dX9_isDrift_18 : decode cX9_isDrift 18 = .ok (.invokevirtual 147, 3) := by decide +kernel
theorem dX9_isDrift_21 : decode cX9_isDrift 21 = .ok (.ifCond .ne 5, 3) := by decide +kernel
theorem dX9_isDrift_24 : decode cX9_isDrift 24 = .ok (.iconst 0, 1) := by decide +kernel
theorem dX9_isDrift_25 : decode cX9_isDrift 25 = .ok (.ireturn, 1) := by decide +kernel
theorem dX9_isDrift_26 : decode cX9_isDrift 26 = .ok (.aload_n 0, 1) := by decide +kernel
theorem dX9_isDrift_27 : decode cX9_isDrift 27 = .ok (.getfield 40, 3) := by decide +kernel
theorem dX9_isDrift_30 : decode cX9_isDrift 30 = .ok (.iload_n 1, 1) := by decide +kernel
theorem dX9_isDrift_31 : decode cX9_isDrift 31 = .ok (.iaload, 1) := by decide +kernel
theorem dX9_isDrift_32 : decode cX9_isDrift 32 = .ok (.istore 4, 2) := by decide +kernel
theorem dX9_isDrift_34 : decode cX9_isDrift 34 = .ok (.iload 4, 2) := by decide +kernel
theorem dX9_isDrift_36 : decode cX9_isDrift 36 = .ok (.istore 5, 2) := by decide +kernel
theorem dX9_isDrift_38 : decode cX9_isDrift 38 = .ok (.iload_n 1, 1) := by decide +kernel
theorem dX9_isDrift_39 : decode cX9_isDrift 39 = .ok (.istore 6, 2) := by decide +kernel
theorem dX9_isDrift_41 : decode cX9_isDrift 41 = .ok (.iload 6, 2) := by decide +kernel
theorem dX9_isDrift_43 : decode cX9_isDrift 43 = .ok (.iload_n 2, 1) := by decide +kernel
theorem dX9_isDrift_44 : decode cX9_isDrift 44 = .ok (.if_icmp .gt 39, 3) := by decide +kernel
theorem dX9_isDrift_47 : decode cX9_isDrift 47 = .ok (.iload_n 3, 1) := by decide +kernel
theorem dX9_isDrift_48 : decode cX9_isDrift 48 = .ok (.aload_n 0, 1) := by decide +kernel
theorem dX9_isDrift_49 : decode cX9_isDrift 49 = .ok (.getfield 40, 3) := by decide +kernel
theorem dX9_isDrift_52 : decode cX9_isDrift 52 = .ok (.iload 6, 2) := by decide +kernel
theorem dX9_isDrift_54 : decode cX9_isDrift 54 = .ok (.iaload, 1) := by decide +kernel
theorem dX9_isDrift_55 : decode cX9_isDrift 55 = .ok (.imul, 1) := by decide +kernel
theorem dX9_isDrift_56 : decode cX9_isDrift 56 = .ok (.iload_n 3, 1) := by decide +kernel
theorem dX9_isDrift_57 : decode cX9_isDrift 57 = .ok (.iload 5, 2) := by decide +kernel
theorem dX9_isDrift_59 : decode cX9_isDrift 59 = .ok (.imul, 1) := by decide +kernel
theorem dX9_isDrift_60 : decode cX9_isDrift 60 = .ok (.if_icmp .ge 13, 3) := by decide +kernel
theorem dX9_isDrift_63 : decode cX9_isDrift 63 = .ok (.aload_n 0, 1) := by decide +kernel
theorem dX9_isDrift_64 : decode cX9_isDrift 64 = .ok (.getfield 40, 3) := by decide +kernel
theorem dX9_isDrift_67 : decode cX9_isDrift 67 = .ok (.iload 6, 2) := by decide +kernel
theorem dX9_isDrift_69 : decode cX9_isDrift 69 = .ok (.iaload, 1) := by decide +kernel
theorem dX9_isDrift_70 : decode cX9_isDrift 70 = .ok (.goto 5, 3) := by decide +kernel
theorem dX9_isDrift_73 : decode cX9_isDrift 73 = .ok (.iload 5, 2) := by decide +kernel
theorem dX9_isDrift_75 : decode cX9_isDrift 75 = .ok (.istore 5, 2) := by decide +kernel
theorem dX9_isDrift_77 : decode cX9_isDrift 77 = .ok (.iinc 6 1, 3) := by decide +kernel
theorem dX9_isDrift_80 : decode cX9_isDrift 80 = .ok (.goto (-39), 3) := by decide +kernel
theorem dX9_isDrift_83 : decode cX9_isDrift 83 = .ok (.aload_n 0, 1) := by decide +kernel
theorem dX9_isDrift_84 : decode cX9_isDrift 84 = .ok (.getfield 40, 3) := by decide +kernel
theorem dX9_isDrift_87 : decode cX9_isDrift 87 = .ok (.iload_n 2, 1) := by decide +kernel
theorem dX9_isDrift_88 : decode cX9_isDrift 88 = .ok (.iaload, 1) := by decide +kernel
theorem dX9_isDrift_89 : decode cX9_isDrift 89 = .ok (.iload 4, 2) := by decide +kernel
theorem dX9_isDrift_91 : decode cX9_isDrift 91 = .ok (.isub, 1) := by decide +kernel
theorem dX9_isDrift_92 : decode cX9_isDrift 92 = .ok (.istore 6, 2) := by decide +kernel
theorem dX9_isDrift_94 : decode cX9_isDrift 94 = .ok (.iload 5, 2) := by decide +kernel
theorem dX9_isDrift_96 : decode cX9_isDrift 96 = .ok (.istore 7, 2) := by decide +kernel
theorem dX9_isDrift_98 : decode cX9_isDrift 98 = .ok (.iload 7, 2) := by decide +kernel
theorem dX9_isDrift_100 : decode cX9_isDrift 100 = .ok (.iload 4, 2) := by decide +kernel
theorem dX9_isDrift_102 : decode cX9_isDrift 102 = .ok (.iload_n 3, 1) := by decide +kernel
theorem dX9_isDrift_103 : decode cX9_isDrift 103 = .ok (.iadd, 1) := by decide +kernel
theorem dX9_isDrift_104 : decode cX9_isDrift 104 = .ok (.if_icmp .eq 34, 3) := by decide +kernel
theorem dX9_isDrift_107 : decode cX9_isDrift 107 = .ok (.aload_n 0, 1) := by decide +kernel
theorem dX9_isDrift_108 : decode cX9_isDrift 108 = .ok (.iload_n 1, 1) := by decide +kernel
theorem dX9_isDrift_109 : decode cX9_isDrift 109 = .ok (.iload 7, 2) := by decide +kernel
theorem dX9_isDrift_111 : decode cX9_isDrift 111 = .ok (.invokevirtual 113, 3) := by decide +kernel
theorem dX9_isDrift_114 : decode cX9_isDrift 114 = .ok (.aload_n 0, 1) := by decide +kernel
theorem dX9_isDrift_115 : decode cX9_isDrift 115 = .ok (.iload_n 2, 1) := by decide +kernel
theorem dX9_isDrift_116 : decode cX9_isDrift 116 = .ok (.iload 7, 2) := by decide +kernel
theorem dX9_isDrift_118 : decode cX9_isDrift 118 = .ok (.iload 6, 2) := by decide +kernel
theorem dX9_isDrift_120 : decode cX9_isDrift 120 = .ok (.iadd, 1) := by decide +kernel
theorem dX9_isDrift_121 : decode cX9_isDrift 121 = .ok (.invokevirtual 113, 3) := by decide +kernel
theorem dX9_isDrift_124 : decode cX9_isDrift 124 = .ok (.if_icmp .eq 5, 3) := by decide +kernel
theorem dX9_isDrift_127 : decode cX9_isDrift 127 = .ok (.iconst 0, 1) := by decide +kernel
theorem dX9_isDrift_128 : decode cX9_isDrift 128 = .ok (.ireturn, 1) := by decide +kernel
theorem dX9_isDrift_129 : decode cX9_isDrift 129 = .ok (.iload 7, 2) := by decide +kernel
theorem dX9_isDrift_131 : decode cX9_isDrift 131 = .ok (.iload_n 3, 1) := by decide +kernel
theorem dX9_isDrift_132 : decode cX9_isDrift 132 = .ok (.iadd, 1) := by decide +kernel
theorem dX9_isDrift_133 : decode cX9_isDrift 133 = .ok (.istore 7, 2) := by decide +kernel
theorem dX9_isDrift_135 : decode cX9_isDrift 135 = .ok (.goto (-37), 3) := by decide +kernel
theorem dX9_isDrift_138 : decode cX9_isDrift 138 = .ok (.iconst 1, 1) := by decide +kernel
theorem dX9_isDrift_139 : decode cX9_isDrift 139 = .ok (.ireturn, 1) := by decide +kernel
set_option maxRecDepth 20000 in
theorem ggX9_look_X9_isRecord : GoodIn wsX9_look wsX9_isRecord := goodIn_r _ [8, 2, 19, 20, 21, 22, 23, 24, 25, 26, 27, 28, 29, 30, 31, 32, 33, 34, 35, 36, 37, 38, 39, 40, 41, 42, 43, 44, 45, 46, 47, 48] (by decide +kernel) (by decide +kernel)
set_option maxRecDepth 20000 in
theorem gX9_look_X9_isRecord : GoodIn wsX9_look (wsV RX9 147 RX9 yX9_isRecord wsX9_isRecord) := goodIn_app (goodIn_of _ (by decide +kernel)) ggX9_look_X9_isRecord
set_option maxRecDepth 20000 in
theorem ggX9_look_X9_isDrift : GoodIn wsX9_look wsX9_isDrift := goodIn_r _ [12, 13, 2, 4, 5, 6, 7, 8, 14, 15, 16, 17, 18, 19, 20, 21, 22, 23, 24, 25, 26, 27, 28, 29, 30, 31, 32, 33, 34, 35, 36, 37, 38, 39, 40, 41, 42, 43, 44, 45, 46, 47, 48] (by decide +kernel) (by decide +kernel)
set_option maxRecDepth 20000 in
theorem gX9_look_X9_isDrift : GoodIn wsX9_look (wsV RX9 153 RX9 yX9_isDrift wsX9_isDrift) := goodIn_app (goodIn_of _ (by decide +kernel)) ggX9_look_X9_isDrift
theorem dX9_look_0 : decode cX9_look 0 = .ok (.aload_n 0, 1) := by decide +kernel
theorem dX9_look_1 : decode cX9_look 1 = .ok (.iload_n 1, 1) := by decide +kernel
theorem dX9_look_2 : decode cX9_look 2 = .ok (.iload_n 2, 1) := by decide +kernel
theorem dX9_look_3 : decode cX9_look 3 = .ok (.invokevirtual 147, 3) := by decide +kernel
theorem dX9_look_6 : decode cX9_look 6 = .ok (.ifCond .ne 4, 3) := by decide +kernel
theorem dX9_look_9 : decode cX9_look 9 = .ok (.return_, 1) := by decide +kernel
theorem dX9_look_10 : decode cX9_look 10 = .ok (.iload_n 1, 1) := by decide +kernel
theorem dX9_look_11 : decode cX9_look 11 = .ok (.iconst 1, 1) := by decide +kernel
theorem dX9_look_12 : decode cX9_look 12 = .ok (.isub, 1) := by decide +kernel
theorem dX9_look_13 : decode cX9_look 13 = .ok (.istore_n 3, 1) := by decide +kernel
theorem dX9_look_14 : decode cX9_look 14 = .ok (.iload_n 3, 1) := by decide +kernel
theorem dX9_look_15 : decode cX9_look 15 = .ok (.ifCond .lt 50, 3) := by decide +kernel
theorem dX9_look_18 : decode cX9_look 18 = .ok (.aload_n 0, 1) := by decide +kernel
theorem dX9_look_19 : decode cX9_look 19 = .ok (.getfield 150, 3) := by decide +kernel
theorem dX9_look_22 : decode cX9_look 22 = .ok (.ifCond .ge 43, 3) := by decide +kernel
theorem dX9_look_25 : decode cX9_look 25 = .ok (.aload_n 0, 1) := by decide +kernel
theorem dX9_look_26 : decode cX9_look 26 = .ok (.iload_n 3, 1) := by decide +kernel
theorem dX9_look_27 : decode cX9_look 27 = .ok (.iload_n 1, 1) := by decide +kernel
theorem dX9_look_28 : decode cX9_look 28 = .ok (.iload_n 2, 1) := by decide +kernel
theorem dX9_look_29 : decode cX9_look 29 = .ok (.invokevirtual 153, 3) := by decide +kernel
theorem dX9_look_32 : decode cX9_look 32 = .ok (.ifCond .eq 27, 3) := by decide +kernel
theorem dX9_look_35 : decode cX9_look 35 = .ok (.aload_n 0, 1) := by decide +kernel
theorem dX9_look_36 : decode cX9_look 36 = .ok (.iload_n 1, 1) := by decide +kernel
theorem dX9_look_37 : decode cX9_look 37 = .ok (.iload_n 3, 1) := by decide +kernel
theorem dX9_look_38 : decode cX9_look 38 = .ok (.isub, 1) := by decide +kernel
theorem dX9_look_39 : decode cX9_look 39 = .ok (.putfield 150, 3) := by decide +kernel
theorem dX9_look_42 : decode cX9_look 42 = .ok (.aload_n 0, 1) := by decide +kernel
theorem dX9_look_43 : decode cX9_look 43 = .ok (.aload_n 0, 1) := by decide +kernel
theorem dX9_look_44 : decode cX9_look 44 = .ok (.getfield 40, 3) := by decide +kernel
theorem dX9_look_47 : decode cX9_look 47 = .ok (.iload_n 1, 1) := by decide +kernel
theorem dX9_look_48 : decode cX9_look 48 = .ok (.iaload, 1) := by decide +kernel
theorem dX9_look_49 : decode cX9_look 49 = .ok (.aload_n 0, 1) := by decide +kernel
theorem dX9_look_50 : decode cX9_look 50 = .ok (.getfield 40, 3) := by decide +kernel
theorem dX9_look_53 : decode cX9_look 53 = .ok (.iload_n 3, 1) := by decide +kernel
theorem dX9_look_54 : decode cX9_look 54 = .ok (.iaload, 1) := by decide +kernel
theorem dX9_look_55 : decode cX9_look 55 = .ok (.isub, 1) := by decide +kernel
theorem dX9_look_56 : decode cX9_look 56 = .ok (.putfield 156, 3) := by decide +kernel
theorem dX9_look_59 : decode cX9_look 59 = .ok (.iinc 3 (-1), 3) := by decide +kernel
theorem dX9_look_62 : decode cX9_look 62 = .ok (.goto (-48), 3) := by decide +kernel
theorem dX9_look_65 : decode cX9_look 65 = .ok (.return_, 1) := by decide +kernel
set_option maxRecDepth 20000 in
theorem ggX9_findDrift_X9_look : GoodIn wsX9_findDrift wsX9_look := goodIn_r _ [8, 1, 9, 2, 10, 11, 12, 7, 13, 14, 15, 16, 17, 18, 19, 20, 21, 22, 23, 24, 25, 26, 27, 28, 29, 30, 31, 32, 33, 34, 35, 36, 37, 38, 39, 40, 41, 42, 43, 44, 45, 46, 47, 48, 49, 50, 51, 52, 53] (by decide +kernel) (by decide +kernel)
set_option maxRecDepth 20000 in
theorem gX9_findDrift_X9_look : GoodIn wsX9_findDrift (wsV RX9 159 RX9 yX9_look wsX9_look) := goodIn_app (goodIn_of _ (by decide +kernel)) ggX9_findDrift_X9_look
theorem dX9_findDrift_0 : decode cX9_findDrift 0 = .ok (.aload_n 0, 1) := by decide +kernel
theorem dX9_findDrift_1 : decode cX9_findDrift 1 = .ok (.sipush (-1005), 3) := by decide +kernel
theorem dX9_findDrift_4 : decode cX9_findDrift 4 = .ok (.putfield 150, 3) := by decide +kernel
theorem dX9_findDrift_7 : decode cX9_findDrift 7 = .ok (.aload_n 0, 1) := by decide +kernel
theorem dX9_findDrift_8 : decode cX9_findDrift 8 = .ok (.sipush (-1005), 3) := by decide +kernel
theorem dX9_findDrift_11 : decode cX9_findDrift 11 = .ok (.putfield 156, 3) := by decide +kernel
theorem dX9_findDrift_14 : decode cX9_findDrift 14 = .ok (.iconst 1, 1) := by decide +kernel
theorem dX9_findDrift_15 : decode cX9_findDrift 15 = .ok (.istore_n 1, 1) := by decide +kernel
theorem dX9_findDrift_16 : decode cX9_findDrift 16 = .ok (.iload_n 1, 1) := by decide +kernel
theorem dX9_findDrift_17 : decode cX9_findDrift 17 = .ok (.aload_n 0, 1) := by decide +kernel
theorem dX9_findDrift_18 : decode cX9_findDrift 18 = .ok (.getfield 119, 3) := by decide +kernel
theorem dX9_findDrift_21 : decode cX9_findDrift 21 = .ok (.if_icmp .ge 28, 3) := by decide +kernel
theorem dX9_findDrift_24 : decode cX9_findDrift 24 = .ok (.aload_n 0, 1) := by decide +kernel
theorem dX9_findDrift_25 : decode cX9_findDrift 25 = .ok (.getfield 150, 3) := by decide +kernel
theorem dX9_findDrift_28 : decode cX9_findDrift 28 = .ok (.ifCond .ge 21, 3) := by decide +kernel
theorem dX9_findDrift_31 : decode cX9_findDrift 31 = .ok (.aload_n 0, 1) := by decide +kernel
theorem dX9_findDrift_32 : decode cX9_findDrift 32 = .ok (.iload_n 1, 1) := by decide +kernel
theorem dX9_findDrift_33 : decode cX9_findDrift 33 = .ok (.iconst 1, 1) := by decide +kernel
theorem dX9_findDrift_34 : decode cX9_findDrift 34 = .ok (.invokevirtual 159, 3) := by decide +kernel
theorem dX9_findDrift_37 : decode cX9_findDrift 37 = .ok (.aload_n 0, 1) := by decide +kernel
theorem dX9_findDrift_38 : decode cX9_findDrift 38 = .ok (.iload_n 1, 1) := by decide +kernel
theorem dX9_findDrift_39 : decode cX9_findDrift 39 = .ok (.iconst (-1), 1) := by decide +kernel
theorem dX9_findDrift_40 : decode cX9_findDrift 40 = .ok (.invokevirtual 159, 3) := by decide +kernel
theorem dX9_findDrift_43 : decode cX9_findDrift 43 = .ok (.iinc 1 1, 3) := by decide +kernel
theorem dX9_findDrift_46 : decode cX9_findDrift 46 = .ok (.goto (-30), 3) := by decide +kernel
theorem dX9_findDrift_49 : decode cX9_findDrift 49 = .ok (.return_, 1) := by decide +kernel
set_option maxRecDepth 20000 in
theorem ggX9_driftPeriod_X9_isLimit : GoodIn wsX9_driftPeriod wsX9_isLimit := goodIn_r _ [5, 6, 7, 4, 8] (by decide +kernel) (by decide +kernel)
set_option maxRecDepth 20000 in
theorem gX9_driftPeriod_X9_isLimit : GoodIn wsX9_driftPeriod (va_wsS RX9 128 yX9_isLimit wsX9_isLimit) := goodIn_app (goodIn_of _ (by decide +kernel)) ggX9_driftPeriod_X9_isLimit
set_option maxRecDepth 20000 in
theorem ggX9_driftPeriod_X9_simulate : GoodIn wsX9_driftPeriod wsX9_simulate := goodIn_r _ [12, 13, 14, 15, 16, 17, 18, 19, 20, 4, 21, 22, 23, 24, 25, 26, 27, 28, 29, 30, 31, 32, 33, 51, 52, 53, 54, 55, 56, 57, 58, 59, 60, 61, 62, 63, 64, 65, 66, 67, 68, 69, 70, 71, 72, 73, 74, 75, 76, 77, 78, 79, 80] (by decide +kernel) (by decide +kernel)
set_option maxRecDepth 20000 in
theorem gX9_driftPeriod_X9_simulate : GoodIn wsX9_driftPeriod (wsV RX9 131 RX9 yX9_simulate wsX9_simulate) := goodIn_app (goodIn_of _ (by decide +kernel)) ggX9_driftPeriod_X9_simulate
set_option maxRecDepth 20000 in
theorem ggX9_driftPeriod_X9_findDrift : GoodIn wsX9_driftPeriod wsX9_findDrift := goodIn_r _ [37, 1, 38, 17, 39, 40, 41, 4, 42, 14, 43, 44, 45, 46, 47, 48, 49, 50, 15, 23, 24, 25, 26, 13, 51, 52, 53, 54, 55, 56, 57, 58, 59, 60, 61, 62, 63, 64, 65, 66, 67, 68, 69, 70, 71, 72, 73, 74, 75, 76, 77, 78, 79, 80] (by decide +kernel) (by decide +kernel)
set_option maxRecDepth 20000 in
theorem gX9_driftPeriod_X9_findDrift : GoodIn wsX9_driftPeriod (wsV RX9 163 RX9 yX9_findDrift wsX9_findDrift) := goodIn_app (goodIn_of _ (by decide +kernel)) ggX9_driftPeriod_X9_findDrift
theorem dX9_driftPeriod_0 : decode cX9_driftPeriod 0 = .ok (.iload_n 1, 1) := by decide +kernel
theorem dX9_driftPeriod_1 : decode cX9_driftPeriod 1 = .ok (.invokestatic 128, 3) := by decide +kernel
theorem dX9_driftPeriod_4 : decode cX9_driftPeriod 4 = .ok (.ifCond .ne 7, 3) := by decide +kernel
theorem dX9_driftPeriod_7 : decode cX9_driftPeriod 7 = .ok (.sipush (-1002), 3) := by decide +kernel
theorem dX9_driftPeriod_10 : decode cX9_driftPeriod 10 = .ok (.ireturn, 1) := by decide +kernel
theorem dX9_driftPeriod_11 : decode cX9_driftPeriod 11 = .ok (.aload_n 0, 1) := by decide +kernel
theorem dX9_driftPeriod_12 : decode cX9_driftPeriod 12 = .ok (.iload_n 1, 1) := by decide +kernel
theorem dX9_driftPeriod_13 : decode cX9_driftPeriod 13 = .ok (.invokevirtual 131, 3) := by decide +kernel
theorem dX9_driftPeriod_16 : decode cX9_driftPeriod 16 = .ok (.aload_n 0, 1) := by decide +kernel
theorem dX9_driftPeriod_17 : decode cX9_driftPeriod 17 = .ok (.invokevirtual 163, 3) := by decide +kernel
theorem dX9_driftPeriod_20 : decode cX9_driftPeriod 20 = .ok (.aload_n 0, 1) := by decide +kernel
theorem dX9_driftPeriod_21 : decode cX9_driftPeriod 21 = .ok (.getfield 150, 3) := by decide +kernel
theorem dX9_driftPeriod_24 : decode cX9_driftPeriod 24 = .ok (.ireturn, 1) := by decide +kernel
set_option maxRecDepth 20000 in
theorem ggX9_driftOffset_X9_isLimit : GoodIn wsX9_driftOffset wsX9_isLimit := goodIn_r _ [5, 6, 7, 4, 8] (by decide +kernel) (by decide +kernel)
set_option maxRecDepth 20000 in
theorem gX9_driftOffset_X9_isLimit : GoodIn wsX9_driftOffset (va_wsS RX9 128 yX9_isLimit wsX9_isLimit) := goodIn_app (goodIn_of _ (by decide +kernel)) ggX9_driftOffset_X9_isLimit
