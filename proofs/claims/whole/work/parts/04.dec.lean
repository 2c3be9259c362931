set_option maxRecDepth 20000 in
theorem ggX0_init_X4_init : GoodIn wsX0_init wsX4_init := goodIn_r _ [11, 12, 2, 3, 13, 14, 15, 16, 17, 18, 19, 20, 6, 21, 22, 23, 24, 25, 26, 27, 28, 29] (by decide +kernel) (by decide +kernel)
set_option maxRecDepth 20000 in
theorem gX0_init_X4_init : GoodIn wsX0_init (wsX4_init) := ggX0_init_X4_init
theorem dX0_init_0 : decode cX0_init 0 = .ok (.aload_n 0, 1) := by decide +kernel
theorem dX0_init_1 : decode cX0_init 1 = .ok (.invokespecial 3, 3) := by decide +kernel
theorem dX0_init_4 : decode cX0_init 4 = .ok (.aload_n 0, 1) := by decide +kernel
theorem dX0_init_5 : decode cX0_init 5 = .ok (.new 9, 3) := by decide +kernel
theorem dX0_init_8 : decode cX0_init 8 = .ok (.dup, 1) := by decide +kernel
theorem dX0_init_9 : decode cX0_init 9 = .ok (.invokespecial 11, 3) := by decide +kernel
theorem dX0_init_12 : decode cX0_init 12 = .ok (.putfield 12, 3) := by decide +kernel
theorem dX0_init_15 : decode cX0_init 15 = .ok (.aload_n 0, 1) := by decide +kernel
theorem dX0_init_16 : decode cX0_init 16 = .ok (.new 9, 3) := by decide +kernel
theorem dX0_init_19 : decode cX0_init 19 = .ok (.dup, 1) := by decide +kernel
theorem dX0_init_20 : decode cX0_init 20 = .ok (.invokespecial 11, 3) := by decide +kernel
theorem dX0_init_23 : decode cX0_init 23 = .ok (.putfield 18, 3) := by decide +kernel
theorem dX0_init_26 : decode cX0_init 26 = .ok (.return_, 1) := by decide +kernel
set_option maxRecDepth 20000 in
theorem ggX0_findDepth_X0_addHaltingSituations : GoodIn wsX0_findDepth wsX0_addHaltingSituations := goodIn_r _ [7, 8, 9, 10, 11, 12, 13, 14, 15, 16, 17, 18, 19, 20, 21, 22, 23, 24, 25, 26, 27, 28, 29, 30, 31, 32, 33, 68, 69, 70, 71, 62, 63, 64, 65, 66, 67] (by decide +kernel) (by decide +kernel)
set_option maxRecDepth 20000 in
theorem gX0_findDepth_X0_addHaltingSituations : GoodIn wsX0_findDepth (wsV RX0 21 RX0 yX0_addHaltingSituations wsX0_addHaltingSituations) := goodIn_app (goodIn_of _ (by decide +kernel)) ggX0_findDepth_X0_addHaltingSituations
set_option maxRecDepth 20000 in
theorem ggX0_findDepth_X4_matchesStart : GoodIn wsX0_findDepth wsX4_matchesStart := goodIn_r _ [37, 13, 30, 33, 62, 63, 64, 65, 66, 67] (by decide +kernel) (by decide +kernel)
set_option maxRecDepth 20000 in
theorem gX0_findDepth_X4_matchesStart : GoodIn wsX0_findDepth (wsV RX0 33 RX4 yX4_matchesStart wsX4_matchesStart) := goodIn_app (goodIn_of _ (by decide +kernel)) ggX0_findDepth_X4_matchesStart
set_option maxRecDepth 20000 in
theorem ggX0_findDepth_X0_addAllPredecessors : GoodIn wsX0_findDepth wsX0_addAllPredecessors := goodIn_r _ [41, 8, 9, 10, 11, 12, 13, 14, 42, 43, 44, 6, 45, 46, 47, 48, 18, 49, 20, 21, 22, 23, 24, 25, 50, 51, 52, 53, 54, 55, 56, 57, 58, 59, 26, 27, 28, 29, 30, 31, 32, 33, 62, 63, 64, 65, 66, 67, 68, 69, 70, 71] (by decide +kernel) (by decide +kernel)
set_option maxRecDepth 20000 in
theorem gX0_findDepth_X0_addAllPredecessors : GoodIn wsX0_findDepth (wsV RX0 37 RX0 yX0_addAllPredecessors wsX0_addAllPredecessors) := goodIn_app (goodIn_of _ (by decide +kernel)) ggX0_findDepth_X0_addAllPredecessors
theorem dX0_findDepth_0 : decode cX0_findDepth 0 = .ok (.aload_n 0, 1) := by decide +kernel
theorem dX0_findDepth_1 : decode cX0_findDepth 1 = .ok (.aload_n 1, 1) := by decide +kernel
theorem dX0_findDepth_2 : decode cX0_findDepth 2 = .ok (.aload_n 0, 1) := by decide +kernel
theorem dX0_findDepth_3 : decode cX0_findDepth 3 = .ok (.getfield 12, 3) := by decide +kernel
theorem dX0_findDepth_6 : decode cX0_findDepth 6 = .ok (.invokevirtual 21, 3) := by decide +kernel
theorem dX0_findDepth_9 : decode cX0_findDepth 9 = .ok (.iconst 0, 1) := by decide +kernel
theorem dX0_findDepth_10 : decode cX0_findDepth 10 = .ok (.istore_n 3, 1) := by decide +kernel
theorem dX0_findDepth_11 : decode cX0_findDepth 11 = .ok (.iload_n 3, 1) := by decide +kernel
theorem dX0_findDepth_12 : decode cX0_findDepth 12 = .ok (.iload_n 2, 1) := by decide +kernel
theorem dX0_findDepth_13 : decode cX0_findDepth 13 = .ok (.if_icmp .gt 93, 3) := by decide +kernel
theorem dX0_findDepth_16 : decode cX0_findDepth 16 = .ok (.iload_n 3, 1) := by decide +kernel
theorem dX0_findDepth_17 : decode cX0_findDepth 17 = .ok (.bipush 8, 2) := by decide +kernel
theorem dX0_findDepth_19 : decode cX0_findDepth 19 = .ok (.if_icmp .gt 87, 3) := by decide +kernel
theorem dX0_findDepth_22 : decode cX0_findDepth 22 = .ok (.iload_n 3, 1) := by decide +kernel
theorem dX0_findDepth_23 : decode cX0_findDepth 23 = .ok (.iconst 2, 1) := by decide +kernel
theorem dX0_findDepth_24 : decode cX0_findDepth 24 = .ok (.irem, 1) := by decide +kernel
theorem dX0_findDepth_25 : decode cX0_findDepth 25 = .ok (.ifCond .ne 10, 3) := by decide +kernel
theorem dX0_findDepth_28 : decode cX0_findDepth 28 = .ok (.aload_n 0, 1) := by decide +kernel
theorem dX0_findDepth_29 : decode cX0_findDepth 29 = .ok (.getfield 12, 3) := by decide +kernel
theorem dX0_findDepth_32 : decode cX0_findDepth 32 = .ok (.goto 7, 3) := by decide +kernel
theorem dX0_findDepth_35 : decode cX0_findDepth 35 = .ok (.aload_n 0, 1) := by decide +kernel
theorem dX0_findDepth_36 : decode cX0_findDepth 36 = .ok (.getfield 18, 3) := by decide +kernel
theorem dX0_findDepth_39 : decode cX0_findDepth 39 = .ok (.astore 4, 2) := by decide +kernel
theorem dX0_findDepth_41 : decode cX0_findDepth 41 = .ok (.aload 4, 2) := by decide +kernel
theorem dX0_findDepth_43 : decode cX0_findDepth 43 = .ok (.getfield 25, 3) := by decide +kernel
theorem dX0_findDepth_46 : decode cX0_findDepth 46 = .ok (.ifCond .ne 5, 3) := by decide +kernel
theorem dX0_findDepth_49 : decode cX0_findDepth 49 = .ok (.iload_n 3, 1) := by decide +kernel
theorem dX0_findDepth_50 : decode cX0_findDepth 50 = .ok (.ireturn, 1) := by decide +kernel
theorem dX0_findDepth_51 : decode cX0_findDepth 51 = .ok (.iload_n 3, 1) := by decide +kernel
theorem dX0_findDepth_52 : decode cX0_findDepth 52 = .ok (.iload_n 2, 1) := by decide +kernel
theorem dX0_findDepth_53 : decode cX0_findDepth 53 = .ok (.if_icmp .eq 19, 3) := by decide +kernel
theorem dX0_findDepth_56 : decode cX0_findDepth 56 = .ok (.aload 4, 2) := by decide +kernel
theorem dX0_findDepth_58 : decode cX0_findDepth 58 = .ok (.getfield 29, 3) := by decide +kernel
theorem dX0_findDepth_61 : decode cX0_findDepth 61 = .ok (.ifCond .ne 11, 3) := by decide +kernel
theorem dX0_findDepth_64 : decode cX0_findDepth 64 = .ok (.aload 4, 2) := by decide +kernel
theorem dX0_findDepth_66 : decode cX0_findDepth 66 = .ok (.invokevirtual 33, 3) := by decide +kernel
theorem dX0_findDepth_69 : decode cX0_findDepth 69 = .ok (.ifCond .eq 7, 3) := by decide +kernel
theorem dX0_findDepth_72 : decode cX0_findDepth 72 = .ok (.sipush (-1005), 3) := by decide +kernel
theorem dX0_findDepth_75 : decode cX0_findDepth 75 = .ok (.ireturn, 1) := by decide +kernel
theorem dX0_findDepth_76 : decode cX0_findDepth 76 = .ok (.aload_n 0, 1) := by decide +kernel
theorem dX0_findDepth_77 : decode cX0_findDepth 77 = .ok (.aload_n 1, 1) := by decide +kernel
theorem dX0_findDepth_78 : decode cX0_findDepth 78 = .ok (.aload 4, 2) := by decide +kernel
theorem dX0_findDepth_80 : decode cX0_findDepth 80 = .ok (.iload_n 3, 1) := by decide +kernel
theorem dX0_findDepth_81 : decode cX0_findDepth 81 = .ok (.iconst 2, 1) := by decide +kernel
theorem dX0_findDepth_82 : decode cX0_findDepth 82 = .ok (.irem, 1) := by decide +kernel
theorem dX0_findDepth_83 : decode cX0_findDepth 83 = .ok (.ifCond .ne 10, 3) := by decide +kernel
theorem dX0_findDepth_86 : decode cX0_findDepth 86 = .ok (.aload_n 0, 1) := by decide +kernel
theorem dX0_findDepth_87 : decode cX0_findDepth 87 = .ok (.getfield 18, 3) := by decide +kernel
theorem dX0_findDepth_90 : decode cX0_findDepth 90 = .ok (.goto 7, 3) := by decide +kernel
theorem dX0_findDepth_93 : decode cX0_findDepth 93 = .ok (.aload_n 0, 1) := by decide +kernel
theorem dX0_findDepth_94 : decode cX0_findDepth 94 = .ok (.getfield 12, 3) := by decide +kernel
theorem dX0_findDepth_97 : decode cX0_findDepth 97 = .ok (.invokevirtual 37, 3) := by decide +kernel
theorem dX0_findDepth_100 : decode cX0_findDepth 100 = .ok (.iinc 3 1, 3) := by decide +kernel
theorem dX0_findDepth_103 : decode cX0_findDepth 103 = .ok (.goto (-92), 3) := by decide +kernel
theorem dX0_findDepth_106 : decode cX0_findDepth 106 = .ok (.sipush (-1005), 3) := by decide +kernel
theorem dX0_findDepth_109 : decode cX0_findDepth 109 = .ok (.ireturn, 1) := by decide +kernel
set_option maxRecDepth 20000 in
theorem ggX0_addHaltingSituations_X4_clear : GoodIn wsX0_addHaltingSituations wsX4_clear := goodIn_r _ [5, 6, 7, 31, 32, 33, 34, 35, 36] (by decide +kernel) (by decide +kernel)
set_option maxRecDepth 20000 in
theorem gX0_addHaltingSituations_X4_clear : GoodIn wsX0_addHaltingSituations (wsV RX0 41 RX4 yX4_clear wsX4_clear) := goodIn_app (goodIn_of _ (by decide +kernel)) ggX0_addHaltingSituations_X4_clear
set_option maxRecDepth 20000 in
theorem ggX0_addHaltingSituations_X5_endsAt : GoodIn wsX0_addHaltingSituations wsX5_endsAt := goodIn_r _ [12, 13, 14, 15, 16, 11, 17, 18, 27, 28, 29, 30] (by decide +kernel) (by decide +kernel)
set_option maxRecDepth 20000 in
theorem gX0_addHaltingSituations_X5_endsAt : GoodIn wsX0_addHaltingSituations (wsV RX0 47 RX5 yX5_endsAt wsX5_endsAt) := goodIn_app (goodIn_of _ (by decide +kernel)) ggX0_addHaltingSituations_X5_endsAt
set_option maxRecDepth 20000 in
theorem ggX0_addHaltingSituations_X4_add : GoodIn wsX0_addHaltingSituations wsX4_add := goodIn_r _ [22, 6, 7, 23, 24, 25, 26, 31, 32, 33, 34, 35, 36] (by decide +kernel) (by decide +kernel)
set_option maxRecDepth 20000 in
theorem gX0_addHaltingSituations_X4_add : GoodIn wsX0_addHaltingSituations (wsV RX0 51 RX4 yX4_add wsX4_add) := goodIn_app (goodIn_of _ (by decide +kernel)) ggX0_addHaltingSituations_X4_add
theorem dX0_addHaltingSituations_0 : decode cX0_addHaltingSituations 0 = .ok (.aload_n 2, 1) := by decide +kernel
theorem dX0_addHaltingSituations_1 : decode cX0_addHaltingSituations 1 = .ok (.invokevirtual 41, 3) := by decide +kernel
theorem dX0_addHaltingSituations_4 : decode cX0_addHaltingSituations 4 = .ok (.iconst 0, 1) := by decide +kernel
theorem dX0_addHaltingSituations_5 : decode cX0_addHaltingSituations 5 = .ok (.istore_n 3, 1) := by decide +kernel
theorem dX0_addHaltingSituations_6 : decode cX0_addHaltingSituations 6 = .ok (.iload_n 3, 1) := by decide +kernel
theorem dX0_addHaltingSituations_7 : decode cX0_addHaltingSituations 7 = .ok (.aload_n 1, 1) := by decide +kernel
theorem dX0_addHaltingSituations_8 : decode cX0_addHaltingSituations 8 = .ok (.getfield 44, 3) := by decide +kernel
theorem dX0_addHaltingSituations_11 : decode cX0_addHaltingSituations 11 = .ok (.if_icmp .ge 45, 3) := by decide +kernel
theorem dX0_addHaltingSituations_14 : decode cX0_addHaltingSituations 14 = .ok (.iconst 0, 1) := by decide +kernel
theorem dX0_addHaltingSituations_15 : decode cX0_addHaltingSituations 15 = .ok (.istore 4, 2) := by decide +kernel
theorem dX0_addHaltingSituations_17 : decode cX0_addHaltingSituations 17 = .ok (.iload 4, 2) := by decide +kernel
theorem dX0_addHaltingSituations_19 : decode cX0_addHaltingSituations 19 = .ok (.iconst 1, 1) := by decide +kernel
theorem dX0_addHaltingSituations_20 : decode cX0_addHaltingSituations 20 = .ok (.if_icmp .gt 30, 3) := by decide +kernel
theorem dX0_addHaltingSituations_23 : decode cX0_addHaltingSituations 23 = .ok (.aload_n 1, 1) := by decide +kernel
theorem dX0_addHaltingSituations_24 : decode cX0_addHaltingSituations 24 = .ok (.iload_n 3, 1) := by decide +kernel
theorem dX0_addHaltingSituations_25 : decode cX0_addHaltingSituations 25 = .ok (.iload 4, 2) := by decide +kernel
theorem dX0_addHaltingSituations_27 : decode cX0_addHaltingSituations 27 = .ok (.invokevirtual 47, 3) := by decide +kernel
theorem dX0_addHaltingSituations_30 : decode cX0_addHaltingSituations 30 = .ok (.ifCond .eq 14, 3) := by decide +kernel
theorem dX0_addHaltingSituations_33 : decode cX0_addHaltingSituations 33 = .ok (.aload_n 2, 1) := by decide +kernel
theorem dX0_addHaltingSituations_34 : decode cX0_addHaltingSituations 34 = .ok (.iload_n 3, 1) := by decide +kernel
theorem dX0_addHaltingSituations_35 : decode cX0_addHaltingSituations 35 = .ok (.bipush 16, 2) := by decide +kernel
theorem dX0_addHaltingSituations_37 : decode cX0_addHaltingSituations 37 = .ok (.iconst 0, 1) := by decide +kernel
theorem dX0_addHaltingSituations_38 : decode cX0_addHaltingSituations 38 = .ok (.iconst 0, 1) := by decide +kernel
theorem dX0_addHaltingSituations_39 : decode cX0_addHaltingSituations 39 = .ok (.iload 4, 2) := by decide +kernel
theorem dX0_addHaltingSituations_41 : decode cX0_addHaltingSituations 41 = .ok (.invokevirtual 51, 3) := by decide +kernel
theorem dX0_addHaltingSituations_44 : decode cX0_addHaltingSituations 44 = .ok (.iinc 4 1, 3) := by decide +kernel
theorem dX0_addHaltingSituations_47 : decode cX0_addHaltingSituations 47 = .ok (.goto (-30), 3) := by decide +kernel
theorem dX0_addHaltingSituations_50 : decode cX0_addHaltingSituations 50 = .ok (.iinc 3 1, 3) := by decide +kernel
theorem dX0_addHaltingSituations_53 : decode cX0_addHaltingSituations 53 = .ok (.goto (-47), 3) := by decide +kernel
theorem dX0_addHaltingSituations_56 : decode cX0_addHaltingSituations 56 = .ok (.return_, 1) := by decide +kernel
set_option maxRecDepth 20000 in
theorem ggX0_addAllPredecessors_X4_clear : GoodIn wsX0_addAllPredecessors wsX4_clear := goodIn_r _ [5, 6, 7, 42, 43, 44, 45, 46, 47] (by decide +kernel) (by decide +kernel)
set_option maxRecDepth 20000 in
theorem gX0_addAllPredecessors_X4_clear : GoodIn wsX0_addAllPredecessors (wsV RX0 41 RX4 yX4_clear wsX4_clear) := goodIn_app (goodIn_of _ (by decide +kernel)) ggX0_addAllPredecessors_X4_clear
set_option maxRecDepth 20000 in
theorem ggX0_addAllPredecessors_X0_addPredecessor : GoodIn wsX0_addAllPredecessors wsX0_addPredecessor := goodIn_r _ [12, 13, 14, 15, 16, 17, 18, 19, 20, 21, 22, 23, 24, 25, 26, 27, 28, 29, 30, 31, 32, 33, 34, 35, 36, 4, 37, 6, 7, 38, 39, 40, 41, 42, 43, 44, 45, 46, 47, 48, 49, 50, 51] (by decide +kernel) (by decide +kernel)
set_option maxRecDepth 20000 in
theorem gX0_addAllPredecessors_X0_addPredecessor : GoodIn wsX0_addAllPredecessors (wsV RX0 55 RX0 yX0_addPredecessor wsX0_addPredecessor) := goodIn_app (goodIn_of _ (by decide +kernel)) ggX0_addAllPredecessors_X0_addPredecessor
theorem dX0_addAllPredecessors_0 : decode cX0_addAllPredecessors 0 = .ok (.aload_n 3, 1) := by decide +kernel
theorem dX0_addAllPredecessors_1 : decode cX0_addAllPredecessors 1 = .ok (.invokevirtual 41, 3) := by decide +kernel
theorem dX0_addAllPredecessors_4 : decode cX0_addAllPredecessors 4 = .ok (.iconst 0, 1) := by decide +kernel
theorem dX0_addAllPredecessors_5 : decode cX0_addAllPredecessors 5 = .ok (.istore 4, 2) := by decide +kernel
theorem dX0_addAllPredecessors_7 : decode cX0_addAllPredecessors 7 = .ok (.iload 4, 2) := by decide +kernel
theorem dX0_addAllPredecessors_9 : decode cX0_addAllPredecessors 9 = .ok (.aload_n 2, 1) := by decide +kernel
theorem dX0_addAllPredecessors_10 : decode cX0_addAllPredecessors 10 = .ok (.getfield 25, 3) := by decide +kernel
theorem dX0_addAllPredecessors_13 : decode cX0_addAllPredecessors 13 = .ok (.if_icmp .ge 66, 3) := by decide +kernel
theorem dX0_addAllPredecessors_16 : decode cX0_addAllPredecessors 16 = .ok (.iload 4, 2) := by decide +kernel
theorem dX0_addAllPredecessors_18 : decode cX0_addAllPredecessors 18 = .ok (.sipush 300, 3) := by decide +kernel
theorem dX0_addAllPredecessors_21 : decode cX0_addAllPredecessors 21 = .ok (.if_icmp .ge 58, 3) := by decide +kernel
theorem dX0_addAllPredecessors_24 : decode cX0_addAllPredecessors 24 = .ok (.aload_n 3, 1) := by decide +kernel
theorem dX0_addAllPredecessors_25 : decode cX0_addAllPredecessors 25 = .ok (.getfield 29, 3) := by decide +kernel
theorem dX0_addAllPredecessors_28 : decode cX0_addAllPredecessors 28 = .ok (.ifCond .ne 51, 3) := by decide +kernel
theorem dX0_addAllPredecessors_31 : decode cX0_addAllPredecessors 31 = .ok (.iconst 0, 1) := by decide +kernel
theorem dX0_addAllPredecessors_32 : decode cX0_addAllPredecessors 32 = .ok (.istore 5, 2) := by decide +kernel
theorem dX0_addAllPredecessors_34 : decode cX0_addAllPredecessors 34 = .ok (.iload 5, 2) := by decide +kernel
theorem dX0_addAllPredecessors_36 : decode cX0_addAllPredecessors 36 = .ok (.aload_n 1, 1) := by decide +kernel
theorem dX0_addAllPredecessors_37 : decode cX0_addAllPredecessors 37 = .ok (.getfield 44, 3) := by decide +kernel
theorem dX0_addAllPredecessors_40 : decode cX0_addAllPredecessors 40 = .ok (.if_icmp .ge 33, 3) := by decide +kernel
theorem dX0_addAllPredecessors_43 : decode cX0_addAllPredecessors 43 = .ok (.aload_n 0, 1) := by decide +kernel
theorem dX0_addAllPredecessors_44 : decode cX0_addAllPredecessors 44 = .ok (.aload_n 1, 1) := by decide +kernel
theorem dX0_addAllPredecessors_45 : decode cX0_addAllPredecessors 45 = .ok (.aload_n 2, 1) := by decide +kernel
theorem dX0_addAllPredecessors_46 : decode cX0_addAllPredecessors 46 = .ok (.iload 4, 2) := by decide +kernel
theorem dX0_addAllPredecessors_48 : decode cX0_addAllPredecessors 48 = .ok (.aload_n 3, 1) := by decide +kernel
theorem dX0_addAllPredecessors_49 : decode cX0_addAllPredecessors 49 = .ok (.iload 5, 2) := by decide +kernel
theorem dX0_addAllPredecessors_51 : decode cX0_addAllPredecessors 51 = .ok (.iconst 0, 1) := by decide +kernel
theorem dX0_addAllPredecessors_52 : decode cX0_addAllPredecessors 52 = .ok (.invokevirtual 55, 3) := by decide +kernel
theorem dX0_addAllPredecessors_55 : decode cX0_addAllPredecessors 55 = .ok (.aload_n 0, 1) := by decide +kernel
theorem dX0_addAllPredecessors_56 : decode cX0_addAllPredecessors 56 = .ok (.aload_n 1, 1) := by decide +kernel
theorem dX0_addAllPredecessors_57 : decode cX0_addAllPredecessors 57 = .ok (.aload_n 2, 1) := by decide +kernel
theorem dX0_addAllPredecessors_58 : decode cX0_addAllPredecessors 58 = .ok (.iload 4, 2) := by decide +kernel
theorem dX0_addAllPredecessors_60 : decode cX0_addAllPredecessors 60 = .ok (.aload_n 3, 1) := by decide +kernel
theorem dX0_addAllPredecessors_61 : decode cX0_addAllPredecessors 61 = .ok (.iload 5, 2) := by decide +kernel
theorem dX0_addAllPredecessors_63 : decode cX0_addAllPredecessors 63 = .ok (.iconst 1, 1) := by decide +kernel
theorem dX0_addAllPredecessors_64 : decode cX0_addAllPredecessors 64 = .ok (.invokevirtual 55, 3) := by decide +kernel
theorem dX0_addAllPredecessors_67 : decode cX0_addAllPredecessors 67 = .ok (.iinc 5 1, 3) := by decide +kernel
theorem dX0_addAllPredecessors_70 : decode cX0_addAllPredecessors 70 = .ok (.goto (-36), 3) := by decide +kernel
theorem dX0_addAllPredecessors_73 : decode cX0_addAllPredecessors 73 = .ok (.iinc 4 1, 3) := by decide +kernel
theorem dX0_addAllPredecessors_76 : decode cX0_addAllPredecessors 76 = .ok (.goto (-69), 3) := by decide +kernel
theorem dX0_addAllPredecessors_79 : decode cX0_addAllPredecessors 79 = .ok (.return_, 1) := by decide +kernel
set_option maxRecDepth 20000 in
theorem ggX0_addPredecessor_X5_nextOf : GoodIn wsX0_addPredecessor wsX5_nextOf := goodIn_r _ [5, 6, 7, 8, 9, 4, 10, 11, 39, 40, 41, 42] (by decide +kernel) (by decide +kernel)
set_option maxRecDepth 20000 in
theorem gX0_addPredecessor_X5_nextOf : GoodIn wsX0_addPredecessor (wsV RX0 59 RX5 yX5_nextOf wsX5_nextOf) := goodIn_app (goodIn_of _ (by decide +kernel)) ggX0_addPredecessor_X5_nextOf
set_option maxRecDepth 20000 in
theorem ggX0_addPredecessor_X5_moveOf : GoodIn wsX0_addPredecessor wsX5_moveOf := goodIn_r _ [15, 16, 7, 8, 9, 4, 10, 11, 39, 40, 41, 42] (by decide +kernel) (by decide +kernel)
set_option maxRecDepth 20000 in
theorem gX0_addPredecessor_X5_moveOf : GoodIn wsX0_addPredecessor (wsV RX0 70 RX5 yX5_moveOf wsX5_moveOf) := goodIn_app (goodIn_of _ (by decide +kernel)) ggX0_addPredecessor_X5_moveOf
set_option maxRecDepth 20000 in
theorem ggX0_addPredecessor_X5_writtenBy : GoodIn wsX0_addPredecessor wsX5_writtenBy := goodIn_r _ [20, 21, 7, 8, 9, 4, 10, 11, 39, 40, 41, 42] (by decide +kernel) (by decide +kernel)
set_option maxRecDepth 20000 in
theorem gX0_addPredecessor_X5_writtenBy : GoodIn wsX0_addPredecessor (wsV RX0 79 RX5 yX5_writtenBy wsX5_writtenBy) := goodIn_app (goodIn_of _ (by decide +kernel)) ggX0_addPredecessor_X5_writtenBy
set_option maxRecDepth 20000 in
theorem ggX0_addPredecessor_X4_add : GoodIn wsX0_addPredecessor wsX4_add := goodIn_r _ [26, 27, 28, 29, 30, 31, 32, 33, 34, 35, 36, 37, 38] (by decide +kernel) (by decide +kernel)
set_option maxRecDepth 20000 in
theorem gX0_addPredecessor_X4_add : GoodIn wsX0_addPredecessor (wsV RX0 51 RX4 yX4_add wsX4_add) := goodIn_app (goodIn_of _ (by decide +kernel)) ggX0_addPredecessor_X4_add
theorem dX0_addPredecessor_0 : decode cX0_addPredecessor 0 = .ok (.iload_n 3, 1) := by decide +kernel
theorem dX0_addPredecessor_1 : decode cX0_addPredecessor 1 = .ok (.ifCond .lt 27, 3) := by decide +kernel
theorem dX0_addPredecessor_4 : decode cX0_addPredecessor 4 = .ok (.iload_n 3, 1) := by decide +kernel
theorem dX0_addPredecessor_5 : decode cX0_addPredecessor 5 = .ok (.sipush 300, 3) := by decide +kernel
theorem dX0_addPredecessor_8 : decode cX0_addPredecessor 8 = .ok (.if_icmp .ge 20, 3) := by decide +kernel
theorem dX0_addPredecessor_11 : decode cX0_addPredecessor 11 = .ok (.aload_n 1, 1) := by decide +kernel
theorem dX0_addPredecessor_12 : decode cX0_addPredecessor 12 = .ok (.iload 5, 2) := by decide +kernel
theorem dX0_addPredecessor_14 : decode cX0_addPredecessor 14 = .ok (.iload 6, 2) := by decide +kernel
theorem dX0_addPredecessor_16 : decode cX0_addPredecessor 16 = .ok (.invokevirtual 59, 3) := by decide +kernel
theorem dX0_addPredecessor_19 : decode cX0_addPredecessor 19 = .ok (.aload_n 2, 1) := by decide +kernel
theorem dX0_addPredecessor_20 : decode cX0_addPredecessor 20 = .ok (.getfield 63, 3) := by decide +kernel
theorem dX0_addPredecessor_23 : decode cX0_addPredecessor 23 = .ok (.iload_n 3, 1) := by decide +kernel
theorem dX0_addPredecessor_24 : decode cX0_addPredecessor 24 = .ok (.iaload, 1) := by decide +kernel
theorem dX0_addPredecessor_25 : decode cX0_addPredecessor 25 = .ok (.if_icmp .eq 4, 3) := by decide +kernel
theorem dX0_addPredecessor_28 : decode cX0_addPredecessor 28 = .ok (.return_, 1) := by decide +kernel
theorem dX0_addPredecessor_29 : decode cX0_addPredecessor 29 = .ok (.aload_n 2, 1) := by decide +kernel
theorem dX0_addPredecessor_30 : decode cX0_addPredecessor 30 = .ok (.getfield 67, 3) := by decide +kernel
theorem dX0_addPredecessor_33 : decode cX0_addPredecessor 33 = .ok (.iload_n 3, 1) := by decide +kernel
theorem dX0_addPredecessor_34 : decode cX0_addPredecessor 34 = .ok (.iaload, 1) := by decide +kernel
theorem dX0_addPredecessor_35 : decode cX0_addPredecessor 35 = .ok (.aload_n 1, 1) := by decide +kernel
theorem dX0_addPredecessor_36 : decode cX0_addPredecessor 36 = .ok (.iload 5, 2) := by decide +kernel
theorem dX0_addPredecessor_38 : decode cX0_addPredecessor 38 = .ok (.iload 6, 2) := by decide +kernel
theorem dX0_addPredecessor_40 : decode cX0_addPredecessor 40 = .ok (.invokevirtual 70, 3) := by decide +kernel
theorem dX0_addPredecessor_43 : decode cX0_addPredecessor 43 = .ok (.iconst 1, 1) := by decide +kernel
theorem dX0_addPredecessor_44 : decode cX0_addPredecessor 44 = .ok (.if_icmp .ne 7, 3) := by decide +kernel
theorem dX0_addPredecessor_47 : decode cX0_addPredecessor 47 = .ok (.iconst (-1), 1) := by decide +kernel
theorem dX0_addPredecessor_48 : decode cX0_addPredecessor 48 = .ok (.goto 4, 3) := by decide +kernel
theorem dX0_addPredecessor_51 : decode cX0_addPredecessor 51 = .ok (.iconst 1, 1) := by decide +kernel
theorem dX0_addPredecessor_52 : decode cX0_addPredecessor 52 = .ok (.iadd, 1) := by decide +kernel
theorem dX0_addPredecessor_53 : decode cX0_addPredecessor 53 = .ok (.istore 7, 2) := by decide +kernel
theorem dX0_addPredecessor_55 : decode cX0_addPredecessor 55 = .ok (.aload_n 2, 1) := by decide +kernel
theorem dX0_addPredecessor_56 : decode cX0_addPredecessor 56 = .ok (.getfield 73, 3) := by decide +kernel
theorem dX0_addPredecessor_59 : decode cX0_addPredecessor 59 = .ok (.iload_n 3, 1) := by decide +kernel
theorem dX0_addPredecessor_60 : decode cX0_addPredecessor 60 = .ok (.iaload, 1) := by decide +kernel
theorem dX0_addPredecessor_61 : decode cX0_addPredecessor 61 = .ok (.istore 8, 2) := by decide +kernel
theorem dX0_addPredecessor_63 : decode cX0_addPredecessor 63 = .ok (.aload_n 2, 1) := by decide +kernel
theorem dX0_addPredecessor_64 : decode cX0_addPredecessor 64 = .ok (.getfield 76, 3) := by decide +kernel
theorem dX0_addPredecessor_67 : decode cX0_addPredecessor 67 = .ok (.iload_n 3, 1) := by decide +kernel
theorem dX0_addPredecessor_68 : decode cX0_addPredecessor 68 = .ok (.iaload, 1) := by decide +kernel
theorem dX0_addPredecessor_69 : decode cX0_addPredecessor 69 = .ok (.istore 9, 2) := by decide +kernel
theorem dX0_addPredecessor_71 : decode cX0_addPredecessor 71 = .ok (.iload 8, 2) := by decide +kernel
theorem dX0_addPredecessor_73 : decode cX0_addPredecessor 73 = .ok (.iload 7, 2) := by decide +kernel
theorem dX0_addPredecessor_75 : decode cX0_addPredecessor 75 = .ok (.iushr, 1) := by decide +kernel
theorem dX0_addPredecessor_76 : decode cX0_addPredecessor 76 = .ok (.iconst 1, 1) := by decide +kernel
theorem dX0_addPredecessor_77 : decode cX0_addPredecessor 77 = .ok (.iand, 1) := by decide +kernel
theorem dX0_addPredecessor_78 : decode cX0_addPredecessor 78 = .ok (.iconst 1, 1) := by decide +kernel
theorem dX0_addPredecessor_79 : decode cX0_addPredecessor 79 = .ok (.if_icmp .ne 7, 3) := by decide +kernel
theorem dX0_addPredecessor_82 : decode cX0_addPredecessor 82 = .ok (.iconst 1, 1) := by decide +kernel
theorem dX0_addPredecessor_83 : decode cX0_addPredecessor 83 = .ok (.goto 4, 3) := by decide +kernel
theorem dX0_addPredecessor_86 : decode cX0_addPredecessor 86 = .ok (.iconst 0, 1) := by decide +kernel
theorem dX0_addPredecessor_87 : decode cX0_addPredecessor 87 = .ok (.istore 10, 2) := by decide +kernel
theorem dX0_addPredecessor_89 : decode cX0_addPredecessor 89 = .ok (.iload 10, 2) := by decide +kernel
theorem dX0_addPredecessor_91 : decode cX0_addPredecessor 91 = .ok (.ifCond .eq 22, 3) := by decide +kernel
theorem dX0_addPredecessor_94 : decode cX0_addPredecessor 94 = .ok (.iload 9, 2) := by decide +kernel
theorem dX0_addPredecessor_96 : decode cX0_addPredecessor 96 = .ok (.iload 7, 2) := by decide +kernel
theorem dX0_addPredecessor_98 : decode cX0_addPredecessor 98 = .ok (.iushr, 1) := by decide +kernel
theorem dX0_addPredecessor_99 : decode cX0_addPredecessor 99 = .ok (.iconst 1, 1) := by decide +kernel
theorem dX0_addPredecessor_100 : decode cX0_addPredecessor 100 = .ok (.iand, 1) := by decide +kernel
theorem dX0_addPredecessor_101 : decode cX0_addPredecessor 101 = .ok (.aload_n 1, 1) := by decide +kernel
theorem dX0_addPredecessor_102 : decode cX0_addPredecessor 102 = .ok (.iload 5, 2) := by decide +kernel
theorem dX0_addPredecessor_104 : decode cX0_addPredecessor 104 = .ok (.iload 6, 2) := by decide +kernel
theorem dX0_addPredecessor_106 : decode cX0_addPredecessor 106 = .ok (.invokevirtual 79, 3) := by decide +kernel
theorem dX0_addPredecessor_109 : decode cX0_addPredecessor 109 = .ok (.if_icmp .eq 4, 3) := by decide +kernel
theorem dX0_addPredecessor_112 : decode cX0_addPredecessor 112 = .ok (.return_, 1) := by decide +kernel
theorem dX0_addPredecessor_113 : decode cX0_addPredecessor 113 = .ok (.aload 4, 2) := by decide +kernel
theorem dX0_addPredecessor_115 : decode cX0_addPredecessor 115 = .ok (.iload 5, 2) := by decide +kernel
theorem dX0_addPredecessor_117 : decode cX0_addPredecessor 117 = .ok (.iload 7, 2) := by decide +kernel
theorem dX0_addPredecessor_119 : decode cX0_addPredecessor 119 = .ok (.iload 8, 2) := by decide +kernel
theorem dX0_addPredecessor_121 : decode cX0_addPredecessor 121 = .ok (.iload 9, 2) := by decide +kernel
theorem dX0_addPredecessor_123 : decode cX0_addPredecessor 123 = .ok (.iload 6, 2) := by decide +kernel
theorem dX0_addPredecessor_125 : decode cX0_addPredecessor 125 = .ok (.invokevirtual 51, 3) := by decide +kernel
theorem dX0_addPredecessor_128 : decode cX0_addPredecessor 128 = .ok (.return_, 1) := by decide +kernel
theorem dX1_init_0 : decode cX1_init 0 = .ok (.aload_n 0, 1) := by decide +kernel
theorem dX1_init_1 : decode cX1_init 1 = .ok (.invokespecial 5, 3) := by decide +kernel
theorem dX1_init_4 : decode cX1_init 4 = .ok (.aload_n 0, 1) := by decide +kernel
theorem dX1_init_5 : decode cX1_init 5 = .ok (.sipush 640, 3) := by decide +kernel
theorem dX1_init_8 : decode cX1_init 8 = .ok (.newarray .byte, 2) := by decide +kernel
theorem dX1_init_10 : decode cX1_init 10 = .ok (.putfield 11, 3) := by decide +kernel
theorem dX1_init_13 : decode cX1_init 13 = .ok (.aload_n 0, 1) := by decide +kernel
theorem dX1_init_14 : decode cX1_init 14 = .ok (.sipush 640, 3) := by decide +kernel
theorem dX1_init_17 : decode cX1_init 17 = .ok (.newarray .int, 2) := by decide +kernel
theorem dX1_init_19 : decode cX1_init 19 = .ok (.putfield 15, 3) := by decide +kernel
theorem dX1_init_22 : decode cX1_init 22 = .ok (.aload_n 0, 1) := by decide +kernel
theorem dX1_init_23 : decode cX1_init 23 = .ok (.iconst 1, 1) := by decide +kernel
theorem dX1_init_24 : decode cX1_init 24 = .ok (.putfield 19, 3) := by decide +kernel
theorem dX1_init_27 : decode cX1_init 27 = .ok (.return_, 1) := by decide +kernel
set_option maxRecDepth 20000 in
theorem ggX1_countElements_J7_fill_031fb : GoodIn wsX1_countElements wsJ7_fill_031fb := goodIn_r _ [16] (by decide +kernel) (by decide +kernel)
set_option maxRecDepth 20000 in
theorem gX1_countElements_J7_fill_031fb : GoodIn wsX1_countElements (va_wsS RX1 32 yJ7_fill_031fb wsJ7_fill_031fb) := goodIn_app (goodIn_of _ (by decide +kernel)) ggX1_countElements_J7_fill_031fb
set_option maxRecDepth 20000 in
theorem ggX1_countElements_X1_add : GoodIn wsX1_countElements wsX1_add := goodIn_r _ [21, 10, 9, 22, 72, 73, 74, 75, 76, 77] (by decide +kernel) (by decide +kernel)
set_option maxRecDepth 20000 in
theorem gX1_countElements_X1_add : GoodIn wsX1_countElements (wsV RX1 47 RX1 yX1_add wsX1_add) := goodIn_app (goodIn_of _ (by decide +kernel)) ggX1_countElements_X1_add
set_option maxRecDepth 20000 in
theorem ggX1_countElements_X1_handleAll : GoodIn wsX1_countElements wsX1_handleAll := goodIn_r _ [26, 10, 22, 27, 28, 29, 20, 30, 11, 12, 31, 32, 33, 34, 35, 36, 37, 38, 39, 40, 41, 42, 43, 44, 45, 46, 47, 48, 49, 50, 51, 52, 53, 54, 55, 56, 57, 58, 59, 8, 60, 61, 62, 63, 64, 65, 66, 67, 17, 18, 19, 21, 9, 68, 69, 70, 71, 72, 73, 74, 75, 76, 77, 78, 79, 80, 81] (by decide +kernel) (by decide +kernel)
set_option maxRecDepth 20000 in
theorem gX1_countElements_X1_handleAll : GoodIn wsX1_countElements (wsV RX1 51 RX1 yX1_handleAll wsX1_handleAll) := goodIn_app (goodIn_of _ (by decide +kernel)) ggX1_countElements_X1_handleAll
theorem dX1_countElements_0 : decode cX1_countElements 0 = .ok (.aload_n 0, 1) := by decide +kernel
theorem dX1_countElements_1 : decode cX1_countElements 1 = .ok (.iload_n 2, 1) := by decide +kernel
theorem dX1_countElements_2 : decode cX1_countElements 2 = .ok (.iconst 1, 1) := by decide +kernel
theorem dX1_countElements_3 : decode cX1_countElements 3 = .ok (.invokestatic 23, 3) := by decide +kernel
theorem dX1_countElements_6 : decode cX1_countElements 6 = .ok (.iconst 3, 1) := by decide +kernel
theorem dX1_countElements_7 : decode cX1_countElements 7 = .ok (.invokestatic 29, 3) := by decide +kernel
theorem dX1_countElements_10 : decode cX1_countElements 10 = .ok (.putfield 19, 3) := by decide +kernel
theorem dX1_countElements_13 : decode cX1_countElements 13 = .ok (.aload_n 0, 1) := by decide +kernel
theorem dX1_countElements_14 : decode cX1_countElements 14 = .ok (.getfield 11, 3) := by decide +kernel
theorem dX1_countElements_17 : decode cX1_countElements 17 = .ok (.iconst 0, 1) := by decide +kernel
theorem dX1_countElements_18 : decode cX1_countElements 18 = .ok (.invokestatic 32, 3) := by decide +kernel
theorem dX1_countElements_21 : decode cX1_countElements 21 = .ok (.aload_n 0, 1) := by decide +kernel
theorem dX1_countElements_22 : decode cX1_countElements 22 = .ok (.iconst 0, 1) := by decide +kernel
theorem dX1_countElements_23 : decode cX1_countElements 23 = .ok (.putfield 38, 3) := by decide +kernel
theorem dX1_countElements_26 : decode cX1_countElements 26 = .ok (.aload_n 0, 1) := by decide +kernel
theorem dX1_countElements_27 : decode cX1_countElements 27 = .ok (.iconst 1, 1) := by decide +kernel
theorem dX1_countElements_28 : decode cX1_countElements 28 = .ok (.putfield 41, 3) := by decide +kernel
theorem dX1_countElements_31 : decode cX1_countElements 31 = .ok (.aload_n 0, 1) := by decide +kernel
theorem dX1_countElements_32 : decode cX1_countElements 32 = .ok (.iconst 1, 1) := by decide +kernel
theorem dX1_countElements_33 : decode cX1_countElements 33 = .ok (.putfield 44, 3) := by decide +kernel
theorem dX1_countElements_36 : decode cX1_countElements 36 = .ok (.aload_n 0, 1) := by decide +kernel
theorem dX1_countElements_37 : decode cX1_countElements 37 = .ok (.iconst 0, 1) := by decide +kernel
theorem dX1_countElements_38 : decode cX1_countElements 38 = .ok (.iconst 0, 1) := by decide +kernel
theorem dX1_countElements_39 : decode cX1_countElements 39 = .ok (.iconst 0, 1) := by decide +kernel
theorem dX1_countElements_40 : decode cX1_countElements 40 = .ok (.iconst 0, 1) := by decide +kernel
theorem dX1_countElements_41 : decode cX1_countElements 41 = .ok (.invokevirtual 47, 3) := by decide +kernel
theorem dX1_countElements_44 : decode cX1_countElements 44 = .ok (.iconst 0, 1) := by decide +kernel
theorem dX1_countElements_45 : decode cX1_countElements 45 = .ok (.istore_n 3, 1) := by decide +kernel
theorem dX1_countElements_46 : decode cX1_countElements 46 = .ok (.iload_n 3, 1) := by decide +kernel
theorem dX1_countElements_47 : decode cX1_countElements 47 = .ok (.bipush 17, 2) := by decide +kernel
theorem dX1_countElements_49 : decode cX1_countElements 49 = .ok (.if_icmp .ge 56, 3) := by decide +kernel
theorem dX1_countElements_52 : decode cX1_countElements 52 = .ok (.aload_n 0, 1) := by decide +kernel
theorem dX1_countElements_53 : decode cX1_countElements 53 = .ok (.getfield 41, 3) := by decide +kernel
theorem dX1_countElements_56 : decode cX1_countElements 56 = .ok (.istore 4, 2) := by decide +kernel
theorem dX1_countElements_58 : decode cX1_countElements 58 = .ok (.aload_n 0, 1) := by decide +kernel
theorem dX1_countElements_59 : decode cX1_countElements 59 = .ok (.getfield 44, 3) := by decide +kernel
theorem dX1_countElements_62 : decode cX1_countElements 62 = .ok (.istore 5, 2) := by decide +kernel
theorem dX1_countElements_64 : decode cX1_countElements 64 = .ok (.aload_n 0, 1) := by decide +kernel
theorem dX1_countElements_65 : decode cX1_countElements 65 = .ok (.aload_n 1, 1) := by decide +kernel
theorem dX1_countElements_66 : decode cX1_countElements 66 = .ok (.invokevirtual 51, 3) := by decide +kernel
theorem dX1_countElements_69 : decode cX1_countElements 69 = .ok (.ifCond .ne 7, 3) := by decide +kernel
theorem dX1_countElements_72 : decode cX1_countElements 72 = .ok (.sipush (-1005), 3) := by decide +kernel
theorem dX1_countElements_75 : decode cX1_countElements 75 = .ok (.ireturn, 1) := by decide +kernel
theorem dX1_countElements_76 : decode cX1_countElements 76 = .ok (.aload_n 0, 1) := by decide +kernel
theorem dX1_countElements_77 : decode cX1_countElements 77 = .ok (.getfield 41, 3) := by decide +kernel
theorem dX1_countElements_80 : decode cX1_countElements 80 = .ok (.iload 4, 2) := by decide +kernel
theorem dX1_countElements_82 : decode cX1_countElements 82 = .ok (.if_icmp .ne 17, 3) := by decide +kernel
theorem dX1_countElements_85 : decode cX1_countElements 85 = .ok (.aload_n 0, 1) := by decide +kernel
theorem dX1_countElements_86 : decode cX1_countElements 86 = .ok (.getfield 44, 3) := by decide +kernel
theorem dX1_countElements_89 : decode cX1_countElements 89 = .ok (.iload 5, 2) := by decide +kernel
theorem dX1_countElements_91 : decode cX1_countElements 91 = .ok (.if_icmp .ne 8, 3) := by decide +kernel
theorem dX1_countElements_94 : decode cX1_countElements 94 = .ok (.aload_n 0, 1) := by decide +kernel
theorem dX1_countElements_95 : decode cX1_countElements 95 = .ok (.getfield 38, 3) := by decide +kernel
theorem dX1_countElements_98 : decode cX1_countElements 98 = .ok (.ireturn, 1) := by decide +kernel
theorem dX1_countElements_99 : decode cX1_countElements 99 = .ok (.iinc 3 1, 3) := by decide +kernel
theorem dX1_countElements_102 : decode cX1_countElements 102 = .ok (.goto (-56), 3) := by decide +kernel
theorem dX1_countElements_105 : decode cX1_countElements 105 = .ok (.aload_n 0, 1) := by decide +kernel
theorem dX1_countElements_106 : decode cX1_countElements 106 = .ok (.getfield 38, 3) := by decide +kernel
theorem dX1_countElements_109 : decode cX1_countElements 109 = .ok (.ireturn, 1) := by decide +kernel
set_option maxRecDepth 20000 in
theorem ggX1_handleAll_X1_handle : GoodIn wsX1_handleAll wsX1_handle := goodIn_r _ [7, 8, 9, 10, 11, 12, 13, 14, 15, 16, 17, 18, 19, 20, 21, 22, 23, 24, 25, 26, 27, 28, 29, 30, 31, 32, 33, 34, 35, 36, 37, 6, 38, 39, 40, 41, 42, 43, 44, 45, 46, 47, 48, 49, 50, 51, 1, 52, 2, 53, 54, 55, 56, 57, 58, 59, 60, 61, 62, 63, 64, 65, 66] (by decide +kernel) (by decide +kernel)
set_option maxRecDepth 20000 in
theorem gX1_handleAll_X1_handle : GoodIn wsX1_handleAll (wsV RX1 55 RX1 yX1_handle wsX1_handle) := goodIn_app (goodIn_of _ (by decide +kernel)) ggX1_handleAll_X1_handle
theorem dX1_handleAll_0 : decode cX1_handleAll 0 = .ok (.iconst 0, 1) := by decide +kernel
theorem dX1_handleAll_1 : decode cX1_handleAll 1 = .ok (.istore_n 2, 1) := by decide +kernel
theorem dX1_handleAll_2 : decode cX1_handleAll 2 = .ok (.iload_n 2, 1) := by decide +kernel
theorem dX1_handleAll_3 : decode cX1_handleAll 3 = .ok (.aload_n 0, 1) := by decide +kernel
theorem dX1_handleAll_4 : decode cX1_handleAll 4 = .ok (.getfield 38, 3) := by decide +kernel
theorem dX1_handleAll_7 : decode cX1_handleAll 7 = .ok (.if_icmp .ge 32, 3) := by decide +kernel
theorem dX1_handleAll_10 : decode cX1_handleAll 10 = .ok (.iload_n 2, 1) := by decide +kernel
theorem dX1_handleAll_11 : decode cX1_handleAll 11 = .ok (.sipush 640, 3) := by decide +kernel
theorem dX1_handleAll_14 : decode cX1_handleAll 14 = .ok (.if_icmp .ge 25, 3) := by decide +kernel
theorem dX1_handleAll_17 : decode cX1_handleAll 17 = .ok (.aload_n 0, 1) := by decide +kernel
theorem dX1_handleAll_18 : decode cX1_handleAll 18 = .ok (.aload_n 1, 1) := by decide +kernel
theorem dX1_handleAll_19 : decode cX1_handleAll 19 = .ok (.aload_n 0, 1) := by decide +kernel
theorem dX1_handleAll_20 : decode cX1_handleAll 20 = .ok (.getfield 15, 3) := by decide +kernel
theorem dX1_handleAll_23 : decode cX1_handleAll 23 = .ok (.iload_n 2, 1) := by decide +kernel
theorem dX1_handleAll_24 : decode cX1_handleAll 24 = .ok (.iaload, 1) := by decide +kernel
theorem dX1_handleAll_25 : decode cX1_handleAll 25 = .ok (.invokevirtual 55, 3) := by decide +kernel
theorem dX1_handleAll_28 : decode cX1_handleAll 28 = .ok (.ifCond .ne 5, 3) := by decide +kernel
theorem dX1_handleAll_31 : decode cX1_handleAll 31 = .ok (.iconst 0, 1) := by decide +kernel
theorem dX1_handleAll_32 : decode cX1_handleAll 32 = .ok (.ireturn, 1) := by decide +kernel
theorem dX1_handleAll_33 : decode cX1_handleAll 33 = .ok (.iinc 2 1, 3) := by decide +kernel
theorem dX1_handleAll_36 : decode cX1_handleAll 36 = .ok (.goto (-34), 3) := by decide +kernel
theorem dX1_handleAll_39 : decode cX1_handleAll 39 = .ok (.iconst 1, 1) := by decide +kernel
theorem dX1_handleAll_40 : decode cX1_handleAll 40 = .ok (.ireturn, 1) := by decide +kernel
set_option maxRecDepth 20000 in
theorem ggX1_handle_X5_endsAt : GoodIn wsX1_handle wsX5_endsAt := goodIn_r _ [7, 8, 9, 10, 11, 6, 12, 13, 59, 60, 61, 62] (by decide +kernel) (by decide +kernel)
set_option maxRecDepth 20000 in
theorem gX1_handle_X5_endsAt : GoodIn wsX1_handle (wsV RX1 59 RX5 yX5_endsAt wsX5_endsAt) := goodIn_app (goodIn_of _ (by decide +kernel)) ggX1_handle_X5_endsAt
set_option maxRecDepth 20000 in
theorem ggX1_handle_X5_nextOf : GoodIn wsX1_handle wsX5_nextOf := goodIn_r _ [17, 8, 9, 10, 11, 6, 12, 13, 59, 60, 61, 62] (by decide +kernel) (by decide +kernel)
set_option maxRecDepth 20000 in
theorem gX1_handle_X5_nextOf : GoodIn wsX1_handle (wsV RX1 65 RX5 yX5_nextOf wsX5_nextOf) := goodIn_app (goodIn_of _ (by decide +kernel)) ggX1_handle_X5_nextOf
set_option maxRecDepth 20000 in
theorem ggX1_handle_X5_writtenBy : GoodIn wsX1_handle wsX5_writtenBy := goodIn_r _ [21, 22, 9, 10, 11, 6, 12, 13, 59, 60, 61, 62] (by decide +kernel) (by decide +kernel)
set_option maxRecDepth 20000 in
theorem gX1_handle_X5_writtenBy : GoodIn wsX1_handle (wsV RX1 68 RX5 yX5_writtenBy wsX5_writtenBy) := goodIn_app (goodIn_of _ (by decide +kernel)) ggX1_handle_X5_writtenBy
set_option maxRecDepth 20000 in
theorem ggX1_handle_X5_moveOf : GoodIn wsX1_handle wsX5_moveOf := goodIn_r _ [26, 27, 9, 10, 11, 6, 12, 13, 59, 60, 61, 62] (by decide +kernel) (by decide +kernel)
set_option maxRecDepth 20000 in
theorem gX1_handle_X5_moveOf : GoodIn wsX1_handle (wsV RX1 71 RX5 yX5_moveOf wsX5_moveOf) := goodIn_app (goodIn_of _ (by decide +kernel)) ggX1_handle_X5_moveOf
set_option maxRecDepth 20000 in
theorem ggX1_handle_X1_pushed : GoodIn wsX1_handle wsX1_pushed := goodIn_r _ [32, 33, 53, 54, 55, 56, 57, 58] (by decide +kernel) (by decide +kernel)
set_option maxRecDepth 20000 in
theorem gX1_handle_X1_pushed : GoodIn wsX1_handle (wsV RX1 74 RX1 yX1_pushed wsX1_pushed) := goodIn_app (goodIn_of _ (by decide +kernel)) ggX1_handle_X1_pushed
set_option maxRecDepth 20000 in
theorem ggX1_handle_X1_addRightMoves : GoodIn wsX1_handle wsX1_addRightMoves := goodIn_r _ [37, 2, 38, 39, 40, 31, 41, 33, 42, 43, 44, 45, 46, 47, 48, 53, 54, 55, 56, 57, 58] (by decide +kernel) (by decide +kernel)
set_option maxRecDepth 20000 in
theorem gX1_handle_X1_addRightMoves : GoodIn wsX1_handle (wsV RX1 77 RX1 yX1_addRightMoves wsX1_addRightMoves) := goodIn_app (goodIn_of _ (by decide +kernel)) ggX1_handle_X1_addRightMoves
set_option maxRecDepth 20000 in
theorem ggX1_handle_X1_addLeftMoves : GoodIn wsX1_handle wsX1_addLeftMoves := goodIn_r _ [52, 1, 38, 39, 40, 31, 41, 33, 42, 43, 44, 45, 46, 47, 48, 53, 54, 55, 56, 57, 58] (by decide +kernel) (by decide +kernel)
set_option maxRecDepth 20000 in
theorem gX1_handle_X1_addLeftMoves : GoodIn wsX1_handle (wsV RX1 81 RX1 yX1_addLeftMoves wsX1_addLeftMoves) := goodIn_app (goodIn_of _ (by decide +kernel)) ggX1_handle_X1_addLeftMoves
theorem dX1_handle_0 : decode cX1_handle 0 = .ok (.iload_n 2, 1) := by decide +kernel
theorem dX1_handle_1 : decode cX1_handle 1 = .ok (.bipush 7, 2) := by decide +kernel
theorem dX1_handle_3 : decode cX1_handle 3 = .ok (.iand, 1) := by decide +kernel
theorem dX1_handle_4 : decode cX1_handle 4 = .ok (.istore_n 3, 1) := by decide +kernel
theorem dX1_handle_5 : decode cX1_handle 5 = .ok (.iload_n 2, 1) := by decide +kernel
theorem dX1_handle_6 : decode cX1_handle 6 = .ok (.iconst 3, 1) := by decide +kernel
theorem dX1_handle_7 : decode cX1_handle 7 = .ok (.ishr, 1) := by decide +kernel
theorem dX1_handle_8 : decode cX1_handle 8 = .ok (.bipush 7, 2) := by decide +kernel
theorem dX1_handle_10 : decode cX1_handle 10 = .ok (.iand, 1) := by decide +kernel
theorem dX1_handle_11 : decode cX1_handle 11 = .ok (.istore 4, 2) := by decide +kernel
theorem dX1_handle_13 : decode cX1_handle 13 = .ok (.iload_n 2, 1) := by decide +kernel
theorem dX1_handle_14 : decode cX1_handle 14 = .ok (.bipush 6, 2) := by decide +kernel
theorem dX1_handle_16 : decode cX1_handle 16 = .ok (.ishr, 1) := by decide +kernel
theorem dX1_handle_17 : decode cX1_handle 17 = .ok (.istore 5, 2) := by decide +kernel
theorem dX1_handle_19 : decode cX1_handle 19 = .ok (.iload 5, 2) := by decide +kernel
theorem dX1_handle_21 : decode cX1_handle 21 = .ok (.iconst 1, 1) := by decide +kernel
theorem dX1_handle_22 : decode cX1_handle 22 = .ok (.ishr, 1) := by decide +kernel
theorem dX1_handle_23 : decode cX1_handle 23 = .ok (.istore 6, 2) := by decide +kernel
theorem dX1_handle_25 : decode cX1_handle 25 = .ok (.iload 5, 2) := by decide +kernel
theorem dX1_handle_27 : decode cX1_handle 27 = .ok (.iconst 1, 1) := by decide +kernel
theorem dX1_handle_28 : decode cX1_handle 28 = .ok (.iand, 1) := by decide +kernel
theorem dX1_handle_29 : decode cX1_handle 29 = .ok (.istore 7, 2) := by decide +kernel
theorem dX1_handle_31 : decode cX1_handle 31 = .ok (.aload_n 1, 1) := by decide +kernel
theorem dX1_handle_32 : decode cX1_handle 32 = .ok (.iload 6, 2) := by decide +kernel
theorem dX1_handle_34 : decode cX1_handle 34 = .ok (.iload 7, 2) := by decide +kernel
theorem dX1_handle_36 : decode cX1_handle 36 = .ok (.invokevirtual 59, 3) := by decide +kernel
theorem dX1_handle_39 : decode cX1_handle 39 = .ok (.ifCond .eq 5, 3) := by decide +kernel
theorem dX1_handle_42 : decode cX1_handle 42 = .ok (.iconst 0, 1) := by decide +kernel
theorem dX1_handle_43 : decode cX1_handle 43 = .ok (.ireturn, 1) := by decide +kernel
theorem dX1_handle_44 : decode cX1_handle 44 = .ok (.aload_n 1, 1) := by decide +kernel
theorem dX1_handle_45 : decode cX1_handle 45 = .ok (.iload 6, 2) := by decide +kernel
theorem dX1_handle_47 : decode cX1_handle 47 = .ok (.iload 7, 2) := by decide +kernel
theorem dX1_handle_49 : decode cX1_handle 49 = .ok (.invokevirtual 65, 3) := by decide +kernel
theorem dX1_handle_52 : decode cX1_handle 52 = .ok (.istore 8, 2) := by decide +kernel
theorem dX1_handle_54 : decode cX1_handle 54 = .ok (.aload_n 1, 1) := by decide +kernel
theorem dX1_handle_55 : decode cX1_handle 55 = .ok (.iload 6, 2) := by decide +kernel
theorem dX1_handle_57 : decode cX1_handle 57 = .ok (.iload 7, 2) := by decide +kernel
theorem dX1_handle_59 : decode cX1_handle 59 = .ok (.invokevirtual 68, 3) := by decide +kernel
theorem dX1_handle_62 : decode cX1_handle 62 = .ok (.istore 9, 2) := by decide +kernel
theorem dX1_handle_64 : decode cX1_handle 64 = .ok (.aload_n 1, 1) := by decide +kernel
theorem dX1_handle_65 : decode cX1_handle 65 = .ok (.iload 6, 2) := by decide +kernel
theorem dX1_handle_67 : decode cX1_handle 67 = .ok (.iload 7, 2) := by decide +kernel
theorem dX1_handle_69 : decode cX1_handle 69 = .ok (.invokevirtual 71, 3) := by decide +kernel
theorem dX1_handle_72 : decode cX1_handle 72 = .ok (.iconst 1, 1) := by decide +kernel
theorem dX1_handle_73 : decode cX1_handle 73 = .ok (.if_icmp .ne 34, 3) := by decide +kernel
theorem dX1_handle_76 : decode cX1_handle 76 = .ok (.aload_n 0, 1) := by decide +kernel
theorem dX1_handle_77 : decode cX1_handle 77 = .ok (.dup, 1) := by decide +kernel
theorem dX1_handle_78 : decode cX1_handle 78 = .ok (.getfield 41, 3) := by decide +kernel
theorem dX1_handle_81 : decode cX1_handle 81 = .ok (.iconst 1, 1) := by decide +kernel
theorem dX1_handle_82 : decode cX1_handle 82 = .ok (.iload 4, 2) := by decide +kernel
theorem dX1_handle_84 : decode cX1_handle 84 = .ok (.ishl, 1) := by decide +kernel
theorem dX1_handle_85 : decode cX1_handle 85 = .ok (.ior, 1) := by decide +kernel
theorem dX1_handle_86 : decode cX1_handle 86 = .ok (.putfield 41, 3) := by decide +kernel
theorem dX1_handle_89 : decode cX1_handle 89 = .ok (.aload_n 0, 1) := by decide +kernel
theorem dX1_handle_90 : decode cX1_handle 90 = .ok (.iload 8, 2) := by decide +kernel
theorem dX1_handle_92 : decode cX1_handle 92 = .ok (.aload_n 0, 1) := by decide +kernel
theorem dX1_handle_93 : decode cX1_handle 93 = .ok (.iload 4, 2) := by decide +kernel
theorem dX1_handle_95 : decode cX1_handle 95 = .ok (.iload 9, 2) := by decide +kernel
theorem dX1_handle_97 : decode cX1_handle 97 = .ok (.invokevirtual 74, 3) := by decide +kernel
theorem dX1_handle_100 : decode cX1_handle 100 = .ok (.iload_n 3, 1) := by decide +kernel
theorem dX1_handle_101 : decode cX1_handle 101 = .ok (.invokevirtual 77, 3) := by decide +kernel
theorem dX1_handle_104 : decode cX1_handle 104 = .ok (.goto 30, 3) := by decide +kernel
theorem dX1_handle_107 : decode cX1_handle 107 = .ok (.aload_n 0, 1) := by decide +kernel
theorem dX1_handle_108 : decode cX1_handle 108 = .ok (.dup, 1) := by decide +kernel
theorem dX1_handle_109 : decode cX1_handle 109 = .ok (.getfield 44, 3) := by decide +kernel
theorem dX1_handle_112 : decode cX1_handle 112 = .ok (.iconst 1, 1) := by decide +kernel
theorem dX1_handle_113 : decode cX1_handle 113 = .ok (.iload_n 3, 1) := by decide +kernel
theorem dX1_handle_114 : decode cX1_handle 114 = .ok (.ishl, 1) := by decide +kernel
theorem dX1_handle_115 : decode cX1_handle 115 = .ok (.ior, 1) := by decide +kernel
theorem dX1_handle_116 : decode cX1_handle 116 = .ok (.putfield 44, 3) := by decide +kernel
theorem dX1_handle_119 : decode cX1_handle 119 = .ok (.aload_n 0, 1) := by decide +kernel
theorem dX1_handle_120 : decode cX1_handle 120 = .ok (.iload 8, 2) := by decide +kernel
theorem dX1_handle_122 : decode cX1_handle 122 = .ok (.iload 4, 2) := by decide +kernel
theorem dX1_handle_124 : decode cX1_handle 124 = .ok (.aload_n 0, 1) := by decide +kernel
theorem dX1_handle_125 : decode cX1_handle 125 = .ok (.iload_n 3, 1) := by decide +kernel
theorem dX1_handle_126 : decode cX1_handle 126 = .ok (.iload 9, 2) := by decide +kernel
theorem dX1_handle_128 : decode cX1_handle 128 = .ok (.invokevirtual 74, 3) := by decide +kernel
theorem dX1_handle_131 : decode cX1_handle 131 = .ok (.invokevirtual 81, 3) := by decide +kernel
theorem dX1_handle_134 : decode cX1_handle 134 = .ok (.iconst 1, 1) := by decide +kernel
theorem dX1_handle_135 : decode cX1_handle 135 = .ok (.ireturn, 1) := by decide +kernel
set_option maxRecDepth 20000 in
theorem ggX1_addRightMoves_X1_popped : GoodIn wsX1_addRightMoves wsX1_popped := goodIn_r _ [6, 7, 15, 16, 17, 18, 19, 20] (by decide +kernel) (by decide +kernel)
set_option maxRecDepth 20000 in
theorem gX1_addRightMoves_X1_popped : GoodIn wsX1_addRightMoves (wsV RX1 84 RX1 yX1_popped wsX1_popped) := goodIn_app (goodIn_of _ (by decide +kernel)) ggX1_addRightMoves_X1_popped
set_option maxRecDepth 20000 in
theorem ggX1_addRightMoves_X1_add : GoodIn wsX1_addRightMoves wsX1_add := goodIn_r _ [11, 12, 13, 14, 15, 16, 17, 18, 19, 20] (by decide +kernel) (by decide +kernel)
set_option maxRecDepth 20000 in
theorem gX1_addRightMoves_X1_add : GoodIn wsX1_addRightMoves (wsV RX1 47 RX1 yX1_add wsX1_add) := goodIn_app (goodIn_of _ (by decide +kernel)) ggX1_addRightMoves_X1_add
theorem dX1_addRightMoves_0 : decode cX1_addRightMoves 0 = .ok (.iconst 0, 1) := by decide +kernel
theorem dX1_addRightMoves_1 : decode cX1_addRightMoves 1 = .ok (.istore 4, 2) := by decide +kernel
theorem dX1_addRightMoves_3 : decode cX1_addRightMoves 3 = .ok (.iload 4, 2) := by decide +kernel
theorem dX1_addRightMoves_5 : decode cX1_addRightMoves 5 = .ok (.iconst 1, 1) := by decide +kernel
theorem dX1_addRightMoves_6 : decode cX1_addRightMoves 6 = .ok (.if_icmp .gt 42, 3) := by decide +kernel
theorem dX1_addRightMoves_9 : decode cX1_addRightMoves 9 = .ok (.aload_n 0, 1) := by decide +kernel
theorem dX1_addRightMoves_10 : decode cX1_addRightMoves 10 = .ok (.iload_n 3, 1) := by decide +kernel
theorem dX1_addRightMoves_11 : decode cX1_addRightMoves 11 = .ok (.iload 4, 2) := by decide +kernel
theorem dX1_addRightMoves_13 : decode cX1_addRightMoves 13 = .ok (.invokevirtual 84, 3) := by decide +kernel
theorem dX1_addRightMoves_16 : decode cX1_addRightMoves 16 = .ok (.istore 5, 2) := by decide +kernel
theorem dX1_addRightMoves_18 : decode cX1_addRightMoves 18 = .ok (.aload_n 0, 1) := by decide +kernel
theorem dX1_addRightMoves_19 : decode cX1_addRightMoves 19 = .ok (.getfield 44, 3) := by decide +kernel
theorem dX1_addRightMoves_22 : decode cX1_addRightMoves 22 = .ok (.iload 5, 2) := by decide +kernel
theorem dX1_addRightMoves_24 : decode cX1_addRightMoves 24 = .ok (.ishr, 1) := by decide +kernel
theorem dX1_addRightMoves_25 : decode cX1_addRightMoves 25 = .ok (.iconst 1, 1) := by decide +kernel
theorem dX1_addRightMoves_26 : decode cX1_addRightMoves 26 = .ok (.iand, 1) := by decide +kernel
theorem dX1_addRightMoves_27 : decode cX1_addRightMoves 27 = .ok (.iconst 1, 1) := by decide +kernel
theorem dX1_addRightMoves_28 : decode cX1_addRightMoves 28 = .ok (.if_icmp .ne 14, 3) := by decide +kernel
theorem dX1_addRightMoves_31 : decode cX1_addRightMoves 31 = .ok (.aload_n 0, 1) := by decide +kernel
theorem dX1_addRightMoves_32 : decode cX1_addRightMoves 32 = .ok (.iload_n 1, 1) := by decide +kernel
theorem dX1_addRightMoves_33 : decode cX1_addRightMoves 33 = .ok (.iload_n 3, 1) := by decide +kernel
theorem dX1_addRightMoves_34 : decode cX1_addRightMoves 34 = .ok (.iconst 1, 1) := by decide +kernel
theorem dX1_addRightMoves_35 : decode cX1_addRightMoves 35 = .ok (.iand, 1) := by decide +kernel
theorem dX1_addRightMoves_36 : decode cX1_addRightMoves 36 = .ok (.iload_n 2, 1) := by decide +kernel
theorem dX1_addRightMoves_37 : decode cX1_addRightMoves 37 = .ok (.iload 5, 2) := by decide +kernel
theorem dX1_addRightMoves_39 : decode cX1_addRightMoves 39 = .ok (.invokevirtual 47, 3) := by decide +kernel
theorem dX1_addRightMoves_42 : decode cX1_addRightMoves 42 = .ok (.iinc 4 1, 3) := by decide +kernel
theorem dX1_addRightMoves_45 : decode cX1_addRightMoves 45 = .ok (.goto (-42), 3) := by decide +kernel
theorem dX1_addRightMoves_48 : decode cX1_addRightMoves 48 = .ok (.return_, 1) := by decide +kernel
set_option maxRecDepth 20000 in
theorem ggX1_addLeftMoves_X1_popped : GoodIn wsX1_addLeftMoves wsX1_popped := goodIn_r _ [6, 7, 15, 16, 17, 18, 19, 20] (by decide +kernel) (by decide +kernel)
set_option maxRecDepth 20000 in
theorem gX1_addLeftMoves_X1_popped : GoodIn wsX1_addLeftMoves (wsV RX1 84 RX1 yX1_popped wsX1_popped) := goodIn_app (goodIn_of _ (by decide +kernel)) ggX1_addLeftMoves_X1_popped
set_option maxRecDepth 20000 in
theorem ggX1_addLeftMoves_X1_add : GoodIn wsX1_addLeftMoves wsX1_add := goodIn_r _ [11, 12, 13, 14, 15, 16, 17, 18, 19, 20] (by decide +kernel) (by decide +kernel)
set_option maxRecDepth 20000 in
theorem gX1_addLeftMoves_X1_add : GoodIn wsX1_addLeftMoves (wsV RX1 47 RX1 yX1_add wsX1_add) := goodIn_app (goodIn_of _ (by decide +kernel)) ggX1_addLeftMoves_X1_add
theorem dX1_addLeftMoves_0 : decode cX1_addLeftMoves 0 = .ok (.iconst 0, 1) := by decide +kernel
theorem dX1_addLeftMoves_1 : decode cX1_addLeftMoves 1 = .ok (.istore 4, 2) := by decide +kernel
theorem dX1_addLeftMoves_3 : decode cX1_addLeftMoves 3 = .ok (.iload 4, 2) := by decide +kernel
theorem dX1_addLeftMoves_5 : decode cX1_addLeftMoves 5 = .ok (.iconst 1, 1) := by decide +kernel
theorem dX1_addLeftMoves_6 : decode cX1_addLeftMoves 6 = .ok (.if_icmp .gt 42, 3) := by decide +kernel
theorem dX1_addLeftMoves_9 : decode cX1_addLeftMoves 9 = .ok (.aload_n 0, 1) := by decide +kernel
theorem dX1_addLeftMoves_10 : decode cX1_addLeftMoves 10 = .ok (.iload_n 2, 1) := by decide +kernel
theorem dX1_addLeftMoves_11 : decode cX1_addLeftMoves 11 = .ok (.iload 4, 2) := by decide +kernel
theorem dX1_addLeftMoves_13 : decode cX1_addLeftMoves 13 = .ok (.invokevirtual 84, 3) := by decide +kernel
theorem dX1_addLeftMoves_16 : decode cX1_addLeftMoves 16 = .ok (.istore 5, 2) := by decide +kernel
theorem dX1_addLeftMoves_18 : decode cX1_addLeftMoves 18 = .ok (.aload_n 0, 1) := by decide +kernel
theorem dX1_addLeftMoves_19 : decode cX1_addLeftMoves 19 = .ok (.getfield 41, 3) := by decide +kernel
theorem dX1_addLeftMoves_22 : decode cX1_addLeftMoves 22 = .ok (.iload 5, 2) := by decide +kernel
theorem dX1_addLeftMoves_24 : decode cX1_addLeftMoves 24 = .ok (.ishr, 1) := by decide +kernel
theorem dX1_addLeftMoves_25 : decode cX1_addLeftMoves 25 = .ok (.iconst 1, 1) := by decide +kernel
theorem dX1_addLeftMoves_26 : decode cX1_addLeftMoves 26 = .ok (.iand, 1) := by decide +kernel
theorem dX1_addLeftMoves_27 : decode cX1_addLeftMoves 27 = .ok (.iconst 1, 1) := by decide +kernel
theorem dX1_addLeftMoves_28 : decode cX1_addLeftMoves 28 = .ok (.if_icmp .ne 14, 3) := by decide +kernel
theorem dX1_addLeftMoves_31 : decode cX1_addLeftMoves 31 = .ok (.aload_n 0, 1) := by decide +kernel
theorem dX1_addLeftMoves_32 : decode cX1_addLeftMoves 32 = .ok (.iload_n 1, 1) := by decide +kernel
theorem dX1_addLeftMoves_33 : decode cX1_addLeftMoves 33 = .ok (.iload_n 2, 1) := by decide +kernel
theorem dX1_addLeftMoves_34 : decode cX1_addLeftMoves 34 = .ok (.iconst 1, 1) := by decide +kernel
theorem dX1_addLeftMoves_35 : decode cX1_addLeftMoves 35 = .ok (.iand, 1) := by decide +kernel
theorem dX1_addLeftMoves_36 : decode cX1_addLeftMoves 36 = .ok (.iload 5, 2) := by decide +kernel
theorem dX1_addLeftMoves_38 : decode cX1_addLeftMoves 38 = .ok (.iload_n 3, 1) := by decide +kernel
theorem dX1_addLeftMoves_39 : decode cX1_addLeftMoves 39 = .ok (.invokevirtual 47, 3) := by decide +kernel
theorem dX1_addLeftMoves_42 : decode cX1_addLeftMoves 42 = .ok (.iinc 4 1, 3) := by decide +kernel
theorem dX1_addLeftMoves_45 : decode cX1_addLeftMoves 45 = .ok (.goto (-42), 3) := by decide +kernel
theorem dX1_addLeftMoves_48 : decode cX1_addLeftMoves 48 = .ok (.return_, 1) := by decide +kernel
theorem dX1_pushed_0 : decode cX1_pushed 0 = .ok (.iload_n 1, 1) := by decide +kernel
theorem dX1_pushed_1 : decode cX1_pushed 1 = .ok (.iconst 1, 1) := by decide +kernel
theorem dX1_pushed_2 : decode cX1_pushed 2 = .ok (.ishl, 1) := by decide +kernel
theorem dX1_pushed_3 : decode cX1_pushed 3 = .ok (.iload_n 2, 1) := by decide +kernel
theorem dX1_pushed_4 : decode cX1_pushed 4 = .ok (.ior, 1) := by decide +kernel
theorem dX1_pushed_5 : decode cX1_pushed 5 = .ok (.iconst 1, 1) := by decide +kernel
theorem dX1_pushed_6 : decode cX1_pushed 6 = .ok (.aload_n 0, 1) := by decide +kernel
theorem dX1_pushed_7 : decode cX1_pushed 7 = .ok (.getfield 19, 3) := by decide +kernel
theorem dX1_pushed_10 : decode cX1_pushed 10 = .ok (.ishl, 1) := by decide +kernel
theorem dX1_pushed_11 : decode cX1_pushed 11 = .ok (.iconst 1, 1) := by decide +kernel
theorem dX1_pushed_12 : decode cX1_pushed 12 = .ok (.isub, 1) := by decide +kernel
theorem dX1_pushed_13 : decode cX1_pushed 13 = .ok (.iand, 1) := by decide +kernel
theorem dX1_pushed_14 : decode cX1_pushed 14 = .ok (.ireturn, 1) := by decide +kernel
theorem dX1_popped_0 : decode cX1_popped 0 = .ok (.iload_n 1, 1) := by decide +kernel
theorem dX1_popped_1 : decode cX1_popped 1 = .ok (.iconst 1, 1) := by decide +kernel
theorem dX1_popped_2 : decode cX1_popped 2 = .ok (.ishr, 1) := by decide +kernel
theorem dX1_popped_3 : decode cX1_popped 3 = .ok (.iload_n 2, 1) := by decide +kernel
theorem dX1_popped_4 : decode cX1_popped 4 = .ok (.aload_n 0, 1) := by decide +kernel
theorem dX1_popped_5 : decode cX1_popped 5 = .ok (.getfield 19, 3) := by decide +kernel
theorem dX1_popped_8 : decode cX1_popped 8 = .ok (.iconst 1, 1) := by decide +kernel
theorem dX1_popped_9 : decode cX1_popped 9 = .ok (.isub, 1) := by decide +kernel
theorem dX1_popped_10 : decode cX1_popped 10 = .ok (.ishl, 1) := by decide +kernel
theorem dX1_popped_11 : decode cX1_popped 11 = .ok (.ior, 1) := by decide +kernel
theorem dX1_popped_12 : decode cX1_popped 12 = .ok (.ireturn, 1) := by decide +kernel
theorem dX1_add_0 : decode cX1_add 0 = .ok (.iconst 2, 1) := by decide +kernel
theorem dX1_add_1 : decode cX1_add 1 = .ok (.iload_n 1, 1) := by decide +kernel
theorem dX1_add_2 : decode cX1_add 2 = .ok (.imul, 1) := by decide +kernel
theorem dX1_add_3 : decode cX1_add 3 = .ok (.iload_n 2, 1) := by decide +kernel
theorem dX1_add_4 : decode cX1_add 4 = .ok (.iadd, 1) := by decide +kernel
theorem dX1_add_5 : decode cX1_add 5 = .ok (.iconst 3, 1) := by decide +kernel
theorem dX1_add_6 : decode cX1_add 6 = .ok (.ishl, 1) := by decide +kernel
theorem dX1_add_7 : decode cX1_add 7 = .ok (.iload_n 3, 1) := by decide +kernel
theorem dX1_add_8 : decode cX1_add 8 = .ok (.ior, 1) := by decide +kernel
theorem dX1_add_9 : decode cX1_add 9 = .ok (.iconst 3, 1) := by decide +kernel
theorem dX1_add_10 : decode cX1_add 10 = .ok (.ishl, 1) := by decide +kernel
theorem dX1_add_11 : decode cX1_add 11 = .ok (.iload 4, 2) := by decide +kernel
theorem dX1_add_13 : decode cX1_add 13 = .ok (.ior, 1) := by decide +kernel
theorem dX1_add_14 : decode cX1_add 14 = .ok (.istore 5, 2) := by decide +kernel
theorem dX1_add_16 : decode cX1_add 16 = .ok (.iload 5, 2) := by decide +kernel
theorem dX1_add_18 : decode cX1_add 18 = .ok (.ifCond .lt 38, 3) := by decide +kernel
theorem dX1_add_21 : decode cX1_add 21 = .ok (.iload 5, 2) := by decide +kernel
theorem dX1_add_23 : decode cX1_add 23 = .ok (.sipush 640, 3) := by decide +kernel
theorem dX1_add_26 : decode cX1_add 26 = .ok (.if_icmp .ge 30, 3) := by decide +kernel
theorem dX1_add_29 : decode cX1_add 29 = .ok (.aload_n 0, 1) := by decide +kernel
theorem dX1_add_30 : decode cX1_add 30 = .ok (.getfield 38, 3) := by decide +kernel
theorem dX1_add_33 : decode cX1_add 33 = .ok (.ifCond .lt 23, 3) := by decide +kernel
theorem dX1_add_36 : decode cX1_add 36 = .ok (.aload_n 0, 1) := by decide +kernel
theorem dX1_add_37 : decode cX1_add 37 = .ok (.getfield 38, 3) := by decide +kernel
theorem dX1_add_40 : decode cX1_add 40 = .ok (.sipush 640, 3) := by decide +kernel
theorem dX1_add_43 : decode cX1_add 43 = .ok (.if_icmp .ge 13, 3) := by decide +kernel
theorem dX1_add_46 : decode cX1_add 46 = .ok (.aload_n 0, 1) := by decide +kernel
theorem dX1_add_47 : decode cX1_add 47 = .ok (.getfield 11, 3) := by decide +kernel
theorem dX1_add_50 : decode cX1_add 50 = .ok (.iload 5, 2) := by decide +kernel
theorem dX1_add_52 : decode cX1_add 52 = .ok (.baload, 1) := by decide +kernel
theorem dX1_add_53 : decode cX1_add 53 = .ok (.ifCond .eq 4, 3) := by decide +kernel
theorem dX1_add_56 : decode cX1_add 56 = .ok (.return_, 1) := by decide +kernel
theorem dX1_add_57 : decode cX1_add 57 = .ok (.aload_n 0, 1) := by decide +kernel
theorem dX1_add_58 : decode cX1_add 58 = .ok (.getfield 11, 3) := by decide +kernel
theorem dX1_add_61 : decode cX1_add 61 = .ok (.iload 5, 2) := by decide +kernel
theorem dX1_add_63 : decode cX1_add 63 = .ok (.iconst 1, 1) := by decide +kernel
theorem dX1_add_64 : decode cX1_add 64 = .ok (.bastore, 1) := by decide +kernel
theorem dX1_add_65 : decode cX1_add 65 = .ok (.aload_n 0, 1) := by decide +kernel
theorem dX1_add_66 : decode cX1_add 66 = .ok (.getfield 15, 3) := by decide +kernel
theorem dX1_add_69 : decode cX1_add 69 = .ok (.aload_n 0, 1) := by decide +kernel
theorem dX1_add_70 : decode cX1_add 70 = .ok (.getfield 38, 3) := by decide +kernel
theorem dX1_add_73 : decode cX1_add 73 = .ok (.iload 5, 2) := by decide +kernel
theorem dX1_add_75 : decode cX1_add 75 = .ok (.iastore, 1) := by decide +kernel
theorem dX1_add_76 : decode cX1_add 76 = .ok (.aload_n 0, 1) := by decide +kernel
theorem dX1_add_77 : decode cX1_add 77 = .ok (.dup, 1) := by decide +kernel
theorem dX1_add_78 : decode cX1_add 78 = .ok (.getfield 38, 3) := by decide +kernel
theorem dX1_add_81 : decode cX1_add 81 = .ok (.iconst 1, 1) := by decide +kernel
theorem dX1_add_82 : decode cX1_add 82 = .ok (.iadd, 1) := by decide +kernel
theorem dX1_add_83 : decode cX1_add 83 = .ok (.putfield 38, 3) := by decide +kernel
theorem dX1_add_86 : decode cX1_add 86 = .ok (.return_, 1) := by decide +kernel
set_option maxRecDepth 20000 in
theorem ggX3_init_X2_init : GoodIn wsX3_init wsX2_init := goodIn_r _ [18, 19, 2, 3, 20, 21, 22, 23, 24, 25, 26, 27, 28, 29, 30, 31, 32, 8, 33, 34, 35, 36, 37, 38, 39, 6, 40, 41, 42, 43, 44, 45, 46, 47, 48, 49, 50, 51, 52, 53, 70, 71, 54, 55, 56, 57, 58, 59] (by decide +kernel) (by decide +kernel)
set_option maxRecDepth 20000 in
theorem gX3_init_X2_init : GoodIn wsX3_init (wsX2_init) := ggX3_init_X2_init
theorem dX3_init_0 : decode cX3_init 0 = .ok (.aload_n 0, 1) := by decide +kernel
theorem dX3_init_1 : decode cX3_init 1 = .ok (.invokespecial 3, 3) := by decide +kernel
theorem dX3_init_4 : decode cX3_init 4 = .ok (.aload_n 0, 1) := by decide +kernel
theorem dX3_init_5 : decode cX3_init 5 = .ok (.new 9, 3) := by decide +kernel
theorem dX3_init_8 : decode cX3_init 8 = .ok (.dup, 1) := by decide +kernel
theorem dX3_init_9 : decode cX3_init 9 = .ok (.sipush 200, 3) := by decide +kernel
theorem dX3_init_12 : decode cX3_init 12 = .ok (.invokespecial 11, 3) := by decide +kernel
theorem dX3_init_15 : decode cX3_init 15 = .ok (.putfield 14, 3) := by decide +kernel
theorem dX3_init_18 : decode cX3_init 18 = .ok (.aload_n 0, 1) := by decide +kernel
theorem dX3_init_19 : decode cX3_init 19 = .ok (.sipush 201, 3) := by decide +kernel
theorem dX3_init_22 : decode cX3_init 22 = .ok (.newarray .int, 2) := by decide +kernel
theorem dX3_init_24 : decode cX3_init 24 = .ok (.putfield 20, 3) := by decide +kernel
theorem dX3_init_27 : decode cX3_init 27 = .ok (.aload_n 0, 1) := by decide +kernel
theorem dX3_init_28 : decode cX3_init 28 = .ok (.sipush 201, 3) := by decide +kernel
theorem dX3_init_31 : decode cX3_init 31 = .ok (.newarray .int, 2) := by decide +kernel
theorem dX3_init_33 : decode cX3_init 33 = .ok (.putfield 24, 3) := by decide +kernel
theorem dX3_init_36 : decode cX3_init 36 = .ok (.aload_n 0, 1) := by decide +kernel
theorem dX3_init_37 : decode cX3_init 37 = .ok (.sipush 201, 3) := by decide +kernel
theorem dX3_init_40 : decode cX3_init 40 = .ok (.newarray .boolean, 2) := by decide +kernel
theorem dX3_init_42 : decode cX3_init 42 = .ok (.putfield 27, 3) := by decide +kernel
theorem dX3_init_45 : decode cX3_init 45 = .ok (.aload_n 0, 1) := by decide +kernel
theorem dX3_init_46 : decode cX3_init 46 = .ok (.sipush 201, 3) := by decide +kernel
theorem dX3_init_49 : decode cX3_init 49 = .ok (.newarray .boolean, 2) := by decide +kernel
theorem dX3_init_51 : decode cX3_init 51 = .ok (.putfield 31, 3) := by decide +kernel
theorem dX3_init_54 : decode cX3_init 54 = .ok (.aload_n 0, 1) := by decide +kernel
theorem dX3_init_55 : decode cX3_init 55 = .ok (.sipush 2613, 3) := by decide +kernel
theorem dX3_init_58 : decode cX3_init 58 = .ok (.newarray .int, 2) := by decide +kernel
theorem dX3_init_60 : decode cX3_init 60 = .ok (.putfield 34, 3) := by decide +kernel
theorem dX3_init_63 : decode cX3_init 63 = .ok (.aload_n 0, 1) := by decide +kernel
theorem dX3_init_64 : decode cX3_init 64 = .ok (.iconst 0, 1) := by decide +kernel
theorem dX3_init_65 : decode cX3_init 65 = .ok (.putfield 37, 3) := by decide +kernel
theorem dX3_init_68 : decode cX3_init 68 = .ok (.return_, 1) := by decide +kernel
set_option maxRecDepth 20000 in
theorem ggX3_record_X2_begin : GoodIn wsX3_record wsX2_begin := goodIn_r _ [12, 13, 14, 15, 16, 17, 18, 19, 20, 21, 22, 23, 24, 25, 26, 27, 28, 99, 100, 101, 102, 103, 104, 105, 106] (by decide +kernel) (by decide +kernel)
set_option maxRecDepth 20000 in
theorem gX3_record_X2_begin : GoodIn wsX3_record (wsV RX3 41 RX2 yX2_begin wsX2_begin) := goodIn_app (goodIn_of _ (by decide +kernel)) ggX3_record_X2_begin
set_option maxRecDepth 20000 in
theorem ggX3_record_X3_keep : GoodIn wsX3_record wsX3_keep := goodIn_r _ [33, 34, 1, 35, 36, 37, 38, 89, 90, 91, 92, 93, 94, 95, 96, 97, 98, 99, 100, 101, 102, 103, 104, 105, 106] (by decide +kernel) (by decide +kernel)
set_option maxRecDepth 20000 in
theorem gX3_record_X3_keep : GoodIn wsX3_record (wsV RX3 44 RX3 yX3_keep wsX3_keep) := goodIn_app (goodIn_of _ (by decide +kernel)) ggX3_record_X3_keep
set_option maxRecDepth 20000 in
theorem ggX3_record_X2_isOver : GoodIn wsX3_record wsX2_isOver := goodIn_r _ [42, 14, 13, 15, 43, 44, 45, 22, 46, 47, 24, 48, 49, 50, 51, 52, 53, 54, 55, 56, 57, 58, 59, 60, 61, 62, 63, 64, 65, 99, 100, 101, 102, 103, 104, 105, 106, 107, 108, 109, 110] (by decide +kernel) (by decide +kernel)
set_option maxRecDepth 20000 in
theorem gX3_record_X2_isOver : GoodIn wsX3_record (wsV RX3 54 RX2 yX2_isOver wsX2_isOver) := goodIn_app (goodIn_of _ (by decide +kernel)) ggX3_record_X2_isOver
set_option maxRecDepth 20000 in
theorem ggX3_record_X2_advance : GoodIn wsX3_record wsX2_advance := goodIn_r _ [69, 13, 15, 14, 16, 17, 70, 3, 4, 5, 18, 71, 72, 73, 43, 44, 45, 22, 46, 47, 24, 48, 49, 50, 74, 75, 76, 54, 77, 78, 61, 62, 63, 64, 65, 79, 80, 81, 82, 83, 84, 85, 86, 87, 88, 57, 58, 59, 60, 99, 100, 101, 102, 103, 104, 105, 106, 107, 108, 109, 110] (by decide +kernel) (by decide +kernel)
set_option maxRecDepth 20000 in
theorem gX3_record_X2_advance : GoodIn wsX3_record (wsV RX3 64 RX2 yX2_advance wsX2_advance) := goodIn_app (goodIn_of _ (by decide +kernel)) ggX3_record_X2_advance
theorem dX3_record_0 : decode cX3_record 0 = .ok (.aload_n 0, 1) := by decide +kernel
theorem dX3_record_1 : decode cX3_record 1 = .ok (.getfield 14, 3) := by decide +kernel
theorem dX3_record_4 : decode cX3_record 4 = .ok (.invokevirtual 41, 3) := by decide +kernel
theorem dX3_record_7 : decode cX3_record 7 = .ok (.aload_n 0, 1) := by decide +kernel
theorem dX3_record_8 : decode cX3_record 8 = .ok (.iconst 0, 1) := by decide +kernel
theorem dX3_record_9 : decode cX3_record 9 = .ok (.iconst 1, 1) := by decide +kernel
theorem dX3_record_10 : decode cX3_record 10 = .ok (.iconst 1, 1) := by decide +kernel
theorem dX3_record_11 : decode cX3_record 11 = .ok (.invokevirtual 44, 3) := by decide +kernel
theorem dX3_record_14 : decode cX3_record 14 = .ok (.iload_n 2, 1) := by decide +kernel
theorem dX3_record_15 : decode cX3_record 15 = .ok (.sipush 200, 3) := by decide +kernel
theorem dX3_record_18 : decode cX3_record 18 = .ok (.invokestatic 48, 3) := by decide +kernel
theorem dX3_record_21 : decode cX3_record 21 = .ok (.istore_n 3, 1) := by decide +kernel
theorem dX3_record_22 : decode cX3_record 22 = .ok (.iconst 0, 1) := by decide +kernel
theorem dX3_record_23 : decode cX3_record 23 = .ok (.istore 4, 2) := by decide +kernel
theorem dX3_record_25 : decode cX3_record 25 = .ok (.iload 4, 2) := by decide +kernel
theorem dX3_record_27 : decode cX3_record 27 = .ok (.iload_n 3, 1) := by decide +kernel
theorem dX3_record_28 : decode cX3_record 28 = .ok (.if_icmp .ge 86, 3) := by decide +kernel
theorem dX3_record_31 : decode cX3_record 31 = .ok (.aload_n 0, 1) := by decide +kernel
theorem dX3_record_32 : decode cX3_record 32 = .ok (.getfield 14, 3) := by decide +kernel
theorem dX3_record_35 : decode cX3_record 35 = .ok (.aload_n 1, 1) := by decide +kernel
theorem dX3_record_36 : decode cX3_record 36 = .ok (.invokevirtual 54, 3) := by decide +kernel
theorem dX3_record_39 : decode cX3_record 39 = .ok (.ifCond .ne 75, 3) := by decide +kernel
theorem dX3_record_42 : decode cX3_record 42 = .ok (.aload_n 0, 1) := by decide +kernel
theorem dX3_record_43 : decode cX3_record 43 = .ok (.getfield 14, 3) := by decide +kernel
theorem dX3_record_46 : decode cX3_record 46 = .ok (.getfield 58, 3) := by decide +kernel
theorem dX3_record_49 : decode cX3_record 49 = .ok (.istore 5, 2) := by decide +kernel
theorem dX3_record_51 : decode cX3_record 51 = .ok (.aload_n 0, 1) := by decide +kernel
theorem dX3_record_52 : decode cX3_record 52 = .ok (.getfield 14, 3) := by decide +kernel
theorem dX3_record_55 : decode cX3_record 55 = .ok (.getfield 61, 3) := by decide +kernel
theorem dX3_record_58 : decode cX3_record 58 = .ok (.istore 6, 2) := by decide +kernel
theorem dX3_record_60 : decode cX3_record 60 = .ok (.aload_n 0, 1) := by decide +kernel
theorem dX3_record_61 : decode cX3_record 61 = .ok (.getfield 14, 3) := by decide +kernel
theorem dX3_record_64 : decode cX3_record 64 = .ok (.aload_n 1, 1) := by decide +kernel
theorem dX3_record_65 : decode cX3_record 65 = .ok (.invokevirtual 64, 3) := by decide +kernel
theorem dX3_record_68 : decode cX3_record 68 = .ok (.iinc 4 1, 3) := by decide +kernel
theorem dX3_record_71 : decode cX3_record 71 = .ok (.aload_n 0, 1) := by decide +kernel
theorem dX3_record_72 : decode cX3_record 72 = .ok (.iload 4, 2) := by decide +kernel
theorem dX3_record_74 : decode cX3_record 74 = .ok (.aload_n 0, 1) := by decide +kernel
theorem dX3_record_75 : decode cX3_record 75 = .ok (.getfield 14, 3) := by decide +kernel
theorem dX3_record_78 : decode cX3_record 78 = .ok (.getfield 68, 3) := by decide +kernel
theorem dX3_record_81 : decode cX3_record 81 = .ok (.iload 6, 2) := by decide +kernel
theorem dX3_record_83 : decode cX3_record 83 = .ok (.if_icmp .le 7, 3) := by decide +kernel
theorem dX3_record_86 : decode cX3_record 86 = .ok (.iconst 1, 1) := by decide +kernel
theorem dX3_record_87 : decode cX3_record 87 = .ok (.goto 4, 3) := by decide +kernel
theorem dX3_record_90 : decode cX3_record 90 = .ok (.iconst 0, 1) := by decide +kernel
theorem dX3_record_91 : decode cX3_record 91 = .ok (.aload_n 0, 1) := by decide +kernel
theorem dX3_record_92 : decode cX3_record 92 = .ok (.getfield 14, 3) := by decide +kernel
theorem dX3_record_95 : decode cX3_record 95 = .ok (.getfield 68, 3) := by decide +kernel
theorem dX3_record_98 : decode cX3_record 98 = .ok (.iload 5, 2) := by decide +kernel
theorem dX3_record_100 : decode cX3_record 100 = .ok (.if_icmp .ge 7, 3) := by decide +kernel
theorem dX3_record_103 : decode cX3_record 103 = .ok (.iconst 1, 1) := by decide +kernel
theorem dX3_record_104 : decode cX3_record 104 = .ok (.goto 4, 3) := by decide +kernel
theorem dX3_record_107 : decode cX3_record 107 = .ok (.iconst 0, 1) := by decide +kernel
theorem dX3_record_108 : decode cX3_record 108 = .ok (.invokevirtual 44, 3) := by decide +kernel
theorem dX3_record_111 : decode cX3_record 111 = .ok (.goto (-86), 3) := by decide +kernel
theorem dX3_record_114 : decode cX3_record 114 = .ok (.aload_n 0, 1) := by decide +kernel
theorem dX3_record_115 : decode cX3_record 115 = .ok (.iload 4, 2) := by decide +kernel
theorem dX3_record_117 : decode cX3_record 117 = .ok (.putfield 37, 3) := by decide +kernel
theorem dX3_record_120 : decode cX3_record 120 = .ok (.aload_n 0, 1) := by decide +kernel
theorem dX3_record_121 : decode cX3_record 121 = .ok (.aload_n 0, 1) := by decide +kernel
theorem dX3_record_122 : decode cX3_record 122 = .ok (.getfield 14, 3) := by decide +kernel
theorem dX3_record_125 : decode cX3_record 125 = .ok (.aload_n 1, 1) := by decide +kernel
theorem dX3_record_126 : decode cX3_record 126 = .ok (.invokevirtual 54, 3) := by decide +kernel
theorem dX3_record_129 : decode cX3_record 129 = .ok (.putfield 71, 3) := by decide +kernel
theorem dX3_record_132 : decode cX3_record 132 = .ok (.return_, 1) := by decide +kernel
theorem dX3_keep_0 : decode cX3_keep 0 = .ok (.iload_n 1, 1) := by decide +kernel
theorem dX3_keep_1 : decode cX3_keep 1 = .ok (.ifCond .lt 10, 3) := by decide +kernel
theorem dX3_keep_4 : decode cX3_keep 4 = .ok (.iload_n 1, 1) := by decide +kernel
theorem dX3_keep_5 : decode cX3_keep 5 = .ok (.sipush 200, 3) := by decide +kernel
theorem dX3_keep_8 : decode cX3_keep 8 = .ok (.if_icmp .le 4, 3) := by decide +kernel
theorem dX3_keep_11 : decode cX3_keep 11 = .ok (.return_, 1) := by decide +kernel
theorem dX3_keep_12 : decode cX3_keep 12 = .ok (.aload_n 0, 1) := by decide +kernel
theorem dX3_keep_13 : decode cX3_keep 13 = .ok (.getfield 20, 3) := by decide +kernel
theorem dX3_keep_16 : decode cX3_keep 16 = .ok (.iload_n 1, 1) := by decide +kernel
theorem dX3_keep_17 : decode cX3_keep 17 = .ok (.aload_n 0, 1) := by decide +kernel
theorem dX3_keep_18 : decode cX3_keep 18 = .ok (.getfield 14, 3) := by decide +kernel
theorem dX3_keep_21 : decode cX3_keep 21 = .ok (.getfield 75, 3) := by decide +kernel
theorem dX3_keep_24 : decode cX3_keep 24 = .ok (.iastore, 1) := by decide +kernel
theorem dX3_keep_25 : decode cX3_keep 25 = .ok (.aload_n 0, 1) := by decide +kernel
theorem dX3_keep_26 : decode cX3_keep 26 = .ok (.getfield 24, 3) := by decide +kernel
theorem dX3_keep_29 : decode cX3_keep 29 = .ok (.iload_n 1, 1) := by decide +kernel
theorem dX3_keep_30 : decode cX3_keep 30 = .ok (.aload_n 0, 1) := by decide +kernel
theorem dX3_keep_31 : decode cX3_keep 31 = .ok (.getfield 14, 3) := by decide +kernel
theorem dX3_keep_34 : decode cX3_keep 34 = .ok (.getfield 68, 3) := by decide +kernel
theorem dX3_keep_37 : decode cX3_keep 37 = .ok (.iastore, 1) := by decide +kernel
theorem dX3_keep_38 : decode cX3_keep 38 = .ok (.aload_n 0, 1) := by decide +kernel
theorem dX3_keep_39 : decode cX3_keep 39 = .ok (.getfield 27, 3) := by decide +kernel
theorem dX3_keep_42 : decode cX3_keep 42 = .ok (.iload_n 1, 1) := by decide +kernel
theorem dX3_keep_43 : decode cX3_keep 43 = .ok (.iload_n 2, 1) := by decide +kernel
theorem dX3_keep_44 : decode cX3_keep 44 = .ok (.bastore, 1) := by decide +kernel
theorem dX3_keep_45 : decode cX3_keep 45 = .ok (.aload_n 0, 1) := by decide +kernel
theorem dX3_keep_46 : decode cX3_keep 46 = .ok (.getfield 31, 3) := by decide +kernel
theorem dX3_keep_49 : decode cX3_keep 49 = .ok (.iload_n 1, 1) := by decide +kernel
theorem dX3_keep_50 : decode cX3_keep 50 = .ok (.iload_n 3, 1) := by decide +kernel
theorem dX3_keep_51 : decode cX3_keep 51 = .ok (.bastore, 1) := by decide +kernel
theorem dX3_keep_52 : decode cX3_keep 52 = .ok (.aload_n 0, 1) := by decide +kernel
theorem dX3_keep_53 : decode cX3_keep 53 = .ok (.getfield 14, 3) := by decide +kernel
theorem dX3_keep_56 : decode cX3_keep 56 = .ok (.getfield 78, 3) := by decide +kernel
theorem dX3_keep_59 : decode cX3_keep 59 = .ok (.getfield 82, 3) := by decide +kernel
theorem dX3_keep_62 : decode cX3_keep 62 = .ok (.astore 4, 2) := by decide +kernel
theorem dX3_keep_64 : decode cX3_keep 64 = .ok (.iconst 0, 1) := by decide +kernel
theorem dX3_keep_65 : decode cX3_keep 65 = .ok (.istore 5, 2) := by decide +kernel
theorem dX3_keep_67 : decode cX3_keep 67 = .ok (.iload 5, 2) := by decide +kernel
theorem dX3_keep_69 : decode cX3_keep 69 = .ok (.bipush 13, 2) := by decide +kernel
theorem dX3_keep_71 : decode cX3_keep 71 = .ok (.if_icmp .ge 34, 3) := by decide +kernel
theorem dX3_keep_74 : decode cX3_keep 74 = .ok (.iload 5, 2) := by decide +kernel
theorem dX3_keep_76 : decode cX3_keep 76 = .ok (.aload 4, 2) := by decide +kernel
theorem dX3_keep_78 : decode cX3_keep 78 = .ok (.arraylength, 1) := by decide +kernel
theorem dX3_keep_79 : decode cX3_keep 79 = .ok (.if_icmp .ge 26, 3) := by decide +kernel
theorem dX3_keep_82 : decode cX3_keep 82 = .ok (.aload_n 0, 1) := by decide +kernel
theorem dX3_keep_83 : decode cX3_keep 83 = .ok (.getfield 34, 3) := by decide +kernel
theorem dX3_keep_86 : decode cX3_keep 86 = .ok (.bipush 13, 2) := by decide +kernel
theorem dX3_keep_88 : decode cX3_keep 88 = .ok (.iload_n 1, 1) := by decide +kernel
theorem dX3_keep_89 : decode cX3_keep 89 = .ok (.imul, 1) := by decide +kernel
theorem dX3_keep_90 : decode cX3_keep 90 = .ok (.iload 5, 2) := by decide +kernel
theorem dX3_keep_92 : decode cX3_keep 92 = .ok (.iadd, 1) := by decide +kernel
theorem dX3_keep_93 : decode cX3_keep 93 = .ok (.aload 4, 2) := by decide +kernel
theorem dX3_keep_95 : decode cX3_keep 95 = .ok (.iload 5, 2) := by decide +kernel
theorem dX3_keep_97 : decode cX3_keep 97 = .ok (.iaload, 1) := by decide +kernel
theorem dX3_keep_98 : decode cX3_keep 98 = .ok (.iastore, 1) := by decide +kernel
theorem dX3_keep_99 : decode cX3_keep 99 = .ok (.iinc 5 1, 3) := by decide +kernel
theorem dX3_keep_102 : decode cX3_keep 102 = .ok (.goto (-35), 3) := by decide +kernel
theorem dX3_keep_105 : decode cX3_keep 105 = .ok (.return_, 1) := by decide +kernel
theorem dX3_stateAt_0 : decode cX3_stateAt 0 = .ok (.iload_n 1, 1) := by decide +kernel
theorem dX3_stateAt_1 : decode cX3_stateAt 1 = .ok (.ifCond .lt 21, 3) := by decide +kernel
theorem dX3_stateAt_4 : decode cX3_stateAt 4 = .ok (.iload_n 1, 1) := by decide +kernel
theorem dX3_stateAt_5 : decode cX3_stateAt 5 = .ok (.aload_n 0, 1) := by decide +kernel
theorem dX3_stateAt_6 : decode cX3_stateAt 6 = .ok (.getfield 20, 3) := by decide +kernel
theorem dX3_stateAt_9 : decode cX3_stateAt 9 = .ok (.arraylength, 1) := by decide +kernel
theorem dX3_stateAt_10 : decode cX3_stateAt 10 = .ok (.if_icmp .ge 12, 3) := by decide +kernel
theorem dX3_stateAt_13 : decode cX3_stateAt 13 = .ok (.aload_n 0, 1) := by decide +kernel
theorem dX3_stateAt_14 : decode cX3_stateAt 14 = .ok (.getfield 20, 3) := by decide +kernel
theorem dX3_stateAt_17 : decode cX3_stateAt 17 = .ok (.iload_n 1, 1) := by decide +kernel
theorem dX3_stateAt_18 : decode cX3_stateAt 18 = .ok (.iaload, 1) := by decide +kernel
theorem dX3_stateAt_19 : decode cX3_stateAt 19 = .ok (.goto 5, 3) := by decide +kernel
theorem dX3_stateAt_22 : decode cX3_stateAt 22 = .ok (.bipush 9, 2) := by decide +kernel
theorem dX3_stateAt_24 : decode cX3_stateAt 24 = .ok (.ireturn, 1) := by decide +kernel
theorem dX3_headAt_0 : decode cX3_headAt 0 = .ok (.iload_n 1, 1) := by decide +kernel
theorem dX3_headAt_1 : decode cX3_headAt 1 = .ok (.ifCond .lt 21, 3) := by decide +kernel
theorem dX3_headAt_4 : decode cX3_headAt 4 = .ok (.iload_n 1, 1) := by decide +kernel
theorem dX3_headAt_5 : decode cX3_headAt 5 = .ok (.aload_n 0, 1) := by decide +kernel
theorem dX3_headAt_6 : decode cX3_headAt 6 = .ok (.getfield 24, 3) := by decide +kernel
theorem dX3_headAt_9 : decode cX3_headAt 9 = .ok (.arraylength, 1) := by decide +kernel
theorem dX3_headAt_10 : decode cX3_headAt 10 = .ok (.if_icmp .ge 12, 3) := by decide +kernel
theorem dX3_headAt_13 : decode cX3_headAt 13 = .ok (.aload_n 0, 1) := by decide +kernel
theorem dX3_headAt_14 : decode cX3_headAt 14 = .ok (.getfield 24, 3) := by decide +kernel
theorem dX3_headAt_17 : decode cX3_headAt 17 = .ok (.iload_n 1, 1) := by decide +kernel
theorem dX3_headAt_18 : decode cX3_headAt 18 = .ok (.iaload, 1) := by decide +kernel
theorem dX3_headAt_19 : decode cX3_headAt 19 = .ok (.goto 4, 3) := by decide +kernel
theorem dX3_headAt_22 : decode cX3_headAt 22 = .ok (.iconst 0, 1) := by decide +kernel
theorem dX3_headAt_23 : decode cX3_headAt 23 = .ok (.ireturn, 1) := by decide +kernel
set_option maxRecDepth 20000 in
theorem ggX3_symbolAt_X6_bitOf : GoodIn wsX3_symbolAt wsX6_bitOf := goodIn_r _ [5] (by decide +kernel) (by decide +kernel)
set_option maxRecDepth 20000 in
theorem gX3_symbolAt_X6_bitOf : GoodIn wsX3_symbolAt (va_wsS RX3 87 yX6_bitOf wsX6_bitOf) := goodIn_app (goodIn_of _ (by decide +kernel)) ggX3_symbolAt_X6_bitOf
theorem dX3_symbolAt_0 : decode cX3_symbolAt 0 = .ok (.iload_n 1, 1) := by decide +kernel
theorem dX3_symbolAt_1 : decode cX3_symbolAt 1 = .ok (.ifCond .lt 24, 3) := by decide +kernel
theorem dX3_symbolAt_4 : decode cX3_symbolAt 4 = .ok (.iload_n 1, 1) := by decide +kernel
theorem dX3_symbolAt_5 : decode cX3_symbolAt 5 = .ok (.sipush 200, 3) := by decide +kernel
theorem dX3_symbolAt_8 : decode cX3_symbolAt 8 = .ok (.if_icmp .gt 17, 3) := by decide +kernel
theorem dX3_symbolAt_11 : decode cX3_symbolAt 11 = .ok (.iload_n 2, 1) := by decide +kernel
theorem dX3_symbolAt_12 : decode cX3_symbolAt 12 = .ok (.sipush (-200), 3) := by decide +kernel
theorem dX3_symbolAt_15 : decode cX3_symbolAt 15 = .ok (.if_icmp .lt 10, 3) := by decide +kernel
theorem dX3_symbolAt_18 : decode cX3_symbolAt 18 = .ok (.iload_n 2, 1) := by decide +kernel
theorem dX3_symbolAt_19 : decode cX3_symbolAt 19 = .ok (.sipush 200, 3) := by decide +kernel
theorem dX3_symbolAt_22 : decode cX3_symbolAt 22 = .ok (.if_icmp .le 5, 3) := by decide +kernel
theorem dX3_symbolAt_25 : decode cX3_symbolAt 25 = .ok (.iconst 0, 1) := by decide +kernel
theorem dX3_symbolAt_26 : decode cX3_symbolAt 26 = .ok (.ireturn, 1) := by decide +kernel
theorem dX3_symbolAt_27 : decode cX3_symbolAt 27 = .ok (.aload_n 0, 1) := by decide +kernel
theorem dX3_symbolAt_28 : decode cX3_symbolAt 28 = .ok (.getfield 34, 3) := by decide +kernel
theorem dX3_symbolAt_31 : decode cX3_symbolAt 31 = .ok (.bipush 13, 2) := by decide +kernel
theorem dX3_symbolAt_33 : decode cX3_symbolAt 33 = .ok (.iload_n 1, 1) := by decide +kernel
theorem dX3_symbolAt_34 : decode cX3_symbolAt 34 = .ok (.imul, 1) := by decide +kernel
theorem dX3_symbolAt_35 : decode cX3_symbolAt 35 = .ok (.iload_n 2, 1) := by decide +kernel
theorem dX3_symbolAt_36 : decode cX3_symbolAt 36 = .ok (.sipush 200, 3) := by decide +kernel
theorem dX3_symbolAt_39 : decode cX3_symbolAt 39 = .ok (.iadd, 1) := by decide +kernel
theorem dX3_symbolAt_40 : decode cX3_symbolAt 40 = .ok (.invokestatic 87, 3) := by decide +kernel
theorem dX3_symbolAt_43 : decode cX3_symbolAt 43 = .ok (.ireturn, 1) := by decide +kernel
set_option maxRecDepth 20000 in
theorem ggX3_findCycle_X3_lastEqualToTheLast : GoodIn wsX3_findCycle wsX3_lastEqualToTheLast := goodIn_r _ [8, 1, 9, 10, 11, 7, 12, 13, 14, 15, 16, 17, 18, 19, 20, 21, 22, 23, 24, 25, 26, 27, 28, 29, 30, 31, 32, 33, 34, 35, 36, 37] (by decide +kernel) (by decide +kernel)
set_option maxRecDepth 20000 in
theorem gX3_findCycle_X3_lastEqualToTheLast : GoodIn wsX3_findCycle (wsV RX3 91 RX3 yX3_lastEqualToTheLast wsX3_lastEqualToTheLast) := goodIn_app (goodIn_of _ (by decide +kernel)) ggX3_findCycle_X3_lastEqualToTheLast
set_option maxRecDepth 20000 in
theorem ggX3_findCycle_X3_areEqual : GoodIn wsX3_findCycle wsX3_areEqual := goodIn_r _ [12, 13, 14, 15, 7, 16, 17, 18, 19, 20, 21, 22, 23, 24, 25, 26, 27, 28, 29, 30, 31, 32, 33, 34, 35, 36, 37] (by decide +kernel) (by decide +kernel)
set_option maxRecDepth 20000 in
theorem gX3_findCycle_X3_areEqual : GoodIn wsX3_findCycle (wsV RX3 95 RX3 yX3_areEqual wsX3_areEqual) := goodIn_app (goodIn_of _ (by decide +kernel)) ggX3_findCycle_X3_areEqual
theorem dX3_findCycle_0 : decode cX3_findCycle 0 = .ok (.aload_n 0, 1) := by decide +kernel
theorem dX3_findCycle_1 : decode cX3_findCycle 1 = .ok (.invokevirtual 91, 3) := by decide +kernel
theorem dX3_findCycle_4 : decode cX3_findCycle 4 = .ok (.istore_n 1, 1) := by decide +kernel
theorem dX3_findCycle_5 : decode cX3_findCycle 5 = .ok (.iload_n 1, 1) := by decide +kernel
theorem dX3_findCycle_6 : decode cX3_findCycle 6 = .ok (.iconst (-1), 1) := by decide +kernel
theorem dX3_findCycle_7 : decode cX3_findCycle 7 = .ok (.if_icmp .ne 5, 3) := by decide +kernel
theorem dX3_findCycle_10 : decode cX3_findCycle 10 = .ok (.iconst 0, 1) := by decide +kernel
theorem dX3_findCycle_11 : decode cX3_findCycle 11 = .ok (.ireturn, 1) := by decide +kernel
theorem dX3_findCycle_12 : decode cX3_findCycle 12 = .ok (.aload_n 0, 1) := by decide +kernel
theorem dX3_findCycle_13 : decode cX3_findCycle 13 = .ok (.getfield 37, 3) := by decide +kernel
theorem dX3_findCycle_16 : decode cX3_findCycle 16 = .ok (.iload_n 1, 1) := by decide +kernel
theorem dX3_findCycle_17 : decode cX3_findCycle 17 = .ok (.isub, 1) := by decide +kernel
theorem dX3_findCycle_18 : decode cX3_findCycle 18 = .ok (.istore_n 2, 1) := by decide +kernel
theorem dX3_findCycle_19 : decode cX3_findCycle 19 = .ok (.iconst 0, 1) := by decide +kernel
theorem dX3_findCycle_20 : decode cX3_findCycle 20 = .ok (.istore_n 3, 1) := by decide +kernel
theorem dX3_findCycle_21 : decode cX3_findCycle 21 = .ok (.iload_n 3, 1) := by decide +kernel
theorem dX3_findCycle_22 : decode cX3_findCycle 22 = .ok (.iload_n 1, 1) := by decide +kernel
theorem dX3_findCycle_23 : decode cX3_findCycle 23 = .ok (.if_icmp .gt 34, 3) := by decide +kernel
theorem dX3_findCycle_26 : decode cX3_findCycle 26 = .ok (.aload_n 0, 1) := by decide +kernel
theorem dX3_findCycle_27 : decode cX3_findCycle 27 = .ok (.iload_n 3, 1) := by decide +kernel
theorem dX3_findCycle_28 : decode cX3_findCycle 28 = .ok (.iload_n 3, 1) := by decide +kernel
theorem dX3_findCycle_29 : decode cX3_findCycle 29 = .ok (.iload_n 2, 1) := by decide +kernel
theorem dX3_findCycle_30 : decode cX3_findCycle 30 = .ok (.iadd, 1) := by decide +kernel
theorem dX3_findCycle_31 : decode cX3_findCycle 31 = .ok (.invokevirtual 95, 3) := by decide +kernel
theorem dX3_findCycle_34 : decode cX3_findCycle 34 = .ok (.ifCond .eq 17, 3) := by decide +kernel
theorem dX3_findCycle_37 : decode cX3_findCycle 37 = .ok (.aload_n 0, 1) := by decide +kernel
theorem dX3_findCycle_38 : decode cX3_findCycle 38 = .ok (.iload_n 3, 1) := by decide +kernel
theorem dX3_findCycle_39 : decode cX3_findCycle 39 = .ok (.putfield 99, 3) := by decide +kernel
theorem dX3_findCycle_42 : decode cX3_findCycle 42 = .ok (.aload_n 0, 1) := by decide +kernel
theorem dX3_findCycle_43 : decode cX3_findCycle 43 = .ok (.iload_n 3, 1) := by decide +kernel
theorem dX3_findCycle_44 : decode cX3_findCycle 44 = .ok (.iload_n 2, 1) := by decide +kernel
theorem dX3_findCycle_45 : decode cX3_findCycle 45 = .ok (.iadd, 1) := by decide +kernel
theorem dX3_findCycle_46 : decode cX3_findCycle 46 = .ok (.putfield 102, 3) := by decide +kernel
theorem dX3_findCycle_49 : decode cX3_findCycle 49 = .ok (.iconst 1, 1) := by decide +kernel
theorem dX3_findCycle_50 : decode cX3_findCycle 50 = .ok (.ireturn, 1) := by decide +kernel
theorem dX3_findCycle_51 : decode cX3_findCycle 51 = .ok (.iinc 3 1, 3) := by decide +kernel
theorem dX3_findCycle_54 : decode cX3_findCycle 54 = .ok (.goto (-33), 3) := by decide +kernel
theorem dX3_findCycle_57 : decode cX3_findCycle 57 = .ok (.iconst 0, 1) := by decide +kernel
theorem dX3_findCycle_58 : decode cX3_findCycle 58 = .ok (.ireturn, 1) := by decide +kernel
set_option maxRecDepth 20000 in
theorem ggX3_lastEqualToTheLast_X3_areEqual : GoodIn wsX3_lastEqualToTheLast wsX3_areEqual := goodIn_r _ [6, 7, 8, 9, 5, 10, 11, 12, 13, 14, 15, 16, 17, 18, 19, 20, 21, 22, 23, 24, 25, 26, 27, 28, 29, 30, 31] (by decide +kernel) (by decide +kernel)
set_option maxRecDepth 20000 in
theorem gX3_lastEqualToTheLast_X3_areEqual : GoodIn wsX3_lastEqualToTheLast (wsV RX3 95 RX3 yX3_areEqual wsX3_areEqual) := goodIn_app (goodIn_of _ (by decide +kernel)) ggX3_lastEqualToTheLast_X3_areEqual
theorem dX3_lastEqualToTheLast_0 : decode cX3_lastEqualToTheLast 0 = .ok (.aload_n 0, 1) := by decide +kernel
theorem dX3_lastEqualToTheLast_1 : decode cX3_lastEqualToTheLast 1 = .ok (.getfield 37, 3) := by decide +kernel
theorem dX3_lastEqualToTheLast_4 : decode cX3_lastEqualToTheLast 4 = .ok (.iconst 1, 1) := by decide +kernel
theorem dX3_lastEqualToTheLast_5 : decode cX3_lastEqualToTheLast 5 = .ok (.isub, 1) := by decide +kernel
theorem dX3_lastEqualToTheLast_6 : decode cX3_lastEqualToTheLast 6 = .ok (.istore_n 1, 1) := by decide +kernel
theorem dX3_lastEqualToTheLast_7 : decode cX3_lastEqualToTheLast 7 = .ok (.iload_n 1, 1) := by decide +kernel
theorem dX3_lastEqualToTheLast_8 : decode cX3_lastEqualToTheLast 8 = .ok (.ifCond .lt 23, 3) := by decide +kernel
theorem dX3_lastEqualToTheLast_11 : decode cX3_lastEqualToTheLast 11 = .ok (.aload_n 0, 1) := by decide +kernel
theorem dX3_lastEqualToTheLast_12 : decode cX3_lastEqualToTheLast 12 = .ok (.iload_n 1, 1) := by decide +kernel
theorem dX3_lastEqualToTheLast_13 : decode cX3_lastEqualToTheLast 13 = .ok (.aload_n 0, 1) := by decide +kernel
theorem dX3_lastEqualToTheLast_14 : decode cX3_lastEqualToTheLast 14 = .ok (.getfield 37, 3) := by decide +kernel
theorem dX3_lastEqualToTheLast_17 : decode cX3_lastEqualToTheLast 17 = .ok (.invokevirtual 95, 3) := by decide +kernel
theorem dX3_lastEqualToTheLast_20 : decode cX3_lastEqualToTheLast 20 = .ok (.ifCond .eq 5, 3) := by decide +kernel
theorem dX3_lastEqualToTheLast_23 : decode cX3_lastEqualToTheLast 23 = .ok (.iload_n 1, 1) := by decide +kernel
theorem dX3_lastEqualToTheLast_24 : decode cX3_lastEqualToTheLast 24 = .ok (.ireturn, 1) := by decide +kernel
theorem dX3_lastEqualToTheLast_25 : decode cX3_lastEqualToTheLast 25 = .ok (.iinc 1 (-1), 3) := by decide +kernel
theorem dX3_lastEqualToTheLast_28 : decode cX3_lastEqualToTheLast 28 = .ok (.goto (-21), 3) := by decide +kernel
theorem dX3_lastEqualToTheLast_31 : decode cX3_lastEqualToTheLast 31 = .ok (.iconst (-1), 1) := by decide +kernel
theorem dX3_lastEqualToTheLast_32 : decode cX3_lastEqualToTheLast 32 = .ok (.ireturn, 1) := by decide +kernel
set_option maxRecDepth 20000 in
theorem ggX3_areEqual_X3_headAt : GoodIn wsX3_areEqual wsX3_headAt := goodIn_r _ [5, 6, 17, 18, 19, 20, 21, 22, 23, 24, 25, 26] (by decide +kernel) (by decide +kernel)
set_option maxRecDepth 20000 in
theorem gX3_areEqual_X3_headAt : GoodIn wsX3_areEqual (wsV RX3 105 RX3 yX3_headAt wsX3_headAt) := goodIn_app (goodIn_of _ (by decide +kernel)) ggX3_areEqual_X3_headAt
set_option maxRecDepth 20000 in
theorem ggX3_areEqual_X3_stateAt : GoodIn wsX3_areEqual wsX3_stateAt := goodIn_r _ [10, 11, 17, 18, 19, 20, 21, 22, 23, 24, 25, 26] (by decide +kernel) (by decide +kernel)
set_option maxRecDepth 20000 in
theorem gX3_areEqual_X3_stateAt : GoodIn wsX3_areEqual (wsV RX3 109 RX3 yX3_stateAt wsX3_stateAt) := goodIn_app (goodIn_of _ (by decide +kernel)) ggX3_areEqual_X3_stateAt
set_option maxRecDepth 20000 in
theorem ggX3_areEqual_X3_haveEqualTapes : GoodIn wsX3_areEqual wsX3_haveEqualTapes := goodIn_r _ [15, 16, 17, 18, 19, 20, 21, 22, 23, 24, 25, 26] (by decide +kernel) (by decide +kernel)
set_option maxRecDepth 20000 in
theorem gX3_areEqual_X3_haveEqualTapes : GoodIn wsX3_areEqual (wsV RX3 112 RX3 yX3_haveEqualTapes wsX3_haveEqualTapes) := goodIn_app (goodIn_of _ (by decide +kernel)) ggX3_areEqual_X3_haveEqualTapes
theorem dX3_areEqual_0 : decode cX3_areEqual 0 = .ok (.aload_n 0, 1) := by decide +kernel
theorem dX3_areEqual_1 : decode cX3_areEqual 1 = .ok (.iload_n 1, 1) := by decide +kernel
theorem dX3_areEqual_2 : decode cX3_areEqual 2 = .ok (.invokevirtual 105, 3) := by decide +kernel
theorem dX3_areEqual_5 : decode cX3_areEqual 5 = .ok (.aload_n 0, 1) := by decide +kernel
theorem dX3_areEqual_6 : decode cX3_areEqual 6 = .ok (.iload_n 2, 1) := by decide +kernel
theorem dX3_areEqual_7 : decode cX3_areEqual 7 = .ok (.invokevirtual 105, 3) := by decide +kernel
theorem dX3_areEqual_10 : decode cX3_areEqual 10 = .ok (.if_icmp .ne 29, 3) := by decide +kernel
theorem dX3_areEqual_13 : decode cX3_areEqual 13 = .ok (.aload_n 0, 1) := by decide +kernel
theorem dX3_areEqual_14 : decode cX3_areEqual 14 = .ok (.iload_n 1, 1) := by decide +kernel
theorem dX3_areEqual_15 : decode cX3_areEqual 15 = .ok (.invokevirtual 109, 3) := by decide +kernel
theorem dX3_areEqual_18 : decode cX3_areEqual 18 = .ok (.aload_n 0, 1) := by decide +kernel
theorem dX3_areEqual_19 : decode cX3_areEqual 19 = .ok (.iload_n 2, 1) := by decide +kernel
theorem dX3_areEqual_20 : decode cX3_areEqual 20 = .ok (.invokevirtual 109, 3) := by decide +kernel
theorem dX3_areEqual_23 : decode cX3_areEqual 23 = .ok (.if_icmp .ne 16, 3) := by decide +kernel
theorem dX3_areEqual_26 : decode cX3_areEqual 26 = .ok (.aload_n 0, 1) := by decide +kernel
theorem dX3_areEqual_27 : decode cX3_areEqual 27 = .ok (.iload_n 1, 1) := by decide +kernel
theorem dX3_areEqual_28 : decode cX3_areEqual 28 = .ok (.iload_n 2, 1) := by decide +kernel
theorem dX3_areEqual_29 : decode cX3_areEqual 29 = .ok (.invokevirtual 112, 3) := by decide +kernel
theorem dX3_areEqual_32 : decode cX3_areEqual 32 = .ok (.ifCond .eq 7, 3) := by decide +kernel
theorem dX3_areEqual_35 : decode cX3_areEqual 35 = .ok (.iconst 1, 1) := by decide +kernel
theorem dX3_areEqual_36 : decode cX3_areEqual 36 = .ok (.goto 4, 3) := by decide +kernel
theorem dX3_areEqual_39 : decode cX3_areEqual 39 = .ok (.iconst 0, 1) := by decide +kernel
theorem dX3_areEqual_40 : decode cX3_areEqual 40 = .ok (.ireturn, 1) := by decide +kernel
theorem dX3_haveEqualTapes_0 : decode cX3_haveEqualTapes 0 = .ok (.iload_n 1, 1) := by decide +kernel
theorem dX3_haveEqualTapes_1 : decode cX3_haveEqualTapes 1 = .ok (.ifCond .lt 21, 3) := by decide +kernel
theorem dX3_haveEqualTapes_4 : decode cX3_haveEqualTapes 4 = .ok (.iload_n 1, 1) := by decide +kernel
theorem dX3_haveEqualTapes_5 : decode cX3_haveEqualTapes 5 = .ok (.sipush 200, 3) := by decide +kernel
theorem dX3_haveEqualTapes_8 : decode cX3_haveEqualTapes 8 = .ok (.if_icmp .gt 14, 3) := by decide +kernel
theorem dX3_haveEqualTapes_11 : decode cX3_haveEqualTapes 11 = .ok (.iload_n 2, 1) := by decide +kernel
theorem dX3_haveEqualTapes_12 : decode cX3_haveEqualTapes 12 = .ok (.ifCond .lt 10, 3) := by decide +kernel
theorem dX3_haveEqualTapes_15 : decode cX3_haveEqualTapes 15 = .ok (.iload_n 2, 1) := by decide +kernel
theorem dX3_haveEqualTapes_16 : decode cX3_haveEqualTapes 16 = .ok (.sipush 200, 3) := by decide +kernel
theorem dX3_haveEqualTapes_19 : decode cX3_haveEqualTapes 19 = .ok (.if_icmp .le 5, 3) := by decide +kernel
theorem dX3_haveEqualTapes_22 : decode cX3_haveEqualTapes 22 = .ok (.iconst 0, 1) := by decide +kernel
theorem dX3_haveEqualTapes_23 : decode cX3_haveEqualTapes 23 = .ok (.ireturn, 1) := by decide +kernel
theorem dX3_haveEqualTapes_24 : decode cX3_haveEqualTapes 24 = .ok (.iconst 0, 1) := by decide +kernel
theorem dX3_haveEqualTapes_25 : decode cX3_haveEqualTapes 25 = .ok (.istore_n 3, 1) := by decide +kernel
theorem dX3_haveEqualTapes_26 : decode cX3_haveEqualTapes 26 = .ok (.iload_n 3, 1) := by decide +kernel
theorem dX3_haveEqualTapes_27 : decode cX3_haveEqualTapes 27 = .ok (.bipush 13, 2) := by decide +kernel
theorem dX3_haveEqualTapes_29 : decode cX3_haveEqualTapes 29 = .ok (.if_icmp .ge 36, 3) := by decide +kernel
theorem dX3_haveEqualTapes_32 : decode cX3_haveEqualTapes 32 = .ok (.aload_n 0, 1) := by decide +kernel
theorem dX3_haveEqualTapes_33 : decode cX3_haveEqualTapes 33 = .ok (.getfield 34, 3) := by decide +kernel
theorem dX3_haveEqualTapes_36 : decode cX3_haveEqualTapes 36 = .ok (.bipush 13, 2) := by decide +kernel
theorem dX3_haveEqualTapes_38 : decode cX3_haveEqualTapes 38 = .ok (.iload_n 1, 1) := by decide +kernel
theorem dX3_haveEqualTapes_39 : decode cX3_haveEqualTapes 39 = .ok (.imul, 1) := by decide +kernel
theorem dX3_haveEqualTapes_40 : decode cX3_haveEqualTapes 40 = .ok (.iload_n 3, 1) := by decide +kernel
theorem dX3_haveEqualTapes_41 : decode cX3_haveEqualTapes 41 = .ok (.iadd, 1) := by decide +kernel
theorem dX3_haveEqualTapes_42 : decode cX3_haveEqualTapes 42 = .ok (.iaload, 1) := by decide +kernel
theorem dX3_haveEqualTapes_43 : decode cX3_haveEqualTapes 43 = .ok (.aload_n 0, 1) := by decide +kernel
theorem dX3_haveEqualTapes_44 : decode cX3_haveEqualTapes 44 = .ok (.getfield 34, 3) := by decide +kernel
theorem dX3_haveEqualTapes_47 : decode cX3_haveEqualTapes 47 = .ok (.bipush 13, 2) := by decide +kernel
theorem dX3_haveEqualTapes_49 : decode cX3_haveEqualTapes 49 = .ok (.iload_n 2, 1) := by decide +kernel
theorem dX3_haveEqualTapes_50 : decode cX3_haveEqualTapes 50 = .ok (.imul, 1) := by decide +kernel
theorem dX3_haveEqualTapes_51 : decode cX3_haveEqualTapes 51 = .ok (.iload_n 3, 1) := by decide +kernel
theorem dX3_haveEqualTapes_52 : decode cX3_haveEqualTapes 52 = .ok (.iadd, 1) := by decide +kernel
theorem dX3_haveEqualTapes_53 : decode cX3_haveEqualTapes 53 = .ok (.iaload, 1) := by decide +kernel
theorem dX3_haveEqualTapes_54 : decode cX3_haveEqualTapes 54 = .ok (.if_icmp .eq 5, 3) := by decide +kernel
theorem dX3_haveEqualTapes_57 : decode cX3_haveEqualTapes 57 = .ok (.iconst 0, 1) := by decide +kernel
theorem dX3_haveEqualTapes_58 : decode cX3_haveEqualTapes 58 = .ok (.ireturn, 1) := by decide +kernel
theorem dX3_haveEqualTapes_59 : decode cX3_haveEqualTapes 59 = .ok (.iinc 3 1, 3) := by decide +kernel
theorem dX3_haveEqualTapes_62 : decode cX3_haveEqualTapes 62 = .ok (.goto (-36), 3) := by decide +kernel
theorem dX3_haveEqualTapes_65 : decode cX3_haveEqualTapes 65 = .ok (.iconst 1, 1) := by decide +kernel
theorem dX3_haveEqualTapes_66 : decode cX3_haveEqualTapes 66 = .ok (.ireturn, 1) := by decide +kernel
set_option maxRecDepth 20000 in
theorem ggX3_findDrift_X3_driftStart : GoodIn wsX3_findDrift wsX3_driftStart := goodIn_r _ [12, 13, 14, 4, 15, 16, 17, 18, 11, 19, 20, 21, 22, 23, 24, 25, 26, 27, 28, 29, 30, 31, 32, 33, 34, 35, 36, 37, 38, 39, 40, 41, 42, 43, 44, 45, 46, 47, 48, 49, 50, 51, 52, 53, 54] (by decide +kernel) (by decide +kernel)
set_option maxRecDepth 20000 in
theorem gX3_findDrift_X3_driftStart : GoodIn wsX3_findDrift (wsV RX3 115 RX3 yX3_driftStart wsX3_driftStart) := goodIn_app (goodIn_of _ (by decide +kernel)) ggX3_findDrift_X3_driftStart
theorem dX3_findDrift_0 : decode cX3_findDrift 0 = .ok (.iconst 1, 1) := by decide +kernel
theorem dX3_findDrift_1 : decode cX3_findDrift 1 = .ok (.istore_n 1, 1) := by decide +kernel
theorem dX3_findDrift_2 : decode cX3_findDrift 2 = .ok (.iload_n 1, 1) := by decide +kernel
theorem dX3_findDrift_3 : decode cX3_findDrift 3 = .ok (.aload_n 0, 1) := by decide +kernel
theorem dX3_findDrift_4 : decode cX3_findDrift 4 = .ok (.getfield 37, 3) := by decide +kernel
theorem dX3_findDrift_7 : decode cX3_findDrift 7 = .ok (.if_icmp .gt 49, 3) := by decide +kernel
theorem dX3_findDrift_10 : decode cX3_findDrift 10 = .ok (.aload_n 0, 1) := by decide +kernel
theorem dX3_findDrift_11 : decode cX3_findDrift 11 = .ok (.iload_n 1, 1) := by decide +kernel
theorem dX3_findDrift_12 : decode cX3_findDrift 12 = .ok (.iconst 1, 1) := by decide +kernel
theorem dX3_findDrift_13 : decode cX3_findDrift 13 = .ok (.invokevirtual 115, 3) := by decide +kernel
theorem dX3_findDrift_16 : decode cX3_findDrift 16 = .ok (.istore_n 2, 1) := by decide +kernel
theorem dX3_findDrift_17 : decode cX3_findDrift 17 = .ok (.aload_n 0, 1) := by decide +kernel
theorem dX3_findDrift_18 : decode cX3_findDrift 18 = .ok (.iload_n 1, 1) := by decide +kernel
theorem dX3_findDrift_19 : decode cX3_findDrift 19 = .ok (.iconst (-1), 1) := by decide +kernel
theorem dX3_findDrift_20 : decode cX3_findDrift 20 = .ok (.invokevirtual 115, 3) := by decide +kernel
theorem dX3_findDrift_23 : decode cX3_findDrift 23 = .ok (.istore_n 3, 1) := by decide +kernel
theorem dX3_findDrift_24 : decode cX3_findDrift 24 = .ok (.iload_n 2, 1) := by decide +kernel
theorem dX3_findDrift_25 : decode cX3_findDrift 25 = .ok (.iconst (-1), 1) := by decide +kernel
theorem dX3_findDrift_26 : decode cX3_findDrift 26 = .ok (.if_icmp .ne 8, 3) := by decide +kernel
theorem dX3_findDrift_29 : decode cX3_findDrift 29 = .ok (.iload_n 3, 1) := by decide +kernel
theorem dX3_findDrift_30 : decode cX3_findDrift 30 = .ok (.iconst (-1), 1) := by decide +kernel
theorem dX3_findDrift_31 : decode cX3_findDrift 31 = .ok (.if_icmp .eq 19, 3) := by decide +kernel
theorem dX3_findDrift_34 : decode cX3_findDrift 34 = .ok (.aload_n 0, 1) := by decide +kernel
theorem dX3_findDrift_35 : decode cX3_findDrift 35 = .ok (.iload_n 2, 1) := by decide +kernel
theorem dX3_findDrift_36 : decode cX3_findDrift 36 = .ok (.iload_n 3, 1) := by decide +kernel
theorem dX3_findDrift_37 : decode cX3_findDrift 37 = .ok (.invokestatic 118, 3) := by decide +kernel
theorem dX3_findDrift_40 : decode cX3_findDrift 40 = .ok (.putfield 99, 3) := by decide +kernel
theorem dX3_findDrift_43 : decode cX3_findDrift 43 = .ok (.aload_n 0, 1) := by decide +kernel
theorem dX3_findDrift_44 : decode cX3_findDrift 44 = .ok (.iload_n 1, 1) := by decide +kernel
theorem dX3_findDrift_45 : decode cX3_findDrift 45 = .ok (.putfield 102, 3) := by decide +kernel
theorem dX3_findDrift_48 : decode cX3_findDrift 48 = .ok (.iconst 1, 1) := by decide +kernel
theorem dX3_findDrift_49 : decode cX3_findDrift 49 = .ok (.ireturn, 1) := by decide +kernel
theorem dX3_findDrift_50 : decode cX3_findDrift 50 = .ok (.iinc 1 1, 3) := by decide +kernel
theorem dX3_findDrift_53 : decode cX3_findDrift 53 = .ok (.goto (-51), 3) := by decide +kernel
theorem dX3_findDrift_56 : decode cX3_findDrift 56 = .ok (.iconst 0, 1) := by decide +kernel
theorem dX3_findDrift_57 : decode cX3_findDrift 57 = .ok (.ireturn, 1) := by decide +kernel
set_option maxRecDepth 20000 in
theorem ggX3_driftStart_X3_isRecord : GoodIn wsX3_driftStart wsX3_isRecord := goodIn_r _ [9, 10, 11, 35, 36, 37, 38, 39, 40, 41, 42, 43, 44] (by decide +kernel) (by decide +kernel)
set_option maxRecDepth 20000 in
theorem gX3_driftStart_X3_isRecord : GoodIn wsX3_driftStart (wsV RX3 121 RX3 yX3_isRecord wsX3_isRecord) := goodIn_app (goodIn_of _ (by decide +kernel)) ggX3_driftStart_X3_isRecord
set_option maxRecDepth 20000 in
theorem ggX3_driftStart_X3_headAt : GoodIn wsX3_driftStart wsX3_headAt := goodIn_r _ [15, 16, 35, 36, 37, 38, 39, 40, 41, 42, 43, 44] (by decide +kernel) (by decide +kernel)
set_option maxRecDepth 20000 in
theorem gX3_driftStart_X3_headAt : GoodIn wsX3_driftStart (wsV RX3 105 RX3 yX3_headAt wsX3_headAt) := goodIn_app (goodIn_of _ (by decide +kernel)) ggX3_driftStart_X3_headAt
set_option maxRecDepth 20000 in
theorem ggX3_driftStart_X3_stateAt : GoodIn wsX3_driftStart wsX3_stateAt := goodIn_r _ [20, 21, 35, 36, 37, 38, 39, 40, 41, 42, 43, 44] (by decide +kernel) (by decide +kernel)
set_option maxRecDepth 20000 in
theorem gX3_driftStart_X3_stateAt : GoodIn wsX3_driftStart (wsV RX3 109 RX3 yX3_stateAt wsX3_stateAt) := goodIn_app (goodIn_of _ (by decide +kernel)) ggX3_driftStart_X3_stateAt
set_option maxRecDepth 20000 in
theorem ggX3_driftStart_X3_isShifted : GoodIn wsX3_driftStart wsX3_isShifted := goodIn_r _ [25, 12, 13, 14, 8, 15, 16, 26, 27, 28, 29, 30, 31, 32, 33, 34, 35, 36, 37, 38, 39, 40, 41, 42, 43, 44] (by decide +kernel) (by decide +kernel)
set_option maxRecDepth 20000 in
theorem gX3_driftStart_X3_isShifted : GoodIn wsX3_driftStart (wsV RX3 124 RX3 yX3_isShifted wsX3_isShifted) := goodIn_app (goodIn_of _ (by decide +kernel)) ggX3_driftStart_X3_isShifted
theorem dX3_driftStart_0 : decode cX3_driftStart 0 = .ok (.aload_n 0, 1) := by decide +kernel
theorem dX3_driftStart_1 : decode cX3_driftStart 1 = .ok (.iload_n 1, 1) := by decide +kernel
theorem dX3_driftStart_2 : decode cX3_driftStart 2 = .ok (.iload_n 2, 1) := by decide +kernel
theorem dX3_driftStart_3 : decode cX3_driftStart 3 = .ok (.invokevirtual 121, 3) := by decide +kernel
theorem dX3_driftStart_6 : decode cX3_driftStart 6 = .ok (.ifCond .ne 5, 3) := by decide +kernel
theorem dX3_driftStart_9 : decode cX3_driftStart 9 = .ok (.iconst (-1), 1) := by decide +kernel
theorem dX3_driftStart_10 : decode cX3_driftStart 10 = .ok (.ireturn, 1) := by decide +kernel
theorem dX3_driftStart_11 : decode cX3_driftStart 11 = .ok (.iload_n 2, 1) := by decide +kernel
theorem dX3_driftStart_12 : decode cX3_driftStart 12 = .ok (.aload_n 0, 1) := by decide +kernel
theorem dX3_driftStart_13 : decode cX3_driftStart 13 = .ok (.iload_n 1, 1) := by decide +kernel
theorem dX3_driftStart_14 : decode cX3_driftStart 14 = .ok (.invokevirtual 105, 3) := by decide +kernel
theorem dX3_driftStart_17 : decode cX3_driftStart 17 = .ok (.imul, 1) := by decide +kernel
theorem dX3_driftStart_18 : decode cX3_driftStart 18 = .ok (.istore_n 3, 1) := by decide +kernel
theorem dX3_driftStart_19 : decode cX3_driftStart 19 = .ok (.iload_n 1, 1) := by decide +kernel
theorem dX3_driftStart_20 : decode cX3_driftStart 20 = .ok (.iconst 1, 1) := by decide +kernel
theorem dX3_driftStart_21 : decode cX3_driftStart 21 = .ok (.isub, 1) := by decide +kernel
theorem dX3_driftStart_22 : decode cX3_driftStart 22 = .ok (.istore 4, 2) := by decide +kernel
theorem dX3_driftStart_24 : decode cX3_driftStart 24 = .ok (.iload 4, 2) := by decide +kernel
theorem dX3_driftStart_26 : decode cX3_driftStart 26 = .ok (.ifCond .lt 61, 3) := by decide +kernel
theorem dX3_driftStart_29 : decode cX3_driftStart 29 = .ok (.iload_n 3, 1) := by decide +kernel
theorem dX3_driftStart_30 : decode cX3_driftStart 30 = .ok (.iload_n 2, 1) := by decide +kernel
theorem dX3_driftStart_31 : decode cX3_driftStart 31 = .ok (.aload_n 0, 1) := by decide +kernel
theorem dX3_driftStart_32 : decode cX3_driftStart 32 = .ok (.iload 4, 2) := by decide +kernel
theorem dX3_driftStart_34 : decode cX3_driftStart 34 = .ok (.invokevirtual 105, 3) := by decide +kernel
theorem dX3_driftStart_37 : decode cX3_driftStart 37 = .ok (.imul, 1) := by decide +kernel
theorem dX3_driftStart_38 : decode cX3_driftStart 38 = .ok (.invokestatic 48, 3) := by decide +kernel
theorem dX3_driftStart_41 : decode cX3_driftStart 41 = .ok (.istore_n 3, 1) := by decide +kernel
theorem dX3_driftStart_42 : decode cX3_driftStart 42 = .ok (.aload_n 0, 1) := by decide +kernel
theorem dX3_driftStart_43 : decode cX3_driftStart 43 = .ok (.iload 4, 2) := by decide +kernel
theorem dX3_driftStart_45 : decode cX3_driftStart 45 = .ok (.iload_n 2, 1) := by decide +kernel
theorem dX3_driftStart_46 : decode cX3_driftStart 46 = .ok (.invokevirtual 121, 3) := by decide +kernel
theorem dX3_driftStart_49 : decode cX3_driftStart 49 = .ok (.ifCond .eq 32, 3) := by decide +kernel
theorem dX3_driftStart_52 : decode cX3_driftStart 52 = .ok (.aload_n 0, 1) := by decide +kernel
theorem dX3_driftStart_53 : decode cX3_driftStart 53 = .ok (.iload 4, 2) := by decide +kernel
theorem dX3_driftStart_55 : decode cX3_driftStart 55 = .ok (.invokevirtual 109, 3) := by decide +kernel
theorem dX3_driftStart_58 : decode cX3_driftStart 58 = .ok (.aload_n 0, 1) := by decide +kernel
theorem dX3_driftStart_59 : decode cX3_driftStart 59 = .ok (.iload_n 1, 1) := by decide +kernel
theorem dX3_driftStart_60 : decode cX3_driftStart 60 = .ok (.invokevirtual 109, 3) := by decide +kernel
theorem dX3_driftStart_63 : decode cX3_driftStart 63 = .ok (.if_icmp .ne 18, 3) := by decide +kernel
theorem dX3_driftStart_66 : decode cX3_driftStart 66 = .ok (.aload_n 0, 1) := by decide +kernel
theorem dX3_driftStart_67 : decode cX3_driftStart 67 = .ok (.iload 4, 2) := by decide +kernel
theorem dX3_driftStart_69 : decode cX3_driftStart 69 = .ok (.iload_n 1, 1) := by decide +kernel
theorem dX3_driftStart_70 : decode cX3_driftStart 70 = .ok (.iload_n 2, 1) := by decide +kernel
theorem dX3_driftStart_71 : decode cX3_driftStart 71 = .ok (.iload_n 3, 1) := by decide +kernel
theorem dX3_driftStart_72 : decode cX3_driftStart 72 = .ok (.invokevirtual 124, 3) := by decide +kernel
theorem dX3_driftStart_75 : decode cX3_driftStart 75 = .ok (.ifCond .eq 6, 3) := by decide +kernel
theorem dX3_driftStart_78 : decode cX3_driftStart 78 = .ok (.iload 4, 2) := by decide +kernel
theorem dX3_driftStart_80 : decode cX3_driftStart 80 = .ok (.ireturn, 1) := by decide +kernel
theorem dX3_driftStart_81 : decode cX3_driftStart 81 = .ok (.iinc 4 (-1), 3) := by decide +kernel
theorem dX3_driftStart_84 : decode cX3_driftStart 84 = .ok (.goto (-60), 3) := by decide +kernel
theorem dX3_driftStart_87 : decode cX3_driftStart 87 = .ok (.iconst (-1), 1) := by decide +kernel
theorem dX3_driftStart_88 : decode cX3_driftStart 88 = .ok (.ireturn, 1) := by decide +kernel
theorem dX3_isRecord_0 : decode cX3_isRecord 0 = .ok (.iload_n 1, 1) := by decide +kernel
theorem dX3_isRecord_1 : decode cX3_isRecord 1 = .ok (.ifCond .lt 10, 3) := by decide +kernel
theorem dX3_isRecord_4 : decode cX3_isRecord 4 = .ok (.iload_n 1, 1) := by decide +kernel
theorem dX3_isRecord_5 : decode cX3_isRecord 5 = .ok (.sipush 200, 3) := by decide +kernel
theorem dX3_isRecord_8 : decode cX3_isRecord 8 = .ok (.if_icmp .le 5, 3) := by decide +kernel
theorem dX3_isRecord_11 : decode cX3_isRecord 11 = .ok (.iconst 0, 1) := by decide +kernel
theorem dX3_isRecord_12 : decode cX3_isRecord 12 = .ok (.ireturn, 1) := by decide +kernel
theorem dX3_isRecord_13 : decode cX3_isRecord 13 = .ok (.iload_n 2, 1) := by decide +kernel
theorem dX3_isRecord_14 : decode cX3_isRecord 14 = .ok (.iconst 1, 1) := by decide +kernel
theorem dX3_isRecord_15 : decode cX3_isRecord 15 = .ok (.if_icmp .ne 12, 3) := by decide +kernel
theorem dX3_isRecord_18 : decode cX3_isRecord 18 = .ok (.aload_n 0, 1) := by decide +kernel
theorem dX3_isRecord_19 : decode cX3_isRecord 19 = .ok (.getfield 27, 3) := by decide +kernel
theorem dX3_isRecord_22 : decode cX3_isRecord 22 = .ok (.iload_n 1, 1) := by decide +kernel
theorem dX3_isRecord_23 : decode cX3_isRecord 23 = .ok (.baload, 1) := by decide +kernel
theorem dX3_isRecord_24 : decode cX3_isRecord 24 = .ok (.goto 9, 3) := by decide +kernel
theorem dX3_isRecord_27 : decode cX3_isRecord 27 = .ok (.aload_n 0, 1) := by decide +kernel
theorem dX3_isRecord_28 : decode cX3_isRecord 28 = .ok (.getfield 31, 3) := by decide +kernel
theorem dX3_isRecord_31 : decode cX3_isRecord 31 = .ok (.iload_n 1, 1) := by decide +kernel
theorem dX3_isRecord_32 : decode cX3_isRecord 32 = .ok (.baload, 1) := by decide +kernel
theorem dX3_isRecord_33 : decode cX3_isRecord 33 = .ok (.ireturn, 1) := by decide +kernel
set_option maxRecDepth 20000 in
theorem ggX3_isShifted_X3_headAt : GoodIn wsX3_isShifted wsX3_headAt := goodIn_r _ [5, 6, 16, 17, 18, 19, 20, 21, 22, 23, 24, 25] (by decide +kernel) (by decide +kernel)
set_option maxRecDepth 20000 in
theorem gX3_isShifted_X3_headAt : GoodIn wsX3_isShifted (wsV RX3 105 RX3 yX3_headAt wsX3_headAt) := goodIn_app (goodIn_of _ (by decide +kernel)) ggX3_isShifted_X3_headAt
set_option maxRecDepth 20000 in
theorem ggX3_isShifted_X3_symbolAt : GoodIn wsX3_isShifted wsX3_symbolAt := goodIn_r _ [10, 11, 12, 13, 14, 15, 16, 17, 18, 19, 20, 21, 22, 23, 24, 25] (by decide +kernel) (by decide +kernel)
set_option maxRecDepth 20000 in
theorem gX3_isShifted_X3_symbolAt : GoodIn wsX3_isShifted (wsV RX3 128 RX3 yX3_symbolAt wsX3_symbolAt) := goodIn_app (goodIn_of _ (by decide +kernel)) ggX3_isShifted_X3_symbolAt
theorem dX3_isShifted_0 : decode cX3_isShifted 0 = .ok (.aload_n 0, 1) := by decide +kernel
theorem dX3_isShifted_1 : decode cX3_isShifted 1 = .ok (.iload_n 2, 1) := by decide +kernel
theorem dX3_isShifted_2 : decode cX3_isShifted 2 = .ok (.invokevirtual 105, 3) := by decide +kernel
theorem dX3_isShifted_5 : decode cX3_isShifted 5 = .ok (.aload_n 0, 1) := by decide +kernel
theorem dX3_isShifted_6 : decode cX3_isShifted 6 = .ok (.iload_n 1, 1) := by decide +kernel
theorem dX3_isShifted_7 : decode cX3_isShifted 7 = .ok (.invokevirtual 105, 3) := by decide +kernel
theorem dX3_isShifted_10 : decode cX3_isShifted 10 = .ok (.isub, 1) := by decide +kernel
theorem dX3_isShifted_11 : decode cX3_isShifted 11 = .ok (.istore 5, 2) := by decide +kernel
theorem dX3_isShifted_13 : decode cX3_isShifted 13 = .ok (.iload_n 3, 1) := by decide +kernel
theorem dX3_isShifted_14 : decode cX3_isShifted 14 = .ok (.aload_n 0, 1) := by decide +kernel
theorem dX3_isShifted_15 : decode cX3_isShifted 15 = .ok (.iload_n 1, 1) := by decide +kernel
theorem dX3_isShifted_16 : decode cX3_isShifted 16 = .ok (.invokevirtual 105, 3) := by decide +kernel
theorem dX3_isShifted_19 : decode cX3_isShifted 19 = .ok (.imul, 1) := by decide +kernel
theorem dX3_isShifted_20 : decode cX3_isShifted 20 = .ok (.istore 6, 2) := by decide +kernel
theorem dX3_isShifted_22 : decode cX3_isShifted 22 = .ok (.iload 6, 2) := by decide +kernel
theorem dX3_isShifted_24 : decode cX3_isShifted 24 = .ok (.iload 4, 2) := by decide +kernel
theorem dX3_isShifted_26 : decode cX3_isShifted 26 = .ok (.if_icmp .lt 37, 3) := by decide +kernel
theorem dX3_isShifted_29 : decode cX3_isShifted 29 = .ok (.iload_n 3, 1) := by decide +kernel
theorem dX3_isShifted_30 : decode cX3_isShifted 30 = .ok (.iload 6, 2) := by decide +kernel
theorem dX3_isShifted_32 : decode cX3_isShifted 32 = .ok (.imul, 1) := by decide +kernel
theorem dX3_isShifted_33 : decode cX3_isShifted 33 = .ok (.istore 7, 2) := by decide +kernel
theorem dX3_isShifted_35 : decode cX3_isShifted 35 = .ok (.aload_n 0, 1) := by decide +kernel
theorem dX3_isShifted_36 : decode cX3_isShifted 36 = .ok (.iload_n 1, 1) := by decide +kernel
theorem dX3_isShifted_37 : decode cX3_isShifted 37 = .ok (.iload 7, 2) := by decide +kernel
theorem dX3_isShifted_39 : decode cX3_isShifted 39 = .ok (.invokevirtual 128, 3) := by decide +kernel
theorem dX3_isShifted_42 : decode cX3_isShifted 42 = .ok (.aload_n 0, 1) := by decide +kernel
theorem dX3_isShifted_43 : decode cX3_isShifted 43 = .ok (.iload_n 2, 1) := by decide +kernel
theorem dX3_isShifted_44 : decode cX3_isShifted 44 = .ok (.iload 7, 2) := by decide +kernel
theorem dX3_isShifted_46 : decode cX3_isShifted 46 = .ok (.iload 5, 2) := by decide +kernel
theorem dX3_isShifted_48 : decode cX3_isShifted 48 = .ok (.iadd, 1) := by decide +kernel
theorem dX3_isShifted_49 : decode cX3_isShifted 49 = .ok (.invokevirtual 128, 3) := by decide +kernel
theorem dX3_isShifted_52 : decode cX3_isShifted 52 = .ok (.if_icmp .eq 5, 3) := by decide +kernel
theorem dX3_isShifted_55 : decode cX3_isShifted 55 = .ok (.iconst 0, 1) := by decide +kernel
theorem dX3_isShifted_56 : decode cX3_isShifted 56 = .ok (.ireturn, 1) := by decide +kernel
theorem dX3_isShifted_57 : decode cX3_isShifted 57 = .ok (.iinc 6 (-1), 3) := by decide +kernel
theorem dX3_isShifted_60 : decode cX3_isShifted 60 = .ok (.goto (-38), 3) := by decide +kernel
theorem dX3_isShifted_63 : decode cX3_isShifted 63 = .ok (.iconst 1, 1) := by decide +kernel
theorem dX3_isShifted_64 : decode cX3_isShifted 64 = .ok (.ireturn, 1) := by decide +kernel
