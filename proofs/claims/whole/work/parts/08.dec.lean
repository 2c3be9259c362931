set_option maxRecDepth 20000 in
theorem ggX9_driftOffset_X9_simulate : GoodIn wsX9_driftOffset wsX9_simulate := goodIn_r _ [12, 13, 14, 15, 16, 17, 18, 19, 20, 4, 21, 22, 23, 24, 25, 26, 27, 28, 29, 30, 31, 32, 33, 51, 52, 53, 54, 55, 56, 57, 58, 59, 60, 61, 62, 63, 64, 65, 66, 67, 68, 69, 70, 71, 72, 73, 74, 75, 76, 77, 78, 79, 80] (by decide +kernel) (by decide +kernel)
set_option maxRecDepth 20000 in
theorem gX9_driftOffset_X9_simulate : GoodIn wsX9_driftOffset (wsV RX9 131 RX9 yX9_simulate wsX9_simulate) := goodIn_app (goodIn_of _ (by decide +kernel)) ggX9_driftOffset_X9_simulate
set_option maxRecDepth 20000 in
theorem ggX9_driftOffset_X9_findDrift : GoodIn wsX9_driftOffset wsX9_findDrift := goodIn_r _ [37, 38, 1, 17, 39, 40, 41, 4, 42, 14, 43, 44, 45, 46, 47, 48, 49, 50, 15, 23, 24, 25, 26, 13, 51, 52, 53, 54, 55, 56, 57, 58, 59, 60, 61, 62, 63, 64, 65, 66, 67, 68, 69, 70, 71, 72, 73, 74, 75, 76, 77, 78, 79, 80] (by decide +kernel) (by decide +kernel)
set_option maxRecDepth 20000 in
theorem gX9_driftOffset_X9_findDrift : GoodIn wsX9_driftOffset (wsV RX9 163 RX9 yX9_findDrift wsX9_findDrift) := goodIn_app (goodIn_of _ (by decide +kernel)) ggX9_driftOffset_X9_findDrift
theorem dX9_driftOffset_0 : decode cX9_driftOffset 0 = .ok (.iload_n 1, 1) := by decide +kernel
theorem dX9_driftOffset_1 : decode cX9_driftOffset 1 = .ok (.invokestatic 128, 3) := by decide +kernel
theorem dX9_driftOffset_4 : decode cX9_driftOffset 4 = .ok (.ifCond .ne 7, 3) := by decide +kernel
theorem dX9_driftOffset_7 : decode cX9_driftOffset 7 = .ok (.sipush (-1002), 3) := by decide +kernel
theorem dX9_driftOffset_10 : decode cX9_driftOffset 10 = .ok (.ireturn, 1) := by decide +kernel
theorem dX9_driftOffset_11 : decode cX9_driftOffset 11 = .ok (.aload_n 0, 1) := by decide +kernel
theorem dX9_driftOffset_12 : decode cX9_driftOffset 12 = .ok (.iload_n 1, 1) := by decide +kernel
theorem dX9_driftOffset_13 : decode cX9_driftOffset 13 = .ok (.invokevirtual 131, 3) := by decide +kernel
theorem dX9_driftOffset_16 : decode cX9_driftOffset 16 = .ok (.aload_n 0, 1) := by decide +kernel
theorem dX9_driftOffset_17 : decode cX9_driftOffset 17 = .ok (.invokevirtual 163, 3) := by decide +kernel
theorem dX9_driftOffset_20 : decode cX9_driftOffset 20 = .ok (.aload_n 0, 1) := by decide +kernel
theorem dX9_driftOffset_21 : decode cX9_driftOffset 21 = .ok (.getfield 156, 3) := by decide +kernel
theorem dX9_driftOffset_24 : decode cX9_driftOffset 24 = .ok (.ireturn, 1) := by decide +kernel
theorem dX9_addBefore_0 : decode cX9_addBefore 0 = .ok (.aload_n 0, 1) := by decide +kernel
theorem dX9_addBefore_1 : decode cX9_addBefore 1 = .ok (.getfield 166, 3) := by decide +kernel
theorem dX9_addBefore_4 : decode cX9_addBefore 4 = .ok (.sipush 300, 3) := by decide +kernel
theorem dX9_addBefore_7 : decode cX9_addBefore 7 = .ok (.if_icmp .gt 58, 3) := by decide +kernel
theorem dX9_addBefore_10 : decode cX9_addBefore 10 = .ok (.aload_n 0, 1) := by decide +kernel
theorem dX9_addBefore_11 : decode cX9_addBefore 11 = .ok (.getfield 49, 3) := by decide +kernel
theorem dX9_addBefore_14 : decode cX9_addBefore 14 = .ok (.iconst 4, 1) := by decide +kernel
theorem dX9_addBefore_15 : decode cX9_addBefore 15 = .ok (.aload_n 0, 1) := by decide +kernel
theorem dX9_addBefore_16 : decode cX9_addBefore 16 = .ok (.getfield 166, 3) := by decide +kernel
theorem dX9_addBefore_19 : decode cX9_addBefore 19 = .ok (.imul, 1) := by decide +kernel
theorem dX9_addBefore_20 : decode cX9_addBefore 20 = .ok (.iload_n 1, 1) := by decide +kernel
theorem dX9_addBefore_21 : decode cX9_addBefore 21 = .ok (.iastore, 1) := by decide +kernel
theorem dX9_addBefore_22 : decode cX9_addBefore 22 = .ok (.aload_n 0, 1) := by decide +kernel
theorem dX9_addBefore_23 : decode cX9_addBefore 23 = .ok (.getfield 49, 3) := by decide +kernel
theorem dX9_addBefore_26 : decode cX9_addBefore 26 = .ok (.iconst 4, 1) := by decide +kernel
theorem dX9_addBefore_27 : decode cX9_addBefore 27 = .ok (.aload_n 0, 1) := by decide +kernel
theorem dX9_addBefore_28 : decode cX9_addBefore 28 = .ok (.getfield 166, 3) := by decide +kernel
theorem dX9_addBefore_31 : decode cX9_addBefore 31 = .ok (.imul, 1) := by decide +kernel
theorem dX9_addBefore_32 : decode cX9_addBefore 32 = .ok (.iconst 1, 1) := by decide +kernel
theorem dX9_addBefore_33 : decode cX9_addBefore 33 = .ok (.iadd, 1) := by decide +kernel
theorem dX9_addBefore_34 : decode cX9_addBefore 34 = .ok (.iload_n 2, 1) := by decide +kernel
theorem dX9_addBefore_35 : decode cX9_addBefore 35 = .ok (.iastore, 1) := by decide +kernel
theorem dX9_addBefore_36 : decode cX9_addBefore 36 = .ok (.aload_n 0, 1) := by decide +kernel
theorem dX9_addBefore_37 : decode cX9_addBefore 37 = .ok (.getfield 49, 3) := by decide +kernel
theorem dX9_addBefore_40 : decode cX9_addBefore 40 = .ok (.iconst 4, 1) := by decide +kernel
theorem dX9_addBefore_41 : decode cX9_addBefore 41 = .ok (.aload_n 0, 1) := by decide +kernel
theorem dX9_addBefore_42 : decode cX9_addBefore 42 = .ok (.getfield 166, 3) := by decide +kernel
theorem dX9_addBefore_45 : decode cX9_addBefore 45 = .ok (.imul, 1) := by decide +kernel
theorem dX9_addBefore_46 : decode cX9_addBefore 46 = .ok (.iconst 2, 1) := by decide +kernel
theorem dX9_addBefore_47 : decode cX9_addBefore 47 = .ok (.iadd, 1) := by decide +kernel
theorem dX9_addBefore_48 : decode cX9_addBefore 48 = .ok (.iload_n 3, 1) := by decide +kernel
theorem dX9_addBefore_49 : decode cX9_addBefore 49 = .ok (.iastore, 1) := by decide +kernel
theorem dX9_addBefore_50 : decode cX9_addBefore 50 = .ok (.aload_n 0, 1) := by decide +kernel
theorem dX9_addBefore_51 : decode cX9_addBefore 51 = .ok (.getfield 49, 3) := by decide +kernel
theorem dX9_addBefore_54 : decode cX9_addBefore 54 = .ok (.iconst 4, 1) := by decide +kernel
theorem dX9_addBefore_55 : decode cX9_addBefore 55 = .ok (.aload_n 0, 1) := by decide +kernel
theorem dX9_addBefore_56 : decode cX9_addBefore 56 = .ok (.getfield 166, 3) := by decide +kernel
theorem dX9_addBefore_59 : decode cX9_addBefore 59 = .ok (.imul, 1) := by decide +kernel
theorem dX9_addBefore_60 : decode cX9_addBefore 60 = .ok (.iconst 3, 1) := by decide +kernel
theorem dX9_addBefore_61 : decode cX9_addBefore 61 = .ok (.iadd, 1) := by decide +kernel
theorem dX9_addBefore_62 : decode cX9_addBefore 62 = .ok (.iload 4, 2) := by decide +kernel
theorem dX9_addBefore_64 : decode cX9_addBefore 64 = .ok (.iastore, 1) := by decide +kernel
theorem dX9_addBefore_65 : decode cX9_addBefore 65 = .ok (.aload_n 0, 1) := by decide +kernel
theorem dX9_addBefore_66 : decode cX9_addBefore 66 = .ok (.dup, 1) := by decide +kernel
theorem dX9_addBefore_67 : decode cX9_addBefore 67 = .ok (.getfield 166, 3) := by decide +kernel
theorem dX9_addBefore_70 : decode cX9_addBefore 70 = .ok (.iconst 1, 1) := by decide +kernel
theorem dX9_addBefore_71 : decode cX9_addBefore 71 = .ok (.iadd, 1) := by decide +kernel
theorem dX9_addBefore_72 : decode cX9_addBefore 72 = .ok (.putfield 166, 3) := by decide +kernel
theorem dX9_addBefore_75 : decode cX9_addBefore 75 = .ok (.return_, 1) := by decide +kernel
theorem dX9_takeBefore_0 : decode cX9_takeBefore 0 = .ok (.aload_n 0, 1) := by decide +kernel
theorem dX9_takeBefore_1 : decode cX9_takeBefore 1 = .ok (.aload_n 0, 1) := by decide +kernel
theorem dX9_takeBefore_2 : decode cX9_takeBefore 2 = .ok (.getfield 166, 3) := by decide +kernel
theorem dX9_takeBefore_5 : decode cX9_takeBefore 5 = .ok (.putfield 169, 3) := by decide +kernel
theorem dX9_takeBefore_8 : decode cX9_takeBefore 8 = .ok (.iconst 0, 1) := by decide +kernel
theorem dX9_takeBefore_9 : decode cX9_takeBefore 9 = .ok (.istore_n 1, 1) := by decide +kernel
theorem dX9_takeBefore_10 : decode cX9_takeBefore 10 = .ok (.iload_n 1, 1) := by decide +kernel
theorem dX9_takeBefore_11 : decode cX9_takeBefore 11 = .ok (.aload_n 0, 1) := by decide +kernel
theorem dX9_takeBefore_12 : decode cX9_takeBefore 12 = .ok (.getfield 46, 3) := by decide +kernel
theorem dX9_takeBefore_15 : decode cX9_takeBefore 15 = .ok (.arraylength, 1) := by decide +kernel
theorem dX9_takeBefore_16 : decode cX9_takeBefore 16 = .ok (.if_icmp .ge 21, 3) := by decide +kernel
theorem dX9_takeBefore_19 : decode cX9_takeBefore 19 = .ok (.aload_n 0, 1) := by decide +kernel
theorem dX9_takeBefore_20 : decode cX9_takeBefore 20 = .ok (.getfield 46, 3) := by decide +kernel
theorem dX9_takeBefore_23 : decode cX9_takeBefore 23 = .ok (.iload_n 1, 1) := by decide +kernel
theorem dX9_takeBefore_24 : decode cX9_takeBefore 24 = .ok (.aload_n 0, 1) := by decide +kernel
theorem dX9_takeBefore_25 : decode cX9_takeBefore 25 = .ok (.getfield 49, 3) := by decide +kernel
theorem dX9_takeBefore_28 : decode cX9_takeBefore 28 = .ok (.iload_n 1, 1) := by decide +kernel
theorem dX9_takeBefore_29 : decode cX9_takeBefore 29 = .ok (.iaload, 1) := by decide +kernel
theorem dX9_takeBefore_30 : decode cX9_takeBefore 30 = .ok (.iastore, 1) := by decide +kernel
theorem dX9_takeBefore_31 : decode cX9_takeBefore 31 = .ok (.iinc 1 1, 3) := by decide +kernel
theorem dX9_takeBefore_34 : decode cX9_takeBefore 34 = .ok (.goto (-24), 3) := by decide +kernel
theorem dX9_takeBefore_37 : decode cX9_takeBefore 37 = .ok (.return_, 1) := by decide +kernel
set_option maxRecDepth 20000 in
theorem ggX9_layHalting_X9_addBefore : GoodIn wsX9_layHalting wsX9_addBefore := goodIn_r _ [9, 1, 10, 17, 18, 19, 20, 21, 22, 23, 24, 25, 26, 27, 28, 29, 30, 31, 32, 33, 34, 35, 36, 37, 38, 39, 40, 41, 42, 43, 44, 45, 46] (by decide +kernel) (by decide +kernel)
set_option maxRecDepth 20000 in
theorem gX9_layHalting_X9_addBefore : GoodIn wsX9_layHalting (wsV RX9 172 RX9 yX9_addBefore wsX9_addBefore) := goodIn_app (goodIn_of _ (by decide +kernel)) ggX9_layHalting_X9_addBefore
set_option maxRecDepth 20000 in
theorem ggX9_layHalting_X9_takeBefore : GoodIn wsX9_layHalting wsX9_takeBefore := goodIn_r _ [14, 1, 15, 16, 10, 17, 18, 19, 20, 21, 22, 23, 24, 25, 26, 27, 28, 29, 30, 31, 32, 33, 34, 35, 36, 37, 38, 39, 40, 41, 42, 43, 44, 45, 46] (by decide +kernel) (by decide +kernel)
set_option maxRecDepth 20000 in
theorem gX9_layHalting_X9_takeBefore : GoodIn wsX9_layHalting (wsV RX9 175 RX9 yX9_takeBefore wsX9_takeBefore) := goodIn_app (goodIn_of _ (by decide +kernel)) ggX9_layHalting_X9_takeBefore
theorem dX9_layHalting_0 : decode cX9_layHalting 0 = .ok (.aload_n 0, 1) := by decide +kernel
theorem dX9_layHalting_1 : decode cX9_layHalting 1 = .ok (.iconst 0, 1) := by decide +kernel
theorem dX9_layHalting_2 : decode cX9_layHalting 2 = .ok (.putfield 166, 3) := by decide +kernel
theorem dX9_layHalting_5 : decode cX9_layHalting 5 = .ok (.iconst 0, 1) := by decide +kernel
theorem dX9_layHalting_6 : decode cX9_layHalting 6 = .ok (.istore_n 1, 1) := by decide +kernel
theorem dX9_layHalting_7 : decode cX9_layHalting 7 = .ok (.iload_n 1, 1) := by decide +kernel
theorem dX9_layHalting_8 : decode cX9_layHalting 8 = .ok (.iconst 2, 1) := by decide +kernel
theorem dX9_layHalting_9 : decode cX9_layHalting 9 = .ok (.aload_n 0, 1) := by decide +kernel
theorem dX9_layHalting_10 : decode cX9_layHalting 10 = .ok (.getfield 7, 3) := by decide +kernel
theorem dX9_layHalting_13 : decode cX9_layHalting 13 = .ok (.imul, 1) := by decide +kernel
theorem dX9_layHalting_14 : decode cX9_layHalting 14 = .ok (.if_icmp .ge 47, 3) := by decide +kernel
theorem dX9_layHalting_17 : decode cX9_layHalting 17 = .ok (.aload_n 0, 1) := by decide +kernel
theorem dX9_layHalting_18 : decode cX9_layHalting 18 = .ok (.getfield 13, 3) := by decide +kernel
theorem dX9_layHalting_21 : decode cX9_layHalting 21 = .ok (.iload_n 1, 1) := by decide +kernel
theorem dX9_layHalting_22 : decode cX9_layHalting 22 = .ok (.baload, 1) := by decide +kernel
theorem dX9_layHalting_23 : decode cX9_layHalting 23 = .ok (.ifCond .eq 14, 3) := by decide +kernel
theorem dX9_layHalting_26 : decode cX9_layHalting 26 = .ok (.aload_n 0, 1) := by decide +kernel
theorem dX9_layHalting_27 : decode cX9_layHalting 27 = .ok (.getfield 24, 3) := by decide +kernel
theorem dX9_layHalting_30 : decode cX9_layHalting 30 = .ok (.iload_n 1, 1) := by decide +kernel
theorem dX9_layHalting_31 : decode cX9_layHalting 31 = .ok (.iaload, 1) := by decide +kernel
theorem dX9_layHalting_32 : decode cX9_layHalting 32 = .ok (.bipush 9, 2) := by decide +kernel
theorem dX9_layHalting_34 : decode cX9_layHalting 34 = .ok (.if_icmp .ne 21, 3) := by decide +kernel
theorem dX9_layHalting_37 : decode cX9_layHalting 37 = .ok (.aload_n 0, 1) := by decide +kernel
theorem dX9_layHalting_38 : decode cX9_layHalting 38 = .ok (.iload_n 1, 1) := by decide +kernel
theorem dX9_layHalting_39 : decode cX9_layHalting 39 = .ok (.iconst 2, 1) := by decide +kernel
theorem dX9_layHalting_40 : decode cX9_layHalting 40 = .ok (.idiv, 1) := by decide +kernel
theorem dX9_layHalting_41 : decode cX9_layHalting 41 = .ok (.bipush 10, 2) := by decide +kernel
theorem dX9_layHalting_43 : decode cX9_layHalting 43 = .ok (.sipush 1024, 3) := by decide +kernel
theorem dX9_layHalting_46 : decode cX9_layHalting 46 = .ok (.iload_n 1, 1) := by decide +kernel
theorem dX9_layHalting_47 : decode cX9_layHalting 47 = .ok (.iconst 2, 1) := by decide +kernel
theorem dX9_layHalting_48 : decode cX9_layHalting 48 = .ok (.irem, 1) := by decide +kernel
theorem dX9_layHalting_49 : decode cX9_layHalting 49 = .ok (.bipush 10, 2) := by decide +kernel
theorem dX9_layHalting_51 : decode cX9_layHalting 51 = .ok (.ishl, 1) := by decide +kernel
theorem dX9_layHalting_52 : decode cX9_layHalting 52 = .ok (.invokevirtual 172, 3) := by decide +kernel
theorem dX9_layHalting_55 : decode cX9_layHalting 55 = .ok (.iinc 1 1, 3) := by decide +kernel
theorem dX9_layHalting_58 : decode cX9_layHalting 58 = .ok (.goto (-51), 3) := by decide +kernel
theorem dX9_layHalting_61 : decode cX9_layHalting 61 = .ok (.aload_n 0, 1) := by decide +kernel
theorem dX9_layHalting_62 : decode cX9_layHalting 62 = .ok (.invokevirtual 175, 3) := by decide +kernel
theorem dX9_layHalting_65 : decode cX9_layHalting 65 = .ok (.return_, 1) := by decide +kernel
set_option maxRecDepth 20000 in
theorem ggX9_addPredecessor_X9_addBefore : GoodIn wsX9_addPredecessor wsX9_addBefore := goodIn_r _ [8, 9, 10, 11, 12, 13, 14, 15, 16, 17, 18, 19, 20, 21, 22, 23, 24, 25, 26, 27, 28, 29, 30, 31, 32, 33, 34, 35, 36, 37, 38, 39, 40] (by decide +kernel) (by decide +kernel)
set_option maxRecDepth 20000 in
theorem gX9_addPredecessor_X9_addBefore : GoodIn wsX9_addPredecessor (wsV RX9 172 RX9 yX9_addBefore wsX9_addBefore) := goodIn_app (goodIn_of _ (by decide +kernel)) ggX9_addPredecessor_X9_addBefore
theorem dX9_addPredecessor_0 : decode cX9_addPredecessor 0 = .ok (.aload_n 0, 1) := by decide +kernel
theorem dX9_addPredecessor_1 : decode cX9_addPredecessor 1 = .ok (.getfield 46, 3) := by decide +kernel
theorem dX9_addPredecessor_4 : decode cX9_addPredecessor 4 = .ok (.iload_n 1, 1) := by decide +kernel
theorem dX9_addPredecessor_5 : decode cX9_addPredecessor 5 = .ok (.iconst 1, 1) := by decide +kernel
theorem dX9_addPredecessor_6 : decode cX9_addPredecessor 6 = .ok (.iadd, 1) := by decide +kernel
theorem dX9_addPredecessor_7 : decode cX9_addPredecessor 7 = .ok (.iaload, 1) := by decide +kernel
theorem dX9_addPredecessor_8 : decode cX9_addPredecessor 8 = .ok (.aload_n 0, 1) := by decide +kernel
theorem dX9_addPredecessor_9 : decode cX9_addPredecessor 9 = .ok (.getfield 21, 3) := by decide +kernel
theorem dX9_addPredecessor_12 : decode cX9_addPredecessor 12 = .ok (.iload_n 2, 1) := by decide +kernel
theorem dX9_addPredecessor_13 : decode cX9_addPredecessor 13 = .ok (.iaload, 1) := by decide +kernel
theorem dX9_addPredecessor_14 : decode cX9_addPredecessor 14 = .ok (.iconst 1, 1) := by decide +kernel
theorem dX9_addPredecessor_15 : decode cX9_addPredecessor 15 = .ok (.if_icmp .ne 7, 3) := by decide +kernel
theorem dX9_addPredecessor_18 : decode cX9_addPredecessor 18 = .ok (.iconst (-1), 1) := by decide +kernel
theorem dX9_addPredecessor_19 : decode cX9_addPredecessor 19 = .ok (.goto 4, 3) := by decide +kernel
theorem dX9_addPredecessor_22 : decode cX9_addPredecessor 22 = .ok (.iconst 1, 1) := by decide +kernel
theorem dX9_addPredecessor_23 : decode cX9_addPredecessor 23 = .ok (.iadd, 1) := by decide +kernel
theorem dX9_addPredecessor_24 : decode cX9_addPredecessor 24 = .ok (.istore_n 3, 1) := by decide +kernel
theorem dX9_addPredecessor_25 : decode cX9_addPredecessor 25 = .ok (.aload_n 0, 1) := by decide +kernel
theorem dX9_addPredecessor_26 : decode cX9_addPredecessor 26 = .ok (.getfield 46, 3) := by decide +kernel
theorem dX9_addPredecessor_29 : decode cX9_addPredecessor 29 = .ok (.iload_n 1, 1) := by decide +kernel
theorem dX9_addPredecessor_30 : decode cX9_addPredecessor 30 = .ok (.iconst 2, 1) := by decide +kernel
theorem dX9_addPredecessor_31 : decode cX9_addPredecessor 31 = .ok (.iadd, 1) := by decide +kernel
theorem dX9_addPredecessor_32 : decode cX9_addPredecessor 32 = .ok (.iaload, 1) := by decide +kernel
theorem dX9_addPredecessor_33 : decode cX9_addPredecessor 33 = .ok (.iload_n 3, 1) := by decide +kernel
theorem dX9_addPredecessor_34 : decode cX9_addPredecessor 34 = .ok (.ishr, 1) := by decide +kernel
theorem dX9_addPredecessor_35 : decode cX9_addPredecessor 35 = .ok (.iconst 1, 1) := by decide +kernel
theorem dX9_addPredecessor_36 : decode cX9_addPredecessor 36 = .ok (.iand, 1) := by decide +kernel
theorem dX9_addPredecessor_37 : decode cX9_addPredecessor 37 = .ok (.iconst 1, 1) := by decide +kernel
theorem dX9_addPredecessor_38 : decode cX9_addPredecessor 38 = .ok (.if_icmp .ne 7, 3) := by decide +kernel
theorem dX9_addPredecessor_41 : decode cX9_addPredecessor 41 = .ok (.iconst 1, 1) := by decide +kernel
theorem dX9_addPredecessor_42 : decode cX9_addPredecessor 42 = .ok (.goto 4, 3) := by decide +kernel
theorem dX9_addPredecessor_45 : decode cX9_addPredecessor 45 = .ok (.iconst 0, 1) := by decide +kernel
theorem dX9_addPredecessor_46 : decode cX9_addPredecessor 46 = .ok (.istore 4, 2) := by decide +kernel
theorem dX9_addPredecessor_48 : decode cX9_addPredecessor 48 = .ok (.iload 4, 2) := by decide +kernel
theorem dX9_addPredecessor_50 : decode cX9_addPredecessor 50 = .ok (.ifCond .eq 24, 3) := by decide +kernel
theorem dX9_addPredecessor_53 : decode cX9_addPredecessor 53 = .ok (.aload_n 0, 1) := by decide +kernel
theorem dX9_addPredecessor_54 : decode cX9_addPredecessor 54 = .ok (.getfield 46, 3) := by decide +kernel
theorem dX9_addPredecessor_57 : decode cX9_addPredecessor 57 = .ok (.iload_n 1, 1) := by decide +kernel
theorem dX9_addPredecessor_58 : decode cX9_addPredecessor 58 = .ok (.iconst 3, 1) := by decide +kernel
theorem dX9_addPredecessor_59 : decode cX9_addPredecessor 59 = .ok (.iadd, 1) := by decide +kernel
theorem dX9_addPredecessor_60 : decode cX9_addPredecessor 60 = .ok (.iaload, 1) := by decide +kernel
theorem dX9_addPredecessor_61 : decode cX9_addPredecessor 61 = .ok (.iload_n 3, 1) := by decide +kernel
theorem dX9_addPredecessor_62 : decode cX9_addPredecessor 62 = .ok (.ishr, 1) := by decide +kernel
theorem dX9_addPredecessor_63 : decode cX9_addPredecessor 63 = .ok (.iconst 1, 1) := by decide +kernel
theorem dX9_addPredecessor_64 : decode cX9_addPredecessor 64 = .ok (.iand, 1) := by decide +kernel
theorem dX9_addPredecessor_65 : decode cX9_addPredecessor 65 = .ok (.aload_n 0, 1) := by decide +kernel
theorem dX9_addPredecessor_66 : decode cX9_addPredecessor 66 = .ok (.getfield 17, 3) := by decide +kernel
theorem dX9_addPredecessor_69 : decode cX9_addPredecessor 69 = .ok (.iload_n 2, 1) := by decide +kernel
theorem dX9_addPredecessor_70 : decode cX9_addPredecessor 70 = .ok (.iaload, 1) := by decide +kernel
theorem dX9_addPredecessor_71 : decode cX9_addPredecessor 71 = .ok (.if_icmp .ne 43, 3) := by decide +kernel
theorem dX9_addPredecessor_74 : decode cX9_addPredecessor 74 = .ok (.aload_n 0, 1) := by decide +kernel
theorem dX9_addPredecessor_75 : decode cX9_addPredecessor 75 = .ok (.iload_n 2, 1) := by decide +kernel
theorem dX9_addPredecessor_76 : decode cX9_addPredecessor 76 = .ok (.iconst 2, 1) := by decide +kernel
theorem dX9_addPredecessor_77 : decode cX9_addPredecessor 77 = .ok (.idiv, 1) := by decide +kernel
theorem dX9_addPredecessor_78 : decode cX9_addPredecessor 78 = .ok (.iload_n 3, 1) := by decide +kernel
theorem dX9_addPredecessor_79 : decode cX9_addPredecessor 79 = .ok (.aload_n 0, 1) := by decide +kernel
theorem dX9_addPredecessor_80 : decode cX9_addPredecessor 80 = .ok (.getfield 46, 3) := by decide +kernel
theorem dX9_addPredecessor_83 : decode cX9_addPredecessor 83 = .ok (.iload_n 1, 1) := by decide +kernel
theorem dX9_addPredecessor_84 : decode cX9_addPredecessor 84 = .ok (.iconst 2, 1) := by decide +kernel
theorem dX9_addPredecessor_85 : decode cX9_addPredecessor 85 = .ok (.iadd, 1) := by decide +kernel
theorem dX9_addPredecessor_86 : decode cX9_addPredecessor 86 = .ok (.iaload, 1) := by decide +kernel
theorem dX9_addPredecessor_87 : decode cX9_addPredecessor 87 = .ok (.iconst 1, 1) := by decide +kernel
theorem dX9_addPredecessor_88 : decode cX9_addPredecessor 88 = .ok (.iload_n 3, 1) := by decide +kernel
theorem dX9_addPredecessor_89 : decode cX9_addPredecessor 89 = .ok (.ishl, 1) := by decide +kernel
theorem dX9_addPredecessor_90 : decode cX9_addPredecessor 90 = .ok (.ior, 1) := by decide +kernel
theorem dX9_addPredecessor_91 : decode cX9_addPredecessor 91 = .ok (.aload_n 0, 1) := by decide +kernel
theorem dX9_addPredecessor_92 : decode cX9_addPredecessor 92 = .ok (.getfield 46, 3) := by decide +kernel
theorem dX9_addPredecessor_95 : decode cX9_addPredecessor 95 = .ok (.iload_n 1, 1) := by decide +kernel
theorem dX9_addPredecessor_96 : decode cX9_addPredecessor 96 = .ok (.iconst 3, 1) := by decide +kernel
theorem dX9_addPredecessor_97 : decode cX9_addPredecessor 97 = .ok (.iadd, 1) := by decide +kernel
theorem dX9_addPredecessor_98 : decode cX9_addPredecessor 98 = .ok (.iaload, 1) := by decide +kernel
theorem dX9_addPredecessor_99 : decode cX9_addPredecessor 99 = .ok (.iconst 1, 1) := by decide +kernel
theorem dX9_addPredecessor_100 : decode cX9_addPredecessor 100 = .ok (.iload_n 3, 1) := by decide +kernel
theorem dX9_addPredecessor_101 : decode cX9_addPredecessor 101 = .ok (.ishl, 1) := by decide +kernel
theorem dX9_addPredecessor_102 : decode cX9_addPredecessor 102 = .ok (.iconst (-1), 1) := by decide +kernel
theorem dX9_addPredecessor_103 : decode cX9_addPredecessor 103 = .ok (.ixor, 1) := by decide +kernel
theorem dX9_addPredecessor_104 : decode cX9_addPredecessor 104 = .ok (.iand, 1) := by decide +kernel
theorem dX9_addPredecessor_105 : decode cX9_addPredecessor 105 = .ok (.iload_n 2, 1) := by decide +kernel
theorem dX9_addPredecessor_106 : decode cX9_addPredecessor 106 = .ok (.iconst 2, 1) := by decide +kernel
theorem dX9_addPredecessor_107 : decode cX9_addPredecessor 107 = .ok (.irem, 1) := by decide +kernel
theorem dX9_addPredecessor_108 : decode cX9_addPredecessor 108 = .ok (.iload_n 3, 1) := by decide +kernel
theorem dX9_addPredecessor_109 : decode cX9_addPredecessor 109 = .ok (.ishl, 1) := by decide +kernel
theorem dX9_addPredecessor_110 : decode cX9_addPredecessor 110 = .ok (.ior, 1) := by decide +kernel
theorem dX9_addPredecessor_111 : decode cX9_addPredecessor 111 = .ok (.invokevirtual 172, 3) := by decide +kernel
theorem dX9_addPredecessor_114 : decode cX9_addPredecessor 114 = .ok (.return_, 1) := by decide +kernel
set_option maxRecDepth 20000 in
theorem ggX9_layPredecessors_X9_addPredecessor : GoodIn wsX9_layPredecessors wsX9_addPredecessor := goodIn_r _ [11, 6, 12, 13, 14, 15, 16, 10, 17, 1, 18, 23, 24, 25, 26, 27, 28, 29, 30, 31, 32, 33, 34, 35, 36, 37, 38, 39, 40, 41, 42, 43, 44, 45, 46, 47, 48, 49, 50, 51, 52] (by decide +kernel) (by decide +kernel)
set_option maxRecDepth 20000 in
theorem gX9_layPredecessors_X9_addPredecessor : GoodIn wsX9_layPredecessors (wsV RX9 178 RX9 yX9_addPredecessor wsX9_addPredecessor) := goodIn_app (goodIn_of _ (by decide +kernel)) ggX9_layPredecessors_X9_addPredecessor
set_option maxRecDepth 20000 in
theorem ggX9_layPredecessors_X9_takeBefore : GoodIn wsX9_layPredecessors wsX9_takeBefore := goodIn_r _ [22, 1, 2, 6, 18, 23, 24, 25, 26, 27, 28, 29, 30, 31, 32, 33, 34, 35, 36, 37, 38, 39, 40, 41, 42, 43, 44, 45, 46, 47, 48, 49, 50, 51, 52] (by decide +kernel) (by decide +kernel)
set_option maxRecDepth 20000 in
theorem gX9_layPredecessors_X9_takeBefore : GoodIn wsX9_layPredecessors (wsV RX9 175 RX9 yX9_takeBefore wsX9_takeBefore) := goodIn_app (goodIn_of _ (by decide +kernel)) ggX9_layPredecessors_X9_takeBefore
theorem dX9_layPredecessors_0 : decode cX9_layPredecessors 0 = .ok (.aload_n 0, 1) := by decide +kernel
theorem dX9_layPredecessors_1 : decode cX9_layPredecessors 1 = .ok (.iconst 0, 1) := by decide +kernel
theorem dX9_layPredecessors_2 : decode cX9_layPredecessors 2 = .ok (.putfield 166, 3) := by decide +kernel
theorem dX9_layPredecessors_5 : decode cX9_layPredecessors 5 = .ok (.iconst 0, 1) := by decide +kernel
theorem dX9_layPredecessors_6 : decode cX9_layPredecessors 6 = .ok (.istore_n 1, 1) := by decide +kernel
theorem dX9_layPredecessors_7 : decode cX9_layPredecessors 7 = .ok (.iload_n 1, 1) := by decide +kernel
theorem dX9_layPredecessors_8 : decode cX9_layPredecessors 8 = .ok (.aload_n 0, 1) := by decide +kernel
theorem dX9_layPredecessors_9 : decode cX9_layPredecessors 9 = .ok (.getfield 169, 3) := by decide +kernel
theorem dX9_layPredecessors_12 : decode cX9_layPredecessors 12 = .ok (.if_icmp .ge 61, 3) := by decide +kernel
theorem dX9_layPredecessors_15 : decode cX9_layPredecessors 15 = .ok (.iconst 0, 1) := by decide +kernel
theorem dX9_layPredecessors_16 : decode cX9_layPredecessors 16 = .ok (.istore_n 2, 1) := by decide +kernel
theorem dX9_layPredecessors_17 : decode cX9_layPredecessors 17 = .ok (.iload_n 2, 1) := by decide +kernel
theorem dX9_layPredecessors_18 : decode cX9_layPredecessors 18 = .ok (.iconst 2, 1) := by decide +kernel
theorem dX9_layPredecessors_19 : decode cX9_layPredecessors 19 = .ok (.aload_n 0, 1) := by decide +kernel
theorem dX9_layPredecessors_20 : decode cX9_layPredecessors 20 = .ok (.getfield 7, 3) := by decide +kernel
theorem dX9_layPredecessors_23 : decode cX9_layPredecessors 23 = .ok (.imul, 1) := by decide +kernel
theorem dX9_layPredecessors_24 : decode cX9_layPredecessors 24 = .ok (.if_icmp .ge 43, 3) := by decide +kernel
theorem dX9_layPredecessors_27 : decode cX9_layPredecessors 27 = .ok (.aload_n 0, 1) := by decide +kernel
theorem dX9_layPredecessors_28 : decode cX9_layPredecessors 28 = .ok (.getfield 13, 3) := by decide +kernel
theorem dX9_layPredecessors_31 : decode cX9_layPredecessors 31 = .ok (.iload_n 2, 1) := by decide +kernel
theorem dX9_layPredecessors_32 : decode cX9_layPredecessors 32 = .ok (.baload, 1) := by decide +kernel
theorem dX9_layPredecessors_33 : decode cX9_layPredecessors 33 = .ok (.ifCond .eq 28, 3) := by decide +kernel
theorem dX9_layPredecessors_36 : decode cX9_layPredecessors 36 = .ok (.aload_n 0, 1) := by decide +kernel
theorem dX9_layPredecessors_37 : decode cX9_layPredecessors 37 = .ok (.getfield 24, 3) := by decide +kernel
theorem dX9_layPredecessors_40 : decode cX9_layPredecessors 40 = .ok (.iload_n 2, 1) := by decide +kernel
theorem dX9_layPredecessors_41 : decode cX9_layPredecessors 41 = .ok (.iaload, 1) := by decide +kernel
theorem dX9_layPredecessors_42 : decode cX9_layPredecessors 42 = .ok (.aload_n 0, 1) := by decide +kernel
theorem dX9_layPredecessors_43 : decode cX9_layPredecessors 43 = .ok (.getfield 46, 3) := by decide +kernel
theorem dX9_layPredecessors_46 : decode cX9_layPredecessors 46 = .ok (.iconst 4, 1) := by decide +kernel
theorem dX9_layPredecessors_47 : decode cX9_layPredecessors 47 = .ok (.iload_n 1, 1) := by decide +kernel
theorem dX9_layPredecessors_48 : decode cX9_layPredecessors 48 = .ok (.imul, 1) := by decide +kernel
theorem dX9_layPredecessors_49 : decode cX9_layPredecessors 49 = .ok (.iaload, 1) := by decide +kernel
theorem dX9_layPredecessors_50 : decode cX9_layPredecessors 50 = .ok (.if_icmp .ne 11, 3) := by decide +kernel
theorem dX9_layPredecessors_53 : decode cX9_layPredecessors 53 = .ok (.aload_n 0, 1) := by decide +kernel
theorem dX9_layPredecessors_54 : decode cX9_layPredecessors 54 = .ok (.iconst 4, 1) := by decide +kernel
theorem dX9_layPredecessors_55 : decode cX9_layPredecessors 55 = .ok (.iload_n 1, 1) := by decide +kernel
theorem dX9_layPredecessors_56 : decode cX9_layPredecessors 56 = .ok (.imul, 1) := by decide +kernel
theorem dX9_layPredecessors_57 : decode cX9_layPredecessors 57 = .ok (.iload_n 2, 1) := by decide +kernel
theorem dX9_layPredecessors_58 : decode cX9_layPredecessors 58 = .ok (.invokevirtual 178, 3) := by decide +kernel
theorem dX9_layPredecessors_61 : decode cX9_layPredecessors 61 = .ok (.iinc 2 1, 3) := by decide +kernel
theorem dX9_layPredecessors_64 : decode cX9_layPredecessors 64 = .ok (.goto (-47), 3) := by decide +kernel
theorem dX9_layPredecessors_67 : decode cX9_layPredecessors 67 = .ok (.iinc 1 1, 3) := by decide +kernel
theorem dX9_layPredecessors_70 : decode cX9_layPredecessors 70 = .ok (.goto (-63), 3) := by decide +kernel
theorem dX9_layPredecessors_73 : decode cX9_layPredecessors 73 = .ok (.aload_n 0, 1) := by decide +kernel
theorem dX9_layPredecessors_74 : decode cX9_layPredecessors 74 = .ok (.invokevirtual 175, 3) := by decide +kernel
theorem dX9_layPredecessors_77 : decode cX9_layPredecessors 77 = .ok (.return_, 1) := by decide +kernel
theorem dX9_matchesStart_0 : decode cX9_matchesStart 0 = .ok (.iconst 0, 1) := by decide +kernel
theorem dX9_matchesStart_1 : decode cX9_matchesStart 1 = .ok (.istore_n 1, 1) := by decide +kernel
theorem dX9_matchesStart_2 : decode cX9_matchesStart 2 = .ok (.iconst 0, 1) := by decide +kernel
theorem dX9_matchesStart_3 : decode cX9_matchesStart 3 = .ok (.istore_n 2, 1) := by decide +kernel
theorem dX9_matchesStart_4 : decode cX9_matchesStart 4 = .ok (.iload_n 2, 1) := by decide +kernel
theorem dX9_matchesStart_5 : decode cX9_matchesStart 5 = .ok (.aload_n 0, 1) := by decide +kernel
theorem dX9_matchesStart_6 : decode cX9_matchesStart 6 = .ok (.getfield 169, 3) := by decide +kernel
theorem dX9_matchesStart_9 : decode cX9_matchesStart 9 = .ok (.if_icmp .ge 43, 3) := by decide +kernel
theorem dX9_matchesStart_12 : decode cX9_matchesStart 12 = .ok (.iload_n 1, 1) := by decide +kernel
theorem dX9_matchesStart_13 : decode cX9_matchesStart 13 = .ok (.ifCond .ne 27, 3) := by decide +kernel
theorem dX9_matchesStart_16 : decode cX9_matchesStart 16 = .ok (.aload_n 0, 1) := by decide +kernel
theorem dX9_matchesStart_17 : decode cX9_matchesStart 17 = .ok (.getfield 46, 3) := by decide +kernel
theorem dX9_matchesStart_20 : decode cX9_matchesStart 20 = .ok (.iconst 4, 1) := by decide +kernel
theorem dX9_matchesStart_21 : decode cX9_matchesStart 21 = .ok (.iload_n 2, 1) := by decide +kernel
theorem dX9_matchesStart_22 : decode cX9_matchesStart 22 = .ok (.imul, 1) := by decide +kernel
theorem dX9_matchesStart_23 : decode cX9_matchesStart 23 = .ok (.iaload, 1) := by decide +kernel
theorem dX9_matchesStart_24 : decode cX9_matchesStart 24 = .ok (.ifCond .ne 20, 3) := by decide +kernel
theorem dX9_matchesStart_27 : decode cX9_matchesStart 27 = .ok (.aload_n 0, 1) := by decide +kernel
theorem dX9_matchesStart_28 : decode cX9_matchesStart 28 = .ok (.getfield 46, 3) := by decide +kernel
theorem dX9_matchesStart_31 : decode cX9_matchesStart 31 = .ok (.iconst 4, 1) := by decide +kernel
theorem dX9_matchesStart_32 : decode cX9_matchesStart 32 = .ok (.iload_n 2, 1) := by decide +kernel
theorem dX9_matchesStart_33 : decode cX9_matchesStart 33 = .ok (.imul, 1) := by decide +kernel
theorem dX9_matchesStart_34 : decode cX9_matchesStart 34 = .ok (.iconst 3, 1) := by decide +kernel
theorem dX9_matchesStart_35 : decode cX9_matchesStart 35 = .ok (.iadd, 1) := by decide +kernel
theorem dX9_matchesStart_36 : decode cX9_matchesStart 36 = .ok (.iaload, 1) := by decide +kernel
theorem dX9_matchesStart_37 : decode cX9_matchesStart 37 = .ok (.ifCond .ne 7, 3) := by decide +kernel
theorem dX9_matchesStart_40 : decode cX9_matchesStart 40 = .ok (.iconst 1, 1) := by decide +kernel
theorem dX9_matchesStart_41 : decode cX9_matchesStart 41 = .ok (.goto 4, 3) := by decide +kernel
theorem dX9_matchesStart_44 : decode cX9_matchesStart 44 = .ok (.iconst 0, 1) := by decide +kernel
theorem dX9_matchesStart_45 : decode cX9_matchesStart 45 = .ok (.istore_n 1, 1) := by decide +kernel
theorem dX9_matchesStart_46 : decode cX9_matchesStart 46 = .ok (.iinc 2 1, 3) := by decide +kernel
theorem dX9_matchesStart_49 : decode cX9_matchesStart 49 = .ok (.goto (-45), 3) := by decide +kernel
theorem dX9_matchesStart_52 : decode cX9_matchesStart 52 = .ok (.iload_n 1, 1) := by decide +kernel
theorem dX9_matchesStart_53 : decode cX9_matchesStart 53 = .ok (.ireturn, 1) := by decide +kernel
set_option maxRecDepth 20000 in
theorem ggX9_depthFor_X9_layHalting : GoodIn wsX9_depthFor wsX9_layHalting := goodIn_r _ [6, 7, 8, 9, 10, 11, 12, 13, 5, 14, 15, 16, 17, 18, 19, 1, 20, 35, 36, 37, 38, 39, 40, 41, 42, 43, 44, 45, 46, 47, 48, 49, 50, 51, 52, 53, 54, 55, 56, 57, 58, 59, 60, 61, 62, 63, 64] (by decide +kernel) (by decide +kernel)
set_option maxRecDepth 20000 in
theorem gX9_depthFor_X9_layHalting : GoodIn wsX9_depthFor (wsV RX9 181 RX9 yX9_layHalting wsX9_layHalting) := goodIn_app (goodIn_of _ (by decide +kernel)) ggX9_depthFor_X9_layHalting
set_option maxRecDepth 20000 in
theorem ggX9_depthFor_X9_matchesStart : GoodIn wsX9_depthFor wsX9_matchesStart := goodIn_r _ [24, 1, 20, 35, 36, 37, 38, 39, 40, 41, 42, 43, 44, 45, 46, 47, 48, 49, 50, 51, 52, 53, 54, 55, 56, 57, 58, 59, 60, 61, 62, 63, 64] (by decide +kernel) (by decide +kernel)
set_option maxRecDepth 20000 in
theorem gX9_depthFor_X9_matchesStart : GoodIn wsX9_depthFor (wsV RX9 184 RX9 yX9_matchesStart wsX9_matchesStart) := goodIn_app (goodIn_of _ (by decide +kernel)) ggX9_depthFor_X9_matchesStart
set_option maxRecDepth 20000 in
theorem ggX9_depthFor_X9_layPredecessors : GoodIn wsX9_depthFor wsX9_layPredecessors := goodIn_r _ [28, 7, 1, 8, 9, 10, 20, 29, 30, 31, 5, 32, 33, 34, 11, 12, 13, 14, 15, 16, 17, 18, 19, 35, 36, 37, 38, 39, 40, 41, 42, 43, 44, 45, 46, 47, 48, 49, 50, 51, 52, 53, 54, 55, 56, 57, 58, 59, 60, 61, 62, 63, 64] (by decide +kernel) (by decide +kernel)
set_option maxRecDepth 20000 in
theorem gX9_depthFor_X9_layPredecessors : GoodIn wsX9_depthFor (wsV RX9 187 RX9 yX9_layPredecessors wsX9_layPredecessors) := goodIn_app (goodIn_of _ (by decide +kernel)) ggX9_depthFor_X9_layPredecessors
theorem dX9_depthFor_0 : decode cX9_depthFor 0 = .ok (.aload_n 0, 1) := by decide +kernel
theorem dX9_depthFor_1 : decode cX9_depthFor 1 = .ok (.invokevirtual 181, 3) := by decide +kernel
theorem dX9_depthFor_4 : decode cX9_depthFor 4 = .ok (.iconst 0, 1) := by decide +kernel
theorem dX9_depthFor_5 : decode cX9_depthFor 5 = .ok (.istore_n 2, 1) := by decide +kernel
theorem dX9_depthFor_6 : decode cX9_depthFor 6 = .ok (.iload_n 2, 1) := by decide +kernel
theorem dX9_depthFor_7 : decode cX9_depthFor 7 = .ok (.iload_n 1, 1) := by decide +kernel
theorem dX9_depthFor_8 : decode cX9_depthFor 8 = .ok (.if_icmp .gt 43, 3) := by decide +kernel
theorem dX9_depthFor_11 : decode cX9_depthFor 11 = .ok (.aload_n 0, 1) := by decide +kernel
theorem dX9_depthFor_12 : decode cX9_depthFor 12 = .ok (.getfield 169, 3) := by decide +kernel
theorem dX9_depthFor_15 : decode cX9_depthFor 15 = .ok (.ifCond .ne 5, 3) := by decide +kernel
theorem dX9_depthFor_18 : decode cX9_depthFor 18 = .ok (.iload_n 2, 1) := by decide +kernel
theorem dX9_depthFor_19 : decode cX9_depthFor 19 = .ok (.ireturn, 1) := by decide +kernel
theorem dX9_depthFor_20 : decode cX9_depthFor 20 = .ok (.aload_n 0, 1) := by decide +kernel
theorem dX9_depthFor_21 : decode cX9_depthFor 21 = .ok (.getfield 169, 3) := by decide +kernel
theorem dX9_depthFor_24 : decode cX9_depthFor 24 = .ok (.sipush 300, 3) := by decide +kernel
theorem dX9_depthFor_27 : decode cX9_depthFor 27 = .ok (.if_icmp .gt 10, 3) := by decide +kernel
theorem dX9_depthFor_30 : decode cX9_depthFor 30 = .ok (.aload_n 0, 1) := by decide +kernel
theorem dX9_depthFor_31 : decode cX9_depthFor 31 = .ok (.invokevirtual 184, 3) := by decide +kernel
theorem dX9_depthFor_34 : decode cX9_depthFor 34 = .ok (.ifCond .eq 7, 3) := by decide +kernel
theorem dX9_depthFor_37 : decode cX9_depthFor 37 = .ok (.sipush (-1005), 3) := by decide +kernel
theorem dX9_depthFor_40 : decode cX9_depthFor 40 = .ok (.ireturn, 1) := by decide +kernel
theorem dX9_depthFor_41 : decode cX9_depthFor 41 = .ok (.aload_n 0, 1) := by decide +kernel
theorem dX9_depthFor_42 : decode cX9_depthFor 42 = .ok (.invokevirtual 187, 3) := by decide +kernel
theorem dX9_depthFor_45 : decode cX9_depthFor 45 = .ok (.iinc 2 1, 3) := by decide +kernel
theorem dX9_depthFor_48 : decode cX9_depthFor 48 = .ok (.goto (-42), 3) := by decide +kernel
theorem dX9_depthFor_51 : decode cX9_depthFor 51 = .ok (.sipush (-1005), 3) := by decide +kernel
theorem dX9_depthFor_54 : decode cX9_depthFor 54 = .ok (.ireturn, 1) := by decide +kernel
set_option maxRecDepth 20000 in
theorem ggX9_backwardDepth_X9_in : GoodIn wsX9_backwardDepth wsX9_in := goodIn_r _ [4] (by decide +kernel) (by decide +kernel)
set_option maxRecDepth 20000 in
theorem gX9_backwardDepth_X9_in : GoodIn wsX9_backwardDepth (va_wsS RX9 64 yX9_in wsX9_in) := goodIn_app (goodIn_of _ (by decide +kernel)) ggX9_backwardDepth_X9_in
set_option maxRecDepth 20000 in
theorem ggX9_backwardDepth_X9_depthFor : GoodIn wsX9_backwardDepth wsX9_depthFor := goodIn_r _ [8, 9, 10, 11, 12, 3, 13, 14, 15, 16, 17, 18, 19, 20, 21, 22, 23, 24, 25, 26, 27, 28, 29, 30, 31, 32, 33, 34, 35, 36, 37, 38, 39, 40, 41, 42, 43, 44, 45, 46, 47, 48, 49, 50, 51, 52, 53, 54, 55, 56, 57, 58, 59, 60, 61, 62, 63, 64, 65, 66, 67, 68, 69, 70, 71] (by decide +kernel) (by decide +kernel)
set_option maxRecDepth 20000 in
theorem gX9_backwardDepth_X9_depthFor : GoodIn wsX9_backwardDepth (wsV RX9 190 RX9 yX9_depthFor wsX9_depthFor) := goodIn_app (goodIn_of _ (by decide +kernel)) ggX9_backwardDepth_X9_depthFor
theorem dX9_backwardDepth_0 : decode cX9_backwardDepth 0 = .ok (.iload_n 1, 1) := by decide +kernel
theorem dX9_backwardDepth_1 : decode cX9_backwardDepth 1 = .ok (.iconst 1, 1) := by decide +kernel
theorem dX9_backwardDepth_2 : decode cX9_backwardDepth 2 = .ok (.bipush 8, 2) := by decide +kernel
theorem dX9_backwardDepth_4 : decode cX9_backwardDepth 4 = .ok (.invokestatic 64, 3) := by decide +kernel
theorem dX9_backwardDepth_7 : decode cX9_backwardDepth 7 = .ok (.ifCond .eq 11, 3) := by decide +kernel
theorem dX9_backwardDepth_10 : decode cX9_backwardDepth 10 = .ok (.aload_n 0, 1) := by decide +kernel
theorem dX9_backwardDepth_11 : decode cX9_backwardDepth 11 = .ok (.iload_n 1, 1) := by decide +kernel
theorem dX9_backwardDepth_12 : decode cX9_backwardDepth 12 = .ok (.invokevirtual 190, 3) := by decide +kernel
theorem dX9_backwardDepth_15 : decode cX9_backwardDepth 15 = .ok (.goto 6, 3) := by decide +kernel
theorem dX9_backwardDepth_18 : decode cX9_backwardDepth 18 = .ok (.sipush (-1002), 3) := by decide +kernel
theorem dX9_backwardDepth_21 : decode cX9_backwardDepth 21 = .ok (.ireturn, 1) := by decide +kernel
theorem dX9_local_0 : decode cX9_local 0 = .ok (.iconst 2, 1) := by decide +kernel
theorem dX9_local_1 : decode cX9_local 1 = .ok (.iload_n 0, 1) := by decide +kernel
theorem dX9_local_2 : decode cX9_local 2 = .ok (.imul, 1) := by decide +kernel
theorem dX9_local_3 : decode cX9_local 3 = .ok (.iload_n 1, 1) := by decide +kernel
theorem dX9_local_4 : decode cX9_local 4 = .ok (.iadd, 1) := by decide +kernel
theorem dX9_local_5 : decode cX9_local 5 = .ok (.bipush 8, 2) := by decide +kernel
theorem dX9_local_7 : decode cX9_local 7 = .ok (.imul, 1) := by decide +kernel
theorem dX9_local_8 : decode cX9_local 8 = .ok (.iload_n 2, 1) := by decide +kernel
theorem dX9_local_9 : decode cX9_local 9 = .ok (.iadd, 1) := by decide +kernel
theorem dX9_local_10 : decode cX9_local 10 = .ok (.bipush 8, 2) := by decide +kernel
theorem dX9_local_12 : decode cX9_local 12 = .ok (.imul, 1) := by decide +kernel
theorem dX9_local_13 : decode cX9_local 13 = .ok (.iload_n 3, 1) := by decide +kernel
theorem dX9_local_14 : decode cX9_local 14 = .ok (.iadd, 1) := by decide +kernel
theorem dX9_local_15 : decode cX9_local 15 = .ok (.ireturn, 1) := by decide +kernel
theorem dX9_addLocal_0 : decode cX9_addLocal 0 = .ok (.aload_n 0, 1) := by decide +kernel
theorem dX9_addLocal_1 : decode cX9_addLocal 1 = .ok (.aload_n 0, 1) := by decide +kernel
theorem dX9_addLocal_2 : decode cX9_addLocal 2 = .ok (.getfield 194, 3) := by decide +kernel
theorem dX9_addLocal_5 : decode cX9_addLocal 5 = .ok (.ifCond .ne 12, 3) := by decide +kernel
theorem dX9_addLocal_8 : decode cX9_addLocal 8 = .ok (.aload_n 0, 1) := by decide +kernel
theorem dX9_addLocal_9 : decode cX9_addLocal 9 = .ok (.getfield 52, 3) := by decide +kernel
theorem dX9_addLocal_12 : decode cX9_addLocal 12 = .ok (.iload_n 1, 1) := by decide +kernel
theorem dX9_addLocal_13 : decode cX9_addLocal 13 = .ok (.baload, 1) := by decide +kernel
theorem dX9_addLocal_14 : decode cX9_addLocal 14 = .ok (.ifCond .ne 7, 3) := by decide +kernel
theorem dX9_addLocal_17 : decode cX9_addLocal 17 = .ok (.iconst 1, 1) := by decide +kernel
theorem dX9_addLocal_18 : decode cX9_addLocal 18 = .ok (.goto 4, 3) := by decide +kernel
theorem dX9_addLocal_21 : decode cX9_addLocal 21 = .ok (.iconst 0, 1) := by decide +kernel
theorem dX9_addLocal_22 : decode cX9_addLocal 22 = .ok (.putfield 194, 3) := by decide +kernel
theorem dX9_addLocal_25 : decode cX9_addLocal 25 = .ok (.aload_n 0, 1) := by decide +kernel
theorem dX9_addLocal_26 : decode cX9_addLocal 26 = .ok (.getfield 52, 3) := by decide +kernel
theorem dX9_addLocal_29 : decode cX9_addLocal 29 = .ok (.iload_n 1, 1) := by decide +kernel
theorem dX9_addLocal_30 : decode cX9_addLocal 30 = .ok (.iconst 1, 1) := by decide +kernel
theorem dX9_addLocal_31 : decode cX9_addLocal 31 = .ok (.bastore, 1) := by decide +kernel
theorem dX9_addLocal_32 : decode cX9_addLocal 32 = .ok (.return_, 1) := by decide +kernel
set_option maxRecDepth 20000 in
theorem ggX9_goRight_X9_local : GoodIn wsX9_goRight wsX9_local := goodIn_r _ [9] (by decide +kernel) (by decide +kernel)
set_option maxRecDepth 20000 in
theorem gX9_goRight_X9_local : GoodIn wsX9_goRight (va_wsS RX9 198 yX9_local wsX9_local) := goodIn_app (goodIn_of _ (by decide +kernel)) ggX9_goRight_X9_local
set_option maxRecDepth 20000 in
theorem ggX9_goRight_X9_addLocal : GoodIn wsX9_goRight wsX9_addLocal := goodIn_r _ [13, 1, 14, 15, 16, 17, 18, 19, 20, 21, 22, 23, 24, 25, 26, 27, 28, 29, 30, 31, 32, 33, 34, 35, 36, 37, 38, 39, 40, 41, 42, 43, 44] (by decide +kernel) (by decide +kernel)
set_option maxRecDepth 20000 in
theorem gX9_goRight_X9_addLocal : GoodIn wsX9_goRight (wsV RX9 202 RX9 yX9_addLocal wsX9_addLocal) := goodIn_app (goodIn_of _ (by decide +kernel)) ggX9_goRight_X9_addLocal
theorem dX9_goRight_0 : decode cX9_goRight 0 = .ok (.aload_n 0, 1) := by decide +kernel
theorem dX9_goRight_1 : decode cX9_goRight 1 = .ok (.aload_n 0, 1) := by decide +kernel
theorem dX9_goRight_2 : decode cX9_goRight 2 = .ok (.getfield 194, 3) := by decide +kernel
theorem dX9_goRight_5 : decode cX9_goRight 5 = .ok (.ifCond .ne 12, 3) := by decide +kernel
theorem dX9_goRight_8 : decode cX9_goRight 8 = .ok (.aload_n 0, 1) := by decide +kernel
theorem dX9_goRight_9 : decode cX9_goRight 9 = .ok (.getfield 55, 3) := by decide +kernel
theorem dX9_goRight_12 : decode cX9_goRight 12 = .ok (.iload_n 2, 1) := by decide +kernel
theorem dX9_goRight_13 : decode cX9_goRight 13 = .ok (.baload, 1) := by decide +kernel
theorem dX9_goRight_14 : decode cX9_goRight 14 = .ok (.ifCond .ne 7, 3) := by decide +kernel
theorem dX9_goRight_17 : decode cX9_goRight 17 = .ok (.iconst 1, 1) := by decide +kernel
theorem dX9_goRight_18 : decode cX9_goRight 18 = .ok (.goto 4, 3) := by decide +kernel
theorem dX9_goRight_21 : decode cX9_goRight 21 = .ok (.iconst 0, 1) := by decide +kernel
theorem dX9_goRight_22 : decode cX9_goRight 22 = .ok (.putfield 194, 3) := by decide +kernel
theorem dX9_goRight_25 : decode cX9_goRight 25 = .ok (.aload_n 0, 1) := by decide +kernel
theorem dX9_goRight_26 : decode cX9_goRight 26 = .ok (.getfield 55, 3) := by decide +kernel
theorem dX9_goRight_29 : decode cX9_goRight 29 = .ok (.iload_n 2, 1) := by decide +kernel
theorem dX9_goRight_30 : decode cX9_goRight 30 = .ok (.iconst 1, 1) := by decide +kernel
theorem dX9_goRight_31 : decode cX9_goRight 31 = .ok (.bastore, 1) := by decide +kernel
theorem dX9_goRight_32 : decode cX9_goRight 32 = .ok (.iload_n 2, 1) := by decide +kernel
theorem dX9_goRight_33 : decode cX9_goRight 33 = .ok (.iconst 1, 1) := by decide +kernel
theorem dX9_goRight_34 : decode cX9_goRight 34 = .ok (.ishl, 1) := by decide +kernel
theorem dX9_goRight_35 : decode cX9_goRight 35 = .ok (.aload_n 0, 1) := by decide +kernel
theorem dX9_goRight_36 : decode cX9_goRight 36 = .ok (.getfield 17, 3) := by decide +kernel
theorem dX9_goRight_39 : decode cX9_goRight 39 = .ok (.iload_n 1, 1) := by decide +kernel
theorem dX9_goRight_40 : decode cX9_goRight 40 = .ok (.iaload, 1) := by decide +kernel
theorem dX9_goRight_41 : decode cX9_goRight 41 = .ok (.ior, 1) := by decide +kernel
theorem dX9_goRight_42 : decode cX9_goRight 42 = .ok (.iconst 1, 1) := by decide +kernel
theorem dX9_goRight_43 : decode cX9_goRight 43 = .ok (.iload 4, 2) := by decide +kernel
theorem dX9_goRight_45 : decode cX9_goRight 45 = .ok (.ishl, 1) := by decide +kernel
theorem dX9_goRight_46 : decode cX9_goRight 46 = .ok (.iconst 1, 1) := by decide +kernel
theorem dX9_goRight_47 : decode cX9_goRight 47 = .ok (.isub, 1) := by decide +kernel
theorem dX9_goRight_48 : decode cX9_goRight 48 = .ok (.iand, 1) := by decide +kernel
theorem dX9_goRight_49 : decode cX9_goRight 49 = .ok (.istore 5, 2) := by decide +kernel
theorem dX9_goRight_51 : decode cX9_goRight 51 = .ok (.iconst 0, 1) := by decide +kernel
theorem dX9_goRight_52 : decode cX9_goRight 52 = .ok (.istore 6, 2) := by decide +kernel
theorem dX9_goRight_54 : decode cX9_goRight 54 = .ok (.iload 6, 2) := by decide +kernel
theorem dX9_goRight_56 : decode cX9_goRight 56 = .ok (.iconst 2, 1) := by decide +kernel
theorem dX9_goRight_57 : decode cX9_goRight 57 = .ok (.if_icmp .ge 52, 3) := by decide +kernel
theorem dX9_goRight_60 : decode cX9_goRight 60 = .ok (.iload_n 3, 1) := by decide +kernel
theorem dX9_goRight_61 : decode cX9_goRight 61 = .ok (.iconst 1, 1) := by decide +kernel
theorem dX9_goRight_62 : decode cX9_goRight 62 = .ok (.ishr, 1) := by decide +kernel
theorem dX9_goRight_63 : decode cX9_goRight 63 = .ok (.iload 6, 2) := by decide +kernel
theorem dX9_goRight_65 : decode cX9_goRight 65 = .ok (.iload 4, 2) := by decide +kernel
theorem dX9_goRight_67 : decode cX9_goRight 67 = .ok (.iconst 1, 1) := by decide +kernel
theorem dX9_goRight_68 : decode cX9_goRight 68 = .ok (.isub, 1) := by decide +kernel
theorem dX9_goRight_69 : decode cX9_goRight 69 = .ok (.ishl, 1) := by decide +kernel
theorem dX9_goRight_70 : decode cX9_goRight 70 = .ok (.ior, 1) := by decide +kernel
theorem dX9_goRight_71 : decode cX9_goRight 71 = .ok (.istore 7, 2) := by decide +kernel
theorem dX9_goRight_73 : decode cX9_goRight 73 = .ok (.aload_n 0, 1) := by decide +kernel
theorem dX9_goRight_74 : decode cX9_goRight 74 = .ok (.getfield 58, 3) := by decide +kernel
theorem dX9_goRight_77 : decode cX9_goRight 77 = .ok (.iload 7, 2) := by decide +kernel
theorem dX9_goRight_79 : decode cX9_goRight 79 = .ok (.baload, 1) := by decide +kernel
theorem dX9_goRight_80 : decode cX9_goRight 80 = .ok (.ifCond .eq 23, 3) := by decide +kernel
theorem dX9_goRight_83 : decode cX9_goRight 83 = .ok (.aload_n 0, 1) := by decide +kernel
theorem dX9_goRight_84 : decode cX9_goRight 84 = .ok (.aload_n 0, 1) := by decide +kernel
theorem dX9_goRight_85 : decode cX9_goRight 85 = .ok (.getfield 24, 3) := by decide +kernel
theorem dX9_goRight_88 : decode cX9_goRight 88 = .ok (.iload_n 1, 1) := by decide +kernel
theorem dX9_goRight_89 : decode cX9_goRight 89 = .ok (.iaload, 1) := by decide +kernel
theorem dX9_goRight_90 : decode cX9_goRight 90 = .ok (.iload_n 3, 1) := by decide +kernel
theorem dX9_goRight_91 : decode cX9_goRight 91 = .ok (.iconst 1, 1) := by decide +kernel
theorem dX9_goRight_92 : decode cX9_goRight 92 = .ok (.iand, 1) := by decide +kernel
theorem dX9_goRight_93 : decode cX9_goRight 93 = .ok (.iload 5, 2) := by decide +kernel
theorem dX9_goRight_95 : decode cX9_goRight 95 = .ok (.iload 7, 2) := by decide +kernel
theorem dX9_goRight_97 : decode cX9_goRight 97 = .ok (.invokestatic 198, 3) := by decide +kernel
theorem dX9_goRight_100 : decode cX9_goRight 100 = .ok (.invokevirtual 202, 3) := by decide +kernel
theorem dX9_goRight_103 : decode cX9_goRight 103 = .ok (.iinc 6 1, 3) := by decide +kernel
theorem dX9_goRight_106 : decode cX9_goRight 106 = .ok (.goto (-52), 3) := by decide +kernel
theorem dX9_goRight_109 : decode cX9_goRight 109 = .ok (.return_, 1) := by decide +kernel
set_option maxRecDepth 20000 in
theorem ggX9_goLeft_X9_local : GoodIn wsX9_goLeft wsX9_local := goodIn_r _ [9] (by decide +kernel) (by decide +kernel)
set_option maxRecDepth 20000 in
theorem gX9_goLeft_X9_local : GoodIn wsX9_goLeft (va_wsS RX9 198 yX9_local wsX9_local) := goodIn_app (goodIn_of _ (by decide +kernel)) ggX9_goLeft_X9_local
set_option maxRecDepth 20000 in
theorem ggX9_goLeft_X9_addLocal : GoodIn wsX9_goLeft wsX9_addLocal := goodIn_r _ [13, 1, 14, 15, 16, 17, 18, 19, 20, 21, 22, 23, 24, 25, 26, 27, 28, 29, 30, 31, 32, 33, 34, 35, 36, 37, 38, 39, 40, 41, 42, 43, 44] (by decide +kernel) (by decide +kernel)
set_option maxRecDepth 20000 in
theorem gX9_goLeft_X9_addLocal : GoodIn wsX9_goLeft (wsV RX9 202 RX9 yX9_addLocal wsX9_addLocal) := goodIn_app (goodIn_of _ (by decide +kernel)) ggX9_goLeft_X9_addLocal
theorem dX9_goLeft_0 : decode cX9_goLeft 0 = .ok (.aload_n 0, 1) := by decide +kernel
theorem dX9_goLeft_1 : decode cX9_goLeft 1 = .ok (.aload_n 0, 1) := by decide +kernel
theorem dX9_goLeft_2 : decode cX9_goLeft 2 = .ok (.getfield 194, 3) := by decide +kernel
theorem dX9_goLeft_5 : decode cX9_goLeft 5 = .ok (.ifCond .ne 12, 3) := by decide +kernel
theorem dX9_goLeft_8 : decode cX9_goLeft 8 = .ok (.aload_n 0, 1) := by decide +kernel
theorem dX9_goLeft_9 : decode cX9_goLeft 9 = .ok (.getfield 58, 3) := by decide +kernel
theorem dX9_goLeft_12 : decode cX9_goLeft 12 = .ok (.iload_n 3, 1) := by decide +kernel
theorem dX9_goLeft_13 : decode cX9_goLeft 13 = .ok (.baload, 1) := by decide +kernel
theorem dX9_goLeft_14 : decode cX9_goLeft 14 = .ok (.ifCond .ne 7, 3) := by decide +kernel
theorem dX9_goLeft_17 : decode cX9_goLeft 17 = .ok (.iconst 1, 1) := by decide +kernel
theorem dX9_goLeft_18 : decode cX9_goLeft 18 = .ok (.goto 4, 3) := by decide +kernel
theorem dX9_goLeft_21 : decode cX9_goLeft 21 = .ok (.iconst 0, 1) := by decide +kernel
theorem dX9_goLeft_22 : decode cX9_goLeft 22 = .ok (.putfield 194, 3) := by decide +kernel
theorem dX9_goLeft_25 : decode cX9_goLeft 25 = .ok (.aload_n 0, 1) := by decide +kernel
theorem dX9_goLeft_26 : decode cX9_goLeft 26 = .ok (.getfield 58, 3) := by decide +kernel
theorem dX9_goLeft_29 : decode cX9_goLeft 29 = .ok (.iload_n 3, 1) := by decide +kernel
theorem dX9_goLeft_30 : decode cX9_goLeft 30 = .ok (.iconst 1, 1) := by decide +kernel
theorem dX9_goLeft_31 : decode cX9_goLeft 31 = .ok (.bastore, 1) := by decide +kernel
theorem dX9_goLeft_32 : decode cX9_goLeft 32 = .ok (.iload_n 3, 1) := by decide +kernel
theorem dX9_goLeft_33 : decode cX9_goLeft 33 = .ok (.iconst 1, 1) := by decide +kernel
theorem dX9_goLeft_34 : decode cX9_goLeft 34 = .ok (.ishl, 1) := by decide +kernel
theorem dX9_goLeft_35 : decode cX9_goLeft 35 = .ok (.aload_n 0, 1) := by decide +kernel
theorem dX9_goLeft_36 : decode cX9_goLeft 36 = .ok (.getfield 17, 3) := by decide +kernel
theorem dX9_goLeft_39 : decode cX9_goLeft 39 = .ok (.iload_n 1, 1) := by decide +kernel
theorem dX9_goLeft_40 : decode cX9_goLeft 40 = .ok (.iaload, 1) := by decide +kernel
theorem dX9_goLeft_41 : decode cX9_goLeft 41 = .ok (.ior, 1) := by decide +kernel
theorem dX9_goLeft_42 : decode cX9_goLeft 42 = .ok (.iconst 1, 1) := by decide +kernel
theorem dX9_goLeft_43 : decode cX9_goLeft 43 = .ok (.iload 4, 2) := by decide +kernel
theorem dX9_goLeft_45 : decode cX9_goLeft 45 = .ok (.ishl, 1) := by decide +kernel
theorem dX9_goLeft_46 : decode cX9_goLeft 46 = .ok (.iconst 1, 1) := by decide +kernel
theorem dX9_goLeft_47 : decode cX9_goLeft 47 = .ok (.isub, 1) := by decide +kernel
theorem dX9_goLeft_48 : decode cX9_goLeft 48 = .ok (.iand, 1) := by decide +kernel
theorem dX9_goLeft_49 : decode cX9_goLeft 49 = .ok (.istore 5, 2) := by decide +kernel
theorem dX9_goLeft_51 : decode cX9_goLeft 51 = .ok (.iconst 0, 1) := by decide +kernel
theorem dX9_goLeft_52 : decode cX9_goLeft 52 = .ok (.istore 6, 2) := by decide +kernel
theorem dX9_goLeft_54 : decode cX9_goLeft 54 = .ok (.iload 6, 2) := by decide +kernel
theorem dX9_goLeft_56 : decode cX9_goLeft 56 = .ok (.iconst 2, 1) := by decide +kernel
theorem dX9_goLeft_57 : decode cX9_goLeft 57 = .ok (.if_icmp .ge 52, 3) := by decide +kernel
theorem dX9_goLeft_60 : decode cX9_goLeft 60 = .ok (.iload_n 2, 1) := by decide +kernel
theorem dX9_goLeft_61 : decode cX9_goLeft 61 = .ok (.iconst 1, 1) := by decide +kernel
theorem dX9_goLeft_62 : decode cX9_goLeft 62 = .ok (.ishr, 1) := by decide +kernel
theorem dX9_goLeft_63 : decode cX9_goLeft 63 = .ok (.iload 6, 2) := by decide +kernel
theorem dX9_goLeft_65 : decode cX9_goLeft 65 = .ok (.iload 4, 2) := by decide +kernel
theorem dX9_goLeft_67 : decode cX9_goLeft 67 = .ok (.iconst 1, 1) := by decide +kernel
theorem dX9_goLeft_68 : decode cX9_goLeft 68 = .ok (.isub, 1) := by decide +kernel
theorem dX9_goLeft_69 : decode cX9_goLeft 69 = .ok (.ishl, 1) := by decide +kernel
theorem dX9_goLeft_70 : decode cX9_goLeft 70 = .ok (.ior, 1) := by decide +kernel
theorem dX9_goLeft_71 : decode cX9_goLeft 71 = .ok (.istore 7, 2) := by decide +kernel
theorem dX9_goLeft_73 : decode cX9_goLeft 73 = .ok (.aload_n 0, 1) := by decide +kernel
theorem dX9_goLeft_74 : decode cX9_goLeft 74 = .ok (.getfield 55, 3) := by decide +kernel
theorem dX9_goLeft_77 : decode cX9_goLeft 77 = .ok (.iload 7, 2) := by decide +kernel
theorem dX9_goLeft_79 : decode cX9_goLeft 79 = .ok (.baload, 1) := by decide +kernel
theorem dX9_goLeft_80 : decode cX9_goLeft 80 = .ok (.ifCond .eq 23, 3) := by decide +kernel
theorem dX9_goLeft_83 : decode cX9_goLeft 83 = .ok (.aload_n 0, 1) := by decide +kernel
theorem dX9_goLeft_84 : decode cX9_goLeft 84 = .ok (.aload_n 0, 1) := by decide +kernel
theorem dX9_goLeft_85 : decode cX9_goLeft 85 = .ok (.getfield 24, 3) := by decide +kernel
theorem dX9_goLeft_88 : decode cX9_goLeft 88 = .ok (.iload_n 1, 1) := by decide +kernel
theorem dX9_goLeft_89 : decode cX9_goLeft 89 = .ok (.iaload, 1) := by decide +kernel
theorem dX9_goLeft_90 : decode cX9_goLeft 90 = .ok (.iload_n 2, 1) := by decide +kernel
theorem dX9_goLeft_91 : decode cX9_goLeft 91 = .ok (.iconst 1, 1) := by decide +kernel
theorem dX9_goLeft_92 : decode cX9_goLeft 92 = .ok (.iand, 1) := by decide +kernel
theorem dX9_goLeft_93 : decode cX9_goLeft 93 = .ok (.iload 7, 2) := by decide +kernel
theorem dX9_goLeft_95 : decode cX9_goLeft 95 = .ok (.iload 5, 2) := by decide +kernel
theorem dX9_goLeft_97 : decode cX9_goLeft 97 = .ok (.invokestatic 198, 3) := by decide +kernel
theorem dX9_goLeft_100 : decode cX9_goLeft 100 = .ok (.invokevirtual 202, 3) := by decide +kernel
theorem dX9_goLeft_103 : decode cX9_goLeft 103 = .ok (.iinc 6 1, 3) := by decide +kernel
theorem dX9_goLeft_106 : decode cX9_goLeft 106 = .ok (.goto (-52), 3) := by decide +kernel
theorem dX9_goLeft_109 : decode cX9_goLeft 109 = .ok (.return_, 1) := by decide +kernel
set_option maxRecDepth 20000 in
theorem ggX9_handle_X9_goRight : GoodIn wsX9_handle wsX9_goRight := goodIn_r _ [9, 10, 11, 12, 13, 2, 14, 15, 8, 16, 17, 18, 19, 20, 21, 26, 27, 28, 29, 30, 31, 32, 33, 34, 35, 36, 37, 38, 39, 40, 41, 42, 43, 44, 45, 46, 47, 48, 49, 50, 51, 52, 53, 54, 55] (by decide +kernel) (by decide +kernel)
set_option maxRecDepth 20000 in
theorem gX9_handle_X9_goRight : GoodIn wsX9_handle (wsV RX9 208 RX9 yX9_goRight wsX9_goRight) := goodIn_app (goodIn_of _ (by decide +kernel)) ggX9_handle_X9_goRight
set_option maxRecDepth 20000 in
theorem ggX9_handle_X9_goLeft : GoodIn wsX9_handle wsX9_goLeft := goodIn_r _ [25, 10, 13, 12, 11, 2, 14, 15, 8, 16, 17, 18, 19, 20, 21, 26, 27, 28, 29, 30, 31, 32, 33, 34, 35, 36, 37, 38, 39, 40, 41, 42, 43, 44, 45, 46, 47, 48, 49, 50, 51, 52, 53, 54, 55] (by decide +kernel) (by decide +kernel)
set_option maxRecDepth 20000 in
theorem gX9_handle_X9_goLeft : GoodIn wsX9_handle (wsV RX9 211 RX9 yX9_goLeft wsX9_goLeft) := goodIn_app (goodIn_of _ (by decide +kernel)) ggX9_handle_X9_goLeft
theorem dX9_handle_0 : decode cX9_handle 0 = .ok (.iload_n 1, 1) := by decide +kernel
theorem dX9_handle_1 : decode cX9_handle 1 = .ok (.bipush 64, 2) := by decide +kernel
theorem dX9_handle_3 : decode cX9_handle 3 = .ok (.idiv, 1) := by decide +kernel
theorem dX9_handle_4 : decode cX9_handle 4 = .ok (.istore_n 3, 1) := by decide +kernel
theorem dX9_handle_5 : decode cX9_handle 5 = .ok (.iload_n 1, 1) := by decide +kernel
theorem dX9_handle_6 : decode cX9_handle 6 = .ok (.bipush 8, 2) := by decide +kernel
theorem dX9_handle_8 : decode cX9_handle 8 = .ok (.idiv, 1) := by decide +kernel
theorem dX9_handle_9 : decode cX9_handle 9 = .ok (.bipush 8, 2) := by decide +kernel
theorem dX9_handle_11 : decode cX9_handle 11 = .ok (.irem, 1) := by decide +kernel
theorem dX9_handle_12 : decode cX9_handle 12 = .ok (.istore 4, 2) := by decide +kernel
theorem dX9_handle_14 : decode cX9_handle 14 = .ok (.iload_n 1, 1) := by decide +kernel
theorem dX9_handle_15 : decode cX9_handle 15 = .ok (.bipush 8, 2) := by decide +kernel
theorem dX9_handle_17 : decode cX9_handle 17 = .ok (.irem, 1) := by decide +kernel
theorem dX9_handle_18 : decode cX9_handle 18 = .ok (.istore 5, 2) := by decide +kernel
theorem dX9_handle_20 : decode cX9_handle 20 = .ok (.aload_n 0, 1) := by decide +kernel
theorem dX9_handle_21 : decode cX9_handle 21 = .ok (.getfield 13, 3) := by decide +kernel
theorem dX9_handle_24 : decode cX9_handle 24 = .ok (.iload_n 3, 1) := by decide +kernel
theorem dX9_handle_25 : decode cX9_handle 25 = .ok (.baload, 1) := by decide +kernel
theorem dX9_handle_26 : decode cX9_handle 26 = .ok (.ifCond .eq 14, 3) := by decide +kernel
theorem dX9_handle_29 : decode cX9_handle 29 = .ok (.aload_n 0, 1) := by decide +kernel
theorem dX9_handle_30 : decode cX9_handle 30 = .ok (.getfield 24, 3) := by decide +kernel
theorem dX9_handle_33 : decode cX9_handle 33 = .ok (.iload_n 3, 1) := by decide +kernel
theorem dX9_handle_34 : decode cX9_handle 34 = .ok (.iaload, 1) := by decide +kernel
theorem dX9_handle_35 : decode cX9_handle 35 = .ok (.bipush 9, 2) := by decide +kernel
theorem dX9_handle_37 : decode cX9_handle 37 = .ok (.if_icmp .ne 11, 3) := by decide +kernel
theorem dX9_handle_40 : decode cX9_handle 40 = .ok (.aload_n 0, 1) := by decide +kernel
theorem dX9_handle_41 : decode cX9_handle 41 = .ok (.iconst 1, 1) := by decide +kernel
theorem dX9_handle_42 : decode cX9_handle 42 = .ok (.putfield 205, 3) := by decide +kernel
theorem dX9_handle_45 : decode cX9_handle 45 = .ok (.goto 36, 3) := by decide +kernel
theorem dX9_handle_48 : decode cX9_handle 48 = .ok (.aload_n 0, 1) := by decide +kernel
theorem dX9_handle_49 : decode cX9_handle 49 = .ok (.getfield 21, 3) := by decide +kernel
theorem dX9_handle_52 : decode cX9_handle 52 = .ok (.iload_n 3, 1) := by decide +kernel
theorem dX9_handle_53 : decode cX9_handle 53 = .ok (.iaload, 1) := by decide +kernel
theorem dX9_handle_54 : decode cX9_handle 54 = .ok (.iconst 1, 1) := by decide +kernel
theorem dX9_handle_55 : decode cX9_handle 55 = .ok (.if_icmp .ne 16, 3) := by decide +kernel
theorem dX9_handle_58 : decode cX9_handle 58 = .ok (.aload_n 0, 1) := by decide +kernel
theorem dX9_handle_59 : decode cX9_handle 59 = .ok (.iload_n 3, 1) := by decide +kernel
theorem dX9_handle_60 : decode cX9_handle 60 = .ok (.iload 4, 2) := by decide +kernel
theorem dX9_handle_62 : decode cX9_handle 62 = .ok (.iload 5, 2) := by decide +kernel
theorem dX9_handle_64 : decode cX9_handle 64 = .ok (.iload_n 2, 1) := by decide +kernel
theorem dX9_handle_65 : decode cX9_handle 65 = .ok (.invokevirtual 208, 3) := by decide +kernel
theorem dX9_handle_68 : decode cX9_handle 68 = .ok (.goto 13, 3) := by decide +kernel
theorem dX9_handle_71 : decode cX9_handle 71 = .ok (.aload_n 0, 1) := by decide +kernel
theorem dX9_handle_72 : decode cX9_handle 72 = .ok (.iload_n 3, 1) := by decide +kernel
theorem dX9_handle_73 : decode cX9_handle 73 = .ok (.iload 4, 2) := by decide +kernel
theorem dX9_handle_75 : decode cX9_handle 75 = .ok (.iload 5, 2) := by decide +kernel
theorem dX9_handle_77 : decode cX9_handle 77 = .ok (.iload_n 2, 1) := by decide +kernel
theorem dX9_handle_78 : decode cX9_handle 78 = .ok (.invokevirtual 211, 3) := by decide +kernel
theorem dX9_handle_81 : decode cX9_handle 81 = .ok (.return_, 1) := by decide +kernel
set_option maxRecDepth 20000 in
theorem ggX9_closedFor_X9_handle : GoodIn wsX9_closedFor wsX9_handle := goodIn_r _ [10, 11, 12, 5, 13, 14, 15, 16, 9, 17, 4, 2, 18, 3, 19, 20, 21, 22, 23, 24, 25, 1, 26, 27, 28, 29, 30, 31, 32, 33, 34, 35, 36, 37, 38, 39, 40, 41, 42, 43, 44, 45, 46, 47, 48, 49, 50, 51, 52, 53, 54, 55, 56, 57, 58, 59] (by decide +kernel) (by decide +kernel)
set_option maxRecDepth 20000 in
theorem gX9_closedFor_X9_handle : GoodIn wsX9_closedFor (wsV RX9 214 RX9 yX9_handle wsX9_handle) := goodIn_app (goodIn_of _ (by decide +kernel)) ggX9_closedFor_X9_handle
theorem dX9_closedFor_0 : decode cX9_closedFor 0 = .ok (.iconst 0, 1) := by decide +kernel
theorem dX9_closedFor_1 : decode cX9_closedFor 1 = .ok (.istore_n 2, 1) := by decide +kernel
theorem dX9_closedFor_2 : decode cX9_closedFor 2 = .ok (.iload_n 2, 1) := by decide +kernel
theorem dX9_closedFor_3 : decode cX9_closedFor 3 = .ok (.sipush 640, 3) := by decide +kernel
theorem dX9_closedFor_6 : decode cX9_closedFor 6 = .ok (.if_icmp .ge 24, 3) := by decide +kernel
theorem dX9_closedFor_9 : decode cX9_closedFor 9 = .ok (.aload_n 0, 1) := by decide +kernel
theorem dX9_closedFor_10 : decode cX9_closedFor 10 = .ok (.getfield 52, 3) := by decide +kernel
theorem dX9_closedFor_13 : decode cX9_closedFor 13 = .ok (.iload_n 2, 1) := by decide +kernel
theorem dX9_closedFor_14 : decode cX9_closedFor 14 = .ok (.iload_n 2, 1) := by decide +kernel
theorem dX9_closedFor_15 : decode cX9_closedFor 15 = .ok (.ifCond .ne 7, 3) := by decide +kernel
theorem dX9_closedFor_18 : decode cX9_closedFor 18 = .ok (.iconst 1, 1) := by decide +kernel
theorem dX9_closedFor_19 : decode cX9_closedFor 19 = .ok (.goto 4, 3) := by decide +kernel
theorem dX9_closedFor_22 : decode cX9_closedFor 22 = .ok (.iconst 0, 1) := by decide +kernel
theorem dX9_closedFor_23 : decode cX9_closedFor 23 = .ok (.bastore, 1) := by decide +kernel
theorem dX9_closedFor_24 : decode cX9_closedFor 24 = .ok (.iinc 2 1, 3) := by decide +kernel
theorem dX9_closedFor_27 : decode cX9_closedFor 27 = .ok (.goto (-25), 3) := by decide +kernel
theorem dX9_closedFor_30 : decode cX9_closedFor 30 = .ok (.iconst 0, 1) := by decide +kernel
theorem dX9_closedFor_31 : decode cX9_closedFor 31 = .ok (.istore_n 2, 1) := by decide +kernel
theorem dX9_closedFor_32 : decode cX9_closedFor 32 = .ok (.iload_n 2, 1) := by decide +kernel
theorem dX9_closedFor_33 : decode cX9_closedFor 33 = .ok (.bipush 8, 2) := by decide +kernel
theorem dX9_closedFor_35 : decode cX9_closedFor 35 = .ok (.if_icmp .ge 39, 3) := by decide +kernel
theorem dX9_closedFor_38 : decode cX9_closedFor 38 = .ok (.aload_n 0, 1) := by decide +kernel
theorem dX9_closedFor_39 : decode cX9_closedFor 39 = .ok (.getfield 55, 3) := by decide +kernel
theorem dX9_closedFor_42 : decode cX9_closedFor 42 = .ok (.iload_n 2, 1) := by decide +kernel
theorem dX9_closedFor_43 : decode cX9_closedFor 43 = .ok (.iload_n 2, 1) := by decide +kernel
theorem dX9_closedFor_44 : decode cX9_closedFor 44 = .ok (.ifCond .ne 7, 3) := by decide +kernel
theorem dX9_closedFor_47 : decode cX9_closedFor 47 = .ok (.iconst 1, 1) := by decide +kernel
theorem dX9_closedFor_48 : decode cX9_closedFor 48 = .ok (.goto 4, 3) := by decide +kernel
theorem dX9_closedFor_51 : decode cX9_closedFor 51 = .ok (.iconst 0, 1) := by decide +kernel
theorem dX9_closedFor_52 : decode cX9_closedFor 52 = .ok (.bastore, 1) := by decide +kernel
theorem dX9_closedFor_53 : decode cX9_closedFor 53 = .ok (.aload_n 0, 1) := by decide +kernel
theorem dX9_closedFor_54 : decode cX9_closedFor 54 = .ok (.getfield 58, 3) := by decide +kernel
theorem dX9_closedFor_57 : decode cX9_closedFor 57 = .ok (.iload_n 2, 1) := by decide +kernel
theorem dX9_closedFor_58 : decode cX9_closedFor 58 = .ok (.iload_n 2, 1) := by decide +kernel
theorem dX9_closedFor_59 : decode cX9_closedFor 59 = .ok (.ifCond .ne 7, 3) := by decide +kernel
theorem dX9_closedFor_62 : decode cX9_closedFor 62 = .ok (.iconst 1, 1) := by decide +kernel
theorem dX9_closedFor_63 : decode cX9_closedFor 63 = .ok (.goto 4, 3) := by decide +kernel
theorem dX9_closedFor_66 : decode cX9_closedFor 66 = .ok (.iconst 0, 1) := by decide +kernel
theorem dX9_closedFor_67 : decode cX9_closedFor 67 = .ok (.bastore, 1) := by decide +kernel
theorem dX9_closedFor_68 : decode cX9_closedFor 68 = .ok (.iinc 2 1, 3) := by decide +kernel
theorem dX9_closedFor_71 : decode cX9_closedFor 71 = .ok (.goto (-39), 3) := by decide +kernel
theorem dX9_closedFor_74 : decode cX9_closedFor 74 = .ok (.aload_n 0, 1) := by decide +kernel
theorem dX9_closedFor_75 : decode cX9_closedFor 75 = .ok (.iconst 1, 1) := by decide +kernel
theorem dX9_closedFor_76 : decode cX9_closedFor 76 = .ok (.putfield 194, 3) := by decide +kernel
theorem dX9_closedFor_79 : decode cX9_closedFor 79 = .ok (.aload_n 0, 1) := by decide +kernel
theorem dX9_closedFor_80 : decode cX9_closedFor 80 = .ok (.iconst 0, 1) := by decide +kernel
theorem dX9_closedFor_81 : decode cX9_closedFor 81 = .ok (.putfield 205, 3) := by decide +kernel
theorem dX9_closedFor_84 : decode cX9_closedFor 84 = .ok (.aload_n 0, 1) := by decide +kernel
theorem dX9_closedFor_85 : decode cX9_closedFor 85 = .ok (.getfield 194, 3) := by decide +kernel
theorem dX9_closedFor_88 : decode cX9_closedFor 88 = .ok (.ifCond .eq 55, 3) := by decide +kernel
theorem dX9_closedFor_91 : decode cX9_closedFor 91 = .ok (.aload_n 0, 1) := by decide +kernel
theorem dX9_closedFor_92 : decode cX9_closedFor 92 = .ok (.getfield 205, 3) := by decide +kernel
theorem dX9_closedFor_95 : decode cX9_closedFor 95 = .ok (.ifCond .ne 48, 3) := by decide +kernel
theorem dX9_closedFor_98 : decode cX9_closedFor 98 = .ok (.aload_n 0, 1) := by decide +kernel
theorem dX9_closedFor_99 : decode cX9_closedFor 99 = .ok (.iconst 0, 1) := by decide +kernel
theorem dX9_closedFor_100 : decode cX9_closedFor 100 = .ok (.putfield 194, 3) := by decide +kernel
theorem dX9_closedFor_103 : decode cX9_closedFor 103 = .ok (.iconst 0, 1) := by decide +kernel
theorem dX9_closedFor_104 : decode cX9_closedFor 104 = .ok (.istore_n 2, 1) := by decide +kernel
theorem dX9_closedFor_105 : decode cX9_closedFor 105 = .ok (.iload_n 2, 1) := by decide +kernel
theorem dX9_closedFor_106 : decode cX9_closedFor 106 = .ok (.sipush 640, 3) := by decide +kernel
theorem dX9_closedFor_109 : decode cX9_closedFor 109 = .ok (.if_icmp .ge 31, 3) := by decide +kernel
theorem dX9_closedFor_112 : decode cX9_closedFor 112 = .ok (.aload_n 0, 1) := by decide +kernel
theorem dX9_closedFor_113 : decode cX9_closedFor 113 = .ok (.getfield 205, 3) := by decide +kernel
theorem dX9_closedFor_116 : decode cX9_closedFor 116 = .ok (.ifCond .ne 24, 3) := by decide +kernel
theorem dX9_closedFor_119 : decode cX9_closedFor 119 = .ok (.aload_n 0, 1) := by decide +kernel
theorem dX9_closedFor_120 : decode cX9_closedFor 120 = .ok (.getfield 52, 3) := by decide +kernel
theorem dX9_closedFor_123 : decode cX9_closedFor 123 = .ok (.iload_n 2, 1) := by decide +kernel
theorem dX9_closedFor_124 : decode cX9_closedFor 124 = .ok (.baload, 1) := by decide +kernel
theorem dX9_closedFor_125 : decode cX9_closedFor 125 = .ok (.ifCond .eq 9, 3) := by decide +kernel
theorem dX9_closedFor_128 : decode cX9_closedFor 128 = .ok (.aload_n 0, 1) := by decide +kernel
theorem dX9_closedFor_129 : decode cX9_closedFor 129 = .ok (.iload_n 2, 1) := by decide +kernel
theorem dX9_closedFor_130 : decode cX9_closedFor 130 = .ok (.iload_n 1, 1) := by decide +kernel
theorem dX9_closedFor_131 : decode cX9_closedFor 131 = .ok (.invokevirtual 214, 3) := by decide +kernel
theorem dX9_closedFor_134 : decode cX9_closedFor 134 = .ok (.iinc 2 1, 3) := by decide +kernel
theorem dX9_closedFor_137 : decode cX9_closedFor 137 = .ok (.goto (-32), 3) := by decide +kernel
theorem dX9_closedFor_140 : decode cX9_closedFor 140 = .ok (.goto (-56), 3) := by decide +kernel
theorem dX9_closedFor_143 : decode cX9_closedFor 143 = .ok (.iconst 0, 1) := by decide +kernel
theorem dX9_closedFor_144 : decode cX9_closedFor 144 = .ok (.istore_n 2, 1) := by decide +kernel
theorem dX9_closedFor_145 : decode cX9_closedFor 145 = .ok (.iconst 0, 1) := by decide +kernel
theorem dX9_closedFor_146 : decode cX9_closedFor 146 = .ok (.istore_n 3, 1) := by decide +kernel
theorem dX9_closedFor_147 : decode cX9_closedFor 147 = .ok (.iload_n 3, 1) := by decide +kernel
theorem dX9_closedFor_148 : decode cX9_closedFor 148 = .ok (.sipush 640, 3) := by decide +kernel
theorem dX9_closedFor_151 : decode cX9_closedFor 151 = .ok (.if_icmp .ge 26, 3) := by decide +kernel
theorem dX9_closedFor_154 : decode cX9_closedFor 154 = .ok (.iload_n 2, 1) := by decide +kernel
theorem dX9_closedFor_155 : decode cX9_closedFor 155 = .ok (.aload_n 0, 1) := by decide +kernel
theorem dX9_closedFor_156 : decode cX9_closedFor 156 = .ok (.getfield 52, 3) := by decide +kernel
theorem dX9_closedFor_159 : decode cX9_closedFor 159 = .ok (.iload_n 3, 1) := by decide +kernel
theorem dX9_closedFor_160 : decode cX9_closedFor 160 = .ok (.baload, 1) := by decide +kernel
theorem dX9_closedFor_161 : decode cX9_closedFor 161 = .ok (.ifCond .eq 7, 3) := by decide +kernel
theorem dX9_closedFor_164 : decode cX9_closedFor 164 = .ok (.iconst 1, 1) := by decide +kernel
theorem dX9_closedFor_165 : decode cX9_closedFor 165 = .ok (.goto 4, 3) := by decide +kernel
theorem dX9_closedFor_168 : decode cX9_closedFor 168 = .ok (.iconst 0, 1) := by decide +kernel
theorem dX9_closedFor_169 : decode cX9_closedFor 169 = .ok (.iadd, 1) := by decide +kernel
theorem dX9_closedFor_170 : decode cX9_closedFor 170 = .ok (.istore_n 2, 1) := by decide +kernel
theorem dX9_closedFor_171 : decode cX9_closedFor 171 = .ok (.iinc 3 1, 3) := by decide +kernel
theorem dX9_closedFor_174 : decode cX9_closedFor 174 = .ok (.goto (-27), 3) := by decide +kernel
theorem dX9_closedFor_177 : decode cX9_closedFor 177 = .ok (.aload_n 0, 1) := by decide +kernel
theorem dX9_closedFor_178 : decode cX9_closedFor 178 = .ok (.getfield 205, 3) := by decide +kernel
theorem dX9_closedFor_181 : decode cX9_closedFor 181 = .ok (.ifCond .eq 9, 3) := by decide +kernel
theorem dX9_closedFor_184 : decode cX9_closedFor 184 = .ok (.sipush (-1005), 3) := by decide +kernel
theorem dX9_closedFor_187 : decode cX9_closedFor 187 = .ok (.goto 4, 3) := by decide +kernel
theorem dX9_closedFor_190 : decode cX9_closedFor 190 = .ok (.iload_n 2, 1) := by decide +kernel
theorem dX9_closedFor_191 : decode cX9_closedFor 191 = .ok (.ireturn, 1) := by decide +kernel
set_option maxRecDepth 20000 in
theorem ggX9_closedSet_X9_in : GoodIn wsX9_closedSet wsX9_in := goodIn_r _ [4] (by decide +kernel) (by decide +kernel)
set_option maxRecDepth 20000 in
theorem gX9_closedSet_X9_in : GoodIn wsX9_closedSet (va_wsS RX9 64 yX9_in wsX9_in) := goodIn_app (goodIn_of _ (by decide +kernel)) ggX9_closedSet_X9_in
set_option maxRecDepth 20000 in
theorem ggX9_closedSet_X9_closedFor : GoodIn wsX9_closedSet wsX9_closedFor := goodIn_r _ [8, 9, 10, 11, 12, 13, 14, 15, 16, 3, 17, 18, 19, 20, 21, 22, 23, 24, 25, 26, 27, 28, 29, 30, 31, 32, 33, 34, 35, 36, 37, 38, 39, 40, 41, 42, 43, 44, 45, 46, 47, 48, 49, 50, 51, 52, 53, 54, 55, 56, 57, 58, 59, 60, 61, 62, 63, 64, 65, 66] (by decide +kernel) (by decide +kernel)
set_option maxRecDepth 20000 in
theorem gX9_closedSet_X9_closedFor : GoodIn wsX9_closedSet (wsV RX9 217 RX9 yX9_closedFor wsX9_closedFor) := goodIn_app (goodIn_of _ (by decide +kernel)) ggX9_closedSet_X9_closedFor
theorem dX9_closedSet_0 : decode cX9_closedSet 0 = .ok (.iload_n 1, 1) := by decide +kernel
theorem dX9_closedSet_1 : decode cX9_closedSet 1 = .ok (.iconst 1, 1) := by decide +kernel
theorem dX9_closedSet_2 : decode cX9_closedSet 2 = .ok (.iconst 3, 1) := by decide +kernel
theorem dX9_closedSet_3 : decode cX9_closedSet 3 = .ok (.invokestatic 64, 3) := by decide +kernel
theorem dX9_closedSet_6 : decode cX9_closedSet 6 = .ok (.ifCond .eq 11, 3) := by decide +kernel
theorem dX9_closedSet_9 : decode cX9_closedSet 9 = .ok (.aload_n 0, 1) := by decide +kernel
theorem dX9_closedSet_10 : decode cX9_closedSet 10 = .ok (.iload_n 1, 1) := by decide +kernel
theorem dX9_closedSet_11 : decode cX9_closedSet 11 = .ok (.invokevirtual 217, 3) := by decide +kernel
theorem dX9_closedSet_14 : decode cX9_closedSet 14 = .ok (.goto 6, 3) := by decide +kernel
theorem dX9_closedSet_17 : decode cX9_closedSet 17 = .ok (.sipush (-1002), 3) := by decide +kernel
theorem dX9_closedSet_20 : decode cX9_closedSet 20 = .ok (.ireturn, 1) := by decide +kernel
set_option maxRecDepth 20000 in
theorem ggX9_decide_X9_isLimit : GoodIn wsX9_decide wsX9_isLimit := goodIn_r _ [7, 8, 9, 6, 10] (by decide +kernel) (by decide +kernel)
set_option maxRecDepth 20000 in
theorem gX9_decide_X9_isLimit : GoodIn wsX9_decide (va_wsS RX9 128 yX9_isLimit wsX9_isLimit) := goodIn_app (goodIn_of _ (by decide +kernel)) ggX9_decide_X9_isLimit
set_option maxRecDepth 20000 in
theorem ggX9_decide_X9_simulate : GoodIn wsX9_decide wsX9_simulate := goodIn_r _ [14, 15, 16, 17, 1, 18, 19, 20, 21, 6, 22, 23, 24, 25, 26, 27, 28, 29, 30, 31, 32, 33, 34, 122, 123, 124, 125, 126, 127, 128, 129, 130, 131, 132, 133, 134, 135, 136, 137, 138, 139, 140, 141, 142, 143, 144, 145, 146, 147, 148, 149, 150, 151] (by decide +kernel) (by decide +kernel)
set_option maxRecDepth 20000 in
theorem gX9_decide_X9_simulate : GoodIn wsX9_decide (wsV RX9 131 RX9 yX9_simulate wsX9_simulate) := goodIn_app (goodIn_of _ (by decide +kernel)) ggX9_decide_X9_simulate
set_option maxRecDepth 20000 in
theorem ggX9_decide_X9_findCycle : GoodIn wsX9_decide wsX9_findCycle := goodIn_r _ [38, 2, 39, 18, 40, 41, 42, 6, 43, 17, 16, 15, 122, 123, 124, 125, 126, 127, 128, 129, 130, 131, 132, 133, 134, 135, 136, 137, 138, 139, 140, 141, 142, 143, 144, 145, 146, 147, 148, 149, 150, 151] (by decide +kernel) (by decide +kernel)
set_option maxRecDepth 20000 in
theorem gX9_decide_X9_findCycle : GoodIn wsX9_decide (wsV RX9 144 RX9 yX9_findCycle wsX9_findCycle) := goodIn_app (goodIn_of _ (by decide +kernel)) ggX9_decide_X9_findCycle
set_option maxRecDepth 20000 in
theorem ggX9_decide_X9_findDrift : GoodIn wsX9_decide wsX9_findDrift := goodIn_r _ [47, 3, 48, 18, 49, 50, 51, 6, 52, 16, 53, 54, 55, 56, 57, 58, 59, 60, 17, 24, 25, 26, 27, 15, 122, 123, 124, 125, 126, 127, 128, 129, 130, 131, 132, 133, 134, 135, 136, 137, 138, 139, 140, 141, 142, 143, 144, 145, 146, 147, 148, 149, 150, 151] (by decide +kernel) (by decide +kernel)
set_option maxRecDepth 20000 in
theorem gX9_decide_X9_findDrift : GoodIn wsX9_decide (wsV RX9 163 RX9 yX9_findDrift wsX9_findDrift) := goodIn_app (goodIn_of _ (by decide +kernel)) ggX9_decide_X9_findDrift
set_option maxRecDepth 20000 in
theorem ggX9_decide_X9_depthFor : GoodIn wsX9_decide wsX9_depthFor := goodIn_r _ [64, 65, 66, 67, 68, 6, 69, 70, 71, 23, 34, 72, 73, 74, 75, 76, 77, 78, 79, 80, 81, 82, 83, 84, 85, 86, 87, 88, 89, 90, 91, 92, 93, 33, 32, 122, 123, 124, 125, 126, 127, 128, 129, 130, 131, 132, 133, 134, 135, 136, 137, 138, 139, 140, 141, 142, 143, 144, 145, 146, 147, 148, 149, 150, 151] (by decide +kernel) (by decide +kernel)
set_option maxRecDepth 20000 in
theorem gX9_decide_X9_depthFor : GoodIn wsX9_decide (wsV RX9 190 RX9 yX9_depthFor wsX9_depthFor) := goodIn_app (goodIn_of _ (by decide +kernel)) ggX9_decide_X9_depthFor
set_option maxRecDepth 20000 in
theorem ggX9_decide_X9_closedFor : GoodIn wsX9_decide wsX9_closedFor := goodIn_r _ [97, 98, 99, 100, 101, 102, 103, 104, 105, 6, 106, 23, 34, 33, 107, 108, 109, 110, 32, 111, 112, 113, 114, 115, 116, 117, 118, 119, 120, 121, 122, 123, 124, 125, 126, 127, 128, 129, 130, 131, 132, 133, 134, 135, 136, 137, 138, 139, 140, 141, 142, 143, 144, 145, 146, 147, 148, 149, 150, 151] (by decide +kernel) (by decide +kernel)
set_option maxRecDepth 20000 in
theorem gX9_decide_X9_closedFor : GoodIn wsX9_decide (wsV RX9 217 RX9 yX9_closedFor wsX9_closedFor) := goodIn_app (goodIn_of _ (by decide +kernel)) ggX9_decide_X9_closedFor
theorem dX9_decide_0 : decode cX9_decide 0 = .ok (.iload_n 1, 1) := by decide +kernel
theorem dX9_decide_1 : decode cX9_decide 1 = .ok (.invokestatic 128, 3) := by decide +kernel
theorem dX9_decide_4 : decode cX9_decide 4 = .ok (.ifCond .ne 7, 3) := by decide +kernel
theorem dX9_decide_7 : decode cX9_decide 7 = .ok (.sipush (-1002), 3) := by decide +kernel
theorem dX9_decide_10 : decode cX9_decide 10 = .ok (.ireturn, 1) := by decide +kernel
theorem dX9_decide_11 : decode cX9_decide 11 = .ok (.aload_n 0, 1) := by decide +kernel
theorem dX9_decide_12 : decode cX9_decide 12 = .ok (.iload_n 1, 1) := by decide +kernel
theorem dX9_decide_13 : decode cX9_decide 13 = .ok (.invokevirtual 131, 3) := by decide +kernel
theorem dX9_decide_16 : decode cX9_decide 16 = .ok (.aload_n 0, 1) := by decide +kernel
theorem dX9_decide_17 : decode cX9_decide 17 = .ok (.invokevirtual 144, 3) := by decide +kernel
theorem dX9_decide_20 : decode cX9_decide 20 = .ok (.aload_n 0, 1) := by decide +kernel
theorem dX9_decide_21 : decode cX9_decide 21 = .ok (.invokevirtual 163, 3) := by decide +kernel
theorem dX9_decide_24 : decode cX9_decide 24 = .ok (.aload_n 0, 1) := by decide +kernel
theorem dX9_decide_25 : decode cX9_decide 25 = .ok (.getfield 116, 3) := by decide +kernel
theorem dX9_decide_28 : decode cX9_decide 28 = .ok (.ifCond .lt 5, 3) := by decide +kernel
theorem dX9_decide_31 : decode cX9_decide 31 = .ok (.iconst 1, 1) := by decide +kernel
theorem dX9_decide_32 : decode cX9_decide 32 = .ok (.ireturn, 1) := by decide +kernel
theorem dX9_decide_33 : decode cX9_decide 33 = .ok (.aload_n 0, 1) := by decide +kernel
theorem dX9_decide_34 : decode cX9_decide 34 = .ok (.getfield 134, 3) := by decide +kernel
theorem dX9_decide_37 : decode cX9_decide 37 = .ok (.ifCond .lt 5, 3) := by decide +kernel
theorem dX9_decide_40 : decode cX9_decide 40 = .ok (.iconst 2, 1) := by decide +kernel
theorem dX9_decide_41 : decode cX9_decide 41 = .ok (.ireturn, 1) := by decide +kernel
theorem dX9_decide_42 : decode cX9_decide 42 = .ok (.aload_n 0, 1) := by decide +kernel
theorem dX9_decide_43 : decode cX9_decide 43 = .ok (.getfield 150, 3) := by decide +kernel
theorem dX9_decide_46 : decode cX9_decide 46 = .ok (.ifCond .lt 5, 3) := by decide +kernel
theorem dX9_decide_49 : decode cX9_decide 49 = .ok (.iconst 3, 1) := by decide +kernel
theorem dX9_decide_50 : decode cX9_decide 50 = .ok (.ireturn, 1) := by decide +kernel
theorem dX9_decide_51 : decode cX9_decide 51 = .ok (.aload_n 0, 1) := by decide +kernel
theorem dX9_decide_52 : decode cX9_decide 52 = .ok (.bipush 8, 2) := by decide +kernel
theorem dX9_decide_54 : decode cX9_decide 54 = .ok (.invokevirtual 190, 3) := by decide +kernel
theorem dX9_decide_57 : decode cX9_decide 57 = .ok (.ifCond .lt 5, 3) := by decide +kernel
theorem dX9_decide_60 : decode cX9_decide 60 = .ok (.iconst 4, 1) := by decide +kernel
theorem dX9_decide_61 : decode cX9_decide 61 = .ok (.ireturn, 1) := by decide +kernel
theorem dX9_decide_62 : decode cX9_decide 62 = .ok (.aload_n 0, 1) := by decide +kernel
theorem dX9_decide_63 : decode cX9_decide 63 = .ok (.iconst 1, 1) := by decide +kernel
theorem dX9_decide_64 : decode cX9_decide 64 = .ok (.invokevirtual 217, 3) := by decide +kernel
theorem dX9_decide_67 : decode cX9_decide 67 = .ok (.ifCond .ge 19, 3) := by decide +kernel
theorem dX9_decide_70 : decode cX9_decide 70 = .ok (.aload_n 0, 1) := by decide +kernel
theorem dX9_decide_71 : decode cX9_decide 71 = .ok (.iconst 2, 1) := by decide +kernel
theorem dX9_decide_72 : decode cX9_decide 72 = .ok (.invokevirtual 217, 3) := by decide +kernel
theorem dX9_decide_75 : decode cX9_decide 75 = .ok (.ifCond .ge 11, 3) := by decide +kernel
theorem dX9_decide_78 : decode cX9_decide 78 = .ok (.aload_n 0, 1) := by decide +kernel
theorem dX9_decide_79 : decode cX9_decide 79 = .ok (.iconst 3, 1) := by decide +kernel
theorem dX9_decide_80 : decode cX9_decide 80 = .ok (.invokevirtual 217, 3) := by decide +kernel
theorem dX9_decide_83 : decode cX9_decide 83 = .ok (.ifCond .lt 7, 3) := by decide +kernel
theorem dX9_decide_86 : decode cX9_decide 86 = .ok (.iconst 5, 1) := by decide +kernel
theorem dX9_decide_87 : decode cX9_decide 87 = .ok (.goto 4, 3) := by decide +kernel
theorem dX9_decide_90 : decode cX9_decide 90 = .ok (.iconst 0, 1) := by decide +kernel
theorem dX9_decide_91 : decode cX9_decide 91 = .ok (.ireturn, 1) := by decide +kernel
