theorem dJ6_bitCount_0f7a4_0 : decode cJ6_bitCount_0f7a4 0 = .ok (.iload_n 0, 1) := by decide +kernel
theorem dJ6_bitCount_0f7a4_1 : decode cJ6_bitCount_0f7a4 1 = .ok (.iload_n 0, 1) := by decide +kernel
theorem dJ6_bitCount_0f7a4_2 : decode cJ6_bitCount_0f7a4 2 = .ok (.iconst 1, 1) := by decide +kernel
theorem dJ6_bitCount_0f7a4_3 : decode cJ6_bitCount_0f7a4 3 = .ok (.iushr, 1) := by decide +kernel
theorem dJ6_bitCount_0f7a4_4 : decode cJ6_bitCount_0f7a4 4 = .ok (.ldc_w 265, 3) := by decide +kernel
theorem dJ6_bitCount_0f7a4_7 : decode cJ6_bitCount_0f7a4 7 = .ok (.iand, 1) := by decide +kernel
theorem dJ6_bitCount_0f7a4_8 : decode cJ6_bitCount_0f7a4 8 = .ok (.isub, 1) := by decide +kernel
theorem dJ6_bitCount_0f7a4_9 : decode cJ6_bitCount_0f7a4 9 = .ok (.istore_n 0, 1) := by decide +kernel
theorem dJ6_bitCount_0f7a4_10 : decode cJ6_bitCount_0f7a4 10 = .ok (.iload_n 0, 1) := by decide +kernel
theorem dJ6_bitCount_0f7a4_11 : decode cJ6_bitCount_0f7a4 11 = .ok (.ldc_w 266, 3) := by decide +kernel
theorem dJ6_bitCount_0f7a4_14 : decode cJ6_bitCount_0f7a4 14 = .ok (.iand, 1) := by decide +kernel
theorem dJ6_bitCount_0f7a4_15 : decode cJ6_bitCount_0f7a4 15 = .ok (.iload_n 0, 1) := by decide +kernel
theorem dJ6_bitCount_0f7a4_16 : decode cJ6_bitCount_0f7a4 16 = .ok (.iconst 2, 1) := by decide +kernel
theorem dJ6_bitCount_0f7a4_17 : decode cJ6_bitCount_0f7a4 17 = .ok (.iushr, 1) := by decide +kernel
theorem dJ6_bitCount_0f7a4_18 : decode cJ6_bitCount_0f7a4 18 = .ok (.ldc_w 266, 3) := by decide +kernel
theorem dJ6_bitCount_0f7a4_21 : decode cJ6_bitCount_0f7a4 21 = .ok (.iand, 1) := by decide +kernel
theorem dJ6_bitCount_0f7a4_22 : decode cJ6_bitCount_0f7a4 22 = .ok (.iadd, 1) := by decide +kernel
theorem dJ6_bitCount_0f7a4_23 : decode cJ6_bitCount_0f7a4 23 = .ok (.istore_n 0, 1) := by decide +kernel
theorem dJ6_bitCount_0f7a4_24 : decode cJ6_bitCount_0f7a4 24 = .ok (.iload_n 0, 1) := by decide +kernel
theorem dJ6_bitCount_0f7a4_25 : decode cJ6_bitCount_0f7a4 25 = .ok (.iload_n 0, 1) := by decide +kernel
theorem dJ6_bitCount_0f7a4_26 : decode cJ6_bitCount_0f7a4 26 = .ok (.iconst 4, 1) := by decide +kernel
theorem dJ6_bitCount_0f7a4_27 : decode cJ6_bitCount_0f7a4 27 = .ok (.iushr, 1) := by decide +kernel
theorem dJ6_bitCount_0f7a4_28 : decode cJ6_bitCount_0f7a4 28 = .ok (.iadd, 1) := by decide +kernel
theorem dJ6_bitCount_0f7a4_29 : decode cJ6_bitCount_0f7a4 29 = .ok (.ldc_w 267, 3) := by decide +kernel
theorem dJ6_bitCount_0f7a4_32 : decode cJ6_bitCount_0f7a4 32 = .ok (.iand, 1) := by decide +kernel
theorem dJ6_bitCount_0f7a4_33 : decode cJ6_bitCount_0f7a4 33 = .ok (.istore_n 0, 1) := by decide +kernel
theorem dJ6_bitCount_0f7a4_34 : decode cJ6_bitCount_0f7a4 34 = .ok (.iload_n 0, 1) := by decide +kernel
theorem dJ6_bitCount_0f7a4_35 : decode cJ6_bitCount_0f7a4 35 = .ok (.iload_n 0, 1) := by decide +kernel
theorem dJ6_bitCount_0f7a4_36 : decode cJ6_bitCount_0f7a4 36 = .ok (.bipush 8, 2) := by decide +kernel
theorem dJ6_bitCount_0f7a4_38 : decode cJ6_bitCount_0f7a4 38 = .ok (.iushr, 1) := by decide +kernel
theorem dJ6_bitCount_0f7a4_39 : decode cJ6_bitCount_0f7a4 39 = .ok (.iadd, 1) := by decide +kernel
theorem dJ6_bitCount_0f7a4_40 : decode cJ6_bitCount_0f7a4 40 = .ok (.istore_n 0, 1) := by decide +kernel
theorem dJ6_bitCount_0f7a4_41 : decode cJ6_bitCount_0f7a4 41 = .ok (.iload_n 0, 1) := by decide +kernel
theorem dJ6_bitCount_0f7a4_42 : decode cJ6_bitCount_0f7a4 42 = .ok (.iload_n 0, 1) := by decide +kernel
theorem dJ6_bitCount_0f7a4_43 : decode cJ6_bitCount_0f7a4 43 = .ok (.bipush 16, 2) := by decide +kernel
theorem dJ6_bitCount_0f7a4_45 : decode cJ6_bitCount_0f7a4 45 = .ok (.iushr, 1) := by decide +kernel
theorem dJ6_bitCount_0f7a4_46 : decode cJ6_bitCount_0f7a4 46 = .ok (.iadd, 1) := by decide +kernel
theorem dJ6_bitCount_0f7a4_47 : decode cJ6_bitCount_0f7a4 47 = .ok (.istore_n 0, 1) := by decide +kernel
theorem dJ6_bitCount_0f7a4_48 : decode cJ6_bitCount_0f7a4 48 = .ok (.iload_n 0, 1) := by decide +kernel
theorem dJ6_bitCount_0f7a4_49 : decode cJ6_bitCount_0f7a4 49 = .ok (.bipush 63, 2) := by decide +kernel
theorem dJ6_bitCount_0f7a4_51 : decode cJ6_bitCount_0f7a4 51 = .ok (.iand, 1) := by decide +kernel
theorem dJ6_bitCount_0f7a4_52 : decode cJ6_bitCount_0f7a4 52 = .ok (.ireturn, 1) := by decide +kernel
theorem dJ9_max_7cf53_0 : decode cJ9_max_7cf53 0 = .ok (.iload_n 0, 1) := by decide +kernel
theorem dJ9_max_7cf53_1 : decode cJ9_max_7cf53 1 = .ok (.iload_n 1, 1) := by decide +kernel
theorem dJ9_max_7cf53_2 : decode cJ9_max_7cf53 2 = .ok (.if_icmp .lt 7, 3) := by decide +kernel
theorem dJ9_max_7cf53_5 : decode cJ9_max_7cf53 5 = .ok (.iload_n 0, 1) := by decide +kernel
theorem dJ9_max_7cf53_6 : decode cJ9_max_7cf53 6 = .ok (.goto 4, 3) := by decide +kernel
theorem dJ9_max_7cf53_9 : decode cJ9_max_7cf53 9 = .ok (.iload_n 1, 1) := by decide +kernel
theorem dJ9_max_7cf53_10 : decode cJ9_max_7cf53 10 = .ok (.ireturn, 1) := by decide +kernel
theorem dJ9_min_7cf53_0 : decode cJ9_min_7cf53 0 = .ok (.iload_n 0, 1) := by decide +kernel
theorem dJ9_min_7cf53_1 : decode cJ9_min_7cf53 1 = .ok (.iload_n 1, 1) := by decide +kernel
theorem dJ9_min_7cf53_2 : decode cJ9_min_7cf53 2 = .ok (.if_icmp .gt 7, 3) := by decide +kernel
theorem dJ9_min_7cf53_5 : decode cJ9_min_7cf53 5 = .ok (.iload_n 0, 1) := by decide +kernel
theorem dJ9_min_7cf53_6 : decode cJ9_min_7cf53 6 = .ok (.goto 4, 3) := by decide +kernel
theorem dJ9_min_7cf53_9 : decode cJ9_min_7cf53 9 = .ok (.iload_n 1, 1) := by decide +kernel
theorem dJ9_min_7cf53_10 : decode cJ9_min_7cf53 10 = .ok (.ireturn, 1) := by decide +kernel
theorem dJ7_fill_53178_0 : decode cJ7_fill_53178 0 = .ok (.iconst 0, 1) := by decide +kernel
theorem dJ7_fill_53178_1 : decode cJ7_fill_53178 1 = .ok (.istore_n 2, 1) := by decide +kernel
theorem dJ7_fill_53178_2 : decode cJ7_fill_53178 2 = .ok (.aload_n 0, 1) := by decide +kernel
theorem dJ7_fill_53178_3 : decode cJ7_fill_53178 3 = .ok (.arraylength, 1) := by decide +kernel
theorem dJ7_fill_53178_4 : decode cJ7_fill_53178 4 = .ok (.istore_n 3, 1) := by decide +kernel
theorem dJ7_fill_53178_5 : decode cJ7_fill_53178 5 = .ok (.iload_n 2, 1) := by decide +kernel
theorem dJ7_fill_53178_6 : decode cJ7_fill_53178 6 = .ok (.iload_n 3, 1) := by decide +kernel
theorem dJ7_fill_53178_7 : decode cJ7_fill_53178 7 = .ok (.if_icmp .ge 13, 3) := by decide +kernel
theorem dJ7_fill_53178_10 : decode cJ7_fill_53178 10 = .ok (.aload_n 0, 1) := by decide +kernel
theorem dJ7_fill_53178_11 : decode cJ7_fill_53178 11 = .ok (.iload_n 2, 1) := by decide +kernel
theorem dJ7_fill_53178_12 : decode cJ7_fill_53178 12 = .ok (.iload_n 1, 1) := by decide +kernel
theorem dJ7_fill_53178_13 : decode cJ7_fill_53178 13 = .ok (.iastore, 1) := by decide +kernel
theorem dJ7_fill_53178_14 : decode cJ7_fill_53178 14 = .ok (.iinc 2 1, 3) := by decide +kernel
theorem dJ7_fill_53178_17 : decode cJ7_fill_53178 17 = .ok (.goto (-12), 3) := by decide +kernel
theorem dJ7_fill_53178_20 : decode cJ7_fill_53178 20 = .ok (.return_, 1) := by decide +kernel
theorem dJ7_fill_031fb_0 : decode cJ7_fill_031fb 0 = .ok (.iconst 0, 1) := by decide +kernel
theorem dJ7_fill_031fb_1 : decode cJ7_fill_031fb 1 = .ok (.istore_n 2, 1) := by decide +kernel
theorem dJ7_fill_031fb_2 : decode cJ7_fill_031fb 2 = .ok (.aload_n 0, 1) := by decide +kernel
theorem dJ7_fill_031fb_3 : decode cJ7_fill_031fb 3 = .ok (.arraylength, 1) := by decide +kernel
theorem dJ7_fill_031fb_4 : decode cJ7_fill_031fb 4 = .ok (.istore_n 3, 1) := by decide +kernel
theorem dJ7_fill_031fb_5 : decode cJ7_fill_031fb 5 = .ok (.iload_n 2, 1) := by decide +kernel
theorem dJ7_fill_031fb_6 : decode cJ7_fill_031fb 6 = .ok (.iload_n 3, 1) := by decide +kernel
theorem dJ7_fill_031fb_7 : decode cJ7_fill_031fb 7 = .ok (.if_icmp .ge 13, 3) := by decide +kernel
theorem dJ7_fill_031fb_10 : decode cJ7_fill_031fb 10 = .ok (.aload_n 0, 1) := by decide +kernel
theorem dJ7_fill_031fb_11 : decode cJ7_fill_031fb 11 = .ok (.iload_n 2, 1) := by decide +kernel
theorem dJ7_fill_031fb_12 : decode cJ7_fill_031fb 12 = .ok (.iload_n 1, 1) := by decide +kernel
theorem dJ7_fill_031fb_13 : decode cJ7_fill_031fb 13 = .ok (.bastore, 1) := by decide +kernel
theorem dJ7_fill_031fb_14 : decode cJ7_fill_031fb 14 = .ok (.iinc 2 1, 3) := by decide +kernel
theorem dJ7_fill_031fb_17 : decode cJ7_fill_031fb 17 = .ok (.goto (-12), 3) := by decide +kernel
theorem dJ7_fill_031fb_20 : decode cJ7_fill_031fb 20 = .ok (.return_, 1) := by decide +kernel
set_option maxRecDepth 20000 in
theorem ggX2_init_X6_init : GoodIn wsX2_init wsX6_init := goodIn_r _ [10, 11, 2, 3, 12, 13, 14, 15, 16, 17, 18, 19, 20, 6, 21, 40, 41] (by decide +kernel) (by decide +kernel)
set_option maxRecDepth 20000 in
theorem gX2_init_X6_init : GoodIn wsX2_init (wsX6_init) := ggX2_init_X6_init
set_option maxRecDepth 20000 in
theorem ggX2_init_X2_begin : GoodIn wsX2_init wsX2_begin := goodIn_r _ [26, 7, 27, 28, 29, 30, 31, 32, 33, 34, 6, 35, 18, 36, 37, 38, 39, 42, 43, 44, 45, 46, 47, 40, 41] (by decide +kernel) (by decide +kernel)
set_option maxRecDepth 20000 in
theorem gX2_init_X2_begin : GoodIn wsX2_init (wsV RX2 20 RX2 yX2_begin wsX2_begin) := goodIn_app (goodIn_of _ (by decide +kernel)) ggX2_init_X2_begin
theorem dX2_init_0 : decode cX2_init 0 = .ok (.aload_n 0, 1) := by decide +kernel
theorem dX2_init_1 : decode cX2_init 1 = .ok (.invokespecial 3, 3) := by decide +kernel
theorem dX2_init_4 : decode cX2_init 4 = .ok (.aload_n 0, 1) := by decide +kernel
theorem dX2_init_5 : decode cX2_init 5 = .ok (.new 9, 3) := by decide +kernel
theorem dX2_init_8 : decode cX2_init 8 = .ok (.dup, 1) := by decide +kernel
theorem dX2_init_9 : decode cX2_init 9 = .ok (.iload_n 1, 1) := by decide +kernel
theorem dX2_init_10 : decode cX2_init 10 = .ok (.invokespecial 11, 3) := by decide +kernel
theorem dX2_init_13 : decode cX2_init 13 = .ok (.putfield 14, 3) := by decide +kernel
theorem dX2_init_16 : decode cX2_init 16 = .ok (.aload_n 0, 1) := by decide +kernel
theorem dX2_init_17 : decode cX2_init 17 = .ok (.invokevirtual 20, 3) := by decide +kernel
theorem dX2_init_20 : decode cX2_init 20 = .ok (.return_, 1) := by decide +kernel
set_option maxRecDepth 20000 in
theorem ggX2_begin_X6_clear : GoodIn wsX2_begin wsX6_clear := goodIn_r _ [11, 12, 13, 14, 15, 16, 23, 24] (by decide +kernel) (by decide +kernel)
set_option maxRecDepth 20000 in
theorem gX2_begin_X6_clear : GoodIn wsX2_begin (wsV RX2 23 RX6 yX6_clear wsX6_clear) := goodIn_app (goodIn_of _ (by decide +kernel)) ggX2_begin_X6_clear
theorem dX2_begin_0 : decode cX2_begin 0 = .ok (.aload_n 0, 1) := by decide +kernel
theorem dX2_begin_1 : decode cX2_begin 1 = .ok (.getfield 14, 3) := by decide +kernel
theorem dX2_begin_4 : decode cX2_begin 4 = .ok (.invokevirtual 23, 3) := by decide +kernel
theorem dX2_begin_7 : decode cX2_begin 7 = .ok (.aload_n 0, 1) := by decide +kernel
theorem dX2_begin_8 : decode cX2_begin 8 = .ok (.iconst 0, 1) := by decide +kernel
theorem dX2_begin_9 : decode cX2_begin 9 = .ok (.putfield 26, 3) := by decide +kernel
theorem dX2_begin_12 : decode cX2_begin 12 = .ok (.aload_n 0, 1) := by decide +kernel
theorem dX2_begin_13 : decode cX2_begin 13 = .ok (.iconst 0, 1) := by decide +kernel
theorem dX2_begin_14 : decode cX2_begin 14 = .ok (.putfield 30, 3) := by decide +kernel
theorem dX2_begin_17 : decode cX2_begin 17 = .ok (.aload_n 0, 1) := by decide +kernel
theorem dX2_begin_18 : decode cX2_begin 18 = .ok (.iconst 0, 1) := by decide +kernel
theorem dX2_begin_19 : decode cX2_begin 19 = .ok (.putfield 33, 3) := by decide +kernel
theorem dX2_begin_22 : decode cX2_begin 22 = .ok (.aload_n 0, 1) := by decide +kernel
theorem dX2_begin_23 : decode cX2_begin 23 = .ok (.iconst 0, 1) := by decide +kernel
theorem dX2_begin_24 : decode cX2_begin 24 = .ok (.putfield 36, 3) := by decide +kernel
theorem dX2_begin_27 : decode cX2_begin 27 = .ok (.aload_n 0, 1) := by decide +kernel
theorem dX2_begin_28 : decode cX2_begin 28 = .ok (.iconst 0, 1) := by decide +kernel
theorem dX2_begin_29 : decode cX2_begin 29 = .ok (.putfield 39, 3) := by decide +kernel
theorem dX2_begin_32 : decode cX2_begin 32 = .ok (.return_, 1) := by decide +kernel
set_option maxRecDepth 20000 in
theorem ggX2_isOver_X6_read : GoodIn wsX2_isOver wsX6_read := goodIn_r _ [8, 9, 10, 11, 12, 7, 13, 35, 36] (by decide +kernel) (by decide +kernel)
set_option maxRecDepth 20000 in
theorem gX2_isOver_X6_read : GoodIn wsX2_isOver (wsV RX2 42 RX6 yX6_read wsX6_read) := goodIn_app (goodIn_of _ (by decide +kernel)) ggX2_isOver_X6_read
set_option maxRecDepth 20000 in
theorem ggX2_isOver_X5_has : GoodIn wsX2_isOver wsX5_has := goodIn_r _ [18, 19, 20, 21, 17, 22, 23, 24, 25, 26, 27, 28, 37, 38, 39, 40] (by decide +kernel) (by decide +kernel)
set_option maxRecDepth 20000 in
theorem gX2_isOver_X5_has : GoodIn wsX2_isOver (wsV RX2 46 RX5 yX5_has wsX5_has) := goodIn_app (goodIn_of _ (by decide +kernel)) ggX2_isOver_X5_has
theorem dX2_isOver_0 : decode cX2_isOver 0 = .ok (.aload_n 0, 1) := by decide +kernel
theorem dX2_isOver_1 : decode cX2_isOver 1 = .ok (.getfield 26, 3) := by decide +kernel
theorem dX2_isOver_4 : decode cX2_isOver 4 = .ok (.bipush 9, 2) := by decide +kernel
theorem dX2_isOver_6 : decode cX2_isOver 6 = .ok (.if_icmp .eq 25, 3) := by decide +kernel
theorem dX2_isOver_9 : decode cX2_isOver 9 = .ok (.aload_n 1, 1) := by decide +kernel
theorem dX2_isOver_10 : decode cX2_isOver 10 = .ok (.aload_n 0, 1) := by decide +kernel
theorem dX2_isOver_11 : decode cX2_isOver 11 = .ok (.getfield 26, 3) := by decide +kernel
theorem dX2_isOver_14 : decode cX2_isOver 14 = .ok (.aload_n 0, 1) := by decide +kernel
theorem dX2_isOver_15 : decode cX2_isOver 15 = .ok (.getfield 14, 3) := by decide +kernel
theorem dX2_isOver_18 : decode cX2_isOver 18 = .ok (.aload_n 0, 1) := by decide +kernel
theorem dX2_isOver_19 : decode cX2_isOver 19 = .ok (.getfield 30, 3) := by decide +kernel
theorem dX2_isOver_22 : decode cX2_isOver 22 = .ok (.invokevirtual 42, 3) := by decide +kernel
theorem dX2_isOver_25 : decode cX2_isOver 25 = .ok (.invokevirtual 46, 3) := by decide +kernel
theorem dX2_isOver_28 : decode cX2_isOver 28 = .ok (.ifCond .ne 7, 3) := by decide +kernel
theorem dX2_isOver_31 : decode cX2_isOver 31 = .ok (.iconst 1, 1) := by decide +kernel
theorem dX2_isOver_32 : decode cX2_isOver 32 = .ok (.goto 4, 3) := by decide +kernel
theorem dX2_isOver_35 : decode cX2_isOver 35 = .ok (.iconst 0, 1) := by decide +kernel
theorem dX2_isOver_36 : decode cX2_isOver 36 = .ok (.ireturn, 1) := by decide +kernel
set_option maxRecDepth 20000 in
theorem ggX2_advance_X6_read : GoodIn wsX2_advance wsX6_read := goodIn_r _ [18, 19, 20, 21, 22, 17, 23, 55, 56] (by decide +kernel) (by decide +kernel)
set_option maxRecDepth 20000 in
theorem gX2_advance_X6_read : GoodIn wsX2_advance (wsV RX2 42 RX6 yX6_read wsX6_read) := goodIn_app (goodIn_of _ (by decide +kernel)) ggX2_advance_X6_read
set_option maxRecDepth 20000 in
theorem ggX2_advance_X5_writtenBy : GoodIn wsX2_advance wsX5_writtenBy := goodIn_r _ [28, 29, 30, 31, 32, 27, 33, 34, 57, 58, 59, 60] (by decide +kernel) (by decide +kernel)
set_option maxRecDepth 20000 in
theorem gX2_advance_X5_writtenBy : GoodIn wsX2_advance (wsV RX2 52 RX5 yX5_writtenBy wsX5_writtenBy) := goodIn_app (goodIn_of _ (by decide +kernel)) ggX2_advance_X5_writtenBy
set_option maxRecDepth 20000 in
theorem ggX2_advance_X6_write : GoodIn wsX2_advance wsX6_write := goodIn_r _ [38, 19, 20, 55, 56] (by decide +kernel) (by decide +kernel)
set_option maxRecDepth 20000 in
theorem gX2_advance_X6_write : GoodIn wsX2_advance (wsV RX2 56 RX6 yX6_write wsX6_write) := goodIn_app (goodIn_of _ (by decide +kernel)) ggX2_advance_X6_write
set_option maxRecDepth 20000 in
theorem ggX2_advance_X5_moveOf : GoodIn wsX2_advance wsX5_moveOf := goodIn_r _ [42, 43, 30, 31, 32, 27, 33, 34, 57, 58, 59, 60] (by decide +kernel) (by decide +kernel)
set_option maxRecDepth 20000 in
theorem gX2_advance_X5_moveOf : GoodIn wsX2_advance (wsV RX2 60 RX5 yX5_moveOf wsX5_moveOf) := goodIn_app (goodIn_of _ (by decide +kernel)) ggX2_advance_X5_moveOf
set_option maxRecDepth 20000 in
theorem ggX2_advance_X5_nextOf : GoodIn wsX2_advance wsX5_nextOf := goodIn_r _ [47, 48, 30, 31, 32, 27, 33, 34, 57, 58, 59, 60] (by decide +kernel) (by decide +kernel)
set_option maxRecDepth 20000 in
theorem gX2_advance_X5_nextOf : GoodIn wsX2_advance (wsV RX2 63 RX5 yX5_nextOf wsX5_nextOf) := goodIn_app (goodIn_of _ (by decide +kernel)) ggX2_advance_X5_nextOf
theorem dX2_advance_0 : decode cX2_advance 0 = .ok (.aload_n 0, 1) := by decide +kernel
theorem dX2_advance_1 : decode cX2_advance 1 = .ok (.getfield 14, 3) := by decide +kernel
theorem dX2_advance_4 : decode cX2_advance 4 = .ok (.aload_n 0, 1) := by decide +kernel
theorem dX2_advance_5 : decode cX2_advance 5 = .ok (.getfield 30, 3) := by decide +kernel
theorem dX2_advance_8 : decode cX2_advance 8 = .ok (.invokevirtual 42, 3) := by decide +kernel
theorem dX2_advance_11 : decode cX2_advance 11 = .ok (.istore_n 2, 1) := by decide +kernel
theorem dX2_advance_12 : decode cX2_advance 12 = .ok (.aload_n 0, 1) := by decide +kernel
theorem dX2_advance_13 : decode cX2_advance 13 = .ok (.getfield 14, 3) := by decide +kernel
theorem dX2_advance_16 : decode cX2_advance 16 = .ok (.aload_n 0, 1) := by decide +kernel
theorem dX2_advance_17 : decode cX2_advance 17 = .ok (.getfield 30, 3) := by decide +kernel
theorem dX2_advance_20 : decode cX2_advance 20 = .ok (.aload_n 1, 1) := by decide +kernel
theorem dX2_advance_21 : decode cX2_advance 21 = .ok (.aload_n 0, 1) := by decide +kernel
theorem dX2_advance_22 : decode cX2_advance 22 = .ok (.getfield 26, 3) := by decide +kernel
theorem dX2_advance_25 : decode cX2_advance 25 = .ok (.iload_n 2, 1) := by decide +kernel
theorem dX2_advance_26 : decode cX2_advance 26 = .ok (.invokevirtual 52, 3) := by decide +kernel
theorem dX2_advance_29 : decode cX2_advance 29 = .ok (.invokevirtual 56, 3) := by decide +kernel
theorem dX2_advance_32 : decode cX2_advance 32 = .ok (.aload_n 0, 1) := by decide +kernel
theorem dX2_advance_33 : decode cX2_advance 33 = .ok (.dup, 1) := by decide +kernel
theorem dX2_advance_34 : decode cX2_advance 34 = .ok (.getfield 30, 3) := by decide +kernel
theorem dX2_advance_37 : decode cX2_advance 37 = .ok (.aload_n 1, 1) := by decide +kernel
theorem dX2_advance_38 : decode cX2_advance 38 = .ok (.aload_n 0, 1) := by decide +kernel
theorem dX2_advance_39 : decode cX2_advance 39 = .ok (.getfield 26, 3) := by decide +kernel
theorem dX2_advance_42 : decode cX2_advance 42 = .ok (.iload_n 2, 1) := by decide +kernel
theorem dX2_advance_43 : decode cX2_advance 43 = .ok (.invokevirtual 60, 3) := by decide +kernel
theorem dX2_advance_46 : decode cX2_advance 46 = .ok (.iconst 1, 1) := by decide +kernel
theorem dX2_advance_47 : decode cX2_advance 47 = .ok (.if_icmp .ne 7, 3) := by decide +kernel
theorem dX2_advance_50 : decode cX2_advance 50 = .ok (.iconst 1, 1) := by decide +kernel
theorem dX2_advance_51 : decode cX2_advance 51 = .ok (.goto 4, 3) := by decide +kernel
theorem dX2_advance_54 : decode cX2_advance 54 = .ok (.iconst (-1), 1) := by decide +kernel
theorem dX2_advance_55 : decode cX2_advance 55 = .ok (.iadd, 1) := by decide +kernel
theorem dX2_advance_56 : decode cX2_advance 56 = .ok (.putfield 30, 3) := by decide +kernel
theorem dX2_advance_59 : decode cX2_advance 59 = .ok (.aload_n 0, 1) := by decide +kernel
theorem dX2_advance_60 : decode cX2_advance 60 = .ok (.aload_n 1, 1) := by decide +kernel
theorem dX2_advance_61 : decode cX2_advance 61 = .ok (.aload_n 0, 1) := by decide +kernel
theorem dX2_advance_62 : decode cX2_advance 62 = .ok (.getfield 26, 3) := by decide +kernel
theorem dX2_advance_65 : decode cX2_advance 65 = .ok (.iload_n 2, 1) := by decide +kernel
theorem dX2_advance_66 : decode cX2_advance 66 = .ok (.invokevirtual 63, 3) := by decide +kernel
theorem dX2_advance_69 : decode cX2_advance 69 = .ok (.putfield 26, 3) := by decide +kernel
theorem dX2_advance_72 : decode cX2_advance 72 = .ok (.aload_n 0, 1) := by decide +kernel
theorem dX2_advance_73 : decode cX2_advance 73 = .ok (.dup, 1) := by decide +kernel
theorem dX2_advance_74 : decode cX2_advance 74 = .ok (.getfield 33, 3) := by decide +kernel
theorem dX2_advance_77 : decode cX2_advance 77 = .ok (.iconst 1, 1) := by decide +kernel
theorem dX2_advance_78 : decode cX2_advance 78 = .ok (.iadd, 1) := by decide +kernel
theorem dX2_advance_79 : decode cX2_advance 79 = .ok (.putfield 33, 3) := by decide +kernel
theorem dX2_advance_82 : decode cX2_advance 82 = .ok (.aload_n 0, 1) := by decide +kernel
theorem dX2_advance_83 : decode cX2_advance 83 = .ok (.aload_n 0, 1) := by decide +kernel
theorem dX2_advance_84 : decode cX2_advance 84 = .ok (.getfield 36, 3) := by decide +kernel
theorem dX2_advance_87 : decode cX2_advance 87 = .ok (.aload_n 0, 1) := by decide +kernel
theorem dX2_advance_88 : decode cX2_advance 88 = .ok (.getfield 30, 3) := by decide +kernel
theorem dX2_advance_91 : decode cX2_advance 91 = .ok (.invokestatic 66, 3) := by decide +kernel
theorem dX2_advance_94 : decode cX2_advance 94 = .ok (.putfield 36, 3) := by decide +kernel
theorem dX2_advance_97 : decode cX2_advance 97 = .ok (.aload_n 0, 1) := by decide +kernel
theorem dX2_advance_98 : decode cX2_advance 98 = .ok (.aload_n 0, 1) := by decide +kernel
theorem dX2_advance_99 : decode cX2_advance 99 = .ok (.getfield 39, 3) := by decide +kernel
theorem dX2_advance_102 : decode cX2_advance 102 = .ok (.aload_n 0, 1) := by decide +kernel
theorem dX2_advance_103 : decode cX2_advance 103 = .ok (.getfield 30, 3) := by decide +kernel
theorem dX2_advance_106 : decode cX2_advance 106 = .ok (.invokestatic 71, 3) := by decide +kernel
theorem dX2_advance_109 : decode cX2_advance 109 = .ok (.putfield 39, 3) := by decide +kernel
theorem dX2_advance_112 : decode cX2_advance 112 = .ok (.return_, 1) := by decide +kernel
set_option maxRecDepth 20000 in
theorem ggX4_init_X4_clear : GoodIn wsX4_init wsX4_clear := goodIn_r _ [13, 14, 15, 16, 17, 18, 19, 20, 21] (by decide +kernel) (by decide +kernel)
set_option maxRecDepth 20000 in
theorem gX4_init_X4_clear : GoodIn wsX4_init (wsV RX4 22 RX4 yX4_clear wsX4_clear) := goodIn_app (goodIn_of _ (by decide +kernel)) ggX4_init_X4_clear
theorem dX4_init_0 : decode cX4_init 0 = .ok (.aload_n 0, 1) := by decide +kernel
theorem dX4_init_1 : decode cX4_init 1 = .ok (.invokespecial 1, 3) := by decide +kernel
theorem dX4_init_4 : decode cX4_init 4 = .ok (.aload_n 0, 1) := by decide +kernel
theorem dX4_init_5 : decode cX4_init 5 = .ok (.sipush 300, 3) := by decide +kernel
theorem dX4_init_8 : decode cX4_init 8 = .ok (.newarray .int, 2) := by decide +kernel
theorem dX4_init_10 : decode cX4_init 10 = .ok (.putfield 9, 3) := by decide +kernel
theorem dX4_init_13 : decode cX4_init 13 = .ok (.aload_n 0, 1) := by decide +kernel
theorem dX4_init_14 : decode cX4_init 14 = .ok (.sipush 300, 3) := by decide +kernel
theorem dX4_init_17 : decode cX4_init 17 = .ok (.newarray .int, 2) := by decide +kernel
theorem dX4_init_19 : decode cX4_init 19 = .ok (.putfield 13, 3) := by decide +kernel
theorem dX4_init_22 : decode cX4_init 22 = .ok (.aload_n 0, 1) := by decide +kernel
theorem dX4_init_23 : decode cX4_init 23 = .ok (.sipush 300, 3) := by decide +kernel
theorem dX4_init_26 : decode cX4_init 26 = .ok (.newarray .int, 2) := by decide +kernel
theorem dX4_init_28 : decode cX4_init 28 = .ok (.putfield 16, 3) := by decide +kernel
theorem dX4_init_31 : decode cX4_init 31 = .ok (.aload_n 0, 1) := by decide +kernel
theorem dX4_init_32 : decode cX4_init 32 = .ok (.sipush 300, 3) := by decide +kernel
theorem dX4_init_35 : decode cX4_init 35 = .ok (.newarray .int, 2) := by decide +kernel
theorem dX4_init_37 : decode cX4_init 37 = .ok (.putfield 19, 3) := by decide +kernel
theorem dX4_init_40 : decode cX4_init 40 = .ok (.aload_n 0, 1) := by decide +kernel
theorem dX4_init_41 : decode cX4_init 41 = .ok (.invokevirtual 22, 3) := by decide +kernel
theorem dX4_init_44 : decode cX4_init 44 = .ok (.return_, 1) := by decide +kernel
theorem dX4_clear_0 : decode cX4_clear 0 = .ok (.aload_n 0, 1) := by decide +kernel
theorem dX4_clear_1 : decode cX4_clear 1 = .ok (.iconst 0, 1) := by decide +kernel
theorem dX4_clear_2 : decode cX4_clear 2 = .ok (.putfield 25, 3) := by decide +kernel
theorem dX4_clear_5 : decode cX4_clear 5 = .ok (.aload_n 0, 1) := by decide +kernel
theorem dX4_clear_6 : decode cX4_clear 6 = .ok (.iconst 0, 1) := by decide +kernel
theorem dX4_clear_7 : decode cX4_clear 7 = .ok (.putfield 29, 3) := by decide +kernel
theorem dX4_clear_10 : decode cX4_clear 10 = .ok (.return_, 1) := by decide +kernel
theorem dX4_add_0 : decode cX4_add 0 = .ok (.aload_n 0, 1) := by decide +kernel
theorem dX4_add_1 : decode cX4_add 1 = .ok (.getfield 25, 3) := by decide +kernel
theorem dX4_add_4 : decode cX4_add 4 = .ok (.ifCond .lt 13, 3) := by decide +kernel
theorem dX4_add_7 : decode cX4_add 7 = .ok (.aload_n 0, 1) := by decide +kernel
theorem dX4_add_8 : decode cX4_add 8 = .ok (.getfield 25, 3) := by decide +kernel
theorem dX4_add_11 : decode cX4_add 11 = .ok (.sipush 300, 3) := by decide +kernel
theorem dX4_add_14 : decode cX4_add 14 = .ok (.if_icmp .lt 9, 3) := by decide +kernel
theorem dX4_add_17 : decode cX4_add 17 = .ok (.aload_n 0, 1) := by decide +kernel
theorem dX4_add_18 : decode cX4_add 18 = .ok (.iconst 1, 1) := by decide +kernel
theorem dX4_add_19 : decode cX4_add 19 = .ok (.putfield 29, 3) := by decide +kernel
theorem dX4_add_22 : decode cX4_add 22 = .ok (.return_, 1) := by decide +kernel
theorem dX4_add_23 : decode cX4_add 23 = .ok (.iconst 1, 1) := by decide +kernel
theorem dX4_add_24 : decode cX4_add 24 = .ok (.iload_n 2, 1) := by decide +kernel
theorem dX4_add_25 : decode cX4_add 25 = .ok (.ishl, 1) := by decide +kernel
theorem dX4_add_26 : decode cX4_add 26 = .ok (.istore 6, 2) := by decide +kernel
theorem dX4_add_28 : decode cX4_add 28 = .ok (.aload_n 0, 1) := by decide +kernel
theorem dX4_add_29 : decode cX4_add 29 = .ok (.getfield 9, 3) := by decide +kernel
theorem dX4_add_32 : decode cX4_add 32 = .ok (.aload_n 0, 1) := by decide +kernel
theorem dX4_add_33 : decode cX4_add 33 = .ok (.getfield 25, 3) := by decide +kernel
theorem dX4_add_36 : decode cX4_add 36 = .ok (.iload_n 1, 1) := by decide +kernel
theorem dX4_add_37 : decode cX4_add 37 = .ok (.iastore, 1) := by decide +kernel
theorem dX4_add_38 : decode cX4_add 38 = .ok (.aload_n 0, 1) := by decide +kernel
theorem dX4_add_39 : decode cX4_add 39 = .ok (.getfield 13, 3) := by decide +kernel
theorem dX4_add_42 : decode cX4_add 42 = .ok (.aload_n 0, 1) := by decide +kernel
theorem dX4_add_43 : decode cX4_add 43 = .ok (.getfield 25, 3) := by decide +kernel
theorem dX4_add_46 : decode cX4_add 46 = .ok (.iload_n 2, 1) := by decide +kernel
theorem dX4_add_47 : decode cX4_add 47 = .ok (.iastore, 1) := by decide +kernel
theorem dX4_add_48 : decode cX4_add 48 = .ok (.aload_n 0, 1) := by decide +kernel
theorem dX4_add_49 : decode cX4_add 49 = .ok (.getfield 16, 3) := by decide +kernel
theorem dX4_add_52 : decode cX4_add 52 = .ok (.aload_n 0, 1) := by decide +kernel
theorem dX4_add_53 : decode cX4_add 53 = .ok (.getfield 25, 3) := by decide +kernel
theorem dX4_add_56 : decode cX4_add 56 = .ok (.iload_n 3, 1) := by decide +kernel
theorem dX4_add_57 : decode cX4_add 57 = .ok (.iload 6, 2) := by decide +kernel
theorem dX4_add_59 : decode cX4_add 59 = .ok (.ior, 1) := by decide +kernel
theorem dX4_add_60 : decode cX4_add 60 = .ok (.iastore, 1) := by decide +kernel
theorem dX4_add_61 : decode cX4_add 61 = .ok (.aload_n 0, 1) := by decide +kernel
theorem dX4_add_62 : decode cX4_add 62 = .ok (.getfield 19, 3) := by decide +kernel
theorem dX4_add_65 : decode cX4_add 65 = .ok (.aload_n 0, 1) := by decide +kernel
theorem dX4_add_66 : decode cX4_add 66 = .ok (.getfield 25, 3) := by decide +kernel
theorem dX4_add_69 : decode cX4_add 69 = .ok (.iload 5, 2) := by decide +kernel
theorem dX4_add_71 : decode cX4_add 71 = .ok (.iconst 1, 1) := by decide +kernel
theorem dX4_add_72 : decode cX4_add 72 = .ok (.if_icmp .ne 11, 3) := by decide +kernel
theorem dX4_add_75 : decode cX4_add 75 = .ok (.iload 4, 2) := by decide +kernel
theorem dX4_add_77 : decode cX4_add 77 = .ok (.iload 6, 2) := by decide +kernel
theorem dX4_add_79 : decode cX4_add 79 = .ok (.ior, 1) := by decide +kernel
theorem dX4_add_80 : decode cX4_add 80 = .ok (.goto 10, 3) := by decide +kernel
theorem dX4_add_83 : decode cX4_add 83 = .ok (.iload 4, 2) := by decide +kernel
theorem dX4_add_85 : decode cX4_add 85 = .ok (.iload 6, 2) := by decide +kernel
theorem dX4_add_87 : decode cX4_add 87 = .ok (.iconst (-1), 1) := by decide +kernel
theorem dX4_add_88 : decode cX4_add 88 = .ok (.ixor, 1) := by decide +kernel
theorem dX4_add_89 : decode cX4_add 89 = .ok (.iand, 1) := by decide +kernel
theorem dX4_add_90 : decode cX4_add 90 = .ok (.iastore, 1) := by decide +kernel
theorem dX4_add_91 : decode cX4_add 91 = .ok (.aload_n 0, 1) := by decide +kernel
theorem dX4_add_92 : decode cX4_add 92 = .ok (.dup, 1) := by decide +kernel
theorem dX4_add_93 : decode cX4_add 93 = .ok (.getfield 25, 3) := by decide +kernel
theorem dX4_add_96 : decode cX4_add 96 = .ok (.iconst 1, 1) := by decide +kernel
theorem dX4_add_97 : decode cX4_add 97 = .ok (.iadd, 1) := by decide +kernel
theorem dX4_add_98 : decode cX4_add 98 = .ok (.putfield 25, 3) := by decide +kernel
theorem dX4_add_101 : decode cX4_add 101 = .ok (.return_, 1) := by decide +kernel
theorem dX4_matchesStart_0 : decode cX4_matchesStart 0 = .ok (.iconst 0, 1) := by decide +kernel
theorem dX4_matchesStart_1 : decode cX4_matchesStart 1 = .ok (.istore_n 1, 1) := by decide +kernel
theorem dX4_matchesStart_2 : decode cX4_matchesStart 2 = .ok (.iload_n 1, 1) := by decide +kernel
theorem dX4_matchesStart_3 : decode cX4_matchesStart 3 = .ok (.aload_n 0, 1) := by decide +kernel
theorem dX4_matchesStart_4 : decode cX4_matchesStart 4 = .ok (.getfield 25, 3) := by decide +kernel
theorem dX4_matchesStart_7 : decode cX4_matchesStart 7 = .ok (.if_icmp .ge 36, 3) := by decide +kernel
theorem dX4_matchesStart_10 : decode cX4_matchesStart 10 = .ok (.iload_n 1, 1) := by decide +kernel
theorem dX4_matchesStart_11 : decode cX4_matchesStart 11 = .ok (.sipush 300, 3) := by decide +kernel
theorem dX4_matchesStart_14 : decode cX4_matchesStart 14 = .ok (.if_icmp .ge 29, 3) := by decide +kernel
theorem dX4_matchesStart_17 : decode cX4_matchesStart 17 = .ok (.aload_n 0, 1) := by decide +kernel
theorem dX4_matchesStart_18 : decode cX4_matchesStart 18 = .ok (.getfield 9, 3) := by decide +kernel
theorem dX4_matchesStart_21 : decode cX4_matchesStart 21 = .ok (.iload_n 1, 1) := by decide +kernel
theorem dX4_matchesStart_22 : decode cX4_matchesStart 22 = .ok (.iaload, 1) := by decide +kernel
theorem dX4_matchesStart_23 : decode cX4_matchesStart 23 = .ok (.ifCond .ne 14, 3) := by decide +kernel
theorem dX4_matchesStart_26 : decode cX4_matchesStart 26 = .ok (.aload_n 0, 1) := by decide +kernel
theorem dX4_matchesStart_27 : decode cX4_matchesStart 27 = .ok (.getfield 19, 3) := by decide +kernel
theorem dX4_matchesStart_30 : decode cX4_matchesStart 30 = .ok (.iload_n 1, 1) := by decide +kernel
theorem dX4_matchesStart_31 : decode cX4_matchesStart 31 = .ok (.iaload, 1) := by decide +kernel
theorem dX4_matchesStart_32 : decode cX4_matchesStart 32 = .ok (.ifCond .ne 5, 3) := by decide +kernel
theorem dX4_matchesStart_35 : decode cX4_matchesStart 35 = .ok (.iconst 1, 1) := by decide +kernel
theorem dX4_matchesStart_36 : decode cX4_matchesStart 36 = .ok (.ireturn, 1) := by decide +kernel
theorem dX4_matchesStart_37 : decode cX4_matchesStart 37 = .ok (.iinc 1 1, 3) := by decide +kernel
theorem dX4_matchesStart_40 : decode cX4_matchesStart 40 = .ok (.goto (-38), 3) := by decide +kernel
theorem dX4_matchesStart_43 : decode cX4_matchesStart 43 = .ok (.iconst 0, 1) := by decide +kernel
theorem dX4_matchesStart_44 : decode cX4_matchesStart 44 = .ok (.ireturn, 1) := by decide +kernel
set_option maxRecDepth 20000 in
theorem ggX5_init_X5_reset : GoodIn wsX5_init wsX5_reset := goodIn_r _ [12, 13, 14, 15, 16, 17, 7, 18, 19, 20, 21, 22, 23, 24, 25] (by decide +kernel) (by decide +kernel)
set_option maxRecDepth 20000 in
theorem gX5_init_X5_reset : GoodIn wsX5_init (wsV RX5 21 RX5 yX5_reset wsX5_reset) := goodIn_app (goodIn_of _ (by decide +kernel)) ggX5_init_X5_reset
theorem dX5_init_0 : decode cX5_init 0 = .ok (.aload_n 0, 1) := by decide +kernel
theorem dX5_init_1 : decode cX5_init 1 = .ok (.invokespecial 3, 3) := by decide +kernel
theorem dX5_init_4 : decode cX5_init 4 = .ok (.aload_n 0, 1) := by decide +kernel
theorem dX5_init_5 : decode cX5_init 5 = .ok (.bipush 10, 2) := by decide +kernel
theorem dX5_init_7 : decode cX5_init 7 = .ok (.newarray .int, 2) := by decide +kernel
theorem dX5_init_9 : decode cX5_init 9 = .ok (.putfield 9, 3) := by decide +kernel
theorem dX5_init_12 : decode cX5_init 12 = .ok (.aload_n 0, 1) := by decide +kernel
theorem dX5_init_13 : decode cX5_init 13 = .ok (.bipush 10, 2) := by decide +kernel
theorem dX5_init_15 : decode cX5_init 15 = .ok (.newarray .int, 2) := by decide +kernel
theorem dX5_init_17 : decode cX5_init 17 = .ok (.putfield 15, 3) := by decide +kernel
theorem dX5_init_20 : decode cX5_init 20 = .ok (.aload_n 0, 1) := by decide +kernel
theorem dX5_init_21 : decode cX5_init 21 = .ok (.bipush 10, 2) := by decide +kernel
theorem dX5_init_23 : decode cX5_init 23 = .ok (.newarray .int, 2) := by decide +kernel
theorem dX5_init_25 : decode cX5_init 25 = .ok (.putfield 18, 3) := by decide +kernel
theorem dX5_init_28 : decode cX5_init 28 = .ok (.aload_n 0, 1) := by decide +kernel
theorem dX5_init_29 : decode cX5_init 29 = .ok (.iconst 2, 1) := by decide +kernel
theorem dX5_init_30 : decode cX5_init 30 = .ok (.invokevirtual 21, 3) := by decide +kernel
theorem dX5_init_33 : decode cX5_init 33 = .ok (.return_, 1) := by decide +kernel
set_option maxRecDepth 20000 in
theorem ggX5_reset_J7_fill_53178 : GoodIn wsX5_reset wsJ7_fill_53178 := goodIn_r _ [10] (by decide +kernel) (by decide +kernel)
set_option maxRecDepth 20000 in
theorem gX5_reset_J7_fill_53178 : GoodIn wsX5_reset (va_wsS RX5 35 yJ7_fill_53178 wsJ7_fill_53178) := goodIn_app (goodIn_of _ (by decide +kernel)) ggX5_reset_J7_fill_53178
theorem dX5_reset_0 : decode cX5_reset 0 = .ok (.aload_n 0, 1) := by decide +kernel
theorem dX5_reset_1 : decode cX5_reset 1 = .ok (.iload_n 1, 1) := by decide +kernel
theorem dX5_reset_2 : decode cX5_reset 2 = .ok (.iconst 5, 1) := by decide +kernel
theorem dX5_reset_3 : decode cX5_reset 3 = .ok (.invokestatic 25, 3) := by decide +kernel
theorem dX5_reset_6 : decode cX5_reset 6 = .ok (.putfield 31, 3) := by decide +kernel
theorem dX5_reset_9 : decode cX5_reset 9 = .ok (.aload_n 0, 1) := by decide +kernel
theorem dX5_reset_10 : decode cX5_reset 10 = .ok (.getfield 18, 3) := by decide +kernel
theorem dX5_reset_13 : decode cX5_reset 13 = .ok (.iconst (-1), 1) := by decide +kernel
theorem dX5_reset_14 : decode cX5_reset 14 = .ok (.invokestatic 35, 3) := by decide +kernel
theorem dX5_reset_17 : decode cX5_reset 17 = .ok (.return_, 1) := by decide +kernel
theorem dX5_exists_0 : decode cX5_exists 0 = .ok (.iload_n 1, 1) := by decide +kernel
theorem dX5_exists_1 : decode cX5_exists 1 = .ok (.ifCond .lt 15, 3) := by decide +kernel
theorem dX5_exists_4 : decode cX5_exists 4 = .ok (.iload_n 1, 1) := by decide +kernel
theorem dX5_exists_5 : decode cX5_exists 5 = .ok (.aload_n 0, 1) := by decide +kernel
theorem dX5_exists_6 : decode cX5_exists 6 = .ok (.getfield 31, 3) := by decide +kernel
theorem dX5_exists_9 : decode cX5_exists 9 = .ok (.if_icmp .ge 7, 3) := by decide +kernel
theorem dX5_exists_12 : decode cX5_exists 12 = .ok (.iconst 1, 1) := by decide +kernel
theorem dX5_exists_13 : decode cX5_exists 13 = .ok (.goto 4, 3) := by decide +kernel
theorem dX5_exists_16 : decode cX5_exists 16 = .ok (.iconst 0, 1) := by decide +kernel
theorem dX5_exists_17 : decode cX5_exists 17 = .ok (.ireturn, 1) := by decide +kernel
set_option maxRecDepth 20000 in
theorem ggX5_has_X5_nextOf : GoodIn wsX5_has wsX5_nextOf := goodIn_r _ [5, 6, 7, 8, 9, 4, 10, 11, 12, 13, 14, 15] (by decide +kernel) (by decide +kernel)
set_option maxRecDepth 20000 in
theorem gX5_has_X5_nextOf : GoodIn wsX5_has (wsV RX5 41 RX5 yX5_nextOf wsX5_nextOf) := goodIn_app (goodIn_of _ (by decide +kernel)) ggX5_has_X5_nextOf
theorem dX5_has_0 : decode cX5_has 0 = .ok (.aload_n 0, 1) := by decide +kernel
theorem dX5_has_1 : decode cX5_has 1 = .ok (.iload_n 1, 1) := by decide +kernel
theorem dX5_has_2 : decode cX5_has 2 = .ok (.iload_n 2, 1) := by decide +kernel
theorem dX5_has_3 : decode cX5_has 3 = .ok (.invokevirtual 41, 3) := by decide +kernel
theorem dX5_has_6 : decode cX5_has 6 = .ok (.iconst (-1), 1) := by decide +kernel
theorem dX5_has_7 : decode cX5_has 7 = .ok (.if_icmp .eq 7, 3) := by decide +kernel
theorem dX5_has_10 : decode cX5_has 10 = .ok (.iconst 1, 1) := by decide +kernel
theorem dX5_has_11 : decode cX5_has 11 = .ok (.goto 4, 3) := by decide +kernel
theorem dX5_has_14 : decode cX5_has 14 = .ok (.iconst 0, 1) := by decide +kernel
theorem dX5_has_15 : decode cX5_has 15 = .ok (.ireturn, 1) := by decide +kernel
set_option maxRecDepth 20000 in
theorem ggX5_endsAt_X5_slotOf : GoodIn wsX5_endsAt wsX5_slotOf := goodIn_r _ [6, 7, 8, 9, 10, 11] (by decide +kernel) (by decide +kernel)
set_option maxRecDepth 20000 in
theorem gX5_endsAt_X5_slotOf : GoodIn wsX5_endsAt (wsV RX5 44 RX5 yX5_slotOf wsX5_slotOf) := goodIn_app (goodIn_of _ (by decide +kernel)) ggX5_endsAt_X5_slotOf
theorem dX5_endsAt_0 : decode cX5_endsAt 0 = .ok (.aload_n 0, 1) := by decide +kernel
theorem dX5_endsAt_1 : decode cX5_endsAt 1 = .ok (.iload_n 1, 1) := by decide +kernel
theorem dX5_endsAt_2 : decode cX5_endsAt 2 = .ok (.iload_n 2, 1) := by decide +kernel
theorem dX5_endsAt_3 : decode cX5_endsAt 3 = .ok (.invokevirtual 44, 3) := by decide +kernel
theorem dX5_endsAt_6 : decode cX5_endsAt 6 = .ok (.istore_n 3, 1) := by decide +kernel
theorem dX5_endsAt_7 : decode cX5_endsAt 7 = .ok (.iload_n 3, 1) := by decide +kernel
theorem dX5_endsAt_8 : decode cX5_endsAt 8 = .ok (.iconst (-1), 1) := by decide +kernel
theorem dX5_endsAt_9 : decode cX5_endsAt 9 = .ok (.if_icmp .eq 24, 3) := by decide +kernel
theorem dX5_endsAt_12 : decode cX5_endsAt 12 = .ok (.aload_n 0, 1) := by decide +kernel
theorem dX5_endsAt_13 : decode cX5_endsAt 13 = .ok (.getfield 18, 3) := by decide +kernel
theorem dX5_endsAt_16 : decode cX5_endsAt 16 = .ok (.iload_n 3, 1) := by decide +kernel
theorem dX5_endsAt_17 : decode cX5_endsAt 17 = .ok (.iaload, 1) := by decide +kernel
theorem dX5_endsAt_18 : decode cX5_endsAt 18 = .ok (.iconst (-1), 1) := by decide +kernel
theorem dX5_endsAt_19 : decode cX5_endsAt 19 = .ok (.if_icmp .eq 14, 3) := by decide +kernel
theorem dX5_endsAt_22 : decode cX5_endsAt 22 = .ok (.aload_n 0, 1) := by decide +kernel
theorem dX5_endsAt_23 : decode cX5_endsAt 23 = .ok (.getfield 18, 3) := by decide +kernel
theorem dX5_endsAt_26 : decode cX5_endsAt 26 = .ok (.iload_n 3, 1) := by decide +kernel
theorem dX5_endsAt_27 : decode cX5_endsAt 27 = .ok (.iaload, 1) := by decide +kernel
theorem dX5_endsAt_28 : decode cX5_endsAt 28 = .ok (.bipush 9, 2) := by decide +kernel
theorem dX5_endsAt_30 : decode cX5_endsAt 30 = .ok (.if_icmp .ne 7, 3) := by decide +kernel
theorem dX5_endsAt_33 : decode cX5_endsAt 33 = .ok (.iconst 1, 1) := by decide +kernel
theorem dX5_endsAt_34 : decode cX5_endsAt 34 = .ok (.goto 4, 3) := by decide +kernel
theorem dX5_endsAt_37 : decode cX5_endsAt 37 = .ok (.iconst 0, 1) := by decide +kernel
theorem dX5_endsAt_38 : decode cX5_endsAt 38 = .ok (.ireturn, 1) := by decide +kernel
set_option maxRecDepth 20000 in
theorem ggX5_put_X5_slotOf : GoodIn wsX5_put wsX5_slotOf := goodIn_r _ [8, 9, 10, 11, 12, 13] (by decide +kernel) (by decide +kernel)
set_option maxRecDepth 20000 in
theorem gX5_put_X5_slotOf : GoodIn wsX5_put (wsV RX5 44 RX5 yX5_slotOf wsX5_slotOf) := goodIn_app (goodIn_of _ (by decide +kernel)) ggX5_put_X5_slotOf
theorem dX5_put_0 : decode cX5_put 0 = .ok (.aload_n 0, 1) := by decide +kernel
theorem dX5_put_1 : decode cX5_put 1 = .ok (.iload_n 1, 1) := by decide +kernel
theorem dX5_put_2 : decode cX5_put 2 = .ok (.iload_n 2, 1) := by decide +kernel
theorem dX5_put_3 : decode cX5_put 3 = .ok (.invokevirtual 44, 3) := by decide +kernel
theorem dX5_put_6 : decode cX5_put 6 = .ok (.istore 6, 2) := by decide +kernel
theorem dX5_put_8 : decode cX5_put 8 = .ok (.iload 6, 2) := by decide +kernel
theorem dX5_put_10 : decode cX5_put 10 = .ok (.iconst (-1), 1) := by decide +kernel
theorem dX5_put_11 : decode cX5_put 11 = .ok (.if_icmp .ne 4, 3) := by decide +kernel
theorem dX5_put_14 : decode cX5_put 14 = .ok (.return_, 1) := by decide +kernel
theorem dX5_put_15 : decode cX5_put 15 = .ok (.aload_n 0, 1) := by decide +kernel
theorem dX5_put_16 : decode cX5_put 16 = .ok (.getfield 9, 3) := by decide +kernel
theorem dX5_put_19 : decode cX5_put 19 = .ok (.iload 6, 2) := by decide +kernel
theorem dX5_put_21 : decode cX5_put 21 = .ok (.iload_n 3, 1) := by decide +kernel
theorem dX5_put_22 : decode cX5_put 22 = .ok (.iastore, 1) := by decide +kernel
theorem dX5_put_23 : decode cX5_put 23 = .ok (.aload_n 0, 1) := by decide +kernel
theorem dX5_put_24 : decode cX5_put 24 = .ok (.getfield 15, 3) := by decide +kernel
theorem dX5_put_27 : decode cX5_put 27 = .ok (.iload 6, 2) := by decide +kernel
theorem dX5_put_29 : decode cX5_put 29 = .ok (.iload 4, 2) := by decide +kernel
theorem dX5_put_31 : decode cX5_put 31 = .ok (.iastore, 1) := by decide +kernel
theorem dX5_put_32 : decode cX5_put 32 = .ok (.aload_n 0, 1) := by decide +kernel
theorem dX5_put_33 : decode cX5_put 33 = .ok (.getfield 18, 3) := by decide +kernel
theorem dX5_put_36 : decode cX5_put 36 = .ok (.iload 6, 2) := by decide +kernel
theorem dX5_put_38 : decode cX5_put 38 = .ok (.iload 5, 2) := by decide +kernel
theorem dX5_put_40 : decode cX5_put 40 = .ok (.iastore, 1) := by decide +kernel
theorem dX5_put_41 : decode cX5_put 41 = .ok (.return_, 1) := by decide +kernel
set_option maxRecDepth 20000 in
theorem ggX5_writtenBy_X5_slotOf : GoodIn wsX5_writtenBy wsX5_slotOf := goodIn_r _ [6, 7, 8, 9, 10, 11] (by decide +kernel) (by decide +kernel)
set_option maxRecDepth 20000 in
theorem gX5_writtenBy_X5_slotOf : GoodIn wsX5_writtenBy (wsV RX5 44 RX5 yX5_slotOf wsX5_slotOf) := goodIn_app (goodIn_of _ (by decide +kernel)) ggX5_writtenBy_X5_slotOf
theorem dX5_writtenBy_0 : decode cX5_writtenBy 0 = .ok (.aload_n 0, 1) := by decide +kernel
theorem dX5_writtenBy_1 : decode cX5_writtenBy 1 = .ok (.iload_n 1, 1) := by decide +kernel
theorem dX5_writtenBy_2 : decode cX5_writtenBy 2 = .ok (.iload_n 2, 1) := by decide +kernel
theorem dX5_writtenBy_3 : decode cX5_writtenBy 3 = .ok (.invokevirtual 44, 3) := by decide +kernel
theorem dX5_writtenBy_6 : decode cX5_writtenBy 6 = .ok (.istore_n 3, 1) := by decide +kernel
theorem dX5_writtenBy_7 : decode cX5_writtenBy 7 = .ok (.iload_n 3, 1) := by decide +kernel
theorem dX5_writtenBy_8 : decode cX5_writtenBy 8 = .ok (.iconst (-1), 1) := by decide +kernel
theorem dX5_writtenBy_9 : decode cX5_writtenBy 9 = .ok (.if_icmp .ne 7, 3) := by decide +kernel
theorem dX5_writtenBy_12 : decode cX5_writtenBy 12 = .ok (.iconst 0, 1) := by decide +kernel
theorem dX5_writtenBy_13 : decode cX5_writtenBy 13 = .ok (.goto 9, 3) := by decide +kernel
theorem dX5_writtenBy_16 : decode cX5_writtenBy 16 = .ok (.aload_n 0, 1) := by decide +kernel
theorem dX5_writtenBy_17 : decode cX5_writtenBy 17 = .ok (.getfield 9, 3) := by decide +kernel
theorem dX5_writtenBy_20 : decode cX5_writtenBy 20 = .ok (.iload_n 3, 1) := by decide +kernel
theorem dX5_writtenBy_21 : decode cX5_writtenBy 21 = .ok (.iaload, 1) := by decide +kernel
theorem dX5_writtenBy_22 : decode cX5_writtenBy 22 = .ok (.ireturn, 1) := by decide +kernel
set_option maxRecDepth 20000 in
theorem ggX5_moveOf_X5_slotOf : GoodIn wsX5_moveOf wsX5_slotOf := goodIn_r _ [6, 7, 8, 9, 10, 11] (by decide +kernel) (by decide +kernel)
set_option maxRecDepth 20000 in
theorem gX5_moveOf_X5_slotOf : GoodIn wsX5_moveOf (wsV RX5 44 RX5 yX5_slotOf wsX5_slotOf) := goodIn_app (goodIn_of _ (by decide +kernel)) ggX5_moveOf_X5_slotOf
theorem dX5_moveOf_0 : decode cX5_moveOf 0 = .ok (.aload_n 0, 1) := by decide +kernel
theorem dX5_moveOf_1 : decode cX5_moveOf 1 = .ok (.iload_n 1, 1) := by decide +kernel
theorem dX5_moveOf_2 : decode cX5_moveOf 2 = .ok (.iload_n 2, 1) := by decide +kernel
theorem dX5_moveOf_3 : decode cX5_moveOf 3 = .ok (.invokevirtual 44, 3) := by decide +kernel
theorem dX5_moveOf_6 : decode cX5_moveOf 6 = .ok (.istore_n 3, 1) := by decide +kernel
theorem dX5_moveOf_7 : decode cX5_moveOf 7 = .ok (.iload_n 3, 1) := by decide +kernel
theorem dX5_moveOf_8 : decode cX5_moveOf 8 = .ok (.iconst (-1), 1) := by decide +kernel
theorem dX5_moveOf_9 : decode cX5_moveOf 9 = .ok (.if_icmp .ne 7, 3) := by decide +kernel
theorem dX5_moveOf_12 : decode cX5_moveOf 12 = .ok (.iconst 0, 1) := by decide +kernel
theorem dX5_moveOf_13 : decode cX5_moveOf 13 = .ok (.goto 9, 3) := by decide +kernel
theorem dX5_moveOf_16 : decode cX5_moveOf 16 = .ok (.aload_n 0, 1) := by decide +kernel
theorem dX5_moveOf_17 : decode cX5_moveOf 17 = .ok (.getfield 15, 3) := by decide +kernel
theorem dX5_moveOf_20 : decode cX5_moveOf 20 = .ok (.iload_n 3, 1) := by decide +kernel
theorem dX5_moveOf_21 : decode cX5_moveOf 21 = .ok (.iaload, 1) := by decide +kernel
theorem dX5_moveOf_22 : decode cX5_moveOf 22 = .ok (.ireturn, 1) := by decide +kernel
set_option maxRecDepth 20000 in
theorem ggX5_nextOf_X5_slotOf : GoodIn wsX5_nextOf wsX5_slotOf := goodIn_r _ [6, 7, 8, 9, 10, 11] (by decide +kernel) (by decide +kernel)
set_option maxRecDepth 20000 in
theorem gX5_nextOf_X5_slotOf : GoodIn wsX5_nextOf (wsV RX5 44 RX5 yX5_slotOf wsX5_slotOf) := goodIn_app (goodIn_of _ (by decide +kernel)) ggX5_nextOf_X5_slotOf
theorem dX5_nextOf_0 : decode cX5_nextOf 0 = .ok (.aload_n 0, 1) := by decide +kernel
theorem dX5_nextOf_1 : decode cX5_nextOf 1 = .ok (.iload_n 1, 1) := by decide +kernel
theorem dX5_nextOf_2 : decode cX5_nextOf 2 = .ok (.iload_n 2, 1) := by decide +kernel
theorem dX5_nextOf_3 : decode cX5_nextOf 3 = .ok (.invokevirtual 44, 3) := by decide +kernel
theorem dX5_nextOf_6 : decode cX5_nextOf 6 = .ok (.istore_n 3, 1) := by decide +kernel
theorem dX5_nextOf_7 : decode cX5_nextOf 7 = .ok (.iload_n 3, 1) := by decide +kernel
theorem dX5_nextOf_8 : decode cX5_nextOf 8 = .ok (.iconst (-1), 1) := by decide +kernel
theorem dX5_nextOf_9 : decode cX5_nextOf 9 = .ok (.if_icmp .ne 7, 3) := by decide +kernel
theorem dX5_nextOf_12 : decode cX5_nextOf 12 = .ok (.iconst (-1), 1) := by decide +kernel
theorem dX5_nextOf_13 : decode cX5_nextOf 13 = .ok (.goto 9, 3) := by decide +kernel
theorem dX5_nextOf_16 : decode cX5_nextOf 16 = .ok (.aload_n 0, 1) := by decide +kernel
theorem dX5_nextOf_17 : decode cX5_nextOf 17 = .ok (.getfield 18, 3) := by decide +kernel
theorem dX5_nextOf_20 : decode cX5_nextOf 20 = .ok (.iload_n 3, 1) := by decide +kernel
theorem dX5_nextOf_21 : decode cX5_nextOf 21 = .ok (.iaload, 1) := by decide +kernel
theorem dX5_nextOf_22 : decode cX5_nextOf 22 = .ok (.ireturn, 1) := by decide +kernel
theorem dX5_slotOf_0 : decode cX5_slotOf 0 = .ok (.iload_n 1, 1) := by decide +kernel
theorem dX5_slotOf_1 : decode cX5_slotOf 1 = .ok (.ifCond .lt 24, 3) := by decide +kernel
theorem dX5_slotOf_4 : decode cX5_slotOf 4 = .ok (.iload_n 1, 1) := by decide +kernel
theorem dX5_slotOf_5 : decode cX5_slotOf 5 = .ok (.aload_n 0, 1) := by decide +kernel
theorem dX5_slotOf_6 : decode cX5_slotOf 6 = .ok (.getfield 31, 3) := by decide +kernel
theorem dX5_slotOf_9 : decode cX5_slotOf 9 = .ok (.if_icmp .ge 16, 3) := by decide +kernel
theorem dX5_slotOf_12 : decode cX5_slotOf 12 = .ok (.iload_n 2, 1) := by decide +kernel
theorem dX5_slotOf_13 : decode cX5_slotOf 13 = .ok (.ifCond .lt 12, 3) := by decide +kernel
theorem dX5_slotOf_16 : decode cX5_slotOf 16 = .ok (.iload_n 2, 1) := by decide +kernel
theorem dX5_slotOf_17 : decode cX5_slotOf 17 = .ok (.iconst 1, 1) := by decide +kernel
theorem dX5_slotOf_18 : decode cX5_slotOf 18 = .ok (.if_icmp .gt 7, 3) := by decide +kernel
theorem dX5_slotOf_21 : decode cX5_slotOf 21 = .ok (.iconst 1, 1) := by decide +kernel
theorem dX5_slotOf_22 : decode cX5_slotOf 22 = .ok (.goto 4, 3) := by decide +kernel
theorem dX5_slotOf_25 : decode cX5_slotOf 25 = .ok (.iconst 0, 1) := by decide +kernel
theorem dX5_slotOf_26 : decode cX5_slotOf 26 = .ok (.istore_n 3, 1) := by decide +kernel
theorem dX5_slotOf_27 : decode cX5_slotOf 27 = .ok (.iload_n 3, 1) := by decide +kernel
theorem dX5_slotOf_28 : decode cX5_slotOf 28 = .ok (.ifCond .eq 11, 3) := by decide +kernel
theorem dX5_slotOf_31 : decode cX5_slotOf 31 = .ok (.iconst 2, 1) := by decide +kernel
theorem dX5_slotOf_32 : decode cX5_slotOf 32 = .ok (.iload_n 1, 1) := by decide +kernel
theorem dX5_slotOf_33 : decode cX5_slotOf 33 = .ok (.imul, 1) := by decide +kernel
theorem dX5_slotOf_34 : decode cX5_slotOf 34 = .ok (.iload_n 2, 1) := by decide +kernel
theorem dX5_slotOf_35 : decode cX5_slotOf 35 = .ok (.iadd, 1) := by decide +kernel
theorem dX5_slotOf_36 : decode cX5_slotOf 36 = .ok (.goto 4, 3) := by decide +kernel
theorem dX5_slotOf_39 : decode cX5_slotOf 39 = .ok (.iconst (-1), 1) := by decide +kernel
theorem dX5_slotOf_40 : decode cX5_slotOf 40 = .ok (.ireturn, 1) := by decide +kernel
set_option maxRecDepth 20000 in
theorem ggX5_characterAt_X5_has : GoodIn wsX5_characterAt wsX5_has := goodIn_r _ [5, 6, 7, 8, 4, 9, 10, 11, 12, 13, 14, 15, 26, 27, 28, 29] (by decide +kernel) (by decide +kernel)
set_option maxRecDepth 20000 in
theorem gX5_characterAt_X5_has : GoodIn wsX5_characterAt (wsV RX5 47 RX5 yX5_has wsX5_has) := goodIn_app (goodIn_of _ (by decide +kernel)) ggX5_characterAt_X5_has
set_option maxRecDepth 20000 in
theorem ggX5_characterAt_X5_writtenBy : GoodIn wsX5_characterAt wsX5_writtenBy := goodIn_r _ [19, 20, 11, 12, 13, 4, 14, 15, 26, 27, 28, 29] (by decide +kernel) (by decide +kernel)
set_option maxRecDepth 20000 in
theorem gX5_characterAt_X5_writtenBy : GoodIn wsX5_characterAt (wsV RX5 51 RX5 yX5_writtenBy wsX5_writtenBy) := goodIn_app (goodIn_of _ (by decide +kernel)) ggX5_characterAt_X5_writtenBy
set_option maxRecDepth 20000 in
theorem ggX5_characterAt_X5_moveOf : GoodIn wsX5_characterAt wsX5_moveOf := goodIn_r _ [24, 25, 11, 12, 13, 4, 14, 15, 26, 27, 28, 29] (by decide +kernel) (by decide +kernel)
set_option maxRecDepth 20000 in
theorem gX5_characterAt_X5_moveOf : GoodIn wsX5_characterAt (wsV RX5 54 RX5 yX5_moveOf wsX5_moveOf) := goodIn_app (goodIn_of _ (by decide +kernel)) ggX5_characterAt_X5_moveOf
set_option maxRecDepth 20000 in
theorem ggX5_characterAt_X5_nextOf : GoodIn wsX5_characterAt wsX5_nextOf := goodIn_r _ [9, 10, 11, 12, 13, 4, 14, 15, 26, 27, 28, 29] (by decide +kernel) (by decide +kernel)
set_option maxRecDepth 20000 in
theorem gX5_characterAt_X5_nextOf : GoodIn wsX5_characterAt (wsV RX5 41 RX5 yX5_nextOf wsX5_nextOf) := goodIn_app (goodIn_of _ (by decide +kernel)) ggX5_characterAt_X5_nextOf
theorem dX5_characterAt_0 : decode cX5_characterAt 0 = .ok (.iload_n 2, 1) := by decide +kernel
theorem dX5_characterAt_1 : decode cX5_characterAt 1 = .ok (.bipush 6, 2) := by decide +kernel
theorem dX5_characterAt_3 : decode cX5_characterAt 3 = .ok (.if_icmp .ne 6, 3) := by decide +kernel
theorem dX5_characterAt_6 : decode cX5_characterAt 6 = .ok (.bipush 95, 2) := by decide +kernel
theorem dX5_characterAt_8 : decode cX5_characterAt 8 = .ok (.ireturn, 1) := by decide +kernel
theorem dX5_characterAt_9 : decode cX5_characterAt 9 = .ok (.iload_n 2, 1) := by decide +kernel
theorem dX5_characterAt_10 : decode cX5_characterAt 10 = .ok (.iconst 3, 1) := by decide +kernel
theorem dX5_characterAt_11 : decode cX5_characterAt 11 = .ok (.idiv, 1) := by decide +kernel
theorem dX5_characterAt_12 : decode cX5_characterAt 12 = .ok (.istore_n 3, 1) := by decide +kernel
theorem dX5_characterAt_13 : decode cX5_characterAt 13 = .ok (.aload_n 0, 1) := by decide +kernel
theorem dX5_characterAt_14 : decode cX5_characterAt 14 = .ok (.iload_n 1, 1) := by decide +kernel
theorem dX5_characterAt_15 : decode cX5_characterAt 15 = .ok (.iload_n 3, 1) := by decide +kernel
theorem dX5_characterAt_16 : decode cX5_characterAt 16 = .ok (.invokevirtual 47, 3) := by decide +kernel
theorem dX5_characterAt_19 : decode cX5_characterAt 19 = .ok (.ifCond .ne 6, 3) := by decide +kernel
theorem dX5_characterAt_22 : decode cX5_characterAt 22 = .ok (.bipush 45, 2) := by decide +kernel
theorem dX5_characterAt_24 : decode cX5_characterAt 24 = .ok (.ireturn, 1) := by decide +kernel
theorem dX5_characterAt_25 : decode cX5_characterAt 25 = .ok (.iload_n 2, 1) := by decide +kernel
theorem dX5_characterAt_26 : decode cX5_characterAt 26 = .ok (.iconst 3, 1) := by decide +kernel
theorem dX5_characterAt_27 : decode cX5_characterAt 27 = .ok (.irem, 1) := by decide +kernel
theorem dX5_characterAt_28 : decode cX5_characterAt 28 = .ok (.lookupswitch 56 #[(0, 28), (1, 38)], 28) := by decide +kernel
theorem dX5_characterAt_56 : decode cX5_characterAt 56 = .ok (.bipush 48, 2) := by decide +kernel
theorem dX5_characterAt_58 : decode cX5_characterAt 58 = .ok (.aload_n 0, 1) := by decide +kernel
theorem dX5_characterAt_59 : decode cX5_characterAt 59 = .ok (.iload_n 1, 1) := by decide +kernel
theorem dX5_characterAt_60 : decode cX5_characterAt 60 = .ok (.iload_n 3, 1) := by decide +kernel
theorem dX5_characterAt_61 : decode cX5_characterAt 61 = .ok (.invokevirtual 51, 3) := by decide +kernel
theorem dX5_characterAt_64 : decode cX5_characterAt 64 = .ok (.iadd, 1) := by decide +kernel
theorem dX5_characterAt_65 : decode cX5_characterAt 65 = .ok (.ireturn, 1) := by decide +kernel
theorem dX5_characterAt_66 : decode cX5_characterAt 66 = .ok (.aload_n 0, 1) := by decide +kernel
theorem dX5_characterAt_67 : decode cX5_characterAt 67 = .ok (.iload_n 1, 1) := by decide +kernel
theorem dX5_characterAt_68 : decode cX5_characterAt 68 = .ok (.iload_n 3, 1) := by decide +kernel
theorem dX5_characterAt_69 : decode cX5_characterAt 69 = .ok (.invokevirtual 54, 3) := by decide +kernel
theorem dX5_characterAt_72 : decode cX5_characterAt 72 = .ok (.iconst 1, 1) := by decide +kernel
theorem dX5_characterAt_73 : decode cX5_characterAt 73 = .ok (.if_icmp .ne 8, 3) := by decide +kernel
theorem dX5_characterAt_76 : decode cX5_characterAt 76 = .ok (.bipush 82, 2) := by decide +kernel
theorem dX5_characterAt_78 : decode cX5_characterAt 78 = .ok (.goto 5, 3) := by decide +kernel
theorem dX5_characterAt_81 : decode cX5_characterAt 81 = .ok (.bipush 76, 2) := by decide +kernel
theorem dX5_characterAt_83 : decode cX5_characterAt 83 = .ok (.ireturn, 1) := by decide +kernel
theorem dX5_characterAt_84 : decode cX5_characterAt 84 = .ok (.aload_n 0, 1) := by decide +kernel
theorem dX5_characterAt_85 : decode cX5_characterAt 85 = .ok (.iload_n 1, 1) := by decide +kernel
theorem dX5_characterAt_86 : decode cX5_characterAt 86 = .ok (.iload_n 3, 1) := by decide +kernel
theorem dX5_characterAt_87 : decode cX5_characterAt 87 = .ok (.invokevirtual 41, 3) := by decide +kernel
theorem dX5_characterAt_90 : decode cX5_characterAt 90 = .ok (.bipush 9, 2) := by decide +kernel
theorem dX5_characterAt_92 : decode cX5_characterAt 92 = .ok (.if_icmp .ne 8, 3) := by decide +kernel
theorem dX5_characterAt_95 : decode cX5_characterAt 95 = .ok (.bipush 90, 2) := by decide +kernel
theorem dX5_characterAt_97 : decode cX5_characterAt 97 = .ok (.goto 12, 3) := by decide +kernel
theorem dX5_characterAt_100 : decode cX5_characterAt 100 = .ok (.bipush 65, 2) := by decide +kernel
theorem dX5_characterAt_102 : decode cX5_characterAt 102 = .ok (.aload_n 0, 1) := by decide +kernel
theorem dX5_characterAt_103 : decode cX5_characterAt 103 = .ok (.iload_n 1, 1) := by decide +kernel
theorem dX5_characterAt_104 : decode cX5_characterAt 104 = .ok (.iload_n 3, 1) := by decide +kernel
theorem dX5_characterAt_105 : decode cX5_characterAt 105 = .ok (.invokevirtual 41, 3) := by decide +kernel
theorem dX5_characterAt_108 : decode cX5_characterAt 108 = .ok (.iadd, 1) := by decide +kernel
theorem dX5_characterAt_109 : decode cX5_characterAt 109 = .ok (.ireturn, 1) := by decide +kernel
set_option maxRecDepth 20000 in
theorem ggX5_copyFrom_X7_rowCount : GoodIn wsX5_copyFrom wsX7_rowCount := goodIn_r _ [6, 7, 45, 46] (by decide +kernel) (by decide +kernel)
set_option maxRecDepth 20000 in
theorem gX5_copyFrom_X7_rowCount : GoodIn wsX5_copyFrom (wsV RX5 57 RX7 yX7_rowCount wsX7_rowCount) := goodIn_app (goodIn_of _ (by decide +kernel)) ggX5_copyFrom_X7_rowCount
set_option maxRecDepth 20000 in
theorem ggX5_copyFrom_X5_reset : GoodIn wsX5_copyFrom wsX5_reset := goodIn_r _ [12, 13, 14, 15, 16, 1, 17, 18, 19, 20, 21, 41, 42, 43, 44] (by decide +kernel) (by decide +kernel)
set_option maxRecDepth 20000 in
theorem gX5_copyFrom_X5_reset : GoodIn wsX5_copyFrom (wsV RX5 21 RX5 yX5_reset wsX5_reset) := goodIn_app (goodIn_of _ (by decide +kernel)) ggX5_copyFrom_X5_reset
set_option maxRecDepth 20000 in
theorem ggX5_copyFrom_X5_copyEntry : GoodIn wsX5_copyFrom wsX5_copyEntry := goodIn_r _ [25, 26, 27, 28, 5, 29, 7, 30, 31, 32, 33, 11, 34, 35, 36, 17, 37, 38, 39, 40, 1, 45, 46, 41, 42, 43, 44] (by decide +kernel) (by decide +kernel)
set_option maxRecDepth 20000 in
theorem gX5_copyFrom_X5_copyEntry : GoodIn wsX5_copyFrom (wsV RX5 63 RX5 yX5_copyEntry wsX5_copyEntry) := goodIn_app (goodIn_of _ (by decide +kernel)) ggX5_copyFrom_X5_copyEntry
theorem dX5_copyFrom_0 : decode cX5_copyFrom 0 = .ok (.aload_n 0, 1) := by decide +kernel
theorem dX5_copyFrom_1 : decode cX5_copyFrom 1 = .ok (.aload_n 1, 1) := by decide +kernel
theorem dX5_copyFrom_2 : decode cX5_copyFrom 2 = .ok (.invokevirtual 57, 3) := by decide +kernel
theorem dX5_copyFrom_5 : decode cX5_copyFrom 5 = .ok (.invokevirtual 21, 3) := by decide +kernel
theorem dX5_copyFrom_8 : decode cX5_copyFrom 8 = .ok (.iconst 0, 1) := by decide +kernel
theorem dX5_copyFrom_9 : decode cX5_copyFrom 9 = .ok (.istore_n 2, 1) := by decide +kernel
theorem dX5_copyFrom_10 : decode cX5_copyFrom 10 = .ok (.iload_n 2, 1) := by decide +kernel
theorem dX5_copyFrom_11 : decode cX5_copyFrom 11 = .ok (.aload_n 0, 1) := by decide +kernel
theorem dX5_copyFrom_12 : decode cX5_copyFrom 12 = .ok (.getfield 31, 3) := by decide +kernel
theorem dX5_copyFrom_15 : decode cX5_copyFrom 15 = .ok (.if_icmp .ge 29, 3) := by decide +kernel
theorem dX5_copyFrom_18 : decode cX5_copyFrom 18 = .ok (.iconst 0, 1) := by decide +kernel
theorem dX5_copyFrom_19 : decode cX5_copyFrom 19 = .ok (.istore_n 3, 1) := by decide +kernel
theorem dX5_copyFrom_20 : decode cX5_copyFrom 20 = .ok (.iload_n 3, 1) := by decide +kernel
theorem dX5_copyFrom_21 : decode cX5_copyFrom 21 = .ok (.iconst 1, 1) := by decide +kernel
theorem dX5_copyFrom_22 : decode cX5_copyFrom 22 = .ok (.if_icmp .gt 16, 3) := by decide +kernel
theorem dX5_copyFrom_25 : decode cX5_copyFrom 25 = .ok (.aload_n 0, 1) := by decide +kernel
theorem dX5_copyFrom_26 : decode cX5_copyFrom 26 = .ok (.aload_n 1, 1) := by decide +kernel
theorem dX5_copyFrom_27 : decode cX5_copyFrom 27 = .ok (.iload_n 2, 1) := by decide +kernel
theorem dX5_copyFrom_28 : decode cX5_copyFrom 28 = .ok (.iload_n 3, 1) := by decide +kernel
theorem dX5_copyFrom_29 : decode cX5_copyFrom 29 = .ok (.invokevirtual 63, 3) := by decide +kernel
theorem dX5_copyFrom_32 : decode cX5_copyFrom 32 = .ok (.iinc 3 1, 3) := by decide +kernel
theorem dX5_copyFrom_35 : decode cX5_copyFrom 35 = .ok (.goto (-15), 3) := by decide +kernel
theorem dX5_copyFrom_38 : decode cX5_copyFrom 38 = .ok (.iinc 2 1, 3) := by decide +kernel
theorem dX5_copyFrom_41 : decode cX5_copyFrom 41 = .ok (.goto (-31), 3) := by decide +kernel
theorem dX5_copyFrom_44 : decode cX5_copyFrom 44 = .ok (.return_, 1) := by decide +kernel
set_option maxRecDepth 20000 in
theorem ggX5_copyEntry_X7_codeAt : GoodIn wsX5_copyEntry wsX7_codeAt := goodIn_r _ [5, 6, 7, 21, 22] (by decide +kernel) (by decide +kernel)
set_option maxRecDepth 20000 in
theorem gX5_copyEntry_X7_codeAt : GoodIn wsX5_copyEntry (wsV RX5 67 RX7 yX7_codeAt wsX7_codeAt) := goodIn_app (goodIn_of _ (by decide +kernel)) ggX5_copyEntry_X7_codeAt
set_option maxRecDepth 20000 in
theorem ggX5_copyEntry_X5_put : GoodIn wsX5_copyEntry wsX5_put := goodIn_r _ [12, 13, 14, 15, 16, 17, 18, 11, 19, 20, 23, 24, 25, 26] (by decide +kernel) (by decide +kernel)
set_option maxRecDepth 20000 in
theorem gX5_copyEntry_X5_put : GoodIn wsX5_copyEntry (wsV RX5 71 RX5 yX5_put wsX5_put) := goodIn_app (goodIn_of _ (by decide +kernel)) ggX5_copyEntry_X5_put
theorem dX5_copyEntry_0 : decode cX5_copyEntry 0 = .ok (.bipush 7, 2) := by decide +kernel
theorem dX5_copyEntry_2 : decode cX5_copyEntry 2 = .ok (.iload_n 2, 1) := by decide +kernel
theorem dX5_copyEntry_3 : decode cX5_copyEntry 3 = .ok (.imul, 1) := by decide +kernel
theorem dX5_copyEntry_4 : decode cX5_copyEntry 4 = .ok (.iconst 3, 1) := by decide +kernel
theorem dX5_copyEntry_5 : decode cX5_copyEntry 5 = .ok (.iload_n 3, 1) := by decide +kernel
theorem dX5_copyEntry_6 : decode cX5_copyEntry 6 = .ok (.imul, 1) := by decide +kernel
theorem dX5_copyEntry_7 : decode cX5_copyEntry 7 = .ok (.iadd, 1) := by decide +kernel
theorem dX5_copyEntry_8 : decode cX5_copyEntry 8 = .ok (.istore 4, 2) := by decide +kernel
theorem dX5_copyEntry_10 : decode cX5_copyEntry 10 = .ok (.aload_n 1, 1) := by decide +kernel
theorem dX5_copyEntry_11 : decode cX5_copyEntry 11 = .ok (.iload 4, 2) := by decide +kernel
theorem dX5_copyEntry_13 : decode cX5_copyEntry 13 = .ok (.invokevirtual 67, 3) := by decide +kernel
theorem dX5_copyEntry_16 : decode cX5_copyEntry 16 = .ok (.istore 5, 2) := by decide +kernel
theorem dX5_copyEntry_18 : decode cX5_copyEntry 18 = .ok (.iload 5, 2) := by decide +kernel
theorem dX5_copyEntry_20 : decode cX5_copyEntry 20 = .ok (.bipush 45, 2) := by decide +kernel
theorem dX5_copyEntry_22 : decode cX5_copyEntry 22 = .ok (.if_icmp .ne 4, 3) := by decide +kernel
theorem dX5_copyEntry_25 : decode cX5_copyEntry 25 = .ok (.return_, 1) := by decide +kernel
theorem dX5_copyEntry_26 : decode cX5_copyEntry 26 = .ok (.aload_n 1, 1) := by decide +kernel
theorem dX5_copyEntry_27 : decode cX5_copyEntry 27 = .ok (.iload 4, 2) := by decide +kernel
theorem dX5_copyEntry_29 : decode cX5_copyEntry 29 = .ok (.iconst 1, 1) := by decide +kernel
theorem dX5_copyEntry_30 : decode cX5_copyEntry 30 = .ok (.iadd, 1) := by decide +kernel
theorem dX5_copyEntry_31 : decode cX5_copyEntry 31 = .ok (.invokevirtual 67, 3) := by decide +kernel
theorem dX5_copyEntry_34 : decode cX5_copyEntry 34 = .ok (.bipush 82, 2) := by decide +kernel
theorem dX5_copyEntry_36 : decode cX5_copyEntry 36 = .ok (.if_icmp .ne 7, 3) := by decide +kernel
theorem dX5_copyEntry_39 : decode cX5_copyEntry 39 = .ok (.iconst 1, 1) := by decide +kernel
theorem dX5_copyEntry_40 : decode cX5_copyEntry 40 = .ok (.goto 4, 3) := by decide +kernel
theorem dX5_copyEntry_43 : decode cX5_copyEntry 43 = .ok (.iconst 0, 1) := by decide +kernel
theorem dX5_copyEntry_44 : decode cX5_copyEntry 44 = .ok (.istore 6, 2) := by decide +kernel
theorem dX5_copyEntry_46 : decode cX5_copyEntry 46 = .ok (.aload_n 1, 1) := by decide +kernel
theorem dX5_copyEntry_47 : decode cX5_copyEntry 47 = .ok (.iload 4, 2) := by decide +kernel
theorem dX5_copyEntry_49 : decode cX5_copyEntry 49 = .ok (.iconst 2, 1) := by decide +kernel
theorem dX5_copyEntry_50 : decode cX5_copyEntry 50 = .ok (.iadd, 1) := by decide +kernel
theorem dX5_copyEntry_51 : decode cX5_copyEntry 51 = .ok (.invokevirtual 67, 3) := by decide +kernel
theorem dX5_copyEntry_54 : decode cX5_copyEntry 54 = .ok (.istore 7, 2) := by decide +kernel
theorem dX5_copyEntry_56 : decode cX5_copyEntry 56 = .ok (.aload_n 0, 1) := by decide +kernel
theorem dX5_copyEntry_57 : decode cX5_copyEntry 57 = .ok (.iload_n 2, 1) := by decide +kernel
theorem dX5_copyEntry_58 : decode cX5_copyEntry 58 = .ok (.iload_n 3, 1) := by decide +kernel
theorem dX5_copyEntry_59 : decode cX5_copyEntry 59 = .ok (.iload 5, 2) := by decide +kernel
theorem dX5_copyEntry_61 : decode cX5_copyEntry 61 = .ok (.bipush 48, 2) := by decide +kernel
theorem dX5_copyEntry_63 : decode cX5_copyEntry 63 = .ok (.isub, 1) := by decide +kernel
theorem dX5_copyEntry_64 : decode cX5_copyEntry 64 = .ok (.iload 6, 2) := by decide +kernel
theorem dX5_copyEntry_66 : decode cX5_copyEntry 66 = .ok (.iload 7, 2) := by decide +kernel
theorem dX5_copyEntry_68 : decode cX5_copyEntry 68 = .ok (.bipush 90, 2) := by decide +kernel
theorem dX5_copyEntry_70 : decode cX5_copyEntry 70 = .ok (.if_icmp .ne 8, 3) := by decide +kernel
theorem dX5_copyEntry_73 : decode cX5_copyEntry 73 = .ok (.bipush 9, 2) := by decide +kernel
theorem dX5_copyEntry_75 : decode cX5_copyEntry 75 = .ok (.goto 8, 3) := by decide +kernel
theorem dX5_copyEntry_78 : decode cX5_copyEntry 78 = .ok (.iload 7, 2) := by decide +kernel
theorem dX5_copyEntry_80 : decode cX5_copyEntry 80 = .ok (.bipush 65, 2) := by decide +kernel
theorem dX5_copyEntry_82 : decode cX5_copyEntry 82 = .ok (.isub, 1) := by decide +kernel
theorem dX5_copyEntry_83 : decode cX5_copyEntry 83 = .ok (.invokevirtual 71, 3) := by decide +kernel
theorem dX5_copyEntry_86 : decode cX5_copyEntry 86 = .ok (.return_, 1) := by decide +kernel
set_option maxRecDepth 20000 in
theorem ggX6_init_X6_wordsFor : GoodIn wsX6_init wsX6_wordsFor := goodIn_r _ [14] (by decide +kernel) (by decide +kernel)
set_option maxRecDepth 20000 in
theorem gX6_init_X6_wordsFor : GoodIn wsX6_init (va_wsS RX6 19 yX6_wordsFor wsX6_wordsFor) := goodIn_app (goodIn_of _ (by decide +kernel)) ggX6_init_X6_wordsFor
theorem dX6_init_0 : decode cX6_init 0 = .ok (.aload_n 0, 1) := by decide +kernel
theorem dX6_init_1 : decode cX6_init 1 = .ok (.invokespecial 1, 3) := by decide +kernel
theorem dX6_init_4 : decode cX6_init 4 = .ok (.aload_n 0, 1) := by decide +kernel
theorem dX6_init_5 : decode cX6_init 5 = .ok (.iload_n 1, 1) := by decide +kernel
theorem dX6_init_6 : decode cX6_init 6 = .ok (.iconst 0, 1) := by decide +kernel
theorem dX6_init_7 : decode cX6_init 7 = .ok (.invokestatic 7, 3) := by decide +kernel
theorem dX6_init_10 : decode cX6_init 10 = .ok (.putfield 13, 3) := by decide +kernel
theorem dX6_init_13 : decode cX6_init 13 = .ok (.aload_n 0, 1) := by decide +kernel
theorem dX6_init_14 : decode cX6_init 14 = .ok (.aload_n 0, 1) := by decide +kernel
theorem dX6_init_15 : decode cX6_init 15 = .ok (.getfield 13, 3) := by decide +kernel
theorem dX6_init_18 : decode cX6_init 18 = .ok (.invokestatic 19, 3) := by decide +kernel
theorem dX6_init_21 : decode cX6_init 21 = .ok (.newarray .int, 2) := by decide +kernel
theorem dX6_init_23 : decode cX6_init 23 = .ok (.putfield 23, 3) := by decide +kernel
theorem dX6_init_26 : decode cX6_init 26 = .ok (.return_, 1) := by decide +kernel
theorem dX6_wordsFor_0 : decode cX6_wordsFor 0 = .ok (.iload_n 0, 1) := by decide +kernel
theorem dX6_wordsFor_1 : decode cX6_wordsFor 1 = .ok (.ifCond .ge 7, 3) := by decide +kernel
theorem dX6_wordsFor_4 : decode cX6_wordsFor 4 = .ok (.iconst 0, 1) := by decide +kernel
theorem dX6_wordsFor_5 : decode cX6_wordsFor 5 = .ok (.goto 9, 3) := by decide +kernel
theorem dX6_wordsFor_8 : decode cX6_wordsFor 8 = .ok (.iload_n 0, 1) := by decide +kernel
theorem dX6_wordsFor_9 : decode cX6_wordsFor 9 = .ok (.bipush 16, 2) := by decide +kernel
theorem dX6_wordsFor_11 : decode cX6_wordsFor 11 = .ok (.idiv, 1) := by decide +kernel
theorem dX6_wordsFor_12 : decode cX6_wordsFor 12 = .ok (.iconst 1, 1) := by decide +kernel
theorem dX6_wordsFor_13 : decode cX6_wordsFor 13 = .ok (.iadd, 1) := by decide +kernel
theorem dX6_wordsFor_14 : decode cX6_wordsFor 14 = .ok (.ireturn, 1) := by decide +kernel
set_option maxRecDepth 20000 in
theorem ggX6_clear_J7_fill_53178 : GoodIn wsX6_clear wsJ7_fill_53178 := goodIn_r _ [5] (by decide +kernel) (by decide +kernel)
set_option maxRecDepth 20000 in
theorem gX6_clear_J7_fill_53178 : GoodIn wsX6_clear (va_wsS RX6 27 yJ7_fill_53178 wsJ7_fill_53178) := goodIn_app (goodIn_of _ (by decide +kernel)) ggX6_clear_J7_fill_53178
theorem dX6_clear_0 : decode cX6_clear 0 = .ok (.aload_n 0, 1) := by decide +kernel
theorem dX6_clear_1 : decode cX6_clear 1 = .ok (.getfield 23, 3) := by decide +kernel
theorem dX6_clear_4 : decode cX6_clear 4 = .ok (.iconst 0, 1) := by decide +kernel
theorem dX6_clear_5 : decode cX6_clear 5 = .ok (.invokestatic 27, 3) := by decide +kernel
theorem dX6_clear_8 : decode cX6_clear 8 = .ok (.return_, 1) := by decide +kernel
set_option maxRecDepth 20000 in
theorem ggX6_read_X6_bitOf : GoodIn wsX6_read wsX6_bitOf := goodIn_r _ [6] (by decide +kernel) (by decide +kernel)
set_option maxRecDepth 20000 in
theorem gX6_read_X6_bitOf : GoodIn wsX6_read (va_wsS RX6 33 yX6_bitOf wsX6_bitOf) := goodIn_app (goodIn_of _ (by decide +kernel)) ggX6_read_X6_bitOf
theorem dX6_read_0 : decode cX6_read 0 = .ok (.iload_n 1, 1) := by decide +kernel
theorem dX6_read_1 : decode cX6_read 1 = .ok (.aload_n 0, 1) := by decide +kernel
theorem dX6_read_2 : decode cX6_read 2 = .ok (.getfield 13, 3) := by decide +kernel
theorem dX6_read_5 : decode cX6_read 5 = .ok (.ineg, 1) := by decide +kernel
theorem dX6_read_6 : decode cX6_read 6 = .ok (.if_icmp .lt 11, 3) := by decide +kernel
theorem dX6_read_9 : decode cX6_read 9 = .ok (.iload_n 1, 1) := by decide +kernel
theorem dX6_read_10 : decode cX6_read 10 = .ok (.aload_n 0, 1) := by decide +kernel
theorem dX6_read_11 : decode cX6_read 11 = .ok (.getfield 13, 3) := by decide +kernel
theorem dX6_read_14 : decode cX6_read 14 = .ok (.if_icmp .le 5, 3) := by decide +kernel
theorem dX6_read_17 : decode cX6_read 17 = .ok (.iconst 0, 1) := by decide +kernel
theorem dX6_read_18 : decode cX6_read 18 = .ok (.ireturn, 1) := by decide +kernel
theorem dX6_read_19 : decode cX6_read 19 = .ok (.aload_n 0, 1) := by decide +kernel
theorem dX6_read_20 : decode cX6_read 20 = .ok (.getfield 23, 3) := by decide +kernel
theorem dX6_read_23 : decode cX6_read 23 = .ok (.iconst 0, 1) := by decide +kernel
theorem dX6_read_24 : decode cX6_read 24 = .ok (.iload_n 1, 1) := by decide +kernel
theorem dX6_read_25 : decode cX6_read 25 = .ok (.aload_n 0, 1) := by decide +kernel
theorem dX6_read_26 : decode cX6_read 26 = .ok (.getfield 13, 3) := by decide +kernel
theorem dX6_read_29 : decode cX6_read 29 = .ok (.iadd, 1) := by decide +kernel
theorem dX6_read_30 : decode cX6_read 30 = .ok (.invokestatic 33, 3) := by decide +kernel
theorem dX6_read_33 : decode cX6_read 33 = .ok (.ireturn, 1) := by decide +kernel
theorem dX6_write_0 : decode cX6_write 0 = .ok (.iload_n 1, 1) := by decide +kernel
theorem dX6_write_1 : decode cX6_write 1 = .ok (.aload_n 0, 1) := by decide +kernel
theorem dX6_write_2 : decode cX6_write 2 = .ok (.getfield 13, 3) := by decide +kernel
theorem dX6_write_5 : decode cX6_write 5 = .ok (.ineg, 1) := by decide +kernel
theorem dX6_write_6 : decode cX6_write 6 = .ok (.if_icmp .lt 11, 3) := by decide +kernel
theorem dX6_write_9 : decode cX6_write 9 = .ok (.iload_n 1, 1) := by decide +kernel
theorem dX6_write_10 : decode cX6_write 10 = .ok (.aload_n 0, 1) := by decide +kernel
theorem dX6_write_11 : decode cX6_write 11 = .ok (.getfield 13, 3) := by decide +kernel
theorem dX6_write_14 : decode cX6_write 14 = .ok (.if_icmp .le 4, 3) := by decide +kernel
theorem dX6_write_17 : decode cX6_write 17 = .ok (.return_, 1) := by decide +kernel
theorem dX6_write_18 : decode cX6_write 18 = .ok (.iload_n 1, 1) := by decide +kernel
theorem dX6_write_19 : decode cX6_write 19 = .ok (.aload_n 0, 1) := by decide +kernel
theorem dX6_write_20 : decode cX6_write 20 = .ok (.getfield 13, 3) := by decide +kernel
theorem dX6_write_23 : decode cX6_write 23 = .ok (.iadd, 1) := by decide +kernel
theorem dX6_write_24 : decode cX6_write 24 = .ok (.istore_n 3, 1) := by decide +kernel
theorem dX6_write_25 : decode cX6_write 25 = .ok (.iconst 1, 1) := by decide +kernel
theorem dX6_write_26 : decode cX6_write 26 = .ok (.iload_n 3, 1) := by decide +kernel
theorem dX6_write_27 : decode cX6_write 27 = .ok (.bipush 31, 2) := by decide +kernel
theorem dX6_write_29 : decode cX6_write 29 = .ok (.iand, 1) := by decide +kernel
theorem dX6_write_30 : decode cX6_write 30 = .ok (.ishl, 1) := by decide +kernel
theorem dX6_write_31 : decode cX6_write 31 = .ok (.istore 4, 2) := by decide +kernel
theorem dX6_write_33 : decode cX6_write 33 = .ok (.iload_n 3, 1) := by decide +kernel
theorem dX6_write_34 : decode cX6_write 34 = .ok (.iconst 5, 1) := by decide +kernel
theorem dX6_write_35 : decode cX6_write 35 = .ok (.ishr, 1) := by decide +kernel
theorem dX6_write_36 : decode cX6_write 36 = .ok (.istore 5, 2) := by decide +kernel
theorem dX6_write_38 : decode cX6_write 38 = .ok (.iload 5, 2) := by decide +kernel
theorem dX6_write_40 : decode cX6_write 40 = .ok (.aload_n 0, 1) := by decide +kernel
theorem dX6_write_41 : decode cX6_write 41 = .ok (.getfield 23, 3) := by decide +kernel
theorem dX6_write_44 : decode cX6_write 44 = .ok (.arraylength, 1) := by decide +kernel
theorem dX6_write_45 : decode cX6_write 45 = .ok (.if_icmp .ge 40, 3) := by decide +kernel
theorem dX6_write_48 : decode cX6_write 48 = .ok (.aload_n 0, 1) := by decide +kernel
theorem dX6_write_49 : decode cX6_write 49 = .ok (.getfield 23, 3) := by decide +kernel
theorem dX6_write_52 : decode cX6_write 52 = .ok (.iload 5, 2) := by decide +kernel
theorem dX6_write_54 : decode cX6_write 54 = .ok (.iload_n 2, 1) := by decide +kernel
theorem dX6_write_55 : decode cX6_write 55 = .ok (.iconst 1, 1) := by decide +kernel
theorem dX6_write_56 : decode cX6_write 56 = .ok (.if_icmp .ne 16, 3) := by decide +kernel
theorem dX6_write_59 : decode cX6_write 59 = .ok (.aload_n 0, 1) := by decide +kernel
theorem dX6_write_60 : decode cX6_write 60 = .ok (.getfield 23, 3) := by decide +kernel
theorem dX6_write_63 : decode cX6_write 63 = .ok (.iload 5, 2) := by decide +kernel
theorem dX6_write_65 : decode cX6_write 65 = .ok (.iaload, 1) := by decide +kernel
theorem dX6_write_66 : decode cX6_write 66 = .ok (.iload 4, 2) := by decide +kernel
theorem dX6_write_68 : decode cX6_write 68 = .ok (.ior, 1) := by decide +kernel
theorem dX6_write_69 : decode cX6_write 69 = .ok (.goto 15, 3) := by decide +kernel
theorem dX6_write_72 : decode cX6_write 72 = .ok (.aload_n 0, 1) := by decide +kernel
theorem dX6_write_73 : decode cX6_write 73 = .ok (.getfield 23, 3) := by decide +kernel
theorem dX6_write_76 : decode cX6_write 76 = .ok (.iload 5, 2) := by decide +kernel
theorem dX6_write_78 : decode cX6_write 78 = .ok (.iaload, 1) := by decide +kernel
theorem dX6_write_79 : decode cX6_write 79 = .ok (.iload 4, 2) := by decide +kernel
theorem dX6_write_81 : decode cX6_write 81 = .ok (.iconst (-1), 1) := by decide +kernel
theorem dX6_write_82 : decode cX6_write 82 = .ok (.ixor, 1) := by decide +kernel
theorem dX6_write_83 : decode cX6_write 83 = .ok (.iand, 1) := by decide +kernel
theorem dX6_write_84 : decode cX6_write 84 = .ok (.iastore, 1) := by decide +kernel
theorem dX6_write_85 : decode cX6_write 85 = .ok (.return_, 1) := by decide +kernel
set_option maxRecDepth 20000 in
theorem ggX6_countOnes_J6_bitCount_0f7a4 : GoodIn wsX6_countOnes wsJ6_bitCount_0f7a4 := goodIn_r _ [5, 6, 7, 8] (by decide +kernel) (by decide +kernel)
set_option maxRecDepth 20000 in
theorem gX6_countOnes_J6_bitCount_0f7a4 : GoodIn wsX6_countOnes (va_wsS RX6 37 yJ6_bitCount_0f7a4 wsJ6_bitCount_0f7a4) := goodIn_app (goodIn_of _ (by decide +kernel)) ggX6_countOnes_J6_bitCount_0f7a4
theorem dX6_countOnes_0 : decode cX6_countOnes 0 = .ok (.iconst 0, 1) := by decide +kernel
theorem dX6_countOnes_1 : decode cX6_countOnes 1 = .ok (.istore_n 1, 1) := by decide +kernel
theorem dX6_countOnes_2 : decode cX6_countOnes 2 = .ok (.iconst 0, 1) := by decide +kernel
theorem dX6_countOnes_3 : decode cX6_countOnes 3 = .ok (.istore_n 2, 1) := by decide +kernel
theorem dX6_countOnes_4 : decode cX6_countOnes 4 = .ok (.iload_n 2, 1) := by decide +kernel
theorem dX6_countOnes_5 : decode cX6_countOnes 5 = .ok (.aload_n 0, 1) := by decide +kernel
theorem dX6_countOnes_6 : decode cX6_countOnes 6 = .ok (.getfield 23, 3) := by decide +kernel
theorem dX6_countOnes_9 : decode cX6_countOnes 9 = .ok (.arraylength, 1) := by decide +kernel
theorem dX6_countOnes_10 : decode cX6_countOnes 10 = .ok (.if_icmp .ge 21, 3) := by decide +kernel
theorem dX6_countOnes_13 : decode cX6_countOnes 13 = .ok (.iload_n 1, 1) := by decide +kernel
theorem dX6_countOnes_14 : decode cX6_countOnes 14 = .ok (.aload_n 0, 1) := by decide +kernel
theorem dX6_countOnes_15 : decode cX6_countOnes 15 = .ok (.getfield 23, 3) := by decide +kernel
theorem dX6_countOnes_18 : decode cX6_countOnes 18 = .ok (.iload_n 2, 1) := by decide +kernel
theorem dX6_countOnes_19 : decode cX6_countOnes 19 = .ok (.iaload, 1) := by decide +kernel
theorem dX6_countOnes_20 : decode cX6_countOnes 20 = .ok (.invokestatic 37, 3) := by decide +kernel
theorem dX6_countOnes_23 : decode cX6_countOnes 23 = .ok (.iadd, 1) := by decide +kernel
theorem dX6_countOnes_24 : decode cX6_countOnes 24 = .ok (.istore_n 1, 1) := by decide +kernel
theorem dX6_countOnes_25 : decode cX6_countOnes 25 = .ok (.iinc 2 1, 3) := by decide +kernel
theorem dX6_countOnes_28 : decode cX6_countOnes 28 = .ok (.goto (-24), 3) := by decide +kernel
theorem dX6_countOnes_31 : decode cX6_countOnes 31 = .ok (.iload_n 1, 1) := by decide +kernel
theorem dX6_countOnes_32 : decode cX6_countOnes 32 = .ok (.ireturn, 1) := by decide +kernel
theorem dX6_bitOf_0 : decode cX6_bitOf 0 = .ok (.iload_n 1, 1) := by decide +kernel
theorem dX6_bitOf_1 : decode cX6_bitOf 1 = .ok (.iload_n 2, 1) := by decide +kernel
theorem dX6_bitOf_2 : decode cX6_bitOf 2 = .ok (.iconst 5, 1) := by decide +kernel
theorem dX6_bitOf_3 : decode cX6_bitOf 3 = .ok (.ishr, 1) := by decide +kernel
theorem dX6_bitOf_4 : decode cX6_bitOf 4 = .ok (.iadd, 1) := by decide +kernel
theorem dX6_bitOf_5 : decode cX6_bitOf 5 = .ok (.istore_n 3, 1) := by decide +kernel
theorem dX6_bitOf_6 : decode cX6_bitOf 6 = .ok (.iload_n 3, 1) := by decide +kernel
theorem dX6_bitOf_7 : decode cX6_bitOf 7 = .ok (.ifCond .lt 22, 3) := by decide +kernel
theorem dX6_bitOf_10 : decode cX6_bitOf 10 = .ok (.iload_n 3, 1) := by decide +kernel
theorem dX6_bitOf_11 : decode cX6_bitOf 11 = .ok (.aload_n 0, 1) := by decide +kernel
theorem dX6_bitOf_12 : decode cX6_bitOf 12 = .ok (.arraylength, 1) := by decide +kernel
theorem dX6_bitOf_13 : decode cX6_bitOf 13 = .ok (.if_icmp .ge 16, 3) := by decide +kernel
theorem dX6_bitOf_16 : decode cX6_bitOf 16 = .ok (.aload_n 0, 1) := by decide +kernel
theorem dX6_bitOf_17 : decode cX6_bitOf 17 = .ok (.iload_n 3, 1) := by decide +kernel
theorem dX6_bitOf_18 : decode cX6_bitOf 18 = .ok (.iaload, 1) := by decide +kernel
theorem dX6_bitOf_19 : decode cX6_bitOf 19 = .ok (.iload_n 2, 1) := by decide +kernel
theorem dX6_bitOf_20 : decode cX6_bitOf 20 = .ok (.bipush 31, 2) := by decide +kernel
theorem dX6_bitOf_22 : decode cX6_bitOf 22 = .ok (.iand, 1) := by decide +kernel
theorem dX6_bitOf_23 : decode cX6_bitOf 23 = .ok (.iushr, 1) := by decide +kernel
theorem dX6_bitOf_24 : decode cX6_bitOf 24 = .ok (.iconst 1, 1) := by decide +kernel
theorem dX6_bitOf_25 : decode cX6_bitOf 25 = .ok (.iand, 1) := by decide +kernel
theorem dX6_bitOf_26 : decode cX6_bitOf 26 = .ok (.goto 4, 3) := by decide +kernel
theorem dX6_bitOf_29 : decode cX6_bitOf 29 = .ok (.iconst 0, 1) := by decide +kernel
theorem dX6_bitOf_30 : decode cX6_bitOf 30 = .ok (.ireturn, 1) := by decide +kernel
theorem dX7_init_0 : decode cX7_init 0 = .ok (.aload_n 0, 1) := by decide +kernel
theorem dX7_init_1 : decode cX7_init 1 = .ok (.invokespecial 3, 3) := by decide +kernel
theorem dX7_init_4 : decode cX7_init 4 = .ok (.aload_n 0, 1) := by decide +kernel
theorem dX7_init_5 : decode cX7_init 5 = .ok (.bipush 40, 2) := by decide +kernel
theorem dX7_init_7 : decode cX7_init 7 = .ok (.newarray .int, 2) := by decide +kernel
theorem dX7_init_9 : decode cX7_init 9 = .ok (.putfield 11, 3) := by decide +kernel
theorem dX7_init_12 : decode cX7_init 12 = .ok (.aload_n 0, 1) := by decide +kernel
theorem dX7_init_13 : decode cX7_init 13 = .ok (.iconst 0, 1) := by decide +kernel
theorem dX7_init_14 : decode cX7_init 14 = .ok (.putfield 15, 3) := by decide +kernel
theorem dX7_init_17 : decode cX7_init 17 = .ok (.return_, 1) := by decide +kernel
theorem dX7_clear_0 : decode cX7_clear 0 = .ok (.aload_n 0, 1) := by decide +kernel
theorem dX7_clear_1 : decode cX7_clear 1 = .ok (.iconst 0, 1) := by decide +kernel
theorem dX7_clear_2 : decode cX7_clear 2 = .ok (.putfield 15, 3) := by decide +kernel
theorem dX7_clear_5 : decode cX7_clear 5 = .ok (.return_, 1) := by decide +kernel
theorem dX7_append_0 : decode cX7_append 0 = .ok (.aload_n 0, 1) := by decide +kernel
theorem dX7_append_1 : decode cX7_append 1 = .ok (.getfield 15, 3) := by decide +kernel
theorem dX7_append_4 : decode cX7_append 4 = .ok (.ifCond .lt 15, 3) := by decide +kernel
theorem dX7_append_7 : decode cX7_append 7 = .ok (.aload_n 0, 1) := by decide +kernel
theorem dX7_append_8 : decode cX7_append 8 = .ok (.getfield 15, 3) := by decide +kernel
theorem dX7_append_11 : decode cX7_append 11 = .ok (.aload_n 0, 1) := by decide +kernel
theorem dX7_append_12 : decode cX7_append 12 = .ok (.getfield 11, 3) := by decide +kernel
theorem dX7_append_15 : decode cX7_append 15 = .ok (.arraylength, 1) := by decide +kernel
theorem dX7_append_16 : decode cX7_append 16 = .ok (.if_icmp .lt 5, 3) := by decide +kernel
theorem dX7_append_19 : decode cX7_append 19 = .ok (.iconst 0, 1) := by decide +kernel
theorem dX7_append_20 : decode cX7_append 20 = .ok (.ireturn, 1) := by decide +kernel
theorem dX7_append_21 : decode cX7_append 21 = .ok (.aload_n 0, 1) := by decide +kernel
theorem dX7_append_22 : decode cX7_append 22 = .ok (.getfield 11, 3) := by decide +kernel
theorem dX7_append_25 : decode cX7_append 25 = .ok (.aload_n 0, 1) := by decide +kernel
theorem dX7_append_26 : decode cX7_append 26 = .ok (.getfield 15, 3) := by decide +kernel
theorem dX7_append_29 : decode cX7_append 29 = .ok (.iload_n 1, 1) := by decide +kernel
theorem dX7_append_30 : decode cX7_append 30 = .ok (.iastore, 1) := by decide +kernel
theorem dX7_append_31 : decode cX7_append 31 = .ok (.aload_n 0, 1) := by decide +kernel
theorem dX7_append_32 : decode cX7_append 32 = .ok (.dup, 1) := by decide +kernel
theorem dX7_append_33 : decode cX7_append 33 = .ok (.getfield 15, 3) := by decide +kernel
theorem dX7_append_36 : decode cX7_append 36 = .ok (.iconst 1, 1) := by decide +kernel
theorem dX7_append_37 : decode cX7_append 37 = .ok (.iadd, 1) := by decide +kernel
theorem dX7_append_38 : decode cX7_append 38 = .ok (.putfield 15, 3) := by decide +kernel
theorem dX7_append_41 : decode cX7_append 41 = .ok (.iconst 1, 1) := by decide +kernel
theorem dX7_append_42 : decode cX7_append 42 = .ok (.ireturn, 1) := by decide +kernel
theorem dX7_codeAt_0 : decode cX7_codeAt 0 = .ok (.iload_n 1, 1) := by decide +kernel
theorem dX7_codeAt_1 : decode cX7_codeAt 1 = .ok (.ifCond .lt 29, 3) := by decide +kernel
theorem dX7_codeAt_4 : decode cX7_codeAt 4 = .ok (.iload_n 1, 1) := by decide +kernel
theorem dX7_codeAt_5 : decode cX7_codeAt 5 = .ok (.aload_n 0, 1) := by decide +kernel
theorem dX7_codeAt_6 : decode cX7_codeAt 6 = .ok (.getfield 15, 3) := by decide +kernel
theorem dX7_codeAt_9 : decode cX7_codeAt 9 = .ok (.if_icmp .ge 21, 3) := by decide +kernel
theorem dX7_codeAt_12 : decode cX7_codeAt 12 = .ok (.iload_n 1, 1) := by decide +kernel
theorem dX7_codeAt_13 : decode cX7_codeAt 13 = .ok (.aload_n 0, 1) := by decide +kernel
theorem dX7_codeAt_14 : decode cX7_codeAt 14 = .ok (.getfield 11, 3) := by decide +kernel
theorem dX7_codeAt_17 : decode cX7_codeAt 17 = .ok (.arraylength, 1) := by decide +kernel
theorem dX7_codeAt_18 : decode cX7_codeAt 18 = .ok (.if_icmp .ge 12, 3) := by decide +kernel
theorem dX7_codeAt_21 : decode cX7_codeAt 21 = .ok (.aload_n 0, 1) := by decide +kernel
theorem dX7_codeAt_22 : decode cX7_codeAt 22 = .ok (.getfield 11, 3) := by decide +kernel
theorem dX7_codeAt_25 : decode cX7_codeAt 25 = .ok (.iload_n 1, 1) := by decide +kernel
theorem dX7_codeAt_26 : decode cX7_codeAt 26 = .ok (.iaload, 1) := by decide +kernel
theorem dX7_codeAt_27 : decode cX7_codeAt 27 = .ok (.goto 4, 3) := by decide +kernel
theorem dX7_codeAt_30 : decode cX7_codeAt 30 = .ok (.iconst 0, 1) := by decide +kernel
theorem dX7_codeAt_31 : decode cX7_codeAt 31 = .ok (.ireturn, 1) := by decide +kernel
theorem dX7_rowCount_0 : decode cX7_rowCount 0 = .ok (.aload_n 0, 1) := by decide +kernel
theorem dX7_rowCount_1 : decode cX7_rowCount 1 = .ok (.getfield 15, 3) := by decide +kernel
theorem dX7_rowCount_4 : decode cX7_rowCount 4 = .ok (.iconst 1, 1) := by decide +kernel
theorem dX7_rowCount_5 : decode cX7_rowCount 5 = .ok (.iadd, 1) := by decide +kernel
theorem dX7_rowCount_6 : decode cX7_rowCount 6 = .ok (.bipush 7, 2) := by decide +kernel
theorem dX7_rowCount_8 : decode cX7_rowCount 8 = .ok (.idiv, 1) := by decide +kernel
theorem dX7_rowCount_9 : decode cX7_rowCount 9 = .ok (.ireturn, 1) := by decide +kernel
set_option maxRecDepth 20000 in
theorem ggX7_firstWrong_X7_firstMisplaced : GoodIn wsX7_firstWrong wsX7_firstMisplaced := goodIn_r _ [5, 6, 7, 8, 9, 4, 10, 11, 12, 13, 14, 15, 16, 17, 18, 27, 28] (by decide +kernel) (by decide +kernel)
set_option maxRecDepth 20000 in
theorem gX7_firstWrong_X7_firstMisplaced : GoodIn wsX7_firstWrong (wsV RX7 19 RX7 yX7_firstMisplaced wsX7_firstMisplaced) := goodIn_app (goodIn_of _ (by decide +kernel)) ggX7_firstWrong_X7_firstMisplaced
set_option maxRecDepth 20000 in
theorem ggX7_firstWrong_X7_firstWithoutRow : GoodIn wsX7_firstWrong wsX7_firstWithoutRow := goodIn_r _ [22, 6, 23, 24, 25, 4, 26, 11, 12, 13, 14, 15, 16, 17, 18, 27, 28] (by decide +kernel) (by decide +kernel)
set_option maxRecDepth 20000 in
theorem gX7_firstWrong_X7_firstWithoutRow : GoodIn wsX7_firstWrong (wsV RX7 23 RX7 yX7_firstWithoutRow wsX7_firstWithoutRow) := goodIn_app (goodIn_of _ (by decide +kernel)) ggX7_firstWrong_X7_firstWithoutRow
theorem dX7_firstWrong_0 : decode cX7_firstWrong 0 = .ok (.aload_n 0, 1) := by decide +kernel
theorem dX7_firstWrong_1 : decode cX7_firstWrong 1 = .ok (.invokevirtual 19, 3) := by decide +kernel
theorem dX7_firstWrong_4 : decode cX7_firstWrong 4 = .ok (.istore_n 1, 1) := by decide +kernel
theorem dX7_firstWrong_5 : decode cX7_firstWrong 5 = .ok (.iload_n 1, 1) := by decide +kernel
theorem dX7_firstWrong_6 : decode cX7_firstWrong 6 = .ok (.iconst (-1), 1) := by decide +kernel
theorem dX7_firstWrong_7 : decode cX7_firstWrong 7 = .ok (.if_icmp .eq 7, 3) := by decide +kernel
theorem dX7_firstWrong_10 : decode cX7_firstWrong 10 = .ok (.iload_n 1, 1) := by decide +kernel
theorem dX7_firstWrong_11 : decode cX7_firstWrong 11 = .ok (.goto 7, 3) := by decide +kernel
theorem dX7_firstWrong_14 : decode cX7_firstWrong 14 = .ok (.aload_n 0, 1) := by decide +kernel
theorem dX7_firstWrong_15 : decode cX7_firstWrong 15 = .ok (.invokevirtual 23, 3) := by decide +kernel
theorem dX7_firstWrong_18 : decode cX7_firstWrong 18 = .ok (.ireturn, 1) := by decide +kernel
set_option maxRecDepth 20000 in
theorem ggX7_firstMisplaced_X7_fits : GoodIn wsX7_firstMisplaced wsX7_fits := goodIn_r _ [6, 7, 8, 9, 5, 10, 1, 11, 12, 13, 14, 15, 16] (by decide +kernel) (by decide +kernel)
set_option maxRecDepth 20000 in
theorem gX7_firstMisplaced_X7_fits : GoodIn wsX7_firstMisplaced (wsV RX7 26 RX7 yX7_fits wsX7_fits) := goodIn_app (goodIn_of _ (by decide +kernel)) ggX7_firstMisplaced_X7_fits
theorem dX7_firstMisplaced_0 : decode cX7_firstMisplaced 0 = .ok (.iconst 0, 1) := by decide +kernel
theorem dX7_firstMisplaced_1 : decode cX7_firstMisplaced 1 = .ok (.istore_n 1, 1) := by decide +kernel
theorem dX7_firstMisplaced_2 : decode cX7_firstMisplaced 2 = .ok (.iload_n 1, 1) := by decide +kernel
theorem dX7_firstMisplaced_3 : decode cX7_firstMisplaced 3 = .ok (.aload_n 0, 1) := by decide +kernel
theorem dX7_firstMisplaced_4 : decode cX7_firstMisplaced 4 = .ok (.getfield 15, 3) := by decide +kernel
theorem dX7_firstMisplaced_7 : decode cX7_firstMisplaced 7 = .ok (.if_icmp .ge 19, 3) := by decide +kernel
theorem dX7_firstMisplaced_10 : decode cX7_firstMisplaced 10 = .ok (.aload_n 0, 1) := by decide +kernel
theorem dX7_firstMisplaced_11 : decode cX7_firstMisplaced 11 = .ok (.iload_n 1, 1) := by decide +kernel
theorem dX7_firstMisplaced_12 : decode cX7_firstMisplaced 12 = .ok (.invokevirtual 26, 3) := by decide +kernel
theorem dX7_firstMisplaced_15 : decode cX7_firstMisplaced 15 = .ok (.ifCond .ne 5, 3) := by decide +kernel
theorem dX7_firstMisplaced_18 : decode cX7_firstMisplaced 18 = .ok (.iload_n 1, 1) := by decide +kernel
theorem dX7_firstMisplaced_19 : decode cX7_firstMisplaced 19 = .ok (.ireturn, 1) := by decide +kernel
theorem dX7_firstMisplaced_20 : decode cX7_firstMisplaced 20 = .ok (.iinc 1 1, 3) := by decide +kernel
theorem dX7_firstMisplaced_23 : decode cX7_firstMisplaced 23 = .ok (.goto (-21), 3) := by decide +kernel
theorem dX7_firstMisplaced_26 : decode cX7_firstMisplaced 26 = .ok (.aload_n 0, 1) := by decide +kernel
theorem dX7_firstMisplaced_27 : decode cX7_firstMisplaced 27 = .ok (.getfield 15, 3) := by decide +kernel
theorem dX7_firstMisplaced_30 : decode cX7_firstMisplaced 30 = .ok (.bipush 7, 2) := by decide +kernel
theorem dX7_firstMisplaced_32 : decode cX7_firstMisplaced 32 = .ok (.irem, 1) := by decide +kernel
theorem dX7_firstMisplaced_33 : decode cX7_firstMisplaced 33 = .ok (.bipush 6, 2) := by decide +kernel
theorem dX7_firstMisplaced_35 : decode cX7_firstMisplaced 35 = .ok (.if_icmp .ne 7, 3) := by decide +kernel
theorem dX7_firstMisplaced_38 : decode cX7_firstMisplaced 38 = .ok (.iconst (-1), 1) := by decide +kernel
theorem dX7_firstMisplaced_39 : decode cX7_firstMisplaced 39 = .ok (.goto 7, 3) := by decide +kernel
theorem dX7_firstMisplaced_42 : decode cX7_firstMisplaced 42 = .ok (.aload_n 0, 1) := by decide +kernel
theorem dX7_firstMisplaced_43 : decode cX7_firstMisplaced 43 = .ok (.getfield 15, 3) := by decide +kernel
theorem dX7_firstMisplaced_46 : decode cX7_firstMisplaced 46 = .ok (.ireturn, 1) := by decide +kernel
set_option maxRecDepth 20000 in
theorem ggX7_fits_X7_codeAt : GoodIn wsX7_fits wsX7_codeAt := goodIn_r _ [5, 6, 7, 11, 12] (by decide +kernel) (by decide +kernel)
set_option maxRecDepth 20000 in
theorem gX7_fits_X7_codeAt : GoodIn wsX7_fits (wsV RX7 30 RX7 yX7_codeAt wsX7_codeAt) := goodIn_app (goodIn_of _ (by decide +kernel)) ggX7_fits_X7_codeAt
set_option maxRecDepth 20000 in
theorem ggX7_fits_X7_isStateLetter : GoodIn wsX7_fits wsX7_isStateLetter := goodIn_r _ [10] (by decide +kernel) (by decide +kernel)
set_option maxRecDepth 20000 in
theorem gX7_fits_X7_isStateLetter : GoodIn wsX7_fits (va_wsS RX7 34 yX7_isStateLetter wsX7_isStateLetter) := goodIn_app (goodIn_of _ (by decide +kernel)) ggX7_fits_X7_isStateLetter
theorem dX7_fits_0 : decode cX7_fits 0 = .ok (.aload_n 0, 1) := by decide +kernel
theorem dX7_fits_1 : decode cX7_fits 1 = .ok (.iload_n 1, 1) := by decide +kernel
theorem dX7_fits_2 : decode cX7_fits 2 = .ok (.invokevirtual 30, 3) := by decide +kernel
theorem dX7_fits_5 : decode cX7_fits 5 = .ok (.istore_n 2, 1) := by decide +kernel
theorem dX7_fits_6 : decode cX7_fits 6 = .ok (.iload_n 1, 1) := by decide +kernel
theorem dX7_fits_7 : decode cX7_fits 7 = .ok (.bipush 7, 2) := by decide +kernel
theorem dX7_fits_9 : decode cX7_fits 9 = .ok (.irem, 1) := by decide +kernel
theorem dX7_fits_10 : decode cX7_fits 10 = .ok (.istore_n 3, 1) := by decide +kernel
theorem dX7_fits_11 : decode cX7_fits 11 = .ok (.iload_n 3, 1) := by decide +kernel
theorem dX7_fits_12 : decode cX7_fits 12 = .ok (.bipush 6, 2) := by decide +kernel
theorem dX7_fits_14 : decode cX7_fits 14 = .ok (.if_icmp .ne 21, 3) := by decide +kernel
theorem dX7_fits_17 : decode cX7_fits 17 = .ok (.iload_n 2, 1) := by decide +kernel
theorem dX7_fits_18 : decode cX7_fits 18 = .ok (.bipush 95, 2) := by decide +kernel
theorem dX7_fits_20 : decode cX7_fits 20 = .ok (.if_icmp .ne 13, 3) := by decide +kernel
theorem dX7_fits_23 : decode cX7_fits 23 = .ok (.iload_n 1, 1) := by decide +kernel
theorem dX7_fits_24 : decode cX7_fits 24 = .ok (.bipush 34, 2) := by decide +kernel
theorem dX7_fits_26 : decode cX7_fits 26 = .ok (.if_icmp .ge 7, 3) := by decide +kernel
theorem dX7_fits_29 : decode cX7_fits 29 = .ok (.iconst 1, 1) := by decide +kernel
theorem dX7_fits_30 : decode cX7_fits 30 = .ok (.goto 4, 3) := by decide +kernel
theorem dX7_fits_33 : decode cX7_fits 33 = .ok (.iconst 0, 1) := by decide +kernel
theorem dX7_fits_34 : decode cX7_fits 34 = .ok (.ireturn, 1) := by decide +kernel
theorem dX7_fits_35 : decode cX7_fits 35 = .ok (.iload_n 3, 1) := by decide +kernel
theorem dX7_fits_36 : decode cX7_fits 36 = .ok (.iconst 3, 1) := by decide +kernel
theorem dX7_fits_37 : decode cX7_fits 37 = .ok (.irem, 1) := by decide +kernel
theorem dX7_fits_38 : decode cX7_fits 38 = .ok (.istore 4, 2) := by decide +kernel
theorem dX7_fits_40 : decode cX7_fits 40 = .ok (.iload 4, 2) := by decide +kernel
theorem dX7_fits_42 : decode cX7_fits 42 = .ok (.ifCond .ne 27, 3) := by decide +kernel
theorem dX7_fits_45 : decode cX7_fits 45 = .ok (.iload_n 2, 1) := by decide +kernel
theorem dX7_fits_46 : decode cX7_fits 46 = .ok (.bipush 48, 2) := by decide +kernel
theorem dX7_fits_48 : decode cX7_fits 48 = .ok (.if_icmp .eq 15, 3) := by decide +kernel
theorem dX7_fits_51 : decode cX7_fits 51 = .ok (.iload_n 2, 1) := by decide +kernel
theorem dX7_fits_52 : decode cX7_fits 52 = .ok (.bipush 49, 2) := by decide +kernel
theorem dX7_fits_54 : decode cX7_fits 54 = .ok (.if_icmp .eq 9, 3) := by decide +kernel
theorem dX7_fits_57 : decode cX7_fits 57 = .ok (.iload_n 2, 1) := by decide +kernel
theorem dX7_fits_58 : decode cX7_fits 58 = .ok (.bipush 45, 2) := by decide +kernel
theorem dX7_fits_60 : decode cX7_fits 60 = .ok (.if_icmp .ne 7, 3) := by decide +kernel
theorem dX7_fits_63 : decode cX7_fits 63 = .ok (.iconst 1, 1) := by decide +kernel
theorem dX7_fits_64 : decode cX7_fits 64 = .ok (.goto 4, 3) := by decide +kernel
theorem dX7_fits_67 : decode cX7_fits 67 = .ok (.iconst 0, 1) := by decide +kernel
theorem dX7_fits_68 : decode cX7_fits 68 = .ok (.ireturn, 1) := by decide +kernel
theorem dX7_fits_69 : decode cX7_fits 69 = .ok (.aload_n 0, 1) := by decide +kernel
theorem dX7_fits_70 : decode cX7_fits 70 = .ok (.iload_n 1, 1) := by decide +kernel
theorem dX7_fits_71 : decode cX7_fits 71 = .ok (.iload 4, 2) := by decide +kernel
theorem dX7_fits_73 : decode cX7_fits 73 = .ok (.isub, 1) := by decide +kernel
theorem dX7_fits_74 : decode cX7_fits 74 = .ok (.invokevirtual 30, 3) := by decide +kernel
theorem dX7_fits_77 : decode cX7_fits 77 = .ok (.bipush 45, 2) := by decide +kernel
theorem dX7_fits_79 : decode cX7_fits 79 = .ok (.if_icmp .ne 15, 3) := by decide +kernel
theorem dX7_fits_82 : decode cX7_fits 82 = .ok (.iload_n 2, 1) := by decide +kernel
theorem dX7_fits_83 : decode cX7_fits 83 = .ok (.bipush 45, 2) := by decide +kernel
theorem dX7_fits_85 : decode cX7_fits 85 = .ok (.if_icmp .ne 7, 3) := by decide +kernel
theorem dX7_fits_88 : decode cX7_fits 88 = .ok (.iconst 1, 1) := by decide +kernel
theorem dX7_fits_89 : decode cX7_fits 89 = .ok (.goto 4, 3) := by decide +kernel
theorem dX7_fits_92 : decode cX7_fits 92 = .ok (.iconst 0, 1) := by decide +kernel
theorem dX7_fits_93 : decode cX7_fits 93 = .ok (.ireturn, 1) := by decide +kernel
theorem dX7_fits_94 : decode cX7_fits 94 = .ok (.iload 4, 2) := by decide +kernel
theorem dX7_fits_96 : decode cX7_fits 96 = .ok (.iconst 1, 1) := by decide +kernel
theorem dX7_fits_97 : decode cX7_fits 97 = .ok (.if_icmp .ne 23, 3) := by decide +kernel
theorem dX7_fits_100 : decode cX7_fits 100 = .ok (.iload_n 2, 1) := by decide +kernel
theorem dX7_fits_101 : decode cX7_fits 101 = .ok (.bipush 76, 2) := by decide +kernel
theorem dX7_fits_103 : decode cX7_fits 103 = .ok (.if_icmp .eq 9, 3) := by decide +kernel
theorem dX7_fits_106 : decode cX7_fits 106 = .ok (.iload_n 2, 1) := by decide +kernel
theorem dX7_fits_107 : decode cX7_fits 107 = .ok (.bipush 82, 2) := by decide +kernel
theorem dX7_fits_109 : decode cX7_fits 109 = .ok (.if_icmp .ne 7, 3) := by decide +kernel
theorem dX7_fits_112 : decode cX7_fits 112 = .ok (.iconst 1, 1) := by decide +kernel
theorem dX7_fits_113 : decode cX7_fits 113 = .ok (.goto 25, 3) := by decide +kernel
theorem dX7_fits_116 : decode cX7_fits 116 = .ok (.iconst 0, 1) := by decide +kernel
theorem dX7_fits_117 : decode cX7_fits 117 = .ok (.goto 21, 3) := by decide +kernel
theorem dX7_fits_120 : decode cX7_fits 120 = .ok (.iload_n 2, 1) := by decide +kernel
theorem dX7_fits_121 : decode cX7_fits 121 = .ok (.bipush 90, 2) := by decide +kernel
theorem dX7_fits_123 : decode cX7_fits 123 = .ok (.if_icmp .eq 10, 3) := by decide +kernel
theorem dX7_fits_126 : decode cX7_fits 126 = .ok (.iload_n 2, 1) := by decide +kernel
theorem dX7_fits_127 : decode cX7_fits 127 = .ok (.invokestatic 34, 3) := by decide +kernel
theorem dX7_fits_130 : decode cX7_fits 130 = .ok (.ifCond .eq 7, 3) := by decide +kernel
theorem dX7_fits_133 : decode cX7_fits 133 = .ok (.iconst 1, 1) := by decide +kernel
theorem dX7_fits_134 : decode cX7_fits 134 = .ok (.goto 4, 3) := by decide +kernel
theorem dX7_fits_137 : decode cX7_fits 137 = .ok (.iconst 0, 1) := by decide +kernel
theorem dX7_fits_138 : decode cX7_fits 138 = .ok (.ireturn, 1) := by decide +kernel
set_option maxRecDepth 20000 in
theorem ggX7_firstWithoutRow_X7_rowCount : GoodIn wsX7_firstWithoutRow wsX7_rowCount := goodIn_r _ [6, 1, 15, 16] (by decide +kernel) (by decide +kernel)
set_option maxRecDepth 20000 in
theorem gX7_firstWithoutRow_X7_rowCount : GoodIn wsX7_firstWithoutRow (wsV RX7 37 RX7 yX7_rowCount wsX7_rowCount) := goodIn_app (goodIn_of _ (by decide +kernel)) ggX7_firstWithoutRow_X7_rowCount
set_option maxRecDepth 20000 in
theorem ggX7_firstWithoutRow_X7_codeAt : GoodIn wsX7_firstWithoutRow wsX7_codeAt := goodIn_r _ [10, 1, 11, 15, 16] (by decide +kernel) (by decide +kernel)
set_option maxRecDepth 20000 in
theorem gX7_firstWithoutRow_X7_codeAt : GoodIn wsX7_firstWithoutRow (wsV RX7 30 RX7 yX7_codeAt wsX7_codeAt) := goodIn_app (goodIn_of _ (by decide +kernel)) ggX7_firstWithoutRow_X7_codeAt
set_option maxRecDepth 20000 in
theorem ggX7_firstWithoutRow_X7_isStateLetter : GoodIn wsX7_firstWithoutRow wsX7_isStateLetter := goodIn_r _ [14] (by decide +kernel) (by decide +kernel)
set_option maxRecDepth 20000 in
theorem gX7_firstWithoutRow_X7_isStateLetter : GoodIn wsX7_firstWithoutRow (va_wsS RX7 34 yX7_isStateLetter wsX7_isStateLetter) := goodIn_app (goodIn_of _ (by decide +kernel)) ggX7_firstWithoutRow_X7_isStateLetter
theorem dX7_firstWithoutRow_0 : decode cX7_firstWithoutRow 0 = .ok (.aload_n 0, 1) := by decide +kernel
theorem dX7_firstWithoutRow_1 : decode cX7_firstWithoutRow 1 = .ok (.invokevirtual 37, 3) := by decide +kernel
theorem dX7_firstWithoutRow_4 : decode cX7_firstWithoutRow 4 = .ok (.istore_n 1, 1) := by decide +kernel
theorem dX7_firstWithoutRow_5 : decode cX7_firstWithoutRow 5 = .ok (.iconst 0, 1) := by decide +kernel
theorem dX7_firstWithoutRow_6 : decode cX7_firstWithoutRow 6 = .ok (.istore_n 2, 1) := by decide +kernel
theorem dX7_firstWithoutRow_7 : decode cX7_firstWithoutRow 7 = .ok (.iload_n 2, 1) := by decide +kernel
theorem dX7_firstWithoutRow_8 : decode cX7_firstWithoutRow 8 = .ok (.aload_n 0, 1) := by decide +kernel
theorem dX7_firstWithoutRow_9 : decode cX7_firstWithoutRow 9 = .ok (.getfield 15, 3) := by decide +kernel
theorem dX7_firstWithoutRow_12 : decode cX7_firstWithoutRow 12 = .ok (.if_icmp .ge 32, 3) := by decide +kernel
theorem dX7_firstWithoutRow_15 : decode cX7_firstWithoutRow 15 = .ok (.aload_n 0, 1) := by decide +kernel
theorem dX7_firstWithoutRow_16 : decode cX7_firstWithoutRow 16 = .ok (.iload_n 2, 1) := by decide +kernel
theorem dX7_firstWithoutRow_17 : decode cX7_firstWithoutRow 17 = .ok (.invokevirtual 30, 3) := by decide +kernel
theorem dX7_firstWithoutRow_20 : decode cX7_firstWithoutRow 20 = .ok (.istore_n 3, 1) := by decide +kernel
theorem dX7_firstWithoutRow_21 : decode cX7_firstWithoutRow 21 = .ok (.iload_n 3, 1) := by decide +kernel
theorem dX7_firstWithoutRow_22 : decode cX7_firstWithoutRow 22 = .ok (.invokestatic 34, 3) := by decide +kernel
theorem dX7_firstWithoutRow_25 : decode cX7_firstWithoutRow 25 = .ok (.ifCond .eq 13, 3) := by decide +kernel
theorem dX7_firstWithoutRow_28 : decode cX7_firstWithoutRow 28 = .ok (.iload_n 3, 1) := by decide +kernel
theorem dX7_firstWithoutRow_29 : decode cX7_firstWithoutRow 29 = .ok (.bipush 65, 2) := by decide +kernel
theorem dX7_firstWithoutRow_31 : decode cX7_firstWithoutRow 31 = .ok (.isub, 1) := by decide +kernel
theorem dX7_firstWithoutRow_32 : decode cX7_firstWithoutRow 32 = .ok (.iload_n 1, 1) := by decide +kernel
theorem dX7_firstWithoutRow_33 : decode cX7_firstWithoutRow 33 = .ok (.if_icmp .lt 5, 3) := by decide +kernel
theorem dX7_firstWithoutRow_36 : decode cX7_firstWithoutRow 36 = .ok (.iload_n 2, 1) := by decide +kernel
theorem dX7_firstWithoutRow_37 : decode cX7_firstWithoutRow 37 = .ok (.ireturn, 1) := by decide +kernel
theorem dX7_firstWithoutRow_38 : decode cX7_firstWithoutRow 38 = .ok (.iinc 2 1, 3) := by decide +kernel
theorem dX7_firstWithoutRow_41 : decode cX7_firstWithoutRow 41 = .ok (.goto (-34), 3) := by decide +kernel
theorem dX7_firstWithoutRow_44 : decode cX7_firstWithoutRow 44 = .ok (.iconst (-1), 1) := by decide +kernel
theorem dX7_firstWithoutRow_45 : decode cX7_firstWithoutRow 45 = .ok (.ireturn, 1) := by decide +kernel
theorem dX7_isStateLetter_0 : decode cX7_isStateLetter 0 = .ok (.iload_n 0, 1) := by decide +kernel
theorem dX7_isStateLetter_1 : decode cX7_isStateLetter 1 = .ok (.bipush 65, 2) := by decide +kernel
theorem dX7_isStateLetter_3 : decode cX7_isStateLetter 3 = .ok (.if_icmp .lt 13, 3) := by decide +kernel
theorem dX7_isStateLetter_6 : decode cX7_isStateLetter 6 = .ok (.iload_n 0, 1) := by decide +kernel
theorem dX7_isStateLetter_7 : decode cX7_isStateLetter 7 = .ok (.bipush 70, 2) := by decide +kernel
theorem dX7_isStateLetter_9 : decode cX7_isStateLetter 9 = .ok (.if_icmp .ge 7, 3) := by decide +kernel
theorem dX7_isStateLetter_12 : decode cX7_isStateLetter 12 = .ok (.iconst 1, 1) := by decide +kernel
theorem dX7_isStateLetter_13 : decode cX7_isStateLetter 13 = .ok (.goto 4, 3) := by decide +kernel
theorem dX7_isStateLetter_16 : decode cX7_isStateLetter 16 = .ok (.iconst 0, 1) := by decide +kernel
theorem dX7_isStateLetter_17 : decode cX7_isStateLetter 17 = .ok (.ireturn, 1) := by decide +kernel
