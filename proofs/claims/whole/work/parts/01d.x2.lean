set_option maxRecDepth 20000 in
theorem ggX2_init_X2_begin : GoodIn wsX2_init wsX2_begin := goodIn_r _ [14, 5, 15, 16, 17, 18, 19, 20, 21, 22, 23, 24, 25] (by decide +kernel) (by decide +kernel)
set_option maxRecDepth 20000 in
theorem gX2_init_X2_begin : GoodIn wsX2_init (wsV RX2 23 RX2 yX2_begin wsX2_begin) := goodIn_app (goodIn_of _ (by decide +kernel)) ggX2_init_X2_begin
theorem dX2_init_0 : decode cX2_init 0 = .ok (.aload_n 0, 1) := by decide +kernel
theorem dX2_init_1 : decode cX2_init 1 = .ok (.invokespecial 1, 3) := by decide +kernel
theorem dX2_init_4 : decode cX2_init 4 = .ok (.aload_n 0, 1) := by decide +kernel
theorem dX2_init_5 : decode cX2_init 5 = .ok (.sipush 155, 3) := by decide +kernel
theorem dX2_init_8 : decode cX2_init 8 = .ok (.newarray .int, 2) := by decide +kernel
theorem dX2_init_10 : decode cX2_init 10 = .ok (.putfield 7, 3) := by decide +kernel
theorem dX2_init_13 : decode cX2_init 13 = .ok (.aload_n 0, 1) := by decide +kernel
theorem dX2_init_14 : decode cX2_init 14 = .ok (.sipush 310, 3) := by decide +kernel
theorem dX2_init_17 : decode cX2_init 17 = .ok (.newarray .int, 2) := by decide +kernel
theorem dX2_init_19 : decode cX2_init 19 = .ok (.putfield 13, 3) := by decide +kernel
theorem dX2_init_22 : decode cX2_init 22 = .ok (.aload_n 0, 1) := by decide +kernel
theorem dX2_init_23 : decode cX2_init 23 = .ok (.iconst 2, 1) := by decide +kernel
theorem dX2_init_24 : decode cX2_init 24 = .ok (.newarray .boolean, 2) := by decide +kernel
theorem dX2_init_26 : decode cX2_init 26 = .ok (.putfield 16, 3) := by decide +kernel
theorem dX2_init_29 : decode cX2_init 29 = .ok (.aload_n 0, 1) := by decide +kernel
theorem dX2_init_30 : decode cX2_init 30 = .ok (.bipush 10, 2) := by decide +kernel
theorem dX2_init_32 : decode cX2_init 32 = .ok (.newarray .int, 2) := by decide +kernel
theorem dX2_init_34 : decode cX2_init 34 = .ok (.putfield 20, 3) := by decide +kernel
theorem dX2_init_37 : decode cX2_init 37 = .ok (.aload_n 0, 1) := by decide +kernel
theorem dX2_init_38 : decode cX2_init 38 = .ok (.getfield 7, 3) := by decide +kernel
theorem dX2_init_41 : decode cX2_init 41 = .ok (.iconst 2, 1) := by decide +kernel
theorem dX2_init_42 : decode cX2_init 42 = .ok (.sipush 250, 3) := by decide +kernel
theorem dX2_init_45 : decode cX2_init 45 = .ok (.iastore, 1) := by decide +kernel
theorem dX2_init_46 : decode cX2_init 46 = .ok (.aload_n 0, 1) := by decide +kernel
theorem dX2_init_47 : decode cX2_init 47 = .ok (.getfield 7, 3) := by decide +kernel
theorem dX2_init_50 : decode cX2_init 50 = .ok (.iconst 3, 1) := by decide +kernel
theorem dX2_init_51 : decode cX2_init 51 = .ok (.sipush 250, 3) := by decide +kernel
theorem dX2_init_54 : decode cX2_init 54 = .ok (.iastore, 1) := by decide +kernel
theorem dX2_init_55 : decode cX2_init 55 = .ok (.aload_n 0, 1) := by decide +kernel
theorem dX2_init_56 : decode cX2_init 56 = .ok (.getfield 7, 3) := by decide +kernel
theorem dX2_init_59 : decode cX2_init 59 = .ok (.iconst 4, 1) := by decide +kernel
theorem dX2_init_60 : decode cX2_init 60 = .ok (.sipush 2000, 3) := by decide +kernel
theorem dX2_init_63 : decode cX2_init 63 = .ok (.iastore, 1) := by decide +kernel
theorem dX2_init_64 : decode cX2_init 64 = .ok (.aload_n 0, 1) := by decide +kernel
theorem dX2_init_65 : decode cX2_init 65 = .ok (.iconst 5, 1) := by decide +kernel
theorem dX2_init_66 : decode cX2_init 66 = .ok (.invokevirtual 23, 3) := by decide +kernel
theorem dX2_init_69 : decode cX2_init 69 = .ok (.return_, 1) := by decide +kernel
theorem dX2_begin_0 : decode cX2_begin 0 = .ok (.aload_n 0, 1) := by decide +kernel
theorem dX2_begin_1 : decode cX2_begin 1 = .ok (.getfield 7, 3) := by decide +kernel
theorem dX2_begin_4 : decode cX2_begin 4 = .ok (.iconst 0, 1) := by decide +kernel
theorem dX2_begin_5 : decode cX2_begin 5 = .ok (.iload_n 1, 1) := by decide +kernel
theorem dX2_begin_6 : decode cX2_begin 6 = .ok (.iastore, 1) := by decide +kernel
theorem dX2_begin_7 : decode cX2_begin 7 = .ok (.aload_n 0, 1) := by decide +kernel
theorem dX2_begin_8 : decode cX2_begin 8 = .ok (.getfield 7, 3) := by decide +kernel
theorem dX2_begin_11 : decode cX2_begin 11 = .ok (.iconst 1, 1) := by decide +kernel
theorem dX2_begin_12 : decode cX2_begin 12 = .ok (.iconst 0, 1) := by decide +kernel
theorem dX2_begin_13 : decode cX2_begin 13 = .ok (.iastore, 1) := by decide +kernel
theorem dX2_begin_14 : decode cX2_begin 14 = .ok (.iconst 5, 1) := by decide +kernel
theorem dX2_begin_15 : decode cX2_begin 15 = .ok (.istore_n 2, 1) := by decide +kernel
theorem dX2_begin_16 : decode cX2_begin 16 = .ok (.iload_n 2, 1) := by decide +kernel
theorem dX2_begin_17 : decode cX2_begin 17 = .ok (.sipush 155, 3) := by decide +kernel
theorem dX2_begin_20 : decode cX2_begin 20 = .ok (.if_icmp .ge 34, 3) := by decide +kernel
theorem dX2_begin_23 : decode cX2_begin 23 = .ok (.aload_n 0, 1) := by decide +kernel
theorem dX2_begin_24 : decode cX2_begin 24 = .ok (.getfield 7, 3) := by decide +kernel
theorem dX2_begin_27 : decode cX2_begin 27 = .ok (.iload_n 2, 1) := by decide +kernel
theorem dX2_begin_28 : decode cX2_begin 28 = .ok (.iload_n 2, 1) := by decide +kernel
theorem dX2_begin_29 : decode cX2_begin 29 = .ok (.bipush 35, 2) := by decide +kernel
theorem dX2_begin_31 : decode cX2_begin 31 = .ok (.if_icmp .lt 15, 3) := by decide +kernel
theorem dX2_begin_34 : decode cX2_begin 34 = .ok (.iload_n 2, 1) := by decide +kernel
theorem dX2_begin_35 : decode cX2_begin 35 = .ok (.bipush 45, 2) := by decide +kernel
theorem dX2_begin_37 : decode cX2_begin 37 = .ok (.if_icmp .ge 9, 3) := by decide +kernel
theorem dX2_begin_40 : decode cX2_begin 40 = .ok (.sipush 1000, 3) := by decide +kernel
theorem dX2_begin_43 : decode cX2_begin 43 = .ok (.goto 4, 3) := by decide +kernel
theorem dX2_begin_46 : decode cX2_begin 46 = .ok (.iconst 0, 1) := by decide +kernel
theorem dX2_begin_47 : decode cX2_begin 47 = .ok (.iastore, 1) := by decide +kernel
theorem dX2_begin_48 : decode cX2_begin 48 = .ok (.iinc 2 1, 3) := by decide +kernel
theorem dX2_begin_51 : decode cX2_begin 51 = .ok (.goto (-35), 3) := by decide +kernel
theorem dX2_begin_54 : decode cX2_begin 54 = .ok (.return_, 1) := by decide +kernel
theorem dX2_in_0 : decode cX2_in 0 = .ok (.iload_n 0, 1) := by decide +kernel
theorem dX2_in_1 : decode cX2_in 1 = .ok (.iload_n 1, 1) := by decide +kernel
theorem dX2_in_2 : decode cX2_in 2 = .ok (.if_icmp .lt 12, 3) := by decide +kernel
theorem dX2_in_5 : decode cX2_in 5 = .ok (.iload_n 0, 1) := by decide +kernel
theorem dX2_in_6 : decode cX2_in 6 = .ok (.iload_n 2, 1) := by decide +kernel
theorem dX2_in_7 : decode cX2_in 7 = .ok (.if_icmp .gt 7, 3) := by decide +kernel
theorem dX2_in_10 : decode cX2_in 10 = .ok (.iconst 1, 1) := by decide +kernel
theorem dX2_in_11 : decode cX2_in 11 = .ok (.goto 4, 3) := by decide +kernel
theorem dX2_in_14 : decode cX2_in 14 = .ok (.iconst 0, 1) := by decide +kernel
theorem dX2_in_15 : decode cX2_in 15 = .ok (.ireturn, 1) := by decide +kernel
set_option maxRecDepth 20000 in
theorem ggX2_isNode_X2_in : GoodIn wsX2_isNode wsX2_in := goodIn_r _ [5] (by decide +kernel) (by decide +kernel)
set_option maxRecDepth 20000 in
theorem gX2_isNode_X2_in : GoodIn wsX2_isNode (va_wsS RX2 27 yX2_in wsX2_in) := goodIn_app (goodIn_of _ (by decide +kernel)) ggX2_isNode_X2_in
theorem dX2_isNode_0 : decode cX2_isNode 0 = .ok (.iload_n 1, 1) := by decide +kernel
theorem dX2_isNode_1 : decode cX2_isNode 1 = .ok (.iconst 0, 1) := by decide +kernel
theorem dX2_isNode_2 : decode cX2_isNode 2 = .ok (.aload_n 0, 1) := by decide +kernel
theorem dX2_isNode_3 : decode cX2_isNode 3 = .ok (.getfield 7, 3) := by decide +kernel
theorem dX2_isNode_6 : decode cX2_isNode 6 = .ok (.iconst 0, 1) := by decide +kernel
theorem dX2_isNode_7 : decode cX2_isNode 7 = .ok (.iaload, 1) := by decide +kernel
theorem dX2_isNode_8 : decode cX2_isNode 8 = .ok (.iconst 1, 1) := by decide +kernel
theorem dX2_isNode_9 : decode cX2_isNode 9 = .ok (.isub, 1) := by decide +kernel
theorem dX2_isNode_10 : decode cX2_isNode 10 = .ok (.invokestatic 27, 3) := by decide +kernel
theorem dX2_isNode_13 : decode cX2_isNode 13 = .ok (.ireturn, 1) := by decide +kernel
theorem dX2_plain_0 : decode cX2_plain 0 = .ok (.lload_n 0, 1) := by decide +kernel
theorem dX2_plain_1 : decode cX2_plain 1 = .ok (.lconst 0, 1) := by decide +kernel
theorem dX2_plain_2 : decode cX2_plain 2 = .ok (.lcmp, 1) := by decide +kernel
theorem dX2_plain_3 : decode cX2_plain 3 = .ok (.ifCond .ge 8, 3) := by decide +kernel
theorem dX2_plain_6 : decode cX2_plain 6 = .ok (.lload_n 0, 1) := by decide +kernel
theorem dX2_plain_7 : decode cX2_plain 7 = .ok (.lneg, 1) := by decide +kernel
theorem dX2_plain_8 : decode cX2_plain 8 = .ok (.goto 4, 3) := by decide +kernel
theorem dX2_plain_11 : decode cX2_plain 11 = .ok (.lload_n 0, 1) := by decide +kernel
theorem dX2_plain_12 : decode cX2_plain 12 = .ok (.lreturn, 1) := by decide +kernel
theorem dX2_limited_0 : decode cX2_limited 0 = .ok (.lload_n 0, 1) := by decide +kernel
theorem dX2_limited_1 : decode cX2_limited 1 = .ok (.iload_n 2, 1) := by decide +kernel
theorem dX2_limited_2 : decode cX2_limited 2 = .ok (.i2l, 1) := by decide +kernel
theorem dX2_limited_3 : decode cX2_limited 3 = .ok (.lcmp, 1) := by decide +kernel
theorem dX2_limited_4 : decode cX2_limited 4 = .ok (.ifCond .ge 8, 3) := by decide +kernel
theorem dX2_limited_7 : decode cX2_limited 7 = .ok (.iload_n 2, 1) := by decide +kernel
theorem dX2_limited_8 : decode cX2_limited 8 = .ok (.i2l, 1) := by decide +kernel
theorem dX2_limited_9 : decode cX2_limited 9 = .ok (.goto 16, 3) := by decide +kernel
theorem dX2_limited_12 : decode cX2_limited 12 = .ok (.lload_n 0, 1) := by decide +kernel
theorem dX2_limited_13 : decode cX2_limited 13 = .ok (.iload_n 3, 1) := by decide +kernel
theorem dX2_limited_14 : decode cX2_limited 14 = .ok (.i2l, 1) := by decide +kernel
theorem dX2_limited_15 : decode cX2_limited 15 = .ok (.lcmp, 1) := by decide +kernel
theorem dX2_limited_16 : decode cX2_limited 16 = .ok (.ifCond .le 8, 3) := by decide +kernel
theorem dX2_limited_19 : decode cX2_limited 19 = .ok (.iload_n 3, 1) := by decide +kernel
theorem dX2_limited_20 : decode cX2_limited 20 = .ok (.i2l, 1) := by decide +kernel
theorem dX2_limited_21 : decode cX2_limited 21 = .ok (.goto 4, 3) := by decide +kernel
theorem dX2_limited_24 : decode cX2_limited 24 = .ok (.lload_n 0, 1) := by decide +kernel
theorem dX2_limited_25 : decode cX2_limited 25 = .ok (.l2i, 1) := by decide +kernel
theorem dX2_limited_26 : decode cX2_limited 26 = .ok (.ireturn, 1) := by decide +kernel
theorem dX2_root_0 : decode cX2_root 0 = .ok (.lconst 0, 1) := by decide +kernel
theorem dX2_root_1 : decode cX2_root 1 = .ok (.lstore_n 2, 1) := by decide +kernel
theorem dX2_root_2 : decode cX2_root 2 = .ok (.ldc2_w 31, 3) := by decide +kernel
theorem dX2_root_5 : decode cX2_root 5 = .ok (.lstore 4, 2) := by decide +kernel
theorem dX2_root_7 : decode cX2_root 7 = .ok (.lload_n 2, 1) := by decide +kernel
theorem dX2_root_8 : decode cX2_root 8 = .ok (.lload 4, 2) := by decide +kernel
theorem dX2_root_10 : decode cX2_root 10 = .ok (.lcmp, 1) := by decide +kernel
theorem dX2_root_11 : decode cX2_root 11 = .ok (.ifCond .ge 40, 3) := by decide +kernel
theorem dX2_root_14 : decode cX2_root 14 = .ok (.lload_n 2, 1) := by decide +kernel
theorem dX2_root_15 : decode cX2_root 15 = .ok (.lload 4, 2) := by decide +kernel
theorem dX2_root_17 : decode cX2_root 17 = .ok (.ladd, 1) := by decide +kernel
theorem dX2_root_18 : decode cX2_root 18 = .ok (.lconst 1, 1) := by decide +kernel
theorem dX2_root_19 : decode cX2_root 19 = .ok (.ladd, 1) := by decide +kernel
theorem dX2_root_20 : decode cX2_root 20 = .ok (.ldc2_w 33, 3) := by decide +kernel
theorem dX2_root_23 : decode cX2_root 23 = .ok (.ldiv, 1) := by decide +kernel
theorem dX2_root_24 : decode cX2_root 24 = .ok (.lstore 6, 2) := by decide +kernel
theorem dX2_root_26 : decode cX2_root 26 = .ok (.lload 6, 2) := by decide +kernel
theorem dX2_root_28 : decode cX2_root 28 = .ok (.lload 6, 2) := by decide +kernel
theorem dX2_root_30 : decode cX2_root 30 = .ok (.lmul, 1) := by decide +kernel
theorem dX2_root_31 : decode cX2_root 31 = .ok (.lload_n 0, 1) := by decide +kernel
theorem dX2_root_32 : decode cX2_root 32 = .ok (.lcmp, 1) := by decide +kernel
theorem dX2_root_33 : decode cX2_root 33 = .ok (.ifCond .gt 9, 3) := by decide +kernel
theorem dX2_root_36 : decode cX2_root 36 = .ok (.lload 6, 2) := by decide +kernel
theorem dX2_root_38 : decode cX2_root 38 = .ok (.lstore_n 2, 1) := by decide +kernel
theorem dX2_root_39 : decode cX2_root 39 = .ok (.goto 9, 3) := by decide +kernel
theorem dX2_root_42 : decode cX2_root 42 = .ok (.lload 6, 2) := by decide +kernel
theorem dX2_root_44 : decode cX2_root 44 = .ok (.lconst 1, 1) := by decide +kernel
theorem dX2_root_45 : decode cX2_root 45 = .ok (.lsub, 1) := by decide +kernel
theorem dX2_root_46 : decode cX2_root 46 = .ok (.lstore 4, 2) := by decide +kernel
theorem dX2_root_48 : decode cX2_root 48 = .ok (.goto (-41), 3) := by decide +kernel
theorem dX2_root_51 : decode cX2_root 51 = .ok (.lload_n 2, 1) := by decide +kernel
theorem dX2_root_52 : decode cX2_root 52 = .ok (.lreturn, 1) := by decide +kernel
set_option maxRecDepth 20000 in
theorem ggX2_reset_X2_in : GoodIn wsX2_reset wsX2_in := goodIn_r _ [6] (by decide +kernel) (by decide +kernel)
set_option maxRecDepth 20000 in
theorem gX2_reset_X2_in : GoodIn wsX2_reset (va_wsS RX2 27 yX2_in wsX2_in) := goodIn_app (goodIn_of _ (by decide +kernel)) ggX2_reset_X2_in
set_option maxRecDepth 20000 in
theorem ggX2_reset_X2_begin : GoodIn wsX2_reset wsX2_begin := goodIn_r _ [10, 2, 11, 12, 13, 14, 15, 16, 17, 18, 19, 20, 21] (by decide +kernel) (by decide +kernel)
set_option maxRecDepth 20000 in
theorem gX2_reset_X2_begin : GoodIn wsX2_reset (wsV RX2 23 RX2 yX2_begin wsX2_begin) := goodIn_app (goodIn_of _ (by decide +kernel)) ggX2_reset_X2_begin
theorem dX2_reset_0 : decode cX2_reset 0 = .ok (.iload_n 1, 1) := by decide +kernel
theorem dX2_reset_1 : decode cX2_reset 1 = .ok (.iconst 2, 1) := by decide +kernel
theorem dX2_reset_2 : decode cX2_reset 2 = .ok (.bipush 10, 2) := by decide +kernel
theorem dX2_reset_4 : decode cX2_reset 4 = .ok (.invokestatic 27, 3) := by decide +kernel
theorem dX2_reset_7 : decode cX2_reset 7 = .ok (.ifCond .ne 6, 3) := by decide +kernel
theorem dX2_reset_10 : decode cX2_reset 10 = .ok (.ldc 35, 2) := by decide +kernel
theorem dX2_reset_12 : decode cX2_reset 12 = .ok (.ireturn, 1) := by decide +kernel
theorem dX2_reset_13 : decode cX2_reset 13 = .ok (.aload_n 0, 1) := by decide +kernel
theorem dX2_reset_14 : decode cX2_reset 14 = .ok (.getfield 7, 3) := by decide +kernel
theorem dX2_reset_17 : decode cX2_reset 17 = .ok (.iconst 0, 1) := by decide +kernel
theorem dX2_reset_18 : decode cX2_reset 18 = .ok (.iaload, 1) := by decide +kernel
theorem dX2_reset_19 : decode cX2_reset 19 = .ok (.istore_n 2, 1) := by decide +kernel
theorem dX2_reset_20 : decode cX2_reset 20 = .ok (.aload_n 0, 1) := by decide +kernel
theorem dX2_reset_21 : decode cX2_reset 21 = .ok (.iload_n 1, 1) := by decide +kernel
theorem dX2_reset_22 : decode cX2_reset 22 = .ok (.invokevirtual 23, 3) := by decide +kernel
theorem dX2_reset_25 : decode cX2_reset 25 = .ok (.iload_n 2, 1) := by decide +kernel
theorem dX2_reset_26 : decode cX2_reset 26 = .ok (.ireturn, 1) := by decide +kernel
theorem dX2_set_0 : decode cX2_set 0 = .ok (.aload_n 0, 1) := by decide +kernel
theorem dX2_set_1 : decode cX2_set 1 = .ok (.getfield 7, 3) := by decide +kernel
theorem dX2_set_4 : decode cX2_set 4 = .ok (.iload_n 1, 1) := by decide +kernel
theorem dX2_set_5 : decode cX2_set 5 = .ok (.iaload, 1) := by decide +kernel
theorem dX2_set_6 : decode cX2_set 6 = .ok (.istore_n 3, 1) := by decide +kernel
theorem dX2_set_7 : decode cX2_set 7 = .ok (.aload_n 0, 1) := by decide +kernel
theorem dX2_set_8 : decode cX2_set 8 = .ok (.getfield 7, 3) := by decide +kernel
theorem dX2_set_11 : decode cX2_set 11 = .ok (.iload_n 1, 1) := by decide +kernel
theorem dX2_set_12 : decode cX2_set 12 = .ok (.iload_n 2, 1) := by decide +kernel
theorem dX2_set_13 : decode cX2_set 13 = .ok (.iastore, 1) := by decide +kernel
theorem dX2_set_14 : decode cX2_set 14 = .ok (.iload_n 3, 1) := by decide +kernel
theorem dX2_set_15 : decode cX2_set 15 = .ok (.ireturn, 1) := by decide +kernel
theorem dX2_cell_0 : decode cX2_cell 0 = .ok (.bipush 55, 2) := by decide +kernel
theorem dX2_cell_2 : decode cX2_cell 2 = .ok (.bipush 10, 2) := by decide +kernel
theorem dX2_cell_4 : decode cX2_cell 4 = .ok (.iload_n 0, 1) := by decide +kernel
theorem dX2_cell_5 : decode cX2_cell 5 = .ok (.imul, 1) := by decide +kernel
theorem dX2_cell_6 : decode cX2_cell 6 = .ok (.iadd, 1) := by decide +kernel
theorem dX2_cell_7 : decode cX2_cell 7 = .ok (.iload_n 1, 1) := by decide +kernel
theorem dX2_cell_8 : decode cX2_cell 8 = .ok (.iadd, 1) := by decide +kernel
theorem dX2_cell_9 : decode cX2_cell 9 = .ok (.ireturn, 1) := by decide +kernel
set_option maxRecDepth 20000 in
theorem ggX2_wrongPair_X2_isNode : GoodIn wsX2_wrongPair wsX2_isNode := goodIn_r _ [7, 8, 9, 10, 6, 11, 12, 13, 14, 15, 16, 17, 18, 19, 20, 21, 22] (by decide +kernel) (by decide +kernel)
set_option maxRecDepth 20000 in
theorem gX2_wrongPair_X2_isNode : GoodIn wsX2_wrongPair (wsV RX2 36 RX2 yX2_isNode wsX2_isNode) := goodIn_app (goodIn_of _ (by decide +kernel)) ggX2_wrongPair_X2_isNode
theorem dX2_wrongPair_0 : decode cX2_wrongPair 0 = .ok (.aload_n 0, 1) := by decide +kernel
theorem dX2_wrongPair_1 : decode cX2_wrongPair 1 = .ok (.iload_n 1, 1) := by decide +kernel
theorem dX2_wrongPair_2 : decode cX2_wrongPair 2 = .ok (.invokevirtual 36, 3) := by decide +kernel
theorem dX2_wrongPair_5 : decode cX2_wrongPair 5 = .ok (.ifCond .eq 11, 3) := by decide +kernel
theorem dX2_wrongPair_8 : decode cX2_wrongPair 8 = .ok (.aload_n 0, 1) := by decide +kernel
theorem dX2_wrongPair_9 : decode cX2_wrongPair 9 = .ok (.iload_n 2, 1) := by decide +kernel
theorem dX2_wrongPair_10 : decode cX2_wrongPair 10 = .ok (.invokevirtual 36, 3) := by decide +kernel
theorem dX2_wrongPair_13 : decode cX2_wrongPair 13 = .ok (.ifCond .ne 8, 3) := by decide +kernel
theorem dX2_wrongPair_16 : decode cX2_wrongPair 16 = .ok (.ldc 40, 2) := by decide +kernel
theorem dX2_wrongPair_18 : decode cX2_wrongPair 18 = .ok (.goto 14, 3) := by decide +kernel
theorem dX2_wrongPair_21 : decode cX2_wrongPair 21 = .ok (.iload_n 1, 1) := by decide +kernel
theorem dX2_wrongPair_22 : decode cX2_wrongPair 22 = .ok (.iload_n 2, 1) := by decide +kernel
theorem dX2_wrongPair_23 : decode cX2_wrongPair 23 = .ok (.if_icmp .ne 8, 3) := by decide +kernel
theorem dX2_wrongPair_26 : decode cX2_wrongPair 26 = .ok (.ldc 41, 2) := by decide +kernel
theorem dX2_wrongPair_28 : decode cX2_wrongPair 28 = .ok (.goto 4, 3) := by decide +kernel
theorem dX2_wrongPair_31 : decode cX2_wrongPair 31 = .ok (.iconst 0, 1) := by decide +kernel
theorem dX2_wrongPair_32 : decode cX2_wrongPair 32 = .ok (.ireturn, 1) := by decide +kernel
set_option maxRecDepth 20000 in
theorem ggX2_wrongKnown_X2_wrongPair : GoodIn wsX2_wrongKnown wsX2_wrongPair := goodIn_r _ [7, 8, 9, 10, 11, 12, 6, 13, 1, 14, 15, 16, 20, 21, 22, 23, 24, 25, 26, 27, 28, 29, 30] (by decide +kernel) (by decide +kernel)
set_option maxRecDepth 20000 in
theorem gX2_wrongKnown_X2_wrongPair : GoodIn wsX2_wrongKnown (wsV RX2 42 RX2 yX2_wrongPair wsX2_wrongPair) := goodIn_app (goodIn_of _ (by decide +kernel)) ggX2_wrongKnown_X2_wrongPair
set_option maxRecDepth 20000 in
theorem ggX2_wrongKnown_X2_cell : GoodIn wsX2_wrongKnown wsX2_cell := goodIn_r _ [19] (by decide +kernel) (by decide +kernel)
set_option maxRecDepth 20000 in
theorem gX2_wrongKnown_X2_cell : GoodIn wsX2_wrongKnown (va_wsS RX2 46 yX2_cell wsX2_cell) := goodIn_app (goodIn_of _ (by decide +kernel)) ggX2_wrongKnown_X2_cell
theorem dX2_wrongKnown_0 : decode cX2_wrongKnown 0 = .ok (.aload_n 0, 1) := by decide +kernel
theorem dX2_wrongKnown_1 : decode cX2_wrongKnown 1 = .ok (.iload_n 1, 1) := by decide +kernel
theorem dX2_wrongKnown_2 : decode cX2_wrongKnown 2 = .ok (.iload_n 2, 1) := by decide +kernel
theorem dX2_wrongKnown_3 : decode cX2_wrongKnown 3 = .ok (.invokevirtual 42, 3) := by decide +kernel
theorem dX2_wrongKnown_6 : decode cX2_wrongKnown 6 = .ok (.istore_n 3, 1) := by decide +kernel
theorem dX2_wrongKnown_7 : decode cX2_wrongKnown 7 = .ok (.iload_n 3, 1) := by decide +kernel
theorem dX2_wrongKnown_8 : decode cX2_wrongKnown 8 = .ok (.ifCond .eq 7, 3) := by decide +kernel
theorem dX2_wrongKnown_11 : decode cX2_wrongKnown 11 = .ok (.iload_n 3, 1) := by decide +kernel
theorem dX2_wrongKnown_12 : decode cX2_wrongKnown 12 = .ok (.goto 22, 3) := by decide +kernel
theorem dX2_wrongKnown_15 : decode cX2_wrongKnown 15 = .ok (.aload_n 0, 1) := by decide +kernel
theorem dX2_wrongKnown_16 : decode cX2_wrongKnown 16 = .ok (.getfield 7, 3) := by decide +kernel
theorem dX2_wrongKnown_19 : decode cX2_wrongKnown 19 = .ok (.iload_n 1, 1) := by decide +kernel
theorem dX2_wrongKnown_20 : decode cX2_wrongKnown 20 = .ok (.iload_n 2, 1) := by decide +kernel
theorem dX2_wrongKnown_21 : decode cX2_wrongKnown 21 = .ok (.invokestatic 46, 3) := by decide +kernel
theorem dX2_wrongKnown_24 : decode cX2_wrongKnown 24 = .ok (.iaload, 1) := by decide +kernel
theorem dX2_wrongKnown_25 : decode cX2_wrongKnown 25 = .ok (.ifCond .ne 8, 3) := by decide +kernel
theorem dX2_wrongKnown_28 : decode cX2_wrongKnown 28 = .ok (.ldc 49, 2) := by decide +kernel
theorem dX2_wrongKnown_30 : decode cX2_wrongKnown 30 = .ok (.goto 4, 3) := by decide +kernel
theorem dX2_wrongKnown_33 : decode cX2_wrongKnown 33 = .ok (.iconst 0, 1) := by decide +kernel
theorem dX2_wrongKnown_34 : decode cX2_wrongKnown 34 = .ok (.ireturn, 1) := by decide +kernel
set_option maxRecDepth 20000 in
theorem ggX2_setRtt_X2_wrongPair : GoodIn wsX2_setRtt wsX2_wrongPair := goodIn_r _ [7, 8, 9, 10, 11, 12, 6, 13, 2, 14, 15, 16, 24, 25, 26, 27, 28, 29, 30, 31, 32, 33, 34] (by decide +kernel) (by decide +kernel)
set_option maxRecDepth 20000 in
theorem gX2_setRtt_X2_wrongPair : GoodIn wsX2_setRtt (wsV RX2 42 RX2 yX2_wrongPair wsX2_wrongPair) := goodIn_app (goodIn_of _ (by decide +kernel)) ggX2_setRtt_X2_wrongPair
set_option maxRecDepth 20000 in
theorem ggX2_setRtt_X2_in : GoodIn wsX2_setRtt wsX2_in := goodIn_r _ [16] (by decide +kernel) (by decide +kernel)
set_option maxRecDepth 20000 in
theorem gX2_setRtt_X2_in : GoodIn wsX2_setRtt (va_wsS RX2 27 yX2_in wsX2_in) := goodIn_app (goodIn_of _ (by decide +kernel)) ggX2_setRtt_X2_in
set_option maxRecDepth 20000 in
theorem ggX2_setRtt_X2_cell : GoodIn wsX2_setRtt wsX2_cell := goodIn_r _ [19] (by decide +kernel) (by decide +kernel)
set_option maxRecDepth 20000 in
theorem gX2_setRtt_X2_cell : GoodIn wsX2_setRtt (va_wsS RX2 46 yX2_cell wsX2_cell) := goodIn_app (goodIn_of _ (by decide +kernel)) ggX2_setRtt_X2_cell
set_option maxRecDepth 20000 in
theorem ggX2_setRtt_X2_set : GoodIn wsX2_setRtt wsX2_set := goodIn_r _ [23, 2, 24, 25, 26, 27, 28, 29, 30, 31, 32, 33, 34] (by decide +kernel) (by decide +kernel)
set_option maxRecDepth 20000 in
theorem gX2_setRtt_X2_set : GoodIn wsX2_setRtt (wsV RX2 50 RX2 yX2_set wsX2_set) := goodIn_app (goodIn_of _ (by decide +kernel)) ggX2_setRtt_X2_set
theorem dX2_setRtt_0 : decode cX2_setRtt 0 = .ok (.aload_n 0, 1) := by decide +kernel
theorem dX2_setRtt_1 : decode cX2_setRtt 1 = .ok (.iload_n 1, 1) := by decide +kernel
theorem dX2_setRtt_2 : decode cX2_setRtt 2 = .ok (.iload_n 2, 1) := by decide +kernel
theorem dX2_setRtt_3 : decode cX2_setRtt 3 = .ok (.invokevirtual 42, 3) := by decide +kernel
theorem dX2_setRtt_6 : decode cX2_setRtt 6 = .ok (.istore 4, 2) := by decide +kernel
theorem dX2_setRtt_8 : decode cX2_setRtt 8 = .ok (.iload 4, 2) := by decide +kernel
theorem dX2_setRtt_10 : decode cX2_setRtt 10 = .ok (.ifCond .eq 6, 3) := by decide +kernel
theorem dX2_setRtt_13 : decode cX2_setRtt 13 = .ok (.iload 4, 2) := by decide +kernel
theorem dX2_setRtt_15 : decode cX2_setRtt 15 = .ok (.ireturn, 1) := by decide +kernel
theorem dX2_setRtt_16 : decode cX2_setRtt 16 = .ok (.iload_n 3, 1) := by decide +kernel
theorem dX2_setRtt_17 : decode cX2_setRtt 17 = .ok (.iconst 0, 1) := by decide +kernel
theorem dX2_setRtt_18 : decode cX2_setRtt 18 = .ok (.sipush 20000, 3) := by decide +kernel
theorem dX2_setRtt_21 : decode cX2_setRtt 21 = .ok (.invokestatic 27, 3) := by decide +kernel
theorem dX2_setRtt_24 : decode cX2_setRtt 24 = .ok (.ifCond .ne 6, 3) := by decide +kernel
theorem dX2_setRtt_27 : decode cX2_setRtt 27 = .ok (.ldc 35, 2) := by decide +kernel
theorem dX2_setRtt_29 : decode cX2_setRtt 29 = .ok (.ireturn, 1) := by decide +kernel
theorem dX2_setRtt_30 : decode cX2_setRtt 30 = .ok (.aload_n 0, 1) := by decide +kernel
theorem dX2_setRtt_31 : decode cX2_setRtt 31 = .ok (.getfield 7, 3) := by decide +kernel
theorem dX2_setRtt_34 : decode cX2_setRtt 34 = .ok (.iload_n 2, 1) := by decide +kernel
theorem dX2_setRtt_35 : decode cX2_setRtt 35 = .ok (.iload_n 1, 1) := by decide +kernel
theorem dX2_setRtt_36 : decode cX2_setRtt 36 = .ok (.invokestatic 46, 3) := by decide +kernel
theorem dX2_setRtt_39 : decode cX2_setRtt 39 = .ok (.iload_n 3, 1) := by decide +kernel
theorem dX2_setRtt_40 : decode cX2_setRtt 40 = .ok (.iastore, 1) := by decide +kernel
theorem dX2_setRtt_41 : decode cX2_setRtt 41 = .ok (.aload_n 0, 1) := by decide +kernel
theorem dX2_setRtt_42 : decode cX2_setRtt 42 = .ok (.iload_n 1, 1) := by decide +kernel
theorem dX2_setRtt_43 : decode cX2_setRtt 43 = .ok (.iload_n 2, 1) := by decide +kernel
theorem dX2_setRtt_44 : decode cX2_setRtt 44 = .ok (.invokestatic 46, 3) := by decide +kernel
theorem dX2_setRtt_47 : decode cX2_setRtt 47 = .ok (.iload_n 3, 1) := by decide +kernel
theorem dX2_setRtt_48 : decode cX2_setRtt 48 = .ok (.invokevirtual 50, 3) := by decide +kernel
theorem dX2_setRtt_51 : decode cX2_setRtt 51 = .ok (.ireturn, 1) := by decide +kernel
set_option maxRecDepth 20000 in
theorem ggX2_rtt_X2_wrongKnown : GoodIn wsX2_rtt wsX2_wrongKnown := goodIn_r _ [6, 1, 7, 8, 9, 10, 5, 11, 12, 13, 14, 15, 16, 17, 18, 19, 20, 21, 22, 23, 24, 25, 26, 27, 28, 29, 30, 31, 32, 33, 34] (by decide +kernel) (by decide +kernel)
set_option maxRecDepth 20000 in
theorem gX2_rtt_X2_wrongKnown : GoodIn wsX2_rtt (wsV RX2 53 RX2 yX2_wrongKnown wsX2_wrongKnown) := goodIn_app (goodIn_of _ (by decide +kernel)) ggX2_rtt_X2_wrongKnown
set_option maxRecDepth 20000 in
theorem ggX2_rtt_X2_cell : GoodIn wsX2_rtt wsX2_cell := goodIn_r _ [23] (by decide +kernel) (by decide +kernel)
set_option maxRecDepth 20000 in
theorem gX2_rtt_X2_cell : GoodIn wsX2_rtt (va_wsS RX2 46 yX2_cell wsX2_cell) := goodIn_app (goodIn_of _ (by decide +kernel)) ggX2_rtt_X2_cell
theorem dX2_rtt_0 : decode cX2_rtt 0 = .ok (.aload_n 0, 1) := by decide +kernel
theorem dX2_rtt_1 : decode cX2_rtt 1 = .ok (.iload_n 1, 1) := by decide +kernel
theorem dX2_rtt_2 : decode cX2_rtt 2 = .ok (.iload_n 2, 1) := by decide +kernel
theorem dX2_rtt_3 : decode cX2_rtt 3 = .ok (.invokevirtual 53, 3) := by decide +kernel
theorem dX2_rtt_6 : decode cX2_rtt 6 = .ok (.istore_n 3, 1) := by decide +kernel
theorem dX2_rtt_7 : decode cX2_rtt 7 = .ok (.iload_n 3, 1) := by decide +kernel
theorem dX2_rtt_8 : decode cX2_rtt 8 = .ok (.ifCond .eq 7, 3) := by decide +kernel
theorem dX2_rtt_11 : decode cX2_rtt 11 = .ok (.iload_n 3, 1) := by decide +kernel
theorem dX2_rtt_12 : decode cX2_rtt 12 = .ok (.goto 13, 3) := by decide +kernel
theorem dX2_rtt_15 : decode cX2_rtt 15 = .ok (.aload_n 0, 1) := by decide +kernel
theorem dX2_rtt_16 : decode cX2_rtt 16 = .ok (.getfield 7, 3) := by decide +kernel
theorem dX2_rtt_19 : decode cX2_rtt 19 = .ok (.iload_n 1, 1) := by decide +kernel
theorem dX2_rtt_20 : decode cX2_rtt 20 = .ok (.iload_n 2, 1) := by decide +kernel
theorem dX2_rtt_21 : decode cX2_rtt 21 = .ok (.invokestatic 46, 3) := by decide +kernel
theorem dX2_rtt_24 : decode cX2_rtt 24 = .ok (.iaload, 1) := by decide +kernel
theorem dX2_rtt_25 : decode cX2_rtt 25 = .ok (.ireturn, 1) := by decide +kernel
set_option maxRecDepth 20000 in
theorem ggX2_setLie_X2_isNode : GoodIn wsX2_setLie wsX2_isNode := goodIn_r _ [7, 8, 9, 10, 6, 11, 16, 17, 18, 19, 20, 21, 22, 23, 24, 25, 26] (by decide +kernel) (by decide +kernel)
set_option maxRecDepth 20000 in
theorem gX2_setLie_X2_isNode : GoodIn wsX2_setLie (wsV RX2 36 RX2 yX2_isNode wsX2_isNode) := goodIn_app (goodIn_of _ (by decide +kernel)) ggX2_setLie_X2_isNode
set_option maxRecDepth 20000 in
theorem ggX2_setLie_X2_in : GoodIn wsX2_setLie wsX2_in := goodIn_r _ [11] (by decide +kernel) (by decide +kernel)
set_option maxRecDepth 20000 in
theorem gX2_setLie_X2_in : GoodIn wsX2_setLie (va_wsS RX2 27 yX2_in wsX2_in) := goodIn_app (goodIn_of _ (by decide +kernel)) ggX2_setLie_X2_in
set_option maxRecDepth 20000 in
theorem ggX2_setLie_X2_set : GoodIn wsX2_setLie wsX2_set := goodIn_r _ [15, 8, 16, 17, 18, 19, 20, 21, 22, 23, 24, 25, 26] (by decide +kernel) (by decide +kernel)
set_option maxRecDepth 20000 in
theorem gX2_setLie_X2_set : GoodIn wsX2_setLie (wsV RX2 50 RX2 yX2_set wsX2_set) := goodIn_app (goodIn_of _ (by decide +kernel)) ggX2_setLie_X2_set
theorem dX2_setLie_0 : decode cX2_setLie 0 = .ok (.aload_n 0, 1) := by decide +kernel
theorem dX2_setLie_1 : decode cX2_setLie 1 = .ok (.iload_n 1, 1) := by decide +kernel
theorem dX2_setLie_2 : decode cX2_setLie 2 = .ok (.invokevirtual 36, 3) := by decide +kernel
theorem dX2_setLie_5 : decode cX2_setLie 5 = .ok (.ifCond .ne 6, 3) := by decide +kernel
theorem dX2_setLie_8 : decode cX2_setLie 8 = .ok (.ldc 40, 2) := by decide +kernel
theorem dX2_setLie_10 : decode cX2_setLie 10 = .ok (.ireturn, 1) := by decide +kernel
theorem dX2_setLie_11 : decode cX2_setLie 11 = .ok (.iload_n 2, 1) := by decide +kernel
theorem dX2_setLie_12 : decode cX2_setLie 12 = .ok (.iconst 0, 1) := by decide +kernel
theorem dX2_setLie_13 : decode cX2_setLie 13 = .ok (.sipush 20000, 3) := by decide +kernel
theorem dX2_setLie_16 : decode cX2_setLie 16 = .ok (.invokestatic 27, 3) := by decide +kernel
theorem dX2_setLie_19 : decode cX2_setLie 19 = .ok (.ifCond .eq 15, 3) := by decide +kernel
theorem dX2_setLie_22 : decode cX2_setLie 22 = .ok (.aload_n 0, 1) := by decide +kernel
theorem dX2_setLie_23 : decode cX2_setLie 23 = .ok (.bipush 45, 2) := by decide +kernel
theorem dX2_setLie_25 : decode cX2_setLie 25 = .ok (.iload_n 1, 1) := by decide +kernel
theorem dX2_setLie_26 : decode cX2_setLie 26 = .ok (.iadd, 1) := by decide +kernel
theorem dX2_setLie_27 : decode cX2_setLie 27 = .ok (.iload_n 2, 1) := by decide +kernel
theorem dX2_setLie_28 : decode cX2_setLie 28 = .ok (.invokevirtual 50, 3) := by decide +kernel
theorem dX2_setLie_31 : decode cX2_setLie 31 = .ok (.goto 5, 3) := by decide +kernel
theorem dX2_setLie_34 : decode cX2_setLie 34 = .ok (.ldc 35, 2) := by decide +kernel
theorem dX2_setLie_36 : decode cX2_setLie 36 = .ok (.ireturn, 1) := by decide +kernel
set_option maxRecDepth 20000 in
theorem ggX2_setGains_X2_in : GoodIn wsX2_setGains wsX2_in := goodIn_r _ [5] (by decide +kernel) (by decide +kernel)
set_option maxRecDepth 20000 in
theorem gX2_setGains_X2_in : GoodIn wsX2_setGains (va_wsS RX2 27 yX2_in wsX2_in) := goodIn_app (goodIn_of _ (by decide +kernel)) ggX2_setGains_X2_in
set_option maxRecDepth 20000 in
theorem ggX2_setGains_X2_set : GoodIn wsX2_setGains wsX2_set := goodIn_r _ [9, 10, 11, 12, 13, 14, 15, 16, 17, 18, 19, 20, 21] (by decide +kernel) (by decide +kernel)
set_option maxRecDepth 20000 in
theorem gX2_setGains_X2_set : GoodIn wsX2_setGains (wsV RX2 50 RX2 yX2_set wsX2_set) := goodIn_app (goodIn_of _ (by decide +kernel)) ggX2_setGains_X2_set
theorem dX2_setGains_0 : decode cX2_setGains 0 = .ok (.iload_n 1, 1) := by decide +kernel
theorem dX2_setGains_1 : decode cX2_setGains 1 = .ok (.iconst 1, 1) := by decide +kernel
theorem dX2_setGains_2 : decode cX2_setGains 2 = .ok (.sipush 1000, 3) := by decide +kernel
theorem dX2_setGains_5 : decode cX2_setGains 5 = .ok (.invokestatic 27, 3) := by decide +kernel
theorem dX2_setGains_8 : decode cX2_setGains 8 = .ok (.ifCond .eq 14, 3) := by decide +kernel
theorem dX2_setGains_11 : decode cX2_setGains 11 = .ok (.iload_n 2, 1) := by decide +kernel
theorem dX2_setGains_12 : decode cX2_setGains 12 = .ok (.iconst 1, 1) := by decide +kernel
theorem dX2_setGains_13 : decode cX2_setGains 13 = .ok (.sipush 1000, 3) := by decide +kernel
theorem dX2_setGains_16 : decode cX2_setGains 16 = .ok (.invokestatic 27, 3) := by decide +kernel
theorem dX2_setGains_19 : decode cX2_setGains 19 = .ok (.ifCond .ne 6, 3) := by decide +kernel
theorem dX2_setGains_22 : decode cX2_setGains 22 = .ok (.ldc 35, 2) := by decide +kernel
theorem dX2_setGains_24 : decode cX2_setGains 24 = .ok (.ireturn, 1) := by decide +kernel
theorem dX2_setGains_25 : decode cX2_setGains 25 = .ok (.sipush 10000, 3) := by decide +kernel
theorem dX2_setGains_28 : decode cX2_setGains 28 = .ok (.aload_n 0, 1) := by decide +kernel
theorem dX2_setGains_29 : decode cX2_setGains 29 = .ok (.iconst 2, 1) := by decide +kernel
theorem dX2_setGains_30 : decode cX2_setGains 30 = .ok (.iload_n 1, 1) := by decide +kernel
theorem dX2_setGains_31 : decode cX2_setGains 31 = .ok (.invokevirtual 50, 3) := by decide +kernel
theorem dX2_setGains_34 : decode cX2_setGains 34 = .ok (.imul, 1) := by decide +kernel
theorem dX2_setGains_35 : decode cX2_setGains 35 = .ok (.aload_n 0, 1) := by decide +kernel
theorem dX2_setGains_36 : decode cX2_setGains 36 = .ok (.iconst 3, 1) := by decide +kernel
theorem dX2_setGains_37 : decode cX2_setGains 37 = .ok (.iload_n 2, 1) := by decide +kernel
theorem dX2_setGains_38 : decode cX2_setGains 38 = .ok (.invokevirtual 50, 3) := by decide +kernel
theorem dX2_setGains_41 : decode cX2_setGains 41 = .ok (.iadd, 1) := by decide +kernel
theorem dX2_setGains_42 : decode cX2_setGains 42 = .ok (.ireturn, 1) := by decide +kernel
set_option maxRecDepth 20000 in
theorem ggX2_setMaxStep_X2_in : GoodIn wsX2_setMaxStep wsX2_in := goodIn_r _ [5] (by decide +kernel) (by decide +kernel)
set_option maxRecDepth 20000 in
theorem gX2_setMaxStep_X2_in : GoodIn wsX2_setMaxStep (va_wsS RX2 27 yX2_in wsX2_in) := goodIn_app (goodIn_of _ (by decide +kernel)) ggX2_setMaxStep_X2_in
set_option maxRecDepth 20000 in
theorem ggX2_setMaxStep_X2_set : GoodIn wsX2_setMaxStep wsX2_set := goodIn_r _ [9, 10, 11, 12, 13, 14, 15, 16, 17, 18, 19, 20, 21] (by decide +kernel) (by decide +kernel)
set_option maxRecDepth 20000 in
theorem gX2_setMaxStep_X2_set : GoodIn wsX2_setMaxStep (wsV RX2 50 RX2 yX2_set wsX2_set) := goodIn_app (goodIn_of _ (by decide +kernel)) ggX2_setMaxStep_X2_set
theorem dX2_setMaxStep_0 : decode cX2_setMaxStep 0 = .ok (.iload_n 1, 1) := by decide +kernel
theorem dX2_setMaxStep_1 : decode cX2_setMaxStep 1 = .ok (.iconst 1, 1) := by decide +kernel
theorem dX2_setMaxStep_2 : decode cX2_setMaxStep 2 = .ok (.sipush 20000, 3) := by decide +kernel
theorem dX2_setMaxStep_5 : decode cX2_setMaxStep 5 = .ok (.invokestatic 27, 3) := by decide +kernel
theorem dX2_setMaxStep_8 : decode cX2_setMaxStep 8 = .ok (.ifCond .eq 12, 3) := by decide +kernel
theorem dX2_setMaxStep_11 : decode cX2_setMaxStep 11 = .ok (.aload_n 0, 1) := by decide +kernel
theorem dX2_setMaxStep_12 : decode cX2_setMaxStep 12 = .ok (.iconst 4, 1) := by decide +kernel
theorem dX2_setMaxStep_13 : decode cX2_setMaxStep 13 = .ok (.iload_n 1, 1) := by decide +kernel
theorem dX2_setMaxStep_14 : decode cX2_setMaxStep 14 = .ok (.invokevirtual 50, 3) := by decide +kernel
theorem dX2_setMaxStep_17 : decode cX2_setMaxStep 17 = .ok (.goto 5, 3) := by decide +kernel
theorem dX2_setMaxStep_20 : decode cX2_setMaxStep 20 = .ok (.ldc 35, 2) := by decide +kernel
theorem dX2_setMaxStep_22 : decode cX2_setMaxStep 22 = .ok (.ireturn, 1) := by decide +kernel
set_option maxRecDepth 20000 in
theorem ggX2_place_X2_isNode : GoodIn wsX2_place wsX2_isNode := goodIn_r _ [10, 5, 11, 12, 9, 13, 18, 19, 20, 21, 22, 23, 24, 25, 26, 27, 28] (by decide +kernel) (by decide +kernel)
set_option maxRecDepth 20000 in
theorem gX2_place_X2_isNode : GoodIn wsX2_place (wsV RX2 36 RX2 yX2_isNode wsX2_isNode) := goodIn_app (goodIn_of _ (by decide +kernel)) ggX2_place_X2_isNode
set_option maxRecDepth 20000 in
theorem ggX2_place_X2_in : GoodIn wsX2_place wsX2_in := goodIn_r _ [13] (by decide +kernel) (by decide +kernel)
set_option maxRecDepth 20000 in
theorem gX2_place_X2_in : GoodIn wsX2_place (va_wsS RX2 27 yX2_in wsX2_in) := goodIn_app (goodIn_of _ (by decide +kernel)) ggX2_place_X2_in
set_option maxRecDepth 20000 in
theorem ggX2_place_X2_set : GoodIn wsX2_place wsX2_set := goodIn_r _ [17, 5, 18, 19, 20, 21, 22, 23, 24, 25, 26, 27, 28] (by decide +kernel) (by decide +kernel)
set_option maxRecDepth 20000 in
theorem gX2_place_X2_set : GoodIn wsX2_place (wsV RX2 50 RX2 yX2_set wsX2_set) := goodIn_app (goodIn_of _ (by decide +kernel)) ggX2_place_X2_set
theorem dX2_place_0 : decode cX2_place 0 = .ok (.aload_n 0, 1) := by decide +kernel
theorem dX2_place_1 : decode cX2_place 1 = .ok (.iload_n 1, 1) := by decide +kernel
theorem dX2_place_2 : decode cX2_place 2 = .ok (.invokevirtual 36, 3) := by decide +kernel
theorem dX2_place_5 : decode cX2_place 5 = .ok (.ifCond .ne 6, 3) := by decide +kernel
theorem dX2_place_8 : decode cX2_place 8 = .ok (.ldc 40, 2) := by decide +kernel
theorem dX2_place_10 : decode cX2_place 10 = .ok (.ireturn, 1) := by decide +kernel
theorem dX2_place_11 : decode cX2_place 11 = .ok (.iload_n 2, 1) := by decide +kernel
theorem dX2_place_12 : decode cX2_place 12 = .ok (.ldc 56, 2) := by decide +kernel
theorem dX2_place_14 : decode cX2_place 14 = .ok (.ldc 57, 2) := by decide +kernel
theorem dX2_place_16 : decode cX2_place 16 = .ok (.invokestatic 27, 3) := by decide +kernel
theorem dX2_place_19 : decode cX2_place 19 = .ok (.ifCond .eq 25, 3) := by decide +kernel
theorem dX2_place_22 : decode cX2_place 22 = .ok (.iload_n 3, 1) := by decide +kernel
theorem dX2_place_23 : decode cX2_place 23 = .ok (.ldc 56, 2) := by decide +kernel
theorem dX2_place_25 : decode cX2_place 25 = .ok (.ldc 57, 2) := by decide +kernel
theorem dX2_place_27 : decode cX2_place 27 = .ok (.invokestatic 27, 3) := by decide +kernel
theorem dX2_place_30 : decode cX2_place 30 = .ok (.ifCond .eq 14, 3) := by decide +kernel
theorem dX2_place_33 : decode cX2_place 33 = .ok (.iload 4, 2) := by decide +kernel
theorem dX2_place_35 : decode cX2_place 35 = .ok (.iconst 0, 1) := by decide +kernel
theorem dX2_place_36 : decode cX2_place 36 = .ok (.ldc 57, 2) := by decide +kernel
theorem dX2_place_38 : decode cX2_place 38 = .ok (.invokestatic 27, 3) := by decide +kernel
theorem dX2_place_41 : decode cX2_place 41 = .ok (.ifCond .ne 6, 3) := by decide +kernel
theorem dX2_place_44 : decode cX2_place 44 = .ok (.ldc 35, 2) := by decide +kernel
theorem dX2_place_46 : decode cX2_place 46 = .ok (.ireturn, 1) := by decide +kernel
theorem dX2_place_47 : decode cX2_place 47 = .ok (.aload_n 0, 1) := by decide +kernel
theorem dX2_place_48 : decode cX2_place 48 = .ok (.getfield 7, 3) := by decide +kernel
theorem dX2_place_51 : decode cX2_place 51 = .ok (.iconst 5, 1) := by decide +kernel
theorem dX2_place_52 : decode cX2_place 52 = .ok (.iload_n 1, 1) := by decide +kernel
theorem dX2_place_53 : decode cX2_place 53 = .ok (.iadd, 1) := by decide +kernel
theorem dX2_place_54 : decode cX2_place 54 = .ok (.iload_n 2, 1) := by decide +kernel
theorem dX2_place_55 : decode cX2_place 55 = .ok (.iastore, 1) := by decide +kernel
theorem dX2_place_56 : decode cX2_place 56 = .ok (.aload_n 0, 1) := by decide +kernel
theorem dX2_place_57 : decode cX2_place 57 = .ok (.getfield 7, 3) := by decide +kernel
theorem dX2_place_60 : decode cX2_place 60 = .ok (.bipush 15, 2) := by decide +kernel
theorem dX2_place_62 : decode cX2_place 62 = .ok (.iload_n 1, 1) := by decide +kernel
theorem dX2_place_63 : decode cX2_place 63 = .ok (.iadd, 1) := by decide +kernel
theorem dX2_place_64 : decode cX2_place 64 = .ok (.iload_n 3, 1) := by decide +kernel
theorem dX2_place_65 : decode cX2_place 65 = .ok (.iastore, 1) := by decide +kernel
theorem dX2_place_66 : decode cX2_place 66 = .ok (.aload_n 0, 1) := by decide +kernel
theorem dX2_place_67 : decode cX2_place 67 = .ok (.getfield 7, 3) := by decide +kernel
theorem dX2_place_70 : decode cX2_place 70 = .ok (.bipush 25, 2) := by decide +kernel
theorem dX2_place_72 : decode cX2_place 72 = .ok (.iload_n 1, 1) := by decide +kernel
theorem dX2_place_73 : decode cX2_place 73 = .ok (.iadd, 1) := by decide +kernel
theorem dX2_place_74 : decode cX2_place 74 = .ok (.iload 4, 2) := by decide +kernel
theorem dX2_place_76 : decode cX2_place 76 = .ok (.iastore, 1) := by decide +kernel
theorem dX2_place_77 : decode cX2_place 77 = .ok (.aload_n 0, 1) := by decide +kernel
theorem dX2_place_78 : decode cX2_place 78 = .ok (.bipush 35, 2) := by decide +kernel
theorem dX2_place_80 : decode cX2_place 80 = .ok (.iload_n 1, 1) := by decide +kernel
theorem dX2_place_81 : decode cX2_place 81 = .ok (.iadd, 1) := by decide +kernel
theorem dX2_place_82 : decode cX2_place 82 = .ok (.sipush 1000, 3) := by decide +kernel
theorem dX2_place_85 : decode cX2_place 85 = .ok (.invokevirtual 50, 3) := by decide +kernel
theorem dX2_place_88 : decode cX2_place 88 = .ok (.ireturn, 1) := by decide +kernel
set_option maxRecDepth 20000 in
theorem ggX2_of_X2_isNode : GoodIn wsX2_of wsX2_isNode := goodIn_r _ [7, 1, 8, 9, 6, 10, 11, 12, 13, 14, 15, 16, 17, 18, 19, 20, 21] (by decide +kernel) (by decide +kernel)
set_option maxRecDepth 20000 in
theorem gX2_of_X2_isNode : GoodIn wsX2_of (wsV RX2 36 RX2 yX2_isNode wsX2_isNode) := goodIn_app (goodIn_of _ (by decide +kernel)) ggX2_of_X2_isNode
theorem dX2_of_0 : decode cX2_of 0 = .ok (.aload_n 0, 1) := by decide +kernel
theorem dX2_of_1 : decode cX2_of 1 = .ok (.iload_n 2, 1) := by decide +kernel
theorem dX2_of_2 : decode cX2_of 2 = .ok (.invokevirtual 36, 3) := by decide +kernel
theorem dX2_of_5 : decode cX2_of 5 = .ok (.ifCond .eq 14, 3) := by decide +kernel
theorem dX2_of_8 : decode cX2_of 8 = .ok (.aload_n 0, 1) := by decide +kernel
theorem dX2_of_9 : decode cX2_of 9 = .ok (.getfield 7, 3) := by decide +kernel
theorem dX2_of_12 : decode cX2_of 12 = .ok (.iload_n 1, 1) := by decide +kernel
theorem dX2_of_13 : decode cX2_of 13 = .ok (.iload_n 2, 1) := by decide +kernel
theorem dX2_of_14 : decode cX2_of 14 = .ok (.iadd, 1) := by decide +kernel
theorem dX2_of_15 : decode cX2_of 15 = .ok (.iaload, 1) := by decide +kernel
theorem dX2_of_16 : decode cX2_of 16 = .ok (.goto 5, 3) := by decide +kernel
theorem dX2_of_19 : decode cX2_of 19 = .ok (.ldc 40, 2) := by decide +kernel
theorem dX2_of_21 : decode cX2_of 21 = .ok (.ireturn, 1) := by decide +kernel
set_option maxRecDepth 20000 in
theorem ggX2_x_X2_of : GoodIn wsX2_x wsX2_of := goodIn_r _ [5, 6, 7, 8, 9, 10, 4, 11, 12, 13, 14, 15, 16, 17, 18, 19, 20, 21, 22, 23, 24, 25] (by decide +kernel) (by decide +kernel)
set_option maxRecDepth 20000 in
theorem gX2_x_X2_of : GoodIn wsX2_x (wsV RX2 58 RX2 yX2_of wsX2_of) := goodIn_app (goodIn_of _ (by decide +kernel)) ggX2_x_X2_of
theorem dX2_x_0 : decode cX2_x 0 = .ok (.aload_n 0, 1) := by decide +kernel
theorem dX2_x_1 : decode cX2_x 1 = .ok (.iconst 5, 1) := by decide +kernel
theorem dX2_x_2 : decode cX2_x 2 = .ok (.iload_n 1, 1) := by decide +kernel
theorem dX2_x_3 : decode cX2_x 3 = .ok (.invokevirtual 58, 3) := by decide +kernel
theorem dX2_x_6 : decode cX2_x 6 = .ok (.ireturn, 1) := by decide +kernel
set_option maxRecDepth 20000 in
theorem ggX2_y_X2_of : GoodIn wsX2_y wsX2_of := goodIn_r _ [5, 6, 7, 8, 9, 10, 4, 11, 12, 13, 14, 15, 16, 17, 18, 19, 20, 21, 22, 23, 24, 25] (by decide +kernel) (by decide +kernel)
set_option maxRecDepth 20000 in
theorem gX2_y_X2_of : GoodIn wsX2_y (wsV RX2 58 RX2 yX2_of wsX2_of) := goodIn_app (goodIn_of _ (by decide +kernel)) ggX2_y_X2_of
theorem dX2_y_0 : decode cX2_y 0 = .ok (.aload_n 0, 1) := by decide +kernel
theorem dX2_y_1 : decode cX2_y 1 = .ok (.bipush 15, 2) := by decide +kernel
theorem dX2_y_3 : decode cX2_y 3 = .ok (.iload_n 1, 1) := by decide +kernel
theorem dX2_y_4 : decode cX2_y 4 = .ok (.invokevirtual 58, 3) := by decide +kernel
theorem dX2_y_7 : decode cX2_y 7 = .ok (.ireturn, 1) := by decide +kernel
set_option maxRecDepth 20000 in
theorem ggX2_height_X2_of : GoodIn wsX2_height wsX2_of := goodIn_r _ [5, 6, 7, 8, 9, 10, 4, 11, 12, 13, 14, 15, 16, 17, 18, 19, 20, 21, 22, 23, 24, 25] (by decide +kernel) (by decide +kernel)
set_option maxRecDepth 20000 in
theorem gX2_height_X2_of : GoodIn wsX2_height (wsV RX2 58 RX2 yX2_of wsX2_of) := goodIn_app (goodIn_of _ (by decide +kernel)) ggX2_height_X2_of
theorem dX2_height_0 : decode cX2_height 0 = .ok (.aload_n 0, 1) := by decide +kernel
theorem dX2_height_1 : decode cX2_height 1 = .ok (.bipush 25, 2) := by decide +kernel
theorem dX2_height_3 : decode cX2_height 3 = .ok (.iload_n 1, 1) := by decide +kernel
theorem dX2_height_4 : decode cX2_height 4 = .ok (.invokevirtual 58, 3) := by decide +kernel
theorem dX2_height_7 : decode cX2_height 7 = .ok (.ireturn, 1) := by decide +kernel
set_option maxRecDepth 20000 in
theorem ggX2_error_X2_of : GoodIn wsX2_error wsX2_of := goodIn_r _ [5, 6, 7, 8, 9, 10, 4, 11, 12, 13, 14, 15, 16, 17, 18, 19, 20, 21, 22, 23, 24, 25] (by decide +kernel) (by decide +kernel)
set_option maxRecDepth 20000 in
theorem gX2_error_X2_of : GoodIn wsX2_error (wsV RX2 58 RX2 yX2_of wsX2_of) := goodIn_app (goodIn_of _ (by decide +kernel)) ggX2_error_X2_of
theorem dX2_error_0 : decode cX2_error 0 = .ok (.aload_n 0, 1) := by decide +kernel
theorem dX2_error_1 : decode cX2_error 1 = .ok (.bipush 35, 2) := by decide +kernel
theorem dX2_error_3 : decode cX2_error 3 = .ok (.iload_n 1, 1) := by decide +kernel
theorem dX2_error_4 : decode cX2_error 4 = .ok (.invokevirtual 58, 3) := by decide +kernel
theorem dX2_error_7 : decode cX2_error 7 = .ok (.ireturn, 1) := by decide +kernel
set_option maxRecDepth 20000 in
theorem ggX2_planar_X2_root : GoodIn wsX2_planar wsX2_root := goodIn_r _ [4, 5, 6] (by decide +kernel) (by decide +kernel)
set_option maxRecDepth 20000 in
theorem gX2_planar_X2_root : GoodIn wsX2_planar (va_wsS RX2 61 yX2_root wsX2_root) := goodIn_app (goodIn_of _ (by decide +kernel)) ggX2_planar_X2_root
theorem dX2_planar_0 : decode cX2_planar 0 = .ok (.lload_n 0, 1) := by decide +kernel
theorem dX2_planar_1 : decode cX2_planar 1 = .ok (.lload_n 0, 1) := by decide +kernel
theorem dX2_planar_2 : decode cX2_planar 2 = .ok (.lmul, 1) := by decide +kernel
theorem dX2_planar_3 : decode cX2_planar 3 = .ok (.lload_n 2, 1) := by decide +kernel
theorem dX2_planar_4 : decode cX2_planar 4 = .ok (.lload_n 2, 1) := by decide +kernel
theorem dX2_planar_5 : decode cX2_planar 5 = .ok (.lmul, 1) := by decide +kernel
theorem dX2_planar_6 : decode cX2_planar 6 = .ok (.ladd, 1) := by decide +kernel
theorem dX2_planar_7 : decode cX2_planar 7 = .ok (.invokestatic 61, 3) := by decide +kernel
theorem dX2_planar_10 : decode cX2_planar 10 = .ok (.l2i, 1) := by decide +kernel
theorem dX2_planar_11 : decode cX2_planar 11 = .ok (.ireturn, 1) := by decide +kernel
set_option maxRecDepth 20000 in
theorem ggX2_predicted_X2_planar : GoodIn wsX2_predicted wsX2_planar := goodIn_r _ [5, 6, 7, 4, 8, 9, 10] (by decide +kernel) (by decide +kernel)
set_option maxRecDepth 20000 in
theorem gX2_predicted_X2_planar : GoodIn wsX2_predicted (va_wsS RX2 65 yX2_planar wsX2_planar) := goodIn_app (goodIn_of _ (by decide +kernel)) ggX2_predicted_X2_planar
theorem dX2_predicted_0 : decode cX2_predicted 0 = .ok (.aload_n 0, 1) := by decide +kernel
theorem dX2_predicted_1 : decode cX2_predicted 1 = .ok (.getfield 7, 3) := by decide +kernel
theorem dX2_predicted_4 : decode cX2_predicted 4 = .ok (.iconst 5, 1) := by decide +kernel
theorem dX2_predicted_5 : decode cX2_predicted 5 = .ok (.iload_n 1, 1) := by decide +kernel
theorem dX2_predicted_6 : decode cX2_predicted 6 = .ok (.iadd, 1) := by decide +kernel
theorem dX2_predicted_7 : decode cX2_predicted 7 = .ok (.iaload, 1) := by decide +kernel
theorem dX2_predicted_8 : decode cX2_predicted 8 = .ok (.aload_n 0, 1) := by decide +kernel
theorem dX2_predicted_9 : decode cX2_predicted 9 = .ok (.getfield 7, 3) := by decide +kernel
theorem dX2_predicted_12 : decode cX2_predicted 12 = .ok (.iconst 5, 1) := by decide +kernel
theorem dX2_predicted_13 : decode cX2_predicted 13 = .ok (.iload_n 2, 1) := by decide +kernel
theorem dX2_predicted_14 : decode cX2_predicted 14 = .ok (.iadd, 1) := by decide +kernel
theorem dX2_predicted_15 : decode cX2_predicted 15 = .ok (.iaload, 1) := by decide +kernel
theorem dX2_predicted_16 : decode cX2_predicted 16 = .ok (.isub, 1) := by decide +kernel
theorem dX2_predicted_17 : decode cX2_predicted 17 = .ok (.i2l, 1) := by decide +kernel
theorem dX2_predicted_18 : decode cX2_predicted 18 = .ok (.aload_n 0, 1) := by decide +kernel
theorem dX2_predicted_19 : decode cX2_predicted 19 = .ok (.getfield 7, 3) := by decide +kernel
theorem dX2_predicted_22 : decode cX2_predicted 22 = .ok (.bipush 15, 2) := by decide +kernel
theorem dX2_predicted_24 : decode cX2_predicted 24 = .ok (.iload_n 1, 1) := by decide +kernel
theorem dX2_predicted_25 : decode cX2_predicted 25 = .ok (.iadd, 1) := by decide +kernel
theorem dX2_predicted_26 : decode cX2_predicted 26 = .ok (.iaload, 1) := by decide +kernel
theorem dX2_predicted_27 : decode cX2_predicted 27 = .ok (.aload_n 0, 1) := by decide +kernel
theorem dX2_predicted_28 : decode cX2_predicted 28 = .ok (.getfield 7, 3) := by decide +kernel
theorem dX2_predicted_31 : decode cX2_predicted 31 = .ok (.bipush 15, 2) := by decide +kernel
theorem dX2_predicted_33 : decode cX2_predicted 33 = .ok (.iload_n 2, 1) := by decide +kernel
theorem dX2_predicted_34 : decode cX2_predicted 34 = .ok (.iadd, 1) := by decide +kernel
theorem dX2_predicted_35 : decode cX2_predicted 35 = .ok (.iaload, 1) := by decide +kernel
theorem dX2_predicted_36 : decode cX2_predicted 36 = .ok (.isub, 1) := by decide +kernel
theorem dX2_predicted_37 : decode cX2_predicted 37 = .ok (.i2l, 1) := by decide +kernel
theorem dX2_predicted_38 : decode cX2_predicted 38 = .ok (.invokestatic 65, 3) := by decide +kernel
theorem dX2_predicted_41 : decode cX2_predicted 41 = .ok (.aload_n 0, 1) := by decide +kernel
theorem dX2_predicted_42 : decode cX2_predicted 42 = .ok (.getfield 7, 3) := by decide +kernel
theorem dX2_predicted_45 : decode cX2_predicted 45 = .ok (.bipush 25, 2) := by decide +kernel
theorem dX2_predicted_47 : decode cX2_predicted 47 = .ok (.iload_n 1, 1) := by decide +kernel
theorem dX2_predicted_48 : decode cX2_predicted 48 = .ok (.iadd, 1) := by decide +kernel
theorem dX2_predicted_49 : decode cX2_predicted 49 = .ok (.iaload, 1) := by decide +kernel
theorem dX2_predicted_50 : decode cX2_predicted 50 = .ok (.iadd, 1) := by decide +kernel
theorem dX2_predicted_51 : decode cX2_predicted 51 = .ok (.aload_n 0, 1) := by decide +kernel
theorem dX2_predicted_52 : decode cX2_predicted 52 = .ok (.getfield 7, 3) := by decide +kernel
theorem dX2_predicted_55 : decode cX2_predicted 55 = .ok (.bipush 25, 2) := by decide +kernel
theorem dX2_predicted_57 : decode cX2_predicted 57 = .ok (.iload_n 2, 1) := by decide +kernel
theorem dX2_predicted_58 : decode cX2_predicted 58 = .ok (.iadd, 1) := by decide +kernel
theorem dX2_predicted_59 : decode cX2_predicted 59 = .ok (.iaload, 1) := by decide +kernel
theorem dX2_predicted_60 : decode cX2_predicted 60 = .ok (.iadd, 1) := by decide +kernel
theorem dX2_predicted_61 : decode cX2_predicted 61 = .ok (.ireturn, 1) := by decide +kernel
set_option maxRecDepth 20000 in
theorem ggX2_predict_X2_wrongPair : GoodIn wsX2_predict wsX2_wrongPair := goodIn_r _ [5, 6, 7, 8, 9, 10, 4, 11, 12, 13, 14, 15, 28, 29, 30, 31, 32, 33, 34, 35, 36, 37, 38] (by decide +kernel) (by decide +kernel)
set_option maxRecDepth 20000 in
theorem gX2_predict_X2_wrongPair : GoodIn wsX2_predict (wsV RX2 42 RX2 yX2_wrongPair wsX2_wrongPair) := goodIn_app (goodIn_of _ (by decide +kernel)) ggX2_predict_X2_wrongPair
set_option maxRecDepth 20000 in
theorem ggX2_predict_X2_predicted : GoodIn wsX2_predict wsX2_predicted := goodIn_r _ [19, 12, 20, 21, 4, 22, 23, 24, 25, 26, 27, 28, 29, 30, 31, 32, 33, 34, 35, 36, 37, 38] (by decide +kernel) (by decide +kernel)
set_option maxRecDepth 20000 in
theorem gX2_predict_X2_predicted : GoodIn wsX2_predict (wsV RX2 69 RX2 yX2_predicted wsX2_predicted) := goodIn_app (goodIn_of _ (by decide +kernel)) ggX2_predict_X2_predicted
theorem dX2_predict_0 : decode cX2_predict 0 = .ok (.aload_n 0, 1) := by decide +kernel
theorem dX2_predict_1 : decode cX2_predict 1 = .ok (.iload_n 1, 1) := by decide +kernel
theorem dX2_predict_2 : decode cX2_predict 2 = .ok (.iload_n 2, 1) := by decide +kernel
theorem dX2_predict_3 : decode cX2_predict 3 = .ok (.invokevirtual 42, 3) := by decide +kernel
theorem dX2_predict_6 : decode cX2_predict 6 = .ok (.istore_n 3, 1) := by decide +kernel
theorem dX2_predict_7 : decode cX2_predict 7 = .ok (.iload_n 3, 1) := by decide +kernel
theorem dX2_predict_8 : decode cX2_predict 8 = .ok (.ifCond .eq 7, 3) := by decide +kernel
theorem dX2_predict_11 : decode cX2_predict 11 = .ok (.iload_n 3, 1) := by decide +kernel
theorem dX2_predict_12 : decode cX2_predict 12 = .ok (.goto 9, 3) := by decide +kernel
theorem dX2_predict_15 : decode cX2_predict 15 = .ok (.aload_n 0, 1) := by decide +kernel
theorem dX2_predict_16 : decode cX2_predict 16 = .ok (.iload_n 1, 1) := by decide +kernel
theorem dX2_predict_17 : decode cX2_predict 17 = .ok (.iload_n 2, 1) := by decide +kernel
theorem dX2_predict_18 : decode cX2_predict 18 = .ok (.invokevirtual 69, 3) := by decide +kernel
theorem dX2_predict_21 : decode cX2_predict 21 = .ok (.ireturn, 1) := by decide +kernel
set_option maxRecDepth 20000 in
theorem ggX2_sample_X2_cell : GoodIn wsX2_sample wsX2_cell := goodIn_r _ [5] (by decide +kernel) (by decide +kernel)
set_option maxRecDepth 20000 in
theorem gX2_sample_X2_cell : GoodIn wsX2_sample (va_wsS RX2 46 yX2_cell wsX2_cell) := goodIn_app (goodIn_of _ (by decide +kernel)) ggX2_sample_X2_cell
theorem dX2_sample_0 : decode cX2_sample 0 = .ok (.aload_n 0, 1) := by decide +kernel
theorem dX2_sample_1 : decode cX2_sample 1 = .ok (.getfield 7, 3) := by decide +kernel
theorem dX2_sample_4 : decode cX2_sample 4 = .ok (.iload_n 1, 1) := by decide +kernel
theorem dX2_sample_5 : decode cX2_sample 5 = .ok (.iload_n 2, 1) := by decide +kernel
theorem dX2_sample_6 : decode cX2_sample 6 = .ok (.invokestatic 46, 3) := by decide +kernel
theorem dX2_sample_9 : decode cX2_sample 9 = .ok (.iaload, 1) := by decide +kernel
theorem dX2_sample_10 : decode cX2_sample 10 = .ok (.aload_n 0, 1) := by decide +kernel
theorem dX2_sample_11 : decode cX2_sample 11 = .ok (.getfield 7, 3) := by decide +kernel
theorem dX2_sample_14 : decode cX2_sample 14 = .ok (.bipush 45, 2) := by decide +kernel
theorem dX2_sample_16 : decode cX2_sample 16 = .ok (.iload_n 2, 1) := by decide +kernel
theorem dX2_sample_17 : decode cX2_sample 17 = .ok (.iadd, 1) := by decide +kernel
theorem dX2_sample_18 : decode cX2_sample 18 = .ok (.iaload, 1) := by decide +kernel
theorem dX2_sample_19 : decode cX2_sample 19 = .ok (.iadd, 1) := by decide +kernel
theorem dX2_sample_20 : decode cX2_sample 20 = .ok (.ireturn, 1) := by decide +kernel
set_option maxRecDepth 20000 in
theorem ggX2_workOut_X2_sample : GoodIn wsX2_workOut wsX2_sample := goodIn_r _ [13, 1, 14, 15, 12, 16, 35, 36, 37, 38, 39, 40, 41, 42, 43, 44, 45] (by decide +kernel) (by decide +kernel)
set_option maxRecDepth 20000 in
theorem gX2_workOut_X2_sample : GoodIn wsX2_workOut (wsV RX2 72 RX2 yX2_sample wsX2_sample) := goodIn_app (goodIn_of _ (by decide +kernel)) ggX2_workOut_X2_sample
set_option maxRecDepth 20000 in
theorem ggX2_workOut_X2_predicted : GoodIn wsX2_workOut wsX2_predicted := goodIn_r _ [20, 1, 21, 22, 12, 23, 24, 25, 26, 27, 28, 35, 36, 37, 38, 39, 40, 41, 42, 43, 44, 45] (by decide +kernel) (by decide +kernel)
set_option maxRecDepth 20000 in
theorem gX2_workOut_X2_predicted : GoodIn wsX2_workOut (wsV RX2 69 RX2 yX2_predicted wsX2_predicted) := goodIn_app (goodIn_of _ (by decide +kernel)) ggX2_workOut_X2_predicted
set_option maxRecDepth 20000 in
theorem ggX2_workOut_X2_plain : GoodIn wsX2_workOut wsX2_plain := goodIn_r _ [31] (by decide +kernel) (by decide +kernel)
set_option maxRecDepth 20000 in
theorem gX2_workOut_X2_plain : GoodIn wsX2_workOut (va_wsS RX2 77 yX2_plain wsX2_plain) := goodIn_app (goodIn_of _ (by decide +kernel)) ggX2_workOut_X2_plain
set_option maxRecDepth 20000 in
theorem ggX2_workOut_X2_limited : GoodIn wsX2_workOut wsX2_limited := goodIn_r _ [34] (by decide +kernel) (by decide +kernel)
set_option maxRecDepth 20000 in
theorem gX2_workOut_X2_limited : GoodIn wsX2_workOut (va_wsS RX2 84 yX2_limited wsX2_limited) := goodIn_app (goodIn_of _ (by decide +kernel)) ggX2_workOut_X2_limited
theorem dX2_workOut_0 : decode cX2_workOut 0 = .ok (.aload_n 0, 1) := by decide +kernel
theorem dX2_workOut_1 : decode cX2_workOut 1 = .ok (.iload_n 1, 1) := by decide +kernel
theorem dX2_workOut_2 : decode cX2_workOut 2 = .ok (.iload_n 2, 1) := by decide +kernel
theorem dX2_workOut_3 : decode cX2_workOut 3 = .ok (.invokevirtual 72, 3) := by decide +kernel
theorem dX2_workOut_6 : decode cX2_workOut 6 = .ok (.i2l, 1) := by decide +kernel
theorem dX2_workOut_7 : decode cX2_workOut 7 = .ok (.lstore_n 3, 1) := by decide +kernel
theorem dX2_workOut_8 : decode cX2_workOut 8 = .ok (.aload_n 0, 1) := by decide +kernel
theorem dX2_workOut_9 : decode cX2_workOut 9 = .ok (.iload_n 1, 1) := by decide +kernel
theorem dX2_workOut_10 : decode cX2_workOut 10 = .ok (.iload_n 2, 1) := by decide +kernel
theorem dX2_workOut_11 : decode cX2_workOut 11 = .ok (.invokevirtual 69, 3) := by decide +kernel
theorem dX2_workOut_14 : decode cX2_workOut 14 = .ok (.i2l, 1) := by decide +kernel
theorem dX2_workOut_15 : decode cX2_workOut 15 = .ok (.lstore 5, 2) := by decide +kernel
theorem dX2_workOut_17 : decode cX2_workOut 17 = .ok (.aload_n 0, 1) := by decide +kernel
theorem dX2_workOut_18 : decode cX2_workOut 18 = .ok (.getfield 7, 3) := by decide +kernel
theorem dX2_workOut_21 : decode cX2_workOut 21 = .ok (.bipush 35, 2) := by decide +kernel
theorem dX2_workOut_23 : decode cX2_workOut 23 = .ok (.iload_n 1, 1) := by decide +kernel
theorem dX2_workOut_24 : decode cX2_workOut 24 = .ok (.iadd, 1) := by decide +kernel
theorem dX2_workOut_25 : decode cX2_workOut 25 = .ok (.iaload, 1) := by decide +kernel
theorem dX2_workOut_26 : decode cX2_workOut 26 = .ok (.i2l, 1) := by decide +kernel
theorem dX2_workOut_27 : decode cX2_workOut 27 = .ok (.lstore 7, 2) := by decide +kernel
theorem dX2_workOut_29 : decode cX2_workOut 29 = .ok (.aload_n 0, 1) := by decide +kernel
theorem dX2_workOut_30 : decode cX2_workOut 30 = .ok (.getfield 7, 3) := by decide +kernel
theorem dX2_workOut_33 : decode cX2_workOut 33 = .ok (.bipush 35, 2) := by decide +kernel
theorem dX2_workOut_35 : decode cX2_workOut 35 = .ok (.iload_n 2, 1) := by decide +kernel
theorem dX2_workOut_36 : decode cX2_workOut 36 = .ok (.iadd, 1) := by decide +kernel
theorem dX2_workOut_37 : decode cX2_workOut 37 = .ok (.iaload, 1) := by decide +kernel
theorem dX2_workOut_38 : decode cX2_workOut 38 = .ok (.i2l, 1) := by decide +kernel
theorem dX2_workOut_39 : decode cX2_workOut 39 = .ok (.lstore 9, 2) := by decide +kernel
theorem dX2_workOut_41 : decode cX2_workOut 41 = .ok (.ldc2_w 75, 3) := by decide +kernel
theorem dX2_workOut_44 : decode cX2_workOut 44 = .ok (.lload 7, 2) := by decide +kernel
theorem dX2_workOut_46 : decode cX2_workOut 46 = .ok (.lmul, 1) := by decide +kernel
theorem dX2_workOut_47 : decode cX2_workOut 47 = .ok (.lload 7, 2) := by decide +kernel
theorem dX2_workOut_49 : decode cX2_workOut 49 = .ok (.lload 9, 2) := by decide +kernel
theorem dX2_workOut_51 : decode cX2_workOut 51 = .ok (.ladd, 1) := by decide +kernel
theorem dX2_workOut_52 : decode cX2_workOut 52 = .ok (.ldiv, 1) := by decide +kernel
theorem dX2_workOut_53 : decode cX2_workOut 53 = .ok (.lstore 11, 2) := by decide +kernel
theorem dX2_workOut_55 : decode cX2_workOut 55 = .ok (.ldc2_w 75, 3) := by decide +kernel
theorem dX2_workOut_58 : decode cX2_workOut 58 = .ok (.lload 5, 2) := by decide +kernel
theorem dX2_workOut_60 : decode cX2_workOut 60 = .ok (.lload_n 3, 1) := by decide +kernel
theorem dX2_workOut_61 : decode cX2_workOut 61 = .ok (.lsub, 1) := by decide +kernel
theorem dX2_workOut_62 : decode cX2_workOut 62 = .ok (.invokestatic 77, 3) := by decide +kernel
theorem dX2_workOut_65 : decode cX2_workOut 65 = .ok (.lmul, 1) := by decide +kernel
theorem dX2_workOut_66 : decode cX2_workOut 66 = .ok (.lload_n 3, 1) := by decide +kernel
theorem dX2_workOut_67 : decode cX2_workOut 67 = .ok (.ldiv, 1) := by decide +kernel
theorem dX2_workOut_68 : decode cX2_workOut 68 = .ok (.lstore 13, 2) := by decide +kernel
theorem dX2_workOut_70 : decode cX2_workOut 70 = .ok (.lload 13, 2) := by decide +kernel
theorem dX2_workOut_72 : decode cX2_workOut 72 = .ok (.ldc2_w 75, 3) := by decide +kernel
theorem dX2_workOut_75 : decode cX2_workOut 75 = .ok (.lcmp, 1) := by decide +kernel
theorem dX2_workOut_76 : decode cX2_workOut 76 = .ok (.ifCond .le 9, 3) := by decide +kernel
theorem dX2_workOut_79 : decode cX2_workOut 79 = .ok (.ldc2_w 75, 3) := by decide +kernel
theorem dX2_workOut_82 : decode cX2_workOut 82 = .ok (.goto 5, 3) := by decide +kernel
theorem dX2_workOut_85 : decode cX2_workOut 85 = .ok (.lload 13, 2) := by decide +kernel
theorem dX2_workOut_87 : decode cX2_workOut 87 = .ok (.lstore 13, 2) := by decide +kernel
theorem dX2_workOut_89 : decode cX2_workOut 89 = .ok (.aload_n 0, 1) := by decide +kernel
theorem dX2_workOut_90 : decode cX2_workOut 90 = .ok (.getfield 7, 3) := by decide +kernel
theorem dX2_workOut_93 : decode cX2_workOut 93 = .ok (.iconst 2, 1) := by decide +kernel
theorem dX2_workOut_94 : decode cX2_workOut 94 = .ok (.iaload, 1) := by decide +kernel
theorem dX2_workOut_95 : decode cX2_workOut 95 = .ok (.i2l, 1) := by decide +kernel
theorem dX2_workOut_96 : decode cX2_workOut 96 = .ok (.lload 11, 2) := by decide +kernel
theorem dX2_workOut_98 : decode cX2_workOut 98 = .ok (.lmul, 1) := by decide +kernel
theorem dX2_workOut_99 : decode cX2_workOut 99 = .ok (.ldc2_w 75, 3) := by decide +kernel
theorem dX2_workOut_102 : decode cX2_workOut 102 = .ok (.ldiv, 1) := by decide +kernel
theorem dX2_workOut_103 : decode cX2_workOut 103 = .ok (.lstore 15, 2) := by decide +kernel
theorem dX2_workOut_105 : decode cX2_workOut 105 = .ok (.lload 13, 2) := by decide +kernel
theorem dX2_workOut_107 : decode cX2_workOut 107 = .ok (.lload 15, 2) := by decide +kernel
theorem dX2_workOut_109 : decode cX2_workOut 109 = .ok (.lmul, 1) := by decide +kernel
theorem dX2_workOut_110 : decode cX2_workOut 110 = .ok (.lload 7, 2) := by decide +kernel
theorem dX2_workOut_112 : decode cX2_workOut 112 = .ok (.ldc2_w 75, 3) := by decide +kernel
theorem dX2_workOut_115 : decode cX2_workOut 115 = .ok (.lload 15, 2) := by decide +kernel
theorem dX2_workOut_117 : decode cX2_workOut 117 = .ok (.lsub, 1) := by decide +kernel
theorem dX2_workOut_118 : decode cX2_workOut 118 = .ok (.lmul, 1) := by decide +kernel
theorem dX2_workOut_119 : decode cX2_workOut 119 = .ok (.ladd, 1) := by decide +kernel
theorem dX2_workOut_120 : decode cX2_workOut 120 = .ok (.ldc2_w 75, 3) := by decide +kernel
theorem dX2_workOut_123 : decode cX2_workOut 123 = .ok (.ldiv, 1) := by decide +kernel
theorem dX2_workOut_124 : decode cX2_workOut 124 = .ok (.lstore 17, 2) := by decide +kernel
theorem dX2_workOut_126 : decode cX2_workOut 126 = .ok (.aload_n 0, 1) := by decide +kernel
theorem dX2_workOut_127 : decode cX2_workOut 127 = .ok (.lload 17, 2) := by decide +kernel
theorem dX2_workOut_129 : decode cX2_workOut 129 = .ok (.lconst 1, 1) := by decide +kernel
theorem dX2_workOut_130 : decode cX2_workOut 130 = .ok (.lcmp, 1) := by decide +kernel
theorem dX2_workOut_131 : decode cX2_workOut 131 = .ok (.ifCond .ge 7, 3) := by decide +kernel
theorem dX2_workOut_134 : decode cX2_workOut 134 = .ok (.lconst 1, 1) := by decide +kernel
theorem dX2_workOut_135 : decode cX2_workOut 135 = .ok (.goto 5, 3) := by decide +kernel
theorem dX2_workOut_138 : decode cX2_workOut 138 = .ok (.lload 17, 2) := by decide +kernel
theorem dX2_workOut_140 : decode cX2_workOut 140 = .ok (.l2i, 1) := by decide +kernel
theorem dX2_workOut_141 : decode cX2_workOut 141 = .ok (.putfield 80, 3) := by decide +kernel
theorem dX2_workOut_144 : decode cX2_workOut 144 = .ok (.aload_n 0, 1) := by decide +kernel
theorem dX2_workOut_145 : decode cX2_workOut 145 = .ok (.getfield 7, 3) := by decide +kernel
theorem dX2_workOut_148 : decode cX2_workOut 148 = .ok (.iconst 3, 1) := by decide +kernel
theorem dX2_workOut_149 : decode cX2_workOut 149 = .ok (.iaload, 1) := by decide +kernel
theorem dX2_workOut_150 : decode cX2_workOut 150 = .ok (.i2l, 1) := by decide +kernel
theorem dX2_workOut_151 : decode cX2_workOut 151 = .ok (.lload 11, 2) := by decide +kernel
theorem dX2_workOut_153 : decode cX2_workOut 153 = .ok (.lmul, 1) := by decide +kernel
theorem dX2_workOut_154 : decode cX2_workOut 154 = .ok (.ldc2_w 75, 3) := by decide +kernel
theorem dX2_workOut_157 : decode cX2_workOut 157 = .ok (.ldiv, 1) := by decide +kernel
theorem dX2_workOut_158 : decode cX2_workOut 158 = .ok (.lstore 19, 2) := by decide +kernel
theorem dX2_workOut_160 : decode cX2_workOut 160 = .ok (.lload_n 3, 1) := by decide +kernel
theorem dX2_workOut_161 : decode cX2_workOut 161 = .ok (.lload 5, 2) := by decide +kernel
theorem dX2_workOut_163 : decode cX2_workOut 163 = .ok (.lsub, 1) := by decide +kernel
theorem dX2_workOut_164 : decode cX2_workOut 164 = .ok (.lload 19, 2) := by decide +kernel
theorem dX2_workOut_166 : decode cX2_workOut 166 = .ok (.lmul, 1) := by decide +kernel
theorem dX2_workOut_167 : decode cX2_workOut 167 = .ok (.ldc2_w 75, 3) := by decide +kernel
theorem dX2_workOut_170 : decode cX2_workOut 170 = .ok (.ldiv, 1) := by decide +kernel
theorem dX2_workOut_171 : decode cX2_workOut 171 = .ok (.aload_n 0, 1) := by decide +kernel
theorem dX2_workOut_172 : decode cX2_workOut 172 = .ok (.getfield 7, 3) := by decide +kernel
theorem dX2_workOut_175 : decode cX2_workOut 175 = .ok (.iconst 4, 1) := by decide +kernel
theorem dX2_workOut_176 : decode cX2_workOut 176 = .ok (.iaload, 1) := by decide +kernel
theorem dX2_workOut_177 : decode cX2_workOut 177 = .ok (.ineg, 1) := by decide +kernel
theorem dX2_workOut_178 : decode cX2_workOut 178 = .ok (.aload_n 0, 1) := by decide +kernel
theorem dX2_workOut_179 : decode cX2_workOut 179 = .ok (.getfield 7, 3) := by decide +kernel
theorem dX2_workOut_182 : decode cX2_workOut 182 = .ok (.iconst 4, 1) := by decide +kernel
theorem dX2_workOut_183 : decode cX2_workOut 183 = .ok (.iaload, 1) := by decide +kernel
theorem dX2_workOut_184 : decode cX2_workOut 184 = .ok (.invokestatic 84, 3) := by decide +kernel
theorem dX2_workOut_187 : decode cX2_workOut 187 = .ok (.i2l, 1) := by decide +kernel
theorem dX2_workOut_188 : decode cX2_workOut 188 = .ok (.lstore 21, 2) := by decide +kernel
theorem dX2_workOut_190 : decode cX2_workOut 190 = .ok (.aload_n 0, 1) := by decide +kernel
theorem dX2_workOut_191 : decode cX2_workOut 191 = .ok (.getfield 7, 3) := by decide +kernel
theorem dX2_workOut_194 : decode cX2_workOut 194 = .ok (.iconst 5, 1) := by decide +kernel
theorem dX2_workOut_195 : decode cX2_workOut 195 = .ok (.iload_n 1, 1) := by decide +kernel
theorem dX2_workOut_196 : decode cX2_workOut 196 = .ok (.iadd, 1) := by decide +kernel
theorem dX2_workOut_197 : decode cX2_workOut 197 = .ok (.iaload, 1) := by decide +kernel
theorem dX2_workOut_198 : decode cX2_workOut 198 = .ok (.i2l, 1) := by decide +kernel
theorem dX2_workOut_199 : decode cX2_workOut 199 = .ok (.lstore 23, 2) := by decide +kernel
theorem dX2_workOut_201 : decode cX2_workOut 201 = .ok (.aload_n 0, 1) := by decide +kernel
theorem dX2_workOut_202 : decode cX2_workOut 202 = .ok (.getfield 7, 3) := by decide +kernel
theorem dX2_workOut_205 : decode cX2_workOut 205 = .ok (.bipush 15, 2) := by decide +kernel
theorem dX2_workOut_207 : decode cX2_workOut 207 = .ok (.iload_n 1, 1) := by decide +kernel
theorem dX2_workOut_208 : decode cX2_workOut 208 = .ok (.iadd, 1) := by decide +kernel
theorem dX2_workOut_209 : decode cX2_workOut 209 = .ok (.iaload, 1) := by decide +kernel
theorem dX2_workOut_210 : decode cX2_workOut 210 = .ok (.i2l, 1) := by decide +kernel
theorem dX2_workOut_211 : decode cX2_workOut 211 = .ok (.lstore 25, 2) := by decide +kernel
theorem dX2_workOut_213 : decode cX2_workOut 213 = .ok (.aload_n 0, 1) := by decide +kernel
theorem dX2_workOut_214 : decode cX2_workOut 214 = .ok (.getfield 7, 3) := by decide +kernel
theorem dX2_workOut_217 : decode cX2_workOut 217 = .ok (.bipush 25, 2) := by decide +kernel
theorem dX2_workOut_219 : decode cX2_workOut 219 = .ok (.iload_n 1, 1) := by decide +kernel
theorem dX2_workOut_220 : decode cX2_workOut 220 = .ok (.iadd, 1) := by decide +kernel
theorem dX2_workOut_221 : decode cX2_workOut 221 = .ok (.iaload, 1) := by decide +kernel
theorem dX2_workOut_222 : decode cX2_workOut 222 = .ok (.i2l, 1) := by decide +kernel
theorem dX2_workOut_223 : decode cX2_workOut 223 = .ok (.lstore 27, 2) := by decide +kernel
theorem dX2_workOut_225 : decode cX2_workOut 225 = .ok (.lload 5, 2) := by decide +kernel
theorem dX2_workOut_227 : decode cX2_workOut 227 = .ok (.lconst 0, 1) := by decide +kernel
theorem dX2_workOut_228 : decode cX2_workOut 228 = .ok (.lcmp, 1) := by decide +kernel
theorem dX2_workOut_229 : decode cX2_workOut 229 = .ok (.ifCond .ne 13, 3) := by decide +kernel
theorem dX2_workOut_232 : decode cX2_workOut 232 = .ok (.lload 23, 2) := by decide +kernel
theorem dX2_workOut_234 : decode cX2_workOut 234 = .ok (.lload 21, 2) := by decide +kernel
theorem dX2_workOut_236 : decode cX2_workOut 236 = .ok (.ladd, 1) := by decide +kernel
theorem dX2_workOut_237 : decode cX2_workOut 237 = .ok (.lstore 23, 2) := by decide +kernel
theorem dX2_workOut_239 : decode cX2_workOut 239 = .ok (.goto 102, 3) := by decide +kernel
theorem dX2_workOut_242 : decode cX2_workOut 242 = .ok (.aload_n 0, 1) := by decide +kernel
theorem dX2_workOut_243 : decode cX2_workOut 243 = .ok (.getfield 7, 3) := by decide +kernel
theorem dX2_workOut_246 : decode cX2_workOut 246 = .ok (.iconst 5, 1) := by decide +kernel
theorem dX2_workOut_247 : decode cX2_workOut 247 = .ok (.iload_n 1, 1) := by decide +kernel
theorem dX2_workOut_248 : decode cX2_workOut 248 = .ok (.iadd, 1) := by decide +kernel
theorem dX2_workOut_249 : decode cX2_workOut 249 = .ok (.iaload, 1) := by decide +kernel
theorem dX2_workOut_250 : decode cX2_workOut 250 = .ok (.aload_n 0, 1) := by decide +kernel
theorem dX2_workOut_251 : decode cX2_workOut 251 = .ok (.getfield 7, 3) := by decide +kernel
theorem dX2_workOut_254 : decode cX2_workOut 254 = .ok (.iconst 5, 1) := by decide +kernel
theorem dX2_workOut_255 : decode cX2_workOut 255 = .ok (.iload_n 2, 1) := by decide +kernel
theorem dX2_workOut_256 : decode cX2_workOut 256 = .ok (.iadd, 1) := by decide +kernel
theorem dX2_workOut_257 : decode cX2_workOut 257 = .ok (.iaload, 1) := by decide +kernel
theorem dX2_workOut_258 : decode cX2_workOut 258 = .ok (.isub, 1) := by decide +kernel
theorem dX2_workOut_259 : decode cX2_workOut 259 = .ok (.i2l, 1) := by decide +kernel
theorem dX2_workOut_260 : decode cX2_workOut 260 = .ok (.lstore 29, 2) := by decide +kernel
theorem dX2_workOut_262 : decode cX2_workOut 262 = .ok (.aload_n 0, 1) := by decide +kernel
theorem dX2_workOut_263 : decode cX2_workOut 263 = .ok (.getfield 7, 3) := by decide +kernel
theorem dX2_workOut_266 : decode cX2_workOut 266 = .ok (.bipush 15, 2) := by decide +kernel
theorem dX2_workOut_268 : decode cX2_workOut 268 = .ok (.iload_n 1, 1) := by decide +kernel
theorem dX2_workOut_269 : decode cX2_workOut 269 = .ok (.iadd, 1) := by decide +kernel
theorem dX2_workOut_270 : decode cX2_workOut 270 = .ok (.iaload, 1) := by decide +kernel
theorem dX2_workOut_271 : decode cX2_workOut 271 = .ok (.aload_n 0, 1) := by decide +kernel
theorem dX2_workOut_272 : decode cX2_workOut 272 = .ok (.getfield 7, 3) := by decide +kernel
theorem dX2_workOut_275 : decode cX2_workOut 275 = .ok (.bipush 15, 2) := by decide +kernel
theorem dX2_workOut_277 : decode cX2_workOut 277 = .ok (.iload_n 2, 1) := by decide +kernel
theorem dX2_workOut_278 : decode cX2_workOut 278 = .ok (.iadd, 1) := by decide +kernel
theorem dX2_workOut_279 : decode cX2_workOut 279 = .ok (.iaload, 1) := by decide +kernel
theorem dX2_workOut_280 : decode cX2_workOut 280 = .ok (.isub, 1) := by decide +kernel
theorem dX2_workOut_281 : decode cX2_workOut 281 = .ok (.i2l, 1) := by decide +kernel
theorem dX2_workOut_282 : decode cX2_workOut 282 = .ok (.lstore 31, 2) := by decide +kernel
theorem dX2_workOut_284 : decode cX2_workOut 284 = .ok (.lload 23, 2) := by decide +kernel
theorem dX2_workOut_286 : decode cX2_workOut 286 = .ok (.lload 21, 2) := by decide +kernel
theorem dX2_workOut_288 : decode cX2_workOut 288 = .ok (.lload 29, 2) := by decide +kernel
theorem dX2_workOut_290 : decode cX2_workOut 290 = .ok (.lmul, 1) := by decide +kernel
theorem dX2_workOut_291 : decode cX2_workOut 291 = .ok (.lload 5, 2) := by decide +kernel
theorem dX2_workOut_293 : decode cX2_workOut 293 = .ok (.ldiv, 1) := by decide +kernel
theorem dX2_workOut_294 : decode cX2_workOut 294 = .ok (.ladd, 1) := by decide +kernel
theorem dX2_workOut_295 : decode cX2_workOut 295 = .ok (.lstore 23, 2) := by decide +kernel
theorem dX2_workOut_297 : decode cX2_workOut 297 = .ok (.lload 25, 2) := by decide +kernel
theorem dX2_workOut_299 : decode cX2_workOut 299 = .ok (.lload 21, 2) := by decide +kernel
theorem dX2_workOut_301 : decode cX2_workOut 301 = .ok (.lload 31, 2) := by decide +kernel
theorem dX2_workOut_303 : decode cX2_workOut 303 = .ok (.lmul, 1) := by decide +kernel
theorem dX2_workOut_304 : decode cX2_workOut 304 = .ok (.lload 5, 2) := by decide +kernel
theorem dX2_workOut_306 : decode cX2_workOut 306 = .ok (.ldiv, 1) := by decide +kernel
theorem dX2_workOut_307 : decode cX2_workOut 307 = .ok (.ladd, 1) := by decide +kernel
theorem dX2_workOut_308 : decode cX2_workOut 308 = .ok (.lstore 25, 2) := by decide +kernel
theorem dX2_workOut_310 : decode cX2_workOut 310 = .ok (.lload 27, 2) := by decide +kernel
theorem dX2_workOut_312 : decode cX2_workOut 312 = .ok (.lload 21, 2) := by decide +kernel
theorem dX2_workOut_314 : decode cX2_workOut 314 = .ok (.aload_n 0, 1) := by decide +kernel
theorem dX2_workOut_315 : decode cX2_workOut 315 = .ok (.getfield 7, 3) := by decide +kernel
theorem dX2_workOut_318 : decode cX2_workOut 318 = .ok (.bipush 25, 2) := by decide +kernel
theorem dX2_workOut_320 : decode cX2_workOut 320 = .ok (.iload_n 1, 1) := by decide +kernel
theorem dX2_workOut_321 : decode cX2_workOut 321 = .ok (.iadd, 1) := by decide +kernel
theorem dX2_workOut_322 : decode cX2_workOut 322 = .ok (.iaload, 1) := by decide +kernel
theorem dX2_workOut_323 : decode cX2_workOut 323 = .ok (.aload_n 0, 1) := by decide +kernel
theorem dX2_workOut_324 : decode cX2_workOut 324 = .ok (.getfield 7, 3) := by decide +kernel
theorem dX2_workOut_327 : decode cX2_workOut 327 = .ok (.bipush 25, 2) := by decide +kernel
theorem dX2_workOut_329 : decode cX2_workOut 329 = .ok (.iload_n 2, 1) := by decide +kernel
theorem dX2_workOut_330 : decode cX2_workOut 330 = .ok (.iadd, 1) := by decide +kernel
theorem dX2_workOut_331 : decode cX2_workOut 331 = .ok (.iaload, 1) := by decide +kernel
theorem dX2_workOut_332 : decode cX2_workOut 332 = .ok (.iadd, 1) := by decide +kernel
theorem dX2_workOut_333 : decode cX2_workOut 333 = .ok (.i2l, 1) := by decide +kernel
theorem dX2_workOut_334 : decode cX2_workOut 334 = .ok (.lmul, 1) := by decide +kernel
theorem dX2_workOut_335 : decode cX2_workOut 335 = .ok (.lload 5, 2) := by decide +kernel
theorem dX2_workOut_337 : decode cX2_workOut 337 = .ok (.ldiv, 1) := by decide +kernel
theorem dX2_workOut_338 : decode cX2_workOut 338 = .ok (.ladd, 1) := by decide +kernel
theorem dX2_workOut_339 : decode cX2_workOut 339 = .ok (.lstore 27, 2) := by decide +kernel
theorem dX2_workOut_341 : decode cX2_workOut 341 = .ok (.aload_n 0, 1) := by decide +kernel
theorem dX2_workOut_342 : decode cX2_workOut 342 = .ok (.lload 23, 2) := by decide +kernel
theorem dX2_workOut_344 : decode cX2_workOut 344 = .ok (.ldc 56, 2) := by decide +kernel
theorem dX2_workOut_346 : decode cX2_workOut 346 = .ok (.ldc 57, 2) := by decide +kernel
theorem dX2_workOut_348 : decode cX2_workOut 348 = .ok (.invokestatic 84, 3) := by decide +kernel
theorem dX2_workOut_351 : decode cX2_workOut 351 = .ok (.putfield 88, 3) := by decide +kernel
theorem dX2_workOut_354 : decode cX2_workOut 354 = .ok (.aload_n 0, 1) := by decide +kernel
theorem dX2_workOut_355 : decode cX2_workOut 355 = .ok (.lload 25, 2) := by decide +kernel
theorem dX2_workOut_357 : decode cX2_workOut 357 = .ok (.ldc 56, 2) := by decide +kernel
theorem dX2_workOut_359 : decode cX2_workOut 359 = .ok (.ldc 57, 2) := by decide +kernel
theorem dX2_workOut_361 : decode cX2_workOut 361 = .ok (.invokestatic 84, 3) := by decide +kernel
theorem dX2_workOut_364 : decode cX2_workOut 364 = .ok (.putfield 91, 3) := by decide +kernel
theorem dX2_workOut_367 : decode cX2_workOut 367 = .ok (.aload_n 0, 1) := by decide +kernel
theorem dX2_workOut_368 : decode cX2_workOut 368 = .ok (.lload 27, 2) := by decide +kernel
theorem dX2_workOut_370 : decode cX2_workOut 370 = .ok (.iconst 0, 1) := by decide +kernel
theorem dX2_workOut_371 : decode cX2_workOut 371 = .ok (.ldc 57, 2) := by decide +kernel
theorem dX2_workOut_373 : decode cX2_workOut 373 = .ok (.invokestatic 84, 3) := by decide +kernel
theorem dX2_workOut_376 : decode cX2_workOut 376 = .ok (.putfield 94, 3) := by decide +kernel
theorem dX2_workOut_379 : decode cX2_workOut 379 = .ok (.return_, 1) := by decide +kernel
set_option maxRecDepth 20000 in
theorem ggX2_update_X2_workOut : GoodIn wsX2_update wsX2_workOut := goodIn_r _ [10, 1, 11, 5, 12, 13, 2, 3, 4, 14, 15, 16, 9, 17, 18, 19, 20, 21, 22, 23, 24, 25, 26, 27, 28, 29, 30, 31, 32, 33, 34, 35, 36, 37, 38, 39, 40, 41, 42, 43, 44, 45, 46, 47, 48, 49] (by decide +kernel) (by decide +kernel)
set_option maxRecDepth 20000 in
theorem gX2_update_X2_workOut : GoodIn wsX2_update (wsV RX2 97 RX2 yX2_workOut wsX2_workOut) := goodIn_app (goodIn_of _ (by decide +kernel)) ggX2_update_X2_workOut
theorem dX2_update_0 : decode cX2_update 0 = .ok (.aload_n 0, 1) := by decide +kernel
theorem dX2_update_1 : decode cX2_update 1 = .ok (.iload_n 1, 1) := by decide +kernel
theorem dX2_update_2 : decode cX2_update 2 = .ok (.iload_n 2, 1) := by decide +kernel
theorem dX2_update_3 : decode cX2_update 3 = .ok (.invokevirtual 97, 3) := by decide +kernel
theorem dX2_update_6 : decode cX2_update 6 = .ok (.aload_n 0, 1) := by decide +kernel
theorem dX2_update_7 : decode cX2_update 7 = .ok (.getfield 7, 3) := by decide +kernel
theorem dX2_update_10 : decode cX2_update 10 = .ok (.iconst 5, 1) := by decide +kernel
theorem dX2_update_11 : decode cX2_update 11 = .ok (.iload_n 1, 1) := by decide +kernel
theorem dX2_update_12 : decode cX2_update 12 = .ok (.iadd, 1) := by decide +kernel
theorem dX2_update_13 : decode cX2_update 13 = .ok (.aload_n 0, 1) := by decide +kernel
theorem dX2_update_14 : decode cX2_update 14 = .ok (.getfield 88, 3) := by decide +kernel
theorem dX2_update_17 : decode cX2_update 17 = .ok (.iastore, 1) := by decide +kernel
theorem dX2_update_18 : decode cX2_update 18 = .ok (.aload_n 0, 1) := by decide +kernel
theorem dX2_update_19 : decode cX2_update 19 = .ok (.getfield 7, 3) := by decide +kernel
theorem dX2_update_22 : decode cX2_update 22 = .ok (.bipush 15, 2) := by decide +kernel
theorem dX2_update_24 : decode cX2_update 24 = .ok (.iload_n 1, 1) := by decide +kernel
theorem dX2_update_25 : decode cX2_update 25 = .ok (.iadd, 1) := by decide +kernel
theorem dX2_update_26 : decode cX2_update 26 = .ok (.aload_n 0, 1) := by decide +kernel
theorem dX2_update_27 : decode cX2_update 27 = .ok (.getfield 91, 3) := by decide +kernel
theorem dX2_update_30 : decode cX2_update 30 = .ok (.iastore, 1) := by decide +kernel
theorem dX2_update_31 : decode cX2_update 31 = .ok (.aload_n 0, 1) := by decide +kernel
theorem dX2_update_32 : decode cX2_update 32 = .ok (.getfield 7, 3) := by decide +kernel
theorem dX2_update_35 : decode cX2_update 35 = .ok (.bipush 25, 2) := by decide +kernel
theorem dX2_update_37 : decode cX2_update 37 = .ok (.iload_n 1, 1) := by decide +kernel
theorem dX2_update_38 : decode cX2_update 38 = .ok (.iadd, 1) := by decide +kernel
theorem dX2_update_39 : decode cX2_update 39 = .ok (.aload_n 0, 1) := by decide +kernel
theorem dX2_update_40 : decode cX2_update 40 = .ok (.getfield 94, 3) := by decide +kernel
theorem dX2_update_43 : decode cX2_update 43 = .ok (.iastore, 1) := by decide +kernel
theorem dX2_update_44 : decode cX2_update 44 = .ok (.aload_n 0, 1) := by decide +kernel
theorem dX2_update_45 : decode cX2_update 45 = .ok (.getfield 7, 3) := by decide +kernel
theorem dX2_update_48 : decode cX2_update 48 = .ok (.bipush 35, 2) := by decide +kernel
theorem dX2_update_50 : decode cX2_update 50 = .ok (.iload_n 1, 1) := by decide +kernel
theorem dX2_update_51 : decode cX2_update 51 = .ok (.iadd, 1) := by decide +kernel
theorem dX2_update_52 : decode cX2_update 52 = .ok (.aload_n 0, 1) := by decide +kernel
theorem dX2_update_53 : decode cX2_update 53 = .ok (.getfield 80, 3) := by decide +kernel
theorem dX2_update_56 : decode cX2_update 56 = .ok (.iastore, 1) := by decide +kernel
theorem dX2_update_57 : decode cX2_update 57 = .ok (.return_, 1) := by decide +kernel
set_option maxRecDepth 20000 in
theorem ggX2_measure_X2_wrongKnown : GoodIn wsX2_measure wsX2_wrongKnown := goodIn_r _ [5, 6, 7, 8, 9, 10, 4, 11, 12, 13, 14, 15, 16, 17, 18, 19, 20, 21, 22, 23, 61, 62, 63, 64, 65, 66, 67, 68, 69, 70, 71] (by decide +kernel) (by decide +kernel)
set_option maxRecDepth 20000 in
theorem gX2_measure_X2_wrongKnown : GoodIn wsX2_measure (wsV RX2 53 RX2 yX2_wrongKnown wsX2_wrongKnown) := goodIn_app (goodIn_of _ (by decide +kernel)) ggX2_measure_X2_wrongKnown
set_option maxRecDepth 20000 in
theorem ggX2_measure_X2_update : GoodIn wsX2_measure wsX2_update := goodIn_r _ [27, 6, 28, 29, 30, 31, 32, 33, 34, 4, 35, 36, 37, 38, 39, 40, 41, 42, 21, 22, 23, 43, 44, 45, 46, 47, 48, 49, 50, 51, 52, 53, 54, 55, 56, 57, 58, 59, 60, 61, 62, 63, 64, 65, 66, 67, 68, 69, 70, 71] (by decide +kernel) (by decide +kernel)
set_option maxRecDepth 20000 in
theorem gX2_measure_X2_update : GoodIn wsX2_measure (wsV RX2 101 RX2 yX2_update wsX2_update) := goodIn_app (goodIn_of _ (by decide +kernel)) ggX2_measure_X2_update
set_option maxRecDepth 20000 in
theorem ggX2_measure_X2_sample : GoodIn wsX2_measure wsX2_sample := goodIn_r _ [42, 6, 21, 22, 4, 23, 61, 62, 63, 64, 65, 66, 67, 68, 69, 70, 71] (by decide +kernel) (by decide +kernel)
set_option maxRecDepth 20000 in
theorem gX2_measure_X2_sample : GoodIn wsX2_measure (wsV RX2 72 RX2 yX2_sample wsX2_sample) := goodIn_app (goodIn_of _ (by decide +kernel)) ggX2_measure_X2_sample
theorem dX2_measure_0 : decode cX2_measure 0 = .ok (.aload_n 0, 1) := by decide +kernel
theorem dX2_measure_1 : decode cX2_measure 1 = .ok (.iload_n 1, 1) := by decide +kernel
theorem dX2_measure_2 : decode cX2_measure 2 = .ok (.iload_n 2, 1) := by decide +kernel
theorem dX2_measure_3 : decode cX2_measure 3 = .ok (.invokevirtual 53, 3) := by decide +kernel
theorem dX2_measure_6 : decode cX2_measure 6 = .ok (.istore_n 3, 1) := by decide +kernel
theorem dX2_measure_7 : decode cX2_measure 7 = .ok (.iload_n 3, 1) := by decide +kernel
theorem dX2_measure_8 : decode cX2_measure 8 = .ok (.ifCond .eq 5, 3) := by decide +kernel
theorem dX2_measure_11 : decode cX2_measure 11 = .ok (.iload_n 3, 1) := by decide +kernel
theorem dX2_measure_12 : decode cX2_measure 12 = .ok (.ireturn, 1) := by decide +kernel
theorem dX2_measure_13 : decode cX2_measure 13 = .ok (.aload_n 0, 1) := by decide +kernel
theorem dX2_measure_14 : decode cX2_measure 14 = .ok (.iload_n 1, 1) := by decide +kernel
theorem dX2_measure_15 : decode cX2_measure 15 = .ok (.iload_n 2, 1) := by decide +kernel
theorem dX2_measure_16 : decode cX2_measure 16 = .ok (.invokevirtual 101, 3) := by decide +kernel
theorem dX2_measure_19 : decode cX2_measure 19 = .ok (.aload_n 0, 1) := by decide +kernel
theorem dX2_measure_20 : decode cX2_measure 20 = .ok (.iload_n 1, 1) := by decide +kernel
theorem dX2_measure_21 : decode cX2_measure 21 = .ok (.iload_n 2, 1) := by decide +kernel
theorem dX2_measure_22 : decode cX2_measure 22 = .ok (.invokevirtual 72, 3) := by decide +kernel
theorem dX2_measure_25 : decode cX2_measure 25 = .ok (.ireturn, 1) := by decide +kernel
set_option maxRecDepth 20000 in
theorem ggX2_round_X2_cell : GoodIn wsX2_round wsX2_cell := goodIn_r _ [5] (by decide +kernel) (by decide +kernel)
set_option maxRecDepth 20000 in
theorem gX2_round_X2_cell : GoodIn wsX2_round (va_wsS RX2 46 yX2_cell wsX2_cell) := goodIn_app (goodIn_of _ (by decide +kernel)) ggX2_round_X2_cell
set_option maxRecDepth 20000 in
theorem ggX2_round_X2_update : GoodIn wsX2_round wsX2_update := goodIn_r _ [9, 1, 10, 11, 12, 13, 14, 15, 16, 4, 17, 18, 19, 20, 21, 22, 23, 24, 2, 3, 5, 25, 26, 27, 28, 29, 30, 31, 32, 33, 34, 35, 36, 37, 38, 39, 40, 41, 42, 43, 44, 45, 46, 47, 48, 49, 50, 51, 52, 53] (by decide +kernel) (by decide +kernel)
set_option maxRecDepth 20000 in
theorem gX2_round_X2_update : GoodIn wsX2_round (wsV RX2 101 RX2 yX2_update wsX2_update) := goodIn_app (goodIn_of _ (by decide +kernel)) ggX2_round_X2_update
theorem dX2_round_0 : decode cX2_round 0 = .ok (.aload_n 0, 1) := by decide +kernel
theorem dX2_round_1 : decode cX2_round 1 = .ok (.getfield 7, 3) := by decide +kernel
theorem dX2_round_4 : decode cX2_round 4 = .ok (.iconst 0, 1) := by decide +kernel
theorem dX2_round_5 : decode cX2_round 5 = .ok (.iaload, 1) := by decide +kernel
theorem dX2_round_6 : decode cX2_round 6 = .ok (.istore_n 1, 1) := by decide +kernel
theorem dX2_round_7 : decode cX2_round 7 = .ok (.iconst 0, 1) := by decide +kernel
theorem dX2_round_8 : decode cX2_round 8 = .ok (.istore_n 2, 1) := by decide +kernel
theorem dX2_round_9 : decode cX2_round 9 = .ok (.iconst 0, 1) := by decide +kernel
theorem dX2_round_10 : decode cX2_round 10 = .ok (.istore_n 3, 1) := by decide +kernel
theorem dX2_round_11 : decode cX2_round 11 = .ok (.iload_n 3, 1) := by decide +kernel
theorem dX2_round_12 : decode cX2_round 12 = .ok (.iload_n 1, 1) := by decide +kernel
theorem dX2_round_13 : decode cX2_round 13 = .ok (.if_icmp .ge 51, 3) := by decide +kernel
theorem dX2_round_16 : decode cX2_round 16 = .ok (.iload_n 3, 1) := by decide +kernel
theorem dX2_round_17 : decode cX2_round 17 = .ok (.iconst 1, 1) := by decide +kernel
theorem dX2_round_18 : decode cX2_round 18 = .ok (.iadd, 1) := by decide +kernel
theorem dX2_round_19 : decode cX2_round 19 = .ok (.aload_n 0, 1) := by decide +kernel
theorem dX2_round_20 : decode cX2_round 20 = .ok (.getfield 7, 3) := by decide +kernel
theorem dX2_round_23 : decode cX2_round 23 = .ok (.iconst 1, 1) := by decide +kernel
theorem dX2_round_24 : decode cX2_round 24 = .ok (.iaload, 1) := by decide +kernel
theorem dX2_round_25 : decode cX2_round 25 = .ok (.iload_n 1, 1) := by decide +kernel
theorem dX2_round_26 : decode cX2_round 26 = .ok (.iconst 1, 1) := by decide +kernel
theorem dX2_round_27 : decode cX2_round 27 = .ok (.isub, 1) := by decide +kernel
theorem dX2_round_28 : decode cX2_round 28 = .ok (.irem, 1) := by decide +kernel
theorem dX2_round_29 : decode cX2_round 29 = .ok (.iadd, 1) := by decide +kernel
theorem dX2_round_30 : decode cX2_round 30 = .ok (.iload_n 1, 1) := by decide +kernel
theorem dX2_round_31 : decode cX2_round 31 = .ok (.irem, 1) := by decide +kernel
theorem dX2_round_32 : decode cX2_round 32 = .ok (.istore 4, 2) := by decide +kernel
theorem dX2_round_34 : decode cX2_round 34 = .ok (.aload_n 0, 1) := by decide +kernel
theorem dX2_round_35 : decode cX2_round 35 = .ok (.getfield 7, 3) := by decide +kernel
theorem dX2_round_38 : decode cX2_round 38 = .ok (.iload_n 3, 1) := by decide +kernel
theorem dX2_round_39 : decode cX2_round 39 = .ok (.iload 4, 2) := by decide +kernel
theorem dX2_round_41 : decode cX2_round 41 = .ok (.invokestatic 46, 3) := by decide +kernel
theorem dX2_round_44 : decode cX2_round 44 = .ok (.iaload, 1) := by decide +kernel
theorem dX2_round_45 : decode cX2_round 45 = .ok (.ifCond .le 13, 3) := by decide +kernel
theorem dX2_round_48 : decode cX2_round 48 = .ok (.aload_n 0, 1) := by decide +kernel
theorem dX2_round_49 : decode cX2_round 49 = .ok (.iload_n 3, 1) := by decide +kernel
theorem dX2_round_50 : decode cX2_round 50 = .ok (.iload 4, 2) := by decide +kernel
theorem dX2_round_52 : decode cX2_round 52 = .ok (.invokevirtual 101, 3) := by decide +kernel
theorem dX2_round_55 : decode cX2_round 55 = .ok (.iinc 2 1, 3) := by decide +kernel
theorem dX2_round_58 : decode cX2_round 58 = .ok (.iinc 3 1, 3) := by decide +kernel
theorem dX2_round_61 : decode cX2_round 61 = .ok (.goto (-50), 3) := by decide +kernel
theorem dX2_round_64 : decode cX2_round 64 = .ok (.aload_n 0, 1) := by decide +kernel
theorem dX2_round_65 : decode cX2_round 65 = .ok (.getfield 7, 3) := by decide +kernel
theorem dX2_round_68 : decode cX2_round 68 = .ok (.iconst 1, 1) := by decide +kernel
theorem dX2_round_69 : decode cX2_round 69 = .ok (.dup2, 1) := by decide +kernel
theorem dX2_round_70 : decode cX2_round 70 = .ok (.iaload, 1) := by decide +kernel
theorem dX2_round_71 : decode cX2_round 71 = .ok (.iconst 1, 1) := by decide +kernel
theorem dX2_round_72 : decode cX2_round 72 = .ok (.iadd, 1) := by decide +kernel
theorem dX2_round_73 : decode cX2_round 73 = .ok (.iastore, 1) := by decide +kernel
theorem dX2_round_74 : decode cX2_round 74 = .ok (.iload_n 2, 1) := by decide +kernel
theorem dX2_round_75 : decode cX2_round 75 = .ok (.ireturn, 1) := by decide +kernel
set_option maxRecDepth 20000 in
theorem ggX2_run_X2_in : GoodIn wsX2_run wsX2_in := goodIn_r _ [5] (by decide +kernel) (by decide +kernel)
set_option maxRecDepth 20000 in
theorem gX2_run_X2_in : GoodIn wsX2_run (va_wsS RX2 27 yX2_in wsX2_in) := goodIn_app (goodIn_of _ (by decide +kernel)) ggX2_run_X2_in
set_option maxRecDepth 20000 in
theorem ggX2_run_X2_round : GoodIn wsX2_run wsX2_round := goodIn_r _ [9, 10, 11, 12, 4, 13, 14, 15, 16, 17, 18, 19, 20, 21, 22, 23, 24, 25, 26, 27, 28, 29, 30, 31, 32, 33, 34, 35, 36, 37, 38, 39, 40, 41, 42, 43, 44, 45, 46, 47, 48, 49, 50, 51, 52, 53, 54, 55, 56, 57, 58, 59, 60, 61] (by decide +kernel) (by decide +kernel)
set_option maxRecDepth 20000 in
theorem gX2_run_X2_round : GoodIn wsX2_run (wsV RX2 104 RX2 yX2_round wsX2_round) := goodIn_app (goodIn_of _ (by decide +kernel)) ggX2_run_X2_round
theorem dX2_run_0 : decode cX2_run 0 = .ok (.iload_n 1, 1) := by decide +kernel
theorem dX2_run_1 : decode cX2_run 1 = .ok (.iconst 1, 1) := by decide +kernel
theorem dX2_run_2 : decode cX2_run 2 = .ok (.bipush 100, 2) := by decide +kernel
theorem dX2_run_4 : decode cX2_run 4 = .ok (.invokestatic 27, 3) := by decide +kernel
theorem dX2_run_7 : decode cX2_run 7 = .ok (.ifCond .ne 6, 3) := by decide +kernel
theorem dX2_run_10 : decode cX2_run 10 = .ok (.ldc 35, 2) := by decide +kernel
theorem dX2_run_12 : decode cX2_run 12 = .ok (.ireturn, 1) := by decide +kernel
theorem dX2_run_13 : decode cX2_run 13 = .ok (.iconst 0, 1) := by decide +kernel
theorem dX2_run_14 : decode cX2_run 14 = .ok (.istore_n 2, 1) := by decide +kernel
theorem dX2_run_15 : decode cX2_run 15 = .ok (.iconst 0, 1) := by decide +kernel
theorem dX2_run_16 : decode cX2_run 16 = .ok (.istore_n 3, 1) := by decide +kernel
theorem dX2_run_17 : decode cX2_run 17 = .ok (.iload_n 3, 1) := by decide +kernel
theorem dX2_run_18 : decode cX2_run 18 = .ok (.iload_n 1, 1) := by decide +kernel
theorem dX2_run_19 : decode cX2_run 19 = .ok (.if_icmp .ge 16, 3) := by decide +kernel
theorem dX2_run_22 : decode cX2_run 22 = .ok (.iload_n 2, 1) := by decide +kernel
theorem dX2_run_23 : decode cX2_run 23 = .ok (.aload_n 0, 1) := by decide +kernel
theorem dX2_run_24 : decode cX2_run 24 = .ok (.invokevirtual 104, 3) := by decide +kernel
theorem dX2_run_27 : decode cX2_run 27 = .ok (.iadd, 1) := by decide +kernel
theorem dX2_run_28 : decode cX2_run 28 = .ok (.istore_n 2, 1) := by decide +kernel
theorem dX2_run_29 : decode cX2_run 29 = .ok (.iinc 3 1, 3) := by decide +kernel
theorem dX2_run_32 : decode cX2_run 32 = .ok (.goto (-15), 3) := by decide +kernel
theorem dX2_run_35 : decode cX2_run 35 = .ok (.iload_n 2, 1) := by decide +kernel
theorem dX2_run_36 : decode cX2_run 36 = .ok (.ireturn, 1) := by decide +kernel
theorem dX2_roundCounter_0 : decode cX2_roundCounter 0 = .ok (.aload_n 0, 1) := by decide +kernel
theorem dX2_roundCounter_1 : decode cX2_roundCounter 1 = .ok (.getfield 7, 3) := by decide +kernel
theorem dX2_roundCounter_4 : decode cX2_roundCounter 4 = .ok (.iconst 1, 1) := by decide +kernel
theorem dX2_roundCounter_5 : decode cX2_roundCounter 5 = .ok (.iaload, 1) := by decide +kernel
theorem dX2_roundCounter_6 : decode cX2_roundCounter 6 = .ok (.ireturn, 1) := by decide +kernel
set_option maxRecDepth 20000 in
theorem ggX2_errorOf_X2_cell : GoodIn wsX2_errorOf wsX2_cell := goodIn_r _ [6] (by decide +kernel) (by decide +kernel)
set_option maxRecDepth 20000 in
theorem gX2_errorOf_X2_cell : GoodIn wsX2_errorOf (va_wsS RX2 46 yX2_cell wsX2_cell) := goodIn_app (goodIn_of _ (by decide +kernel)) ggX2_errorOf_X2_cell
set_option maxRecDepth 20000 in
theorem ggX2_errorOf_X2_predicted : GoodIn wsX2_errorOf wsX2_predicted := goodIn_r _ [10, 1, 11, 12, 5, 13, 14, 15, 16, 17, 18, 22, 23, 24, 25, 26, 27, 28, 29, 30, 31, 32] (by decide +kernel) (by decide +kernel)
set_option maxRecDepth 20000 in
theorem gX2_errorOf_X2_predicted : GoodIn wsX2_errorOf (wsV RX2 69 RX2 yX2_predicted wsX2_predicted) := goodIn_app (goodIn_of _ (by decide +kernel)) ggX2_errorOf_X2_predicted
set_option maxRecDepth 20000 in
theorem ggX2_errorOf_X2_plain : GoodIn wsX2_errorOf wsX2_plain := goodIn_r _ [21] (by decide +kernel) (by decide +kernel)
set_option maxRecDepth 20000 in
theorem gX2_errorOf_X2_plain : GoodIn wsX2_errorOf (va_wsS RX2 77 yX2_plain wsX2_plain) := goodIn_app (goodIn_of _ (by decide +kernel)) ggX2_errorOf_X2_plain
theorem dX2_errorOf_0 : decode cX2_errorOf 0 = .ok (.aload_n 0, 1) := by decide +kernel
theorem dX2_errorOf_1 : decode cX2_errorOf 1 = .ok (.getfield 7, 3) := by decide +kernel
theorem dX2_errorOf_4 : decode cX2_errorOf 4 = .ok (.iload_n 1, 1) := by decide +kernel
theorem dX2_errorOf_5 : decode cX2_errorOf 5 = .ok (.iload_n 2, 1) := by decide +kernel
theorem dX2_errorOf_6 : decode cX2_errorOf 6 = .ok (.invokestatic 46, 3) := by decide +kernel
theorem dX2_errorOf_9 : decode cX2_errorOf 9 = .ok (.iaload, 1) := by decide +kernel
theorem dX2_errorOf_10 : decode cX2_errorOf 10 = .ok (.i2l, 1) := by decide +kernel
theorem dX2_errorOf_11 : decode cX2_errorOf 11 = .ok (.lstore_n 3, 1) := by decide +kernel
theorem dX2_errorOf_12 : decode cX2_errorOf 12 = .ok (.ldc2_w 75, 3) := by decide +kernel
theorem dX2_errorOf_15 : decode cX2_errorOf 15 = .ok (.aload_n 0, 1) := by decide +kernel
theorem dX2_errorOf_16 : decode cX2_errorOf 16 = .ok (.iload_n 1, 1) := by decide +kernel
theorem dX2_errorOf_17 : decode cX2_errorOf 17 = .ok (.iload_n 2, 1) := by decide +kernel
theorem dX2_errorOf_18 : decode cX2_errorOf 18 = .ok (.invokevirtual 69, 3) := by decide +kernel
theorem dX2_errorOf_21 : decode cX2_errorOf 21 = .ok (.i2l, 1) := by decide +kernel
theorem dX2_errorOf_22 : decode cX2_errorOf 22 = .ok (.lload_n 3, 1) := by decide +kernel
theorem dX2_errorOf_23 : decode cX2_errorOf 23 = .ok (.lsub, 1) := by decide +kernel
theorem dX2_errorOf_24 : decode cX2_errorOf 24 = .ok (.invokestatic 77, 3) := by decide +kernel
theorem dX2_errorOf_27 : decode cX2_errorOf 27 = .ok (.lmul, 1) := by decide +kernel
theorem dX2_errorOf_28 : decode cX2_errorOf 28 = .ok (.lload_n 3, 1) := by decide +kernel
theorem dX2_errorOf_29 : decode cX2_errorOf 29 = .ok (.ldiv, 1) := by decide +kernel
theorem dX2_errorOf_30 : decode cX2_errorOf 30 = .ok (.l2i, 1) := by decide +kernel
theorem dX2_errorOf_31 : decode cX2_errorOf 31 = .ok (.ireturn, 1) := by decide +kernel
set_option maxRecDepth 20000 in
theorem ggX2_meanError_X2_cell : GoodIn wsX2_meanError wsX2_cell := goodIn_r _ [6] (by decide +kernel) (by decide +kernel)
set_option maxRecDepth 20000 in
theorem gX2_meanError_X2_cell : GoodIn wsX2_meanError (va_wsS RX2 46 yX2_cell wsX2_cell) := goodIn_app (goodIn_of _ (by decide +kernel)) ggX2_meanError_X2_cell
set_option maxRecDepth 20000 in
theorem ggX2_meanError_X2_errorOf : GoodIn wsX2_meanError wsX2_errorOf := goodIn_r _ [10, 1, 11, 3, 4, 5, 6, 12, 13, 14, 15, 16, 17, 18, 19, 20, 21, 22, 23, 24, 25, 26, 27, 28, 29, 30, 31, 32, 33, 34, 35, 36, 37] (by decide +kernel) (by decide +kernel)
set_option maxRecDepth 20000 in
theorem gX2_meanError_X2_errorOf : GoodIn wsX2_meanError (wsV RX2 108 RX2 yX2_errorOf wsX2_errorOf) := goodIn_app (goodIn_of _ (by decide +kernel)) ggX2_meanError_X2_errorOf
theorem dX2_meanError_0 : decode cX2_meanError 0 = .ok (.lconst 0, 1) := by decide +kernel
theorem dX2_meanError_1 : decode cX2_meanError 1 = .ok (.lstore_n 1, 1) := by decide +kernel
theorem dX2_meanError_2 : decode cX2_meanError 2 = .ok (.iconst 0, 1) := by decide +kernel
theorem dX2_meanError_3 : decode cX2_meanError 3 = .ok (.istore_n 3, 1) := by decide +kernel
theorem dX2_meanError_4 : decode cX2_meanError 4 = .ok (.iconst 0, 1) := by decide +kernel
theorem dX2_meanError_5 : decode cX2_meanError 5 = .ok (.istore 4, 2) := by decide +kernel
theorem dX2_meanError_7 : decode cX2_meanError 7 = .ok (.iload 4, 2) := by decide +kernel
theorem dX2_meanError_9 : decode cX2_meanError 9 = .ok (.aload_n 0, 1) := by decide +kernel
theorem dX2_meanError_10 : decode cX2_meanError 10 = .ok (.getfield 7, 3) := by decide +kernel
theorem dX2_meanError_13 : decode cX2_meanError 13 = .ok (.iconst 0, 1) := by decide +kernel
theorem dX2_meanError_14 : decode cX2_meanError 14 = .ok (.iaload, 1) := by decide +kernel
theorem dX2_meanError_15 : decode cX2_meanError 15 = .ok (.if_icmp .ge 62, 3) := by decide +kernel
theorem dX2_meanError_18 : decode cX2_meanError 18 = .ok (.iload 4, 2) := by decide +kernel
theorem dX2_meanError_20 : decode cX2_meanError 20 = .ok (.iconst 1, 1) := by decide +kernel
theorem dX2_meanError_21 : decode cX2_meanError 21 = .ok (.iadd, 1) := by decide +kernel
theorem dX2_meanError_22 : decode cX2_meanError 22 = .ok (.istore 5, 2) := by decide +kernel
theorem dX2_meanError_24 : decode cX2_meanError 24 = .ok (.iload 5, 2) := by decide +kernel
theorem dX2_meanError_26 : decode cX2_meanError 26 = .ok (.aload_n 0, 1) := by decide +kernel
theorem dX2_meanError_27 : decode cX2_meanError 27 = .ok (.getfield 7, 3) := by decide +kernel
theorem dX2_meanError_30 : decode cX2_meanError 30 = .ok (.iconst 0, 1) := by decide +kernel
theorem dX2_meanError_31 : decode cX2_meanError 31 = .ok (.iaload, 1) := by decide +kernel
theorem dX2_meanError_32 : decode cX2_meanError 32 = .ok (.if_icmp .ge 39, 3) := by decide +kernel
theorem dX2_meanError_35 : decode cX2_meanError 35 = .ok (.aload_n 0, 1) := by decide +kernel
theorem dX2_meanError_36 : decode cX2_meanError 36 = .ok (.getfield 7, 3) := by decide +kernel
theorem dX2_meanError_39 : decode cX2_meanError 39 = .ok (.iload 4, 2) := by decide +kernel
theorem dX2_meanError_41 : decode cX2_meanError 41 = .ok (.iload 5, 2) := by decide +kernel
theorem dX2_meanError_43 : decode cX2_meanError 43 = .ok (.invokestatic 46, 3) := by decide +kernel
theorem dX2_meanError_46 : decode cX2_meanError 46 = .ok (.iaload, 1) := by decide +kernel
theorem dX2_meanError_47 : decode cX2_meanError 47 = .ok (.ifCond .le 18, 3) := by decide +kernel
theorem dX2_meanError_50 : decode cX2_meanError 50 = .ok (.lload_n 1, 1) := by decide +kernel
theorem dX2_meanError_51 : decode cX2_meanError 51 = .ok (.aload_n 0, 1) := by decide +kernel
theorem dX2_meanError_52 : decode cX2_meanError 52 = .ok (.iload 4, 2) := by decide +kernel
theorem dX2_meanError_54 : decode cX2_meanError 54 = .ok (.iload 5, 2) := by decide +kernel
theorem dX2_meanError_56 : decode cX2_meanError 56 = .ok (.invokevirtual 108, 3) := by decide +kernel
theorem dX2_meanError_59 : decode cX2_meanError 59 = .ok (.i2l, 1) := by decide +kernel
theorem dX2_meanError_60 : decode cX2_meanError 60 = .ok (.ladd, 1) := by decide +kernel
theorem dX2_meanError_61 : decode cX2_meanError 61 = .ok (.lstore_n 1, 1) := by decide +kernel
theorem dX2_meanError_62 : decode cX2_meanError 62 = .ok (.iinc 3 1, 3) := by decide +kernel
theorem dX2_meanError_65 : decode cX2_meanError 65 = .ok (.iinc 5 1, 3) := by decide +kernel
theorem dX2_meanError_68 : decode cX2_meanError 68 = .ok (.goto (-44), 3) := by decide +kernel
theorem dX2_meanError_71 : decode cX2_meanError 71 = .ok (.iinc 4 1, 3) := by decide +kernel
theorem dX2_meanError_74 : decode cX2_meanError 74 = .ok (.goto (-67), 3) := by decide +kernel
theorem dX2_meanError_77 : decode cX2_meanError 77 = .ok (.iload_n 3, 1) := by decide +kernel
theorem dX2_meanError_78 : decode cX2_meanError 78 = .ok (.ifCond .ne 8, 3) := by decide +kernel
theorem dX2_meanError_81 : decode cX2_meanError 81 = .ok (.ldc 111, 2) := by decide +kernel
theorem dX2_meanError_83 : decode cX2_meanError 83 = .ok (.goto 8, 3) := by decide +kernel
theorem dX2_meanError_86 : decode cX2_meanError 86 = .ok (.lload_n 1, 1) := by decide +kernel
theorem dX2_meanError_87 : decode cX2_meanError 87 = .ok (.iload_n 3, 1) := by decide +kernel
theorem dX2_meanError_88 : decode cX2_meanError 88 = .ok (.i2l, 1) := by decide +kernel
theorem dX2_meanError_89 : decode cX2_meanError 89 = .ok (.ldiv, 1) := by decide +kernel
theorem dX2_meanError_90 : decode cX2_meanError 90 = .ok (.l2i, 1) := by decide +kernel
theorem dX2_meanError_91 : decode cX2_meanError 91 = .ok (.ireturn, 1) := by decide +kernel
set_option maxRecDepth 20000 in
theorem ggX2_worstPair_X2_cell : GoodIn wsX2_worstPair wsX2_cell := goodIn_r _ [6] (by decide +kernel) (by decide +kernel)
set_option maxRecDepth 20000 in
theorem gX2_worstPair_X2_cell : GoodIn wsX2_worstPair (va_wsS RX2 46 yX2_cell wsX2_cell) := goodIn_app (goodIn_of _ (by decide +kernel)) ggX2_worstPair_X2_cell
set_option maxRecDepth 20000 in
theorem ggX2_worstPair_X2_errorOf : GoodIn wsX2_worstPair wsX2_errorOf := goodIn_r _ [10, 2, 11, 3, 4, 5, 6, 12, 13, 14, 15, 16, 17, 18, 19, 20, 21, 22, 23, 24, 25, 26, 27, 28, 29, 30, 31, 32, 33, 34, 35, 36, 37] (by decide +kernel) (by decide +kernel)
set_option maxRecDepth 20000 in
theorem gX2_worstPair_X2_errorOf : GoodIn wsX2_worstPair (wsV RX2 108 RX2 yX2_errorOf wsX2_errorOf) := goodIn_app (goodIn_of _ (by decide +kernel)) ggX2_worstPair_X2_errorOf
theorem dX2_worstPair_0 : decode cX2_worstPair 0 = .ok (.ldc 111, 2) := by decide +kernel
theorem dX2_worstPair_2 : decode cX2_worstPair 2 = .ok (.istore_n 1, 1) := by decide +kernel
theorem dX2_worstPair_3 : decode cX2_worstPair 3 = .ok (.iconst (-1), 1) := by decide +kernel
theorem dX2_worstPair_4 : decode cX2_worstPair 4 = .ok (.istore_n 2, 1) := by decide +kernel
theorem dX2_worstPair_5 : decode cX2_worstPair 5 = .ok (.iconst 0, 1) := by decide +kernel
theorem dX2_worstPair_6 : decode cX2_worstPair 6 = .ok (.istore_n 3, 1) := by decide +kernel
theorem dX2_worstPair_7 : decode cX2_worstPair 7 = .ok (.iload_n 3, 1) := by decide +kernel
theorem dX2_worstPair_8 : decode cX2_worstPair 8 = .ok (.aload_n 0, 1) := by decide +kernel
theorem dX2_worstPair_9 : decode cX2_worstPair 9 = .ok (.getfield 7, 3) := by decide +kernel
theorem dX2_worstPair_12 : decode cX2_worstPair 12 = .ok (.iconst 0, 1) := by decide +kernel
theorem dX2_worstPair_13 : decode cX2_worstPair 13 = .ok (.iaload, 1) := by decide +kernel
theorem dX2_worstPair_14 : decode cX2_worstPair 14 = .ok (.if_icmp .ge 72, 3) := by decide +kernel
theorem dX2_worstPair_17 : decode cX2_worstPair 17 = .ok (.iload_n 3, 1) := by decide +kernel
theorem dX2_worstPair_18 : decode cX2_worstPair 18 = .ok (.iconst 1, 1) := by decide +kernel
theorem dX2_worstPair_19 : decode cX2_worstPair 19 = .ok (.iadd, 1) := by decide +kernel
theorem dX2_worstPair_20 : decode cX2_worstPair 20 = .ok (.istore 4, 2) := by decide +kernel
theorem dX2_worstPair_22 : decode cX2_worstPair 22 = .ok (.iload 4, 2) := by decide +kernel
theorem dX2_worstPair_24 : decode cX2_worstPair 24 = .ok (.aload_n 0, 1) := by decide +kernel
theorem dX2_worstPair_25 : decode cX2_worstPair 25 = .ok (.getfield 7, 3) := by decide +kernel
theorem dX2_worstPair_28 : decode cX2_worstPair 28 = .ok (.iconst 0, 1) := by decide +kernel
theorem dX2_worstPair_29 : decode cX2_worstPair 29 = .ok (.iaload, 1) := by decide +kernel
theorem dX2_worstPair_30 : decode cX2_worstPair 30 = .ok (.if_icmp .ge 50, 3) := by decide +kernel
theorem dX2_worstPair_33 : decode cX2_worstPair 33 = .ok (.aload_n 0, 1) := by decide +kernel
theorem dX2_worstPair_34 : decode cX2_worstPair 34 = .ok (.getfield 7, 3) := by decide +kernel
theorem dX2_worstPair_37 : decode cX2_worstPair 37 = .ok (.iload_n 3, 1) := by decide +kernel
theorem dX2_worstPair_38 : decode cX2_worstPair 38 = .ok (.iload 4, 2) := by decide +kernel
theorem dX2_worstPair_40 : decode cX2_worstPair 40 = .ok (.invokestatic 46, 3) := by decide +kernel
theorem dX2_worstPair_43 : decode cX2_worstPair 43 = .ok (.iaload, 1) := by decide +kernel
theorem dX2_worstPair_44 : decode cX2_worstPair 44 = .ok (.ifCond .le 30, 3) := by decide +kernel
theorem dX2_worstPair_47 : decode cX2_worstPair 47 = .ok (.aload_n 0, 1) := by decide +kernel
theorem dX2_worstPair_48 : decode cX2_worstPair 48 = .ok (.iload_n 3, 1) := by decide +kernel
theorem dX2_worstPair_49 : decode cX2_worstPair 49 = .ok (.iload 4, 2) := by decide +kernel
theorem dX2_worstPair_51 : decode cX2_worstPair 51 = .ok (.invokevirtual 108, 3) := by decide +kernel
theorem dX2_worstPair_54 : decode cX2_worstPair 54 = .ok (.iload_n 2, 1) := by decide +kernel
theorem dX2_worstPair_55 : decode cX2_worstPair 55 = .ok (.if_icmp .le 19, 3) := by decide +kernel
theorem dX2_worstPair_58 : decode cX2_worstPair 58 = .ok (.aload_n 0, 1) := by decide +kernel
theorem dX2_worstPair_59 : decode cX2_worstPair 59 = .ok (.iload_n 3, 1) := by decide +kernel
theorem dX2_worstPair_60 : decode cX2_worstPair 60 = .ok (.iload 4, 2) := by decide +kernel
theorem dX2_worstPair_62 : decode cX2_worstPair 62 = .ok (.invokevirtual 108, 3) := by decide +kernel
theorem dX2_worstPair_65 : decode cX2_worstPair 65 = .ok (.istore_n 2, 1) := by decide +kernel
theorem dX2_worstPair_66 : decode cX2_worstPair 66 = .ok (.bipush 10, 2) := by decide +kernel
theorem dX2_worstPair_68 : decode cX2_worstPair 68 = .ok (.iload_n 3, 1) := by decide +kernel
theorem dX2_worstPair_69 : decode cX2_worstPair 69 = .ok (.imul, 1) := by decide +kernel
theorem dX2_worstPair_70 : decode cX2_worstPair 70 = .ok (.iload 4, 2) := by decide +kernel
theorem dX2_worstPair_72 : decode cX2_worstPair 72 = .ok (.iadd, 1) := by decide +kernel
theorem dX2_worstPair_73 : decode cX2_worstPair 73 = .ok (.istore_n 1, 1) := by decide +kernel
theorem dX2_worstPair_74 : decode cX2_worstPair 74 = .ok (.iinc 4 1, 3) := by decide +kernel
theorem dX2_worstPair_77 : decode cX2_worstPair 77 = .ok (.goto (-55), 3) := by decide +kernel
theorem dX2_worstPair_80 : decode cX2_worstPair 80 = .ok (.iinc 3 1, 3) := by decide +kernel
theorem dX2_worstPair_83 : decode cX2_worstPair 83 = .ok (.goto (-76), 3) := by decide +kernel
theorem dX2_worstPair_86 : decode cX2_worstPair 86 = .ok (.iload_n 1, 1) := by decide +kernel
theorem dX2_worstPair_87 : decode cX2_worstPair 87 = .ok (.ireturn, 1) := by decide +kernel
set_option maxRecDepth 20000 in
theorem ggX2_relativeError_X2_wrongKnown : GoodIn wsX2_relativeError wsX2_wrongKnown := goodIn_r _ [5, 6, 7, 8, 9, 10, 4, 11, 12, 13, 14, 15, 16, 17, 18, 19, 20, 21, 22, 23, 44, 45, 46, 47, 48, 49, 50, 51, 52, 53, 54] (by decide +kernel) (by decide +kernel)
set_option maxRecDepth 20000 in
theorem gX2_relativeError_X2_wrongKnown : GoodIn wsX2_relativeError (wsV RX2 53 RX2 yX2_wrongKnown wsX2_wrongKnown) := goodIn_app (goodIn_of _ (by decide +kernel)) ggX2_relativeError_X2_wrongKnown
set_option maxRecDepth 20000 in
theorem ggX2_relativeError_X2_errorOf : GoodIn wsX2_relativeError wsX2_errorOf := goodIn_r _ [27, 6, 28, 21, 22, 4, 23, 29, 30, 31, 32, 33, 34, 35, 36, 37, 38, 39, 40, 41, 42, 43, 44, 45, 46, 47, 48, 49, 50, 51, 52, 53, 54] (by decide +kernel) (by decide +kernel)
set_option maxRecDepth 20000 in
theorem gX2_relativeError_X2_errorOf : GoodIn wsX2_relativeError (wsV RX2 108 RX2 yX2_errorOf wsX2_errorOf) := goodIn_app (goodIn_of _ (by decide +kernel)) ggX2_relativeError_X2_errorOf
theorem dX2_relativeError_0 : decode cX2_relativeError 0 = .ok (.aload_n 0, 1) := by decide +kernel
theorem dX2_relativeError_1 : decode cX2_relativeError 1 = .ok (.iload_n 1, 1) := by decide +kernel
theorem dX2_relativeError_2 : decode cX2_relativeError 2 = .ok (.iload_n 2, 1) := by decide +kernel
theorem dX2_relativeError_3 : decode cX2_relativeError 3 = .ok (.invokevirtual 53, 3) := by decide +kernel
theorem dX2_relativeError_6 : decode cX2_relativeError 6 = .ok (.istore_n 3, 1) := by decide +kernel
theorem dX2_relativeError_7 : decode cX2_relativeError 7 = .ok (.iload_n 3, 1) := by decide +kernel
theorem dX2_relativeError_8 : decode cX2_relativeError 8 = .ok (.ifCond .eq 7, 3) := by decide +kernel
theorem dX2_relativeError_11 : decode cX2_relativeError 11 = .ok (.iload_n 3, 1) := by decide +kernel
theorem dX2_relativeError_12 : decode cX2_relativeError 12 = .ok (.goto 9, 3) := by decide +kernel
theorem dX2_relativeError_15 : decode cX2_relativeError 15 = .ok (.aload_n 0, 1) := by decide +kernel
theorem dX2_relativeError_16 : decode cX2_relativeError 16 = .ok (.iload_n 1, 1) := by decide +kernel
theorem dX2_relativeError_17 : decode cX2_relativeError 17 = .ok (.iload_n 2, 1) := by decide +kernel
theorem dX2_relativeError_18 : decode cX2_relativeError 18 = .ok (.invokevirtual 108, 3) := by decide +kernel
theorem dX2_relativeError_21 : decode cX2_relativeError 21 = .ok (.ireturn, 1) := by decide +kernel
set_option maxRecDepth 20000 in
theorem ggX2_rankOf_X2_predicted : GoodIn wsX2_rankOf wsX2_predicted := goodIn_r _ [6, 1, 7, 8, 5, 9, 10, 11, 12, 13, 14, 15, 16, 17, 18, 19, 20, 21, 22, 23, 24, 25] (by decide +kernel) (by decide +kernel)
set_option maxRecDepth 20000 in
theorem gX2_rankOf_X2_predicted : GoodIn wsX2_rankOf (wsV RX2 69 RX2 yX2_predicted wsX2_predicted) := goodIn_app (goodIn_of _ (by decide +kernel)) ggX2_rankOf_X2_predicted
theorem dX2_rankOf_0 : decode cX2_rankOf 0 = .ok (.iconst 0, 1) := by decide +kernel
theorem dX2_rankOf_1 : decode cX2_rankOf 1 = .ok (.istore_n 3, 1) := by decide +kernel
theorem dX2_rankOf_2 : decode cX2_rankOf 2 = .ok (.aload_n 0, 1) := by decide +kernel
theorem dX2_rankOf_3 : decode cX2_rankOf 3 = .ok (.iload_n 1, 1) := by decide +kernel
theorem dX2_rankOf_4 : decode cX2_rankOf 4 = .ok (.iload_n 2, 1) := by decide +kernel
theorem dX2_rankOf_5 : decode cX2_rankOf 5 = .ok (.invokevirtual 69, 3) := by decide +kernel
theorem dX2_rankOf_8 : decode cX2_rankOf 8 = .ok (.istore 4, 2) := by decide +kernel
theorem dX2_rankOf_10 : decode cX2_rankOf 10 = .ok (.iconst 0, 1) := by decide +kernel
theorem dX2_rankOf_11 : decode cX2_rankOf 11 = .ok (.istore 5, 2) := by decide +kernel
theorem dX2_rankOf_13 : decode cX2_rankOf 13 = .ok (.iload 5, 2) := by decide +kernel
theorem dX2_rankOf_15 : decode cX2_rankOf 15 = .ok (.aload_n 0, 1) := by decide +kernel
theorem dX2_rankOf_16 : decode cX2_rankOf 16 = .ok (.getfield 7, 3) := by decide +kernel
theorem dX2_rankOf_19 : decode cX2_rankOf 19 = .ok (.iconst 0, 1) := by decide +kernel
theorem dX2_rankOf_20 : decode cX2_rankOf 20 = .ok (.iaload, 1) := by decide +kernel
theorem dX2_rankOf_21 : decode cX2_rankOf 21 = .ok (.if_icmp .ge 58, 3) := by decide +kernel
theorem dX2_rankOf_24 : decode cX2_rankOf 24 = .ok (.iload 5, 2) := by decide +kernel
theorem dX2_rankOf_26 : decode cX2_rankOf 26 = .ok (.iload_n 1, 1) := by decide +kernel
theorem dX2_rankOf_27 : decode cX2_rankOf 27 = .ok (.if_icmp .eq 46, 3) := by decide +kernel
theorem dX2_rankOf_30 : decode cX2_rankOf 30 = .ok (.iload 5, 2) := by decide +kernel
theorem dX2_rankOf_32 : decode cX2_rankOf 32 = .ok (.iload_n 2, 1) := by decide +kernel
theorem dX2_rankOf_33 : decode cX2_rankOf 33 = .ok (.if_icmp .eq 40, 3) := by decide +kernel
theorem dX2_rankOf_36 : decode cX2_rankOf 36 = .ok (.aload_n 0, 1) := by decide +kernel
theorem dX2_rankOf_37 : decode cX2_rankOf 37 = .ok (.iload_n 1, 1) := by decide +kernel
theorem dX2_rankOf_38 : decode cX2_rankOf 38 = .ok (.iload 5, 2) := by decide +kernel
theorem dX2_rankOf_40 : decode cX2_rankOf 40 = .ok (.invokevirtual 69, 3) := by decide +kernel
theorem dX2_rankOf_43 : decode cX2_rankOf 43 = .ok (.istore 6, 2) := by decide +kernel
theorem dX2_rankOf_45 : decode cX2_rankOf 45 = .ok (.iload_n 3, 1) := by decide +kernel
theorem dX2_rankOf_46 : decode cX2_rankOf 46 = .ok (.iload 6, 2) := by decide +kernel
theorem dX2_rankOf_48 : decode cX2_rankOf 48 = .ok (.iload 4, 2) := by decide +kernel
theorem dX2_rankOf_50 : decode cX2_rankOf 50 = .ok (.if_icmp .lt 16, 3) := by decide +kernel
theorem dX2_rankOf_53 : decode cX2_rankOf 53 = .ok (.iload 6, 2) := by decide +kernel
theorem dX2_rankOf_55 : decode cX2_rankOf 55 = .ok (.iload 4, 2) := by decide +kernel
theorem dX2_rankOf_57 : decode cX2_rankOf 57 = .ok (.if_icmp .ne 13, 3) := by decide +kernel
theorem dX2_rankOf_60 : decode cX2_rankOf 60 = .ok (.iload 5, 2) := by decide +kernel
theorem dX2_rankOf_62 : decode cX2_rankOf 62 = .ok (.iload_n 2, 1) := by decide +kernel
theorem dX2_rankOf_63 : decode cX2_rankOf 63 = .ok (.if_icmp .ge 7, 3) := by decide +kernel
theorem dX2_rankOf_66 : decode cX2_rankOf 66 = .ok (.iconst 1, 1) := by decide +kernel
theorem dX2_rankOf_67 : decode cX2_rankOf 67 = .ok (.goto 4, 3) := by decide +kernel
theorem dX2_rankOf_70 : decode cX2_rankOf 70 = .ok (.iconst 0, 1) := by decide +kernel
theorem dX2_rankOf_71 : decode cX2_rankOf 71 = .ok (.iadd, 1) := by decide +kernel
theorem dX2_rankOf_72 : decode cX2_rankOf 72 = .ok (.istore_n 3, 1) := by decide +kernel
theorem dX2_rankOf_73 : decode cX2_rankOf 73 = .ok (.iinc 5 1, 3) := by decide +kernel
theorem dX2_rankOf_76 : decode cX2_rankOf 76 = .ok (.goto (-63), 3) := by decide +kernel
theorem dX2_rankOf_79 : decode cX2_rankOf 79 = .ok (.iload_n 3, 1) := by decide +kernel
theorem dX2_rankOf_80 : decode cX2_rankOf 80 = .ok (.ireturn, 1) := by decide +kernel
set_option maxRecDepth 20000 in
theorem ggX2_nearest_X2_isNode : GoodIn wsX2_nearest wsX2_isNode := goodIn_r _ [8, 2, 9, 10, 7, 11, 28, 29, 30, 31, 32, 33, 34, 35, 36, 37, 38] (by decide +kernel) (by decide +kernel)
set_option maxRecDepth 20000 in
theorem gX2_nearest_X2_isNode : GoodIn wsX2_nearest (wsV RX2 36 RX2 yX2_isNode wsX2_isNode) := goodIn_app (goodIn_of _ (by decide +kernel)) ggX2_nearest_X2_isNode
set_option maxRecDepth 20000 in
theorem ggX2_nearest_X2_in : GoodIn wsX2_nearest wsX2_in := goodIn_r _ [11] (by decide +kernel) (by decide +kernel)
set_option maxRecDepth 20000 in
theorem gX2_nearest_X2_in : GoodIn wsX2_nearest (va_wsS RX2 27 yX2_in wsX2_in) := goodIn_app (goodIn_of _ (by decide +kernel)) ggX2_nearest_X2_in
set_option maxRecDepth 20000 in
theorem ggX2_nearest_X2_rankOf : GoodIn wsX2_nearest wsX2_rankOf := goodIn_r _ [15, 2, 16, 17, 18, 7, 19, 20, 21, 22, 23, 24, 25, 26, 27, 28, 29, 30, 31, 32, 33, 34, 35, 36, 37, 38] (by decide +kernel) (by decide +kernel)
set_option maxRecDepth 20000 in
theorem gX2_nearest_X2_rankOf : GoodIn wsX2_nearest (wsV RX2 112 RX2 yX2_rankOf wsX2_rankOf) := goodIn_app (goodIn_of _ (by decide +kernel)) ggX2_nearest_X2_rankOf
theorem dX2_nearest_0 : decode cX2_nearest 0 = .ok (.aload_n 0, 1) := by decide +kernel
theorem dX2_nearest_1 : decode cX2_nearest 1 = .ok (.iload_n 1, 1) := by decide +kernel
theorem dX2_nearest_2 : decode cX2_nearest 2 = .ok (.invokevirtual 36, 3) := by decide +kernel
theorem dX2_nearest_5 : decode cX2_nearest 5 = .ok (.ifCond .ne 6, 3) := by decide +kernel
theorem dX2_nearest_8 : decode cX2_nearest 8 = .ok (.ldc 40, 2) := by decide +kernel
theorem dX2_nearest_10 : decode cX2_nearest 10 = .ok (.ireturn, 1) := by decide +kernel
theorem dX2_nearest_11 : decode cX2_nearest 11 = .ok (.iload_n 2, 1) := by decide +kernel
theorem dX2_nearest_12 : decode cX2_nearest 12 = .ok (.iconst 0, 1) := by decide +kernel
theorem dX2_nearest_13 : decode cX2_nearest 13 = .ok (.aload_n 0, 1) := by decide +kernel
theorem dX2_nearest_14 : decode cX2_nearest 14 = .ok (.getfield 7, 3) := by decide +kernel
theorem dX2_nearest_17 : decode cX2_nearest 17 = .ok (.iconst 0, 1) := by decide +kernel
theorem dX2_nearest_18 : decode cX2_nearest 18 = .ok (.iaload, 1) := by decide +kernel
theorem dX2_nearest_19 : decode cX2_nearest 19 = .ok (.iconst 2, 1) := by decide +kernel
theorem dX2_nearest_20 : decode cX2_nearest 20 = .ok (.isub, 1) := by decide +kernel
theorem dX2_nearest_21 : decode cX2_nearest 21 = .ok (.invokestatic 27, 3) := by decide +kernel
theorem dX2_nearest_24 : decode cX2_nearest 24 = .ok (.ifCond .ne 6, 3) := by decide +kernel
theorem dX2_nearest_27 : decode cX2_nearest 27 = .ok (.ldc 35, 2) := by decide +kernel
theorem dX2_nearest_29 : decode cX2_nearest 29 = .ok (.ireturn, 1) := by decide +kernel
theorem dX2_nearest_30 : decode cX2_nearest 30 = .ok (.iload_n 1, 1) := by decide +kernel
theorem dX2_nearest_31 : decode cX2_nearest 31 = .ok (.istore_n 3, 1) := by decide +kernel
theorem dX2_nearest_32 : decode cX2_nearest 32 = .ok (.iconst 0, 1) := by decide +kernel
theorem dX2_nearest_33 : decode cX2_nearest 33 = .ok (.istore 4, 2) := by decide +kernel
theorem dX2_nearest_35 : decode cX2_nearest 35 = .ok (.iload 4, 2) := by decide +kernel
theorem dX2_nearest_37 : decode cX2_nearest 37 = .ok (.aload_n 0, 1) := by decide +kernel
theorem dX2_nearest_38 : decode cX2_nearest 38 = .ok (.getfield 7, 3) := by decide +kernel
theorem dX2_nearest_41 : decode cX2_nearest 41 = .ok (.iconst 0, 1) := by decide +kernel
theorem dX2_nearest_42 : decode cX2_nearest 42 = .ok (.iaload, 1) := by decide +kernel
theorem dX2_nearest_43 : decode cX2_nearest 43 = .ok (.if_icmp .ge 33, 3) := by decide +kernel
theorem dX2_nearest_46 : decode cX2_nearest 46 = .ok (.iload 4, 2) := by decide +kernel
theorem dX2_nearest_48 : decode cX2_nearest 48 = .ok (.iload_n 1, 1) := by decide +kernel
theorem dX2_nearest_49 : decode cX2_nearest 49 = .ok (.if_icmp .eq 19, 3) := by decide +kernel
theorem dX2_nearest_52 : decode cX2_nearest 52 = .ok (.aload_n 0, 1) := by decide +kernel
theorem dX2_nearest_53 : decode cX2_nearest 53 = .ok (.iload_n 1, 1) := by decide +kernel
theorem dX2_nearest_54 : decode cX2_nearest 54 = .ok (.iload 4, 2) := by decide +kernel
theorem dX2_nearest_56 : decode cX2_nearest 56 = .ok (.invokevirtual 112, 3) := by decide +kernel
theorem dX2_nearest_59 : decode cX2_nearest 59 = .ok (.iload_n 2, 1) := by decide +kernel
theorem dX2_nearest_60 : decode cX2_nearest 60 = .ok (.if_icmp .ne 8, 3) := by decide +kernel
theorem dX2_nearest_63 : decode cX2_nearest 63 = .ok (.iload 4, 2) := by decide +kernel
theorem dX2_nearest_65 : decode cX2_nearest 65 = .ok (.goto 4, 3) := by decide +kernel
theorem dX2_nearest_68 : decode cX2_nearest 68 = .ok (.iload_n 3, 1) := by decide +kernel
theorem dX2_nearest_69 : decode cX2_nearest 69 = .ok (.istore_n 3, 1) := by decide +kernel
theorem dX2_nearest_70 : decode cX2_nearest 70 = .ok (.iinc 4 1, 3) := by decide +kernel
theorem dX2_nearest_73 : decode cX2_nearest 73 = .ok (.goto (-38), 3) := by decide +kernel
theorem dX2_nearest_76 : decode cX2_nearest 76 = .ok (.iload_n 3, 1) := by decide +kernel
theorem dX2_nearest_77 : decode cX2_nearest 77 = .ok (.ireturn, 1) := by decide +kernel
set_option maxRecDepth 20000 in
theorem ggX2_relay_X2_wrongPair : GoodIn wsX2_relay wsX2_wrongPair := goodIn_r _ [7, 8, 9, 10, 11, 12, 6, 13, 2, 14, 15, 16, 29, 30, 31, 32, 33, 34, 35, 36, 37, 38, 39] (by decide +kernel) (by decide +kernel)
set_option maxRecDepth 20000 in
theorem gX2_relay_X2_wrongPair : GoodIn wsX2_relay (wsV RX2 42 RX2 yX2_wrongPair wsX2_wrongPair) := goodIn_app (goodIn_of _ (by decide +kernel)) ggX2_relay_X2_wrongPair
set_option maxRecDepth 20000 in
theorem ggX2_relay_X2_predicted : GoodIn wsX2_relay wsX2_predicted := goodIn_r _ [20, 2, 21, 22, 6, 23, 24, 25, 26, 27, 28, 29, 30, 31, 32, 33, 34, 35, 36, 37, 38, 39] (by decide +kernel) (by decide +kernel)
set_option maxRecDepth 20000 in
theorem gX2_relay_X2_predicted : GoodIn wsX2_relay (wsV RX2 69 RX2 yX2_predicted wsX2_predicted) := goodIn_app (goodIn_of _ (by decide +kernel)) ggX2_relay_X2_predicted
theorem dX2_relay_0 : decode cX2_relay 0 = .ok (.aload_n 0, 1) := by decide +kernel
theorem dX2_relay_1 : decode cX2_relay 1 = .ok (.iload_n 1, 1) := by decide +kernel
theorem dX2_relay_2 : decode cX2_relay 2 = .ok (.iload_n 2, 1) := by decide +kernel
theorem dX2_relay_3 : decode cX2_relay 3 = .ok (.invokevirtual 42, 3) := by decide +kernel
theorem dX2_relay_6 : decode cX2_relay 6 = .ok (.istore_n 3, 1) := by decide +kernel
theorem dX2_relay_7 : decode cX2_relay 7 = .ok (.iload_n 3, 1) := by decide +kernel
theorem dX2_relay_8 : decode cX2_relay 8 = .ok (.ifCond .eq 5, 3) := by decide +kernel
theorem dX2_relay_11 : decode cX2_relay 11 = .ok (.iload_n 3, 1) := by decide +kernel
theorem dX2_relay_12 : decode cX2_relay 12 = .ok (.ireturn, 1) := by decide +kernel
theorem dX2_relay_13 : decode cX2_relay 13 = .ok (.ldc 111, 2) := by decide +kernel
theorem dX2_relay_15 : decode cX2_relay 15 = .ok (.istore 4, 2) := by decide +kernel
theorem dX2_relay_17 : decode cX2_relay 17 = .ok (.iconst 0, 1) := by decide +kernel
theorem dX2_relay_18 : decode cX2_relay 18 = .ok (.istore 5, 2) := by decide +kernel
theorem dX2_relay_20 : decode cX2_relay 20 = .ok (.iconst 0, 1) := by decide +kernel
theorem dX2_relay_21 : decode cX2_relay 21 = .ok (.istore 6, 2) := by decide +kernel
theorem dX2_relay_23 : decode cX2_relay 23 = .ok (.iload 6, 2) := by decide +kernel
theorem dX2_relay_25 : decode cX2_relay 25 = .ok (.aload_n 0, 1) := by decide +kernel
theorem dX2_relay_26 : decode cX2_relay 26 = .ok (.getfield 7, 3) := by decide +kernel
theorem dX2_relay_29 : decode cX2_relay 29 = .ok (.iconst 0, 1) := by decide +kernel
theorem dX2_relay_30 : decode cX2_relay 30 = .ok (.iaload, 1) := by decide +kernel
theorem dX2_relay_31 : decode cX2_relay 31 = .ok (.if_icmp .ge 58, 3) := by decide +kernel
theorem dX2_relay_34 : decode cX2_relay 34 = .ok (.iload 6, 2) := by decide +kernel
theorem dX2_relay_36 : decode cX2_relay 36 = .ok (.iload_n 1, 1) := by decide +kernel
theorem dX2_relay_37 : decode cX2_relay 37 = .ok (.if_icmp .eq 46, 3) := by decide +kernel
theorem dX2_relay_40 : decode cX2_relay 40 = .ok (.iload 6, 2) := by decide +kernel
theorem dX2_relay_42 : decode cX2_relay 42 = .ok (.iload_n 2, 1) := by decide +kernel
theorem dX2_relay_43 : decode cX2_relay 43 = .ok (.if_icmp .eq 40, 3) := by decide +kernel
theorem dX2_relay_46 : decode cX2_relay 46 = .ok (.aload_n 0, 1) := by decide +kernel
theorem dX2_relay_47 : decode cX2_relay 47 = .ok (.iload_n 1, 1) := by decide +kernel
theorem dX2_relay_48 : decode cX2_relay 48 = .ok (.iload 6, 2) := by decide +kernel
theorem dX2_relay_50 : decode cX2_relay 50 = .ok (.invokevirtual 69, 3) := by decide +kernel
theorem dX2_relay_53 : decode cX2_relay 53 = .ok (.aload_n 0, 1) := by decide +kernel
theorem dX2_relay_54 : decode cX2_relay 54 = .ok (.iload 6, 2) := by decide +kernel
theorem dX2_relay_56 : decode cX2_relay 56 = .ok (.iload_n 2, 1) := by decide +kernel
theorem dX2_relay_57 : decode cX2_relay 57 = .ok (.invokevirtual 69, 3) := by decide +kernel
theorem dX2_relay_60 : decode cX2_relay 60 = .ok (.iadd, 1) := by decide +kernel
theorem dX2_relay_61 : decode cX2_relay 61 = .ok (.istore 7, 2) := by decide +kernel
theorem dX2_relay_63 : decode cX2_relay 63 = .ok (.iload 4, 2) := by decide +kernel
theorem dX2_relay_65 : decode cX2_relay 65 = .ok (.ifCond .lt 10, 3) := by decide +kernel
theorem dX2_relay_68 : decode cX2_relay 68 = .ok (.iload 7, 2) := by decide +kernel
theorem dX2_relay_70 : decode cX2_relay 70 = .ok (.iload 5, 2) := by decide +kernel
theorem dX2_relay_72 : decode cX2_relay 72 = .ok (.if_icmp .ge 11, 3) := by decide +kernel
theorem dX2_relay_75 : decode cX2_relay 75 = .ok (.iload 6, 2) := by decide +kernel
theorem dX2_relay_77 : decode cX2_relay 77 = .ok (.istore 4, 2) := by decide +kernel
theorem dX2_relay_79 : decode cX2_relay 79 = .ok (.iload 7, 2) := by decide +kernel
theorem dX2_relay_81 : decode cX2_relay 81 = .ok (.istore 5, 2) := by decide +kernel
theorem dX2_relay_83 : decode cX2_relay 83 = .ok (.iinc 6 1, 3) := by decide +kernel
theorem dX2_relay_86 : decode cX2_relay 86 = .ok (.goto (-63), 3) := by decide +kernel
theorem dX2_relay_89 : decode cX2_relay 89 = .ok (.iload 4, 2) := by decide +kernel
theorem dX2_relay_91 : decode cX2_relay 91 = .ok (.ireturn, 1) := by decide +kernel
set_option maxRecDepth 20000 in
theorem ggX2_isTriangle_X2_cell : GoodIn wsX2_isTriangle wsX2_cell := goodIn_r _ [5] (by decide +kernel) (by decide +kernel)
set_option maxRecDepth 20000 in
theorem gX2_isTriangle_X2_cell : GoodIn wsX2_isTriangle (va_wsS RX2 46 yX2_cell wsX2_cell) := goodIn_app (goodIn_of _ (by decide +kernel)) ggX2_isTriangle_X2_cell
theorem dX2_isTriangle_0 : decode cX2_isTriangle 0 = .ok (.aload_n 0, 1) := by decide +kernel
theorem dX2_isTriangle_1 : decode cX2_isTriangle 1 = .ok (.getfield 7, 3) := by decide +kernel
theorem dX2_isTriangle_4 : decode cX2_isTriangle 4 = .ok (.iload_n 1, 1) := by decide +kernel
theorem dX2_isTriangle_5 : decode cX2_isTriangle 5 = .ok (.iload_n 2, 1) := by decide +kernel
theorem dX2_isTriangle_6 : decode cX2_isTriangle 6 = .ok (.invokestatic 46, 3) := by decide +kernel
theorem dX2_isTriangle_9 : decode cX2_isTriangle 9 = .ok (.iaload, 1) := by decide +kernel
theorem dX2_isTriangle_10 : decode cX2_isTriangle 10 = .ok (.ifCond .le 33, 3) := by decide +kernel
theorem dX2_isTriangle_13 : decode cX2_isTriangle 13 = .ok (.aload_n 0, 1) := by decide +kernel
theorem dX2_isTriangle_14 : decode cX2_isTriangle 14 = .ok (.getfield 7, 3) := by decide +kernel
theorem dX2_isTriangle_17 : decode cX2_isTriangle 17 = .ok (.iload_n 1, 1) := by decide +kernel
theorem dX2_isTriangle_18 : decode cX2_isTriangle 18 = .ok (.iload_n 3, 1) := by decide +kernel
theorem dX2_isTriangle_19 : decode cX2_isTriangle 19 = .ok (.invokestatic 46, 3) := by decide +kernel
theorem dX2_isTriangle_22 : decode cX2_isTriangle 22 = .ok (.iaload, 1) := by decide +kernel
theorem dX2_isTriangle_23 : decode cX2_isTriangle 23 = .ok (.ifCond .le 20, 3) := by decide +kernel
theorem dX2_isTriangle_26 : decode cX2_isTriangle 26 = .ok (.aload_n 0, 1) := by decide +kernel
theorem dX2_isTriangle_27 : decode cX2_isTriangle 27 = .ok (.getfield 7, 3) := by decide +kernel
theorem dX2_isTriangle_30 : decode cX2_isTriangle 30 = .ok (.iload_n 2, 1) := by decide +kernel
theorem dX2_isTriangle_31 : decode cX2_isTriangle 31 = .ok (.iload_n 3, 1) := by decide +kernel
theorem dX2_isTriangle_32 : decode cX2_isTriangle 32 = .ok (.invokestatic 46, 3) := by decide +kernel
theorem dX2_isTriangle_35 : decode cX2_isTriangle 35 = .ok (.iaload, 1) := by decide +kernel
theorem dX2_isTriangle_36 : decode cX2_isTriangle 36 = .ok (.ifCond .le 7, 3) := by decide +kernel
theorem dX2_isTriangle_39 : decode cX2_isTriangle 39 = .ok (.iconst 1, 1) := by decide +kernel
theorem dX2_isTriangle_40 : decode cX2_isTriangle 40 = .ok (.goto 4, 3) := by decide +kernel
theorem dX2_isTriangle_43 : decode cX2_isTriangle 43 = .ok (.iconst 0, 1) := by decide +kernel
theorem dX2_isTriangle_44 : decode cX2_isTriangle 44 = .ok (.ireturn, 1) := by decide +kernel
set_option maxRecDepth 20000 in
theorem ggX2_excess_X2_cell : GoodIn wsX2_excess wsX2_cell := goodIn_r _ [5] (by decide +kernel) (by decide +kernel)
set_option maxRecDepth 20000 in
theorem gX2_excess_X2_cell : GoodIn wsX2_excess (va_wsS RX2 46 yX2_cell wsX2_cell) := goodIn_app (goodIn_of _ (by decide +kernel)) ggX2_excess_X2_cell
theorem dX2_excess_0 : decode cX2_excess 0 = .ok (.aload_n 0, 1) := by decide +kernel
theorem dX2_excess_1 : decode cX2_excess 1 = .ok (.getfield 7, 3) := by decide +kernel
theorem dX2_excess_4 : decode cX2_excess 4 = .ok (.iload_n 1, 1) := by decide +kernel
theorem dX2_excess_5 : decode cX2_excess 5 = .ok (.iload_n 2, 1) := by decide +kernel
theorem dX2_excess_6 : decode cX2_excess 6 = .ok (.invokestatic 46, 3) := by decide +kernel
theorem dX2_excess_9 : decode cX2_excess 9 = .ok (.iaload, 1) := by decide +kernel
theorem dX2_excess_10 : decode cX2_excess 10 = .ok (.istore 4, 2) := by decide +kernel
theorem dX2_excess_12 : decode cX2_excess 12 = .ok (.aload_n 0, 1) := by decide +kernel
theorem dX2_excess_13 : decode cX2_excess 13 = .ok (.getfield 7, 3) := by decide +kernel
theorem dX2_excess_16 : decode cX2_excess 16 = .ok (.iload_n 1, 1) := by decide +kernel
theorem dX2_excess_17 : decode cX2_excess 17 = .ok (.iload_n 3, 1) := by decide +kernel
theorem dX2_excess_18 : decode cX2_excess 18 = .ok (.invokestatic 46, 3) := by decide +kernel
theorem dX2_excess_21 : decode cX2_excess 21 = .ok (.iaload, 1) := by decide +kernel
theorem dX2_excess_22 : decode cX2_excess 22 = .ok (.istore 5, 2) := by decide +kernel
theorem dX2_excess_24 : decode cX2_excess 24 = .ok (.aload_n 0, 1) := by decide +kernel
theorem dX2_excess_25 : decode cX2_excess 25 = .ok (.getfield 7, 3) := by decide +kernel
theorem dX2_excess_28 : decode cX2_excess 28 = .ok (.iload_n 2, 1) := by decide +kernel
theorem dX2_excess_29 : decode cX2_excess 29 = .ok (.iload_n 3, 1) := by decide +kernel
theorem dX2_excess_30 : decode cX2_excess 30 = .ok (.invokestatic 46, 3) := by decide +kernel
theorem dX2_excess_33 : decode cX2_excess 33 = .ok (.iaload, 1) := by decide +kernel
theorem dX2_excess_34 : decode cX2_excess 34 = .ok (.istore 6, 2) := by decide +kernel
theorem dX2_excess_36 : decode cX2_excess 36 = .ok (.iload 4, 2) := by decide +kernel
theorem dX2_excess_38 : decode cX2_excess 38 = .ok (.iload 5, 2) := by decide +kernel
theorem dX2_excess_40 : decode cX2_excess 40 = .ok (.if_icmp .le 8, 3) := by decide +kernel
theorem dX2_excess_43 : decode cX2_excess 43 = .ok (.iload 4, 2) := by decide +kernel
theorem dX2_excess_45 : decode cX2_excess 45 = .ok (.goto 5, 3) := by decide +kernel
theorem dX2_excess_48 : decode cX2_excess 48 = .ok (.iload 5, 2) := by decide +kernel
theorem dX2_excess_50 : decode cX2_excess 50 = .ok (.istore 7, 2) := by decide +kernel
theorem dX2_excess_52 : decode cX2_excess 52 = .ok (.iload 6, 2) := by decide +kernel
theorem dX2_excess_54 : decode cX2_excess 54 = .ok (.iload 7, 2) := by decide +kernel
theorem dX2_excess_56 : decode cX2_excess 56 = .ok (.if_icmp .le 8, 3) := by decide +kernel
theorem dX2_excess_59 : decode cX2_excess 59 = .ok (.iload 6, 2) := by decide +kernel
theorem dX2_excess_61 : decode cX2_excess 61 = .ok (.goto 5, 3) := by decide +kernel
theorem dX2_excess_64 : decode cX2_excess 64 = .ok (.iload 7, 2) := by decide +kernel
theorem dX2_excess_66 : decode cX2_excess 66 = .ok (.istore 7, 2) := by decide +kernel
theorem dX2_excess_68 : decode cX2_excess 68 = .ok (.iconst 2, 1) := by decide +kernel
theorem dX2_excess_69 : decode cX2_excess 69 = .ok (.iload 7, 2) := by decide +kernel
theorem dX2_excess_71 : decode cX2_excess 71 = .ok (.imul, 1) := by decide +kernel
theorem dX2_excess_72 : decode cX2_excess 72 = .ok (.iload 4, 2) := by decide +kernel
theorem dX2_excess_74 : decode cX2_excess 74 = .ok (.isub, 1) := by decide +kernel
theorem dX2_excess_75 : decode cX2_excess 75 = .ok (.iload 5, 2) := by decide +kernel
theorem dX2_excess_77 : decode cX2_excess 77 = .ok (.isub, 1) := by decide +kernel
theorem dX2_excess_78 : decode cX2_excess 78 = .ok (.iload 6, 2) := by decide +kernel
theorem dX2_excess_80 : decode cX2_excess 80 = .ok (.isub, 1) := by decide +kernel
theorem dX2_excess_81 : decode cX2_excess 81 = .ok (.ireturn, 1) := by decide +kernel
set_option maxRecDepth 20000 in
theorem ggX2_countTriangle_X2_isTriangle : GoodIn wsX2_countTriangle wsX2_isTriangle := goodIn_r _ [9, 10, 11, 12, 8, 13, 18, 19, 20, 21, 22, 23, 24, 25, 26, 27, 28] (by decide +kernel) (by decide +kernel)
set_option maxRecDepth 20000 in
theorem gX2_countTriangle_X2_isTriangle : GoodIn wsX2_countTriangle (wsV RX2 115 RX2 yX2_isTriangle wsX2_isTriangle) := goodIn_app (goodIn_of _ (by decide +kernel)) ggX2_countTriangle_X2_isTriangle
set_option maxRecDepth 20000 in
theorem ggX2_countTriangle_X2_excess : GoodIn wsX2_countTriangle wsX2_excess := goodIn_r _ [17, 10, 11, 12, 8, 13, 18, 19, 20, 21, 22, 23, 24, 25, 26, 27, 28] (by decide +kernel) (by decide +kernel)
set_option maxRecDepth 20000 in
theorem gX2_countTriangle_X2_excess : GoodIn wsX2_countTriangle (wsV RX2 121 RX2 yX2_excess wsX2_excess) := goodIn_app (goodIn_of _ (by decide +kernel)) ggX2_countTriangle_X2_excess
theorem dX2_countTriangle_0 : decode cX2_countTriangle 0 = .ok (.aload_n 0, 1) := by decide +kernel
theorem dX2_countTriangle_1 : decode cX2_countTriangle 1 = .ok (.iload_n 1, 1) := by decide +kernel
theorem dX2_countTriangle_2 : decode cX2_countTriangle 2 = .ok (.iload_n 2, 1) := by decide +kernel
theorem dX2_countTriangle_3 : decode cX2_countTriangle 3 = .ok (.iload_n 3, 1) := by decide +kernel
theorem dX2_countTriangle_4 : decode cX2_countTriangle 4 = .ok (.invokevirtual 115, 3) := by decide +kernel
theorem dX2_countTriangle_7 : decode cX2_countTriangle 7 = .ok (.ifCond .ne 4, 3) := by decide +kernel
theorem dX2_countTriangle_10 : decode cX2_countTriangle 10 = .ok (.return_, 1) := by decide +kernel
theorem dX2_countTriangle_11 : decode cX2_countTriangle 11 = .ok (.aload_n 0, 1) := by decide +kernel
theorem dX2_countTriangle_12 : decode cX2_countTriangle 12 = .ok (.dup, 1) := by decide +kernel
theorem dX2_countTriangle_13 : decode cX2_countTriangle 13 = .ok (.getfield 118, 3) := by decide +kernel
theorem dX2_countTriangle_16 : decode cX2_countTriangle 16 = .ok (.iconst 1, 1) := by decide +kernel
theorem dX2_countTriangle_17 : decode cX2_countTriangle 17 = .ok (.iadd, 1) := by decide +kernel
theorem dX2_countTriangle_18 : decode cX2_countTriangle 18 = .ok (.putfield 118, 3) := by decide +kernel
theorem dX2_countTriangle_21 : decode cX2_countTriangle 21 = .ok (.aload_n 0, 1) := by decide +kernel
theorem dX2_countTriangle_22 : decode cX2_countTriangle 22 = .ok (.iload_n 1, 1) := by decide +kernel
theorem dX2_countTriangle_23 : decode cX2_countTriangle 23 = .ok (.iload_n 2, 1) := by decide +kernel
theorem dX2_countTriangle_24 : decode cX2_countTriangle 24 = .ok (.iload_n 3, 1) := by decide +kernel
theorem dX2_countTriangle_25 : decode cX2_countTriangle 25 = .ok (.invokevirtual 121, 3) := by decide +kernel
theorem dX2_countTriangle_28 : decode cX2_countTriangle 28 = .ok (.istore 4, 2) := by decide +kernel
theorem dX2_countTriangle_30 : decode cX2_countTriangle 30 = .ok (.iload 4, 2) := by decide +kernel
theorem dX2_countTriangle_32 : decode cX2_countTriangle 32 = .ok (.ifCond .le 65, 3) := by decide +kernel
theorem dX2_countTriangle_35 : decode cX2_countTriangle 35 = .ok (.aload_n 0, 1) := by decide +kernel
theorem dX2_countTriangle_36 : decode cX2_countTriangle 36 = .ok (.dup, 1) := by decide +kernel
theorem dX2_countTriangle_37 : decode cX2_countTriangle 37 = .ok (.getfield 125, 3) := by decide +kernel
theorem dX2_countTriangle_40 : decode cX2_countTriangle 40 = .ok (.iconst 1, 1) := by decide +kernel
theorem dX2_countTriangle_41 : decode cX2_countTriangle 41 = .ok (.iadd, 1) := by decide +kernel
theorem dX2_countTriangle_42 : decode cX2_countTriangle 42 = .ok (.putfield 125, 3) := by decide +kernel
theorem dX2_countTriangle_45 : decode cX2_countTriangle 45 = .ok (.aload_n 0, 1) := by decide +kernel
theorem dX2_countTriangle_46 : decode cX2_countTriangle 46 = .ok (.iload 4, 2) := by decide +kernel
theorem dX2_countTriangle_48 : decode cX2_countTriangle 48 = .ok (.aload_n 0, 1) := by decide +kernel
theorem dX2_countTriangle_49 : decode cX2_countTriangle 49 = .ok (.getfield 128, 3) := by decide +kernel
theorem dX2_countTriangle_52 : decode cX2_countTriangle 52 = .ok (.if_icmp .le 8, 3) := by decide +kernel
theorem dX2_countTriangle_55 : decode cX2_countTriangle 55 = .ok (.iload 4, 2) := by decide +kernel
theorem dX2_countTriangle_57 : decode cX2_countTriangle 57 = .ok (.goto 7, 3) := by decide +kernel
theorem dX2_countTriangle_60 : decode cX2_countTriangle 60 = .ok (.aload_n 0, 1) := by decide +kernel
theorem dX2_countTriangle_61 : decode cX2_countTriangle 61 = .ok (.getfield 128, 3) := by decide +kernel
theorem dX2_countTriangle_64 : decode cX2_countTriangle 64 = .ok (.putfield 128, 3) := by decide +kernel
theorem dX2_countTriangle_67 : decode cX2_countTriangle 67 = .ok (.aload_n 0, 1) := by decide +kernel
theorem dX2_countTriangle_68 : decode cX2_countTriangle 68 = .ok (.getfield 20, 3) := by decide +kernel
theorem dX2_countTriangle_71 : decode cX2_countTriangle 71 = .ok (.iload_n 1, 1) := by decide +kernel
theorem dX2_countTriangle_72 : decode cX2_countTriangle 72 = .ok (.dup2, 1) := by decide +kernel
theorem dX2_countTriangle_73 : decode cX2_countTriangle 73 = .ok (.iaload, 1) := by decide +kernel
theorem dX2_countTriangle_74 : decode cX2_countTriangle 74 = .ok (.iconst 1, 1) := by decide +kernel
theorem dX2_countTriangle_75 : decode cX2_countTriangle 75 = .ok (.iadd, 1) := by decide +kernel
theorem dX2_countTriangle_76 : decode cX2_countTriangle 76 = .ok (.iastore, 1) := by decide +kernel
theorem dX2_countTriangle_77 : decode cX2_countTriangle 77 = .ok (.aload_n 0, 1) := by decide +kernel
theorem dX2_countTriangle_78 : decode cX2_countTriangle 78 = .ok (.getfield 20, 3) := by decide +kernel
theorem dX2_countTriangle_81 : decode cX2_countTriangle 81 = .ok (.iload_n 2, 1) := by decide +kernel
theorem dX2_countTriangle_82 : decode cX2_countTriangle 82 = .ok (.dup2, 1) := by decide +kernel
theorem dX2_countTriangle_83 : decode cX2_countTriangle 83 = .ok (.iaload, 1) := by decide +kernel
theorem dX2_countTriangle_84 : decode cX2_countTriangle 84 = .ok (.iconst 1, 1) := by decide +kernel
theorem dX2_countTriangle_85 : decode cX2_countTriangle 85 = .ok (.iadd, 1) := by decide +kernel
theorem dX2_countTriangle_86 : decode cX2_countTriangle 86 = .ok (.iastore, 1) := by decide +kernel
theorem dX2_countTriangle_87 : decode cX2_countTriangle 87 = .ok (.aload_n 0, 1) := by decide +kernel
theorem dX2_countTriangle_88 : decode cX2_countTriangle 88 = .ok (.getfield 20, 3) := by decide +kernel
theorem dX2_countTriangle_91 : decode cX2_countTriangle 91 = .ok (.iload_n 3, 1) := by decide +kernel
theorem dX2_countTriangle_92 : decode cX2_countTriangle 92 = .ok (.dup2, 1) := by decide +kernel
theorem dX2_countTriangle_93 : decode cX2_countTriangle 93 = .ok (.iaload, 1) := by decide +kernel
theorem dX2_countTriangle_94 : decode cX2_countTriangle 94 = .ok (.iconst 1, 1) := by decide +kernel
theorem dX2_countTriangle_95 : decode cX2_countTriangle 95 = .ok (.iadd, 1) := by decide +kernel
theorem dX2_countTriangle_96 : decode cX2_countTriangle 96 = .ok (.iastore, 1) := by decide +kernel
theorem dX2_countTriangle_97 : decode cX2_countTriangle 97 = .ok (.return_, 1) := by decide +kernel
set_option maxRecDepth 20000 in
theorem ggX2_countAll_X2_countTriangle : GoodIn wsX2_countAll wsX2_countTriangle := goodIn_r _ [11, 1, 2, 4, 5, 12, 13, 14, 10, 15, 6, 16, 17, 18, 19, 20, 21, 22, 23, 24, 25, 26, 27, 28, 29, 30, 31, 32, 33] (by decide +kernel) (by decide +kernel)
set_option maxRecDepth 20000 in
theorem gX2_countAll_X2_countTriangle : GoodIn wsX2_countAll (wsV RX2 131 RX2 yX2_countTriangle wsX2_countTriangle) := goodIn_app (goodIn_of _ (by decide +kernel)) ggX2_countAll_X2_countTriangle
theorem dX2_countAll_0 : decode cX2_countAll 0 = .ok (.aload_n 0, 1) := by decide +kernel
theorem dX2_countAll_1 : decode cX2_countAll 1 = .ok (.iconst 0, 1) := by decide +kernel
theorem dX2_countAll_2 : decode cX2_countAll 2 = .ok (.putfield 118, 3) := by decide +kernel
theorem dX2_countAll_5 : decode cX2_countAll 5 = .ok (.aload_n 0, 1) := by decide +kernel
theorem dX2_countAll_6 : decode cX2_countAll 6 = .ok (.iconst 0, 1) := by decide +kernel
theorem dX2_countAll_7 : decode cX2_countAll 7 = .ok (.putfield 125, 3) := by decide +kernel
theorem dX2_countAll_10 : decode cX2_countAll 10 = .ok (.aload_n 0, 1) := by decide +kernel
theorem dX2_countAll_11 : decode cX2_countAll 11 = .ok (.ldc 111, 2) := by decide +kernel
theorem dX2_countAll_13 : decode cX2_countAll 13 = .ok (.putfield 128, 3) := by decide +kernel
theorem dX2_countAll_16 : decode cX2_countAll 16 = .ok (.iconst 0, 1) := by decide +kernel
theorem dX2_countAll_17 : decode cX2_countAll 17 = .ok (.istore_n 1, 1) := by decide +kernel
theorem dX2_countAll_18 : decode cX2_countAll 18 = .ok (.iload_n 1, 1) := by decide +kernel
theorem dX2_countAll_19 : decode cX2_countAll 19 = .ok (.bipush 10, 2) := by decide +kernel
theorem dX2_countAll_21 : decode cX2_countAll 21 = .ok (.if_icmp .ge 16, 3) := by decide +kernel
theorem dX2_countAll_24 : decode cX2_countAll 24 = .ok (.aload_n 0, 1) := by decide +kernel
theorem dX2_countAll_25 : decode cX2_countAll 25 = .ok (.getfield 20, 3) := by decide +kernel
theorem dX2_countAll_28 : decode cX2_countAll 28 = .ok (.iload_n 1, 1) := by decide +kernel
theorem dX2_countAll_29 : decode cX2_countAll 29 = .ok (.iconst 0, 1) := by decide +kernel
theorem dX2_countAll_30 : decode cX2_countAll 30 = .ok (.iastore, 1) := by decide +kernel
theorem dX2_countAll_31 : decode cX2_countAll 31 = .ok (.iinc 1 1, 3) := by decide +kernel
theorem dX2_countAll_34 : decode cX2_countAll 34 = .ok (.goto (-16), 3) := by decide +kernel
theorem dX2_countAll_37 : decode cX2_countAll 37 = .ok (.iconst 0, 1) := by decide +kernel
theorem dX2_countAll_38 : decode cX2_countAll 38 = .ok (.istore_n 1, 1) := by decide +kernel
theorem dX2_countAll_39 : decode cX2_countAll 39 = .ok (.iload_n 1, 1) := by decide +kernel
theorem dX2_countAll_40 : decode cX2_countAll 40 = .ok (.aload_n 0, 1) := by decide +kernel
theorem dX2_countAll_41 : decode cX2_countAll 41 = .ok (.getfield 7, 3) := by decide +kernel
theorem dX2_countAll_44 : decode cX2_countAll 44 = .ok (.iconst 0, 1) := by decide +kernel
theorem dX2_countAll_45 : decode cX2_countAll 45 = .ok (.iaload, 1) := by decide +kernel
theorem dX2_countAll_46 : decode cX2_countAll 46 = .ok (.if_icmp .ge 56, 3) := by decide +kernel
theorem dX2_countAll_49 : decode cX2_countAll 49 = .ok (.iload_n 1, 1) := by decide +kernel
theorem dX2_countAll_50 : decode cX2_countAll 50 = .ok (.iconst 1, 1) := by decide +kernel
theorem dX2_countAll_51 : decode cX2_countAll 51 = .ok (.iadd, 1) := by decide +kernel
theorem dX2_countAll_52 : decode cX2_countAll 52 = .ok (.istore_n 2, 1) := by decide +kernel
theorem dX2_countAll_53 : decode cX2_countAll 53 = .ok (.iload_n 2, 1) := by decide +kernel
theorem dX2_countAll_54 : decode cX2_countAll 54 = .ok (.aload_n 0, 1) := by decide +kernel
theorem dX2_countAll_55 : decode cX2_countAll 55 = .ok (.getfield 7, 3) := by decide +kernel
theorem dX2_countAll_58 : decode cX2_countAll 58 = .ok (.iconst 0, 1) := by decide +kernel
theorem dX2_countAll_59 : decode cX2_countAll 59 = .ok (.iaload, 1) := by decide +kernel
theorem dX2_countAll_60 : decode cX2_countAll 60 = .ok (.if_icmp .ge 36, 3) := by decide +kernel
theorem dX2_countAll_63 : decode cX2_countAll 63 = .ok (.iload_n 2, 1) := by decide +kernel
theorem dX2_countAll_64 : decode cX2_countAll 64 = .ok (.iconst 1, 1) := by decide +kernel
theorem dX2_countAll_65 : decode cX2_countAll 65 = .ok (.iadd, 1) := by decide +kernel
theorem dX2_countAll_66 : decode cX2_countAll 66 = .ok (.istore_n 3, 1) := by decide +kernel
theorem dX2_countAll_67 : decode cX2_countAll 67 = .ok (.iload_n 3, 1) := by decide +kernel
theorem dX2_countAll_68 : decode cX2_countAll 68 = .ok (.aload_n 0, 1) := by decide +kernel
theorem dX2_countAll_69 : decode cX2_countAll 69 = .ok (.getfield 7, 3) := by decide +kernel
theorem dX2_countAll_72 : decode cX2_countAll 72 = .ok (.iconst 0, 1) := by decide +kernel
theorem dX2_countAll_73 : decode cX2_countAll 73 = .ok (.iaload, 1) := by decide +kernel
theorem dX2_countAll_74 : decode cX2_countAll 74 = .ok (.if_icmp .ge 16, 3) := by decide +kernel
theorem dX2_countAll_77 : decode cX2_countAll 77 = .ok (.aload_n 0, 1) := by decide +kernel
theorem dX2_countAll_78 : decode cX2_countAll 78 = .ok (.iload_n 1, 1) := by decide +kernel
theorem dX2_countAll_79 : decode cX2_countAll 79 = .ok (.iload_n 2, 1) := by decide +kernel
theorem dX2_countAll_80 : decode cX2_countAll 80 = .ok (.iload_n 3, 1) := by decide +kernel
theorem dX2_countAll_81 : decode cX2_countAll 81 = .ok (.invokevirtual 131, 3) := by decide +kernel
theorem dX2_countAll_84 : decode cX2_countAll 84 = .ok (.iinc 3 1, 3) := by decide +kernel
theorem dX2_countAll_87 : decode cX2_countAll 87 = .ok (.goto (-20), 3) := by decide +kernel
theorem dX2_countAll_90 : decode cX2_countAll 90 = .ok (.iinc 2 1, 3) := by decide +kernel
theorem dX2_countAll_93 : decode cX2_countAll 93 = .ok (.goto (-40), 3) := by decide +kernel
theorem dX2_countAll_96 : decode cX2_countAll 96 = .ok (.iinc 1 1, 3) := by decide +kernel
theorem dX2_countAll_99 : decode cX2_countAll 99 = .ok (.goto (-60), 3) := by decide +kernel
theorem dX2_countAll_102 : decode cX2_countAll 102 = .ok (.return_, 1) := by decide +kernel
set_option maxRecDepth 20000 in
theorem ggX2_triangles_X2_countAll : GoodIn wsX2_triangles wsX2_countAll := goodIn_r _ [6, 1, 7, 8, 9, 10, 11, 12, 13, 14, 5, 15, 16, 17, 18, 19, 20, 21, 22, 23, 24, 25, 26, 27, 28, 29, 30, 31, 32, 33, 34, 35, 36, 37] (by decide +kernel) (by decide +kernel)
set_option maxRecDepth 20000 in
theorem gX2_triangles_X2_countAll : GoodIn wsX2_triangles (wsV RX2 135 RX2 yX2_countAll wsX2_countAll) := goodIn_app (goodIn_of _ (by decide +kernel)) ggX2_triangles_X2_countAll
theorem dX2_triangles_0 : decode cX2_triangles 0 = .ok (.aload_n 0, 1) := by decide +kernel
theorem dX2_triangles_1 : decode cX2_triangles 1 = .ok (.invokevirtual 135, 3) := by decide +kernel
theorem dX2_triangles_4 : decode cX2_triangles 4 = .ok (.aload_n 0, 1) := by decide +kernel
theorem dX2_triangles_5 : decode cX2_triangles 5 = .ok (.getfield 118, 3) := by decide +kernel
theorem dX2_triangles_8 : decode cX2_triangles 8 = .ok (.ireturn, 1) := by decide +kernel
set_option maxRecDepth 20000 in
theorem ggX2_violations_X2_countAll : GoodIn wsX2_violations wsX2_countAll := goodIn_r _ [6, 7, 1, 8, 9, 10, 11, 12, 13, 14, 5, 15, 16, 17, 18, 19, 20, 21, 22, 23, 24, 25, 26, 27, 28, 29, 30, 31, 32, 33, 34, 35, 36, 37] (by decide +kernel) (by decide +kernel)
set_option maxRecDepth 20000 in
theorem gX2_violations_X2_countAll : GoodIn wsX2_violations (wsV RX2 135 RX2 yX2_countAll wsX2_countAll) := goodIn_app (goodIn_of _ (by decide +kernel)) ggX2_violations_X2_countAll
theorem dX2_violations_0 : decode cX2_violations 0 = .ok (.aload_n 0, 1) := by decide +kernel
theorem dX2_violations_1 : decode cX2_violations 1 = .ok (.invokevirtual 135, 3) := by decide +kernel
theorem dX2_violations_4 : decode cX2_violations 4 = .ok (.aload_n 0, 1) := by decide +kernel
theorem dX2_violations_5 : decode cX2_violations 5 = .ok (.getfield 125, 3) := by decide +kernel
theorem dX2_violations_8 : decode cX2_violations 8 = .ok (.ireturn, 1) := by decide +kernel
set_option maxRecDepth 20000 in
theorem ggX2_worstExcess_X2_countAll : GoodIn wsX2_worstExcess wsX2_countAll := goodIn_r _ [6, 7, 8, 9, 1, 10, 11, 12, 13, 14, 5, 15, 16, 17, 18, 19, 20, 21, 22, 23, 24, 25, 26, 27, 28, 29, 30, 31, 32, 33, 34, 35, 36, 37] (by decide +kernel) (by decide +kernel)
set_option maxRecDepth 20000 in
theorem gX2_worstExcess_X2_countAll : GoodIn wsX2_worstExcess (wsV RX2 135 RX2 yX2_countAll wsX2_countAll) := goodIn_app (goodIn_of _ (by decide +kernel)) ggX2_worstExcess_X2_countAll
theorem dX2_worstExcess_0 : decode cX2_worstExcess 0 = .ok (.aload_n 0, 1) := by decide +kernel
theorem dX2_worstExcess_1 : decode cX2_worstExcess 1 = .ok (.invokevirtual 135, 3) := by decide +kernel
theorem dX2_worstExcess_4 : decode cX2_worstExcess 4 = .ok (.aload_n 0, 1) := by decide +kernel
theorem dX2_worstExcess_5 : decode cX2_worstExcess 5 = .ok (.getfield 128, 3) := by decide +kernel
theorem dX2_worstExcess_8 : decode cX2_worstExcess 8 = .ok (.ireturn, 1) := by decide +kernel
set_option maxRecDepth 20000 in
theorem ggX2_suspect_X2_countAll : GoodIn wsX2_suspect wsX2_countAll := goodIn_r _ [9, 10, 3, 4, 11, 2, 1, 12, 13, 14, 8, 15, 16, 17, 18, 19, 20, 21, 22, 23, 24, 25, 26, 27, 28, 29, 30, 31, 32, 33, 34, 35, 36, 37] (by decide +kernel) (by decide +kernel)
set_option maxRecDepth 20000 in
theorem gX2_suspect_X2_countAll : GoodIn wsX2_suspect (wsV RX2 135 RX2 yX2_countAll wsX2_countAll) := goodIn_app (goodIn_of _ (by decide +kernel)) ggX2_suspect_X2_countAll
theorem dX2_suspect_0 : decode cX2_suspect 0 = .ok (.aload_n 0, 1) := by decide +kernel
theorem dX2_suspect_1 : decode cX2_suspect 1 = .ok (.invokevirtual 135, 3) := by decide +kernel
theorem dX2_suspect_4 : decode cX2_suspect 4 = .ok (.iconst 0, 1) := by decide +kernel
theorem dX2_suspect_5 : decode cX2_suspect 5 = .ok (.istore_n 1, 1) := by decide +kernel
theorem dX2_suspect_6 : decode cX2_suspect 6 = .ok (.iconst 1, 1) := by decide +kernel
theorem dX2_suspect_7 : decode cX2_suspect 7 = .ok (.istore_n 2, 1) := by decide +kernel
theorem dX2_suspect_8 : decode cX2_suspect 8 = .ok (.iload_n 2, 1) := by decide +kernel
theorem dX2_suspect_9 : decode cX2_suspect 9 = .ok (.aload_n 0, 1) := by decide +kernel
theorem dX2_suspect_10 : decode cX2_suspect 10 = .ok (.getfield 7, 3) := by decide +kernel
theorem dX2_suspect_13 : decode cX2_suspect 13 = .ok (.iconst 0, 1) := by decide +kernel
theorem dX2_suspect_14 : decode cX2_suspect 14 = .ok (.iaload, 1) := by decide +kernel
theorem dX2_suspect_15 : decode cX2_suspect 15 = .ok (.if_icmp .ge 30, 3) := by decide +kernel
theorem dX2_suspect_18 : decode cX2_suspect 18 = .ok (.aload_n 0, 1) := by decide +kernel
theorem dX2_suspect_19 : decode cX2_suspect 19 = .ok (.getfield 20, 3) := by decide +kernel
theorem dX2_suspect_22 : decode cX2_suspect 22 = .ok (.iload_n 2, 1) := by decide +kernel
theorem dX2_suspect_23 : decode cX2_suspect 23 = .ok (.iaload, 1) := by decide +kernel
theorem dX2_suspect_24 : decode cX2_suspect 24 = .ok (.aload_n 0, 1) := by decide +kernel
theorem dX2_suspect_25 : decode cX2_suspect 25 = .ok (.getfield 20, 3) := by decide +kernel
theorem dX2_suspect_28 : decode cX2_suspect 28 = .ok (.iload_n 1, 1) := by decide +kernel
theorem dX2_suspect_29 : decode cX2_suspect 29 = .ok (.iaload, 1) := by decide +kernel
theorem dX2_suspect_30 : decode cX2_suspect 30 = .ok (.if_icmp .le 7, 3) := by decide +kernel
theorem dX2_suspect_33 : decode cX2_suspect 33 = .ok (.iload_n 2, 1) := by decide +kernel
theorem dX2_suspect_34 : decode cX2_suspect 34 = .ok (.goto 4, 3) := by decide +kernel
theorem dX2_suspect_37 : decode cX2_suspect 37 = .ok (.iload_n 1, 1) := by decide +kernel
theorem dX2_suspect_38 : decode cX2_suspect 38 = .ok (.istore_n 1, 1) := by decide +kernel
theorem dX2_suspect_39 : decode cX2_suspect 39 = .ok (.iinc 2 1, 3) := by decide +kernel
theorem dX2_suspect_42 : decode cX2_suspect 42 = .ok (.goto (-34), 3) := by decide +kernel
theorem dX2_suspect_45 : decode cX2_suspect 45 = .ok (.aload_n 0, 1) := by decide +kernel
theorem dX2_suspect_46 : decode cX2_suspect 46 = .ok (.getfield 125, 3) := by decide +kernel
theorem dX2_suspect_49 : decode cX2_suspect 49 = .ok (.ifCond .ne 8, 3) := by decide +kernel
theorem dX2_suspect_52 : decode cX2_suspect 52 = .ok (.ldc 111, 2) := by decide +kernel
theorem dX2_suspect_54 : decode cX2_suspect 54 = .ok (.goto 4, 3) := by decide +kernel
theorem dX2_suspect_57 : decode cX2_suspect 57 = .ok (.iload_n 1, 1) := by decide +kernel
theorem dX2_suspect_58 : decode cX2_suspect 58 = .ok (.ireturn, 1) := by decide +kernel
set_option maxRecDepth 20000 in
theorem ggX2_move_X2_wrongKnown : GoodIn wsX2_move wsX2_wrongKnown := goodIn_r _ [8, 2, 9, 10, 11, 12, 7, 13, 14, 15, 16, 17, 18, 19, 20, 21, 22, 23, 24, 25, 57, 58, 59, 60, 61, 62, 63, 64, 65, 66, 67] (by decide +kernel) (by decide +kernel)
set_option maxRecDepth 20000 in
theorem gX2_move_X2_wrongKnown : GoodIn wsX2_move (wsV RX2 53 RX2 yX2_wrongKnown wsX2_wrongKnown) := goodIn_app (goodIn_of _ (by decide +kernel)) ggX2_move_X2_wrongKnown
set_option maxRecDepth 20000 in
theorem ggX2_move_X2_workOut : GoodIn wsX2_move wsX2_workOut := goodIn_r _ [29, 2, 30, 31, 32, 33, 1, 3, 34, 35, 36, 37, 7, 38, 23, 24, 25, 39, 40, 41, 42, 43, 44, 45, 46, 47, 48, 49, 50, 51, 52, 53, 54, 55, 56, 57, 58, 59, 60, 61, 62, 63, 64, 65, 66, 67] (by decide +kernel) (by decide +kernel)
set_option maxRecDepth 20000 in
theorem gX2_move_X2_workOut : GoodIn wsX2_move (wsV RX2 97 RX2 yX2_workOut wsX2_workOut) := goodIn_app (goodIn_of _ (by decide +kernel)) ggX2_move_X2_workOut
set_option maxRecDepth 20000 in
theorem ggX2_move_X2_planar : GoodIn wsX2_move wsX2_planar := goodIn_r _ [45, 46, 47, 7, 48, 49, 50] (by decide +kernel) (by decide +kernel)
set_option maxRecDepth 20000 in
theorem gX2_move_X2_planar : GoodIn wsX2_move (va_wsS RX2 65 yX2_planar wsX2_planar) := goodIn_app (goodIn_of _ (by decide +kernel)) ggX2_move_X2_planar
theorem dX2_move_0 : decode cX2_move 0 = .ok (.aload_n 0, 1) := by decide +kernel
theorem dX2_move_1 : decode cX2_move 1 = .ok (.iload_n 1, 1) := by decide +kernel
theorem dX2_move_2 : decode cX2_move 2 = .ok (.iload_n 2, 1) := by decide +kernel
theorem dX2_move_3 : decode cX2_move 3 = .ok (.invokevirtual 53, 3) := by decide +kernel
theorem dX2_move_6 : decode cX2_move 6 = .ok (.istore_n 3, 1) := by decide +kernel
theorem dX2_move_7 : decode cX2_move 7 = .ok (.iload_n 3, 1) := by decide +kernel
theorem dX2_move_8 : decode cX2_move 8 = .ok (.ifCond .eq 5, 3) := by decide +kernel
theorem dX2_move_11 : decode cX2_move 11 = .ok (.iload_n 3, 1) := by decide +kernel
theorem dX2_move_12 : decode cX2_move 12 = .ok (.ireturn, 1) := by decide +kernel
theorem dX2_move_13 : decode cX2_move 13 = .ok (.aload_n 0, 1) := by decide +kernel
theorem dX2_move_14 : decode cX2_move 14 = .ok (.iload_n 1, 1) := by decide +kernel
theorem dX2_move_15 : decode cX2_move 15 = .ok (.iload_n 2, 1) := by decide +kernel
theorem dX2_move_16 : decode cX2_move 16 = .ok (.invokevirtual 97, 3) := by decide +kernel
theorem dX2_move_19 : decode cX2_move 19 = .ok (.aload_n 0, 1) := by decide +kernel
theorem dX2_move_20 : decode cX2_move 20 = .ok (.getfield 88, 3) := by decide +kernel
theorem dX2_move_23 : decode cX2_move 23 = .ok (.aload_n 0, 1) := by decide +kernel
theorem dX2_move_24 : decode cX2_move 24 = .ok (.getfield 7, 3) := by decide +kernel
theorem dX2_move_27 : decode cX2_move 27 = .ok (.iconst 5, 1) := by decide +kernel
theorem dX2_move_28 : decode cX2_move 28 = .ok (.iload_n 1, 1) := by decide +kernel
theorem dX2_move_29 : decode cX2_move 29 = .ok (.iadd, 1) := by decide +kernel
theorem dX2_move_30 : decode cX2_move 30 = .ok (.iaload, 1) := by decide +kernel
theorem dX2_move_31 : decode cX2_move 31 = .ok (.isub, 1) := by decide +kernel
theorem dX2_move_32 : decode cX2_move 32 = .ok (.i2l, 1) := by decide +kernel
theorem dX2_move_33 : decode cX2_move 33 = .ok (.aload_n 0, 1) := by decide +kernel
theorem dX2_move_34 : decode cX2_move 34 = .ok (.getfield 91, 3) := by decide +kernel
theorem dX2_move_37 : decode cX2_move 37 = .ok (.aload_n 0, 1) := by decide +kernel
theorem dX2_move_38 : decode cX2_move 38 = .ok (.getfield 7, 3) := by decide +kernel
theorem dX2_move_41 : decode cX2_move 41 = .ok (.bipush 15, 2) := by decide +kernel
theorem dX2_move_43 : decode cX2_move 43 = .ok (.iload_n 1, 1) := by decide +kernel
theorem dX2_move_44 : decode cX2_move 44 = .ok (.iadd, 1) := by decide +kernel
theorem dX2_move_45 : decode cX2_move 45 = .ok (.iaload, 1) := by decide +kernel
theorem dX2_move_46 : decode cX2_move 46 = .ok (.isub, 1) := by decide +kernel
theorem dX2_move_47 : decode cX2_move 47 = .ok (.i2l, 1) := by decide +kernel
theorem dX2_move_48 : decode cX2_move 48 = .ok (.invokestatic 65, 3) := by decide +kernel
theorem dX2_move_51 : decode cX2_move 51 = .ok (.ireturn, 1) := by decide +kernel
set_option maxRecDepth 20000 in
theorem ggX2_save_X2_in : GoodIn wsX2_save wsX2_in := goodIn_r _ [8] (by decide +kernel) (by decide +kernel)
set_option maxRecDepth 20000 in
theorem gX2_save_X2_in : GoodIn wsX2_save (va_wsS RX2 27 yX2_in wsX2_in) := goodIn_app (goodIn_of _ (by decide +kernel)) ggX2_save_X2_in
theorem dX2_save_0 : decode cX2_save 0 = .ok (.iload_n 1, 1) := by decide +kernel
theorem dX2_save_1 : decode cX2_save 1 = .ok (.iconst 0, 1) := by decide +kernel
theorem dX2_save_2 : decode cX2_save 2 = .ok (.iconst 1, 1) := by decide +kernel
theorem dX2_save_3 : decode cX2_save 3 = .ok (.invokestatic 27, 3) := by decide +kernel
theorem dX2_save_6 : decode cX2_save 6 = .ok (.ifCond .ne 6, 3) := by decide +kernel
theorem dX2_save_9 : decode cX2_save 9 = .ok (.ldc 35, 2) := by decide +kernel
theorem dX2_save_11 : decode cX2_save 11 = .ok (.ireturn, 1) := by decide +kernel
theorem dX2_save_12 : decode cX2_save 12 = .ok (.iconst 0, 1) := by decide +kernel
theorem dX2_save_13 : decode cX2_save 13 = .ok (.istore_n 2, 1) := by decide +kernel
theorem dX2_save_14 : decode cX2_save 14 = .ok (.iload_n 2, 1) := by decide +kernel
theorem dX2_save_15 : decode cX2_save 15 = .ok (.sipush 155, 3) := by decide +kernel
theorem dX2_save_18 : decode cX2_save 18 = .ok (.if_icmp .ge 27, 3) := by decide +kernel
theorem dX2_save_21 : decode cX2_save 21 = .ok (.aload_n 0, 1) := by decide +kernel
theorem dX2_save_22 : decode cX2_save 22 = .ok (.getfield 13, 3) := by decide +kernel
theorem dX2_save_25 : decode cX2_save 25 = .ok (.sipush 155, 3) := by decide +kernel
theorem dX2_save_28 : decode cX2_save 28 = .ok (.iload_n 1, 1) := by decide +kernel
theorem dX2_save_29 : decode cX2_save 29 = .ok (.imul, 1) := by decide +kernel
theorem dX2_save_30 : decode cX2_save 30 = .ok (.iload_n 2, 1) := by decide +kernel
theorem dX2_save_31 : decode cX2_save 31 = .ok (.iadd, 1) := by decide +kernel
theorem dX2_save_32 : decode cX2_save 32 = .ok (.aload_n 0, 1) := by decide +kernel
theorem dX2_save_33 : decode cX2_save 33 = .ok (.getfield 7, 3) := by decide +kernel
theorem dX2_save_36 : decode cX2_save 36 = .ok (.iload_n 2, 1) := by decide +kernel
theorem dX2_save_37 : decode cX2_save 37 = .ok (.iaload, 1) := by decide +kernel
theorem dX2_save_38 : decode cX2_save 38 = .ok (.iastore, 1) := by decide +kernel
theorem dX2_save_39 : decode cX2_save 39 = .ok (.iinc 2 1, 3) := by decide +kernel
theorem dX2_save_42 : decode cX2_save 42 = .ok (.goto (-28), 3) := by decide +kernel
theorem dX2_save_45 : decode cX2_save 45 = .ok (.aload_n 0, 1) := by decide +kernel
theorem dX2_save_46 : decode cX2_save 46 = .ok (.getfield 16, 3) := by decide +kernel
theorem dX2_save_49 : decode cX2_save 49 = .ok (.iload_n 1, 1) := by decide +kernel
theorem dX2_save_50 : decode cX2_save 50 = .ok (.iconst 1, 1) := by decide +kernel
theorem dX2_save_51 : decode cX2_save 51 = .ok (.bastore, 1) := by decide +kernel
theorem dX2_save_52 : decode cX2_save 52 = .ok (.iconst 1, 1) := by decide +kernel
theorem dX2_save_53 : decode cX2_save 53 = .ok (.ireturn, 1) := by decide +kernel
set_option maxRecDepth 20000 in
theorem ggX2_restore_X2_in : GoodIn wsX2_restore wsX2_in := goodIn_r _ [9] (by decide +kernel) (by decide +kernel)
set_option maxRecDepth 20000 in
theorem gX2_restore_X2_in : GoodIn wsX2_restore (va_wsS RX2 27 yX2_in wsX2_in) := goodIn_app (goodIn_of _ (by decide +kernel)) ggX2_restore_X2_in
theorem dX2_restore_0 : decode cX2_restore 0 = .ok (.iload_n 1, 1) := by decide +kernel
theorem dX2_restore_1 : decode cX2_restore 1 = .ok (.iconst 0, 1) := by decide +kernel
theorem dX2_restore_2 : decode cX2_restore 2 = .ok (.iconst 1, 1) := by decide +kernel
theorem dX2_restore_3 : decode cX2_restore 3 = .ok (.invokestatic 27, 3) := by decide +kernel
theorem dX2_restore_6 : decode cX2_restore 6 = .ok (.ifCond .ne 6, 3) := by decide +kernel
theorem dX2_restore_9 : decode cX2_restore 9 = .ok (.ldc 35, 2) := by decide +kernel
theorem dX2_restore_11 : decode cX2_restore 11 = .ok (.ireturn, 1) := by decide +kernel
theorem dX2_restore_12 : decode cX2_restore 12 = .ok (.aload_n 0, 1) := by decide +kernel
theorem dX2_restore_13 : decode cX2_restore 13 = .ok (.getfield 16, 3) := by decide +kernel
theorem dX2_restore_16 : decode cX2_restore 16 = .ok (.iload_n 1, 1) := by decide +kernel
theorem dX2_restore_17 : decode cX2_restore 17 = .ok (.baload, 1) := by decide +kernel
theorem dX2_restore_18 : decode cX2_restore 18 = .ok (.ifCond .ne 6, 3) := by decide +kernel
theorem dX2_restore_21 : decode cX2_restore 21 = .ok (.ldc 138, 2) := by decide +kernel
theorem dX2_restore_23 : decode cX2_restore 23 = .ok (.ireturn, 1) := by decide +kernel
theorem dX2_restore_24 : decode cX2_restore 24 = .ok (.iconst 0, 1) := by decide +kernel
theorem dX2_restore_25 : decode cX2_restore 25 = .ok (.istore_n 2, 1) := by decide +kernel
theorem dX2_restore_26 : decode cX2_restore 26 = .ok (.iload_n 2, 1) := by decide +kernel
theorem dX2_restore_27 : decode cX2_restore 27 = .ok (.sipush 155, 3) := by decide +kernel
theorem dX2_restore_30 : decode cX2_restore 30 = .ok (.if_icmp .ge 27, 3) := by decide +kernel
theorem dX2_restore_33 : decode cX2_restore 33 = .ok (.aload_n 0, 1) := by decide +kernel
theorem dX2_restore_34 : decode cX2_restore 34 = .ok (.getfield 7, 3) := by decide +kernel
theorem dX2_restore_37 : decode cX2_restore 37 = .ok (.iload_n 2, 1) := by decide +kernel
theorem dX2_restore_38 : decode cX2_restore 38 = .ok (.aload_n 0, 1) := by decide +kernel
theorem dX2_restore_39 : decode cX2_restore 39 = .ok (.getfield 13, 3) := by decide +kernel
theorem dX2_restore_42 : decode cX2_restore 42 = .ok (.sipush 155, 3) := by decide +kernel
theorem dX2_restore_45 : decode cX2_restore 45 = .ok (.iload_n 1, 1) := by decide +kernel
theorem dX2_restore_46 : decode cX2_restore 46 = .ok (.imul, 1) := by decide +kernel
theorem dX2_restore_47 : decode cX2_restore 47 = .ok (.iload_n 2, 1) := by decide +kernel
theorem dX2_restore_48 : decode cX2_restore 48 = .ok (.iadd, 1) := by decide +kernel
theorem dX2_restore_49 : decode cX2_restore 49 = .ok (.iaload, 1) := by decide +kernel
theorem dX2_restore_50 : decode cX2_restore 50 = .ok (.iastore, 1) := by decide +kernel
theorem dX2_restore_51 : decode cX2_restore 51 = .ok (.iinc 2 1, 3) := by decide +kernel
theorem dX2_restore_54 : decode cX2_restore 54 = .ok (.goto (-28), 3) := by decide +kernel
theorem dX2_restore_57 : decode cX2_restore 57 = .ok (.iconst 1, 1) := by decide +kernel
theorem dX2_restore_58 : decode cX2_restore 58 = .ok (.ireturn, 1) := by decide +kernel
