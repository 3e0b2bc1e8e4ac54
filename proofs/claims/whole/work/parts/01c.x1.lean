set_option maxRecDepth 20000 in
theorem ggX1_init_X0_init : GoodIn wsX1_init wsX0_init := goodIn_r _ [11, 12, 2, 3, 13, 14, 15, 16, 17, 18, 19, 20, 21, 22, 23, 24, 25, 6, 26, 27, 28, 29, 30, 31, 32, 33, 34, 35, 36, 37, 38, 39, 40, 41, 42, 43] (by decide +kernel) (by decide +kernel)
set_option maxRecDepth 20000 in
theorem gX1_init_X0_init : GoodIn wsX1_init (wsX0_init) := ggX1_init_X0_init
theorem dX1_init_0 : decode cX1_init 0 = .ok (.aload_n 0, 1) := by decide +kernel
theorem dX1_init_1 : decode cX1_init 1 = .ok (.invokespecial 1, 3) := by decide +kernel
theorem dX1_init_4 : decode cX1_init 4 = .ok (.aload_n 0, 1) := by decide +kernel
theorem dX1_init_5 : decode cX1_init 5 = .ok (.new 7, 3) := by decide +kernel
theorem dX1_init_8 : decode cX1_init 8 = .ok (.dup, 1) := by decide +kernel
theorem dX1_init_9 : decode cX1_init 9 = .ok (.invokespecial 9, 3) := by decide +kernel
theorem dX1_init_12 : decode cX1_init 12 = .ok (.putfield 10, 3) := by decide +kernel
theorem dX1_init_15 : decode cX1_init 15 = .ok (.aload_n 0, 1) := by decide +kernel
theorem dX1_init_16 : decode cX1_init 16 = .ok (.iconst 2, 1) := by decide +kernel
theorem dX1_init_17 : decode cX1_init 17 = .ok (.anewarray 7, 3) := by decide +kernel
theorem dX1_init_20 : decode cX1_init 20 = .ok (.putfield 16, 3) := by decide +kernel
theorem dX1_init_23 : decode cX1_init 23 = .ok (.return_, 1) := by decide +kernel
set_option maxRecDepth 20000 in
theorem ggX1_reset_X1_isWithin : GoodIn wsX1_reset wsX1_isWithin := goodIn_r _ [6] (by decide +kernel) (by decide +kernel)
set_option maxRecDepth 20000 in
theorem gX1_reset_X1_isWithin : GoodIn wsX1_reset (va_wsS RX1 20 yX1_isWithin wsX1_isWithin) := goodIn_app (goodIn_of _ (by decide +kernel)) ggX1_reset_X1_isWithin
set_option maxRecDepth 20000 in
theorem ggX1_reset_X0_begin : GoodIn wsX1_reset wsX0_begin := goodIn_r _ [11, 12, 13, 14, 15, 16, 17, 18, 10, 19, 20, 21, 22, 23, 26, 27, 28, 29, 30, 31, 32, 33, 34, 35, 36] (by decide +kernel) (by decide +kernel)
set_option maxRecDepth 20000 in
theorem gX1_reset_X0_begin : GoodIn wsX1_reset (wsV RX1 29 RX0 yX0_begin wsX0_begin) := goodIn_app (goodIn_of _ (by decide +kernel)) ggX1_reset_X0_begin
theorem dX1_reset_0 : decode cX1_reset 0 = .ok (.iload_n 1, 1) := by decide +kernel
theorem dX1_reset_1 : decode cX1_reset 1 = .ok (.iconst 2, 1) := by decide +kernel
theorem dX1_reset_2 : decode cX1_reset 2 = .ok (.bipush 10, 2) := by decide +kernel
theorem dX1_reset_4 : decode cX1_reset 4 = .ok (.invokestatic 20, 3) := by decide +kernel
theorem dX1_reset_7 : decode cX1_reset 7 = .ok (.ifCond .ne 6, 3) := by decide +kernel
theorem dX1_reset_10 : decode cX1_reset 10 = .ok (.ldc 24, 2) := by decide +kernel
theorem dX1_reset_12 : decode cX1_reset 12 = .ok (.ireturn, 1) := by decide +kernel
theorem dX1_reset_13 : decode cX1_reset 13 = .ok (.aload_n 0, 1) := by decide +kernel
theorem dX1_reset_14 : decode cX1_reset 14 = .ok (.getfield 10, 3) := by decide +kernel
theorem dX1_reset_17 : decode cX1_reset 17 = .ok (.getfield 25, 3) := by decide +kernel
theorem dX1_reset_20 : decode cX1_reset 20 = .ok (.istore_n 2, 1) := by decide +kernel
theorem dX1_reset_21 : decode cX1_reset 21 = .ok (.aload_n 0, 1) := by decide +kernel
theorem dX1_reset_22 : decode cX1_reset 22 = .ok (.getfield 10, 3) := by decide +kernel
theorem dX1_reset_25 : decode cX1_reset 25 = .ok (.iload_n 1, 1) := by decide +kernel
theorem dX1_reset_26 : decode cX1_reset 26 = .ok (.invokevirtual 29, 3) := by decide +kernel
theorem dX1_reset_29 : decode cX1_reset 29 = .ok (.iload_n 2, 1) := by decide +kernel
theorem dX1_reset_30 : decode cX1_reset 30 = .ok (.ireturn, 1) := by decide +kernel
set_option maxRecDepth 20000 in
theorem ggX1_setRtt_X1_pairFault : GoodIn wsX1_setRtt wsX1_pairFault := goodIn_r _ [7, 8, 9, 10, 11, 12, 6, 13, 2, 14, 15, 16, 27, 28, 29, 30, 31, 32, 33, 34, 35, 36, 37, 38, 39] (by decide +kernel) (by decide +kernel)
set_option maxRecDepth 20000 in
theorem gX1_setRtt_X1_pairFault : GoodIn wsX1_setRtt (wsV RX1 33 RX1 yX1_pairFault wsX1_pairFault) := goodIn_app (goodIn_of _ (by decide +kernel)) ggX1_setRtt_X1_pairFault
set_option maxRecDepth 20000 in
theorem ggX1_setRtt_X1_isWithin : GoodIn wsX1_setRtt wsX1_isWithin := goodIn_r _ [16] (by decide +kernel) (by decide +kernel)
set_option maxRecDepth 20000 in
theorem gX1_setRtt_X1_isWithin : GoodIn wsX1_setRtt (va_wsS RX1 20 yX1_isWithin wsX1_isWithin) := goodIn_app (goodIn_of _ (by decide +kernel)) ggX1_setRtt_X1_isWithin
set_option maxRecDepth 20000 in
theorem ggX1_setRtt_X0_rttOf : GoodIn wsX1_setRtt wsX0_rttOf := goodIn_r _ [21, 22, 29, 30, 31, 32, 33, 34, 35, 36, 37, 38, 39] (by decide +kernel) (by decide +kernel)
set_option maxRecDepth 20000 in
theorem gX1_setRtt_X0_rttOf : GoodIn wsX1_setRtt (wsV RX1 37 RX0 yX0_rttOf wsX0_rttOf) := goodIn_app (goodIn_of _ (by decide +kernel)) ggX1_setRtt_X0_rttOf
set_option maxRecDepth 20000 in
theorem ggX1_setRtt_X0_keepRtt : GoodIn wsX1_setRtt wsX0_keepRtt := goodIn_r _ [26, 22, 29, 30, 31, 32, 33, 34, 35, 36, 37, 38, 39] (by decide +kernel) (by decide +kernel)
set_option maxRecDepth 20000 in
theorem gX1_setRtt_X0_keepRtt : GoodIn wsX1_setRtt (wsV RX1 40 RX0 yX0_keepRtt wsX0_keepRtt) := goodIn_app (goodIn_of _ (by decide +kernel)) ggX1_setRtt_X0_keepRtt
theorem dX1_setRtt_0 : decode cX1_setRtt 0 = .ok (.aload_n 0, 1) := by decide +kernel
theorem dX1_setRtt_1 : decode cX1_setRtt 1 = .ok (.iload_n 1, 1) := by decide +kernel
theorem dX1_setRtt_2 : decode cX1_setRtt 2 = .ok (.iload_n 2, 1) := by decide +kernel
theorem dX1_setRtt_3 : decode cX1_setRtt 3 = .ok (.invokevirtual 33, 3) := by decide +kernel
theorem dX1_setRtt_6 : decode cX1_setRtt 6 = .ok (.istore 4, 2) := by decide +kernel
theorem dX1_setRtt_8 : decode cX1_setRtt 8 = .ok (.iload 4, 2) := by decide +kernel
theorem dX1_setRtt_10 : decode cX1_setRtt 10 = .ok (.ifCond .eq 6, 3) := by decide +kernel
theorem dX1_setRtt_13 : decode cX1_setRtt 13 = .ok (.iload 4, 2) := by decide +kernel
theorem dX1_setRtt_15 : decode cX1_setRtt 15 = .ok (.ireturn, 1) := by decide +kernel
theorem dX1_setRtt_16 : decode cX1_setRtt 16 = .ok (.iload_n 3, 1) := by decide +kernel
theorem dX1_setRtt_17 : decode cX1_setRtt 17 = .ok (.iconst 0, 1) := by decide +kernel
theorem dX1_setRtt_18 : decode cX1_setRtt 18 = .ok (.sipush 20000, 3) := by decide +kernel
theorem dX1_setRtt_21 : decode cX1_setRtt 21 = .ok (.invokestatic 20, 3) := by decide +kernel
theorem dX1_setRtt_24 : decode cX1_setRtt 24 = .ok (.ifCond .ne 6, 3) := by decide +kernel
theorem dX1_setRtt_27 : decode cX1_setRtt 27 = .ok (.ldc 24, 2) := by decide +kernel
theorem dX1_setRtt_29 : decode cX1_setRtt 29 = .ok (.ireturn, 1) := by decide +kernel
theorem dX1_setRtt_30 : decode cX1_setRtt 30 = .ok (.aload_n 0, 1) := by decide +kernel
theorem dX1_setRtt_31 : decode cX1_setRtt 31 = .ok (.getfield 10, 3) := by decide +kernel
theorem dX1_setRtt_34 : decode cX1_setRtt 34 = .ok (.iload_n 1, 1) := by decide +kernel
theorem dX1_setRtt_35 : decode cX1_setRtt 35 = .ok (.iload_n 2, 1) := by decide +kernel
theorem dX1_setRtt_36 : decode cX1_setRtt 36 = .ok (.invokevirtual 37, 3) := by decide +kernel
theorem dX1_setRtt_39 : decode cX1_setRtt 39 = .ok (.istore 5, 2) := by decide +kernel
theorem dX1_setRtt_41 : decode cX1_setRtt 41 = .ok (.aload_n 0, 1) := by decide +kernel
theorem dX1_setRtt_42 : decode cX1_setRtt 42 = .ok (.getfield 10, 3) := by decide +kernel
theorem dX1_setRtt_45 : decode cX1_setRtt 45 = .ok (.iload_n 1, 1) := by decide +kernel
theorem dX1_setRtt_46 : decode cX1_setRtt 46 = .ok (.iload_n 2, 1) := by decide +kernel
theorem dX1_setRtt_47 : decode cX1_setRtt 47 = .ok (.iload_n 3, 1) := by decide +kernel
theorem dX1_setRtt_48 : decode cX1_setRtt 48 = .ok (.invokevirtual 40, 3) := by decide +kernel
theorem dX1_setRtt_51 : decode cX1_setRtt 51 = .ok (.iload 5, 2) := by decide +kernel
theorem dX1_setRtt_53 : decode cX1_setRtt 53 = .ok (.ireturn, 1) := by decide +kernel
set_option maxRecDepth 20000 in
theorem ggX1_rtt_X1_knownPairFault : GoodIn wsX1_rtt wsX1_knownPairFault := goodIn_r _ [6, 1, 7, 8, 9, 10, 5, 11, 12, 13, 14, 15, 16, 17, 18, 19, 20, 21, 22, 23, 24, 25, 26, 27, 28, 29, 30, 32, 33, 34, 35, 36, 37, 38, 39, 40, 41, 42, 43, 44] (by decide +kernel) (by decide +kernel)
set_option maxRecDepth 20000 in
theorem gX1_rtt_X1_knownPairFault : GoodIn wsX1_rtt (wsV RX1 44 RX1 yX1_knownPairFault wsX1_knownPairFault) := goodIn_app (goodIn_of _ (by decide +kernel)) ggX1_rtt_X1_knownPairFault
set_option maxRecDepth 20000 in
theorem ggX1_rtt_X0_rttOf : GoodIn wsX1_rtt wsX0_rttOf := goodIn_r _ [29, 30, 34, 35, 36, 37, 38, 39, 40, 41, 42, 43, 44] (by decide +kernel) (by decide +kernel)
set_option maxRecDepth 20000 in
theorem gX1_rtt_X0_rttOf : GoodIn wsX1_rtt (wsV RX1 37 RX0 yX0_rttOf wsX0_rttOf) := goodIn_app (goodIn_of _ (by decide +kernel)) ggX1_rtt_X0_rttOf
theorem dX1_rtt_0 : decode cX1_rtt 0 = .ok (.aload_n 0, 1) := by decide +kernel
theorem dX1_rtt_1 : decode cX1_rtt 1 = .ok (.iload_n 1, 1) := by decide +kernel
theorem dX1_rtt_2 : decode cX1_rtt 2 = .ok (.iload_n 2, 1) := by decide +kernel
theorem dX1_rtt_3 : decode cX1_rtt 3 = .ok (.invokevirtual 44, 3) := by decide +kernel
theorem dX1_rtt_6 : decode cX1_rtt 6 = .ok (.istore_n 3, 1) := by decide +kernel
theorem dX1_rtt_7 : decode cX1_rtt 7 = .ok (.iload_n 3, 1) := by decide +kernel
theorem dX1_rtt_8 : decode cX1_rtt 8 = .ok (.ifCond .eq 7, 3) := by decide +kernel
theorem dX1_rtt_11 : decode cX1_rtt 11 = .ok (.iload_n 3, 1) := by decide +kernel
theorem dX1_rtt_12 : decode cX1_rtt 12 = .ok (.goto 12, 3) := by decide +kernel
theorem dX1_rtt_15 : decode cX1_rtt 15 = .ok (.aload_n 0, 1) := by decide +kernel
theorem dX1_rtt_16 : decode cX1_rtt 16 = .ok (.getfield 10, 3) := by decide +kernel
theorem dX1_rtt_19 : decode cX1_rtt 19 = .ok (.iload_n 1, 1) := by decide +kernel
theorem dX1_rtt_20 : decode cX1_rtt 20 = .ok (.iload_n 2, 1) := by decide +kernel
theorem dX1_rtt_21 : decode cX1_rtt 21 = .ok (.invokevirtual 37, 3) := by decide +kernel
theorem dX1_rtt_24 : decode cX1_rtt 24 = .ok (.ireturn, 1) := by decide +kernel
set_option maxRecDepth 20000 in
theorem ggX1_setLie_X1_isNode : GoodIn wsX1_setLie wsX1_isNode := goodIn_r _ [8, 3, 9, 10, 7, 11, 12, 13, 14, 15, 16, 17, 18, 19, 20, 21, 22, 23, 24] (by decide +kernel) (by decide +kernel)
set_option maxRecDepth 20000 in
theorem gX1_setLie_X1_isNode : GoodIn wsX1_setLie (wsV RX1 47 RX1 yX1_isNode wsX1_isNode) := goodIn_app (goodIn_of _ (by decide +kernel)) ggX1_setLie_X1_isNode
set_option maxRecDepth 20000 in
theorem ggX1_setLie_X1_isWithin : GoodIn wsX1_setLie wsX1_isWithin := goodIn_r _ [11] (by decide +kernel) (by decide +kernel)
set_option maxRecDepth 20000 in
theorem gX1_setLie_X1_isWithin : GoodIn wsX1_setLie (va_wsS RX1 20 yX1_isWithin wsX1_isWithin) := goodIn_app (goodIn_of _ (by decide +kernel)) ggX1_setLie_X1_isWithin
theorem dX1_setLie_0 : decode cX1_setLie 0 = .ok (.aload_n 0, 1) := by decide +kernel
theorem dX1_setLie_1 : decode cX1_setLie 1 = .ok (.iload_n 1, 1) := by decide +kernel
theorem dX1_setLie_2 : decode cX1_setLie 2 = .ok (.invokevirtual 47, 3) := by decide +kernel
theorem dX1_setLie_5 : decode cX1_setLie 5 = .ok (.ifCond .ne 6, 3) := by decide +kernel
theorem dX1_setLie_8 : decode cX1_setLie 8 = .ok (.ldc 51, 2) := by decide +kernel
theorem dX1_setLie_10 : decode cX1_setLie 10 = .ok (.ireturn, 1) := by decide +kernel
theorem dX1_setLie_11 : decode cX1_setLie 11 = .ok (.iload_n 2, 1) := by decide +kernel
theorem dX1_setLie_12 : decode cX1_setLie 12 = .ok (.iconst 0, 1) := by decide +kernel
theorem dX1_setLie_13 : decode cX1_setLie 13 = .ok (.sipush 20000, 3) := by decide +kernel
theorem dX1_setLie_16 : decode cX1_setLie 16 = .ok (.invokestatic 20, 3) := by decide +kernel
theorem dX1_setLie_19 : decode cX1_setLie 19 = .ok (.ifCond .ne 6, 3) := by decide +kernel
theorem dX1_setLie_22 : decode cX1_setLie 22 = .ok (.ldc 24, 2) := by decide +kernel
theorem dX1_setLie_24 : decode cX1_setLie 24 = .ok (.ireturn, 1) := by decide +kernel
theorem dX1_setLie_25 : decode cX1_setLie 25 = .ok (.aload_n 0, 1) := by decide +kernel
theorem dX1_setLie_26 : decode cX1_setLie 26 = .ok (.getfield 10, 3) := by decide +kernel
theorem dX1_setLie_29 : decode cX1_setLie 29 = .ok (.getfield 52, 3) := by decide +kernel
theorem dX1_setLie_32 : decode cX1_setLie 32 = .ok (.iload_n 1, 1) := by decide +kernel
theorem dX1_setLie_33 : decode cX1_setLie 33 = .ok (.iaload, 1) := by decide +kernel
theorem dX1_setLie_34 : decode cX1_setLie 34 = .ok (.istore_n 3, 1) := by decide +kernel
theorem dX1_setLie_35 : decode cX1_setLie 35 = .ok (.aload_n 0, 1) := by decide +kernel
theorem dX1_setLie_36 : decode cX1_setLie 36 = .ok (.getfield 10, 3) := by decide +kernel
theorem dX1_setLie_39 : decode cX1_setLie 39 = .ok (.getfield 52, 3) := by decide +kernel
theorem dX1_setLie_42 : decode cX1_setLie 42 = .ok (.iload_n 1, 1) := by decide +kernel
theorem dX1_setLie_43 : decode cX1_setLie 43 = .ok (.iload_n 2, 1) := by decide +kernel
theorem dX1_setLie_44 : decode cX1_setLie 44 = .ok (.iastore, 1) := by decide +kernel
theorem dX1_setLie_45 : decode cX1_setLie 45 = .ok (.iload_n 3, 1) := by decide +kernel
theorem dX1_setLie_46 : decode cX1_setLie 46 = .ok (.ireturn, 1) := by decide +kernel
set_option maxRecDepth 20000 in
theorem ggX1_setGains_X1_isWithin : GoodIn wsX1_setGains wsX1_isWithin := goodIn_r _ [6] (by decide +kernel) (by decide +kernel)
set_option maxRecDepth 20000 in
theorem gX1_setGains_X1_isWithin : GoodIn wsX1_setGains (va_wsS RX1 20 yX1_isWithin wsX1_isWithin) := goodIn_app (goodIn_of _ (by decide +kernel)) ggX1_setGains_X1_isWithin
theorem dX1_setGains_0 : decode cX1_setGains 0 = .ok (.iload_n 1, 1) := by decide +kernel
theorem dX1_setGains_1 : decode cX1_setGains 1 = .ok (.iconst 1, 1) := by decide +kernel
theorem dX1_setGains_2 : decode cX1_setGains 2 = .ok (.sipush 1000, 3) := by decide +kernel
theorem dX1_setGains_5 : decode cX1_setGains 5 = .ok (.invokestatic 20, 3) := by decide +kernel
theorem dX1_setGains_8 : decode cX1_setGains 8 = .ok (.ifCond .eq 14, 3) := by decide +kernel
theorem dX1_setGains_11 : decode cX1_setGains 11 = .ok (.iload_n 2, 1) := by decide +kernel
theorem dX1_setGains_12 : decode cX1_setGains 12 = .ok (.iconst 1, 1) := by decide +kernel
theorem dX1_setGains_13 : decode cX1_setGains 13 = .ok (.sipush 1000, 3) := by decide +kernel
theorem dX1_setGains_16 : decode cX1_setGains 16 = .ok (.invokestatic 20, 3) := by decide +kernel
theorem dX1_setGains_19 : decode cX1_setGains 19 = .ok (.ifCond .ne 6, 3) := by decide +kernel
theorem dX1_setGains_22 : decode cX1_setGains 22 = .ok (.ldc 24, 2) := by decide +kernel
theorem dX1_setGains_24 : decode cX1_setGains 24 = .ok (.ireturn, 1) := by decide +kernel
theorem dX1_setGains_25 : decode cX1_setGains 25 = .ok (.sipush 10000, 3) := by decide +kernel
theorem dX1_setGains_28 : decode cX1_setGains 28 = .ok (.aload_n 0, 1) := by decide +kernel
theorem dX1_setGains_29 : decode cX1_setGains 29 = .ok (.getfield 10, 3) := by decide +kernel
theorem dX1_setGains_32 : decode cX1_setGains 32 = .ok (.getfield 56, 3) := by decide +kernel
theorem dX1_setGains_35 : decode cX1_setGains 35 = .ok (.imul, 1) := by decide +kernel
theorem dX1_setGains_36 : decode cX1_setGains 36 = .ok (.aload_n 0, 1) := by decide +kernel
theorem dX1_setGains_37 : decode cX1_setGains 37 = .ok (.getfield 10, 3) := by decide +kernel
theorem dX1_setGains_40 : decode cX1_setGains 40 = .ok (.getfield 59, 3) := by decide +kernel
theorem dX1_setGains_43 : decode cX1_setGains 43 = .ok (.iadd, 1) := by decide +kernel
theorem dX1_setGains_44 : decode cX1_setGains 44 = .ok (.istore_n 3, 1) := by decide +kernel
theorem dX1_setGains_45 : decode cX1_setGains 45 = .ok (.aload_n 0, 1) := by decide +kernel
theorem dX1_setGains_46 : decode cX1_setGains 46 = .ok (.getfield 10, 3) := by decide +kernel
theorem dX1_setGains_49 : decode cX1_setGains 49 = .ok (.iload_n 1, 1) := by decide +kernel
theorem dX1_setGains_50 : decode cX1_setGains 50 = .ok (.putfield 56, 3) := by decide +kernel
theorem dX1_setGains_53 : decode cX1_setGains 53 = .ok (.aload_n 0, 1) := by decide +kernel
theorem dX1_setGains_54 : decode cX1_setGains 54 = .ok (.getfield 10, 3) := by decide +kernel
theorem dX1_setGains_57 : decode cX1_setGains 57 = .ok (.iload_n 2, 1) := by decide +kernel
theorem dX1_setGains_58 : decode cX1_setGains 58 = .ok (.putfield 59, 3) := by decide +kernel
theorem dX1_setGains_61 : decode cX1_setGains 61 = .ok (.iload_n 3, 1) := by decide +kernel
theorem dX1_setGains_62 : decode cX1_setGains 62 = .ok (.ireturn, 1) := by decide +kernel
set_option maxRecDepth 20000 in
theorem ggX1_setMaxStep_X1_isWithin : GoodIn wsX1_setMaxStep wsX1_isWithin := goodIn_r _ [6] (by decide +kernel) (by decide +kernel)
set_option maxRecDepth 20000 in
theorem gX1_setMaxStep_X1_isWithin : GoodIn wsX1_setMaxStep (va_wsS RX1 20 yX1_isWithin wsX1_isWithin) := goodIn_app (goodIn_of _ (by decide +kernel)) ggX1_setMaxStep_X1_isWithin
theorem dX1_setMaxStep_0 : decode cX1_setMaxStep 0 = .ok (.iload_n 1, 1) := by decide +kernel
theorem dX1_setMaxStep_1 : decode cX1_setMaxStep 1 = .ok (.iconst 1, 1) := by decide +kernel
theorem dX1_setMaxStep_2 : decode cX1_setMaxStep 2 = .ok (.sipush 20000, 3) := by decide +kernel
theorem dX1_setMaxStep_5 : decode cX1_setMaxStep 5 = .ok (.invokestatic 20, 3) := by decide +kernel
theorem dX1_setMaxStep_8 : decode cX1_setMaxStep 8 = .ok (.ifCond .ne 6, 3) := by decide +kernel
theorem dX1_setMaxStep_11 : decode cX1_setMaxStep 11 = .ok (.ldc 24, 2) := by decide +kernel
theorem dX1_setMaxStep_13 : decode cX1_setMaxStep 13 = .ok (.ireturn, 1) := by decide +kernel
theorem dX1_setMaxStep_14 : decode cX1_setMaxStep 14 = .ok (.aload_n 0, 1) := by decide +kernel
theorem dX1_setMaxStep_15 : decode cX1_setMaxStep 15 = .ok (.getfield 10, 3) := by decide +kernel
theorem dX1_setMaxStep_18 : decode cX1_setMaxStep 18 = .ok (.getfield 62, 3) := by decide +kernel
theorem dX1_setMaxStep_21 : decode cX1_setMaxStep 21 = .ok (.istore_n 2, 1) := by decide +kernel
theorem dX1_setMaxStep_22 : decode cX1_setMaxStep 22 = .ok (.aload_n 0, 1) := by decide +kernel
theorem dX1_setMaxStep_23 : decode cX1_setMaxStep 23 = .ok (.getfield 10, 3) := by decide +kernel
theorem dX1_setMaxStep_26 : decode cX1_setMaxStep 26 = .ok (.iload_n 1, 1) := by decide +kernel
theorem dX1_setMaxStep_27 : decode cX1_setMaxStep 27 = .ok (.putfield 62, 3) := by decide +kernel
theorem dX1_setMaxStep_30 : decode cX1_setMaxStep 30 = .ok (.iload_n 2, 1) := by decide +kernel
theorem dX1_setMaxStep_31 : decode cX1_setMaxStep 31 = .ok (.ireturn, 1) := by decide +kernel
set_option maxRecDepth 20000 in
theorem ggX1_place_X1_isNode : GoodIn wsX1_place wsX1_isNode := goodIn_r _ [10, 5, 11, 12, 9, 13, 23, 24, 25, 26, 27, 28, 29, 30, 31, 32, 33, 34, 35] (by decide +kernel) (by decide +kernel)
set_option maxRecDepth 20000 in
theorem gX1_place_X1_isNode : GoodIn wsX1_place (wsV RX1 47 RX1 yX1_isNode wsX1_isNode) := goodIn_app (goodIn_of _ (by decide +kernel)) ggX1_place_X1_isNode
set_option maxRecDepth 20000 in
theorem ggX1_place_X1_isWithin : GoodIn wsX1_place wsX1_isWithin := goodIn_r _ [13] (by decide +kernel) (by decide +kernel)
set_option maxRecDepth 20000 in
theorem gX1_place_X1_isWithin : GoodIn wsX1_place (va_wsS RX1 20 yX1_isWithin wsX1_isWithin) := goodIn_app (goodIn_of _ (by decide +kernel)) ggX1_place_X1_isWithin
set_option maxRecDepth 20000 in
theorem ggX1_place_X0_settle : GoodIn wsX1_place wsX0_settle := goodIn_r _ [18, 19, 20, 21, 22, 25, 26, 27, 28, 29, 30, 31, 32, 33, 34, 35] (by decide +kernel) (by decide +kernel)
set_option maxRecDepth 20000 in
theorem gX1_place_X0_settle : GoodIn wsX1_place (wsV RX1 70 RX0 yX0_settle wsX0_settle) := goodIn_app (goodIn_of _ (by decide +kernel)) ggX1_place_X0_settle
theorem dX1_place_0 : decode cX1_place 0 = .ok (.aload_n 0, 1) := by decide +kernel
theorem dX1_place_1 : decode cX1_place 1 = .ok (.iload_n 1, 1) := by decide +kernel
theorem dX1_place_2 : decode cX1_place 2 = .ok (.invokevirtual 47, 3) := by decide +kernel
theorem dX1_place_5 : decode cX1_place 5 = .ok (.ifCond .ne 6, 3) := by decide +kernel
theorem dX1_place_8 : decode cX1_place 8 = .ok (.ldc 51, 2) := by decide +kernel
theorem dX1_place_10 : decode cX1_place 10 = .ok (.ireturn, 1) := by decide +kernel
theorem dX1_place_11 : decode cX1_place 11 = .ok (.iload_n 2, 1) := by decide +kernel
theorem dX1_place_12 : decode cX1_place 12 = .ok (.ldc 65, 2) := by decide +kernel
theorem dX1_place_14 : decode cX1_place 14 = .ok (.ldc 66, 2) := by decide +kernel
theorem dX1_place_16 : decode cX1_place 16 = .ok (.invokestatic 20, 3) := by decide +kernel
theorem dX1_place_19 : decode cX1_place 19 = .ok (.ifCond .eq 25, 3) := by decide +kernel
theorem dX1_place_22 : decode cX1_place 22 = .ok (.iload_n 3, 1) := by decide +kernel
theorem dX1_place_23 : decode cX1_place 23 = .ok (.ldc 65, 2) := by decide +kernel
theorem dX1_place_25 : decode cX1_place 25 = .ok (.ldc 66, 2) := by decide +kernel
theorem dX1_place_27 : decode cX1_place 27 = .ok (.invokestatic 20, 3) := by decide +kernel
theorem dX1_place_30 : decode cX1_place 30 = .ok (.ifCond .eq 14, 3) := by decide +kernel
theorem dX1_place_33 : decode cX1_place 33 = .ok (.iload 4, 2) := by decide +kernel
theorem dX1_place_35 : decode cX1_place 35 = .ok (.iconst 0, 1) := by decide +kernel
theorem dX1_place_36 : decode cX1_place 36 = .ok (.ldc 66, 2) := by decide +kernel
theorem dX1_place_38 : decode cX1_place 38 = .ok (.invokestatic 20, 3) := by decide +kernel
theorem dX1_place_41 : decode cX1_place 41 = .ok (.ifCond .ne 6, 3) := by decide +kernel
theorem dX1_place_44 : decode cX1_place 44 = .ok (.ldc 24, 2) := by decide +kernel
theorem dX1_place_46 : decode cX1_place 46 = .ok (.ireturn, 1) := by decide +kernel
theorem dX1_place_47 : decode cX1_place 47 = .ok (.aload_n 0, 1) := by decide +kernel
theorem dX1_place_48 : decode cX1_place 48 = .ok (.getfield 10, 3) := by decide +kernel
theorem dX1_place_51 : decode cX1_place 51 = .ok (.getfield 67, 3) := by decide +kernel
theorem dX1_place_54 : decode cX1_place 54 = .ok (.iload_n 1, 1) := by decide +kernel
theorem dX1_place_55 : decode cX1_place 55 = .ok (.iaload, 1) := by decide +kernel
theorem dX1_place_56 : decode cX1_place 56 = .ok (.istore 5, 2) := by decide +kernel
theorem dX1_place_58 : decode cX1_place 58 = .ok (.aload_n 0, 1) := by decide +kernel
theorem dX1_place_59 : decode cX1_place 59 = .ok (.getfield 10, 3) := by decide +kernel
theorem dX1_place_62 : decode cX1_place 62 = .ok (.iload_n 1, 1) := by decide +kernel
theorem dX1_place_63 : decode cX1_place 63 = .ok (.iload_n 2, 1) := by decide +kernel
theorem dX1_place_64 : decode cX1_place 64 = .ok (.iload_n 3, 1) := by decide +kernel
theorem dX1_place_65 : decode cX1_place 65 = .ok (.iload 4, 2) := by decide +kernel
theorem dX1_place_67 : decode cX1_place 67 = .ok (.sipush 1000, 3) := by decide +kernel
theorem dX1_place_70 : decode cX1_place 70 = .ok (.invokevirtual 70, 3) := by decide +kernel
theorem dX1_place_73 : decode cX1_place 73 = .ok (.iload 5, 2) := by decide +kernel
theorem dX1_place_75 : decode cX1_place 75 = .ok (.ireturn, 1) := by decide +kernel
set_option maxRecDepth 20000 in
theorem ggX1_x_X1_isNode : GoodIn wsX1_x wsX1_isNode := goodIn_r _ [7, 1, 8, 9, 6, 10, 11, 12, 13, 14, 15, 16, 17, 18, 19, 20, 21, 22, 23] (by decide +kernel) (by decide +kernel)
set_option maxRecDepth 20000 in
theorem gX1_x_X1_isNode : GoodIn wsX1_x (wsV RX1 47 RX1 yX1_isNode wsX1_isNode) := goodIn_app (goodIn_of _ (by decide +kernel)) ggX1_x_X1_isNode
theorem dX1_x_0 : decode cX1_x 0 = .ok (.aload_n 0, 1) := by decide +kernel
theorem dX1_x_1 : decode cX1_x 1 = .ok (.iload_n 1, 1) := by decide +kernel
theorem dX1_x_2 : decode cX1_x 2 = .ok (.invokevirtual 47, 3) := by decide +kernel
theorem dX1_x_5 : decode cX1_x 5 = .ok (.ifCond .eq 15, 3) := by decide +kernel
theorem dX1_x_8 : decode cX1_x 8 = .ok (.aload_n 0, 1) := by decide +kernel
theorem dX1_x_9 : decode cX1_x 9 = .ok (.getfield 10, 3) := by decide +kernel
theorem dX1_x_12 : decode cX1_x 12 = .ok (.getfield 74, 3) := by decide +kernel
theorem dX1_x_15 : decode cX1_x 15 = .ok (.iload_n 1, 1) := by decide +kernel
theorem dX1_x_16 : decode cX1_x 16 = .ok (.iaload, 1) := by decide +kernel
theorem dX1_x_17 : decode cX1_x 17 = .ok (.goto 5, 3) := by decide +kernel
theorem dX1_x_20 : decode cX1_x 20 = .ok (.ldc 51, 2) := by decide +kernel
theorem dX1_x_22 : decode cX1_x 22 = .ok (.ireturn, 1) := by decide +kernel
set_option maxRecDepth 20000 in
theorem ggX1_y_X1_isNode : GoodIn wsX1_y wsX1_isNode := goodIn_r _ [7, 1, 8, 9, 6, 10, 11, 12, 13, 14, 15, 16, 17, 18, 19, 20, 21, 22, 23] (by decide +kernel) (by decide +kernel)
set_option maxRecDepth 20000 in
theorem gX1_y_X1_isNode : GoodIn wsX1_y (wsV RX1 47 RX1 yX1_isNode wsX1_isNode) := goodIn_app (goodIn_of _ (by decide +kernel)) ggX1_y_X1_isNode
theorem dX1_y_0 : decode cX1_y 0 = .ok (.aload_n 0, 1) := by decide +kernel
theorem dX1_y_1 : decode cX1_y 1 = .ok (.iload_n 1, 1) := by decide +kernel
theorem dX1_y_2 : decode cX1_y 2 = .ok (.invokevirtual 47, 3) := by decide +kernel
theorem dX1_y_5 : decode cX1_y 5 = .ok (.ifCond .eq 15, 3) := by decide +kernel
theorem dX1_y_8 : decode cX1_y 8 = .ok (.aload_n 0, 1) := by decide +kernel
theorem dX1_y_9 : decode cX1_y 9 = .ok (.getfield 10, 3) := by decide +kernel
theorem dX1_y_12 : decode cX1_y 12 = .ok (.getfield 77, 3) := by decide +kernel
theorem dX1_y_15 : decode cX1_y 15 = .ok (.iload_n 1, 1) := by decide +kernel
theorem dX1_y_16 : decode cX1_y 16 = .ok (.iaload, 1) := by decide +kernel
theorem dX1_y_17 : decode cX1_y 17 = .ok (.goto 5, 3) := by decide +kernel
theorem dX1_y_20 : decode cX1_y 20 = .ok (.ldc 51, 2) := by decide +kernel
theorem dX1_y_22 : decode cX1_y 22 = .ok (.ireturn, 1) := by decide +kernel
set_option maxRecDepth 20000 in
theorem ggX1_height_X1_isNode : GoodIn wsX1_height wsX1_isNode := goodIn_r _ [7, 1, 8, 9, 6, 10, 11, 12, 13, 14, 15, 16, 17, 18, 19, 20, 21, 22, 23] (by decide +kernel) (by decide +kernel)
set_option maxRecDepth 20000 in
theorem gX1_height_X1_isNode : GoodIn wsX1_height (wsV RX1 47 RX1 yX1_isNode wsX1_isNode) := goodIn_app (goodIn_of _ (by decide +kernel)) ggX1_height_X1_isNode
theorem dX1_height_0 : decode cX1_height 0 = .ok (.aload_n 0, 1) := by decide +kernel
theorem dX1_height_1 : decode cX1_height 1 = .ok (.iload_n 1, 1) := by decide +kernel
theorem dX1_height_2 : decode cX1_height 2 = .ok (.invokevirtual 47, 3) := by decide +kernel
theorem dX1_height_5 : decode cX1_height 5 = .ok (.ifCond .eq 15, 3) := by decide +kernel
theorem dX1_height_8 : decode cX1_height 8 = .ok (.aload_n 0, 1) := by decide +kernel
theorem dX1_height_9 : decode cX1_height 9 = .ok (.getfield 10, 3) := by decide +kernel
theorem dX1_height_12 : decode cX1_height 12 = .ok (.getfield 80, 3) := by decide +kernel
theorem dX1_height_15 : decode cX1_height 15 = .ok (.iload_n 1, 1) := by decide +kernel
theorem dX1_height_16 : decode cX1_height 16 = .ok (.iaload, 1) := by decide +kernel
theorem dX1_height_17 : decode cX1_height 17 = .ok (.goto 5, 3) := by decide +kernel
theorem dX1_height_20 : decode cX1_height 20 = .ok (.ldc 51, 2) := by decide +kernel
theorem dX1_height_22 : decode cX1_height 22 = .ok (.ireturn, 1) := by decide +kernel
set_option maxRecDepth 20000 in
theorem ggX1_error_X1_isNode : GoodIn wsX1_error wsX1_isNode := goodIn_r _ [7, 1, 8, 9, 6, 10, 11, 12, 13, 14, 15, 16, 17, 18, 19, 20, 21, 22, 23] (by decide +kernel) (by decide +kernel)
set_option maxRecDepth 20000 in
theorem gX1_error_X1_isNode : GoodIn wsX1_error (wsV RX1 47 RX1 yX1_isNode wsX1_isNode) := goodIn_app (goodIn_of _ (by decide +kernel)) ggX1_error_X1_isNode
theorem dX1_error_0 : decode cX1_error 0 = .ok (.aload_n 0, 1) := by decide +kernel
theorem dX1_error_1 : decode cX1_error 1 = .ok (.iload_n 1, 1) := by decide +kernel
theorem dX1_error_2 : decode cX1_error 2 = .ok (.invokevirtual 47, 3) := by decide +kernel
theorem dX1_error_5 : decode cX1_error 5 = .ok (.ifCond .eq 15, 3) := by decide +kernel
theorem dX1_error_8 : decode cX1_error 8 = .ok (.aload_n 0, 1) := by decide +kernel
theorem dX1_error_9 : decode cX1_error 9 = .ok (.getfield 10, 3) := by decide +kernel
theorem dX1_error_12 : decode cX1_error 12 = .ok (.getfield 67, 3) := by decide +kernel
theorem dX1_error_15 : decode cX1_error 15 = .ok (.iload_n 1, 1) := by decide +kernel
theorem dX1_error_16 : decode cX1_error 16 = .ok (.iaload, 1) := by decide +kernel
theorem dX1_error_17 : decode cX1_error 17 = .ok (.goto 5, 3) := by decide +kernel
theorem dX1_error_20 : decode cX1_error 20 = .ok (.ldc 51, 2) := by decide +kernel
theorem dX1_error_22 : decode cX1_error 22 = .ok (.ireturn, 1) := by decide +kernel
set_option maxRecDepth 20000 in
theorem ggX1_predict_X1_pairFault : GoodIn wsX1_predict wsX1_pairFault := goodIn_r _ [6, 7, 8, 9, 10, 11, 5, 12, 1, 13, 14, 15, 29, 30, 31, 32, 33, 34, 35, 36, 37, 38, 39, 40, 41] (by decide +kernel) (by decide +kernel)
set_option maxRecDepth 20000 in
theorem gX1_predict_X1_pairFault : GoodIn wsX1_predict (wsV RX1 33 RX1 yX1_pairFault wsX1_pairFault) := goodIn_app (goodIn_of _ (by decide +kernel)) ggX1_predict_X1_pairFault
set_option maxRecDepth 20000 in
theorem ggX1_predict_X0_predicted : GoodIn wsX1_predict wsX0_predicted := goodIn_r _ [20, 21, 22, 23, 24, 5, 25, 26, 27, 28, 31, 32, 33, 34, 35, 36, 37, 38, 39, 40, 41] (by decide +kernel) (by decide +kernel)
set_option maxRecDepth 20000 in
theorem gX1_predict_X0_predicted : GoodIn wsX1_predict (wsV RX1 83 RX0 yX0_predicted wsX0_predicted) := goodIn_app (goodIn_of _ (by decide +kernel)) ggX1_predict_X0_predicted
theorem dX1_predict_0 : decode cX1_predict 0 = .ok (.aload_n 0, 1) := by decide +kernel
theorem dX1_predict_1 : decode cX1_predict 1 = .ok (.iload_n 1, 1) := by decide +kernel
theorem dX1_predict_2 : decode cX1_predict 2 = .ok (.iload_n 2, 1) := by decide +kernel
theorem dX1_predict_3 : decode cX1_predict 3 = .ok (.invokevirtual 33, 3) := by decide +kernel
theorem dX1_predict_6 : decode cX1_predict 6 = .ok (.istore_n 3, 1) := by decide +kernel
theorem dX1_predict_7 : decode cX1_predict 7 = .ok (.iload_n 3, 1) := by decide +kernel
theorem dX1_predict_8 : decode cX1_predict 8 = .ok (.ifCond .eq 7, 3) := by decide +kernel
theorem dX1_predict_11 : decode cX1_predict 11 = .ok (.iload_n 3, 1) := by decide +kernel
theorem dX1_predict_12 : decode cX1_predict 12 = .ok (.goto 12, 3) := by decide +kernel
theorem dX1_predict_15 : decode cX1_predict 15 = .ok (.aload_n 0, 1) := by decide +kernel
theorem dX1_predict_16 : decode cX1_predict 16 = .ok (.getfield 10, 3) := by decide +kernel
theorem dX1_predict_19 : decode cX1_predict 19 = .ok (.iload_n 1, 1) := by decide +kernel
theorem dX1_predict_20 : decode cX1_predict 20 = .ok (.iload_n 2, 1) := by decide +kernel
theorem dX1_predict_21 : decode cX1_predict 21 = .ok (.invokevirtual 83, 3) := by decide +kernel
theorem dX1_predict_24 : decode cX1_predict 24 = .ok (.ireturn, 1) := by decide +kernel
set_option maxRecDepth 20000 in
theorem ggX1_measure_X1_knownPairFault : GoodIn wsX1_measure wsX1_knownPairFault := goodIn_r _ [6, 1, 7, 8, 9, 10, 5, 11, 12, 13, 14, 15, 16, 17, 18, 19, 20, 21, 22, 23, 24, 25, 26, 27, 28, 29, 30, 107, 108, 109, 110, 111, 112, 113, 114, 115, 116, 117, 118, 119] (by decide +kernel) (by decide +kernel)
set_option maxRecDepth 20000 in
theorem gX1_measure_X1_knownPairFault : GoodIn wsX1_measure (wsV RX1 44 RX1 yX1_knownPairFault wsX1_knownPairFault) := goodIn_app (goodIn_of _ (by decide +kernel)) ggX1_measure_X1_knownPairFault
set_option maxRecDepth 20000 in
theorem ggX1_measure_X0_update : GoodIn wsX1_measure wsX0_update := goodIn_r _ [34, 35, 36, 37, 24, 38, 39, 40, 41, 42, 5, 43, 44, 45, 46, 47, 48, 49, 50, 51, 52, 53, 54, 55, 56, 57, 58, 59, 60, 61, 62, 63, 64, 65, 26, 27, 28, 29, 30, 66, 67, 68, 69, 70, 71, 72, 73, 74, 75, 76, 77, 78, 79, 80, 81, 82, 83, 84, 85, 86, 87, 88, 89, 90, 91, 92, 93, 94, 95, 96, 97, 98, 99, 100, 101, 102, 103, 104, 105, 109, 110, 111, 112, 113, 114, 115, 116, 117, 118, 119] (by decide +kernel) (by decide +kernel)
set_option maxRecDepth 20000 in
theorem gX1_measure_X0_update : GoodIn wsX1_measure (wsV RX1 86 RX0 yX0_update wsX0_update) := goodIn_app (goodIn_of _ (by decide +kernel)) ggX1_measure_X0_update
set_option maxRecDepth 20000 in
theorem ggX1_measure_X0_sample : GoodIn wsX1_measure wsX0_sample := goodIn_r _ [64, 65, 26, 27, 28, 24, 29, 30, 109, 110, 111, 112, 113, 114, 115, 116, 117, 118, 119] (by decide +kernel) (by decide +kernel)
set_option maxRecDepth 20000 in
theorem gX1_measure_X0_sample : GoodIn wsX1_measure (wsV RX1 90 RX0 yX0_sample wsX0_sample) := goodIn_app (goodIn_of _ (by decide +kernel)) ggX1_measure_X0_sample
theorem dX1_measure_0 : decode cX1_measure 0 = .ok (.aload_n 0, 1) := by decide +kernel
theorem dX1_measure_1 : decode cX1_measure 1 = .ok (.iload_n 1, 1) := by decide +kernel
theorem dX1_measure_2 : decode cX1_measure 2 = .ok (.iload_n 2, 1) := by decide +kernel
theorem dX1_measure_3 : decode cX1_measure 3 = .ok (.invokevirtual 44, 3) := by decide +kernel
theorem dX1_measure_6 : decode cX1_measure 6 = .ok (.istore_n 3, 1) := by decide +kernel
theorem dX1_measure_7 : decode cX1_measure 7 = .ok (.iload_n 3, 1) := by decide +kernel
theorem dX1_measure_8 : decode cX1_measure 8 = .ok (.ifCond .eq 5, 3) := by decide +kernel
theorem dX1_measure_11 : decode cX1_measure 11 = .ok (.iload_n 3, 1) := by decide +kernel
theorem dX1_measure_12 : decode cX1_measure 12 = .ok (.ireturn, 1) := by decide +kernel
theorem dX1_measure_13 : decode cX1_measure 13 = .ok (.aload_n 0, 1) := by decide +kernel
theorem dX1_measure_14 : decode cX1_measure 14 = .ok (.getfield 10, 3) := by decide +kernel
theorem dX1_measure_17 : decode cX1_measure 17 = .ok (.iload_n 1, 1) := by decide +kernel
theorem dX1_measure_18 : decode cX1_measure 18 = .ok (.iload_n 2, 1) := by decide +kernel
theorem dX1_measure_19 : decode cX1_measure 19 = .ok (.invokevirtual 86, 3) := by decide +kernel
theorem dX1_measure_22 : decode cX1_measure 22 = .ok (.aload_n 0, 1) := by decide +kernel
theorem dX1_measure_23 : decode cX1_measure 23 = .ok (.getfield 10, 3) := by decide +kernel
theorem dX1_measure_26 : decode cX1_measure 26 = .ok (.iload_n 1, 1) := by decide +kernel
theorem dX1_measure_27 : decode cX1_measure 27 = .ok (.iload_n 2, 1) := by decide +kernel
theorem dX1_measure_28 : decode cX1_measure 28 = .ok (.invokevirtual 90, 3) := by decide +kernel
theorem dX1_measure_31 : decode cX1_measure 31 = .ok (.ireturn, 1) := by decide +kernel
set_option maxRecDepth 20000 in
theorem ggX1_run_X1_isWithin : GoodIn wsX1_run wsX1_isWithin := goodIn_r _ [6] (by decide +kernel) (by decide +kernel)
set_option maxRecDepth 20000 in
theorem gX1_run_X1_isWithin : GoodIn wsX1_run (va_wsS RX1 20 yX1_isWithin wsX1_isWithin) := goodIn_app (goodIn_of _ (by decide +kernel)) ggX1_run_X1_isWithin
set_option maxRecDepth 20000 in
theorem ggX1_run_X0_playRound : GoodIn wsX1_run wsX0_playRound := goodIn_r _ [11, 12, 13, 14, 15, 16, 17, 18, 19, 20, 10, 21, 22, 23, 24, 25, 26, 27, 28, 29, 30, 31, 32, 33, 34, 35, 36, 37, 38, 5, 39, 40, 41, 42, 43, 44, 45, 46, 47, 48, 49, 50, 51, 52, 53, 54, 55, 56, 57, 58, 59, 60, 61, 62, 63, 64, 65, 66, 67, 68, 69, 70, 71, 72, 73, 74, 75, 76, 77, 78, 79, 80, 81, 82, 83, 84, 85, 86, 87, 88, 89, 90, 91, 92, 93, 94, 95, 96, 97, 98, 99, 100, 101, 104, 105, 106, 107, 108, 109, 110, 111, 112, 113, 114] (by decide +kernel) (by decide +kernel)
set_option maxRecDepth 20000 in
theorem gX1_run_X0_playRound : GoodIn wsX1_run (wsV RX1 93 RX0 yX0_playRound wsX0_playRound) := goodIn_app (goodIn_of _ (by decide +kernel)) ggX1_run_X0_playRound
theorem dX1_run_0 : decode cX1_run 0 = .ok (.iload_n 1, 1) := by decide +kernel
theorem dX1_run_1 : decode cX1_run 1 = .ok (.iconst 1, 1) := by decide +kernel
theorem dX1_run_2 : decode cX1_run 2 = .ok (.bipush 100, 2) := by decide +kernel
theorem dX1_run_4 : decode cX1_run 4 = .ok (.invokestatic 20, 3) := by decide +kernel
theorem dX1_run_7 : decode cX1_run 7 = .ok (.ifCond .ne 6, 3) := by decide +kernel
theorem dX1_run_10 : decode cX1_run 10 = .ok (.ldc 24, 2) := by decide +kernel
theorem dX1_run_12 : decode cX1_run 12 = .ok (.ireturn, 1) := by decide +kernel
theorem dX1_run_13 : decode cX1_run 13 = .ok (.iconst 0, 1) := by decide +kernel
theorem dX1_run_14 : decode cX1_run 14 = .ok (.istore_n 2, 1) := by decide +kernel
theorem dX1_run_15 : decode cX1_run 15 = .ok (.iconst 0, 1) := by decide +kernel
theorem dX1_run_16 : decode cX1_run 16 = .ok (.istore_n 3, 1) := by decide +kernel
theorem dX1_run_17 : decode cX1_run 17 = .ok (.iload_n 3, 1) := by decide +kernel
theorem dX1_run_18 : decode cX1_run 18 = .ok (.iload_n 1, 1) := by decide +kernel
theorem dX1_run_19 : decode cX1_run 19 = .ok (.if_icmp .ge 19, 3) := by decide +kernel
theorem dX1_run_22 : decode cX1_run 22 = .ok (.iload_n 2, 1) := by decide +kernel
theorem dX1_run_23 : decode cX1_run 23 = .ok (.aload_n 0, 1) := by decide +kernel
theorem dX1_run_24 : decode cX1_run 24 = .ok (.getfield 10, 3) := by decide +kernel
theorem dX1_run_27 : decode cX1_run 27 = .ok (.invokevirtual 93, 3) := by decide +kernel
theorem dX1_run_30 : decode cX1_run 30 = .ok (.iadd, 1) := by decide +kernel
theorem dX1_run_31 : decode cX1_run 31 = .ok (.istore_n 2, 1) := by decide +kernel
theorem dX1_run_32 : decode cX1_run 32 = .ok (.iinc 3 1, 3) := by decide +kernel
theorem dX1_run_35 : decode cX1_run 35 = .ok (.goto (-18), 3) := by decide +kernel
theorem dX1_run_38 : decode cX1_run 38 = .ok (.iload_n 2, 1) := by decide +kernel
theorem dX1_run_39 : decode cX1_run 39 = .ok (.ireturn, 1) := by decide +kernel
theorem dX1_roundCounter_0 : decode cX1_roundCounter 0 = .ok (.aload_n 0, 1) := by decide +kernel
theorem dX1_roundCounter_1 : decode cX1_roundCounter 1 = .ok (.getfield 10, 3) := by decide +kernel
theorem dX1_roundCounter_4 : decode cX1_roundCounter 4 = .ok (.getfield 97, 3) := by decide +kernel
theorem dX1_roundCounter_7 : decode cX1_roundCounter 7 = .ok (.ireturn, 1) := by decide +kernel
set_option maxRecDepth 20000 in
theorem ggX1_meanError_X0_isKnown : GoodIn wsX1_meanError wsX0_isKnown := goodIn_r _ [7, 8, 9, 10, 6, 11, 12, 40, 41, 42, 43, 44, 45, 46, 47, 48, 49, 50] (by decide +kernel) (by decide +kernel)
set_option maxRecDepth 20000 in
theorem gX1_meanError_X0_isKnown : GoodIn wsX1_meanError (wsV RX1 100 RX0 yX0_isKnown wsX0_isKnown) := goodIn_app (goodIn_of _ (by decide +kernel)) ggX1_meanError_X0_isKnown
set_option maxRecDepth 20000 in
theorem ggX1_meanError_X0_relative : GoodIn wsX1_meanError wsX0_relative := goodIn_r _ [16, 17, 18, 19, 20, 21, 8, 9, 10, 6, 11, 12, 22, 23, 24, 25, 26, 27, 28, 29, 30, 31, 32, 33, 34, 35, 36, 40, 41, 42, 43, 44, 45, 46, 47, 48, 49, 50] (by decide +kernel) (by decide +kernel)
set_option maxRecDepth 20000 in
theorem gX1_meanError_X0_relative : GoodIn wsX1_meanError (wsV RX1 104 RX0 yX0_relative wsX0_relative) := goodIn_app (goodIn_of _ (by decide +kernel)) ggX1_meanError_X0_relative
set_option maxRecDepth 20000 in
theorem ggX1_meanError_X1_quotient : GoodIn wsX1_meanError wsX1_quotient := goodIn_r _ [36] (by decide +kernel) (by decide +kernel)
set_option maxRecDepth 20000 in
theorem gX1_meanError_X1_quotient : GoodIn wsX1_meanError (va_wsS RX1 108 yX1_quotient wsX1_quotient) := goodIn_app (goodIn_of _ (by decide +kernel)) ggX1_meanError_X1_quotient
theorem dX1_meanError_0 : decode cX1_meanError 0 = .ok (.lconst 0, 1) := by decide +kernel
theorem dX1_meanError_1 : decode cX1_meanError 1 = .ok (.lstore_n 1, 1) := by decide +kernel
theorem dX1_meanError_2 : decode cX1_meanError 2 = .ok (.iconst 0, 1) := by decide +kernel
theorem dX1_meanError_3 : decode cX1_meanError 3 = .ok (.istore_n 3, 1) := by decide +kernel
theorem dX1_meanError_4 : decode cX1_meanError 4 = .ok (.iconst 0, 1) := by decide +kernel
theorem dX1_meanError_5 : decode cX1_meanError 5 = .ok (.istore 4, 2) := by decide +kernel
theorem dX1_meanError_7 : decode cX1_meanError 7 = .ok (.iload 4, 2) := by decide +kernel
theorem dX1_meanError_9 : decode cX1_meanError 9 = .ok (.aload_n 0, 1) := by decide +kernel
theorem dX1_meanError_10 : decode cX1_meanError 10 = .ok (.getfield 10, 3) := by decide +kernel
theorem dX1_meanError_13 : decode cX1_meanError 13 = .ok (.getfield 25, 3) := by decide +kernel
theorem dX1_meanError_16 : decode cX1_meanError 16 = .ok (.if_icmp .ge 65, 3) := by decide +kernel
theorem dX1_meanError_19 : decode cX1_meanError 19 = .ok (.iload 4, 2) := by decide +kernel
theorem dX1_meanError_21 : decode cX1_meanError 21 = .ok (.iconst 1, 1) := by decide +kernel
theorem dX1_meanError_22 : decode cX1_meanError 22 = .ok (.iadd, 1) := by decide +kernel
theorem dX1_meanError_23 : decode cX1_meanError 23 = .ok (.istore 5, 2) := by decide +kernel
theorem dX1_meanError_25 : decode cX1_meanError 25 = .ok (.iload 5, 2) := by decide +kernel
theorem dX1_meanError_27 : decode cX1_meanError 27 = .ok (.aload_n 0, 1) := by decide +kernel
theorem dX1_meanError_28 : decode cX1_meanError 28 = .ok (.getfield 10, 3) := by decide +kernel
theorem dX1_meanError_31 : decode cX1_meanError 31 = .ok (.getfield 25, 3) := by decide +kernel
theorem dX1_meanError_34 : decode cX1_meanError 34 = .ok (.if_icmp .ge 41, 3) := by decide +kernel
theorem dX1_meanError_37 : decode cX1_meanError 37 = .ok (.aload_n 0, 1) := by decide +kernel
theorem dX1_meanError_38 : decode cX1_meanError 38 = .ok (.getfield 10, 3) := by decide +kernel
theorem dX1_meanError_41 : decode cX1_meanError 41 = .ok (.iload 4, 2) := by decide +kernel
theorem dX1_meanError_43 : decode cX1_meanError 43 = .ok (.iload 5, 2) := by decide +kernel
theorem dX1_meanError_45 : decode cX1_meanError 45 = .ok (.invokevirtual 100, 3) := by decide +kernel
theorem dX1_meanError_48 : decode cX1_meanError 48 = .ok (.ifCond .eq 21, 3) := by decide +kernel
theorem dX1_meanError_51 : decode cX1_meanError 51 = .ok (.lload_n 1, 1) := by decide +kernel
theorem dX1_meanError_52 : decode cX1_meanError 52 = .ok (.aload_n 0, 1) := by decide +kernel
theorem dX1_meanError_53 : decode cX1_meanError 53 = .ok (.getfield 10, 3) := by decide +kernel
theorem dX1_meanError_56 : decode cX1_meanError 56 = .ok (.iload 4, 2) := by decide +kernel
theorem dX1_meanError_58 : decode cX1_meanError 58 = .ok (.iload 5, 2) := by decide +kernel
theorem dX1_meanError_60 : decode cX1_meanError 60 = .ok (.invokevirtual 104, 3) := by decide +kernel
theorem dX1_meanError_63 : decode cX1_meanError 63 = .ok (.i2l, 1) := by decide +kernel
theorem dX1_meanError_64 : decode cX1_meanError 64 = .ok (.ladd, 1) := by decide +kernel
theorem dX1_meanError_65 : decode cX1_meanError 65 = .ok (.lstore_n 1, 1) := by decide +kernel
theorem dX1_meanError_66 : decode cX1_meanError 66 = .ok (.iinc 3 1, 3) := by decide +kernel
theorem dX1_meanError_69 : decode cX1_meanError 69 = .ok (.iinc 5 1, 3) := by decide +kernel
theorem dX1_meanError_72 : decode cX1_meanError 72 = .ok (.goto (-47), 3) := by decide +kernel
theorem dX1_meanError_75 : decode cX1_meanError 75 = .ok (.iinc 4 1, 3) := by decide +kernel
theorem dX1_meanError_78 : decode cX1_meanError 78 = .ok (.goto (-71), 3) := by decide +kernel
theorem dX1_meanError_81 : decode cX1_meanError 81 = .ok (.iload_n 3, 1) := by decide +kernel
theorem dX1_meanError_82 : decode cX1_meanError 82 = .ok (.ifCond .ne 8, 3) := by decide +kernel
theorem dX1_meanError_85 : decode cX1_meanError 85 = .ok (.ldc 107, 2) := by decide +kernel
theorem dX1_meanError_87 : decode cX1_meanError 87 = .ok (.goto 10, 3) := by decide +kernel
theorem dX1_meanError_90 : decode cX1_meanError 90 = .ok (.lload_n 1, 1) := by decide +kernel
theorem dX1_meanError_91 : decode cX1_meanError 91 = .ok (.iload_n 3, 1) := by decide +kernel
theorem dX1_meanError_92 : decode cX1_meanError 92 = .ok (.i2l, 1) := by decide +kernel
theorem dX1_meanError_93 : decode cX1_meanError 93 = .ok (.invokestatic 108, 3) := by decide +kernel
theorem dX1_meanError_96 : decode cX1_meanError 96 = .ok (.l2i, 1) := by decide +kernel
theorem dX1_meanError_97 : decode cX1_meanError 97 = .ok (.ireturn, 1) := by decide +kernel
set_option maxRecDepth 20000 in
theorem ggX1_worstPair_X0_isKnown : GoodIn wsX1_worstPair wsX0_isKnown := goodIn_r _ [7, 8, 9, 10, 6, 11, 12, 39, 40, 41, 42, 43, 44, 45, 46, 47, 48, 49] (by decide +kernel) (by decide +kernel)
set_option maxRecDepth 20000 in
theorem gX1_worstPair_X0_isKnown : GoodIn wsX1_worstPair (wsV RX1 100 RX0 yX0_isKnown wsX0_isKnown) := goodIn_app (goodIn_of _ (by decide +kernel)) ggX1_worstPair_X0_isKnown
set_option maxRecDepth 20000 in
theorem ggX1_worstPair_X0_relative : GoodIn wsX1_worstPair wsX0_relative := goodIn_r _ [16, 17, 18, 19, 20, 21, 8, 9, 10, 6, 11, 12, 22, 23, 24, 25, 26, 27, 28, 29, 30, 31, 32, 33, 34, 35, 36, 39, 40, 41, 42, 43, 44, 45, 46, 47, 48, 49] (by decide +kernel) (by decide +kernel)
set_option maxRecDepth 20000 in
theorem gX1_worstPair_X0_relative : GoodIn wsX1_worstPair (wsV RX1 104 RX0 yX0_relative wsX0_relative) := goodIn_app (goodIn_of _ (by decide +kernel)) ggX1_worstPair_X0_relative
theorem dX1_worstPair_0 : decode cX1_worstPair 0 = .ok (.ldc 107, 2) := by decide +kernel
theorem dX1_worstPair_2 : decode cX1_worstPair 2 = .ok (.istore_n 1, 1) := by decide +kernel
theorem dX1_worstPair_3 : decode cX1_worstPair 3 = .ok (.iconst (-1), 1) := by decide +kernel
theorem dX1_worstPair_4 : decode cX1_worstPair 4 = .ok (.istore_n 2, 1) := by decide +kernel
theorem dX1_worstPair_5 : decode cX1_worstPair 5 = .ok (.iconst 0, 1) := by decide +kernel
theorem dX1_worstPair_6 : decode cX1_worstPair 6 = .ok (.istore_n 3, 1) := by decide +kernel
theorem dX1_worstPair_7 : decode cX1_worstPair 7 = .ok (.iload_n 3, 1) := by decide +kernel
theorem dX1_worstPair_8 : decode cX1_worstPair 8 = .ok (.aload_n 0, 1) := by decide +kernel
theorem dX1_worstPair_9 : decode cX1_worstPair 9 = .ok (.getfield 10, 3) := by decide +kernel
theorem dX1_worstPair_12 : decode cX1_worstPair 12 = .ok (.getfield 25, 3) := by decide +kernel
theorem dX1_worstPair_15 : decode cX1_worstPair 15 = .ok (.if_icmp .ge 78, 3) := by decide +kernel
theorem dX1_worstPair_18 : decode cX1_worstPair 18 = .ok (.iload_n 3, 1) := by decide +kernel
theorem dX1_worstPair_19 : decode cX1_worstPair 19 = .ok (.iconst 1, 1) := by decide +kernel
theorem dX1_worstPair_20 : decode cX1_worstPair 20 = .ok (.iadd, 1) := by decide +kernel
theorem dX1_worstPair_21 : decode cX1_worstPair 21 = .ok (.istore 4, 2) := by decide +kernel
theorem dX1_worstPair_23 : decode cX1_worstPair 23 = .ok (.iload 4, 2) := by decide +kernel
theorem dX1_worstPair_25 : decode cX1_worstPair 25 = .ok (.aload_n 0, 1) := by decide +kernel
theorem dX1_worstPair_26 : decode cX1_worstPair 26 = .ok (.getfield 10, 3) := by decide +kernel
theorem dX1_worstPair_29 : decode cX1_worstPair 29 = .ok (.getfield 25, 3) := by decide +kernel
theorem dX1_worstPair_32 : decode cX1_worstPair 32 = .ok (.if_icmp .ge 55, 3) := by decide +kernel
theorem dX1_worstPair_35 : decode cX1_worstPair 35 = .ok (.aload_n 0, 1) := by decide +kernel
theorem dX1_worstPair_36 : decode cX1_worstPair 36 = .ok (.getfield 10, 3) := by decide +kernel
theorem dX1_worstPair_39 : decode cX1_worstPair 39 = .ok (.iload_n 3, 1) := by decide +kernel
theorem dX1_worstPair_40 : decode cX1_worstPair 40 = .ok (.iload 4, 2) := by decide +kernel
theorem dX1_worstPair_42 : decode cX1_worstPair 42 = .ok (.invokevirtual 100, 3) := by decide +kernel
theorem dX1_worstPair_45 : decode cX1_worstPair 45 = .ok (.ifCond .eq 36, 3) := by decide +kernel
theorem dX1_worstPair_48 : decode cX1_worstPair 48 = .ok (.aload_n 0, 1) := by decide +kernel
theorem dX1_worstPair_49 : decode cX1_worstPair 49 = .ok (.getfield 10, 3) := by decide +kernel
theorem dX1_worstPair_52 : decode cX1_worstPair 52 = .ok (.iload_n 3, 1) := by decide +kernel
theorem dX1_worstPair_53 : decode cX1_worstPair 53 = .ok (.iload 4, 2) := by decide +kernel
theorem dX1_worstPair_55 : decode cX1_worstPair 55 = .ok (.invokevirtual 104, 3) := by decide +kernel
theorem dX1_worstPair_58 : decode cX1_worstPair 58 = .ok (.iload_n 2, 1) := by decide +kernel
theorem dX1_worstPair_59 : decode cX1_worstPair 59 = .ok (.if_icmp .le 22, 3) := by decide +kernel
theorem dX1_worstPair_62 : decode cX1_worstPair 62 = .ok (.aload_n 0, 1) := by decide +kernel
theorem dX1_worstPair_63 : decode cX1_worstPair 63 = .ok (.getfield 10, 3) := by decide +kernel
theorem dX1_worstPair_66 : decode cX1_worstPair 66 = .ok (.iload_n 3, 1) := by decide +kernel
theorem dX1_worstPair_67 : decode cX1_worstPair 67 = .ok (.iload 4, 2) := by decide +kernel
theorem dX1_worstPair_69 : decode cX1_worstPair 69 = .ok (.invokevirtual 104, 3) := by decide +kernel
theorem dX1_worstPair_72 : decode cX1_worstPair 72 = .ok (.istore_n 2, 1) := by decide +kernel
theorem dX1_worstPair_73 : decode cX1_worstPair 73 = .ok (.bipush 10, 2) := by decide +kernel
theorem dX1_worstPair_75 : decode cX1_worstPair 75 = .ok (.iload_n 3, 1) := by decide +kernel
theorem dX1_worstPair_76 : decode cX1_worstPair 76 = .ok (.imul, 1) := by decide +kernel
theorem dX1_worstPair_77 : decode cX1_worstPair 77 = .ok (.iload 4, 2) := by decide +kernel
theorem dX1_worstPair_79 : decode cX1_worstPair 79 = .ok (.iadd, 1) := by decide +kernel
theorem dX1_worstPair_80 : decode cX1_worstPair 80 = .ok (.istore_n 1, 1) := by decide +kernel
theorem dX1_worstPair_81 : decode cX1_worstPair 81 = .ok (.iinc 4 1, 3) := by decide +kernel
theorem dX1_worstPair_84 : decode cX1_worstPair 84 = .ok (.goto (-61), 3) := by decide +kernel
theorem dX1_worstPair_87 : decode cX1_worstPair 87 = .ok (.iinc 3 1, 3) := by decide +kernel
theorem dX1_worstPair_90 : decode cX1_worstPair 90 = .ok (.goto (-83), 3) := by decide +kernel
theorem dX1_worstPair_93 : decode cX1_worstPair 93 = .ok (.iload_n 1, 1) := by decide +kernel
theorem dX1_worstPair_94 : decode cX1_worstPair 94 = .ok (.ireturn, 1) := by decide +kernel
set_option maxRecDepth 20000 in
theorem ggX1_relativeError_X1_knownPairFault : GoodIn wsX1_relativeError wsX1_knownPairFault := goodIn_r _ [6, 1, 7, 8, 9, 10, 5, 11, 12, 13, 14, 15, 16, 17, 18, 19, 20, 21, 22, 23, 24, 25, 26, 27, 28, 29, 30, 54, 55, 56, 57, 58, 59, 60, 61, 62, 63, 64, 65, 66] (by decide +kernel) (by decide +kernel)
set_option maxRecDepth 20000 in
theorem gX1_relativeError_X1_knownPairFault : GoodIn wsX1_relativeError (wsV RX1 44 RX1 yX1_knownPairFault wsX1_knownPairFault) := goodIn_app (goodIn_of _ (by decide +kernel)) ggX1_relativeError_X1_knownPairFault
set_option maxRecDepth 20000 in
theorem ggX1_relativeError_X0_relative : GoodIn wsX1_relativeError wsX0_relative := goodIn_r _ [34, 35, 36, 37, 38, 39, 26, 27, 28, 24, 29, 30, 40, 41, 42, 43, 44, 45, 46, 47, 5, 48, 49, 50, 51, 52, 53, 56, 57, 58, 59, 60, 61, 62, 63, 64, 65, 66] (by decide +kernel) (by decide +kernel)
set_option maxRecDepth 20000 in
theorem gX1_relativeError_X0_relative : GoodIn wsX1_relativeError (wsV RX1 104 RX0 yX0_relative wsX0_relative) := goodIn_app (goodIn_of _ (by decide +kernel)) ggX1_relativeError_X0_relative
theorem dX1_relativeError_0 : decode cX1_relativeError 0 = .ok (.aload_n 0, 1) := by decide +kernel
theorem dX1_relativeError_1 : decode cX1_relativeError 1 = .ok (.iload_n 1, 1) := by decide +kernel
theorem dX1_relativeError_2 : decode cX1_relativeError 2 = .ok (.iload_n 2, 1) := by decide +kernel
theorem dX1_relativeError_3 : decode cX1_relativeError 3 = .ok (.invokevirtual 44, 3) := by decide +kernel
theorem dX1_relativeError_6 : decode cX1_relativeError 6 = .ok (.istore_n 3, 1) := by decide +kernel
theorem dX1_relativeError_7 : decode cX1_relativeError 7 = .ok (.iload_n 3, 1) := by decide +kernel
theorem dX1_relativeError_8 : decode cX1_relativeError 8 = .ok (.ifCond .eq 7, 3) := by decide +kernel
theorem dX1_relativeError_11 : decode cX1_relativeError 11 = .ok (.iload_n 3, 1) := by decide +kernel
theorem dX1_relativeError_12 : decode cX1_relativeError 12 = .ok (.goto 12, 3) := by decide +kernel
theorem dX1_relativeError_15 : decode cX1_relativeError 15 = .ok (.aload_n 0, 1) := by decide +kernel
theorem dX1_relativeError_16 : decode cX1_relativeError 16 = .ok (.getfield 10, 3) := by decide +kernel
theorem dX1_relativeError_19 : decode cX1_relativeError 19 = .ok (.iload_n 1, 1) := by decide +kernel
theorem dX1_relativeError_20 : decode cX1_relativeError 20 = .ok (.iload_n 2, 1) := by decide +kernel
theorem dX1_relativeError_21 : decode cX1_relativeError 21 = .ok (.invokevirtual 104, 3) := by decide +kernel
theorem dX1_relativeError_24 : decode cX1_relativeError 24 = .ok (.ireturn, 1) := by decide +kernel
set_option maxRecDepth 20000 in
theorem ggX1_nearest_X1_isNode : GoodIn wsX1_nearest wsX1_isNode := goodIn_r _ [9, 2, 10, 11, 8, 12, 31, 32, 33, 34, 35, 36, 37, 38, 39, 40, 41, 42, 43] (by decide +kernel) (by decide +kernel)
set_option maxRecDepth 20000 in
theorem gX1_nearest_X1_isNode : GoodIn wsX1_nearest (wsV RX1 47 RX1 yX1_isNode wsX1_isNode) := goodIn_app (goodIn_of _ (by decide +kernel)) ggX1_nearest_X1_isNode
set_option maxRecDepth 20000 in
theorem ggX1_nearest_X1_isWithin : GoodIn wsX1_nearest wsX1_isWithin := goodIn_r _ [12] (by decide +kernel) (by decide +kernel)
set_option maxRecDepth 20000 in
theorem gX1_nearest_X1_isWithin : GoodIn wsX1_nearest (va_wsS RX1 20 yX1_isWithin wsX1_isWithin) := goodIn_app (goodIn_of _ (by decide +kernel)) ggX1_nearest_X1_isWithin
set_option maxRecDepth 20000 in
theorem ggX1_nearest_X0_rankOf : GoodIn wsX1_nearest wsX0_rankOf := goodIn_r _ [17, 18, 19, 20, 21, 16, 22, 23, 24, 25, 26, 8, 27, 28, 29, 30, 33, 34, 35, 36, 37, 38, 39, 40, 41, 42, 43] (by decide +kernel) (by decide +kernel)
set_option maxRecDepth 20000 in
theorem gX1_nearest_X0_rankOf : GoodIn wsX1_nearest (wsV RX1 112 RX0 yX0_rankOf wsX0_rankOf) := goodIn_app (goodIn_of _ (by decide +kernel)) ggX1_nearest_X0_rankOf
theorem dX1_nearest_0 : decode cX1_nearest 0 = .ok (.aload_n 0, 1) := by decide +kernel
theorem dX1_nearest_1 : decode cX1_nearest 1 = .ok (.iload_n 1, 1) := by decide +kernel
theorem dX1_nearest_2 : decode cX1_nearest 2 = .ok (.invokevirtual 47, 3) := by decide +kernel
theorem dX1_nearest_5 : decode cX1_nearest 5 = .ok (.ifCond .ne 6, 3) := by decide +kernel
theorem dX1_nearest_8 : decode cX1_nearest 8 = .ok (.ldc 51, 2) := by decide +kernel
theorem dX1_nearest_10 : decode cX1_nearest 10 = .ok (.ireturn, 1) := by decide +kernel
theorem dX1_nearest_11 : decode cX1_nearest 11 = .ok (.iload_n 2, 1) := by decide +kernel
theorem dX1_nearest_12 : decode cX1_nearest 12 = .ok (.iconst 0, 1) := by decide +kernel
theorem dX1_nearest_13 : decode cX1_nearest 13 = .ok (.aload_n 0, 1) := by decide +kernel
theorem dX1_nearest_14 : decode cX1_nearest 14 = .ok (.getfield 10, 3) := by decide +kernel
theorem dX1_nearest_17 : decode cX1_nearest 17 = .ok (.getfield 25, 3) := by decide +kernel
theorem dX1_nearest_20 : decode cX1_nearest 20 = .ok (.iconst 2, 1) := by decide +kernel
theorem dX1_nearest_21 : decode cX1_nearest 21 = .ok (.isub, 1) := by decide +kernel
theorem dX1_nearest_22 : decode cX1_nearest 22 = .ok (.invokestatic 20, 3) := by decide +kernel
theorem dX1_nearest_25 : decode cX1_nearest 25 = .ok (.ifCond .ne 6, 3) := by decide +kernel
theorem dX1_nearest_28 : decode cX1_nearest 28 = .ok (.ldc 24, 2) := by decide +kernel
theorem dX1_nearest_30 : decode cX1_nearest 30 = .ok (.ireturn, 1) := by decide +kernel
theorem dX1_nearest_31 : decode cX1_nearest 31 = .ok (.ldc 107, 2) := by decide +kernel
theorem dX1_nearest_33 : decode cX1_nearest 33 = .ok (.istore_n 3, 1) := by decide +kernel
theorem dX1_nearest_34 : decode cX1_nearest 34 = .ok (.iconst 0, 1) := by decide +kernel
theorem dX1_nearest_35 : decode cX1_nearest 35 = .ok (.istore 4, 2) := by decide +kernel
theorem dX1_nearest_37 : decode cX1_nearest 37 = .ok (.iload 4, 2) := by decide +kernel
theorem dX1_nearest_39 : decode cX1_nearest 39 = .ok (.aload_n 0, 1) := by decide +kernel
theorem dX1_nearest_40 : decode cX1_nearest 40 = .ok (.getfield 10, 3) := by decide +kernel
theorem dX1_nearest_43 : decode cX1_nearest 43 = .ok (.getfield 25, 3) := by decide +kernel
theorem dX1_nearest_46 : decode cX1_nearest 46 = .ok (.if_icmp .ge 32, 3) := by decide +kernel
theorem dX1_nearest_49 : decode cX1_nearest 49 = .ok (.iload 4, 2) := by decide +kernel
theorem dX1_nearest_51 : decode cX1_nearest 51 = .ok (.iload_n 1, 1) := by decide +kernel
theorem dX1_nearest_52 : decode cX1_nearest 52 = .ok (.if_icmp .eq 20, 3) := by decide +kernel
theorem dX1_nearest_55 : decode cX1_nearest 55 = .ok (.aload_n 0, 1) := by decide +kernel
theorem dX1_nearest_56 : decode cX1_nearest 56 = .ok (.getfield 10, 3) := by decide +kernel
theorem dX1_nearest_59 : decode cX1_nearest 59 = .ok (.iload_n 1, 1) := by decide +kernel
theorem dX1_nearest_60 : decode cX1_nearest 60 = .ok (.iload 4, 2) := by decide +kernel
theorem dX1_nearest_62 : decode cX1_nearest 62 = .ok (.invokevirtual 112, 3) := by decide +kernel
theorem dX1_nearest_65 : decode cX1_nearest 65 = .ok (.iload_n 2, 1) := by decide +kernel
theorem dX1_nearest_66 : decode cX1_nearest 66 = .ok (.if_icmp .ne 6, 3) := by decide +kernel
theorem dX1_nearest_69 : decode cX1_nearest 69 = .ok (.iload 4, 2) := by decide +kernel
theorem dX1_nearest_71 : decode cX1_nearest 71 = .ok (.istore_n 3, 1) := by decide +kernel
theorem dX1_nearest_72 : decode cX1_nearest 72 = .ok (.iinc 4 1, 3) := by decide +kernel
theorem dX1_nearest_75 : decode cX1_nearest 75 = .ok (.goto (-38), 3) := by decide +kernel
theorem dX1_nearest_78 : decode cX1_nearest 78 = .ok (.iload_n 3, 1) := by decide +kernel
theorem dX1_nearest_79 : decode cX1_nearest 79 = .ok (.ireturn, 1) := by decide +kernel
set_option maxRecDepth 20000 in
theorem ggX1_relay_X1_pairFault : GoodIn wsX1_relay wsX1_pairFault := goodIn_r _ [8, 9, 10, 11, 12, 13, 7, 14, 3, 15, 16, 17, 31, 32, 33, 34, 35, 36, 37, 38, 39, 40, 41, 42, 43] (by decide +kernel) (by decide +kernel)
set_option maxRecDepth 20000 in
theorem gX1_relay_X1_pairFault : GoodIn wsX1_relay (wsV RX1 33 RX1 yX1_pairFault wsX1_pairFault) := goodIn_app (goodIn_of _ (by decide +kernel)) ggX1_relay_X1_pairFault
set_option maxRecDepth 20000 in
theorem ggX1_relay_X0_predicted : GoodIn wsX1_relay wsX0_predicted := goodIn_r _ [22, 23, 24, 25, 26, 7, 27, 28, 29, 30, 33, 34, 35, 36, 37, 38, 39, 40, 41, 42, 43] (by decide +kernel) (by decide +kernel)
set_option maxRecDepth 20000 in
theorem gX1_relay_X0_predicted : GoodIn wsX1_relay (wsV RX1 83 RX0 yX0_predicted wsX0_predicted) := goodIn_app (goodIn_of _ (by decide +kernel)) ggX1_relay_X0_predicted
theorem dX1_relay_0 : decode cX1_relay 0 = .ok (.aload_n 0, 1) := by decide +kernel
theorem dX1_relay_1 : decode cX1_relay 1 = .ok (.iload_n 1, 1) := by decide +kernel
theorem dX1_relay_2 : decode cX1_relay 2 = .ok (.iload_n 2, 1) := by decide +kernel
theorem dX1_relay_3 : decode cX1_relay 3 = .ok (.invokevirtual 33, 3) := by decide +kernel
theorem dX1_relay_6 : decode cX1_relay 6 = .ok (.istore_n 3, 1) := by decide +kernel
theorem dX1_relay_7 : decode cX1_relay 7 = .ok (.iload_n 3, 1) := by decide +kernel
theorem dX1_relay_8 : decode cX1_relay 8 = .ok (.ifCond .eq 5, 3) := by decide +kernel
theorem dX1_relay_11 : decode cX1_relay 11 = .ok (.iload_n 3, 1) := by decide +kernel
theorem dX1_relay_12 : decode cX1_relay 12 = .ok (.ireturn, 1) := by decide +kernel
theorem dX1_relay_13 : decode cX1_relay 13 = .ok (.ldc 107, 2) := by decide +kernel
theorem dX1_relay_15 : decode cX1_relay 15 = .ok (.istore 4, 2) := by decide +kernel
theorem dX1_relay_17 : decode cX1_relay 17 = .ok (.ldc 117, 2) := by decide +kernel
theorem dX1_relay_19 : decode cX1_relay 19 = .ok (.istore 5, 2) := by decide +kernel
theorem dX1_relay_21 : decode cX1_relay 21 = .ok (.iconst 0, 1) := by decide +kernel
theorem dX1_relay_22 : decode cX1_relay 22 = .ok (.istore 6, 2) := by decide +kernel
theorem dX1_relay_24 : decode cX1_relay 24 = .ok (.iload 6, 2) := by decide +kernel
theorem dX1_relay_26 : decode cX1_relay 26 = .ok (.aload_n 0, 1) := by decide +kernel
theorem dX1_relay_27 : decode cX1_relay 27 = .ok (.getfield 10, 3) := by decide +kernel
theorem dX1_relay_30 : decode cX1_relay 30 = .ok (.getfield 25, 3) := by decide +kernel
theorem dX1_relay_33 : decode cX1_relay 33 = .ok (.if_icmp .ge 59, 3) := by decide +kernel
theorem dX1_relay_36 : decode cX1_relay 36 = .ok (.iload 6, 2) := by decide +kernel
theorem dX1_relay_38 : decode cX1_relay 38 = .ok (.iload_n 1, 1) := by decide +kernel
theorem dX1_relay_39 : decode cX1_relay 39 = .ok (.if_icmp .eq 47, 3) := by decide +kernel
theorem dX1_relay_42 : decode cX1_relay 42 = .ok (.iload 6, 2) := by decide +kernel
theorem dX1_relay_44 : decode cX1_relay 44 = .ok (.iload_n 2, 1) := by decide +kernel
theorem dX1_relay_45 : decode cX1_relay 45 = .ok (.if_icmp .eq 41, 3) := by decide +kernel
theorem dX1_relay_48 : decode cX1_relay 48 = .ok (.aload_n 0, 1) := by decide +kernel
theorem dX1_relay_49 : decode cX1_relay 49 = .ok (.getfield 10, 3) := by decide +kernel
theorem dX1_relay_52 : decode cX1_relay 52 = .ok (.iload_n 1, 1) := by decide +kernel
theorem dX1_relay_53 : decode cX1_relay 53 = .ok (.iload 6, 2) := by decide +kernel
theorem dX1_relay_55 : decode cX1_relay 55 = .ok (.invokevirtual 83, 3) := by decide +kernel
theorem dX1_relay_58 : decode cX1_relay 58 = .ok (.aload_n 0, 1) := by decide +kernel
theorem dX1_relay_59 : decode cX1_relay 59 = .ok (.getfield 10, 3) := by decide +kernel
theorem dX1_relay_62 : decode cX1_relay 62 = .ok (.iload 6, 2) := by decide +kernel
theorem dX1_relay_64 : decode cX1_relay 64 = .ok (.iload_n 2, 1) := by decide +kernel
theorem dX1_relay_65 : decode cX1_relay 65 = .ok (.invokevirtual 83, 3) := by decide +kernel
theorem dX1_relay_68 : decode cX1_relay 68 = .ok (.iadd, 1) := by decide +kernel
theorem dX1_relay_69 : decode cX1_relay 69 = .ok (.istore 7, 2) := by decide +kernel
theorem dX1_relay_71 : decode cX1_relay 71 = .ok (.iload 7, 2) := by decide +kernel
theorem dX1_relay_73 : decode cX1_relay 73 = .ok (.iload 5, 2) := by decide +kernel
theorem dX1_relay_75 : decode cX1_relay 75 = .ok (.if_icmp .ge 11, 3) := by decide +kernel
theorem dX1_relay_78 : decode cX1_relay 78 = .ok (.iload 7, 2) := by decide +kernel
theorem dX1_relay_80 : decode cX1_relay 80 = .ok (.istore 5, 2) := by decide +kernel
theorem dX1_relay_82 : decode cX1_relay 82 = .ok (.iload 6, 2) := by decide +kernel
theorem dX1_relay_84 : decode cX1_relay 84 = .ok (.istore 4, 2) := by decide +kernel
theorem dX1_relay_86 : decode cX1_relay 86 = .ok (.iinc 6 1, 3) := by decide +kernel
theorem dX1_relay_89 : decode cX1_relay 89 = .ok (.goto (-65), 3) := by decide +kernel
theorem dX1_relay_92 : decode cX1_relay 92 = .ok (.iload 4, 2) := by decide +kernel
theorem dX1_relay_94 : decode cX1_relay 94 = .ok (.ireturn, 1) := by decide +kernel
set_option maxRecDepth 20000 in
theorem ggX1_triangles_X0_isTriangle : GoodIn wsX1_triangles wsX0_isTriangle := goodIn_r _ [6, 7, 8, 9, 5, 10, 11, 12, 13, 14, 15, 18, 19, 20, 21, 22, 23, 24, 25, 26, 27, 28] (by decide +kernel) (by decide +kernel)
set_option maxRecDepth 20000 in
theorem gX1_triangles_X0_isTriangle : GoodIn wsX1_triangles (wsV RX1 118 RX0 yX0_isTriangle wsX0_isTriangle) := goodIn_app (goodIn_of _ (by decide +kernel)) ggX1_triangles_X0_isTriangle
theorem dX1_triangles_0 : decode cX1_triangles 0 = .ok (.iconst 0, 1) := by decide +kernel
theorem dX1_triangles_1 : decode cX1_triangles 1 = .ok (.istore_n 1, 1) := by decide +kernel
theorem dX1_triangles_2 : decode cX1_triangles 2 = .ok (.iconst 0, 1) := by decide +kernel
theorem dX1_triangles_3 : decode cX1_triangles 3 = .ok (.istore_n 2, 1) := by decide +kernel
theorem dX1_triangles_4 : decode cX1_triangles 4 = .ok (.iload_n 2, 1) := by decide +kernel
theorem dX1_triangles_5 : decode cX1_triangles 5 = .ok (.aload_n 0, 1) := by decide +kernel
theorem dX1_triangles_6 : decode cX1_triangles 6 = .ok (.getfield 10, 3) := by decide +kernel
theorem dX1_triangles_9 : decode cX1_triangles 9 = .ok (.getfield 25, 3) := by decide +kernel
theorem dX1_triangles_12 : decode cX1_triangles 12 = .ok (.if_icmp .ge 70, 3) := by decide +kernel
theorem dX1_triangles_15 : decode cX1_triangles 15 = .ok (.iload_n 2, 1) := by decide +kernel
theorem dX1_triangles_16 : decode cX1_triangles 16 = .ok (.iconst 1, 1) := by decide +kernel
theorem dX1_triangles_17 : decode cX1_triangles 17 = .ok (.iadd, 1) := by decide +kernel
theorem dX1_triangles_18 : decode cX1_triangles 18 = .ok (.istore_n 3, 1) := by decide +kernel
theorem dX1_triangles_19 : decode cX1_triangles 19 = .ok (.iload_n 3, 1) := by decide +kernel
theorem dX1_triangles_20 : decode cX1_triangles 20 = .ok (.aload_n 0, 1) := by decide +kernel
theorem dX1_triangles_21 : decode cX1_triangles 21 = .ok (.getfield 10, 3) := by decide +kernel
theorem dX1_triangles_24 : decode cX1_triangles 24 = .ok (.getfield 25, 3) := by decide +kernel
theorem dX1_triangles_27 : decode cX1_triangles 27 = .ok (.if_icmp .ge 49, 3) := by decide +kernel
theorem dX1_triangles_30 : decode cX1_triangles 30 = .ok (.iload_n 3, 1) := by decide +kernel
theorem dX1_triangles_31 : decode cX1_triangles 31 = .ok (.iconst 1, 1) := by decide +kernel
theorem dX1_triangles_32 : decode cX1_triangles 32 = .ok (.iadd, 1) := by decide +kernel
theorem dX1_triangles_33 : decode cX1_triangles 33 = .ok (.istore 4, 2) := by decide +kernel
theorem dX1_triangles_35 : decode cX1_triangles 35 = .ok (.iload 4, 2) := by decide +kernel
theorem dX1_triangles_37 : decode cX1_triangles 37 = .ok (.aload_n 0, 1) := by decide +kernel
theorem dX1_triangles_38 : decode cX1_triangles 38 = .ok (.getfield 10, 3) := by decide +kernel
theorem dX1_triangles_41 : decode cX1_triangles 41 = .ok (.getfield 25, 3) := by decide +kernel
theorem dX1_triangles_44 : decode cX1_triangles 44 = .ok (.if_icmp .ge 26, 3) := by decide +kernel
theorem dX1_triangles_47 : decode cX1_triangles 47 = .ok (.aload_n 0, 1) := by decide +kernel
theorem dX1_triangles_48 : decode cX1_triangles 48 = .ok (.getfield 10, 3) := by decide +kernel
theorem dX1_triangles_51 : decode cX1_triangles 51 = .ok (.iload_n 2, 1) := by decide +kernel
theorem dX1_triangles_52 : decode cX1_triangles 52 = .ok (.iload_n 3, 1) := by decide +kernel
theorem dX1_triangles_53 : decode cX1_triangles 53 = .ok (.iload 4, 2) := by decide +kernel
theorem dX1_triangles_55 : decode cX1_triangles 55 = .ok (.invokevirtual 118, 3) := by decide +kernel
theorem dX1_triangles_58 : decode cX1_triangles 58 = .ok (.ifCond .eq 6, 3) := by decide +kernel
theorem dX1_triangles_61 : decode cX1_triangles 61 = .ok (.iinc 1 1, 3) := by decide +kernel
theorem dX1_triangles_64 : decode cX1_triangles 64 = .ok (.iinc 4 1, 3) := by decide +kernel
theorem dX1_triangles_67 : decode cX1_triangles 67 = .ok (.goto (-32), 3) := by decide +kernel
theorem dX1_triangles_70 : decode cX1_triangles 70 = .ok (.iinc 3 1, 3) := by decide +kernel
theorem dX1_triangles_73 : decode cX1_triangles 73 = .ok (.goto (-54), 3) := by decide +kernel
theorem dX1_triangles_76 : decode cX1_triangles 76 = .ok (.iinc 2 1, 3) := by decide +kernel
theorem dX1_triangles_79 : decode cX1_triangles 79 = .ok (.goto (-75), 3) := by decide +kernel
theorem dX1_triangles_82 : decode cX1_triangles 82 = .ok (.iload_n 1, 1) := by decide +kernel
theorem dX1_triangles_83 : decode cX1_triangles 83 = .ok (.ireturn, 1) := by decide +kernel
set_option maxRecDepth 20000 in
theorem ggX1_violations_X0_violationsAt : GoodIn wsX1_violations wsX0_violationsAt := goodIn_r _ [6, 7, 8, 9, 10, 5, 11, 12, 13, 14, 15, 16, 17, 18, 19, 20, 21, 22, 23, 24, 25, 26, 27, 28, 31, 32, 33, 34, 35, 36, 37, 38, 39, 40, 41] (by decide +kernel) (by decide +kernel)
set_option maxRecDepth 20000 in
theorem gX1_violations_X0_violationsAt : GoodIn wsX1_violations (wsV RX1 121 RX0 yX0_violationsAt wsX0_violationsAt) := goodIn_app (goodIn_of _ (by decide +kernel)) ggX1_violations_X0_violationsAt
theorem dX1_violations_0 : decode cX1_violations 0 = .ok (.iconst 0, 1) := by decide +kernel
theorem dX1_violations_1 : decode cX1_violations 1 = .ok (.istore_n 1, 1) := by decide +kernel
theorem dX1_violations_2 : decode cX1_violations 2 = .ok (.iconst 0, 1) := by decide +kernel
theorem dX1_violations_3 : decode cX1_violations 3 = .ok (.istore_n 2, 1) := by decide +kernel
theorem dX1_violations_4 : decode cX1_violations 4 = .ok (.iload_n 2, 1) := by decide +kernel
theorem dX1_violations_5 : decode cX1_violations 5 = .ok (.aload_n 0, 1) := by decide +kernel
theorem dX1_violations_6 : decode cX1_violations 6 = .ok (.getfield 10, 3) := by decide +kernel
theorem dX1_violations_9 : decode cX1_violations 9 = .ok (.getfield 25, 3) := by decide +kernel
theorem dX1_violations_12 : decode cX1_violations 12 = .ok (.if_icmp .ge 20, 3) := by decide +kernel
theorem dX1_violations_15 : decode cX1_violations 15 = .ok (.iload_n 1, 1) := by decide +kernel
theorem dX1_violations_16 : decode cX1_violations 16 = .ok (.aload_n 0, 1) := by decide +kernel
theorem dX1_violations_17 : decode cX1_violations 17 = .ok (.getfield 10, 3) := by decide +kernel
theorem dX1_violations_20 : decode cX1_violations 20 = .ok (.iload_n 2, 1) := by decide +kernel
theorem dX1_violations_21 : decode cX1_violations 21 = .ok (.invokevirtual 121, 3) := by decide +kernel
theorem dX1_violations_24 : decode cX1_violations 24 = .ok (.iadd, 1) := by decide +kernel
theorem dX1_violations_25 : decode cX1_violations 25 = .ok (.istore_n 1, 1) := by decide +kernel
theorem dX1_violations_26 : decode cX1_violations 26 = .ok (.iinc 2 1, 3) := by decide +kernel
theorem dX1_violations_29 : decode cX1_violations 29 = .ok (.goto (-25), 3) := by decide +kernel
theorem dX1_violations_32 : decode cX1_violations 32 = .ok (.iload_n 1, 1) := by decide +kernel
theorem dX1_violations_33 : decode cX1_violations 33 = .ok (.iconst 3, 1) := by decide +kernel
theorem dX1_violations_34 : decode cX1_violations 34 = .ok (.idiv, 1) := by decide +kernel
theorem dX1_violations_35 : decode cX1_violations 35 = .ok (.ireturn, 1) := by decide +kernel
set_option maxRecDepth 20000 in
theorem ggX1_worstExcess_X0_excess : GoodIn wsX1_worstExcess wsX0_excess := goodIn_r _ [11, 12, 3, 4, 5, 13, 14, 15, 10, 16, 17, 18, 19, 20, 21, 22, 23, 24, 25, 28, 29, 30, 31, 32, 33, 34, 35, 36, 37, 38] (by decide +kernel) (by decide +kernel)
set_option maxRecDepth 20000 in
theorem gX1_worstExcess_X0_excess : GoodIn wsX1_worstExcess (wsV RX1 125 RX0 yX0_excess wsX0_excess) := goodIn_app (goodIn_of _ (by decide +kernel)) ggX1_worstExcess_X0_excess
theorem dX1_worstExcess_0 : decode cX1_worstExcess 0 = .ok (.iconst 0, 1) := by decide +kernel
theorem dX1_worstExcess_1 : decode cX1_worstExcess 1 = .ok (.istore_n 1, 1) := by decide +kernel
theorem dX1_worstExcess_2 : decode cX1_worstExcess 2 = .ok (.iconst 0, 1) := by decide +kernel
theorem dX1_worstExcess_3 : decode cX1_worstExcess 3 = .ok (.istore_n 2, 1) := by decide +kernel
theorem dX1_worstExcess_4 : decode cX1_worstExcess 4 = .ok (.iload_n 2, 1) := by decide +kernel
theorem dX1_worstExcess_5 : decode cX1_worstExcess 5 = .ok (.aload_n 0, 1) := by decide +kernel
theorem dX1_worstExcess_6 : decode cX1_worstExcess 6 = .ok (.getfield 10, 3) := by decide +kernel
theorem dX1_worstExcess_9 : decode cX1_worstExcess 9 = .ok (.getfield 25, 3) := by decide +kernel
theorem dX1_worstExcess_12 : decode cX1_worstExcess 12 = .ok (.if_icmp .ge 69, 3) := by decide +kernel
theorem dX1_worstExcess_15 : decode cX1_worstExcess 15 = .ok (.iload_n 2, 1) := by decide +kernel
theorem dX1_worstExcess_16 : decode cX1_worstExcess 16 = .ok (.iconst 1, 1) := by decide +kernel
theorem dX1_worstExcess_17 : decode cX1_worstExcess 17 = .ok (.iadd, 1) := by decide +kernel
theorem dX1_worstExcess_18 : decode cX1_worstExcess 18 = .ok (.istore_n 3, 1) := by decide +kernel
theorem dX1_worstExcess_19 : decode cX1_worstExcess 19 = .ok (.iload_n 3, 1) := by decide +kernel
theorem dX1_worstExcess_20 : decode cX1_worstExcess 20 = .ok (.aload_n 0, 1) := by decide +kernel
theorem dX1_worstExcess_21 : decode cX1_worstExcess 21 = .ok (.getfield 10, 3) := by decide +kernel
theorem dX1_worstExcess_24 : decode cX1_worstExcess 24 = .ok (.getfield 25, 3) := by decide +kernel
theorem dX1_worstExcess_27 : decode cX1_worstExcess 27 = .ok (.if_icmp .ge 48, 3) := by decide +kernel
theorem dX1_worstExcess_30 : decode cX1_worstExcess 30 = .ok (.iload_n 3, 1) := by decide +kernel
theorem dX1_worstExcess_31 : decode cX1_worstExcess 31 = .ok (.iconst 1, 1) := by decide +kernel
theorem dX1_worstExcess_32 : decode cX1_worstExcess 32 = .ok (.iadd, 1) := by decide +kernel
theorem dX1_worstExcess_33 : decode cX1_worstExcess 33 = .ok (.istore 4, 2) := by decide +kernel
theorem dX1_worstExcess_35 : decode cX1_worstExcess 35 = .ok (.iload 4, 2) := by decide +kernel
theorem dX1_worstExcess_37 : decode cX1_worstExcess 37 = .ok (.aload_n 0, 1) := by decide +kernel
theorem dX1_worstExcess_38 : decode cX1_worstExcess 38 = .ok (.getfield 10, 3) := by decide +kernel
theorem dX1_worstExcess_41 : decode cX1_worstExcess 41 = .ok (.getfield 25, 3) := by decide +kernel
theorem dX1_worstExcess_44 : decode cX1_worstExcess 44 = .ok (.if_icmp .ge 25, 3) := by decide +kernel
theorem dX1_worstExcess_47 : decode cX1_worstExcess 47 = .ok (.iload_n 1, 1) := by decide +kernel
theorem dX1_worstExcess_48 : decode cX1_worstExcess 48 = .ok (.aload_n 0, 1) := by decide +kernel
theorem dX1_worstExcess_49 : decode cX1_worstExcess 49 = .ok (.getfield 10, 3) := by decide +kernel
theorem dX1_worstExcess_52 : decode cX1_worstExcess 52 = .ok (.iload_n 2, 1) := by decide +kernel
theorem dX1_worstExcess_53 : decode cX1_worstExcess 53 = .ok (.iload_n 3, 1) := by decide +kernel
theorem dX1_worstExcess_54 : decode cX1_worstExcess 54 = .ok (.iload 4, 2) := by decide +kernel
theorem dX1_worstExcess_56 : decode cX1_worstExcess 56 = .ok (.invokevirtual 125, 3) := by decide +kernel
theorem dX1_worstExcess_59 : decode cX1_worstExcess 59 = .ok (.invokestatic 129, 3) := by decide +kernel
theorem dX1_worstExcess_62 : decode cX1_worstExcess 62 = .ok (.istore_n 1, 1) := by decide +kernel
theorem dX1_worstExcess_63 : decode cX1_worstExcess 63 = .ok (.iinc 4 1, 3) := by decide +kernel
theorem dX1_worstExcess_66 : decode cX1_worstExcess 66 = .ok (.goto (-31), 3) := by decide +kernel
theorem dX1_worstExcess_69 : decode cX1_worstExcess 69 = .ok (.iinc 3 1, 3) := by decide +kernel
theorem dX1_worstExcess_72 : decode cX1_worstExcess 72 = .ok (.goto (-53), 3) := by decide +kernel
theorem dX1_worstExcess_75 : decode cX1_worstExcess 75 = .ok (.iinc 2 1, 3) := by decide +kernel
theorem dX1_worstExcess_78 : decode cX1_worstExcess 78 = .ok (.goto (-74), 3) := by decide +kernel
theorem dX1_worstExcess_81 : decode cX1_worstExcess 81 = .ok (.iload_n 1, 1) := by decide +kernel
theorem dX1_worstExcess_82 : decode cX1_worstExcess 82 = .ok (.ifCond .ne 8, 3) := by decide +kernel
theorem dX1_worstExcess_85 : decode cX1_worstExcess 85 = .ok (.ldc 107, 2) := by decide +kernel
theorem dX1_worstExcess_87 : decode cX1_worstExcess 87 = .ok (.goto 4, 3) := by decide +kernel
theorem dX1_worstExcess_90 : decode cX1_worstExcess 90 = .ok (.iload_n 1, 1) := by decide +kernel
theorem dX1_worstExcess_91 : decode cX1_worstExcess 91 = .ok (.ireturn, 1) := by decide +kernel
set_option maxRecDepth 20000 in
theorem ggX1_suspect_X0_violationsAt : GoodIn wsX1_suspect wsX0_violationsAt := goodIn_r _ [7, 8, 9, 10, 11, 6, 12, 13, 14, 15, 16, 17, 18, 19, 20, 21, 22, 23, 24, 25, 26, 27, 28, 29, 32, 33, 34, 35, 36, 37, 38, 39, 40, 41, 42] (by decide +kernel) (by decide +kernel)
set_option maxRecDepth 20000 in
theorem gX1_suspect_X0_violationsAt : GoodIn wsX1_suspect (wsV RX1 121 RX0 yX0_violationsAt wsX0_violationsAt) := goodIn_app (goodIn_of _ (by decide +kernel)) ggX1_suspect_X0_violationsAt
theorem dX1_suspect_0 : decode cX1_suspect 0 = .ok (.ldc 107, 2) := by decide +kernel
theorem dX1_suspect_2 : decode cX1_suspect 2 = .ok (.istore_n 1, 1) := by decide +kernel
theorem dX1_suspect_3 : decode cX1_suspect 3 = .ok (.iconst 0, 1) := by decide +kernel
theorem dX1_suspect_4 : decode cX1_suspect 4 = .ok (.istore_n 2, 1) := by decide +kernel
theorem dX1_suspect_5 : decode cX1_suspect 5 = .ok (.iconst 0, 1) := by decide +kernel
theorem dX1_suspect_6 : decode cX1_suspect 6 = .ok (.istore_n 3, 1) := by decide +kernel
theorem dX1_suspect_7 : decode cX1_suspect 7 = .ok (.iload_n 3, 1) := by decide +kernel
theorem dX1_suspect_8 : decode cX1_suspect 8 = .ok (.aload_n 0, 1) := by decide +kernel
theorem dX1_suspect_9 : decode cX1_suspect 9 = .ok (.getfield 10, 3) := by decide +kernel
theorem dX1_suspect_12 : decode cX1_suspect 12 = .ok (.getfield 25, 3) := by decide +kernel
theorem dX1_suspect_15 : decode cX1_suspect 15 = .ok (.if_icmp .ge 30, 3) := by decide +kernel
theorem dX1_suspect_18 : decode cX1_suspect 18 = .ok (.aload_n 0, 1) := by decide +kernel
theorem dX1_suspect_19 : decode cX1_suspect 19 = .ok (.getfield 10, 3) := by decide +kernel
theorem dX1_suspect_22 : decode cX1_suspect 22 = .ok (.iload_n 3, 1) := by decide +kernel
theorem dX1_suspect_23 : decode cX1_suspect 23 = .ok (.invokevirtual 121, 3) := by decide +kernel
theorem dX1_suspect_26 : decode cX1_suspect 26 = .ok (.istore 4, 2) := by decide +kernel
theorem dX1_suspect_28 : decode cX1_suspect 28 = .ok (.iload 4, 2) := by decide +kernel
theorem dX1_suspect_30 : decode cX1_suspect 30 = .ok (.iload_n 2, 1) := by decide +kernel
theorem dX1_suspect_31 : decode cX1_suspect 31 = .ok (.if_icmp .le 8, 3) := by decide +kernel
theorem dX1_suspect_34 : decode cX1_suspect 34 = .ok (.iload 4, 2) := by decide +kernel
theorem dX1_suspect_36 : decode cX1_suspect 36 = .ok (.istore_n 2, 1) := by decide +kernel
theorem dX1_suspect_37 : decode cX1_suspect 37 = .ok (.iload_n 3, 1) := by decide +kernel
theorem dX1_suspect_38 : decode cX1_suspect 38 = .ok (.istore_n 1, 1) := by decide +kernel
theorem dX1_suspect_39 : decode cX1_suspect 39 = .ok (.iinc 3 1, 3) := by decide +kernel
theorem dX1_suspect_42 : decode cX1_suspect 42 = .ok (.goto (-35), 3) := by decide +kernel
theorem dX1_suspect_45 : decode cX1_suspect 45 = .ok (.iload_n 1, 1) := by decide +kernel
theorem dX1_suspect_46 : decode cX1_suspect 46 = .ok (.ireturn, 1) := by decide +kernel
set_option maxRecDepth 20000 in
theorem ggX1_move_X1_knownPairFault : GoodIn wsX1_move wsX1_knownPairFault := goodIn_r _ [6, 1, 7, 8, 9, 10, 5, 11, 12, 13, 14, 15, 16, 17, 18, 19, 20, 21, 22, 23, 24, 25, 26, 27, 28, 29, 30, 88, 89, 90, 91, 92, 93, 94, 95, 96, 97, 98, 99, 100] (by decide +kernel) (by decide +kernel)
set_option maxRecDepth 20000 in
theorem gX1_move_X1_knownPairFault : GoodIn wsX1_move (wsV RX1 44 RX1 yX1_knownPairFault wsX1_knownPairFault) := goodIn_app (goodIn_of _ (by decide +kernel)) ggX1_move_X1_knownPairFault
set_option maxRecDepth 20000 in
theorem ggX1_move_X0_distanceMoved : GoodIn wsX1_move wsX0_distanceMoved := goodIn_r _ [34, 35, 36, 37, 38, 39, 24, 40, 41, 42, 5, 43, 44, 45, 46, 47, 48, 49, 50, 51, 52, 53, 54, 55, 56, 57, 58, 59, 60, 61, 62, 63, 64, 65, 26, 27, 28, 29, 30, 66, 67, 68, 69, 70, 71, 72, 73, 74, 75, 76, 77, 78, 79, 80, 81, 82, 83, 84, 85, 86, 87, 90, 91, 92, 93, 94, 95, 96, 97, 98, 99, 100] (by decide +kernel) (by decide +kernel)
set_option maxRecDepth 20000 in
theorem gX1_move_X0_distanceMoved : GoodIn wsX1_move (wsV RX1 134 RX0 yX0_distanceMoved wsX0_distanceMoved) := goodIn_app (goodIn_of _ (by decide +kernel)) ggX1_move_X0_distanceMoved
theorem dX1_move_0 : decode cX1_move 0 = .ok (.aload_n 0, 1) := by decide +kernel
theorem dX1_move_1 : decode cX1_move 1 = .ok (.iload_n 1, 1) := by decide +kernel
theorem dX1_move_2 : decode cX1_move 2 = .ok (.iload_n 2, 1) := by decide +kernel
theorem dX1_move_3 : decode cX1_move 3 = .ok (.invokevirtual 44, 3) := by decide +kernel
theorem dX1_move_6 : decode cX1_move 6 = .ok (.istore_n 3, 1) := by decide +kernel
theorem dX1_move_7 : decode cX1_move 7 = .ok (.iload_n 3, 1) := by decide +kernel
theorem dX1_move_8 : decode cX1_move 8 = .ok (.ifCond .eq 7, 3) := by decide +kernel
theorem dX1_move_11 : decode cX1_move 11 = .ok (.iload_n 3, 1) := by decide +kernel
theorem dX1_move_12 : decode cX1_move 12 = .ok (.goto 12, 3) := by decide +kernel
theorem dX1_move_15 : decode cX1_move 15 = .ok (.aload_n 0, 1) := by decide +kernel
theorem dX1_move_16 : decode cX1_move 16 = .ok (.getfield 10, 3) := by decide +kernel
theorem dX1_move_19 : decode cX1_move 19 = .ok (.iload_n 1, 1) := by decide +kernel
theorem dX1_move_20 : decode cX1_move 20 = .ok (.iload_n 2, 1) := by decide +kernel
theorem dX1_move_21 : decode cX1_move 21 = .ok (.invokevirtual 134, 3) := by decide +kernel
theorem dX1_move_24 : decode cX1_move 24 = .ok (.ireturn, 1) := by decide +kernel
set_option maxRecDepth 20000 in
theorem ggX1_save_X1_isWithin : GoodIn wsX1_save wsX1_isWithin := goodIn_r _ [10] (by decide +kernel) (by decide +kernel)
set_option maxRecDepth 20000 in
theorem gX1_save_X1_isWithin : GoodIn wsX1_save (va_wsS RX1 20 yX1_isWithin wsX1_isWithin) := goodIn_app (goodIn_of _ (by decide +kernel)) ggX1_save_X1_isWithin
set_option maxRecDepth 20000 in
theorem ggX1_save_X0_init : GoodIn wsX1_save wsX0_init := goodIn_r _ [13, 14, 15, 16, 17, 18, 19, 20, 21, 22, 23, 24, 25, 26, 27, 28, 29, 5, 30, 31, 32, 33, 34, 35, 36, 47, 48, 49, 50, 51, 52, 53, 54, 55, 56, 57] (by decide +kernel) (by decide +kernel)
set_option maxRecDepth 20000 in
theorem gX1_save_X0_init : GoodIn wsX1_save (wsX0_init) := ggX1_save_X0_init
set_option maxRecDepth 20000 in
theorem ggX1_save_X0_copyFrom : GoodIn wsX1_save wsX0_copyFrom := goodIn_r _ [40, 31, 32, 17, 18, 19, 21, 41, 42, 43, 44, 22, 23, 24, 25, 26, 47, 48, 49, 50, 51, 52, 53, 54, 55, 56, 57] (by decide +kernel) (by decide +kernel)
set_option maxRecDepth 20000 in
theorem gX1_save_X0_copyFrom : GoodIn wsX1_save (wsV RX1 137 RX0 yX0_copyFrom wsX0_copyFrom) := goodIn_app (goodIn_of _ (by decide +kernel)) ggX1_save_X0_copyFrom
theorem dX1_save_0 : decode cX1_save 0 = .ok (.iload_n 1, 1) := by decide +kernel
theorem dX1_save_1 : decode cX1_save 1 = .ok (.iconst 0, 1) := by decide +kernel
theorem dX1_save_2 : decode cX1_save 2 = .ok (.iconst 1, 1) := by decide +kernel
theorem dX1_save_3 : decode cX1_save 3 = .ok (.invokestatic 20, 3) := by decide +kernel
theorem dX1_save_6 : decode cX1_save 6 = .ok (.ifCond .ne 6, 3) := by decide +kernel
theorem dX1_save_9 : decode cX1_save 9 = .ok (.ldc 24, 2) := by decide +kernel
theorem dX1_save_11 : decode cX1_save 11 = .ok (.ireturn, 1) := by decide +kernel
theorem dX1_save_12 : decode cX1_save 12 = .ok (.aload_n 0, 1) := by decide +kernel
theorem dX1_save_13 : decode cX1_save 13 = .ok (.getfield 16, 3) := by decide +kernel
theorem dX1_save_16 : decode cX1_save 16 = .ok (.iload_n 1, 1) := by decide +kernel
theorem dX1_save_17 : decode cX1_save 17 = .ok (.aaload, 1) := by decide +kernel
theorem dX1_save_18 : decode cX1_save 18 = .ok (.astore_n 2, 1) := by decide +kernel
theorem dX1_save_19 : decode cX1_save 19 = .ok (.aload_n 2, 1) := by decide +kernel
theorem dX1_save_20 : decode cX1_save 20 = .ok (.ifnonnull 18, 3) := by decide +kernel
theorem dX1_save_23 : decode cX1_save 23 = .ok (.new 7, 3) := by decide +kernel
theorem dX1_save_26 : decode cX1_save 26 = .ok (.dup, 1) := by decide +kernel
theorem dX1_save_27 : decode cX1_save 27 = .ok (.invokespecial 9, 3) := by decide +kernel
theorem dX1_save_30 : decode cX1_save 30 = .ok (.astore_n 2, 1) := by decide +kernel
theorem dX1_save_31 : decode cX1_save 31 = .ok (.aload_n 0, 1) := by decide +kernel
theorem dX1_save_32 : decode cX1_save 32 = .ok (.getfield 16, 3) := by decide +kernel
theorem dX1_save_35 : decode cX1_save 35 = .ok (.iload_n 1, 1) := by decide +kernel
theorem dX1_save_36 : decode cX1_save 36 = .ok (.aload_n 2, 1) := by decide +kernel
theorem dX1_save_37 : decode cX1_save 37 = .ok (.aastore, 1) := by decide +kernel
theorem dX1_save_38 : decode cX1_save 38 = .ok (.aload_n 2, 1) := by decide +kernel
theorem dX1_save_39 : decode cX1_save 39 = .ok (.aload_n 0, 1) := by decide +kernel
theorem dX1_save_40 : decode cX1_save 40 = .ok (.getfield 10, 3) := by decide +kernel
theorem dX1_save_43 : decode cX1_save 43 = .ok (.invokevirtual 137, 3) := by decide +kernel
theorem dX1_save_46 : decode cX1_save 46 = .ok (.iconst 1, 1) := by decide +kernel
theorem dX1_save_47 : decode cX1_save 47 = .ok (.ireturn, 1) := by decide +kernel
set_option maxRecDepth 20000 in
theorem ggX1_restore_X1_isWithin : GoodIn wsX1_restore wsX1_isWithin := goodIn_r _ [8] (by decide +kernel) (by decide +kernel)
set_option maxRecDepth 20000 in
theorem gX1_restore_X1_isWithin : GoodIn wsX1_restore (va_wsS RX1 20 yX1_isWithin wsX1_isWithin) := goodIn_app (goodIn_of _ (by decide +kernel)) ggX1_restore_X1_isWithin
set_option maxRecDepth 20000 in
theorem ggX1_restore_X0_copyFrom : GoodIn wsX1_restore wsX0_copyFrom := goodIn_r _ [13, 14, 15, 16, 17, 18, 19, 20, 21, 22, 23, 24, 25, 26, 27, 28, 31, 32, 33, 34, 35, 36, 37, 38, 39, 40, 41] (by decide +kernel) (by decide +kernel)
set_option maxRecDepth 20000 in
theorem gX1_restore_X0_copyFrom : GoodIn wsX1_restore (wsV RX1 137 RX0 yX0_copyFrom wsX0_copyFrom) := goodIn_app (goodIn_of _ (by decide +kernel)) ggX1_restore_X0_copyFrom
theorem dX1_restore_0 : decode cX1_restore 0 = .ok (.iload_n 1, 1) := by decide +kernel
theorem dX1_restore_1 : decode cX1_restore 1 = .ok (.iconst 0, 1) := by decide +kernel
theorem dX1_restore_2 : decode cX1_restore 2 = .ok (.iconst 1, 1) := by decide +kernel
theorem dX1_restore_3 : decode cX1_restore 3 = .ok (.invokestatic 20, 3) := by decide +kernel
theorem dX1_restore_6 : decode cX1_restore 6 = .ok (.ifCond .ne 6, 3) := by decide +kernel
theorem dX1_restore_9 : decode cX1_restore 9 = .ok (.ldc 24, 2) := by decide +kernel
theorem dX1_restore_11 : decode cX1_restore 11 = .ok (.ireturn, 1) := by decide +kernel
theorem dX1_restore_12 : decode cX1_restore 12 = .ok (.aload_n 0, 1) := by decide +kernel
theorem dX1_restore_13 : decode cX1_restore 13 = .ok (.getfield 16, 3) := by decide +kernel
theorem dX1_restore_16 : decode cX1_restore 16 = .ok (.iload_n 1, 1) := by decide +kernel
theorem dX1_restore_17 : decode cX1_restore 17 = .ok (.aaload, 1) := by decide +kernel
theorem dX1_restore_18 : decode cX1_restore 18 = .ok (.astore_n 2, 1) := by decide +kernel
theorem dX1_restore_19 : decode cX1_restore 19 = .ok (.aload_n 2, 1) := by decide +kernel
theorem dX1_restore_20 : decode cX1_restore 20 = .ok (.ifnonnull 6, 3) := by decide +kernel
theorem dX1_restore_23 : decode cX1_restore 23 = .ok (.ldc 141, 2) := by decide +kernel
theorem dX1_restore_25 : decode cX1_restore 25 = .ok (.ireturn, 1) := by decide +kernel
theorem dX1_restore_26 : decode cX1_restore 26 = .ok (.aload_n 0, 1) := by decide +kernel
theorem dX1_restore_27 : decode cX1_restore 27 = .ok (.getfield 10, 3) := by decide +kernel
theorem dX1_restore_30 : decode cX1_restore 30 = .ok (.aload_n 2, 1) := by decide +kernel
theorem dX1_restore_31 : decode cX1_restore 31 = .ok (.invokevirtual 137, 3) := by decide +kernel
theorem dX1_restore_34 : decode cX1_restore 34 = .ok (.iconst 1, 1) := by decide +kernel
theorem dX1_restore_35 : decode cX1_restore 35 = .ok (.ireturn, 1) := by decide +kernel
set_option maxRecDepth 20000 in
theorem ggX1_isNode_X1_isWithin : GoodIn wsX1_isNode wsX1_isWithin := goodIn_r _ [5] (by decide +kernel) (by decide +kernel)
set_option maxRecDepth 20000 in
theorem gX1_isNode_X1_isWithin : GoodIn wsX1_isNode (va_wsS RX1 20 yX1_isWithin wsX1_isWithin) := goodIn_app (goodIn_of _ (by decide +kernel)) ggX1_isNode_X1_isWithin
theorem dX1_isNode_0 : decode cX1_isNode 0 = .ok (.iload_n 1, 1) := by decide +kernel
theorem dX1_isNode_1 : decode cX1_isNode 1 = .ok (.iconst 0, 1) := by decide +kernel
theorem dX1_isNode_2 : decode cX1_isNode 2 = .ok (.aload_n 0, 1) := by decide +kernel
theorem dX1_isNode_3 : decode cX1_isNode 3 = .ok (.getfield 10, 3) := by decide +kernel
theorem dX1_isNode_6 : decode cX1_isNode 6 = .ok (.getfield 25, 3) := by decide +kernel
theorem dX1_isNode_9 : decode cX1_isNode 9 = .ok (.iconst 1, 1) := by decide +kernel
theorem dX1_isNode_10 : decode cX1_isNode 10 = .ok (.isub, 1) := by decide +kernel
theorem dX1_isNode_11 : decode cX1_isNode 11 = .ok (.invokestatic 20, 3) := by decide +kernel
theorem dX1_isNode_14 : decode cX1_isNode 14 = .ok (.ireturn, 1) := by decide +kernel
set_option maxRecDepth 20000 in
theorem ggX1_pairFault_X1_isNode : GoodIn wsX1_pairFault wsX1_isNode := goodIn_r _ [7, 8, 9, 10, 6, 11, 12, 13, 14, 15, 16, 17, 18, 19, 20, 21, 22, 23, 24] (by decide +kernel) (by decide +kernel)
set_option maxRecDepth 20000 in
theorem gX1_pairFault_X1_isNode : GoodIn wsX1_pairFault (wsV RX1 47 RX1 yX1_isNode wsX1_isNode) := goodIn_app (goodIn_of _ (by decide +kernel)) ggX1_pairFault_X1_isNode
theorem dX1_pairFault_0 : decode cX1_pairFault 0 = .ok (.aload_n 0, 1) := by decide +kernel
theorem dX1_pairFault_1 : decode cX1_pairFault 1 = .ok (.iload_n 1, 1) := by decide +kernel
theorem dX1_pairFault_2 : decode cX1_pairFault 2 = .ok (.invokevirtual 47, 3) := by decide +kernel
theorem dX1_pairFault_5 : decode cX1_pairFault 5 = .ok (.ifCond .eq 11, 3) := by decide +kernel
theorem dX1_pairFault_8 : decode cX1_pairFault 8 = .ok (.aload_n 0, 1) := by decide +kernel
theorem dX1_pairFault_9 : decode cX1_pairFault 9 = .ok (.iload_n 2, 1) := by decide +kernel
theorem dX1_pairFault_10 : decode cX1_pairFault 10 = .ok (.invokevirtual 47, 3) := by decide +kernel
theorem dX1_pairFault_13 : decode cX1_pairFault 13 = .ok (.ifCond .ne 6, 3) := by decide +kernel
theorem dX1_pairFault_16 : decode cX1_pairFault 16 = .ok (.ldc 51, 2) := by decide +kernel
theorem dX1_pairFault_18 : decode cX1_pairFault 18 = .ok (.ireturn, 1) := by decide +kernel
theorem dX1_pairFault_19 : decode cX1_pairFault 19 = .ok (.iload_n 1, 1) := by decide +kernel
theorem dX1_pairFault_20 : decode cX1_pairFault 20 = .ok (.iload_n 2, 1) := by decide +kernel
theorem dX1_pairFault_21 : decode cX1_pairFault 21 = .ok (.if_icmp .ne 8, 3) := by decide +kernel
theorem dX1_pairFault_24 : decode cX1_pairFault 24 = .ok (.ldc 142, 2) := by decide +kernel
theorem dX1_pairFault_26 : decode cX1_pairFault 26 = .ok (.goto 4, 3) := by decide +kernel
theorem dX1_pairFault_29 : decode cX1_pairFault 29 = .ok (.iconst 0, 1) := by decide +kernel
theorem dX1_pairFault_30 : decode cX1_pairFault 30 = .ok (.ireturn, 1) := by decide +kernel
set_option maxRecDepth 20000 in
theorem ggX1_knownPairFault_X1_pairFault : GoodIn wsX1_knownPairFault wsX1_pairFault := goodIn_r _ [7, 8, 9, 10, 11, 12, 6, 13, 1, 14, 15, 16, 27, 28, 29, 30, 31, 32, 33, 34, 35, 36, 37, 38, 39] (by decide +kernel) (by decide +kernel)
set_option maxRecDepth 20000 in
theorem gX1_knownPairFault_X1_pairFault : GoodIn wsX1_knownPairFault (wsV RX1 33 RX1 yX1_pairFault wsX1_pairFault) := goodIn_app (goodIn_of _ (by decide +kernel)) ggX1_knownPairFault_X1_pairFault
set_option maxRecDepth 20000 in
theorem ggX1_knownPairFault_X0_isKnown : GoodIn wsX1_knownPairFault wsX0_isKnown := goodIn_r _ [21, 22, 23, 24, 20, 25, 26, 29, 30, 31, 32, 33, 34, 35, 36, 37, 38, 39] (by decide +kernel) (by decide +kernel)
set_option maxRecDepth 20000 in
theorem gX1_knownPairFault_X0_isKnown : GoodIn wsX1_knownPairFault (wsV RX1 100 RX0 yX0_isKnown wsX0_isKnown) := goodIn_app (goodIn_of _ (by decide +kernel)) ggX1_knownPairFault_X0_isKnown
theorem dX1_knownPairFault_0 : decode cX1_knownPairFault 0 = .ok (.aload_n 0, 1) := by decide +kernel
theorem dX1_knownPairFault_1 : decode cX1_knownPairFault 1 = .ok (.iload_n 1, 1) := by decide +kernel
theorem dX1_knownPairFault_2 : decode cX1_knownPairFault 2 = .ok (.iload_n 2, 1) := by decide +kernel
theorem dX1_knownPairFault_3 : decode cX1_knownPairFault 3 = .ok (.invokevirtual 33, 3) := by decide +kernel
theorem dX1_knownPairFault_6 : decode cX1_knownPairFault 6 = .ok (.istore_n 3, 1) := by decide +kernel
theorem dX1_knownPairFault_7 : decode cX1_knownPairFault 7 = .ok (.iload_n 3, 1) := by decide +kernel
theorem dX1_knownPairFault_8 : decode cX1_knownPairFault 8 = .ok (.ifCond .eq 5, 3) := by decide +kernel
theorem dX1_knownPairFault_11 : decode cX1_knownPairFault 11 = .ok (.iload_n 3, 1) := by decide +kernel
theorem dX1_knownPairFault_12 : decode cX1_knownPairFault 12 = .ok (.ireturn, 1) := by decide +kernel
theorem dX1_knownPairFault_13 : decode cX1_knownPairFault 13 = .ok (.aload_n 0, 1) := by decide +kernel
theorem dX1_knownPairFault_14 : decode cX1_knownPairFault 14 = .ok (.getfield 10, 3) := by decide +kernel
theorem dX1_knownPairFault_17 : decode cX1_knownPairFault 17 = .ok (.iload_n 1, 1) := by decide +kernel
theorem dX1_knownPairFault_18 : decode cX1_knownPairFault 18 = .ok (.iload_n 2, 1) := by decide +kernel
theorem dX1_knownPairFault_19 : decode cX1_knownPairFault 19 = .ok (.invokevirtual 100, 3) := by decide +kernel
theorem dX1_knownPairFault_22 : decode cX1_knownPairFault 22 = .ok (.ifCond .eq 7, 3) := by decide +kernel
theorem dX1_knownPairFault_25 : decode cX1_knownPairFault 25 = .ok (.iconst 0, 1) := by decide +kernel
theorem dX1_knownPairFault_26 : decode cX1_knownPairFault 26 = .ok (.goto 5, 3) := by decide +kernel
theorem dX1_knownPairFault_29 : decode cX1_knownPairFault 29 = .ok (.ldc 143, 2) := by decide +kernel
theorem dX1_knownPairFault_31 : decode cX1_knownPairFault 31 = .ok (.ireturn, 1) := by decide +kernel
theorem dX1_isWithin_0 : decode cX1_isWithin 0 = .ok (.iload_n 1, 1) := by decide +kernel
theorem dX1_isWithin_1 : decode cX1_isWithin 1 = .ok (.iload_n 0, 1) := by decide +kernel
theorem dX1_isWithin_2 : decode cX1_isWithin 2 = .ok (.if_icmp .gt 12, 3) := by decide +kernel
theorem dX1_isWithin_5 : decode cX1_isWithin 5 = .ok (.iload_n 0, 1) := by decide +kernel
theorem dX1_isWithin_6 : decode cX1_isWithin 6 = .ok (.iload_n 2, 1) := by decide +kernel
theorem dX1_isWithin_7 : decode cX1_isWithin 7 = .ok (.if_icmp .gt 7, 3) := by decide +kernel
theorem dX1_isWithin_10 : decode cX1_isWithin 10 = .ok (.iconst 1, 1) := by decide +kernel
theorem dX1_isWithin_11 : decode cX1_isWithin 11 = .ok (.goto 4, 3) := by decide +kernel
theorem dX1_isWithin_14 : decode cX1_isWithin 14 = .ok (.iconst 0, 1) := by decide +kernel
theorem dX1_isWithin_15 : decode cX1_isWithin 15 = .ok (.ireturn, 1) := by decide +kernel
theorem dX1_limited_0 : decode cX1_limited 0 = .ok (.iload_n 2, 1) := by decide +kernel
theorem dX1_limited_1 : decode cX1_limited 1 = .ok (.i2l, 1) := by decide +kernel
theorem dX1_limited_2 : decode cX1_limited 2 = .ok (.iload_n 3, 1) := by decide +kernel
theorem dX1_limited_3 : decode cX1_limited 3 = .ok (.i2l, 1) := by decide +kernel
theorem dX1_limited_4 : decode cX1_limited 4 = .ok (.lload_n 0, 1) := by decide +kernel
theorem dX1_limited_5 : decode cX1_limited 5 = .ok (.invokestatic 144, 3) := by decide +kernel
theorem dX1_limited_8 : decode cX1_limited 8 = .ok (.invokestatic 147, 3) := by decide +kernel
theorem dX1_limited_11 : decode cX1_limited 11 = .ok (.l2i, 1) := by decide +kernel
theorem dX1_limited_12 : decode cX1_limited 12 = .ok (.ireturn, 1) := by decide +kernel
theorem dX1_quotient_0 : decode cX1_quotient 0 = .ok (.lload_n 2, 1) := by decide +kernel
theorem dX1_quotient_1 : decode cX1_quotient 1 = .ok (.lconst 1, 1) := by decide +kernel
theorem dX1_quotient_2 : decode cX1_quotient 2 = .ok (.lcmp, 1) := by decide +kernel
theorem dX1_quotient_3 : decode cX1_quotient 3 = .ok (.ifCond .ge 7, 3) := by decide +kernel
theorem dX1_quotient_6 : decode cX1_quotient 6 = .ok (.lconst 0, 1) := by decide +kernel
theorem dX1_quotient_7 : decode cX1_quotient 7 = .ok (.goto 6, 3) := by decide +kernel
theorem dX1_quotient_10 : decode cX1_quotient 10 = .ok (.lload_n 0, 1) := by decide +kernel
theorem dX1_quotient_11 : decode cX1_quotient 11 = .ok (.lload_n 2, 1) := by decide +kernel
theorem dX1_quotient_12 : decode cX1_quotient 12 = .ok (.ldiv, 1) := by decide +kernel
theorem dX1_quotient_13 : decode cX1_quotient 13 = .ok (.lreturn, 1) := by decide +kernel
set_option maxRecDepth 20000 in
theorem ggX1_share_X1_quotient : GoodIn wsX1_share wsX1_quotient := goodIn_r _ [4] (by decide +kernel) (by decide +kernel)
set_option maxRecDepth 20000 in
theorem gX1_share_X1_quotient : GoodIn wsX1_share (va_wsS RX1 108 yX1_quotient wsX1_quotient) := goodIn_app (goodIn_of _ (by decide +kernel)) ggX1_share_X1_quotient
theorem dX1_share_0 : decode cX1_share 0 = .ok (.iload_n 2, 1) := by decide +kernel
theorem dX1_share_1 : decode cX1_share 1 = .ok (.ifCond .ne 7, 3) := by decide +kernel
theorem dX1_share_4 : decode cX1_share 4 = .ok (.lconst 0, 1) := by decide +kernel
theorem dX1_share_5 : decode cX1_share 5 = .ok (.goto 13, 3) := by decide +kernel
theorem dX1_share_8 : decode cX1_share 8 = .ok (.iload_n 0, 1) := by decide +kernel
theorem dX1_share_9 : decode cX1_share 9 = .ok (.i2l, 1) := by decide +kernel
theorem dX1_share_10 : decode cX1_share 10 = .ok (.iload_n 1, 1) := by decide +kernel
theorem dX1_share_11 : decode cX1_share 11 = .ok (.i2l, 1) := by decide +kernel
theorem dX1_share_12 : decode cX1_share 12 = .ok (.lmul, 1) := by decide +kernel
theorem dX1_share_13 : decode cX1_share 13 = .ok (.iload_n 2, 1) := by decide +kernel
theorem dX1_share_14 : decode cX1_share 14 = .ok (.i2l, 1) := by decide +kernel
theorem dX1_share_15 : decode cX1_share 15 = .ok (.invokestatic 108, 3) := by decide +kernel
theorem dX1_share_18 : decode cX1_share 18 = .ok (.lreturn, 1) := by decide +kernel
theorem dX1_squareRoot_0 : decode cX1_squareRoot 0 = .ok (.lconst 0, 1) := by decide +kernel
theorem dX1_squareRoot_1 : decode cX1_squareRoot 1 = .ok (.lstore_n 2, 1) := by decide +kernel
theorem dX1_squareRoot_2 : decode cX1_squareRoot 2 = .ok (.bipush 18, 2) := by decide +kernel
theorem dX1_squareRoot_4 : decode cX1_squareRoot 4 = .ok (.istore 4, 2) := by decide +kernel
theorem dX1_squareRoot_6 : decode cX1_squareRoot 6 = .ok (.iload 4, 2) := by decide +kernel
theorem dX1_squareRoot_8 : decode cX1_squareRoot 8 = .ok (.ifCond .lt 30, 3) := by decide +kernel
theorem dX1_squareRoot_11 : decode cX1_squareRoot 11 = .ok (.lload_n 2, 1) := by decide +kernel
theorem dX1_squareRoot_12 : decode cX1_squareRoot 12 = .ok (.lconst 1, 1) := by decide +kernel
theorem dX1_squareRoot_13 : decode cX1_squareRoot 13 = .ok (.iload 4, 2) := by decide +kernel
theorem dX1_squareRoot_15 : decode cX1_squareRoot 15 = .ok (.lshl, 1) := by decide +kernel
theorem dX1_squareRoot_16 : decode cX1_squareRoot 16 = .ok (.ladd, 1) := by decide +kernel
theorem dX1_squareRoot_17 : decode cX1_squareRoot 17 = .ok (.lstore 5, 2) := by decide +kernel
theorem dX1_squareRoot_19 : decode cX1_squareRoot 19 = .ok (.lload 5, 2) := by decide +kernel
theorem dX1_squareRoot_21 : decode cX1_squareRoot 21 = .ok (.lload 5, 2) := by decide +kernel
theorem dX1_squareRoot_23 : decode cX1_squareRoot 23 = .ok (.lmul, 1) := by decide +kernel
theorem dX1_squareRoot_24 : decode cX1_squareRoot 24 = .ok (.lload_n 0, 1) := by decide +kernel
theorem dX1_squareRoot_25 : decode cX1_squareRoot 25 = .ok (.lcmp, 1) := by decide +kernel
theorem dX1_squareRoot_26 : decode cX1_squareRoot 26 = .ok (.ifCond .gt 6, 3) := by decide +kernel
theorem dX1_squareRoot_29 : decode cX1_squareRoot 29 = .ok (.lload 5, 2) := by decide +kernel
theorem dX1_squareRoot_31 : decode cX1_squareRoot 31 = .ok (.lstore_n 2, 1) := by decide +kernel
theorem dX1_squareRoot_32 : decode cX1_squareRoot 32 = .ok (.iinc 4 (-1), 3) := by decide +kernel
theorem dX1_squareRoot_35 : decode cX1_squareRoot 35 = .ok (.goto (-29), 3) := by decide +kernel
theorem dX1_squareRoot_38 : decode cX1_squareRoot 38 = .ok (.lload_n 2, 1) := by decide +kernel
theorem dX1_squareRoot_39 : decode cX1_squareRoot 39 = .ok (.l2i, 1) := by decide +kernel
theorem dX1_squareRoot_40 : decode cX1_squareRoot 40 = .ok (.ireturn, 1) := by decide +kernel
set_option maxRecDepth 20000 in
theorem ggX1_planarDistance_X1_squareRoot : GoodIn wsX1_planarDistance wsX1_squareRoot := goodIn_r _ [4] (by decide +kernel) (by decide +kernel)
set_option maxRecDepth 20000 in
theorem gX1_planarDistance_X1_squareRoot : GoodIn wsX1_planarDistance (va_wsS RX1 149 yX1_squareRoot wsX1_squareRoot) := goodIn_app (goodIn_of _ (by decide +kernel)) ggX1_planarDistance_X1_squareRoot
theorem dX1_planarDistance_0 : decode cX1_planarDistance 0 = .ok (.lload_n 0, 1) := by decide +kernel
theorem dX1_planarDistance_1 : decode cX1_planarDistance 1 = .ok (.lload_n 0, 1) := by decide +kernel
theorem dX1_planarDistance_2 : decode cX1_planarDistance 2 = .ok (.lmul, 1) := by decide +kernel
theorem dX1_planarDistance_3 : decode cX1_planarDistance 3 = .ok (.lload_n 2, 1) := by decide +kernel
theorem dX1_planarDistance_4 : decode cX1_planarDistance 4 = .ok (.lload_n 2, 1) := by decide +kernel
theorem dX1_planarDistance_5 : decode cX1_planarDistance 5 = .ok (.lmul, 1) := by decide +kernel
theorem dX1_planarDistance_6 : decode cX1_planarDistance 6 = .ok (.ladd, 1) := by decide +kernel
theorem dX1_planarDistance_7 : decode cX1_planarDistance 7 = .ok (.invokestatic 149, 3) := by decide +kernel
theorem dX1_planarDistance_10 : decode cX1_planarDistance 10 = .ok (.ireturn, 1) := by decide +kernel
