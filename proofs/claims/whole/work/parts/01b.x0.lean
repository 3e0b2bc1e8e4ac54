set_option maxRecDepth 20000 in
theorem ggX0_init_X0_begin : GoodIn wsX0_init wsX0_begin := goodIn_r _ [18, 19, 20, 12, 13, 21, 22, 23, 17, 24, 8, 9, 10, 11, 25, 26, 27, 28, 29, 30, 31, 32, 33, 34, 35] (by decide +kernel) (by decide +kernel)
set_option maxRecDepth 20000 in
theorem gX0_init_X0_begin : GoodIn wsX0_init (wsV RX0 40 RX0 yX0_begin wsX0_begin) := goodIn_app (goodIn_of _ (by decide +kernel)) ggX0_init_X0_begin
theorem dX0_init_0 : decode cX0_init 0 = .ok (.aload_n 0, 1) := by decide +kernel
theorem dX0_init_1 : decode cX0_init 1 = .ok (.invokespecial 3, 3) := by decide +kernel
theorem dX0_init_4 : decode cX0_init 4 = .ok (.aload_n 0, 1) := by decide +kernel
theorem dX0_init_5 : decode cX0_init 5 = .ok (.sipush 250, 3) := by decide +kernel
theorem dX0_init_8 : decode cX0_init 8 = .ok (.putfield 9, 3) := by decide +kernel
theorem dX0_init_11 : decode cX0_init 11 = .ok (.aload_n 0, 1) := by decide +kernel
theorem dX0_init_12 : decode cX0_init 12 = .ok (.sipush 250, 3) := by decide +kernel
theorem dX0_init_15 : decode cX0_init 15 = .ok (.putfield 15, 3) := by decide +kernel
theorem dX0_init_18 : decode cX0_init 18 = .ok (.aload_n 0, 1) := by decide +kernel
theorem dX0_init_19 : decode cX0_init 19 = .ok (.sipush 2000, 3) := by decide +kernel
theorem dX0_init_22 : decode cX0_init 22 = .ok (.putfield 18, 3) := by decide +kernel
theorem dX0_init_25 : decode cX0_init 25 = .ok (.aload_n 0, 1) := by decide +kernel
theorem dX0_init_26 : decode cX0_init 26 = .ok (.bipush 10, 2) := by decide +kernel
theorem dX0_init_28 : decode cX0_init 28 = .ok (.newarray .int, 2) := by decide +kernel
theorem dX0_init_30 : decode cX0_init 30 = .ok (.putfield 21, 3) := by decide +kernel
theorem dX0_init_33 : decode cX0_init 33 = .ok (.aload_n 0, 1) := by decide +kernel
theorem dX0_init_34 : decode cX0_init 34 = .ok (.bipush 10, 2) := by decide +kernel
theorem dX0_init_36 : decode cX0_init 36 = .ok (.newarray .int, 2) := by decide +kernel
theorem dX0_init_38 : decode cX0_init 38 = .ok (.putfield 25, 3) := by decide +kernel
theorem dX0_init_41 : decode cX0_init 41 = .ok (.aload_n 0, 1) := by decide +kernel
theorem dX0_init_42 : decode cX0_init 42 = .ok (.bipush 10, 2) := by decide +kernel
theorem dX0_init_44 : decode cX0_init 44 = .ok (.newarray .int, 2) := by decide +kernel
theorem dX0_init_46 : decode cX0_init 46 = .ok (.putfield 28, 3) := by decide +kernel
theorem dX0_init_49 : decode cX0_init 49 = .ok (.aload_n 0, 1) := by decide +kernel
theorem dX0_init_50 : decode cX0_init 50 = .ok (.bipush 10, 2) := by decide +kernel
theorem dX0_init_52 : decode cX0_init 52 = .ok (.newarray .int, 2) := by decide +kernel
theorem dX0_init_54 : decode cX0_init 54 = .ok (.putfield 31, 3) := by decide +kernel
theorem dX0_init_57 : decode cX0_init 57 = .ok (.aload_n 0, 1) := by decide +kernel
theorem dX0_init_58 : decode cX0_init 58 = .ok (.bipush 10, 2) := by decide +kernel
theorem dX0_init_60 : decode cX0_init 60 = .ok (.newarray .int, 2) := by decide +kernel
theorem dX0_init_62 : decode cX0_init 62 = .ok (.putfield 34, 3) := by decide +kernel
theorem dX0_init_65 : decode cX0_init 65 = .ok (.aload_n 0, 1) := by decide +kernel
theorem dX0_init_66 : decode cX0_init 66 = .ok (.bipush 100, 2) := by decide +kernel
theorem dX0_init_68 : decode cX0_init 68 = .ok (.newarray .int, 2) := by decide +kernel
theorem dX0_init_70 : decode cX0_init 70 = .ok (.putfield 37, 3) := by decide +kernel
theorem dX0_init_73 : decode cX0_init 73 = .ok (.aload_n 0, 1) := by decide +kernel
theorem dX0_init_74 : decode cX0_init 74 = .ok (.iconst 5, 1) := by decide +kernel
theorem dX0_init_75 : decode cX0_init 75 = .ok (.invokevirtual 40, 3) := by decide +kernel
theorem dX0_init_78 : decode cX0_init 78 = .ok (.return_, 1) := by decide +kernel
set_option maxRecDepth 20000 in
theorem ggX0_begin_X0_settle : GoodIn wsX0_begin wsX0_settle := goodIn_r _ [9, 10, 11, 12, 13, 14, 15, 16, 17, 18, 19, 20, 21, 22, 23, 24] (by decide +kernel) (by decide +kernel)
set_option maxRecDepth 20000 in
theorem gX0_begin_X0_settle : GoodIn wsX0_begin (wsV RX0 50 RX0 yX0_settle wsX0_settle) := goodIn_app (goodIn_of _ (by decide +kernel)) ggX0_begin_X0_settle
theorem dX0_begin_0 : decode cX0_begin 0 = .ok (.aload_n 0, 1) := by decide +kernel
theorem dX0_begin_1 : decode cX0_begin 1 = .ok (.iload_n 1, 1) := by decide +kernel
theorem dX0_begin_2 : decode cX0_begin 2 = .ok (.putfield 44, 3) := by decide +kernel
theorem dX0_begin_5 : decode cX0_begin 5 = .ok (.aload_n 0, 1) := by decide +kernel
theorem dX0_begin_6 : decode cX0_begin 6 = .ok (.iconst 0, 1) := by decide +kernel
theorem dX0_begin_7 : decode cX0_begin 7 = .ok (.putfield 47, 3) := by decide +kernel
theorem dX0_begin_10 : decode cX0_begin 10 = .ok (.iconst 0, 1) := by decide +kernel
theorem dX0_begin_11 : decode cX0_begin 11 = .ok (.istore_n 2, 1) := by decide +kernel
theorem dX0_begin_12 : decode cX0_begin 12 = .ok (.iload_n 2, 1) := by decide +kernel
theorem dX0_begin_13 : decode cX0_begin 13 = .ok (.bipush 10, 2) := by decide +kernel
theorem dX0_begin_15 : decode cX0_begin 15 = .ok (.if_icmp .ge 27, 3) := by decide +kernel
theorem dX0_begin_18 : decode cX0_begin 18 = .ok (.aload_n 0, 1) := by decide +kernel
theorem dX0_begin_19 : decode cX0_begin 19 = .ok (.iload_n 2, 1) := by decide +kernel
theorem dX0_begin_20 : decode cX0_begin 20 = .ok (.iconst 0, 1) := by decide +kernel
theorem dX0_begin_21 : decode cX0_begin 21 = .ok (.iconst 0, 1) := by decide +kernel
theorem dX0_begin_22 : decode cX0_begin 22 = .ok (.iconst 0, 1) := by decide +kernel
theorem dX0_begin_23 : decode cX0_begin 23 = .ok (.sipush 1000, 3) := by decide +kernel
theorem dX0_begin_26 : decode cX0_begin 26 = .ok (.invokevirtual 50, 3) := by decide +kernel
theorem dX0_begin_29 : decode cX0_begin 29 = .ok (.aload_n 0, 1) := by decide +kernel
theorem dX0_begin_30 : decode cX0_begin 30 = .ok (.getfield 34, 3) := by decide +kernel
theorem dX0_begin_33 : decode cX0_begin 33 = .ok (.iload_n 2, 1) := by decide +kernel
theorem dX0_begin_34 : decode cX0_begin 34 = .ok (.iconst 0, 1) := by decide +kernel
theorem dX0_begin_35 : decode cX0_begin 35 = .ok (.iastore, 1) := by decide +kernel
theorem dX0_begin_36 : decode cX0_begin 36 = .ok (.iinc 2 1, 3) := by decide +kernel
theorem dX0_begin_39 : decode cX0_begin 39 = .ok (.goto (-27), 3) := by decide +kernel
theorem dX0_begin_42 : decode cX0_begin 42 = .ok (.iconst 0, 1) := by decide +kernel
theorem dX0_begin_43 : decode cX0_begin 43 = .ok (.istore_n 2, 1) := by decide +kernel
theorem dX0_begin_44 : decode cX0_begin 44 = .ok (.iload_n 2, 1) := by decide +kernel
theorem dX0_begin_45 : decode cX0_begin 45 = .ok (.aload_n 0, 1) := by decide +kernel
theorem dX0_begin_46 : decode cX0_begin 46 = .ok (.getfield 37, 3) := by decide +kernel
theorem dX0_begin_49 : decode cX0_begin 49 = .ok (.arraylength, 1) := by decide +kernel
theorem dX0_begin_50 : decode cX0_begin 50 = .ok (.if_icmp .ge 16, 3) := by decide +kernel
theorem dX0_begin_53 : decode cX0_begin 53 = .ok (.aload_n 0, 1) := by decide +kernel
theorem dX0_begin_54 : decode cX0_begin 54 = .ok (.getfield 37, 3) := by decide +kernel
theorem dX0_begin_57 : decode cX0_begin 57 = .ok (.iload_n 2, 1) := by decide +kernel
theorem dX0_begin_58 : decode cX0_begin 58 = .ok (.iconst 0, 1) := by decide +kernel
theorem dX0_begin_59 : decode cX0_begin 59 = .ok (.iastore, 1) := by decide +kernel
theorem dX0_begin_60 : decode cX0_begin 60 = .ok (.iinc 2 1, 3) := by decide +kernel
theorem dX0_begin_63 : decode cX0_begin 63 = .ok (.goto (-19), 3) := by decide +kernel
theorem dX0_begin_66 : decode cX0_begin 66 = .ok (.return_, 1) := by decide +kernel
theorem dX0_copyFrom_0 : decode cX0_copyFrom 0 = .ok (.aload_n 0, 1) := by decide +kernel
theorem dX0_copyFrom_1 : decode cX0_copyFrom 1 = .ok (.aload_n 1, 1) := by decide +kernel
theorem dX0_copyFrom_2 : decode cX0_copyFrom 2 = .ok (.getfield 44, 3) := by decide +kernel
theorem dX0_copyFrom_5 : decode cX0_copyFrom 5 = .ok (.putfield 44, 3) := by decide +kernel
theorem dX0_copyFrom_8 : decode cX0_copyFrom 8 = .ok (.aload_n 0, 1) := by decide +kernel
theorem dX0_copyFrom_9 : decode cX0_copyFrom 9 = .ok (.aload_n 1, 1) := by decide +kernel
theorem dX0_copyFrom_10 : decode cX0_copyFrom 10 = .ok (.getfield 47, 3) := by decide +kernel
theorem dX0_copyFrom_13 : decode cX0_copyFrom 13 = .ok (.putfield 47, 3) := by decide +kernel
theorem dX0_copyFrom_16 : decode cX0_copyFrom 16 = .ok (.aload_n 0, 1) := by decide +kernel
theorem dX0_copyFrom_17 : decode cX0_copyFrom 17 = .ok (.aload_n 1, 1) := by decide +kernel
theorem dX0_copyFrom_18 : decode cX0_copyFrom 18 = .ok (.getfield 9, 3) := by decide +kernel
theorem dX0_copyFrom_21 : decode cX0_copyFrom 21 = .ok (.putfield 9, 3) := by decide +kernel
theorem dX0_copyFrom_24 : decode cX0_copyFrom 24 = .ok (.aload_n 0, 1) := by decide +kernel
theorem dX0_copyFrom_25 : decode cX0_copyFrom 25 = .ok (.aload_n 1, 1) := by decide +kernel
theorem dX0_copyFrom_26 : decode cX0_copyFrom 26 = .ok (.getfield 15, 3) := by decide +kernel
theorem dX0_copyFrom_29 : decode cX0_copyFrom 29 = .ok (.putfield 15, 3) := by decide +kernel
theorem dX0_copyFrom_32 : decode cX0_copyFrom 32 = .ok (.aload_n 0, 1) := by decide +kernel
theorem dX0_copyFrom_33 : decode cX0_copyFrom 33 = .ok (.aload_n 1, 1) := by decide +kernel
theorem dX0_copyFrom_34 : decode cX0_copyFrom 34 = .ok (.getfield 18, 3) := by decide +kernel
theorem dX0_copyFrom_37 : decode cX0_copyFrom 37 = .ok (.putfield 18, 3) := by decide +kernel
theorem dX0_copyFrom_40 : decode cX0_copyFrom 40 = .ok (.aload_n 1, 1) := by decide +kernel
theorem dX0_copyFrom_41 : decode cX0_copyFrom 41 = .ok (.getfield 21, 3) := by decide +kernel
theorem dX0_copyFrom_44 : decode cX0_copyFrom 44 = .ok (.iconst 0, 1) := by decide +kernel
theorem dX0_copyFrom_45 : decode cX0_copyFrom 45 = .ok (.aload_n 0, 1) := by decide +kernel
theorem dX0_copyFrom_46 : decode cX0_copyFrom 46 = .ok (.getfield 21, 3) := by decide +kernel
theorem dX0_copyFrom_49 : decode cX0_copyFrom 49 = .ok (.iconst 0, 1) := by decide +kernel
theorem dX0_copyFrom_50 : decode cX0_copyFrom 50 = .ok (.bipush 10, 2) := by decide +kernel
theorem dX0_copyFrom_52 : decode cX0_copyFrom 52 = .ok (.invokestatic 54, 3) := by decide +kernel
theorem dX0_copyFrom_55 : decode cX0_copyFrom 55 = .ok (.aload_n 1, 1) := by decide +kernel
theorem dX0_copyFrom_56 : decode cX0_copyFrom 56 = .ok (.getfield 25, 3) := by decide +kernel
theorem dX0_copyFrom_59 : decode cX0_copyFrom 59 = .ok (.iconst 0, 1) := by decide +kernel
theorem dX0_copyFrom_60 : decode cX0_copyFrom 60 = .ok (.aload_n 0, 1) := by decide +kernel
theorem dX0_copyFrom_61 : decode cX0_copyFrom 61 = .ok (.getfield 25, 3) := by decide +kernel
theorem dX0_copyFrom_64 : decode cX0_copyFrom 64 = .ok (.iconst 0, 1) := by decide +kernel
theorem dX0_copyFrom_65 : decode cX0_copyFrom 65 = .ok (.bipush 10, 2) := by decide +kernel
theorem dX0_copyFrom_67 : decode cX0_copyFrom 67 = .ok (.invokestatic 54, 3) := by decide +kernel
theorem dX0_copyFrom_70 : decode cX0_copyFrom 70 = .ok (.aload_n 1, 1) := by decide +kernel
theorem dX0_copyFrom_71 : decode cX0_copyFrom 71 = .ok (.getfield 28, 3) := by decide +kernel
theorem dX0_copyFrom_74 : decode cX0_copyFrom 74 = .ok (.iconst 0, 1) := by decide +kernel
theorem dX0_copyFrom_75 : decode cX0_copyFrom 75 = .ok (.aload_n 0, 1) := by decide +kernel
theorem dX0_copyFrom_76 : decode cX0_copyFrom 76 = .ok (.getfield 28, 3) := by decide +kernel
theorem dX0_copyFrom_79 : decode cX0_copyFrom 79 = .ok (.iconst 0, 1) := by decide +kernel
theorem dX0_copyFrom_80 : decode cX0_copyFrom 80 = .ok (.bipush 10, 2) := by decide +kernel
theorem dX0_copyFrom_82 : decode cX0_copyFrom 82 = .ok (.invokestatic 54, 3) := by decide +kernel
theorem dX0_copyFrom_85 : decode cX0_copyFrom 85 = .ok (.aload_n 1, 1) := by decide +kernel
theorem dX0_copyFrom_86 : decode cX0_copyFrom 86 = .ok (.getfield 31, 3) := by decide +kernel
theorem dX0_copyFrom_89 : decode cX0_copyFrom 89 = .ok (.iconst 0, 1) := by decide +kernel
theorem dX0_copyFrom_90 : decode cX0_copyFrom 90 = .ok (.aload_n 0, 1) := by decide +kernel
theorem dX0_copyFrom_91 : decode cX0_copyFrom 91 = .ok (.getfield 31, 3) := by decide +kernel
theorem dX0_copyFrom_94 : decode cX0_copyFrom 94 = .ok (.iconst 0, 1) := by decide +kernel
theorem dX0_copyFrom_95 : decode cX0_copyFrom 95 = .ok (.bipush 10, 2) := by decide +kernel
theorem dX0_copyFrom_97 : decode cX0_copyFrom 97 = .ok (.invokestatic 54, 3) := by decide +kernel
theorem dX0_copyFrom_100 : decode cX0_copyFrom 100 = .ok (.aload_n 1, 1) := by decide +kernel
theorem dX0_copyFrom_101 : decode cX0_copyFrom 101 = .ok (.getfield 34, 3) := by decide +kernel
theorem dX0_copyFrom_104 : decode cX0_copyFrom 104 = .ok (.iconst 0, 1) := by decide +kernel
theorem dX0_copyFrom_105 : decode cX0_copyFrom 105 = .ok (.aload_n 0, 1) := by decide +kernel
theorem dX0_copyFrom_106 : decode cX0_copyFrom 106 = .ok (.getfield 34, 3) := by decide +kernel
theorem dX0_copyFrom_109 : decode cX0_copyFrom 109 = .ok (.iconst 0, 1) := by decide +kernel
theorem dX0_copyFrom_110 : decode cX0_copyFrom 110 = .ok (.bipush 10, 2) := by decide +kernel
theorem dX0_copyFrom_112 : decode cX0_copyFrom 112 = .ok (.invokestatic 54, 3) := by decide +kernel
theorem dX0_copyFrom_115 : decode cX0_copyFrom 115 = .ok (.aload_n 1, 1) := by decide +kernel
theorem dX0_copyFrom_116 : decode cX0_copyFrom 116 = .ok (.getfield 37, 3) := by decide +kernel
theorem dX0_copyFrom_119 : decode cX0_copyFrom 119 = .ok (.iconst 0, 1) := by decide +kernel
theorem dX0_copyFrom_120 : decode cX0_copyFrom 120 = .ok (.aload_n 0, 1) := by decide +kernel
theorem dX0_copyFrom_121 : decode cX0_copyFrom 121 = .ok (.getfield 37, 3) := by decide +kernel
theorem dX0_copyFrom_124 : decode cX0_copyFrom 124 = .ok (.iconst 0, 1) := by decide +kernel
theorem dX0_copyFrom_125 : decode cX0_copyFrom 125 = .ok (.bipush 100, 2) := by decide +kernel
theorem dX0_copyFrom_127 : decode cX0_copyFrom 127 = .ok (.invokestatic 54, 3) := by decide +kernel
theorem dX0_copyFrom_130 : decode cX0_copyFrom 130 = .ok (.return_, 1) := by decide +kernel
theorem dX0_settle_0 : decode cX0_settle 0 = .ok (.aload_n 0, 1) := by decide +kernel
theorem dX0_settle_1 : decode cX0_settle 1 = .ok (.getfield 21, 3) := by decide +kernel
theorem dX0_settle_4 : decode cX0_settle 4 = .ok (.iload_n 1, 1) := by decide +kernel
theorem dX0_settle_5 : decode cX0_settle 5 = .ok (.iload_n 2, 1) := by decide +kernel
theorem dX0_settle_6 : decode cX0_settle 6 = .ok (.iastore, 1) := by decide +kernel
theorem dX0_settle_7 : decode cX0_settle 7 = .ok (.aload_n 0, 1) := by decide +kernel
theorem dX0_settle_8 : decode cX0_settle 8 = .ok (.getfield 25, 3) := by decide +kernel
theorem dX0_settle_11 : decode cX0_settle 11 = .ok (.iload_n 1, 1) := by decide +kernel
theorem dX0_settle_12 : decode cX0_settle 12 = .ok (.iload_n 3, 1) := by decide +kernel
theorem dX0_settle_13 : decode cX0_settle 13 = .ok (.iastore, 1) := by decide +kernel
theorem dX0_settle_14 : decode cX0_settle 14 = .ok (.aload_n 0, 1) := by decide +kernel
theorem dX0_settle_15 : decode cX0_settle 15 = .ok (.getfield 28, 3) := by decide +kernel
theorem dX0_settle_18 : decode cX0_settle 18 = .ok (.iload_n 1, 1) := by decide +kernel
theorem dX0_settle_19 : decode cX0_settle 19 = .ok (.iload 4, 2) := by decide +kernel
theorem dX0_settle_21 : decode cX0_settle 21 = .ok (.iastore, 1) := by decide +kernel
theorem dX0_settle_22 : decode cX0_settle 22 = .ok (.aload_n 0, 1) := by decide +kernel
theorem dX0_settle_23 : decode cX0_settle 23 = .ok (.getfield 31, 3) := by decide +kernel
theorem dX0_settle_26 : decode cX0_settle 26 = .ok (.iload_n 1, 1) := by decide +kernel
theorem dX0_settle_27 : decode cX0_settle 27 = .ok (.iload 5, 2) := by decide +kernel
theorem dX0_settle_29 : decode cX0_settle 29 = .ok (.iastore, 1) := by decide +kernel
theorem dX0_settle_30 : decode cX0_settle 30 = .ok (.return_, 1) := by decide +kernel
theorem dX0_rttOf_0 : decode cX0_rttOf 0 = .ok (.aload_n 0, 1) := by decide +kernel
theorem dX0_rttOf_1 : decode cX0_rttOf 1 = .ok (.getfield 37, 3) := by decide +kernel
theorem dX0_rttOf_4 : decode cX0_rttOf 4 = .ok (.bipush 10, 2) := by decide +kernel
theorem dX0_rttOf_6 : decode cX0_rttOf 6 = .ok (.iload_n 1, 1) := by decide +kernel
theorem dX0_rttOf_7 : decode cX0_rttOf 7 = .ok (.imul, 1) := by decide +kernel
theorem dX0_rttOf_8 : decode cX0_rttOf 8 = .ok (.iload_n 2, 1) := by decide +kernel
theorem dX0_rttOf_9 : decode cX0_rttOf 9 = .ok (.iadd, 1) := by decide +kernel
theorem dX0_rttOf_10 : decode cX0_rttOf 10 = .ok (.iaload, 1) := by decide +kernel
theorem dX0_rttOf_11 : decode cX0_rttOf 11 = .ok (.ireturn, 1) := by decide +kernel
theorem dX0_keepRtt_0 : decode cX0_keepRtt 0 = .ok (.aload_n 0, 1) := by decide +kernel
theorem dX0_keepRtt_1 : decode cX0_keepRtt 1 = .ok (.getfield 37, 3) := by decide +kernel
theorem dX0_keepRtt_4 : decode cX0_keepRtt 4 = .ok (.bipush 10, 2) := by decide +kernel
theorem dX0_keepRtt_6 : decode cX0_keepRtt 6 = .ok (.iload_n 1, 1) := by decide +kernel
theorem dX0_keepRtt_7 : decode cX0_keepRtt 7 = .ok (.imul, 1) := by decide +kernel
theorem dX0_keepRtt_8 : decode cX0_keepRtt 8 = .ok (.iload_n 2, 1) := by decide +kernel
theorem dX0_keepRtt_9 : decode cX0_keepRtt 9 = .ok (.iadd, 1) := by decide +kernel
theorem dX0_keepRtt_10 : decode cX0_keepRtt 10 = .ok (.iload_n 3, 1) := by decide +kernel
theorem dX0_keepRtt_11 : decode cX0_keepRtt 11 = .ok (.iastore, 1) := by decide +kernel
theorem dX0_keepRtt_12 : decode cX0_keepRtt 12 = .ok (.aload_n 0, 1) := by decide +kernel
theorem dX0_keepRtt_13 : decode cX0_keepRtt 13 = .ok (.getfield 37, 3) := by decide +kernel
theorem dX0_keepRtt_16 : decode cX0_keepRtt 16 = .ok (.bipush 10, 2) := by decide +kernel
theorem dX0_keepRtt_18 : decode cX0_keepRtt 18 = .ok (.iload_n 2, 1) := by decide +kernel
theorem dX0_keepRtt_19 : decode cX0_keepRtt 19 = .ok (.imul, 1) := by decide +kernel
theorem dX0_keepRtt_20 : decode cX0_keepRtt 20 = .ok (.iload_n 1, 1) := by decide +kernel
theorem dX0_keepRtt_21 : decode cX0_keepRtt 21 = .ok (.iadd, 1) := by decide +kernel
theorem dX0_keepRtt_22 : decode cX0_keepRtt 22 = .ok (.iload_n 3, 1) := by decide +kernel
theorem dX0_keepRtt_23 : decode cX0_keepRtt 23 = .ok (.iastore, 1) := by decide +kernel
theorem dX0_keepRtt_24 : decode cX0_keepRtt 24 = .ok (.return_, 1) := by decide +kernel
set_option maxRecDepth 20000 in
theorem ggX0_isKnown_X0_rttOf : GoodIn wsX0_isKnown wsX0_rttOf := goodIn_r _ [5, 6, 7, 8, 9, 10, 11, 12, 13, 14, 15, 16, 17] (by decide +kernel) (by decide +kernel)
set_option maxRecDepth 20000 in
theorem gX0_isKnown_X0_rttOf : GoodIn wsX0_isKnown (wsV RX0 60 RX0 yX0_rttOf wsX0_rttOf) := goodIn_app (goodIn_of _ (by decide +kernel)) ggX0_isKnown_X0_rttOf
theorem dX0_isKnown_0 : decode cX0_isKnown 0 = .ok (.aload_n 0, 1) := by decide +kernel
theorem dX0_isKnown_1 : decode cX0_isKnown 1 = .ok (.iload_n 1, 1) := by decide +kernel
theorem dX0_isKnown_2 : decode cX0_isKnown 2 = .ok (.iload_n 2, 1) := by decide +kernel
theorem dX0_isKnown_3 : decode cX0_isKnown 3 = .ok (.invokevirtual 60, 3) := by decide +kernel
theorem dX0_isKnown_6 : decode cX0_isKnown 6 = .ok (.ifCond .eq 7, 3) := by decide +kernel
theorem dX0_isKnown_9 : decode cX0_isKnown 9 = .ok (.iconst 1, 1) := by decide +kernel
theorem dX0_isKnown_10 : decode cX0_isKnown 10 = .ok (.goto 4, 3) := by decide +kernel
theorem dX0_isKnown_13 : decode cX0_isKnown 13 = .ok (.iconst 0, 1) := by decide +kernel
theorem dX0_isKnown_14 : decode cX0_isKnown 14 = .ok (.ireturn, 1) := by decide +kernel
set_option maxRecDepth 20000 in
theorem ggX0_sample_X0_rttOf : GoodIn wsX0_sample wsX0_rttOf := goodIn_r _ [6, 7, 8, 9, 10, 11, 12, 13, 14, 15, 16, 17, 18] (by decide +kernel) (by decide +kernel)
set_option maxRecDepth 20000 in
theorem gX0_sample_X0_rttOf : GoodIn wsX0_sample (wsV RX0 60 RX0 yX0_rttOf wsX0_rttOf) := goodIn_app (goodIn_of _ (by decide +kernel)) ggX0_sample_X0_rttOf
theorem dX0_sample_0 : decode cX0_sample 0 = .ok (.aload_n 0, 1) := by decide +kernel
theorem dX0_sample_1 : decode cX0_sample 1 = .ok (.iload_n 1, 1) := by decide +kernel
theorem dX0_sample_2 : decode cX0_sample 2 = .ok (.iload_n 2, 1) := by decide +kernel
theorem dX0_sample_3 : decode cX0_sample 3 = .ok (.invokevirtual 60, 3) := by decide +kernel
theorem dX0_sample_6 : decode cX0_sample 6 = .ok (.aload_n 0, 1) := by decide +kernel
theorem dX0_sample_7 : decode cX0_sample 7 = .ok (.getfield 34, 3) := by decide +kernel
theorem dX0_sample_10 : decode cX0_sample 10 = .ok (.iload_n 2, 1) := by decide +kernel
theorem dX0_sample_11 : decode cX0_sample 11 = .ok (.iaload, 1) := by decide +kernel
theorem dX0_sample_12 : decode cX0_sample 12 = .ok (.iadd, 1) := by decide +kernel
theorem dX0_sample_13 : decode cX0_sample 13 = .ok (.ireturn, 1) := by decide +kernel
set_option maxRecDepth 20000 in
theorem ggX0_predicted_X1_planarDistance : GoodIn wsX0_predicted wsX1_planarDistance := goodIn_r _ [6, 7, 8, 5, 9] (by decide +kernel) (by decide +kernel)
set_option maxRecDepth 20000 in
theorem gX0_predicted_X1_planarDistance_n64 : GoodIn wsX0_predicted (wsX1_planarDistance) := ggX0_predicted_X1_planarDistance
theorem dX0_predicted_0 : decode cX0_predicted 0 = .ok (.aload_n 0, 1) := by decide +kernel
theorem dX0_predicted_1 : decode cX0_predicted 1 = .ok (.getfield 21, 3) := by decide +kernel
theorem dX0_predicted_4 : decode cX0_predicted 4 = .ok (.iload_n 1, 1) := by decide +kernel
theorem dX0_predicted_5 : decode cX0_predicted 5 = .ok (.iaload, 1) := by decide +kernel
theorem dX0_predicted_6 : decode cX0_predicted 6 = .ok (.aload_n 0, 1) := by decide +kernel
theorem dX0_predicted_7 : decode cX0_predicted 7 = .ok (.getfield 21, 3) := by decide +kernel
theorem dX0_predicted_10 : decode cX0_predicted 10 = .ok (.iload_n 2, 1) := by decide +kernel
theorem dX0_predicted_11 : decode cX0_predicted 11 = .ok (.iaload, 1) := by decide +kernel
theorem dX0_predicted_12 : decode cX0_predicted 12 = .ok (.isub, 1) := by decide +kernel
theorem dX0_predicted_13 : decode cX0_predicted 13 = .ok (.i2l, 1) := by decide +kernel
theorem dX0_predicted_14 : decode cX0_predicted 14 = .ok (.aload_n 0, 1) := by decide +kernel
theorem dX0_predicted_15 : decode cX0_predicted 15 = .ok (.getfield 25, 3) := by decide +kernel
theorem dX0_predicted_18 : decode cX0_predicted 18 = .ok (.iload_n 1, 1) := by decide +kernel
theorem dX0_predicted_19 : decode cX0_predicted 19 = .ok (.iaload, 1) := by decide +kernel
theorem dX0_predicted_20 : decode cX0_predicted 20 = .ok (.aload_n 0, 1) := by decide +kernel
theorem dX0_predicted_21 : decode cX0_predicted 21 = .ok (.getfield 25, 3) := by decide +kernel
theorem dX0_predicted_24 : decode cX0_predicted 24 = .ok (.iload_n 2, 1) := by decide +kernel
theorem dX0_predicted_25 : decode cX0_predicted 25 = .ok (.iaload, 1) := by decide +kernel
theorem dX0_predicted_26 : decode cX0_predicted 26 = .ok (.isub, 1) := by decide +kernel
theorem dX0_predicted_27 : decode cX0_predicted 27 = .ok (.i2l, 1) := by decide +kernel
theorem dX0_predicted_28 : decode cX0_predicted 28 = .ok (.invokestatic 64, 3) := by decide +kernel
theorem dX0_predicted_31 : decode cX0_predicted 31 = .ok (.aload_n 0, 1) := by decide +kernel
theorem dX0_predicted_32 : decode cX0_predicted 32 = .ok (.getfield 28, 3) := by decide +kernel
theorem dX0_predicted_35 : decode cX0_predicted 35 = .ok (.iload_n 1, 1) := by decide +kernel
theorem dX0_predicted_36 : decode cX0_predicted 36 = .ok (.iaload, 1) := by decide +kernel
theorem dX0_predicted_37 : decode cX0_predicted 37 = .ok (.iadd, 1) := by decide +kernel
theorem dX0_predicted_38 : decode cX0_predicted 38 = .ok (.aload_n 0, 1) := by decide +kernel
theorem dX0_predicted_39 : decode cX0_predicted 39 = .ok (.getfield 28, 3) := by decide +kernel
theorem dX0_predicted_42 : decode cX0_predicted 42 = .ok (.iload_n 2, 1) := by decide +kernel
theorem dX0_predicted_43 : decode cX0_predicted 43 = .ok (.iaload, 1) := by decide +kernel
theorem dX0_predicted_44 : decode cX0_predicted 44 = .ok (.iadd, 1) := by decide +kernel
theorem dX0_predicted_45 : decode cX0_predicted 45 = .ok (.ireturn, 1) := by decide +kernel
set_option maxRecDepth 20000 in
theorem ggX0_playRound_J9_floorMod_7cf53 : GoodIn wsX0_playRound wsJ9_floorMod_7cf53 := goodIn_r _ [6] (by decide +kernel) (by decide +kernel)
set_option maxRecDepth 20000 in
theorem gX0_playRound_J9_floorMod_7cf53 : GoodIn wsX0_playRound (va_wsS RX0 68 yJ9_floorMod_7cf53 wsJ9_floorMod_7cf53) := goodIn_app (goodIn_of _ (by decide +kernel)) ggX0_playRound_J9_floorMod_7cf53
set_option maxRecDepth 20000 in
theorem ggX0_playRound_X0_isKnown : GoodIn wsX0_playRound wsX0_isKnown := goodIn_r _ [11, 12, 13, 14, 10, 15, 16, 93, 94, 95, 96, 97, 98, 99, 100, 101, 102, 103] (by decide +kernel) (by decide +kernel)
set_option maxRecDepth 20000 in
theorem gX0_playRound_X0_isKnown : GoodIn wsX0_playRound (wsV RX0 73 RX0 yX0_isKnown wsX0_isKnown) := goodIn_app (goodIn_of _ (by decide +kernel)) ggX0_playRound_X0_isKnown
set_option maxRecDepth 20000 in
theorem ggX0_playRound_X0_update : GoodIn wsX0_playRound wsX0_update := goodIn_r _ [20, 21, 22, 23, 10, 24, 25, 26, 27, 28, 29, 30, 31, 32, 33, 34, 35, 36, 37, 38, 39, 40, 41, 42, 43, 44, 45, 46, 47, 48, 49, 50, 51, 52, 12, 13, 14, 15, 16, 53, 54, 55, 56, 57, 58, 59, 60, 61, 62, 63, 64, 65, 66, 67, 68, 69, 70, 71, 72, 73, 74, 75, 76, 77, 78, 79, 80, 81, 82, 83, 84, 85, 86, 87, 88, 89, 90, 91, 92, 93, 94, 95, 96, 97, 98, 99, 100, 101, 102, 103] (by decide +kernel) (by decide +kernel)
set_option maxRecDepth 20000 in
theorem gX0_playRound_X0_update : GoodIn wsX0_playRound (wsV RX0 77 RX0 yX0_update wsX0_update) := goodIn_app (goodIn_of _ (by decide +kernel)) ggX0_playRound_X0_update
theorem dX0_playRound_0 : decode cX0_playRound 0 = .ok (.aload_n 0, 1) := by decide +kernel
theorem dX0_playRound_1 : decode cX0_playRound 1 = .ok (.getfield 44, 3) := by decide +kernel
theorem dX0_playRound_4 : decode cX0_playRound 4 = .ok (.iconst 1, 1) := by decide +kernel
theorem dX0_playRound_5 : decode cX0_playRound 5 = .ok (.isub, 1) := by decide +kernel
theorem dX0_playRound_6 : decode cX0_playRound 6 = .ok (.istore_n 1, 1) := by decide +kernel
theorem dX0_playRound_7 : decode cX0_playRound 7 = .ok (.iload_n 1, 1) := by decide +kernel
theorem dX0_playRound_8 : decode cX0_playRound 8 = .ok (.iconst 1, 1) := by decide +kernel
theorem dX0_playRound_9 : decode cX0_playRound 9 = .ok (.if_icmp .ge 5, 3) := by decide +kernel
theorem dX0_playRound_12 : decode cX0_playRound 12 = .ok (.iconst 0, 1) := by decide +kernel
theorem dX0_playRound_13 : decode cX0_playRound 13 = .ok (.ireturn, 1) := by decide +kernel
theorem dX0_playRound_14 : decode cX0_playRound 14 = .ok (.iconst 1, 1) := by decide +kernel
theorem dX0_playRound_15 : decode cX0_playRound 15 = .ok (.aload_n 0, 1) := by decide +kernel
theorem dX0_playRound_16 : decode cX0_playRound 16 = .ok (.getfield 47, 3) := by decide +kernel
theorem dX0_playRound_19 : decode cX0_playRound 19 = .ok (.iload_n 1, 1) := by decide +kernel
theorem dX0_playRound_20 : decode cX0_playRound 20 = .ok (.invokestatic 68, 3) := by decide +kernel
theorem dX0_playRound_23 : decode cX0_playRound 23 = .ok (.iadd, 1) := by decide +kernel
theorem dX0_playRound_24 : decode cX0_playRound 24 = .ok (.istore_n 2, 1) := by decide +kernel
theorem dX0_playRound_25 : decode cX0_playRound 25 = .ok (.iconst 0, 1) := by decide +kernel
theorem dX0_playRound_26 : decode cX0_playRound 26 = .ok (.istore_n 3, 1) := by decide +kernel
theorem dX0_playRound_27 : decode cX0_playRound 27 = .ok (.iconst 0, 1) := by decide +kernel
theorem dX0_playRound_28 : decode cX0_playRound 28 = .ok (.istore 4, 2) := by decide +kernel
theorem dX0_playRound_30 : decode cX0_playRound 30 = .ok (.iload 4, 2) := by decide +kernel
theorem dX0_playRound_32 : decode cX0_playRound 32 = .ok (.aload_n 0, 1) := by decide +kernel
theorem dX0_playRound_33 : decode cX0_playRound 33 = .ok (.getfield 44, 3) := by decide +kernel
theorem dX0_playRound_36 : decode cX0_playRound 36 = .ok (.if_icmp .ge 60, 3) := by decide +kernel
theorem dX0_playRound_39 : decode cX0_playRound 39 = .ok (.iload 4, 2) := by decide +kernel
theorem dX0_playRound_41 : decode cX0_playRound 41 = .ok (.iload_n 2, 1) := by decide +kernel
theorem dX0_playRound_42 : decode cX0_playRound 42 = .ok (.iadd, 1) := by decide +kernel
theorem dX0_playRound_43 : decode cX0_playRound 43 = .ok (.aload_n 0, 1) := by decide +kernel
theorem dX0_playRound_44 : decode cX0_playRound 44 = .ok (.getfield 44, 3) := by decide +kernel
theorem dX0_playRound_47 : decode cX0_playRound 47 = .ok (.if_icmp .ge 10, 3) := by decide +kernel
theorem dX0_playRound_50 : decode cX0_playRound 50 = .ok (.iload 4, 2) := by decide +kernel
theorem dX0_playRound_52 : decode cX0_playRound 52 = .ok (.iload_n 2, 1) := by decide +kernel
theorem dX0_playRound_53 : decode cX0_playRound 53 = .ok (.iadd, 1) := by decide +kernel
theorem dX0_playRound_54 : decode cX0_playRound 54 = .ok (.goto 12, 3) := by decide +kernel
theorem dX0_playRound_57 : decode cX0_playRound 57 = .ok (.iload 4, 2) := by decide +kernel
theorem dX0_playRound_59 : decode cX0_playRound 59 = .ok (.iload_n 2, 1) := by decide +kernel
theorem dX0_playRound_60 : decode cX0_playRound 60 = .ok (.iadd, 1) := by decide +kernel
theorem dX0_playRound_61 : decode cX0_playRound 61 = .ok (.aload_n 0, 1) := by decide +kernel
theorem dX0_playRound_62 : decode cX0_playRound 62 = .ok (.getfield 44, 3) := by decide +kernel
theorem dX0_playRound_65 : decode cX0_playRound 65 = .ok (.isub, 1) := by decide +kernel
theorem dX0_playRound_66 : decode cX0_playRound 66 = .ok (.istore 5, 2) := by decide +kernel
theorem dX0_playRound_68 : decode cX0_playRound 68 = .ok (.aload_n 0, 1) := by decide +kernel
theorem dX0_playRound_69 : decode cX0_playRound 69 = .ok (.iload 4, 2) := by decide +kernel
theorem dX0_playRound_71 : decode cX0_playRound 71 = .ok (.iload 5, 2) := by decide +kernel
theorem dX0_playRound_73 : decode cX0_playRound 73 = .ok (.invokevirtual 73, 3) := by decide +kernel
theorem dX0_playRound_76 : decode cX0_playRound 76 = .ok (.ifCond .eq 14, 3) := by decide +kernel
theorem dX0_playRound_79 : decode cX0_playRound 79 = .ok (.aload_n 0, 1) := by decide +kernel
theorem dX0_playRound_80 : decode cX0_playRound 80 = .ok (.iload 4, 2) := by decide +kernel
theorem dX0_playRound_82 : decode cX0_playRound 82 = .ok (.iload 5, 2) := by decide +kernel
theorem dX0_playRound_84 : decode cX0_playRound 84 = .ok (.invokevirtual 77, 3) := by decide +kernel
theorem dX0_playRound_87 : decode cX0_playRound 87 = .ok (.iinc 3 1, 3) := by decide +kernel
theorem dX0_playRound_90 : decode cX0_playRound 90 = .ok (.iinc 4 1, 3) := by decide +kernel
theorem dX0_playRound_93 : decode cX0_playRound 93 = .ok (.goto (-63), 3) := by decide +kernel
theorem dX0_playRound_96 : decode cX0_playRound 96 = .ok (.aload_n 0, 1) := by decide +kernel
theorem dX0_playRound_97 : decode cX0_playRound 97 = .ok (.dup, 1) := by decide +kernel
theorem dX0_playRound_98 : decode cX0_playRound 98 = .ok (.getfield 47, 3) := by decide +kernel
theorem dX0_playRound_101 : decode cX0_playRound 101 = .ok (.iconst 1, 1) := by decide +kernel
theorem dX0_playRound_102 : decode cX0_playRound 102 = .ok (.iadd, 1) := by decide +kernel
theorem dX0_playRound_103 : decode cX0_playRound 103 = .ok (.putfield 47, 3) := by decide +kernel
theorem dX0_playRound_106 : decode cX0_playRound 106 = .ok (.iload_n 3, 1) := by decide +kernel
theorem dX0_playRound_107 : decode cX0_playRound 107 = .ok (.ireturn, 1) := by decide +kernel
set_option maxRecDepth 20000 in
theorem ggX0_update_X0_predicted : GoodIn wsX0_update wsX0_predicted := goodIn_r _ [5, 6, 7, 8, 9, 10, 11, 12, 13, 14, 79, 80, 81, 82, 83, 84, 85, 86, 87, 88, 89] (by decide +kernel) (by decide +kernel)
set_option maxRecDepth 20000 in
theorem gX0_update_X0_predicted : GoodIn wsX0_update (wsV RX0 81 RX0 yX0_predicted wsX0_predicted) := goodIn_app (goodIn_of _ (by decide +kernel)) ggX0_update_X0_predicted
set_option maxRecDepth 20000 in
theorem ggX0_update_X0_stepOf : GoodIn wsX0_update wsX0_stepOf := goodIn_r _ [18, 19, 20, 21, 22, 23, 24, 4, 25, 26, 27, 10, 28, 29, 30, 31, 32, 33, 34, 35, 36, 37, 38, 39, 40, 41, 42, 43, 44, 45, 46, 47, 79, 80, 81, 82, 83, 84, 85, 86, 87, 88, 89] (by decide +kernel) (by decide +kernel)
set_option maxRecDepth 20000 in
theorem gX0_update_X0_stepOf : GoodIn wsX0_update (wsV RX0 84 RX0 yX0_stepOf wsX0_stepOf) := goodIn_app (goodIn_of _ (by decide +kernel)) ggX0_update_X0_stepOf
set_option maxRecDepth 20000 in
theorem ggX0_update_X0_xAfter : GoodIn wsX0_update wsX0_xAfter := goodIn_r _ [51, 6, 52, 53, 54, 10, 55, 56, 27, 28, 39, 40, 41, 42, 43, 44, 45, 46, 47, 79, 80, 81, 82, 83, 84, 85, 86, 87, 88, 89] (by decide +kernel) (by decide +kernel)
set_option maxRecDepth 20000 in
theorem gX0_update_X0_xAfter : GoodIn wsX0_update (wsV RX0 88 RX0 yX0_xAfter wsX0_xAfter) := goodIn_app (goodIn_of _ (by decide +kernel)) ggX0_update_X0_xAfter
set_option maxRecDepth 20000 in
theorem ggX0_update_X0_yAfter : GoodIn wsX0_update wsX0_yAfter := goodIn_r _ [60, 7, 52, 53, 54, 10, 55, 56, 27, 28, 39, 40, 41, 42, 43, 44, 45, 46, 47, 79, 80, 81, 82, 83, 84, 85, 86, 87, 88, 89] (by decide +kernel) (by decide +kernel)
set_option maxRecDepth 20000 in
theorem gX0_update_X0_yAfter : GoodIn wsX0_update (wsV RX0 92 RX0 yX0_yAfter wsX0_yAfter) := goodIn_app (goodIn_of _ (by decide +kernel)) ggX0_update_X0_yAfter
set_option maxRecDepth 20000 in
theorem ggX0_update_X0_heightAfter : GoodIn wsX0_update wsX0_heightAfter := goodIn_r _ [64, 8, 53, 54, 10, 55, 56, 27, 28, 39, 40, 41, 42, 43, 44, 45, 46, 47, 79, 80, 81, 82, 83, 84, 85, 86, 87, 88, 89] (by decide +kernel) (by decide +kernel)
set_option maxRecDepth 20000 in
theorem gX0_update_X0_heightAfter : GoodIn wsX0_update (wsV RX0 95 RX0 yX0_heightAfter wsX0_heightAfter) := goodIn_app (goodIn_of _ (by decide +kernel)) ggX0_update_X0_heightAfter
set_option maxRecDepth 20000 in
theorem ggX0_update_X0_errorAfter : GoodIn wsX0_update wsX0_errorAfter := goodIn_r _ [68, 20, 69, 70, 43, 71, 72, 42, 44, 73, 26, 74, 46, 47, 29, 30, 31, 4, 32, 33, 34, 35, 36, 37, 38, 27, 10, 28, 22, 23, 24, 25, 79, 80, 81, 82, 83, 84, 85, 86, 87, 88, 89] (by decide +kernel) (by decide +kernel)
set_option maxRecDepth 20000 in
theorem gX0_update_X0_errorAfter : GoodIn wsX0_update (wsV RX0 98 RX0 yX0_errorAfter wsX0_errorAfter) := goodIn_app (goodIn_of _ (by decide +kernel)) ggX0_update_X0_errorAfter
set_option maxRecDepth 20000 in
theorem ggX0_update_X0_settle : GoodIn wsX0_update wsX0_settle := goodIn_r _ [78, 6, 7, 8, 26, 79, 80, 81, 82, 83, 84, 85, 86, 87, 88, 89] (by decide +kernel) (by decide +kernel)
set_option maxRecDepth 20000 in
theorem gX0_update_X0_settle : GoodIn wsX0_update (wsV RX0 50 RX0 yX0_settle wsX0_settle) := goodIn_app (goodIn_of _ (by decide +kernel)) ggX0_update_X0_settle
theorem dX0_update_0 : decode cX0_update 0 = .ok (.aload_n 0, 1) := by decide +kernel
theorem dX0_update_1 : decode cX0_update 1 = .ok (.iload_n 1, 1) := by decide +kernel
theorem dX0_update_2 : decode cX0_update 2 = .ok (.iload_n 2, 1) := by decide +kernel
theorem dX0_update_3 : decode cX0_update 3 = .ok (.invokevirtual 81, 3) := by decide +kernel
theorem dX0_update_6 : decode cX0_update 6 = .ok (.istore_n 3, 1) := by decide +kernel
theorem dX0_update_7 : decode cX0_update 7 = .ok (.aload_n 0, 1) := by decide +kernel
theorem dX0_update_8 : decode cX0_update 8 = .ok (.iload_n 1, 1) := by decide +kernel
theorem dX0_update_9 : decode cX0_update 9 = .ok (.iload_n 2, 1) := by decide +kernel
theorem dX0_update_10 : decode cX0_update 10 = .ok (.iload_n 3, 1) := by decide +kernel
theorem dX0_update_11 : decode cX0_update 11 = .ok (.invokevirtual 84, 3) := by decide +kernel
theorem dX0_update_14 : decode cX0_update 14 = .ok (.istore 4, 2) := by decide +kernel
theorem dX0_update_16 : decode cX0_update 16 = .ok (.aload_n 0, 1) := by decide +kernel
theorem dX0_update_17 : decode cX0_update 17 = .ok (.iload_n 1, 1) := by decide +kernel
theorem dX0_update_18 : decode cX0_update 18 = .ok (.iload_n 2, 1) := by decide +kernel
theorem dX0_update_19 : decode cX0_update 19 = .ok (.iload 4, 2) := by decide +kernel
theorem dX0_update_21 : decode cX0_update 21 = .ok (.iload_n 3, 1) := by decide +kernel
theorem dX0_update_22 : decode cX0_update 22 = .ok (.invokevirtual 88, 3) := by decide +kernel
theorem dX0_update_25 : decode cX0_update 25 = .ok (.istore 5, 2) := by decide +kernel
theorem dX0_update_27 : decode cX0_update 27 = .ok (.aload_n 0, 1) := by decide +kernel
theorem dX0_update_28 : decode cX0_update 28 = .ok (.iload_n 1, 1) := by decide +kernel
theorem dX0_update_29 : decode cX0_update 29 = .ok (.iload_n 2, 1) := by decide +kernel
theorem dX0_update_30 : decode cX0_update 30 = .ok (.iload 4, 2) := by decide +kernel
theorem dX0_update_32 : decode cX0_update 32 = .ok (.iload_n 3, 1) := by decide +kernel
theorem dX0_update_33 : decode cX0_update 33 = .ok (.invokevirtual 92, 3) := by decide +kernel
theorem dX0_update_36 : decode cX0_update 36 = .ok (.istore 6, 2) := by decide +kernel
theorem dX0_update_38 : decode cX0_update 38 = .ok (.aload_n 0, 1) := by decide +kernel
theorem dX0_update_39 : decode cX0_update 39 = .ok (.iload_n 1, 1) := by decide +kernel
theorem dX0_update_40 : decode cX0_update 40 = .ok (.iload_n 2, 1) := by decide +kernel
theorem dX0_update_41 : decode cX0_update 41 = .ok (.iload 4, 2) := by decide +kernel
theorem dX0_update_43 : decode cX0_update 43 = .ok (.iload_n 3, 1) := by decide +kernel
theorem dX0_update_44 : decode cX0_update 44 = .ok (.invokevirtual 95, 3) := by decide +kernel
theorem dX0_update_47 : decode cX0_update 47 = .ok (.istore 7, 2) := by decide +kernel
theorem dX0_update_49 : decode cX0_update 49 = .ok (.aload_n 0, 1) := by decide +kernel
theorem dX0_update_50 : decode cX0_update 50 = .ok (.iload_n 1, 1) := by decide +kernel
theorem dX0_update_51 : decode cX0_update 51 = .ok (.iload 5, 2) := by decide +kernel
theorem dX0_update_53 : decode cX0_update 53 = .ok (.iload 6, 2) := by decide +kernel
theorem dX0_update_55 : decode cX0_update 55 = .ok (.iload 7, 2) := by decide +kernel
theorem dX0_update_57 : decode cX0_update 57 = .ok (.aload_n 0, 1) := by decide +kernel
theorem dX0_update_58 : decode cX0_update 58 = .ok (.iload_n 1, 1) := by decide +kernel
theorem dX0_update_59 : decode cX0_update 59 = .ok (.iload_n 2, 1) := by decide +kernel
theorem dX0_update_60 : decode cX0_update 60 = .ok (.iload_n 3, 1) := by decide +kernel
theorem dX0_update_61 : decode cX0_update 61 = .ok (.invokevirtual 98, 3) := by decide +kernel
theorem dX0_update_64 : decode cX0_update 64 = .ok (.invokevirtual 50, 3) := by decide +kernel
theorem dX0_update_67 : decode cX0_update 67 = .ok (.return_, 1) := by decide +kernel
set_option maxRecDepth 20000 in
theorem ggX0_distanceMoved_X0_predicted : GoodIn wsX0_distanceMoved wsX0_predicted := goodIn_r _ [7, 1, 2, 8, 9, 10, 11, 12, 13, 14, 61, 62, 63, 64, 65, 66, 67, 68, 69, 70, 71] (by decide +kernel) (by decide +kernel)
set_option maxRecDepth 20000 in
theorem gX0_distanceMoved_X0_predicted : GoodIn wsX0_distanceMoved (wsV RX0 81 RX0 yX0_predicted wsX0_predicted) := goodIn_app (goodIn_of _ (by decide +kernel)) ggX0_distanceMoved_X0_predicted
set_option maxRecDepth 20000 in
theorem ggX0_distanceMoved_X0_stepOf : GoodIn wsX0_distanceMoved wsX0_stepOf := goodIn_r _ [18, 19, 20, 21, 22, 23, 24, 6, 25, 26, 27, 10, 28, 29, 30, 31, 32, 33, 34, 35, 36, 37, 38, 39, 40, 41, 42, 43, 44, 45, 46, 47, 61, 62, 63, 64, 65, 66, 67, 68, 69, 70, 71] (by decide +kernel) (by decide +kernel)
set_option maxRecDepth 20000 in
theorem gX0_distanceMoved_X0_stepOf : GoodIn wsX0_distanceMoved (wsV RX0 84 RX0 yX0_stepOf wsX0_stepOf) := goodIn_app (goodIn_of _ (by decide +kernel)) ggX0_distanceMoved_X0_stepOf
set_option maxRecDepth 20000 in
theorem ggX0_distanceMoved_X0_xAfter : GoodIn wsX0_distanceMoved wsX0_xAfter := goodIn_r _ [51, 1, 52, 53, 54, 10, 55, 56, 27, 28, 39, 40, 41, 42, 43, 44, 45, 46, 47, 61, 62, 63, 64, 65, 66, 67, 68, 69, 70, 71] (by decide +kernel) (by decide +kernel)
set_option maxRecDepth 20000 in
theorem gX0_distanceMoved_X0_xAfter : GoodIn wsX0_distanceMoved (wsV RX0 88 RX0 yX0_xAfter wsX0_xAfter) := goodIn_app (goodIn_of _ (by decide +kernel)) ggX0_distanceMoved_X0_xAfter
set_option maxRecDepth 20000 in
theorem ggX0_distanceMoved_X0_yAfter : GoodIn wsX0_distanceMoved wsX0_yAfter := goodIn_r _ [60, 2, 52, 53, 54, 10, 55, 56, 27, 28, 39, 40, 41, 42, 43, 44, 45, 46, 47, 61, 62, 63, 64, 65, 66, 67, 68, 69, 70, 71] (by decide +kernel) (by decide +kernel)
set_option maxRecDepth 20000 in
theorem gX0_distanceMoved_X0_yAfter : GoodIn wsX0_distanceMoved (wsV RX0 92 RX0 yX0_yAfter wsX0_yAfter) := goodIn_app (goodIn_of _ (by decide +kernel)) ggX0_distanceMoved_X0_yAfter
set_option maxRecDepth 20000 in
theorem ggX0_distanceMoved_X1_planarDistance : GoodIn wsX0_distanceMoved wsX1_planarDistance := goodIn_r _ [11, 12, 13, 10, 14] (by decide +kernel) (by decide +kernel)
set_option maxRecDepth 20000 in
theorem gX0_distanceMoved_X1_planarDistance_n64 : GoodIn wsX0_distanceMoved (wsX1_planarDistance) := ggX0_distanceMoved_X1_planarDistance
theorem dX0_distanceMoved_0 : decode cX0_distanceMoved 0 = .ok (.aload_n 0, 1) := by decide +kernel
theorem dX0_distanceMoved_1 : decode cX0_distanceMoved 1 = .ok (.iload_n 1, 1) := by decide +kernel
theorem dX0_distanceMoved_2 : decode cX0_distanceMoved 2 = .ok (.iload_n 2, 1) := by decide +kernel
theorem dX0_distanceMoved_3 : decode cX0_distanceMoved 3 = .ok (.invokevirtual 81, 3) := by decide +kernel
theorem dX0_distanceMoved_6 : decode cX0_distanceMoved 6 = .ok (.istore_n 3, 1) := by decide +kernel
theorem dX0_distanceMoved_7 : decode cX0_distanceMoved 7 = .ok (.aload_n 0, 1) := by decide +kernel
theorem dX0_distanceMoved_8 : decode cX0_distanceMoved 8 = .ok (.iload_n 1, 1) := by decide +kernel
theorem dX0_distanceMoved_9 : decode cX0_distanceMoved 9 = .ok (.iload_n 2, 1) := by decide +kernel
theorem dX0_distanceMoved_10 : decode cX0_distanceMoved 10 = .ok (.iload_n 3, 1) := by decide +kernel
theorem dX0_distanceMoved_11 : decode cX0_distanceMoved 11 = .ok (.invokevirtual 84, 3) := by decide +kernel
theorem dX0_distanceMoved_14 : decode cX0_distanceMoved 14 = .ok (.istore 4, 2) := by decide +kernel
theorem dX0_distanceMoved_16 : decode cX0_distanceMoved 16 = .ok (.aload_n 0, 1) := by decide +kernel
theorem dX0_distanceMoved_17 : decode cX0_distanceMoved 17 = .ok (.iload_n 1, 1) := by decide +kernel
theorem dX0_distanceMoved_18 : decode cX0_distanceMoved 18 = .ok (.iload_n 2, 1) := by decide +kernel
theorem dX0_distanceMoved_19 : decode cX0_distanceMoved 19 = .ok (.iload 4, 2) := by decide +kernel
theorem dX0_distanceMoved_21 : decode cX0_distanceMoved 21 = .ok (.iload_n 3, 1) := by decide +kernel
theorem dX0_distanceMoved_22 : decode cX0_distanceMoved 22 = .ok (.invokevirtual 88, 3) := by decide +kernel
theorem dX0_distanceMoved_25 : decode cX0_distanceMoved 25 = .ok (.aload_n 0, 1) := by decide +kernel
theorem dX0_distanceMoved_26 : decode cX0_distanceMoved 26 = .ok (.getfield 21, 3) := by decide +kernel
theorem dX0_distanceMoved_29 : decode cX0_distanceMoved 29 = .ok (.iload_n 1, 1) := by decide +kernel
theorem dX0_distanceMoved_30 : decode cX0_distanceMoved 30 = .ok (.iaload, 1) := by decide +kernel
theorem dX0_distanceMoved_31 : decode cX0_distanceMoved 31 = .ok (.isub, 1) := by decide +kernel
theorem dX0_distanceMoved_32 : decode cX0_distanceMoved 32 = .ok (.i2l, 1) := by decide +kernel
theorem dX0_distanceMoved_33 : decode cX0_distanceMoved 33 = .ok (.aload_n 0, 1) := by decide +kernel
theorem dX0_distanceMoved_34 : decode cX0_distanceMoved 34 = .ok (.iload_n 1, 1) := by decide +kernel
theorem dX0_distanceMoved_35 : decode cX0_distanceMoved 35 = .ok (.iload_n 2, 1) := by decide +kernel
theorem dX0_distanceMoved_36 : decode cX0_distanceMoved 36 = .ok (.iload 4, 2) := by decide +kernel
theorem dX0_distanceMoved_38 : decode cX0_distanceMoved 38 = .ok (.iload_n 3, 1) := by decide +kernel
theorem dX0_distanceMoved_39 : decode cX0_distanceMoved 39 = .ok (.invokevirtual 92, 3) := by decide +kernel
theorem dX0_distanceMoved_42 : decode cX0_distanceMoved 42 = .ok (.aload_n 0, 1) := by decide +kernel
theorem dX0_distanceMoved_43 : decode cX0_distanceMoved 43 = .ok (.getfield 25, 3) := by decide +kernel
theorem dX0_distanceMoved_46 : decode cX0_distanceMoved 46 = .ok (.iload_n 1, 1) := by decide +kernel
theorem dX0_distanceMoved_47 : decode cX0_distanceMoved 47 = .ok (.iaload, 1) := by decide +kernel
theorem dX0_distanceMoved_48 : decode cX0_distanceMoved 48 = .ok (.isub, 1) := by decide +kernel
theorem dX0_distanceMoved_49 : decode cX0_distanceMoved 49 = .ok (.i2l, 1) := by decide +kernel
theorem dX0_distanceMoved_50 : decode cX0_distanceMoved 50 = .ok (.invokestatic 64, 3) := by decide +kernel
theorem dX0_distanceMoved_53 : decode cX0_distanceMoved 53 = .ok (.ireturn, 1) := by decide +kernel
set_option maxRecDepth 20000 in
theorem ggX0_weight_X1_quotient : GoodIn wsX0_weight wsX1_quotient := goodIn_r _ [5] (by decide +kernel) (by decide +kernel)
set_option maxRecDepth 20000 in
theorem gX0_weight_X1_quotient_n103 : GoodIn wsX0_weight (wsX1_quotient) := ggX0_weight_X1_quotient
theorem dX0_weight_0 : decode cX0_weight 0 = .ok (.ldc2_w 101, 3) := by decide +kernel
theorem dX0_weight_3 : decode cX0_weight 3 = .ok (.aload_n 0, 1) := by decide +kernel
theorem dX0_weight_4 : decode cX0_weight 4 = .ok (.getfield 31, 3) := by decide +kernel
theorem dX0_weight_7 : decode cX0_weight 7 = .ok (.iload_n 1, 1) := by decide +kernel
theorem dX0_weight_8 : decode cX0_weight 8 = .ok (.iaload, 1) := by decide +kernel
theorem dX0_weight_9 : decode cX0_weight 9 = .ok (.i2l, 1) := by decide +kernel
theorem dX0_weight_10 : decode cX0_weight 10 = .ok (.lmul, 1) := by decide +kernel
theorem dX0_weight_11 : decode cX0_weight 11 = .ok (.aload_n 0, 1) := by decide +kernel
theorem dX0_weight_12 : decode cX0_weight 12 = .ok (.getfield 31, 3) := by decide +kernel
theorem dX0_weight_15 : decode cX0_weight 15 = .ok (.iload_n 1, 1) := by decide +kernel
theorem dX0_weight_16 : decode cX0_weight 16 = .ok (.iaload, 1) := by decide +kernel
theorem dX0_weight_17 : decode cX0_weight 17 = .ok (.aload_n 0, 1) := by decide +kernel
theorem dX0_weight_18 : decode cX0_weight 18 = .ok (.getfield 31, 3) := by decide +kernel
theorem dX0_weight_21 : decode cX0_weight 21 = .ok (.iload_n 2, 1) := by decide +kernel
theorem dX0_weight_22 : decode cX0_weight 22 = .ok (.iaload, 1) := by decide +kernel
theorem dX0_weight_23 : decode cX0_weight 23 = .ok (.iadd, 1) := by decide +kernel
theorem dX0_weight_24 : decode cX0_weight 24 = .ok (.i2l, 1) := by decide +kernel
theorem dX0_weight_25 : decode cX0_weight 25 = .ok (.invokestatic 103, 3) := by decide +kernel
theorem dX0_weight_28 : decode cX0_weight 28 = .ok (.lreturn, 1) := by decide +kernel
set_option maxRecDepth 20000 in
theorem ggX0_errorAfter_X0_sample : GoodIn wsX0_errorAfter wsX0_sample := goodIn_r _ [18, 19, 20, 21, 22, 17, 23, 24, 32, 33, 34, 35, 36, 37, 38, 39, 40, 41, 42] (by decide +kernel) (by decide +kernel)
set_option maxRecDepth 20000 in
theorem gX0_errorAfter_X0_sample : GoodIn wsX0_errorAfter (wsV RX0 107 RX0 yX0_sample wsX0_sample) := goodIn_app (goodIn_of _ (by decide +kernel)) ggX0_errorAfter_X0_sample
set_option maxRecDepth 20000 in
theorem ggX0_errorAfter_X1_quotient : GoodIn wsX0_errorAfter wsX1_quotient := goodIn_r _ [27] (by decide +kernel) (by decide +kernel)
set_option maxRecDepth 20000 in
theorem gX0_errorAfter_X1_quotient_n103 : GoodIn wsX0_errorAfter (wsX1_quotient) := ggX0_errorAfter_X1_quotient
set_option maxRecDepth 20000 in
theorem ggX0_errorAfter_X0_weight : GoodIn wsX0_errorAfter wsX0_weight := goodIn_r _ [31, 1, 10, 25, 26, 27, 32, 33, 34, 35, 36, 37, 38, 39, 40, 41, 42] (by decide +kernel) (by decide +kernel)
set_option maxRecDepth 20000 in
theorem gX0_errorAfter_X0_weight : GoodIn wsX0_errorAfter (wsV RX0 117 RX0 yX0_weight wsX0_weight) := goodIn_app (goodIn_of _ (by decide +kernel)) ggX0_errorAfter_X0_weight
theorem dX0_errorAfter_0 : decode cX0_errorAfter 0 = .ok (.aload_n 0, 1) := by decide +kernel
theorem dX0_errorAfter_1 : decode cX0_errorAfter 1 = .ok (.iload_n 1, 1) := by decide +kernel
theorem dX0_errorAfter_2 : decode cX0_errorAfter 2 = .ok (.iload_n 2, 1) := by decide +kernel
theorem dX0_errorAfter_3 : decode cX0_errorAfter 3 = .ok (.invokevirtual 107, 3) := by decide +kernel
theorem dX0_errorAfter_6 : decode cX0_errorAfter 6 = .ok (.istore 4, 2) := by decide +kernel
theorem dX0_errorAfter_8 : decode cX0_errorAfter 8 = .ok (.ldc2_w 101, 3) := by decide +kernel
theorem dX0_errorAfter_11 : decode cX0_errorAfter 11 = .ok (.ldc2_w 101, 3) := by decide +kernel
theorem dX0_errorAfter_14 : decode cX0_errorAfter 14 = .ok (.iload_n 3, 1) := by decide +kernel
theorem dX0_errorAfter_15 : decode cX0_errorAfter 15 = .ok (.iload 4, 2) := by decide +kernel
theorem dX0_errorAfter_17 : decode cX0_errorAfter 17 = .ok (.isub, 1) := by decide +kernel
theorem dX0_errorAfter_18 : decode cX0_errorAfter 18 = .ok (.invokestatic 110, 3) := by decide +kernel
theorem dX0_errorAfter_21 : decode cX0_errorAfter 21 = .ok (.i2l, 1) := by decide +kernel
theorem dX0_errorAfter_22 : decode cX0_errorAfter 22 = .ok (.lmul, 1) := by decide +kernel
theorem dX0_errorAfter_23 : decode cX0_errorAfter 23 = .ok (.iload 4, 2) := by decide +kernel
theorem dX0_errorAfter_25 : decode cX0_errorAfter 25 = .ok (.i2l, 1) := by decide +kernel
theorem dX0_errorAfter_26 : decode cX0_errorAfter 26 = .ok (.invokestatic 103, 3) := by decide +kernel
theorem dX0_errorAfter_29 : decode cX0_errorAfter 29 = .ok (.invokestatic 114, 3) := by decide +kernel
theorem dX0_errorAfter_32 : decode cX0_errorAfter 32 = .ok (.lstore 5, 2) := by decide +kernel
theorem dX0_errorAfter_34 : decode cX0_errorAfter 34 = .ok (.aload_n 0, 1) := by decide +kernel
theorem dX0_errorAfter_35 : decode cX0_errorAfter 35 = .ok (.getfield 9, 3) := by decide +kernel
theorem dX0_errorAfter_38 : decode cX0_errorAfter 38 = .ok (.i2l, 1) := by decide +kernel
theorem dX0_errorAfter_39 : decode cX0_errorAfter 39 = .ok (.aload_n 0, 1) := by decide +kernel
theorem dX0_errorAfter_40 : decode cX0_errorAfter 40 = .ok (.iload_n 1, 1) := by decide +kernel
theorem dX0_errorAfter_41 : decode cX0_errorAfter 41 = .ok (.iload_n 2, 1) := by decide +kernel
theorem dX0_errorAfter_42 : decode cX0_errorAfter 42 = .ok (.invokevirtual 117, 3) := by decide +kernel
theorem dX0_errorAfter_45 : decode cX0_errorAfter 45 = .ok (.lmul, 1) := by decide +kernel
theorem dX0_errorAfter_46 : decode cX0_errorAfter 46 = .ok (.ldc2_w 101, 3) := by decide +kernel
theorem dX0_errorAfter_49 : decode cX0_errorAfter 49 = .ok (.ldiv, 1) := by decide +kernel
theorem dX0_errorAfter_50 : decode cX0_errorAfter 50 = .ok (.lstore 7, 2) := by decide +kernel
theorem dX0_errorAfter_52 : decode cX0_errorAfter 52 = .ok (.lload 5, 2) := by decide +kernel
theorem dX0_errorAfter_54 : decode cX0_errorAfter 54 = .ok (.lload 7, 2) := by decide +kernel
theorem dX0_errorAfter_56 : decode cX0_errorAfter 56 = .ok (.lmul, 1) := by decide +kernel
theorem dX0_errorAfter_57 : decode cX0_errorAfter 57 = .ok (.aload_n 0, 1) := by decide +kernel
theorem dX0_errorAfter_58 : decode cX0_errorAfter 58 = .ok (.getfield 31, 3) := by decide +kernel
theorem dX0_errorAfter_61 : decode cX0_errorAfter 61 = .ok (.iload_n 1, 1) := by decide +kernel
theorem dX0_errorAfter_62 : decode cX0_errorAfter 62 = .ok (.iaload, 1) := by decide +kernel
theorem dX0_errorAfter_63 : decode cX0_errorAfter 63 = .ok (.i2l, 1) := by decide +kernel
theorem dX0_errorAfter_64 : decode cX0_errorAfter 64 = .ok (.ldc2_w 101, 3) := by decide +kernel
theorem dX0_errorAfter_67 : decode cX0_errorAfter 67 = .ok (.lload 7, 2) := by decide +kernel
theorem dX0_errorAfter_69 : decode cX0_errorAfter 69 = .ok (.lsub, 1) := by decide +kernel
theorem dX0_errorAfter_70 : decode cX0_errorAfter 70 = .ok (.lmul, 1) := by decide +kernel
theorem dX0_errorAfter_71 : decode cX0_errorAfter 71 = .ok (.ladd, 1) := by decide +kernel
theorem dX0_errorAfter_72 : decode cX0_errorAfter 72 = .ok (.ldc2_w 101, 3) := by decide +kernel
theorem dX0_errorAfter_75 : decode cX0_errorAfter 75 = .ok (.ldiv, 1) := by decide +kernel
theorem dX0_errorAfter_76 : decode cX0_errorAfter 76 = .ok (.lstore 9, 2) := by decide +kernel
theorem dX0_errorAfter_78 : decode cX0_errorAfter 78 = .ok (.lconst 1, 1) := by decide +kernel
theorem dX0_errorAfter_79 : decode cX0_errorAfter 79 = .ok (.lload 9, 2) := by decide +kernel
theorem dX0_errorAfter_81 : decode cX0_errorAfter 81 = .ok (.invokestatic 121, 3) := by decide +kernel
theorem dX0_errorAfter_84 : decode cX0_errorAfter 84 = .ok (.l2i, 1) := by decide +kernel
theorem dX0_errorAfter_85 : decode cX0_errorAfter 85 = .ok (.ireturn, 1) := by decide +kernel
set_option maxRecDepth 20000 in
theorem ggX0_stepOf_X0_weight : GoodIn wsX0_stepOf wsX0_weight := goodIn_r _ [8, 2, 9, 10, 11, 12, 32, 33, 34, 35, 36, 37, 38, 39, 40, 41, 42] (by decide +kernel) (by decide +kernel)
set_option maxRecDepth 20000 in
theorem gX0_stepOf_X0_weight : GoodIn wsX0_stepOf (wsV RX0 117 RX0 yX0_weight wsX0_weight) := goodIn_app (goodIn_of _ (by decide +kernel)) ggX0_stepOf_X0_weight
set_option maxRecDepth 20000 in
theorem ggX0_stepOf_X0_sample : GoodIn wsX0_stepOf wsX0_sample := goodIn_r _ [16, 17, 18, 19, 20, 7, 21, 22, 32, 33, 34, 35, 36, 37, 38, 39, 40, 41, 42] (by decide +kernel) (by decide +kernel)
set_option maxRecDepth 20000 in
theorem gX0_stepOf_X0_sample : GoodIn wsX0_stepOf (wsV RX0 107 RX0 yX0_sample wsX0_sample) := goodIn_app (goodIn_of _ (by decide +kernel)) ggX0_stepOf_X0_sample
set_option maxRecDepth 20000 in
theorem ggX0_stepOf_X1_limited : GoodIn wsX0_stepOf wsX1_limited := goodIn_r _ [24, 25, 26, 27, 28, 29, 30, 31] (by decide +kernel) (by decide +kernel)
set_option maxRecDepth 20000 in
theorem gX0_stepOf_X1_limited_n124 : GoodIn wsX0_stepOf (wsX1_limited) := ggX0_stepOf_X1_limited
theorem dX0_stepOf_0 : decode cX0_stepOf 0 = .ok (.aload_n 0, 1) := by decide +kernel
theorem dX0_stepOf_1 : decode cX0_stepOf 1 = .ok (.getfield 15, 3) := by decide +kernel
theorem dX0_stepOf_4 : decode cX0_stepOf 4 = .ok (.i2l, 1) := by decide +kernel
theorem dX0_stepOf_5 : decode cX0_stepOf 5 = .ok (.aload_n 0, 1) := by decide +kernel
theorem dX0_stepOf_6 : decode cX0_stepOf 6 = .ok (.iload_n 1, 1) := by decide +kernel
theorem dX0_stepOf_7 : decode cX0_stepOf 7 = .ok (.iload_n 2, 1) := by decide +kernel
theorem dX0_stepOf_8 : decode cX0_stepOf 8 = .ok (.invokevirtual 117, 3) := by decide +kernel
theorem dX0_stepOf_11 : decode cX0_stepOf 11 = .ok (.lmul, 1) := by decide +kernel
theorem dX0_stepOf_12 : decode cX0_stepOf 12 = .ok (.ldc2_w 101, 3) := by decide +kernel
theorem dX0_stepOf_15 : decode cX0_stepOf 15 = .ok (.ldiv, 1) := by decide +kernel
theorem dX0_stepOf_16 : decode cX0_stepOf 16 = .ok (.lstore 4, 2) := by decide +kernel
theorem dX0_stepOf_18 : decode cX0_stepOf 18 = .ok (.aload_n 0, 1) := by decide +kernel
theorem dX0_stepOf_19 : decode cX0_stepOf 19 = .ok (.iload_n 1, 1) := by decide +kernel
theorem dX0_stepOf_20 : decode cX0_stepOf 20 = .ok (.iload_n 2, 1) := by decide +kernel
theorem dX0_stepOf_21 : decode cX0_stepOf 21 = .ok (.invokevirtual 107, 3) := by decide +kernel
theorem dX0_stepOf_24 : decode cX0_stepOf 24 = .ok (.iload_n 3, 1) := by decide +kernel
theorem dX0_stepOf_25 : decode cX0_stepOf 25 = .ok (.isub, 1) := by decide +kernel
theorem dX0_stepOf_26 : decode cX0_stepOf 26 = .ok (.i2l, 1) := by decide +kernel
theorem dX0_stepOf_27 : decode cX0_stepOf 27 = .ok (.lload 4, 2) := by decide +kernel
theorem dX0_stepOf_29 : decode cX0_stepOf 29 = .ok (.lmul, 1) := by decide +kernel
theorem dX0_stepOf_30 : decode cX0_stepOf 30 = .ok (.ldc2_w 101, 3) := by decide +kernel
theorem dX0_stepOf_33 : decode cX0_stepOf 33 = .ok (.ldiv, 1) := by decide +kernel
theorem dX0_stepOf_34 : decode cX0_stepOf 34 = .ok (.aload_n 0, 1) := by decide +kernel
theorem dX0_stepOf_35 : decode cX0_stepOf 35 = .ok (.getfield 18, 3) := by decide +kernel
theorem dX0_stepOf_38 : decode cX0_stepOf 38 = .ok (.ineg, 1) := by decide +kernel
theorem dX0_stepOf_39 : decode cX0_stepOf 39 = .ok (.aload_n 0, 1) := by decide +kernel
theorem dX0_stepOf_40 : decode cX0_stepOf 40 = .ok (.getfield 18, 3) := by decide +kernel
theorem dX0_stepOf_43 : decode cX0_stepOf 43 = .ok (.invokestatic 124, 3) := by decide +kernel
theorem dX0_stepOf_46 : decode cX0_stepOf 46 = .ok (.ireturn, 1) := by decide +kernel
set_option maxRecDepth 20000 in
theorem ggX0_xAfter_X1_share : GoodIn wsX0_xAfter wsX1_share := goodIn_r _ [6, 7, 8, 5, 9] (by decide +kernel) (by decide +kernel)
set_option maxRecDepth 20000 in
theorem gX0_xAfter_X1_share_n128 : GoodIn wsX0_xAfter (wsX1_share) := ggX0_xAfter_X1_share
set_option maxRecDepth 20000 in
theorem ggX0_xAfter_X1_limited : GoodIn wsX0_xAfter wsX1_limited := goodIn_r _ [11, 12, 13, 14, 15, 16, 17, 18] (by decide +kernel) (by decide +kernel)
set_option maxRecDepth 20000 in
theorem gX0_xAfter_X1_limited_n124 : GoodIn wsX0_xAfter (wsX1_limited) := ggX0_xAfter_X1_limited
theorem dX0_xAfter_0 : decode cX0_xAfter 0 = .ok (.iload 4, 2) := by decide +kernel
theorem dX0_xAfter_2 : decode cX0_xAfter 2 = .ok (.ifCond .ne 8, 3) := by decide +kernel
theorem dX0_xAfter_5 : decode cX0_xAfter 5 = .ok (.iload_n 3, 1) := by decide +kernel
theorem dX0_xAfter_6 : decode cX0_xAfter 6 = .ok (.i2l, 1) := by decide +kernel
theorem dX0_xAfter_7 : decode cX0_xAfter 7 = .ok (.goto 22, 3) := by decide +kernel
theorem dX0_xAfter_10 : decode cX0_xAfter 10 = .ok (.iload_n 3, 1) := by decide +kernel
theorem dX0_xAfter_11 : decode cX0_xAfter 11 = .ok (.aload_n 0, 1) := by decide +kernel
theorem dX0_xAfter_12 : decode cX0_xAfter 12 = .ok (.getfield 21, 3) := by decide +kernel
theorem dX0_xAfter_15 : decode cX0_xAfter 15 = .ok (.iload_n 1, 1) := by decide +kernel
theorem dX0_xAfter_16 : decode cX0_xAfter 16 = .ok (.iaload, 1) := by decide +kernel
theorem dX0_xAfter_17 : decode cX0_xAfter 17 = .ok (.aload_n 0, 1) := by decide +kernel
theorem dX0_xAfter_18 : decode cX0_xAfter 18 = .ok (.getfield 21, 3) := by decide +kernel
theorem dX0_xAfter_21 : decode cX0_xAfter 21 = .ok (.iload_n 2, 1) := by decide +kernel
theorem dX0_xAfter_22 : decode cX0_xAfter 22 = .ok (.iaload, 1) := by decide +kernel
theorem dX0_xAfter_23 : decode cX0_xAfter 23 = .ok (.isub, 1) := by decide +kernel
theorem dX0_xAfter_24 : decode cX0_xAfter 24 = .ok (.iload 4, 2) := by decide +kernel
theorem dX0_xAfter_26 : decode cX0_xAfter 26 = .ok (.invokestatic 128, 3) := by decide +kernel
theorem dX0_xAfter_29 : decode cX0_xAfter 29 = .ok (.lstore 5, 2) := by decide +kernel
theorem dX0_xAfter_31 : decode cX0_xAfter 31 = .ok (.aload_n 0, 1) := by decide +kernel
theorem dX0_xAfter_32 : decode cX0_xAfter 32 = .ok (.getfield 21, 3) := by decide +kernel
theorem dX0_xAfter_35 : decode cX0_xAfter 35 = .ok (.iload_n 1, 1) := by decide +kernel
theorem dX0_xAfter_36 : decode cX0_xAfter 36 = .ok (.iaload, 1) := by decide +kernel
theorem dX0_xAfter_37 : decode cX0_xAfter 37 = .ok (.i2l, 1) := by decide +kernel
theorem dX0_xAfter_38 : decode cX0_xAfter 38 = .ok (.lload 5, 2) := by decide +kernel
theorem dX0_xAfter_40 : decode cX0_xAfter 40 = .ok (.ladd, 1) := by decide +kernel
theorem dX0_xAfter_41 : decode cX0_xAfter 41 = .ok (.ldc 132, 2) := by decide +kernel
theorem dX0_xAfter_43 : decode cX0_xAfter 43 = .ok (.ldc 133, 2) := by decide +kernel
theorem dX0_xAfter_45 : decode cX0_xAfter 45 = .ok (.invokestatic 124, 3) := by decide +kernel
theorem dX0_xAfter_48 : decode cX0_xAfter 48 = .ok (.ireturn, 1) := by decide +kernel
set_option maxRecDepth 20000 in
theorem ggX0_yAfter_X1_share : GoodIn wsX0_yAfter wsX1_share := goodIn_r _ [6, 7, 8, 5, 9] (by decide +kernel) (by decide +kernel)
set_option maxRecDepth 20000 in
theorem gX0_yAfter_X1_share_n128 : GoodIn wsX0_yAfter (wsX1_share) := ggX0_yAfter_X1_share
set_option maxRecDepth 20000 in
theorem ggX0_yAfter_X1_limited : GoodIn wsX0_yAfter wsX1_limited := goodIn_r _ [11, 12, 13, 14, 15, 16, 17, 18] (by decide +kernel) (by decide +kernel)
set_option maxRecDepth 20000 in
theorem gX0_yAfter_X1_limited_n124 : GoodIn wsX0_yAfter (wsX1_limited) := ggX0_yAfter_X1_limited
theorem dX0_yAfter_0 : decode cX0_yAfter 0 = .ok (.iload_n 3, 1) := by decide +kernel
theorem dX0_yAfter_1 : decode cX0_yAfter 1 = .ok (.aload_n 0, 1) := by decide +kernel
theorem dX0_yAfter_2 : decode cX0_yAfter 2 = .ok (.getfield 25, 3) := by decide +kernel
theorem dX0_yAfter_5 : decode cX0_yAfter 5 = .ok (.iload_n 1, 1) := by decide +kernel
theorem dX0_yAfter_6 : decode cX0_yAfter 6 = .ok (.iaload, 1) := by decide +kernel
theorem dX0_yAfter_7 : decode cX0_yAfter 7 = .ok (.aload_n 0, 1) := by decide +kernel
theorem dX0_yAfter_8 : decode cX0_yAfter 8 = .ok (.getfield 25, 3) := by decide +kernel
theorem dX0_yAfter_11 : decode cX0_yAfter 11 = .ok (.iload_n 2, 1) := by decide +kernel
theorem dX0_yAfter_12 : decode cX0_yAfter 12 = .ok (.iaload, 1) := by decide +kernel
theorem dX0_yAfter_13 : decode cX0_yAfter 13 = .ok (.isub, 1) := by decide +kernel
theorem dX0_yAfter_14 : decode cX0_yAfter 14 = .ok (.iload 4, 2) := by decide +kernel
theorem dX0_yAfter_16 : decode cX0_yAfter 16 = .ok (.invokestatic 128, 3) := by decide +kernel
theorem dX0_yAfter_19 : decode cX0_yAfter 19 = .ok (.lstore 5, 2) := by decide +kernel
theorem dX0_yAfter_21 : decode cX0_yAfter 21 = .ok (.aload_n 0, 1) := by decide +kernel
theorem dX0_yAfter_22 : decode cX0_yAfter 22 = .ok (.getfield 25, 3) := by decide +kernel
theorem dX0_yAfter_25 : decode cX0_yAfter 25 = .ok (.iload_n 1, 1) := by decide +kernel
theorem dX0_yAfter_26 : decode cX0_yAfter 26 = .ok (.iaload, 1) := by decide +kernel
theorem dX0_yAfter_27 : decode cX0_yAfter 27 = .ok (.i2l, 1) := by decide +kernel
theorem dX0_yAfter_28 : decode cX0_yAfter 28 = .ok (.lload 5, 2) := by decide +kernel
theorem dX0_yAfter_30 : decode cX0_yAfter 30 = .ok (.ladd, 1) := by decide +kernel
theorem dX0_yAfter_31 : decode cX0_yAfter 31 = .ok (.ldc 132, 2) := by decide +kernel
theorem dX0_yAfter_33 : decode cX0_yAfter 33 = .ok (.ldc 133, 2) := by decide +kernel
theorem dX0_yAfter_35 : decode cX0_yAfter 35 = .ok (.invokestatic 124, 3) := by decide +kernel
theorem dX0_yAfter_38 : decode cX0_yAfter 38 = .ok (.ireturn, 1) := by decide +kernel
set_option maxRecDepth 20000 in
theorem ggX0_heightAfter_X1_share : GoodIn wsX0_heightAfter wsX1_share := goodIn_r _ [5, 6, 7, 4, 8] (by decide +kernel) (by decide +kernel)
set_option maxRecDepth 20000 in
theorem gX0_heightAfter_X1_share_n128 : GoodIn wsX0_heightAfter (wsX1_share) := ggX0_heightAfter_X1_share
set_option maxRecDepth 20000 in
theorem ggX0_heightAfter_X1_limited : GoodIn wsX0_heightAfter wsX1_limited := goodIn_r _ [10, 11, 12, 13, 14, 15, 16, 17] (by decide +kernel) (by decide +kernel)
set_option maxRecDepth 20000 in
theorem gX0_heightAfter_X1_limited_n124 : GoodIn wsX0_heightAfter (wsX1_limited) := ggX0_heightAfter_X1_limited
theorem dX0_heightAfter_0 : decode cX0_heightAfter 0 = .ok (.iload_n 3, 1) := by decide +kernel
theorem dX0_heightAfter_1 : decode cX0_heightAfter 1 = .ok (.aload_n 0, 1) := by decide +kernel
theorem dX0_heightAfter_2 : decode cX0_heightAfter 2 = .ok (.getfield 28, 3) := by decide +kernel
theorem dX0_heightAfter_5 : decode cX0_heightAfter 5 = .ok (.iload_n 1, 1) := by decide +kernel
theorem dX0_heightAfter_6 : decode cX0_heightAfter 6 = .ok (.iaload, 1) := by decide +kernel
theorem dX0_heightAfter_7 : decode cX0_heightAfter 7 = .ok (.aload_n 0, 1) := by decide +kernel
theorem dX0_heightAfter_8 : decode cX0_heightAfter 8 = .ok (.getfield 28, 3) := by decide +kernel
theorem dX0_heightAfter_11 : decode cX0_heightAfter 11 = .ok (.iload_n 2, 1) := by decide +kernel
theorem dX0_heightAfter_12 : decode cX0_heightAfter 12 = .ok (.iaload, 1) := by decide +kernel
theorem dX0_heightAfter_13 : decode cX0_heightAfter 13 = .ok (.iadd, 1) := by decide +kernel
theorem dX0_heightAfter_14 : decode cX0_heightAfter 14 = .ok (.iload 4, 2) := by decide +kernel
theorem dX0_heightAfter_16 : decode cX0_heightAfter 16 = .ok (.invokestatic 128, 3) := by decide +kernel
theorem dX0_heightAfter_19 : decode cX0_heightAfter 19 = .ok (.lstore 5, 2) := by decide +kernel
theorem dX0_heightAfter_21 : decode cX0_heightAfter 21 = .ok (.aload_n 0, 1) := by decide +kernel
theorem dX0_heightAfter_22 : decode cX0_heightAfter 22 = .ok (.getfield 28, 3) := by decide +kernel
theorem dX0_heightAfter_25 : decode cX0_heightAfter 25 = .ok (.iload_n 1, 1) := by decide +kernel
theorem dX0_heightAfter_26 : decode cX0_heightAfter 26 = .ok (.iaload, 1) := by decide +kernel
theorem dX0_heightAfter_27 : decode cX0_heightAfter 27 = .ok (.i2l, 1) := by decide +kernel
theorem dX0_heightAfter_28 : decode cX0_heightAfter 28 = .ok (.lload 5, 2) := by decide +kernel
theorem dX0_heightAfter_30 : decode cX0_heightAfter 30 = .ok (.ladd, 1) := by decide +kernel
theorem dX0_heightAfter_31 : decode cX0_heightAfter 31 = .ok (.iconst 0, 1) := by decide +kernel
theorem dX0_heightAfter_32 : decode cX0_heightAfter 32 = .ok (.ldc 133, 2) := by decide +kernel
theorem dX0_heightAfter_34 : decode cX0_heightAfter 34 = .ok (.invokestatic 124, 3) := by decide +kernel
theorem dX0_heightAfter_37 : decode cX0_heightAfter 37 = .ok (.ireturn, 1) := by decide +kernel
set_option maxRecDepth 20000 in
theorem ggX0_relative_X0_rttOf : GoodIn wsX0_relative wsX0_rttOf := goodIn_r _ [10, 11, 27, 28, 29, 30, 31, 32, 33, 34, 35, 36, 37] (by decide +kernel) (by decide +kernel)
set_option maxRecDepth 20000 in
theorem gX0_relative_X0_rttOf : GoodIn wsX0_relative (wsV RX0 60 RX0 yX0_rttOf wsX0_rttOf) := goodIn_app (goodIn_of _ (by decide +kernel)) ggX0_relative_X0_rttOf
set_option maxRecDepth 20000 in
theorem ggX0_relative_X0_predicted : GoodIn wsX0_relative wsX0_predicted := goodIn_r _ [15, 16, 17, 18, 19, 20, 21, 22, 23, 24, 27, 28, 29, 30, 31, 32, 33, 34, 35, 36, 37] (by decide +kernel) (by decide +kernel)
set_option maxRecDepth 20000 in
theorem gX0_relative_X0_predicted : GoodIn wsX0_relative (wsV RX0 81 RX0 yX0_predicted wsX0_predicted) := goodIn_app (goodIn_of _ (by decide +kernel)) ggX0_relative_X0_predicted
set_option maxRecDepth 20000 in
theorem ggX0_relative_X1_quotient : GoodIn wsX0_relative wsX1_quotient := goodIn_r _ [26] (by decide +kernel) (by decide +kernel)
set_option maxRecDepth 20000 in
theorem gX0_relative_X1_quotient_n103 : GoodIn wsX0_relative (wsX1_quotient) := ggX0_relative_X1_quotient
theorem dX0_relative_0 : decode cX0_relative 0 = .ok (.aload_n 0, 1) := by decide +kernel
theorem dX0_relative_1 : decode cX0_relative 1 = .ok (.iload_n 1, 1) := by decide +kernel
theorem dX0_relative_2 : decode cX0_relative 2 = .ok (.iload_n 2, 1) := by decide +kernel
theorem dX0_relative_3 : decode cX0_relative 3 = .ok (.invokevirtual 60, 3) := by decide +kernel
theorem dX0_relative_6 : decode cX0_relative 6 = .ok (.istore_n 3, 1) := by decide +kernel
theorem dX0_relative_7 : decode cX0_relative 7 = .ok (.ldc2_w 101, 3) := by decide +kernel
theorem dX0_relative_10 : decode cX0_relative 10 = .ok (.aload_n 0, 1) := by decide +kernel
theorem dX0_relative_11 : decode cX0_relative 11 = .ok (.iload_n 1, 1) := by decide +kernel
theorem dX0_relative_12 : decode cX0_relative 12 = .ok (.iload_n 2, 1) := by decide +kernel
theorem dX0_relative_13 : decode cX0_relative 13 = .ok (.invokevirtual 81, 3) := by decide +kernel
theorem dX0_relative_16 : decode cX0_relative 16 = .ok (.iload_n 3, 1) := by decide +kernel
theorem dX0_relative_17 : decode cX0_relative 17 = .ok (.isub, 1) := by decide +kernel
theorem dX0_relative_18 : decode cX0_relative 18 = .ok (.invokestatic 110, 3) := by decide +kernel
theorem dX0_relative_21 : decode cX0_relative 21 = .ok (.i2l, 1) := by decide +kernel
theorem dX0_relative_22 : decode cX0_relative 22 = .ok (.lmul, 1) := by decide +kernel
theorem dX0_relative_23 : decode cX0_relative 23 = .ok (.iload_n 3, 1) := by decide +kernel
theorem dX0_relative_24 : decode cX0_relative 24 = .ok (.i2l, 1) := by decide +kernel
theorem dX0_relative_25 : decode cX0_relative 25 = .ok (.invokestatic 103, 3) := by decide +kernel
theorem dX0_relative_28 : decode cX0_relative 28 = .ok (.l2i, 1) := by decide +kernel
theorem dX0_relative_29 : decode cX0_relative 29 = .ok (.ireturn, 1) := by decide +kernel
set_option maxRecDepth 20000 in
theorem ggX0_rankOf_X0_predicted : GoodIn wsX0_rankOf wsX0_predicted := goodIn_r _ [6, 7, 8, 9, 10, 11, 12, 13, 14, 15, 16, 17, 18, 19, 20, 21, 22, 23, 24, 25, 26] (by decide +kernel) (by decide +kernel)
set_option maxRecDepth 20000 in
theorem gX0_rankOf_X0_predicted : GoodIn wsX0_rankOf (wsV RX0 81 RX0 yX0_predicted wsX0_predicted) := goodIn_app (goodIn_of _ (by decide +kernel)) ggX0_rankOf_X0_predicted
theorem dX0_rankOf_0 : decode cX0_rankOf 0 = .ok (.aload_n 0, 1) := by decide +kernel
theorem dX0_rankOf_1 : decode cX0_rankOf 1 = .ok (.iload_n 1, 1) := by decide +kernel
theorem dX0_rankOf_2 : decode cX0_rankOf 2 = .ok (.iload_n 2, 1) := by decide +kernel
theorem dX0_rankOf_3 : decode cX0_rankOf 3 = .ok (.invokevirtual 81, 3) := by decide +kernel
theorem dX0_rankOf_6 : decode cX0_rankOf 6 = .ok (.istore_n 3, 1) := by decide +kernel
theorem dX0_rankOf_7 : decode cX0_rankOf 7 = .ok (.iconst 0, 1) := by decide +kernel
theorem dX0_rankOf_8 : decode cX0_rankOf 8 = .ok (.istore 4, 2) := by decide +kernel
theorem dX0_rankOf_10 : decode cX0_rankOf 10 = .ok (.iconst 0, 1) := by decide +kernel
theorem dX0_rankOf_11 : decode cX0_rankOf 11 = .ok (.istore 5, 2) := by decide +kernel
theorem dX0_rankOf_13 : decode cX0_rankOf 13 = .ok (.iload 5, 2) := by decide +kernel
theorem dX0_rankOf_15 : decode cX0_rankOf 15 = .ok (.aload_n 0, 1) := by decide +kernel
theorem dX0_rankOf_16 : decode cX0_rankOf 16 = .ok (.getfield 44, 3) := by decide +kernel
theorem dX0_rankOf_19 : decode cX0_rankOf 19 = .ok (.if_icmp .ge 51, 3) := by decide +kernel
theorem dX0_rankOf_22 : decode cX0_rankOf 22 = .ok (.iload 5, 2) := by decide +kernel
theorem dX0_rankOf_24 : decode cX0_rankOf 24 = .ok (.iload_n 1, 1) := by decide +kernel
theorem dX0_rankOf_25 : decode cX0_rankOf 25 = .ok (.if_icmp .eq 39, 3) := by decide +kernel
theorem dX0_rankOf_28 : decode cX0_rankOf 28 = .ok (.iload 5, 2) := by decide +kernel
theorem dX0_rankOf_30 : decode cX0_rankOf 30 = .ok (.iload_n 2, 1) := by decide +kernel
theorem dX0_rankOf_31 : decode cX0_rankOf 31 = .ok (.if_icmp .eq 33, 3) := by decide +kernel
theorem dX0_rankOf_34 : decode cX0_rankOf 34 = .ok (.aload_n 0, 1) := by decide +kernel
theorem dX0_rankOf_35 : decode cX0_rankOf 35 = .ok (.iload_n 1, 1) := by decide +kernel
theorem dX0_rankOf_36 : decode cX0_rankOf 36 = .ok (.iload 5, 2) := by decide +kernel
theorem dX0_rankOf_38 : decode cX0_rankOf 38 = .ok (.invokevirtual 81, 3) := by decide +kernel
theorem dX0_rankOf_41 : decode cX0_rankOf 41 = .ok (.istore 6, 2) := by decide +kernel
theorem dX0_rankOf_43 : decode cX0_rankOf 43 = .ok (.iload 6, 2) := by decide +kernel
theorem dX0_rankOf_45 : decode cX0_rankOf 45 = .ok (.iload_n 3, 1) := by decide +kernel
theorem dX0_rankOf_46 : decode cX0_rankOf 46 = .ok (.if_icmp .lt 15, 3) := by decide +kernel
theorem dX0_rankOf_49 : decode cX0_rankOf 49 = .ok (.iload 6, 2) := by decide +kernel
theorem dX0_rankOf_51 : decode cX0_rankOf 51 = .ok (.iload_n 3, 1) := by decide +kernel
theorem dX0_rankOf_52 : decode cX0_rankOf 52 = .ok (.if_icmp .ne 12, 3) := by decide +kernel
theorem dX0_rankOf_55 : decode cX0_rankOf 55 = .ok (.iload 5, 2) := by decide +kernel
theorem dX0_rankOf_57 : decode cX0_rankOf 57 = .ok (.iload_n 2, 1) := by decide +kernel
theorem dX0_rankOf_58 : decode cX0_rankOf 58 = .ok (.if_icmp .ge 6, 3) := by decide +kernel
theorem dX0_rankOf_61 : decode cX0_rankOf 61 = .ok (.iinc 4 1, 3) := by decide +kernel
theorem dX0_rankOf_64 : decode cX0_rankOf 64 = .ok (.iinc 5 1, 3) := by decide +kernel
theorem dX0_rankOf_67 : decode cX0_rankOf 67 = .ok (.goto (-54), 3) := by decide +kernel
theorem dX0_rankOf_70 : decode cX0_rankOf 70 = .ok (.iload 4, 2) := by decide +kernel
theorem dX0_rankOf_72 : decode cX0_rankOf 72 = .ok (.ireturn, 1) := by decide +kernel
set_option maxRecDepth 20000 in
theorem ggX0_isTriangle_X0_isKnown : GoodIn wsX0_isTriangle wsX0_isKnown := goodIn_r _ [5, 6, 7, 8, 4, 9, 10, 11, 12, 13, 14, 15, 16, 17, 18, 19, 20, 21] (by decide +kernel) (by decide +kernel)
set_option maxRecDepth 20000 in
theorem gX0_isTriangle_X0_isKnown : GoodIn wsX0_isTriangle (wsV RX0 73 RX0 yX0_isKnown wsX0_isKnown) := goodIn_app (goodIn_of _ (by decide +kernel)) ggX0_isTriangle_X0_isKnown
theorem dX0_isTriangle_0 : decode cX0_isTriangle 0 = .ok (.aload_n 0, 1) := by decide +kernel
theorem dX0_isTriangle_1 : decode cX0_isTriangle 1 = .ok (.iload_n 1, 1) := by decide +kernel
theorem dX0_isTriangle_2 : decode cX0_isTriangle 2 = .ok (.iload_n 2, 1) := by decide +kernel
theorem dX0_isTriangle_3 : decode cX0_isTriangle 3 = .ok (.invokevirtual 73, 3) := by decide +kernel
theorem dX0_isTriangle_6 : decode cX0_isTriangle 6 = .ok (.ifCond .eq 25, 3) := by decide +kernel
theorem dX0_isTriangle_9 : decode cX0_isTriangle 9 = .ok (.aload_n 0, 1) := by decide +kernel
theorem dX0_isTriangle_10 : decode cX0_isTriangle 10 = .ok (.iload_n 2, 1) := by decide +kernel
theorem dX0_isTriangle_11 : decode cX0_isTriangle 11 = .ok (.iload_n 3, 1) := by decide +kernel
theorem dX0_isTriangle_12 : decode cX0_isTriangle 12 = .ok (.invokevirtual 73, 3) := by decide +kernel
theorem dX0_isTriangle_15 : decode cX0_isTriangle 15 = .ok (.ifCond .eq 16, 3) := by decide +kernel
theorem dX0_isTriangle_18 : decode cX0_isTriangle 18 = .ok (.aload_n 0, 1) := by decide +kernel
theorem dX0_isTriangle_19 : decode cX0_isTriangle 19 = .ok (.iload_n 1, 1) := by decide +kernel
theorem dX0_isTriangle_20 : decode cX0_isTriangle 20 = .ok (.iload_n 3, 1) := by decide +kernel
theorem dX0_isTriangle_21 : decode cX0_isTriangle 21 = .ok (.invokevirtual 73, 3) := by decide +kernel
theorem dX0_isTriangle_24 : decode cX0_isTriangle 24 = .ok (.ifCond .eq 7, 3) := by decide +kernel
theorem dX0_isTriangle_27 : decode cX0_isTriangle 27 = .ok (.iconst 1, 1) := by decide +kernel
theorem dX0_isTriangle_28 : decode cX0_isTriangle 28 = .ok (.goto 4, 3) := by decide +kernel
theorem dX0_isTriangle_31 : decode cX0_isTriangle 31 = .ok (.iconst 0, 1) := by decide +kernel
theorem dX0_isTriangle_32 : decode cX0_isTriangle 32 = .ok (.ireturn, 1) := by decide +kernel
set_option maxRecDepth 20000 in
theorem ggX0_excess_X0_isTriangle : GoodIn wsX0_excess wsX0_isTriangle := goodIn_r _ [9, 10, 11, 12, 8, 13, 14, 15, 16, 17, 18, 19, 20, 21, 22, 23, 24, 25, 26, 27, 28, 29] (by decide +kernel) (by decide +kernel)
set_option maxRecDepth 20000 in
theorem gX0_excess_X0_isTriangle : GoodIn wsX0_excess (wsV RX0 134 RX0 yX0_isTriangle wsX0_isTriangle) := goodIn_app (goodIn_of _ (by decide +kernel)) ggX0_excess_X0_isTriangle
set_option maxRecDepth 20000 in
theorem ggX0_excess_X0_rttOf : GoodIn wsX0_excess wsX0_rttOf := goodIn_r _ [17, 18, 19, 20, 21, 22, 23, 24, 25, 26, 27, 28, 29] (by decide +kernel) (by decide +kernel)
set_option maxRecDepth 20000 in
theorem gX0_excess_X0_rttOf : GoodIn wsX0_excess (wsV RX0 60 RX0 yX0_rttOf wsX0_rttOf) := goodIn_app (goodIn_of _ (by decide +kernel)) ggX0_excess_X0_rttOf
theorem dX0_excess_0 : decode cX0_excess 0 = .ok (.aload_n 0, 1) := by decide +kernel
theorem dX0_excess_1 : decode cX0_excess 1 = .ok (.iload_n 1, 1) := by decide +kernel
theorem dX0_excess_2 : decode cX0_excess 2 = .ok (.iload_n 2, 1) := by decide +kernel
theorem dX0_excess_3 : decode cX0_excess 3 = .ok (.iload_n 3, 1) := by decide +kernel
theorem dX0_excess_4 : decode cX0_excess 4 = .ok (.invokevirtual 134, 3) := by decide +kernel
theorem dX0_excess_7 : decode cX0_excess 7 = .ok (.ifCond .ne 5, 3) := by decide +kernel
theorem dX0_excess_10 : decode cX0_excess 10 = .ok (.iconst 0, 1) := by decide +kernel
theorem dX0_excess_11 : decode cX0_excess 11 = .ok (.ireturn, 1) := by decide +kernel
theorem dX0_excess_12 : decode cX0_excess 12 = .ok (.aload_n 0, 1) := by decide +kernel
theorem dX0_excess_13 : decode cX0_excess 13 = .ok (.iload_n 1, 1) := by decide +kernel
theorem dX0_excess_14 : decode cX0_excess 14 = .ok (.iload_n 2, 1) := by decide +kernel
theorem dX0_excess_15 : decode cX0_excess 15 = .ok (.invokevirtual 60, 3) := by decide +kernel
theorem dX0_excess_18 : decode cX0_excess 18 = .ok (.istore 4, 2) := by decide +kernel
theorem dX0_excess_20 : decode cX0_excess 20 = .ok (.aload_n 0, 1) := by decide +kernel
theorem dX0_excess_21 : decode cX0_excess 21 = .ok (.iload_n 2, 1) := by decide +kernel
theorem dX0_excess_22 : decode cX0_excess 22 = .ok (.iload_n 3, 1) := by decide +kernel
theorem dX0_excess_23 : decode cX0_excess 23 = .ok (.invokevirtual 60, 3) := by decide +kernel
theorem dX0_excess_26 : decode cX0_excess 26 = .ok (.istore 5, 2) := by decide +kernel
theorem dX0_excess_28 : decode cX0_excess 28 = .ok (.aload_n 0, 1) := by decide +kernel
theorem dX0_excess_29 : decode cX0_excess 29 = .ok (.iload_n 1, 1) := by decide +kernel
theorem dX0_excess_30 : decode cX0_excess 30 = .ok (.iload_n 3, 1) := by decide +kernel
theorem dX0_excess_31 : decode cX0_excess 31 = .ok (.invokevirtual 60, 3) := by decide +kernel
theorem dX0_excess_34 : decode cX0_excess 34 = .ok (.istore 6, 2) := by decide +kernel
theorem dX0_excess_36 : decode cX0_excess 36 = .ok (.iload 4, 2) := by decide +kernel
theorem dX0_excess_38 : decode cX0_excess 38 = .ok (.iload 5, 2) := by decide +kernel
theorem dX0_excess_40 : decode cX0_excess 40 = .ok (.iload 6, 2) := by decide +kernel
theorem dX0_excess_42 : decode cX0_excess 42 = .ok (.invokestatic 138, 3) := by decide +kernel
theorem dX0_excess_45 : decode cX0_excess 45 = .ok (.invokestatic 138, 3) := by decide +kernel
theorem dX0_excess_48 : decode cX0_excess 48 = .ok (.istore 7, 2) := by decide +kernel
theorem dX0_excess_50 : decode cX0_excess 50 = .ok (.iconst 0, 1) := by decide +kernel
theorem dX0_excess_51 : decode cX0_excess 51 = .ok (.iload 7, 2) := by decide +kernel
theorem dX0_excess_53 : decode cX0_excess 53 = .ok (.iload 4, 2) := by decide +kernel
theorem dX0_excess_55 : decode cX0_excess 55 = .ok (.iload 5, 2) := by decide +kernel
theorem dX0_excess_57 : decode cX0_excess 57 = .ok (.iadd, 1) := by decide +kernel
theorem dX0_excess_58 : decode cX0_excess 58 = .ok (.iload 6, 2) := by decide +kernel
theorem dX0_excess_60 : decode cX0_excess 60 = .ok (.iadd, 1) := by decide +kernel
theorem dX0_excess_61 : decode cX0_excess 61 = .ok (.iload 7, 2) := by decide +kernel
theorem dX0_excess_63 : decode cX0_excess 63 = .ok (.isub, 1) := by decide +kernel
theorem dX0_excess_64 : decode cX0_excess 64 = .ok (.isub, 1) := by decide +kernel
theorem dX0_excess_65 : decode cX0_excess 65 = .ok (.invokestatic 138, 3) := by decide +kernel
theorem dX0_excess_68 : decode cX0_excess 68 = .ok (.ireturn, 1) := by decide +kernel
set_option maxRecDepth 20000 in
theorem ggX0_violationsAt_X0_excess : GoodIn wsX0_violationsAt wsX0_excess := goodIn_r _ [6, 7, 8, 9, 10, 11, 12, 13, 5, 14, 15, 16, 17, 18, 19, 20, 21, 22, 23, 24, 25, 26, 27, 28, 29, 30, 31, 32, 33, 34] (by decide +kernel) (by decide +kernel)
set_option maxRecDepth 20000 in
theorem gX0_violationsAt_X0_excess : GoodIn wsX0_violationsAt (wsV RX0 140 RX0 yX0_excess wsX0_excess) := goodIn_app (goodIn_of _ (by decide +kernel)) ggX0_violationsAt_X0_excess
theorem dX0_violationsAt_0 : decode cX0_violationsAt 0 = .ok (.iconst 0, 1) := by decide +kernel
theorem dX0_violationsAt_1 : decode cX0_violationsAt 1 = .ok (.istore_n 2, 1) := by decide +kernel
theorem dX0_violationsAt_2 : decode cX0_violationsAt 2 = .ok (.iconst 0, 1) := by decide +kernel
theorem dX0_violationsAt_3 : decode cX0_violationsAt 3 = .ok (.istore_n 3, 1) := by decide +kernel
theorem dX0_violationsAt_4 : decode cX0_violationsAt 4 = .ok (.iload_n 3, 1) := by decide +kernel
theorem dX0_violationsAt_5 : decode cX0_violationsAt 5 = .ok (.aload_n 0, 1) := by decide +kernel
theorem dX0_violationsAt_6 : decode cX0_violationsAt 6 = .ok (.getfield 44, 3) := by decide +kernel
theorem dX0_violationsAt_9 : decode cX0_violationsAt 9 = .ok (.if_icmp .ge 54, 3) := by decide +kernel
theorem dX0_violationsAt_12 : decode cX0_violationsAt 12 = .ok (.iload_n 3, 1) := by decide +kernel
theorem dX0_violationsAt_13 : decode cX0_violationsAt 13 = .ok (.iconst 1, 1) := by decide +kernel
theorem dX0_violationsAt_14 : decode cX0_violationsAt 14 = .ok (.iadd, 1) := by decide +kernel
theorem dX0_violationsAt_15 : decode cX0_violationsAt 15 = .ok (.istore 4, 2) := by decide +kernel
theorem dX0_violationsAt_17 : decode cX0_violationsAt 17 = .ok (.iload 4, 2) := by decide +kernel
theorem dX0_violationsAt_19 : decode cX0_violationsAt 19 = .ok (.aload_n 0, 1) := by decide +kernel
theorem dX0_violationsAt_20 : decode cX0_violationsAt 20 = .ok (.getfield 44, 3) := by decide +kernel
theorem dX0_violationsAt_23 : decode cX0_violationsAt 23 = .ok (.if_icmp .ge 34, 3) := by decide +kernel
theorem dX0_violationsAt_26 : decode cX0_violationsAt 26 = .ok (.iload_n 3, 1) := by decide +kernel
theorem dX0_violationsAt_27 : decode cX0_violationsAt 27 = .ok (.iload_n 1, 1) := by decide +kernel
theorem dX0_violationsAt_28 : decode cX0_violationsAt 28 = .ok (.if_icmp .eq 23, 3) := by decide +kernel
theorem dX0_violationsAt_31 : decode cX0_violationsAt 31 = .ok (.iload 4, 2) := by decide +kernel
theorem dX0_violationsAt_33 : decode cX0_violationsAt 33 = .ok (.iload_n 1, 1) := by decide +kernel
theorem dX0_violationsAt_34 : decode cX0_violationsAt 34 = .ok (.if_icmp .eq 17, 3) := by decide +kernel
theorem dX0_violationsAt_37 : decode cX0_violationsAt 37 = .ok (.aload_n 0, 1) := by decide +kernel
theorem dX0_violationsAt_38 : decode cX0_violationsAt 38 = .ok (.iload_n 1, 1) := by decide +kernel
theorem dX0_violationsAt_39 : decode cX0_violationsAt 39 = .ok (.iload_n 3, 1) := by decide +kernel
theorem dX0_violationsAt_40 : decode cX0_violationsAt 40 = .ok (.iload 4, 2) := by decide +kernel
theorem dX0_violationsAt_42 : decode cX0_violationsAt 42 = .ok (.invokevirtual 140, 3) := by decide +kernel
theorem dX0_violationsAt_45 : decode cX0_violationsAt 45 = .ok (.ifCond .le 6, 3) := by decide +kernel
theorem dX0_violationsAt_48 : decode cX0_violationsAt 48 = .ok (.iinc 2 1, 3) := by decide +kernel
theorem dX0_violationsAt_51 : decode cX0_violationsAt 51 = .ok (.iinc 4 1, 3) := by decide +kernel
theorem dX0_violationsAt_54 : decode cX0_violationsAt 54 = .ok (.goto (-37), 3) := by decide +kernel
theorem dX0_violationsAt_57 : decode cX0_violationsAt 57 = .ok (.iinc 3 1, 3) := by decide +kernel
theorem dX0_violationsAt_60 : decode cX0_violationsAt 60 = .ok (.goto (-56), 3) := by decide +kernel
theorem dX0_violationsAt_63 : decode cX0_violationsAt 63 = .ok (.iload_n 2, 1) := by decide +kernel
theorem dX0_violationsAt_64 : decode cX0_violationsAt 64 = .ok (.ireturn, 1) := by decide +kernel
theorem dJ9_floorMod_7cf53_0 : decode cJ9_floorMod_7cf53 0 = .ok (.iload_n 0, 1) := by decide +kernel
theorem dJ9_floorMod_7cf53_1 : decode cJ9_floorMod_7cf53 1 = .ok (.iload_n 1, 1) := by decide +kernel
theorem dJ9_floorMod_7cf53_2 : decode cJ9_floorMod_7cf53 2 = .ok (.irem, 1) := by decide +kernel
theorem dJ9_floorMod_7cf53_3 : decode cJ9_floorMod_7cf53 3 = .ok (.istore_n 2, 1) := by decide +kernel
theorem dJ9_floorMod_7cf53_4 : decode cJ9_floorMod_7cf53 4 = .ok (.iload_n 0, 1) := by decide +kernel
theorem dJ9_floorMod_7cf53_5 : decode cJ9_floorMod_7cf53 5 = .ok (.iload_n 1, 1) := by decide +kernel
theorem dJ9_floorMod_7cf53_6 : decode cJ9_floorMod_7cf53 6 = .ok (.ixor, 1) := by decide +kernel
theorem dJ9_floorMod_7cf53_7 : decode cJ9_floorMod_7cf53 7 = .ok (.ifCond .ge 11, 3) := by decide +kernel
theorem dJ9_floorMod_7cf53_10 : decode cJ9_floorMod_7cf53 10 = .ok (.iload_n 2, 1) := by decide +kernel
theorem dJ9_floorMod_7cf53_11 : decode cJ9_floorMod_7cf53 11 = .ok (.ifCond .eq 7, 3) := by decide +kernel
theorem dJ9_floorMod_7cf53_14 : decode cJ9_floorMod_7cf53 14 = .ok (.iload_n 2, 1) := by decide +kernel
theorem dJ9_floorMod_7cf53_15 : decode cJ9_floorMod_7cf53 15 = .ok (.iload_n 1, 1) := by decide +kernel
theorem dJ9_floorMod_7cf53_16 : decode cJ9_floorMod_7cf53 16 = .ok (.iadd, 1) := by decide +kernel
theorem dJ9_floorMod_7cf53_17 : decode cJ9_floorMod_7cf53 17 = .ok (.ireturn, 1) := by decide +kernel
theorem dJ9_floorMod_7cf53_18 : decode cJ9_floorMod_7cf53 18 = .ok (.iload_n 2, 1) := by decide +kernel
theorem dJ9_floorMod_7cf53_19 : decode cJ9_floorMod_7cf53 19 = .ok (.ireturn, 1) := by decide +kernel
theorem dJ9_abs_0f7a4_0 : decode cJ9_abs_0f7a4 0 = .ok (.iload_n 0, 1) := by decide +kernel
theorem dJ9_abs_0f7a4_1 : decode cJ9_abs_0f7a4 1 = .ok (.ifCond .ge 8, 3) := by decide +kernel
theorem dJ9_abs_0f7a4_4 : decode cJ9_abs_0f7a4 4 = .ok (.iload_n 0, 1) := by decide +kernel
theorem dJ9_abs_0f7a4_5 : decode cJ9_abs_0f7a4 5 = .ok (.ineg, 1) := by decide +kernel
theorem dJ9_abs_0f7a4_6 : decode cJ9_abs_0f7a4 6 = .ok (.goto 4, 3) := by decide +kernel
theorem dJ9_abs_0f7a4_9 : decode cJ9_abs_0f7a4 9 = .ok (.iload_n 0, 1) := by decide +kernel
theorem dJ9_abs_0f7a4_10 : decode cJ9_abs_0f7a4 10 = .ok (.ireturn, 1) := by decide +kernel
theorem dJ9_max_7cf53_0 : decode cJ9_max_7cf53 0 = .ok (.iload_n 0, 1) := by decide +kernel
theorem dJ9_max_7cf53_1 : decode cJ9_max_7cf53 1 = .ok (.iload_n 1, 1) := by decide +kernel
theorem dJ9_max_7cf53_2 : decode cJ9_max_7cf53 2 = .ok (.if_icmp .lt 7, 3) := by decide +kernel
theorem dJ9_max_7cf53_5 : decode cJ9_max_7cf53 5 = .ok (.iload_n 0, 1) := by decide +kernel
theorem dJ9_max_7cf53_6 : decode cJ9_max_7cf53 6 = .ok (.goto 4, 3) := by decide +kernel
theorem dJ9_max_7cf53_9 : decode cJ9_max_7cf53 9 = .ok (.iload_n 1, 1) := by decide +kernel
theorem dJ9_max_7cf53_10 : decode cJ9_max_7cf53 10 = .ok (.ireturn, 1) := by decide +kernel
theorem dJ9_max_f86c9_0 : decode cJ9_max_f86c9 0 = .ok (.lload_n 0, 1) := by decide +kernel
theorem dJ9_max_f86c9_1 : decode cJ9_max_f86c9 1 = .ok (.lload_n 2, 1) := by decide +kernel
theorem dJ9_max_f86c9_2 : decode cJ9_max_f86c9 2 = .ok (.lcmp, 1) := by decide +kernel
theorem dJ9_max_f86c9_3 : decode cJ9_max_f86c9 3 = .ok (.ifCond .lt 7, 3) := by decide +kernel
theorem dJ9_max_f86c9_6 : decode cJ9_max_f86c9 6 = .ok (.lload_n 0, 1) := by decide +kernel
theorem dJ9_max_f86c9_7 : decode cJ9_max_f86c9 7 = .ok (.goto 4, 3) := by decide +kernel
theorem dJ9_max_f86c9_10 : decode cJ9_max_f86c9 10 = .ok (.lload_n 2, 1) := by decide +kernel
theorem dJ9_max_f86c9_11 : decode cJ9_max_f86c9 11 = .ok (.lreturn, 1) := by decide +kernel
theorem dJ9_min_f86c9_0 : decode cJ9_min_f86c9 0 = .ok (.lload_n 0, 1) := by decide +kernel
theorem dJ9_min_f86c9_1 : decode cJ9_min_f86c9 1 = .ok (.lload_n 2, 1) := by decide +kernel
theorem dJ9_min_f86c9_2 : decode cJ9_min_f86c9 2 = .ok (.lcmp, 1) := by decide +kernel
theorem dJ9_min_f86c9_3 : decode cJ9_min_f86c9 3 = .ok (.ifCond .gt 7, 3) := by decide +kernel
theorem dJ9_min_f86c9_6 : decode cJ9_min_f86c9 6 = .ok (.lload_n 0, 1) := by decide +kernel
theorem dJ9_min_f86c9_7 : decode cJ9_min_f86c9 7 = .ok (.goto 4, 3) := by decide +kernel
theorem dJ9_min_f86c9_10 : decode cJ9_min_f86c9 10 = .ok (.lload_n 2, 1) := by decide +kernel
theorem dJ9_min_f86c9_11 : decode cJ9_min_f86c9 11 = .ok (.lreturn, 1) := by decide +kernel
