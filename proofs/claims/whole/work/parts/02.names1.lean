theorem dX0_restBits_0 : decode cX0_restBits 0 = .ok (.iconst 0, 1) := by decide +kernel
theorem dX0_restBits_1 : decode cX0_restBits 1 = .ok (.istore_n 2, 1) := by decide +kernel
theorem dX0_restBits_2 : decode cX0_restBits 2 = .ok (.iconst 0, 1) := by decide +kernel
theorem dX0_restBits_3 : decode cX0_restBits 3 = .ok (.istore_n 3, 1) := by decide +kernel
theorem dX0_restBits_4 : decode cX0_restBits 4 = .ok (.iload_n 3, 1) := by decide +kernel
theorem dX0_restBits_5 : decode cX0_restBits 5 = .ok (.iconst 4, 1) := by decide +kernel
theorem dX0_restBits_6 : decode cX0_restBits 6 = .ok (.if_icmp .ge 125, 3) := by decide +kernel
theorem dX0_restBits_9 : decode cX0_restBits 9 = .ok (.iload_n 3, 1) := by decide +kernel
theorem dX0_restBits_10 : decode cX0_restBits 10 = .ok (.iconst 1, 1) := by decide +kernel
theorem dX0_restBits_11 : decode cX0_restBits 11 = .ok (.if_icmp .gt 7, 3) := by decide +kernel
theorem dX0_restBits_14 : decode cX0_restBits 14 = .ok (.iconst 1, 1) := by decide +kernel
theorem dX0_restBits_15 : decode cX0_restBits 15 = .ok (.goto 4, 3) := by decide +kernel
theorem dX0_restBits_18 : decode cX0_restBits 18 = .ok (.iconst 0, 1) := by decide +kernel
theorem dX0_restBits_19 : decode cX0_restBits 19 = .ok (.istore 4, 2) := by decide +kernel
theorem dX0_restBits_21 : decode cX0_restBits 21 = .ok (.iload_n 3, 1) := by decide +kernel
theorem dX0_restBits_22 : decode cX0_restBits 22 = .ok (.ifCond .eq 8, 3) := by decide +kernel
theorem dX0_restBits_25 : decode cX0_restBits 25 = .ok (.iload_n 3, 1) := by decide +kernel
theorem dX0_restBits_26 : decode cX0_restBits 26 = .ok (.iconst 2, 1) := by decide +kernel
theorem dX0_restBits_27 : decode cX0_restBits 27 = .ok (.if_icmp .ne 7, 3) := by decide +kernel
theorem dX0_restBits_30 : decode cX0_restBits 30 = .ok (.iconst 1, 1) := by decide +kernel
theorem dX0_restBits_31 : decode cX0_restBits 31 = .ok (.goto 4, 3) := by decide +kernel
theorem dX0_restBits_34 : decode cX0_restBits 34 = .ok (.iconst 0, 1) := by decide +kernel
theorem dX0_restBits_35 : decode cX0_restBits 35 = .ok (.istore 5, 2) := by decide +kernel
theorem dX0_restBits_37 : decode cX0_restBits 37 = .ok (.iload 4, 2) := by decide +kernel
theorem dX0_restBits_39 : decode cX0_restBits 39 = .ok (.iload 5, 2) := by decide +kernel
theorem dX0_restBits_41 : decode cX0_restBits 41 = .ok (.iload_n 1, 1) := by decide +kernel
theorem dX0_restBits_42 : decode cX0_restBits 42 = .ok (.invokestatic 7, 3) := by decide +kernel
theorem dX0_restBits_45 : decode cX0_restBits 45 = .ok (.iload 4, 2) := by decide +kernel
theorem dX0_restBits_47 : decode cX0_restBits 47 = .ok (.ifCond .ne 7, 3) := by decide +kernel
theorem dX0_restBits_50 : decode cX0_restBits 50 = .ok (.iconst 1, 1) := by decide +kernel
theorem dX0_restBits_51 : decode cX0_restBits 51 = .ok (.goto 4, 3) := by decide +kernel
theorem dX0_restBits_54 : decode cX0_restBits 54 = .ok (.iconst 0, 1) := by decide +kernel
theorem dX0_restBits_55 : decode cX0_restBits 55 = .ok (.iload 5, 2) := by decide +kernel
theorem dX0_restBits_57 : decode cX0_restBits 57 = .ok (.iload_n 1, 1) := by decide +kernel
theorem dX0_restBits_58 : decode cX0_restBits 58 = .ok (.invokestatic 7, 3) := by decide +kernel
theorem dX0_restBits_61 : decode cX0_restBits 61 = .ok (.if_icmp .gt 7, 3) := by decide +kernel
theorem dX0_restBits_64 : decode cX0_restBits 64 = .ok (.iconst 1, 1) := by decide +kernel
theorem dX0_restBits_65 : decode cX0_restBits 65 = .ok (.goto 4, 3) := by decide +kernel
theorem dX0_restBits_68 : decode cX0_restBits 68 = .ok (.iconst 0, 1) := by decide +kernel
theorem dX0_restBits_69 : decode cX0_restBits 69 = .ok (.istore 6, 2) := by decide +kernel
theorem dX0_restBits_71 : decode cX0_restBits 71 = .ok (.iload 5, 2) := by decide +kernel
theorem dX0_restBits_73 : decode cX0_restBits 73 = .ok (.iload 4, 2) := by decide +kernel
theorem dX0_restBits_75 : decode cX0_restBits 75 = .ok (.iload_n 0, 1) := by decide +kernel
theorem dX0_restBits_76 : decode cX0_restBits 76 = .ok (.invokestatic 7, 3) := by decide +kernel
theorem dX0_restBits_79 : decode cX0_restBits 79 = .ok (.iload 5, 2) := by decide +kernel
theorem dX0_restBits_81 : decode cX0_restBits 81 = .ok (.ifCond .ne 7, 3) := by decide +kernel
theorem dX0_restBits_84 : decode cX0_restBits 84 = .ok (.iconst 1, 1) := by decide +kernel
theorem dX0_restBits_85 : decode cX0_restBits 85 = .ok (.goto 4, 3) := by decide +kernel
theorem dX0_restBits_88 : decode cX0_restBits 88 = .ok (.iconst 0, 1) := by decide +kernel
theorem dX0_restBits_89 : decode cX0_restBits 89 = .ok (.iload 4, 2) := by decide +kernel
theorem dX0_restBits_91 : decode cX0_restBits 91 = .ok (.iload_n 0, 1) := by decide +kernel
theorem dX0_restBits_92 : decode cX0_restBits 92 = .ok (.invokestatic 7, 3) := by decide +kernel
theorem dX0_restBits_95 : decode cX0_restBits 95 = .ok (.if_icmp .gt 7, 3) := by decide +kernel
theorem dX0_restBits_98 : decode cX0_restBits 98 = .ok (.iconst 1, 1) := by decide +kernel
theorem dX0_restBits_99 : decode cX0_restBits 99 = .ok (.goto 4, 3) := by decide +kernel
theorem dX0_restBits_102 : decode cX0_restBits 102 = .ok (.iconst 0, 1) := by decide +kernel
theorem dX0_restBits_103 : decode cX0_restBits 103 = .ok (.istore 7, 2) := by decide +kernel
theorem dX0_restBits_105 : decode cX0_restBits 105 = .ok (.iload_n 2, 1) := by decide +kernel
theorem dX0_restBits_106 : decode cX0_restBits 106 = .ok (.iload 6, 2) := by decide +kernel
theorem dX0_restBits_108 : decode cX0_restBits 108 = .ok (.ifCond .eq 14, 3) := by decide +kernel
theorem dX0_restBits_111 : decode cX0_restBits 111 = .ok (.iload 7, 2) := by decide +kernel
theorem dX0_restBits_113 : decode cX0_restBits 113 = .ok (.ifCond .eq 9, 3) := by decide +kernel
theorem dX0_restBits_116 : decode cX0_restBits 116 = .ok (.iconst 1, 1) := by decide +kernel
theorem dX0_restBits_117 : decode cX0_restBits 117 = .ok (.iload_n 3, 1) := by decide +kernel
theorem dX0_restBits_118 : decode cX0_restBits 118 = .ok (.ishl, 1) := by decide +kernel
theorem dX0_restBits_119 : decode cX0_restBits 119 = .ok (.goto 4, 3) := by decide +kernel
theorem dX0_restBits_122 : decode cX0_restBits 122 = .ok (.iconst 0, 1) := by decide +kernel
theorem dX0_restBits_123 : decode cX0_restBits 123 = .ok (.ior, 1) := by decide +kernel
theorem dX0_restBits_124 : decode cX0_restBits 124 = .ok (.istore_n 2, 1) := by decide +kernel
theorem dX0_restBits_125 : decode cX0_restBits 125 = .ok (.iinc 3 1, 3) := by decide +kernel
theorem dX0_restBits_128 : decode cX0_restBits 128 = .ok (.goto (-124), 3) := by decide +kernel
theorem dX0_restBits_131 : decode cX0_restBits 131 = .ok (.iload_n 2, 1) := by decide +kernel
theorem dX0_restBits_132 : decode cX0_restBits 132 = .ok (.ireturn, 1) := by decide +kernel
theorem dX0_cost_0 : decode cX0_cost 0 = .ok (.iload_n 0, 1) := by decide +kernel
theorem dX0_cost_1 : decode cX0_cost 1 = .ok (.ifCond .eq 7, 3) := by decide +kernel
theorem dX0_cost_4 : decode cX0_cost 4 = .ok (.iconst 4, 1) := by decide +kernel
theorem dX0_cost_5 : decode cX0_cost 5 = .ok (.iload_n 2, 1) := by decide +kernel
theorem dX0_cost_6 : decode cX0_cost 6 = .ok (.imul, 1) := by decide +kernel
theorem dX0_cost_7 : decode cX0_cost 7 = .ok (.ireturn, 1) := by decide +kernel
theorem dX0_cost_8 : decode cX0_cost 8 = .ok (.iload_n 1, 1) := by decide +kernel
theorem dX0_cost_9 : decode cX0_cost 9 = .ok (.ifCond .eq 7, 3) := by decide +kernel
theorem dX0_cost_12 : decode cX0_cost 12 = .ok (.iconst 0, 1) := by decide +kernel
theorem dX0_cost_13 : decode cX0_cost 13 = .ok (.goto 10, 3) := by decide +kernel
theorem dX0_cost_16 : decode cX0_cost 16 = .ok (.bipush 10, 2) := by decide +kernel
theorem dX0_cost_18 : decode cX0_cost 18 = .ok (.bipush 20, 2) := by decide +kernel
theorem dX0_cost_20 : decode cX0_cost 20 = .ok (.iload_n 2, 1) := by decide +kernel
theorem dX0_cost_21 : decode cX0_cost 21 = .ok (.isub, 1) := by decide +kernel
theorem dX0_cost_22 : decode cX0_cost 22 = .ok (.imul, 1) := by decide +kernel
theorem dX0_cost_23 : decode cX0_cost 23 = .ok (.ireturn, 1) := by decide +kernel
set_option maxRecDepth 20000 in
theorem ggX1_init_X8_init : GoodIn wsX1_init wsX8_init := goodIn_r _ [14, 15, 2, 3, 16, 17, 18, 19, 20, 21, 22, 23, 52, 53, 54, 55] (by decide +kernel) (by decide +kernel)
set_option maxRecDepth 20000 in
theorem gX1_init_X8_init : GoodIn wsX1_init (wsX8_init) := ggX1_init_X8_init
set_option maxRecDepth 20000 in
theorem ggX1_init_X8_addRow : GoodIn wsX1_init wsX8_addRow := goodIn_r _ [27, 28, 29, 30, 31, 6, 32, 16, 52, 53, 54, 55] (by decide +kernel) (by decide +kernel)
set_option maxRecDepth 20000 in
theorem gX1_init_X8_addRow : GoodIn wsX1_init (wsV RX1 32 RX8 yX8_addRow wsX8_addRow) := goodIn_app (goodIn_of _ (by decide +kernel)) ggX1_init_X8_addRow
set_option maxRecDepth 20000 in
theorem ggX1_init_X1_begin : GoodIn wsX1_init wsX1_begin := goodIn_r _ [37, 38, 7, 8, 9, 10, 39, 11, 40, 41, 42, 43, 6, 44, 28, 45, 46, 47, 48, 49, 50, 51, 17, 23, 56, 57, 58, 59, 60, 61, 52, 53, 54, 55] (by decide +kernel) (by decide +kernel)
set_option maxRecDepth 20000 in
theorem gX1_init_X1_begin : GoodIn wsX1_init (wsV RX1 36 RX1 yX1_begin wsX1_begin) := goodIn_app (goodIn_of _ (by decide +kernel)) ggX1_init_X1_begin
theorem dX1_init_0 : decode cX1_init 0 = .ok (.aload_n 0, 1) := by decide +kernel
theorem dX1_init_1 : decode cX1_init 1 = .ok (.invokespecial 3, 3) := by decide +kernel
theorem dX1_init_4 : decode cX1_init 4 = .ok (.aload_n 0, 1) := by decide +kernel
theorem dX1_init_5 : decode cX1_init 5 = .ok (.new 9, 3) := by decide +kernel
theorem dX1_init_8 : decode cX1_init 8 = .ok (.dup, 1) := by decide +kernel
theorem dX1_init_9 : decode cX1_init 9 = .ok (.bipush 12, 2) := by decide +kernel
theorem dX1_init_11 : decode cX1_init 11 = .ok (.bipush 7, 2) := by decide +kernel
theorem dX1_init_13 : decode cX1_init 13 = .ok (.invokespecial 13, 3) := by decide +kernel
theorem dX1_init_16 : decode cX1_init 16 = .ok (.putfield 16, 3) := by decide +kernel
theorem dX1_init_19 : decode cX1_init 19 = .ok (.aload_n 0, 1) := by decide +kernel
theorem dX1_init_20 : decode cX1_init 20 = .ok (.new 9, 3) := by decide +kernel
theorem dX1_init_23 : decode cX1_init 23 = .ok (.dup, 1) := by decide +kernel
theorem dX1_init_24 : decode cX1_init 24 = .ok (.iconst 5, 1) := by decide +kernel
theorem dX1_init_25 : decode cX1_init 25 = .ok (.iconst 3, 1) := by decide +kernel
theorem dX1_init_26 : decode cX1_init 26 = .ok (.invokespecial 13, 3) := by decide +kernel
theorem dX1_init_29 : decode cX1_init 29 = .ok (.putfield 20, 3) := by decide +kernel
theorem dX1_init_32 : decode cX1_init 32 = .ok (.aload_n 0, 1) := by decide +kernel
theorem dX1_init_33 : decode cX1_init 33 = .ok (.new 9, 3) := by decide +kernel
theorem dX1_init_36 : decode cX1_init 36 = .ok (.dup, 1) := by decide +kernel
theorem dX1_init_37 : decode cX1_init 37 = .ok (.bipush 6, 2) := by decide +kernel
theorem dX1_init_39 : decode cX1_init 39 = .ok (.iconst 2, 1) := by decide +kernel
theorem dX1_init_40 : decode cX1_init 40 = .ok (.invokespecial 13, 3) := by decide +kernel
theorem dX1_init_43 : decode cX1_init 43 = .ok (.putfield 23, 3) := by decide +kernel
theorem dX1_init_46 : decode cX1_init 46 = .ok (.aload_n 0, 1) := by decide +kernel
theorem dX1_init_47 : decode cX1_init 47 = .ok (.new 9, 3) := by decide +kernel
theorem dX1_init_50 : decode cX1_init 50 = .ok (.dup, 1) := by decide +kernel
theorem dX1_init_51 : decode cX1_init 51 = .ok (.iconst 1, 1) := by decide +kernel
theorem dX1_init_52 : decode cX1_init 52 = .ok (.bipush 8, 2) := by decide +kernel
theorem dX1_init_54 : decode cX1_init 54 = .ok (.invokespecial 13, 3) := by decide +kernel
theorem dX1_init_57 : decode cX1_init 57 = .ok (.putfield 26, 3) := by decide +kernel
theorem dX1_init_60 : decode cX1_init 60 = .ok (.aload_n 0, 1) := by decide +kernel
theorem dX1_init_61 : decode cX1_init 61 = .ok (.new 9, 3) := by decide +kernel
theorem dX1_init_64 : decode cX1_init 64 = .ok (.dup, 1) := by decide +kernel
theorem dX1_init_65 : decode cX1_init 65 = .ok (.iconst 1, 1) := by decide +kernel
theorem dX1_init_66 : decode cX1_init 66 = .ok (.iconst 5, 1) := by decide +kernel
theorem dX1_init_67 : decode cX1_init 67 = .ok (.invokespecial 13, 3) := by decide +kernel
theorem dX1_init_70 : decode cX1_init 70 = .ok (.putfield 29, 3) := by decide +kernel
theorem dX1_init_73 : decode cX1_init 73 = .ok (.aload_n 0, 1) := by decide +kernel
theorem dX1_init_74 : decode cX1_init 74 = .ok (.getfield 26, 3) := by decide +kernel
theorem dX1_init_77 : decode cX1_init 77 = .ok (.invokevirtual 32, 3) := by decide +kernel
theorem dX1_init_80 : decode cX1_init 80 = .ok (.pop, 1) := by decide +kernel
theorem dX1_init_81 : decode cX1_init 81 = .ok (.aload_n 0, 1) := by decide +kernel
theorem dX1_init_82 : decode cX1_init 82 = .ok (.getfield 29, 3) := by decide +kernel
theorem dX1_init_85 : decode cX1_init 85 = .ok (.invokevirtual 32, 3) := by decide +kernel
theorem dX1_init_88 : decode cX1_init 88 = .ok (.pop, 1) := by decide +kernel
theorem dX1_init_89 : decode cX1_init 89 = .ok (.aload_n 0, 1) := by decide +kernel
theorem dX1_init_90 : decode cX1_init 90 = .ok (.invokevirtual 36, 3) := by decide +kernel
theorem dX1_init_93 : decode cX1_init 93 = .ok (.return_, 1) := by decide +kernel
set_option maxRecDepth 20000 in
theorem ggX1_begin_X8_forgetAll : GoodIn wsX1_begin wsX8_forgetAll := goodIn_r _ [13, 14, 30, 31, 32, 33] (by decide +kernel) (by decide +kernel)
set_option maxRecDepth 20000 in
theorem gX1_begin_X8_forgetAll : GoodIn wsX1_begin (wsV RX1 43 RX8 yX8_forgetAll wsX8_forgetAll) := goodIn_app (goodIn_of _ (by decide +kernel)) ggX1_begin_X8_forgetAll
set_option maxRecDepth 20000 in
theorem ggX1_begin_X10_at : GoodIn wsX1_begin wsX10_at := goodIn_r _ [17] (by decide +kernel) (by decide +kernel)
set_option maxRecDepth 20000 in
theorem gX1_begin_X10_at_n50 : GoodIn wsX1_begin (wsX10_at) := ggX1_begin_X10_at
set_option maxRecDepth 20000 in
theorem ggX1_begin_X8_set : GoodIn wsX1_begin wsX8_set := goodIn_r _ [21, 22, 23, 30, 31, 32, 33] (by decide +kernel) (by decide +kernel)
set_option maxRecDepth 20000 in
theorem gX1_begin_X8_set : GoodIn wsX1_begin (wsV RX1 54 RX8 yX8_set wsX8_set) := goodIn_app (goodIn_of _ (by decide +kernel)) ggX1_begin_X8_set
theorem dX1_begin_0 : decode cX1_begin 0 = .ok (.aload_n 0, 1) := by decide +kernel
theorem dX1_begin_1 : decode cX1_begin 1 = .ok (.iconst 0, 1) := by decide +kernel
theorem dX1_begin_2 : decode cX1_begin 2 = .ok (.putfield 39, 3) := by decide +kernel
theorem dX1_begin_5 : decode cX1_begin 5 = .ok (.aload_n 0, 1) := by decide +kernel
theorem dX1_begin_6 : decode cX1_begin 6 = .ok (.getfield 16, 3) := by decide +kernel
theorem dX1_begin_9 : decode cX1_begin 9 = .ok (.invokevirtual 43, 3) := by decide +kernel
theorem dX1_begin_12 : decode cX1_begin 12 = .ok (.aload_n 0, 1) := by decide +kernel
theorem dX1_begin_13 : decode cX1_begin 13 = .ok (.getfield 20, 3) := by decide +kernel
theorem dX1_begin_16 : decode cX1_begin 16 = .ok (.invokevirtual 43, 3) := by decide +kernel
theorem dX1_begin_19 : decode cX1_begin 19 = .ok (.aload_n 0, 1) := by decide +kernel
theorem dX1_begin_20 : decode cX1_begin 20 = .ok (.getfield 23, 3) := by decide +kernel
theorem dX1_begin_23 : decode cX1_begin 23 = .ok (.invokevirtual 43, 3) := by decide +kernel
theorem dX1_begin_26 : decode cX1_begin 26 = .ok (.iconst 0, 1) := by decide +kernel
theorem dX1_begin_27 : decode cX1_begin 27 = .ok (.istore_n 1, 1) := by decide +kernel
theorem dX1_begin_28 : decode cX1_begin 28 = .ok (.iload_n 1, 1) := by decide +kernel
theorem dX1_begin_29 : decode cX1_begin 29 = .ok (.bipush 8, 2) := by decide +kernel
theorem dX1_begin_31 : decode cX1_begin 31 = .ok (.if_icmp .ge 26, 3) := by decide +kernel
theorem dX1_begin_34 : decode cX1_begin 34 = .ok (.aload_n 0, 1) := by decide +kernel
theorem dX1_begin_35 : decode cX1_begin 35 = .ok (.getfield 26, 3) := by decide +kernel
theorem dX1_begin_38 : decode cX1_begin 38 = .ok (.iconst 0, 1) := by decide +kernel
theorem dX1_begin_39 : decode cX1_begin 39 = .ok (.iload_n 1, 1) := by decide +kernel
theorem dX1_begin_40 : decode cX1_begin 40 = .ok (.getstatic 46, 3) := by decide +kernel
theorem dX1_begin_43 : decode cX1_begin 43 = .ok (.iload_n 1, 1) := by decide +kernel
theorem dX1_begin_44 : decode cX1_begin 44 = .ok (.invokestatic 50, 3) := by decide +kernel
theorem dX1_begin_47 : decode cX1_begin 47 = .ok (.i2l, 1) := by decide +kernel
theorem dX1_begin_48 : decode cX1_begin 48 = .ok (.invokevirtual 54, 3) := by decide +kernel
theorem dX1_begin_51 : decode cX1_begin 51 = .ok (.iinc 1 1, 3) := by decide +kernel
theorem dX1_begin_54 : decode cX1_begin 54 = .ok (.goto (-26), 3) := by decide +kernel
theorem dX1_begin_57 : decode cX1_begin 57 = .ok (.iconst 0, 1) := by decide +kernel
theorem dX1_begin_58 : decode cX1_begin 58 = .ok (.istore_n 1, 1) := by decide +kernel
theorem dX1_begin_59 : decode cX1_begin 59 = .ok (.iload_n 1, 1) := by decide +kernel
theorem dX1_begin_60 : decode cX1_begin 60 = .ok (.iconst 5, 1) := by decide +kernel
theorem dX1_begin_61 : decode cX1_begin 61 = .ok (.if_icmp .ge 21, 3) := by decide +kernel
theorem dX1_begin_64 : decode cX1_begin 64 = .ok (.aload_n 0, 1) := by decide +kernel
theorem dX1_begin_65 : decode cX1_begin 65 = .ok (.getfield 29, 3) := by decide +kernel
theorem dX1_begin_68 : decode cX1_begin 68 = .ok (.iconst 0, 1) := by decide +kernel
theorem dX1_begin_69 : decode cX1_begin 69 = .ok (.iload_n 1, 1) := by decide +kernel
theorem dX1_begin_70 : decode cX1_begin 70 = .ok (.ldc2_w 58, 3) := by decide +kernel
theorem dX1_begin_73 : decode cX1_begin 73 = .ok (.invokevirtual 54, 3) := by decide +kernel
theorem dX1_begin_76 : decode cX1_begin 76 = .ok (.iinc 1 1, 3) := by decide +kernel
theorem dX1_begin_79 : decode cX1_begin 79 = .ok (.goto (-20), 3) := by decide +kernel
theorem dX1_begin_82 : decode cX1_begin 82 = .ok (.return_, 1) := by decide +kernel
set_option maxRecDepth 20000 in
theorem ggX1_become_X8_become : GoodIn wsX1_become wsX8_become := goodIn_r _ [11, 12, 13, 20, 21, 22, 23] (by decide +kernel) (by decide +kernel)
set_option maxRecDepth 20000 in
theorem gX1_become_X8_become : GoodIn wsX1_become (wsV RX1 60 RX8 yX8_become wsX8_become) := goodIn_app (goodIn_of _ (by decide +kernel)) ggX1_become_X8_become
theorem dX1_become_0 : decode cX1_become 0 = .ok (.aload_n 0, 1) := by decide +kernel
theorem dX1_become_1 : decode cX1_become 1 = .ok (.aload_n 1, 1) := by decide +kernel
theorem dX1_become_2 : decode cX1_become 2 = .ok (.getfield 39, 3) := by decide +kernel
theorem dX1_become_5 : decode cX1_become 5 = .ok (.putfield 39, 3) := by decide +kernel
theorem dX1_become_8 : decode cX1_become 8 = .ok (.aload_n 0, 1) := by decide +kernel
theorem dX1_become_9 : decode cX1_become 9 = .ok (.getfield 16, 3) := by decide +kernel
theorem dX1_become_12 : decode cX1_become 12 = .ok (.aload_n 1, 1) := by decide +kernel
theorem dX1_become_13 : decode cX1_become 13 = .ok (.getfield 16, 3) := by decide +kernel
theorem dX1_become_16 : decode cX1_become 16 = .ok (.invokevirtual 60, 3) := by decide +kernel
theorem dX1_become_19 : decode cX1_become 19 = .ok (.aload_n 0, 1) := by decide +kernel
theorem dX1_become_20 : decode cX1_become 20 = .ok (.getfield 20, 3) := by decide +kernel
theorem dX1_become_23 : decode cX1_become 23 = .ok (.aload_n 1, 1) := by decide +kernel
theorem dX1_become_24 : decode cX1_become 24 = .ok (.getfield 20, 3) := by decide +kernel
theorem dX1_become_27 : decode cX1_become 27 = .ok (.invokevirtual 60, 3) := by decide +kernel
theorem dX1_become_30 : decode cX1_become 30 = .ok (.aload_n 0, 1) := by decide +kernel
theorem dX1_become_31 : decode cX1_become 31 = .ok (.getfield 23, 3) := by decide +kernel
theorem dX1_become_34 : decode cX1_become 34 = .ok (.aload_n 1, 1) := by decide +kernel
theorem dX1_become_35 : decode cX1_become 35 = .ok (.getfield 23, 3) := by decide +kernel
theorem dX1_become_38 : decode cX1_become 38 = .ok (.invokevirtual 60, 3) := by decide +kernel
theorem dX1_become_41 : decode cX1_become 41 = .ok (.aload_n 0, 1) := by decide +kernel
theorem dX1_become_42 : decode cX1_become 42 = .ok (.getfield 26, 3) := by decide +kernel
theorem dX1_become_45 : decode cX1_become 45 = .ok (.aload_n 1, 1) := by decide +kernel
theorem dX1_become_46 : decode cX1_become 46 = .ok (.getfield 26, 3) := by decide +kernel
theorem dX1_become_49 : decode cX1_become 49 = .ok (.invokevirtual 60, 3) := by decide +kernel
theorem dX1_become_52 : decode cX1_become 52 = .ok (.aload_n 0, 1) := by decide +kernel
theorem dX1_become_53 : decode cX1_become 53 = .ok (.getfield 29, 3) := by decide +kernel
theorem dX1_become_56 : decode cX1_become 56 = .ok (.aload_n 1, 1) := by decide +kernel
theorem dX1_become_57 : decode cX1_become 57 = .ok (.getfield 29, 3) := by decide +kernel
theorem dX1_become_60 : decode cX1_become 60 = .ok (.invokevirtual 60, 3) := by decide +kernel
theorem dX1_become_63 : decode cX1_become 63 = .ok (.return_, 1) := by decide +kernel
set_option maxRecDepth 20000 in
theorem ggX1_mixedInto_X8_mixedInto : GoodIn wsX1_mixedInto wsX8_mixedInto := goodIn_r _ [10, 11, 12, 13, 14, 21, 22, 23, 24] (by decide +kernel) (by decide +kernel)
set_option maxRecDepth 20000 in
theorem gX1_mixedInto_X8_mixedInto : GoodIn wsX1_mixedInto (wsV RX1 64 RX8 yX8_mixedInto wsX8_mixedInto) := goodIn_app (goodIn_of _ (by decide +kernel)) ggX1_mixedInto_X8_mixedInto
theorem dX1_mixedInto_0 : decode cX1_mixedInto 0 = .ok (.aload_n 0, 1) := by decide +kernel
theorem dX1_mixedInto_1 : decode cX1_mixedInto 1 = .ok (.getfield 16, 3) := by decide +kernel
theorem dX1_mixedInto_4 : decode cX1_mixedInto 4 = .ok (.lload_n 1, 1) := by decide +kernel
theorem dX1_mixedInto_5 : decode cX1_mixedInto 5 = .ok (.invokevirtual 64, 3) := by decide +kernel
theorem dX1_mixedInto_8 : decode cX1_mixedInto 8 = .ok (.lstore_n 1, 1) := by decide +kernel
theorem dX1_mixedInto_9 : decode cX1_mixedInto 9 = .ok (.aload_n 0, 1) := by decide +kernel
theorem dX1_mixedInto_10 : decode cX1_mixedInto 10 = .ok (.getfield 20, 3) := by decide +kernel
theorem dX1_mixedInto_13 : decode cX1_mixedInto 13 = .ok (.lload_n 1, 1) := by decide +kernel
theorem dX1_mixedInto_14 : decode cX1_mixedInto 14 = .ok (.invokevirtual 64, 3) := by decide +kernel
theorem dX1_mixedInto_17 : decode cX1_mixedInto 17 = .ok (.lstore_n 1, 1) := by decide +kernel
theorem dX1_mixedInto_18 : decode cX1_mixedInto 18 = .ok (.aload_n 0, 1) := by decide +kernel
theorem dX1_mixedInto_19 : decode cX1_mixedInto 19 = .ok (.getfield 23, 3) := by decide +kernel
theorem dX1_mixedInto_22 : decode cX1_mixedInto 22 = .ok (.lload_n 1, 1) := by decide +kernel
theorem dX1_mixedInto_23 : decode cX1_mixedInto 23 = .ok (.invokevirtual 64, 3) := by decide +kernel
theorem dX1_mixedInto_26 : decode cX1_mixedInto 26 = .ok (.lstore_n 1, 1) := by decide +kernel
theorem dX1_mixedInto_27 : decode cX1_mixedInto 27 = .ok (.aload_n 0, 1) := by decide +kernel
theorem dX1_mixedInto_28 : decode cX1_mixedInto 28 = .ok (.getfield 26, 3) := by decide +kernel
theorem dX1_mixedInto_31 : decode cX1_mixedInto 31 = .ok (.lload_n 1, 1) := by decide +kernel
theorem dX1_mixedInto_32 : decode cX1_mixedInto 32 = .ok (.invokevirtual 64, 3) := by decide +kernel
theorem dX1_mixedInto_35 : decode cX1_mixedInto 35 = .ok (.lstore_n 1, 1) := by decide +kernel
theorem dX1_mixedInto_36 : decode cX1_mixedInto 36 = .ok (.aload_n 0, 1) := by decide +kernel
theorem dX1_mixedInto_37 : decode cX1_mixedInto 37 = .ok (.getfield 29, 3) := by decide +kernel
theorem dX1_mixedInto_40 : decode cX1_mixedInto 40 = .ok (.lload_n 1, 1) := by decide +kernel
theorem dX1_mixedInto_41 : decode cX1_mixedInto 41 = .ok (.invokevirtual 64, 3) := by decide +kernel
theorem dX1_mixedInto_44 : decode cX1_mixedInto 44 = .ok (.lreturn, 1) := by decide +kernel
set_option maxRecDepth 20000 in
theorem ggX1_tellOne_X2_isName : GoodIn wsX1_tellOne wsX2_isName := goodIn_r _ [6, 7, 8, 9, 5, 10, 11, 12, 13, 14, 15, 16, 17] (by decide +kernel) (by decide +kernel)
set_option maxRecDepth 20000 in
theorem gX1_tellOne_X2_isName : GoodIn wsX1_tellOne (va_wsS RX1 68 yX2_isName wsX2_isName) := goodIn_app (goodIn_of _ (by decide +kernel)) ggX1_tellOne_X2_isName
set_option maxRecDepth 20000 in
theorem ggX1_tellOne_X1_isPartValue : GoodIn wsX1_tellOne wsX1_isPartValue := goodIn_r _ [21, 22, 23, 24, 16, 25, 15, 17] (by decide +kernel) (by decide +kernel)
set_option maxRecDepth 20000 in
theorem gX1_tellOne_X1_isPartValue : GoodIn wsX1_tellOne (va_wsS RX1 74 yX1_isPartValue wsX1_isPartValue) := goodIn_app (goodIn_of _ (by decide +kernel)) ggX1_tellOne_X1_isPartValue
set_option maxRecDepth 20000 in
theorem ggX1_tellOne_X10_within : GoodIn wsX1_tellOne wsX10_within := goodIn_r _ [17] (by decide +kernel) (by decide +kernel)
set_option maxRecDepth 20000 in
theorem gX1_tellOne_X10_within_n78 : GoodIn wsX1_tellOne (wsX10_within) := ggX1_tellOne_X10_within
set_option maxRecDepth 20000 in
theorem ggX1_tellOne_X8_addRow : GoodIn wsX1_tellOne wsX8_addRow := goodIn_r _ [30, 31, 32, 33, 34, 29, 35, 36, 49, 50, 51, 52] (by decide +kernel) (by decide +kernel)
set_option maxRecDepth 20000 in
theorem gX1_tellOne_X8_addRow : GoodIn wsX1_tellOne (wsV RX1 32 RX8 yX8_addRow wsX8_addRow) := goodIn_app (goodIn_of _ (by decide +kernel)) ggX1_tellOne_X8_addRow
set_option maxRecDepth 20000 in
theorem ggX1_tellOne_X8_set : GoodIn wsX1_tellOne wsX8_set := goodIn_r _ [40, 41, 42, 49, 50, 51, 52] (by decide +kernel) (by decide +kernel)
set_option maxRecDepth 20000 in
theorem gX1_tellOne_X8_set : GoodIn wsX1_tellOne (wsV RX1 54 RX8 yX8_set wsX8_set) := goodIn_app (goodIn_of _ (by decide +kernel)) ggX1_tellOne_X8_set
theorem dX1_tellOne_0 : decode cX1_tellOne 0 = .ok (.lload_n 1, 1) := by decide +kernel
theorem dX1_tellOne_1 : decode cX1_tellOne 1 = .ok (.invokestatic 68, 3) := by decide +kernel
theorem dX1_tellOne_4 : decode cX1_tellOne 4 = .ok (.ifCond .eq 15, 3) := by decide +kernel
theorem dX1_tellOne_7 : decode cX1_tellOne 7 = .ok (.iconst 2, 1) := by decide +kernel
theorem dX1_tellOne_8 : decode cX1_tellOne 8 = .ok (.iload_n 3, 1) := by decide +kernel
theorem dX1_tellOne_9 : decode cX1_tellOne 9 = .ok (.invokestatic 74, 3) := by decide +kernel
theorem dX1_tellOne_12 : decode cX1_tellOne 12 = .ok (.ifCond .eq 7, 3) := by decide +kernel
theorem dX1_tellOne_15 : decode cX1_tellOne 15 = .ok (.iconst 1, 1) := by decide +kernel
theorem dX1_tellOne_16 : decode cX1_tellOne 16 = .ok (.goto 4, 3) := by decide +kernel
theorem dX1_tellOne_19 : decode cX1_tellOne 19 = .ok (.iconst 0, 1) := by decide +kernel
theorem dX1_tellOne_20 : decode cX1_tellOne 20 = .ok (.istore 8, 2) := by decide +kernel
theorem dX1_tellOne_22 : decode cX1_tellOne 22 = .ok (.iconst 3, 1) := by decide +kernel
theorem dX1_tellOne_23 : decode cX1_tellOne 23 = .ok (.iload 4, 2) := by decide +kernel
theorem dX1_tellOne_25 : decode cX1_tellOne 25 = .ok (.invokestatic 74, 3) := by decide +kernel
theorem dX1_tellOne_28 : decode cX1_tellOne 28 = .ok (.ifCond .eq 16, 3) := by decide +kernel
theorem dX1_tellOne_31 : decode cX1_tellOne 31 = .ok (.iconst 4, 1) := by decide +kernel
theorem dX1_tellOne_32 : decode cX1_tellOne 32 = .ok (.iload 5, 2) := by decide +kernel
theorem dX1_tellOne_34 : decode cX1_tellOne 34 = .ok (.invokestatic 74, 3) := by decide +kernel
theorem dX1_tellOne_37 : decode cX1_tellOne 37 = .ok (.ifCond .eq 7, 3) := by decide +kernel
theorem dX1_tellOne_40 : decode cX1_tellOne 40 = .ok (.iconst 1, 1) := by decide +kernel
theorem dX1_tellOne_41 : decode cX1_tellOne 41 = .ok (.goto 4, 3) := by decide +kernel
theorem dX1_tellOne_44 : decode cX1_tellOne 44 = .ok (.iconst 0, 1) := by decide +kernel
theorem dX1_tellOne_45 : decode cX1_tellOne 45 = .ok (.istore 9, 2) := by decide +kernel
theorem dX1_tellOne_47 : decode cX1_tellOne 47 = .ok (.iload 8, 2) := by decide +kernel
theorem dX1_tellOne_49 : decode cX1_tellOne 49 = .ok (.ifCond .eq 30, 3) := by decide +kernel
theorem dX1_tellOne_52 : decode cX1_tellOne 52 = .ok (.iload 9, 2) := by decide +kernel
theorem dX1_tellOne_54 : decode cX1_tellOne 54 = .ok (.ifCond .eq 25, 3) := by decide +kernel
theorem dX1_tellOne_57 : decode cX1_tellOne 57 = .ok (.iload 6, 2) := by decide +kernel
theorem dX1_tellOne_59 : decode cX1_tellOne 59 = .ok (.iconst 0, 1) := by decide +kernel
theorem dX1_tellOne_60 : decode cX1_tellOne 60 = .ok (.bipush 20, 2) := by decide +kernel
theorem dX1_tellOne_62 : decode cX1_tellOne 62 = .ok (.invokestatic 78, 3) := by decide +kernel
theorem dX1_tellOne_65 : decode cX1_tellOne 65 = .ok (.ifCond .eq 14, 3) := by decide +kernel
theorem dX1_tellOne_68 : decode cX1_tellOne 68 = .ok (.iload 7, 2) := by decide +kernel
theorem dX1_tellOne_70 : decode cX1_tellOne 70 = .ok (.iconst 1, 1) := by decide +kernel
theorem dX1_tellOne_71 : decode cX1_tellOne 71 = .ok (.bipush 9, 2) := by decide +kernel
theorem dX1_tellOne_73 : decode cX1_tellOne 73 = .ok (.invokestatic 78, 3) := by decide +kernel
theorem dX1_tellOne_76 : decode cX1_tellOne 76 = .ok (.ifCond .ne 6, 3) := by decide +kernel
theorem dX1_tellOne_79 : decode cX1_tellOne 79 = .ok (.bipush (-2), 2) := by decide +kernel
theorem dX1_tellOne_81 : decode cX1_tellOne 81 = .ok (.ireturn, 1) := by decide +kernel
theorem dX1_tellOne_82 : decode cX1_tellOne 82 = .ok (.aload_n 0, 1) := by decide +kernel
theorem dX1_tellOne_83 : decode cX1_tellOne 83 = .ok (.getfield 16, 3) := by decide +kernel
theorem dX1_tellOne_86 : decode cX1_tellOne 86 = .ok (.invokevirtual 32, 3) := by decide +kernel
theorem dX1_tellOne_89 : decode cX1_tellOne 89 = .ok (.istore 10, 2) := by decide +kernel
theorem dX1_tellOne_91 : decode cX1_tellOne 91 = .ok (.iload 10, 2) := by decide +kernel
theorem dX1_tellOne_93 : decode cX1_tellOne 93 = .ok (.ifCond .lt 94, 3) := by decide +kernel
theorem dX1_tellOne_96 : decode cX1_tellOne 96 = .ok (.aload_n 0, 1) := by decide +kernel
theorem dX1_tellOne_97 : decode cX1_tellOne 97 = .ok (.getfield 16, 3) := by decide +kernel
theorem dX1_tellOne_100 : decode cX1_tellOne 100 = .ok (.iload 10, 2) := by decide +kernel
theorem dX1_tellOne_102 : decode cX1_tellOne 102 = .ok (.iconst 0, 1) := by decide +kernel
theorem dX1_tellOne_103 : decode cX1_tellOne 103 = .ok (.lload_n 1, 1) := by decide +kernel
theorem dX1_tellOne_104 : decode cX1_tellOne 104 = .ok (.invokevirtual 54, 3) := by decide +kernel
theorem dX1_tellOne_107 : decode cX1_tellOne 107 = .ok (.aload_n 0, 1) := by decide +kernel
theorem dX1_tellOne_108 : decode cX1_tellOne 108 = .ok (.getfield 16, 3) := by decide +kernel
theorem dX1_tellOne_111 : decode cX1_tellOne 111 = .ok (.iload 10, 2) := by decide +kernel
theorem dX1_tellOne_113 : decode cX1_tellOne 113 = .ok (.iconst 1, 1) := by decide +kernel
theorem dX1_tellOne_114 : decode cX1_tellOne 114 = .ok (.iload_n 3, 1) := by decide +kernel
theorem dX1_tellOne_115 : decode cX1_tellOne 115 = .ok (.i2l, 1) := by decide +kernel
theorem dX1_tellOne_116 : decode cX1_tellOne 116 = .ok (.invokevirtual 54, 3) := by decide +kernel
theorem dX1_tellOne_119 : decode cX1_tellOne 119 = .ok (.aload_n 0, 1) := by decide +kernel
theorem dX1_tellOne_120 : decode cX1_tellOne 120 = .ok (.getfield 16, 3) := by decide +kernel
theorem dX1_tellOne_123 : decode cX1_tellOne 123 = .ok (.iload 10, 2) := by decide +kernel
theorem dX1_tellOne_125 : decode cX1_tellOne 125 = .ok (.iconst 2, 1) := by decide +kernel
theorem dX1_tellOne_126 : decode cX1_tellOne 126 = .ok (.iload 4, 2) := by decide +kernel
theorem dX1_tellOne_128 : decode cX1_tellOne 128 = .ok (.i2l, 1) := by decide +kernel
theorem dX1_tellOne_129 : decode cX1_tellOne 129 = .ok (.invokevirtual 54, 3) := by decide +kernel
theorem dX1_tellOne_132 : decode cX1_tellOne 132 = .ok (.aload_n 0, 1) := by decide +kernel
theorem dX1_tellOne_133 : decode cX1_tellOne 133 = .ok (.getfield 16, 3) := by decide +kernel
theorem dX1_tellOne_136 : decode cX1_tellOne 136 = .ok (.iload 10, 2) := by decide +kernel
theorem dX1_tellOne_138 : decode cX1_tellOne 138 = .ok (.iconst 3, 1) := by decide +kernel
theorem dX1_tellOne_139 : decode cX1_tellOne 139 = .ok (.iload 5, 2) := by decide +kernel
theorem dX1_tellOne_141 : decode cX1_tellOne 141 = .ok (.i2l, 1) := by decide +kernel
theorem dX1_tellOne_142 : decode cX1_tellOne 142 = .ok (.invokevirtual 54, 3) := by decide +kernel
theorem dX1_tellOne_145 : decode cX1_tellOne 145 = .ok (.aload_n 0, 1) := by decide +kernel
theorem dX1_tellOne_146 : decode cX1_tellOne 146 = .ok (.getfield 16, 3) := by decide +kernel
theorem dX1_tellOne_149 : decode cX1_tellOne 149 = .ok (.iload 10, 2) := by decide +kernel
theorem dX1_tellOne_151 : decode cX1_tellOne 151 = .ok (.iconst 4, 1) := by decide +kernel
theorem dX1_tellOne_152 : decode cX1_tellOne 152 = .ok (.iload 6, 2) := by decide +kernel
theorem dX1_tellOne_154 : decode cX1_tellOne 154 = .ok (.i2l, 1) := by decide +kernel
theorem dX1_tellOne_155 : decode cX1_tellOne 155 = .ok (.invokevirtual 54, 3) := by decide +kernel
theorem dX1_tellOne_158 : decode cX1_tellOne 158 = .ok (.aload_n 0, 1) := by decide +kernel
theorem dX1_tellOne_159 : decode cX1_tellOne 159 = .ok (.getfield 16, 3) := by decide +kernel
theorem dX1_tellOne_162 : decode cX1_tellOne 162 = .ok (.iload 10, 2) := by decide +kernel
theorem dX1_tellOne_164 : decode cX1_tellOne 164 = .ok (.iconst 5, 1) := by decide +kernel
theorem dX1_tellOne_165 : decode cX1_tellOne 165 = .ok (.iload 7, 2) := by decide +kernel
theorem dX1_tellOne_167 : decode cX1_tellOne 167 = .ok (.i2l, 1) := by decide +kernel
theorem dX1_tellOne_168 : decode cX1_tellOne 168 = .ok (.invokevirtual 54, 3) := by decide +kernel
theorem dX1_tellOne_171 : decode cX1_tellOne 171 = .ok (.aload_n 0, 1) := by decide +kernel
theorem dX1_tellOne_172 : decode cX1_tellOne 172 = .ok (.getfield 16, 3) := by decide +kernel
theorem dX1_tellOne_175 : decode cX1_tellOne 175 = .ok (.iload 10, 2) := by decide +kernel
theorem dX1_tellOne_177 : decode cX1_tellOne 177 = .ok (.bipush 6, 2) := by decide +kernel
theorem dX1_tellOne_179 : decode cX1_tellOne 179 = .ok (.aload_n 0, 1) := by decide +kernel
theorem dX1_tellOne_180 : decode cX1_tellOne 180 = .ok (.getfield 39, 3) := by decide +kernel
theorem dX1_tellOne_183 : decode cX1_tellOne 183 = .ok (.i2l, 1) := by decide +kernel
theorem dX1_tellOne_184 : decode cX1_tellOne 184 = .ok (.invokevirtual 54, 3) := by decide +kernel
theorem dX1_tellOne_187 : decode cX1_tellOne 187 = .ok (.iload 10, 2) := by decide +kernel
theorem dX1_tellOne_189 : decode cX1_tellOne 189 = .ok (.ireturn, 1) := by decide +kernel
set_option maxRecDepth 20000 in
theorem ggX1_tellTry_X10_within : GoodIn wsX1_tellTry wsX10_within := goodIn_r _ [4] (by decide +kernel) (by decide +kernel)
set_option maxRecDepth 20000 in
theorem gX1_tellTry_X10_within_n78 : GoodIn wsX1_tellTry (wsX10_within) := ggX1_tellTry_X10_within
set_option maxRecDepth 20000 in
theorem ggX1_tellTry_X8_addRow : GoodIn wsX1_tellTry wsX8_addRow := goodIn_r _ [9, 10, 11, 12, 13, 8, 14, 15, 28, 29, 30, 31] (by decide +kernel) (by decide +kernel)
set_option maxRecDepth 20000 in
theorem gX1_tellTry_X8_addRow : GoodIn wsX1_tellTry (wsV RX1 32 RX8 yX8_addRow wsX8_addRow) := goodIn_app (goodIn_of _ (by decide +kernel)) ggX1_tellTry_X8_addRow
set_option maxRecDepth 20000 in
theorem ggX1_tellTry_X8_set : GoodIn wsX1_tellTry wsX8_set := goodIn_r _ [19, 20, 21, 28, 29, 30, 31] (by decide +kernel) (by decide +kernel)
set_option maxRecDepth 20000 in
theorem gX1_tellTry_X8_set : GoodIn wsX1_tellTry (wsV RX1 54 RX8 yX8_set wsX8_set) := goodIn_app (goodIn_of _ (by decide +kernel)) ggX1_tellTry_X8_set
theorem dX1_tellTry_0 : decode cX1_tellTry 0 = .ok (.iload_n 1, 1) := by decide +kernel
theorem dX1_tellTry_1 : decode cX1_tellTry 1 = .ok (.iconst 0, 1) := by decide +kernel
theorem dX1_tellTry_2 : decode cX1_tellTry 2 = .ok (.iconst 5, 1) := by decide +kernel
theorem dX1_tellTry_3 : decode cX1_tellTry 3 = .ok (.invokestatic 78, 3) := by decide +kernel
theorem dX1_tellTry_6 : decode cX1_tellTry 6 = .ok (.ifCond .eq 23, 3) := by decide +kernel
theorem dX1_tellTry_9 : decode cX1_tellTry 9 = .ok (.iload_n 2, 1) := by decide +kernel
theorem dX1_tellTry_10 : decode cX1_tellTry 10 = .ok (.iconst 1, 1) := by decide +kernel
theorem dX1_tellTry_11 : decode cX1_tellTry 11 = .ok (.bipush 20, 2) := by decide +kernel
theorem dX1_tellTry_13 : decode cX1_tellTry 13 = .ok (.invokestatic 78, 3) := by decide +kernel
theorem dX1_tellTry_16 : decode cX1_tellTry 16 = .ok (.ifCond .eq 13, 3) := by decide +kernel
theorem dX1_tellTry_19 : decode cX1_tellTry 19 = .ok (.iload_n 3, 1) := by decide +kernel
theorem dX1_tellTry_20 : decode cX1_tellTry 20 = .ok (.iconst 1, 1) := by decide +kernel
theorem dX1_tellTry_21 : decode cX1_tellTry 21 = .ok (.bipush 20, 2) := by decide +kernel
theorem dX1_tellTry_23 : decode cX1_tellTry 23 = .ok (.invokestatic 78, 3) := by decide +kernel
theorem dX1_tellTry_26 : decode cX1_tellTry 26 = .ok (.ifCond .ne 6, 3) := by decide +kernel
theorem dX1_tellTry_29 : decode cX1_tellTry 29 = .ok (.bipush (-2), 2) := by decide +kernel
theorem dX1_tellTry_31 : decode cX1_tellTry 31 = .ok (.ireturn, 1) := by decide +kernel
theorem dX1_tellTry_32 : decode cX1_tellTry 32 = .ok (.aload_n 0, 1) := by decide +kernel
theorem dX1_tellTry_33 : decode cX1_tellTry 33 = .ok (.getfield 20, 3) := by decide +kernel
theorem dX1_tellTry_36 : decode cX1_tellTry 36 = .ok (.invokevirtual 32, 3) := by decide +kernel
theorem dX1_tellTry_39 : decode cX1_tellTry 39 = .ok (.istore 4, 2) := by decide +kernel
theorem dX1_tellTry_41 : decode cX1_tellTry 41 = .ok (.iload 4, 2) := by decide +kernel
theorem dX1_tellTry_43 : decode cX1_tellTry 43 = .ok (.ifCond .lt 39, 3) := by decide +kernel
theorem dX1_tellTry_46 : decode cX1_tellTry 46 = .ok (.aload_n 0, 1) := by decide +kernel
theorem dX1_tellTry_47 : decode cX1_tellTry 47 = .ok (.getfield 20, 3) := by decide +kernel
theorem dX1_tellTry_50 : decode cX1_tellTry 50 = .ok (.iload 4, 2) := by decide +kernel
theorem dX1_tellTry_52 : decode cX1_tellTry 52 = .ok (.iconst 0, 1) := by decide +kernel
theorem dX1_tellTry_53 : decode cX1_tellTry 53 = .ok (.iload_n 1, 1) := by decide +kernel
theorem dX1_tellTry_54 : decode cX1_tellTry 54 = .ok (.i2l, 1) := by decide +kernel
theorem dX1_tellTry_55 : decode cX1_tellTry 55 = .ok (.invokevirtual 54, 3) := by decide +kernel
theorem dX1_tellTry_58 : decode cX1_tellTry 58 = .ok (.aload_n 0, 1) := by decide +kernel
theorem dX1_tellTry_59 : decode cX1_tellTry 59 = .ok (.getfield 20, 3) := by decide +kernel
theorem dX1_tellTry_62 : decode cX1_tellTry 62 = .ok (.iload 4, 2) := by decide +kernel
theorem dX1_tellTry_64 : decode cX1_tellTry 64 = .ok (.iconst 1, 1) := by decide +kernel
theorem dX1_tellTry_65 : decode cX1_tellTry 65 = .ok (.iload_n 2, 1) := by decide +kernel
theorem dX1_tellTry_66 : decode cX1_tellTry 66 = .ok (.i2l, 1) := by decide +kernel
theorem dX1_tellTry_67 : decode cX1_tellTry 67 = .ok (.invokevirtual 54, 3) := by decide +kernel
theorem dX1_tellTry_70 : decode cX1_tellTry 70 = .ok (.aload_n 0, 1) := by decide +kernel
theorem dX1_tellTry_71 : decode cX1_tellTry 71 = .ok (.getfield 20, 3) := by decide +kernel
theorem dX1_tellTry_74 : decode cX1_tellTry 74 = .ok (.iload 4, 2) := by decide +kernel
theorem dX1_tellTry_76 : decode cX1_tellTry 76 = .ok (.iconst 2, 1) := by decide +kernel
theorem dX1_tellTry_77 : decode cX1_tellTry 77 = .ok (.iload_n 3, 1) := by decide +kernel
theorem dX1_tellTry_78 : decode cX1_tellTry 78 = .ok (.i2l, 1) := by decide +kernel
theorem dX1_tellTry_79 : decode cX1_tellTry 79 = .ok (.invokevirtual 54, 3) := by decide +kernel
theorem dX1_tellTry_82 : decode cX1_tellTry 82 = .ok (.iload 4, 2) := by decide +kernel
theorem dX1_tellTry_84 : decode cX1_tellTry 84 = .ok (.ireturn, 1) := by decide +kernel
set_option maxRecDepth 20000 in
theorem ggX1_tellQuestion_X1_isPart : GoodIn wsX1_tellQuestion wsX1_isPart := goodIn_r _ [5, 6, 7, 8] (by decide +kernel) (by decide +kernel)
set_option maxRecDepth 20000 in
theorem gX1_tellQuestion_X1_isPart : GoodIn wsX1_tellQuestion (va_wsS RX1 84 yX1_isPart wsX1_isPart) := goodIn_app (goodIn_of _ (by decide +kernel)) ggX1_tellQuestion_X1_isPart
set_option maxRecDepth 20000 in
theorem ggX1_tellQuestion_X10_within : GoodIn wsX1_tellQuestion wsX10_within := goodIn_r _ [8] (by decide +kernel) (by decide +kernel)
set_option maxRecDepth 20000 in
theorem gX1_tellQuestion_X10_within_n78 : GoodIn wsX1_tellQuestion (wsX10_within) := ggX1_tellQuestion_X10_within
set_option maxRecDepth 20000 in
theorem ggX1_tellQuestion_X8_addRow : GoodIn wsX1_tellQuestion wsX8_addRow := goodIn_r _ [13, 14, 15, 16, 17, 12, 18, 19, 32, 33, 34, 35] (by decide +kernel) (by decide +kernel)
set_option maxRecDepth 20000 in
theorem gX1_tellQuestion_X8_addRow : GoodIn wsX1_tellQuestion (wsV RX1 32 RX8 yX8_addRow wsX8_addRow) := goodIn_app (goodIn_of _ (by decide +kernel)) ggX1_tellQuestion_X8_addRow
set_option maxRecDepth 20000 in
theorem ggX1_tellQuestion_X8_set : GoodIn wsX1_tellQuestion wsX8_set := goodIn_r _ [23, 24, 25, 32, 33, 34, 35] (by decide +kernel) (by decide +kernel)
set_option maxRecDepth 20000 in
theorem gX1_tellQuestion_X8_set : GoodIn wsX1_tellQuestion (wsV RX1 54 RX8 yX8_set wsX8_set) := goodIn_app (goodIn_of _ (by decide +kernel)) ggX1_tellQuestion_X8_set
theorem dX1_tellQuestion_0 : decode cX1_tellQuestion 0 = .ok (.iload_n 1, 1) := by decide +kernel
theorem dX1_tellQuestion_1 : decode cX1_tellQuestion 1 = .ok (.invokestatic 84, 3) := by decide +kernel
theorem dX1_tellQuestion_4 : decode cX1_tellQuestion 4 = .ok (.ifCond .eq 13, 3) := by decide +kernel
theorem dX1_tellQuestion_7 : decode cX1_tellQuestion 7 = .ok (.iload_n 2, 1) := by decide +kernel
theorem dX1_tellQuestion_8 : decode cX1_tellQuestion 8 = .ok (.iconst 0, 1) := by decide +kernel
theorem dX1_tellQuestion_9 : decode cX1_tellQuestion 9 = .ok (.bipush 9, 2) := by decide +kernel
theorem dX1_tellQuestion_11 : decode cX1_tellQuestion 11 = .ok (.invokestatic 78, 3) := by decide +kernel
theorem dX1_tellQuestion_14 : decode cX1_tellQuestion 14 = .ok (.ifCond .ne 6, 3) := by decide +kernel
theorem dX1_tellQuestion_17 : decode cX1_tellQuestion 17 = .ok (.bipush (-2), 2) := by decide +kernel
theorem dX1_tellQuestion_19 : decode cX1_tellQuestion 19 = .ok (.ireturn, 1) := by decide +kernel
theorem dX1_tellQuestion_20 : decode cX1_tellQuestion 20 = .ok (.aload_n 0, 1) := by decide +kernel
theorem dX1_tellQuestion_21 : decode cX1_tellQuestion 21 = .ok (.getfield 23, 3) := by decide +kernel
theorem dX1_tellQuestion_24 : decode cX1_tellQuestion 24 = .ok (.invokevirtual 32, 3) := by decide +kernel
theorem dX1_tellQuestion_27 : decode cX1_tellQuestion 27 = .ok (.istore_n 3, 1) := by decide +kernel
theorem dX1_tellQuestion_28 : decode cX1_tellQuestion 28 = .ok (.iload_n 3, 1) := by decide +kernel
theorem dX1_tellQuestion_29 : decode cX1_tellQuestion 29 = .ok (.ifCond .lt 25, 3) := by decide +kernel
theorem dX1_tellQuestion_32 : decode cX1_tellQuestion 32 = .ok (.aload_n 0, 1) := by decide +kernel
theorem dX1_tellQuestion_33 : decode cX1_tellQuestion 33 = .ok (.getfield 23, 3) := by decide +kernel
theorem dX1_tellQuestion_36 : decode cX1_tellQuestion 36 = .ok (.iload_n 3, 1) := by decide +kernel
theorem dX1_tellQuestion_37 : decode cX1_tellQuestion 37 = .ok (.iconst 0, 1) := by decide +kernel
theorem dX1_tellQuestion_38 : decode cX1_tellQuestion 38 = .ok (.iload_n 1, 1) := by decide +kernel
theorem dX1_tellQuestion_39 : decode cX1_tellQuestion 39 = .ok (.i2l, 1) := by decide +kernel
theorem dX1_tellQuestion_40 : decode cX1_tellQuestion 40 = .ok (.invokevirtual 54, 3) := by decide +kernel
theorem dX1_tellQuestion_43 : decode cX1_tellQuestion 43 = .ok (.aload_n 0, 1) := by decide +kernel
theorem dX1_tellQuestion_44 : decode cX1_tellQuestion 44 = .ok (.getfield 23, 3) := by decide +kernel
theorem dX1_tellQuestion_47 : decode cX1_tellQuestion 47 = .ok (.iload_n 3, 1) := by decide +kernel
theorem dX1_tellQuestion_48 : decode cX1_tellQuestion 48 = .ok (.iconst 1, 1) := by decide +kernel
theorem dX1_tellQuestion_49 : decode cX1_tellQuestion 49 = .ok (.iload_n 2, 1) := by decide +kernel
theorem dX1_tellQuestion_50 : decode cX1_tellQuestion 50 = .ok (.i2l, 1) := by decide +kernel
theorem dX1_tellQuestion_51 : decode cX1_tellQuestion 51 = .ok (.invokevirtual 54, 3) := by decide +kernel
theorem dX1_tellQuestion_54 : decode cX1_tellQuestion 54 = .ok (.iload_n 3, 1) := by decide +kernel
theorem dX1_tellQuestion_55 : decode cX1_tellQuestion 55 = .ok (.ireturn, 1) := by decide +kernel
set_option maxRecDepth 20000 in
theorem ggX1_tellSetting_X10_within : GoodIn wsX1_tellSetting wsX10_within := goodIn_r _ [6] (by decide +kernel) (by decide +kernel)
set_option maxRecDepth 20000 in
theorem gX1_tellSetting_X10_within_n78 : GoodIn wsX1_tellSetting (wsX10_within) := ggX1_tellSetting_X10_within
set_option maxRecDepth 20000 in
theorem ggX1_tellSetting_X10_at : GoodIn wsX1_tellSetting wsX10_at := goodIn_r _ [8] (by decide +kernel) (by decide +kernel)
set_option maxRecDepth 20000 in
theorem gX1_tellSetting_X10_at_n50 : GoodIn wsX1_tellSetting (wsX10_at) := ggX1_tellSetting_X10_at
set_option maxRecDepth 20000 in
theorem ggX1_tellSetting_X1_setting : GoodIn wsX1_tellSetting wsX1_setting := goodIn_r _ [13, 3, 14, 15, 16, 17, 18, 19, 20, 25, 26, 27, 28, 29, 30, 31, 32, 33, 34] (by decide +kernel) (by decide +kernel)
set_option maxRecDepth 20000 in
theorem gX1_tellSetting_X1_setting : GoodIn wsX1_tellSetting (wsV RX1 94 RX1 yX1_setting wsX1_setting) := goodIn_app (goodIn_of _ (by decide +kernel)) ggX1_tellSetting_X1_setting
set_option maxRecDepth 20000 in
theorem ggX1_tellSetting_X8_set : GoodIn wsX1_tellSetting wsX8_set := goodIn_r _ [24, 19, 20, 31, 32, 33, 34] (by decide +kernel) (by decide +kernel)
set_option maxRecDepth 20000 in
theorem gX1_tellSetting_X8_set : GoodIn wsX1_tellSetting (wsV RX1 54 RX8 yX8_set wsX8_set) := goodIn_app (goodIn_of _ (by decide +kernel)) ggX1_tellSetting_X8_set
theorem dX1_tellSetting_0 : decode cX1_tellSetting 0 = .ok (.iload_n 1, 1) := by decide +kernel
theorem dX1_tellSetting_1 : decode cX1_tellSetting 1 = .ok (.iconst 0, 1) := by decide +kernel
theorem dX1_tellSetting_2 : decode cX1_tellSetting 2 = .ok (.bipush 7, 2) := by decide +kernel
theorem dX1_tellSetting_4 : decode cX1_tellSetting 4 = .ok (.invokestatic 78, 3) := by decide +kernel
theorem dX1_tellSetting_7 : decode cX1_tellSetting 7 = .ok (.ifCond .eq 24, 3) := by decide +kernel
theorem dX1_tellSetting_10 : decode cX1_tellSetting 10 = .ok (.iload_n 2, 1) := by decide +kernel
theorem dX1_tellSetting_11 : decode cX1_tellSetting 11 = .ok (.getstatic 88, 3) := by decide +kernel
theorem dX1_tellSetting_14 : decode cX1_tellSetting 14 = .ok (.iload_n 1, 1) := by decide +kernel
theorem dX1_tellSetting_15 : decode cX1_tellSetting 15 = .ok (.invokestatic 50, 3) := by decide +kernel
theorem dX1_tellSetting_18 : decode cX1_tellSetting 18 = .ok (.getstatic 91, 3) := by decide +kernel
theorem dX1_tellSetting_21 : decode cX1_tellSetting 21 = .ok (.iload_n 1, 1) := by decide +kernel
theorem dX1_tellSetting_22 : decode cX1_tellSetting 22 = .ok (.invokestatic 50, 3) := by decide +kernel
theorem dX1_tellSetting_25 : decode cX1_tellSetting 25 = .ok (.invokestatic 78, 3) := by decide +kernel
theorem dX1_tellSetting_28 : decode cX1_tellSetting 28 = .ok (.ifCond .ne 6, 3) := by decide +kernel
theorem dX1_tellSetting_31 : decode cX1_tellSetting 31 = .ok (.bipush (-2), 2) := by decide +kernel
theorem dX1_tellSetting_33 : decode cX1_tellSetting 33 = .ok (.ireturn, 1) := by decide +kernel
theorem dX1_tellSetting_34 : decode cX1_tellSetting 34 = .ok (.aload_n 0, 1) := by decide +kernel
theorem dX1_tellSetting_35 : decode cX1_tellSetting 35 = .ok (.iload_n 1, 1) := by decide +kernel
theorem dX1_tellSetting_36 : decode cX1_tellSetting 36 = .ok (.invokevirtual 94, 3) := by decide +kernel
theorem dX1_tellSetting_39 : decode cX1_tellSetting 39 = .ok (.istore_n 3, 1) := by decide +kernel
theorem dX1_tellSetting_40 : decode cX1_tellSetting 40 = .ok (.aload_n 0, 1) := by decide +kernel
theorem dX1_tellSetting_41 : decode cX1_tellSetting 41 = .ok (.getfield 26, 3) := by decide +kernel
theorem dX1_tellSetting_44 : decode cX1_tellSetting 44 = .ok (.iconst 0, 1) := by decide +kernel
theorem dX1_tellSetting_45 : decode cX1_tellSetting 45 = .ok (.iload_n 1, 1) := by decide +kernel
theorem dX1_tellSetting_46 : decode cX1_tellSetting 46 = .ok (.iload_n 2, 1) := by decide +kernel
theorem dX1_tellSetting_47 : decode cX1_tellSetting 47 = .ok (.i2l, 1) := by decide +kernel
theorem dX1_tellSetting_48 : decode cX1_tellSetting 48 = .ok (.invokevirtual 54, 3) := by decide +kernel
theorem dX1_tellSetting_51 : decode cX1_tellSetting 51 = .ok (.iload_n 3, 1) := by decide +kernel
theorem dX1_tellSetting_52 : decode cX1_tellSetting 52 = .ok (.ireturn, 1) := by decide +kernel
set_option maxRecDepth 20000 in
theorem ggX1_setting_X8_number : GoodIn wsX1_setting wsX8_number := goodIn_r _ [6, 7, 8, 15, 16, 17, 18] (by decide +kernel) (by decide +kernel)
set_option maxRecDepth 20000 in
theorem gX1_setting_X8_number : GoodIn wsX1_setting (wsV RX1 98 RX8 yX8_number wsX8_number) := goodIn_app (goodIn_of _ (by decide +kernel)) ggX1_setting_X8_number
theorem dX1_setting_0 : decode cX1_setting 0 = .ok (.aload_n 0, 1) := by decide +kernel
theorem dX1_setting_1 : decode cX1_setting 1 = .ok (.getfield 26, 3) := by decide +kernel
theorem dX1_setting_4 : decode cX1_setting 4 = .ok (.iconst 0, 1) := by decide +kernel
theorem dX1_setting_5 : decode cX1_setting 5 = .ok (.iload_n 1, 1) := by decide +kernel
theorem dX1_setting_6 : decode cX1_setting 6 = .ok (.invokevirtual 98, 3) := by decide +kernel
theorem dX1_setting_9 : decode cX1_setting 9 = .ok (.ireturn, 1) := by decide +kernel
set_option maxRecDepth 20000 in
theorem ggX1_law_X1_setting : GoodIn wsX1_law wsX1_setting := goodIn_r _ [5, 6, 7, 8, 9, 10, 11, 12, 13, 14, 15, 16, 17, 18, 19, 20, 21, 22, 23] (by decide +kernel) (by decide +kernel)
set_option maxRecDepth 20000 in
theorem gX1_law_X1_setting : GoodIn wsX1_law (wsV RX1 94 RX1 yX1_setting wsX1_setting) := goodIn_app (goodIn_of _ (by decide +kernel)) ggX1_law_X1_setting
theorem dX1_law_0 : decode cX1_law 0 = .ok (.iload_n 1, 1) := by decide +kernel
theorem dX1_law_1 : decode cX1_law 1 = .ok (.ifCond .le 13, 3) := by decide +kernel
theorem dX1_law_4 : decode cX1_law 4 = .ok (.aload_n 0, 1) := by decide +kernel
theorem dX1_law_5 : decode cX1_law 5 = .ok (.iconst 2, 1) := by decide +kernel
theorem dX1_law_6 : decode cX1_law 6 = .ok (.iload_n 1, 1) := by decide +kernel
theorem dX1_law_7 : decode cX1_law 7 = .ok (.iadd, 1) := by decide +kernel
theorem dX1_law_8 : decode cX1_law 8 = .ok (.invokevirtual 94, 3) := by decide +kernel
theorem dX1_law_11 : decode cX1_law 11 = .ok (.goto 4, 3) := by decide +kernel
theorem dX1_law_14 : decode cX1_law 14 = .ok (.iconst 0, 1) := by decide +kernel
theorem dX1_law_15 : decode cX1_law 15 = .ok (.ireturn, 1) := by decide +kernel
set_option maxRecDepth 20000 in
theorem ggX1_strengthLeft_X1_setting : GoodIn wsX1_strengthLeft wsX1_setting := goodIn_r _ [11, 12, 13, 14, 15, 16, 17, 18, 19, 20, 21, 22, 23, 24, 25, 26, 27, 28, 29] (by decide +kernel) (by decide +kernel)
set_option maxRecDepth 20000 in
theorem gX1_strengthLeft_X1_setting : GoodIn wsX1_strengthLeft (wsV RX1 94 RX1 yX1_setting wsX1_setting) := goodIn_app (goodIn_of _ (by decide +kernel)) ggX1_strengthLeft_X1_setting
set_option maxRecDepth 20000 in
theorem ggX1_strengthLeft_X8_number : GoodIn wsX1_strengthLeft wsX8_number := goodIn_r _ [17, 18, 19, 26, 27, 28, 29] (by decide +kernel) (by decide +kernel)
set_option maxRecDepth 20000 in
theorem gX1_strengthLeft_X8_number : GoodIn wsX1_strengthLeft (wsV RX1 98 RX8 yX8_number wsX8_number) := goodIn_app (goodIn_of _ (by decide +kernel)) ggX1_strengthLeft_X8_number
theorem dX1_strengthLeft_0 : decode cX1_strengthLeft 0 = .ok (.aload_n 0, 1) := by decide +kernel
theorem dX1_strengthLeft_1 : decode cX1_strengthLeft 1 = .ok (.iconst 1, 1) := by decide +kernel
theorem dX1_strengthLeft_2 : decode cX1_strengthLeft 2 = .ok (.invokevirtual 94, 3) := by decide +kernel
theorem dX1_strengthLeft_5 : decode cX1_strengthLeft 5 = .ok (.istore_n 3, 1) := by decide +kernel
theorem dX1_strengthLeft_6 : decode cX1_strengthLeft 6 = .ok (.aload_n 0, 1) := by decide +kernel
theorem dX1_strengthLeft_7 : decode cX1_strengthLeft 7 = .ok (.getfield 39, 3) := by decide +kernel
theorem dX1_strengthLeft_10 : decode cX1_strengthLeft 10 = .ok (.iload_n 2, 1) := by decide +kernel
theorem dX1_strengthLeft_11 : decode cX1_strengthLeft 11 = .ok (.iadd, 1) := by decide +kernel
theorem dX1_strengthLeft_12 : decode cX1_strengthLeft 12 = .ok (.aload_n 0, 1) := by decide +kernel
theorem dX1_strengthLeft_13 : decode cX1_strengthLeft 13 = .ok (.getfield 16, 3) := by decide +kernel
theorem dX1_strengthLeft_16 : decode cX1_strengthLeft 16 = .ok (.iload_n 1, 1) := by decide +kernel
theorem dX1_strengthLeft_17 : decode cX1_strengthLeft 17 = .ok (.bipush 6, 2) := by decide +kernel
theorem dX1_strengthLeft_19 : decode cX1_strengthLeft 19 = .ok (.invokevirtual 98, 3) := by decide +kernel
theorem dX1_strengthLeft_22 : decode cX1_strengthLeft 22 = .ok (.isub, 1) := by decide +kernel
theorem dX1_strengthLeft_23 : decode cX1_strengthLeft 23 = .ok (.istore 4, 2) := by decide +kernel
theorem dX1_strengthLeft_25 : decode cX1_strengthLeft 25 = .ok (.iload_n 3, 1) := by decide +kernel
theorem dX1_strengthLeft_26 : decode cX1_strengthLeft 26 = .ok (.ifCond .le 10, 3) := by decide +kernel
theorem dX1_strengthLeft_29 : decode cX1_strengthLeft 29 = .ok (.iload 4, 2) := by decide +kernel
theorem dX1_strengthLeft_31 : decode cX1_strengthLeft 31 = .ok (.iload_n 3, 1) := by decide +kernel
theorem dX1_strengthLeft_32 : decode cX1_strengthLeft 32 = .ok (.idiv, 1) := by decide +kernel
theorem dX1_strengthLeft_33 : decode cX1_strengthLeft 33 = .ok (.goto 4, 3) := by decide +kernel
theorem dX1_strengthLeft_36 : decode cX1_strengthLeft 36 = .ok (.iconst 0, 1) := by decide +kernel
theorem dX1_strengthLeft_37 : decode cX1_strengthLeft 37 = .ok (.istore 5, 2) := by decide +kernel
theorem dX1_strengthLeft_39 : decode cX1_strengthLeft 39 = .ok (.iconst 0, 1) := by decide +kernel
theorem dX1_strengthLeft_40 : decode cX1_strengthLeft 40 = .ok (.aload_n 0, 1) := by decide +kernel
theorem dX1_strengthLeft_41 : decode cX1_strengthLeft 41 = .ok (.getfield 16, 3) := by decide +kernel
theorem dX1_strengthLeft_44 : decode cX1_strengthLeft 44 = .ok (.iload_n 1, 1) := by decide +kernel
theorem dX1_strengthLeft_45 : decode cX1_strengthLeft 45 = .ok (.iconst 4, 1) := by decide +kernel
theorem dX1_strengthLeft_46 : decode cX1_strengthLeft 46 = .ok (.invokevirtual 98, 3) := by decide +kernel
theorem dX1_strengthLeft_49 : decode cX1_strengthLeft 49 = .ok (.iload 5, 2) := by decide +kernel
theorem dX1_strengthLeft_51 : decode cX1_strengthLeft 51 = .ok (.isub, 1) := by decide +kernel
theorem dX1_strengthLeft_52 : decode cX1_strengthLeft 52 = .ok (.invokestatic 102, 3) := by decide +kernel
theorem dX1_strengthLeft_55 : decode cX1_strengthLeft 55 = .ok (.ireturn, 1) := by decide +kernel
set_option maxRecDepth 20000 in
theorem ggX1_thinkOf_X1_strengthLeft : GoodIn wsX1_thinkOf wsX1_strengthLeft := goodIn_r _ [11, 6, 5, 12, 13, 3, 14, 15, 16, 17, 10, 18, 19, 20, 21, 22, 23, 24, 25, 26, 31, 32, 33, 34, 35, 36, 37, 38, 39, 40] (by decide +kernel) (by decide +kernel)
set_option maxRecDepth 20000 in
theorem gX1_thinkOf_X1_strengthLeft : GoodIn wsX1_thinkOf (wsV RX1 107 RX1 yX1_strengthLeft wsX1_strengthLeft) := goodIn_app (goodIn_of _ (by decide +kernel)) ggX1_thinkOf_X1_strengthLeft
set_option maxRecDepth 20000 in
theorem ggX1_thinkOf_X8_set : GoodIn wsX1_thinkOf wsX8_set := goodIn_r _ [30, 25, 26, 37, 38, 39, 40] (by decide +kernel) (by decide +kernel)
set_option maxRecDepth 20000 in
theorem gX1_thinkOf_X8_set : GoodIn wsX1_thinkOf (wsV RX1 54 RX8 yX8_set wsX8_set) := goodIn_app (goodIn_of _ (by decide +kernel)) ggX1_thinkOf_X8_set
theorem dX1_thinkOf_0 : decode cX1_thinkOf 0 = .ok (.bipush 20, 2) := by decide +kernel
theorem dX1_thinkOf_2 : decode cX1_thinkOf 2 = .ok (.aload_n 0, 1) := by decide +kernel
theorem dX1_thinkOf_3 : decode cX1_thinkOf 3 = .ok (.iload_n 1, 1) := by decide +kernel
theorem dX1_thinkOf_4 : decode cX1_thinkOf 4 = .ok (.iconst 0, 1) := by decide +kernel
theorem dX1_thinkOf_5 : decode cX1_thinkOf 5 = .ok (.invokevirtual 107, 3) := by decide +kernel
theorem dX1_thinkOf_8 : decode cX1_thinkOf 8 = .ok (.iconst 3, 1) := by decide +kernel
theorem dX1_thinkOf_9 : decode cX1_thinkOf 9 = .ok (.iadd, 1) := by decide +kernel
theorem dX1_thinkOf_10 : decode cX1_thinkOf 10 = .ok (.invokestatic 110, 3) := by decide +kernel
theorem dX1_thinkOf_13 : decode cX1_thinkOf 13 = .ok (.istore_n 2, 1) := by decide +kernel
theorem dX1_thinkOf_14 : decode cX1_thinkOf 14 = .ok (.aload_n 0, 1) := by decide +kernel
theorem dX1_thinkOf_15 : decode cX1_thinkOf 15 = .ok (.getfield 16, 3) := by decide +kernel
theorem dX1_thinkOf_18 : decode cX1_thinkOf 18 = .ok (.iload_n 1, 1) := by decide +kernel
theorem dX1_thinkOf_19 : decode cX1_thinkOf 19 = .ok (.iconst 4, 1) := by decide +kernel
theorem dX1_thinkOf_20 : decode cX1_thinkOf 20 = .ok (.iload_n 2, 1) := by decide +kernel
theorem dX1_thinkOf_21 : decode cX1_thinkOf 21 = .ok (.i2l, 1) := by decide +kernel
theorem dX1_thinkOf_22 : decode cX1_thinkOf 22 = .ok (.invokevirtual 54, 3) := by decide +kernel
theorem dX1_thinkOf_25 : decode cX1_thinkOf 25 = .ok (.aload_n 0, 1) := by decide +kernel
theorem dX1_thinkOf_26 : decode cX1_thinkOf 26 = .ok (.getfield 16, 3) := by decide +kernel
theorem dX1_thinkOf_29 : decode cX1_thinkOf 29 = .ok (.iload_n 1, 1) := by decide +kernel
theorem dX1_thinkOf_30 : decode cX1_thinkOf 30 = .ok (.bipush 6, 2) := by decide +kernel
theorem dX1_thinkOf_32 : decode cX1_thinkOf 32 = .ok (.aload_n 0, 1) := by decide +kernel
theorem dX1_thinkOf_33 : decode cX1_thinkOf 33 = .ok (.getfield 39, 3) := by decide +kernel
theorem dX1_thinkOf_36 : decode cX1_thinkOf 36 = .ok (.i2l, 1) := by decide +kernel
theorem dX1_thinkOf_37 : decode cX1_thinkOf 37 = .ok (.invokevirtual 54, 3) := by decide +kernel
theorem dX1_thinkOf_40 : decode cX1_thinkOf 40 = .ok (.iload_n 2, 1) := by decide +kernel
theorem dX1_thinkOf_41 : decode cX1_thinkOf 41 = .ok (.ireturn, 1) := by decide +kernel
set_option maxRecDepth 20000 in
theorem ggX1_shame_X8_number : GoodIn wsX1_shame wsX8_number := goodIn_r _ [11, 12, 13, 20, 21, 22, 23] (by decide +kernel) (by decide +kernel)
set_option maxRecDepth 20000 in
theorem gX1_shame_X8_number : GoodIn wsX1_shame (wsV RX1 98 RX8 yX8_number wsX8_number) := goodIn_app (goodIn_of _ (by decide +kernel)) ggX1_shame_X8_number
theorem dX1_shame_0 : decode cX1_shame 0 = .ok (.bipush 20, 2) := by decide +kernel
theorem dX1_shame_2 : decode cX1_shame 2 = .ok (.aload_n 0, 1) := by decide +kernel
theorem dX1_shame_3 : decode cX1_shame 3 = .ok (.getfield 39, 3) := by decide +kernel
theorem dX1_shame_6 : decode cX1_shame 6 = .ok (.aload_n 0, 1) := by decide +kernel
theorem dX1_shame_7 : decode cX1_shame 7 = .ok (.getfield 16, 3) := by decide +kernel
theorem dX1_shame_10 : decode cX1_shame 10 = .ok (.iload_n 1, 1) := by decide +kernel
theorem dX1_shame_11 : decode cX1_shame 11 = .ok (.bipush 6, 2) := by decide +kernel
theorem dX1_shame_13 : decode cX1_shame 13 = .ok (.invokevirtual 98, 3) := by decide +kernel
theorem dX1_shame_16 : decode cX1_shame 16 = .ok (.isub, 1) := by decide +kernel
theorem dX1_shame_17 : decode cX1_shame 17 = .ok (.bipush 50, 2) := by decide +kernel
theorem dX1_shame_19 : decode cX1_shame 19 = .ok (.idiv, 1) := by decide +kernel
theorem dX1_shame_20 : decode cX1_shame 20 = .ok (.invokestatic 110, 3) := by decide +kernel
theorem dX1_shame_23 : decode cX1_shame 23 = .ok (.ireturn, 1) := by decide +kernel
set_option maxRecDepth 20000 in
theorem ggX1_hasOf_X8_number : GoodIn wsX1_hasOf wsX8_number := goodIn_r _ [6, 7, 8, 15, 16, 17, 18] (by decide +kernel) (by decide +kernel)
set_option maxRecDepth 20000 in
theorem gX1_hasOf_X8_number : GoodIn wsX1_hasOf (wsV RX1 98 RX8 yX8_number wsX8_number) := goodIn_app (goodIn_of _ (by decide +kernel)) ggX1_hasOf_X8_number
theorem dX1_hasOf_0 : decode cX1_hasOf 0 = .ok (.aload_n 0, 1) := by decide +kernel
theorem dX1_hasOf_1 : decode cX1_hasOf 1 = .ok (.getfield 29, 3) := by decide +kernel
theorem dX1_hasOf_4 : decode cX1_hasOf 4 = .ok (.iconst 0, 1) := by decide +kernel
theorem dX1_hasOf_5 : decode cX1_hasOf 5 = .ok (.iload_n 1, 1) := by decide +kernel
theorem dX1_hasOf_6 : decode cX1_hasOf 6 = .ok (.invokevirtual 98, 3) := by decide +kernel
theorem dX1_hasOf_9 : decode cX1_hasOf 9 = .ok (.ireturn, 1) := by decide +kernel
set_option maxRecDepth 20000 in
theorem ggX1_partOf_X8_get : GoodIn wsX1_partOf wsX8_get := goodIn_r _ [6, 7, 8, 35, 36, 37, 38] (by decide +kernel) (by decide +kernel)
set_option maxRecDepth 20000 in
theorem gX1_partOf_X8_get : GoodIn wsX1_partOf (wsV RX1 113 RX8 yX8_get wsX8_get) := goodIn_app (goodIn_of _ (by decide +kernel)) ggX1_partOf_X8_get
set_option maxRecDepth 20000 in
theorem ggX1_partOf_X2_firstLetter : GoodIn wsX1_partOf wsX2_firstLetter := goodIn_r _ [12, 13, 14, 15, 16, 17, 18, 11, 19, 20, 21, 22, 23] (by decide +kernel) (by decide +kernel)
set_option maxRecDepth 20000 in
theorem gX1_partOf_X2_firstLetter : GoodIn wsX1_partOf (va_wsS RX1 117 yX2_firstLetter wsX2_firstLetter) := goodIn_app (goodIn_of _ (by decide +kernel)) ggX1_partOf_X2_firstLetter
set_option maxRecDepth 20000 in
theorem ggX1_partOf_X2_lettersOf : GoodIn wsX1_partOf wsX2_lettersOf := goodIn_r _ [19] (by decide +kernel) (by decide +kernel)
set_option maxRecDepth 20000 in
theorem gX1_partOf_X2_lettersOf : GoodIn wsX1_partOf (va_wsS RX1 121 yX2_lettersOf wsX2_lettersOf) := goodIn_app (goodIn_of _ (by decide +kernel)) ggX1_partOf_X2_lettersOf
set_option maxRecDepth 20000 in
theorem ggX1_partOf_X8_number : GoodIn wsX1_partOf wsX8_number := goodIn_r _ [28, 7, 8, 35, 36, 37, 38] (by decide +kernel) (by decide +kernel)
set_option maxRecDepth 20000 in
theorem gX1_partOf_X8_number : GoodIn wsX1_partOf (wsV RX1 98 RX8 yX8_number wsX8_number) := goodIn_app (goodIn_of _ (by decide +kernel)) ggX1_partOf_X8_number
theorem dX1_partOf_0 : decode cX1_partOf 0 = .ok (.iload_n 2, 1) := by decide +kernel
theorem dX1_partOf_1 : decode cX1_partOf 1 = .ok (.tableswitch 77 0 3 #[31, 44, 57, 67], 31) := by decide +kernel
theorem dX1_partOf_32 : decode cX1_partOf 32 = .ok (.aload_n 0, 1) := by decide +kernel
theorem dX1_partOf_33 : decode cX1_partOf 33 = .ok (.getfield 16, 3) := by decide +kernel
theorem dX1_partOf_36 : decode cX1_partOf 36 = .ok (.iload_n 1, 1) := by decide +kernel
theorem dX1_partOf_37 : decode cX1_partOf 37 = .ok (.iconst 0, 1) := by decide +kernel
theorem dX1_partOf_38 : decode cX1_partOf 38 = .ok (.invokevirtual 113, 3) := by decide +kernel
theorem dX1_partOf_41 : decode cX1_partOf 41 = .ok (.invokestatic 117, 3) := by decide +kernel
theorem dX1_partOf_44 : decode cX1_partOf 44 = .ok (.ireturn, 1) := by decide +kernel
theorem dX1_partOf_45 : decode cX1_partOf 45 = .ok (.aload_n 0, 1) := by decide +kernel
theorem dX1_partOf_46 : decode cX1_partOf 46 = .ok (.getfield 16, 3) := by decide +kernel
theorem dX1_partOf_49 : decode cX1_partOf 49 = .ok (.iload_n 1, 1) := by decide +kernel
theorem dX1_partOf_50 : decode cX1_partOf 50 = .ok (.iconst 0, 1) := by decide +kernel
theorem dX1_partOf_51 : decode cX1_partOf 51 = .ok (.invokevirtual 113, 3) := by decide +kernel
theorem dX1_partOf_54 : decode cX1_partOf 54 = .ok (.invokestatic 121, 3) := by decide +kernel
theorem dX1_partOf_57 : decode cX1_partOf 57 = .ok (.ireturn, 1) := by decide +kernel
theorem dX1_partOf_58 : decode cX1_partOf 58 = .ok (.aload_n 0, 1) := by decide +kernel
theorem dX1_partOf_59 : decode cX1_partOf 59 = .ok (.getfield 16, 3) := by decide +kernel
theorem dX1_partOf_62 : decode cX1_partOf 62 = .ok (.iload_n 1, 1) := by decide +kernel
theorem dX1_partOf_63 : decode cX1_partOf 63 = .ok (.iconst 1, 1) := by decide +kernel
theorem dX1_partOf_64 : decode cX1_partOf 64 = .ok (.invokevirtual 98, 3) := by decide +kernel
theorem dX1_partOf_67 : decode cX1_partOf 67 = .ok (.ireturn, 1) := by decide +kernel
theorem dX1_partOf_68 : decode cX1_partOf 68 = .ok (.aload_n 0, 1) := by decide +kernel
theorem dX1_partOf_69 : decode cX1_partOf 69 = .ok (.getfield 16, 3) := by decide +kernel
theorem dX1_partOf_72 : decode cX1_partOf 72 = .ok (.iload_n 1, 1) := by decide +kernel
theorem dX1_partOf_73 : decode cX1_partOf 73 = .ok (.iconst 2, 1) := by decide +kernel
theorem dX1_partOf_74 : decode cX1_partOf 74 = .ok (.invokevirtual 98, 3) := by decide +kernel
theorem dX1_partOf_77 : decode cX1_partOf 77 = .ok (.ireturn, 1) := by decide +kernel
theorem dX1_partOf_78 : decode cX1_partOf 78 = .ok (.aload_n 0, 1) := by decide +kernel
theorem dX1_partOf_79 : decode cX1_partOf 79 = .ok (.getfield 16, 3) := by decide +kernel
theorem dX1_partOf_82 : decode cX1_partOf 82 = .ok (.iload_n 1, 1) := by decide +kernel
theorem dX1_partOf_83 : decode cX1_partOf 83 = .ok (.iconst 3, 1) := by decide +kernel
theorem dX1_partOf_84 : decode cX1_partOf 84 = .ok (.invokevirtual 98, 3) := by decide +kernel
theorem dX1_partOf_87 : decode cX1_partOf 87 = .ok (.ireturn, 1) := by decide +kernel
set_option maxRecDepth 20000 in
theorem ggX1_isPart_X10_within : GoodIn wsX1_isPart wsX10_within := goodIn_r _ [3] (by decide +kernel) (by decide +kernel)
set_option maxRecDepth 20000 in
theorem gX1_isPart_X10_within_n78 : GoodIn wsX1_isPart (wsX10_within) := ggX1_isPart_X10_within
theorem dX1_isPart_0 : decode cX1_isPart 0 = .ok (.iload_n 0, 1) := by decide +kernel
theorem dX1_isPart_1 : decode cX1_isPart 1 = .ok (.iconst 0, 1) := by decide +kernel
theorem dX1_isPart_2 : decode cX1_isPart 2 = .ok (.iconst 4, 1) := by decide +kernel
theorem dX1_isPart_3 : decode cX1_isPart 3 = .ok (.invokestatic 78, 3) := by decide +kernel
theorem dX1_isPart_6 : decode cX1_isPart 6 = .ok (.ireturn, 1) := by decide +kernel
set_option maxRecDepth 20000 in
theorem ggX1_isPartValue_X10_at : GoodIn wsX1_isPartValue wsX10_at := goodIn_r _ [5] (by decide +kernel) (by decide +kernel)
set_option maxRecDepth 20000 in
theorem gX1_isPartValue_X10_at_n50 : GoodIn wsX1_isPartValue (wsX10_at) := ggX1_isPartValue_X10_at
set_option maxRecDepth 20000 in
theorem ggX1_isPartValue_X10_within : GoodIn wsX1_isPartValue wsX10_within := goodIn_r _ [7] (by decide +kernel) (by decide +kernel)
set_option maxRecDepth 20000 in
theorem gX1_isPartValue_X10_within_n78 : GoodIn wsX1_isPartValue (wsX10_within) := ggX1_isPartValue_X10_within
theorem dX1_isPartValue_0 : decode cX1_isPartValue 0 = .ok (.iload_n 1, 1) := by decide +kernel
theorem dX1_isPartValue_1 : decode cX1_isPartValue 1 = .ok (.getstatic 124, 3) := by decide +kernel
theorem dX1_isPartValue_4 : decode cX1_isPartValue 4 = .ok (.iload_n 0, 1) := by decide +kernel
theorem dX1_isPartValue_5 : decode cX1_isPartValue 5 = .ok (.invokestatic 50, 3) := by decide +kernel
theorem dX1_isPartValue_8 : decode cX1_isPartValue 8 = .ok (.getstatic 127, 3) := by decide +kernel
theorem dX1_isPartValue_11 : decode cX1_isPartValue 11 = .ok (.iload_n 0, 1) := by decide +kernel
theorem dX1_isPartValue_12 : decode cX1_isPartValue 12 = .ok (.invokestatic 50, 3) := by decide +kernel
theorem dX1_isPartValue_15 : decode cX1_isPartValue 15 = .ok (.invokestatic 78, 3) := by decide +kernel
theorem dX1_isPartValue_18 : decode cX1_isPartValue 18 = .ok (.ireturn, 1) := by decide +kernel
set_option maxRecDepth 20000 in
theorem ggX2_isName_X2_lettersOf : GoodIn wsX2_isName wsX2_lettersOf := goodIn_r _ [5] (by decide +kernel) (by decide +kernel)
set_option maxRecDepth 20000 in
theorem gX2_isName_X2_lettersOf : GoodIn wsX2_isName (va_wsS RX2 7 yX2_lettersOf wsX2_lettersOf) := goodIn_app (goodIn_of _ (by decide +kernel)) ggX2_isName_X2_lettersOf
set_option maxRecDepth 20000 in
theorem ggX2_isName_X2_letterFromEnd : GoodIn wsX2_isName wsX2_letterFromEnd := goodIn_r _ [8, 9] (by decide +kernel) (by decide +kernel)
set_option maxRecDepth 20000 in
theorem gX2_isName_X2_letterFromEnd : GoodIn wsX2_isName (va_wsS RX2 15 yX2_letterFromEnd wsX2_letterFromEnd) := goodIn_app (goodIn_of _ (by decide +kernel)) ggX2_isName_X2_letterFromEnd
set_option maxRecDepth 20000 in
theorem ggX2_isName_X10_within : GoodIn wsX2_isName wsX10_within := goodIn_r _ [12] (by decide +kernel) (by decide +kernel)
set_option maxRecDepth 20000 in
theorem gX2_isName_X10_within_n19 : GoodIn wsX2_isName (wsX10_within) := ggX2_isName_X10_within
theorem dX2_isName_0 : decode cX2_isName 0 = .ok (.lload_n 0, 1) := by decide +kernel
theorem dX2_isName_1 : decode cX2_isName 1 = .ok (.invokestatic 7, 3) := by decide +kernel
theorem dX2_isName_4 : decode cX2_isName 4 = .ok (.istore_n 2, 1) := by decide +kernel
theorem dX2_isName_5 : decode cX2_isName 5 = .ok (.lload_n 0, 1) := by decide +kernel
theorem dX2_isName_6 : decode cX2_isName 6 = .ok (.lconst 0, 1) := by decide +kernel
theorem dX2_isName_7 : decode cX2_isName 7 = .ok (.lcmp, 1) := by decide +kernel
theorem dX2_isName_8 : decode cX2_isName 8 = .ok (.ifCond .le 15, 3) := by decide +kernel
theorem dX2_isName_11 : decode cX2_isName 11 = .ok (.lload_n 0, 1) := by decide +kernel
theorem dX2_isName_12 : decode cX2_isName 12 = .ok (.ldc2_w 13, 3) := by decide +kernel
theorem dX2_isName_15 : decode cX2_isName 15 = .ok (.lcmp, 1) := by decide +kernel
theorem dX2_isName_16 : decode cX2_isName 16 = .ok (.ifCond .ge 7, 3) := by decide +kernel
theorem dX2_isName_19 : decode cX2_isName 19 = .ok (.iconst 1, 1) := by decide +kernel
theorem dX2_isName_20 : decode cX2_isName 20 = .ok (.goto 4, 3) := by decide +kernel
theorem dX2_isName_23 : decode cX2_isName 23 = .ok (.iconst 0, 1) := by decide +kernel
theorem dX2_isName_24 : decode cX2_isName 24 = .ok (.istore_n 3, 1) := by decide +kernel
theorem dX2_isName_25 : decode cX2_isName 25 = .ok (.iconst 0, 1) := by decide +kernel
theorem dX2_isName_26 : decode cX2_isName 26 = .ok (.istore 4, 2) := by decide +kernel
theorem dX2_isName_28 : decode cX2_isName 28 = .ok (.iload 4, 2) := by decide +kernel
theorem dX2_isName_30 : decode cX2_isName 30 = .ok (.iload_n 2, 1) := by decide +kernel
theorem dX2_isName_31 : decode cX2_isName 31 = .ok (.if_icmp .ge 34, 3) := by decide +kernel
theorem dX2_isName_34 : decode cX2_isName 34 = .ok (.iload_n 3, 1) := by decide +kernel
theorem dX2_isName_35 : decode cX2_isName 35 = .ok (.ifCond .eq 22, 3) := by decide +kernel
theorem dX2_isName_38 : decode cX2_isName 38 = .ok (.lload_n 0, 1) := by decide +kernel
theorem dX2_isName_39 : decode cX2_isName 39 = .ok (.iload 4, 2) := by decide +kernel
theorem dX2_isName_41 : decode cX2_isName 41 = .ok (.invokestatic 15, 3) := by decide +kernel
theorem dX2_isName_44 : decode cX2_isName 44 = .ok (.iconst 1, 1) := by decide +kernel
theorem dX2_isName_45 : decode cX2_isName 45 = .ok (.bipush 26, 2) := by decide +kernel
theorem dX2_isName_47 : decode cX2_isName 47 = .ok (.invokestatic 19, 3) := by decide +kernel
theorem dX2_isName_50 : decode cX2_isName 50 = .ok (.ifCond .eq 7, 3) := by decide +kernel
theorem dX2_isName_53 : decode cX2_isName 53 = .ok (.iconst 1, 1) := by decide +kernel
theorem dX2_isName_54 : decode cX2_isName 54 = .ok (.goto 4, 3) := by decide +kernel
theorem dX2_isName_57 : decode cX2_isName 57 = .ok (.iconst 0, 1) := by decide +kernel
theorem dX2_isName_58 : decode cX2_isName 58 = .ok (.istore_n 3, 1) := by decide +kernel
theorem dX2_isName_59 : decode cX2_isName 59 = .ok (.iinc 4 1, 3) := by decide +kernel
theorem dX2_isName_62 : decode cX2_isName 62 = .ok (.goto (-34), 3) := by decide +kernel
theorem dX2_isName_65 : decode cX2_isName 65 = .ok (.iload_n 3, 1) := by decide +kernel
theorem dX2_isName_66 : decode cX2_isName 66 = .ok (.ireturn, 1) := by decide +kernel
theorem dX2_lettersOf_0 : decode cX2_lettersOf 0 = .ok (.iconst 0, 1) := by decide +kernel
theorem dX2_lettersOf_1 : decode cX2_lettersOf 1 = .ok (.istore_n 2, 1) := by decide +kernel
theorem dX2_lettersOf_2 : decode cX2_lettersOf 2 = .ok (.iconst 0, 1) := by decide +kernel
theorem dX2_lettersOf_3 : decode cX2_lettersOf 3 = .ok (.istore_n 3, 1) := by decide +kernel
theorem dX2_lettersOf_4 : decode cX2_lettersOf 4 = .ok (.iload_n 3, 1) := by decide +kernel
theorem dX2_lettersOf_5 : decode cX2_lettersOf 5 = .ok (.bipush 7, 2) := by decide +kernel
theorem dX2_lettersOf_7 : decode cX2_lettersOf 7 = .ok (.if_icmp .ge 23, 3) := by decide +kernel
theorem dX2_lettersOf_10 : decode cX2_lettersOf 10 = .ok (.lload_n 0, 1) := by decide +kernel
theorem dX2_lettersOf_11 : decode cX2_lettersOf 11 = .ok (.iconst 5, 1) := by decide +kernel
theorem dX2_lettersOf_12 : decode cX2_lettersOf 12 = .ok (.iload_n 3, 1) := by decide +kernel
theorem dX2_lettersOf_13 : decode cX2_lettersOf 13 = .ok (.imul, 1) := by decide +kernel
theorem dX2_lettersOf_14 : decode cX2_lettersOf 14 = .ok (.lshr, 1) := by decide +kernel
theorem dX2_lettersOf_15 : decode cX2_lettersOf 15 = .ok (.lconst 0, 1) := by decide +kernel
theorem dX2_lettersOf_16 : decode cX2_lettersOf 16 = .ok (.lcmp, 1) := by decide +kernel
theorem dX2_lettersOf_17 : decode cX2_lettersOf 17 = .ok (.ifCond .le 7, 3) := by decide +kernel
theorem dX2_lettersOf_20 : decode cX2_lettersOf 20 = .ok (.iload_n 3, 1) := by decide +kernel
theorem dX2_lettersOf_21 : decode cX2_lettersOf 21 = .ok (.iconst 1, 1) := by decide +kernel
theorem dX2_lettersOf_22 : decode cX2_lettersOf 22 = .ok (.iadd, 1) := by decide +kernel
theorem dX2_lettersOf_23 : decode cX2_lettersOf 23 = .ok (.istore_n 2, 1) := by decide +kernel
theorem dX2_lettersOf_24 : decode cX2_lettersOf 24 = .ok (.iinc 3 1, 3) := by decide +kernel
theorem dX2_lettersOf_27 : decode cX2_lettersOf 27 = .ok (.goto (-23), 3) := by decide +kernel
theorem dX2_lettersOf_30 : decode cX2_lettersOf 30 = .ok (.iload_n 2, 1) := by decide +kernel
theorem dX2_lettersOf_31 : decode cX2_lettersOf 31 = .ok (.ireturn, 1) := by decide +kernel
theorem dX2_letterFromEnd_0 : decode cX2_letterFromEnd 0 = .ok (.lload_n 0, 1) := by decide +kernel
theorem dX2_letterFromEnd_1 : decode cX2_letterFromEnd 1 = .ok (.iconst 5, 1) := by decide +kernel
theorem dX2_letterFromEnd_2 : decode cX2_letterFromEnd 2 = .ok (.iload_n 2, 1) := by decide +kernel
theorem dX2_letterFromEnd_3 : decode cX2_letterFromEnd 3 = .ok (.imul, 1) := by decide +kernel
theorem dX2_letterFromEnd_4 : decode cX2_letterFromEnd 4 = .ok (.lshr, 1) := by decide +kernel
theorem dX2_letterFromEnd_5 : decode cX2_letterFromEnd 5 = .ok (.ldc2_w 25, 3) := by decide +kernel
theorem dX2_letterFromEnd_8 : decode cX2_letterFromEnd 8 = .ok (.land, 1) := by decide +kernel
theorem dX2_letterFromEnd_9 : decode cX2_letterFromEnd 9 = .ok (.l2i, 1) := by decide +kernel
theorem dX2_letterFromEnd_10 : decode cX2_letterFromEnd 10 = .ok (.ireturn, 1) := by decide +kernel
set_option maxRecDepth 20000 in
theorem ggX2_firstLetter_X2_lettersOf : GoodIn wsX2_firstLetter wsX2_lettersOf := goodIn_r _ [8] (by decide +kernel) (by decide +kernel)
set_option maxRecDepth 20000 in
theorem gX2_firstLetter_X2_lettersOf : GoodIn wsX2_firstLetter (va_wsS RX2 7 yX2_lettersOf wsX2_lettersOf) := goodIn_app (goodIn_of _ (by decide +kernel)) ggX2_firstLetter_X2_lettersOf
set_option maxRecDepth 20000 in
theorem ggX2_firstLetter_X2_letterFromEnd : GoodIn wsX2_firstLetter wsX2_letterFromEnd := goodIn_r _ [11, 12] (by decide +kernel) (by decide +kernel)
set_option maxRecDepth 20000 in
theorem gX2_firstLetter_X2_letterFromEnd : GoodIn wsX2_firstLetter (va_wsS RX2 15 yX2_letterFromEnd wsX2_letterFromEnd) := goodIn_app (goodIn_of _ (by decide +kernel)) ggX2_firstLetter_X2_letterFromEnd
theorem dX2_firstLetter_0 : decode cX2_firstLetter 0 = .ok (.lload_n 0, 1) := by decide +kernel
theorem dX2_firstLetter_1 : decode cX2_firstLetter 1 = .ok (.iconst 0, 1) := by decide +kernel
theorem dX2_firstLetter_2 : decode cX2_firstLetter 2 = .ok (.lload_n 0, 1) := by decide +kernel
theorem dX2_firstLetter_3 : decode cX2_firstLetter 3 = .ok (.invokestatic 7, 3) := by decide +kernel
theorem dX2_firstLetter_6 : decode cX2_firstLetter 6 = .ok (.iconst 1, 1) := by decide +kernel
theorem dX2_firstLetter_7 : decode cX2_firstLetter 7 = .ok (.isub, 1) := by decide +kernel
theorem dX2_firstLetter_8 : decode cX2_firstLetter 8 = .ok (.invokestatic 27, 3) := by decide +kernel
theorem dX2_firstLetter_11 : decode cX2_firstLetter 11 = .ok (.invokestatic 15, 3) := by decide +kernel
theorem dX2_firstLetter_14 : decode cX2_firstLetter 14 = .ok (.iconst 1, 1) := by decide +kernel
theorem dX2_firstLetter_15 : decode cX2_firstLetter 15 = .ok (.isub, 1) := by decide +kernel
theorem dX2_firstLetter_16 : decode cX2_firstLetter 16 = .ok (.ireturn, 1) := by decide +kernel
set_option maxRecDepth 20000 in
theorem ggX2_unlikePlaces_X2_letterFromEnd : GoodIn wsX2_unlikePlaces wsX2_letterFromEnd := goodIn_r _ [4, 5] (by decide +kernel) (by decide +kernel)
set_option maxRecDepth 20000 in
theorem gX2_unlikePlaces_X2_letterFromEnd : GoodIn wsX2_unlikePlaces (va_wsS RX2 15 yX2_letterFromEnd wsX2_letterFromEnd) := goodIn_app (goodIn_of _ (by decide +kernel)) ggX2_unlikePlaces_X2_letterFromEnd
theorem dX2_unlikePlaces_0 : decode cX2_unlikePlaces 0 = .ok (.iconst 0, 1) := by decide +kernel
theorem dX2_unlikePlaces_1 : decode cX2_unlikePlaces 1 = .ok (.istore 4, 2) := by decide +kernel
theorem dX2_unlikePlaces_3 : decode cX2_unlikePlaces 3 = .ok (.iconst 0, 1) := by decide +kernel
theorem dX2_unlikePlaces_4 : decode cX2_unlikePlaces 4 = .ok (.istore 5, 2) := by decide +kernel
theorem dX2_unlikePlaces_6 : decode cX2_unlikePlaces 6 = .ok (.iload 5, 2) := by decide +kernel
theorem dX2_unlikePlaces_8 : decode cX2_unlikePlaces 8 = .ok (.bipush 7, 2) := by decide +kernel
theorem dX2_unlikePlaces_10 : decode cX2_unlikePlaces 10 = .ok (.if_icmp .ge 27, 3) := by decide +kernel
theorem dX2_unlikePlaces_13 : decode cX2_unlikePlaces 13 = .ok (.lload_n 0, 1) := by decide +kernel
theorem dX2_unlikePlaces_14 : decode cX2_unlikePlaces 14 = .ok (.iload 5, 2) := by decide +kernel
theorem dX2_unlikePlaces_16 : decode cX2_unlikePlaces 16 = .ok (.invokestatic 15, 3) := by decide +kernel
theorem dX2_unlikePlaces_19 : decode cX2_unlikePlaces 19 = .ok (.lload_n 2, 1) := by decide +kernel
theorem dX2_unlikePlaces_20 : decode cX2_unlikePlaces 20 = .ok (.iload 5, 2) := by decide +kernel
theorem dX2_unlikePlaces_22 : decode cX2_unlikePlaces 22 = .ok (.invokestatic 15, 3) := by decide +kernel
theorem dX2_unlikePlaces_25 : decode cX2_unlikePlaces 25 = .ok (.if_icmp .eq 6, 3) := by decide +kernel
theorem dX2_unlikePlaces_28 : decode cX2_unlikePlaces 28 = .ok (.iinc 4 1, 3) := by decide +kernel
theorem dX2_unlikePlaces_31 : decode cX2_unlikePlaces 31 = .ok (.iinc 5 1, 3) := by decide +kernel
theorem dX2_unlikePlaces_34 : decode cX2_unlikePlaces 34 = .ok (.goto (-28), 3) := by decide +kernel
theorem dX2_unlikePlaces_37 : decode cX2_unlikePlaces 37 = .ok (.iload 4, 2) := by decide +kernel
theorem dX2_unlikePlaces_39 : decode cX2_unlikePlaces 39 = .ok (.ireturn, 1) := by decide +kernel
theorem dX3_init_0 : decode cX3_init 0 = .ok (.aload_n 0, 1) := by decide +kernel
theorem dX3_init_1 : decode cX3_init 1 = .ok (.invokespecial 3, 3) := by decide +kernel
theorem dX3_init_4 : decode cX3_init 4 = .ok (.aload_n 0, 1) := by decide +kernel
theorem dX3_init_5 : decode cX3_init 5 = .ok (.sipush 1300, 3) := by decide +kernel
theorem dX3_init_8 : decode cX3_init 8 = .ok (.newarray .int, 2) := by decide +kernel
theorem dX3_init_10 : decode cX3_init 10 = .ok (.putfield 13, 3) := by decide +kernel
theorem dX3_init_13 : decode cX3_init 13 = .ok (.return_, 1) := by decide +kernel
set_option maxRecDepth 20000 in
theorem ggX3_plan_X10_isIn : GoodIn wsX3_plan wsX10_isIn := goodIn_r _ [4] (by decide +kernel) (by decide +kernel)
set_option maxRecDepth 20000 in
theorem gX3_plan_X10_isIn_n21 : GoodIn wsX3_plan (wsX10_isIn) := ggX3_plan_X10_isIn
set_option maxRecDepth 20000 in
theorem ggX3_plan_X3_mostFrom : GoodIn wsX3_plan wsX3_mostFrom := goodIn_r _ [9, 10, 11, 3, 12, 77, 78] (by decide +kernel) (by decide +kernel)
set_option maxRecDepth 20000 in
theorem gX3_plan_X3_mostFrom : GoodIn wsX3_plan (wsV RX3 25 RX3 yX3_mostFrom wsX3_mostFrom) := goodIn_app (goodIn_of _ (by decide +kernel)) ggX3_plan_X3_mostFrom
set_option maxRecDepth 20000 in
theorem ggX3_plan_X3_setMost : GoodIn wsX3_plan wsX3_setMost := goodIn_r _ [16, 10, 17, 3, 18, 77, 78] (by decide +kernel) (by decide +kernel)
set_option maxRecDepth 20000 in
theorem gX3_plan_X3_setMost : GoodIn wsX3_plan (wsV RX3 29 RX3 yX3_setMost wsX3_setMost) := goodIn_app (goodIn_of _ (by decide +kernel)) ggX3_plan_X3_setMost
set_option maxRecDepth 20000 in
theorem ggX3_plan_X3_sayTimes : GoodIn wsX3_plan wsX3_sayTimes := goodIn_r _ [22, 23, 24, 8, 25, 26, 27, 28, 29, 30, 31, 32, 33, 34, 35, 36, 37, 38, 39, 40, 41, 42, 43, 44, 45, 46, 47, 48, 49, 50, 51, 52, 53, 54, 55, 56, 57, 58, 59, 60, 61, 62, 63, 64, 65, 66, 67, 68, 69, 70, 71, 72, 73, 74, 75, 76, 5, 6, 7, 9, 10, 11, 3, 12, 13, 14, 15, 16, 17, 18, 79, 80, 81, 82, 83, 84, 85, 86, 87, 88, 77, 78] (by decide +kernel) (by decide +kernel)
set_option maxRecDepth 20000 in
theorem gX3_plan_X3_sayTimes : GoodIn wsX3_plan (wsV RX3 33 RX3 yX3_sayTimes wsX3_sayTimes) := goodIn_app (goodIn_of _ (by decide +kernel)) ggX3_plan_X3_sayTimes
theorem dX3_plan_0 : decode cX3_plan 0 = .ok (.aload_n 0, 1) := by decide +kernel
theorem dX3_plan_1 : decode cX3_plan 1 = .ok (.iload_n 2, 1) := by decide +kernel
theorem dX3_plan_2 : decode cX3_plan 2 = .ok (.putfield 17, 3) := by decide +kernel
theorem dX3_plan_5 : decode cX3_plan 5 = .ok (.bipush 11, 2) := by decide +kernel
theorem dX3_plan_7 : decode cX3_plan 7 = .ok (.istore 4, 2) := by decide +kernel
theorem dX3_plan_9 : decode cX3_plan 9 = .ok (.iload 4, 2) := by decide +kernel
theorem dX3_plan_11 : decode cX3_plan 11 = .ok (.ifCond .lt 89, 3) := by decide +kernel
theorem dX3_plan_14 : decode cX3_plan 14 = .ok (.iconst 0, 1) := by decide +kernel
theorem dX3_plan_15 : decode cX3_plan 15 = .ok (.istore 5, 2) := by decide +kernel
theorem dX3_plan_17 : decode cX3_plan 17 = .ok (.iload 5, 2) := by decide +kernel
theorem dX3_plan_19 : decode cX3_plan 19 = .ok (.iload_n 3, 1) := by decide +kernel
theorem dX3_plan_20 : decode cX3_plan 20 = .ok (.if_icmp .gt 40, 3) := by decide +kernel
theorem dX3_plan_23 : decode cX3_plan 23 = .ok (.aload_n 0, 1) := by decide +kernel
theorem dX3_plan_24 : decode cX3_plan 24 = .ok (.iload 4, 2) := by decide +kernel
theorem dX3_plan_26 : decode cX3_plan 26 = .ok (.iload 5, 2) := by decide +kernel
theorem dX3_plan_28 : decode cX3_plan 28 = .ok (.iload_n 2, 1) := by decide +kernel
theorem dX3_plan_29 : decode cX3_plan 29 = .ok (.iload 4, 2) := by decide +kernel
theorem dX3_plan_31 : decode cX3_plan 31 = .ok (.invokestatic 21, 3) := by decide +kernel
theorem dX3_plan_34 : decode cX3_plan 34 = .ok (.ifCond .eq 7, 3) := by decide +kernel
theorem dX3_plan_37 : decode cX3_plan 37 = .ok (.iconst 0, 1) := by decide +kernel
theorem dX3_plan_38 : decode cX3_plan 38 = .ok (.goto 13, 3) := by decide +kernel
theorem dX3_plan_41 : decode cX3_plan 41 = .ok (.aload_n 0, 1) := by decide +kernel
theorem dX3_plan_42 : decode cX3_plan 42 = .ok (.iload 4, 2) := by decide +kernel
theorem dX3_plan_44 : decode cX3_plan 44 = .ok (.iconst 1, 1) := by decide +kernel
theorem dX3_plan_45 : decode cX3_plan 45 = .ok (.iadd, 1) := by decide +kernel
theorem dX3_plan_46 : decode cX3_plan 46 = .ok (.iload 5, 2) := by decide +kernel
theorem dX3_plan_48 : decode cX3_plan 48 = .ok (.invokevirtual 25, 3) := by decide +kernel
theorem dX3_plan_51 : decode cX3_plan 51 = .ok (.invokevirtual 29, 3) := by decide +kernel
theorem dX3_plan_54 : decode cX3_plan 54 = .ok (.iinc 5 1, 3) := by decide +kernel
theorem dX3_plan_57 : decode cX3_plan 57 = .ok (.goto (-40), 3) := by decide +kernel
theorem dX3_plan_60 : decode cX3_plan 60 = .ok (.iconst 0, 1) := by decide +kernel
theorem dX3_plan_61 : decode cX3_plan 61 = .ok (.istore 5, 2) := by decide +kernel
theorem dX3_plan_63 : decode cX3_plan 63 = .ok (.iload 5, 2) := by decide +kernel
theorem dX3_plan_65 : decode cX3_plan 65 = .ok (.iconst 5, 1) := by decide +kernel
theorem dX3_plan_66 : decode cX3_plan 66 = .ok (.if_icmp .gt 28, 3) := by decide +kernel
theorem dX3_plan_69 : decode cX3_plan 69 = .ok (.iload_n 2, 1) := by decide +kernel
theorem dX3_plan_70 : decode cX3_plan 70 = .ok (.iload 4, 2) := by decide +kernel
theorem dX3_plan_72 : decode cX3_plan 72 = .ok (.invokestatic 21, 3) := by decide +kernel
theorem dX3_plan_75 : decode cX3_plan 75 = .ok (.ifCond .eq 19, 3) := by decide +kernel
theorem dX3_plan_78 : decode cX3_plan 78 = .ok (.aload_n 0, 1) := by decide +kernel
theorem dX3_plan_79 : decode cX3_plan 79 = .ok (.aload_n 1, 1) := by decide +kernel
theorem dX3_plan_80 : decode cX3_plan 80 = .ok (.iload 4, 2) := by decide +kernel
theorem dX3_plan_82 : decode cX3_plan 82 = .ok (.iload 5, 2) := by decide +kernel
theorem dX3_plan_84 : decode cX3_plan 84 = .ok (.iload_n 3, 1) := by decide +kernel
theorem dX3_plan_85 : decode cX3_plan 85 = .ok (.invokevirtual 33, 3) := by decide +kernel
theorem dX3_plan_88 : decode cX3_plan 88 = .ok (.iinc 5 1, 3) := by decide +kernel
theorem dX3_plan_91 : decode cX3_plan 91 = .ok (.goto (-28), 3) := by decide +kernel
theorem dX3_plan_94 : decode cX3_plan 94 = .ok (.iinc 4 (-1), 3) := by decide +kernel
theorem dX3_plan_97 : decode cX3_plan 97 = .ok (.goto (-88), 3) := by decide +kernel
theorem dX3_plan_100 : decode cX3_plan 100 = .ok (.return_, 1) := by decide +kernel
set_option maxRecDepth 20000 in
theorem ggX3_sayTimes_X3_leftOf : GoodIn wsX3_sayTimes wsX3_leftOf := goodIn_r _ [4, 5, 6, 7, 8, 9, 10, 11, 12, 13, 14, 15, 16, 17, 18, 19, 20, 21, 22, 23, 24, 25, 26, 27, 28, 29, 30, 31, 32, 33, 34, 35, 36, 37, 38, 39, 40, 41, 42, 43, 44, 45, 46, 47, 48, 49, 50, 51, 52, 53, 54, 55, 70, 71, 72, 73, 74, 75, 76, 77, 78, 79] (by decide +kernel) (by decide +kernel)
set_option maxRecDepth 20000 in
theorem gX3_sayTimes_X3_leftOf : GoodIn wsX3_sayTimes (va_wsS RX3 37 yX3_leftOf wsX3_leftOf) := goodIn_app (goodIn_of _ (by decide +kernel)) ggX3_sayTimes_X3_leftOf
set_option maxRecDepth 20000 in
theorem ggX3_sayTimes_X1_partOf : GoodIn wsX3_sayTimes wsX1_partOf := goodIn_r _ [13, 14, 15, 16, 17, 18, 19, 20, 21, 22, 23, 24, 25, 26, 27, 7, 28, 29, 30, 31, 32, 33, 34, 35, 36, 37, 38, 39, 40, 70, 71, 72, 73, 74, 75, 76, 77, 78, 79] (by decide +kernel) (by decide +kernel)
set_option maxRecDepth 20000 in
theorem gX3_sayTimes_X1_partOf : GoodIn wsX3_sayTimes (wsV RX3 41 RX1 yX1_partOf wsX1_partOf) := goodIn_app (goodIn_of _ (by decide +kernel)) ggX3_sayTimes_X1_partOf
set_option maxRecDepth 20000 in
theorem ggX3_sayTimes_X3_mostFrom : GoodIn wsX3_sayTimes wsX3_mostFrom := goodIn_r _ [59, 60, 61, 62, 63, 80, 81] (by decide +kernel) (by decide +kernel)
set_option maxRecDepth 20000 in
theorem gX3_sayTimes_X3_mostFrom : GoodIn wsX3_sayTimes (wsV RX3 25 RX3 yX3_mostFrom wsX3_mostFrom) := goodIn_app (goodIn_of _ (by decide +kernel)) ggX3_sayTimes_X3_mostFrom
set_option maxRecDepth 20000 in
theorem ggX3_sayTimes_X3_setMost : GoodIn wsX3_sayTimes wsX3_setMost := goodIn_r _ [67, 60, 68, 62, 69, 80, 81] (by decide +kernel) (by decide +kernel)
set_option maxRecDepth 20000 in
theorem gX3_sayTimes_X3_setMost : GoodIn wsX3_sayTimes (wsV RX3 29 RX3 yX3_setMost wsX3_setMost) := goodIn_app (goodIn_of _ (by decide +kernel)) ggX3_sayTimes_X3_setMost
theorem dX3_sayTimes_0 : decode cX3_sayTimes 0 = .ok (.aload_n 1, 1) := by decide +kernel
theorem dX3_sayTimes_1 : decode cX3_sayTimes 1 = .ok (.iload_n 2, 1) := by decide +kernel
theorem dX3_sayTimes_2 : decode cX3_sayTimes 2 = .ok (.iload_n 3, 1) := by decide +kernel
theorem dX3_sayTimes_3 : decode cX3_sayTimes 3 = .ok (.invokestatic 37, 3) := by decide +kernel
theorem dX3_sayTimes_6 : decode cX3_sayTimes 6 = .ok (.istore 5, 2) := by decide +kernel
theorem dX3_sayTimes_8 : decode cX3_sayTimes 8 = .ok (.iload_n 3, 1) := by decide +kernel
theorem dX3_sayTimes_9 : decode cX3_sayTimes 9 = .ok (.aload_n 1, 1) := by decide +kernel
theorem dX3_sayTimes_10 : decode cX3_sayTimes 10 = .ok (.iload_n 2, 1) := by decide +kernel
theorem dX3_sayTimes_11 : decode cX3_sayTimes 11 = .ok (.iconst 1, 1) := by decide +kernel
theorem dX3_sayTimes_12 : decode cX3_sayTimes 12 = .ok (.invokevirtual 41, 3) := by decide +kernel
theorem dX3_sayTimes_15 : decode cX3_sayTimes 15 = .ok (.imul, 1) := by decide +kernel
theorem dX3_sayTimes_16 : decode cX3_sayTimes 16 = .ok (.istore 6, 2) := by decide +kernel
theorem dX3_sayTimes_18 : decode cX3_sayTimes 18 = .ok (.iload 6, 2) := by decide +kernel
theorem dX3_sayTimes_20 : decode cX3_sayTimes 20 = .ok (.istore 7, 2) := by decide +kernel
theorem dX3_sayTimes_22 : decode cX3_sayTimes 22 = .ok (.iload 7, 2) := by decide +kernel
theorem dX3_sayTimes_24 : decode cX3_sayTimes 24 = .ok (.iload 4, 2) := by decide +kernel
theorem dX3_sayTimes_26 : decode cX3_sayTimes 26 = .ok (.if_icmp .gt 47, 3) := by decide +kernel
theorem dX3_sayTimes_29 : decode cX3_sayTimes 29 = .ok (.iload 5, 2) := by decide +kernel
theorem dX3_sayTimes_31 : decode cX3_sayTimes 31 = .ok (.aload_n 0, 1) := by decide +kernel
theorem dX3_sayTimes_32 : decode cX3_sayTimes 32 = .ok (.iload_n 2, 1) := by decide +kernel
theorem dX3_sayTimes_33 : decode cX3_sayTimes 33 = .ok (.iconst 1, 1) := by decide +kernel
theorem dX3_sayTimes_34 : decode cX3_sayTimes 34 = .ok (.iadd, 1) := by decide +kernel
theorem dX3_sayTimes_35 : decode cX3_sayTimes 35 = .ok (.iload 7, 2) := by decide +kernel
theorem dX3_sayTimes_37 : decode cX3_sayTimes 37 = .ok (.iload 6, 2) := by decide +kernel
theorem dX3_sayTimes_39 : decode cX3_sayTimes 39 = .ok (.isub, 1) := by decide +kernel
theorem dX3_sayTimes_40 : decode cX3_sayTimes 40 = .ok (.invokevirtual 25, 3) := by decide +kernel
theorem dX3_sayTimes_43 : decode cX3_sayTimes 43 = .ok (.iadd, 1) := by decide +kernel
theorem dX3_sayTimes_44 : decode cX3_sayTimes 44 = .ok (.istore 8, 2) := by decide +kernel
theorem dX3_sayTimes_46 : decode cX3_sayTimes 46 = .ok (.iload 8, 2) := by decide +kernel
theorem dX3_sayTimes_48 : decode cX3_sayTimes 48 = .ok (.aload_n 0, 1) := by decide +kernel
theorem dX3_sayTimes_49 : decode cX3_sayTimes 49 = .ok (.iload_n 2, 1) := by decide +kernel
theorem dX3_sayTimes_50 : decode cX3_sayTimes 50 = .ok (.iload 7, 2) := by decide +kernel
theorem dX3_sayTimes_52 : decode cX3_sayTimes 52 = .ok (.invokevirtual 25, 3) := by decide +kernel
theorem dX3_sayTimes_55 : decode cX3_sayTimes 55 = .ok (.if_icmp .le 12, 3) := by decide +kernel
theorem dX3_sayTimes_58 : decode cX3_sayTimes 58 = .ok (.aload_n 0, 1) := by decide +kernel
theorem dX3_sayTimes_59 : decode cX3_sayTimes 59 = .ok (.iload_n 2, 1) := by decide +kernel
theorem dX3_sayTimes_60 : decode cX3_sayTimes 60 = .ok (.iload 7, 2) := by decide +kernel
theorem dX3_sayTimes_62 : decode cX3_sayTimes 62 = .ok (.iload 8, 2) := by decide +kernel
theorem dX3_sayTimes_64 : decode cX3_sayTimes 64 = .ok (.invokevirtual 29, 3) := by decide +kernel
theorem dX3_sayTimes_67 : decode cX3_sayTimes 67 = .ok (.iinc 7 1, 3) := by decide +kernel
theorem dX3_sayTimes_70 : decode cX3_sayTimes 70 = .ok (.goto (-48), 3) := by decide +kernel
theorem dX3_sayTimes_73 : decode cX3_sayTimes 73 = .ok (.return_, 1) := by decide +kernel
set_option maxRecDepth 20000 in
theorem ggX3_mostLeft_X3_mostFrom : GoodIn wsX3_mostLeft wsX3_mostFrom := goodIn_r _ [5, 6, 7, 8, 9, 10, 11] (by decide +kernel) (by decide +kernel)
set_option maxRecDepth 20000 in
theorem gX3_mostLeft_X3_mostFrom : GoodIn wsX3_mostLeft (wsV RX3 25 RX3 yX3_mostFrom wsX3_mostFrom) := goodIn_app (goodIn_of _ (by decide +kernel)) ggX3_mostLeft_X3_mostFrom
theorem dX3_mostLeft_0 : decode cX3_mostLeft 0 = .ok (.aload_n 0, 1) := by decide +kernel
theorem dX3_mostLeft_1 : decode cX3_mostLeft 1 = .ok (.iconst 0, 1) := by decide +kernel
theorem dX3_mostLeft_2 : decode cX3_mostLeft 2 = .ok (.iload_n 1, 1) := by decide +kernel
theorem dX3_mostLeft_3 : decode cX3_mostLeft 3 = .ok (.invokevirtual 25, 3) := by decide +kernel
theorem dX3_mostLeft_6 : decode cX3_mostLeft 6 = .ok (.ireturn, 1) := by decide +kernel
set_option maxRecDepth 20000 in
theorem ggX3_timesOf_X10_isIn : GoodIn wsX3_timesOf wsX10_isIn := goodIn_r _ [4] (by decide +kernel) (by decide +kernel)
set_option maxRecDepth 20000 in
theorem gX3_timesOf_X10_isIn_n21 : GoodIn wsX3_timesOf (wsX10_isIn) := ggX3_timesOf_X10_isIn
set_option maxRecDepth 20000 in
theorem ggX3_timesOf_X3_fewestTimes : GoodIn wsX3_timesOf wsX3_fewestTimes := goodIn_r _ [9, 10, 11, 12, 13, 14, 15, 16, 17, 18, 19, 20, 21, 22, 23, 24, 25, 26, 27, 28, 29, 30, 31, 32, 33, 34, 35, 36, 37, 38, 39, 40, 41, 42, 43, 44, 8, 45, 46, 47, 48, 49, 50, 51, 52, 53, 54, 55, 56, 57, 58, 59, 60, 61, 62, 63, 64, 65, 66, 67, 68, 69, 3, 70, 73, 74, 75, 76, 77, 78, 79, 80, 81, 82, 71, 72] (by decide +kernel) (by decide +kernel)
set_option maxRecDepth 20000 in
theorem gX3_timesOf_X3_fewestTimes : GoodIn wsX3_timesOf (wsV RX3 44 RX3 yX3_fewestTimes wsX3_fewestTimes) := goodIn_app (goodIn_of _ (by decide +kernel)) ggX3_timesOf_X3_fewestTimes
set_option maxRecDepth 20000 in
theorem ggX3_timesOf_X1_partOf : GoodIn wsX3_timesOf wsX1_partOf := goodIn_r _ [14, 15, 16, 17, 18, 19, 20, 21, 22, 23, 24, 25, 26, 27, 28, 29, 30, 31, 32, 33, 34, 35, 36, 37, 38, 39, 40, 41, 42, 73, 74, 75, 76, 77, 78, 79, 80, 81, 82] (by decide +kernel) (by decide +kernel)
set_option maxRecDepth 20000 in
theorem gX3_timesOf_X1_partOf : GoodIn wsX3_timesOf (wsV RX3 41 RX1 yX1_partOf wsX1_partOf) := goodIn_app (goodIn_of _ (by decide +kernel)) ggX3_timesOf_X1_partOf
theorem dX3_timesOf_0 : decode cX3_timesOf 0 = .ok (.iload_n 2, 1) := by decide +kernel
theorem dX3_timesOf_1 : decode cX3_timesOf 1 = .ok (.istore 4, 2) := by decide +kernel
theorem dX3_timesOf_3 : decode cX3_timesOf 3 = .ok (.iconst 0, 1) := by decide +kernel
theorem dX3_timesOf_4 : decode cX3_timesOf 4 = .ok (.istore 5, 2) := by decide +kernel
theorem dX3_timesOf_6 : decode cX3_timesOf 6 = .ok (.iconst 0, 1) := by decide +kernel
theorem dX3_timesOf_7 : decode cX3_timesOf 7 = .ok (.istore 6, 2) := by decide +kernel
theorem dX3_timesOf_9 : decode cX3_timesOf 9 = .ok (.iload 6, 2) := by decide +kernel
theorem dX3_timesOf_11 : decode cX3_timesOf 11 = .ok (.iload_n 3, 1) := by decide +kernel
theorem dX3_timesOf_12 : decode cX3_timesOf 12 = .ok (.if_icmp .gt 58, 3) := by decide +kernel
theorem dX3_timesOf_15 : decode cX3_timesOf 15 = .ok (.iload 6, 2) := by decide +kernel
theorem dX3_timesOf_17 : decode cX3_timesOf 17 = .ok (.bipush 12, 2) := by decide +kernel
theorem dX3_timesOf_19 : decode cX3_timesOf 19 = .ok (.if_icmp .ge 51, 3) := by decide +kernel
theorem dX3_timesOf_22 : decode cX3_timesOf 22 = .ok (.aload_n 0, 1) := by decide +kernel
theorem dX3_timesOf_23 : decode cX3_timesOf 23 = .ok (.getfield 17, 3) := by decide +kernel
theorem dX3_timesOf_26 : decode cX3_timesOf 26 = .ok (.iload 6, 2) := by decide +kernel
theorem dX3_timesOf_28 : decode cX3_timesOf 28 = .ok (.invokestatic 21, 3) := by decide +kernel
theorem dX3_timesOf_31 : decode cX3_timesOf 31 = .ok (.ifCond .eq 15, 3) := by decide +kernel
theorem dX3_timesOf_34 : decode cX3_timesOf 34 = .ok (.aload_n 0, 1) := by decide +kernel
theorem dX3_timesOf_35 : decode cX3_timesOf 35 = .ok (.aload_n 1, 1) := by decide +kernel
theorem dX3_timesOf_36 : decode cX3_timesOf 36 = .ok (.iload 6, 2) := by decide +kernel
theorem dX3_timesOf_38 : decode cX3_timesOf 38 = .ok (.iload 4, 2) := by decide +kernel
theorem dX3_timesOf_40 : decode cX3_timesOf 40 = .ok (.invokevirtual 44, 3) := by decide +kernel
theorem dX3_timesOf_43 : decode cX3_timesOf 43 = .ok (.goto 4, 3) := by decide +kernel
theorem dX3_timesOf_46 : decode cX3_timesOf 46 = .ok (.iconst 0, 1) := by decide +kernel
theorem dX3_timesOf_47 : decode cX3_timesOf 47 = .ok (.istore 5, 2) := by decide +kernel
theorem dX3_timesOf_49 : decode cX3_timesOf 49 = .ok (.iload 4, 2) := by decide +kernel
theorem dX3_timesOf_51 : decode cX3_timesOf 51 = .ok (.iload 5, 2) := by decide +kernel
theorem dX3_timesOf_53 : decode cX3_timesOf 53 = .ok (.aload_n 1, 1) := by decide +kernel
theorem dX3_timesOf_54 : decode cX3_timesOf 54 = .ok (.iload 6, 2) := by decide +kernel
theorem dX3_timesOf_56 : decode cX3_timesOf 56 = .ok (.iconst 1, 1) := by decide +kernel
theorem dX3_timesOf_57 : decode cX3_timesOf 57 = .ok (.invokevirtual 41, 3) := by decide +kernel
theorem dX3_timesOf_60 : decode cX3_timesOf 60 = .ok (.imul, 1) := by decide +kernel
theorem dX3_timesOf_61 : decode cX3_timesOf 61 = .ok (.isub, 1) := by decide +kernel
theorem dX3_timesOf_62 : decode cX3_timesOf 62 = .ok (.istore 4, 2) := by decide +kernel
theorem dX3_timesOf_64 : decode cX3_timesOf 64 = .ok (.iinc 6 1, 3) := by decide +kernel
theorem dX3_timesOf_67 : decode cX3_timesOf 67 = .ok (.goto (-58), 3) := by decide +kernel
theorem dX3_timesOf_70 : decode cX3_timesOf 70 = .ok (.iload 5, 2) := by decide +kernel
theorem dX3_timesOf_72 : decode cX3_timesOf 72 = .ok (.ireturn, 1) := by decide +kernel
set_option maxRecDepth 20000 in
theorem ggX3_fewestTimes_X1_partOf : GoodIn wsX3_fewestTimes wsX1_partOf := goodIn_r _ [5, 6, 7, 8, 9, 10, 11, 12, 13, 14, 15, 16, 17, 18, 19, 20, 21, 22, 23, 24, 25, 26, 27, 28, 29, 30, 31, 32, 33, 64, 65, 66, 67, 68, 69, 70, 71, 72, 73] (by decide +kernel) (by decide +kernel)
set_option maxRecDepth 20000 in
theorem gX3_fewestTimes_X1_partOf : GoodIn wsX3_fewestTimes (wsV RX3 41 RX1 yX1_partOf wsX1_partOf) := goodIn_app (goodIn_of _ (by decide +kernel)) ggX3_fewestTimes_X1_partOf
set_option maxRecDepth 20000 in
theorem ggX3_fewestTimes_X3_leftOf : GoodIn wsX3_fewestTimes wsX3_leftOf := goodIn_r _ [37, 38, 39, 20, 40, 1, 2, 3, 4, 5, 6, 7, 8, 9, 10, 11, 12, 13, 14, 15, 16, 17, 18, 19, 21, 22, 23, 24, 25, 26, 27, 28, 29, 30, 31, 32, 33, 41, 42, 43, 44, 45, 46, 47, 48, 49, 50, 51, 52, 53, 54, 55, 64, 65, 66, 67, 68, 69, 70, 71, 72, 73] (by decide +kernel) (by decide +kernel)
set_option maxRecDepth 20000 in
theorem gX3_fewestTimes_X3_leftOf : GoodIn wsX3_fewestTimes (va_wsS RX3 37 yX3_leftOf wsX3_leftOf) := goodIn_app (goodIn_of _ (by decide +kernel)) ggX3_fewestTimes_X3_leftOf
set_option maxRecDepth 20000 in
theorem ggX3_fewestTimes_X3_mostFrom : GoodIn wsX3_fewestTimes wsX3_mostFrom := goodIn_r _ [59, 60, 61, 62, 63, 74, 75] (by decide +kernel) (by decide +kernel)
set_option maxRecDepth 20000 in
theorem gX3_fewestTimes_X3_mostFrom : GoodIn wsX3_fewestTimes (wsV RX3 25 RX3 yX3_mostFrom wsX3_mostFrom) := goodIn_app (goodIn_of _ (by decide +kernel)) ggX3_fewestTimes_X3_mostFrom
theorem dX3_fewestTimes_0 : decode cX3_fewestTimes 0 = .ok (.iconst 0, 1) := by decide +kernel
theorem dX3_fewestTimes_1 : decode cX3_fewestTimes 1 = .ok (.istore 4, 2) := by decide +kernel
theorem dX3_fewestTimes_3 : decode cX3_fewestTimes 3 = .ok (.iload 4, 2) := by decide +kernel
theorem dX3_fewestTimes_5 : decode cX3_fewestTimes 5 = .ok (.iconst 5, 1) := by decide +kernel
theorem dX3_fewestTimes_6 : decode cX3_fewestTimes 6 = .ok (.if_icmp .gt 60, 3) := by decide +kernel
theorem dX3_fewestTimes_9 : decode cX3_fewestTimes 9 = .ok (.iload_n 3, 1) := by decide +kernel
theorem dX3_fewestTimes_10 : decode cX3_fewestTimes 10 = .ok (.iload 4, 2) := by decide +kernel
theorem dX3_fewestTimes_12 : decode cX3_fewestTimes 12 = .ok (.aload_n 1, 1) := by decide +kernel
theorem dX3_fewestTimes_13 : decode cX3_fewestTimes 13 = .ok (.iload_n 2, 1) := by decide +kernel
theorem dX3_fewestTimes_14 : decode cX3_fewestTimes 14 = .ok (.iconst 1, 1) := by decide +kernel
theorem dX3_fewestTimes_15 : decode cX3_fewestTimes 15 = .ok (.invokevirtual 41, 3) := by decide +kernel
theorem dX3_fewestTimes_18 : decode cX3_fewestTimes 18 = .ok (.imul, 1) := by decide +kernel
theorem dX3_fewestTimes_19 : decode cX3_fewestTimes 19 = .ok (.isub, 1) := by decide +kernel
theorem dX3_fewestTimes_20 : decode cX3_fewestTimes 20 = .ok (.istore 5, 2) := by decide +kernel
theorem dX3_fewestTimes_22 : decode cX3_fewestTimes 22 = .ok (.aload_n 1, 1) := by decide +kernel
theorem dX3_fewestTimes_23 : decode cX3_fewestTimes 23 = .ok (.iload_n 2, 1) := by decide +kernel
theorem dX3_fewestTimes_24 : decode cX3_fewestTimes 24 = .ok (.iload 4, 2) := by decide +kernel
theorem dX3_fewestTimes_26 : decode cX3_fewestTimes 26 = .ok (.invokestatic 37, 3) := by decide +kernel
theorem dX3_fewestTimes_29 : decode cX3_fewestTimes 29 = .ok (.aload_n 0, 1) := by decide +kernel
theorem dX3_fewestTimes_30 : decode cX3_fewestTimes 30 = .ok (.iload_n 2, 1) := by decide +kernel
theorem dX3_fewestTimes_31 : decode cX3_fewestTimes 31 = .ok (.iconst 1, 1) := by decide +kernel
theorem dX3_fewestTimes_32 : decode cX3_fewestTimes 32 = .ok (.iadd, 1) := by decide +kernel
theorem dX3_fewestTimes_33 : decode cX3_fewestTimes 33 = .ok (.iload 5, 2) := by decide +kernel
theorem dX3_fewestTimes_35 : decode cX3_fewestTimes 35 = .ok (.invokevirtual 25, 3) := by decide +kernel
theorem dX3_fewestTimes_38 : decode cX3_fewestTimes 38 = .ok (.iadd, 1) := by decide +kernel
theorem dX3_fewestTimes_39 : decode cX3_fewestTimes 39 = .ok (.istore 6, 2) := by decide +kernel
theorem dX3_fewestTimes_41 : decode cX3_fewestTimes 41 = .ok (.iload 5, 2) := by decide +kernel
theorem dX3_fewestTimes_43 : decode cX3_fewestTimes 43 = .ok (.ifCond .lt 17, 3) := by decide +kernel
theorem dX3_fewestTimes_46 : decode cX3_fewestTimes 46 = .ok (.iload 6, 2) := by decide +kernel
theorem dX3_fewestTimes_48 : decode cX3_fewestTimes 48 = .ok (.aload_n 0, 1) := by decide +kernel
theorem dX3_fewestTimes_49 : decode cX3_fewestTimes 49 = .ok (.iload_n 2, 1) := by decide +kernel
theorem dX3_fewestTimes_50 : decode cX3_fewestTimes 50 = .ok (.iload_n 3, 1) := by decide +kernel
theorem dX3_fewestTimes_51 : decode cX3_fewestTimes 51 = .ok (.invokevirtual 25, 3) := by decide +kernel
theorem dX3_fewestTimes_54 : decode cX3_fewestTimes 54 = .ok (.if_icmp .ne 6, 3) := by decide +kernel
theorem dX3_fewestTimes_57 : decode cX3_fewestTimes 57 = .ok (.iload 4, 2) := by decide +kernel
theorem dX3_fewestTimes_59 : decode cX3_fewestTimes 59 = .ok (.ireturn, 1) := by decide +kernel
theorem dX3_fewestTimes_60 : decode cX3_fewestTimes 60 = .ok (.iinc 4 1, 3) := by decide +kernel
theorem dX3_fewestTimes_63 : decode cX3_fewestTimes 63 = .ok (.goto (-60), 3) := by decide +kernel
theorem dX3_fewestTimes_66 : decode cX3_fewestTimes 66 = .ok (.iconst 0, 1) := by decide +kernel
theorem dX3_fewestTimes_67 : decode cX3_fewestTimes 67 = .ok (.ireturn, 1) := by decide +kernel
set_option maxRecDepth 20000 in
theorem ggX3_leftOf_X1_partOf : GoodIn wsX3_leftOf wsX1_partOf := goodIn_r _ [9, 10, 11, 12, 13, 14, 15, 16, 17, 18, 19, 20, 21, 22, 23, 3, 24, 25, 26, 27, 28, 29, 30, 31, 32, 33, 34, 35, 36, 52, 53, 54, 55, 56, 57, 58, 59, 60, 61] (by decide +kernel) (by decide +kernel)
set_option maxRecDepth 20000 in
theorem gX3_leftOf_X1_partOf : GoodIn wsX3_leftOf (wsV RX3 41 RX1 yX1_partOf wsX1_partOf) := goodIn_app (goodIn_of _ (by decide +kernel)) ggX3_leftOf_X1_partOf
set_option maxRecDepth 20000 in
theorem ggX3_leftOf_X1_strengthLeft : GoodIn wsX3_leftOf wsX1_strengthLeft := goodIn_r _ [40, 41, 10, 42, 23, 3, 24, 43, 44, 45, 8, 46, 47, 33, 34, 35, 14, 36, 16, 17, 52, 53, 54, 55, 56, 57, 58, 59, 60, 61] (by decide +kernel) (by decide +kernel)
set_option maxRecDepth 20000 in
theorem gX3_leftOf_X1_strengthLeft : GoodIn wsX3_leftOf (wsV RX3 47 RX1 yX1_strengthLeft wsX1_strengthLeft) := goodIn_app (goodIn_of _ (by decide +kernel)) ggX3_leftOf_X1_strengthLeft
set_option maxRecDepth 20000 in
theorem ggX3_leftOf_X1_law : GoodIn wsX3_leftOf wsX1_law := goodIn_r _ [51, 43, 44, 45, 8, 46, 47, 33, 34, 35, 14, 36, 16, 17, 52, 53, 54, 55, 56, 57, 58, 59, 60, 61] (by decide +kernel) (by decide +kernel)
set_option maxRecDepth 20000 in
theorem gX3_leftOf_X1_law : GoodIn wsX3_leftOf (wsV RX3 50 RX1 yX1_law wsX1_law) := goodIn_app (goodIn_of _ (by decide +kernel)) ggX3_leftOf_X1_law
theorem dX3_leftOf_0 : decode cX3_leftOf 0 = .ok (.aload_n 0, 1) := by decide +kernel
theorem dX3_leftOf_1 : decode cX3_leftOf 1 = .ok (.iload_n 1, 1) := by decide +kernel
theorem dX3_leftOf_2 : decode cX3_leftOf 2 = .ok (.iconst 3, 1) := by decide +kernel
theorem dX3_leftOf_3 : decode cX3_leftOf 3 = .ok (.invokevirtual 41, 3) := by decide +kernel
theorem dX3_leftOf_6 : decode cX3_leftOf 6 = .ok (.aload_n 0, 1) := by decide +kernel
theorem dX3_leftOf_7 : decode cX3_leftOf 7 = .ok (.iload_n 1, 1) := by decide +kernel
theorem dX3_leftOf_8 : decode cX3_leftOf 8 = .ok (.iconst 4, 1) := by decide +kernel
theorem dX3_leftOf_9 : decode cX3_leftOf 9 = .ok (.invokevirtual 41, 3) := by decide +kernel
theorem dX3_leftOf_12 : decode cX3_leftOf 12 = .ok (.if_icmp .ne 7, 3) := by decide +kernel
theorem dX3_leftOf_15 : decode cX3_leftOf 15 = .ok (.iconst 1, 1) := by decide +kernel
theorem dX3_leftOf_16 : decode cX3_leftOf 16 = .ok (.goto 4, 3) := by decide +kernel
theorem dX3_leftOf_19 : decode cX3_leftOf 19 = .ok (.iconst 0, 1) := by decide +kernel
theorem dX3_leftOf_20 : decode cX3_leftOf 20 = .ok (.istore_n 3, 1) := by decide +kernel
theorem dX3_leftOf_21 : decode cX3_leftOf 21 = .ok (.aload_n 0, 1) := by decide +kernel
theorem dX3_leftOf_22 : decode cX3_leftOf 22 = .ok (.iload_n 1, 1) := by decide +kernel
theorem dX3_leftOf_23 : decode cX3_leftOf 23 = .ok (.iconst 0, 1) := by decide +kernel
theorem dX3_leftOf_24 : decode cX3_leftOf 24 = .ok (.invokevirtual 47, 3) := by decide +kernel
theorem dX3_leftOf_27 : decode cX3_leftOf 27 = .ok (.aload_n 0, 1) := by decide +kernel
theorem dX3_leftOf_28 : decode cX3_leftOf 28 = .ok (.iload_n 2, 1) := by decide +kernel
theorem dX3_leftOf_29 : decode cX3_leftOf 29 = .ok (.invokevirtual 50, 3) := by decide +kernel
theorem dX3_leftOf_32 : decode cX3_leftOf 32 = .ok (.iadd, 1) := by decide +kernel
theorem dX3_leftOf_33 : decode cX3_leftOf 33 = .ok (.istore 4, 2) := by decide +kernel
theorem dX3_leftOf_35 : decode cX3_leftOf 35 = .ok (.bipush 20, 2) := by decide +kernel
theorem dX3_leftOf_37 : decode cX3_leftOf 37 = .ok (.iload 4, 2) := by decide +kernel
theorem dX3_leftOf_39 : decode cX3_leftOf 39 = .ok (.iload_n 2, 1) := by decide +kernel
theorem dX3_leftOf_40 : decode cX3_leftOf 40 = .ok (.ifCond .le 11, 3) := by decide +kernel
theorem dX3_leftOf_43 : decode cX3_leftOf 43 = .ok (.iload_n 3, 1) := by decide +kernel
theorem dX3_leftOf_44 : decode cX3_leftOf 44 = .ok (.ifCond .eq 7, 3) := by decide +kernel
theorem dX3_leftOf_47 : decode cX3_leftOf 47 = .ok (.iconst 2, 1) := by decide +kernel
theorem dX3_leftOf_48 : decode cX3_leftOf 48 = .ok (.goto 4, 3) := by decide +kernel
theorem dX3_leftOf_51 : decode cX3_leftOf 51 = .ok (.iconst 0, 1) := by decide +kernel
theorem dX3_leftOf_52 : decode cX3_leftOf 52 = .ok (.iadd, 1) := by decide +kernel
theorem dX3_leftOf_53 : decode cX3_leftOf 53 = .ok (.invokestatic 54, 3) := by decide +kernel
theorem dX3_leftOf_56 : decode cX3_leftOf 56 = .ok (.ireturn, 1) := by decide +kernel
set_option maxRecDepth 20000 in
theorem ggX3_mostFrom_X10_at : GoodIn wsX3_mostFrom wsX10_at := goodIn_r _ [4] (by decide +kernel) (by decide +kernel)
set_option maxRecDepth 20000 in
theorem gX3_mostFrom_X10_at_n59 : GoodIn wsX3_mostFrom (wsX10_at) := ggX3_mostFrom_X10_at
theorem dX3_mostFrom_0 : decode cX3_mostFrom 0 = .ok (.aload_n 0, 1) := by decide +kernel
theorem dX3_mostFrom_1 : decode cX3_mostFrom 1 = .ok (.getfield 13, 3) := by decide +kernel
theorem dX3_mostFrom_4 : decode cX3_mostFrom 4 = .ok (.iload_n 1, 1) := by decide +kernel
theorem dX3_mostFrom_5 : decode cX3_mostFrom 5 = .ok (.bipush 100, 2) := by decide +kernel
theorem dX3_mostFrom_7 : decode cX3_mostFrom 7 = .ok (.imul, 1) := by decide +kernel
theorem dX3_mostFrom_8 : decode cX3_mostFrom 8 = .ok (.iload_n 2, 1) := by decide +kernel
theorem dX3_mostFrom_9 : decode cX3_mostFrom 9 = .ok (.iadd, 1) := by decide +kernel
theorem dX3_mostFrom_10 : decode cX3_mostFrom 10 = .ok (.invokestatic 59, 3) := by decide +kernel
theorem dX3_mostFrom_13 : decode cX3_mostFrom 13 = .ok (.ireturn, 1) := by decide +kernel
set_option maxRecDepth 20000 in
theorem ggX3_setMost_X10_set : GoodIn wsX3_setMost wsX10_set := goodIn_r _ [4] (by decide +kernel) (by decide +kernel)
set_option maxRecDepth 20000 in
theorem gX3_setMost_X10_set_n63 : GoodIn wsX3_setMost (wsX10_set) := ggX3_setMost_X10_set
theorem dX3_setMost_0 : decode cX3_setMost 0 = .ok (.aload_n 0, 1) := by decide +kernel
theorem dX3_setMost_1 : decode cX3_setMost 1 = .ok (.getfield 13, 3) := by decide +kernel
theorem dX3_setMost_4 : decode cX3_setMost 4 = .ok (.iload_n 1, 1) := by decide +kernel
theorem dX3_setMost_5 : decode cX3_setMost 5 = .ok (.bipush 100, 2) := by decide +kernel
theorem dX3_setMost_7 : decode cX3_setMost 7 = .ok (.imul, 1) := by decide +kernel
theorem dX3_setMost_8 : decode cX3_setMost 8 = .ok (.iload_n 2, 1) := by decide +kernel
theorem dX3_setMost_9 : decode cX3_setMost 9 = .ok (.iadd, 1) := by decide +kernel
theorem dX3_setMost_10 : decode cX3_setMost 10 = .ok (.iload_n 3, 1) := by decide +kernel
theorem dX3_setMost_11 : decode cX3_setMost 11 = .ok (.invokestatic 63, 3) := by decide +kernel
theorem dX3_setMost_14 : decode cX3_setMost 14 = .ok (.return_, 1) := by decide +kernel
set_option maxRecDepth 20000 in
theorem ggX4_whoseBits_X8_size : GoodIn wsX4_whoseBits wsX8_size := goodIn_r _ [6, 7, 55, 56, 57, 58] (by decide +kernel) (by decide +kernel)
set_option maxRecDepth 20000 in
theorem gX4_whoseBits_X8_size : GoodIn wsX4_whoseBits (wsV RX4 15 RX8 yX8_size wsX8_size) := goodIn_app (goodIn_of _ (by decide +kernel)) ggX4_whoseBits_X8_size
set_option maxRecDepth 20000 in
theorem ggX4_whoseBits_X4_hasAll : GoodIn wsX4_whoseBits wsX4_hasAll := goodIn_r _ [11, 12, 13, 14, 15, 16, 17, 18, 19, 20, 5, 21, 22, 23, 24, 25, 26, 27, 28, 29, 30, 31, 32, 33, 34, 35, 36, 37, 38, 39, 40, 41, 42, 43, 44, 45, 46, 47, 48, 49, 50, 51, 52, 53, 54, 55, 56, 57, 58] (by decide +kernel) (by decide +kernel)
set_option maxRecDepth 20000 in
theorem gX4_whoseBits_X4_hasAll : GoodIn wsX4_whoseBits (va_wsS RX4 21 yX4_hasAll wsX4_hasAll) := goodIn_app (goodIn_of _ (by decide +kernel)) ggX4_whoseBits_X4_hasAll
theorem dX4_whoseBits_0 : decode cX4_whoseBits 0 = .ok (.iconst 0, 1) := by decide +kernel
theorem dX4_whoseBits_1 : decode cX4_whoseBits 1 = .ok (.istore_n 1, 1) := by decide +kernel
theorem dX4_whoseBits_2 : decode cX4_whoseBits 2 = .ok (.iconst 0, 1) := by decide +kernel
theorem dX4_whoseBits_3 : decode cX4_whoseBits 3 = .ok (.istore_n 2, 1) := by decide +kernel
theorem dX4_whoseBits_4 : decode cX4_whoseBits 4 = .ok (.iload_n 2, 1) := by decide +kernel
theorem dX4_whoseBits_5 : decode cX4_whoseBits 5 = .ok (.aload_n 0, 1) := by decide +kernel
theorem dX4_whoseBits_6 : decode cX4_whoseBits 6 = .ok (.getfield 9, 3) := by decide +kernel
theorem dX4_whoseBits_9 : decode cX4_whoseBits 9 = .ok (.invokevirtual 15, 3) := by decide +kernel
theorem dX4_whoseBits_12 : decode cX4_whoseBits 12 = .ok (.if_icmp .ge 23, 3) := by decide +kernel
theorem dX4_whoseBits_15 : decode cX4_whoseBits 15 = .ok (.aload_n 0, 1) := by decide +kernel
theorem dX4_whoseBits_16 : decode cX4_whoseBits 16 = .ok (.iload_n 2, 1) := by decide +kernel
theorem dX4_whoseBits_17 : decode cX4_whoseBits 17 = .ok (.invokestatic 21, 3) := by decide +kernel
theorem dX4_whoseBits_20 : decode cX4_whoseBits 20 = .ok (.ifCond .eq 9, 3) := by decide +kernel
theorem dX4_whoseBits_23 : decode cX4_whoseBits 23 = .ok (.iload_n 1, 1) := by decide +kernel
theorem dX4_whoseBits_24 : decode cX4_whoseBits 24 = .ok (.iconst 1, 1) := by decide +kernel
theorem dX4_whoseBits_25 : decode cX4_whoseBits 25 = .ok (.iload_n 2, 1) := by decide +kernel
theorem dX4_whoseBits_26 : decode cX4_whoseBits 26 = .ok (.ishl, 1) := by decide +kernel
theorem dX4_whoseBits_27 : decode cX4_whoseBits 27 = .ok (.ior, 1) := by decide +kernel
theorem dX4_whoseBits_28 : decode cX4_whoseBits 28 = .ok (.istore_n 1, 1) := by decide +kernel
theorem dX4_whoseBits_29 : decode cX4_whoseBits 29 = .ok (.iinc 2 1, 3) := by decide +kernel
theorem dX4_whoseBits_32 : decode cX4_whoseBits 32 = .ok (.goto (-28), 3) := by decide +kernel
theorem dX4_whoseBits_35 : decode cX4_whoseBits 35 = .ok (.iload_n 1, 1) := by decide +kernel
theorem dX4_whoseBits_36 : decode cX4_whoseBits 36 = .ok (.ireturn, 1) := by decide +kernel
set_option maxRecDepth 20000 in
theorem ggX4_hasAll_X1_hasOf : GoodIn wsX4_hasAll wsX1_hasOf := goodIn_r _ [5, 6, 7, 8, 9, 10, 11, 12, 13, 39, 40, 41, 42, 43, 44, 45, 46, 47, 48] (by decide +kernel) (by decide +kernel)
set_option maxRecDepth 20000 in
theorem gX4_hasAll_X1_hasOf : GoodIn wsX4_hasAll (wsV RX4 27 RX1 yX1_hasOf wsX1_hasOf) := goodIn_app (goodIn_of _ (by decide +kernel)) ggX4_hasAll_X1_hasOf
set_option maxRecDepth 20000 in
theorem ggX4_hasAll_X1_partOf : GoodIn wsX4_hasAll wsX1_partOf := goodIn_r _ [17, 18, 19, 20, 21, 10, 22, 12, 13, 23, 24, 25, 26, 27, 28, 29, 30, 31, 32, 33, 34, 35, 36, 37, 38, 7, 8, 9, 11, 39, 40, 41, 42, 43, 44, 45, 46, 47, 48] (by decide +kernel) (by decide +kernel)
set_option maxRecDepth 20000 in
theorem gX4_hasAll_X1_partOf : GoodIn wsX4_hasAll (wsV RX4 31 RX1 yX1_partOf wsX1_partOf) := goodIn_app (goodIn_of _ (by decide +kernel)) ggX4_hasAll_X1_partOf
theorem dX4_hasAll_0 : decode cX4_hasAll 0 = .ok (.iconst 1, 1) := by decide +kernel
theorem dX4_hasAll_1 : decode cX4_hasAll 1 = .ok (.istore_n 2, 1) := by decide +kernel
theorem dX4_hasAll_2 : decode cX4_hasAll 2 = .ok (.iconst 0, 1) := by decide +kernel
theorem dX4_hasAll_3 : decode cX4_hasAll 3 = .ok (.istore_n 3, 1) := by decide +kernel
theorem dX4_hasAll_4 : decode cX4_hasAll 4 = .ok (.iload_n 3, 1) := by decide +kernel
theorem dX4_hasAll_5 : decode cX4_hasAll 5 = .ok (.iconst 5, 1) := by decide +kernel
theorem dX4_hasAll_6 : decode cX4_hasAll 6 = .ok (.if_icmp .ge 43, 3) := by decide +kernel
theorem dX4_hasAll_9 : decode cX4_hasAll 9 = .ok (.aload_n 0, 1) := by decide +kernel
theorem dX4_hasAll_10 : decode cX4_hasAll 10 = .ok (.iload_n 3, 1) := by decide +kernel
theorem dX4_hasAll_11 : decode cX4_hasAll 11 = .ok (.invokevirtual 27, 3) := by decide +kernel
theorem dX4_hasAll_14 : decode cX4_hasAll 14 = .ok (.istore 4, 2) := by decide +kernel
theorem dX4_hasAll_16 : decode cX4_hasAll 16 = .ok (.iload_n 2, 1) := by decide +kernel
theorem dX4_hasAll_17 : decode cX4_hasAll 17 = .ok (.ifCond .eq 24, 3) := by decide +kernel
theorem dX4_hasAll_20 : decode cX4_hasAll 20 = .ok (.iload 4, 2) := by decide +kernel
theorem dX4_hasAll_22 : decode cX4_hasAll 22 = .ok (.iconst (-1), 1) := by decide +kernel
theorem dX4_hasAll_23 : decode cX4_hasAll 23 = .ok (.if_icmp .eq 14, 3) := by decide +kernel
theorem dX4_hasAll_26 : decode cX4_hasAll 26 = .ok (.iload 4, 2) := by decide +kernel
theorem dX4_hasAll_28 : decode cX4_hasAll 28 = .ok (.aload_n 0, 1) := by decide +kernel
theorem dX4_hasAll_29 : decode cX4_hasAll 29 = .ok (.iload_n 1, 1) := by decide +kernel
theorem dX4_hasAll_30 : decode cX4_hasAll 30 = .ok (.iload_n 3, 1) := by decide +kernel
theorem dX4_hasAll_31 : decode cX4_hasAll 31 = .ok (.invokevirtual 31, 3) := by decide +kernel
theorem dX4_hasAll_34 : decode cX4_hasAll 34 = .ok (.if_icmp .ne 7, 3) := by decide +kernel
theorem dX4_hasAll_37 : decode cX4_hasAll 37 = .ok (.iconst 1, 1) := by decide +kernel
theorem dX4_hasAll_38 : decode cX4_hasAll 38 = .ok (.goto 4, 3) := by decide +kernel
theorem dX4_hasAll_41 : decode cX4_hasAll 41 = .ok (.iconst 0, 1) := by decide +kernel
theorem dX4_hasAll_42 : decode cX4_hasAll 42 = .ok (.istore_n 2, 1) := by decide +kernel
theorem dX4_hasAll_43 : decode cX4_hasAll 43 = .ok (.iinc 3 1, 3) := by decide +kernel
theorem dX4_hasAll_46 : decode cX4_hasAll 46 = .ok (.goto (-42), 3) := by decide +kernel
theorem dX4_hasAll_49 : decode cX4_hasAll 49 = .ok (.iload_n 2, 1) := by decide +kernel
theorem dX4_hasAll_50 : decode cX4_hasAll 50 = .ok (.ireturn, 1) := by decide +kernel
set_option maxRecDepth 20000 in
theorem ggX4_seenOf_X10_isIn : GoodIn wsX4_seenOf wsX10_isIn := goodIn_r _ [4] (by decide +kernel) (by decide +kernel)
set_option maxRecDepth 20000 in
theorem gX4_seenOf_X10_isIn_n35 : GoodIn wsX4_seenOf (wsX10_isIn) := ggX4_seenOf_X10_isIn
set_option maxRecDepth 20000 in
theorem ggX4_seenOf_X8_number : GoodIn wsX4_seenOf wsX8_number := goodIn_r _ [9, 10, 11, 18, 19, 20, 21] (by decide +kernel) (by decide +kernel)
set_option maxRecDepth 20000 in
theorem gX4_seenOf_X8_number : GoodIn wsX4_seenOf (wsV RX4 39 RX8 yX8_number wsX8_number) := goodIn_app (goodIn_of _ (by decide +kernel)) ggX4_seenOf_X8_number
theorem dX4_seenOf_0 : decode cX4_seenOf 0 = .ok (.iconst 0, 1) := by decide +kernel
theorem dX4_seenOf_1 : decode cX4_seenOf 1 = .ok (.istore_n 2, 1) := by decide +kernel
theorem dX4_seenOf_2 : decode cX4_seenOf 2 = .ok (.iconst 0, 1) := by decide +kernel
theorem dX4_seenOf_3 : decode cX4_seenOf 3 = .ok (.istore_n 3, 1) := by decide +kernel
theorem dX4_seenOf_4 : decode cX4_seenOf 4 = .ok (.iload_n 3, 1) := by decide +kernel
theorem dX4_seenOf_5 : decode cX4_seenOf 5 = .ok (.bipush 12, 2) := by decide +kernel
theorem dX4_seenOf_7 : decode cX4_seenOf 7 = .ok (.if_icmp .ge 29, 3) := by decide +kernel
theorem dX4_seenOf_10 : decode cX4_seenOf 10 = .ok (.iload_n 1, 1) := by decide +kernel
theorem dX4_seenOf_11 : decode cX4_seenOf 11 = .ok (.iload_n 3, 1) := by decide +kernel
theorem dX4_seenOf_12 : decode cX4_seenOf 12 = .ok (.invokestatic 35, 3) := by decide +kernel
theorem dX4_seenOf_15 : decode cX4_seenOf 15 = .ok (.ifCond .eq 15, 3) := by decide +kernel
theorem dX4_seenOf_18 : decode cX4_seenOf 18 = .ok (.iload_n 2, 1) := by decide +kernel
theorem dX4_seenOf_19 : decode cX4_seenOf 19 = .ok (.aload_n 0, 1) := by decide +kernel
theorem dX4_seenOf_20 : decode cX4_seenOf 20 = .ok (.getfield 9, 3) := by decide +kernel
theorem dX4_seenOf_23 : decode cX4_seenOf 23 = .ok (.iload_n 3, 1) := by decide +kernel
theorem dX4_seenOf_24 : decode cX4_seenOf 24 = .ok (.iconst 5, 1) := by decide +kernel
theorem dX4_seenOf_25 : decode cX4_seenOf 25 = .ok (.invokevirtual 39, 3) := by decide +kernel
theorem dX4_seenOf_28 : decode cX4_seenOf 28 = .ok (.iadd, 1) := by decide +kernel
theorem dX4_seenOf_29 : decode cX4_seenOf 29 = .ok (.istore_n 2, 1) := by decide +kernel
theorem dX4_seenOf_30 : decode cX4_seenOf 30 = .ok (.iinc 3 1, 3) := by decide +kernel
theorem dX4_seenOf_33 : decode cX4_seenOf 33 = .ok (.goto (-29), 3) := by decide +kernel
theorem dX4_seenOf_36 : decode cX4_seenOf 36 = .ok (.iload_n 2, 1) := by decide +kernel
theorem dX4_seenOf_37 : decode cX4_seenOf 37 = .ok (.ireturn, 1) := by decide +kernel
set_option maxRecDepth 20000 in
theorem ggX4_alikeIn_X10_isIn : GoodIn wsX4_alikeIn wsX10_isIn := goodIn_r _ [3] (by decide +kernel) (by decide +kernel)
set_option maxRecDepth 20000 in
theorem gX4_alikeIn_X10_isIn_n35 : GoodIn wsX4_alikeIn (wsX10_isIn) := ggX4_alikeIn_X10_isIn
set_option maxRecDepth 20000 in
theorem ggX4_alikeIn_X1_partOf : GoodIn wsX4_alikeIn wsX1_partOf := goodIn_r _ [8, 9, 10, 11, 12, 13, 14, 15, 16, 17, 18, 19, 20, 21, 22, 23, 24, 25, 26, 27, 28, 29, 30, 31, 32, 33, 34, 35, 36, 37, 38, 39, 40, 41, 42, 43, 44, 45, 46] (by decide +kernel) (by decide +kernel)
set_option maxRecDepth 20000 in
theorem gX4_alikeIn_X1_partOf : GoodIn wsX4_alikeIn (wsV RX4 31 RX1 yX1_partOf wsX1_partOf) := goodIn_app (goodIn_of _ (by decide +kernel)) ggX4_alikeIn_X1_partOf
theorem dX4_alikeIn_0 : decode cX4_alikeIn 0 = .ok (.iconst 0, 1) := by decide +kernel
theorem dX4_alikeIn_1 : decode cX4_alikeIn 1 = .ok (.istore 4, 2) := by decide +kernel
theorem dX4_alikeIn_3 : decode cX4_alikeIn 3 = .ok (.iconst 0, 1) := by decide +kernel
theorem dX4_alikeIn_4 : decode cX4_alikeIn 4 = .ok (.istore 5, 2) := by decide +kernel
theorem dX4_alikeIn_6 : decode cX4_alikeIn 6 = .ok (.iload 5, 2) := by decide +kernel
theorem dX4_alikeIn_8 : decode cX4_alikeIn 8 = .ok (.bipush 12, 2) := by decide +kernel
theorem dX4_alikeIn_10 : decode cX4_alikeIn 10 = .ok (.if_icmp .ge 43, 3) := by decide +kernel
theorem dX4_alikeIn_13 : decode cX4_alikeIn 13 = .ok (.iload_n 1, 1) := by decide +kernel
theorem dX4_alikeIn_14 : decode cX4_alikeIn 14 = .ok (.iload 5, 2) := by decide +kernel
