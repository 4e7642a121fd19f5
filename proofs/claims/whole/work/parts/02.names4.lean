theorem dX10_tally_86 : decode cX10_tally 86 = .ok (.getfield 10, 3) := by decide +kernel
theorem dX10_tally_89 : decode cX10_tally 89 = .ok (.getfield 104, 3) := by decide +kernel
theorem dX10_tally_92 : decode cX10_tally 92 = .ok (.ireturn, 1) := by decide +kernel
theorem dX10_imageAt_0 : decode cX10_imageAt 0 = .ok (.iload_n 1, 1) := by decide +kernel
theorem dX10_imageAt_1 : decode cX10_imageAt 1 = .ok (.ifCond .lt 21, 3) := by decide +kernel
theorem dX10_imageAt_4 : decode cX10_imageAt 4 = .ok (.iload_n 1, 1) := by decide +kernel
theorem dX10_imageAt_5 : decode cX10_imageAt 5 = .ok (.aload_n 0, 1) := by decide +kernel
theorem dX10_imageAt_6 : decode cX10_imageAt 6 = .ok (.getfield 23, 3) := by decide +kernel
theorem dX10_imageAt_9 : decode cX10_imageAt 9 = .ok (.arraylength, 1) := by decide +kernel
theorem dX10_imageAt_10 : decode cX10_imageAt 10 = .ok (.if_icmp .ge 12, 3) := by decide +kernel
theorem dX10_imageAt_13 : decode cX10_imageAt 13 = .ok (.aload_n 0, 1) := by decide +kernel
theorem dX10_imageAt_14 : decode cX10_imageAt 14 = .ok (.getfield 23, 3) := by decide +kernel
theorem dX10_imageAt_17 : decode cX10_imageAt 17 = .ok (.iload_n 1, 1) := by decide +kernel
theorem dX10_imageAt_18 : decode cX10_imageAt 18 = .ok (.aaload, 1) := by decide +kernel
theorem dX10_imageAt_19 : decode cX10_imageAt 19 = .ok (.goto 4, 3) := by decide +kernel
theorem dX10_imageAt_22 : decode cX10_imageAt 22 = .ok (.aconst_null, 1) := by decide +kernel
theorem dX10_imageAt_23 : decode cX10_imageAt 23 = .ok (.areturn, 1) := by decide +kernel
set_option maxRecDepth 20000 in
theorem ggX10_setFraction_X10_commonDivisor : GoodIn wsX10_setFraction wsX10_commonDivisor := goodIn_r _ [6] (by decide +kernel) (by decide +kernel)
set_option maxRecDepth 20000 in
theorem gX10_setFraction_X10_commonDivisor : GoodIn wsX10_setFraction (va_wsS RX10 262 yX10_commonDivisor wsX10_commonDivisor) := goodIn_app (goodIn_of _ (by decide +kernel)) ggX10_setFraction_X10_commonDivisor
theorem dX10_setFraction_0 : decode cX10_setFraction 0 = .ok (.lload_n 1, 1) := by decide +kernel
theorem dX10_setFraction_1 : decode cX10_setFraction 1 = .ok (.lload_n 3, 1) := by decide +kernel
theorem dX10_setFraction_2 : decode cX10_setFraction 2 = .ok (.invokestatic 262, 3) := by decide +kernel
theorem dX10_setFraction_5 : decode cX10_setFraction 5 = .ok (.lstore 5, 2) := by decide +kernel
theorem dX10_setFraction_7 : decode cX10_setFraction 7 = .ok (.lload 5, 2) := by decide +kernel
theorem dX10_setFraction_9 : decode cX10_setFraction 9 = .ok (.lconst 0, 1) := by decide +kernel
theorem dX10_setFraction_10 : decode cX10_setFraction 10 = .ok (.lcmp, 1) := by decide +kernel
theorem dX10_setFraction_11 : decode cX10_setFraction 11 = .ok (.ifCond .le 19, 3) := by decide +kernel
theorem dX10_setFraction_14 : decode cX10_setFraction 14 = .ok (.aload_n 0, 1) := by decide +kernel
theorem dX10_setFraction_15 : decode cX10_setFraction 15 = .ok (.lload_n 1, 1) := by decide +kernel
theorem dX10_setFraction_16 : decode cX10_setFraction 16 = .ok (.lload 5, 2) := by decide +kernel
theorem dX10_setFraction_18 : decode cX10_setFraction 18 = .ok (.ldiv, 1) := by decide +kernel
theorem dX10_setFraction_19 : decode cX10_setFraction 19 = .ok (.putfield 57, 3) := by decide +kernel
theorem dX10_setFraction_22 : decode cX10_setFraction 22 = .ok (.aload_n 0, 1) := by decide +kernel
theorem dX10_setFraction_23 : decode cX10_setFraction 23 = .ok (.lload_n 3, 1) := by decide +kernel
theorem dX10_setFraction_24 : decode cX10_setFraction 24 = .ok (.lload 5, 2) := by decide +kernel
theorem dX10_setFraction_26 : decode cX10_setFraction 26 = .ok (.ldiv, 1) := by decide +kernel
theorem dX10_setFraction_27 : decode cX10_setFraction 27 = .ok (.putfield 61, 3) := by decide +kernel
theorem dX10_setFraction_30 : decode cX10_setFraction 30 = .ok (.return_, 1) := by decide +kernel
theorem dX10_commonDivisor_0 : decode cX10_commonDivisor 0 = .ok (.iconst 0, 1) := by decide +kernel
theorem dX10_commonDivisor_1 : decode cX10_commonDivisor 1 = .ok (.istore 4, 2) := by decide +kernel
theorem dX10_commonDivisor_3 : decode cX10_commonDivisor 3 = .ok (.iload 4, 2) := by decide +kernel
theorem dX10_commonDivisor_5 : decode cX10_commonDivisor 5 = .ok (.sipush 200, 3) := by decide +kernel
theorem dX10_commonDivisor_8 : decode cX10_commonDivisor 8 = .ok (.if_icmp .ge 25, 3) := by decide +kernel
theorem dX10_commonDivisor_11 : decode cX10_commonDivisor 11 = .ok (.lload_n 2, 1) := by decide +kernel
theorem dX10_commonDivisor_12 : decode cX10_commonDivisor 12 = .ok (.lconst 0, 1) := by decide +kernel
theorem dX10_commonDivisor_13 : decode cX10_commonDivisor 13 = .ok (.lcmp, 1) := by decide +kernel
theorem dX10_commonDivisor_14 : decode cX10_commonDivisor 14 = .ok (.ifCond .eq 19, 3) := by decide +kernel
theorem dX10_commonDivisor_17 : decode cX10_commonDivisor 17 = .ok (.lload_n 0, 1) := by decide +kernel
theorem dX10_commonDivisor_18 : decode cX10_commonDivisor 18 = .ok (.lload_n 2, 1) := by decide +kernel
theorem dX10_commonDivisor_19 : decode cX10_commonDivisor 19 = .ok (.lrem, 1) := by decide +kernel
theorem dX10_commonDivisor_20 : decode cX10_commonDivisor 20 = .ok (.lstore 5, 2) := by decide +kernel
theorem dX10_commonDivisor_22 : decode cX10_commonDivisor 22 = .ok (.lload_n 2, 1) := by decide +kernel
theorem dX10_commonDivisor_23 : decode cX10_commonDivisor 23 = .ok (.lstore_n 0, 1) := by decide +kernel
theorem dX10_commonDivisor_24 : decode cX10_commonDivisor 24 = .ok (.lload 5, 2) := by decide +kernel
theorem dX10_commonDivisor_26 : decode cX10_commonDivisor 26 = .ok (.lstore_n 2, 1) := by decide +kernel
theorem dX10_commonDivisor_27 : decode cX10_commonDivisor 27 = .ok (.iinc 4 1, 3) := by decide +kernel
theorem dX10_commonDivisor_30 : decode cX10_commonDivisor 30 = .ok (.goto (-27), 3) := by decide +kernel
theorem dX10_commonDivisor_33 : decode cX10_commonDivisor 33 = .ok (.lload_n 0, 1) := by decide +kernel
theorem dX10_commonDivisor_34 : decode cX10_commonDivisor 34 = .ok (.lreturn, 1) := by decide +kernel
theorem dX10_within_0 : decode cX10_within 0 = .ok (.iload_n 0, 1) := by decide +kernel
theorem dX10_within_1 : decode cX10_within 1 = .ok (.iload_n 1, 1) := by decide +kernel
theorem dX10_within_2 : decode cX10_within 2 = .ok (.if_icmp .lt 12, 3) := by decide +kernel
theorem dX10_within_5 : decode cX10_within 5 = .ok (.iload_n 0, 1) := by decide +kernel
theorem dX10_within_6 : decode cX10_within 6 = .ok (.iload_n 2, 1) := by decide +kernel
theorem dX10_within_7 : decode cX10_within 7 = .ok (.if_icmp .gt 7, 3) := by decide +kernel
theorem dX10_within_10 : decode cX10_within 10 = .ok (.iconst 1, 1) := by decide +kernel
theorem dX10_within_11 : decode cX10_within 11 = .ok (.goto 4, 3) := by decide +kernel
theorem dX10_within_14 : decode cX10_within 14 = .ok (.iconst 0, 1) := by decide +kernel
theorem dX10_within_15 : decode cX10_within 15 = .ok (.ireturn, 1) := by decide +kernel
theorem dX10_isIn_0 : decode cX10_isIn 0 = .ok (.iload_n 1, 1) := by decide +kernel
theorem dX10_isIn_1 : decode cX10_isIn 1 = .ok (.ifCond .lt 22, 3) := by decide +kernel
theorem dX10_isIn_4 : decode cX10_isIn 4 = .ok (.iload_n 1, 1) := by decide +kernel
theorem dX10_isIn_5 : decode cX10_isIn 5 = .ok (.bipush 32, 2) := by decide +kernel
theorem dX10_isIn_7 : decode cX10_isIn 7 = .ok (.if_icmp .ge 16, 3) := by decide +kernel
theorem dX10_isIn_10 : decode cX10_isIn 10 = .ok (.iload_n 0, 1) := by decide +kernel
theorem dX10_isIn_11 : decode cX10_isIn 11 = .ok (.iload_n 1, 1) := by decide +kernel
theorem dX10_isIn_12 : decode cX10_isIn 12 = .ok (.iushr, 1) := by decide +kernel
theorem dX10_isIn_13 : decode cX10_isIn 13 = .ok (.iconst 1, 1) := by decide +kernel
theorem dX10_isIn_14 : decode cX10_isIn 14 = .ok (.iand, 1) := by decide +kernel
theorem dX10_isIn_15 : decode cX10_isIn 15 = .ok (.iconst 1, 1) := by decide +kernel
theorem dX10_isIn_16 : decode cX10_isIn 16 = .ok (.if_icmp .ne 7, 3) := by decide +kernel
theorem dX10_isIn_19 : decode cX10_isIn 19 = .ok (.iconst 1, 1) := by decide +kernel
theorem dX10_isIn_20 : decode cX10_isIn 20 = .ok (.goto 4, 3) := by decide +kernel
theorem dX10_isIn_23 : decode cX10_isIn 23 = .ok (.iconst 0, 1) := by decide +kernel
theorem dX10_isIn_24 : decode cX10_isIn 24 = .ok (.ireturn, 1) := by decide +kernel
theorem dX10_at_0 : decode cX10_at 0 = .ok (.aload_n 0, 1) := by decide +kernel
theorem dX10_at_1 : decode cX10_at 1 = .ok (.ifnull 19, 3) := by decide +kernel
theorem dX10_at_4 : decode cX10_at 4 = .ok (.iload_n 1, 1) := by decide +kernel
theorem dX10_at_5 : decode cX10_at 5 = .ok (.ifCond .lt 15, 3) := by decide +kernel
theorem dX10_at_8 : decode cX10_at 8 = .ok (.iload_n 1, 1) := by decide +kernel
theorem dX10_at_9 : decode cX10_at 9 = .ok (.aload_n 0, 1) := by decide +kernel
theorem dX10_at_10 : decode cX10_at 10 = .ok (.arraylength, 1) := by decide +kernel
theorem dX10_at_11 : decode cX10_at 11 = .ok (.if_icmp .ge 9, 3) := by decide +kernel
theorem dX10_at_14 : decode cX10_at 14 = .ok (.aload_n 0, 1) := by decide +kernel
theorem dX10_at_15 : decode cX10_at 15 = .ok (.iload_n 1, 1) := by decide +kernel
theorem dX10_at_16 : decode cX10_at 16 = .ok (.iaload, 1) := by decide +kernel
theorem dX10_at_17 : decode cX10_at 17 = .ok (.goto 4, 3) := by decide +kernel
theorem dX10_at_20 : decode cX10_at 20 = .ok (.iconst 0, 1) := by decide +kernel
theorem dX10_at_21 : decode cX10_at 21 = .ok (.ireturn, 1) := by decide +kernel
theorem dX10_set_0 : decode cX10_set 0 = .ok (.aload_n 0, 1) := by decide +kernel
theorem dX10_set_1 : decode cX10_set 1 = .ok (.ifnull 17, 3) := by decide +kernel
theorem dX10_set_4 : decode cX10_set 4 = .ok (.iload_n 1, 1) := by decide +kernel
theorem dX10_set_5 : decode cX10_set 5 = .ok (.ifCond .lt 13, 3) := by decide +kernel
theorem dX10_set_8 : decode cX10_set 8 = .ok (.iload_n 1, 1) := by decide +kernel
theorem dX10_set_9 : decode cX10_set 9 = .ok (.aload_n 0, 1) := by decide +kernel
theorem dX10_set_10 : decode cX10_set 10 = .ok (.arraylength, 1) := by decide +kernel
theorem dX10_set_11 : decode cX10_set 11 = .ok (.if_icmp .ge 7, 3) := by decide +kernel
theorem dX10_set_14 : decode cX10_set 14 = .ok (.aload_n 0, 1) := by decide +kernel
theorem dX10_set_15 : decode cX10_set 15 = .ok (.iload_n 1, 1) := by decide +kernel
theorem dX10_set_16 : decode cX10_set 16 = .ok (.iload_n 2, 1) := by decide +kernel
theorem dX10_set_17 : decode cX10_set 17 = .ok (.iastore, 1) := by decide +kernel
theorem dX10_set_18 : decode cX10_set 18 = .ok (.return_, 1) := by decide +kernel
set_option maxRecDepth 20000 in
theorem ggX11_init_X11_makeAnew : GoodIn wsX11_init wsX11_makeAnew := goodIn_r _ [21, 5, 22, 23, 24, 25, 26, 27, 28, 29, 30, 31, 32, 33, 34, 35, 36, 37, 38, 39, 40, 41] (by decide +kernel) (by decide +kernel)
set_option maxRecDepth 20000 in
theorem gX11_init_X11_makeAnew : GoodIn wsX11_init (wsV RX11 43 RX11 yX11_makeAnew wsX11_makeAnew) := goodIn_app (goodIn_of _ (by decide +kernel)) ggX11_init_X11_makeAnew
theorem dX11_init_0 : decode cX11_init 0 = .ok (.aload_n 0, 1) := by decide +kernel
theorem dX11_init_1 : decode cX11_init 1 = .ok (.invokespecial 1, 3) := by decide +kernel
theorem dX11_init_4 : decode cX11_init 4 = .ok (.aload_n 0, 1) := by decide +kernel
theorem dX11_init_5 : decode cX11_init 5 = .ok (.sipush 960, 3) := by decide +kernel
theorem dX11_init_8 : decode cX11_init 8 = .ok (.newarray .int, 2) := by decide +kernel
theorem dX11_init_10 : decode cX11_init 10 = .ok (.putfield 7, 3) := by decide +kernel
theorem dX11_init_13 : decode cX11_init 13 = .ok (.aload_n 0, 1) := by decide +kernel
theorem dX11_init_14 : decode cX11_init 14 = .ok (.bipush 96, 2) := by decide +kernel
theorem dX11_init_16 : decode cX11_init 16 = .ok (.newarray .long, 2) := by decide +kernel
theorem dX11_init_18 : decode cX11_init 18 = .ok (.putfield 13, 3) := by decide +kernel
theorem dX11_init_21 : decode cX11_init 21 = .ok (.aload_n 0, 1) := by decide +kernel
theorem dX11_init_22 : decode cX11_init 22 = .ok (.iconst 2, 1) := by decide +kernel
theorem dX11_init_23 : decode cX11_init 23 = .ok (.newarray .boolean, 2) := by decide +kernel
theorem dX11_init_25 : decode cX11_init 25 = .ok (.putfield 17, 3) := by decide +kernel
theorem dX11_init_28 : decode cX11_init 28 = .ok (.aload_n 0, 1) := by decide +kernel
theorem dX11_init_29 : decode cX11_init 29 = .ok (.sipush 300, 3) := by decide +kernel
theorem dX11_init_32 : decode cX11_init 32 = .ok (.newarray .int, 2) := by decide +kernel
theorem dX11_init_34 : decode cX11_init 34 = .ok (.putfield 21, 3) := by decide +kernel
theorem dX11_init_37 : decode cX11_init 37 = .ok (.aload_n 0, 1) := by decide +kernel
theorem dX11_init_38 : decode cX11_init 38 = .ok (.lconst 1, 1) := by decide +kernel
theorem dX11_init_39 : decode cX11_init 39 = .ok (.putfield 24, 3) := by decide +kernel
theorem dX11_init_42 : decode cX11_init 42 = .ok (.aload_n 0, 1) := by decide +kernel
theorem dX11_init_43 : decode cX11_init 43 = .ok (.iconst 3, 1) := by decide +kernel
theorem dX11_init_44 : decode cX11_init 44 = .ok (.newarray .int, 2) := by decide +kernel
theorem dX11_init_46 : decode cX11_init 46 = .ok (.putfield 28, 3) := by decide +kernel
theorem dX11_init_49 : decode cX11_init 49 = .ok (.aload_n 0, 1) := by decide +kernel
theorem dX11_init_50 : decode cX11_init 50 = .ok (.bipush 60, 2) := by decide +kernel
theorem dX11_init_52 : decode cX11_init 52 = .ok (.newarray .int, 2) := by decide +kernel
theorem dX11_init_54 : decode cX11_init 54 = .ok (.putfield 31, 3) := by decide +kernel
theorem dX11_init_57 : decode cX11_init 57 = .ok (.aload_n 0, 1) := by decide +kernel
theorem dX11_init_58 : decode cX11_init 58 = .ok (.bipush 60, 2) := by decide +kernel
theorem dX11_init_60 : decode cX11_init 60 = .ok (.newarray .long, 2) := by decide +kernel
theorem dX11_init_62 : decode cX11_init 62 = .ok (.putfield 34, 3) := by decide +kernel
theorem dX11_init_65 : decode cX11_init 65 = .ok (.aload_n 0, 1) := by decide +kernel
theorem dX11_init_66 : decode cX11_init 66 = .ok (.sipush 300, 3) := by decide +kernel
theorem dX11_init_69 : decode cX11_init 69 = .ok (.newarray .int, 2) := by decide +kernel
theorem dX11_init_71 : decode cX11_init 71 = .ok (.putfield 37, 3) := by decide +kernel
theorem dX11_init_74 : decode cX11_init 74 = .ok (.aload_n 0, 1) := by decide +kernel
theorem dX11_init_75 : decode cX11_init 75 = .ok (.sipush 1300, 3) := by decide +kernel
theorem dX11_init_78 : decode cX11_init 78 = .ok (.newarray .int, 2) := by decide +kernel
theorem dX11_init_80 : decode cX11_init 80 = .ok (.putfield 40, 3) := by decide +kernel
theorem dX11_init_83 : decode cX11_init 83 = .ok (.aload_n 0, 1) := by decide +kernel
theorem dX11_init_84 : decode cX11_init 84 = .ok (.iconst 0, 1) := by decide +kernel
theorem dX11_init_85 : decode cX11_init 85 = .ok (.invokevirtual 43, 3) := by decide +kernel
theorem dX11_init_88 : decode cX11_init 88 = .ok (.return_, 1) := by decide +kernel
theorem dX11_in_0 : decode cX11_in 0 = .ok (.lload_n 0, 1) := by decide +kernel
theorem dX11_in_1 : decode cX11_in 1 = .ok (.lload_n 2, 1) := by decide +kernel
theorem dX11_in_2 : decode cX11_in 2 = .ok (.lcmp, 1) := by decide +kernel
theorem dX11_in_3 : decode cX11_in 3 = .ok (.ifCond .lt 14, 3) := by decide +kernel
theorem dX11_in_6 : decode cX11_in 6 = .ok (.lload_n 0, 1) := by decide +kernel
theorem dX11_in_7 : decode cX11_in 7 = .ok (.lload 4, 2) := by decide +kernel
theorem dX11_in_9 : decode cX11_in 9 = .ok (.lcmp, 1) := by decide +kernel
theorem dX11_in_10 : decode cX11_in 10 = .ok (.ifCond .gt 7, 3) := by decide +kernel
theorem dX11_in_13 : decode cX11_in 13 = .ok (.iconst 1, 1) := by decide +kernel
theorem dX11_in_14 : decode cX11_in 14 = .ok (.goto 4, 3) := by decide +kernel
theorem dX11_in_17 : decode cX11_in 17 = .ok (.iconst 0, 1) := by decide +kernel
theorem dX11_in_18 : decode cX11_in 18 = .ok (.ireturn, 1) := by decide +kernel
theorem dX11_told_0 : decode cX11_told 0 = .ok (.iload_n 1, 1) := by decide +kernel
theorem dX11_told_1 : decode cX11_told 1 = .ok (.bipush (-2), 2) := by decide +kernel
theorem dX11_told_3 : decode cX11_told 3 = .ok (.if_icmp .eq 15, 3) := by decide +kernel
theorem dX11_told_6 : decode cX11_told 6 = .ok (.iload_n 1, 1) := by decide +kernel
theorem dX11_told_7 : decode cX11_told 7 = .ok (.bipush (-3), 2) := by decide +kernel
theorem dX11_told_9 : decode cX11_told 9 = .ok (.if_icmp .eq 9, 3) := by decide +kernel
theorem dX11_told_12 : decode cX11_told 12 = .ok (.iload_n 1, 1) := by decide +kernel
theorem dX11_told_13 : decode cX11_told 13 = .ok (.bipush (-4), 2) := by decide +kernel
theorem dX11_told_15 : decode cX11_told 15 = .ok (.if_icmp .ne 16, 3) := by decide +kernel
theorem dX11_told_18 : decode cX11_told 18 = .ok (.aload_n 0, 1) := by decide +kernel
theorem dX11_told_19 : decode cX11_told 19 = .ok (.getfield 28, 3) := by decide +kernel
theorem dX11_told_22 : decode cX11_told 22 = .ok (.bipush (-2), 2) := by decide +kernel
theorem dX11_told_24 : decode cX11_told 24 = .ok (.iload_n 1, 1) := by decide +kernel
theorem dX11_told_25 : decode cX11_told 25 = .ok (.isub, 1) := by decide +kernel
theorem dX11_told_26 : decode cX11_told 26 = .ok (.dup2, 1) := by decide +kernel
theorem dX11_told_27 : decode cX11_told 27 = .ok (.iaload, 1) := by decide +kernel
theorem dX11_told_28 : decode cX11_told 28 = .ok (.iconst 1, 1) := by decide +kernel
theorem dX11_told_29 : decode cX11_told 29 = .ok (.iadd, 1) := by decide +kernel
theorem dX11_told_30 : decode cX11_told 30 = .ok (.iastore, 1) := by decide +kernel
theorem dX11_told_31 : decode cX11_told 31 = .ok (.iload_n 1, 1) := by decide +kernel
theorem dX11_told_32 : decode cX11_told 32 = .ok (.ireturn, 1) := by decide +kernel
theorem dX11_toldElse_0 : decode cX11_toldElse 0 = .ok (.aload_n 0, 1) := by decide +kernel
theorem dX11_toldElse_1 : decode cX11_toldElse 1 = .ok (.getfield 28, 3) := by decide +kernel
theorem dX11_toldElse_4 : decode cX11_toldElse 4 = .ok (.iconst 0, 1) := by decide +kernel
theorem dX11_toldElse_5 : decode cX11_toldElse 5 = .ok (.dup2, 1) := by decide +kernel
theorem dX11_toldElse_6 : decode cX11_toldElse 6 = .ok (.iaload, 1) := by decide +kernel
theorem dX11_toldElse_7 : decode cX11_toldElse 7 = .ok (.iconst 1, 1) := by decide +kernel
theorem dX11_toldElse_8 : decode cX11_toldElse 8 = .ok (.iadd, 1) := by decide +kernel
theorem dX11_toldElse_9 : decode cX11_toldElse 9 = .ok (.iastore, 1) := by decide +kernel
theorem dX11_toldElse_10 : decode cX11_toldElse 10 = .ok (.bipush (-10), 2) := by decide +kernel
theorem dX11_toldElse_12 : decode cX11_toldElse 12 = .ok (.ireturn, 1) := by decide +kernel
set_option maxRecDepth 20000 in
theorem ggX11_isOne_X11_in : GoodIn wsX11_isOne wsX11_in := goodIn_r _ [5] (by decide +kernel) (by decide +kernel)
set_option maxRecDepth 20000 in
theorem gX11_isOne_X11_in : GoodIn wsX11_isOne (va_wsS RX11 47 yX11_in wsX11_in) := goodIn_app (goodIn_of _ (by decide +kernel)) ggX11_isOne_X11_in
theorem dX11_isOne_0 : decode cX11_isOne 0 = .ok (.iload_n 1, 1) := by decide +kernel
theorem dX11_isOne_1 : decode cX11_isOne 1 = .ok (.i2l, 1) := by decide +kernel
theorem dX11_isOne_2 : decode cX11_isOne 2 = .ok (.lconst 0, 1) := by decide +kernel
theorem dX11_isOne_3 : decode cX11_isOne 3 = .ok (.aload_n 0, 1) := by decide +kernel
theorem dX11_isOne_4 : decode cX11_isOne 4 = .ok (.getfield 7, 3) := by decide +kernel
theorem dX11_isOne_7 : decode cX11_isOne 7 = .ok (.iconst 0, 1) := by decide +kernel
theorem dX11_isOne_8 : decode cX11_isOne 8 = .ok (.iaload, 1) := by decide +kernel
theorem dX11_isOne_9 : decode cX11_isOne 9 = .ok (.iconst 1, 1) := by decide +kernel
theorem dX11_isOne_10 : decode cX11_isOne 10 = .ok (.isub, 1) := by decide +kernel
theorem dX11_isOne_11 : decode cX11_isOne 11 = .ok (.i2l, 1) := by decide +kernel
theorem dX11_isOne_12 : decode cX11_isOne 12 = .ok (.invokestatic 47, 3) := by decide +kernel
theorem dX11_isOne_15 : decode cX11_isOne 15 = .ok (.ireturn, 1) := by decide +kernel
theorem dX11_holds_0 : decode cX11_holds 0 = .ok (.iload_n 0, 1) := by decide +kernel
theorem dX11_holds_1 : decode cX11_holds 1 = .ok (.iload_n 1, 1) := by decide +kernel
theorem dX11_holds_2 : decode cX11_holds 2 = .ok (.ishr, 1) := by decide +kernel
theorem dX11_holds_3 : decode cX11_holds 3 = .ok (.iconst 1, 1) := by decide +kernel
theorem dX11_holds_4 : decode cX11_holds 4 = .ok (.iand, 1) := by decide +kernel
theorem dX11_holds_5 : decode cX11_holds 5 = .ok (.iconst 1, 1) := by decide +kernel
theorem dX11_holds_6 : decode cX11_holds 6 = .ok (.if_icmp .ne 7, 3) := by decide +kernel
theorem dX11_holds_9 : decode cX11_holds 9 = .ok (.iconst 1, 1) := by decide +kernel
theorem dX11_holds_10 : decode cX11_holds 10 = .ok (.goto 4, 3) := by decide +kernel
theorem dX11_holds_13 : decode cX11_holds 13 = .ok (.iconst 0, 1) := by decide +kernel
theorem dX11_holds_14 : decode cX11_holds 14 = .ok (.ireturn, 1) := by decide +kernel
theorem dX11_ones_0 : decode cX11_ones 0 = .ok (.iconst 0, 1) := by decide +kernel
theorem dX11_ones_1 : decode cX11_ones 1 = .ok (.istore_n 1, 1) := by decide +kernel
theorem dX11_ones_2 : decode cX11_ones 2 = .ok (.iconst 0, 1) := by decide +kernel
theorem dX11_ones_3 : decode cX11_ones 3 = .ok (.istore_n 2, 1) := by decide +kernel
theorem dX11_ones_4 : decode cX11_ones 4 = .ok (.iload_n 2, 1) := by decide +kernel
theorem dX11_ones_5 : decode cX11_ones 5 = .ok (.bipush 12, 2) := by decide +kernel
theorem dX11_ones_7 : decode cX11_ones 7 = .ok (.if_icmp .ge 17, 3) := by decide +kernel
theorem dX11_ones_10 : decode cX11_ones 10 = .ok (.iload_n 1, 1) := by decide +kernel
theorem dX11_ones_11 : decode cX11_ones 11 = .ok (.iload_n 0, 1) := by decide +kernel
theorem dX11_ones_12 : decode cX11_ones 12 = .ok (.iload_n 2, 1) := by decide +kernel
theorem dX11_ones_13 : decode cX11_ones 13 = .ok (.ishr, 1) := by decide +kernel
theorem dX11_ones_14 : decode cX11_ones 14 = .ok (.iconst 1, 1) := by decide +kernel
theorem dX11_ones_15 : decode cX11_ones 15 = .ok (.iand, 1) := by decide +kernel
theorem dX11_ones_16 : decode cX11_ones 16 = .ok (.iadd, 1) := by decide +kernel
theorem dX11_ones_17 : decode cX11_ones 17 = .ok (.istore_n 1, 1) := by decide +kernel
theorem dX11_ones_18 : decode cX11_ones 18 = .ok (.iinc 2 1, 3) := by decide +kernel
theorem dX11_ones_21 : decode cX11_ones 21 = .ok (.goto (-17), 3) := by decide +kernel
theorem dX11_ones_24 : decode cX11_ones 24 = .ok (.iload_n 1, 1) := by decide +kernel
theorem dX11_ones_25 : decode cX11_ones 25 = .ok (.ireturn, 1) := by decide +kernel
theorem dX11_lesser_0 : decode cX11_lesser 0 = .ok (.iload_n 0, 1) := by decide +kernel
theorem dX11_lesser_1 : decode cX11_lesser 1 = .ok (.iload_n 1, 1) := by decide +kernel
theorem dX11_lesser_2 : decode cX11_lesser 2 = .ok (.if_icmp .ge 7, 3) := by decide +kernel
theorem dX11_lesser_5 : decode cX11_lesser 5 = .ok (.iload_n 0, 1) := by decide +kernel
theorem dX11_lesser_6 : decode cX11_lesser 6 = .ok (.goto 4, 3) := by decide +kernel
theorem dX11_lesser_9 : decode cX11_lesser 9 = .ok (.iload_n 1, 1) := by decide +kernel
theorem dX11_lesser_10 : decode cX11_lesser 10 = .ok (.ireturn, 1) := by decide +kernel
theorem dX11_makeAnew_0 : decode cX11_makeAnew 0 = .ok (.iconst 0, 1) := by decide +kernel
theorem dX11_makeAnew_1 : decode cX11_makeAnew 1 = .ok (.istore_n 2, 1) := by decide +kernel
theorem dX11_makeAnew_2 : decode cX11_makeAnew 2 = .ok (.iload_n 2, 1) := by decide +kernel
theorem dX11_makeAnew_3 : decode cX11_makeAnew 3 = .ok (.bipush 120, 2) := by decide +kernel
theorem dX11_makeAnew_5 : decode cX11_makeAnew 5 = .ok (.if_icmp .ge 18, 3) := by decide +kernel
theorem dX11_makeAnew_8 : decode cX11_makeAnew 8 = .ok (.aload_n 0, 1) := by decide +kernel
theorem dX11_makeAnew_9 : decode cX11_makeAnew 9 = .ok (.getfield 7, 3) := by decide +kernel
theorem dX11_makeAnew_12 : decode cX11_makeAnew 12 = .ok (.iload_n 1, 1) := by decide +kernel
theorem dX11_makeAnew_13 : decode cX11_makeAnew 13 = .ok (.iload_n 2, 1) := by decide +kernel
theorem dX11_makeAnew_14 : decode cX11_makeAnew 14 = .ok (.iadd, 1) := by decide +kernel
theorem dX11_makeAnew_15 : decode cX11_makeAnew 15 = .ok (.iconst 0, 1) := by decide +kernel
theorem dX11_makeAnew_16 : decode cX11_makeAnew 16 = .ok (.iastore, 1) := by decide +kernel
theorem dX11_makeAnew_17 : decode cX11_makeAnew 17 = .ok (.iinc 2 1, 3) := by decide +kernel
theorem dX11_makeAnew_20 : decode cX11_makeAnew 20 = .ok (.goto (-18), 3) := by decide +kernel
theorem dX11_makeAnew_23 : decode cX11_makeAnew 23 = .ok (.aload_n 0, 1) := by decide +kernel
theorem dX11_makeAnew_24 : decode cX11_makeAnew 24 = .ok (.getfield 7, 3) := by decide +kernel
theorem dX11_makeAnew_27 : decode cX11_makeAnew 27 = .ok (.iload_n 1, 1) := by decide +kernel
theorem dX11_makeAnew_28 : decode cX11_makeAnew 28 = .ok (.bipush 103, 2) := by decide +kernel
theorem dX11_makeAnew_30 : decode cX11_makeAnew 30 = .ok (.iadd, 1) := by decide +kernel
theorem dX11_makeAnew_31 : decode cX11_makeAnew 31 = .ok (.bipush 7, 2) := by decide +kernel
theorem dX11_makeAnew_33 : decode cX11_makeAnew 33 = .ok (.iastore, 1) := by decide +kernel
theorem dX11_makeAnew_34 : decode cX11_makeAnew 34 = .ok (.aload_n 0, 1) := by decide +kernel
theorem dX11_makeAnew_35 : decode cX11_makeAnew 35 = .ok (.getfield 7, 3) := by decide +kernel
theorem dX11_makeAnew_38 : decode cX11_makeAnew 38 = .ok (.iload_n 1, 1) := by decide +kernel
theorem dX11_makeAnew_39 : decode cX11_makeAnew 39 = .ok (.bipush 105, 2) := by decide +kernel
theorem dX11_makeAnew_41 : decode cX11_makeAnew 41 = .ok (.iadd, 1) := by decide +kernel
theorem dX11_makeAnew_42 : decode cX11_makeAnew 42 = .ok (.iconst 3, 1) := by decide +kernel
theorem dX11_makeAnew_43 : decode cX11_makeAnew 43 = .ok (.iastore, 1) := by decide +kernel
theorem dX11_makeAnew_44 : decode cX11_makeAnew 44 = .ok (.aload_n 0, 1) := by decide +kernel
theorem dX11_makeAnew_45 : decode cX11_makeAnew 45 = .ok (.getfield 7, 3) := by decide +kernel
theorem dX11_makeAnew_48 : decode cX11_makeAnew 48 = .ok (.iload_n 1, 1) := by decide +kernel
theorem dX11_makeAnew_49 : decode cX11_makeAnew 49 = .ok (.bipush 105, 2) := by decide +kernel
theorem dX11_makeAnew_51 : decode cX11_makeAnew 51 = .ok (.iadd, 1) := by decide +kernel
theorem dX11_makeAnew_52 : decode cX11_makeAnew 52 = .ok (.iconst 1, 1) := by decide +kernel
theorem dX11_makeAnew_53 : decode cX11_makeAnew 53 = .ok (.iadd, 1) := by decide +kernel
theorem dX11_makeAnew_54 : decode cX11_makeAnew 54 = .ok (.bipush 6, 2) := by decide +kernel
theorem dX11_makeAnew_56 : decode cX11_makeAnew 56 = .ok (.iastore, 1) := by decide +kernel
theorem dX11_makeAnew_57 : decode cX11_makeAnew 57 = .ok (.aload_n 0, 1) := by decide +kernel
theorem dX11_makeAnew_58 : decode cX11_makeAnew 58 = .ok (.getfield 7, 3) := by decide +kernel
theorem dX11_makeAnew_61 : decode cX11_makeAnew 61 = .ok (.iload_n 1, 1) := by decide +kernel
theorem dX11_makeAnew_62 : decode cX11_makeAnew 62 = .ok (.bipush 105, 2) := by decide +kernel
theorem dX11_makeAnew_64 : decode cX11_makeAnew 64 = .ok (.iadd, 1) := by decide +kernel
theorem dX11_makeAnew_65 : decode cX11_makeAnew 65 = .ok (.iconst 2, 1) := by decide +kernel
theorem dX11_makeAnew_66 : decode cX11_makeAnew 66 = .ok (.iadd, 1) := by decide +kernel
theorem dX11_makeAnew_67 : decode cX11_makeAnew 67 = .ok (.bipush 8, 2) := by decide +kernel
theorem dX11_makeAnew_69 : decode cX11_makeAnew 69 = .ok (.iastore, 1) := by decide +kernel
theorem dX11_makeAnew_70 : decode cX11_makeAnew 70 = .ok (.aload_n 0, 1) := by decide +kernel
theorem dX11_makeAnew_71 : decode cX11_makeAnew 71 = .ok (.getfield 7, 3) := by decide +kernel
theorem dX11_makeAnew_74 : decode cX11_makeAnew 74 = .ok (.iload_n 1, 1) := by decide +kernel
theorem dX11_makeAnew_75 : decode cX11_makeAnew 75 = .ok (.bipush 105, 2) := by decide +kernel
theorem dX11_makeAnew_77 : decode cX11_makeAnew 77 = .ok (.iadd, 1) := by decide +kernel
theorem dX11_makeAnew_78 : decode cX11_makeAnew 78 = .ok (.iconst 3, 1) := by decide +kernel
theorem dX11_makeAnew_79 : decode cX11_makeAnew 79 = .ok (.iadd, 1) := by decide +kernel
theorem dX11_makeAnew_80 : decode cX11_makeAnew 80 = .ok (.bipush 9, 2) := by decide +kernel
theorem dX11_makeAnew_82 : decode cX11_makeAnew 82 = .ok (.iastore, 1) := by decide +kernel
theorem dX11_makeAnew_83 : decode cX11_makeAnew 83 = .ok (.aload_n 0, 1) := by decide +kernel
theorem dX11_makeAnew_84 : decode cX11_makeAnew 84 = .ok (.getfield 7, 3) := by decide +kernel
theorem dX11_makeAnew_87 : decode cX11_makeAnew 87 = .ok (.iload_n 1, 1) := by decide +kernel
theorem dX11_makeAnew_88 : decode cX11_makeAnew 88 = .ok (.bipush 105, 2) := by decide +kernel
theorem dX11_makeAnew_90 : decode cX11_makeAnew 90 = .ok (.iadd, 1) := by decide +kernel
theorem dX11_makeAnew_91 : decode cX11_makeAnew 91 = .ok (.iconst 4, 1) := by decide +kernel
theorem dX11_makeAnew_92 : decode cX11_makeAnew 92 = .ok (.iadd, 1) := by decide +kernel
theorem dX11_makeAnew_93 : decode cX11_makeAnew 93 = .ok (.bipush 10, 2) := by decide +kernel
theorem dX11_makeAnew_95 : decode cX11_makeAnew 95 = .ok (.iastore, 1) := by decide +kernel
theorem dX11_makeAnew_96 : decode cX11_makeAnew 96 = .ok (.iconst 0, 1) := by decide +kernel
theorem dX11_makeAnew_97 : decode cX11_makeAnew 97 = .ok (.istore_n 2, 1) := by decide +kernel
theorem dX11_makeAnew_98 : decode cX11_makeAnew 98 = .ok (.iload_n 2, 1) := by decide +kernel
theorem dX11_makeAnew_99 : decode cX11_makeAnew 99 = .ok (.iconst 5, 1) := by decide +kernel
theorem dX11_makeAnew_100 : decode cX11_makeAnew 100 = .ok (.if_icmp .ge 21, 3) := by decide +kernel
theorem dX11_makeAnew_103 : decode cX11_makeAnew 103 = .ok (.aload_n 0, 1) := by decide +kernel
theorem dX11_makeAnew_104 : decode cX11_makeAnew 104 = .ok (.getfield 7, 3) := by decide +kernel
theorem dX11_makeAnew_107 : decode cX11_makeAnew 107 = .ok (.iload_n 1, 1) := by decide +kernel
theorem dX11_makeAnew_108 : decode cX11_makeAnew 108 = .ok (.bipush 110, 2) := by decide +kernel
theorem dX11_makeAnew_110 : decode cX11_makeAnew 110 = .ok (.iadd, 1) := by decide +kernel
theorem dX11_makeAnew_111 : decode cX11_makeAnew 111 = .ok (.iload_n 2, 1) := by decide +kernel
theorem dX11_makeAnew_112 : decode cX11_makeAnew 112 = .ok (.iadd, 1) := by decide +kernel
theorem dX11_makeAnew_113 : decode cX11_makeAnew 113 = .ok (.iconst (-1), 1) := by decide +kernel
theorem dX11_makeAnew_114 : decode cX11_makeAnew 114 = .ok (.iastore, 1) := by decide +kernel
theorem dX11_makeAnew_115 : decode cX11_makeAnew 115 = .ok (.iinc 2 1, 3) := by decide +kernel
theorem dX11_makeAnew_118 : decode cX11_makeAnew 118 = .ok (.goto (-20), 3) := by decide +kernel
theorem dX11_makeAnew_121 : decode cX11_makeAnew 121 = .ok (.return_, 1) := by decide +kernel
theorem dX11_copy_0 : decode cX11_copy 0 = .ok (.iconst 0, 1) := by decide +kernel
theorem dX11_copy_1 : decode cX11_copy 1 = .ok (.istore_n 3, 1) := by decide +kernel
theorem dX11_copy_2 : decode cX11_copy 2 = .ok (.iload_n 3, 1) := by decide +kernel
theorem dX11_copy_3 : decode cX11_copy 3 = .ok (.bipush 120, 2) := by decide +kernel
theorem dX11_copy_5 : decode cX11_copy 5 = .ok (.if_icmp .ge 25, 3) := by decide +kernel
theorem dX11_copy_8 : decode cX11_copy 8 = .ok (.aload_n 0, 1) := by decide +kernel
theorem dX11_copy_9 : decode cX11_copy 9 = .ok (.getfield 7, 3) := by decide +kernel
theorem dX11_copy_12 : decode cX11_copy 12 = .ok (.iload_n 2, 1) := by decide +kernel
theorem dX11_copy_13 : decode cX11_copy 13 = .ok (.iload_n 3, 1) := by decide +kernel
theorem dX11_copy_14 : decode cX11_copy 14 = .ok (.iadd, 1) := by decide +kernel
theorem dX11_copy_15 : decode cX11_copy 15 = .ok (.aload_n 0, 1) := by decide +kernel
theorem dX11_copy_16 : decode cX11_copy 16 = .ok (.getfield 7, 3) := by decide +kernel
theorem dX11_copy_19 : decode cX11_copy 19 = .ok (.iload_n 1, 1) := by decide +kernel
theorem dX11_copy_20 : decode cX11_copy 20 = .ok (.iload_n 3, 1) := by decide +kernel
theorem dX11_copy_21 : decode cX11_copy 21 = .ok (.iadd, 1) := by decide +kernel
theorem dX11_copy_22 : decode cX11_copy 22 = .ok (.iaload, 1) := by decide +kernel
theorem dX11_copy_23 : decode cX11_copy 23 = .ok (.iastore, 1) := by decide +kernel
theorem dX11_copy_24 : decode cX11_copy 24 = .ok (.iinc 3 1, 3) := by decide +kernel
theorem dX11_copy_27 : decode cX11_copy 27 = .ok (.goto (-25), 3) := by decide +kernel
theorem dX11_copy_30 : decode cX11_copy 30 = .ok (.iconst 0, 1) := by decide +kernel
theorem dX11_copy_31 : decode cX11_copy 31 = .ok (.istore_n 3, 1) := by decide +kernel
theorem dX11_copy_32 : decode cX11_copy 32 = .ok (.iload_n 3, 1) := by decide +kernel
theorem dX11_copy_33 : decode cX11_copy 33 = .ok (.bipush 12, 2) := by decide +kernel
theorem dX11_copy_35 : decode cX11_copy 35 = .ok (.if_icmp .ge 31, 3) := by decide +kernel
theorem dX11_copy_38 : decode cX11_copy 38 = .ok (.aload_n 0, 1) := by decide +kernel
theorem dX11_copy_39 : decode cX11_copy 39 = .ok (.getfield 13, 3) := by decide +kernel
theorem dX11_copy_42 : decode cX11_copy 42 = .ok (.iload_n 2, 1) := by decide +kernel
theorem dX11_copy_43 : decode cX11_copy 43 = .ok (.bipush 10, 2) := by decide +kernel
theorem dX11_copy_45 : decode cX11_copy 45 = .ok (.idiv, 1) := by decide +kernel
theorem dX11_copy_46 : decode cX11_copy 46 = .ok (.iload_n 3, 1) := by decide +kernel
theorem dX11_copy_47 : decode cX11_copy 47 = .ok (.iadd, 1) := by decide +kernel
theorem dX11_copy_48 : decode cX11_copy 48 = .ok (.aload_n 0, 1) := by decide +kernel
theorem dX11_copy_49 : decode cX11_copy 49 = .ok (.getfield 13, 3) := by decide +kernel
theorem dX11_copy_52 : decode cX11_copy 52 = .ok (.iload_n 1, 1) := by decide +kernel
theorem dX11_copy_53 : decode cX11_copy 53 = .ok (.bipush 10, 2) := by decide +kernel
theorem dX11_copy_55 : decode cX11_copy 55 = .ok (.idiv, 1) := by decide +kernel
theorem dX11_copy_56 : decode cX11_copy 56 = .ok (.iload_n 3, 1) := by decide +kernel
theorem dX11_copy_57 : decode cX11_copy 57 = .ok (.iadd, 1) := by decide +kernel
theorem dX11_copy_58 : decode cX11_copy 58 = .ok (.laload, 1) := by decide +kernel
theorem dX11_copy_59 : decode cX11_copy 59 = .ok (.lastore, 1) := by decide +kernel
theorem dX11_copy_60 : decode cX11_copy 60 = .ok (.iinc 3 1, 3) := by decide +kernel
theorem dX11_copy_63 : decode cX11_copy 63 = .ok (.goto (-31), 3) := by decide +kernel
theorem dX11_copy_66 : decode cX11_copy 66 = .ok (.return_, 1) := by decide +kernel
theorem dX11_lettersOf_0 : decode cX11_lettersOf 0 = .ok (.iconst 0, 1) := by decide +kernel
theorem dX11_lettersOf_1 : decode cX11_lettersOf 1 = .ok (.istore_n 2, 1) := by decide +kernel
theorem dX11_lettersOf_2 : decode cX11_lettersOf 2 = .ok (.lload_n 0, 1) := by decide +kernel
theorem dX11_lettersOf_3 : decode cX11_lettersOf 3 = .ok (.lstore_n 3, 1) := by decide +kernel
theorem dX11_lettersOf_4 : decode cX11_lettersOf 4 = .ok (.lload_n 3, 1) := by decide +kernel
theorem dX11_lettersOf_5 : decode cX11_lettersOf 5 = .ok (.lconst 0, 1) := by decide +kernel
theorem dX11_lettersOf_6 : decode cX11_lettersOf 6 = .ok (.lcmp, 1) := by decide +kernel
theorem dX11_lettersOf_7 : decode cX11_lettersOf 7 = .ok (.ifCond .le 15, 3) := by decide +kernel
theorem dX11_lettersOf_10 : decode cX11_lettersOf 10 = .ok (.iinc 2 1, 3) := by decide +kernel
theorem dX11_lettersOf_13 : decode cX11_lettersOf 13 = .ok (.lload_n 3, 1) := by decide +kernel
theorem dX11_lettersOf_14 : decode cX11_lettersOf 14 = .ok (.ldc2_w 51, 3) := by decide +kernel
theorem dX11_lettersOf_17 : decode cX11_lettersOf 17 = .ok (.ldiv, 1) := by decide +kernel
theorem dX11_lettersOf_18 : decode cX11_lettersOf 18 = .ok (.lstore_n 3, 1) := by decide +kernel
theorem dX11_lettersOf_19 : decode cX11_lettersOf 19 = .ok (.goto (-15), 3) := by decide +kernel
theorem dX11_lettersOf_22 : decode cX11_lettersOf 22 = .ok (.iload_n 2, 1) := by decide +kernel
theorem dX11_lettersOf_23 : decode cX11_lettersOf 23 = .ok (.ireturn, 1) := by decide +kernel
set_option maxRecDepth 20000 in
theorem ggX11_letterOf_X11_lettersOf : GoodIn wsX11_letterOf wsX11_lettersOf := goodIn_r _ [5, 1] (by decide +kernel) (by decide +kernel)
set_option maxRecDepth 20000 in
theorem gX11_letterOf_X11_lettersOf : GoodIn wsX11_letterOf (va_wsS RX11 53 yX11_lettersOf wsX11_lettersOf) := goodIn_app (goodIn_of _ (by decide +kernel)) ggX11_letterOf_X11_lettersOf
theorem dX11_letterOf_0 : decode cX11_letterOf 0 = .ok (.lload_n 0, 1) := by decide +kernel
theorem dX11_letterOf_1 : decode cX11_letterOf 1 = .ok (.lstore_n 3, 1) := by decide +kernel
theorem dX11_letterOf_2 : decode cX11_letterOf 2 = .ok (.lload_n 0, 1) := by decide +kernel
theorem dX11_letterOf_3 : decode cX11_letterOf 3 = .ok (.invokestatic 53, 3) := by decide +kernel
theorem dX11_letterOf_6 : decode cX11_letterOf 6 = .ok (.iconst 1, 1) := by decide +kernel
theorem dX11_letterOf_7 : decode cX11_letterOf 7 = .ok (.isub, 1) := by decide +kernel
theorem dX11_letterOf_8 : decode cX11_letterOf 8 = .ok (.istore 5, 2) := by decide +kernel
theorem dX11_letterOf_10 : decode cX11_letterOf 10 = .ok (.iload 5, 2) := by decide +kernel
theorem dX11_letterOf_12 : decode cX11_letterOf 12 = .ok (.iload_n 2, 1) := by decide +kernel
theorem dX11_letterOf_13 : decode cX11_letterOf 13 = .ok (.if_icmp .le 15, 3) := by decide +kernel
theorem dX11_letterOf_16 : decode cX11_letterOf 16 = .ok (.lload_n 3, 1) := by decide +kernel
theorem dX11_letterOf_17 : decode cX11_letterOf 17 = .ok (.ldc2_w 51, 3) := by decide +kernel
theorem dX11_letterOf_20 : decode cX11_letterOf 20 = .ok (.ldiv, 1) := by decide +kernel
theorem dX11_letterOf_21 : decode cX11_letterOf 21 = .ok (.lstore_n 3, 1) := by decide +kernel
theorem dX11_letterOf_22 : decode cX11_letterOf 22 = .ok (.iinc 5 (-1), 3) := by decide +kernel
theorem dX11_letterOf_25 : decode cX11_letterOf 25 = .ok (.goto (-15), 3) := by decide +kernel
theorem dX11_letterOf_28 : decode cX11_letterOf 28 = .ok (.lload_n 3, 1) := by decide +kernel
theorem dX11_letterOf_29 : decode cX11_letterOf 29 = .ok (.ldc2_w 51, 3) := by decide +kernel
theorem dX11_letterOf_32 : decode cX11_letterOf 32 = .ok (.lrem, 1) := by decide +kernel
theorem dX11_letterOf_33 : decode cX11_letterOf 33 = .ok (.l2i, 1) := by decide +kernel
theorem dX11_letterOf_34 : decode cX11_letterOf 34 = .ok (.ireturn, 1) := by decide +kernel
set_option maxRecDepth 20000 in
theorem ggX11_isName_X11_lettersOf : GoodIn wsX11_isName wsX11_lettersOf := goodIn_r _ [6, 1] (by decide +kernel) (by decide +kernel)
set_option maxRecDepth 20000 in
theorem gX11_isName_X11_lettersOf : GoodIn wsX11_isName (va_wsS RX11 53 yX11_lettersOf wsX11_lettersOf) := goodIn_app (goodIn_of _ (by decide +kernel)) ggX11_isName_X11_lettersOf
set_option maxRecDepth 20000 in
theorem ggX11_isName_X11_in : GoodIn wsX11_isName wsX11_in := goodIn_r _ [9] (by decide +kernel) (by decide +kernel)
set_option maxRecDepth 20000 in
theorem gX11_isName_X11_in : GoodIn wsX11_isName (va_wsS RX11 47 yX11_in wsX11_in) := goodIn_app (goodIn_of _ (by decide +kernel)) ggX11_isName_X11_in
theorem dX11_isName_0 : decode cX11_isName 0 = .ok (.lload_n 0, 1) := by decide +kernel
theorem dX11_isName_1 : decode cX11_isName 1 = .ok (.lconst 0, 1) := by decide +kernel
theorem dX11_isName_2 : decode cX11_isName 2 = .ok (.lcmp, 1) := by decide +kernel
theorem dX11_isName_3 : decode cX11_isName 3 = .ok (.ifCond .le 12, 3) := by decide +kernel
theorem dX11_isName_6 : decode cX11_isName 6 = .ok (.lload_n 0, 1) := by decide +kernel
theorem dX11_isName_7 : decode cX11_isName 7 = .ok (.invokestatic 53, 3) := by decide +kernel
theorem dX11_isName_10 : decode cX11_isName 10 = .ok (.bipush 7, 2) := by decide +kernel
theorem dX11_isName_12 : decode cX11_isName 12 = .ok (.if_icmp .le 5, 3) := by decide +kernel
theorem dX11_isName_15 : decode cX11_isName 15 = .ok (.iconst 0, 1) := by decide +kernel
theorem dX11_isName_16 : decode cX11_isName 16 = .ok (.ireturn, 1) := by decide +kernel
theorem dX11_isName_17 : decode cX11_isName 17 = .ok (.iconst 1, 1) := by decide +kernel
theorem dX11_isName_18 : decode cX11_isName 18 = .ok (.istore_n 2, 1) := by decide +kernel
theorem dX11_isName_19 : decode cX11_isName 19 = .ok (.lload_n 0, 1) := by decide +kernel
theorem dX11_isName_20 : decode cX11_isName 20 = .ok (.lstore_n 3, 1) := by decide +kernel
theorem dX11_isName_21 : decode cX11_isName 21 = .ok (.lload_n 3, 1) := by decide +kernel
theorem dX11_isName_22 : decode cX11_isName 22 = .ok (.lconst 0, 1) := by decide +kernel
theorem dX11_isName_23 : decode cX11_isName 23 = .ok (.lcmp, 1) := by decide +kernel
theorem dX11_isName_24 : decode cX11_isName 24 = .ok (.ifCond .le 37, 3) := by decide +kernel
theorem dX11_isName_27 : decode cX11_isName 27 = .ok (.iload_n 2, 1) := by decide +kernel
theorem dX11_isName_28 : decode cX11_isName 28 = .ok (.ifCond .eq 22, 3) := by decide +kernel
theorem dX11_isName_31 : decode cX11_isName 31 = .ok (.lload_n 3, 1) := by decide +kernel
theorem dX11_isName_32 : decode cX11_isName 32 = .ok (.ldc2_w 51, 3) := by decide +kernel
theorem dX11_isName_35 : decode cX11_isName 35 = .ok (.lrem, 1) := by decide +kernel
theorem dX11_isName_36 : decode cX11_isName 36 = .ok (.lconst 1, 1) := by decide +kernel
theorem dX11_isName_37 : decode cX11_isName 37 = .ok (.ldc2_w 57, 3) := by decide +kernel
theorem dX11_isName_40 : decode cX11_isName 40 = .ok (.invokestatic 47, 3) := by decide +kernel
theorem dX11_isName_43 : decode cX11_isName 43 = .ok (.ifCond .eq 7, 3) := by decide +kernel
theorem dX11_isName_46 : decode cX11_isName 46 = .ok (.iconst 1, 1) := by decide +kernel
theorem dX11_isName_47 : decode cX11_isName 47 = .ok (.goto 4, 3) := by decide +kernel
theorem dX11_isName_50 : decode cX11_isName 50 = .ok (.iconst 0, 1) := by decide +kernel
theorem dX11_isName_51 : decode cX11_isName 51 = .ok (.istore_n 2, 1) := by decide +kernel
theorem dX11_isName_52 : decode cX11_isName 52 = .ok (.lload_n 3, 1) := by decide +kernel
theorem dX11_isName_53 : decode cX11_isName 53 = .ok (.ldc2_w 51, 3) := by decide +kernel
theorem dX11_isName_56 : decode cX11_isName 56 = .ok (.ldiv, 1) := by decide +kernel
theorem dX11_isName_57 : decode cX11_isName 57 = .ok (.lstore_n 3, 1) := by decide +kernel
theorem dX11_isName_58 : decode cX11_isName 58 = .ok (.goto (-37), 3) := by decide +kernel
theorem dX11_isName_61 : decode cX11_isName 61 = .ok (.iload_n 2, 1) := by decide +kernel
theorem dX11_isName_62 : decode cX11_isName 62 = .ok (.ireturn, 1) := by decide +kernel
set_option maxRecDepth 20000 in
theorem ggX11_addOne_X11_isName : GoodIn wsX11_addOne wsX11_isName := goodIn_r _ [9, 10, 11, 12, 13, 8, 14, 15, 16, 17] (by decide +kernel) (by decide +kernel)
set_option maxRecDepth 20000 in
theorem gX11_addOne_X11_isName : GoodIn wsX11_addOne (va_wsS RX11 59 yX11_isName wsX11_isName) := goodIn_app (goodIn_of _ (by decide +kernel)) ggX11_addOne_X11_isName
set_option maxRecDepth 20000 in
theorem ggX11_addOne_X11_in : GoodIn wsX11_addOne wsX11_in := goodIn_r _ [17] (by decide +kernel) (by decide +kernel)
set_option maxRecDepth 20000 in
theorem gX11_addOne_X11_in : GoodIn wsX11_addOne (va_wsS RX11 47 yX11_in wsX11_in) := goodIn_app (goodIn_of _ (by decide +kernel)) ggX11_addOne_X11_in
theorem dX11_addOne_0 : decode cX11_addOne 0 = .ok (.lload_n 2, 1) := by decide +kernel
theorem dX11_addOne_1 : decode cX11_addOne 1 = .ok (.invokestatic 59, 3) := by decide +kernel
theorem dX11_addOne_4 : decode cX11_addOne 4 = .ok (.ifCond .eq 68, 3) := by decide +kernel
theorem dX11_addOne_7 : decode cX11_addOne 7 = .ok (.iload 4, 2) := by decide +kernel
theorem dX11_addOne_9 : decode cX11_addOne 9 = .ok (.i2l, 1) := by decide +kernel
theorem dX11_addOne_10 : decode cX11_addOne 10 = .ok (.lconst 1, 1) := by decide +kernel
theorem dX11_addOne_11 : decode cX11_addOne 11 = .ok (.ldc2_w 63, 3) := by decide +kernel
theorem dX11_addOne_14 : decode cX11_addOne 14 = .ok (.invokestatic 47, 3) := by decide +kernel
theorem dX11_addOne_17 : decode cX11_addOne 17 = .ok (.ifCond .eq 55, 3) := by decide +kernel
theorem dX11_addOne_20 : decode cX11_addOne 20 = .ok (.iload 5, 2) := by decide +kernel
theorem dX11_addOne_22 : decode cX11_addOne 22 = .ok (.i2l, 1) := by decide +kernel
theorem dX11_addOne_23 : decode cX11_addOne 23 = .ok (.lconst 0, 1) := by decide +kernel
theorem dX11_addOne_24 : decode cX11_addOne 24 = .ok (.ldc2_w 63, 3) := by decide +kernel
theorem dX11_addOne_27 : decode cX11_addOne 27 = .ok (.invokestatic 47, 3) := by decide +kernel
theorem dX11_addOne_30 : decode cX11_addOne 30 = .ok (.ifCond .eq 42, 3) := by decide +kernel
theorem dX11_addOne_33 : decode cX11_addOne 33 = .ok (.iload 6, 2) := by decide +kernel
theorem dX11_addOne_35 : decode cX11_addOne 35 = .ok (.i2l, 1) := by decide +kernel
theorem dX11_addOne_36 : decode cX11_addOne 36 = .ok (.lconst 0, 1) := by decide +kernel
theorem dX11_addOne_37 : decode cX11_addOne 37 = .ok (.ldc2_w 63, 3) := by decide +kernel
theorem dX11_addOne_40 : decode cX11_addOne 40 = .ok (.invokestatic 47, 3) := by decide +kernel
theorem dX11_addOne_43 : decode cX11_addOne 43 = .ok (.ifCond .eq 29, 3) := by decide +kernel
theorem dX11_addOne_46 : decode cX11_addOne 46 = .ok (.iload 7, 2) := by decide +kernel
theorem dX11_addOne_48 : decode cX11_addOne 48 = .ok (.i2l, 1) := by decide +kernel
theorem dX11_addOne_49 : decode cX11_addOne 49 = .ok (.lconst 0, 1) := by decide +kernel
theorem dX11_addOne_50 : decode cX11_addOne 50 = .ok (.ldc2_w 65, 3) := by decide +kernel
theorem dX11_addOne_53 : decode cX11_addOne 53 = .ok (.invokestatic 47, 3) := by decide +kernel
theorem dX11_addOne_56 : decode cX11_addOne 56 = .ok (.ifCond .eq 16, 3) := by decide +kernel
theorem dX11_addOne_59 : decode cX11_addOne 59 = .ok (.iload 8, 2) := by decide +kernel
theorem dX11_addOne_61 : decode cX11_addOne 61 = .ok (.i2l, 1) := by decide +kernel
theorem dX11_addOne_62 : decode cX11_addOne 62 = .ok (.lconst 1, 1) := by decide +kernel
theorem dX11_addOne_63 : decode cX11_addOne 63 = .ok (.ldc2_w 67, 3) := by decide +kernel
theorem dX11_addOne_66 : decode cX11_addOne 66 = .ok (.invokestatic 47, 3) := by decide +kernel
theorem dX11_addOne_69 : decode cX11_addOne 69 = .ok (.ifCond .ne 6, 3) := by decide +kernel
theorem dX11_addOne_72 : decode cX11_addOne 72 = .ok (.bipush (-2), 2) := by decide +kernel
theorem dX11_addOne_74 : decode cX11_addOne 74 = .ok (.ireturn, 1) := by decide +kernel
theorem dX11_addOne_75 : decode cX11_addOne 75 = .ok (.aload_n 0, 1) := by decide +kernel
theorem dX11_addOne_76 : decode cX11_addOne 76 = .ok (.getfield 7, 3) := by decide +kernel
theorem dX11_addOne_79 : decode cX11_addOne 79 = .ok (.iload_n 1, 1) := by decide +kernel
theorem dX11_addOne_80 : decode cX11_addOne 80 = .ok (.iconst 0, 1) := by decide +kernel
theorem dX11_addOne_81 : decode cX11_addOne 81 = .ok (.iadd, 1) := by decide +kernel
theorem dX11_addOne_82 : decode cX11_addOne 82 = .ok (.iaload, 1) := by decide +kernel
theorem dX11_addOne_83 : decode cX11_addOne 83 = .ok (.istore 9, 2) := by decide +kernel
theorem dX11_addOne_85 : decode cX11_addOne 85 = .ok (.iload 9, 2) := by decide +kernel
theorem dX11_addOne_87 : decode cX11_addOne 87 = .ok (.bipush 12, 2) := by decide +kernel
theorem dX11_addOne_89 : decode cX11_addOne 89 = .ok (.if_icmp .ne 6, 3) := by decide +kernel
theorem dX11_addOne_92 : decode cX11_addOne 92 = .ok (.bipush (-4), 2) := by decide +kernel
theorem dX11_addOne_94 : decode cX11_addOne 94 = .ok (.ireturn, 1) := by decide +kernel
theorem dX11_addOne_95 : decode cX11_addOne 95 = .ok (.aload_n 0, 1) := by decide +kernel
theorem dX11_addOne_96 : decode cX11_addOne 96 = .ok (.getfield 13, 3) := by decide +kernel
theorem dX11_addOne_99 : decode cX11_addOne 99 = .ok (.iload_n 1, 1) := by decide +kernel
theorem dX11_addOne_100 : decode cX11_addOne 100 = .ok (.bipush 10, 2) := by decide +kernel
theorem dX11_addOne_102 : decode cX11_addOne 102 = .ok (.idiv, 1) := by decide +kernel
theorem dX11_addOne_103 : decode cX11_addOne 103 = .ok (.iload 9, 2) := by decide +kernel
theorem dX11_addOne_105 : decode cX11_addOne 105 = .ok (.iadd, 1) := by decide +kernel
theorem dX11_addOne_106 : decode cX11_addOne 106 = .ok (.lload_n 2, 1) := by decide +kernel
theorem dX11_addOne_107 : decode cX11_addOne 107 = .ok (.lastore, 1) := by decide +kernel
theorem dX11_addOne_108 : decode cX11_addOne 108 = .ok (.aload_n 0, 1) := by decide +kernel
theorem dX11_addOne_109 : decode cX11_addOne 109 = .ok (.getfield 7, 3) := by decide +kernel
theorem dX11_addOne_112 : decode cX11_addOne 112 = .ok (.iload_n 1, 1) := by decide +kernel
theorem dX11_addOne_113 : decode cX11_addOne 113 = .ok (.iconst 1, 1) := by decide +kernel
theorem dX11_addOne_114 : decode cX11_addOne 114 = .ok (.iadd, 1) := by decide +kernel
theorem dX11_addOne_115 : decode cX11_addOne 115 = .ok (.iload 9, 2) := by decide +kernel
theorem dX11_addOne_117 : decode cX11_addOne 117 = .ok (.iadd, 1) := by decide +kernel
theorem dX11_addOne_118 : decode cX11_addOne 118 = .ok (.iload 4, 2) := by decide +kernel
theorem dX11_addOne_120 : decode cX11_addOne 120 = .ok (.iastore, 1) := by decide +kernel
theorem dX11_addOne_121 : decode cX11_addOne 121 = .ok (.aload_n 0, 1) := by decide +kernel
theorem dX11_addOne_122 : decode cX11_addOne 122 = .ok (.getfield 7, 3) := by decide +kernel
theorem dX11_addOne_125 : decode cX11_addOne 125 = .ok (.iload_n 1, 1) := by decide +kernel
theorem dX11_addOne_126 : decode cX11_addOne 126 = .ok (.bipush 13, 2) := by decide +kernel
theorem dX11_addOne_128 : decode cX11_addOne 128 = .ok (.iadd, 1) := by decide +kernel
theorem dX11_addOne_129 : decode cX11_addOne 129 = .ok (.iload 9, 2) := by decide +kernel
theorem dX11_addOne_131 : decode cX11_addOne 131 = .ok (.iadd, 1) := by decide +kernel
theorem dX11_addOne_132 : decode cX11_addOne 132 = .ok (.iload 5, 2) := by decide +kernel
theorem dX11_addOne_134 : decode cX11_addOne 134 = .ok (.iastore, 1) := by decide +kernel
theorem dX11_addOne_135 : decode cX11_addOne 135 = .ok (.aload_n 0, 1) := by decide +kernel
theorem dX11_addOne_136 : decode cX11_addOne 136 = .ok (.getfield 7, 3) := by decide +kernel
theorem dX11_addOne_139 : decode cX11_addOne 139 = .ok (.iload_n 1, 1) := by decide +kernel
theorem dX11_addOne_140 : decode cX11_addOne 140 = .ok (.bipush 25, 2) := by decide +kernel
theorem dX11_addOne_142 : decode cX11_addOne 142 = .ok (.iadd, 1) := by decide +kernel
theorem dX11_addOne_143 : decode cX11_addOne 143 = .ok (.iload 9, 2) := by decide +kernel
theorem dX11_addOne_145 : decode cX11_addOne 145 = .ok (.iadd, 1) := by decide +kernel
theorem dX11_addOne_146 : decode cX11_addOne 146 = .ok (.iload 6, 2) := by decide +kernel
theorem dX11_addOne_148 : decode cX11_addOne 148 = .ok (.iastore, 1) := by decide +kernel
theorem dX11_addOne_149 : decode cX11_addOne 149 = .ok (.aload_n 0, 1) := by decide +kernel
theorem dX11_addOne_150 : decode cX11_addOne 150 = .ok (.getfield 7, 3) := by decide +kernel
theorem dX11_addOne_153 : decode cX11_addOne 153 = .ok (.iload_n 1, 1) := by decide +kernel
theorem dX11_addOne_154 : decode cX11_addOne 154 = .ok (.bipush 37, 2) := by decide +kernel
theorem dX11_addOne_156 : decode cX11_addOne 156 = .ok (.iadd, 1) := by decide +kernel
theorem dX11_addOne_157 : decode cX11_addOne 157 = .ok (.iload 9, 2) := by decide +kernel
theorem dX11_addOne_159 : decode cX11_addOne 159 = .ok (.iadd, 1) := by decide +kernel
theorem dX11_addOne_160 : decode cX11_addOne 160 = .ok (.iload 7, 2) := by decide +kernel
theorem dX11_addOne_162 : decode cX11_addOne 162 = .ok (.iastore, 1) := by decide +kernel
theorem dX11_addOne_163 : decode cX11_addOne 163 = .ok (.aload_n 0, 1) := by decide +kernel
theorem dX11_addOne_164 : decode cX11_addOne 164 = .ok (.getfield 7, 3) := by decide +kernel
theorem dX11_addOne_167 : decode cX11_addOne 167 = .ok (.iload_n 1, 1) := by decide +kernel
theorem dX11_addOne_168 : decode cX11_addOne 168 = .ok (.bipush 49, 2) := by decide +kernel
theorem dX11_addOne_170 : decode cX11_addOne 170 = .ok (.iadd, 1) := by decide +kernel
theorem dX11_addOne_171 : decode cX11_addOne 171 = .ok (.iload 9, 2) := by decide +kernel
theorem dX11_addOne_173 : decode cX11_addOne 173 = .ok (.iadd, 1) := by decide +kernel
theorem dX11_addOne_174 : decode cX11_addOne 174 = .ok (.iload 8, 2) := by decide +kernel
theorem dX11_addOne_176 : decode cX11_addOne 176 = .ok (.iastore, 1) := by decide +kernel
theorem dX11_addOne_177 : decode cX11_addOne 177 = .ok (.aload_n 0, 1) := by decide +kernel
theorem dX11_addOne_178 : decode cX11_addOne 178 = .ok (.getfield 7, 3) := by decide +kernel
theorem dX11_addOne_181 : decode cX11_addOne 181 = .ok (.iload_n 1, 1) := by decide +kernel
theorem dX11_addOne_182 : decode cX11_addOne 182 = .ok (.bipush 61, 2) := by decide +kernel
theorem dX11_addOne_184 : decode cX11_addOne 184 = .ok (.iadd, 1) := by decide +kernel
theorem dX11_addOne_185 : decode cX11_addOne 185 = .ok (.iload 9, 2) := by decide +kernel
theorem dX11_addOne_187 : decode cX11_addOne 187 = .ok (.iadd, 1) := by decide +kernel
theorem dX11_addOne_188 : decode cX11_addOne 188 = .ok (.aload_n 0, 1) := by decide +kernel
theorem dX11_addOne_189 : decode cX11_addOne 189 = .ok (.getfield 7, 3) := by decide +kernel
theorem dX11_addOne_192 : decode cX11_addOne 192 = .ok (.iload_n 1, 1) := by decide +kernel
theorem dX11_addOne_193 : decode cX11_addOne 193 = .ok (.bipush 115, 2) := by decide +kernel
theorem dX11_addOne_195 : decode cX11_addOne 195 = .ok (.iadd, 1) := by decide +kernel
theorem dX11_addOne_196 : decode cX11_addOne 196 = .ok (.iaload, 1) := by decide +kernel
theorem dX11_addOne_197 : decode cX11_addOne 197 = .ok (.iastore, 1) := by decide +kernel
theorem dX11_addOne_198 : decode cX11_addOne 198 = .ok (.aload_n 0, 1) := by decide +kernel
theorem dX11_addOne_199 : decode cX11_addOne 199 = .ok (.getfield 7, 3) := by decide +kernel
theorem dX11_addOne_202 : decode cX11_addOne 202 = .ok (.iload_n 1, 1) := by decide +kernel
theorem dX11_addOne_203 : decode cX11_addOne 203 = .ok (.iconst 0, 1) := by decide +kernel
theorem dX11_addOne_204 : decode cX11_addOne 204 = .ok (.iadd, 1) := by decide +kernel
theorem dX11_addOne_205 : decode cX11_addOne 205 = .ok (.dup2, 1) := by decide +kernel
theorem dX11_addOne_206 : decode cX11_addOne 206 = .ok (.iaload, 1) := by decide +kernel
theorem dX11_addOne_207 : decode cX11_addOne 207 = .ok (.iconst 1, 1) := by decide +kernel
theorem dX11_addOne_208 : decode cX11_addOne 208 = .ok (.iadd, 1) := by decide +kernel
theorem dX11_addOne_209 : decode cX11_addOne 209 = .ok (.iastore, 1) := by decide +kernel
theorem dX11_addOne_210 : decode cX11_addOne 210 = .ok (.iload 9, 2) := by decide +kernel
theorem dX11_addOne_212 : decode cX11_addOne 212 = .ok (.ireturn, 1) := by decide +kernel
set_option maxRecDepth 20000 in
theorem ggX11_set_X11_in : GoodIn wsX11_set wsX11_in := goodIn_r _ [11] (by decide +kernel) (by decide +kernel)
set_option maxRecDepth 20000 in
theorem gX11_set_X11_in : GoodIn wsX11_set (va_wsS RX11 47 yX11_in wsX11_in) := goodIn_app (goodIn_of _ (by decide +kernel)) ggX11_set_X11_in
theorem dX11_set_0 : decode cX11_set 0 = .ok (.iload_n 2, 1) := by decide +kernel
theorem dX11_set_1 : decode cX11_set 1 = .ok (.ifCond .ne 15, 3) := by decide +kernel
theorem dX11_set_4 : decode cX11_set 4 = .ok (.iload_n 3, 1) := by decide +kernel
theorem dX11_set_5 : decode cX11_set 5 = .ok (.i2l, 1) := by decide +kernel
theorem dX11_set_6 : decode cX11_set 6 = .ok (.lconst 0, 1) := by decide +kernel
theorem dX11_set_7 : decode cX11_set 7 = .ok (.ldc2_w 63, 3) := by decide +kernel
theorem dX11_set_10 : decode cX11_set 10 = .ok (.invokestatic 47, 3) := by decide +kernel
theorem dX11_set_13 : decode cX11_set 13 = .ok (.goto 68, 3) := by decide +kernel
theorem dX11_set_16 : decode cX11_set 16 = .ok (.iload_n 2, 1) := by decide +kernel
theorem dX11_set_17 : decode cX11_set 17 = .ok (.iconst 1, 1) := by decide +kernel
theorem dX11_set_18 : decode cX11_set 18 = .ok (.if_icmp .ne 15, 3) := by decide +kernel
theorem dX11_set_21 : decode cX11_set 21 = .ok (.iload_n 3, 1) := by decide +kernel
theorem dX11_set_22 : decode cX11_set 22 = .ok (.i2l, 1) := by decide +kernel
theorem dX11_set_23 : decode cX11_set 23 = .ok (.lconst 1, 1) := by decide +kernel
theorem dX11_set_24 : decode cX11_set 24 = .ok (.ldc2_w 69, 3) := by decide +kernel
theorem dX11_set_27 : decode cX11_set 27 = .ok (.invokestatic 47, 3) := by decide +kernel
theorem dX11_set_30 : decode cX11_set 30 = .ok (.goto 51, 3) := by decide +kernel
theorem dX11_set_33 : decode cX11_set 33 = .ok (.iload_n 2, 1) := by decide +kernel
theorem dX11_set_34 : decode cX11_set 34 = .ok (.iconst 2, 1) := by decide +kernel
theorem dX11_set_35 : decode cX11_set 35 = .ok (.if_icmp .ne 15, 3) := by decide +kernel
theorem dX11_set_38 : decode cX11_set 38 = .ok (.iload_n 3, 1) := by decide +kernel
theorem dX11_set_39 : decode cX11_set 39 = .ok (.i2l, 1) := by decide +kernel
theorem dX11_set_40 : decode cX11_set 40 = .ok (.lconst 0, 1) := by decide +kernel
theorem dX11_set_41 : decode cX11_set 41 = .ok (.ldc2_w 71, 3) := by decide +kernel
theorem dX11_set_44 : decode cX11_set 44 = .ok (.invokestatic 47, 3) := by decide +kernel
theorem dX11_set_47 : decode cX11_set 47 = .ok (.goto 34, 3) := by decide +kernel
theorem dX11_set_50 : decode cX11_set 50 = .ok (.iload_n 2, 1) := by decide +kernel
theorem dX11_set_51 : decode cX11_set 51 = .ok (.i2l, 1) := by decide +kernel
theorem dX11_set_52 : decode cX11_set 52 = .ok (.ldc2_w 73, 3) := by decide +kernel
theorem dX11_set_55 : decode cX11_set 55 = .ok (.ldc2_w 75, 3) := by decide +kernel
theorem dX11_set_58 : decode cX11_set 58 = .ok (.invokestatic 47, 3) := by decide +kernel
theorem dX11_set_61 : decode cX11_set 61 = .ok (.ifCond .eq 19, 3) := by decide +kernel
theorem dX11_set_64 : decode cX11_set 64 = .ok (.iload_n 3, 1) := by decide +kernel
theorem dX11_set_65 : decode cX11_set 65 = .ok (.i2l, 1) := by decide +kernel
theorem dX11_set_66 : decode cX11_set 66 = .ok (.lconst 0, 1) := by decide +kernel
theorem dX11_set_67 : decode cX11_set 67 = .ok (.ldc2_w 65, 3) := by decide +kernel
theorem dX11_set_70 : decode cX11_set 70 = .ok (.invokestatic 47, 3) := by decide +kernel
theorem dX11_set_73 : decode cX11_set 73 = .ok (.ifCond .eq 7, 3) := by decide +kernel
theorem dX11_set_76 : decode cX11_set 76 = .ok (.iconst 1, 1) := by decide +kernel
theorem dX11_set_77 : decode cX11_set 77 = .ok (.goto 4, 3) := by decide +kernel
theorem dX11_set_80 : decode cX11_set 80 = .ok (.iconst 0, 1) := by decide +kernel
theorem dX11_set_81 : decode cX11_set 81 = .ok (.istore 4, 2) := by decide +kernel
theorem dX11_set_83 : decode cX11_set 83 = .ok (.iload 4, 2) := by decide +kernel
theorem dX11_set_85 : decode cX11_set 85 = .ok (.ifCond .ne 6, 3) := by decide +kernel
theorem dX11_set_88 : decode cX11_set 88 = .ok (.bipush (-2), 2) := by decide +kernel
theorem dX11_set_90 : decode cX11_set 90 = .ok (.ireturn, 1) := by decide +kernel
theorem dX11_set_91 : decode cX11_set 91 = .ok (.aload_n 0, 1) := by decide +kernel
theorem dX11_set_92 : decode cX11_set 92 = .ok (.getfield 7, 3) := by decide +kernel
theorem dX11_set_95 : decode cX11_set 95 = .ok (.iload_n 1, 1) := by decide +kernel
theorem dX11_set_96 : decode cX11_set 96 = .ok (.bipush 102, 2) := by decide +kernel
theorem dX11_set_98 : decode cX11_set 98 = .ok (.iadd, 1) := by decide +kernel
theorem dX11_set_99 : decode cX11_set 99 = .ok (.iload_n 2, 1) := by decide +kernel
theorem dX11_set_100 : decode cX11_set 100 = .ok (.iadd, 1) := by decide +kernel
theorem dX11_set_101 : decode cX11_set 101 = .ok (.iaload, 1) := by decide +kernel
theorem dX11_set_102 : decode cX11_set 102 = .ok (.istore 5, 2) := by decide +kernel
theorem dX11_set_104 : decode cX11_set 104 = .ok (.aload_n 0, 1) := by decide +kernel
theorem dX11_set_105 : decode cX11_set 105 = .ok (.getfield 7, 3) := by decide +kernel
theorem dX11_set_108 : decode cX11_set 108 = .ok (.iload_n 1, 1) := by decide +kernel
theorem dX11_set_109 : decode cX11_set 109 = .ok (.bipush 102, 2) := by decide +kernel
theorem dX11_set_111 : decode cX11_set 111 = .ok (.iadd, 1) := by decide +kernel
theorem dX11_set_112 : decode cX11_set 112 = .ok (.iload_n 2, 1) := by decide +kernel
theorem dX11_set_113 : decode cX11_set 113 = .ok (.iadd, 1) := by decide +kernel
theorem dX11_set_114 : decode cX11_set 114 = .ok (.iload_n 3, 1) := by decide +kernel
theorem dX11_set_115 : decode cX11_set 115 = .ok (.iastore, 1) := by decide +kernel
theorem dX11_set_116 : decode cX11_set 116 = .ok (.iload 5, 2) := by decide +kernel
theorem dX11_set_118 : decode cX11_set 118 = .ok (.ireturn, 1) := by decide +kernel
set_option maxRecDepth 20000 in
theorem ggX11_oneTry_X11_in : GoodIn wsX11_oneTry wsX11_in := goodIn_r _ [7] (by decide +kernel) (by decide +kernel)
set_option maxRecDepth 20000 in
theorem gX11_oneTry_X11_in : GoodIn wsX11_oneTry (va_wsS RX11 47 yX11_in wsX11_in) := goodIn_app (goodIn_of _ (by decide +kernel)) ggX11_oneTry_X11_in
theorem dX11_oneTry_0 : decode cX11_oneTry 0 = .ok (.iload_n 2, 1) := by decide +kernel
theorem dX11_oneTry_1 : decode cX11_oneTry 1 = .ok (.i2l, 1) := by decide +kernel
theorem dX11_oneTry_2 : decode cX11_oneTry 2 = .ok (.lconst 0, 1) := by decide +kernel
theorem dX11_oneTry_3 : decode cX11_oneTry 3 = .ok (.ldc2_w 63, 3) := by decide +kernel
theorem dX11_oneTry_6 : decode cX11_oneTry 6 = .ok (.invokestatic 47, 3) := by decide +kernel
theorem dX11_oneTry_9 : decode cX11_oneTry 9 = .ok (.ifCond .eq 28, 3) := by decide +kernel
theorem dX11_oneTry_12 : decode cX11_oneTry 12 = .ok (.iload_n 3, 1) := by decide +kernel
theorem dX11_oneTry_13 : decode cX11_oneTry 13 = .ok (.i2l, 1) := by decide +kernel
theorem dX11_oneTry_14 : decode cX11_oneTry 14 = .ok (.lconst 1, 1) := by decide +kernel
theorem dX11_oneTry_15 : decode cX11_oneTry 15 = .ok (.ldc2_w 65, 3) := by decide +kernel
theorem dX11_oneTry_18 : decode cX11_oneTry 18 = .ok (.invokestatic 47, 3) := by decide +kernel
theorem dX11_oneTry_21 : decode cX11_oneTry 21 = .ok (.ifCond .eq 16, 3) := by decide +kernel
theorem dX11_oneTry_24 : decode cX11_oneTry 24 = .ok (.iload 4, 2) := by decide +kernel
theorem dX11_oneTry_26 : decode cX11_oneTry 26 = .ok (.i2l, 1) := by decide +kernel
theorem dX11_oneTry_27 : decode cX11_oneTry 27 = .ok (.lconst 1, 1) := by decide +kernel
theorem dX11_oneTry_28 : decode cX11_oneTry 28 = .ok (.ldc2_w 65, 3) := by decide +kernel
theorem dX11_oneTry_31 : decode cX11_oneTry 31 = .ok (.invokestatic 47, 3) := by decide +kernel
theorem dX11_oneTry_34 : decode cX11_oneTry 34 = .ok (.ifCond .ne 6, 3) := by decide +kernel
theorem dX11_oneTry_37 : decode cX11_oneTry 37 = .ok (.bipush (-2), 2) := by decide +kernel
theorem dX11_oneTry_39 : decode cX11_oneTry 39 = .ok (.ireturn, 1) := by decide +kernel
theorem dX11_oneTry_40 : decode cX11_oneTry 40 = .ok (.aload_n 0, 1) := by decide +kernel
theorem dX11_oneTry_41 : decode cX11_oneTry 41 = .ok (.getfield 7, 3) := by decide +kernel
theorem dX11_oneTry_44 : decode cX11_oneTry 44 = .ok (.iload_n 1, 1) := by decide +kernel
theorem dX11_oneTry_45 : decode cX11_oneTry 45 = .ok (.bipush 73, 2) := by decide +kernel
theorem dX11_oneTry_47 : decode cX11_oneTry 47 = .ok (.iadd, 1) := by decide +kernel
theorem dX11_oneTry_48 : decode cX11_oneTry 48 = .ok (.iaload, 1) := by decide +kernel
theorem dX11_oneTry_49 : decode cX11_oneTry 49 = .ok (.istore 5, 2) := by decide +kernel
theorem dX11_oneTry_51 : decode cX11_oneTry 51 = .ok (.iload 5, 2) := by decide +kernel
theorem dX11_oneTry_53 : decode cX11_oneTry 53 = .ok (.iconst 5, 1) := by decide +kernel
theorem dX11_oneTry_54 : decode cX11_oneTry 54 = .ok (.if_icmp .ne 6, 3) := by decide +kernel
theorem dX11_oneTry_57 : decode cX11_oneTry 57 = .ok (.bipush (-4), 2) := by decide +kernel
theorem dX11_oneTry_59 : decode cX11_oneTry 59 = .ok (.ireturn, 1) := by decide +kernel
theorem dX11_oneTry_60 : decode cX11_oneTry 60 = .ok (.aload_n 0, 1) := by decide +kernel
theorem dX11_oneTry_61 : decode cX11_oneTry 61 = .ok (.getfield 7, 3) := by decide +kernel
theorem dX11_oneTry_64 : decode cX11_oneTry 64 = .ok (.iload_n 1, 1) := by decide +kernel
theorem dX11_oneTry_65 : decode cX11_oneTry 65 = .ok (.bipush 74, 2) := by decide +kernel
theorem dX11_oneTry_67 : decode cX11_oneTry 67 = .ok (.iadd, 1) := by decide +kernel
theorem dX11_oneTry_68 : decode cX11_oneTry 68 = .ok (.iload 5, 2) := by decide +kernel
theorem dX11_oneTry_70 : decode cX11_oneTry 70 = .ok (.iadd, 1) := by decide +kernel
theorem dX11_oneTry_71 : decode cX11_oneTry 71 = .ok (.iload_n 2, 1) := by decide +kernel
theorem dX11_oneTry_72 : decode cX11_oneTry 72 = .ok (.iastore, 1) := by decide +kernel
theorem dX11_oneTry_73 : decode cX11_oneTry 73 = .ok (.aload_n 0, 1) := by decide +kernel
theorem dX11_oneTry_74 : decode cX11_oneTry 74 = .ok (.getfield 7, 3) := by decide +kernel
theorem dX11_oneTry_77 : decode cX11_oneTry 77 = .ok (.iload_n 1, 1) := by decide +kernel
theorem dX11_oneTry_78 : decode cX11_oneTry 78 = .ok (.bipush 79, 2) := by decide +kernel
theorem dX11_oneTry_80 : decode cX11_oneTry 80 = .ok (.iadd, 1) := by decide +kernel
theorem dX11_oneTry_81 : decode cX11_oneTry 81 = .ok (.iload 5, 2) := by decide +kernel
theorem dX11_oneTry_83 : decode cX11_oneTry 83 = .ok (.iadd, 1) := by decide +kernel
theorem dX11_oneTry_84 : decode cX11_oneTry 84 = .ok (.iload_n 3, 1) := by decide +kernel
theorem dX11_oneTry_85 : decode cX11_oneTry 85 = .ok (.iastore, 1) := by decide +kernel
theorem dX11_oneTry_86 : decode cX11_oneTry 86 = .ok (.aload_n 0, 1) := by decide +kernel
theorem dX11_oneTry_87 : decode cX11_oneTry 87 = .ok (.getfield 7, 3) := by decide +kernel
theorem dX11_oneTry_90 : decode cX11_oneTry 90 = .ok (.iload_n 1, 1) := by decide +kernel
theorem dX11_oneTry_91 : decode cX11_oneTry 91 = .ok (.bipush 84, 2) := by decide +kernel
theorem dX11_oneTry_93 : decode cX11_oneTry 93 = .ok (.iadd, 1) := by decide +kernel
theorem dX11_oneTry_94 : decode cX11_oneTry 94 = .ok (.iload 5, 2) := by decide +kernel
theorem dX11_oneTry_96 : decode cX11_oneTry 96 = .ok (.iadd, 1) := by decide +kernel
theorem dX11_oneTry_97 : decode cX11_oneTry 97 = .ok (.iload 4, 2) := by decide +kernel
theorem dX11_oneTry_99 : decode cX11_oneTry 99 = .ok (.iastore, 1) := by decide +kernel
theorem dX11_oneTry_100 : decode cX11_oneTry 100 = .ok (.aload_n 0, 1) := by decide +kernel
theorem dX11_oneTry_101 : decode cX11_oneTry 101 = .ok (.getfield 7, 3) := by decide +kernel
theorem dX11_oneTry_104 : decode cX11_oneTry 104 = .ok (.iload_n 1, 1) := by decide +kernel
theorem dX11_oneTry_105 : decode cX11_oneTry 105 = .ok (.bipush 73, 2) := by decide +kernel
theorem dX11_oneTry_107 : decode cX11_oneTry 107 = .ok (.iadd, 1) := by decide +kernel
theorem dX11_oneTry_108 : decode cX11_oneTry 108 = .ok (.dup2, 1) := by decide +kernel
theorem dX11_oneTry_109 : decode cX11_oneTry 109 = .ok (.iaload, 1) := by decide +kernel
theorem dX11_oneTry_110 : decode cX11_oneTry 110 = .ok (.iconst 1, 1) := by decide +kernel
theorem dX11_oneTry_111 : decode cX11_oneTry 111 = .ok (.iadd, 1) := by decide +kernel
theorem dX11_oneTry_112 : decode cX11_oneTry 112 = .ok (.iastore, 1) := by decide +kernel
theorem dX11_oneTry_113 : decode cX11_oneTry 113 = .ok (.iload 5, 2) := by decide +kernel
theorem dX11_oneTry_115 : decode cX11_oneTry 115 = .ok (.ireturn, 1) := by decide +kernel
set_option maxRecDepth 20000 in
theorem ggX11_oneQuestion_X11_in : GoodIn wsX11_oneQuestion wsX11_in := goodIn_r _ [7] (by decide +kernel) (by decide +kernel)
set_option maxRecDepth 20000 in
theorem gX11_oneQuestion_X11_in : GoodIn wsX11_oneQuestion (va_wsS RX11 47 yX11_in wsX11_in) := goodIn_app (goodIn_of _ (by decide +kernel)) ggX11_oneQuestion_X11_in
theorem dX11_oneQuestion_0 : decode cX11_oneQuestion 0 = .ok (.iload_n 2, 1) := by decide +kernel
theorem dX11_oneQuestion_1 : decode cX11_oneQuestion 1 = .ok (.i2l, 1) := by decide +kernel
theorem dX11_oneQuestion_2 : decode cX11_oneQuestion 2 = .ok (.lconst 0, 1) := by decide +kernel
theorem dX11_oneQuestion_3 : decode cX11_oneQuestion 3 = .ok (.ldc2_w 77, 3) := by decide +kernel
theorem dX11_oneQuestion_6 : decode cX11_oneQuestion 6 = .ok (.invokestatic 47, 3) := by decide +kernel
theorem dX11_oneQuestion_9 : decode cX11_oneQuestion 9 = .ok (.ifCond .eq 15, 3) := by decide +kernel
theorem dX11_oneQuestion_12 : decode cX11_oneQuestion 12 = .ok (.iload_n 3, 1) := by decide +kernel
theorem dX11_oneQuestion_13 : decode cX11_oneQuestion 13 = .ok (.i2l, 1) := by decide +kernel
theorem dX11_oneQuestion_14 : decode cX11_oneQuestion 14 = .ok (.lconst 0, 1) := by decide +kernel
theorem dX11_oneQuestion_15 : decode cX11_oneQuestion 15 = .ok (.ldc2_w 67, 3) := by decide +kernel
theorem dX11_oneQuestion_18 : decode cX11_oneQuestion 18 = .ok (.invokestatic 47, 3) := by decide +kernel
theorem dX11_oneQuestion_21 : decode cX11_oneQuestion 21 = .ok (.ifCond .ne 6, 3) := by decide +kernel
theorem dX11_oneQuestion_24 : decode cX11_oneQuestion 24 = .ok (.bipush (-2), 2) := by decide +kernel
theorem dX11_oneQuestion_26 : decode cX11_oneQuestion 26 = .ok (.ireturn, 1) := by decide +kernel
theorem dX11_oneQuestion_27 : decode cX11_oneQuestion 27 = .ok (.aload_n 0, 1) := by decide +kernel
theorem dX11_oneQuestion_28 : decode cX11_oneQuestion 28 = .ok (.getfield 7, 3) := by decide +kernel
theorem dX11_oneQuestion_31 : decode cX11_oneQuestion 31 = .ok (.iload_n 1, 1) := by decide +kernel
theorem dX11_oneQuestion_32 : decode cX11_oneQuestion 32 = .ok (.bipush 89, 2) := by decide +kernel
theorem dX11_oneQuestion_34 : decode cX11_oneQuestion 34 = .ok (.iadd, 1) := by decide +kernel
theorem dX11_oneQuestion_35 : decode cX11_oneQuestion 35 = .ok (.iaload, 1) := by decide +kernel
theorem dX11_oneQuestion_36 : decode cX11_oneQuestion 36 = .ok (.istore 4, 2) := by decide +kernel
theorem dX11_oneQuestion_38 : decode cX11_oneQuestion 38 = .ok (.iload 4, 2) := by decide +kernel
theorem dX11_oneQuestion_40 : decode cX11_oneQuestion 40 = .ok (.bipush 6, 2) := by decide +kernel
theorem dX11_oneQuestion_42 : decode cX11_oneQuestion 42 = .ok (.if_icmp .ne 6, 3) := by decide +kernel
theorem dX11_oneQuestion_45 : decode cX11_oneQuestion 45 = .ok (.bipush (-4), 2) := by decide +kernel
theorem dX11_oneQuestion_47 : decode cX11_oneQuestion 47 = .ok (.ireturn, 1) := by decide +kernel
theorem dX11_oneQuestion_48 : decode cX11_oneQuestion 48 = .ok (.aload_n 0, 1) := by decide +kernel
theorem dX11_oneQuestion_49 : decode cX11_oneQuestion 49 = .ok (.getfield 7, 3) := by decide +kernel
theorem dX11_oneQuestion_52 : decode cX11_oneQuestion 52 = .ok (.iload_n 1, 1) := by decide +kernel
theorem dX11_oneQuestion_53 : decode cX11_oneQuestion 53 = .ok (.bipush 90, 2) := by decide +kernel
theorem dX11_oneQuestion_55 : decode cX11_oneQuestion 55 = .ok (.iadd, 1) := by decide +kernel
theorem dX11_oneQuestion_56 : decode cX11_oneQuestion 56 = .ok (.iload 4, 2) := by decide +kernel
theorem dX11_oneQuestion_58 : decode cX11_oneQuestion 58 = .ok (.iadd, 1) := by decide +kernel
theorem dX11_oneQuestion_59 : decode cX11_oneQuestion 59 = .ok (.iload_n 2, 1) := by decide +kernel
theorem dX11_oneQuestion_60 : decode cX11_oneQuestion 60 = .ok (.iastore, 1) := by decide +kernel
theorem dX11_oneQuestion_61 : decode cX11_oneQuestion 61 = .ok (.aload_n 0, 1) := by decide +kernel
theorem dX11_oneQuestion_62 : decode cX11_oneQuestion 62 = .ok (.getfield 7, 3) := by decide +kernel
theorem dX11_oneQuestion_65 : decode cX11_oneQuestion 65 = .ok (.iload_n 1, 1) := by decide +kernel
theorem dX11_oneQuestion_66 : decode cX11_oneQuestion 66 = .ok (.bipush 96, 2) := by decide +kernel
theorem dX11_oneQuestion_68 : decode cX11_oneQuestion 68 = .ok (.iadd, 1) := by decide +kernel
theorem dX11_oneQuestion_69 : decode cX11_oneQuestion 69 = .ok (.iload 4, 2) := by decide +kernel
theorem dX11_oneQuestion_71 : decode cX11_oneQuestion 71 = .ok (.iadd, 1) := by decide +kernel
theorem dX11_oneQuestion_72 : decode cX11_oneQuestion 72 = .ok (.iload_n 3, 1) := by decide +kernel
theorem dX11_oneQuestion_73 : decode cX11_oneQuestion 73 = .ok (.iastore, 1) := by decide +kernel
theorem dX11_oneQuestion_74 : decode cX11_oneQuestion 74 = .ok (.aload_n 0, 1) := by decide +kernel
theorem dX11_oneQuestion_75 : decode cX11_oneQuestion 75 = .ok (.getfield 7, 3) := by decide +kernel
theorem dX11_oneQuestion_78 : decode cX11_oneQuestion 78 = .ok (.iload_n 1, 1) := by decide +kernel
theorem dX11_oneQuestion_79 : decode cX11_oneQuestion 79 = .ok (.bipush 89, 2) := by decide +kernel
theorem dX11_oneQuestion_81 : decode cX11_oneQuestion 81 = .ok (.iadd, 1) := by decide +kernel
theorem dX11_oneQuestion_82 : decode cX11_oneQuestion 82 = .ok (.dup2, 1) := by decide +kernel
theorem dX11_oneQuestion_83 : decode cX11_oneQuestion 83 = .ok (.iaload, 1) := by decide +kernel
theorem dX11_oneQuestion_84 : decode cX11_oneQuestion 84 = .ok (.iconst 1, 1) := by decide +kernel
theorem dX11_oneQuestion_85 : decode cX11_oneQuestion 85 = .ok (.iadd, 1) := by decide +kernel
theorem dX11_oneQuestion_86 : decode cX11_oneQuestion 86 = .ok (.iastore, 1) := by decide +kernel
theorem dX11_oneQuestion_87 : decode cX11_oneQuestion 87 = .ok (.iload 4, 2) := by decide +kernel
theorem dX11_oneQuestion_89 : decode cX11_oneQuestion 89 = .ok (.ireturn, 1) := by decide +kernel
set_option maxRecDepth 20000 in
theorem ggX11_one_X11_addOne : GoodIn wsX11_one wsX11_addOne := goodIn_r _ [5, 6, 7, 8, 9, 10, 11, 12, 4, 13, 14, 15, 16, 17, 18, 19, 20, 21, 27, 28, 29, 30, 31, 32, 33, 34, 35, 36, 37, 38, 39, 40, 41, 42, 43, 44, 45, 46] (by decide +kernel) (by decide +kernel)
set_option maxRecDepth 20000 in
theorem gX11_one_X11_addOne : GoodIn wsX11_one (wsV RX11 79 RX11 yX11_addOne wsX11_addOne) := goodIn_app (goodIn_of _ (by decide +kernel)) ggX11_one_X11_addOne
set_option maxRecDepth 20000 in
theorem ggX11_one_X11_told : GoodIn wsX11_one wsX11_told := goodIn_r _ [25, 26, 27, 28, 29, 30, 31, 32, 33, 34, 35, 36, 37, 38, 39, 40, 41, 42, 43, 44, 45, 46] (by decide +kernel) (by decide +kernel)
set_option maxRecDepth 20000 in
theorem gX11_one_X11_told : GoodIn wsX11_one (wsV RX11 83 RX11 yX11_told wsX11_told) := goodIn_app (goodIn_of _ (by decide +kernel)) ggX11_one_X11_told
theorem dX11_one_0 : decode cX11_one 0 = .ok (.aload_n 0, 1) := by decide +kernel
theorem dX11_one_1 : decode cX11_one 1 = .ok (.aload_n 0, 1) := by decide +kernel
theorem dX11_one_2 : decode cX11_one 2 = .ok (.iconst 0, 1) := by decide +kernel
theorem dX11_one_3 : decode cX11_one 3 = .ok (.lload_n 1, 1) := by decide +kernel
theorem dX11_one_4 : decode cX11_one 4 = .ok (.iload_n 3, 1) := by decide +kernel
theorem dX11_one_5 : decode cX11_one 5 = .ok (.iload 4, 2) := by decide +kernel
theorem dX11_one_7 : decode cX11_one 7 = .ok (.iload 5, 2) := by decide +kernel
theorem dX11_one_9 : decode cX11_one 9 = .ok (.iload 6, 2) := by decide +kernel
theorem dX11_one_11 : decode cX11_one 11 = .ok (.iload 7, 2) := by decide +kernel
theorem dX11_one_13 : decode cX11_one 13 = .ok (.invokevirtual 79, 3) := by decide +kernel
theorem dX11_one_16 : decode cX11_one 16 = .ok (.invokevirtual 83, 3) := by decide +kernel
theorem dX11_one_19 : decode cX11_one 19 = .ok (.ireturn, 1) := by decide +kernel
set_option maxRecDepth 20000 in
theorem ggX11_put_X11_set : GoodIn wsX11_put wsX11_set := goodIn_r _ [5, 6, 7, 8, 9, 10, 11, 12, 13, 14, 4, 15, 21, 22, 23, 24, 25, 26, 27, 28, 29, 30, 31, 32, 33, 34, 35, 36, 37, 38, 39, 40] (by decide +kernel) (by decide +kernel)
set_option maxRecDepth 20000 in
theorem gX11_put_X11_set : GoodIn wsX11_put (wsV RX11 87 RX11 yX11_set wsX11_set) := goodIn_app (goodIn_of _ (by decide +kernel)) ggX11_put_X11_set
set_option maxRecDepth 20000 in
theorem ggX11_put_X11_told : GoodIn wsX11_put wsX11_told := goodIn_r _ [19, 20, 21, 22, 23, 24, 25, 26, 27, 28, 29, 30, 31, 32, 33, 34, 35, 36, 37, 38, 39, 40] (by decide +kernel) (by decide +kernel)
set_option maxRecDepth 20000 in
theorem gX11_put_X11_told : GoodIn wsX11_put (wsV RX11 83 RX11 yX11_told wsX11_told) := goodIn_app (goodIn_of _ (by decide +kernel)) ggX11_put_X11_told
theorem dX11_put_0 : decode cX11_put 0 = .ok (.aload_n 0, 1) := by decide +kernel
theorem dX11_put_1 : decode cX11_put 1 = .ok (.aload_n 0, 1) := by decide +kernel
theorem dX11_put_2 : decode cX11_put 2 = .ok (.iconst 0, 1) := by decide +kernel
theorem dX11_put_3 : decode cX11_put 3 = .ok (.iload_n 1, 1) := by decide +kernel
theorem dX11_put_4 : decode cX11_put 4 = .ok (.iload_n 2, 1) := by decide +kernel
theorem dX11_put_5 : decode cX11_put 5 = .ok (.invokevirtual 87, 3) := by decide +kernel
theorem dX11_put_8 : decode cX11_put 8 = .ok (.invokevirtual 83, 3) := by decide +kernel
theorem dX11_put_11 : decode cX11_put 11 = .ok (.ireturn, 1) := by decide +kernel
set_option maxRecDepth 20000 in
theorem ggX11_addTry_X11_oneTry : GoodIn wsX11_addTry wsX11_oneTry := goodIn_r _ [5, 6, 7, 8, 9, 10, 4, 11, 17, 18, 19, 20, 21, 22, 23, 24, 25, 26, 27, 28, 29, 30, 31, 32, 33, 34, 35, 36] (by decide +kernel) (by decide +kernel)
set_option maxRecDepth 20000 in
theorem gX11_addTry_X11_oneTry : GoodIn wsX11_addTry (wsV RX11 91 RX11 yX11_oneTry wsX11_oneTry) := goodIn_app (goodIn_of _ (by decide +kernel)) ggX11_addTry_X11_oneTry
set_option maxRecDepth 20000 in
theorem ggX11_addTry_X11_told : GoodIn wsX11_addTry wsX11_told := goodIn_r _ [15, 16, 17, 18, 19, 20, 21, 22, 23, 24, 25, 26, 27, 28, 29, 30, 31, 32, 33, 34, 35, 36] (by decide +kernel) (by decide +kernel)
set_option maxRecDepth 20000 in
theorem gX11_addTry_X11_told : GoodIn wsX11_addTry (wsV RX11 83 RX11 yX11_told wsX11_told) := goodIn_app (goodIn_of _ (by decide +kernel)) ggX11_addTry_X11_told
theorem dX11_addTry_0 : decode cX11_addTry 0 = .ok (.aload_n 0, 1) := by decide +kernel
theorem dX11_addTry_1 : decode cX11_addTry 1 = .ok (.aload_n 0, 1) := by decide +kernel
theorem dX11_addTry_2 : decode cX11_addTry 2 = .ok (.iconst 0, 1) := by decide +kernel
theorem dX11_addTry_3 : decode cX11_addTry 3 = .ok (.iload_n 1, 1) := by decide +kernel
theorem dX11_addTry_4 : decode cX11_addTry 4 = .ok (.iload_n 2, 1) := by decide +kernel
theorem dX11_addTry_5 : decode cX11_addTry 5 = .ok (.iload_n 3, 1) := by decide +kernel
theorem dX11_addTry_6 : decode cX11_addTry 6 = .ok (.invokevirtual 91, 3) := by decide +kernel
theorem dX11_addTry_9 : decode cX11_addTry 9 = .ok (.invokevirtual 83, 3) := by decide +kernel
theorem dX11_addTry_12 : decode cX11_addTry 12 = .ok (.ireturn, 1) := by decide +kernel
theorem dX11_heldOn_0 : decode cX11_heldOn 0 = .ok (.iload_n 2, 1) := by decide +kernel
theorem dX11_heldOn_1 : decode cX11_heldOn 1 = .ok (.aload_n 0, 1) := by decide +kernel
theorem dX11_heldOn_2 : decode cX11_heldOn 2 = .ok (.getfield 7, 3) := by decide +kernel
theorem dX11_heldOn_5 : decode cX11_heldOn 5 = .ok (.bipush 61, 2) := by decide +kernel
theorem dX11_heldOn_7 : decode cX11_heldOn 7 = .ok (.iload_n 1, 1) := by decide +kernel
theorem dX11_heldOn_8 : decode cX11_heldOn 8 = .ok (.iadd, 1) := by decide +kernel
theorem dX11_heldOn_9 : decode cX11_heldOn 9 = .ok (.iaload, 1) := by decide +kernel
theorem dX11_heldOn_10 : decode cX11_heldOn 10 = .ok (.isub, 1) := by decide +kernel
theorem dX11_heldOn_11 : decode cX11_heldOn 11 = .ok (.istore_n 3, 1) := by decide +kernel
theorem dX11_heldOn_12 : decode cX11_heldOn 12 = .ok (.aload_n 0, 1) := by decide +kernel
theorem dX11_heldOn_13 : decode cX11_heldOn 13 = .ok (.getfield 7, 3) := by decide +kernel
theorem dX11_heldOn_16 : decode cX11_heldOn 16 = .ok (.bipush 37, 2) := by decide +kernel
theorem dX11_heldOn_18 : decode cX11_heldOn 18 = .ok (.iload_n 1, 1) := by decide +kernel
theorem dX11_heldOn_19 : decode cX11_heldOn 19 = .ok (.iadd, 1) := by decide +kernel
theorem dX11_heldOn_20 : decode cX11_heldOn 20 = .ok (.iaload, 1) := by decide +kernel
theorem dX11_heldOn_21 : decode cX11_heldOn 21 = .ok (.iload_n 3, 1) := by decide +kernel
theorem dX11_heldOn_22 : decode cX11_heldOn 22 = .ok (.ifCond .le 15, 3) := by decide +kernel
theorem dX11_heldOn_25 : decode cX11_heldOn 25 = .ok (.iload_n 3, 1) := by decide +kernel
theorem dX11_heldOn_26 : decode cX11_heldOn 26 = .ok (.aload_n 0, 1) := by decide +kernel
theorem dX11_heldOn_27 : decode cX11_heldOn 27 = .ok (.getfield 7, 3) := by decide +kernel
theorem dX11_heldOn_30 : decode cX11_heldOn 30 = .ok (.bipush 103, 2) := by decide +kernel
theorem dX11_heldOn_32 : decode cX11_heldOn 32 = .ok (.iaload, 1) := by decide +kernel
theorem dX11_heldOn_33 : decode cX11_heldOn 33 = .ok (.idiv, 1) := by decide +kernel
theorem dX11_heldOn_34 : decode cX11_heldOn 34 = .ok (.goto 4, 3) := by decide +kernel
theorem dX11_heldOn_37 : decode cX11_heldOn 37 = .ok (.iconst 0, 1) := by decide +kernel
theorem dX11_heldOn_38 : decode cX11_heldOn 38 = .ok (.isub, 1) := by decide +kernel
theorem dX11_heldOn_39 : decode cX11_heldOn 39 = .ok (.istore 4, 2) := by decide +kernel
theorem dX11_heldOn_41 : decode cX11_heldOn 41 = .ok (.iload 4, 2) := by decide +kernel
theorem dX11_heldOn_43 : decode cX11_heldOn 43 = .ok (.ifCond .le 8, 3) := by decide +kernel
theorem dX11_heldOn_46 : decode cX11_heldOn 46 = .ok (.iload 4, 2) := by decide +kernel
theorem dX11_heldOn_48 : decode cX11_heldOn 48 = .ok (.goto 4, 3) := by decide +kernel
theorem dX11_heldOn_51 : decode cX11_heldOn 51 = .ok (.iconst 0, 1) := by decide +kernel
theorem dX11_heldOn_52 : decode cX11_heldOn 52 = .ok (.ireturn, 1) := by decide +kernel
set_option maxRecDepth 20000 in
theorem ggX11_heldNow_X11_heldOn : GoodIn wsX11_heldNow wsX11_heldOn := goodIn_r _ [6, 1, 7, 8, 9, 10, 11, 12, 13, 14, 15, 16, 17, 18, 19, 20, 21, 22, 23, 24, 25, 26] (by decide +kernel) (by decide +kernel)
set_option maxRecDepth 20000 in
theorem gX11_heldNow_X11_heldOn : GoodIn wsX11_heldNow (wsV RX11 95 RX11 yX11_heldOn wsX11_heldOn) := goodIn_app (goodIn_of _ (by decide +kernel)) ggX11_heldNow_X11_heldOn
theorem dX11_heldNow_0 : decode cX11_heldNow 0 = .ok (.aload_n 0, 1) := by decide +kernel
theorem dX11_heldNow_1 : decode cX11_heldNow 1 = .ok (.iload_n 1, 1) := by decide +kernel
theorem dX11_heldNow_2 : decode cX11_heldNow 2 = .ok (.aload_n 0, 1) := by decide +kernel
theorem dX11_heldNow_3 : decode cX11_heldNow 3 = .ok (.getfield 7, 3) := by decide +kernel
theorem dX11_heldNow_6 : decode cX11_heldNow 6 = .ok (.bipush 115, 2) := by decide +kernel
theorem dX11_heldNow_8 : decode cX11_heldNow 8 = .ok (.iaload, 1) := by decide +kernel
theorem dX11_heldNow_9 : decode cX11_heldNow 9 = .ok (.invokevirtual 95, 3) := by decide +kernel
theorem dX11_heldNow_12 : decode cX11_heldNow 12 = .ok (.ireturn, 1) := by decide +kernel
set_option maxRecDepth 20000 in
theorem ggX11_held_X11_isOne : GoodIn wsX11_held wsX11_isOne := goodIn_r _ [7, 2, 8, 9, 6, 10, 20, 21, 22, 23, 24, 25, 26, 27, 28, 29, 30, 31, 32, 33, 34, 35, 36, 37, 38, 39] (by decide +kernel) (by decide +kernel)
set_option maxRecDepth 20000 in
theorem gX11_held_X11_isOne : GoodIn wsX11_held (wsV RX11 99 RX11 yX11_isOne wsX11_isOne) := goodIn_app (goodIn_of _ (by decide +kernel)) ggX11_held_X11_isOne
set_option maxRecDepth 20000 in
theorem ggX11_held_X11_in : GoodIn wsX11_held wsX11_in := goodIn_r _ [10] (by decide +kernel) (by decide +kernel)
set_option maxRecDepth 20000 in
theorem gX11_held_X11_in : GoodIn wsX11_held (va_wsS RX11 47 yX11_in wsX11_in) := goodIn_app (goodIn_of _ (by decide +kernel)) ggX11_held_X11_in
set_option maxRecDepth 20000 in
theorem ggX11_held_X11_heldOn : GoodIn wsX11_held wsX11_heldOn := goodIn_r _ [14, 2, 20, 21, 22, 23, 24, 25, 26, 27, 28, 29, 30, 31, 32, 33, 34, 35, 36, 37, 38, 39] (by decide +kernel) (by decide +kernel)
set_option maxRecDepth 20000 in
theorem gX11_held_X11_heldOn : GoodIn wsX11_held (wsV RX11 95 RX11 yX11_heldOn wsX11_heldOn) := goodIn_app (goodIn_of _ (by decide +kernel)) ggX11_held_X11_heldOn
set_option maxRecDepth 20000 in
theorem ggX11_held_X11_told : GoodIn wsX11_held wsX11_told := goodIn_r _ [18, 19, 20, 21, 22, 23, 24, 25, 26, 27, 28, 29, 30, 31, 32, 33, 34, 35, 36, 37, 38, 39] (by decide +kernel) (by decide +kernel)
set_option maxRecDepth 20000 in
theorem gX11_held_X11_told : GoodIn wsX11_held (wsV RX11 83 RX11 yX11_told wsX11_told) := goodIn_app (goodIn_of _ (by decide +kernel)) ggX11_held_X11_told
theorem dX11_held_0 : decode cX11_held 0 = .ok (.aload_n 0, 1) := by decide +kernel
theorem dX11_held_1 : decode cX11_held 1 = .ok (.iload_n 1, 1) := by decide +kernel
theorem dX11_held_2 : decode cX11_held 2 = .ok (.invokevirtual 99, 3) := by decide +kernel
theorem dX11_held_5 : decode cX11_held 5 = .ok (.ifCond .eq 32, 3) := by decide +kernel
theorem dX11_held_8 : decode cX11_held 8 = .ok (.iload_n 2, 1) := by decide +kernel
theorem dX11_held_9 : decode cX11_held 9 = .ok (.i2l, 1) := by decide +kernel
theorem dX11_held_10 : decode cX11_held 10 = .ok (.lconst 0, 1) := by decide +kernel
theorem dX11_held_11 : decode cX11_held 11 = .ok (.ldc2_w 103, 3) := by decide +kernel
theorem dX11_held_14 : decode cX11_held 14 = .ok (.invokestatic 47, 3) := by decide +kernel
theorem dX11_held_17 : decode cX11_held 17 = .ok (.ifCond .eq 20, 3) := by decide +kernel
theorem dX11_held_20 : decode cX11_held 20 = .ok (.aload_n 0, 1) := by decide +kernel
theorem dX11_held_21 : decode cX11_held 21 = .ok (.iload_n 1, 1) := by decide +kernel
theorem dX11_held_22 : decode cX11_held 22 = .ok (.aload_n 0, 1) := by decide +kernel
theorem dX11_held_23 : decode cX11_held 23 = .ok (.getfield 7, 3) := by decide +kernel
theorem dX11_held_26 : decode cX11_held 26 = .ok (.bipush 115, 2) := by decide +kernel
theorem dX11_held_28 : decode cX11_held 28 = .ok (.iaload, 1) := by decide +kernel
theorem dX11_held_29 : decode cX11_held 29 = .ok (.iload_n 2, 1) := by decide +kernel
theorem dX11_held_30 : decode cX11_held 30 = .ok (.iadd, 1) := by decide +kernel
theorem dX11_held_31 : decode cX11_held 31 = .ok (.invokevirtual 95, 3) := by decide +kernel
theorem dX11_held_34 : decode cX11_held 34 = .ok (.goto 9, 3) := by decide +kernel
theorem dX11_held_37 : decode cX11_held 37 = .ok (.aload_n 0, 1) := by decide +kernel
theorem dX11_held_38 : decode cX11_held 38 = .ok (.bipush (-2), 2) := by decide +kernel
theorem dX11_held_40 : decode cX11_held 40 = .ok (.invokevirtual 83, 3) := by decide +kernel
theorem dX11_held_43 : decode cX11_held 43 = .ok (.ireturn, 1) := by decide +kernel
set_option maxRecDepth 20000 in
theorem ggX11_minds_X11_copy : GoodIn wsX11_minds wsX11_copy := goodIn_r _ [6, 7, 8, 9, 10, 11, 12, 13, 14, 15, 16, 17, 18, 19, 20, 21, 22, 23, 24, 25, 26, 27, 28] (by decide +kernel) (by decide +kernel)
set_option maxRecDepth 20000 in
theorem gX11_minds_X11_copy : GoodIn wsX11_minds (wsV RX11 109 RX11 yX11_copy wsX11_copy) := goodIn_app (goodIn_of _ (by decide +kernel)) ggX11_minds_X11_copy
theorem dX11_minds_0 : decode cX11_minds 0 = .ok (.aload_n 0, 1) := by decide +kernel
theorem dX11_minds_1 : decode cX11_minds 1 = .ok (.getfield 105, 3) := by decide +kernel
theorem dX11_minds_4 : decode cX11_minds 4 = .ok (.iconst 4, 1) := by decide +kernel
theorem dX11_minds_5 : decode cX11_minds 5 = .ok (.if_icmp .ne 48, 3) := by decide +kernel
theorem dX11_minds_8 : decode cX11_minds 8 = .ok (.iconst 1, 1) := by decide +kernel
theorem dX11_minds_9 : decode cX11_minds 9 = .ok (.istore_n 1, 1) := by decide +kernel
theorem dX11_minds_10 : decode cX11_minds 10 = .ok (.iload_n 1, 1) := by decide +kernel
theorem dX11_minds_11 : decode cX11_minds 11 = .ok (.iconst 4, 1) := by decide +kernel
theorem dX11_minds_12 : decode cX11_minds 12 = .ok (.if_icmp .ge 31, 3) := by decide +kernel
theorem dX11_minds_15 : decode cX11_minds 15 = .ok (.aload_n 0, 1) := by decide +kernel
theorem dX11_minds_16 : decode cX11_minds 16 = .ok (.sipush 480, 3) := by decide +kernel
theorem dX11_minds_19 : decode cX11_minds 19 = .ok (.bipush 120, 2) := by decide +kernel
theorem dX11_minds_21 : decode cX11_minds 21 = .ok (.iload_n 1, 1) := by decide +kernel
theorem dX11_minds_22 : decode cX11_minds 22 = .ok (.imul, 1) := by decide +kernel
theorem dX11_minds_23 : decode cX11_minds 23 = .ok (.iadd, 1) := by decide +kernel
theorem dX11_minds_24 : decode cX11_minds 24 = .ok (.sipush 480, 3) := by decide +kernel
theorem dX11_minds_27 : decode cX11_minds 27 = .ok (.bipush 120, 2) := by decide +kernel
theorem dX11_minds_29 : decode cX11_minds 29 = .ok (.iload_n 1, 1) := by decide +kernel
theorem dX11_minds_30 : decode cX11_minds 30 = .ok (.iconst 1, 1) := by decide +kernel
theorem dX11_minds_31 : decode cX11_minds 31 = .ok (.isub, 1) := by decide +kernel
theorem dX11_minds_32 : decode cX11_minds 32 = .ok (.imul, 1) := by decide +kernel
theorem dX11_minds_33 : decode cX11_minds 33 = .ok (.iadd, 1) := by decide +kernel
theorem dX11_minds_34 : decode cX11_minds 34 = .ok (.invokevirtual 109, 3) := by decide +kernel
theorem dX11_minds_37 : decode cX11_minds 37 = .ok (.iinc 1 1, 3) := by decide +kernel
theorem dX11_minds_40 : decode cX11_minds 40 = .ok (.goto (-30), 3) := by decide +kernel
theorem dX11_minds_43 : decode cX11_minds 43 = .ok (.aload_n 0, 1) := by decide +kernel
theorem dX11_minds_44 : decode cX11_minds 44 = .ok (.dup, 1) := by decide +kernel
theorem dX11_minds_45 : decode cX11_minds 45 = .ok (.getfield 105, 3) := by decide +kernel
theorem dX11_minds_48 : decode cX11_minds 48 = .ok (.iconst 1, 1) := by decide +kernel
theorem dX11_minds_49 : decode cX11_minds 49 = .ok (.isub, 1) := by decide +kernel
theorem dX11_minds_50 : decode cX11_minds 50 = .ok (.putfield 105, 3) := by decide +kernel
theorem dX11_minds_53 : decode cX11_minds 53 = .ok (.aload_n 0, 1) := by decide +kernel
theorem dX11_minds_54 : decode cX11_minds 54 = .ok (.iconst 0, 1) := by decide +kernel
theorem dX11_minds_55 : decode cX11_minds 55 = .ok (.sipush 480, 3) := by decide +kernel
theorem dX11_minds_58 : decode cX11_minds 58 = .ok (.bipush 120, 2) := by decide +kernel
theorem dX11_minds_60 : decode cX11_minds 60 = .ok (.aload_n 0, 1) := by decide +kernel
theorem dX11_minds_61 : decode cX11_minds 61 = .ok (.getfield 105, 3) := by decide +kernel
theorem dX11_minds_64 : decode cX11_minds 64 = .ok (.imul, 1) := by decide +kernel
theorem dX11_minds_65 : decode cX11_minds 65 = .ok (.iadd, 1) := by decide +kernel
theorem dX11_minds_66 : decode cX11_minds 66 = .ok (.invokevirtual 109, 3) := by decide +kernel
theorem dX11_minds_69 : decode cX11_minds 69 = .ok (.aload_n 0, 1) := by decide +kernel
theorem dX11_minds_70 : decode cX11_minds 70 = .ok (.dup, 1) := by decide +kernel
theorem dX11_minds_71 : decode cX11_minds 71 = .ok (.getfield 105, 3) := by decide +kernel
theorem dX11_minds_74 : decode cX11_minds 74 = .ok (.iconst 1, 1) := by decide +kernel
theorem dX11_minds_75 : decode cX11_minds 75 = .ok (.iadd, 1) := by decide +kernel
theorem dX11_minds_76 : decode cX11_minds 76 = .ok (.putfield 105, 3) := by decide +kernel
theorem dX11_minds_79 : decode cX11_minds 79 = .ok (.return_, 1) := by decide +kernel
set_option maxRecDepth 20000 in
theorem ggX11_think_X11_isOne : GoodIn wsX11_think wsX11_isOne := goodIn_r _ [6, 1, 7, 8, 5, 9, 36, 37, 38, 39, 40, 41, 42, 43, 44, 45, 46, 47, 48, 49, 50, 51, 52, 53, 54, 55] (by decide +kernel) (by decide +kernel)
set_option maxRecDepth 20000 in
theorem gX11_think_X11_isOne : GoodIn wsX11_think (wsV RX11 99 RX11 yX11_isOne wsX11_isOne) := goodIn_app (goodIn_of _ (by decide +kernel)) ggX11_think_X11_isOne
set_option maxRecDepth 20000 in
theorem ggX11_think_X11_told : GoodIn wsX11_think wsX11_told := goodIn_r _ [13, 14, 36, 37, 38, 39, 40, 41, 42, 43, 44, 45, 46, 47, 48, 49, 50, 51, 52, 53, 54, 55] (by decide +kernel) (by decide +kernel)
set_option maxRecDepth 20000 in
theorem gX11_think_X11_told : GoodIn wsX11_think (wsV RX11 83 RX11 yX11_told wsX11_told) := goodIn_app (goodIn_of _ (by decide +kernel)) ggX11_think_X11_told
set_option maxRecDepth 20000 in
theorem ggX11_think_X11_minds : GoodIn wsX11_think wsX11_minds := goodIn_r _ [18, 19, 20, 21, 22, 5, 23, 1, 24, 36, 37, 38, 39, 40, 41, 42, 43, 44, 45, 46, 47, 48, 49, 50, 51, 52, 53, 54, 55] (by decide +kernel) (by decide +kernel)
set_option maxRecDepth 20000 in
theorem gX11_think_X11_minds : GoodIn wsX11_think (wsV RX11 113 RX11 yX11_minds wsX11_minds) := goodIn_app (goodIn_of _ (by decide +kernel)) ggX11_think_X11_minds
set_option maxRecDepth 20000 in
theorem ggX11_think_X11_heldNow : GoodIn wsX11_think wsX11_heldNow := goodIn_r _ [28, 1, 29, 30, 31, 5, 32, 36, 37, 38, 39, 40, 41, 42, 43, 44, 45, 46, 47, 48, 49, 50, 51, 52, 53, 54, 55] (by decide +kernel) (by decide +kernel)
set_option maxRecDepth 20000 in
theorem gX11_think_X11_heldNow : GoodIn wsX11_think (wsV RX11 116 RX11 yX11_heldNow wsX11_heldNow) := goodIn_app (goodIn_of _ (by decide +kernel)) ggX11_think_X11_heldNow
set_option maxRecDepth 20000 in
theorem ggX11_think_X11_lesser : GoodIn wsX11_think wsX11_lesser := goodIn_r _ [35] (by decide +kernel) (by decide +kernel)
set_option maxRecDepth 20000 in
theorem gX11_think_X11_lesser : GoodIn wsX11_think (va_wsS RX11 119 yX11_lesser wsX11_lesser) := goodIn_app (goodIn_of _ (by decide +kernel)) ggX11_think_X11_lesser
theorem dX11_think_0 : decode cX11_think 0 = .ok (.aload_n 0, 1) := by decide +kernel
theorem dX11_think_1 : decode cX11_think 1 = .ok (.iload_n 1, 1) := by decide +kernel
theorem dX11_think_2 : decode cX11_think 2 = .ok (.invokevirtual 99, 3) := by decide +kernel
theorem dX11_think_5 : decode cX11_think 5 = .ok (.ifCond .ne 10, 3) := by decide +kernel
theorem dX11_think_8 : decode cX11_think 8 = .ok (.aload_n 0, 1) := by decide +kernel
theorem dX11_think_9 : decode cX11_think 9 = .ok (.bipush (-2), 2) := by decide +kernel
theorem dX11_think_11 : decode cX11_think 11 = .ok (.invokevirtual 83, 3) := by decide +kernel
theorem dX11_think_14 : decode cX11_think 14 = .ok (.ireturn, 1) := by decide +kernel
theorem dX11_think_15 : decode cX11_think 15 = .ok (.aload_n 0, 1) := by decide +kernel
theorem dX11_think_16 : decode cX11_think 16 = .ok (.invokevirtual 113, 3) := by decide +kernel
theorem dX11_think_19 : decode cX11_think 19 = .ok (.aload_n 0, 1) := by decide +kernel
theorem dX11_think_20 : decode cX11_think 20 = .ok (.getfield 7, 3) := by decide +kernel
theorem dX11_think_23 : decode cX11_think 23 = .ok (.bipush 37, 2) := by decide +kernel
theorem dX11_think_25 : decode cX11_think 25 = .ok (.iload_n 1, 1) := by decide +kernel
theorem dX11_think_26 : decode cX11_think 26 = .ok (.iadd, 1) := by decide +kernel
theorem dX11_think_27 : decode cX11_think 27 = .ok (.bipush 20, 2) := by decide +kernel
theorem dX11_think_29 : decode cX11_think 29 = .ok (.aload_n 0, 1) := by decide +kernel
theorem dX11_think_30 : decode cX11_think 30 = .ok (.iload_n 1, 1) := by decide +kernel
theorem dX11_think_31 : decode cX11_think 31 = .ok (.invokevirtual 116, 3) := by decide +kernel
theorem dX11_think_34 : decode cX11_think 34 = .ok (.iconst 3, 1) := by decide +kernel
theorem dX11_think_35 : decode cX11_think 35 = .ok (.iadd, 1) := by decide +kernel
theorem dX11_think_36 : decode cX11_think 36 = .ok (.invokestatic 119, 3) := by decide +kernel
theorem dX11_think_39 : decode cX11_think 39 = .ok (.iastore, 1) := by decide +kernel
theorem dX11_think_40 : decode cX11_think 40 = .ok (.aload_n 0, 1) := by decide +kernel
theorem dX11_think_41 : decode cX11_think 41 = .ok (.getfield 7, 3) := by decide +kernel
theorem dX11_think_44 : decode cX11_think 44 = .ok (.bipush 61, 2) := by decide +kernel
theorem dX11_think_46 : decode cX11_think 46 = .ok (.iload_n 1, 1) := by decide +kernel
theorem dX11_think_47 : decode cX11_think 47 = .ok (.iadd, 1) := by decide +kernel
theorem dX11_think_48 : decode cX11_think 48 = .ok (.aload_n 0, 1) := by decide +kernel
theorem dX11_think_49 : decode cX11_think 49 = .ok (.getfield 7, 3) := by decide +kernel
theorem dX11_think_52 : decode cX11_think 52 = .ok (.bipush 115, 2) := by decide +kernel
theorem dX11_think_54 : decode cX11_think 54 = .ok (.iaload, 1) := by decide +kernel
theorem dX11_think_55 : decode cX11_think 55 = .ok (.iastore, 1) := by decide +kernel
theorem dX11_think_56 : decode cX11_think 56 = .ok (.aload_n 0, 1) := by decide +kernel
theorem dX11_think_57 : decode cX11_think 57 = .ok (.getfield 7, 3) := by decide +kernel
theorem dX11_think_60 : decode cX11_think 60 = .ok (.bipush 37, 2) := by decide +kernel
theorem dX11_think_62 : decode cX11_think 62 = .ok (.iload_n 1, 1) := by decide +kernel
theorem dX11_think_63 : decode cX11_think 63 = .ok (.iadd, 1) := by decide +kernel
theorem dX11_think_64 : decode cX11_think 64 = .ok (.iaload, 1) := by decide +kernel
theorem dX11_think_65 : decode cX11_think 65 = .ok (.ireturn, 1) := by decide +kernel
set_option maxRecDepth 20000 in
theorem ggX11_days_X11_in : GoodIn wsX11_days wsX11_in := goodIn_r _ [6] (by decide +kernel) (by decide +kernel)
set_option maxRecDepth 20000 in
theorem gX11_days_X11_in : GoodIn wsX11_days (va_wsS RX11 47 yX11_in wsX11_in) := goodIn_app (goodIn_of _ (by decide +kernel)) ggX11_days_X11_in
set_option maxRecDepth 20000 in
theorem ggX11_days_X11_told : GoodIn wsX11_days wsX11_told := goodIn_r _ [10, 11, 22, 23, 24, 25, 26, 27, 28, 29, 30, 31, 32, 33, 34, 35, 36, 37, 38, 39, 40, 41] (by decide +kernel) (by decide +kernel)
set_option maxRecDepth 20000 in
theorem gX11_days_X11_told : GoodIn wsX11_days (wsV RX11 83 RX11 yX11_told wsX11_told) := goodIn_app (goodIn_of _ (by decide +kernel)) ggX11_days_X11_told
set_option maxRecDepth 20000 in
theorem ggX11_days_X11_minds : GoodIn wsX11_days wsX11_minds := goodIn_r _ [15, 16, 17, 18, 19, 5, 20, 2, 21, 22, 23, 24, 25, 26, 27, 28, 29, 30, 31, 32, 33, 34, 35, 36, 37, 38, 39, 40, 41] (by decide +kernel) (by decide +kernel)
set_option maxRecDepth 20000 in
theorem gX11_days_X11_minds : GoodIn wsX11_days (wsV RX11 113 RX11 yX11_minds wsX11_minds) := goodIn_app (goodIn_of _ (by decide +kernel)) ggX11_days_X11_minds
theorem dX11_days_0 : decode cX11_days 0 = .ok (.iload_n 1, 1) := by decide +kernel
theorem dX11_days_1 : decode cX11_days 1 = .ok (.i2l, 1) := by decide +kernel
theorem dX11_days_2 : decode cX11_days 2 = .ok (.lconst 1, 1) := by decide +kernel
theorem dX11_days_3 : decode cX11_days 3 = .ok (.ldc2_w 103, 3) := by decide +kernel
theorem dX11_days_6 : decode cX11_days 6 = .ok (.invokestatic 47, 3) := by decide +kernel
theorem dX11_days_9 : decode cX11_days 9 = .ok (.ifCond .ne 10, 3) := by decide +kernel
theorem dX11_days_12 : decode cX11_days 12 = .ok (.aload_n 0, 1) := by decide +kernel
theorem dX11_days_13 : decode cX11_days 13 = .ok (.bipush (-2), 2) := by decide +kernel
theorem dX11_days_15 : decode cX11_days 15 = .ok (.invokevirtual 83, 3) := by decide +kernel
theorem dX11_days_18 : decode cX11_days 18 = .ok (.ireturn, 1) := by decide +kernel
theorem dX11_days_19 : decode cX11_days 19 = .ok (.aload_n 0, 1) := by decide +kernel
theorem dX11_days_20 : decode cX11_days 20 = .ok (.getfield 7, 3) := by decide +kernel
theorem dX11_days_23 : decode cX11_days 23 = .ok (.bipush 115, 2) := by decide +kernel
theorem dX11_days_25 : decode cX11_days 25 = .ok (.iaload, 1) := by decide +kernel
theorem dX11_days_26 : decode cX11_days 26 = .ok (.iload_n 1, 1) := by decide +kernel
theorem dX11_days_27 : decode cX11_days 27 = .ok (.iadd, 1) := by decide +kernel
theorem dX11_days_28 : decode cX11_days 28 = .ok (.sipush 999, 3) := by decide +kernel
theorem dX11_days_31 : decode cX11_days 31 = .ok (.if_icmp .le 10, 3) := by decide +kernel
theorem dX11_days_34 : decode cX11_days 34 = .ok (.aload_n 0, 1) := by decide +kernel
theorem dX11_days_35 : decode cX11_days 35 = .ok (.bipush (-3), 2) := by decide +kernel
theorem dX11_days_37 : decode cX11_days 37 = .ok (.invokevirtual 83, 3) := by decide +kernel
theorem dX11_days_40 : decode cX11_days 40 = .ok (.ireturn, 1) := by decide +kernel
theorem dX11_days_41 : decode cX11_days 41 = .ok (.aload_n 0, 1) := by decide +kernel
theorem dX11_days_42 : decode cX11_days 42 = .ok (.invokevirtual 113, 3) := by decide +kernel
theorem dX11_days_45 : decode cX11_days 45 = .ok (.aload_n 0, 1) := by decide +kernel
theorem dX11_days_46 : decode cX11_days 46 = .ok (.getfield 7, 3) := by decide +kernel
theorem dX11_days_49 : decode cX11_days 49 = .ok (.bipush 115, 2) := by decide +kernel
theorem dX11_days_51 : decode cX11_days 51 = .ok (.dup2, 1) := by decide +kernel
theorem dX11_days_52 : decode cX11_days 52 = .ok (.iaload, 1) := by decide +kernel
theorem dX11_days_53 : decode cX11_days 53 = .ok (.iload_n 1, 1) := by decide +kernel
theorem dX11_days_54 : decode cX11_days 54 = .ok (.iadd, 1) := by decide +kernel
theorem dX11_days_55 : decode cX11_days 55 = .ok (.iastore, 1) := by decide +kernel
theorem dX11_days_56 : decode cX11_days 56 = .ok (.aload_n 0, 1) := by decide +kernel
theorem dX11_days_57 : decode cX11_days 57 = .ok (.getfield 7, 3) := by decide +kernel
theorem dX11_days_60 : decode cX11_days 60 = .ok (.bipush 115, 2) := by decide +kernel
theorem dX11_days_62 : decode cX11_days 62 = .ok (.iaload, 1) := by decide +kernel
theorem dX11_days_63 : decode cX11_days 63 = .ok (.ireturn, 1) := by decide +kernel
set_option maxRecDepth 20000 in
theorem ggX11_undo_X11_told : GoodIn wsX11_undo wsX11_told := goodIn_r _ [6, 7, 14, 15, 16, 17, 18, 19, 20, 21, 22, 23, 24, 25, 26, 27, 28, 29, 30, 31, 32, 33] (by decide +kernel) (by decide +kernel)
set_option maxRecDepth 20000 in
theorem gX11_undo_X11_told : GoodIn wsX11_undo (wsV RX11 83 RX11 yX11_told wsX11_told) := goodIn_app (goodIn_of _ (by decide +kernel)) ggX11_undo_X11_told
set_option maxRecDepth 20000 in
theorem ggX11_undo_X11_copy : GoodIn wsX11_undo wsX11_copy := goodIn_r _ [11, 12, 13, 14, 15, 16, 17, 18, 19, 20, 21, 22, 23, 24, 25, 26, 27, 28, 29, 30, 31, 32, 33] (by decide +kernel) (by decide +kernel)
set_option maxRecDepth 20000 in
theorem gX11_undo_X11_copy : GoodIn wsX11_undo (wsV RX11 109 RX11 yX11_copy wsX11_copy) := goodIn_app (goodIn_of _ (by decide +kernel)) ggX11_undo_X11_copy
theorem dX11_undo_0 : decode cX11_undo 0 = .ok (.aload_n 0, 1) := by decide +kernel
theorem dX11_undo_1 : decode cX11_undo 1 = .ok (.getfield 105, 3) := by decide +kernel
theorem dX11_undo_4 : decode cX11_undo 4 = .ok (.ifCond .ne 10, 3) := by decide +kernel
theorem dX11_undo_7 : decode cX11_undo 7 = .ok (.aload_n 0, 1) := by decide +kernel
theorem dX11_undo_8 : decode cX11_undo 8 = .ok (.bipush (-3), 2) := by decide +kernel
theorem dX11_undo_10 : decode cX11_undo 10 = .ok (.invokevirtual 83, 3) := by decide +kernel
theorem dX11_undo_13 : decode cX11_undo 13 = .ok (.ireturn, 1) := by decide +kernel
theorem dX11_undo_14 : decode cX11_undo 14 = .ok (.aload_n 0, 1) := by decide +kernel
theorem dX11_undo_15 : decode cX11_undo 15 = .ok (.dup, 1) := by decide +kernel
theorem dX11_undo_16 : decode cX11_undo 16 = .ok (.getfield 105, 3) := by decide +kernel
theorem dX11_undo_19 : decode cX11_undo 19 = .ok (.iconst 1, 1) := by decide +kernel
theorem dX11_undo_20 : decode cX11_undo 20 = .ok (.isub, 1) := by decide +kernel
theorem dX11_undo_21 : decode cX11_undo 21 = .ok (.putfield 105, 3) := by decide +kernel
theorem dX11_undo_24 : decode cX11_undo 24 = .ok (.aload_n 0, 1) := by decide +kernel
theorem dX11_undo_25 : decode cX11_undo 25 = .ok (.sipush 480, 3) := by decide +kernel
theorem dX11_undo_28 : decode cX11_undo 28 = .ok (.bipush 120, 2) := by decide +kernel
theorem dX11_undo_30 : decode cX11_undo 30 = .ok (.aload_n 0, 1) := by decide +kernel
theorem dX11_undo_31 : decode cX11_undo 31 = .ok (.getfield 105, 3) := by decide +kernel
theorem dX11_undo_34 : decode cX11_undo 34 = .ok (.imul, 1) := by decide +kernel
theorem dX11_undo_35 : decode cX11_undo 35 = .ok (.iadd, 1) := by decide +kernel
theorem dX11_undo_36 : decode cX11_undo 36 = .ok (.iconst 0, 1) := by decide +kernel
theorem dX11_undo_37 : decode cX11_undo 37 = .ok (.invokevirtual 109, 3) := by decide +kernel
theorem dX11_undo_40 : decode cX11_undo 40 = .ok (.iconst 1, 1) := by decide +kernel
theorem dX11_undo_41 : decode cX11_undo 41 = .ok (.ireturn, 1) := by decide +kernel
set_option maxRecDepth 20000 in
theorem ggX11_type_X11_in : GoodIn wsX11_type wsX11_in := goodIn_r _ [8] (by decide +kernel) (by decide +kernel)
set_option maxRecDepth 20000 in
theorem gX11_type_X11_in : GoodIn wsX11_type (va_wsS RX11 47 yX11_in wsX11_in) := goodIn_app (goodIn_of _ (by decide +kernel)) ggX11_type_X11_in
set_option maxRecDepth 20000 in
theorem ggX11_type_X11_told : GoodIn wsX11_type wsX11_told := goodIn_r _ [12, 13, 14, 15, 16, 17, 18, 19, 20, 21, 22, 23, 24, 25, 26, 27, 28, 29, 30, 31, 32, 33] (by decide +kernel) (by decide +kernel)
set_option maxRecDepth 20000 in
theorem gX11_type_X11_told : GoodIn wsX11_type (wsV RX11 83 RX11 yX11_told wsX11_told) := goodIn_app (goodIn_of _ (by decide +kernel)) ggX11_type_X11_told
theorem dX11_type_0 : decode cX11_type 0 = .ok (.iload_n 3, 1) := by decide +kernel
theorem dX11_type_1 : decode cX11_type 1 = .ok (.i2l, 1) := by decide +kernel
theorem dX11_type_2 : decode cX11_type 2 = .ok (.lconst 1, 1) := by decide +kernel
theorem dX11_type_3 : decode cX11_type 3 = .ok (.ldc2_w 122, 3) := by decide +kernel
theorem dX11_type_6 : decode cX11_type 6 = .ok (.invokestatic 47, 3) := by decide +kernel
theorem dX11_type_9 : decode cX11_type 9 = .ok (.ifCond .ne 10, 3) := by decide +kernel
theorem dX11_type_12 : decode cX11_type 12 = .ok (.aload_n 0, 1) := by decide +kernel
theorem dX11_type_13 : decode cX11_type 13 = .ok (.bipush (-2), 2) := by decide +kernel
theorem dX11_type_15 : decode cX11_type 15 = .ok (.invokevirtual 83, 3) := by decide +kernel
theorem dX11_type_18 : decode cX11_type 18 = .ok (.ireturn, 1) := by decide +kernel
theorem dX11_type_19 : decode cX11_type 19 = .ok (.aload_n 0, 1) := by decide +kernel
theorem dX11_type_20 : decode cX11_type 20 = .ok (.getfield 124, 3) := by decide +kernel
theorem dX11_type_23 : decode cX11_type 23 = .ok (.iload_n 3, 1) := by decide +kernel
theorem dX11_type_24 : decode cX11_type 24 = .ok (.iadd, 1) := by decide +kernel
theorem dX11_type_25 : decode cX11_type 25 = .ok (.sipush 300, 3) := by decide +kernel
theorem dX11_type_28 : decode cX11_type 28 = .ok (.if_icmp .le 10, 3) := by decide +kernel
theorem dX11_type_31 : decode cX11_type 31 = .ok (.aload_n 0, 1) := by decide +kernel
theorem dX11_type_32 : decode cX11_type 32 = .ok (.bipush (-4), 2) := by decide +kernel
theorem dX11_type_34 : decode cX11_type 34 = .ok (.invokevirtual 83, 3) := by decide +kernel
theorem dX11_type_37 : decode cX11_type 37 = .ok (.ireturn, 1) := by decide +kernel
theorem dX11_type_38 : decode cX11_type 38 = .ok (.iload_n 3, 1) := by decide +kernel
theorem dX11_type_39 : decode cX11_type 39 = .ok (.iconst 1, 1) := by decide +kernel
theorem dX11_type_40 : decode cX11_type 40 = .ok (.isub, 1) := by decide +kernel
theorem dX11_type_41 : decode cX11_type 41 = .ok (.istore 4, 2) := by decide +kernel
theorem dX11_type_43 : decode cX11_type 43 = .ok (.iload 4, 2) := by decide +kernel
theorem dX11_type_45 : decode cX11_type 45 = .ok (.ifCond .lt 40, 3) := by decide +kernel
theorem dX11_type_48 : decode cX11_type 48 = .ok (.aload_n 0, 1) := by decide +kernel
theorem dX11_type_49 : decode cX11_type 49 = .ok (.getfield 21, 3) := by decide +kernel
theorem dX11_type_52 : decode cX11_type 52 = .ok (.aload_n 0, 1) := by decide +kernel
theorem dX11_type_53 : decode cX11_type 53 = .ok (.getfield 124, 3) := by decide +kernel
theorem dX11_type_56 : decode cX11_type 56 = .ok (.lload_n 1, 1) := by decide +kernel
theorem dX11_type_57 : decode cX11_type 57 = .ok (.bipush 8, 2) := by decide +kernel
theorem dX11_type_59 : decode cX11_type 59 = .ok (.iload 4, 2) := by decide +kernel
theorem dX11_type_61 : decode cX11_type 61 = .ok (.imul, 1) := by decide +kernel
theorem dX11_type_62 : decode cX11_type 62 = .ok (.lshr, 1) := by decide +kernel
theorem dX11_type_63 : decode cX11_type 63 = .ok (.ldc2_w 127, 3) := by decide +kernel
theorem dX11_type_66 : decode cX11_type 66 = .ok (.land, 1) := by decide +kernel
theorem dX11_type_67 : decode cX11_type 67 = .ok (.l2i, 1) := by decide +kernel
theorem dX11_type_68 : decode cX11_type 68 = .ok (.iastore, 1) := by decide +kernel
theorem dX11_type_69 : decode cX11_type 69 = .ok (.aload_n 0, 1) := by decide +kernel
theorem dX11_type_70 : decode cX11_type 70 = .ok (.dup, 1) := by decide +kernel
theorem dX11_type_71 : decode cX11_type 71 = .ok (.getfield 124, 3) := by decide +kernel
theorem dX11_type_74 : decode cX11_type 74 = .ok (.iconst 1, 1) := by decide +kernel
theorem dX11_type_75 : decode cX11_type 75 = .ok (.iadd, 1) := by decide +kernel
theorem dX11_type_76 : decode cX11_type 76 = .ok (.putfield 124, 3) := by decide +kernel
theorem dX11_type_79 : decode cX11_type 79 = .ok (.iinc 4 (-1), 3) := by decide +kernel
theorem dX11_type_82 : decode cX11_type 82 = .ok (.goto (-39), 3) := by decide +kernel
theorem dX11_type_85 : decode cX11_type 85 = .ok (.aload_n 0, 1) := by decide +kernel
theorem dX11_type_86 : decode cX11_type 86 = .ok (.getfield 124, 3) := by decide +kernel
theorem dX11_type_89 : decode cX11_type 89 = .ok (.ireturn, 1) := by decide +kernel
theorem dX11_clear_0 : decode cX11_clear 0 = .ok (.aload_n 0, 1) := by decide +kernel
theorem dX11_clear_1 : decode cX11_clear 1 = .ok (.getfield 124, 3) := by decide +kernel
theorem dX11_clear_4 : decode cX11_clear 4 = .ok (.istore_n 1, 1) := by decide +kernel
theorem dX11_clear_5 : decode cX11_clear 5 = .ok (.aload_n 0, 1) := by decide +kernel
theorem dX11_clear_6 : decode cX11_clear 6 = .ok (.iconst 0, 1) := by decide +kernel
theorem dX11_clear_7 : decode cX11_clear 7 = .ok (.putfield 124, 3) := by decide +kernel
theorem dX11_clear_10 : decode cX11_clear 10 = .ok (.iload_n 1, 1) := by decide +kernel
theorem dX11_clear_11 : decode cX11_clear 11 = .ok (.ireturn, 1) := by decide +kernel
theorem dX11_isEnd_0 : decode cX11_isEnd 0 = .ok (.aload_n 0, 1) := by decide +kernel
theorem dX11_isEnd_1 : decode cX11_isEnd 1 = .ok (.getfield 129, 3) := by decide +kernel
theorem dX11_isEnd_4 : decode cX11_isEnd 4 = .ok (.aload_n 0, 1) := by decide +kernel
theorem dX11_isEnd_5 : decode cX11_isEnd 5 = .ok (.getfield 124, 3) := by decide +kernel
theorem dX11_isEnd_8 : decode cX11_isEnd 8 = .ok (.if_icmp .ge 30, 3) := by decide +kernel
theorem dX11_isEnd_11 : decode cX11_isEnd 11 = .ok (.aload_n 0, 1) := by decide +kernel
theorem dX11_isEnd_12 : decode cX11_isEnd 12 = .ok (.getfield 21, 3) := by decide +kernel
theorem dX11_isEnd_15 : decode cX11_isEnd 15 = .ok (.aload_n 0, 1) := by decide +kernel
theorem dX11_isEnd_16 : decode cX11_isEnd 16 = .ok (.getfield 129, 3) := by decide +kernel
theorem dX11_isEnd_19 : decode cX11_isEnd 19 = .ok (.iaload, 1) := by decide +kernel
theorem dX11_isEnd_20 : decode cX11_isEnd 20 = .ok (.bipush 32, 2) := by decide +kernel
theorem dX11_isEnd_22 : decode cX11_isEnd 22 = .ok (.if_icmp .ne 16, 3) := by decide +kernel
theorem dX11_isEnd_25 : decode cX11_isEnd 25 = .ok (.aload_n 0, 1) := by decide +kernel
theorem dX11_isEnd_26 : decode cX11_isEnd 26 = .ok (.dup, 1) := by decide +kernel
theorem dX11_isEnd_27 : decode cX11_isEnd 27 = .ok (.getfield 129, 3) := by decide +kernel
theorem dX11_isEnd_30 : decode cX11_isEnd 30 = .ok (.iconst 1, 1) := by decide +kernel
theorem dX11_isEnd_31 : decode cX11_isEnd 31 = .ok (.iadd, 1) := by decide +kernel
theorem dX11_isEnd_32 : decode cX11_isEnd 32 = .ok (.putfield 129, 3) := by decide +kernel
theorem dX11_isEnd_35 : decode cX11_isEnd 35 = .ok (.goto (-35), 3) := by decide +kernel
theorem dX11_isEnd_38 : decode cX11_isEnd 38 = .ok (.aload_n 0, 1) := by decide +kernel
theorem dX11_isEnd_39 : decode cX11_isEnd 39 = .ok (.getfield 129, 3) := by decide +kernel
theorem dX11_isEnd_42 : decode cX11_isEnd 42 = .ok (.aload_n 0, 1) := by decide +kernel
theorem dX11_isEnd_43 : decode cX11_isEnd 43 = .ok (.getfield 124, 3) := by decide +kernel
theorem dX11_isEnd_46 : decode cX11_isEnd 46 = .ok (.if_icmp .ne 7, 3) := by decide +kernel
theorem dX11_isEnd_49 : decode cX11_isEnd 49 = .ok (.iconst 1, 1) := by decide +kernel
theorem dX11_isEnd_50 : decode cX11_isEnd 50 = .ok (.goto 4, 3) := by decide +kernel
theorem dX11_isEnd_53 : decode cX11_isEnd 53 = .ok (.iconst 0, 1) := by decide +kernel
theorem dX11_isEnd_54 : decode cX11_isEnd 54 = .ok (.ireturn, 1) := by decide +kernel
set_option maxRecDepth 20000 in
theorem ggX11_takeLetters_X11_in : GoodIn wsX11_takeLetters wsX11_in := goodIn_r _ [12] (by decide +kernel) (by decide +kernel)
set_option maxRecDepth 20000 in
theorem gX11_takeLetters_X11_in : GoodIn wsX11_takeLetters (va_wsS RX11 47 yX11_in wsX11_in) := goodIn_app (goodIn_of _ (by decide +kernel)) ggX11_takeLetters_X11_in
theorem dX11_takeLetters_0 : decode cX11_takeLetters 0 = .ok (.aload_n 0, 1) := by decide +kernel
theorem dX11_takeLetters_1 : decode cX11_takeLetters 1 = .ok (.getfield 129, 3) := by decide +kernel
theorem dX11_takeLetters_4 : decode cX11_takeLetters 4 = .ok (.istore_n 1, 1) := by decide +kernel
theorem dX11_takeLetters_5 : decode cX11_takeLetters 5 = .ok (.lconst 0, 1) := by decide +kernel
theorem dX11_takeLetters_6 : decode cX11_takeLetters 6 = .ok (.lstore_n 2, 1) := by decide +kernel
theorem dX11_takeLetters_7 : decode cX11_takeLetters 7 = .ok (.aload_n 0, 1) := by decide +kernel
theorem dX11_takeLetters_8 : decode cX11_takeLetters 8 = .ok (.getfield 129, 3) := by decide +kernel
theorem dX11_takeLetters_11 : decode cX11_takeLetters 11 = .ok (.aload_n 0, 1) := by decide +kernel
theorem dX11_takeLetters_12 : decode cX11_takeLetters 12 = .ok (.getfield 124, 3) := by decide +kernel
theorem dX11_takeLetters_15 : decode cX11_takeLetters 15 = .ok (.if_icmp .ge 76, 3) := by decide +kernel
theorem dX11_takeLetters_18 : decode cX11_takeLetters 18 = .ok (.aload_n 0, 1) := by decide +kernel
theorem dX11_takeLetters_19 : decode cX11_takeLetters 19 = .ok (.getfield 21, 3) := by decide +kernel
theorem dX11_takeLetters_22 : decode cX11_takeLetters 22 = .ok (.aload_n 0, 1) := by decide +kernel
theorem dX11_takeLetters_23 : decode cX11_takeLetters 23 = .ok (.getfield 129, 3) := by decide +kernel
theorem dX11_takeLetters_26 : decode cX11_takeLetters 26 = .ok (.iaload, 1) := by decide +kernel
theorem dX11_takeLetters_27 : decode cX11_takeLetters 27 = .ok (.i2l, 1) := by decide +kernel
theorem dX11_takeLetters_28 : decode cX11_takeLetters 28 = .ok (.ldc2_w 132, 3) := by decide +kernel
theorem dX11_takeLetters_31 : decode cX11_takeLetters 31 = .ok (.ldc2_w 134, 3) := by decide +kernel
theorem dX11_takeLetters_34 : decode cX11_takeLetters 34 = .ok (.invokestatic 47, 3) := by decide +kernel
theorem dX11_takeLetters_37 : decode cX11_takeLetters 37 = .ok (.ifCond .eq 54, 3) := by decide +kernel
theorem dX11_takeLetters_40 : decode cX11_takeLetters 40 = .ok (.aload_n 0, 1) := by decide +kernel
theorem dX11_takeLetters_41 : decode cX11_takeLetters 41 = .ok (.getfield 129, 3) := by decide +kernel
theorem dX11_takeLetters_44 : decode cX11_takeLetters 44 = .ok (.iload_n 1, 1) := by decide +kernel
theorem dX11_takeLetters_45 : decode cX11_takeLetters 45 = .ok (.isub, 1) := by decide +kernel
theorem dX11_takeLetters_46 : decode cX11_takeLetters 46 = .ok (.bipush 7, 2) := by decide +kernel
theorem dX11_takeLetters_48 : decode cX11_takeLetters 48 = .ok (.if_icmp .ge 26, 3) := by decide +kernel
theorem dX11_takeLetters_51 : decode cX11_takeLetters 51 = .ok (.ldc2_w 51, 3) := by decide +kernel
theorem dX11_takeLetters_54 : decode cX11_takeLetters 54 = .ok (.lload_n 2, 1) := by decide +kernel
theorem dX11_takeLetters_55 : decode cX11_takeLetters 55 = .ok (.lmul, 1) := by decide +kernel
theorem dX11_takeLetters_56 : decode cX11_takeLetters 56 = .ok (.aload_n 0, 1) := by decide +kernel
theorem dX11_takeLetters_57 : decode cX11_takeLetters 57 = .ok (.getfield 21, 3) := by decide +kernel
theorem dX11_takeLetters_60 : decode cX11_takeLetters 60 = .ok (.aload_n 0, 1) := by decide +kernel
theorem dX11_takeLetters_61 : decode cX11_takeLetters 61 = .ok (.getfield 129, 3) := by decide +kernel
theorem dX11_takeLetters_64 : decode cX11_takeLetters 64 = .ok (.iaload, 1) := by decide +kernel
theorem dX11_takeLetters_65 : decode cX11_takeLetters 65 = .ok (.i2l, 1) := by decide +kernel
theorem dX11_takeLetters_66 : decode cX11_takeLetters 66 = .ok (.ladd, 1) := by decide +kernel
theorem dX11_takeLetters_67 : decode cX11_takeLetters 67 = .ok (.ldc2_w 136, 3) := by decide +kernel
theorem dX11_takeLetters_70 : decode cX11_takeLetters 70 = .ok (.lsub, 1) := by decide +kernel
theorem dX11_takeLetters_71 : decode cX11_takeLetters 71 = .ok (.goto 6, 3) := by decide +kernel
theorem dX11_takeLetters_74 : decode cX11_takeLetters 74 = .ok (.ldc2_w 138, 3) := by decide +kernel
theorem dX11_takeLetters_77 : decode cX11_takeLetters 77 = .ok (.lstore_n 2, 1) := by decide +kernel
theorem dX11_takeLetters_78 : decode cX11_takeLetters 78 = .ok (.aload_n 0, 1) := by decide +kernel
theorem dX11_takeLetters_79 : decode cX11_takeLetters 79 = .ok (.dup, 1) := by decide +kernel
theorem dX11_takeLetters_80 : decode cX11_takeLetters 80 = .ok (.getfield 129, 3) := by decide +kernel
theorem dX11_takeLetters_83 : decode cX11_takeLetters 83 = .ok (.iconst 1, 1) := by decide +kernel
theorem dX11_takeLetters_84 : decode cX11_takeLetters 84 = .ok (.iadd, 1) := by decide +kernel
theorem dX11_takeLetters_85 : decode cX11_takeLetters 85 = .ok (.putfield 129, 3) := by decide +kernel
theorem dX11_takeLetters_88 : decode cX11_takeLetters 88 = .ok (.goto (-81), 3) := by decide +kernel
theorem dX11_takeLetters_91 : decode cX11_takeLetters 91 = .ok (.lload_n 2, 1) := by decide +kernel
theorem dX11_takeLetters_92 : decode cX11_takeLetters 92 = .ok (.lreturn, 1) := by decide +kernel
theorem dX11_wordOf_0 : decode cX11_wordOf 0 = .ok (.lload_n 0, 1) := by decide +kernel
theorem dX11_wordOf_1 : decode cX11_wordOf 1 = .ok (.ldc2_w 140, 3) := by decide +kernel
theorem dX11_wordOf_4 : decode cX11_wordOf 4 = .ok (.lcmp, 1) := by decide +kernel
theorem dX11_wordOf_5 : decode cX11_wordOf 5 = .ok (.ifCond .ne 7, 3) := by decide +kernel
theorem dX11_wordOf_8 : decode cX11_wordOf 8 = .ok (.iconst 0, 1) := by decide +kernel
theorem dX11_wordOf_9 : decode cX11_wordOf 9 = .ok (.goto 52, 3) := by decide +kernel
theorem dX11_wordOf_12 : decode cX11_wordOf 12 = .ok (.lload_n 0, 1) := by decide +kernel
theorem dX11_wordOf_13 : decode cX11_wordOf 13 = .ok (.ldc2_w 142, 3) := by decide +kernel
theorem dX11_wordOf_16 : decode cX11_wordOf 16 = .ok (.lcmp, 1) := by decide +kernel
theorem dX11_wordOf_17 : decode cX11_wordOf 17 = .ok (.ifCond .ne 7, 3) := by decide +kernel
theorem dX11_wordOf_20 : decode cX11_wordOf 20 = .ok (.iconst 1, 1) := by decide +kernel
theorem dX11_wordOf_21 : decode cX11_wordOf 21 = .ok (.goto 40, 3) := by decide +kernel
theorem dX11_wordOf_24 : decode cX11_wordOf 24 = .ok (.lload_n 0, 1) := by decide +kernel
theorem dX11_wordOf_25 : decode cX11_wordOf 25 = .ok (.ldc2_w 144, 3) := by decide +kernel
theorem dX11_wordOf_28 : decode cX11_wordOf 28 = .ok (.lcmp, 1) := by decide +kernel
theorem dX11_wordOf_29 : decode cX11_wordOf 29 = .ok (.ifCond .ne 7, 3) := by decide +kernel
theorem dX11_wordOf_32 : decode cX11_wordOf 32 = .ok (.iconst 2, 1) := by decide +kernel
theorem dX11_wordOf_33 : decode cX11_wordOf 33 = .ok (.goto 28, 3) := by decide +kernel
theorem dX11_wordOf_36 : decode cX11_wordOf 36 = .ok (.lload_n 0, 1) := by decide +kernel
theorem dX11_wordOf_37 : decode cX11_wordOf 37 = .ok (.ldc2_w 146, 3) := by decide +kernel
theorem dX11_wordOf_40 : decode cX11_wordOf 40 = .ok (.lcmp, 1) := by decide +kernel
theorem dX11_wordOf_41 : decode cX11_wordOf 41 = .ok (.ifCond .ne 7, 3) := by decide +kernel
theorem dX11_wordOf_44 : decode cX11_wordOf 44 = .ok (.iconst 3, 1) := by decide +kernel
theorem dX11_wordOf_45 : decode cX11_wordOf 45 = .ok (.goto 16, 3) := by decide +kernel
theorem dX11_wordOf_48 : decode cX11_wordOf 48 = .ok (.lload_n 0, 1) := by decide +kernel
theorem dX11_wordOf_49 : decode cX11_wordOf 49 = .ok (.ldc2_w 148, 3) := by decide +kernel
theorem dX11_wordOf_52 : decode cX11_wordOf 52 = .ok (.lcmp, 1) := by decide +kernel
theorem dX11_wordOf_53 : decode cX11_wordOf 53 = .ok (.ifCond .ne 7, 3) := by decide +kernel
theorem dX11_wordOf_56 : decode cX11_wordOf 56 = .ok (.iconst 4, 1) := by decide +kernel
theorem dX11_wordOf_57 : decode cX11_wordOf 57 = .ok (.goto 4, 3) := by decide +kernel
theorem dX11_wordOf_60 : decode cX11_wordOf 60 = .ok (.iconst (-1), 1) := by decide +kernel
theorem dX11_wordOf_61 : decode cX11_wordOf 61 = .ok (.ireturn, 1) := by decide +kernel
theorem dX11_numbersOf_0 : decode cX11_numbersOf 0 = .ok (.iload_n 0, 1) := by decide +kernel
theorem dX11_numbersOf_1 : decode cX11_numbersOf 1 = .ok (.ifCond .ne 7, 3) := by decide +kernel
theorem dX11_numbersOf_4 : decode cX11_numbersOf 4 = .ok (.iconst 5, 1) := by decide +kernel
theorem dX11_numbersOf_5 : decode cX11_numbersOf 5 = .ok (.goto 22, 3) := by decide +kernel
theorem dX11_numbersOf_8 : decode cX11_numbersOf 8 = .ok (.iload_n 0, 1) := by decide +kernel
theorem dX11_numbersOf_9 : decode cX11_numbersOf 9 = .ok (.iconst 1, 1) := by decide +kernel
theorem dX11_numbersOf_10 : decode cX11_numbersOf 10 = .ok (.if_icmp .ne 7, 3) := by decide +kernel
theorem dX11_numbersOf_13 : decode cX11_numbersOf 13 = .ok (.iconst 3, 1) := by decide +kernel
theorem dX11_numbersOf_14 : decode cX11_numbersOf 14 = .ok (.goto 13, 3) := by decide +kernel
theorem dX11_numbersOf_17 : decode cX11_numbersOf 17 = .ok (.iload_n 0, 1) := by decide +kernel
theorem dX11_numbersOf_18 : decode cX11_numbersOf 18 = .ok (.iconst 2, 1) := by decide +kernel
theorem dX11_numbersOf_19 : decode cX11_numbersOf 19 = .ok (.if_icmp .ne 7, 3) := by decide +kernel
theorem dX11_numbersOf_22 : decode cX11_numbersOf 22 = .ok (.iconst 2, 1) := by decide +kernel
theorem dX11_numbersOf_23 : decode cX11_numbersOf 23 = .ok (.goto 4, 3) := by decide +kernel
theorem dX11_numbersOf_26 : decode cX11_numbersOf 26 = .ok (.iconst 1, 1) := by decide +kernel
theorem dX11_numbersOf_27 : decode cX11_numbersOf 27 = .ok (.ireturn, 1) := by decide +kernel
set_option maxRecDepth 20000 in
theorem ggX11_takeNumber_X11_isEnd : GoodIn wsX11_takeNumber wsX11_isEnd := goodIn_r _ [11, 3, 1, 4, 15, 16, 17, 18, 19, 20, 21, 22, 23, 24, 25, 26, 27, 28, 29, 30, 31, 32, 33, 34] (by decide +kernel) (by decide +kernel)
set_option maxRecDepth 20000 in
theorem gX11_takeNumber_X11_isEnd : GoodIn wsX11_takeNumber (wsV RX11 150 RX11 yX11_isEnd wsX11_isEnd) := goodIn_app (goodIn_of _ (by decide +kernel)) ggX11_takeNumber_X11_isEnd
set_option maxRecDepth 20000 in
theorem ggX11_takeNumber_X11_in : GoodIn wsX11_takeNumber wsX11_in := goodIn_r _ [14] (by decide +kernel) (by decide +kernel)
set_option maxRecDepth 20000 in
theorem gX11_takeNumber_X11_in : GoodIn wsX11_takeNumber (va_wsS RX11 47 yX11_in wsX11_in) := goodIn_app (goodIn_of _ (by decide +kernel)) ggX11_takeNumber_X11_in
theorem dX11_takeNumber_0 : decode cX11_takeNumber 0 = .ok (.aload_n 0, 1) := by decide +kernel
theorem dX11_takeNumber_1 : decode cX11_takeNumber 1 = .ok (.invokevirtual 150, 3) := by decide +kernel
theorem dX11_takeNumber_4 : decode cX11_takeNumber 4 = .ok (.ifCond .eq 13, 3) := by decide +kernel
theorem dX11_takeNumber_7 : decode cX11_takeNumber 7 = .ok (.aload_n 0, 1) := by decide +kernel
theorem dX11_takeNumber_8 : decode cX11_takeNumber 8 = .ok (.aload_n 0, 1) := by decide +kernel
theorem dX11_takeNumber_9 : decode cX11_takeNumber 9 = .ok (.getfield 124, 3) := by decide +kernel
theorem dX11_takeNumber_12 : decode cX11_takeNumber 12 = .ok (.putfield 154, 3) := by decide +kernel
theorem dX11_takeNumber_15 : decode cX11_takeNumber 15 = .ok (.iconst (-1), 1) := by decide +kernel
theorem dX11_takeNumber_16 : decode cX11_takeNumber 16 = .ok (.ireturn, 1) := by decide +kernel
theorem dX11_takeNumber_17 : decode cX11_takeNumber 17 = .ok (.aload_n 0, 1) := by decide +kernel
theorem dX11_takeNumber_18 : decode cX11_takeNumber 18 = .ok (.getfield 129, 3) := by decide +kernel
theorem dX11_takeNumber_21 : decode cX11_takeNumber 21 = .ok (.istore_n 1, 1) := by decide +kernel
theorem dX11_takeNumber_22 : decode cX11_takeNumber 22 = .ok (.iconst 0, 1) := by decide +kernel
theorem dX11_takeNumber_23 : decode cX11_takeNumber 23 = .ok (.istore_n 2, 1) := by decide +kernel
theorem dX11_takeNumber_24 : decode cX11_takeNumber 24 = .ok (.aload_n 0, 1) := by decide +kernel
theorem dX11_takeNumber_25 : decode cX11_takeNumber 25 = .ok (.getfield 129, 3) := by decide +kernel
theorem dX11_takeNumber_28 : decode cX11_takeNumber 28 = .ok (.aload_n 0, 1) := by decide +kernel
theorem dX11_takeNumber_29 : decode cX11_takeNumber 29 = .ok (.getfield 124, 3) := by decide +kernel
theorem dX11_takeNumber_32 : decode cX11_takeNumber 32 = .ok (.if_icmp .ge 70, 3) := by decide +kernel
theorem dX11_takeNumber_35 : decode cX11_takeNumber 35 = .ok (.aload_n 0, 1) := by decide +kernel
theorem dX11_takeNumber_36 : decode cX11_takeNumber 36 = .ok (.getfield 21, 3) := by decide +kernel
theorem dX11_takeNumber_39 : decode cX11_takeNumber 39 = .ok (.aload_n 0, 1) := by decide +kernel
theorem dX11_takeNumber_40 : decode cX11_takeNumber 40 = .ok (.getfield 129, 3) := by decide +kernel
theorem dX11_takeNumber_43 : decode cX11_takeNumber 43 = .ok (.iaload, 1) := by decide +kernel
theorem dX11_takeNumber_44 : decode cX11_takeNumber 44 = .ok (.i2l, 1) := by decide +kernel
theorem dX11_takeNumber_45 : decode cX11_takeNumber 45 = .ok (.ldc2_w 157, 3) := by decide +kernel
theorem dX11_takeNumber_48 : decode cX11_takeNumber 48 = .ok (.ldc2_w 159, 3) := by decide +kernel
theorem dX11_takeNumber_51 : decode cX11_takeNumber 51 = .ok (.invokestatic 47, 3) := by decide +kernel
theorem dX11_takeNumber_54 : decode cX11_takeNumber 54 = .ok (.ifCond .eq 48, 3) := by decide +kernel
theorem dX11_takeNumber_57 : decode cX11_takeNumber 57 = .ok (.aload_n 0, 1) := by decide +kernel
theorem dX11_takeNumber_58 : decode cX11_takeNumber 58 = .ok (.getfield 129, 3) := by decide +kernel
theorem dX11_takeNumber_61 : decode cX11_takeNumber 61 = .ok (.iload_n 1, 1) := by decide +kernel
theorem dX11_takeNumber_62 : decode cX11_takeNumber 62 = .ok (.isub, 1) := by decide +kernel
theorem dX11_takeNumber_63 : decode cX11_takeNumber 63 = .ok (.iconst 2, 1) := by decide +kernel
theorem dX11_takeNumber_64 : decode cX11_takeNumber 64 = .ok (.if_icmp .ge 23, 3) := by decide +kernel
theorem dX11_takeNumber_67 : decode cX11_takeNumber 67 = .ok (.bipush 10, 2) := by decide +kernel
theorem dX11_takeNumber_69 : decode cX11_takeNumber 69 = .ok (.iload_n 2, 1) := by decide +kernel
theorem dX11_takeNumber_70 : decode cX11_takeNumber 70 = .ok (.imul, 1) := by decide +kernel
theorem dX11_takeNumber_71 : decode cX11_takeNumber 71 = .ok (.aload_n 0, 1) := by decide +kernel
theorem dX11_takeNumber_72 : decode cX11_takeNumber 72 = .ok (.getfield 21, 3) := by decide +kernel
theorem dX11_takeNumber_75 : decode cX11_takeNumber 75 = .ok (.aload_n 0, 1) := by decide +kernel
theorem dX11_takeNumber_76 : decode cX11_takeNumber 76 = .ok (.getfield 129, 3) := by decide +kernel
theorem dX11_takeNumber_79 : decode cX11_takeNumber 79 = .ok (.iaload, 1) := by decide +kernel
theorem dX11_takeNumber_80 : decode cX11_takeNumber 80 = .ok (.iadd, 1) := by decide +kernel
theorem dX11_takeNumber_81 : decode cX11_takeNumber 81 = .ok (.bipush 48, 2) := by decide +kernel
theorem dX11_takeNumber_83 : decode cX11_takeNumber 83 = .ok (.isub, 1) := by decide +kernel
theorem dX11_takeNumber_84 : decode cX11_takeNumber 84 = .ok (.goto 4, 3) := by decide +kernel
theorem dX11_takeNumber_87 : decode cX11_takeNumber 87 = .ok (.iload_n 2, 1) := by decide +kernel
theorem dX11_takeNumber_88 : decode cX11_takeNumber 88 = .ok (.istore_n 2, 1) := by decide +kernel
theorem dX11_takeNumber_89 : decode cX11_takeNumber 89 = .ok (.aload_n 0, 1) := by decide +kernel
theorem dX11_takeNumber_90 : decode cX11_takeNumber 90 = .ok (.dup, 1) := by decide +kernel
theorem dX11_takeNumber_91 : decode cX11_takeNumber 91 = .ok (.getfield 129, 3) := by decide +kernel
theorem dX11_takeNumber_94 : decode cX11_takeNumber 94 = .ok (.iconst 1, 1) := by decide +kernel
theorem dX11_takeNumber_95 : decode cX11_takeNumber 95 = .ok (.iadd, 1) := by decide +kernel
theorem dX11_takeNumber_96 : decode cX11_takeNumber 96 = .ok (.putfield 129, 3) := by decide +kernel
theorem dX11_takeNumber_99 : decode cX11_takeNumber 99 = .ok (.goto (-75), 3) := by decide +kernel
theorem dX11_takeNumber_102 : decode cX11_takeNumber 102 = .ok (.aload_n 0, 1) := by decide +kernel
theorem dX11_takeNumber_103 : decode cX11_takeNumber 103 = .ok (.aload_n 0, 1) := by decide +kernel
theorem dX11_takeNumber_104 : decode cX11_takeNumber 104 = .ok (.getfield 129, 3) := by decide +kernel
theorem dX11_takeNumber_107 : decode cX11_takeNumber 107 = .ok (.iload_n 1, 1) := by decide +kernel
theorem dX11_takeNumber_108 : decode cX11_takeNumber 108 = .ok (.if_icmp .eq 13, 3) := by decide +kernel
theorem dX11_takeNumber_111 : decode cX11_takeNumber 111 = .ok (.aload_n 0, 1) := by decide +kernel
theorem dX11_takeNumber_112 : decode cX11_takeNumber 112 = .ok (.getfield 129, 3) := by decide +kernel
theorem dX11_takeNumber_115 : decode cX11_takeNumber 115 = .ok (.iload_n 1, 1) := by decide +kernel
theorem dX11_takeNumber_116 : decode cX11_takeNumber 116 = .ok (.isub, 1) := by decide +kernel
theorem dX11_takeNumber_117 : decode cX11_takeNumber 117 = .ok (.iconst 2, 1) := by decide +kernel
theorem dX11_takeNumber_118 : decode cX11_takeNumber 118 = .ok (.if_icmp .le 7, 3) := by decide +kernel
theorem dX11_takeNumber_121 : decode cX11_takeNumber 121 = .ok (.iload_n 1, 1) := by decide +kernel
theorem dX11_takeNumber_122 : decode cX11_takeNumber 122 = .ok (.goto 7, 3) := by decide +kernel
theorem dX11_takeNumber_125 : decode cX11_takeNumber 125 = .ok (.aload_n 0, 1) := by decide +kernel
theorem dX11_takeNumber_126 : decode cX11_takeNumber 126 = .ok (.getfield 154, 3) := by decide +kernel
theorem dX11_takeNumber_129 : decode cX11_takeNumber 129 = .ok (.putfield 154, 3) := by decide +kernel
theorem dX11_takeNumber_132 : decode cX11_takeNumber 132 = .ok (.iload_n 2, 1) := by decide +kernel
theorem dX11_takeNumber_133 : decode cX11_takeNumber 133 = .ok (.ireturn, 1) := by decide +kernel
set_option maxRecDepth 20000 in
theorem ggX11_takeItem_X11_takeLetters : GoodIn wsX11_takeItem wsX11_takeLetters := goodIn_r _ [12, 1, 13, 7, 14, 15, 16, 17, 18, 19, 20, 11, 21, 43, 44, 45, 46, 47, 48, 49, 50, 51, 52, 53, 54, 55, 56, 57, 58, 59, 60, 61, 62] (by decide +kernel) (by decide +kernel)
set_option maxRecDepth 20000 in
theorem gX11_takeItem_X11_takeLetters : GoodIn wsX11_takeItem (wsV RX11 161 RX11 yX11_takeLetters wsX11_takeLetters) := goodIn_app (goodIn_of _ (by decide +kernel)) ggX11_takeItem_X11_takeLetters
set_option maxRecDepth 20000 in
theorem ggX11_takeItem_X11_wordOf : GoodIn wsX11_takeItem wsX11_wordOf := goodIn_r _ [24, 25, 26, 27, 28, 29] (by decide +kernel) (by decide +kernel)
set_option maxRecDepth 20000 in
theorem gX11_takeItem_X11_wordOf : GoodIn wsX11_takeItem (va_wsS RX11 165 yX11_wordOf wsX11_wordOf) := goodIn_app (goodIn_of _ (by decide +kernel)) ggX11_takeItem_X11_wordOf
set_option maxRecDepth 20000 in
theorem ggX11_takeItem_X11_isEnd : GoodIn wsX11_takeItem wsX11_isEnd := goodIn_r _ [33, 1, 13, 7, 43, 44, 45, 46, 47, 48, 49, 50, 51, 52, 53, 54, 55, 56, 57, 58, 59, 60, 61, 62] (by decide +kernel) (by decide +kernel)
set_option maxRecDepth 20000 in
theorem gX11_takeItem_X11_isEnd : GoodIn wsX11_takeItem (wsV RX11 150 RX11 yX11_isEnd wsX11_isEnd) := goodIn_app (goodIn_of _ (by decide +kernel)) ggX11_takeItem_X11_isEnd
set_option maxRecDepth 20000 in
theorem ggX11_takeItem_X11_numbersOf : GoodIn wsX11_takeItem wsX11_numbersOf := goodIn_r _ [36] (by decide +kernel) (by decide +kernel)
set_option maxRecDepth 20000 in
theorem gX11_takeItem_X11_numbersOf : GoodIn wsX11_takeItem (va_wsS RX11 171 yX11_numbersOf wsX11_numbersOf) := goodIn_app (goodIn_of _ (by decide +kernel)) ggX11_takeItem_X11_numbersOf
set_option maxRecDepth 20000 in
theorem ggX11_takeItem_X11_takeNumber : GoodIn wsX11_takeItem wsX11_takeNumber := goodIn_r _ [40, 13, 2, 1, 7, 41, 42, 30, 31, 32, 11, 33, 19, 20, 21, 43, 44, 45, 46, 47, 48, 49, 50, 51, 52, 53, 54, 55, 56, 57, 58, 59, 60, 61, 62] (by decide +kernel) (by decide +kernel)
set_option maxRecDepth 20000 in
theorem gX11_takeItem_X11_takeNumber : GoodIn wsX11_takeItem (wsV RX11 174 RX11 yX11_takeNumber wsX11_takeNumber) := goodIn_app (goodIn_of _ (by decide +kernel)) ggX11_takeItem_X11_takeNumber
theorem dX11_takeItem_0 : decode cX11_takeItem 0 = .ok (.aload_n 0, 1) := by decide +kernel
theorem dX11_takeItem_1 : decode cX11_takeItem 1 = .ok (.getfield 129, 3) := by decide +kernel
theorem dX11_takeItem_4 : decode cX11_takeItem 4 = .ok (.istore_n 1, 1) := by decide +kernel
theorem dX11_takeItem_5 : decode cX11_takeItem 5 = .ok (.aload_n 0, 1) := by decide +kernel
theorem dX11_takeItem_6 : decode cX11_takeItem 6 = .ok (.invokevirtual 161, 3) := by decide +kernel
theorem dX11_takeItem_9 : decode cX11_takeItem 9 = .ok (.invokestatic 165, 3) := by decide +kernel
theorem dX11_takeItem_12 : decode cX11_takeItem 12 = .ok (.istore_n 2, 1) := by decide +kernel
theorem dX11_takeItem_13 : decode cX11_takeItem 13 = .ok (.aload_n 0, 1) := by decide +kernel
theorem dX11_takeItem_14 : decode cX11_takeItem 14 = .ok (.iload_n 2, 1) := by decide +kernel
theorem dX11_takeItem_15 : decode cX11_takeItem 15 = .ok (.iconst (-1), 1) := by decide +kernel
theorem dX11_takeItem_16 : decode cX11_takeItem 16 = .ok (.if_icmp .ne 7, 3) := by decide +kernel
theorem dX11_takeItem_19 : decode cX11_takeItem 19 = .ok (.iload_n 1, 1) := by decide +kernel
theorem dX11_takeItem_20 : decode cX11_takeItem 20 = .ok (.goto 7, 3) := by decide +kernel
theorem dX11_takeItem_23 : decode cX11_takeItem 23 = .ok (.aload_n 0, 1) := by decide +kernel
theorem dX11_takeItem_24 : decode cX11_takeItem 24 = .ok (.getfield 154, 3) := by decide +kernel
theorem dX11_takeItem_27 : decode cX11_takeItem 27 = .ok (.putfield 154, 3) := by decide +kernel
theorem dX11_takeItem_30 : decode cX11_takeItem 30 = .ok (.aload_n 0, 1) := by decide +kernel
theorem dX11_takeItem_31 : decode cX11_takeItem 31 = .ok (.getfield 31, 3) := by decide +kernel
theorem dX11_takeItem_34 : decode cX11_takeItem 34 = .ok (.aload_n 0, 1) := by decide +kernel
theorem dX11_takeItem_35 : decode cX11_takeItem 35 = .ok (.getfield 168, 3) := by decide +kernel
theorem dX11_takeItem_38 : decode cX11_takeItem 38 = .ok (.iload_n 2, 1) := by decide +kernel
theorem dX11_takeItem_39 : decode cX11_takeItem 39 = .ok (.iastore, 1) := by decide +kernel
theorem dX11_takeItem_40 : decode cX11_takeItem 40 = .ok (.iload_n 2, 1) := by decide +kernel
theorem dX11_takeItem_41 : decode cX11_takeItem 41 = .ok (.ifCond .ne 46, 3) := by decide +kernel
theorem dX11_takeItem_44 : decode cX11_takeItem 44 = .ok (.aload_n 0, 1) := by decide +kernel
theorem dX11_takeItem_45 : decode cX11_takeItem 45 = .ok (.invokevirtual 150, 3) := by decide +kernel
theorem dX11_takeItem_48 : decode cX11_takeItem 48 = .ok (.pop, 1) := by decide +kernel
theorem dX11_takeItem_49 : decode cX11_takeItem 49 = .ok (.aload_n 0, 1) := by decide +kernel
theorem dX11_takeItem_50 : decode cX11_takeItem 50 = .ok (.getfield 129, 3) := by decide +kernel
theorem dX11_takeItem_53 : decode cX11_takeItem 53 = .ok (.istore_n 1, 1) := by decide +kernel
theorem dX11_takeItem_54 : decode cX11_takeItem 54 = .ok (.aload_n 0, 1) := by decide +kernel
theorem dX11_takeItem_55 : decode cX11_takeItem 55 = .ok (.getfield 34, 3) := by decide +kernel
theorem dX11_takeItem_58 : decode cX11_takeItem 58 = .ok (.aload_n 0, 1) := by decide +kernel
theorem dX11_takeItem_59 : decode cX11_takeItem 59 = .ok (.getfield 168, 3) := by decide +kernel
theorem dX11_takeItem_62 : decode cX11_takeItem 62 = .ok (.aload_n 0, 1) := by decide +kernel
theorem dX11_takeItem_63 : decode cX11_takeItem 63 = .ok (.invokevirtual 161, 3) := by decide +kernel
theorem dX11_takeItem_66 : decode cX11_takeItem 66 = .ok (.lastore, 1) := by decide +kernel
theorem dX11_takeItem_67 : decode cX11_takeItem 67 = .ok (.aload_n 0, 1) := by decide +kernel
theorem dX11_takeItem_68 : decode cX11_takeItem 68 = .ok (.aload_n 0, 1) := by decide +kernel
theorem dX11_takeItem_69 : decode cX11_takeItem 69 = .ok (.getfield 129, 3) := by decide +kernel
theorem dX11_takeItem_72 : decode cX11_takeItem 72 = .ok (.iload_n 1, 1) := by decide +kernel
theorem dX11_takeItem_73 : decode cX11_takeItem 73 = .ok (.if_icmp .ne 7, 3) := by decide +kernel
theorem dX11_takeItem_76 : decode cX11_takeItem 76 = .ok (.iload_n 1, 1) := by decide +kernel
theorem dX11_takeItem_77 : decode cX11_takeItem 77 = .ok (.goto 7, 3) := by decide +kernel
theorem dX11_takeItem_80 : decode cX11_takeItem 80 = .ok (.aload_n 0, 1) := by decide +kernel
theorem dX11_takeItem_81 : decode cX11_takeItem 81 = .ok (.getfield 154, 3) := by decide +kernel
theorem dX11_takeItem_84 : decode cX11_takeItem 84 = .ok (.putfield 154, 3) := by decide +kernel
theorem dX11_takeItem_87 : decode cX11_takeItem 87 = .ok (.iconst 0, 1) := by decide +kernel
theorem dX11_takeItem_88 : decode cX11_takeItem 88 = .ok (.istore_n 3, 1) := by decide +kernel
theorem dX11_takeItem_89 : decode cX11_takeItem 89 = .ok (.iload_n 3, 1) := by decide +kernel
theorem dX11_takeItem_90 : decode cX11_takeItem 90 = .ok (.iload_n 2, 1) := by decide +kernel
theorem dX11_takeItem_91 : decode cX11_takeItem 91 = .ok (.invokestatic 171, 3) := by decide +kernel
theorem dX11_takeItem_94 : decode cX11_takeItem 94 = .ok (.if_icmp .ge 34, 3) := by decide +kernel
theorem dX11_takeItem_97 : decode cX11_takeItem 97 = .ok (.aload_n 0, 1) := by decide +kernel
theorem dX11_takeItem_98 : decode cX11_takeItem 98 = .ok (.getfield 154, 3) := by decide +kernel
theorem dX11_takeItem_101 : decode cX11_takeItem 101 = .ok (.iconst (-1), 1) := by decide +kernel
theorem dX11_takeItem_102 : decode cX11_takeItem 102 = .ok (.if_icmp .ne 26, 3) := by decide +kernel
theorem dX11_takeItem_105 : decode cX11_takeItem 105 = .ok (.aload_n 0, 1) := by decide +kernel
theorem dX11_takeItem_106 : decode cX11_takeItem 106 = .ok (.getfield 37, 3) := by decide +kernel
theorem dX11_takeItem_109 : decode cX11_takeItem 109 = .ok (.iconst 5, 1) := by decide +kernel
theorem dX11_takeItem_110 : decode cX11_takeItem 110 = .ok (.aload_n 0, 1) := by decide +kernel
theorem dX11_takeItem_111 : decode cX11_takeItem 111 = .ok (.getfield 168, 3) := by decide +kernel
theorem dX11_takeItem_114 : decode cX11_takeItem 114 = .ok (.imul, 1) := by decide +kernel
theorem dX11_takeItem_115 : decode cX11_takeItem 115 = .ok (.iload_n 3, 1) := by decide +kernel
theorem dX11_takeItem_116 : decode cX11_takeItem 116 = .ok (.iadd, 1) := by decide +kernel
theorem dX11_takeItem_117 : decode cX11_takeItem 117 = .ok (.aload_n 0, 1) := by decide +kernel
theorem dX11_takeItem_118 : decode cX11_takeItem 118 = .ok (.invokevirtual 174, 3) := by decide +kernel
theorem dX11_takeItem_121 : decode cX11_takeItem 121 = .ok (.iastore, 1) := by decide +kernel
theorem dX11_takeItem_122 : decode cX11_takeItem 122 = .ok (.iinc 3 1, 3) := by decide +kernel
theorem dX11_takeItem_125 : decode cX11_takeItem 125 = .ok (.goto (-36), 3) := by decide +kernel
theorem dX11_takeItem_128 : decode cX11_takeItem 128 = .ok (.aload_n 0, 1) := by decide +kernel
theorem dX11_takeItem_129 : decode cX11_takeItem 129 = .ok (.getfield 154, 3) := by decide +kernel
theorem dX11_takeItem_132 : decode cX11_takeItem 132 = .ok (.iconst (-1), 1) := by decide +kernel
theorem dX11_takeItem_133 : decode cX11_takeItem 133 = .ok (.if_icmp .ne 32, 3) := by decide +kernel
theorem dX11_takeItem_136 : decode cX11_takeItem 136 = .ok (.aload_n 0, 1) := by decide +kernel
theorem dX11_takeItem_137 : decode cX11_takeItem 137 = .ok (.invokevirtual 150, 3) := by decide +kernel
theorem dX11_takeItem_140 : decode cX11_takeItem 140 = .ok (.ifCond .ne 17, 3) := by decide +kernel
theorem dX11_takeItem_143 : decode cX11_takeItem 143 = .ok (.aload_n 0, 1) := by decide +kernel
theorem dX11_takeItem_144 : decode cX11_takeItem 144 = .ok (.getfield 21, 3) := by decide +kernel
theorem dX11_takeItem_147 : decode cX11_takeItem 147 = .ok (.aload_n 0, 1) := by decide +kernel
theorem dX11_takeItem_148 : decode cX11_takeItem 148 = .ok (.getfield 129, 3) := by decide +kernel
theorem dX11_takeItem_151 : decode cX11_takeItem 151 = .ok (.iaload, 1) := by decide +kernel
theorem dX11_takeItem_152 : decode cX11_takeItem 152 = .ok (.bipush 59, 2) := by decide +kernel
theorem dX11_takeItem_154 : decode cX11_takeItem 154 = .ok (.if_icmp .eq 11, 3) := by decide +kernel
theorem dX11_takeItem_157 : decode cX11_takeItem 157 = .ok (.aload_n 0, 1) := by decide +kernel
theorem dX11_takeItem_158 : decode cX11_takeItem 158 = .ok (.aload_n 0, 1) := by decide +kernel
theorem dX11_takeItem_159 : decode cX11_takeItem 159 = .ok (.getfield 129, 3) := by decide +kernel
theorem dX11_takeItem_162 : decode cX11_takeItem 162 = .ok (.putfield 154, 3) := by decide +kernel
theorem dX11_takeItem_165 : decode cX11_takeItem 165 = .ok (.aload_n 0, 1) := by decide +kernel
theorem dX11_takeItem_166 : decode cX11_takeItem 166 = .ok (.dup, 1) := by decide +kernel
theorem dX11_takeItem_167 : decode cX11_takeItem 167 = .ok (.getfield 129, 3) := by decide +kernel
theorem dX11_takeItem_170 : decode cX11_takeItem 170 = .ok (.iconst 1, 1) := by decide +kernel
theorem dX11_takeItem_171 : decode cX11_takeItem 171 = .ok (.iadd, 1) := by decide +kernel
theorem dX11_takeItem_172 : decode cX11_takeItem 172 = .ok (.putfield 129, 3) := by decide +kernel
theorem dX11_takeItem_175 : decode cX11_takeItem 175 = .ok (.aload_n 0, 1) := by decide +kernel
theorem dX11_takeItem_176 : decode cX11_takeItem 176 = .ok (.dup, 1) := by decide +kernel
theorem dX11_takeItem_177 : decode cX11_takeItem 177 = .ok (.getfield 168, 3) := by decide +kernel
theorem dX11_takeItem_180 : decode cX11_takeItem 180 = .ok (.iconst 1, 1) := by decide +kernel
theorem dX11_takeItem_181 : decode cX11_takeItem 181 = .ok (.iadd, 1) := by decide +kernel
theorem dX11_takeItem_182 : decode cX11_takeItem 182 = .ok (.putfield 168, 3) := by decide +kernel
theorem dX11_takeItem_185 : decode cX11_takeItem 185 = .ok (.return_, 1) := by decide +kernel
set_option maxRecDepth 20000 in
theorem ggX11_tellItem_X11_addOne : GoodIn wsX11_tellItem wsX11_addOne := goodIn_r _ [8, 9, 10, 11, 12, 13, 14, 15, 7, 16, 17, 18, 19, 20, 21, 22, 23, 24, 42, 43, 44, 45, 46, 47, 48, 49, 50, 51, 52, 53, 54, 55, 56, 57, 58, 59, 60, 61] (by decide +kernel) (by decide +kernel)
set_option maxRecDepth 20000 in
theorem gX11_tellItem_X11_addOne : GoodIn wsX11_tellItem (wsV RX11 79 RX11 yX11_addOne wsX11_addOne) := goodIn_app (goodIn_of _ (by decide +kernel)) ggX11_tellItem_X11_addOne
set_option maxRecDepth 20000 in
theorem ggX11_tellItem_X11_oneTry : GoodIn wsX11_tellItem wsX11_oneTry := goodIn_r _ [28, 9, 10, 12, 22, 23, 7, 24, 42, 43, 44, 45, 46, 47, 48, 49, 50, 51, 52, 53, 54, 55, 56, 57, 58, 59, 60, 61] (by decide +kernel) (by decide +kernel)
set_option maxRecDepth 20000 in
theorem gX11_tellItem_X11_oneTry : GoodIn wsX11_tellItem (wsV RX11 91 RX11 yX11_oneTry wsX11_oneTry) := goodIn_app (goodIn_of _ (by decide +kernel)) ggX11_tellItem_X11_oneTry
set_option maxRecDepth 20000 in
theorem ggX11_tellItem_X11_oneQuestion : GoodIn wsX11_tellItem wsX11_oneQuestion := goodIn_r _ [32, 33, 11, 12, 22, 23, 7, 24, 42, 43, 44, 45, 46, 47, 48, 49, 50, 51, 52, 53, 54, 55, 56, 57, 58, 59, 60, 61] (by decide +kernel) (by decide +kernel)
set_option maxRecDepth 20000 in
theorem gX11_tellItem_X11_oneQuestion : GoodIn wsX11_tellItem (wsV RX11 178 RX11 yX11_oneQuestion wsX11_oneQuestion) := goodIn_app (goodIn_of _ (by decide +kernel)) ggX11_tellItem_X11_oneQuestion
set_option maxRecDepth 20000 in
theorem ggX11_tellItem_X11_set : GoodIn wsX11_tellItem wsX11_set := goodIn_r _ [37, 9, 38, 39, 40, 41, 10, 12, 22, 23, 7, 24, 42, 43, 44, 45, 46, 47, 48, 49, 50, 51, 52, 53, 54, 55, 56, 57, 58, 59, 60, 61] (by decide +kernel) (by decide +kernel)
set_option maxRecDepth 20000 in
theorem gX11_tellItem_X11_set : GoodIn wsX11_tellItem (wsV RX11 87 RX11 yX11_set wsX11_set) := goodIn_app (goodIn_of _ (by decide +kernel)) ggX11_tellItem_X11_set
theorem dX11_tellItem_0 : decode cX11_tellItem 0 = .ok (.aload_n 0, 1) := by decide +kernel
theorem dX11_tellItem_1 : decode cX11_tellItem 1 = .ok (.getfield 37, 3) := by decide +kernel
theorem dX11_tellItem_4 : decode cX11_tellItem 4 = .ok (.iconst 5, 1) := by decide +kernel
theorem dX11_tellItem_5 : decode cX11_tellItem 5 = .ok (.iload_n 1, 1) := by decide +kernel
theorem dX11_tellItem_6 : decode cX11_tellItem 6 = .ok (.imul, 1) := by decide +kernel
theorem dX11_tellItem_7 : decode cX11_tellItem 7 = .ok (.iaload, 1) := by decide +kernel
theorem dX11_tellItem_8 : decode cX11_tellItem 8 = .ok (.istore_n 2, 1) := by decide +kernel
theorem dX11_tellItem_9 : decode cX11_tellItem 9 = .ok (.aload_n 0, 1) := by decide +kernel
theorem dX11_tellItem_10 : decode cX11_tellItem 10 = .ok (.getfield 37, 3) := by decide +kernel
theorem dX11_tellItem_13 : decode cX11_tellItem 13 = .ok (.iconst 5, 1) := by decide +kernel
theorem dX11_tellItem_14 : decode cX11_tellItem 14 = .ok (.iload_n 1, 1) := by decide +kernel
theorem dX11_tellItem_15 : decode cX11_tellItem 15 = .ok (.imul, 1) := by decide +kernel
theorem dX11_tellItem_16 : decode cX11_tellItem 16 = .ok (.iconst 1, 1) := by decide +kernel
theorem dX11_tellItem_17 : decode cX11_tellItem 17 = .ok (.iadd, 1) := by decide +kernel
theorem dX11_tellItem_18 : decode cX11_tellItem 18 = .ok (.iaload, 1) := by decide +kernel
theorem dX11_tellItem_19 : decode cX11_tellItem 19 = .ok (.istore_n 3, 1) := by decide +kernel
theorem dX11_tellItem_20 : decode cX11_tellItem 20 = .ok (.aload_n 0, 1) := by decide +kernel
theorem dX11_tellItem_21 : decode cX11_tellItem 21 = .ok (.getfield 37, 3) := by decide +kernel
theorem dX11_tellItem_24 : decode cX11_tellItem 24 = .ok (.iconst 5, 1) := by decide +kernel
theorem dX11_tellItem_25 : decode cX11_tellItem 25 = .ok (.iload_n 1, 1) := by decide +kernel
theorem dX11_tellItem_26 : decode cX11_tellItem 26 = .ok (.imul, 1) := by decide +kernel
theorem dX11_tellItem_27 : decode cX11_tellItem 27 = .ok (.iconst 2, 1) := by decide +kernel
theorem dX11_tellItem_28 : decode cX11_tellItem 28 = .ok (.iadd, 1) := by decide +kernel
theorem dX11_tellItem_29 : decode cX11_tellItem 29 = .ok (.iaload, 1) := by decide +kernel
theorem dX11_tellItem_30 : decode cX11_tellItem 30 = .ok (.istore 4, 2) := by decide +kernel
theorem dX11_tellItem_32 : decode cX11_tellItem 32 = .ok (.aload_n 0, 1) := by decide +kernel
theorem dX11_tellItem_33 : decode cX11_tellItem 33 = .ok (.getfield 31, 3) := by decide +kernel
theorem dX11_tellItem_36 : decode cX11_tellItem 36 = .ok (.iload_n 1, 1) := by decide +kernel
theorem dX11_tellItem_37 : decode cX11_tellItem 37 = .ok (.iaload, 1) := by decide +kernel
theorem dX11_tellItem_38 : decode cX11_tellItem 38 = .ok (.tableswitch 100 0 3 #[30, 68, 80, 90], 30) := by decide +kernel
theorem dX11_tellItem_68 : decode cX11_tellItem 68 = .ok (.aload_n 0, 1) := by decide +kernel
theorem dX11_tellItem_69 : decode cX11_tellItem 69 = .ok (.sipush 360, 3) := by decide +kernel
theorem dX11_tellItem_72 : decode cX11_tellItem 72 = .ok (.aload_n 0, 1) := by decide +kernel
theorem dX11_tellItem_73 : decode cX11_tellItem 73 = .ok (.getfield 34, 3) := by decide +kernel
theorem dX11_tellItem_76 : decode cX11_tellItem 76 = .ok (.iload_n 1, 1) := by decide +kernel
theorem dX11_tellItem_77 : decode cX11_tellItem 77 = .ok (.laload, 1) := by decide +kernel
theorem dX11_tellItem_78 : decode cX11_tellItem 78 = .ok (.iload_n 2, 1) := by decide +kernel
theorem dX11_tellItem_79 : decode cX11_tellItem 79 = .ok (.iload_n 3, 1) := by decide +kernel
theorem dX11_tellItem_80 : decode cX11_tellItem 80 = .ok (.iload 4, 2) := by decide +kernel
theorem dX11_tellItem_82 : decode cX11_tellItem 82 = .ok (.aload_n 0, 1) := by decide +kernel
theorem dX11_tellItem_83 : decode cX11_tellItem 83 = .ok (.getfield 37, 3) := by decide +kernel
theorem dX11_tellItem_86 : decode cX11_tellItem 86 = .ok (.iconst 5, 1) := by decide +kernel
theorem dX11_tellItem_87 : decode cX11_tellItem 87 = .ok (.iload_n 1, 1) := by decide +kernel
theorem dX11_tellItem_88 : decode cX11_tellItem 88 = .ok (.imul, 1) := by decide +kernel
theorem dX11_tellItem_89 : decode cX11_tellItem 89 = .ok (.iconst 3, 1) := by decide +kernel
theorem dX11_tellItem_90 : decode cX11_tellItem 90 = .ok (.iadd, 1) := by decide +kernel
theorem dX11_tellItem_91 : decode cX11_tellItem 91 = .ok (.iaload, 1) := by decide +kernel
theorem dX11_tellItem_92 : decode cX11_tellItem 92 = .ok (.aload_n 0, 1) := by decide +kernel
theorem dX11_tellItem_93 : decode cX11_tellItem 93 = .ok (.getfield 37, 3) := by decide +kernel
theorem dX11_tellItem_96 : decode cX11_tellItem 96 = .ok (.iconst 5, 1) := by decide +kernel
theorem dX11_tellItem_97 : decode cX11_tellItem 97 = .ok (.iload_n 1, 1) := by decide +kernel
theorem dX11_tellItem_98 : decode cX11_tellItem 98 = .ok (.imul, 1) := by decide +kernel
theorem dX11_tellItem_99 : decode cX11_tellItem 99 = .ok (.iconst 4, 1) := by decide +kernel
theorem dX11_tellItem_100 : decode cX11_tellItem 100 = .ok (.iadd, 1) := by decide +kernel
theorem dX11_tellItem_101 : decode cX11_tellItem 101 = .ok (.iaload, 1) := by decide +kernel
theorem dX11_tellItem_102 : decode cX11_tellItem 102 = .ok (.invokevirtual 79, 3) := by decide +kernel
theorem dX11_tellItem_105 : decode cX11_tellItem 105 = .ok (.ireturn, 1) := by decide +kernel
theorem dX11_tellItem_106 : decode cX11_tellItem 106 = .ok (.aload_n 0, 1) := by decide +kernel
theorem dX11_tellItem_107 : decode cX11_tellItem 107 = .ok (.sipush 360, 3) := by decide +kernel
theorem dX11_tellItem_110 : decode cX11_tellItem 110 = .ok (.iload_n 2, 1) := by decide +kernel
theorem dX11_tellItem_111 : decode cX11_tellItem 111 = .ok (.iload_n 3, 1) := by decide +kernel
theorem dX11_tellItem_112 : decode cX11_tellItem 112 = .ok (.iload 4, 2) := by decide +kernel
theorem dX11_tellItem_114 : decode cX11_tellItem 114 = .ok (.invokevirtual 91, 3) := by decide +kernel
theorem dX11_tellItem_117 : decode cX11_tellItem 117 = .ok (.ireturn, 1) := by decide +kernel
theorem dX11_tellItem_118 : decode cX11_tellItem 118 = .ok (.aload_n 0, 1) := by decide +kernel
theorem dX11_tellItem_119 : decode cX11_tellItem 119 = .ok (.sipush 360, 3) := by decide +kernel
theorem dX11_tellItem_122 : decode cX11_tellItem 122 = .ok (.iload_n 2, 1) := by decide +kernel
theorem dX11_tellItem_123 : decode cX11_tellItem 123 = .ok (.iload_n 3, 1) := by decide +kernel
theorem dX11_tellItem_124 : decode cX11_tellItem 124 = .ok (.invokevirtual 178, 3) := by decide +kernel
theorem dX11_tellItem_127 : decode cX11_tellItem 127 = .ok (.ireturn, 1) := by decide +kernel
theorem dX11_tellItem_128 : decode cX11_tellItem 128 = .ok (.aload_n 0, 1) := by decide +kernel
theorem dX11_tellItem_129 : decode cX11_tellItem 129 = .ok (.sipush 360, 3) := by decide +kernel
theorem dX11_tellItem_132 : decode cX11_tellItem 132 = .ok (.iconst 0, 1) := by decide +kernel
theorem dX11_tellItem_133 : decode cX11_tellItem 133 = .ok (.iload_n 2, 1) := by decide +kernel
theorem dX11_tellItem_134 : decode cX11_tellItem 134 = .ok (.invokevirtual 87, 3) := by decide +kernel
theorem dX11_tellItem_137 : decode cX11_tellItem 137 = .ok (.ireturn, 1) := by decide +kernel
theorem dX11_tellItem_138 : decode cX11_tellItem 138 = .ok (.aload_n 0, 1) := by decide +kernel
theorem dX11_tellItem_139 : decode cX11_tellItem 139 = .ok (.sipush 360, 3) := by decide +kernel
theorem dX11_tellItem_142 : decode cX11_tellItem 142 = .ok (.iconst 1, 1) := by decide +kernel
theorem dX11_tellItem_143 : decode cX11_tellItem 143 = .ok (.iload_n 2, 1) := by decide +kernel
theorem dX11_tellItem_144 : decode cX11_tellItem 144 = .ok (.invokevirtual 87, 3) := by decide +kernel
theorem dX11_tellItem_147 : decode cX11_tellItem 147 = .ok (.ireturn, 1) := by decide +kernel
set_option maxRecDepth 20000 in
theorem ggX11_read_X11_isEnd : GoodIn wsX11_read wsX11_isEnd := goodIn_r _ [9, 1, 10, 11, 93, 94, 95, 96, 97, 98, 99, 100, 101, 102, 103, 104, 105, 106, 107, 108, 109, 110, 111, 112] (by decide +kernel) (by decide +kernel)
set_option maxRecDepth 20000 in
theorem gX11_read_X11_isEnd : GoodIn wsX11_read (wsV RX11 150 RX11 yX11_isEnd wsX11_isEnd) := goodIn_app (goodIn_of _ (by decide +kernel)) ggX11_read_X11_isEnd
set_option maxRecDepth 20000 in
theorem ggX11_read_X11_takeItem : GoodIn wsX11_read wsX11_takeItem := goodIn_r _ [15, 1, 3, 16, 2, 17, 18, 11, 19, 20, 21, 8, 22, 10, 23, 24, 25, 26, 27, 28, 29, 30, 31, 32, 33, 34, 35, 36, 37, 38, 5, 6, 7, 9, 39, 40, 41, 42, 43, 44, 45, 46, 47, 93, 94, 95, 96, 97, 98, 99, 100, 101, 102, 103, 104, 105, 106, 107, 108, 109, 110, 111, 112] (by decide +kernel) (by decide +kernel)
set_option maxRecDepth 20000 in
theorem gX11_read_X11_takeItem : GoodIn wsX11_read (wsV RX11 181 RX11 yX11_takeItem wsX11_takeItem) := goodIn_app (goodIn_of _ (by decide +kernel)) ggX11_read_X11_takeItem
set_option maxRecDepth 20000 in
theorem ggX11_read_X11_makeAnew : GoodIn wsX11_read wsX11_makeAnew := goodIn_r _ [51, 52, 93, 94, 95, 96, 97, 98, 99, 100, 101, 102, 103, 104, 105, 106, 107, 108, 109, 110, 111, 112] (by decide +kernel) (by decide +kernel)
set_option maxRecDepth 20000 in
theorem gX11_read_X11_makeAnew : GoodIn wsX11_read (wsV RX11 43 RX11 yX11_makeAnew wsX11_makeAnew) := goodIn_app (goodIn_of _ (by decide +kernel)) ggX11_read_X11_makeAnew
set_option maxRecDepth 20000 in
theorem ggX11_read_X11_tellItem : GoodIn wsX11_read wsX11_tellItem := goodIn_r _ [56, 18, 16, 17, 57, 58, 59, 8, 60, 61, 62, 63, 52, 64, 65, 66, 67, 25, 68, 69, 70, 71, 28, 29, 30, 72, 73, 74, 75, 76, 77, 78, 79, 80, 81, 82, 83, 84, 85, 86, 87, 88, 93, 94, 95, 96, 97, 98, 99, 100, 101, 102, 103, 104, 105, 106, 107, 108, 109, 110, 111, 112] (by decide +kernel) (by decide +kernel)
set_option maxRecDepth 20000 in
theorem gX11_read_X11_tellItem : GoodIn wsX11_read (wsV RX11 184 RX11 yX11_tellItem wsX11_tellItem) := goodIn_app (goodIn_of _ (by decide +kernel)) ggX11_read_X11_tellItem
set_option maxRecDepth 20000 in
theorem ggX11_read_X11_copy : GoodIn wsX11_read wsX11_copy := goodIn_r _ [92, 52, 64, 93, 94, 95, 96, 97, 98, 99, 100, 101, 102, 103, 104, 105, 106, 107, 108, 109, 110, 111, 112] (by decide +kernel) (by decide +kernel)
set_option maxRecDepth 20000 in
theorem gX11_read_X11_copy : GoodIn wsX11_read (wsV RX11 109 RX11 yX11_copy wsX11_copy) := goodIn_app (goodIn_of _ (by decide +kernel)) ggX11_read_X11_copy
theorem dX11_read_0 : decode cX11_read 0 = .ok (.aload_n 0, 1) := by decide +kernel
theorem dX11_read_1 : decode cX11_read 1 = .ok (.iconst 0, 1) := by decide +kernel
theorem dX11_read_2 : decode cX11_read 2 = .ok (.putfield 129, 3) := by decide +kernel
theorem dX11_read_5 : decode cX11_read 5 = .ok (.aload_n 0, 1) := by decide +kernel
theorem dX11_read_6 : decode cX11_read 6 = .ok (.iconst 0, 1) := by decide +kernel
theorem dX11_read_7 : decode cX11_read 7 = .ok (.putfield 168, 3) := by decide +kernel
theorem dX11_read_10 : decode cX11_read 10 = .ok (.aload_n 0, 1) := by decide +kernel
theorem dX11_read_11 : decode cX11_read 11 = .ok (.iconst (-1), 1) := by decide +kernel
theorem dX11_read_12 : decode cX11_read 12 = .ok (.putfield 154, 3) := by decide +kernel
theorem dX11_read_15 : decode cX11_read 15 = .ok (.aload_n 0, 1) := by decide +kernel
theorem dX11_read_16 : decode cX11_read 16 = .ok (.getfield 154, 3) := by decide +kernel
theorem dX11_read_19 : decode cX11_read 19 = .ok (.iconst (-1), 1) := by decide +kernel
theorem dX11_read_20 : decode cX11_read 20 = .ok (.if_icmp .ne 17, 3) := by decide +kernel
theorem dX11_read_23 : decode cX11_read 23 = .ok (.aload_n 0, 1) := by decide +kernel
theorem dX11_read_24 : decode cX11_read 24 = .ok (.invokevirtual 150, 3) := by decide +kernel
theorem dX11_read_27 : decode cX11_read 27 = .ok (.ifCond .ne 10, 3) := by decide +kernel
theorem dX11_read_30 : decode cX11_read 30 = .ok (.aload_n 0, 1) := by decide +kernel
theorem dX11_read_31 : decode cX11_read 31 = .ok (.invokevirtual 181, 3) := by decide +kernel
theorem dX11_read_34 : decode cX11_read 34 = .ok (.goto (-19), 3) := by decide +kernel
theorem dX11_read_37 : decode cX11_read 37 = .ok (.aload_n 0, 1) := by decide +kernel
theorem dX11_read_38 : decode cX11_read 38 = .ok (.getfield 154, 3) := by decide +kernel
theorem dX11_read_41 : decode cX11_read 41 = .ok (.iconst (-1), 1) := by decide +kernel
theorem dX11_read_42 : decode cX11_read 42 = .ok (.if_icmp .eq 11, 3) := by decide +kernel
theorem dX11_read_45 : decode cX11_read 45 = .ok (.bipush (-10), 2) := by decide +kernel
theorem dX11_read_47 : decode cX11_read 47 = .ok (.aload_n 0, 1) := by decide +kernel
theorem dX11_read_48 : decode cX11_read 48 = .ok (.getfield 154, 3) := by decide +kernel
theorem dX11_read_51 : decode cX11_read 51 = .ok (.isub, 1) := by decide +kernel
theorem dX11_read_52 : decode cX11_read 52 = .ok (.ireturn, 1) := by decide +kernel
theorem dX11_read_53 : decode cX11_read 53 = .ok (.aload_n 0, 1) := by decide +kernel
theorem dX11_read_54 : decode cX11_read 54 = .ok (.sipush 360, 3) := by decide +kernel
theorem dX11_read_57 : decode cX11_read 57 = .ok (.invokevirtual 43, 3) := by decide +kernel
theorem dX11_read_60 : decode cX11_read 60 = .ok (.iconst 0, 1) := by decide +kernel
theorem dX11_read_61 : decode cX11_read 61 = .ok (.istore_n 1, 1) := by decide +kernel
theorem dX11_read_62 : decode cX11_read 62 = .ok (.iload_n 1, 1) := by decide +kernel
theorem dX11_read_63 : decode cX11_read 63 = .ok (.aload_n 0, 1) := by decide +kernel
theorem dX11_read_64 : decode cX11_read 64 = .ok (.getfield 168, 3) := by decide +kernel
theorem dX11_read_67 : decode cX11_read 67 = .ok (.if_icmp .ge 23, 3) := by decide +kernel
theorem dX11_read_70 : decode cX11_read 70 = .ok (.aload_n 0, 1) := by decide +kernel
theorem dX11_read_71 : decode cX11_read 71 = .ok (.iload_n 1, 1) := by decide +kernel
theorem dX11_read_72 : decode cX11_read 72 = .ok (.invokevirtual 184, 3) := by decide +kernel
theorem dX11_read_75 : decode cX11_read 75 = .ok (.ifCond .ge 9, 3) := by decide +kernel
theorem dX11_read_78 : decode cX11_read 78 = .ok (.sipush (-1000), 3) := by decide +kernel
theorem dX11_read_81 : decode cX11_read 81 = .ok (.iload_n 1, 1) := by decide +kernel
