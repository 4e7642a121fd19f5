theorem dX4_alikeIn_16 : decode cX4_alikeIn 16 = .ok (.invokestatic 35, 3) := by decide +kernel
theorem dX4_alikeIn_19 : decode cX4_alikeIn 19 = .ok (.ifCond .eq 28, 3) := by decide +kernel
theorem dX4_alikeIn_22 : decode cX4_alikeIn 22 = .ok (.aload_n 0, 1) := by decide +kernel
theorem dX4_alikeIn_23 : decode cX4_alikeIn 23 = .ok (.iload 5, 2) := by decide +kernel
theorem dX4_alikeIn_25 : decode cX4_alikeIn 25 = .ok (.iload_n 3, 1) := by decide +kernel
theorem dX4_alikeIn_26 : decode cX4_alikeIn 26 = .ok (.invokevirtual 31, 3) := by decide +kernel
theorem dX4_alikeIn_29 : decode cX4_alikeIn 29 = .ok (.aload_n 0, 1) := by decide +kernel
theorem dX4_alikeIn_30 : decode cX4_alikeIn 30 = .ok (.iload_n 2, 1) := by decide +kernel
theorem dX4_alikeIn_31 : decode cX4_alikeIn 31 = .ok (.iload_n 3, 1) := by decide +kernel
theorem dX4_alikeIn_32 : decode cX4_alikeIn 32 = .ok (.invokevirtual 31, 3) := by decide +kernel
theorem dX4_alikeIn_35 : decode cX4_alikeIn 35 = .ok (.if_icmp .ne 12, 3) := by decide +kernel
theorem dX4_alikeIn_38 : decode cX4_alikeIn 38 = .ok (.iload 4, 2) := by decide +kernel
theorem dX4_alikeIn_40 : decode cX4_alikeIn 40 = .ok (.iconst 1, 1) := by decide +kernel
theorem dX4_alikeIn_41 : decode cX4_alikeIn 41 = .ok (.iload 5, 2) := by decide +kernel
theorem dX4_alikeIn_43 : decode cX4_alikeIn 43 = .ok (.ishl, 1) := by decide +kernel
theorem dX4_alikeIn_44 : decode cX4_alikeIn 44 = .ok (.ior, 1) := by decide +kernel
theorem dX4_alikeIn_45 : decode cX4_alikeIn 45 = .ok (.istore 4, 2) := by decide +kernel
theorem dX4_alikeIn_47 : decode cX4_alikeIn 47 = .ok (.iinc 5 1, 3) := by decide +kernel
theorem dX4_alikeIn_50 : decode cX4_alikeIn 50 = .ok (.goto (-44), 3) := by decide +kernel
theorem dX4_alikeIn_53 : decode cX4_alikeIn 53 = .ok (.iload 4, 2) := by decide +kernel
theorem dX4_alikeIn_55 : decode cX4_alikeIn 55 = .ok (.ireturn, 1) := by decide +kernel
set_option maxRecDepth 20000 in
theorem ggX4_leftInMean_X10_isIn : GoodIn wsX4_leftInMean wsX10_isIn := goodIn_r _ [4] (by decide +kernel) (by decide +kernel)
set_option maxRecDepth 20000 in
theorem gX4_leftInMean_X10_isIn_n35 : GoodIn wsX4_leftInMean (wsX10_isIn) := ggX4_leftInMean_X10_isIn
set_option maxRecDepth 20000 in
theorem ggX4_leftInMean_X4_alikeIn : GoodIn wsX4_leftInMean wsX4_alikeIn := goodIn_r _ [8, 2, 3, 4, 9, 10, 11, 12, 13, 14, 15, 16, 17, 18, 19, 20, 21, 22, 23, 24, 25, 26, 27, 28, 29, 30, 31, 32, 33, 34, 35, 36, 37, 38, 39, 40, 41, 46, 47, 48, 49, 50, 51, 52, 53, 54, 55] (by decide +kernel) (by decide +kernel)
set_option maxRecDepth 20000 in
theorem gX4_leftInMean_X4_alikeIn : GoodIn wsX4_leftInMean (va_wsS RX4 42 yX4_alikeIn wsX4_alikeIn) := goodIn_app (goodIn_of _ (by decide +kernel)) ggX4_leftInMean_X4_alikeIn
set_option maxRecDepth 20000 in
theorem ggX4_leftInMean_X4_seenOf : GoodIn wsX4_leftInMean wsX4_seenOf := goodIn_r _ [44, 1, 2, 3, 4, 45, 39, 40, 18, 41, 20, 21, 46, 47, 48, 49, 50, 51, 52, 53, 54, 55] (by decide +kernel) (by decide +kernel)
set_option maxRecDepth 20000 in
theorem gX4_leftInMean_X4_seenOf : GoodIn wsX4_leftInMean (va_wsS RX4 46 yX4_seenOf wsX4_seenOf) := goodIn_app (goodIn_of _ (by decide +kernel)) ggX4_leftInMean_X4_seenOf
set_option maxRecDepth 20000 in
theorem ggX4_leftInMean_X8_number : GoodIn wsX4_leftInMean wsX8_number := goodIn_r _ [41, 20, 21, 52, 53, 54, 55] (by decide +kernel) (by decide +kernel)
set_option maxRecDepth 20000 in
theorem gX4_leftInMean_X8_number : GoodIn wsX4_leftInMean (wsV RX4 39 RX8 yX8_number wsX8_number) := goodIn_app (goodIn_of _ (by decide +kernel)) ggX4_leftInMean_X8_number
theorem dX4_leftInMean_0 : decode cX4_leftInMean 0 = .ok (.iconst 0, 1) := by decide +kernel
theorem dX4_leftInMean_1 : decode cX4_leftInMean 1 = .ok (.istore_n 3, 1) := by decide +kernel
theorem dX4_leftInMean_2 : decode cX4_leftInMean 2 = .ok (.iconst 0, 1) := by decide +kernel
theorem dX4_leftInMean_3 : decode cX4_leftInMean 3 = .ok (.istore 4, 2) := by decide +kernel
theorem dX4_leftInMean_5 : decode cX4_leftInMean 5 = .ok (.iload 4, 2) := by decide +kernel
theorem dX4_leftInMean_7 : decode cX4_leftInMean 7 = .ok (.bipush 12, 2) := by decide +kernel
theorem dX4_leftInMean_9 : decode cX4_leftInMean 9 = .ok (.if_icmp .ge 48, 3) := by decide +kernel
theorem dX4_leftInMean_12 : decode cX4_leftInMean 12 = .ok (.iload_n 1, 1) := by decide +kernel
theorem dX4_leftInMean_13 : decode cX4_leftInMean 13 = .ok (.iload 4, 2) := by decide +kernel
theorem dX4_leftInMean_15 : decode cX4_leftInMean 15 = .ok (.invokestatic 35, 3) := by decide +kernel
theorem dX4_leftInMean_18 : decode cX4_leftInMean 18 = .ok (.ifCond .eq 33, 3) := by decide +kernel
theorem dX4_leftInMean_21 : decode cX4_leftInMean 21 = .ok (.aload_n 0, 1) := by decide +kernel
theorem dX4_leftInMean_22 : decode cX4_leftInMean 22 = .ok (.aload_n 0, 1) := by decide +kernel
theorem dX4_leftInMean_23 : decode cX4_leftInMean 23 = .ok (.iload_n 1, 1) := by decide +kernel
theorem dX4_leftInMean_24 : decode cX4_leftInMean 24 = .ok (.iload 4, 2) := by decide +kernel
theorem dX4_leftInMean_26 : decode cX4_leftInMean 26 = .ok (.iload_n 2, 1) := by decide +kernel
theorem dX4_leftInMean_27 : decode cX4_leftInMean 27 = .ok (.invokestatic 42, 3) := by decide +kernel
theorem dX4_leftInMean_30 : decode cX4_leftInMean 30 = .ok (.invokestatic 46, 3) := by decide +kernel
theorem dX4_leftInMean_33 : decode cX4_leftInMean 33 = .ok (.istore 5, 2) := by decide +kernel
theorem dX4_leftInMean_35 : decode cX4_leftInMean 35 = .ok (.iload_n 3, 1) := by decide +kernel
theorem dX4_leftInMean_36 : decode cX4_leftInMean 36 = .ok (.iload 5, 2) := by decide +kernel
theorem dX4_leftInMean_38 : decode cX4_leftInMean 38 = .ok (.aload_n 0, 1) := by decide +kernel
theorem dX4_leftInMean_39 : decode cX4_leftInMean 39 = .ok (.getfield 9, 3) := by decide +kernel
theorem dX4_leftInMean_42 : decode cX4_leftInMean 42 = .ok (.iload 4, 2) := by decide +kernel
theorem dX4_leftInMean_44 : decode cX4_leftInMean 44 = .ok (.iconst 5, 1) := by decide +kernel
theorem dX4_leftInMean_45 : decode cX4_leftInMean 45 = .ok (.invokevirtual 39, 3) := by decide +kernel
theorem dX4_leftInMean_48 : decode cX4_leftInMean 48 = .ok (.imul, 1) := by decide +kernel
theorem dX4_leftInMean_49 : decode cX4_leftInMean 49 = .ok (.iadd, 1) := by decide +kernel
theorem dX4_leftInMean_50 : decode cX4_leftInMean 50 = .ok (.istore_n 3, 1) := by decide +kernel
theorem dX4_leftInMean_51 : decode cX4_leftInMean 51 = .ok (.iinc 4 1, 3) := by decide +kernel
theorem dX4_leftInMean_54 : decode cX4_leftInMean 54 = .ok (.goto (-49), 3) := by decide +kernel
theorem dX4_leftInMean_57 : decode cX4_leftInMean 57 = .ok (.iload_n 3, 1) := by decide +kernel
theorem dX4_leftInMean_58 : decode cX4_leftInMean 58 = .ok (.ireturn, 1) := by decide +kernel
set_option maxRecDepth 20000 in
theorem ggX4_nextPart_X1_hasOf : GoodIn wsX4_nextPart wsX1_hasOf := goodIn_r _ [5, 6, 7, 8, 9, 10, 11, 12, 13, 54, 55, 56, 57, 58, 59, 60, 61, 62, 63] (by decide +kernel) (by decide +kernel)
set_option maxRecDepth 20000 in
theorem gX4_nextPart_X1_hasOf : GoodIn wsX4_nextPart (wsV RX4 27 RX1 yX1_hasOf wsX1_hasOf) := goodIn_app (goodIn_of _ (by decide +kernel)) ggX4_nextPart_X1_hasOf
set_option maxRecDepth 20000 in
theorem ggX4_nextPart_X4_leftInMean : GoodIn wsX4_nextPart wsX4_leftInMean := goodIn_r _ [17, 18, 19, 20, 21, 22, 23, 16, 24, 25, 26, 27, 4, 28, 29, 30, 31, 32, 10, 33, 12, 13, 34, 35, 36, 37, 38, 39, 40, 41, 42, 43, 44, 45, 46, 47, 48, 49, 7, 8, 9, 11, 50, 51, 52, 53, 54, 55, 56, 57, 58, 59, 60, 61, 62, 63] (by decide +kernel) (by decide +kernel)
set_option maxRecDepth 20000 in
theorem gX4_nextPart_X4_leftInMean : GoodIn wsX4_nextPart (va_wsS RX4 50 yX4_leftInMean wsX4_leftInMean) := goodIn_app (goodIn_of _ (by decide +kernel)) ggX4_nextPart_X4_leftInMean
theorem dX4_nextPart_0 : decode cX4_nextPart 0 = .ok (.iconst (-1), 1) := by decide +kernel
theorem dX4_nextPart_1 : decode cX4_nextPart 1 = .ok (.istore_n 2, 1) := by decide +kernel
theorem dX4_nextPart_2 : decode cX4_nextPart 2 = .ok (.iconst 0, 1) := by decide +kernel
theorem dX4_nextPart_3 : decode cX4_nextPart 3 = .ok (.istore_n 3, 1) := by decide +kernel
theorem dX4_nextPart_4 : decode cX4_nextPart 4 = .ok (.iconst 0, 1) := by decide +kernel
theorem dX4_nextPart_5 : decode cX4_nextPart 5 = .ok (.istore 4, 2) := by decide +kernel
theorem dX4_nextPart_7 : decode cX4_nextPart 7 = .ok (.iload 4, 2) := by decide +kernel
theorem dX4_nextPart_9 : decode cX4_nextPart 9 = .ok (.iconst 5, 1) := by decide +kernel
theorem dX4_nextPart_10 : decode cX4_nextPart 10 = .ok (.if_icmp .ge 45, 3) := by decide +kernel
theorem dX4_nextPart_13 : decode cX4_nextPart 13 = .ok (.aload_n 0, 1) := by decide +kernel
theorem dX4_nextPart_14 : decode cX4_nextPart 14 = .ok (.iload 4, 2) := by decide +kernel
theorem dX4_nextPart_16 : decode cX4_nextPart 16 = .ok (.invokevirtual 27, 3) := by decide +kernel
theorem dX4_nextPart_19 : decode cX4_nextPart 19 = .ok (.iconst (-1), 1) := by decide +kernel
theorem dX4_nextPart_20 : decode cX4_nextPart 20 = .ok (.if_icmp .ne 29, 3) := by decide +kernel
theorem dX4_nextPart_23 : decode cX4_nextPart 23 = .ok (.aload_n 0, 1) := by decide +kernel
theorem dX4_nextPart_24 : decode cX4_nextPart 24 = .ok (.iload_n 1, 1) := by decide +kernel
theorem dX4_nextPart_25 : decode cX4_nextPart 25 = .ok (.iload 4, 2) := by decide +kernel
theorem dX4_nextPart_27 : decode cX4_nextPart 27 = .ok (.invokestatic 50, 3) := by decide +kernel
theorem dX4_nextPart_30 : decode cX4_nextPart 30 = .ok (.istore 5, 2) := by decide +kernel
theorem dX4_nextPart_32 : decode cX4_nextPart 32 = .ok (.iload_n 2, 1) := by decide +kernel
theorem dX4_nextPart_33 : decode cX4_nextPart 33 = .ok (.iconst (-1), 1) := by decide +kernel
theorem dX4_nextPart_34 : decode cX4_nextPart 34 = .ok (.if_icmp .eq 9, 3) := by decide +kernel
theorem dX4_nextPart_37 : decode cX4_nextPart 37 = .ok (.iload 5, 2) := by decide +kernel
theorem dX4_nextPart_39 : decode cX4_nextPart 39 = .ok (.iload_n 3, 1) := by decide +kernel
theorem dX4_nextPart_40 : decode cX4_nextPart 40 = .ok (.if_icmp .ge 9, 3) := by decide +kernel
theorem dX4_nextPart_43 : decode cX4_nextPart 43 = .ok (.iload 4, 2) := by decide +kernel
theorem dX4_nextPart_45 : decode cX4_nextPart 45 = .ok (.istore_n 2, 1) := by decide +kernel
theorem dX4_nextPart_46 : decode cX4_nextPart 46 = .ok (.iload 5, 2) := by decide +kernel
theorem dX4_nextPart_48 : decode cX4_nextPart 48 = .ok (.istore_n 3, 1) := by decide +kernel
theorem dX4_nextPart_49 : decode cX4_nextPart 49 = .ok (.iinc 4 1, 3) := by decide +kernel
theorem dX4_nextPart_52 : decode cX4_nextPart 52 = .ok (.goto (-45), 3) := by decide +kernel
theorem dX4_nextPart_55 : decode cX4_nextPart 55 = .ok (.iload_n 2, 1) := by decide +kernel
theorem dX4_nextPart_56 : decode cX4_nextPart 56 = .ok (.ireturn, 1) := by decide +kernel
set_option maxRecDepth 20000 in
theorem ggX4_bestQuestion_X8_size : GoodIn wsX4_bestQuestion wsX8_size := goodIn_r _ [6, 7, 66, 67, 68, 69] (by decide +kernel) (by decide +kernel)
set_option maxRecDepth 20000 in
theorem gX4_bestQuestion_X8_size : GoodIn wsX4_bestQuestion (wsV RX4 15 RX8 yX8_size wsX8_size) := goodIn_app (goodIn_of _ (by decide +kernel)) ggX4_bestQuestion_X8_size
set_option maxRecDepth 20000 in
theorem ggX4_bestQuestion_X8_number : GoodIn wsX4_bestQuestion wsX8_number := goodIn_r _ [11, 12, 13, 66, 67, 68, 69] (by decide +kernel) (by decide +kernel)
set_option maxRecDepth 20000 in
theorem gX4_bestQuestion_X8_number : GoodIn wsX4_bestQuestion (wsV RX4 39 RX8 yX8_number wsX8_number) := goodIn_app (goodIn_of _ (by decide +kernel)) ggX4_bestQuestion_X8_number
set_option maxRecDepth 20000 in
theorem ggX4_bestQuestion_X1_hasOf : GoodIn wsX4_bestQuestion wsX1_hasOf := goodIn_r _ [18, 19, 20, 9, 10, 5, 11, 12, 13, 60, 61, 62, 63, 64, 65, 66, 67, 68, 69] (by decide +kernel) (by decide +kernel)
set_option maxRecDepth 20000 in
theorem gX4_bestQuestion_X1_hasOf : GoodIn wsX4_bestQuestion (wsV RX4 27 RX1 yX1_hasOf wsX1_hasOf) := goodIn_app (goodIn_of _ (by decide +kernel)) ggX4_bestQuestion_X1_hasOf
set_option maxRecDepth 20000 in
theorem ggX4_bestQuestion_X4_leftInMean : GoodIn wsX4_bestQuestion wsX4_leftInMean := goodIn_r _ [24, 25, 26, 27, 28, 29, 30, 23, 31, 32, 33, 34, 17, 35, 36, 37, 38, 39, 5, 40, 12, 13, 41, 42, 43, 44, 45, 46, 47, 48, 49, 50, 51, 52, 53, 54, 55, 56, 20, 9, 10, 11, 57, 58, 59, 8, 60, 61, 62, 63, 64, 65, 66, 67, 68, 69] (by decide +kernel) (by decide +kernel)
set_option maxRecDepth 20000 in
theorem gX4_bestQuestion_X4_leftInMean : GoodIn wsX4_bestQuestion (va_wsS RX4 50 yX4_leftInMean wsX4_leftInMean) := goodIn_app (goodIn_of _ (by decide +kernel)) ggX4_bestQuestion_X4_leftInMean
theorem dX4_bestQuestion_0 : decode cX4_bestQuestion 0 = .ok (.iconst (-1), 1) := by decide +kernel
theorem dX4_bestQuestion_1 : decode cX4_bestQuestion 1 = .ok (.istore_n 2, 1) := by decide +kernel
theorem dX4_bestQuestion_2 : decode cX4_bestQuestion 2 = .ok (.iconst 0, 1) := by decide +kernel
theorem dX4_bestQuestion_3 : decode cX4_bestQuestion 3 = .ok (.istore_n 3, 1) := by decide +kernel
theorem dX4_bestQuestion_4 : decode cX4_bestQuestion 4 = .ok (.iconst 0, 1) := by decide +kernel
theorem dX4_bestQuestion_5 : decode cX4_bestQuestion 5 = .ok (.istore 4, 2) := by decide +kernel
theorem dX4_bestQuestion_7 : decode cX4_bestQuestion 7 = .ok (.iconst 0, 1) := by decide +kernel
theorem dX4_bestQuestion_8 : decode cX4_bestQuestion 8 = .ok (.istore 5, 2) := by decide +kernel
theorem dX4_bestQuestion_10 : decode cX4_bestQuestion 10 = .ok (.iload 5, 2) := by decide +kernel
theorem dX4_bestQuestion_12 : decode cX4_bestQuestion 12 = .ok (.aload_n 0, 1) := by decide +kernel
theorem dX4_bestQuestion_13 : decode cX4_bestQuestion 13 = .ok (.getfield 54, 3) := by decide +kernel
theorem dX4_bestQuestion_16 : decode cX4_bestQuestion 16 = .ok (.invokevirtual 15, 3) := by decide +kernel
theorem dX4_bestQuestion_19 : decode cX4_bestQuestion 19 = .ok (.if_icmp .ge 86, 3) := by decide +kernel
theorem dX4_bestQuestion_22 : decode cX4_bestQuestion 22 = .ok (.aload_n 0, 1) := by decide +kernel
theorem dX4_bestQuestion_23 : decode cX4_bestQuestion 23 = .ok (.getfield 54, 3) := by decide +kernel
theorem dX4_bestQuestion_26 : decode cX4_bestQuestion 26 = .ok (.iload 5, 2) := by decide +kernel
theorem dX4_bestQuestion_28 : decode cX4_bestQuestion 28 = .ok (.iconst 0, 1) := by decide +kernel
theorem dX4_bestQuestion_29 : decode cX4_bestQuestion 29 = .ok (.invokevirtual 39, 3) := by decide +kernel
theorem dX4_bestQuestion_32 : decode cX4_bestQuestion 32 = .ok (.istore 6, 2) := by decide +kernel
theorem dX4_bestQuestion_34 : decode cX4_bestQuestion 34 = .ok (.aload_n 0, 1) := by decide +kernel
theorem dX4_bestQuestion_35 : decode cX4_bestQuestion 35 = .ok (.getfield 54, 3) := by decide +kernel
theorem dX4_bestQuestion_38 : decode cX4_bestQuestion 38 = .ok (.iload 5, 2) := by decide +kernel
theorem dX4_bestQuestion_40 : decode cX4_bestQuestion 40 = .ok (.iconst 1, 1) := by decide +kernel
theorem dX4_bestQuestion_41 : decode cX4_bestQuestion 41 = .ok (.invokevirtual 39, 3) := by decide +kernel
theorem dX4_bestQuestion_44 : decode cX4_bestQuestion 44 = .ok (.istore 7, 2) := by decide +kernel
theorem dX4_bestQuestion_46 : decode cX4_bestQuestion 46 = .ok (.aload_n 0, 1) := by decide +kernel
theorem dX4_bestQuestion_47 : decode cX4_bestQuestion 47 = .ok (.iload 6, 2) := by decide +kernel
theorem dX4_bestQuestion_49 : decode cX4_bestQuestion 49 = .ok (.invokevirtual 27, 3) := by decide +kernel
theorem dX4_bestQuestion_52 : decode cX4_bestQuestion 52 = .ok (.iconst (-1), 1) := by decide +kernel
theorem dX4_bestQuestion_53 : decode cX4_bestQuestion 53 = .ok (.if_icmp .ne 46, 3) := by decide +kernel
theorem dX4_bestQuestion_56 : decode cX4_bestQuestion 56 = .ok (.aload_n 0, 1) := by decide +kernel
theorem dX4_bestQuestion_57 : decode cX4_bestQuestion 57 = .ok (.iload_n 1, 1) := by decide +kernel
theorem dX4_bestQuestion_58 : decode cX4_bestQuestion 58 = .ok (.iload 6, 2) := by decide +kernel
theorem dX4_bestQuestion_60 : decode cX4_bestQuestion 60 = .ok (.invokestatic 50, 3) := by decide +kernel
theorem dX4_bestQuestion_63 : decode cX4_bestQuestion 63 = .ok (.istore 8, 2) := by decide +kernel
theorem dX4_bestQuestion_65 : decode cX4_bestQuestion 65 = .ok (.iload_n 2, 1) := by decide +kernel
theorem dX4_bestQuestion_66 : decode cX4_bestQuestion 66 = .ok (.iconst (-1), 1) := by decide +kernel
theorem dX4_bestQuestion_67 : decode cX4_bestQuestion 67 = .ok (.if_icmp .eq 22, 3) := by decide +kernel
theorem dX4_bestQuestion_70 : decode cX4_bestQuestion 70 = .ok (.iload 8, 2) := by decide +kernel
theorem dX4_bestQuestion_72 : decode cX4_bestQuestion 72 = .ok (.iload_n 3, 1) := by decide +kernel
theorem dX4_bestQuestion_73 : decode cX4_bestQuestion 73 = .ok (.if_icmp .lt 16, 3) := by decide +kernel
theorem dX4_bestQuestion_76 : decode cX4_bestQuestion 76 = .ok (.iload 8, 2) := by decide +kernel
theorem dX4_bestQuestion_78 : decode cX4_bestQuestion 78 = .ok (.iload_n 3, 1) := by decide +kernel
theorem dX4_bestQuestion_79 : decode cX4_bestQuestion 79 = .ok (.if_icmp .ne 20, 3) := by decide +kernel
theorem dX4_bestQuestion_82 : decode cX4_bestQuestion 82 = .ok (.iload 7, 2) := by decide +kernel
theorem dX4_bestQuestion_84 : decode cX4_bestQuestion 84 = .ok (.iload 4, 2) := by decide +kernel
theorem dX4_bestQuestion_86 : decode cX4_bestQuestion 86 = .ok (.if_icmp .ge 13, 3) := by decide +kernel
theorem dX4_bestQuestion_89 : decode cX4_bestQuestion 89 = .ok (.iload 5, 2) := by decide +kernel
theorem dX4_bestQuestion_91 : decode cX4_bestQuestion 91 = .ok (.istore_n 2, 1) := by decide +kernel
theorem dX4_bestQuestion_92 : decode cX4_bestQuestion 92 = .ok (.iload 8, 2) := by decide +kernel
theorem dX4_bestQuestion_94 : decode cX4_bestQuestion 94 = .ok (.istore_n 3, 1) := by decide +kernel
theorem dX4_bestQuestion_95 : decode cX4_bestQuestion 95 = .ok (.iload 7, 2) := by decide +kernel
theorem dX4_bestQuestion_97 : decode cX4_bestQuestion 97 = .ok (.istore 4, 2) := by decide +kernel
theorem dX4_bestQuestion_99 : decode cX4_bestQuestion 99 = .ok (.iinc 5 1, 3) := by decide +kernel
theorem dX4_bestQuestion_102 : decode cX4_bestQuestion 102 = .ok (.goto (-92), 3) := by decide +kernel
theorem dX4_bestQuestion_105 : decode cX4_bestQuestion 105 = .ok (.iload_n 2, 1) := by decide +kernel
theorem dX4_bestQuestion_106 : decode cX4_bestQuestion 106 = .ok (.ireturn, 1) := by decide +kernel
set_option maxRecDepth 20000 in
theorem ggX4_fewestApart_J6_bitCount_0f7a4 : GoodIn wsX4_fewestApart wsJ6_bitCount_0f7a4 := goodIn_r _ [4, 5, 6, 7] (by decide +kernel) (by decide +kernel)
set_option maxRecDepth 20000 in
theorem gX4_fewestApart_J6_bitCount_0f7a4 : GoodIn wsX4_fewestApart (va_wsS RX4 57 yJ6_bitCount_0f7a4 wsJ6_bitCount_0f7a4) := goodIn_app (goodIn_of _ (by decide +kernel)) ggX4_fewestApart_J6_bitCount_0f7a4
set_option maxRecDepth 20000 in
theorem ggX4_fewestApart_X4_tellsAllApart : GoodIn wsX4_fewestApart wsX4_tellsAllApart := goodIn_r _ [11, 12, 13, 14, 15, 16, 17, 18, 19, 20, 10, 21, 22, 23, 24, 25, 26, 27, 28, 29, 30, 31, 32, 33, 34, 35, 36, 37, 38, 39, 40, 41, 42, 43, 44, 45, 46, 47, 48, 49, 50, 51, 52, 53, 54, 55, 56, 57, 58, 59, 60, 61, 62, 63, 64, 65, 66] (by decide +kernel) (by decide +kernel)
set_option maxRecDepth 20000 in
theorem gX4_fewestApart_X4_tellsAllApart : GoodIn wsX4_fewestApart (va_wsS RX4 62 yX4_tellsAllApart wsX4_tellsAllApart) := goodIn_app (goodIn_of _ (by decide +kernel)) ggX4_fewestApart_X4_tellsAllApart
theorem dX4_fewestApart_0 : decode cX4_fewestApart 0 = .ok (.iconst (-1), 1) := by decide +kernel
theorem dX4_fewestApart_1 : decode cX4_fewestApart 1 = .ok (.istore_n 1, 1) := by decide +kernel
theorem dX4_fewestApart_2 : decode cX4_fewestApart 2 = .ok (.iconst 0, 1) := by decide +kernel
theorem dX4_fewestApart_3 : decode cX4_fewestApart 3 = .ok (.istore_n 2, 1) := by decide +kernel
theorem dX4_fewestApart_4 : decode cX4_fewestApart 4 = .ok (.iload_n 2, 1) := by decide +kernel
theorem dX4_fewestApart_5 : decode cX4_fewestApart 5 = .ok (.bipush 32, 2) := by decide +kernel
theorem dX4_fewestApart_7 : decode cX4_fewestApart 7 = .ok (.if_icmp .ge 45, 3) := by decide +kernel
theorem dX4_fewestApart_10 : decode cX4_fewestApart 10 = .ok (.iload_n 1, 1) := by decide +kernel
theorem dX4_fewestApart_11 : decode cX4_fewestApart 11 = .ok (.iconst (-1), 1) := by decide +kernel
theorem dX4_fewestApart_12 : decode cX4_fewestApart 12 = .ok (.if_icmp .eq 14, 3) := by decide +kernel
theorem dX4_fewestApart_15 : decode cX4_fewestApart 15 = .ok (.iload_n 2, 1) := by decide +kernel
theorem dX4_fewestApart_16 : decode cX4_fewestApart 16 = .ok (.invokestatic 57, 3) := by decide +kernel
theorem dX4_fewestApart_19 : decode cX4_fewestApart 19 = .ok (.iload_n 1, 1) := by decide +kernel
theorem dX4_fewestApart_20 : decode cX4_fewestApart 20 = .ok (.invokestatic 57, 3) := by decide +kernel
theorem dX4_fewestApart_23 : decode cX4_fewestApart 23 = .ok (.if_icmp .ge 7, 3) := by decide +kernel
theorem dX4_fewestApart_26 : decode cX4_fewestApart 26 = .ok (.iconst 1, 1) := by decide +kernel
theorem dX4_fewestApart_27 : decode cX4_fewestApart 27 = .ok (.goto 4, 3) := by decide +kernel
theorem dX4_fewestApart_30 : decode cX4_fewestApart 30 = .ok (.iconst 0, 1) := by decide +kernel
theorem dX4_fewestApart_31 : decode cX4_fewestApart 31 = .ok (.istore_n 3, 1) := by decide +kernel
theorem dX4_fewestApart_32 : decode cX4_fewestApart 32 = .ok (.iload_n 3, 1) := by decide +kernel
theorem dX4_fewestApart_33 : decode cX4_fewestApart 33 = .ok (.ifCond .eq 13, 3) := by decide +kernel
theorem dX4_fewestApart_36 : decode cX4_fewestApart 36 = .ok (.aload_n 0, 1) := by decide +kernel
theorem dX4_fewestApart_37 : decode cX4_fewestApart 37 = .ok (.iload_n 2, 1) := by decide +kernel
theorem dX4_fewestApart_38 : decode cX4_fewestApart 38 = .ok (.invokestatic 62, 3) := by decide +kernel
theorem dX4_fewestApart_41 : decode cX4_fewestApart 41 = .ok (.ifCond .eq 5, 3) := by decide +kernel
theorem dX4_fewestApart_44 : decode cX4_fewestApart 44 = .ok (.iload_n 2, 1) := by decide +kernel
theorem dX4_fewestApart_45 : decode cX4_fewestApart 45 = .ok (.istore_n 1, 1) := by decide +kernel
theorem dX4_fewestApart_46 : decode cX4_fewestApart 46 = .ok (.iinc 2 1, 3) := by decide +kernel
theorem dX4_fewestApart_49 : decode cX4_fewestApart 49 = .ok (.goto (-45), 3) := by decide +kernel
theorem dX4_fewestApart_52 : decode cX4_fewestApart 52 = .ok (.iload_n 1, 1) := by decide +kernel
theorem dX4_fewestApart_53 : decode cX4_fewestApart 53 = .ok (.ireturn, 1) := by decide +kernel
set_option maxRecDepth 20000 in
theorem ggX4_tellsAllApart_X8_size : GoodIn wsX4_tellsAllApart wsX8_size := goodIn_r _ [6, 7, 53, 54, 55, 56] (by decide +kernel) (by decide +kernel)
set_option maxRecDepth 20000 in
theorem gX4_tellsAllApart_X8_size : GoodIn wsX4_tellsAllApart (wsV RX4 15 RX8 yX8_size wsX8_size) := goodIn_app (goodIn_of _ (by decide +kernel)) ggX4_tellsAllApart_X8_size
set_option maxRecDepth 20000 in
theorem ggX4_tellsAllApart_X4_allAlike : GoodIn wsX4_tellsAllApart wsX4_allAlike := goodIn_r _ [11, 12, 13, 14, 15, 16, 17, 18, 19, 20, 21, 22, 23, 5, 24, 25, 26, 27, 28, 29, 30, 31, 32, 33, 34, 35, 36, 37, 38, 39, 40, 41, 42, 43, 44, 45, 46, 47, 48, 49, 50, 51, 52, 53, 54, 55, 56] (by decide +kernel) (by decide +kernel)
set_option maxRecDepth 20000 in
theorem gX4_tellsAllApart_X4_allAlike : GoodIn wsX4_tellsAllApart (va_wsS RX4 65 yX4_allAlike wsX4_allAlike) := goodIn_app (goodIn_of _ (by decide +kernel)) ggX4_tellsAllApart_X4_allAlike
theorem dX4_tellsAllApart_0 : decode cX4_tellsAllApart 0 = .ok (.iconst 1, 1) := by decide +kernel
theorem dX4_tellsAllApart_1 : decode cX4_tellsAllApart 1 = .ok (.istore_n 2, 1) := by decide +kernel
theorem dX4_tellsAllApart_2 : decode cX4_tellsAllApart 2 = .ok (.iconst 0, 1) := by decide +kernel
theorem dX4_tellsAllApart_3 : decode cX4_tellsAllApart 3 = .ok (.istore_n 3, 1) := by decide +kernel
theorem dX4_tellsAllApart_4 : decode cX4_tellsAllApart 4 = .ok (.iload_n 2, 1) := by decide +kernel
theorem dX4_tellsAllApart_5 : decode cX4_tellsAllApart 5 = .ok (.ifCond .eq 64, 3) := by decide +kernel
theorem dX4_tellsAllApart_8 : decode cX4_tellsAllApart 8 = .ok (.iload_n 3, 1) := by decide +kernel
theorem dX4_tellsAllApart_9 : decode cX4_tellsAllApart 9 = .ok (.aload_n 0, 1) := by decide +kernel
theorem dX4_tellsAllApart_10 : decode cX4_tellsAllApart 10 = .ok (.getfield 9, 3) := by decide +kernel
theorem dX4_tellsAllApart_13 : decode cX4_tellsAllApart 13 = .ok (.invokevirtual 15, 3) := by decide +kernel
theorem dX4_tellsAllApart_16 : decode cX4_tellsAllApart 16 = .ok (.if_icmp .ge 53, 3) := by decide +kernel
theorem dX4_tellsAllApart_19 : decode cX4_tellsAllApart 19 = .ok (.iload_n 3, 1) := by decide +kernel
theorem dX4_tellsAllApart_20 : decode cX4_tellsAllApart 20 = .ok (.iconst 1, 1) := by decide +kernel
theorem dX4_tellsAllApart_21 : decode cX4_tellsAllApart 21 = .ok (.iadd, 1) := by decide +kernel
theorem dX4_tellsAllApart_22 : decode cX4_tellsAllApart 22 = .ok (.istore 4, 2) := by decide +kernel
theorem dX4_tellsAllApart_24 : decode cX4_tellsAllApart 24 = .ok (.iload_n 2, 1) := by decide +kernel
theorem dX4_tellsAllApart_25 : decode cX4_tellsAllApart 25 = .ok (.ifCond .eq 38, 3) := by decide +kernel
theorem dX4_tellsAllApart_28 : decode cX4_tellsAllApart 28 = .ok (.iload 4, 2) := by decide +kernel
theorem dX4_tellsAllApart_30 : decode cX4_tellsAllApart 30 = .ok (.aload_n 0, 1) := by decide +kernel
theorem dX4_tellsAllApart_31 : decode cX4_tellsAllApart 31 = .ok (.getfield 9, 3) := by decide +kernel
theorem dX4_tellsAllApart_34 : decode cX4_tellsAllApart 34 = .ok (.invokevirtual 15, 3) := by decide +kernel
theorem dX4_tellsAllApart_37 : decode cX4_tellsAllApart 37 = .ok (.if_icmp .ge 26, 3) := by decide +kernel
theorem dX4_tellsAllApart_40 : decode cX4_tellsAllApart 40 = .ok (.aload_n 0, 1) := by decide +kernel
theorem dX4_tellsAllApart_41 : decode cX4_tellsAllApart 41 = .ok (.iload_n 3, 1) := by decide +kernel
theorem dX4_tellsAllApart_42 : decode cX4_tellsAllApart 42 = .ok (.iload 4, 2) := by decide +kernel
theorem dX4_tellsAllApart_44 : decode cX4_tellsAllApart 44 = .ok (.iload_n 1, 1) := by decide +kernel
theorem dX4_tellsAllApart_45 : decode cX4_tellsAllApart 45 = .ok (.invokestatic 65, 3) := by decide +kernel
theorem dX4_tellsAllApart_48 : decode cX4_tellsAllApart 48 = .ok (.ifCond .ne 7, 3) := by decide +kernel
theorem dX4_tellsAllApart_51 : decode cX4_tellsAllApart 51 = .ok (.iconst 1, 1) := by decide +kernel
theorem dX4_tellsAllApart_52 : decode cX4_tellsAllApart 52 = .ok (.goto 4, 3) := by decide +kernel
theorem dX4_tellsAllApart_55 : decode cX4_tellsAllApart 55 = .ok (.iconst 0, 1) := by decide +kernel
theorem dX4_tellsAllApart_56 : decode cX4_tellsAllApart 56 = .ok (.istore_n 2, 1) := by decide +kernel
theorem dX4_tellsAllApart_57 : decode cX4_tellsAllApart 57 = .ok (.iinc 4 1, 3) := by decide +kernel
theorem dX4_tellsAllApart_60 : decode cX4_tellsAllApart 60 = .ok (.goto (-36), 3) := by decide +kernel
theorem dX4_tellsAllApart_63 : decode cX4_tellsAllApart 63 = .ok (.iinc 3 1, 3) := by decide +kernel
theorem dX4_tellsAllApart_66 : decode cX4_tellsAllApart 66 = .ok (.goto (-62), 3) := by decide +kernel
theorem dX4_tellsAllApart_69 : decode cX4_tellsAllApart 69 = .ok (.iload_n 2, 1) := by decide +kernel
theorem dX4_tellsAllApart_70 : decode cX4_tellsAllApart 70 = .ok (.ireturn, 1) := by decide +kernel
set_option maxRecDepth 20000 in
theorem ggX4_allAlike_X10_isIn : GoodIn wsX4_allAlike wsX10_isIn := goodIn_r _ [3] (by decide +kernel) (by decide +kernel)
set_option maxRecDepth 20000 in
theorem gX4_allAlike_X10_isIn_n35 : GoodIn wsX4_allAlike (wsX10_isIn) := ggX4_allAlike_X10_isIn
set_option maxRecDepth 20000 in
theorem ggX4_allAlike_X1_partOf : GoodIn wsX4_allAlike wsX1_partOf := goodIn_r _ [8, 9, 10, 11, 12, 13, 14, 15, 16, 17, 18, 19, 20, 21, 22, 23, 24, 25, 26, 27, 28, 29, 30, 31, 32, 33, 34, 35, 36, 37, 38, 39, 40, 41, 42, 43, 44, 45, 46] (by decide +kernel) (by decide +kernel)
set_option maxRecDepth 20000 in
theorem gX4_allAlike_X1_partOf : GoodIn wsX4_allAlike (wsV RX4 31 RX1 yX1_partOf wsX1_partOf) := goodIn_app (goodIn_of _ (by decide +kernel)) ggX4_allAlike_X1_partOf
theorem dX4_allAlike_0 : decode cX4_allAlike 0 = .ok (.iconst 1, 1) := by decide +kernel
theorem dX4_allAlike_1 : decode cX4_allAlike 1 = .ok (.istore 4, 2) := by decide +kernel
theorem dX4_allAlike_3 : decode cX4_allAlike 3 = .ok (.iconst 0, 1) := by decide +kernel
theorem dX4_allAlike_4 : decode cX4_allAlike 4 = .ok (.istore 5, 2) := by decide +kernel
theorem dX4_allAlike_6 : decode cX4_allAlike 6 = .ok (.iload 4, 2) := by decide +kernel
theorem dX4_allAlike_8 : decode cX4_allAlike 8 = .ok (.ifCond .eq 48, 3) := by decide +kernel
theorem dX4_allAlike_11 : decode cX4_allAlike 11 = .ok (.iload 5, 2) := by decide +kernel
theorem dX4_allAlike_13 : decode cX4_allAlike 13 = .ok (.iconst 5, 1) := by decide +kernel
theorem dX4_allAlike_14 : decode cX4_allAlike 14 = .ok (.if_icmp .ge 42, 3) := by decide +kernel
theorem dX4_allAlike_17 : decode cX4_allAlike 17 = .ok (.iload_n 3, 1) := by decide +kernel
theorem dX4_allAlike_18 : decode cX4_allAlike 18 = .ok (.iload 5, 2) := by decide +kernel
theorem dX4_allAlike_20 : decode cX4_allAlike 20 = .ok (.invokestatic 35, 3) := by decide +kernel
theorem dX4_allAlike_23 : decode cX4_allAlike 23 = .ok (.ifCond .eq 20, 3) := by decide +kernel
theorem dX4_allAlike_26 : decode cX4_allAlike 26 = .ok (.aload_n 0, 1) := by decide +kernel
theorem dX4_allAlike_27 : decode cX4_allAlike 27 = .ok (.iload_n 1, 1) := by decide +kernel
theorem dX4_allAlike_28 : decode cX4_allAlike 28 = .ok (.iload 5, 2) := by decide +kernel
theorem dX4_allAlike_30 : decode cX4_allAlike 30 = .ok (.invokevirtual 31, 3) := by decide +kernel
theorem dX4_allAlike_33 : decode cX4_allAlike 33 = .ok (.aload_n 0, 1) := by decide +kernel
theorem dX4_allAlike_34 : decode cX4_allAlike 34 = .ok (.iload_n 2, 1) := by decide +kernel
theorem dX4_allAlike_35 : decode cX4_allAlike 35 = .ok (.iload 5, 2) := by decide +kernel
theorem dX4_allAlike_37 : decode cX4_allAlike 37 = .ok (.invokevirtual 31, 3) := by decide +kernel
theorem dX4_allAlike_40 : decode cX4_allAlike 40 = .ok (.if_icmp .ne 7, 3) := by decide +kernel
theorem dX4_allAlike_43 : decode cX4_allAlike 43 = .ok (.iconst 1, 1) := by decide +kernel
theorem dX4_allAlike_44 : decode cX4_allAlike 44 = .ok (.goto 4, 3) := by decide +kernel
theorem dX4_allAlike_47 : decode cX4_allAlike 47 = .ok (.iconst 0, 1) := by decide +kernel
theorem dX4_allAlike_48 : decode cX4_allAlike 48 = .ok (.istore 4, 2) := by decide +kernel
theorem dX4_allAlike_50 : decode cX4_allAlike 50 = .ok (.iinc 5 1, 3) := by decide +kernel
theorem dX4_allAlike_53 : decode cX4_allAlike 53 = .ok (.goto (-47), 3) := by decide +kernel
theorem dX4_allAlike_56 : decode cX4_allAlike 56 = .ok (.iload 4, 2) := by decide +kernel
theorem dX4_allAlike_58 : decode cX4_allAlike 58 = .ok (.ireturn, 1) := by decide +kernel
set_option maxRecDepth 20000 in
theorem ggX4_takenPair_X8_size : GoodIn wsX4_takenPair wsX8_size := goodIn_r _ [6, 7, 35, 36, 37, 38] (by decide +kernel) (by decide +kernel)
set_option maxRecDepth 20000 in
theorem gX4_takenPair_X8_size : GoodIn wsX4_takenPair (wsV RX4 15 RX8 yX8_size wsX8_size) := goodIn_app (goodIn_of _ (by decide +kernel)) ggX4_takenPair_X8_size
set_option maxRecDepth 20000 in
theorem ggX4_takenPair_X4_isTaken : GoodIn wsX4_takenPair wsX4_isTaken := goodIn_r _ [11, 1, 12, 13, 14, 5, 15, 16, 17, 18, 19, 20, 21, 22, 23, 24, 25, 26, 27, 28, 29, 30, 31, 32, 33, 34, 35, 36, 37, 38] (by decide +kernel) (by decide +kernel)
set_option maxRecDepth 20000 in
theorem gX4_takenPair_X4_isTaken : GoodIn wsX4_takenPair (va_wsS RX4 69 yX4_isTaken wsX4_isTaken) := goodIn_app (goodIn_of _ (by decide +kernel)) ggX4_takenPair_X4_isTaken
theorem dX4_takenPair_0 : decode cX4_takenPair 0 = .ok (.iconst 0, 1) := by decide +kernel
theorem dX4_takenPair_1 : decode cX4_takenPair 1 = .ok (.istore_n 3, 1) := by decide +kernel
theorem dX4_takenPair_2 : decode cX4_takenPair 2 = .ok (.iconst 0, 1) := by decide +kernel
theorem dX4_takenPair_3 : decode cX4_takenPair 3 = .ok (.istore 4, 2) := by decide +kernel
theorem dX4_takenPair_5 : decode cX4_takenPair 5 = .ok (.iload 4, 2) := by decide +kernel
theorem dX4_takenPair_7 : decode cX4_takenPair 7 = .ok (.aload_n 0, 1) := by decide +kernel
theorem dX4_takenPair_8 : decode cX4_takenPair 8 = .ok (.getfield 9, 3) := by decide +kernel
theorem dX4_takenPair_11 : decode cX4_takenPair 11 = .ok (.invokevirtual 15, 3) := by decide +kernel
theorem dX4_takenPair_14 : decode cX4_takenPair 14 = .ok (.if_icmp .ge 62, 3) := by decide +kernel
theorem dX4_takenPair_17 : decode cX4_takenPair 17 = .ok (.iload 4, 2) := by decide +kernel
theorem dX4_takenPair_19 : decode cX4_takenPair 19 = .ok (.iconst 1, 1) := by decide +kernel
theorem dX4_takenPair_20 : decode cX4_takenPair 20 = .ok (.iadd, 1) := by decide +kernel
theorem dX4_takenPair_21 : decode cX4_takenPair 21 = .ok (.istore 5, 2) := by decide +kernel
theorem dX4_takenPair_23 : decode cX4_takenPair 23 = .ok (.iload 5, 2) := by decide +kernel
theorem dX4_takenPair_25 : decode cX4_takenPair 25 = .ok (.aload_n 0, 1) := by decide +kernel
theorem dX4_takenPair_26 : decode cX4_takenPair 26 = .ok (.getfield 9, 3) := by decide +kernel
theorem dX4_takenPair_29 : decode cX4_takenPair 29 = .ok (.invokevirtual 15, 3) := by decide +kernel
theorem dX4_takenPair_32 : decode cX4_takenPair 32 = .ok (.if_icmp .ge 38, 3) := by decide +kernel
theorem dX4_takenPair_35 : decode cX4_takenPair 35 = .ok (.aload_n 0, 1) := by decide +kernel
theorem dX4_takenPair_36 : decode cX4_takenPair 36 = .ok (.iload 4, 2) := by decide +kernel
theorem dX4_takenPair_38 : decode cX4_takenPair 38 = .ok (.iload 5, 2) := by decide +kernel
theorem dX4_takenPair_40 : decode cX4_takenPair 40 = .ok (.iload_n 1, 1) := by decide +kernel
theorem dX4_takenPair_41 : decode cX4_takenPair 41 = .ok (.invokestatic 69, 3) := by decide +kernel
theorem dX4_takenPair_44 : decode cX4_takenPair 44 = .ok (.ifCond .eq 20, 3) := by decide +kernel
theorem dX4_takenPair_47 : decode cX4_takenPair 47 = .ok (.iload_n 3, 1) := by decide +kernel
theorem dX4_takenPair_48 : decode cX4_takenPair 48 = .ok (.iload_n 2, 1) := by decide +kernel
theorem dX4_takenPair_49 : decode cX4_takenPair 49 = .ok (.if_icmp .ne 12, 3) := by decide +kernel
theorem dX4_takenPair_52 : decode cX4_takenPair 52 = .ok (.bipush 100, 2) := by decide +kernel
theorem dX4_takenPair_54 : decode cX4_takenPair 54 = .ok (.iload 4, 2) := by decide +kernel
theorem dX4_takenPair_56 : decode cX4_takenPair 56 = .ok (.imul, 1) := by decide +kernel
theorem dX4_takenPair_57 : decode cX4_takenPair 57 = .ok (.iload 5, 2) := by decide +kernel
theorem dX4_takenPair_59 : decode cX4_takenPair 59 = .ok (.iadd, 1) := by decide +kernel
theorem dX4_takenPair_60 : decode cX4_takenPair 60 = .ok (.ireturn, 1) := by decide +kernel
theorem dX4_takenPair_61 : decode cX4_takenPair 61 = .ok (.iinc 3 1, 3) := by decide +kernel
theorem dX4_takenPair_64 : decode cX4_takenPair 64 = .ok (.iinc 5 1, 3) := by decide +kernel
theorem dX4_takenPair_67 : decode cX4_takenPair 67 = .ok (.goto (-44), 3) := by decide +kernel
theorem dX4_takenPair_70 : decode cX4_takenPair 70 = .ok (.iinc 4 1, 3) := by decide +kernel
theorem dX4_takenPair_73 : decode cX4_takenPair 73 = .ok (.goto (-68), 3) := by decide +kernel
theorem dX4_takenPair_76 : decode cX4_takenPair 76 = .ok (.iload_n 2, 1) := by decide +kernel
theorem dX4_takenPair_77 : decode cX4_takenPair 77 = .ok (.iconst (-1), 1) := by decide +kernel
theorem dX4_takenPair_78 : decode cX4_takenPair 78 = .ok (.if_icmp .ne 7, 3) := by decide +kernel
theorem dX4_takenPair_81 : decode cX4_takenPair 81 = .ok (.iload_n 3, 1) := by decide +kernel
theorem dX4_takenPair_82 : decode cX4_takenPair 82 = .ok (.goto 5, 3) := by decide +kernel
theorem dX4_takenPair_85 : decode cX4_takenPair 85 = .ok (.bipush (-5), 2) := by decide +kernel
theorem dX4_takenPair_87 : decode cX4_takenPair 87 = .ok (.ireturn, 1) := by decide +kernel
set_option maxRecDepth 20000 in
theorem ggX4_isTaken_X8_get : GoodIn wsX4_isTaken wsX8_get := goodIn_r _ [6, 7, 8, 26, 27, 28, 29] (by decide +kernel) (by decide +kernel)
set_option maxRecDepth 20000 in
theorem gX4_isTaken_X8_get : GoodIn wsX4_isTaken (wsV RX4 72 RX8 yX8_get wsX8_get) := goodIn_app (goodIn_of _ (by decide +kernel)) ggX4_isTaken_X8_get
set_option maxRecDepth 20000 in
theorem ggX4_isTaken_X2_lettersOf : GoodIn wsX4_isTaken wsX2_lettersOf := goodIn_r _ [12] (by decide +kernel) (by decide +kernel)
set_option maxRecDepth 20000 in
theorem gX4_isTaken_X2_lettersOf : GoodIn wsX4_isTaken (va_wsS RX4 76 yX2_lettersOf wsX2_lettersOf) := goodIn_app (goodIn_of _ (by decide +kernel)) ggX4_isTaken_X2_lettersOf
set_option maxRecDepth 20000 in
theorem ggX4_isTaken_X2_unlikePlaces : GoodIn wsX4_isTaken wsX2_unlikePlaces := goodIn_r _ [15, 16, 17, 11, 18, 19] (by decide +kernel) (by decide +kernel)
set_option maxRecDepth 20000 in
theorem gX4_isTaken_X2_unlikePlaces : GoodIn wsX4_isTaken (va_wsS RX4 82 yX2_unlikePlaces wsX2_unlikePlaces) := goodIn_app (goodIn_of _ (by decide +kernel)) ggX4_isTaken_X2_unlikePlaces
theorem dX4_isTaken_0 : decode cX4_isTaken 0 = .ok (.aload_n 0, 1) := by decide +kernel
theorem dX4_isTaken_1 : decode cX4_isTaken 1 = .ok (.getfield 9, 3) := by decide +kernel
theorem dX4_isTaken_4 : decode cX4_isTaken 4 = .ok (.iload_n 1, 1) := by decide +kernel
theorem dX4_isTaken_5 : decode cX4_isTaken 5 = .ok (.iconst 0, 1) := by decide +kernel
theorem dX4_isTaken_6 : decode cX4_isTaken 6 = .ok (.invokevirtual 72, 3) := by decide +kernel
theorem dX4_isTaken_9 : decode cX4_isTaken 9 = .ok (.lstore 4, 2) := by decide +kernel
theorem dX4_isTaken_11 : decode cX4_isTaken 11 = .ok (.aload_n 0, 1) := by decide +kernel
theorem dX4_isTaken_12 : decode cX4_isTaken 12 = .ok (.getfield 9, 3) := by decide +kernel
theorem dX4_isTaken_15 : decode cX4_isTaken 15 = .ok (.iload_n 2, 1) := by decide +kernel
theorem dX4_isTaken_16 : decode cX4_isTaken 16 = .ok (.iconst 0, 1) := by decide +kernel
theorem dX4_isTaken_17 : decode cX4_isTaken 17 = .ok (.invokevirtual 72, 3) := by decide +kernel
theorem dX4_isTaken_20 : decode cX4_isTaken 20 = .ok (.lstore 6, 2) := by decide +kernel
theorem dX4_isTaken_22 : decode cX4_isTaken 22 = .ok (.lload 4, 2) := by decide +kernel
theorem dX4_isTaken_24 : decode cX4_isTaken 24 = .ok (.invokestatic 76, 3) := by decide +kernel
theorem dX4_isTaken_27 : decode cX4_isTaken 27 = .ok (.lload 6, 2) := by decide +kernel
theorem dX4_isTaken_29 : decode cX4_isTaken 29 = .ok (.invokestatic 76, 3) := by decide +kernel
theorem dX4_isTaken_32 : decode cX4_isTaken 32 = .ok (.if_icmp .ne 18, 3) := by decide +kernel
theorem dX4_isTaken_35 : decode cX4_isTaken 35 = .ok (.lload 4, 2) := by decide +kernel
theorem dX4_isTaken_37 : decode cX4_isTaken 37 = .ok (.lload 6, 2) := by decide +kernel
theorem dX4_isTaken_39 : decode cX4_isTaken 39 = .ok (.invokestatic 82, 3) := by decide +kernel
theorem dX4_isTaken_42 : decode cX4_isTaken 42 = .ok (.iload_n 3, 1) := by decide +kernel
theorem dX4_isTaken_43 : decode cX4_isTaken 43 = .ok (.if_icmp .gt 7, 3) := by decide +kernel
theorem dX4_isTaken_46 : decode cX4_isTaken 46 = .ok (.iconst 1, 1) := by decide +kernel
theorem dX4_isTaken_47 : decode cX4_isTaken 47 = .ok (.goto 4, 3) := by decide +kernel
theorem dX4_isTaken_50 : decode cX4_isTaken 50 = .ok (.iconst 0, 1) := by decide +kernel
theorem dX4_isTaken_51 : decode cX4_isTaken 51 = .ok (.ireturn, 1) := by decide +kernel
set_option maxRecDepth 20000 in
theorem ggX5_init_X1_init : GoodIn wsX5_init wsX1_init := goodIn_r _ [10, 11, 2, 3, 12, 13, 14, 15, 16, 17, 18, 19, 20, 21, 22, 23, 24, 25, 26, 27, 28, 29, 30, 31, 32, 33, 34, 35, 36, 37, 38, 39, 40, 41, 42, 43, 7, 44, 45, 46, 47, 48, 49, 50, 51, 52, 53, 54, 55, 56, 57, 58, 68, 69, 70, 71, 62, 63, 64, 65, 66, 67] (by decide +kernel) (by decide +kernel)
set_option maxRecDepth 20000 in
theorem gX5_init_X1_init : GoodIn wsX5_init (wsX1_init) := ggX5_init_X1_init
theorem dX5_init_0 : decode cX5_init 0 = .ok (.aload_n 0, 1) := by decide +kernel
theorem dX5_init_1 : decode cX5_init 1 = .ok (.invokespecial 1, 3) := by decide +kernel
theorem dX5_init_4 : decode cX5_init 4 = .ok (.aload_n 0, 1) := by decide +kernel
theorem dX5_init_5 : decode cX5_init 5 = .ok (.iconst 4, 1) := by decide +kernel
theorem dX5_init_6 : decode cX5_init 6 = .ok (.anewarray 9, 3) := by decide +kernel
theorem dX5_init_9 : decode cX5_init 9 = .ok (.putfield 11, 3) := by decide +kernel
theorem dX5_init_12 : decode cX5_init 12 = .ok (.iconst 0, 1) := by decide +kernel
theorem dX5_init_13 : decode cX5_init 13 = .ok (.istore_n 1, 1) := by decide +kernel
theorem dX5_init_14 : decode cX5_init 14 = .ok (.iload_n 1, 1) := by decide +kernel
theorem dX5_init_15 : decode cX5_init 15 = .ok (.aload_n 0, 1) := by decide +kernel
theorem dX5_init_16 : decode cX5_init 16 = .ok (.getfield 11, 3) := by decide +kernel
theorem dX5_init_19 : decode cX5_init 19 = .ok (.arraylength, 1) := by decide +kernel
theorem dX5_init_20 : decode cX5_init 20 = .ok (.if_icmp .ge 22, 3) := by decide +kernel
theorem dX5_init_23 : decode cX5_init 23 = .ok (.aload_n 0, 1) := by decide +kernel
theorem dX5_init_24 : decode cX5_init 24 = .ok (.getfield 11, 3) := by decide +kernel
theorem dX5_init_27 : decode cX5_init 27 = .ok (.iload_n 1, 1) := by decide +kernel
theorem dX5_init_28 : decode cX5_init 28 = .ok (.new 9, 3) := by decide +kernel
theorem dX5_init_31 : decode cX5_init 31 = .ok (.dup, 1) := by decide +kernel
theorem dX5_init_32 : decode cX5_init 32 = .ok (.invokespecial 15, 3) := by decide +kernel
theorem dX5_init_35 : decode cX5_init 35 = .ok (.aastore, 1) := by decide +kernel
theorem dX5_init_36 : decode cX5_init 36 = .ok (.iinc 1 1, 3) := by decide +kernel
theorem dX5_init_39 : decode cX5_init 39 = .ok (.goto (-25), 3) := by decide +kernel
theorem dX5_init_42 : decode cX5_init 42 = .ok (.return_, 1) := by decide +kernel
theorem dX5_size_0 : decode cX5_size 0 = .ok (.aload_n 0, 1) := by decide +kernel
theorem dX5_size_1 : decode cX5_size 1 = .ok (.getfield 16, 3) := by decide +kernel
theorem dX5_size_4 : decode cX5_size 4 = .ok (.ireturn, 1) := by decide +kernel
theorem dX5_forget_0 : decode cX5_forget 0 = .ok (.aload_n 0, 1) := by decide +kernel
theorem dX5_forget_1 : decode cX5_forget 1 = .ok (.iconst 0, 1) := by decide +kernel
theorem dX5_forget_2 : decode cX5_forget 2 = .ok (.putfield 16, 3) := by decide +kernel
theorem dX5_forget_5 : decode cX5_forget 5 = .ok (.return_, 1) := by decide +kernel
set_option maxRecDepth 20000 in
theorem ggX5_keep_X5_slotAt : GoodIn wsX5_keep wsX5_slotAt := goodIn_r _ [11, 12, 31, 32, 33] (by decide +kernel) (by decide +kernel)
set_option maxRecDepth 20000 in
theorem gX5_keep_X5_slotAt : GoodIn wsX5_keep (wsV RX5 23 RX5 yX5_slotAt wsX5_slotAt) := goodIn_app (goodIn_of _ (by decide +kernel)) ggX5_keep_X5_slotAt
set_option maxRecDepth 20000 in
theorem ggX5_keep_X1_become : GoodIn wsX5_keep wsX1_become := goodIn_r _ [17, 18, 19, 20, 21, 22, 23, 24, 25, 26, 27, 28, 29, 30, 34, 35, 36, 37, 38, 39, 40, 41, 42, 43] (by decide +kernel) (by decide +kernel)
set_option maxRecDepth 20000 in
theorem gX5_keep_X1_become : GoodIn wsX5_keep (wsV RX5 27 RX1 yX1_become wsX1_become) := goodIn_app (goodIn_of _ (by decide +kernel)) ggX5_keep_X1_become
theorem dX5_keep_0 : decode cX5_keep 0 = .ok (.aload_n 0, 1) := by decide +kernel
theorem dX5_keep_1 : decode cX5_keep 1 = .ok (.aload_n 0, 1) := by decide +kernel
theorem dX5_keep_2 : decode cX5_keep 2 = .ok (.getfield 20, 3) := by decide +kernel
theorem dX5_keep_5 : decode cX5_keep 5 = .ok (.invokevirtual 23, 3) := by decide +kernel
theorem dX5_keep_8 : decode cX5_keep 8 = .ok (.astore_n 2, 1) := by decide +kernel
theorem dX5_keep_9 : decode cX5_keep 9 = .ok (.aload_n 2, 1) := by decide +kernel
theorem dX5_keep_10 : decode cX5_keep 10 = .ok (.ifnull 34, 3) := by decide +kernel
theorem dX5_keep_13 : decode cX5_keep 13 = .ok (.aload_n 2, 1) := by decide +kernel
theorem dX5_keep_14 : decode cX5_keep 14 = .ok (.aload_n 1, 1) := by decide +kernel
theorem dX5_keep_15 : decode cX5_keep 15 = .ok (.invokevirtual 27, 3) := by decide +kernel
theorem dX5_keep_18 : decode cX5_keep 18 = .ok (.aload_n 0, 1) := by decide +kernel
theorem dX5_keep_19 : decode cX5_keep 19 = .ok (.aload_n 0, 1) := by decide +kernel
theorem dX5_keep_20 : decode cX5_keep 20 = .ok (.getfield 20, 3) := by decide +kernel
theorem dX5_keep_23 : decode cX5_keep 23 = .ok (.iconst 1, 1) := by decide +kernel
theorem dX5_keep_24 : decode cX5_keep 24 = .ok (.iadd, 1) := by decide +kernel
theorem dX5_keep_25 : decode cX5_keep 25 = .ok (.iconst 4, 1) := by decide +kernel
theorem dX5_keep_26 : decode cX5_keep 26 = .ok (.irem, 1) := by decide +kernel
theorem dX5_keep_27 : decode cX5_keep 27 = .ok (.putfield 20, 3) := by decide +kernel
theorem dX5_keep_30 : decode cX5_keep 30 = .ok (.aload_n 0, 1) := by decide +kernel
theorem dX5_keep_31 : decode cX5_keep 31 = .ok (.iconst 4, 1) := by decide +kernel
theorem dX5_keep_32 : decode cX5_keep 32 = .ok (.aload_n 0, 1) := by decide +kernel
theorem dX5_keep_33 : decode cX5_keep 33 = .ok (.getfield 16, 3) := by decide +kernel
theorem dX5_keep_36 : decode cX5_keep 36 = .ok (.iconst 1, 1) := by decide +kernel
theorem dX5_keep_37 : decode cX5_keep 37 = .ok (.iadd, 1) := by decide +kernel
theorem dX5_keep_38 : decode cX5_keep 38 = .ok (.invokestatic 31, 3) := by decide +kernel
theorem dX5_keep_41 : decode cX5_keep 41 = .ok (.putfield 16, 3) := by decide +kernel
theorem dX5_keep_44 : decode cX5_keep 44 = .ok (.return_, 1) := by decide +kernel
set_option maxRecDepth 20000 in
theorem ggX5_giveBack_X5_slotAt : GoodIn wsX5_giveBack wsX5_slotAt := goodIn_r _ [7, 8, 27, 28, 29] (by decide +kernel) (by decide +kernel)
set_option maxRecDepth 20000 in
theorem gX5_giveBack_X5_slotAt : GoodIn wsX5_giveBack (wsV RX5 23 RX5 yX5_slotAt wsX5_slotAt) := goodIn_app (goodIn_of _ (by decide +kernel)) ggX5_giveBack_X5_slotAt
set_option maxRecDepth 20000 in
theorem ggX5_giveBack_X1_become : GoodIn wsX5_giveBack wsX1_become := goodIn_r _ [13, 14, 15, 16, 17, 18, 19, 20, 21, 22, 23, 24, 25, 26, 30, 31, 32, 33, 34, 35, 36, 37, 38, 39] (by decide +kernel) (by decide +kernel)
set_option maxRecDepth 20000 in
theorem gX5_giveBack_X1_become : GoodIn wsX5_giveBack (wsV RX5 27 RX1 yX1_become wsX1_become) := goodIn_app (goodIn_of _ (by decide +kernel)) ggX5_giveBack_X1_become
theorem dX5_giveBack_0 : decode cX5_giveBack 0 = .ok (.aload_n 0, 1) := by decide +kernel
theorem dX5_giveBack_1 : decode cX5_giveBack 1 = .ok (.getfield 20, 3) := by decide +kernel
theorem dX5_giveBack_4 : decode cX5_giveBack 4 = .ok (.iconst 4, 1) := by decide +kernel
theorem dX5_giveBack_5 : decode cX5_giveBack 5 = .ok (.iadd, 1) := by decide +kernel
theorem dX5_giveBack_6 : decode cX5_giveBack 6 = .ok (.iconst 1, 1) := by decide +kernel
theorem dX5_giveBack_7 : decode cX5_giveBack 7 = .ok (.isub, 1) := by decide +kernel
theorem dX5_giveBack_8 : decode cX5_giveBack 8 = .ok (.iconst 4, 1) := by decide +kernel
theorem dX5_giveBack_9 : decode cX5_giveBack 9 = .ok (.irem, 1) := by decide +kernel
theorem dX5_giveBack_10 : decode cX5_giveBack 10 = .ok (.istore_n 2, 1) := by decide +kernel
theorem dX5_giveBack_11 : decode cX5_giveBack 11 = .ok (.aload_n 0, 1) := by decide +kernel
theorem dX5_giveBack_12 : decode cX5_giveBack 12 = .ok (.iload_n 2, 1) := by decide +kernel
theorem dX5_giveBack_13 : decode cX5_giveBack 13 = .ok (.invokevirtual 23, 3) := by decide +kernel
theorem dX5_giveBack_16 : decode cX5_giveBack 16 = .ok (.astore_n 3, 1) := by decide +kernel
theorem dX5_giveBack_17 : decode cX5_giveBack 17 = .ok (.aload_n 0, 1) := by decide +kernel
theorem dX5_giveBack_18 : decode cX5_giveBack 18 = .ok (.getfield 16, 3) := by decide +kernel
theorem dX5_giveBack_21 : decode cX5_giveBack 21 = .ok (.ifCond .eq 7, 3) := by decide +kernel
theorem dX5_giveBack_24 : decode cX5_giveBack 24 = .ok (.aload_n 3, 1) := by decide +kernel
theorem dX5_giveBack_25 : decode cX5_giveBack 25 = .ok (.ifnonnull 5, 3) := by decide +kernel
theorem dX5_giveBack_28 : decode cX5_giveBack 28 = .ok (.iconst 0, 1) := by decide +kernel
theorem dX5_giveBack_29 : decode cX5_giveBack 29 = .ok (.ireturn, 1) := by decide +kernel
theorem dX5_giveBack_30 : decode cX5_giveBack 30 = .ok (.aload_n 1, 1) := by decide +kernel
theorem dX5_giveBack_31 : decode cX5_giveBack 31 = .ok (.aload_n 3, 1) := by decide +kernel
theorem dX5_giveBack_32 : decode cX5_giveBack 32 = .ok (.invokevirtual 27, 3) := by decide +kernel
theorem dX5_giveBack_35 : decode cX5_giveBack 35 = .ok (.aload_n 0, 1) := by decide +kernel
theorem dX5_giveBack_36 : decode cX5_giveBack 36 = .ok (.iload_n 2, 1) := by decide +kernel
theorem dX5_giveBack_37 : decode cX5_giveBack 37 = .ok (.putfield 20, 3) := by decide +kernel
theorem dX5_giveBack_40 : decode cX5_giveBack 40 = .ok (.aload_n 0, 1) := by decide +kernel
theorem dX5_giveBack_41 : decode cX5_giveBack 41 = .ok (.dup, 1) := by decide +kernel
theorem dX5_giveBack_42 : decode cX5_giveBack 42 = .ok (.getfield 16, 3) := by decide +kernel
theorem dX5_giveBack_45 : decode cX5_giveBack 45 = .ok (.iconst 1, 1) := by decide +kernel
theorem dX5_giveBack_46 : decode cX5_giveBack 46 = .ok (.isub, 1) := by decide +kernel
theorem dX5_giveBack_47 : decode cX5_giveBack 47 = .ok (.putfield 16, 3) := by decide +kernel
theorem dX5_giveBack_50 : decode cX5_giveBack 50 = .ok (.iconst 1, 1) := by decide +kernel
theorem dX5_giveBack_51 : decode cX5_giveBack 51 = .ok (.ireturn, 1) := by decide +kernel
theorem dX5_slotAt_0 : decode cX5_slotAt 0 = .ok (.iload_n 1, 1) := by decide +kernel
theorem dX5_slotAt_1 : decode cX5_slotAt 1 = .ok (.ifCond .lt 21, 3) := by decide +kernel
theorem dX5_slotAt_4 : decode cX5_slotAt 4 = .ok (.iload_n 1, 1) := by decide +kernel
theorem dX5_slotAt_5 : decode cX5_slotAt 5 = .ok (.aload_n 0, 1) := by decide +kernel
theorem dX5_slotAt_6 : decode cX5_slotAt 6 = .ok (.getfield 11, 3) := by decide +kernel
theorem dX5_slotAt_9 : decode cX5_slotAt 9 = .ok (.arraylength, 1) := by decide +kernel
theorem dX5_slotAt_10 : decode cX5_slotAt 10 = .ok (.if_icmp .ge 12, 3) := by decide +kernel
theorem dX5_slotAt_13 : decode cX5_slotAt 13 = .ok (.aload_n 0, 1) := by decide +kernel
theorem dX5_slotAt_14 : decode cX5_slotAt 14 = .ok (.getfield 11, 3) := by decide +kernel
theorem dX5_slotAt_17 : decode cX5_slotAt 17 = .ok (.iload_n 1, 1) := by decide +kernel
theorem dX5_slotAt_18 : decode cX5_slotAt 18 = .ok (.aaload, 1) := by decide +kernel
theorem dX5_slotAt_19 : decode cX5_slotAt 19 = .ok (.goto 4, 3) := by decide +kernel
theorem dX5_slotAt_22 : decode cX5_slotAt 22 = .ok (.aconst_null, 1) := by decide +kernel
theorem dX5_slotAt_23 : decode cX5_slotAt 23 = .ok (.areturn, 1) := by decide +kernel
set_option maxRecDepth 20000 in
theorem ggX6_init_X1_init : GoodIn wsX6_init wsX1_init := goodIn_r _ [13, 14, 2, 3, 15, 16, 17, 18, 19, 20, 21, 22, 23, 24, 25, 26, 27, 28, 29, 30, 31, 32, 33, 34, 35, 36, 37, 38, 39, 40, 41, 42, 43, 44, 45, 46, 7, 47, 48, 49, 50, 51, 52, 53, 54, 55, 56, 57, 58, 59, 60, 61, 78, 79, 80, 81, 72, 73, 74, 75, 76, 77] (by decide +kernel) (by decide +kernel)
set_option maxRecDepth 20000 in
theorem gX6_init_X1_init : GoodIn wsX6_init (wsX1_init) := ggX6_init_X1_init
theorem dX6_init_0 : decode cX6_init 0 = .ok (.aload_n 0, 1) := by decide +kernel
theorem dX6_init_1 : decode cX6_init 1 = .ok (.invokespecial 3, 3) := by decide +kernel
theorem dX6_init_4 : decode cX6_init 4 = .ok (.aload_n 0, 1) := by decide +kernel
theorem dX6_init_5 : decode cX6_init 5 = .ok (.aload_n 1, 1) := by decide +kernel
theorem dX6_init_6 : decode cX6_init 6 = .ok (.putfield 9, 3) := by decide +kernel
theorem dX6_init_9 : decode cX6_init 9 = .ok (.aload_n 0, 1) := by decide +kernel
theorem dX6_init_10 : decode cX6_init 10 = .ok (.new 15, 3) := by decide +kernel
theorem dX6_init_13 : decode cX6_init 13 = .ok (.dup, 1) := by decide +kernel
theorem dX6_init_14 : decode cX6_init 14 = .ok (.invokespecial 17, 3) := by decide +kernel
theorem dX6_init_17 : decode cX6_init 17 = .ok (.putfield 18, 3) := by decide +kernel
theorem dX6_init_20 : decode cX6_init 20 = .ok (.aload_n 0, 1) := by decide +kernel
theorem dX6_init_21 : decode cX6_init 21 = .ok (.iconst 5, 1) := by decide +kernel
theorem dX6_init_22 : decode cX6_init 22 = .ok (.newarray .int, 2) := by decide +kernel
theorem dX6_init_24 : decode cX6_init 24 = .ok (.putfield 22, 3) := by decide +kernel
theorem dX6_init_27 : decode cX6_init 27 = .ok (.return_, 1) := by decide +kernel
set_option maxRecDepth 20000 in
theorem ggX6_readInto_X1_begin : GoodIn wsX6_readInto wsX1_begin := goodIn_r _ [11, 12, 13, 14, 15, 16, 17, 18, 19, 20, 21, 22, 23, 24, 25, 26, 27, 28, 29, 30, 31, 32, 33, 34, 220, 221, 222, 223, 224, 225, 226, 227, 228, 229] (by decide +kernel) (by decide +kernel)
set_option maxRecDepth 20000 in
theorem gX6_readInto_X1_begin : GoodIn wsX6_readInto (wsV RX6 26 RX1 yX1_begin wsX1_begin) := goodIn_app (goodIn_of _ (by decide +kernel)) ggX6_readInto_X1_begin
set_option maxRecDepth 20000 in
theorem ggX6_readInto_X6_step : GoodIn wsX6_readInto wsX6_step := goodIn_r _ [39, 40, 2, 41, 6, 42, 43, 44, 45, 46, 47, 48, 49, 50, 51, 52, 53, 54, 55, 38, 56, 57, 27, 58, 59, 60, 61, 62, 210, 211, 212, 213, 214, 215, 216, 217, 218, 219, 230, 231] (by decide +kernel) (by decide +kernel)
set_option maxRecDepth 20000 in
theorem gX6_readInto_X6_step : GoodIn wsX6_readInto (wsV RX6 42 RX6 yX6_step wsX6_step) := goodIn_app (goodIn_of _ (by decide +kernel)) ggX6_readInto_X6_step
set_option maxRecDepth 20000 in
theorem ggX6_readInto_X6_readItem : GoodIn wsX6_readInto wsX6_readItem := goodIn_r _ [66, 6, 67, 68, 4, 69, 5, 3, 70, 71, 72, 38, 73, 74, 75, 76, 77, 2, 41, 40, 78, 79, 80, 81, 82, 83, 84, 85, 86, 87, 88, 89, 48, 49, 50, 45, 51, 47, 52, 90, 91, 92, 93, 94, 95, 96, 97, 98, 99, 100, 101, 102, 103, 104, 105, 106, 107, 108, 109, 110, 111, 112, 113, 114, 115, 116, 117, 118, 119, 120, 121, 122, 123, 124, 125, 126, 127, 128, 129, 130, 35, 36, 37, 39, 42, 43, 44, 46, 53, 54, 55, 56, 57, 27, 58, 59, 60, 61, 62, 131, 132, 133, 134, 135, 136, 26, 28, 137, 138, 139, 140, 141, 142, 143, 144, 145, 146, 1, 147, 148, 149, 10, 150, 13, 12, 151, 152, 153, 154, 155, 156, 157, 158, 159, 160, 161, 162, 163, 164, 165, 166, 167, 168, 169, 170, 23, 171, 25, 172, 173, 174, 175, 176, 29, 30, 31, 32, 33, 34, 177, 178, 179, 180, 14, 181, 182, 183, 184, 15, 185, 186, 187, 188, 189, 190, 191, 192, 193, 16, 194, 195, 196, 197, 198, 199, 200, 201, 210, 211, 212, 213, 214, 215, 216, 217, 218, 219, 230, 231, 220, 221, 222, 223, 224, 225, 226, 227, 228, 229] (by decide +kernel) (by decide +kernel)
set_option maxRecDepth 20000 in
theorem gX6_readInto_X6_readItem : GoodIn wsX6_readInto (wsV RX6 50 RX6 yX6_readItem wsX6_readItem) := goodIn_app (goodIn_of _ (by decide +kernel)) ggX6_readInto_X6_readItem
set_option maxRecDepth 20000 in
theorem ggX6_readInto_X1_become : GoodIn wsX6_readInto wsX1_become := goodIn_r _ [205, 12, 13, 14, 15, 16, 18, 206, 207, 208, 23, 209, 25, 34, 220, 221, 222, 223, 224, 225, 226, 227, 228, 229] (by decide +kernel) (by decide +kernel)
set_option maxRecDepth 20000 in
theorem gX6_readInto_X1_become : GoodIn wsX6_readInto (wsV RX6 53 RX1 yX1_become wsX1_become) := goodIn_app (goodIn_of _ (by decide +kernel)) ggX6_readInto_X1_become
theorem dX6_readInto_0 : decode cX6_readInto 0 = .ok (.aload_n 0, 1) := by decide +kernel
theorem dX6_readInto_1 : decode cX6_readInto 1 = .ok (.getfield 18, 3) := by decide +kernel
theorem dX6_readInto_4 : decode cX6_readInto 4 = .ok (.invokevirtual 26, 3) := by decide +kernel
theorem dX6_readInto_7 : decode cX6_readInto 7 = .ok (.aload_n 0, 1) := by decide +kernel
theorem dX6_readInto_8 : decode cX6_readInto 8 = .ok (.iconst 0, 1) := by decide +kernel
theorem dX6_readInto_9 : decode cX6_readInto 9 = .ok (.putfield 29, 3) := by decide +kernel
theorem dX6_readInto_12 : decode cX6_readInto 12 = .ok (.aload_n 0, 1) := by decide +kernel
theorem dX6_readInto_13 : decode cX6_readInto 13 = .ok (.iconst 0, 1) := by decide +kernel
theorem dX6_readInto_14 : decode cX6_readInto 14 = .ok (.putfield 33, 3) := by decide +kernel
theorem dX6_readInto_17 : decode cX6_readInto 17 = .ok (.aload_n 0, 1) := by decide +kernel
theorem dX6_readInto_18 : decode cX6_readInto 18 = .ok (.iconst (-1), 1) := by decide +kernel
theorem dX6_readInto_19 : decode cX6_readInto 19 = .ok (.putfield 36, 3) := by decide +kernel
theorem dX6_readInto_22 : decode cX6_readInto 22 = .ok (.aload_n 0, 1) := by decide +kernel
theorem dX6_readInto_23 : decode cX6_readInto 23 = .ok (.iconst (-1), 1) := by decide +kernel
theorem dX6_readInto_24 : decode cX6_readInto 24 = .ok (.putfield 39, 3) := by decide +kernel
theorem dX6_readInto_27 : decode cX6_readInto 27 = .ok (.aload_n 0, 1) := by decide +kernel
theorem dX6_readInto_28 : decode cX6_readInto 28 = .ok (.invokevirtual 42, 3) := by decide +kernel
theorem dX6_readInto_31 : decode cX6_readInto 31 = .ok (.iconst 0, 1) := by decide +kernel
theorem dX6_readInto_32 : decode cX6_readInto 32 = .ok (.istore_n 2, 1) := by decide +kernel
theorem dX6_readInto_33 : decode cX6_readInto 33 = .ok (.iload_n 2, 1) := by decide +kernel
theorem dX6_readInto_34 : decode cX6_readInto 34 = .ok (.sipush 300, 3) := by decide +kernel
theorem dX6_readInto_37 : decode cX6_readInto 37 = .ok (.if_icmp .ge 28, 3) := by decide +kernel
theorem dX6_readInto_40 : decode cX6_readInto 40 = .ok (.aload_n 0, 1) := by decide +kernel
theorem dX6_readInto_41 : decode cX6_readInto 41 = .ok (.getfield 47, 3) := by decide +kernel
theorem dX6_readInto_44 : decode cX6_readInto 44 = .ok (.ifCond .eq 21, 3) := by decide +kernel
theorem dX6_readInto_47 : decode cX6_readInto 47 = .ok (.aload_n 0, 1) := by decide +kernel
theorem dX6_readInto_48 : decode cX6_readInto 48 = .ok (.getfield 36, 3) := by decide +kernel
theorem dX6_readInto_51 : decode cX6_readInto 51 = .ok (.iconst (-1), 1) := by decide +kernel
theorem dX6_readInto_52 : decode cX6_readInto 52 = .ok (.if_icmp .ne 13, 3) := by decide +kernel
theorem dX6_readInto_55 : decode cX6_readInto 55 = .ok (.aload_n 0, 1) := by decide +kernel
theorem dX6_readInto_56 : decode cX6_readInto 56 = .ok (.invokevirtual 50, 3) := by decide +kernel
theorem dX6_readInto_59 : decode cX6_readInto 59 = .ok (.iinc 2 1, 3) := by decide +kernel
theorem dX6_readInto_62 : decode cX6_readInto 62 = .ok (.goto (-29), 3) := by decide +kernel
theorem dX6_readInto_65 : decode cX6_readInto 65 = .ok (.aload_n 0, 1) := by decide +kernel
theorem dX6_readInto_66 : decode cX6_readInto 66 = .ok (.getfield 36, 3) := by decide +kernel
theorem dX6_readInto_69 : decode cX6_readInto 69 = .ok (.iconst (-1), 1) := by decide +kernel
theorem dX6_readInto_70 : decode cX6_readInto 70 = .ok (.if_icmp .eq 11, 3) := by decide +kernel
theorem dX6_readInto_73 : decode cX6_readInto 73 = .ok (.bipush (-10), 2) := by decide +kernel
theorem dX6_readInto_75 : decode cX6_readInto 75 = .ok (.aload_n 0, 1) := by decide +kernel
theorem dX6_readInto_76 : decode cX6_readInto 76 = .ok (.getfield 36, 3) := by decide +kernel
theorem dX6_readInto_79 : decode cX6_readInto 79 = .ok (.isub, 1) := by decide +kernel
theorem dX6_readInto_80 : decode cX6_readInto 80 = .ok (.ireturn, 1) := by decide +kernel
theorem dX6_readInto_81 : decode cX6_readInto 81 = .ok (.aload_n 0, 1) := by decide +kernel
theorem dX6_readInto_82 : decode cX6_readInto 82 = .ok (.getfield 39, 3) := by decide +kernel
theorem dX6_readInto_85 : decode cX6_readInto 85 = .ok (.iconst (-1), 1) := by decide +kernel
theorem dX6_readInto_86 : decode cX6_readInto 86 = .ok (.if_icmp .eq 12, 3) := by decide +kernel
theorem dX6_readInto_89 : decode cX6_readInto 89 = .ok (.sipush (-1000), 3) := by decide +kernel
theorem dX6_readInto_92 : decode cX6_readInto 92 = .ok (.aload_n 0, 1) := by decide +kernel
theorem dX6_readInto_93 : decode cX6_readInto 93 = .ok (.getfield 39, 3) := by decide +kernel
theorem dX6_readInto_96 : decode cX6_readInto 96 = .ok (.isub, 1) := by decide +kernel
theorem dX6_readInto_97 : decode cX6_readInto 97 = .ok (.ireturn, 1) := by decide +kernel
theorem dX6_readInto_98 : decode cX6_readInto 98 = .ok (.aload_n 1, 1) := by decide +kernel
theorem dX6_readInto_99 : decode cX6_readInto 99 = .ok (.aload_n 0, 1) := by decide +kernel
theorem dX6_readInto_100 : decode cX6_readInto 100 = .ok (.getfield 18, 3) := by decide +kernel
theorem dX6_readInto_103 : decode cX6_readInto 103 = .ok (.invokevirtual 53, 3) := by decide +kernel
theorem dX6_readInto_106 : decode cX6_readInto 106 = .ok (.aload_n 0, 1) := by decide +kernel
theorem dX6_readInto_107 : decode cX6_readInto 107 = .ok (.getfield 33, 3) := by decide +kernel
theorem dX6_readInto_110 : decode cX6_readInto 110 = .ok (.ireturn, 1) := by decide +kernel
set_option maxRecDepth 20000 in
theorem ggX6_readItem_X6_whatItem : GoodIn wsX6_readItem wsX6_whatItem := goodIn_r _ [12, 13, 14, 15, 11, 16, 17, 18, 19, 20, 21, 22, 23, 24, 25, 26, 27, 28, 29, 30, 31, 32, 33, 34, 35, 36, 37, 38, 39, 40, 41, 42, 43, 44, 45, 46, 47, 48, 49, 50, 51, 52, 53, 54, 55, 56, 57, 58, 59, 60, 61, 62, 63, 64, 65, 66, 67, 68, 69, 70, 71, 72, 73, 74, 75, 187, 188, 189, 190, 191, 192, 193, 194, 195, 196, 197, 198] (by decide +kernel) (by decide +kernel)
set_option maxRecDepth 20000 in
theorem gX6_readItem_X6_whatItem : GoodIn wsX6_readItem (wsV RX6 57 RX6 yX6_whatItem wsX6_whatItem) := goodIn_app (goodIn_of _ (by decide +kernel)) ggX6_readItem_X6_whatItem
set_option maxRecDepth 20000 in
theorem ggX6_readItem_X6_expect : GoodIn wsX6_readItem wsX6_expect := goodIn_r _ [79, 4, 18, 80, 81, 82, 11, 83, 19, 17, 1, 84, 85, 86, 35, 87, 37, 32, 33, 34, 36, 38, 88, 89, 90, 91, 92, 93, 94, 95, 96, 97, 98, 187, 188, 189, 190, 191, 192, 193, 194, 195, 196, 197, 198] (by decide +kernel) (by decide +kernel)
set_option maxRecDepth 20000 in
theorem gX6_readItem_X6_expect : GoodIn wsX6_readItem (wsV RX6 61 RX6 yX6_expect wsX6_expect) := goodIn_app (goodIn_of _ (by decide +kernel)) ggX6_readItem_X6_expect
set_option maxRecDepth 20000 in
theorem ggX6_readItem_X6_wordAsName : GoodIn wsX6_readItem wsX6_wordAsName := goodIn_r _ [102, 18, 17, 103, 19, 104, 32, 33, 34, 35, 36, 37, 38, 187, 188, 189, 190, 191, 192, 193, 194, 195, 196, 197, 198] (by decide +kernel) (by decide +kernel)
set_option maxRecDepth 20000 in
theorem gX6_readItem_X6_wordAsName : GoodIn wsX6_readItem (wsV RX6 65 RX6 yX6_wordAsName wsX6_wordAsName) := goodIn_app (goodIn_of _ (by decide +kernel)) ggX6_readItem_X6_wordAsName
set_option maxRecDepth 20000 in
theorem ggX6_readItem_X10_at : GoodIn wsX6_readItem wsX10_at := goodIn_r _ [106] (by decide +kernel) (by decide +kernel)
set_option maxRecDepth 20000 in
theorem gX6_readItem_X10_at_n76 : GoodIn wsX6_readItem (wsX10_at) := ggX6_readItem_X10_at
set_option maxRecDepth 20000 in
theorem ggX6_readItem_X6_tokenAsNumber : GoodIn wsX6_readItem wsX6_tokenAsNumber := goodIn_r _ [110, 18, 17, 1, 19, 32, 33, 34, 35, 36, 37, 38, 187, 188, 189, 190, 191, 192, 193, 194, 195, 196, 197, 198] (by decide +kernel) (by decide +kernel)
set_option maxRecDepth 20000 in
theorem gX6_readItem_X6_tokenAsNumber : GoodIn wsX6_readItem (wsV RX6 80 RX6 yX6_tokenAsNumber wsX6_tokenAsNumber) := goodIn_app (goodIn_of _ (by decide +kernel)) ggX6_readItem_X6_tokenAsNumber
set_option maxRecDepth 20000 in
theorem ggX6_readItem_X10_set : GoodIn wsX6_readItem wsX10_set := goodIn_r _ [112] (by decide +kernel) (by decide +kernel)
set_option maxRecDepth 20000 in
theorem gX6_readItem_X10_set_n83 : GoodIn wsX6_readItem (wsX10_set) := ggX6_readItem_X10_set
set_option maxRecDepth 20000 in
theorem ggX6_readItem_X6_tellItem : GoodIn wsX6_readItem wsX6_tellItem := goodIn_r _ [116, 5, 117, 2, 105, 93, 106, 118, 119, 120, 121, 122, 123, 124, 125, 126, 127, 128, 129, 130, 131, 132, 133, 134, 135, 136, 92, 94, 137, 138, 139, 140, 141, 142, 143, 144, 145, 146, 147, 148, 149, 150, 151, 152, 153, 154, 155, 156, 157, 158, 159, 160, 161, 162, 163, 164, 165, 166, 167, 168, 169, 170, 171, 172, 173, 174, 175, 176, 177, 178, 179, 180, 181, 182, 183, 184, 185, 186, 187, 188, 189, 190, 191, 192, 193, 194, 195, 196, 199, 200, 201, 202, 203, 204, 205, 206, 207, 208] (by decide +kernel) (by decide +kernel)
set_option maxRecDepth 20000 in
theorem gX6_readItem_X6_tellItem : GoodIn wsX6_readItem (wsV RX6 87 RX6 yX6_tellItem wsX6_tellItem) := goodIn_app (goodIn_of _ (by decide +kernel)) ggX6_readItem_X6_tellItem
theorem dX6_readItem_0 : decode cX6_readItem 0 = .ok (.aload_n 0, 1) := by decide +kernel
theorem dX6_readItem_1 : decode cX6_readItem 1 = .ok (.getfield 47, 3) := by decide +kernel
theorem dX6_readItem_4 : decode cX6_readItem 4 = .ok (.iconst 1, 1) := by decide +kernel
theorem dX6_readItem_5 : decode cX6_readItem 5 = .ok (.if_icmp .ne 10, 3) := by decide +kernel
theorem dX6_readItem_8 : decode cX6_readItem 8 = .ok (.aload_n 0, 1) := by decide +kernel
theorem dX6_readItem_9 : decode cX6_readItem 9 = .ok (.invokevirtual 57, 3) := by decide +kernel
theorem dX6_readItem_12 : decode cX6_readItem 12 = .ok (.goto 4, 3) := by decide +kernel
theorem dX6_readItem_15 : decode cX6_readItem 15 = .ok (.iconst (-1), 1) := by decide +kernel
theorem dX6_readItem_16 : decode cX6_readItem 16 = .ok (.istore_n 1, 1) := by decide +kernel
theorem dX6_readItem_17 : decode cX6_readItem 17 = .ok (.aload_n 0, 1) := by decide +kernel
theorem dX6_readItem_18 : decode cX6_readItem 18 = .ok (.iload_n 1, 1) := by decide +kernel
theorem dX6_readItem_19 : decode cX6_readItem 19 = .ok (.iconst (-1), 1) := by decide +kernel
theorem dX6_readItem_20 : decode cX6_readItem 20 = .ok (.if_icmp .eq 7, 3) := by decide +kernel
theorem dX6_readItem_23 : decode cX6_readItem 23 = .ok (.iconst 1, 1) := by decide +kernel
theorem dX6_readItem_24 : decode cX6_readItem 24 = .ok (.goto 4, 3) := by decide +kernel
theorem dX6_readItem_27 : decode cX6_readItem 27 = .ok (.iconst 0, 1) := by decide +kernel
theorem dX6_readItem_28 : decode cX6_readItem 28 = .ok (.invokevirtual 61, 3) := by decide +kernel
theorem dX6_readItem_31 : decode cX6_readItem 31 = .ok (.iload_n 1, 1) := by decide +kernel
theorem dX6_readItem_32 : decode cX6_readItem 32 = .ok (.ifCond .ne 28, 3) := by decide +kernel
theorem dX6_readItem_35 : decode cX6_readItem 35 = .ok (.aload_n 0, 1) := by decide +kernel
theorem dX6_readItem_36 : decode cX6_readItem 36 = .ok (.aload_n 0, 1) := by decide +kernel
theorem dX6_readItem_37 : decode cX6_readItem 37 = .ok (.invokevirtual 65, 3) := by decide +kernel
theorem dX6_readItem_40 : decode cX6_readItem 40 = .ok (.putfield 69, 3) := by decide +kernel
theorem dX6_readItem_43 : decode cX6_readItem 43 = .ok (.aload_n 0, 1) := by decide +kernel
theorem dX6_readItem_44 : decode cX6_readItem 44 = .ok (.aload_n 0, 1) := by decide +kernel
theorem dX6_readItem_45 : decode cX6_readItem 45 = .ok (.getfield 47, 3) := by decide +kernel
theorem dX6_readItem_48 : decode cX6_readItem 48 = .ok (.iconst 1, 1) := by decide +kernel
theorem dX6_readItem_49 : decode cX6_readItem 49 = .ok (.if_icmp .ne 7, 3) := by decide +kernel
theorem dX6_readItem_52 : decode cX6_readItem 52 = .ok (.iconst 1, 1) := by decide +kernel
theorem dX6_readItem_53 : decode cX6_readItem 53 = .ok (.goto 4, 3) := by decide +kernel
theorem dX6_readItem_56 : decode cX6_readItem 56 = .ok (.iconst 0, 1) := by decide +kernel
theorem dX6_readItem_57 : decode cX6_readItem 57 = .ok (.invokevirtual 61, 3) := by decide +kernel
theorem dX6_readItem_60 : decode cX6_readItem 60 = .ok (.iconst 0, 1) := by decide +kernel
theorem dX6_readItem_61 : decode cX6_readItem 61 = .ok (.istore_n 2, 1) := by decide +kernel
theorem dX6_readItem_62 : decode cX6_readItem 62 = .ok (.iload_n 2, 1) := by decide +kernel
theorem dX6_readItem_63 : decode cX6_readItem 63 = .ok (.getstatic 73, 3) := by decide +kernel
theorem dX6_readItem_66 : decode cX6_readItem 66 = .ok (.iload_n 1, 1) := by decide +kernel
theorem dX6_readItem_67 : decode cX6_readItem 67 = .ok (.invokestatic 76, 3) := by decide +kernel
theorem dX6_readItem_70 : decode cX6_readItem 70 = .ok (.if_icmp .ge 46, 3) := by decide +kernel
theorem dX6_readItem_73 : decode cX6_readItem 73 = .ok (.aload_n 0, 1) := by decide +kernel
theorem dX6_readItem_74 : decode cX6_readItem 74 = .ok (.getfield 36, 3) := by decide +kernel
theorem dX6_readItem_77 : decode cX6_readItem 77 = .ok (.iconst (-1), 1) := by decide +kernel
theorem dX6_readItem_78 : decode cX6_readItem 78 = .ok (.if_icmp .ne 38, 3) := by decide +kernel
theorem dX6_readItem_81 : decode cX6_readItem 81 = .ok (.aload_n 0, 1) := by decide +kernel
theorem dX6_readItem_82 : decode cX6_readItem 82 = .ok (.getfield 22, 3) := by decide +kernel
theorem dX6_readItem_85 : decode cX6_readItem 85 = .ok (.iload_n 2, 1) := by decide +kernel
theorem dX6_readItem_86 : decode cX6_readItem 86 = .ok (.aload_n 0, 1) := by decide +kernel
theorem dX6_readItem_87 : decode cX6_readItem 87 = .ok (.invokevirtual 80, 3) := by decide +kernel
theorem dX6_readItem_90 : decode cX6_readItem 90 = .ok (.invokestatic 83, 3) := by decide +kernel
theorem dX6_readItem_93 : decode cX6_readItem 93 = .ok (.aload_n 0, 1) := by decide +kernel
theorem dX6_readItem_94 : decode cX6_readItem 94 = .ok (.aload_n 0, 1) := by decide +kernel
theorem dX6_readItem_95 : decode cX6_readItem 95 = .ok (.getfield 47, 3) := by decide +kernel
theorem dX6_readItem_98 : decode cX6_readItem 98 = .ok (.iconst 2, 1) := by decide +kernel
theorem dX6_readItem_99 : decode cX6_readItem 99 = .ok (.if_icmp .ne 7, 3) := by decide +kernel
theorem dX6_readItem_102 : decode cX6_readItem 102 = .ok (.iconst 1, 1) := by decide +kernel
theorem dX6_readItem_103 : decode cX6_readItem 103 = .ok (.goto 4, 3) := by decide +kernel
theorem dX6_readItem_106 : decode cX6_readItem 106 = .ok (.iconst 0, 1) := by decide +kernel
theorem dX6_readItem_107 : decode cX6_readItem 107 = .ok (.invokevirtual 61, 3) := by decide +kernel
theorem dX6_readItem_110 : decode cX6_readItem 110 = .ok (.iinc 2 1, 3) := by decide +kernel
theorem dX6_readItem_113 : decode cX6_readItem 113 = .ok (.goto (-51), 3) := by decide +kernel
theorem dX6_readItem_116 : decode cX6_readItem 116 = .ok (.aload_n 0, 1) := by decide +kernel
theorem dX6_readItem_117 : decode cX6_readItem 117 = .ok (.aload_n 0, 1) := by decide +kernel
theorem dX6_readItem_118 : decode cX6_readItem 118 = .ok (.getfield 47, 3) := by decide +kernel
theorem dX6_readItem_121 : decode cX6_readItem 121 = .ok (.iconst 3, 1) := by decide +kernel
theorem dX6_readItem_122 : decode cX6_readItem 122 = .ok (.if_icmp .ne 7, 3) := by decide +kernel
theorem dX6_readItem_125 : decode cX6_readItem 125 = .ok (.iconst 1, 1) := by decide +kernel
theorem dX6_readItem_126 : decode cX6_readItem 126 = .ok (.goto 4, 3) := by decide +kernel
theorem dX6_readItem_129 : decode cX6_readItem 129 = .ok (.iconst 0, 1) := by decide +kernel
theorem dX6_readItem_130 : decode cX6_readItem 130 = .ok (.invokevirtual 61, 3) := by decide +kernel
theorem dX6_readItem_133 : decode cX6_readItem 133 = .ok (.aload_n 0, 1) := by decide +kernel
theorem dX6_readItem_134 : decode cX6_readItem 134 = .ok (.getfield 36, 3) := by decide +kernel
theorem dX6_readItem_137 : decode cX6_readItem 137 = .ok (.iconst (-1), 1) := by decide +kernel
theorem dX6_readItem_138 : decode cX6_readItem 138 = .ok (.if_icmp .ne 37, 3) := by decide +kernel
theorem dX6_readItem_141 : decode cX6_readItem 141 = .ok (.aload_n 0, 1) := by decide +kernel
theorem dX6_readItem_142 : decode cX6_readItem 142 = .ok (.getfield 39, 3) := by decide +kernel
theorem dX6_readItem_145 : decode cX6_readItem 145 = .ok (.iconst (-1), 1) := by decide +kernel
theorem dX6_readItem_146 : decode cX6_readItem 146 = .ok (.if_icmp .ne 19, 3) := by decide +kernel
theorem dX6_readItem_149 : decode cX6_readItem 149 = .ok (.aload_n 0, 1) := by decide +kernel
theorem dX6_readItem_150 : decode cX6_readItem 150 = .ok (.iload_n 1, 1) := by decide +kernel
theorem dX6_readItem_151 : decode cX6_readItem 151 = .ok (.invokevirtual 87, 3) := by decide +kernel
theorem dX6_readItem_154 : decode cX6_readItem 154 = .ok (.ifCond .ge 11, 3) := by decide +kernel
theorem dX6_readItem_157 : decode cX6_readItem 157 = .ok (.aload_n 0, 1) := by decide +kernel
theorem dX6_readItem_158 : decode cX6_readItem 158 = .ok (.aload_n 0, 1) := by decide +kernel
theorem dX6_readItem_159 : decode cX6_readItem 159 = .ok (.getfield 33, 3) := by decide +kernel
theorem dX6_readItem_162 : decode cX6_readItem 162 = .ok (.putfield 39, 3) := by decide +kernel
theorem dX6_readItem_165 : decode cX6_readItem 165 = .ok (.aload_n 0, 1) := by decide +kernel
theorem dX6_readItem_166 : decode cX6_readItem 166 = .ok (.dup, 1) := by decide +kernel
theorem dX6_readItem_167 : decode cX6_readItem 167 = .ok (.getfield 33, 3) := by decide +kernel
theorem dX6_readItem_170 : decode cX6_readItem 170 = .ok (.iconst 1, 1) := by decide +kernel
theorem dX6_readItem_171 : decode cX6_readItem 171 = .ok (.iadd, 1) := by decide +kernel
theorem dX6_readItem_172 : decode cX6_readItem 172 = .ok (.putfield 33, 3) := by decide +kernel
theorem dX6_readItem_175 : decode cX6_readItem 175 = .ok (.return_, 1) := by decide +kernel
set_option maxRecDepth 20000 in
theorem ggX6_expect_X6_step : GoodIn wsX6_expect wsX6_step := goodIn_r _ [7, 8, 9, 2, 10, 11, 12, 13, 14, 15, 16, 17, 18, 19, 20, 21, 22, 23, 24, 6, 25, 26, 27, 28, 29, 30, 31, 32, 33, 34, 35, 36, 37, 38, 39, 40, 41, 42, 43, 44] (by decide +kernel) (by decide +kernel)
set_option maxRecDepth 20000 in
theorem gX6_expect_X6_step : GoodIn wsX6_expect (wsV RX6 42 RX6 yX6_step wsX6_step) := goodIn_app (goodIn_of _ (by decide +kernel)) ggX6_expect_X6_step
theorem dX6_expect_0 : decode cX6_expect 0 = .ok (.aload_n 0, 1) := by decide +kernel
theorem dX6_expect_1 : decode cX6_expect 1 = .ok (.getfield 36, 3) := by decide +kernel
theorem dX6_expect_4 : decode cX6_expect 4 = .ok (.iconst (-1), 1) := by decide +kernel
theorem dX6_expect_5 : decode cX6_expect 5 = .ok (.if_icmp .ne 22, 3) := by decide +kernel
theorem dX6_expect_8 : decode cX6_expect 8 = .ok (.iload_n 1, 1) := by decide +kernel
theorem dX6_expect_9 : decode cX6_expect 9 = .ok (.ifCond .eq 10, 3) := by decide +kernel
theorem dX6_expect_12 : decode cX6_expect 12 = .ok (.aload_n 0, 1) := by decide +kernel
theorem dX6_expect_13 : decode cX6_expect 13 = .ok (.invokevirtual 42, 3) := by decide +kernel
theorem dX6_expect_16 : decode cX6_expect 16 = .ok (.goto 11, 3) := by decide +kernel
theorem dX6_expect_19 : decode cX6_expect 19 = .ok (.aload_n 0, 1) := by decide +kernel
theorem dX6_expect_20 : decode cX6_expect 20 = .ok (.aload_n 0, 1) := by decide +kernel
theorem dX6_expect_21 : decode cX6_expect 21 = .ok (.getfield 91, 3) := by decide +kernel
theorem dX6_expect_24 : decode cX6_expect 24 = .ok (.putfield 36, 3) := by decide +kernel
theorem dX6_expect_27 : decode cX6_expect 27 = .ok (.return_, 1) := by decide +kernel
set_option maxRecDepth 20000 in
theorem ggX6_tellItem_X10_at : GoodIn wsX6_tellItem wsX10_at := goodIn_r _ [6] (by decide +kernel) (by decide +kernel)
set_option maxRecDepth 20000 in
theorem gX6_tellItem_X10_at_n76 : GoodIn wsX6_tellItem (wsX10_at) := ggX6_tellItem_X10_at
set_option maxRecDepth 20000 in
theorem ggX6_tellItem_X1_tellOne : GoodIn wsX6_tellItem wsX1_tellOne := goodIn_r _ [11, 12, 13, 14, 15, 16, 17, 18, 19, 20, 21, 22, 23, 24, 25, 26, 5, 27, 28, 29, 10, 30, 31, 32, 4, 6, 33, 34, 35, 36, 37, 38, 39, 40, 41, 42, 43, 44, 45, 46, 47, 48, 49, 88, 89, 90, 91, 92, 93, 94, 95, 96, 97] (by decide +kernel) (by decide +kernel)
set_option maxRecDepth 20000 in
theorem gX6_tellItem_X1_tellOne : GoodIn wsX6_tellItem (wsV RX6 94 RX1 yX1_tellOne wsX1_tellOne) := goodIn_app (goodIn_of _ (by decide +kernel)) ggX6_tellItem_X1_tellOne
set_option maxRecDepth 20000 in
theorem ggX6_tellItem_X1_tellTry : GoodIn wsX6_tellItem wsX1_tellTry := goodIn_r _ [53, 54, 26, 5, 27, 33, 34, 35, 36, 37, 38, 39, 40, 41, 42, 43, 44, 45, 46, 47, 48, 49, 88, 89, 90, 91, 92, 93, 94, 95, 96, 97] (by decide +kernel) (by decide +kernel)
set_option maxRecDepth 20000 in
theorem gX6_tellItem_X1_tellTry : GoodIn wsX6_tellItem (wsV RX6 98 RX1 yX1_tellTry wsX1_tellTry) := goodIn_app (goodIn_of _ (by decide +kernel)) ggX6_tellItem_X1_tellTry
set_option maxRecDepth 20000 in
theorem ggX6_tellItem_X1_tellQuestion : GoodIn wsX6_tellItem wsX1_tellQuestion := goodIn_r _ [58, 59, 60, 61, 10, 62, 26, 5, 27, 33, 34, 35, 36, 37, 38, 39, 40, 41, 42, 43, 44, 45, 46, 47, 48, 49, 88, 89, 90, 91, 92, 93, 94, 95, 96, 97] (by decide +kernel) (by decide +kernel)
set_option maxRecDepth 20000 in
theorem gX6_tellItem_X1_tellQuestion : GoodIn wsX6_tellItem (wsV RX6 102 RX1 yX1_tellQuestion wsX1_tellQuestion) := goodIn_app (goodIn_of _ (by decide +kernel)) ggX6_tellItem_X1_tellQuestion
set_option maxRecDepth 20000 in
theorem ggX6_tellItem_X1_tellSetting : GoodIn wsX6_tellItem wsX1_tellSetting := goodIn_r _ [66, 67, 68, 69, 26, 5, 27, 4, 6, 70, 71, 72, 10, 73, 74, 75, 76, 36, 77, 48, 49, 44, 45, 46, 47, 88, 89, 90, 91, 92, 93, 94, 95, 96, 97] (by decide +kernel) (by decide +kernel)
set_option maxRecDepth 20000 in
theorem gX6_tellItem_X1_tellSetting : GoodIn wsX6_tellItem (wsV RX6 106 RX1 yX1_tellSetting wsX1_tellSetting) := goodIn_app (goodIn_of _ (by decide +kernel)) ggX6_tellItem_X1_tellSetting
theorem dX6_tellItem_0 : decode cX6_tellItem 0 = .ok (.aload_n 0, 1) := by decide +kernel
theorem dX6_tellItem_1 : decode cX6_tellItem 1 = .ok (.getfield 22, 3) := by decide +kernel
theorem dX6_tellItem_4 : decode cX6_tellItem 4 = .ok (.iconst 0, 1) := by decide +kernel
theorem dX6_tellItem_5 : decode cX6_tellItem 5 = .ok (.invokestatic 76, 3) := by decide +kernel
theorem dX6_tellItem_8 : decode cX6_tellItem 8 = .ok (.istore_n 2, 1) := by decide +kernel
theorem dX6_tellItem_9 : decode cX6_tellItem 9 = .ok (.aload_n 0, 1) := by decide +kernel
theorem dX6_tellItem_10 : decode cX6_tellItem 10 = .ok (.getfield 22, 3) := by decide +kernel
theorem dX6_tellItem_13 : decode cX6_tellItem 13 = .ok (.iconst 1, 1) := by decide +kernel
theorem dX6_tellItem_14 : decode cX6_tellItem 14 = .ok (.invokestatic 76, 3) := by decide +kernel
theorem dX6_tellItem_17 : decode cX6_tellItem 17 = .ok (.istore_n 3, 1) := by decide +kernel
theorem dX6_tellItem_18 : decode cX6_tellItem 18 = .ok (.aload_n 0, 1) := by decide +kernel
theorem dX6_tellItem_19 : decode cX6_tellItem 19 = .ok (.getfield 22, 3) := by decide +kernel
theorem dX6_tellItem_22 : decode cX6_tellItem 22 = .ok (.iconst 2, 1) := by decide +kernel
theorem dX6_tellItem_23 : decode cX6_tellItem 23 = .ok (.invokestatic 76, 3) := by decide +kernel
theorem dX6_tellItem_26 : decode cX6_tellItem 26 = .ok (.istore 4, 2) := by decide +kernel
theorem dX6_tellItem_28 : decode cX6_tellItem 28 = .ok (.iload_n 1, 1) := by decide +kernel
theorem dX6_tellItem_29 : decode cX6_tellItem 29 = .ok (.tableswitch 95 0 3 #[31, 63, 75, 85], 31) := by decide +kernel
theorem dX6_tellItem_60 : decode cX6_tellItem 60 = .ok (.aload_n 0, 1) := by decide +kernel
theorem dX6_tellItem_61 : decode cX6_tellItem 61 = .ok (.getfield 18, 3) := by decide +kernel
theorem dX6_tellItem_64 : decode cX6_tellItem 64 = .ok (.aload_n 0, 1) := by decide +kernel
theorem dX6_tellItem_65 : decode cX6_tellItem 65 = .ok (.getfield 69, 3) := by decide +kernel
theorem dX6_tellItem_68 : decode cX6_tellItem 68 = .ok (.iload_n 2, 1) := by decide +kernel
theorem dX6_tellItem_69 : decode cX6_tellItem 69 = .ok (.iload_n 3, 1) := by decide +kernel
theorem dX6_tellItem_70 : decode cX6_tellItem 70 = .ok (.iload 4, 2) := by decide +kernel
theorem dX6_tellItem_72 : decode cX6_tellItem 72 = .ok (.aload_n 0, 1) := by decide +kernel
theorem dX6_tellItem_73 : decode cX6_tellItem 73 = .ok (.getfield 22, 3) := by decide +kernel
theorem dX6_tellItem_76 : decode cX6_tellItem 76 = .ok (.iconst 3, 1) := by decide +kernel
theorem dX6_tellItem_77 : decode cX6_tellItem 77 = .ok (.invokestatic 76, 3) := by decide +kernel
theorem dX6_tellItem_80 : decode cX6_tellItem 80 = .ok (.aload_n 0, 1) := by decide +kernel
theorem dX6_tellItem_81 : decode cX6_tellItem 81 = .ok (.getfield 22, 3) := by decide +kernel
theorem dX6_tellItem_84 : decode cX6_tellItem 84 = .ok (.iconst 4, 1) := by decide +kernel
theorem dX6_tellItem_85 : decode cX6_tellItem 85 = .ok (.invokestatic 76, 3) := by decide +kernel
theorem dX6_tellItem_88 : decode cX6_tellItem 88 = .ok (.invokevirtual 94, 3) := by decide +kernel
theorem dX6_tellItem_91 : decode cX6_tellItem 91 = .ok (.ireturn, 1) := by decide +kernel
theorem dX6_tellItem_92 : decode cX6_tellItem 92 = .ok (.aload_n 0, 1) := by decide +kernel
theorem dX6_tellItem_93 : decode cX6_tellItem 93 = .ok (.getfield 18, 3) := by decide +kernel
theorem dX6_tellItem_96 : decode cX6_tellItem 96 = .ok (.iload_n 2, 1) := by decide +kernel
theorem dX6_tellItem_97 : decode cX6_tellItem 97 = .ok (.iload_n 3, 1) := by decide +kernel
theorem dX6_tellItem_98 : decode cX6_tellItem 98 = .ok (.iload 4, 2) := by decide +kernel
theorem dX6_tellItem_100 : decode cX6_tellItem 100 = .ok (.invokevirtual 98, 3) := by decide +kernel
theorem dX6_tellItem_103 : decode cX6_tellItem 103 = .ok (.ireturn, 1) := by decide +kernel
theorem dX6_tellItem_104 : decode cX6_tellItem 104 = .ok (.aload_n 0, 1) := by decide +kernel
theorem dX6_tellItem_105 : decode cX6_tellItem 105 = .ok (.getfield 18, 3) := by decide +kernel
theorem dX6_tellItem_108 : decode cX6_tellItem 108 = .ok (.iload_n 2, 1) := by decide +kernel
theorem dX6_tellItem_109 : decode cX6_tellItem 109 = .ok (.iload_n 3, 1) := by decide +kernel
theorem dX6_tellItem_110 : decode cX6_tellItem 110 = .ok (.invokevirtual 102, 3) := by decide +kernel
theorem dX6_tellItem_113 : decode cX6_tellItem 113 = .ok (.ireturn, 1) := by decide +kernel
theorem dX6_tellItem_114 : decode cX6_tellItem 114 = .ok (.aload_n 0, 1) := by decide +kernel
theorem dX6_tellItem_115 : decode cX6_tellItem 115 = .ok (.getfield 18, 3) := by decide +kernel
theorem dX6_tellItem_118 : decode cX6_tellItem 118 = .ok (.iconst 0, 1) := by decide +kernel
theorem dX6_tellItem_119 : decode cX6_tellItem 119 = .ok (.iload_n 2, 1) := by decide +kernel
theorem dX6_tellItem_120 : decode cX6_tellItem 120 = .ok (.invokevirtual 106, 3) := by decide +kernel
theorem dX6_tellItem_123 : decode cX6_tellItem 123 = .ok (.ireturn, 1) := by decide +kernel
theorem dX6_tellItem_124 : decode cX6_tellItem 124 = .ok (.aload_n 0, 1) := by decide +kernel
theorem dX6_tellItem_125 : decode cX6_tellItem 125 = .ok (.getfield 18, 3) := by decide +kernel
theorem dX6_tellItem_128 : decode cX6_tellItem 128 = .ok (.iconst 1, 1) := by decide +kernel
theorem dX6_tellItem_129 : decode cX6_tellItem 129 = .ok (.iload_n 2, 1) := by decide +kernel
theorem dX6_tellItem_130 : decode cX6_tellItem 130 = .ok (.invokevirtual 106, 3) := by decide +kernel
theorem dX6_tellItem_133 : decode cX6_tellItem 133 = .ok (.ireturn, 1) := by decide +kernel
set_option maxRecDepth 20000 in
theorem ggX6_step_X9_size : GoodIn wsX6_step wsX9_size := goodIn_r _ [9, 10, 38, 39] (by decide +kernel) (by decide +kernel)
set_option maxRecDepth 20000 in
theorem gX6_step_X9_size : GoodIn wsX6_step (wsV RX6 109 RX9 yX9_size wsX9_size) := goodIn_app (goodIn_of _ (by decide +kernel)) ggX6_step_X9_size
set_option maxRecDepth 20000 in
theorem ggX6_step_X9_byteAt : GoodIn wsX6_step wsX9_byteAt := goodIn_r _ [14, 10, 15, 38, 39] (by decide +kernel) (by decide +kernel)
set_option maxRecDepth 20000 in
theorem gX6_step_X9_byteAt : GoodIn wsX6_step (wsV RX6 112 RX9 yX9_byteAt wsX9_byteAt) := goodIn_app (goodIn_of _ (by decide +kernel)) ggX6_step_X9_byteAt
set_option maxRecDepth 20000 in
theorem ggX6_step_X6_isLetter : GoodIn wsX6_step wsX6_isLetter := goodIn_r _ [20, 1, 11, 12, 13, 8, 14, 10, 15, 21, 22, 23, 28, 29, 30, 31, 32, 33, 34, 35, 36, 37, 38, 39] (by decide +kernel) (by decide +kernel)
set_option maxRecDepth 20000 in
theorem gX6_step_X6_isLetter : GoodIn wsX6_step (wsV RX6 115 RX6 yX6_isLetter wsX6_isLetter) := goodIn_app (goodIn_of _ (by decide +kernel)) ggX6_step_X6_isLetter
set_option maxRecDepth 20000 in
theorem ggX6_step_X6_isFigure : GoodIn wsX6_step wsX6_isFigure := goodIn_r _ [27, 1, 11, 12, 13, 8, 14, 10, 15, 21, 22, 23, 28, 29, 30, 31, 32, 33, 34, 35, 36, 37, 38, 39] (by decide +kernel) (by decide +kernel)
set_option maxRecDepth 20000 in
theorem gX6_step_X6_isFigure : GoodIn wsX6_step (wsV RX6 119 RX6 yX6_isFigure wsX6_isFigure) := goodIn_app (goodIn_of _ (by decide +kernel)) ggX6_step_X6_isFigure
theorem dX6_step_0 : decode cX6_step 0 = .ok (.aload_n 0, 1) := by decide +kernel
theorem dX6_step_1 : decode cX6_step 1 = .ok (.getfield 9, 3) := by decide +kernel
theorem dX6_step_4 : decode cX6_step 4 = .ok (.invokevirtual 109, 3) := by decide +kernel
theorem dX6_step_7 : decode cX6_step 7 = .ok (.istore_n 1, 1) := by decide +kernel
theorem dX6_step_8 : decode cX6_step 8 = .ok (.aload_n 0, 1) := by decide +kernel
theorem dX6_step_9 : decode cX6_step 9 = .ok (.aload_n 0, 1) := by decide +kernel
theorem dX6_step_10 : decode cX6_step 10 = .ok (.getfield 29, 3) := by decide +kernel
theorem dX6_step_13 : decode cX6_step 13 = .ok (.putfield 91, 3) := by decide +kernel
theorem dX6_step_16 : decode cX6_step 16 = .ok (.aload_n 0, 1) := by decide +kernel
theorem dX6_step_17 : decode cX6_step 17 = .ok (.getfield 91, 3) := by decide +kernel
theorem dX6_step_20 : decode cX6_step 20 = .ok (.iload_n 1, 1) := by decide +kernel
theorem dX6_step_21 : decode cX6_step 21 = .ok (.if_icmp .ge 32, 3) := by decide +kernel
theorem dX6_step_24 : decode cX6_step 24 = .ok (.aload_n 0, 1) := by decide +kernel
theorem dX6_step_25 : decode cX6_step 25 = .ok (.getfield 9, 3) := by decide +kernel
theorem dX6_step_28 : decode cX6_step 28 = .ok (.aload_n 0, 1) := by decide +kernel
theorem dX6_step_29 : decode cX6_step 29 = .ok (.getfield 91, 3) := by decide +kernel
theorem dX6_step_32 : decode cX6_step 32 = .ok (.invokevirtual 112, 3) := by decide +kernel
theorem dX6_step_35 : decode cX6_step 35 = .ok (.bipush 32, 2) := by decide +kernel
theorem dX6_step_37 : decode cX6_step 37 = .ok (.if_icmp .ne 16, 3) := by decide +kernel
theorem dX6_step_40 : decode cX6_step 40 = .ok (.aload_n 0, 1) := by decide +kernel
theorem dX6_step_41 : decode cX6_step 41 = .ok (.dup, 1) := by decide +kernel
theorem dX6_step_42 : decode cX6_step 42 = .ok (.getfield 91, 3) := by decide +kernel
theorem dX6_step_45 : decode cX6_step 45 = .ok (.iconst 1, 1) := by decide +kernel
theorem dX6_step_46 : decode cX6_step 46 = .ok (.iadd, 1) := by decide +kernel
theorem dX6_step_47 : decode cX6_step 47 = .ok (.putfield 91, 3) := by decide +kernel
theorem dX6_step_50 : decode cX6_step 50 = .ok (.goto (-34), 3) := by decide +kernel
theorem dX6_step_53 : decode cX6_step 53 = .ok (.aload_n 0, 1) := by decide +kernel
theorem dX6_step_54 : decode cX6_step 54 = .ok (.aload_n 0, 1) := by decide +kernel
theorem dX6_step_55 : decode cX6_step 55 = .ok (.getfield 91, 3) := by decide +kernel
theorem dX6_step_58 : decode cX6_step 58 = .ok (.putfield 29, 3) := by decide +kernel
theorem dX6_step_61 : decode cX6_step 61 = .ok (.aload_n 0, 1) := by decide +kernel
theorem dX6_step_62 : decode cX6_step 62 = .ok (.getfield 91, 3) := by decide +kernel
theorem dX6_step_65 : decode cX6_step 65 = .ok (.iload_n 1, 1) := by decide +kernel
theorem dX6_step_66 : decode cX6_step 66 = .ok (.if_icmp .lt 11, 3) := by decide +kernel
theorem dX6_step_69 : decode cX6_step 69 = .ok (.aload_n 0, 1) := by decide +kernel
theorem dX6_step_70 : decode cX6_step 70 = .ok (.iconst 0, 1) := by decide +kernel
theorem dX6_step_71 : decode cX6_step 71 = .ok (.putfield 47, 3) := by decide +kernel
theorem dX6_step_74 : decode cX6_step 74 = .ok (.goto 154, 3) := by decide +kernel
theorem dX6_step_77 : decode cX6_step 77 = .ok (.aload_n 0, 1) := by decide +kernel
theorem dX6_step_78 : decode cX6_step 78 = .ok (.aload_n 0, 1) := by decide +kernel
theorem dX6_step_79 : decode cX6_step 79 = .ok (.getfield 91, 3) := by decide +kernel
theorem dX6_step_82 : decode cX6_step 82 = .ok (.invokevirtual 115, 3) := by decide +kernel
theorem dX6_step_85 : decode cX6_step 85 = .ok (.ifCond .eq 40, 3) := by decide +kernel
theorem dX6_step_88 : decode cX6_step 88 = .ok (.aload_n 0, 1) := by decide +kernel
theorem dX6_step_89 : decode cX6_step 89 = .ok (.iconst 1, 1) := by decide +kernel
theorem dX6_step_90 : decode cX6_step 90 = .ok (.putfield 47, 3) := by decide +kernel
theorem dX6_step_93 : decode cX6_step 93 = .ok (.aload_n 0, 1) := by decide +kernel
theorem dX6_step_94 : decode cX6_step 94 = .ok (.getfield 29, 3) := by decide +kernel
theorem dX6_step_97 : decode cX6_step 97 = .ok (.iload_n 1, 1) := by decide +kernel
theorem dX6_step_98 : decode cX6_step 98 = .ok (.if_icmp .ge 130, 3) := by decide +kernel
theorem dX6_step_101 : decode cX6_step 101 = .ok (.aload_n 0, 1) := by decide +kernel
theorem dX6_step_102 : decode cX6_step 102 = .ok (.aload_n 0, 1) := by decide +kernel
theorem dX6_step_103 : decode cX6_step 103 = .ok (.getfield 29, 3) := by decide +kernel
theorem dX6_step_106 : decode cX6_step 106 = .ok (.invokevirtual 115, 3) := by decide +kernel
theorem dX6_step_109 : decode cX6_step 109 = .ok (.ifCond .eq 119, 3) := by decide +kernel
theorem dX6_step_112 : decode cX6_step 112 = .ok (.aload_n 0, 1) := by decide +kernel
theorem dX6_step_113 : decode cX6_step 113 = .ok (.dup, 1) := by decide +kernel
theorem dX6_step_114 : decode cX6_step 114 = .ok (.getfield 29, 3) := by decide +kernel
theorem dX6_step_117 : decode cX6_step 117 = .ok (.iconst 1, 1) := by decide +kernel
theorem dX6_step_118 : decode cX6_step 118 = .ok (.iadd, 1) := by decide +kernel
theorem dX6_step_119 : decode cX6_step 119 = .ok (.putfield 29, 3) := by decide +kernel
theorem dX6_step_122 : decode cX6_step 122 = .ok (.goto (-29), 3) := by decide +kernel
theorem dX6_step_125 : decode cX6_step 125 = .ok (.aload_n 0, 1) := by decide +kernel
theorem dX6_step_126 : decode cX6_step 126 = .ok (.aload_n 0, 1) := by decide +kernel
theorem dX6_step_127 : decode cX6_step 127 = .ok (.getfield 91, 3) := by decide +kernel
theorem dX6_step_130 : decode cX6_step 130 = .ok (.invokevirtual 119, 3) := by decide +kernel
theorem dX6_step_133 : decode cX6_step 133 = .ok (.ifCond .eq 60, 3) := by decide +kernel
theorem dX6_step_136 : decode cX6_step 136 = .ok (.aload_n 0, 1) := by decide +kernel
theorem dX6_step_137 : decode cX6_step 137 = .ok (.getfield 29, 3) := by decide +kernel
theorem dX6_step_140 : decode cX6_step 140 = .ok (.iload_n 1, 1) := by decide +kernel
theorem dX6_step_141 : decode cX6_step 141 = .ok (.if_icmp .ge 27, 3) := by decide +kernel
theorem dX6_step_144 : decode cX6_step 144 = .ok (.aload_n 0, 1) := by decide +kernel
theorem dX6_step_145 : decode cX6_step 145 = .ok (.aload_n 0, 1) := by decide +kernel
theorem dX6_step_146 : decode cX6_step 146 = .ok (.getfield 29, 3) := by decide +kernel
theorem dX6_step_149 : decode cX6_step 149 = .ok (.invokevirtual 119, 3) := by decide +kernel
theorem dX6_step_152 : decode cX6_step 152 = .ok (.ifCond .eq 16, 3) := by decide +kernel
theorem dX6_step_155 : decode cX6_step 155 = .ok (.aload_n 0, 1) := by decide +kernel
theorem dX6_step_156 : decode cX6_step 156 = .ok (.dup, 1) := by decide +kernel
theorem dX6_step_157 : decode cX6_step 157 = .ok (.getfield 29, 3) := by decide +kernel
theorem dX6_step_160 : decode cX6_step 160 = .ok (.iconst 1, 1) := by decide +kernel
theorem dX6_step_161 : decode cX6_step 161 = .ok (.iadd, 1) := by decide +kernel
theorem dX6_step_162 : decode cX6_step 162 = .ok (.putfield 29, 3) := by decide +kernel
theorem dX6_step_165 : decode cX6_step 165 = .ok (.goto (-29), 3) := by decide +kernel
theorem dX6_step_168 : decode cX6_step 168 = .ok (.aload_n 0, 1) := by decide +kernel
theorem dX6_step_169 : decode cX6_step 169 = .ok (.aload_n 0, 1) := by decide +kernel
theorem dX6_step_170 : decode cX6_step 170 = .ok (.getfield 29, 3) := by decide +kernel
theorem dX6_step_173 : decode cX6_step 173 = .ok (.aload_n 0, 1) := by decide +kernel
theorem dX6_step_174 : decode cX6_step 174 = .ok (.getfield 91, 3) := by decide +kernel
theorem dX6_step_177 : decode cX6_step 177 = .ok (.isub, 1) := by decide +kernel
theorem dX6_step_178 : decode cX6_step 178 = .ok (.iconst 2, 1) := by decide +kernel
theorem dX6_step_179 : decode cX6_step 179 = .ok (.if_icmp .gt 7, 3) := by decide +kernel
theorem dX6_step_182 : decode cX6_step 182 = .ok (.iconst 2, 1) := by decide +kernel
theorem dX6_step_183 : decode cX6_step 183 = .ok (.goto 4, 3) := by decide +kernel
theorem dX6_step_186 : decode cX6_step 186 = .ok (.iconst 4, 1) := by decide +kernel
theorem dX6_step_187 : decode cX6_step 187 = .ok (.putfield 47, 3) := by decide +kernel
theorem dX6_step_190 : decode cX6_step 190 = .ok (.goto 38, 3) := by decide +kernel
theorem dX6_step_193 : decode cX6_step 193 = .ok (.aload_n 0, 1) := by decide +kernel
theorem dX6_step_194 : decode cX6_step 194 = .ok (.aload_n 0, 1) := by decide +kernel
theorem dX6_step_195 : decode cX6_step 195 = .ok (.getfield 9, 3) := by decide +kernel
theorem dX6_step_198 : decode cX6_step 198 = .ok (.aload_n 0, 1) := by decide +kernel
theorem dX6_step_199 : decode cX6_step 199 = .ok (.getfield 91, 3) := by decide +kernel
theorem dX6_step_202 : decode cX6_step 202 = .ok (.invokevirtual 112, 3) := by decide +kernel
theorem dX6_step_205 : decode cX6_step 205 = .ok (.bipush 59, 2) := by decide +kernel
theorem dX6_step_207 : decode cX6_step 207 = .ok (.if_icmp .ne 7, 3) := by decide +kernel
theorem dX6_step_210 : decode cX6_step 210 = .ok (.iconst 3, 1) := by decide +kernel
theorem dX6_step_211 : decode cX6_step 211 = .ok (.goto 4, 3) := by decide +kernel
theorem dX6_step_214 : decode cX6_step 214 = .ok (.iconst 4, 1) := by decide +kernel
theorem dX6_step_215 : decode cX6_step 215 = .ok (.putfield 47, 3) := by decide +kernel
theorem dX6_step_218 : decode cX6_step 218 = .ok (.aload_n 0, 1) := by decide +kernel
theorem dX6_step_219 : decode cX6_step 219 = .ok (.dup, 1) := by decide +kernel
theorem dX6_step_220 : decode cX6_step 220 = .ok (.getfield 29, 3) := by decide +kernel
theorem dX6_step_223 : decode cX6_step 223 = .ok (.iconst 1, 1) := by decide +kernel
theorem dX6_step_224 : decode cX6_step 224 = .ok (.iadd, 1) := by decide +kernel
theorem dX6_step_225 : decode cX6_step 225 = .ok (.putfield 29, 3) := by decide +kernel
theorem dX6_step_228 : decode cX6_step 228 = .ok (.return_, 1) := by decide +kernel
set_option maxRecDepth 20000 in
theorem ggX6_isLetter_X9_byteAt : GoodIn wsX6_isLetter wsX9_byteAt := goodIn_r _ [6, 7, 8, 22, 23] (by decide +kernel) (by decide +kernel)
set_option maxRecDepth 20000 in
theorem gX6_isLetter_X9_byteAt : GoodIn wsX6_isLetter (wsV RX6 112 RX9 yX9_byteAt wsX9_byteAt) := goodIn_app (goodIn_of _ (by decide +kernel)) ggX6_isLetter_X9_byteAt
set_option maxRecDepth 20000 in
theorem ggX6_isLetter_X10_within : GoodIn wsX6_isLetter wsX10_within := goodIn_r _ [11] (by decide +kernel) (by decide +kernel)
set_option maxRecDepth 20000 in
theorem gX6_isLetter_X10_within_n122 : GoodIn wsX6_isLetter (wsX10_within) := ggX6_isLetter_X10_within
theorem dX6_isLetter_0 : decode cX6_isLetter 0 = .ok (.aload_n 0, 1) := by decide +kernel
theorem dX6_isLetter_1 : decode cX6_isLetter 1 = .ok (.getfield 9, 3) := by decide +kernel
theorem dX6_isLetter_4 : decode cX6_isLetter 4 = .ok (.iload_n 1, 1) := by decide +kernel
theorem dX6_isLetter_5 : decode cX6_isLetter 5 = .ok (.invokevirtual 112, 3) := by decide +kernel
theorem dX6_isLetter_8 : decode cX6_isLetter 8 = .ok (.bipush 97, 2) := by decide +kernel
theorem dX6_isLetter_10 : decode cX6_isLetter 10 = .ok (.bipush 122, 2) := by decide +kernel
theorem dX6_isLetter_12 : decode cX6_isLetter 12 = .ok (.invokestatic 122, 3) := by decide +kernel
theorem dX6_isLetter_15 : decode cX6_isLetter 15 = .ok (.ireturn, 1) := by decide +kernel
set_option maxRecDepth 20000 in
theorem ggX6_isFigure_X9_byteAt : GoodIn wsX6_isFigure wsX9_byteAt := goodIn_r _ [6, 7, 8, 22, 23] (by decide +kernel) (by decide +kernel)
set_option maxRecDepth 20000 in
theorem gX6_isFigure_X9_byteAt : GoodIn wsX6_isFigure (wsV RX6 112 RX9 yX9_byteAt wsX9_byteAt) := goodIn_app (goodIn_of _ (by decide +kernel)) ggX6_isFigure_X9_byteAt
set_option maxRecDepth 20000 in
theorem ggX6_isFigure_X10_within : GoodIn wsX6_isFigure wsX10_within := goodIn_r _ [11] (by decide +kernel) (by decide +kernel)
set_option maxRecDepth 20000 in
theorem gX6_isFigure_X10_within_n122 : GoodIn wsX6_isFigure (wsX10_within) := ggX6_isFigure_X10_within
theorem dX6_isFigure_0 : decode cX6_isFigure 0 = .ok (.aload_n 0, 1) := by decide +kernel
theorem dX6_isFigure_1 : decode cX6_isFigure 1 = .ok (.getfield 9, 3) := by decide +kernel
theorem dX6_isFigure_4 : decode cX6_isFigure 4 = .ok (.iload_n 1, 1) := by decide +kernel
theorem dX6_isFigure_5 : decode cX6_isFigure 5 = .ok (.invokevirtual 112, 3) := by decide +kernel
theorem dX6_isFigure_8 : decode cX6_isFigure 8 = .ok (.bipush 48, 2) := by decide +kernel
theorem dX6_isFigure_10 : decode cX6_isFigure 10 = .ok (.bipush 57, 2) := by decide +kernel
theorem dX6_isFigure_12 : decode cX6_isFigure 12 = .ok (.invokestatic 122, 3) := by decide +kernel
theorem dX6_isFigure_15 : decode cX6_isFigure 15 = .ok (.ireturn, 1) := by decide +kernel
set_option maxRecDepth 20000 in
theorem ggX6_whatItem_X6_isWord : GoodIn wsX6_whatItem wsX6_isWord := goodIn_r _ [5, 6, 7, 8, 9, 10, 11, 12, 13, 14, 15, 16, 17, 18, 19, 20, 21, 22, 23, 24, 25, 26, 27, 28, 29, 30, 31, 32, 33, 34, 35, 36, 37, 38, 39, 40, 41, 42, 43, 44, 45, 46, 47, 48, 49, 50, 51, 52, 53, 54, 55, 56, 57, 58, 59, 60, 61, 62, 63, 64, 65, 66, 67, 68, 69, 70, 71, 72, 73, 74, 75, 76] (by decide +kernel) (by decide +kernel)
set_option maxRecDepth 20000 in
theorem gX6_whatItem_X6_isWord : GoodIn wsX6_whatItem (wsV RX6 128 RX6 yX6_isWord wsX6_isWord) := goodIn_app (goodIn_of _ (by decide +kernel)) ggX6_whatItem_X6_isWord
theorem dX6_whatItem_0 : decode cX6_whatItem 0 = .ok (.aload_n 0, 1) := by decide +kernel
theorem dX6_whatItem_1 : decode cX6_whatItem 1 = .ok (.ldc 126, 2) := by decide +kernel
theorem dX6_whatItem_3 : decode cX6_whatItem 3 = .ok (.invokevirtual 128, 3) := by decide +kernel
theorem dX6_whatItem_6 : decode cX6_whatItem 6 = .ok (.ifCond .eq 5, 3) := by decide +kernel
theorem dX6_whatItem_9 : decode cX6_whatItem 9 = .ok (.iconst 0, 1) := by decide +kernel
theorem dX6_whatItem_10 : decode cX6_whatItem 10 = .ok (.ireturn, 1) := by decide +kernel
theorem dX6_whatItem_11 : decode cX6_whatItem 11 = .ok (.aload_n 0, 1) := by decide +kernel
theorem dX6_whatItem_12 : decode cX6_whatItem 12 = .ok (.ldc 132, 2) := by decide +kernel
theorem dX6_whatItem_14 : decode cX6_whatItem 14 = .ok (.invokevirtual 128, 3) := by decide +kernel
theorem dX6_whatItem_17 : decode cX6_whatItem 17 = .ok (.ifCond .eq 5, 3) := by decide +kernel
theorem dX6_whatItem_20 : decode cX6_whatItem 20 = .ok (.iconst 1, 1) := by decide +kernel
theorem dX6_whatItem_21 : decode cX6_whatItem 21 = .ok (.ireturn, 1) := by decide +kernel
theorem dX6_whatItem_22 : decode cX6_whatItem 22 = .ok (.aload_n 0, 1) := by decide +kernel
theorem dX6_whatItem_23 : decode cX6_whatItem 23 = .ok (.ldc 134, 2) := by decide +kernel
theorem dX6_whatItem_25 : decode cX6_whatItem 25 = .ok (.invokevirtual 128, 3) := by decide +kernel
theorem dX6_whatItem_28 : decode cX6_whatItem 28 = .ok (.ifCond .eq 5, 3) := by decide +kernel
theorem dX6_whatItem_31 : decode cX6_whatItem 31 = .ok (.iconst 2, 1) := by decide +kernel
theorem dX6_whatItem_32 : decode cX6_whatItem 32 = .ok (.ireturn, 1) := by decide +kernel
theorem dX6_whatItem_33 : decode cX6_whatItem 33 = .ok (.aload_n 0, 1) := by decide +kernel
theorem dX6_whatItem_34 : decode cX6_whatItem 34 = .ok (.ldc 136, 2) := by decide +kernel
theorem dX6_whatItem_36 : decode cX6_whatItem 36 = .ok (.invokevirtual 128, 3) := by decide +kernel
theorem dX6_whatItem_39 : decode cX6_whatItem 39 = .ok (.ifCond .eq 5, 3) := by decide +kernel
theorem dX6_whatItem_42 : decode cX6_whatItem 42 = .ok (.iconst 3, 1) := by decide +kernel
theorem dX6_whatItem_43 : decode cX6_whatItem 43 = .ok (.ireturn, 1) := by decide +kernel
theorem dX6_whatItem_44 : decode cX6_whatItem 44 = .ok (.aload_n 0, 1) := by decide +kernel
theorem dX6_whatItem_45 : decode cX6_whatItem 45 = .ok (.ldc 138, 2) := by decide +kernel
theorem dX6_whatItem_47 : decode cX6_whatItem 47 = .ok (.invokevirtual 128, 3) := by decide +kernel
theorem dX6_whatItem_50 : decode cX6_whatItem 50 = .ok (.ifCond .eq 7, 3) := by decide +kernel
theorem dX6_whatItem_53 : decode cX6_whatItem 53 = .ok (.iconst 4, 1) := by decide +kernel
theorem dX6_whatItem_54 : decode cX6_whatItem 54 = .ok (.goto 4, 3) := by decide +kernel
theorem dX6_whatItem_57 : decode cX6_whatItem 57 = .ok (.iconst (-1), 1) := by decide +kernel
theorem dX6_whatItem_58 : decode cX6_whatItem 58 = .ok (.ireturn, 1) := by decide +kernel
set_option maxRecDepth 20000 in
theorem ggX6_isWord_J0_length_8abf5 : GoodIn wsX6_isWord wsJ0_length_8abf5 := goodIn_r _ [8, 9, 10, 11, 12, 7, 13, 14, 15] (by decide +kernel) (by decide +kernel)
set_option maxRecDepth 20000 in
theorem gX6_isWord_J0_length_8abf5 : GoodIn wsX6_isWord (wsV RX6 140 RJ0 yJ0_length_8abf5 wsJ0_length_8abf5) := goodIn_app (goodIn_of _ (by decide +kernel)) ggX6_isWord_J0_length_8abf5
set_option maxRecDepth 20000 in
theorem ggX6_isWord_X9_byteAt : GoodIn wsX6_isWord wsX9_byteAt := goodIn_r _ [20, 21, 22, 70, 71] (by decide +kernel) (by decide +kernel)
set_option maxRecDepth 20000 in
theorem gX6_isWord_X9_byteAt : GoodIn wsX6_isWord (wsV RX6 112 RX9 yX9_byteAt wsX9_byteAt) := goodIn_app (goodIn_of _ (by decide +kernel)) ggX6_isWord_X9_byteAt
set_option maxRecDepth 20000 in
theorem ggX6_isWord_J0_charAt_5068e : GoodIn wsX6_isWord wsJ0_charAt_5068e := goodIn_r _ [26, 9, 27, 28, 29, 7, 30, 14, 15, 31, 32, 33, 34, 35, 36, 37, 38, 39, 40, 41, 42, 43, 44, 45, 46, 47, 48, 49, 50, 51, 52, 53, 54, 55, 56, 57, 58, 59] (by decide +kernel) (by decide +kernel)
set_option maxRecDepth 20000 in
theorem gX6_isWord_J0_charAt_5068e : GoodIn wsX6_isWord (wsV RX6 145 RJ0 yJ0_charAt_5068e wsJ0_charAt_5068e) := goodIn_app (goodIn_of _ (by decide +kernel)) ggX6_isWord_J0_charAt_5068e
theorem dX6_isWord_0 : decode cX6_isWord 0 = .ok (.aload_n 0, 1) := by decide +kernel
theorem dX6_isWord_1 : decode cX6_isWord 1 = .ok (.getfield 29, 3) := by decide +kernel
theorem dX6_isWord_4 : decode cX6_isWord 4 = .ok (.aload_n 0, 1) := by decide +kernel
theorem dX6_isWord_5 : decode cX6_isWord 5 = .ok (.getfield 91, 3) := by decide +kernel
theorem dX6_isWord_8 : decode cX6_isWord 8 = .ok (.isub, 1) := by decide +kernel
theorem dX6_isWord_9 : decode cX6_isWord 9 = .ok (.aload_n 1, 1) := by decide +kernel
theorem dX6_isWord_10 : decode cX6_isWord 10 = .ok (.invokevirtual 140, 3) := by decide +kernel
theorem dX6_isWord_13 : decode cX6_isWord 13 = .ok (.if_icmp .ne 7, 3) := by decide +kernel
theorem dX6_isWord_16 : decode cX6_isWord 16 = .ok (.iconst 1, 1) := by decide +kernel
theorem dX6_isWord_17 : decode cX6_isWord 17 = .ok (.goto 4, 3) := by decide +kernel
theorem dX6_isWord_20 : decode cX6_isWord 20 = .ok (.iconst 0, 1) := by decide +kernel
theorem dX6_isWord_21 : decode cX6_isWord 21 = .ok (.istore_n 2, 1) := by decide +kernel
theorem dX6_isWord_22 : decode cX6_isWord 22 = .ok (.iconst 0, 1) := by decide +kernel
theorem dX6_isWord_23 : decode cX6_isWord 23 = .ok (.istore_n 3, 1) := by decide +kernel
theorem dX6_isWord_24 : decode cX6_isWord 24 = .ok (.iload_n 2, 1) := by decide +kernel
theorem dX6_isWord_25 : decode cX6_isWord 25 = .ok (.ifCond .eq 44, 3) := by decide +kernel
theorem dX6_isWord_28 : decode cX6_isWord 28 = .ok (.iload_n 3, 1) := by decide +kernel
theorem dX6_isWord_29 : decode cX6_isWord 29 = .ok (.aload_n 1, 1) := by decide +kernel
theorem dX6_isWord_30 : decode cX6_isWord 30 = .ok (.invokevirtual 140, 3) := by decide +kernel
theorem dX6_isWord_33 : decode cX6_isWord 33 = .ok (.if_icmp .ge 36, 3) := by decide +kernel
theorem dX6_isWord_36 : decode cX6_isWord 36 = .ok (.aload_n 0, 1) := by decide +kernel
theorem dX6_isWord_37 : decode cX6_isWord 37 = .ok (.getfield 9, 3) := by decide +kernel
theorem dX6_isWord_40 : decode cX6_isWord 40 = .ok (.aload_n 0, 1) := by decide +kernel
theorem dX6_isWord_41 : decode cX6_isWord 41 = .ok (.getfield 91, 3) := by decide +kernel
theorem dX6_isWord_44 : decode cX6_isWord 44 = .ok (.iload_n 3, 1) := by decide +kernel
theorem dX6_isWord_45 : decode cX6_isWord 45 = .ok (.iadd, 1) := by decide +kernel
theorem dX6_isWord_46 : decode cX6_isWord 46 = .ok (.invokevirtual 112, 3) := by decide +kernel
theorem dX6_isWord_49 : decode cX6_isWord 49 = .ok (.aload_n 1, 1) := by decide +kernel
theorem dX6_isWord_50 : decode cX6_isWord 50 = .ok (.iload_n 3, 1) := by decide +kernel
theorem dX6_isWord_51 : decode cX6_isWord 51 = .ok (.invokevirtual 145, 3) := by decide +kernel
theorem dX6_isWord_54 : decode cX6_isWord 54 = .ok (.if_icmp .ne 7, 3) := by decide +kernel
theorem dX6_isWord_57 : decode cX6_isWord 57 = .ok (.iconst 1, 1) := by decide +kernel
theorem dX6_isWord_58 : decode cX6_isWord 58 = .ok (.goto 4, 3) := by decide +kernel
theorem dX6_isWord_61 : decode cX6_isWord 61 = .ok (.iconst 0, 1) := by decide +kernel
theorem dX6_isWord_62 : decode cX6_isWord 62 = .ok (.istore_n 2, 1) := by decide +kernel
theorem dX6_isWord_63 : decode cX6_isWord 63 = .ok (.iinc 3 1, 3) := by decide +kernel
theorem dX6_isWord_66 : decode cX6_isWord 66 = .ok (.goto (-42), 3) := by decide +kernel
theorem dX6_isWord_69 : decode cX6_isWord 69 = .ok (.iload_n 2, 1) := by decide +kernel
theorem dX6_isWord_70 : decode cX6_isWord 70 = .ok (.ireturn, 1) := by decide +kernel
set_option maxRecDepth 20000 in
theorem ggX6_wordAsName_X9_byteAt : GoodIn wsX6_wordAsName wsX9_byteAt := goodIn_r _ [10, 11, 12, 23, 24] (by decide +kernel) (by decide +kernel)
set_option maxRecDepth 20000 in
theorem gX6_wordAsName_X9_byteAt : GoodIn wsX6_wordAsName (wsV RX6 112 RX9 yX9_byteAt wsX9_byteAt) := goodIn_app (goodIn_of _ (by decide +kernel)) ggX6_wordAsName_X9_byteAt
theorem dX6_wordAsName_0 : decode cX6_wordAsName 0 = .ok (.lconst 0, 1) := by decide +kernel
theorem dX6_wordAsName_1 : decode cX6_wordAsName 1 = .ok (.lstore_n 1, 1) := by decide +kernel
theorem dX6_wordAsName_2 : decode cX6_wordAsName 2 = .ok (.aload_n 0, 1) := by decide +kernel
theorem dX6_wordAsName_3 : decode cX6_wordAsName 3 = .ok (.getfield 91, 3) := by decide +kernel
theorem dX6_wordAsName_6 : decode cX6_wordAsName 6 = .ok (.istore_n 3, 1) := by decide +kernel
theorem dX6_wordAsName_7 : decode cX6_wordAsName 7 = .ok (.iload_n 3, 1) := by decide +kernel
theorem dX6_wordAsName_8 : decode cX6_wordAsName 8 = .ok (.aload_n 0, 1) := by decide +kernel
theorem dX6_wordAsName_9 : decode cX6_wordAsName 9 = .ok (.getfield 29, 3) := by decide +kernel
theorem dX6_wordAsName_12 : decode cX6_wordAsName 12 = .ok (.if_icmp .ge 45, 3) := by decide +kernel
theorem dX6_wordAsName_15 : decode cX6_wordAsName 15 = .ok (.aload_n 0, 1) := by decide +kernel
theorem dX6_wordAsName_16 : decode cX6_wordAsName 16 = .ok (.getfield 29, 3) := by decide +kernel
theorem dX6_wordAsName_19 : decode cX6_wordAsName 19 = .ok (.aload_n 0, 1) := by decide +kernel
theorem dX6_wordAsName_20 : decode cX6_wordAsName 20 = .ok (.getfield 91, 3) := by decide +kernel
theorem dX6_wordAsName_23 : decode cX6_wordAsName 23 = .ok (.isub, 1) := by decide +kernel
theorem dX6_wordAsName_24 : decode cX6_wordAsName 24 = .ok (.bipush 7, 2) := by decide +kernel
theorem dX6_wordAsName_26 : decode cX6_wordAsName 26 = .ok (.if_icmp .gt 31, 3) := by decide +kernel
theorem dX6_wordAsName_29 : decode cX6_wordAsName 29 = .ok (.ldc2_w 151, 3) := by decide +kernel
theorem dX6_wordAsName_32 : decode cX6_wordAsName 32 = .ok (.lload_n 1, 1) := by decide +kernel
theorem dX6_wordAsName_33 : decode cX6_wordAsName 33 = .ok (.lmul, 1) := by decide +kernel
theorem dX6_wordAsName_34 : decode cX6_wordAsName 34 = .ok (.aload_n 0, 1) := by decide +kernel
theorem dX6_wordAsName_35 : decode cX6_wordAsName 35 = .ok (.getfield 9, 3) := by decide +kernel
theorem dX6_wordAsName_38 : decode cX6_wordAsName 38 = .ok (.iload_n 3, 1) := by decide +kernel
theorem dX6_wordAsName_39 : decode cX6_wordAsName 39 = .ok (.invokevirtual 112, 3) := by decide +kernel
theorem dX6_wordAsName_42 : decode cX6_wordAsName 42 = .ok (.i2l, 1) := by decide +kernel
theorem dX6_wordAsName_43 : decode cX6_wordAsName 43 = .ok (.ladd, 1) := by decide +kernel
theorem dX6_wordAsName_44 : decode cX6_wordAsName 44 = .ok (.ldc2_w 153, 3) := by decide +kernel
theorem dX6_wordAsName_47 : decode cX6_wordAsName 47 = .ok (.lsub, 1) := by decide +kernel
theorem dX6_wordAsName_48 : decode cX6_wordAsName 48 = .ok (.lconst 1, 1) := by decide +kernel
theorem dX6_wordAsName_49 : decode cX6_wordAsName 49 = .ok (.ladd, 1) := by decide +kernel
theorem dX6_wordAsName_50 : decode cX6_wordAsName 50 = .ok (.lstore_n 1, 1) := by decide +kernel
theorem dX6_wordAsName_51 : decode cX6_wordAsName 51 = .ok (.iinc 3 1, 3) := by decide +kernel
theorem dX6_wordAsName_54 : decode cX6_wordAsName 54 = .ok (.goto (-47), 3) := by decide +kernel
theorem dX6_wordAsName_57 : decode cX6_wordAsName 57 = .ok (.lload_n 1, 1) := by decide +kernel
theorem dX6_wordAsName_58 : decode cX6_wordAsName 58 = .ok (.lreturn, 1) := by decide +kernel
set_option maxRecDepth 20000 in
theorem ggX6_tokenAsNumber_X9_byteAt : GoodIn wsX6_tokenAsNumber wsX9_byteAt := goodIn_r _ [9, 10, 11, 22, 23] (by decide +kernel) (by decide +kernel)
set_option maxRecDepth 20000 in
theorem gX6_tokenAsNumber_X9_byteAt : GoodIn wsX6_tokenAsNumber (wsV RX6 112 RX9 yX9_byteAt wsX9_byteAt) := goodIn_app (goodIn_of _ (by decide +kernel)) ggX6_tokenAsNumber_X9_byteAt
theorem dX6_tokenAsNumber_0 : decode cX6_tokenAsNumber 0 = .ok (.iconst 0, 1) := by decide +kernel
theorem dX6_tokenAsNumber_1 : decode cX6_tokenAsNumber 1 = .ok (.istore_n 1, 1) := by decide +kernel
theorem dX6_tokenAsNumber_2 : decode cX6_tokenAsNumber 2 = .ok (.aload_n 0, 1) := by decide +kernel
theorem dX6_tokenAsNumber_3 : decode cX6_tokenAsNumber 3 = .ok (.getfield 91, 3) := by decide +kernel
theorem dX6_tokenAsNumber_6 : decode cX6_tokenAsNumber 6 = .ok (.istore_n 2, 1) := by decide +kernel
theorem dX6_tokenAsNumber_7 : decode cX6_tokenAsNumber 7 = .ok (.iload_n 2, 1) := by decide +kernel
theorem dX6_tokenAsNumber_8 : decode cX6_tokenAsNumber 8 = .ok (.aload_n 0, 1) := by decide +kernel
theorem dX6_tokenAsNumber_9 : decode cX6_tokenAsNumber 9 = .ok (.getfield 29, 3) := by decide +kernel
theorem dX6_tokenAsNumber_12 : decode cX6_tokenAsNumber 12 = .ok (.if_icmp .ge 34, 3) := by decide +kernel
theorem dX6_tokenAsNumber_15 : decode cX6_tokenAsNumber 15 = .ok (.aload_n 0, 1) := by decide +kernel
theorem dX6_tokenAsNumber_16 : decode cX6_tokenAsNumber 16 = .ok (.getfield 47, 3) := by decide +kernel
theorem dX6_tokenAsNumber_19 : decode cX6_tokenAsNumber 19 = .ok (.iconst 2, 1) := by decide +kernel
theorem dX6_tokenAsNumber_20 : decode cX6_tokenAsNumber 20 = .ok (.if_icmp .ne 26, 3) := by decide +kernel
theorem dX6_tokenAsNumber_23 : decode cX6_tokenAsNumber 23 = .ok (.bipush 10, 2) := by decide +kernel
theorem dX6_tokenAsNumber_25 : decode cX6_tokenAsNumber 25 = .ok (.iload_n 1, 1) := by decide +kernel
theorem dX6_tokenAsNumber_26 : decode cX6_tokenAsNumber 26 = .ok (.imul, 1) := by decide +kernel
theorem dX6_tokenAsNumber_27 : decode cX6_tokenAsNumber 27 = .ok (.aload_n 0, 1) := by decide +kernel
theorem dX6_tokenAsNumber_28 : decode cX6_tokenAsNumber 28 = .ok (.getfield 9, 3) := by decide +kernel
theorem dX6_tokenAsNumber_31 : decode cX6_tokenAsNumber 31 = .ok (.iload_n 2, 1) := by decide +kernel
theorem dX6_tokenAsNumber_32 : decode cX6_tokenAsNumber 32 = .ok (.invokevirtual 112, 3) := by decide +kernel
theorem dX6_tokenAsNumber_35 : decode cX6_tokenAsNumber 35 = .ok (.iadd, 1) := by decide +kernel
theorem dX6_tokenAsNumber_36 : decode cX6_tokenAsNumber 36 = .ok (.bipush 48, 2) := by decide +kernel
theorem dX6_tokenAsNumber_38 : decode cX6_tokenAsNumber 38 = .ok (.isub, 1) := by decide +kernel
theorem dX6_tokenAsNumber_39 : decode cX6_tokenAsNumber 39 = .ok (.istore_n 1, 1) := by decide +kernel
theorem dX6_tokenAsNumber_40 : decode cX6_tokenAsNumber 40 = .ok (.iinc 2 1, 3) := by decide +kernel
theorem dX6_tokenAsNumber_43 : decode cX6_tokenAsNumber 43 = .ok (.goto (-36), 3) := by decide +kernel
theorem dX6_tokenAsNumber_46 : decode cX6_tokenAsNumber 46 = .ok (.iload_n 1, 1) := by decide +kernel
theorem dX6_tokenAsNumber_47 : decode cX6_tokenAsNumber 47 = .ok (.ireturn, 1) := by decide +kernel
set_option maxRecDepth 20000 in
theorem ggX7_init_X7_hasDigit : GoodIn wsX7_init wsX7_hasDigit := goodIn_r _ [9] (by decide +kernel) (by decide +kernel)
set_option maxRecDepth 20000 in
theorem gX7_init_X7_hasDigit : GoodIn wsX7_init (va_wsS RX7 13 yX7_hasDigit wsX7_hasDigit) := goodIn_app (goodIn_of _ (by decide +kernel)) ggX7_init_X7_hasDigit
theorem dX7_init_0 : decode cX7_init 0 = .ok (.aload_n 0, 1) := by decide +kernel
theorem dX7_init_1 : decode cX7_init 1 = .ok (.invokespecial 1, 3) := by decide +kernel
theorem dX7_init_4 : decode cX7_init 4 = .ok (.aload_n 0, 1) := by decide +kernel
theorem dX7_init_5 : decode cX7_init 5 = .ok (.sipush 326, 3) := by decide +kernel
theorem dX7_init_8 : decode cX7_init 8 = .ok (.newarray .int, 2) := by decide +kernel
theorem dX7_init_10 : decode cX7_init 10 = .ok (.putfield 9, 3) := by decide +kernel
theorem dX7_init_13 : decode cX7_init 13 = .ok (.iconst 1, 1) := by decide +kernel
theorem dX7_init_14 : decode cX7_init 14 = .ok (.istore_n 1, 1) := by decide +kernel
theorem dX7_init_15 : decode cX7_init 15 = .ok (.iconst 0, 1) := by decide +kernel
theorem dX7_init_16 : decode cX7_init 16 = .ok (.istore_n 2, 1) := by decide +kernel
theorem dX7_init_17 : decode cX7_init 17 = .ok (.iload_n 2, 1) := by decide +kernel
theorem dX7_init_18 : decode cX7_init 18 = .ok (.aload_n 0, 1) := by decide +kernel
theorem dX7_init_19 : decode cX7_init 19 = .ok (.getfield 9, 3) := by decide +kernel
theorem dX7_init_22 : decode cX7_init 22 = .ok (.arraylength, 1) := by decide +kernel
theorem dX7_init_23 : decode cX7_init 23 = .ok (.if_icmp .ge 64, 3) := by decide +kernel
theorem dX7_init_26 : decode cX7_init 26 = .ok (.iconst 1, 1) := by decide +kernel
theorem dX7_init_27 : decode cX7_init 27 = .ok (.istore_n 3, 1) := by decide +kernel
theorem dX7_init_28 : decode cX7_init 28 = .ok (.iload_n 3, 1) := by decide +kernel
theorem dX7_init_29 : decode cX7_init 29 = .ok (.iconst 5, 1) := by decide +kernel
theorem dX7_init_30 : decode cX7_init 30 = .ok (.if_icmp .gt 51, 3) := by decide +kernel
theorem dX7_init_33 : decode cX7_init 33 = .ok (.iload_n 1, 1) := by decide +kernel
theorem dX7_init_34 : decode cX7_init 34 = .ok (.aload_n 0, 1) := by decide +kernel
theorem dX7_init_35 : decode cX7_init 35 = .ok (.getfield 9, 3) := by decide +kernel
theorem dX7_init_38 : decode cX7_init 38 = .ok (.arraylength, 1) := by decide +kernel
theorem dX7_init_39 : decode cX7_init 39 = .ok (.if_icmp .ge 36, 3) := by decide +kernel
theorem dX7_init_42 : decode cX7_init 42 = .ok (.aload_n 0, 1) := by decide +kernel
theorem dX7_init_43 : decode cX7_init 43 = .ok (.getfield 9, 3) := by decide +kernel
theorem dX7_init_46 : decode cX7_init 46 = .ok (.iload_n 2, 1) := by decide +kernel
theorem dX7_init_47 : decode cX7_init 47 = .ok (.iaload, 1) := by decide +kernel
theorem dX7_init_48 : decode cX7_init 48 = .ok (.iload_n 3, 1) := by decide +kernel
theorem dX7_init_49 : decode cX7_init 49 = .ok (.invokestatic 13, 3) := by decide +kernel
theorem dX7_init_52 : decode cX7_init 52 = .ok (.ifCond .ne 23, 3) := by decide +kernel
theorem dX7_init_55 : decode cX7_init 55 = .ok (.aload_n 0, 1) := by decide +kernel
theorem dX7_init_56 : decode cX7_init 56 = .ok (.getfield 9, 3) := by decide +kernel
theorem dX7_init_59 : decode cX7_init 59 = .ok (.iload_n 1, 1) := by decide +kernel
theorem dX7_init_60 : decode cX7_init 60 = .ok (.aload_n 0, 1) := by decide +kernel
theorem dX7_init_61 : decode cX7_init 61 = .ok (.getfield 9, 3) := by decide +kernel
theorem dX7_init_64 : decode cX7_init 64 = .ok (.iload_n 2, 1) := by decide +kernel
theorem dX7_init_65 : decode cX7_init 65 = .ok (.iaload, 1) := by decide +kernel
theorem dX7_init_66 : decode cX7_init 66 = .ok (.bipush 10, 2) := by decide +kernel
theorem dX7_init_68 : decode cX7_init 68 = .ok (.imul, 1) := by decide +kernel
theorem dX7_init_69 : decode cX7_init 69 = .ok (.iload_n 3, 1) := by decide +kernel
theorem dX7_init_70 : decode cX7_init 70 = .ok (.iadd, 1) := by decide +kernel
theorem dX7_init_71 : decode cX7_init 71 = .ok (.iastore, 1) := by decide +kernel
theorem dX7_init_72 : decode cX7_init 72 = .ok (.iinc 1 1, 3) := by decide +kernel
theorem dX7_init_75 : decode cX7_init 75 = .ok (.iinc 3 1, 3) := by decide +kernel
theorem dX7_init_78 : decode cX7_init 78 = .ok (.goto (-50), 3) := by decide +kernel
theorem dX7_init_81 : decode cX7_init 81 = .ok (.iinc 2 1, 3) := by decide +kernel
theorem dX7_init_84 : decode cX7_init 84 = .ok (.goto (-67), 3) := by decide +kernel
theorem dX7_init_87 : decode cX7_init 87 = .ok (.return_, 1) := by decide +kernel
theorem dX7_hasDigit_0 : decode cX7_hasDigit 0 = .ok (.iconst 0, 1) := by decide +kernel
theorem dX7_hasDigit_1 : decode cX7_hasDigit 1 = .ok (.istore_n 2, 1) := by decide +kernel
theorem dX7_hasDigit_2 : decode cX7_hasDigit 2 = .ok (.sipush 10000, 3) := by decide +kernel
theorem dX7_hasDigit_5 : decode cX7_hasDigit 5 = .ok (.istore_n 3, 1) := by decide +kernel
theorem dX7_hasDigit_6 : decode cX7_hasDigit 6 = .ok (.iload_n 3, 1) := by decide +kernel
theorem dX7_hasDigit_7 : decode cX7_hasDigit 7 = .ok (.ifCond .le 31, 3) := by decide +kernel
theorem dX7_hasDigit_10 : decode cX7_hasDigit 10 = .ok (.iload_n 2, 1) := by decide +kernel
theorem dX7_hasDigit_11 : decode cX7_hasDigit 11 = .ok (.ifCond .ne 13, 3) := by decide +kernel
theorem dX7_hasDigit_14 : decode cX7_hasDigit 14 = .ok (.iload_n 0, 1) := by decide +kernel
theorem dX7_hasDigit_15 : decode cX7_hasDigit 15 = .ok (.iload_n 3, 1) := by decide +kernel
theorem dX7_hasDigit_16 : decode cX7_hasDigit 16 = .ok (.idiv, 1) := by decide +kernel
theorem dX7_hasDigit_17 : decode cX7_hasDigit 17 = .ok (.bipush 10, 2) := by decide +kernel
theorem dX7_hasDigit_19 : decode cX7_hasDigit 19 = .ok (.irem, 1) := by decide +kernel
theorem dX7_hasDigit_20 : decode cX7_hasDigit 20 = .ok (.iload_n 1, 1) := by decide +kernel
theorem dX7_hasDigit_21 : decode cX7_hasDigit 21 = .ok (.if_icmp .ne 7, 3) := by decide +kernel
theorem dX7_hasDigit_24 : decode cX7_hasDigit 24 = .ok (.iconst 1, 1) := by decide +kernel
theorem dX7_hasDigit_25 : decode cX7_hasDigit 25 = .ok (.goto 4, 3) := by decide +kernel
theorem dX7_hasDigit_28 : decode cX7_hasDigit 28 = .ok (.iconst 0, 1) := by decide +kernel
theorem dX7_hasDigit_29 : decode cX7_hasDigit 29 = .ok (.istore_n 2, 1) := by decide +kernel
theorem dX7_hasDigit_30 : decode cX7_hasDigit 30 = .ok (.iload_n 3, 1) := by decide +kernel
theorem dX7_hasDigit_31 : decode cX7_hasDigit 31 = .ok (.bipush 10, 2) := by decide +kernel
theorem dX7_hasDigit_33 : decode cX7_hasDigit 33 = .ok (.idiv, 1) := by decide +kernel
theorem dX7_hasDigit_34 : decode cX7_hasDigit 34 = .ok (.istore_n 3, 1) := by decide +kernel
theorem dX7_hasDigit_35 : decode cX7_hasDigit 35 = .ok (.goto (-29), 3) := by decide +kernel
theorem dX7_hasDigit_38 : decode cX7_hasDigit 38 = .ok (.iload_n 2, 1) := by decide +kernel
theorem dX7_hasDigit_39 : decode cX7_hasDigit 39 = .ok (.ireturn, 1) := by decide +kernel
theorem dX7_seconds_0 : decode cX7_seconds 0 = .ok (.aload_n 0, 1) := by decide +kernel
theorem dX7_seconds_1 : decode cX7_seconds 1 = .ok (.getfield 17, 3) := by decide +kernel
theorem dX7_seconds_4 : decode cX7_seconds 4 = .ok (.ireturn, 1) := by decide +kernel
theorem dX7_brings_0 : decode cX7_brings 0 = .ok (.ldc2_w 21, 3) := by decide +kernel
theorem dX7_brings_3 : decode cX7_brings 3 = .ok (.aload_n 0, 1) := by decide +kernel
theorem dX7_brings_4 : decode cX7_brings 4 = .ok (.getfield 23, 3) := by decide +kernel
theorem dX7_brings_7 : decode cX7_brings 7 = .ok (.lsub, 1) := by decide +kernel
theorem dX7_brings_8 : decode cX7_brings 8 = .ok (.lreturn, 1) := by decide +kernel
set_option maxRecDepth 20000 in
theorem ggX7_go_X1_strengthLeft : GoodIn wsX7_go wsX1_strengthLeft := goodIn_r _ [14, 15, 16, 17, 18, 19, 20, 21, 22, 23, 13, 24, 25, 26, 27, 28, 29, 30, 31, 32, 64, 65, 66, 67, 68, 69, 70, 71, 72, 73] (by decide +kernel) (by decide +kernel)
set_option maxRecDepth 20000 in
theorem gX7_go_X1_strengthLeft : GoodIn wsX7_go (wsV RX7 27 RX1 yX1_strengthLeft wsX1_strengthLeft) := goodIn_app (goodIn_of _ (by decide +kernel)) ggX7_go_X1_strengthLeft
set_option maxRecDepth 20000 in
theorem ggX7_go_X8_holds : GoodIn wsX7_go wsX8_holds := goodIn_r _ [36, 37, 70, 71, 72, 73] (by decide +kernel) (by decide +kernel)
set_option maxRecDepth 20000 in
theorem gX7_go_X8_holds : GoodIn wsX7_go (wsV RX7 51 RX8 yX8_holds wsX8_holds) := goodIn_app (goodIn_of _ (by decide +kernel)) ggX7_go_X8_holds
set_option maxRecDepth 20000 in
theorem ggX7_go_X10_isIn : GoodIn wsX7_go wsX10_isIn := goodIn_r _ [40] (by decide +kernel) (by decide +kernel)
set_option maxRecDepth 20000 in
theorem gX7_go_X10_isIn_n57 : GoodIn wsX7_go (wsX10_isIn) := ggX7_go_X10_isIn
set_option maxRecDepth 20000 in
theorem ggX7_go_X7_take : GoodIn wsX7_go wsX7_take := goodIn_r _ [45, 9, 4, 5, 2, 7, 46, 3, 47, 27, 28, 29, 30, 31, 32, 48, 22, 23, 13, 24, 25, 26, 49, 50, 51, 44, 52, 53, 54, 19, 55, 1, 56, 64, 65, 66, 67, 68, 69, 57, 58, 59, 60, 61, 62, 63, 70, 71, 72, 73] (by decide +kernel) (by decide +kernel)
set_option maxRecDepth 20000 in
theorem gX7_go_X7_take : GoodIn wsX7_go (wsV RX7 62 RX7 yX7_take wsX7_take) := goodIn_app (goodIn_of _ (by decide +kernel)) ggX7_go_X7_take
theorem dX7_go_0 : decode cX7_go 0 = .ok (.aload_n 0, 1) := by decide +kernel
theorem dX7_go_1 : decode cX7_go 1 = .ok (.aload_n 1, 1) := by decide +kernel
theorem dX7_go_2 : decode cX7_go 2 = .ok (.iload_n 2, 1) := by decide +kernel
theorem dX7_go_3 : decode cX7_go 3 = .ok (.iconst 0, 1) := by decide +kernel
theorem dX7_go_4 : decode cX7_go 4 = .ok (.invokevirtual 27, 3) := by decide +kernel
theorem dX7_go_7 : decode cX7_go 7 = .ok (.putfield 33, 3) := by decide +kernel
theorem dX7_go_10 : decode cX7_go 10 = .ok (.aload_n 0, 1) := by decide +kernel
theorem dX7_go_11 : decode cX7_go 11 = .ok (.iconst 0, 1) := by decide +kernel
theorem dX7_go_12 : decode cX7_go 12 = .ok (.putfield 17, 3) := by decide +kernel
theorem dX7_go_15 : decode cX7_go 15 = .ok (.aload_n 0, 1) := by decide +kernel
theorem dX7_go_16 : decode cX7_go 16 = .ok (.iconst 0, 1) := by decide +kernel
theorem dX7_go_17 : decode cX7_go 17 = .ok (.putfield 36, 3) := by decide +kernel
theorem dX7_go_20 : decode cX7_go 20 = .ok (.aload_n 0, 1) := by decide +kernel
theorem dX7_go_21 : decode cX7_go 21 = .ok (.iconst 0, 1) := by decide +kernel
theorem dX7_go_22 : decode cX7_go 22 = .ok (.putfield 39, 3) := by decide +kernel
theorem dX7_go_25 : decode cX7_go 25 = .ok (.aload_n 0, 1) := by decide +kernel
theorem dX7_go_26 : decode cX7_go 26 = .ok (.iconst 0, 1) := by decide +kernel
theorem dX7_go_27 : decode cX7_go 27 = .ok (.putfield 43, 3) := by decide +kernel
theorem dX7_go_30 : decode cX7_go 30 = .ok (.aload_n 0, 1) := by decide +kernel
theorem dX7_go_31 : decode cX7_go 31 = .ok (.ldc2_w 21, 3) := by decide +kernel
theorem dX7_go_34 : decode cX7_go 34 = .ok (.putfield 23, 3) := by decide +kernel
theorem dX7_go_37 : decode cX7_go 37 = .ok (.iconst 0, 1) := by decide +kernel
theorem dX7_go_38 : decode cX7_go 38 = .ok (.istore 4, 2) := by decide +kernel
theorem dX7_go_40 : decode cX7_go 40 = .ok (.iload_n 3, 1) := by decide +kernel
theorem dX7_go_41 : decode cX7_go 41 = .ok (.ifCond .lt 13, 3) := by decide +kernel
theorem dX7_go_44 : decode cX7_go 44 = .ok (.iload_n 3, 1) := by decide +kernel
theorem dX7_go_45 : decode cX7_go 45 = .ok (.ldc 46, 2) := by decide +kernel
theorem dX7_go_47 : decode cX7_go 47 = .ok (.if_icmp .gt 7, 3) := by decide +kernel
theorem dX7_go_50 : decode cX7_go 50 = .ok (.iconst 1, 1) := by decide +kernel
theorem dX7_go_51 : decode cX7_go 51 = .ok (.goto 4, 3) := by decide +kernel
theorem dX7_go_54 : decode cX7_go 54 = .ok (.iconst 0, 1) := by decide +kernel
theorem dX7_go_55 : decode cX7_go 55 = .ok (.istore 5, 2) := by decide +kernel
theorem dX7_go_57 : decode cX7_go 57 = .ok (.sipush 10000, 3) := by decide +kernel
theorem dX7_go_60 : decode cX7_go 60 = .ok (.istore 6, 2) := by decide +kernel
theorem dX7_go_62 : decode cX7_go 62 = .ok (.iload 5, 2) := by decide +kernel
theorem dX7_go_64 : decode cX7_go 64 = .ok (.ifCond .eq 86, 3) := by decide +kernel
theorem dX7_go_67 : decode cX7_go 67 = .ok (.iload 6, 2) := by decide +kernel
theorem dX7_go_69 : decode cX7_go 69 = .ok (.ifCond .le 81, 3) := by decide +kernel
theorem dX7_go_72 : decode cX7_go 72 = .ok (.iload_n 3, 1) := by decide +kernel
theorem dX7_go_73 : decode cX7_go 73 = .ok (.iload 6, 2) := by decide +kernel
theorem dX7_go_75 : decode cX7_go 75 = .ok (.if_icmp .lt 65, 3) := by decide +kernel
theorem dX7_go_78 : decode cX7_go 78 = .ok (.iload_n 3, 1) := by decide +kernel
theorem dX7_go_79 : decode cX7_go 79 = .ok (.iload 6, 2) := by decide +kernel
theorem dX7_go_81 : decode cX7_go 81 = .ok (.idiv, 1) := by decide +kernel
theorem dX7_go_82 : decode cX7_go 82 = .ok (.bipush 10, 2) := by decide +kernel
theorem dX7_go_84 : decode cX7_go 84 = .ok (.irem, 1) := by decide +kernel
theorem dX7_go_85 : decode cX7_go 85 = .ok (.iconst 1, 1) := by decide +kernel
theorem dX7_go_86 : decode cX7_go 86 = .ok (.isub, 1) := by decide +kernel
theorem dX7_go_87 : decode cX7_go 87 = .ok (.istore 7, 2) := by decide +kernel
theorem dX7_go_89 : decode cX7_go 89 = .ok (.aload_n 1, 1) := by decide +kernel
theorem dX7_go_90 : decode cX7_go 90 = .ok (.getfield 47, 3) := by decide +kernel
theorem dX7_go_93 : decode cX7_go 93 = .ok (.iload 7, 2) := by decide +kernel
theorem dX7_go_95 : decode cX7_go 95 = .ok (.invokevirtual 51, 3) := by decide +kernel
theorem dX7_go_98 : decode cX7_go 98 = .ok (.ifCond .eq 17, 3) := by decide +kernel
theorem dX7_go_101 : decode cX7_go 101 = .ok (.iload 4, 2) := by decide +kernel
theorem dX7_go_103 : decode cX7_go 103 = .ok (.iload 7, 2) := by decide +kernel
theorem dX7_go_105 : decode cX7_go 105 = .ok (.invokestatic 57, 3) := by decide +kernel
theorem dX7_go_108 : decode cX7_go 108 = .ok (.ifCond .ne 7, 3) := by decide +kernel
theorem dX7_go_111 : decode cX7_go 111 = .ok (.iconst 1, 1) := by decide +kernel
theorem dX7_go_112 : decode cX7_go 112 = .ok (.goto 4, 3) := by decide +kernel
theorem dX7_go_115 : decode cX7_go 115 = .ok (.iconst 0, 1) := by decide +kernel
theorem dX7_go_116 : decode cX7_go 116 = .ok (.istore 5, 2) := by decide +kernel
theorem dX7_go_118 : decode cX7_go 118 = .ok (.iload 5, 2) := by decide +kernel
theorem dX7_go_120 : decode cX7_go 120 = .ok (.ifCond .eq 20, 3) := by decide +kernel
theorem dX7_go_123 : decode cX7_go 123 = .ok (.iload 4, 2) := by decide +kernel
theorem dX7_go_125 : decode cX7_go 125 = .ok (.iconst 1, 1) := by decide +kernel
theorem dX7_go_126 : decode cX7_go 126 = .ok (.iload 7, 2) := by decide +kernel
theorem dX7_go_128 : decode cX7_go 128 = .ok (.ishl, 1) := by decide +kernel
theorem dX7_go_129 : decode cX7_go 129 = .ok (.ior, 1) := by decide +kernel
theorem dX7_go_130 : decode cX7_go 130 = .ok (.istore 4, 2) := by decide +kernel
theorem dX7_go_132 : decode cX7_go 132 = .ok (.aload_n 0, 1) := by decide +kernel
theorem dX7_go_133 : decode cX7_go 133 = .ok (.aload_n 1, 1) := by decide +kernel
theorem dX7_go_134 : decode cX7_go 134 = .ok (.iload_n 2, 1) := by decide +kernel
theorem dX7_go_135 : decode cX7_go 135 = .ok (.iload 7, 2) := by decide +kernel
theorem dX7_go_137 : decode cX7_go 137 = .ok (.invokevirtual 62, 3) := by decide +kernel
theorem dX7_go_140 : decode cX7_go 140 = .ok (.iload 6, 2) := by decide +kernel
theorem dX7_go_142 : decode cX7_go 142 = .ok (.bipush 10, 2) := by decide +kernel
theorem dX7_go_144 : decode cX7_go 144 = .ok (.idiv, 1) := by decide +kernel
theorem dX7_go_145 : decode cX7_go 145 = .ok (.istore 6, 2) := by decide +kernel
theorem dX7_go_147 : decode cX7_go 147 = .ok (.goto (-85), 3) := by decide +kernel
theorem dX7_go_150 : decode cX7_go 150 = .ok (.iload 5, 2) := by decide +kernel
theorem dX7_go_152 : decode cX7_go 152 = .ok (.ireturn, 1) := by decide +kernel
set_option maxRecDepth 20000 in
theorem ggX7_take_X8_number : GoodIn wsX7_take wsX8_number := goodIn_r _ [12, 13, 14, 46, 47, 48, 49] (by decide +kernel) (by decide +kernel)
set_option maxRecDepth 20000 in
theorem gX7_take_X8_number : GoodIn wsX7_take (wsV RX7 66 RX8 yX8_number wsX8_number) := goodIn_app (goodIn_of _ (by decide +kernel)) ggX7_take_X8_number
set_option maxRecDepth 20000 in
theorem ggX7_take_X1_setting : GoodIn wsX7_take wsX1_setting := goodIn_r _ [19, 20, 21, 9, 10, 11, 12, 13, 14, 33, 34, 35, 36, 37, 38, 46, 47, 48, 49] (by decide +kernel) (by decide +kernel)
set_option maxRecDepth 20000 in
theorem gX7_take_X1_setting : GoodIn wsX7_take (wsV RX7 69 RX1 yX1_setting wsX1_setting) := goodIn_app (goodIn_of _ (by decide +kernel)) ggX7_take_X1_setting
set_option maxRecDepth 20000 in
theorem ggX7_take_X7_chance : GoodIn wsX7_take wsX7_chance := goodIn_r _ [26, 1, 7, 27, 28, 29, 30, 31, 32, 8, 9, 10, 11, 12, 13, 14, 15, 16, 17, 18, 19, 20, 21, 33, 34, 35, 36, 37, 38, 39, 40, 41, 42, 43, 44, 45, 46, 47, 48, 49] (by decide +kernel) (by decide +kernel)
set_option maxRecDepth 20000 in
theorem gX7_take_X7_chance : GoodIn wsX7_take (wsV RX7 75 RX7 yX7_chance wsX7_chance) := goodIn_app (goodIn_of _ (by decide +kernel)) ggX7_take_X7_chance
theorem dX7_take_0 : decode cX7_take 0 = .ok (.aload_n 1, 1) := by decide +kernel
theorem dX7_take_1 : decode cX7_take 1 = .ok (.getfield 47, 3) := by decide +kernel
theorem dX7_take_4 : decode cX7_take 4 = .ok (.iload_n 3, 1) := by decide +kernel
theorem dX7_take_5 : decode cX7_take 5 = .ok (.iconst 0, 1) := by decide +kernel
theorem dX7_take_6 : decode cX7_take 6 = .ok (.invokevirtual 66, 3) := by decide +kernel
theorem dX7_take_9 : decode cX7_take 9 = .ok (.istore 4, 2) := by decide +kernel
theorem dX7_take_11 : decode cX7_take 11 = .ok (.aload_n 0, 1) := by decide +kernel
theorem dX7_take_12 : decode cX7_take 12 = .ok (.aload_n 0, 1) := by decide +kernel
theorem dX7_take_13 : decode cX7_take 13 = .ok (.getfield 39, 3) := by decide +kernel
theorem dX7_take_16 : decode cX7_take 16 = .ok (.ifCond .ne 9, 3) := by decide +kernel
theorem dX7_take_19 : decode cX7_take 19 = .ok (.iload 4, 2) := by decide +kernel
theorem dX7_take_21 : decode cX7_take 21 = .ok (.iconst 3, 1) := by decide +kernel
theorem dX7_take_22 : decode cX7_take 22 = .ok (.if_icmp .ne 7, 3) := by decide +kernel
theorem dX7_take_25 : decode cX7_take 25 = .ok (.iconst 1, 1) := by decide +kernel
theorem dX7_take_26 : decode cX7_take 26 = .ok (.goto 4, 3) := by decide +kernel
theorem dX7_take_29 : decode cX7_take 29 = .ok (.iconst 0, 1) := by decide +kernel
theorem dX7_take_30 : decode cX7_take 30 = .ok (.putfield 39, 3) := by decide +kernel
theorem dX7_take_33 : decode cX7_take 33 = .ok (.aload_n 0, 1) := by decide +kernel
theorem dX7_take_34 : decode cX7_take 34 = .ok (.aload_n 0, 1) := by decide +kernel
theorem dX7_take_35 : decode cX7_take 35 = .ok (.getfield 43, 3) := by decide +kernel
theorem dX7_take_38 : decode cX7_take 38 = .ok (.ifCond .ne 9, 3) := by decide +kernel
theorem dX7_take_41 : decode cX7_take 41 = .ok (.iload 4, 2) := by decide +kernel
theorem dX7_take_43 : decode cX7_take 43 = .ok (.iconst 5, 1) := by decide +kernel
theorem dX7_take_44 : decode cX7_take 44 = .ok (.if_icmp .ne 7, 3) := by decide +kernel
theorem dX7_take_47 : decode cX7_take 47 = .ok (.iconst 1, 1) := by decide +kernel
theorem dX7_take_48 : decode cX7_take 48 = .ok (.goto 4, 3) := by decide +kernel
theorem dX7_take_51 : decode cX7_take 51 = .ok (.iconst 0, 1) := by decide +kernel
theorem dX7_take_52 : decode cX7_take 52 = .ok (.putfield 43, 3) := by decide +kernel
theorem dX7_take_55 : decode cX7_take 55 = .ok (.iload 4, 2) := by decide +kernel
theorem dX7_take_57 : decode cX7_take 57 = .ok (.iconst 2, 1) := by decide +kernel
theorem dX7_take_58 : decode cX7_take 58 = .ok (.if_icmp .gt 14, 3) := by decide +kernel
theorem dX7_take_61 : decode cX7_take 61 = .ok (.aload_n 0, 1) := by decide +kernel
theorem dX7_take_62 : decode cX7_take 62 = .ok (.getfield 39, 3) := by decide +kernel
theorem dX7_take_65 : decode cX7_take 65 = .ok (.ifCond .ne 7, 3) := by decide +kernel
theorem dX7_take_68 : decode cX7_take 68 = .ok (.iconst 1, 1) := by decide +kernel
theorem dX7_take_69 : decode cX7_take 69 = .ok (.goto 4, 3) := by decide +kernel
theorem dX7_take_72 : decode cX7_take 72 = .ok (.iconst 0, 1) := by decide +kernel
theorem dX7_take_73 : decode cX7_take 73 = .ok (.istore 5, 2) := by decide +kernel
theorem dX7_take_75 : decode cX7_take 75 = .ok (.iload 5, 2) := by decide +kernel
theorem dX7_take_77 : decode cX7_take 77 = .ok (.ifCond .eq 15, 3) := by decide +kernel
theorem dX7_take_80 : decode cX7_take 80 = .ok (.aload_n 0, 1) := by decide +kernel
theorem dX7_take_81 : decode cX7_take 81 = .ok (.getfield 17, 3) := by decide +kernel
theorem dX7_take_84 : decode cX7_take 84 = .ok (.aload_n 1, 1) := by decide +kernel
theorem dX7_take_85 : decode cX7_take 85 = .ok (.iconst 2, 1) := by decide +kernel
theorem dX7_take_86 : decode cX7_take 86 = .ok (.invokevirtual 69, 3) := by decide +kernel
theorem dX7_take_89 : decode cX7_take 89 = .ok (.if_icmp .lt 30, 3) := by decide +kernel
theorem dX7_take_92 : decode cX7_take 92 = .ok (.aload_n 0, 1) := by decide +kernel
theorem dX7_take_93 : decode cX7_take 93 = .ok (.aload_n 0, 1) := by decide +kernel
theorem dX7_take_94 : decode cX7_take 94 = .ok (.getfield 23, 3) := by decide +kernel
theorem dX7_take_97 : decode cX7_take 97 = .ok (.ldc2_w 73, 3) := by decide +kernel
theorem dX7_take_100 : decode cX7_take 100 = .ok (.ldiv, 1) := by decide +kernel
theorem dX7_take_101 : decode cX7_take 101 = .ok (.sipush 400, 3) := by decide +kernel
theorem dX7_take_104 : decode cX7_take 104 = .ok (.aload_n 0, 1) := by decide +kernel
theorem dX7_take_105 : decode cX7_take 105 = .ok (.aload_n 1, 1) := by decide +kernel
theorem dX7_take_106 : decode cX7_take 106 = .ok (.iload_n 2, 1) := by decide +kernel
theorem dX7_take_107 : decode cX7_take 107 = .ok (.iload_n 3, 1) := by decide +kernel
theorem dX7_take_108 : decode cX7_take 108 = .ok (.iload 4, 2) := by decide +kernel
theorem dX7_take_110 : decode cX7_take 110 = .ok (.invokevirtual 75, 3) := by decide +kernel
theorem dX7_take_113 : decode cX7_take 113 = .ok (.isub, 1) := by decide +kernel
theorem dX7_take_114 : decode cX7_take 114 = .ok (.i2l, 1) := by decide +kernel
theorem dX7_take_115 : decode cX7_take 115 = .ok (.lmul, 1) := by decide +kernel
theorem dX7_take_116 : decode cX7_take 116 = .ok (.putfield 23, 3) := by decide +kernel
theorem dX7_take_119 : decode cX7_take 119 = .ok (.aload_n 0, 1) := by decide +kernel
theorem dX7_take_120 : decode cX7_take 120 = .ok (.dup, 1) := by decide +kernel
theorem dX7_take_121 : decode cX7_take 121 = .ok (.getfield 17, 3) := by decide +kernel
theorem dX7_take_124 : decode cX7_take 124 = .ok (.aload_n 1, 1) := by decide +kernel
theorem dX7_take_125 : decode cX7_take 125 = .ok (.getfield 47, 3) := by decide +kernel
theorem dX7_take_128 : decode cX7_take 128 = .ok (.iload_n 3, 1) := by decide +kernel
theorem dX7_take_129 : decode cX7_take 129 = .ok (.iconst 1, 1) := by decide +kernel
theorem dX7_take_130 : decode cX7_take 130 = .ok (.invokevirtual 66, 3) := by decide +kernel
theorem dX7_take_133 : decode cX7_take 133 = .ok (.iadd, 1) := by decide +kernel
theorem dX7_take_134 : decode cX7_take 134 = .ok (.putfield 17, 3) := by decide +kernel
theorem dX7_take_137 : decode cX7_take 137 = .ok (.aload_n 0, 1) := by decide +kernel
theorem dX7_take_138 : decode cX7_take 138 = .ok (.dup, 1) := by decide +kernel
theorem dX7_take_139 : decode cX7_take 139 = .ok (.getfield 36, 3) := by decide +kernel
theorem dX7_take_142 : decode cX7_take 142 = .ok (.iload 4, 2) := by decide +kernel
theorem dX7_take_144 : decode cX7_take 144 = .ok (.iconst 1, 1) := by decide +kernel
theorem dX7_take_145 : decode cX7_take 145 = .ok (.if_icmp .ne 7, 3) := by decide +kernel
theorem dX7_take_148 : decode cX7_take 148 = .ok (.iconst 2, 1) := by decide +kernel
theorem dX7_take_149 : decode cX7_take 149 = .ok (.goto 14, 3) := by decide +kernel
theorem dX7_take_152 : decode cX7_take 152 = .ok (.iload 4, 2) := by decide +kernel
theorem dX7_take_154 : decode cX7_take 154 = .ok (.iconst 2, 1) := by decide +kernel
theorem dX7_take_155 : decode cX7_take 155 = .ok (.if_icmp .ne 7, 3) := by decide +kernel
theorem dX7_take_158 : decode cX7_take 158 = .ok (.iconst 3, 1) := by decide +kernel
theorem dX7_take_159 : decode cX7_take 159 = .ok (.goto 4, 3) := by decide +kernel
theorem dX7_take_162 : decode cX7_take 162 = .ok (.iconst 0, 1) := by decide +kernel
theorem dX7_take_163 : decode cX7_take 163 = .ok (.iadd, 1) := by decide +kernel
theorem dX7_take_164 : decode cX7_take 164 = .ok (.putfield 36, 3) := by decide +kernel
theorem dX7_take_167 : decode cX7_take 167 = .ok (.return_, 1) := by decide +kernel
set_option maxRecDepth 20000 in
theorem ggX7_chance_X8_number : GoodIn wsX7_chance wsX8_number := goodIn_r _ [13, 14, 15, 36, 37, 38, 39] (by decide +kernel) (by decide +kernel)
set_option maxRecDepth 20000 in
theorem gX7_chance_X8_number : GoodIn wsX7_chance (wsV RX7 66 RX8 yX8_number wsX8_number) := goodIn_app (goodIn_of _ (by decide +kernel)) ggX7_chance_X8_number
set_option maxRecDepth 20000 in
theorem ggX7_chance_X1_setting : GoodIn wsX7_chance wsX1_setting := goodIn_r _ [20, 21, 22, 10, 11, 12, 13, 14, 15, 23, 24, 25, 26, 27, 28, 36, 37, 38, 39] (by decide +kernel) (by decide +kernel)
set_option maxRecDepth 20000 in
theorem gX7_chance_X1_setting : GoodIn wsX7_chance (wsV RX7 69 RX1 yX1_setting wsX1_setting) := goodIn_app (goodIn_of _ (by decide +kernel)) ggX7_chance_X1_setting
theorem dX7_chance_0 : decode cX7_chance 0 = .ok (.bipush 20, 2) := by decide +kernel
theorem dX7_chance_2 : decode cX7_chance 2 = .ok (.aload_n 1, 1) := by decide +kernel
theorem dX7_chance_3 : decode cX7_chance 3 = .ok (.getfield 47, 3) := by decide +kernel
theorem dX7_chance_6 : decode cX7_chance 6 = .ok (.iload_n 3, 1) := by decide +kernel
theorem dX7_chance_7 : decode cX7_chance 7 = .ok (.iconst 2, 1) := by decide +kernel
theorem dX7_chance_8 : decode cX7_chance 8 = .ok (.invokevirtual 66, 3) := by decide +kernel
theorem dX7_chance_11 : decode cX7_chance 11 = .ok (.aload_n 0, 1) := by decide +kernel
theorem dX7_chance_12 : decode cX7_chance 12 = .ok (.getfield 36, 3) := by decide +kernel
theorem dX7_chance_15 : decode cX7_chance 15 = .ok (.iadd, 1) := by decide +kernel
theorem dX7_chance_16 : decode cX7_chance 16 = .ok (.invokestatic 79, 3) := by decide +kernel
theorem dX7_chance_19 : decode cX7_chance 19 = .ok (.istore 5, 2) := by decide +kernel
theorem dX7_chance_21 : decode cX7_chance 21 = .ok (.aload_n 0, 1) := by decide +kernel
theorem dX7_chance_22 : decode cX7_chance 22 = .ok (.getfield 33, 3) := by decide +kernel
theorem dX7_chance_25 : decode cX7_chance 25 = .ok (.iload 5, 2) := by decide +kernel
theorem dX7_chance_27 : decode cX7_chance 27 = .ok (.imul, 1) := by decide +kernel
theorem dX7_chance_28 : decode cX7_chance 28 = .ok (.istore 6, 2) := by decide +kernel
theorem dX7_chance_30 : decode cX7_chance 30 = .ok (.iload 4, 2) := by decide +kernel
theorem dX7_chance_32 : decode cX7_chance 32 = .ok (.tableswitch 86 2 5 #[32, 71, 76, 82], 32) := by decide +kernel
theorem dX7_chance_64 : decode cX7_chance 64 = .ok (.aload_n 1, 1) := by decide +kernel
theorem dX7_chance_65 : decode cX7_chance 65 = .ok (.getfield 84, 3) := by decide +kernel
theorem dX7_chance_68 : decode cX7_chance 68 = .ok (.iload_n 2, 1) := by decide +kernel
theorem dX7_chance_69 : decode cX7_chance 69 = .ok (.iconst 2, 1) := by decide +kernel
theorem dX7_chance_70 : decode cX7_chance 70 = .ok (.invokevirtual 66, 3) := by decide +kernel
theorem dX7_chance_73 : decode cX7_chance 73 = .ok (.aload_n 1, 1) := by decide +kernel
theorem dX7_chance_74 : decode cX7_chance 74 = .ok (.iconst 0, 1) := by decide +kernel
theorem dX7_chance_75 : decode cX7_chance 75 = .ok (.invokevirtual 69, 3) := by decide +kernel
theorem dX7_chance_78 : decode cX7_chance 78 = .ok (.if_icmp .ne 7, 3) := by decide +kernel
theorem dX7_chance_81 : decode cX7_chance 81 = .ok (.iconst 1, 1) := by decide +kernel
theorem dX7_chance_82 : decode cX7_chance 82 = .ok (.goto 4, 3) := by decide +kernel
theorem dX7_chance_85 : decode cX7_chance 85 = .ok (.iconst 0, 1) := by decide +kernel
theorem dX7_chance_86 : decode cX7_chance 86 = .ok (.istore 7, 2) := by decide +kernel
theorem dX7_chance_88 : decode cX7_chance 88 = .ok (.iload 7, 2) := by decide +kernel
theorem dX7_chance_90 : decode cX7_chance 90 = .ok (.ifCond .eq 8, 3) := by decide +kernel
theorem dX7_chance_93 : decode cX7_chance 93 = .ok (.iload 6, 2) := by decide +kernel
theorem dX7_chance_95 : decode cX7_chance 95 = .ok (.goto 7, 3) := by decide +kernel
theorem dX7_chance_98 : decode cX7_chance 98 = .ok (.iload 6, 2) := by decide +kernel
theorem dX7_chance_100 : decode cX7_chance 100 = .ok (.iconst 2, 1) := by decide +kernel
theorem dX7_chance_101 : decode cX7_chance 101 = .ok (.idiv, 1) := by decide +kernel
theorem dX7_chance_102 : decode cX7_chance 102 = .ok (.ireturn, 1) := by decide +kernel
theorem dX7_chance_103 : decode cX7_chance 103 = .ok (.iload 6, 2) := by decide +kernel
theorem dX7_chance_105 : decode cX7_chance 105 = .ok (.iconst 2, 1) := by decide +kernel
theorem dX7_chance_106 : decode cX7_chance 106 = .ok (.idiv, 1) := by decide +kernel
theorem dX7_chance_107 : decode cX7_chance 107 = .ok (.ireturn, 1) := by decide +kernel
theorem dX7_chance_108 : decode cX7_chance 108 = .ok (.bipush 10, 2) := by decide +kernel
theorem dX7_chance_110 : decode cX7_chance 110 = .ok (.iload 5, 2) := by decide +kernel
theorem dX7_chance_112 : decode cX7_chance 112 = .ok (.imul, 1) := by decide +kernel
theorem dX7_chance_113 : decode cX7_chance 113 = .ok (.ireturn, 1) := by decide +kernel
theorem dX7_chance_114 : decode cX7_chance 114 = .ok (.sipush 400, 3) := by decide +kernel
theorem dX7_chance_117 : decode cX7_chance 117 = .ok (.ireturn, 1) := by decide +kernel
theorem dX7_chance_118 : decode cX7_chance 118 = .ok (.iload 6, 2) := by decide +kernel
theorem dX7_chance_120 : decode cX7_chance 120 = .ok (.ireturn, 1) := by decide +kernel
