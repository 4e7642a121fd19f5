set_option maxRecDepth 20000 in
theorem ggX7_bestOf_X7_go : GoodIn wsX7_bestOf wsX7_go := goodIn_r _ [10, 11, 3, 12, 13, 4, 1, 5, 14, 15, 16, 17, 18, 19, 20, 21, 22, 23, 24, 25, 26, 27, 28, 29, 30, 31, 32, 33, 34, 35, 36, 37, 38, 39, 40, 41, 42, 43, 44, 45, 46, 47, 48, 49, 9, 50, 51, 52, 53, 54, 55, 56, 57, 58, 59, 60, 61, 62, 63, 64, 65, 66, 67, 68, 69, 70, 71, 72, 73, 74, 75, 76, 77, 78] (by decide +kernel) (by decide +kernel)
set_option maxRecDepth 20000 in
theorem gX7_bestOf_X7_go : GoodIn wsX7_bestOf (wsV RX7 87 RX7 yX7_go wsX7_go) := goodIn_app (goodIn_of _ (by decide +kernel)) ggX7_bestOf_X7_go
theorem dX7_bestOf_0 : decode cX7_bestOf 0 = .ok (.iconst 0, 1) := by decide +kernel
theorem dX7_bestOf_1 : decode cX7_bestOf 1 = .ok (.istore 5, 2) := by decide +kernel
theorem dX7_bestOf_3 : decode cX7_bestOf 3 = .ok (.ldc2_w 21, 3) := by decide +kernel
theorem dX7_bestOf_6 : decode cX7_bestOf 6 = .ok (.lstore 6, 2) := by decide +kernel
theorem dX7_bestOf_8 : decode cX7_bestOf 8 = .ok (.iconst 0, 1) := by decide +kernel
theorem dX7_bestOf_9 : decode cX7_bestOf 9 = .ok (.istore 8, 2) := by decide +kernel
theorem dX7_bestOf_11 : decode cX7_bestOf 11 = .ok (.iload 8, 2) := by decide +kernel
theorem dX7_bestOf_13 : decode cX7_bestOf 13 = .ok (.aload_n 0, 1) := by decide +kernel
theorem dX7_bestOf_14 : decode cX7_bestOf 14 = .ok (.getfield 9, 3) := by decide +kernel
theorem dX7_bestOf_17 : decode cX7_bestOf 17 = .ok (.arraylength, 1) := by decide +kernel
theorem dX7_bestOf_18 : decode cX7_bestOf 18 = .ok (.if_icmp .ge 82, 3) := by decide +kernel
theorem dX7_bestOf_21 : decode cX7_bestOf 21 = .ok (.aload_n 0, 1) := by decide +kernel
theorem dX7_bestOf_22 : decode cX7_bestOf 22 = .ok (.aload_n 1, 1) := by decide +kernel
theorem dX7_bestOf_23 : decode cX7_bestOf 23 = .ok (.iload_n 2, 1) := by decide +kernel
theorem dX7_bestOf_24 : decode cX7_bestOf 24 = .ok (.aload_n 0, 1) := by decide +kernel
theorem dX7_bestOf_25 : decode cX7_bestOf 25 = .ok (.getfield 9, 3) := by decide +kernel
theorem dX7_bestOf_28 : decode cX7_bestOf 28 = .ok (.iload 8, 2) := by decide +kernel
theorem dX7_bestOf_30 : decode cX7_bestOf 30 = .ok (.iaload, 1) := by decide +kernel
theorem dX7_bestOf_31 : decode cX7_bestOf 31 = .ok (.invokevirtual 87, 3) := by decide +kernel
theorem dX7_bestOf_34 : decode cX7_bestOf 34 = .ok (.ifCond .eq 27, 3) := by decide +kernel
theorem dX7_bestOf_37 : decode cX7_bestOf 37 = .ok (.aload_n 0, 1) := by decide +kernel
theorem dX7_bestOf_38 : decode cX7_bestOf 38 = .ok (.getfield 17, 3) := by decide +kernel
theorem dX7_bestOf_41 : decode cX7_bestOf 41 = .ok (.iload_n 3, 1) := by decide +kernel
theorem dX7_bestOf_42 : decode cX7_bestOf 42 = .ok (.if_icmp .gt 19, 3) := by decide +kernel
theorem dX7_bestOf_45 : decode cX7_bestOf 45 = .ok (.iload 4, 2) := by decide +kernel
theorem dX7_bestOf_47 : decode cX7_bestOf 47 = .ok (.ifCond .ne 10, 3) := by decide +kernel
theorem dX7_bestOf_50 : decode cX7_bestOf 50 = .ok (.aload_n 0, 1) := by decide +kernel
theorem dX7_bestOf_51 : decode cX7_bestOf 51 = .ok (.getfield 43, 3) := by decide +kernel
theorem dX7_bestOf_54 : decode cX7_bestOf 54 = .ok (.ifCond .ne 7, 3) := by decide +kernel
theorem dX7_bestOf_57 : decode cX7_bestOf 57 = .ok (.iconst 1, 1) := by decide +kernel
theorem dX7_bestOf_58 : decode cX7_bestOf 58 = .ok (.goto 4, 3) := by decide +kernel
theorem dX7_bestOf_61 : decode cX7_bestOf 61 = .ok (.iconst 0, 1) := by decide +kernel
theorem dX7_bestOf_62 : decode cX7_bestOf 62 = .ok (.istore 9, 2) := by decide +kernel
theorem dX7_bestOf_64 : decode cX7_bestOf 64 = .ok (.iload 9, 2) := by decide +kernel
theorem dX7_bestOf_66 : decode cX7_bestOf 66 = .ok (.ifCond .eq 28, 3) := by decide +kernel
theorem dX7_bestOf_69 : decode cX7_bestOf 69 = .ok (.aload_n 0, 1) := by decide +kernel
theorem dX7_bestOf_70 : decode cX7_bestOf 70 = .ok (.getfield 23, 3) := by decide +kernel
theorem dX7_bestOf_73 : decode cX7_bestOf 73 = .ok (.lload 6, 2) := by decide +kernel
theorem dX7_bestOf_75 : decode cX7_bestOf 75 = .ok (.lcmp, 1) := by decide +kernel
theorem dX7_bestOf_76 : decode cX7_bestOf 76 = .ok (.ifCond .ge 18, 3) := by decide +kernel
theorem dX7_bestOf_79 : decode cX7_bestOf 79 = .ok (.aload_n 0, 1) := by decide +kernel
theorem dX7_bestOf_80 : decode cX7_bestOf 80 = .ok (.getfield 9, 3) := by decide +kernel
theorem dX7_bestOf_83 : decode cX7_bestOf 83 = .ok (.iload 8, 2) := by decide +kernel
theorem dX7_bestOf_85 : decode cX7_bestOf 85 = .ok (.iaload, 1) := by decide +kernel
theorem dX7_bestOf_86 : decode cX7_bestOf 86 = .ok (.istore 5, 2) := by decide +kernel
theorem dX7_bestOf_88 : decode cX7_bestOf 88 = .ok (.aload_n 0, 1) := by decide +kernel
theorem dX7_bestOf_89 : decode cX7_bestOf 89 = .ok (.getfield 23, 3) := by decide +kernel
theorem dX7_bestOf_92 : decode cX7_bestOf 92 = .ok (.lstore 6, 2) := by decide +kernel
theorem dX7_bestOf_94 : decode cX7_bestOf 94 = .ok (.iinc 8 1, 3) := by decide +kernel
theorem dX7_bestOf_97 : decode cX7_bestOf 97 = .ok (.goto (-86), 3) := by decide +kernel
theorem dX7_bestOf_100 : decode cX7_bestOf 100 = .ok (.iload 5, 2) := by decide +kernel
theorem dX7_bestOf_102 : decode cX7_bestOf 102 = .ok (.ireturn, 1) := by decide +kernel
theorem dX8_init_0 : decode cX8_init 0 = .ok (.aload_n 0, 1) := by decide +kernel
theorem dX8_init_1 : decode cX8_init 1 = .ok (.invokespecial 3, 3) := by decide +kernel
theorem dX8_init_4 : decode cX8_init 4 = .ok (.aload_n 0, 1) := by decide +kernel
theorem dX8_init_5 : decode cX8_init 5 = .ok (.iload_n 1, 1) := by decide +kernel
theorem dX8_init_6 : decode cX8_init 6 = .ok (.putfield 9, 3) := by decide +kernel
theorem dX8_init_9 : decode cX8_init 9 = .ok (.aload_n 0, 1) := by decide +kernel
theorem dX8_init_10 : decode cX8_init 10 = .ok (.iload_n 2, 1) := by decide +kernel
theorem dX8_init_11 : decode cX8_init 11 = .ok (.putfield 15, 3) := by decide +kernel
theorem dX8_init_14 : decode cX8_init 14 = .ok (.aload_n 0, 1) := by decide +kernel
theorem dX8_init_15 : decode cX8_init 15 = .ok (.iconst 0, 1) := by decide +kernel
theorem dX8_init_16 : decode cX8_init 16 = .ok (.iload_n 1, 1) := by decide +kernel
theorem dX8_init_17 : decode cX8_init 17 = .ok (.iload_n 2, 1) := by decide +kernel
theorem dX8_init_18 : decode cX8_init 18 = .ok (.imul, 1) := by decide +kernel
theorem dX8_init_19 : decode cX8_init 19 = .ok (.invokestatic 18, 3) := by decide +kernel
theorem dX8_init_22 : decode cX8_init 22 = .ok (.newarray .long, 2) := by decide +kernel
theorem dX8_init_24 : decode cX8_init 24 = .ok (.putfield 24, 3) := by decide +kernel
theorem dX8_init_27 : decode cX8_init 27 = .ok (.return_, 1) := by decide +kernel
theorem dX8_size_0 : decode cX8_size 0 = .ok (.aload_n 0, 1) := by decide +kernel
theorem dX8_size_1 : decode cX8_size 1 = .ok (.getfield 28, 3) := by decide +kernel
theorem dX8_size_4 : decode cX8_size 4 = .ok (.ireturn, 1) := by decide +kernel
theorem dX8_isFull_0 : decode cX8_isFull 0 = .ok (.aload_n 0, 1) := by decide +kernel
theorem dX8_isFull_1 : decode cX8_isFull 1 = .ok (.getfield 28, 3) := by decide +kernel
theorem dX8_isFull_4 : decode cX8_isFull 4 = .ok (.aload_n 0, 1) := by decide +kernel
theorem dX8_isFull_5 : decode cX8_isFull 5 = .ok (.getfield 9, 3) := by decide +kernel
theorem dX8_isFull_8 : decode cX8_isFull 8 = .ok (.if_icmp .lt 7, 3) := by decide +kernel
theorem dX8_isFull_11 : decode cX8_isFull 11 = .ok (.iconst 1, 1) := by decide +kernel
theorem dX8_isFull_12 : decode cX8_isFull 12 = .ok (.goto 4, 3) := by decide +kernel
theorem dX8_isFull_15 : decode cX8_isFull 15 = .ok (.iconst 0, 1) := by decide +kernel
theorem dX8_isFull_16 : decode cX8_isFull 16 = .ok (.ireturn, 1) := by decide +kernel
theorem dX8_holds_0 : decode cX8_holds 0 = .ok (.iload_n 1, 1) := by decide +kernel
theorem dX8_holds_1 : decode cX8_holds 1 = .ok (.ifCond .lt 15, 3) := by decide +kernel
theorem dX8_holds_4 : decode cX8_holds 4 = .ok (.iload_n 1, 1) := by decide +kernel
theorem dX8_holds_5 : decode cX8_holds 5 = .ok (.aload_n 0, 1) := by decide +kernel
theorem dX8_holds_6 : decode cX8_holds 6 = .ok (.getfield 28, 3) := by decide +kernel
theorem dX8_holds_9 : decode cX8_holds 9 = .ok (.if_icmp .ge 7, 3) := by decide +kernel
theorem dX8_holds_12 : decode cX8_holds 12 = .ok (.iconst 1, 1) := by decide +kernel
theorem dX8_holds_13 : decode cX8_holds 13 = .ok (.goto 4, 3) := by decide +kernel
theorem dX8_holds_16 : decode cX8_holds 16 = .ok (.iconst 0, 1) := by decide +kernel
theorem dX8_holds_17 : decode cX8_holds 17 = .ok (.ireturn, 1) := by decide +kernel
set_option maxRecDepth 20000 in
theorem ggX8_addRow_X8_isFull : GoodIn wsX8_addRow wsX8_isFull := goodIn_r _ [6, 1, 7, 8, 9, 10, 11] (by decide +kernel) (by decide +kernel)
set_option maxRecDepth 20000 in
theorem gX8_addRow_X8_isFull : GoodIn wsX8_addRow (wsV RX8 31 RX8 yX8_isFull wsX8_isFull) := goodIn_app (goodIn_of _ (by decide +kernel)) ggX8_addRow_X8_isFull
theorem dX8_addRow_0 : decode cX8_addRow 0 = .ok (.aload_n 0, 1) := by decide +kernel
theorem dX8_addRow_1 : decode cX8_addRow 1 = .ok (.invokevirtual 31, 3) := by decide +kernel
theorem dX8_addRow_4 : decode cX8_addRow 4 = .ok (.ifCond .eq 6, 3) := by decide +kernel
theorem dX8_addRow_7 : decode cX8_addRow 7 = .ok (.bipush (-4), 2) := by decide +kernel
theorem dX8_addRow_9 : decode cX8_addRow 9 = .ok (.ireturn, 1) := by decide +kernel
theorem dX8_addRow_10 : decode cX8_addRow 10 = .ok (.aload_n 0, 1) := by decide +kernel
theorem dX8_addRow_11 : decode cX8_addRow 11 = .ok (.dup, 1) := by decide +kernel
theorem dX8_addRow_12 : decode cX8_addRow 12 = .ok (.getfield 28, 3) := by decide +kernel
theorem dX8_addRow_15 : decode cX8_addRow 15 = .ok (.iconst 1, 1) := by decide +kernel
theorem dX8_addRow_16 : decode cX8_addRow 16 = .ok (.iadd, 1) := by decide +kernel
theorem dX8_addRow_17 : decode cX8_addRow 17 = .ok (.putfield 28, 3) := by decide +kernel
theorem dX8_addRow_20 : decode cX8_addRow 20 = .ok (.aload_n 0, 1) := by decide +kernel
theorem dX8_addRow_21 : decode cX8_addRow 21 = .ok (.getfield 28, 3) := by decide +kernel
theorem dX8_addRow_24 : decode cX8_addRow 24 = .ok (.iconst 1, 1) := by decide +kernel
theorem dX8_addRow_25 : decode cX8_addRow 25 = .ok (.isub, 1) := by decide +kernel
theorem dX8_addRow_26 : decode cX8_addRow 26 = .ok (.ireturn, 1) := by decide +kernel
theorem dX8_forgetAll_0 : decode cX8_forgetAll 0 = .ok (.aload_n 0, 1) := by decide +kernel
theorem dX8_forgetAll_1 : decode cX8_forgetAll 1 = .ok (.iconst 0, 1) := by decide +kernel
theorem dX8_forgetAll_2 : decode cX8_forgetAll 2 = .ok (.putfield 28, 3) := by decide +kernel
theorem dX8_forgetAll_5 : decode cX8_forgetAll 5 = .ok (.return_, 1) := by decide +kernel
theorem dX8_get_0 : decode cX8_get 0 = .ok (.iload_n 1, 1) := by decide +kernel
theorem dX8_get_1 : decode cX8_get 1 = .ok (.aload_n 0, 1) := by decide +kernel
theorem dX8_get_2 : decode cX8_get 2 = .ok (.getfield 15, 3) := by decide +kernel
theorem dX8_get_5 : decode cX8_get 5 = .ok (.imul, 1) := by decide +kernel
theorem dX8_get_6 : decode cX8_get 6 = .ok (.iload_n 2, 1) := by decide +kernel
theorem dX8_get_7 : decode cX8_get 7 = .ok (.iadd, 1) := by decide +kernel
theorem dX8_get_8 : decode cX8_get 8 = .ok (.istore_n 3, 1) := by decide +kernel
theorem dX8_get_9 : decode cX8_get 9 = .ok (.iload_n 3, 1) := by decide +kernel
theorem dX8_get_10 : decode cX8_get 10 = .ok (.ifCond .lt 21, 3) := by decide +kernel
theorem dX8_get_13 : decode cX8_get 13 = .ok (.iload_n 3, 1) := by decide +kernel
theorem dX8_get_14 : decode cX8_get 14 = .ok (.aload_n 0, 1) := by decide +kernel
theorem dX8_get_15 : decode cX8_get 15 = .ok (.getfield 24, 3) := by decide +kernel
theorem dX8_get_18 : decode cX8_get 18 = .ok (.arraylength, 1) := by decide +kernel
theorem dX8_get_19 : decode cX8_get 19 = .ok (.if_icmp .ge 12, 3) := by decide +kernel
theorem dX8_get_22 : decode cX8_get 22 = .ok (.aload_n 0, 1) := by decide +kernel
theorem dX8_get_23 : decode cX8_get 23 = .ok (.getfield 24, 3) := by decide +kernel
theorem dX8_get_26 : decode cX8_get 26 = .ok (.iload_n 3, 1) := by decide +kernel
theorem dX8_get_27 : decode cX8_get 27 = .ok (.laload, 1) := by decide +kernel
theorem dX8_get_28 : decode cX8_get 28 = .ok (.goto 4, 3) := by decide +kernel
theorem dX8_get_31 : decode cX8_get 31 = .ok (.lconst 0, 1) := by decide +kernel
theorem dX8_get_32 : decode cX8_get 32 = .ok (.lreturn, 1) := by decide +kernel
theorem dX8_number_0 : decode cX8_number 0 = .ok (.iload_n 1, 1) := by decide +kernel
theorem dX8_number_1 : decode cX8_number 1 = .ok (.aload_n 0, 1) := by decide +kernel
theorem dX8_number_2 : decode cX8_number 2 = .ok (.getfield 15, 3) := by decide +kernel
theorem dX8_number_5 : decode cX8_number 5 = .ok (.imul, 1) := by decide +kernel
theorem dX8_number_6 : decode cX8_number 6 = .ok (.iload_n 2, 1) := by decide +kernel
theorem dX8_number_7 : decode cX8_number 7 = .ok (.iadd, 1) := by decide +kernel
theorem dX8_number_8 : decode cX8_number 8 = .ok (.istore_n 3, 1) := by decide +kernel
theorem dX8_number_9 : decode cX8_number 9 = .ok (.iload_n 3, 1) := by decide +kernel
theorem dX8_number_10 : decode cX8_number 10 = .ok (.ifCond .lt 22, 3) := by decide +kernel
theorem dX8_number_13 : decode cX8_number 13 = .ok (.iload_n 3, 1) := by decide +kernel
theorem dX8_number_14 : decode cX8_number 14 = .ok (.aload_n 0, 1) := by decide +kernel
theorem dX8_number_15 : decode cX8_number 15 = .ok (.getfield 24, 3) := by decide +kernel
theorem dX8_number_18 : decode cX8_number 18 = .ok (.arraylength, 1) := by decide +kernel
theorem dX8_number_19 : decode cX8_number 19 = .ok (.if_icmp .ge 13, 3) := by decide +kernel
theorem dX8_number_22 : decode cX8_number 22 = .ok (.aload_n 0, 1) := by decide +kernel
theorem dX8_number_23 : decode cX8_number 23 = .ok (.getfield 24, 3) := by decide +kernel
theorem dX8_number_26 : decode cX8_number 26 = .ok (.iload_n 3, 1) := by decide +kernel
theorem dX8_number_27 : decode cX8_number 27 = .ok (.laload, 1) := by decide +kernel
theorem dX8_number_28 : decode cX8_number 28 = .ok (.l2i, 1) := by decide +kernel
theorem dX8_number_29 : decode cX8_number 29 = .ok (.goto 4, 3) := by decide +kernel
theorem dX8_number_32 : decode cX8_number 32 = .ok (.iconst 0, 1) := by decide +kernel
theorem dX8_number_33 : decode cX8_number 33 = .ok (.ireturn, 1) := by decide +kernel
theorem dX8_set_0 : decode cX8_set 0 = .ok (.iload_n 1, 1) := by decide +kernel
theorem dX8_set_1 : decode cX8_set 1 = .ok (.aload_n 0, 1) := by decide +kernel
theorem dX8_set_2 : decode cX8_set 2 = .ok (.getfield 15, 3) := by decide +kernel
theorem dX8_set_5 : decode cX8_set 5 = .ok (.imul, 1) := by decide +kernel
theorem dX8_set_6 : decode cX8_set 6 = .ok (.iload_n 2, 1) := by decide +kernel
theorem dX8_set_7 : decode cX8_set 7 = .ok (.iadd, 1) := by decide +kernel
theorem dX8_set_8 : decode cX8_set 8 = .ok (.istore 5, 2) := by decide +kernel
theorem dX8_set_10 : decode cX8_set 10 = .ok (.iload 5, 2) := by decide +kernel
theorem dX8_set_12 : decode cX8_set 12 = .ok (.ifCond .lt 21, 3) := by decide +kernel
theorem dX8_set_15 : decode cX8_set 15 = .ok (.iload 5, 2) := by decide +kernel
theorem dX8_set_17 : decode cX8_set 17 = .ok (.aload_n 0, 1) := by decide +kernel
theorem dX8_set_18 : decode cX8_set 18 = .ok (.getfield 24, 3) := by decide +kernel
theorem dX8_set_21 : decode cX8_set 21 = .ok (.arraylength, 1) := by decide +kernel
theorem dX8_set_22 : decode cX8_set 22 = .ok (.if_icmp .ge 11, 3) := by decide +kernel
theorem dX8_set_25 : decode cX8_set 25 = .ok (.aload_n 0, 1) := by decide +kernel
theorem dX8_set_26 : decode cX8_set 26 = .ok (.getfield 24, 3) := by decide +kernel
theorem dX8_set_29 : decode cX8_set 29 = .ok (.iload 5, 2) := by decide +kernel
theorem dX8_set_31 : decode cX8_set 31 = .ok (.lload_n 3, 1) := by decide +kernel
theorem dX8_set_32 : decode cX8_set 32 = .ok (.lastore, 1) := by decide +kernel
theorem dX8_set_33 : decode cX8_set 33 = .ok (.return_, 1) := by decide +kernel
theorem dX8_become_0 : decode cX8_become 0 = .ok (.aload_n 0, 1) := by decide +kernel
theorem dX8_become_1 : decode cX8_become 1 = .ok (.aload_n 1, 1) := by decide +kernel
theorem dX8_become_2 : decode cX8_become 2 = .ok (.getfield 28, 3) := by decide +kernel
theorem dX8_become_5 : decode cX8_become 5 = .ok (.putfield 28, 3) := by decide +kernel
theorem dX8_become_8 : decode cX8_become 8 = .ok (.iconst 0, 1) := by decide +kernel
theorem dX8_become_9 : decode cX8_become 9 = .ok (.istore_n 2, 1) := by decide +kernel
theorem dX8_become_10 : decode cX8_become 10 = .ok (.iload_n 2, 1) := by decide +kernel
theorem dX8_become_11 : decode cX8_become 11 = .ok (.aload_n 0, 1) := by decide +kernel
theorem dX8_become_12 : decode cX8_become 12 = .ok (.getfield 24, 3) := by decide +kernel
theorem dX8_become_15 : decode cX8_become 15 = .ok (.arraylength, 1) := by decide +kernel
theorem dX8_become_16 : decode cX8_become 16 = .ok (.if_icmp .ge 30, 3) := by decide +kernel
theorem dX8_become_19 : decode cX8_become 19 = .ok (.iload_n 2, 1) := by decide +kernel
theorem dX8_become_20 : decode cX8_become 20 = .ok (.aload_n 1, 1) := by decide +kernel
theorem dX8_become_21 : decode cX8_become 21 = .ok (.getfield 24, 3) := by decide +kernel
theorem dX8_become_24 : decode cX8_become 24 = .ok (.arraylength, 1) := by decide +kernel
theorem dX8_become_25 : decode cX8_become 25 = .ok (.if_icmp .ge 21, 3) := by decide +kernel
theorem dX8_become_28 : decode cX8_become 28 = .ok (.aload_n 0, 1) := by decide +kernel
theorem dX8_become_29 : decode cX8_become 29 = .ok (.getfield 24, 3) := by decide +kernel
theorem dX8_become_32 : decode cX8_become 32 = .ok (.iload_n 2, 1) := by decide +kernel
theorem dX8_become_33 : decode cX8_become 33 = .ok (.aload_n 1, 1) := by decide +kernel
theorem dX8_become_34 : decode cX8_become 34 = .ok (.getfield 24, 3) := by decide +kernel
theorem dX8_become_37 : decode cX8_become 37 = .ok (.iload_n 2, 1) := by decide +kernel
theorem dX8_become_38 : decode cX8_become 38 = .ok (.laload, 1) := by decide +kernel
theorem dX8_become_39 : decode cX8_become 39 = .ok (.lastore, 1) := by decide +kernel
theorem dX8_become_40 : decode cX8_become 40 = .ok (.iinc 2 1, 3) := by decide +kernel
theorem dX8_become_43 : decode cX8_become 43 = .ok (.goto (-33), 3) := by decide +kernel
theorem dX8_become_46 : decode cX8_become 46 = .ok (.return_, 1) := by decide +kernel
theorem dX8_mixedInto_0 : decode cX8_mixedInto 0 = .ok (.iconst 0, 1) := by decide +kernel
theorem dX8_mixedInto_1 : decode cX8_mixedInto 1 = .ok (.istore_n 3, 1) := by decide +kernel
theorem dX8_mixedInto_2 : decode cX8_mixedInto 2 = .ok (.iload_n 3, 1) := by decide +kernel
theorem dX8_mixedInto_3 : decode cX8_mixedInto 3 = .ok (.aload_n 0, 1) := by decide +kernel
theorem dX8_mixedInto_4 : decode cX8_mixedInto 4 = .ok (.getfield 28, 3) := by decide +kernel
theorem dX8_mixedInto_7 : decode cX8_mixedInto 7 = .ok (.aload_n 0, 1) := by decide +kernel
theorem dX8_mixedInto_8 : decode cX8_mixedInto 8 = .ok (.getfield 15, 3) := by decide +kernel
theorem dX8_mixedInto_11 : decode cX8_mixedInto 11 = .ok (.imul, 1) := by decide +kernel
theorem dX8_mixedInto_12 : decode cX8_mixedInto 12 = .ok (.if_icmp .ge 31, 3) := by decide +kernel
theorem dX8_mixedInto_15 : decode cX8_mixedInto 15 = .ok (.iload_n 3, 1) := by decide +kernel
theorem dX8_mixedInto_16 : decode cX8_mixedInto 16 = .ok (.aload_n 0, 1) := by decide +kernel
theorem dX8_mixedInto_17 : decode cX8_mixedInto 17 = .ok (.getfield 24, 3) := by decide +kernel
theorem dX8_mixedInto_20 : decode cX8_mixedInto 20 = .ok (.arraylength, 1) := by decide +kernel
theorem dX8_mixedInto_21 : decode cX8_mixedInto 21 = .ok (.if_icmp .ge 22, 3) := by decide +kernel
theorem dX8_mixedInto_24 : decode cX8_mixedInto 24 = .ok (.ldc2_w 35, 3) := by decide +kernel
theorem dX8_mixedInto_27 : decode cX8_mixedInto 27 = .ok (.lload_n 1, 1) := by decide +kernel
theorem dX8_mixedInto_28 : decode cX8_mixedInto 28 = .ok (.lmul, 1) := by decide +kernel
theorem dX8_mixedInto_29 : decode cX8_mixedInto 29 = .ok (.aload_n 0, 1) := by decide +kernel
theorem dX8_mixedInto_30 : decode cX8_mixedInto 30 = .ok (.getfield 24, 3) := by decide +kernel
theorem dX8_mixedInto_33 : decode cX8_mixedInto 33 = .ok (.iload_n 3, 1) := by decide +kernel
theorem dX8_mixedInto_34 : decode cX8_mixedInto 34 = .ok (.laload, 1) := by decide +kernel
theorem dX8_mixedInto_35 : decode cX8_mixedInto 35 = .ok (.ladd, 1) := by decide +kernel
theorem dX8_mixedInto_36 : decode cX8_mixedInto 36 = .ok (.lstore_n 1, 1) := by decide +kernel
theorem dX8_mixedInto_37 : decode cX8_mixedInto 37 = .ok (.iinc 3 1, 3) := by decide +kernel
theorem dX8_mixedInto_40 : decode cX8_mixedInto 40 = .ok (.goto (-38), 3) := by decide +kernel
theorem dX8_mixedInto_43 : decode cX8_mixedInto 43 = .ok (.lload_n 1, 1) := by decide +kernel
theorem dX8_mixedInto_44 : decode cX8_mixedInto 44 = .ok (.lreturn, 1) := by decide +kernel
theorem dX9_init_0 : decode cX9_init 0 = .ok (.aload_n 0, 1) := by decide +kernel
theorem dX9_init_1 : decode cX9_init 1 = .ok (.invokespecial 3, 3) := by decide +kernel
theorem dX9_init_4 : decode cX9_init 4 = .ok (.aload_n 0, 1) := by decide +kernel
theorem dX9_init_5 : decode cX9_init 5 = .ok (.sipush 300, 3) := by decide +kernel
theorem dX9_init_8 : decode cX9_init 8 = .ok (.newarray .byte, 2) := by decide +kernel
theorem dX9_init_10 : decode cX9_init 10 = .ok (.putfield 11, 3) := by decide +kernel
theorem dX9_init_13 : decode cX9_init 13 = .ok (.return_, 1) := by decide +kernel
theorem dX9_size_0 : decode cX9_size 0 = .ok (.aload_n 0, 1) := by decide +kernel
theorem dX9_size_1 : decode cX9_size 1 = .ok (.getfield 15, 3) := by decide +kernel
theorem dX9_size_4 : decode cX9_size 4 = .ok (.ireturn, 1) := by decide +kernel
set_option maxRecDepth 20000 in
theorem ggX9_add_X10_within : GoodIn wsX9_add wsX10_within := goodIn_r _ [5] (by decide +kernel) (by decide +kernel)
set_option maxRecDepth 20000 in
theorem gX9_add_X10_within_n19 : GoodIn wsX9_add (wsX10_within) := ggX9_add_X10_within
set_option maxRecDepth 20000 in
theorem ggX9_add_X9_append : GoodIn wsX9_add wsX9_append := goodIn_r _ [10, 1, 2, 11, 12] (by decide +kernel) (by decide +kernel)
set_option maxRecDepth 20000 in
theorem gX9_add_X9_append : GoodIn wsX9_add (wsV RX9 23 RX9 yX9_append wsX9_append) := goodIn_app (goodIn_of _ (by decide +kernel)) ggX9_add_X9_append
theorem dX9_add_0 : decode cX9_add 0 = .ok (.iload_n 3, 1) := by decide +kernel
theorem dX9_add_1 : decode cX9_add 1 = .ok (.iconst 1, 1) := by decide +kernel
theorem dX9_add_2 : decode cX9_add 2 = .ok (.bipush 8, 2) := by decide +kernel
theorem dX9_add_4 : decode cX9_add 4 = .ok (.invokestatic 19, 3) := by decide +kernel
theorem dX9_add_7 : decode cX9_add 7 = .ok (.ifCond .ne 6, 3) := by decide +kernel
theorem dX9_add_10 : decode cX9_add 10 = .ok (.bipush (-2), 2) := by decide +kernel
theorem dX9_add_12 : decode cX9_add 12 = .ok (.ireturn, 1) := by decide +kernel
theorem dX9_add_13 : decode cX9_add 13 = .ok (.aload_n 0, 1) := by decide +kernel
theorem dX9_add_14 : decode cX9_add 14 = .ok (.getfield 15, 3) := by decide +kernel
theorem dX9_add_17 : decode cX9_add 17 = .ok (.iload_n 3, 1) := by decide +kernel
theorem dX9_add_18 : decode cX9_add 18 = .ok (.iadd, 1) := by decide +kernel
theorem dX9_add_19 : decode cX9_add 19 = .ok (.aload_n 0, 1) := by decide +kernel
theorem dX9_add_20 : decode cX9_add 20 = .ok (.getfield 11, 3) := by decide +kernel
theorem dX9_add_23 : decode cX9_add 23 = .ok (.arraylength, 1) := by decide +kernel
theorem dX9_add_24 : decode cX9_add 24 = .ok (.if_icmp .le 6, 3) := by decide +kernel
theorem dX9_add_27 : decode cX9_add 27 = .ok (.bipush (-4), 2) := by decide +kernel
theorem dX9_add_29 : decode cX9_add 29 = .ok (.ireturn, 1) := by decide +kernel
theorem dX9_add_30 : decode cX9_add 30 = .ok (.iload_n 3, 1) := by decide +kernel
theorem dX9_add_31 : decode cX9_add 31 = .ok (.iconst 1, 1) := by decide +kernel
theorem dX9_add_32 : decode cX9_add 32 = .ok (.isub, 1) := by decide +kernel
theorem dX9_add_33 : decode cX9_add 33 = .ok (.istore 4, 2) := by decide +kernel
theorem dX9_add_35 : decode cX9_add 35 = .ok (.iload 4, 2) := by decide +kernel
theorem dX9_add_37 : decode cX9_add 37 = .ok (.ifCond .lt 22, 3) := by decide +kernel
theorem dX9_add_40 : decode cX9_add 40 = .ok (.aload_n 0, 1) := by decide +kernel
theorem dX9_add_41 : decode cX9_add 41 = .ok (.lload_n 1, 1) := by decide +kernel
theorem dX9_add_42 : decode cX9_add 42 = .ok (.bipush 8, 2) := by decide +kernel
theorem dX9_add_44 : decode cX9_add 44 = .ok (.iload 4, 2) := by decide +kernel
theorem dX9_add_46 : decode cX9_add 46 = .ok (.imul, 1) := by decide +kernel
theorem dX9_add_47 : decode cX9_add 47 = .ok (.lshr, 1) := by decide +kernel
theorem dX9_add_48 : decode cX9_add 48 = .ok (.l2i, 1) := by decide +kernel
theorem dX9_add_49 : decode cX9_add 49 = .ok (.i2b, 1) := by decide +kernel
theorem dX9_add_50 : decode cX9_add 50 = .ok (.invokevirtual 23, 3) := by decide +kernel
theorem dX9_add_53 : decode cX9_add 53 = .ok (.iinc 4 (-1), 3) := by decide +kernel
theorem dX9_add_56 : decode cX9_add 56 = .ok (.goto (-21), 3) := by decide +kernel
theorem dX9_add_59 : decode cX9_add 59 = .ok (.aload_n 0, 1) := by decide +kernel
theorem dX9_add_60 : decode cX9_add 60 = .ok (.getfield 15, 3) := by decide +kernel
theorem dX9_add_63 : decode cX9_add 63 = .ok (.ireturn, 1) := by decide +kernel
theorem dX9_append_0 : decode cX9_append 0 = .ok (.aload_n 0, 1) := by decide +kernel
theorem dX9_append_1 : decode cX9_append 1 = .ok (.getfield 15, 3) := by decide +kernel
theorem dX9_append_4 : decode cX9_append 4 = .ok (.ifCond .lt 35, 3) := by decide +kernel
theorem dX9_append_7 : decode cX9_append 7 = .ok (.aload_n 0, 1) := by decide +kernel
theorem dX9_append_8 : decode cX9_append 8 = .ok (.getfield 15, 3) := by decide +kernel
theorem dX9_append_11 : decode cX9_append 11 = .ok (.aload_n 0, 1) := by decide +kernel
theorem dX9_append_12 : decode cX9_append 12 = .ok (.getfield 11, 3) := by decide +kernel
theorem dX9_append_15 : decode cX9_append 15 = .ok (.arraylength, 1) := by decide +kernel
theorem dX9_append_16 : decode cX9_append 16 = .ok (.if_icmp .ge 23, 3) := by decide +kernel
theorem dX9_append_19 : decode cX9_append 19 = .ok (.aload_n 0, 1) := by decide +kernel
theorem dX9_append_20 : decode cX9_append 20 = .ok (.getfield 11, 3) := by decide +kernel
theorem dX9_append_23 : decode cX9_append 23 = .ok (.aload_n 0, 1) := by decide +kernel
theorem dX9_append_24 : decode cX9_append 24 = .ok (.getfield 15, 3) := by decide +kernel
theorem dX9_append_27 : decode cX9_append 27 = .ok (.iload_n 1, 1) := by decide +kernel
theorem dX9_append_28 : decode cX9_append 28 = .ok (.bastore, 1) := by decide +kernel
theorem dX9_append_29 : decode cX9_append 29 = .ok (.aload_n 0, 1) := by decide +kernel
theorem dX9_append_30 : decode cX9_append 30 = .ok (.dup, 1) := by decide +kernel
theorem dX9_append_31 : decode cX9_append 31 = .ok (.getfield 15, 3) := by decide +kernel
theorem dX9_append_34 : decode cX9_append 34 = .ok (.iconst 1, 1) := by decide +kernel
theorem dX9_append_35 : decode cX9_append 35 = .ok (.iadd, 1) := by decide +kernel
theorem dX9_append_36 : decode cX9_append 36 = .ok (.putfield 15, 3) := by decide +kernel
theorem dX9_append_39 : decode cX9_append 39 = .ok (.return_, 1) := by decide +kernel
theorem dX9_empty_0 : decode cX9_empty 0 = .ok (.aload_n 0, 1) := by decide +kernel
theorem dX9_empty_1 : decode cX9_empty 1 = .ok (.getfield 15, 3) := by decide +kernel
theorem dX9_empty_4 : decode cX9_empty 4 = .ok (.istore_n 1, 1) := by decide +kernel
theorem dX9_empty_5 : decode cX9_empty 5 = .ok (.aload_n 0, 1) := by decide +kernel
theorem dX9_empty_6 : decode cX9_empty 6 = .ok (.iconst 0, 1) := by decide +kernel
theorem dX9_empty_7 : decode cX9_empty 7 = .ok (.putfield 15, 3) := by decide +kernel
theorem dX9_empty_10 : decode cX9_empty 10 = .ok (.iload_n 1, 1) := by decide +kernel
theorem dX9_empty_11 : decode cX9_empty 11 = .ok (.ireturn, 1) := by decide +kernel
theorem dX9_byteAt_0 : decode cX9_byteAt 0 = .ok (.iload_n 1, 1) := by decide +kernel
theorem dX9_byteAt_1 : decode cX9_byteAt 1 = .ok (.ifCond .lt 33, 3) := by decide +kernel
theorem dX9_byteAt_4 : decode cX9_byteAt 4 = .ok (.iload_n 1, 1) := by decide +kernel
theorem dX9_byteAt_5 : decode cX9_byteAt 5 = .ok (.aload_n 0, 1) := by decide +kernel
theorem dX9_byteAt_6 : decode cX9_byteAt 6 = .ok (.getfield 15, 3) := by decide +kernel
theorem dX9_byteAt_9 : decode cX9_byteAt 9 = .ok (.if_icmp .ge 25, 3) := by decide +kernel
theorem dX9_byteAt_12 : decode cX9_byteAt 12 = .ok (.iload_n 1, 1) := by decide +kernel
theorem dX9_byteAt_13 : decode cX9_byteAt 13 = .ok (.aload_n 0, 1) := by decide +kernel
theorem dX9_byteAt_14 : decode cX9_byteAt 14 = .ok (.getfield 11, 3) := by decide +kernel
theorem dX9_byteAt_17 : decode cX9_byteAt 17 = .ok (.arraylength, 1) := by decide +kernel
theorem dX9_byteAt_18 : decode cX9_byteAt 18 = .ok (.if_icmp .ge 16, 3) := by decide +kernel
theorem dX9_byteAt_21 : decode cX9_byteAt 21 = .ok (.aload_n 0, 1) := by decide +kernel
theorem dX9_byteAt_22 : decode cX9_byteAt 22 = .ok (.getfield 11, 3) := by decide +kernel
theorem dX9_byteAt_25 : decode cX9_byteAt 25 = .ok (.iload_n 1, 1) := by decide +kernel
theorem dX9_byteAt_26 : decode cX9_byteAt 26 = .ok (.baload, 1) := by decide +kernel
theorem dX9_byteAt_27 : decode cX9_byteAt 27 = .ok (.sipush 255, 3) := by decide +kernel
theorem dX9_byteAt_30 : decode cX9_byteAt 30 = .ok (.iand, 1) := by decide +kernel
theorem dX9_byteAt_31 : decode cX9_byteAt 31 = .ok (.goto 4, 3) := by decide +kernel
theorem dX9_byteAt_34 : decode cX9_byteAt 34 = .ok (.iconst (-1), 1) := by decide +kernel
theorem dX9_byteAt_35 : decode cX9_byteAt 35 = .ok (.ireturn, 1) := by decide +kernel
set_option maxRecDepth 20000 in
theorem ggX10_init_X1_init : GoodIn wsX10_init wsX1_init := goodIn_r _ [33, 34, 2, 3, 35, 36, 37, 38, 39, 40, 41, 42, 43, 44, 45, 46, 47, 48, 49, 50, 51, 52, 53, 54, 55, 56, 57, 58, 59, 60, 61, 62, 63, 64, 65, 66, 6, 67, 68, 69, 70, 71, 72, 73, 74, 75, 76, 77, 78, 79, 80, 81, 161, 162, 163, 164, 118, 119, 120, 121, 122, 123] (by decide +kernel) (by decide +kernel)
set_option maxRecDepth 20000 in
theorem gX10_init_X1_init : GoodIn wsX10_init (wsX1_init) := ggX10_init_X1_init
set_option maxRecDepth 20000 in
theorem ggX10_init_X5_init : GoodIn wsX10_init wsX5_init := goodIn_r _ [84, 85, 2, 3, 86, 87, 5, 6, 88, 32, 33, 34, 35, 36, 37, 38, 39, 40, 41, 42, 43, 44, 45, 46, 47, 48, 49, 50, 51, 52, 53, 54, 55, 56, 57, 58, 59, 60, 61, 62, 63, 64, 65, 66, 67, 68, 69, 70, 71, 72, 73, 74, 75, 76, 77, 78, 79, 80, 81, 137, 138, 139, 118, 119, 120, 121, 122, 123, 161, 162, 163, 164] (by decide +kernel) (by decide +kernel)
set_option maxRecDepth 20000 in
theorem gX10_init_X5_init : GoodIn wsX10_init (wsX5_init) := ggX10_init_X5_init
set_option maxRecDepth 20000 in
theorem ggX10_init_X9_init : GoodIn wsX10_init wsX9_init := goodIn_r _ [91, 92, 2, 3, 93, 94, 140, 141] (by decide +kernel) (by decide +kernel)
set_option maxRecDepth 20000 in
theorem gX10_init_X9_init : GoodIn wsX10_init (wsX9_init) := ggX10_init_X9_init
set_option maxRecDepth 20000 in
theorem ggX10_init_X6_init : GoodIn wsX10_init wsX6_init := goodIn_r _ [97, 98, 2, 3, 99, 100, 5, 6, 101, 102, 103, 104, 32, 33, 34, 35, 36, 37, 38, 39, 40, 41, 42, 43, 44, 45, 46, 47, 48, 49, 50, 51, 52, 53, 54, 55, 56, 57, 58, 59, 60, 61, 62, 63, 64, 65, 66, 67, 68, 69, 70, 71, 72, 73, 74, 75, 76, 77, 78, 79, 80, 81, 142, 143, 144, 145, 146, 147, 148, 149, 150, 151, 118, 119, 120, 121, 122, 123, 161, 162, 163, 164] (by decide +kernel) (by decide +kernel)
set_option maxRecDepth 20000 in
theorem gX10_init_X6_init : GoodIn wsX10_init (wsX6_init) := ggX10_init_X6_init
set_option maxRecDepth 20000 in
theorem ggX10_init_X7_init : GoodIn wsX10_init wsX7_init := goodIn_r _ [107, 108, 2, 3, 102, 109, 110, 111, 23, 112, 152, 153, 154, 155, 156, 157, 158] (by decide +kernel) (by decide +kernel)
set_option maxRecDepth 20000 in
theorem gX10_init_X7_init : GoodIn wsX10_init (wsX7_init) := ggX10_init_X7_init
set_option maxRecDepth 20000 in
theorem ggX10_init_X3_init : GoodIn wsX10_init wsX3_init := goodIn_r _ [115, 116, 2, 3, 102, 117, 159, 160] (by decide +kernel) (by decide +kernel)
set_option maxRecDepth 20000 in
theorem gX10_init_X3_init : GoodIn wsX10_init (wsX3_init) := ggX10_init_X3_init
theorem dX10_init_0 : decode cX10_init 0 = .ok (.aload_n 0, 1) := by decide +kernel
theorem dX10_init_1 : decode cX10_init 1 = .ok (.invokespecial 1, 3) := by decide +kernel
theorem dX10_init_4 : decode cX10_init 4 = .ok (.aload_n 0, 1) := by decide +kernel
theorem dX10_init_5 : decode cX10_init 5 = .ok (.new 7, 3) := by decide +kernel
theorem dX10_init_8 : decode cX10_init 8 = .ok (.dup, 1) := by decide +kernel
theorem dX10_init_9 : decode cX10_init 9 = .ok (.invokespecial 9, 3) := by decide +kernel
theorem dX10_init_12 : decode cX10_init 12 = .ok (.putfield 10, 3) := by decide +kernel
theorem dX10_init_15 : decode cX10_init 15 = .ok (.aload_n 0, 1) := by decide +kernel
theorem dX10_init_16 : decode cX10_init 16 = .ok (.new 16, 3) := by decide +kernel
theorem dX10_init_19 : decode cX10_init 19 = .ok (.dup, 1) := by decide +kernel
theorem dX10_init_20 : decode cX10_init 20 = .ok (.invokespecial 18, 3) := by decide +kernel
theorem dX10_init_23 : decode cX10_init 23 = .ok (.putfield 19, 3) := by decide +kernel
theorem dX10_init_26 : decode cX10_init 26 = .ok (.aload_n 0, 1) := by decide +kernel
theorem dX10_init_27 : decode cX10_init 27 = .ok (.iconst 2, 1) := by decide +kernel
theorem dX10_init_28 : decode cX10_init 28 = .ok (.anewarray 7, 3) := by decide +kernel
theorem dX10_init_31 : decode cX10_init 31 = .ok (.putfield 23, 3) := by decide +kernel
theorem dX10_init_34 : decode cX10_init 34 = .ok (.iconst 0, 1) := by decide +kernel
theorem dX10_init_35 : decode cX10_init 35 = .ok (.istore_n 1, 1) := by decide +kernel
theorem dX10_init_36 : decode cX10_init 36 = .ok (.iload_n 1, 1) := by decide +kernel
theorem dX10_init_37 : decode cX10_init 37 = .ok (.aload_n 0, 1) := by decide +kernel
theorem dX10_init_38 : decode cX10_init 38 = .ok (.getfield 23, 3) := by decide +kernel
theorem dX10_init_41 : decode cX10_init 41 = .ok (.arraylength, 1) := by decide +kernel
theorem dX10_init_42 : decode cX10_init 42 = .ok (.if_icmp .ge 22, 3) := by decide +kernel
theorem dX10_init_45 : decode cX10_init 45 = .ok (.aload_n 0, 1) := by decide +kernel
theorem dX10_init_46 : decode cX10_init 46 = .ok (.getfield 23, 3) := by decide +kernel
theorem dX10_init_49 : decode cX10_init 49 = .ok (.iload_n 1, 1) := by decide +kernel
theorem dX10_init_50 : decode cX10_init 50 = .ok (.new 7, 3) := by decide +kernel
theorem dX10_init_53 : decode cX10_init 53 = .ok (.dup, 1) := by decide +kernel
theorem dX10_init_54 : decode cX10_init 54 = .ok (.invokespecial 9, 3) := by decide +kernel
theorem dX10_init_57 : decode cX10_init 57 = .ok (.aastore, 1) := by decide +kernel
theorem dX10_init_58 : decode cX10_init 58 = .ok (.iinc 1 1, 3) := by decide +kernel
theorem dX10_init_61 : decode cX10_init 61 = .ok (.goto (-25), 3) := by decide +kernel
theorem dX10_init_64 : decode cX10_init 64 = .ok (.aload_n 0, 1) := by decide +kernel
theorem dX10_init_65 : decode cX10_init 65 = .ok (.new 27, 3) := by decide +kernel
theorem dX10_init_68 : decode cX10_init 68 = .ok (.dup, 1) := by decide +kernel
theorem dX10_init_69 : decode cX10_init 69 = .ok (.invokespecial 29, 3) := by decide +kernel
theorem dX10_init_72 : decode cX10_init 72 = .ok (.putfield 30, 3) := by decide +kernel
theorem dX10_init_75 : decode cX10_init 75 = .ok (.aload_n 0, 1) := by decide +kernel
theorem dX10_init_76 : decode cX10_init 76 = .ok (.new 34, 3) := by decide +kernel
theorem dX10_init_79 : decode cX10_init 79 = .ok (.dup, 1) := by decide +kernel
theorem dX10_init_80 : decode cX10_init 80 = .ok (.aload_n 0, 1) := by decide +kernel
theorem dX10_init_81 : decode cX10_init 81 = .ok (.getfield 30, 3) := by decide +kernel
theorem dX10_init_84 : decode cX10_init 84 = .ok (.invokespecial 36, 3) := by decide +kernel
theorem dX10_init_87 : decode cX10_init 87 = .ok (.putfield 39, 3) := by decide +kernel
theorem dX10_init_90 : decode cX10_init 90 = .ok (.aload_n 0, 1) := by decide +kernel
theorem dX10_init_91 : decode cX10_init 91 = .ok (.new 43, 3) := by decide +kernel
theorem dX10_init_94 : decode cX10_init 94 = .ok (.dup, 1) := by decide +kernel
theorem dX10_init_95 : decode cX10_init 95 = .ok (.invokespecial 45, 3) := by decide +kernel
theorem dX10_init_98 : decode cX10_init 98 = .ok (.putfield 46, 3) := by decide +kernel
theorem dX10_init_101 : decode cX10_init 101 = .ok (.aload_n 0, 1) := by decide +kernel
theorem dX10_init_102 : decode cX10_init 102 = .ok (.new 50, 3) := by decide +kernel
theorem dX10_init_105 : decode cX10_init 105 = .ok (.dup, 1) := by decide +kernel
theorem dX10_init_106 : decode cX10_init 106 = .ok (.invokespecial 52, 3) := by decide +kernel
theorem dX10_init_109 : decode cX10_init 109 = .ok (.putfield 53, 3) := by decide +kernel
theorem dX10_init_112 : decode cX10_init 112 = .ok (.aload_n 0, 1) := by decide +kernel
theorem dX10_init_113 : decode cX10_init 113 = .ok (.lconst 0, 1) := by decide +kernel
theorem dX10_init_114 : decode cX10_init 114 = .ok (.putfield 57, 3) := by decide +kernel
theorem dX10_init_117 : decode cX10_init 117 = .ok (.aload_n 0, 1) := by decide +kernel
theorem dX10_init_118 : decode cX10_init 118 = .ok (.lconst 1, 1) := by decide +kernel
theorem dX10_init_119 : decode cX10_init 119 = .ok (.putfield 61, 3) := by decide +kernel
theorem dX10_init_122 : decode cX10_init 122 = .ok (.return_, 1) := by decide +kernel
set_option maxRecDepth 20000 in
theorem ggX10_one_X1_tellOne : GoodIn wsX10_one wsX1_tellOne := goodIn_r _ [6, 7, 8, 9, 10, 11, 12, 13, 14, 15, 16, 17, 18, 19, 20, 21, 22, 23, 24, 25, 5, 26, 27, 28, 29, 30, 31, 32, 33, 34, 35, 36, 37, 38, 39, 40, 41, 42, 43, 44, 45, 46, 47, 68, 69, 70, 71, 72, 73, 74, 75, 76, 77] (by decide +kernel) (by decide +kernel)
set_option maxRecDepth 20000 in
theorem gX10_one_X1_tellOne : GoodIn wsX10_one (wsV RX10 64 RX1 yX1_tellOne wsX1_tellOne) := goodIn_app (goodIn_of _ (by decide +kernel)) ggX10_one_X1_tellOne
set_option maxRecDepth 20000 in
theorem ggX10_one_X10_counted : GoodIn wsX10_one wsX10_counted := goodIn_r _ [51, 52, 53, 54, 55, 56, 57, 58, 59, 60, 61, 62, 63, 64, 65, 66, 67] (by decide +kernel) (by decide +kernel)
set_option maxRecDepth 20000 in
theorem gX10_one_X10_counted : GoodIn wsX10_one (wsV RX10 68 RX10 yX10_counted wsX10_counted) := goodIn_app (goodIn_of _ (by decide +kernel)) ggX10_one_X10_counted
theorem dX10_one_0 : decode cX10_one 0 = .ok (.aload_n 0, 1) := by decide +kernel
theorem dX10_one_1 : decode cX10_one 1 = .ok (.aload_n 0, 1) := by decide +kernel
theorem dX10_one_2 : decode cX10_one 2 = .ok (.getfield 10, 3) := by decide +kernel
theorem dX10_one_5 : decode cX10_one 5 = .ok (.lload_n 1, 1) := by decide +kernel
theorem dX10_one_6 : decode cX10_one 6 = .ok (.iload_n 3, 1) := by decide +kernel
theorem dX10_one_7 : decode cX10_one 7 = .ok (.iload 4, 2) := by decide +kernel
theorem dX10_one_9 : decode cX10_one 9 = .ok (.iload 5, 2) := by decide +kernel
theorem dX10_one_11 : decode cX10_one 11 = .ok (.iload 6, 2) := by decide +kernel
theorem dX10_one_13 : decode cX10_one 13 = .ok (.iload 7, 2) := by decide +kernel
theorem dX10_one_15 : decode cX10_one 15 = .ok (.invokevirtual 64, 3) := by decide +kernel
theorem dX10_one_18 : decode cX10_one 18 = .ok (.invokevirtual 68, 3) := by decide +kernel
theorem dX10_one_21 : decode cX10_one 21 = .ok (.ireturn, 1) := by decide +kernel
set_option maxRecDepth 20000 in
theorem ggX10_put_X1_tellSetting : GoodIn wsX10_put wsX1_tellSetting := goodIn_r _ [6, 7, 8, 9, 10, 11, 12, 13, 14, 15, 16, 17, 5, 18, 19, 20, 21, 22, 23, 24, 25, 26, 27, 28, 29, 50, 51, 52, 53, 54, 55, 56, 57, 58, 59] (by decide +kernel) (by decide +kernel)
set_option maxRecDepth 20000 in
theorem gX10_put_X1_tellSetting : GoodIn wsX10_put (wsV RX10 72 RX1 yX1_tellSetting wsX1_tellSetting) := goodIn_app (goodIn_of _ (by decide +kernel)) ggX10_put_X1_tellSetting
set_option maxRecDepth 20000 in
theorem ggX10_put_X10_counted : GoodIn wsX10_put wsX10_counted := goodIn_r _ [33, 34, 35, 36, 37, 38, 39, 40, 41, 42, 43, 44, 45, 46, 47, 48, 49] (by decide +kernel) (by decide +kernel)
set_option maxRecDepth 20000 in
theorem gX10_put_X10_counted : GoodIn wsX10_put (wsV RX10 68 RX10 yX10_counted wsX10_counted) := goodIn_app (goodIn_of _ (by decide +kernel)) ggX10_put_X10_counted
theorem dX10_put_0 : decode cX10_put 0 = .ok (.aload_n 0, 1) := by decide +kernel
theorem dX10_put_1 : decode cX10_put 1 = .ok (.aload_n 0, 1) := by decide +kernel
theorem dX10_put_2 : decode cX10_put 2 = .ok (.getfield 10, 3) := by decide +kernel
theorem dX10_put_5 : decode cX10_put 5 = .ok (.iload_n 1, 1) := by decide +kernel
theorem dX10_put_6 : decode cX10_put 6 = .ok (.iload_n 2, 1) := by decide +kernel
theorem dX10_put_7 : decode cX10_put 7 = .ok (.invokevirtual 72, 3) := by decide +kernel
theorem dX10_put_10 : decode cX10_put 10 = .ok (.invokevirtual 68, 3) := by decide +kernel
theorem dX10_put_13 : decode cX10_put 13 = .ok (.ireturn, 1) := by decide +kernel
set_option maxRecDepth 20000 in
theorem ggX10_addTry_X1_tellTry : GoodIn wsX10_addTry wsX1_tellTry := goodIn_r _ [6, 7, 8, 9, 10, 11, 12, 13, 14, 15, 16, 17, 18, 19, 20, 21, 22, 23, 24, 25, 26, 27, 48, 49, 50, 51, 52, 53, 54, 55, 56, 57] (by decide +kernel) (by decide +kernel)
set_option maxRecDepth 20000 in
theorem gX10_addTry_X1_tellTry : GoodIn wsX10_addTry (wsV RX10 76 RX1 yX1_tellTry wsX1_tellTry) := goodIn_app (goodIn_of _ (by decide +kernel)) ggX10_addTry_X1_tellTry
set_option maxRecDepth 20000 in
theorem ggX10_addTry_X10_counted : GoodIn wsX10_addTry wsX10_counted := goodIn_r _ [31, 32, 33, 34, 35, 36, 37, 38, 39, 40, 41, 42, 43, 44, 45, 46, 47] (by decide +kernel) (by decide +kernel)
set_option maxRecDepth 20000 in
theorem gX10_addTry_X10_counted : GoodIn wsX10_addTry (wsV RX10 68 RX10 yX10_counted wsX10_counted) := goodIn_app (goodIn_of _ (by decide +kernel)) ggX10_addTry_X10_counted
theorem dX10_addTry_0 : decode cX10_addTry 0 = .ok (.aload_n 0, 1) := by decide +kernel
theorem dX10_addTry_1 : decode cX10_addTry 1 = .ok (.aload_n 0, 1) := by decide +kernel
theorem dX10_addTry_2 : decode cX10_addTry 2 = .ok (.getfield 10, 3) := by decide +kernel
theorem dX10_addTry_5 : decode cX10_addTry 5 = .ok (.iload_n 1, 1) := by decide +kernel
theorem dX10_addTry_6 : decode cX10_addTry 6 = .ok (.iload_n 2, 1) := by decide +kernel
theorem dX10_addTry_7 : decode cX10_addTry 7 = .ok (.iload_n 3, 1) := by decide +kernel
theorem dX10_addTry_8 : decode cX10_addTry 8 = .ok (.invokevirtual 76, 3) := by decide +kernel
theorem dX10_addTry_11 : decode cX10_addTry 11 = .ok (.invokevirtual 68, 3) := by decide +kernel
theorem dX10_addTry_14 : decode cX10_addTry 14 = .ok (.ireturn, 1) := by decide +kernel
set_option maxRecDepth 20000 in
theorem ggX10_held_X8_holds : GoodIn wsX10_held wsX8_holds := goodIn_r _ [7, 8, 61, 62, 63, 64] (by decide +kernel) (by decide +kernel)
set_option maxRecDepth 20000 in
theorem gX10_held_X8_holds : GoodIn wsX10_held (wsV RX10 84 RX8 yX8_holds wsX8_holds) := goodIn_app (goodIn_of _ (by decide +kernel)) ggX10_held_X8_holds
set_option maxRecDepth 20000 in
theorem ggX10_held_X10_within : GoodIn wsX10_held wsX10_within := goodIn_r _ [12] (by decide +kernel) (by decide +kernel)
set_option maxRecDepth 20000 in
theorem gX10_held_X10_within : GoodIn wsX10_held (va_wsS RX10 90 yX10_within wsX10_within) := goodIn_app (goodIn_of _ (by decide +kernel)) ggX10_held_X10_within
set_option maxRecDepth 20000 in
theorem ggX10_held_X10_counted : GoodIn wsX10_held wsX10_counted := goodIn_r _ [16, 17, 18, 19, 42, 43, 44, 45, 46, 47, 48, 49, 50, 51, 52, 53, 54] (by decide +kernel) (by decide +kernel)
set_option maxRecDepth 20000 in
theorem gX10_held_X10_counted : GoodIn wsX10_held (wsV RX10 68 RX10 yX10_counted wsX10_counted) := goodIn_app (goodIn_of _ (by decide +kernel)) ggX10_held_X10_counted
set_option maxRecDepth 20000 in
theorem ggX10_held_X1_strengthLeft : GoodIn wsX10_held wsX1_strengthLeft := goodIn_r _ [24, 25, 26, 27, 28, 29, 30, 31, 32, 33, 23, 34, 35, 36, 37, 38, 6, 39, 40, 41, 55, 56, 57, 58, 59, 60, 61, 62, 63, 64] (by decide +kernel) (by decide +kernel)
set_option maxRecDepth 20000 in
theorem gX10_held_X1_strengthLeft : GoodIn wsX10_held (wsV RX10 94 RX1 yX1_strengthLeft wsX1_strengthLeft) := goodIn_app (goodIn_of _ (by decide +kernel)) ggX10_held_X1_strengthLeft
theorem dX10_held_0 : decode cX10_held 0 = .ok (.aload_n 0, 1) := by decide +kernel
theorem dX10_held_1 : decode cX10_held 1 = .ok (.getfield 10, 3) := by decide +kernel
theorem dX10_held_4 : decode cX10_held 4 = .ok (.getfield 80, 3) := by decide +kernel
theorem dX10_held_7 : decode cX10_held 7 = .ok (.iload_n 1, 1) := by decide +kernel
theorem dX10_held_8 : decode cX10_held 8 = .ok (.invokevirtual 84, 3) := by decide +kernel
theorem dX10_held_11 : decode cX10_held 11 = .ok (.ifCond .eq 14, 3) := by decide +kernel
theorem dX10_held_14 : decode cX10_held 14 = .ok (.iload_n 2, 1) := by decide +kernel
theorem dX10_held_15 : decode cX10_held 15 = .ok (.iconst 0, 1) := by decide +kernel
theorem dX10_held_16 : decode cX10_held 16 = .ok (.sipush 999, 3) := by decide +kernel
theorem dX10_held_19 : decode cX10_held 19 = .ok (.invokestatic 90, 3) := by decide +kernel
theorem dX10_held_22 : decode cX10_held 22 = .ok (.ifCond .ne 10, 3) := by decide +kernel
theorem dX10_held_25 : decode cX10_held 25 = .ok (.aload_n 0, 1) := by decide +kernel
theorem dX10_held_26 : decode cX10_held 26 = .ok (.bipush (-2), 2) := by decide +kernel
theorem dX10_held_28 : decode cX10_held 28 = .ok (.invokevirtual 68, 3) := by decide +kernel
theorem dX10_held_31 : decode cX10_held 31 = .ok (.ireturn, 1) := by decide +kernel
theorem dX10_held_32 : decode cX10_held 32 = .ok (.aload_n 0, 1) := by decide +kernel
theorem dX10_held_33 : decode cX10_held 33 = .ok (.getfield 10, 3) := by decide +kernel
theorem dX10_held_36 : decode cX10_held 36 = .ok (.iload_n 1, 1) := by decide +kernel
theorem dX10_held_37 : decode cX10_held 37 = .ok (.iload_n 2, 1) := by decide +kernel
theorem dX10_held_38 : decode cX10_held 38 = .ok (.invokevirtual 94, 3) := by decide +kernel
theorem dX10_held_41 : decode cX10_held 41 = .ok (.ireturn, 1) := by decide +kernel
set_option maxRecDepth 20000 in
theorem ggX10_think_X8_holds : GoodIn wsX10_think wsX8_holds := goodIn_r _ [8, 9, 94, 95, 96, 97] (by decide +kernel) (by decide +kernel)
set_option maxRecDepth 20000 in
theorem gX10_think_X8_holds : GoodIn wsX10_think (wsV RX10 84 RX8 yX8_holds wsX8_holds) := goodIn_app (goodIn_of _ (by decide +kernel)) ggX10_think_X8_holds
set_option maxRecDepth 20000 in
theorem ggX10_think_X10_counted : GoodIn wsX10_think wsX10_counted := goodIn_r _ [14, 15, 16, 17, 75, 76, 77, 78, 79, 80, 81, 82, 83, 84, 85, 86, 87] (by decide +kernel) (by decide +kernel)
set_option maxRecDepth 20000 in
theorem gX10_think_X10_counted : GoodIn wsX10_think (wsV RX10 68 RX10 yX10_counted wsX10_counted) := goodIn_app (goodIn_of _ (by decide +kernel)) ggX10_think_X10_counted
set_option maxRecDepth 20000 in
theorem ggX10_think_X5_keep : GoodIn wsX10_think wsX5_keep := goodIn_r _ [22, 23, 24, 25, 26, 27, 28, 29, 30, 31, 21, 32, 33, 34, 35, 36, 37, 38, 39, 40, 41, 42, 43, 44, 45, 46, 47, 7, 48, 9, 49, 98, 99, 100, 88, 89, 90, 91, 92, 93, 94, 95, 96, 97] (by decide +kernel) (by decide +kernel)
set_option maxRecDepth 20000 in
theorem gX10_think_X5_keep : GoodIn wsX10_think (wsV RX10 97 RX5 yX5_keep wsX5_keep) := goodIn_app (goodIn_of _ (by decide +kernel)) ggX10_think_X5_keep
set_option maxRecDepth 20000 in
theorem ggX10_think_X1_thinkOf : GoodIn wsX10_think wsX1_thinkOf := goodIn_r _ [53, 54, 26, 27, 28, 40, 39, 55, 56, 57, 37, 58, 59, 60, 61, 62, 63, 64, 65, 43, 66, 67, 68, 7, 69, 70, 49, 71, 72, 73, 74, 88, 89, 90, 91, 92, 93, 94, 95, 96, 97] (by decide +kernel) (by decide +kernel)
set_option maxRecDepth 20000 in
theorem gX10_think_X1_thinkOf : GoodIn wsX10_think (wsV RX10 101 RX1 yX1_thinkOf wsX1_thinkOf) := goodIn_app (goodIn_of _ (by decide +kernel)) ggX10_think_X1_thinkOf
theorem dX10_think_0 : decode cX10_think 0 = .ok (.aload_n 0, 1) := by decide +kernel
theorem dX10_think_1 : decode cX10_think 1 = .ok (.getfield 10, 3) := by decide +kernel
theorem dX10_think_4 : decode cX10_think 4 = .ok (.getfield 80, 3) := by decide +kernel
theorem dX10_think_7 : decode cX10_think 7 = .ok (.iload_n 1, 1) := by decide +kernel
theorem dX10_think_8 : decode cX10_think 8 = .ok (.invokevirtual 84, 3) := by decide +kernel
theorem dX10_think_11 : decode cX10_think 11 = .ok (.ifCond .ne 10, 3) := by decide +kernel
theorem dX10_think_14 : decode cX10_think 14 = .ok (.aload_n 0, 1) := by decide +kernel
theorem dX10_think_15 : decode cX10_think 15 = .ok (.bipush (-2), 2) := by decide +kernel
theorem dX10_think_17 : decode cX10_think 17 = .ok (.invokevirtual 68, 3) := by decide +kernel
theorem dX10_think_20 : decode cX10_think 20 = .ok (.ireturn, 1) := by decide +kernel
theorem dX10_think_21 : decode cX10_think 21 = .ok (.aload_n 0, 1) := by decide +kernel
theorem dX10_think_22 : decode cX10_think 22 = .ok (.getfield 19, 3) := by decide +kernel
theorem dX10_think_25 : decode cX10_think 25 = .ok (.aload_n 0, 1) := by decide +kernel
theorem dX10_think_26 : decode cX10_think 26 = .ok (.getfield 10, 3) := by decide +kernel
theorem dX10_think_29 : decode cX10_think 29 = .ok (.invokevirtual 97, 3) := by decide +kernel
theorem dX10_think_32 : decode cX10_think 32 = .ok (.aload_n 0, 1) := by decide +kernel
theorem dX10_think_33 : decode cX10_think 33 = .ok (.getfield 10, 3) := by decide +kernel
theorem dX10_think_36 : decode cX10_think 36 = .ok (.iload_n 1, 1) := by decide +kernel
theorem dX10_think_37 : decode cX10_think 37 = .ok (.invokevirtual 101, 3) := by decide +kernel
theorem dX10_think_40 : decode cX10_think 40 = .ok (.ireturn, 1) := by decide +kernel
set_option maxRecDepth 20000 in
theorem ggX10_days_X10_within : GoodIn wsX10_days wsX10_within := goodIn_r _ [7] (by decide +kernel) (by decide +kernel)
set_option maxRecDepth 20000 in
theorem gX10_days_X10_within : GoodIn wsX10_days (va_wsS RX10 90 yX10_within wsX10_within) := goodIn_app (goodIn_of _ (by decide +kernel)) ggX10_days_X10_within
set_option maxRecDepth 20000 in
theorem ggX10_days_X10_counted : GoodIn wsX10_days wsX10_counted := goodIn_r _ [11, 12, 13, 14, 49, 50, 51, 52, 53, 54, 55, 56, 57, 58, 59, 60, 61] (by decide +kernel) (by decide +kernel)
set_option maxRecDepth 20000 in
theorem gX10_days_X10_counted : GoodIn wsX10_days (wsV RX10 68 RX10 yX10_counted wsX10_counted) := goodIn_app (goodIn_of _ (by decide +kernel)) ggX10_days_X10_counted
set_option maxRecDepth 20000 in
theorem ggX10_days_X5_keep : GoodIn wsX10_days wsX5_keep := goodIn_r _ [19, 20, 21, 22, 23, 24, 25, 26, 27, 28, 18, 29, 30, 31, 32, 33, 34, 35, 36, 37, 38, 39, 40, 41, 42, 43, 44, 45, 46, 47, 48, 68, 69, 70, 62, 63, 64, 65, 66, 67, 71, 72, 73, 74] (by decide +kernel) (by decide +kernel)
set_option maxRecDepth 20000 in
theorem gX10_days_X5_keep : GoodIn wsX10_days (wsV RX10 97 RX5 yX5_keep wsX5_keep) := goodIn_app (goodIn_of _ (by decide +kernel)) ggX10_days_X5_keep
theorem dX10_days_0 : decode cX10_days 0 = .ok (.iload_n 1, 1) := by decide +kernel
theorem dX10_days_1 : decode cX10_days 1 = .ok (.iconst 1, 1) := by decide +kernel
theorem dX10_days_2 : decode cX10_days 2 = .ok (.sipush 999, 3) := by decide +kernel
theorem dX10_days_5 : decode cX10_days 5 = .ok (.invokestatic 90, 3) := by decide +kernel
theorem dX10_days_8 : decode cX10_days 8 = .ok (.ifCond .ne 10, 3) := by decide +kernel
theorem dX10_days_11 : decode cX10_days 11 = .ok (.aload_n 0, 1) := by decide +kernel
theorem dX10_days_12 : decode cX10_days 12 = .ok (.bipush (-2), 2) := by decide +kernel
theorem dX10_days_14 : decode cX10_days 14 = .ok (.invokevirtual 68, 3) := by decide +kernel
theorem dX10_days_17 : decode cX10_days 17 = .ok (.ireturn, 1) := by decide +kernel
theorem dX10_days_18 : decode cX10_days 18 = .ok (.aload_n 0, 1) := by decide +kernel
theorem dX10_days_19 : decode cX10_days 19 = .ok (.getfield 10, 3) := by decide +kernel
theorem dX10_days_22 : decode cX10_days 22 = .ok (.getfield 104, 3) := by decide +kernel
theorem dX10_days_25 : decode cX10_days 25 = .ok (.iload_n 1, 1) := by decide +kernel
theorem dX10_days_26 : decode cX10_days 26 = .ok (.iadd, 1) := by decide +kernel
theorem dX10_days_27 : decode cX10_days 27 = .ok (.sipush 999, 3) := by decide +kernel
theorem dX10_days_30 : decode cX10_days 30 = .ok (.if_icmp .le 10, 3) := by decide +kernel
theorem dX10_days_33 : decode cX10_days 33 = .ok (.aload_n 0, 1) := by decide +kernel
theorem dX10_days_34 : decode cX10_days 34 = .ok (.bipush (-3), 2) := by decide +kernel
theorem dX10_days_36 : decode cX10_days 36 = .ok (.invokevirtual 68, 3) := by decide +kernel
theorem dX10_days_39 : decode cX10_days 39 = .ok (.ireturn, 1) := by decide +kernel
theorem dX10_days_40 : decode cX10_days 40 = .ok (.aload_n 0, 1) := by decide +kernel
theorem dX10_days_41 : decode cX10_days 41 = .ok (.getfield 19, 3) := by decide +kernel
theorem dX10_days_44 : decode cX10_days 44 = .ok (.aload_n 0, 1) := by decide +kernel
theorem dX10_days_45 : decode cX10_days 45 = .ok (.getfield 10, 3) := by decide +kernel
theorem dX10_days_48 : decode cX10_days 48 = .ok (.invokevirtual 97, 3) := by decide +kernel
theorem dX10_days_51 : decode cX10_days 51 = .ok (.aload_n 0, 1) := by decide +kernel
theorem dX10_days_52 : decode cX10_days 52 = .ok (.getfield 10, 3) := by decide +kernel
theorem dX10_days_55 : decode cX10_days 55 = .ok (.dup, 1) := by decide +kernel
theorem dX10_days_56 : decode cX10_days 56 = .ok (.getfield 104, 3) := by decide +kernel
theorem dX10_days_59 : decode cX10_days 59 = .ok (.iload_n 1, 1) := by decide +kernel
theorem dX10_days_60 : decode cX10_days 60 = .ok (.iadd, 1) := by decide +kernel
theorem dX10_days_61 : decode cX10_days 61 = .ok (.putfield 104, 3) := by decide +kernel
theorem dX10_days_64 : decode cX10_days 64 = .ok (.aload_n 0, 1) := by decide +kernel
theorem dX10_days_65 : decode cX10_days 65 = .ok (.getfield 10, 3) := by decide +kernel
theorem dX10_days_68 : decode cX10_days 68 = .ok (.getfield 104, 3) := by decide +kernel
theorem dX10_days_71 : decode cX10_days 71 = .ok (.ireturn, 1) := by decide +kernel
set_option maxRecDepth 20000 in
theorem ggX10_undo_X5_giveBack : GoodIn wsX10_undo wsX5_giveBack := goodIn_r _ [7, 8, 9, 10, 11, 12, 6, 13, 14, 15, 16, 17, 18, 19, 20, 21, 22, 23, 24, 25, 26, 27, 28, 29, 30, 31, 32, 54, 55, 56, 57, 58, 59, 60, 61, 62, 63, 64, 65, 66] (by decide +kernel) (by decide +kernel)
set_option maxRecDepth 20000 in
theorem gX10_undo_X5_giveBack : GoodIn wsX10_undo (wsV RX10 108 RX5 yX5_giveBack wsX5_giveBack) := goodIn_app (goodIn_of _ (by decide +kernel)) ggX10_undo_X5_giveBack
set_option maxRecDepth 20000 in
theorem ggX10_undo_X10_counted : GoodIn wsX10_undo wsX10_counted := goodIn_r _ [37, 38, 39, 40, 41, 42, 43, 44, 45, 46, 47, 48, 49, 50, 51, 52, 53] (by decide +kernel) (by decide +kernel)
set_option maxRecDepth 20000 in
theorem gX10_undo_X10_counted : GoodIn wsX10_undo (wsV RX10 68 RX10 yX10_counted wsX10_counted) := goodIn_app (goodIn_of _ (by decide +kernel)) ggX10_undo_X10_counted
theorem dX10_undo_0 : decode cX10_undo 0 = .ok (.aload_n 0, 1) := by decide +kernel
theorem dX10_undo_1 : decode cX10_undo 1 = .ok (.getfield 19, 3) := by decide +kernel
theorem dX10_undo_4 : decode cX10_undo 4 = .ok (.aload_n 0, 1) := by decide +kernel
theorem dX10_undo_5 : decode cX10_undo 5 = .ok (.getfield 10, 3) := by decide +kernel
theorem dX10_undo_8 : decode cX10_undo 8 = .ok (.invokevirtual 108, 3) := by decide +kernel
theorem dX10_undo_11 : decode cX10_undo 11 = .ok (.ifCond .eq 7, 3) := by decide +kernel
theorem dX10_undo_14 : decode cX10_undo 14 = .ok (.iconst 1, 1) := by decide +kernel
theorem dX10_undo_15 : decode cX10_undo 15 = .ok (.goto 9, 3) := by decide +kernel
theorem dX10_undo_18 : decode cX10_undo 18 = .ok (.aload_n 0, 1) := by decide +kernel
theorem dX10_undo_19 : decode cX10_undo 19 = .ok (.bipush (-3), 2) := by decide +kernel
theorem dX10_undo_21 : decode cX10_undo 21 = .ok (.invokevirtual 68, 3) := by decide +kernel
theorem dX10_undo_24 : decode cX10_undo 24 = .ok (.ireturn, 1) := by decide +kernel
set_option maxRecDepth 20000 in
theorem ggX10_type_X9_add : GoodIn wsX10_type wsX9_add := goodIn_r _ [6, 7, 8, 9, 10, 11, 12, 13, 14, 5, 15, 36, 37] (by decide +kernel) (by decide +kernel)
set_option maxRecDepth 20000 in
theorem gX10_type_X9_add : GoodIn wsX10_type (wsV RX10 112 RX9 yX9_add wsX9_add) := goodIn_app (goodIn_of _ (by decide +kernel)) ggX10_type_X9_add
set_option maxRecDepth 20000 in
theorem ggX10_type_X10_counted : GoodIn wsX10_type wsX10_counted := goodIn_r _ [19, 20, 21, 22, 23, 24, 25, 26, 27, 28, 29, 30, 31, 32, 33, 34, 35] (by decide +kernel) (by decide +kernel)
set_option maxRecDepth 20000 in
theorem gX10_type_X10_counted : GoodIn wsX10_type (wsV RX10 68 RX10 yX10_counted wsX10_counted) := goodIn_app (goodIn_of _ (by decide +kernel)) ggX10_type_X10_counted
theorem dX10_type_0 : decode cX10_type 0 = .ok (.aload_n 0, 1) := by decide +kernel
theorem dX10_type_1 : decode cX10_type 1 = .ok (.aload_n 0, 1) := by decide +kernel
theorem dX10_type_2 : decode cX10_type 2 = .ok (.getfield 30, 3) := by decide +kernel
theorem dX10_type_5 : decode cX10_type 5 = .ok (.lload_n 1, 1) := by decide +kernel
theorem dX10_type_6 : decode cX10_type 6 = .ok (.iload_n 3, 1) := by decide +kernel
theorem dX10_type_7 : decode cX10_type 7 = .ok (.invokevirtual 112, 3) := by decide +kernel
theorem dX10_type_10 : decode cX10_type 10 = .ok (.invokevirtual 68, 3) := by decide +kernel
theorem dX10_type_13 : decode cX10_type 13 = .ok (.ireturn, 1) := by decide +kernel
set_option maxRecDepth 20000 in
theorem ggX10_clear_X9_empty : GoodIn wsX10_clear wsX9_empty := goodIn_r _ [6, 7, 21, 22] (by decide +kernel) (by decide +kernel)
set_option maxRecDepth 20000 in
theorem gX10_clear_X9_empty : GoodIn wsX10_clear (wsV RX10 116 RX9 yX9_empty wsX9_empty) := goodIn_app (goodIn_of _ (by decide +kernel)) ggX10_clear_X9_empty
theorem dX10_clear_0 : decode cX10_clear 0 = .ok (.aload_n 0, 1) := by decide +kernel
theorem dX10_clear_1 : decode cX10_clear 1 = .ok (.getfield 30, 3) := by decide +kernel
theorem dX10_clear_4 : decode cX10_clear 4 = .ok (.invokevirtual 116, 3) := by decide +kernel
theorem dX10_clear_7 : decode cX10_clear 7 = .ok (.ireturn, 1) := by decide +kernel
set_option maxRecDepth 20000 in
theorem ggX10_read_X6_readInto : GoodIn wsX10_read wsX6_readInto := goodIn_r _ [8, 9, 10, 11, 12, 13, 14, 15, 16, 17, 18, 19, 20, 21, 22, 23, 24, 25, 26, 27, 28, 29, 30, 31, 32, 33, 34, 35, 36, 37, 38, 39, 40, 41, 42, 43, 44, 45, 7, 46, 47, 48, 49, 50, 51, 52, 53, 54, 55, 56, 57, 58, 59, 60, 61, 62, 63, 64, 65, 66, 67, 68, 69, 70, 71, 72, 73, 74, 75, 76, 77, 78, 79, 80, 81, 82, 83, 84, 85, 86, 87, 88, 89, 90, 91, 92, 93, 94, 95, 96, 97, 98, 99, 100, 101, 102, 103, 104, 105, 106, 107, 108, 109, 110, 111, 112, 113, 114, 115, 116, 117, 118, 119, 120, 121, 122, 123, 124, 125, 126, 127, 128, 129, 130, 131, 132, 133, 134, 135, 136, 137, 138, 139, 140, 141, 142, 143, 144, 145, 146, 147, 148, 149, 150, 151, 152, 153, 154, 155, 156, 157, 158, 159, 160, 161, 162, 163, 164, 165, 166, 167, 168, 169, 170, 171, 172, 173, 174, 175, 176, 177, 178, 179, 180, 181, 182, 183, 184, 185, 186, 187, 188, 189, 190, 191, 192, 193, 194, 195, 196, 197, 198, 199, 200, 201, 202, 203, 204, 205, 206, 207, 208, 209, 210, 211, 212, 213, 214, 215, 216, 236, 237, 238, 239, 240, 241, 242, 243, 244, 245, 246, 247, 248, 249, 250, 251, 252, 253, 254, 255, 256, 257] (by decide +kernel) (by decide +kernel)
set_option maxRecDepth 20000 in
theorem gX10_read_X6_readInto : GoodIn wsX10_read (wsV RX10 120 RX6 yX6_readInto wsX6_readInto) := goodIn_app (goodIn_of _ (by decide +kernel)) ggX10_read_X6_readInto
set_option maxRecDepth 20000 in
theorem ggX10_read_X5_forget : GoodIn wsX10_read wsX5_forget := goodIn_r _ [221, 222, 258, 259, 260] (by decide +kernel) (by decide +kernel)
set_option maxRecDepth 20000 in
theorem gX10_read_X5_forget : GoodIn wsX10_read (wsV RX10 124 RX5 yX5_forget wsX5_forget) := goodIn_app (goodIn_of _ (by decide +kernel)) ggX10_read_X5_forget
theorem dX10_read_0 : decode cX10_read 0 = .ok (.aload_n 0, 1) := by decide +kernel
theorem dX10_read_1 : decode cX10_read 1 = .ok (.getfield 39, 3) := by decide +kernel
theorem dX10_read_4 : decode cX10_read 4 = .ok (.aload_n 0, 1) := by decide +kernel
theorem dX10_read_5 : decode cX10_read 5 = .ok (.getfield 10, 3) := by decide +kernel
theorem dX10_read_8 : decode cX10_read 8 = .ok (.invokevirtual 120, 3) := by decide +kernel
theorem dX10_read_11 : decode cX10_read 11 = .ok (.istore_n 1, 1) := by decide +kernel
theorem dX10_read_12 : decode cX10_read 12 = .ok (.iload_n 1, 1) := by decide +kernel
theorem dX10_read_13 : decode cX10_read 13 = .ok (.ifCond .lt 10, 3) := by decide +kernel
theorem dX10_read_16 : decode cX10_read 16 = .ok (.aload_n 0, 1) := by decide +kernel
theorem dX10_read_17 : decode cX10_read 17 = .ok (.getfield 19, 3) := by decide +kernel
theorem dX10_read_20 : decode cX10_read 20 = .ok (.invokevirtual 124, 3) := by decide +kernel
theorem dX10_read_23 : decode cX10_read 23 = .ok (.iload_n 1, 1) := by decide +kernel
theorem dX10_read_24 : decode cX10_read 24 = .ok (.ireturn, 1) := by decide +kernel
set_option maxRecDepth 20000 in
theorem ggX10_comes_X8_holds : GoodIn wsX10_comes wsX8_holds := goodIn_r _ [9, 10, 109, 110, 111, 112] (by decide +kernel) (by decide +kernel)
set_option maxRecDepth 20000 in
theorem gX10_comes_X8_holds : GoodIn wsX10_comes (wsV RX10 84 RX8 yX8_holds wsX8_holds) := goodIn_app (goodIn_of _ (by decide +kernel)) ggX10_comes_X8_holds
set_option maxRecDepth 20000 in
theorem ggX10_comes_X7_go : GoodIn wsX10_comes wsX7_go := goodIn_r _ [15, 16, 17, 18, 19, 20, 21, 22, 23, 24, 25, 26, 27, 28, 29, 30, 31, 32, 33, 34, 35, 36, 37, 38, 39, 40, 41, 42, 43, 8, 44, 45, 46, 47, 6, 7, 9, 10, 48, 49, 50, 51, 52, 53, 14, 54, 55, 56, 57, 58, 59, 60, 61, 62, 63, 64, 65, 113, 114, 115, 116, 117, 118, 119, 103, 104, 105, 106, 107, 108, 109, 110, 111, 112] (by decide +kernel) (by decide +kernel)
set_option maxRecDepth 20000 in
theorem gX10_comes_X7_go : GoodIn wsX10_comes (wsV RX10 127 RX7 yX7_go wsX7_go) := goodIn_app (goodIn_of _ (by decide +kernel)) ggX10_comes_X7_go
set_option maxRecDepth 20000 in
theorem ggX10_comes_X10_counted : GoodIn wsX10_comes wsX10_counted := goodIn_r _ [69, 70, 71, 72, 90, 91, 92, 93, 94, 95, 96, 97, 98, 99, 100, 101, 102] (by decide +kernel) (by decide +kernel)
set_option maxRecDepth 20000 in
theorem gX10_comes_X10_counted : GoodIn wsX10_comes (wsV RX10 68 RX10 yX10_counted wsX10_counted) := goodIn_app (goodIn_of _ (by decide +kernel)) ggX10_comes_X10_counted
set_option maxRecDepth 20000 in
theorem ggX10_comes_X7_brings : GoodIn wsX10_comes wsX7_brings := goodIn_r _ [76, 21, 22, 113, 114, 115, 116, 117, 118, 119] (by decide +kernel) (by decide +kernel)
set_option maxRecDepth 20000 in
theorem gX10_comes_X7_brings : GoodIn wsX10_comes (wsV RX10 131 RX7 yX7_brings wsX7_brings) := goodIn_app (goodIn_of _ (by decide +kernel)) ggX10_comes_X7_brings
set_option maxRecDepth 20000 in
theorem ggX10_comes_X10_setFraction : GoodIn wsX10_comes wsX10_setFraction := goodIn_r _ [80, 81, 82, 83, 84, 49, 85, 90, 91, 92, 93, 94, 95, 96, 97, 98, 99, 100, 101, 102] (by decide +kernel) (by decide +kernel)
set_option maxRecDepth 20000 in
theorem gX10_comes_X10_setFraction : GoodIn wsX10_comes (wsV RX10 137 RX10 yX10_setFraction wsX10_setFraction) := goodIn_app (goodIn_of _ (by decide +kernel)) ggX10_comes_X10_setFraction
set_option maxRecDepth 20000 in
theorem ggX10_comes_X7_seconds : GoodIn wsX10_comes wsX7_seconds := goodIn_r _ [89, 17, 113, 114, 115, 116, 117, 118, 119] (by decide +kernel) (by decide +kernel)
set_option maxRecDepth 20000 in
theorem gX10_comes_X7_seconds : GoodIn wsX10_comes (wsV RX10 141 RX7 yX7_seconds wsX7_seconds) := goodIn_app (goodIn_of _ (by decide +kernel)) ggX10_comes_X7_seconds
theorem dX10_comes_0 : decode cX10_comes 0 = .ok (.aload_n 0, 1) := by decide +kernel
theorem dX10_comes_1 : decode cX10_comes 1 = .ok (.getfield 10, 3) := by decide +kernel
theorem dX10_comes_4 : decode cX10_comes 4 = .ok (.getfield 80, 3) := by decide +kernel
theorem dX10_comes_7 : decode cX10_comes 7 = .ok (.iload_n 1, 1) := by decide +kernel
theorem dX10_comes_8 : decode cX10_comes 8 = .ok (.invokevirtual 84, 3) := by decide +kernel
theorem dX10_comes_11 : decode cX10_comes 11 = .ok (.ifCond .eq 19, 3) := by decide +kernel
theorem dX10_comes_14 : decode cX10_comes 14 = .ok (.aload_n 0, 1) := by decide +kernel
theorem dX10_comes_15 : decode cX10_comes 15 = .ok (.getfield 46, 3) := by decide +kernel
theorem dX10_comes_18 : decode cX10_comes 18 = .ok (.aload_n 0, 1) := by decide +kernel
theorem dX10_comes_19 : decode cX10_comes 19 = .ok (.getfield 10, 3) := by decide +kernel
theorem dX10_comes_22 : decode cX10_comes 22 = .ok (.iload_n 1, 1) := by decide +kernel
theorem dX10_comes_23 : decode cX10_comes 23 = .ok (.iload_n 2, 1) := by decide +kernel
theorem dX10_comes_24 : decode cX10_comes 24 = .ok (.invokevirtual 127, 3) := by decide +kernel
theorem dX10_comes_27 : decode cX10_comes 27 = .ok (.ifCond .ne 10, 3) := by decide +kernel
theorem dX10_comes_30 : decode cX10_comes 30 = .ok (.aload_n 0, 1) := by decide +kernel
theorem dX10_comes_31 : decode cX10_comes 31 = .ok (.bipush (-2), 2) := by decide +kernel
theorem dX10_comes_33 : decode cX10_comes 33 = .ok (.invokevirtual 68, 3) := by decide +kernel
theorem dX10_comes_36 : decode cX10_comes 36 = .ok (.ireturn, 1) := by decide +kernel
theorem dX10_comes_37 : decode cX10_comes 37 = .ok (.aload_n 0, 1) := by decide +kernel
theorem dX10_comes_38 : decode cX10_comes 38 = .ok (.aload_n 0, 1) := by decide +kernel
theorem dX10_comes_39 : decode cX10_comes 39 = .ok (.getfield 46, 3) := by decide +kernel
theorem dX10_comes_42 : decode cX10_comes 42 = .ok (.invokevirtual 131, 3) := by decide +kernel
theorem dX10_comes_45 : decode cX10_comes 45 = .ok (.ldc2_w 135, 3) := by decide +kernel
theorem dX10_comes_48 : decode cX10_comes 48 = .ok (.invokevirtual 137, 3) := by decide +kernel
theorem dX10_comes_51 : decode cX10_comes 51 = .ok (.aload_n 0, 1) := by decide +kernel
theorem dX10_comes_52 : decode cX10_comes 52 = .ok (.getfield 46, 3) := by decide +kernel
theorem dX10_comes_55 : decode cX10_comes 55 = .ok (.invokevirtual 141, 3) := by decide +kernel
theorem dX10_comes_58 : decode cX10_comes 58 = .ok (.ireturn, 1) := by decide +kernel
set_option maxRecDepth 20000 in
theorem ggX10_best_X8_holds : GoodIn wsX10_best wsX8_holds := goodIn_r _ [9, 10, 114, 115, 116, 117] (by decide +kernel) (by decide +kernel)
set_option maxRecDepth 20000 in
theorem gX10_best_X8_holds : GoodIn wsX10_best (wsV RX10 84 RX8 yX8_holds wsX8_holds) := goodIn_app (goodIn_of _ (by decide +kernel)) ggX10_best_X8_holds
set_option maxRecDepth 20000 in
theorem ggX10_best_X10_within : GoodIn wsX10_best wsX10_within := goodIn_r _ [14] (by decide +kernel) (by decide +kernel)
set_option maxRecDepth 20000 in
theorem gX10_best_X10_within : GoodIn wsX10_best (va_wsS RX10 90 yX10_within wsX10_within) := goodIn_app (goodIn_of _ (by decide +kernel)) ggX10_best_X10_within
set_option maxRecDepth 20000 in
theorem ggX10_best_X10_counted : GoodIn wsX10_best wsX10_counted := goodIn_r _ [18, 19, 20, 21, 95, 96, 97, 98, 99, 100, 101, 102, 103, 104, 105, 106, 107] (by decide +kernel) (by decide +kernel)
set_option maxRecDepth 20000 in
theorem gX10_best_X10_counted : GoodIn wsX10_best (wsV RX10 68 RX10 yX10_counted wsX10_counted) := goodIn_app (goodIn_of _ (by decide +kernel)) ggX10_best_X10_counted
set_option maxRecDepth 20000 in
theorem ggX10_best_X7_bestOf : GoodIn wsX10_best wsX7_bestOf := goodIn_r _ [26, 27, 28, 29, 30, 31, 32, 33, 34, 25, 35, 36, 37, 38, 39, 40, 41, 42, 43, 44, 45, 46, 47, 48, 49, 50, 51, 52, 53, 54, 55, 56, 57, 58, 59, 8, 60, 61, 62, 63, 6, 7, 9, 10, 64, 13, 65, 66, 67, 68, 69, 70, 71, 72, 73, 74, 75, 76, 77, 78, 79, 80, 118, 119, 120, 121, 122, 123, 124, 108, 109, 110, 111, 112, 113, 114, 115, 116, 117] (by decide +kernel) (by decide +kernel)
set_option maxRecDepth 20000 in
theorem gX10_best_X7_bestOf : GoodIn wsX10_best (wsV RX10 144 RX7 yX7_bestOf wsX7_bestOf) := goodIn_app (goodIn_of _ (by decide +kernel)) ggX10_best_X7_bestOf
set_option maxRecDepth 20000 in
theorem ggX10_best_X7_go : GoodIn wsX10_best wsX7_go := goodIn_r _ [35, 36, 29, 37, 38, 30, 27, 31, 39, 40, 41, 42, 43, 44, 45, 46, 47, 48, 49, 50, 51, 52, 53, 54, 55, 56, 57, 58, 59, 8, 60, 61, 62, 63, 6, 7, 9, 10, 64, 13, 65, 66, 67, 68, 25, 69, 70, 71, 72, 73, 74, 75, 76, 77, 78, 79, 80, 118, 119, 120, 121, 122, 123, 124, 108, 109, 110, 111, 112, 113, 114, 115, 116, 117] (by decide +kernel) (by decide +kernel)
set_option maxRecDepth 20000 in
theorem gX10_best_X7_go : GoodIn wsX10_best (wsV RX10 127 RX7 yX7_go wsX7_go) := goodIn_app (goodIn_of _ (by decide +kernel)) ggX10_best_X7_go
set_option maxRecDepth 20000 in
theorem ggX10_best_X7_brings : GoodIn wsX10_best wsX7_brings := goodIn_r _ [85, 27, 31, 118, 119, 120, 121, 122, 123, 124] (by decide +kernel) (by decide +kernel)
set_option maxRecDepth 20000 in
theorem gX10_best_X7_brings : GoodIn wsX10_best (wsV RX10 131 RX7 yX7_brings wsX7_brings) := goodIn_app (goodIn_of _ (by decide +kernel)) ggX10_best_X7_brings
set_option maxRecDepth 20000 in
theorem ggX10_best_X10_setFraction : GoodIn wsX10_best wsX10_setFraction := goodIn_r _ [89, 90, 91, 92, 93, 13, 94, 95, 96, 97, 98, 99, 100, 101, 102, 103, 104, 105, 106, 107] (by decide +kernel) (by decide +kernel)
set_option maxRecDepth 20000 in
theorem gX10_best_X10_setFraction : GoodIn wsX10_best (wsV RX10 137 RX10 yX10_setFraction wsX10_setFraction) := goodIn_app (goodIn_of _ (by decide +kernel)) ggX10_best_X10_setFraction
theorem dX10_best_0 : decode cX10_best 0 = .ok (.aload_n 0, 1) := by decide +kernel
theorem dX10_best_1 : decode cX10_best 1 = .ok (.getfield 10, 3) := by decide +kernel
theorem dX10_best_4 : decode cX10_best 4 = .ok (.getfield 80, 3) := by decide +kernel
theorem dX10_best_7 : decode cX10_best 7 = .ok (.iload_n 1, 1) := by decide +kernel
theorem dX10_best_8 : decode cX10_best 8 = .ok (.invokevirtual 84, 3) := by decide +kernel
theorem dX10_best_11 : decode cX10_best 11 = .ok (.ifCond .eq 13, 3) := by decide +kernel
theorem dX10_best_14 : decode cX10_best 14 = .ok (.iload_n 2, 1) := by decide +kernel
theorem dX10_best_15 : decode cX10_best 15 = .ok (.iconst 0, 1) := by decide +kernel
theorem dX10_best_16 : decode cX10_best 16 = .ok (.bipush 60, 2) := by decide +kernel
theorem dX10_best_18 : decode cX10_best 18 = .ok (.invokestatic 90, 3) := by decide +kernel
theorem dX10_best_21 : decode cX10_best 21 = .ok (.ifCond .ne 10, 3) := by decide +kernel
theorem dX10_best_24 : decode cX10_best 24 = .ok (.aload_n 0, 1) := by decide +kernel
theorem dX10_best_25 : decode cX10_best 25 = .ok (.bipush (-2), 2) := by decide +kernel
theorem dX10_best_27 : decode cX10_best 27 = .ok (.invokevirtual 68, 3) := by decide +kernel
theorem dX10_best_30 : decode cX10_best 30 = .ok (.ireturn, 1) := by decide +kernel
theorem dX10_best_31 : decode cX10_best 31 = .ok (.aload_n 0, 1) := by decide +kernel
theorem dX10_best_32 : decode cX10_best 32 = .ok (.getfield 46, 3) := by decide +kernel
theorem dX10_best_35 : decode cX10_best 35 = .ok (.aload_n 0, 1) := by decide +kernel
theorem dX10_best_36 : decode cX10_best 36 = .ok (.getfield 10, 3) := by decide +kernel
theorem dX10_best_39 : decode cX10_best 39 = .ok (.iload_n 1, 1) := by decide +kernel
theorem dX10_best_40 : decode cX10_best 40 = .ok (.iload_n 2, 1) := by decide +kernel
theorem dX10_best_41 : decode cX10_best 41 = .ok (.iconst 1, 1) := by decide +kernel
theorem dX10_best_42 : decode cX10_best 42 = .ok (.invokevirtual 144, 3) := by decide +kernel
theorem dX10_best_45 : decode cX10_best 45 = .ok (.istore_n 3, 1) := by decide +kernel
theorem dX10_best_46 : decode cX10_best 46 = .ok (.aload_n 0, 1) := by decide +kernel
theorem dX10_best_47 : decode cX10_best 47 = .ok (.getfield 46, 3) := by decide +kernel
theorem dX10_best_50 : decode cX10_best 50 = .ok (.aload_n 0, 1) := by decide +kernel
theorem dX10_best_51 : decode cX10_best 51 = .ok (.getfield 10, 3) := by decide +kernel
theorem dX10_best_54 : decode cX10_best 54 = .ok (.iload_n 1, 1) := by decide +kernel
theorem dX10_best_55 : decode cX10_best 55 = .ok (.iload_n 3, 1) := by decide +kernel
theorem dX10_best_56 : decode cX10_best 56 = .ok (.invokevirtual 127, 3) := by decide +kernel
theorem dX10_best_59 : decode cX10_best 59 = .ok (.pop, 1) := by decide +kernel
theorem dX10_best_60 : decode cX10_best 60 = .ok (.aload_n 0, 1) := by decide +kernel
theorem dX10_best_61 : decode cX10_best 61 = .ok (.aload_n 0, 1) := by decide +kernel
theorem dX10_best_62 : decode cX10_best 62 = .ok (.getfield 46, 3) := by decide +kernel
theorem dX10_best_65 : decode cX10_best 65 = .ok (.invokevirtual 131, 3) := by decide +kernel
theorem dX10_best_68 : decode cX10_best 68 = .ok (.ldc2_w 135, 3) := by decide +kernel
theorem dX10_best_71 : decode cX10_best 71 = .ok (.invokevirtual 137, 3) := by decide +kernel
theorem dX10_best_74 : decode cX10_best 74 = .ok (.iload_n 3, 1) := by decide +kernel
theorem dX10_best_75 : decode cX10_best 75 = .ok (.ireturn, 1) := by decide +kernel
set_option maxRecDepth 20000 in
theorem ggX10_tell_X8_holds : GoodIn wsX10_tell wsX8_holds := goodIn_r _ [10, 11, 111, 112, 113, 114] (by decide +kernel) (by decide +kernel)
set_option maxRecDepth 20000 in
theorem gX10_tell_X8_holds : GoodIn wsX10_tell (wsV RX10 84 RX8 yX8_holds wsX8_holds) := goodIn_app (goodIn_of _ (by decide +kernel)) ggX10_tell_X8_holds
set_option maxRecDepth 20000 in
theorem ggX10_tell_X10_within : GoodIn wsX10_tell wsX10_within := goodIn_r _ [15] (by decide +kernel) (by decide +kernel)
set_option maxRecDepth 20000 in
theorem gX10_tell_X10_within : GoodIn wsX10_tell (va_wsS RX10 90 yX10_within wsX10_within) := goodIn_app (goodIn_of _ (by decide +kernel)) ggX10_tell_X10_within
set_option maxRecDepth 20000 in
theorem ggX10_tell_X10_counted : GoodIn wsX10_tell wsX10_counted := goodIn_r _ [19, 20, 21, 22, 92, 93, 94, 95, 96, 97, 98, 99, 100, 101, 102, 103, 104] (by decide +kernel) (by decide +kernel)
set_option maxRecDepth 20000 in
theorem gX10_tell_X10_counted : GoodIn wsX10_tell (wsV RX10 68 RX10 yX10_counted wsX10_counted) := goodIn_app (goodIn_of _ (by decide +kernel)) ggX10_tell_X10_counted
set_option maxRecDepth 20000 in
theorem ggX10_tell_X7_bestOf : GoodIn wsX10_tell wsX7_bestOf := goodIn_r _ [27, 28, 29, 30, 31, 32, 33, 34, 35, 26, 36, 37, 38, 39, 40, 41, 42, 43, 44, 45, 46, 47, 48, 49, 50, 51, 52, 53, 54, 55, 56, 57, 58, 59, 60, 9, 61, 62, 63, 64, 7, 8, 10, 11, 65, 14, 66, 67, 68, 69, 70, 71, 72, 73, 74, 75, 76, 77, 78, 79, 80, 81, 115, 116, 117, 118, 119, 120, 121, 105, 106, 107, 108, 109, 110, 111, 112, 113, 114] (by decide +kernel) (by decide +kernel)
set_option maxRecDepth 20000 in
theorem gX10_tell_X7_bestOf : GoodIn wsX10_tell (wsV RX10 144 RX7 yX7_bestOf wsX7_bestOf) := goodIn_app (goodIn_of _ (by decide +kernel)) ggX10_tell_X7_bestOf
set_option maxRecDepth 20000 in
theorem ggX10_tell_X7_go : GoodIn wsX10_tell wsX7_go := goodIn_r _ [36, 37, 30, 38, 39, 31, 28, 32, 40, 41, 42, 43, 44, 45, 46, 47, 48, 49, 50, 51, 52, 53, 54, 55, 56, 57, 58, 59, 60, 9, 61, 62, 63, 64, 7, 8, 10, 11, 65, 14, 66, 67, 68, 69, 26, 70, 71, 72, 73, 74, 75, 76, 77, 78, 79, 80, 81, 115, 116, 117, 118, 119, 120, 121, 105, 106, 107, 108, 109, 110, 111, 112, 113, 114] (by decide +kernel) (by decide +kernel)
set_option maxRecDepth 20000 in
theorem gX10_tell_X7_go : GoodIn wsX10_tell (wsV RX10 127 RX7 yX7_go wsX7_go) := goodIn_app (goodIn_of _ (by decide +kernel)) ggX10_tell_X7_go
set_option maxRecDepth 20000 in
theorem ggX10_tell_X7_brings : GoodIn wsX10_tell wsX7_brings := goodIn_r _ [86, 28, 32, 115, 116, 117, 118, 119, 120, 121] (by decide +kernel) (by decide +kernel)
set_option maxRecDepth 20000 in
theorem gX10_tell_X7_brings : GoodIn wsX10_tell (wsV RX10 131 RX7 yX7_brings wsX7_brings) := goodIn_app (goodIn_of _ (by decide +kernel)) ggX10_tell_X7_brings
set_option maxRecDepth 20000 in
theorem ggX10_tell_X1_shame : GoodIn wsX10_tell wsX1_shame := goodIn_r _ [90, 47, 48, 91, 79, 51, 80, 58, 59, 60, 9, 61, 62, 63, 105, 106, 107, 108, 109, 110, 111, 112, 113, 114] (by decide +kernel) (by decide +kernel)
set_option maxRecDepth 20000 in
theorem gX10_tell_X1_shame : GoodIn wsX10_tell (wsV RX10 150 RX1 yX1_shame wsX1_shame) := goodIn_app (goodIn_of _ (by decide +kernel)) ggX10_tell_X1_shame
theorem dX10_tell_0 : decode cX10_tell 0 = .ok (.aload_n 0, 1) := by decide +kernel
theorem dX10_tell_1 : decode cX10_tell 1 = .ok (.getfield 10, 3) := by decide +kernel
theorem dX10_tell_4 : decode cX10_tell 4 = .ok (.getfield 80, 3) := by decide +kernel
theorem dX10_tell_7 : decode cX10_tell 7 = .ok (.iload_n 1, 1) := by decide +kernel
theorem dX10_tell_8 : decode cX10_tell 8 = .ok (.invokevirtual 84, 3) := by decide +kernel
theorem dX10_tell_11 : decode cX10_tell 11 = .ok (.ifCond .eq 13, 3) := by decide +kernel
theorem dX10_tell_14 : decode cX10_tell 14 = .ok (.iload_n 2, 1) := by decide +kernel
theorem dX10_tell_15 : decode cX10_tell 15 = .ok (.iconst 0, 1) := by decide +kernel
theorem dX10_tell_16 : decode cX10_tell 16 = .ok (.bipush 60, 2) := by decide +kernel
theorem dX10_tell_18 : decode cX10_tell 18 = .ok (.invokestatic 90, 3) := by decide +kernel
theorem dX10_tell_21 : decode cX10_tell 21 = .ok (.ifCond .ne 10, 3) := by decide +kernel
theorem dX10_tell_24 : decode cX10_tell 24 = .ok (.aload_n 0, 1) := by decide +kernel
theorem dX10_tell_25 : decode cX10_tell 25 = .ok (.bipush (-2), 2) := by decide +kernel
theorem dX10_tell_27 : decode cX10_tell 27 = .ok (.invokevirtual 68, 3) := by decide +kernel
theorem dX10_tell_30 : decode cX10_tell 30 = .ok (.ireturn, 1) := by decide +kernel
theorem dX10_tell_31 : decode cX10_tell 31 = .ok (.aload_n 0, 1) := by decide +kernel
theorem dX10_tell_32 : decode cX10_tell 32 = .ok (.getfield 46, 3) := by decide +kernel
theorem dX10_tell_35 : decode cX10_tell 35 = .ok (.aload_n 0, 1) := by decide +kernel
theorem dX10_tell_36 : decode cX10_tell 36 = .ok (.getfield 10, 3) := by decide +kernel
theorem dX10_tell_39 : decode cX10_tell 39 = .ok (.iload_n 1, 1) := by decide +kernel
theorem dX10_tell_40 : decode cX10_tell 40 = .ok (.aload_n 0, 1) := by decide +kernel
theorem dX10_tell_41 : decode cX10_tell 41 = .ok (.getfield 46, 3) := by decide +kernel
theorem dX10_tell_44 : decode cX10_tell 44 = .ok (.aload_n 0, 1) := by decide +kernel
theorem dX10_tell_45 : decode cX10_tell 45 = .ok (.getfield 10, 3) := by decide +kernel
theorem dX10_tell_48 : decode cX10_tell 48 = .ok (.iload_n 1, 1) := by decide +kernel
theorem dX10_tell_49 : decode cX10_tell 49 = .ok (.iload_n 2, 1) := by decide +kernel
theorem dX10_tell_50 : decode cX10_tell 50 = .ok (.iconst 0, 1) := by decide +kernel
theorem dX10_tell_51 : decode cX10_tell 51 = .ok (.invokevirtual 144, 3) := by decide +kernel
theorem dX10_tell_54 : decode cX10_tell 54 = .ok (.invokevirtual 127, 3) := by decide +kernel
theorem dX10_tell_57 : decode cX10_tell 57 = .ok (.pop, 1) := by decide +kernel
theorem dX10_tell_58 : decode cX10_tell 58 = .ok (.aload_n 0, 1) := by decide +kernel
theorem dX10_tell_59 : decode cX10_tell 59 = .ok (.getfield 46, 3) := by decide +kernel
theorem dX10_tell_62 : decode cX10_tell 62 = .ok (.invokevirtual 131, 3) := by decide +kernel
theorem dX10_tell_65 : decode cX10_tell 65 = .ok (.ldc2_w 148, 3) := by decide +kernel
theorem dX10_tell_68 : decode cX10_tell 68 = .ok (.lmul, 1) := by decide +kernel
theorem dX10_tell_69 : decode cX10_tell 69 = .ok (.bipush 20, 2) := by decide +kernel
theorem dX10_tell_71 : decode cX10_tell 71 = .ok (.aload_n 0, 1) := by decide +kernel
theorem dX10_tell_72 : decode cX10_tell 72 = .ok (.getfield 10, 3) := by decide +kernel
theorem dX10_tell_75 : decode cX10_tell 75 = .ok (.iload_n 1, 1) := by decide +kernel
theorem dX10_tell_76 : decode cX10_tell 76 = .ok (.invokevirtual 150, 3) := by decide +kernel
theorem dX10_tell_79 : decode cX10_tell 79 = .ok (.isub, 1) := by decide +kernel
theorem dX10_tell_80 : decode cX10_tell 80 = .ok (.i2l, 1) := by decide +kernel
theorem dX10_tell_81 : decode cX10_tell 81 = .ok (.ldc2_w 135, 3) := by decide +kernel
theorem dX10_tell_84 : decode cX10_tell 84 = .ok (.lmul, 1) := by decide +kernel
theorem dX10_tell_85 : decode cX10_tell 85 = .ok (.lcmp, 1) := by decide +kernel
theorem dX10_tell_86 : decode cX10_tell 86 = .ok (.ifCond .ge 7, 3) := by decide +kernel
theorem dX10_tell_89 : decode cX10_tell 89 = .ok (.iconst 1, 1) := by decide +kernel
theorem dX10_tell_90 : decode cX10_tell 90 = .ok (.goto 4, 3) := by decide +kernel
theorem dX10_tell_93 : decode cX10_tell 93 = .ok (.iconst 0, 1) := by decide +kernel
theorem dX10_tell_94 : decode cX10_tell 94 = .ok (.ireturn, 1) := by decide +kernel
set_option maxRecDepth 20000 in
theorem ggX10_has_X1_isPart : GoodIn wsX10_has wsX1_isPart := goodIn_r _ [6, 7, 8, 9] (by decide +kernel) (by decide +kernel)
set_option maxRecDepth 20000 in
theorem gX10_has_X1_isPart : GoodIn wsX10_has (va_wsS RX10 153 yX1_isPart wsX1_isPart) := goodIn_app (goodIn_of _ (by decide +kernel)) ggX10_has_X1_isPart
set_option maxRecDepth 20000 in
theorem ggX10_has_X1_isPartValue : GoodIn wsX10_has wsX1_isPartValue := goodIn_r _ [12, 13, 14, 15, 8, 16, 7, 9] (by decide +kernel) (by decide +kernel)
set_option maxRecDepth 20000 in
theorem gX10_has_X1_isPartValue : GoodIn wsX10_has (va_wsS RX10 156 yX1_isPartValue wsX1_isPartValue) := goodIn_app (goodIn_of _ (by decide +kernel)) ggX10_has_X1_isPartValue
set_option maxRecDepth 20000 in
theorem ggX10_has_X10_countedBadTen : GoodIn wsX10_has wsX10_countedBadTen := goodIn_r _ [20, 21, 22, 23, 8, 24, 25, 26, 27, 44, 45, 46, 47, 48, 49, 50, 51, 52, 53, 54, 55, 56] (by decide +kernel) (by decide +kernel)
set_option maxRecDepth 20000 in
theorem gX10_has_X10_countedBadTen : GoodIn wsX10_has (wsV RX10 160 RX10 yX10_countedBadTen wsX10_countedBadTen) := goodIn_app (goodIn_of _ (by decide +kernel)) ggX10_has_X10_countedBadTen
set_option maxRecDepth 20000 in
theorem ggX10_has_X1_hasOf : GoodIn wsX10_has wsX1_hasOf := goodIn_r _ [31, 32, 33, 34, 35, 36, 37, 38, 39, 57, 58, 59, 60, 61, 62, 63, 64, 65, 66] (by decide +kernel) (by decide +kernel)
set_option maxRecDepth 20000 in
theorem gX10_has_X1_hasOf : GoodIn wsX10_has (wsV RX10 163 RX1 yX1_hasOf wsX1_hasOf) := goodIn_app (goodIn_of _ (by decide +kernel)) ggX10_has_X1_hasOf
set_option maxRecDepth 20000 in
theorem ggX10_has_X8_set : GoodIn wsX10_has wsX8_set := goodIn_r _ [43, 38, 39, 63, 64, 65, 66] (by decide +kernel) (by decide +kernel)
set_option maxRecDepth 20000 in
theorem gX10_has_X8_set : GoodIn wsX10_has (wsV RX10 169 RX8 yX8_set wsX8_set) := goodIn_app (goodIn_of _ (by decide +kernel)) ggX10_has_X8_set
theorem dX10_has_0 : decode cX10_has 0 = .ok (.iload_n 1, 1) := by decide +kernel
theorem dX10_has_1 : decode cX10_has 1 = .ok (.invokestatic 153, 3) := by decide +kernel
theorem dX10_has_4 : decode cX10_has 4 = .ok (.ifCond .eq 16, 3) := by decide +kernel
theorem dX10_has_7 : decode cX10_has 7 = .ok (.iload_n 2, 1) := by decide +kernel
theorem dX10_has_8 : decode cX10_has 8 = .ok (.iconst (-1), 1) := by decide +kernel
theorem dX10_has_9 : decode cX10_has 9 = .ok (.if_icmp .eq 16, 3) := by decide +kernel
theorem dX10_has_12 : decode cX10_has 12 = .ok (.iload_n 1, 1) := by decide +kernel
theorem dX10_has_13 : decode cX10_has 13 = .ok (.iload_n 2, 1) := by decide +kernel
theorem dX10_has_14 : decode cX10_has 14 = .ok (.invokestatic 156, 3) := by decide +kernel
theorem dX10_has_17 : decode cX10_has 17 = .ok (.ifCond .ne 8, 3) := by decide +kernel
theorem dX10_has_20 : decode cX10_has 20 = .ok (.aload_n 0, 1) := by decide +kernel
theorem dX10_has_21 : decode cX10_has 21 = .ok (.invokevirtual 160, 3) := by decide +kernel
theorem dX10_has_24 : decode cX10_has 24 = .ok (.ireturn, 1) := by decide +kernel
theorem dX10_has_25 : decode cX10_has 25 = .ok (.aload_n 0, 1) := by decide +kernel
theorem dX10_has_26 : decode cX10_has 26 = .ok (.getfield 10, 3) := by decide +kernel
theorem dX10_has_29 : decode cX10_has 29 = .ok (.iload_n 1, 1) := by decide +kernel
theorem dX10_has_30 : decode cX10_has 30 = .ok (.invokevirtual 163, 3) := by decide +kernel
theorem dX10_has_33 : decode cX10_has 33 = .ok (.istore_n 3, 1) := by decide +kernel
theorem dX10_has_34 : decode cX10_has 34 = .ok (.aload_n 0, 1) := by decide +kernel
theorem dX10_has_35 : decode cX10_has 35 = .ok (.getfield 10, 3) := by decide +kernel
theorem dX10_has_38 : decode cX10_has 38 = .ok (.getfield 166, 3) := by decide +kernel
theorem dX10_has_41 : decode cX10_has 41 = .ok (.iconst 0, 1) := by decide +kernel
theorem dX10_has_42 : decode cX10_has 42 = .ok (.iload_n 1, 1) := by decide +kernel
theorem dX10_has_43 : decode cX10_has 43 = .ok (.iload_n 2, 1) := by decide +kernel
theorem dX10_has_44 : decode cX10_has 44 = .ok (.i2l, 1) := by decide +kernel
theorem dX10_has_45 : decode cX10_has 45 = .ok (.invokevirtual 169, 3) := by decide +kernel
theorem dX10_has_48 : decode cX10_has 48 = .ok (.iload_n 3, 1) := by decide +kernel
theorem dX10_has_49 : decode cX10_has 49 = .ok (.ireturn, 1) := by decide +kernel
set_option maxRecDepth 20000 in
theorem ggX10_whose_X4_whoseBits : GoodIn wsX10_whose wsX4_whoseBits := goodIn_r _ [5, 6, 7, 8, 9, 10, 11, 12, 13, 14, 4, 15, 16, 17, 18, 19, 20, 21, 22, 23, 24, 25, 26, 27, 28, 29, 30, 31, 32, 33, 34, 35, 36, 37, 38, 39, 40, 41, 42, 43, 44, 45, 46, 47, 48, 49, 50, 51, 52, 66, 67, 68, 69, 70, 71, 72, 73, 74, 75] (by decide +kernel) (by decide +kernel)
set_option maxRecDepth 20000 in
theorem gX10_whose_X4_whoseBits : GoodIn wsX10_whose (va_wsS RX10 173 yX4_whoseBits wsX4_whoseBits) := goodIn_app (goodIn_of _ (by decide +kernel)) ggX10_whose_X4_whoseBits
theorem dX10_whose_0 : decode cX10_whose 0 = .ok (.aload_n 0, 1) := by decide +kernel
theorem dX10_whose_1 : decode cX10_whose 1 = .ok (.getfield 10, 3) := by decide +kernel
theorem dX10_whose_4 : decode cX10_whose 4 = .ok (.invokestatic 173, 3) := by decide +kernel
theorem dX10_whose_7 : decode cX10_whose 7 = .ok (.ireturn, 1) := by decide +kernel
set_option maxRecDepth 20000 in
theorem ggX10_odds_X8_holds : GoodIn wsX10_odds wsX8_holds := goodIn_r _ [7, 8, 102, 103, 104, 105] (by decide +kernel) (by decide +kernel)
set_option maxRecDepth 20000 in
theorem gX10_odds_X8_holds : GoodIn wsX10_odds (wsV RX10 84 RX8 yX8_holds wsX8_holds) := goodIn_app (goodIn_of _ (by decide +kernel)) ggX10_odds_X8_holds
set_option maxRecDepth 20000 in
theorem ggX10_odds_X10_counted : GoodIn wsX10_odds wsX10_counted := goodIn_r _ [13, 14, 15, 16, 83, 84, 85, 86, 87, 88, 89, 90, 91, 92, 93, 94, 95] (by decide +kernel) (by decide +kernel)
set_option maxRecDepth 20000 in
theorem gX10_odds_X10_counted : GoodIn wsX10_odds (wsV RX10 68 RX10 yX10_counted wsX10_counted) := goodIn_app (goodIn_of _ (by decide +kernel)) ggX10_odds_X10_counted
set_option maxRecDepth 20000 in
theorem ggX10_odds_X4_whoseBits : GoodIn wsX10_odds wsX4_whoseBits := goodIn_r _ [20, 21, 22, 23, 24, 6, 25, 8, 26, 27, 19, 28, 29, 30, 31, 32, 33, 34, 35, 36, 37, 38, 39, 40, 41, 42, 43, 44, 45, 46, 47, 48, 49, 50, 51, 52, 53, 54, 55, 56, 57, 58, 59, 60, 61, 62, 63, 64, 65, 96, 97, 98, 99, 100, 101, 102, 103, 104, 105] (by decide +kernel) (by decide +kernel)
set_option maxRecDepth 20000 in
theorem gX10_odds_X4_whoseBits : GoodIn wsX10_odds (va_wsS RX10 173 yX4_whoseBits wsX4_whoseBits) := goodIn_app (goodIn_of _ (by decide +kernel)) ggX10_odds_X4_whoseBits
set_option maxRecDepth 20000 in
theorem ggX10_odds_X10_isIn : GoodIn wsX10_odds wsX10_isIn := goodIn_r _ [68] (by decide +kernel) (by decide +kernel)
set_option maxRecDepth 20000 in
theorem gX10_odds_X10_isIn : GoodIn wsX10_odds (va_wsS RX10 178 yX10_isIn wsX10_isIn) := goodIn_app (goodIn_of _ (by decide +kernel)) ggX10_odds_X10_isIn
set_option maxRecDepth 20000 in
theorem ggX10_odds_X8_number : GoodIn wsX10_odds wsX8_number := goodIn_r _ [38, 39, 40, 102, 103, 104, 105] (by decide +kernel) (by decide +kernel)
set_option maxRecDepth 20000 in
theorem gX10_odds_X8_number : GoodIn wsX10_odds (wsV RX10 181 RX8 yX8_number wsX8_number) := goodIn_app (goodIn_of _ (by decide +kernel)) ggX10_odds_X8_number
set_option maxRecDepth 20000 in
theorem ggX10_odds_X4_seenOf : GoodIn wsX10_odds wsX4_seenOf := goodIn_r _ [72, 21, 67, 12, 68, 73, 36, 37, 6, 38, 39, 40, 96, 97, 98, 99, 100, 101, 102, 103, 104, 105] (by decide +kernel) (by decide +kernel)
set_option maxRecDepth 20000 in
theorem gX10_odds_X4_seenOf : GoodIn wsX10_odds (va_wsS RX10 184 yX4_seenOf wsX4_seenOf) := goodIn_app (goodIn_of _ (by decide +kernel)) ggX10_odds_X4_seenOf
set_option maxRecDepth 20000 in
theorem ggX10_odds_X10_setFraction : GoodIn wsX10_odds wsX10_setFraction := goodIn_r _ [77, 78, 79, 80, 81, 12, 82, 83, 84, 85, 86, 87, 88, 89, 90, 91, 92, 93, 94, 95] (by decide +kernel) (by decide +kernel)
set_option maxRecDepth 20000 in
theorem gX10_odds_X10_setFraction : GoodIn wsX10_odds (wsV RX10 137 RX10 yX10_setFraction wsX10_setFraction) := goodIn_app (goodIn_of _ (by decide +kernel)) ggX10_odds_X10_setFraction
theorem dX10_odds_0 : decode cX10_odds 0 = .ok (.aload_n 0, 1) := by decide +kernel
theorem dX10_odds_1 : decode cX10_odds 1 = .ok (.getfield 10, 3) := by decide +kernel
theorem dX10_odds_4 : decode cX10_odds 4 = .ok (.getfield 80, 3) := by decide +kernel
theorem dX10_odds_7 : decode cX10_odds 7 = .ok (.iload_n 1, 1) := by decide +kernel
theorem dX10_odds_8 : decode cX10_odds 8 = .ok (.invokevirtual 84, 3) := by decide +kernel
theorem dX10_odds_11 : decode cX10_odds 11 = .ok (.ifCond .ne 10, 3) := by decide +kernel
theorem dX10_odds_14 : decode cX10_odds 14 = .ok (.aload_n 0, 1) := by decide +kernel
theorem dX10_odds_15 : decode cX10_odds 15 = .ok (.bipush (-2), 2) := by decide +kernel
theorem dX10_odds_17 : decode cX10_odds 17 = .ok (.invokevirtual 68, 3) := by decide +kernel
theorem dX10_odds_20 : decode cX10_odds 20 = .ok (.ireturn, 1) := by decide +kernel
theorem dX10_odds_21 : decode cX10_odds 21 = .ok (.aload_n 0, 1) := by decide +kernel
theorem dX10_odds_22 : decode cX10_odds 22 = .ok (.getfield 10, 3) := by decide +kernel
theorem dX10_odds_25 : decode cX10_odds 25 = .ok (.invokestatic 173, 3) := by decide +kernel
theorem dX10_odds_28 : decode cX10_odds 28 = .ok (.istore_n 2, 1) := by decide +kernel
theorem dX10_odds_29 : decode cX10_odds 29 = .ok (.iload_n 2, 1) := by decide +kernel
theorem dX10_odds_30 : decode cX10_odds 30 = .ok (.iload_n 1, 1) := by decide +kernel
theorem dX10_odds_31 : decode cX10_odds 31 = .ok (.invokestatic 178, 3) := by decide +kernel
theorem dX10_odds_34 : decode cX10_odds 34 = .ok (.ifCond .ne 10, 3) := by decide +kernel
theorem dX10_odds_37 : decode cX10_odds 37 = .ok (.aload_n 0, 1) := by decide +kernel
theorem dX10_odds_38 : decode cX10_odds 38 = .ok (.bipush (-3), 2) := by decide +kernel
theorem dX10_odds_40 : decode cX10_odds 40 = .ok (.invokevirtual 68, 3) := by decide +kernel
theorem dX10_odds_43 : decode cX10_odds 43 = .ok (.ireturn, 1) := by decide +kernel
theorem dX10_odds_44 : decode cX10_odds 44 = .ok (.aload_n 0, 1) := by decide +kernel
theorem dX10_odds_45 : decode cX10_odds 45 = .ok (.aload_n 0, 1) := by decide +kernel
theorem dX10_odds_46 : decode cX10_odds 46 = .ok (.getfield 10, 3) := by decide +kernel
theorem dX10_odds_49 : decode cX10_odds 49 = .ok (.getfield 80, 3) := by decide +kernel
theorem dX10_odds_52 : decode cX10_odds 52 = .ok (.iload_n 1, 1) := by decide +kernel
theorem dX10_odds_53 : decode cX10_odds 53 = .ok (.iconst 5, 1) := by decide +kernel
theorem dX10_odds_54 : decode cX10_odds 54 = .ok (.invokevirtual 181, 3) := by decide +kernel
theorem dX10_odds_57 : decode cX10_odds 57 = .ok (.i2l, 1) := by decide +kernel
theorem dX10_odds_58 : decode cX10_odds 58 = .ok (.aload_n 0, 1) := by decide +kernel
theorem dX10_odds_59 : decode cX10_odds 59 = .ok (.getfield 10, 3) := by decide +kernel
theorem dX10_odds_62 : decode cX10_odds 62 = .ok (.iload_n 2, 1) := by decide +kernel
theorem dX10_odds_63 : decode cX10_odds 63 = .ok (.invokestatic 184, 3) := by decide +kernel
theorem dX10_odds_66 : decode cX10_odds 66 = .ok (.i2l, 1) := by decide +kernel
theorem dX10_odds_67 : decode cX10_odds 67 = .ok (.invokevirtual 137, 3) := by decide +kernel
theorem dX10_odds_70 : decode cX10_odds 70 = .ok (.iconst 1, 1) := by decide +kernel
theorem dX10_odds_71 : decode cX10_odds 71 = .ok (.ireturn, 1) := by decide +kernel
set_option maxRecDepth 20000 in
theorem ggX10_next_X4_whoseBits : GoodIn wsX10_next wsX4_whoseBits := goodIn_r _ [5, 6, 7, 8, 9, 10, 11, 12, 13, 14, 4, 15, 16, 17, 18, 19, 20, 21, 22, 23, 24, 25, 26, 27, 28, 29, 30, 31, 32, 33, 34, 35, 36, 37, 38, 39, 40, 41, 42, 43, 44, 45, 46, 47, 48, 49, 50, 51, 52, 89, 90, 91, 92, 93, 94, 95, 96, 97, 98] (by decide +kernel) (by decide +kernel)
set_option maxRecDepth 20000 in
theorem gX10_next_X4_whoseBits : GoodIn wsX10_next (va_wsS RX10 173 yX4_whoseBits wsX4_whoseBits) := goodIn_app (goodIn_of _ (by decide +kernel)) ggX10_next_X4_whoseBits
set_option maxRecDepth 20000 in
theorem ggX10_next_X10_counted : GoodIn wsX10_next wsX10_counted := goodIn_r _ [57, 58, 59, 60, 76, 77, 78, 79, 80, 81, 82, 83, 84, 85, 86, 87, 88] (by decide +kernel) (by decide +kernel)
set_option maxRecDepth 20000 in
theorem gX10_next_X10_counted : GoodIn wsX10_next (wsV RX10 68 RX10 yX10_counted wsX10_counted) := goodIn_app (goodIn_of _ (by decide +kernel)) ggX10_next_X10_counted
set_option maxRecDepth 20000 in
theorem ggX10_next_X4_nextPart : GoodIn wsX10_next wsX4_nextPart := goodIn_r _ [63, 16, 17, 18, 19, 20, 21, 22, 23, 24, 10, 25, 26, 27, 64, 65, 4, 66, 6, 67, 56, 68, 69, 70, 71, 28, 29, 30, 31, 32, 33, 34, 35, 36, 37, 38, 39, 40, 41, 42, 43, 44, 45, 46, 47, 48, 49, 50, 51, 52, 72, 73, 74, 75, 89, 90, 91, 92, 93, 94, 95, 96, 97, 98] (by decide +kernel) (by decide +kernel)
set_option maxRecDepth 20000 in
theorem gX10_next_X4_nextPart : GoodIn wsX10_next (va_wsS RX10 188 yX4_nextPart wsX4_nextPart) := goodIn_app (goodIn_of _ (by decide +kernel)) ggX10_next_X4_nextPart
theorem dX10_next_0 : decode cX10_next 0 = .ok (.aload_n 0, 1) := by decide +kernel
theorem dX10_next_1 : decode cX10_next 1 = .ok (.getfield 10, 3) := by decide +kernel
theorem dX10_next_4 : decode cX10_next 4 = .ok (.invokestatic 173, 3) := by decide +kernel
theorem dX10_next_7 : decode cX10_next 7 = .ok (.istore_n 1, 1) := by decide +kernel
theorem dX10_next_8 : decode cX10_next 8 = .ok (.iload_n 1, 1) := by decide +kernel
theorem dX10_next_9 : decode cX10_next 9 = .ok (.ifCond .ne 12, 3) := by decide +kernel
theorem dX10_next_12 : decode cX10_next 12 = .ok (.aload_n 0, 1) := by decide +kernel
theorem dX10_next_13 : decode cX10_next 13 = .ok (.bipush (-3), 2) := by decide +kernel
theorem dX10_next_15 : decode cX10_next 15 = .ok (.invokevirtual 68, 3) := by decide +kernel
theorem dX10_next_18 : decode cX10_next 18 = .ok (.goto 11, 3) := by decide +kernel
theorem dX10_next_21 : decode cX10_next 21 = .ok (.aload_n 0, 1) := by decide +kernel
theorem dX10_next_22 : decode cX10_next 22 = .ok (.getfield 10, 3) := by decide +kernel
theorem dX10_next_25 : decode cX10_next 25 = .ok (.iload_n 1, 1) := by decide +kernel
theorem dX10_next_26 : decode cX10_next 26 = .ok (.invokestatic 188, 3) := by decide +kernel
theorem dX10_next_29 : decode cX10_next 29 = .ok (.ireturn, 1) := by decide +kernel
set_option maxRecDepth 20000 in
theorem ggX10_question_X1_tellQuestion : GoodIn wsX10_question wsX1_tellQuestion := goodIn_r _ [6, 7, 8, 9, 5, 10, 11, 12, 13, 14, 15, 16, 17, 18, 19, 20, 21, 22, 23, 24, 25, 26, 27, 28, 29, 30, 51, 52, 53, 54, 55, 56, 57, 58, 59, 60] (by decide +kernel) (by decide +kernel)
set_option maxRecDepth 20000 in
theorem gX10_question_X1_tellQuestion : GoodIn wsX10_question (wsV RX10 191 RX1 yX1_tellQuestion wsX1_tellQuestion) := goodIn_app (goodIn_of _ (by decide +kernel)) ggX10_question_X1_tellQuestion
set_option maxRecDepth 20000 in
theorem ggX10_question_X10_counted : GoodIn wsX10_question wsX10_counted := goodIn_r _ [34, 35, 36, 37, 38, 39, 40, 41, 42, 43, 44, 45, 46, 47, 48, 49, 50] (by decide +kernel) (by decide +kernel)
set_option maxRecDepth 20000 in
theorem gX10_question_X10_counted : GoodIn wsX10_question (wsV RX10 68 RX10 yX10_counted wsX10_counted) := goodIn_app (goodIn_of _ (by decide +kernel)) ggX10_question_X10_counted
theorem dX10_question_0 : decode cX10_question 0 = .ok (.aload_n 0, 1) := by decide +kernel
theorem dX10_question_1 : decode cX10_question 1 = .ok (.aload_n 0, 1) := by decide +kernel
theorem dX10_question_2 : decode cX10_question 2 = .ok (.getfield 10, 3) := by decide +kernel
theorem dX10_question_5 : decode cX10_question 5 = .ok (.iload_n 1, 1) := by decide +kernel
theorem dX10_question_6 : decode cX10_question 6 = .ok (.iload_n 2, 1) := by decide +kernel
theorem dX10_question_7 : decode cX10_question 7 = .ok (.invokevirtual 191, 3) := by decide +kernel
theorem dX10_question_10 : decode cX10_question 10 = .ok (.invokevirtual 68, 3) := by decide +kernel
theorem dX10_question_13 : decode cX10_question 13 = .ok (.ireturn, 1) := by decide +kernel
set_option maxRecDepth 20000 in
theorem ggX10_ask_X4_whoseBits : GoodIn wsX10_ask wsX4_whoseBits := goodIn_r _ [5, 6, 7, 8, 9, 10, 11, 12, 13, 14, 4, 15, 16, 17, 18, 19, 20, 21, 22, 23, 24, 25, 26, 27, 28, 29, 30, 31, 32, 33, 34, 35, 36, 37, 38, 39, 40, 41, 42, 43, 44, 45, 46, 47, 48, 49, 50, 51, 52, 90, 91, 92, 93, 94, 95, 96, 97, 98, 99] (by decide +kernel) (by decide +kernel)
set_option maxRecDepth 20000 in
theorem gX10_ask_X4_whoseBits : GoodIn wsX10_ask (va_wsS RX10 173 yX4_whoseBits wsX4_whoseBits) := goodIn_app (goodIn_of _ (by decide +kernel)) ggX10_ask_X4_whoseBits
set_option maxRecDepth 20000 in
theorem ggX10_ask_X10_counted : GoodIn wsX10_ask wsX10_counted := goodIn_r _ [57, 58, 59, 60, 77, 78, 79, 80, 81, 82, 83, 84, 85, 86, 87, 88, 89] (by decide +kernel) (by decide +kernel)
set_option maxRecDepth 20000 in
theorem gX10_ask_X10_counted : GoodIn wsX10_ask (wsV RX10 68 RX10 yX10_counted wsX10_counted) := goodIn_app (goodIn_of _ (by decide +kernel)) ggX10_ask_X10_counted
set_option maxRecDepth 20000 in
theorem ggX10_ask_X4_bestQuestion : GoodIn wsX10_ask wsX4_bestQuestion := goodIn_r _ [63, 64, 7, 8, 9, 10, 11, 12, 65, 23, 24, 25, 26, 27, 16, 17, 18, 19, 20, 21, 22, 66, 67, 4, 68, 6, 69, 56, 70, 71, 72, 73, 28, 29, 30, 31, 32, 33, 34, 35, 36, 37, 38, 39, 40, 41, 42, 43, 44, 45, 46, 47, 48, 49, 50, 51, 52, 74, 75, 76, 90, 91, 92, 93, 94, 95, 96, 97, 98, 99] (by decide +kernel) (by decide +kernel)
set_option maxRecDepth 20000 in
theorem gX10_ask_X4_bestQuestion : GoodIn wsX10_ask (va_wsS RX10 194 yX4_bestQuestion wsX4_bestQuestion) := goodIn_app (goodIn_of _ (by decide +kernel)) ggX10_ask_X4_bestQuestion
theorem dX10_ask_0 : decode cX10_ask 0 = .ok (.aload_n 0, 1) := by decide +kernel
theorem dX10_ask_1 : decode cX10_ask 1 = .ok (.getfield 10, 3) := by decide +kernel
theorem dX10_ask_4 : decode cX10_ask 4 = .ok (.invokestatic 173, 3) := by decide +kernel
theorem dX10_ask_7 : decode cX10_ask 7 = .ok (.istore_n 1, 1) := by decide +kernel
theorem dX10_ask_8 : decode cX10_ask 8 = .ok (.iload_n 1, 1) := by decide +kernel
theorem dX10_ask_9 : decode cX10_ask 9 = .ok (.ifCond .ne 12, 3) := by decide +kernel
theorem dX10_ask_12 : decode cX10_ask 12 = .ok (.aload_n 0, 1) := by decide +kernel
theorem dX10_ask_13 : decode cX10_ask 13 = .ok (.bipush (-3), 2) := by decide +kernel
theorem dX10_ask_15 : decode cX10_ask 15 = .ok (.invokevirtual 68, 3) := by decide +kernel
theorem dX10_ask_18 : decode cX10_ask 18 = .ok (.goto 11, 3) := by decide +kernel
theorem dX10_ask_21 : decode cX10_ask 21 = .ok (.aload_n 0, 1) := by decide +kernel
theorem dX10_ask_22 : decode cX10_ask 22 = .ok (.getfield 10, 3) := by decide +kernel
theorem dX10_ask_25 : decode cX10_ask 25 = .ok (.iload_n 1, 1) := by decide +kernel
theorem dX10_ask_26 : decode cX10_ask 26 = .ok (.invokestatic 194, 3) := by decide +kernel
theorem dX10_ask_29 : decode cX10_ask 29 = .ok (.ireturn, 1) := by decide +kernel
set_option maxRecDepth 20000 in
theorem ggX10_index_X4_fewestApart : GoodIn wsX10_index wsX4_fewestApart := goodIn_r _ [5, 6, 7, 8, 9, 10, 11, 12, 13, 14, 4, 15, 16, 17, 18, 19, 20, 21, 22, 23, 24, 25, 26, 27, 28, 29, 30, 31, 32, 33, 34, 35, 36, 37, 38, 39, 40, 41, 42, 43, 44, 45, 46, 47, 48, 49, 50, 51, 52, 53, 54, 55, 56, 57, 58, 59, 60, 74, 75, 76, 77, 78, 79, 80, 81, 82, 83] (by decide +kernel) (by decide +kernel)
set_option maxRecDepth 20000 in
theorem gX10_index_X4_fewestApart : GoodIn wsX10_index (va_wsS RX10 197 yX4_fewestApart wsX4_fewestApart) := goodIn_app (goodIn_of _ (by decide +kernel)) ggX10_index_X4_fewestApart
theorem dX10_index_0 : decode cX10_index 0 = .ok (.aload_n 0, 1) := by decide +kernel
theorem dX10_index_1 : decode cX10_index 1 = .ok (.getfield 10, 3) := by decide +kernel
theorem dX10_index_4 : decode cX10_index 4 = .ok (.invokestatic 197, 3) := by decide +kernel
theorem dX10_index_7 : decode cX10_index 7 = .ok (.ireturn, 1) := by decide +kernel
set_option maxRecDepth 20000 in
theorem ggX10_takenFor_X10_within : GoodIn wsX10_takenFor wsX10_within := goodIn_r _ [5] (by decide +kernel) (by decide +kernel)
set_option maxRecDepth 20000 in
theorem gX10_takenFor_X10_within : GoodIn wsX10_takenFor (va_wsS RX10 90 yX10_within wsX10_within) := goodIn_app (goodIn_of _ (by decide +kernel)) ggX10_takenFor_X10_within
set_option maxRecDepth 20000 in
theorem ggX10_takenFor_X10_countedBadTen : GoodIn wsX10_takenFor wsX10_countedBadTen := goodIn_r _ [9, 10, 11, 12, 4, 13, 14, 15, 16, 48, 49, 50, 51, 52, 53, 54, 55, 56, 57, 58, 59, 60] (by decide +kernel) (by decide +kernel)
set_option maxRecDepth 20000 in
theorem gX10_takenFor_X10_countedBadTen : GoodIn wsX10_takenFor (wsV RX10 160 RX10 yX10_countedBadTen wsX10_countedBadTen) := goodIn_app (goodIn_of _ (by decide +kernel)) ggX10_takenFor_X10_countedBadTen
set_option maxRecDepth 20000 in
theorem ggX10_takenFor_X4_takenPair : GoodIn wsX10_takenFor wsX4_takenPair := goodIn_r _ [20, 21, 22, 23, 24, 25, 26, 27, 28, 29, 19, 30, 31, 32, 33, 34, 35, 36, 37, 38, 39, 40, 41, 42, 43, 44, 45, 46, 47, 61, 62, 63, 64, 65, 66, 67, 68, 69, 70] (by decide +kernel) (by decide +kernel)
set_option maxRecDepth 20000 in
theorem gX10_takenFor_X4_takenPair : GoodIn wsX10_takenFor (va_wsS RX10 202 yX4_takenPair wsX4_takenPair) := goodIn_app (goodIn_of _ (by decide +kernel)) ggX10_takenFor_X4_takenPair
theorem dX10_takenFor_0 : decode cX10_takenFor 0 = .ok (.iload_n 1, 1) := by decide +kernel
theorem dX10_takenFor_1 : decode cX10_takenFor 1 = .ok (.iconst 0, 1) := by decide +kernel
theorem dX10_takenFor_2 : decode cX10_takenFor 2 = .ok (.bipush 7, 2) := by decide +kernel
theorem dX10_takenFor_4 : decode cX10_takenFor 4 = .ok (.invokestatic 90, 3) := by decide +kernel
theorem dX10_takenFor_7 : decode cX10_takenFor 7 = .ok (.ifCond .eq 8, 3) := by decide +kernel
theorem dX10_takenFor_10 : decode cX10_takenFor 10 = .ok (.iload_n 2, 1) := by decide +kernel
theorem dX10_takenFor_11 : decode cX10_takenFor 11 = .ok (.iconst (-1), 1) := by decide +kernel
theorem dX10_takenFor_12 : decode cX10_takenFor 12 = .ok (.if_icmp .ge 8, 3) := by decide +kernel
theorem dX10_takenFor_15 : decode cX10_takenFor 15 = .ok (.aload_n 0, 1) := by decide +kernel
theorem dX10_takenFor_16 : decode cX10_takenFor 16 = .ok (.invokevirtual 160, 3) := by decide +kernel
theorem dX10_takenFor_19 : decode cX10_takenFor 19 = .ok (.ireturn, 1) := by decide +kernel
theorem dX10_takenFor_20 : decode cX10_takenFor 20 = .ok (.aload_n 0, 1) := by decide +kernel
theorem dX10_takenFor_21 : decode cX10_takenFor 21 = .ok (.getfield 10, 3) := by decide +kernel
theorem dX10_takenFor_24 : decode cX10_takenFor 24 = .ok (.iload_n 1, 1) := by decide +kernel
theorem dX10_takenFor_25 : decode cX10_takenFor 25 = .ok (.iload_n 2, 1) := by decide +kernel
theorem dX10_takenFor_26 : decode cX10_takenFor 26 = .ok (.invokestatic 202, 3) := by decide +kernel
theorem dX10_takenFor_29 : decode cX10_takenFor 29 = .ok (.ireturn, 1) := by decide +kernel
set_option maxRecDepth 20000 in
theorem ggX10_learn_X8_size : GoodIn wsX10_learn wsX8_size := goodIn_r _ [8, 9, 139, 140, 141, 142] (by decide +kernel) (by decide +kernel)
set_option maxRecDepth 20000 in
theorem gX10_learn_X8_size : GoodIn wsX10_learn (wsV RX10 206 RX8 yX8_size wsX8_size) := goodIn_app (goodIn_of _ (by decide +kernel)) ggX10_learn_X8_size
set_option maxRecDepth 20000 in
theorem ggX10_learn_X8_holds : GoodIn wsX10_learn wsX8_holds := goodIn_r _ [13, 9, 139, 140, 141, 142] (by decide +kernel) (by decide +kernel)
set_option maxRecDepth 20000 in
theorem gX10_learn_X8_holds : GoodIn wsX10_learn (wsV RX10 84 RX8 yX8_holds wsX8_holds) := goodIn_app (goodIn_of _ (by decide +kernel)) ggX10_learn_X8_holds
set_option maxRecDepth 20000 in
theorem ggX10_learn_X10_isIn : GoodIn wsX10_learn wsX10_isIn := goodIn_r _ [17] (by decide +kernel) (by decide +kernel)
set_option maxRecDepth 20000 in
theorem gX10_learn_X10_isIn : GoodIn wsX10_learn (va_wsS RX10 178 yX10_isIn wsX10_isIn) := goodIn_app (goodIn_of _ (by decide +kernel)) ggX10_learn_X10_isIn
set_option maxRecDepth 20000 in
theorem ggX10_learn_X10_within : GoodIn wsX10_learn wsX10_within := goodIn_r _ [20] (by decide +kernel) (by decide +kernel)
set_option maxRecDepth 20000 in
theorem gX10_learn_X10_within : GoodIn wsX10_learn (va_wsS RX10 90 yX10_within wsX10_within) := goodIn_app (goodIn_of _ (by decide +kernel)) ggX10_learn_X10_within
set_option maxRecDepth 20000 in
theorem ggX10_learn_X10_countedBadTen : GoodIn wsX10_learn wsX10_countedBadTen := goodIn_r _ [24, 25, 26, 27, 16, 28, 29, 30, 31, 120, 121, 122, 123, 124, 125, 126, 127, 128, 129, 130, 131, 132] (by decide +kernel) (by decide +kernel)
set_option maxRecDepth 20000 in
theorem gX10_learn_X10_countedBadTen : GoodIn wsX10_learn (wsV RX10 160 RX10 yX10_countedBadTen wsX10_countedBadTen) := goodIn_app (goodIn_of _ (by decide +kernel)) ggX10_learn_X10_countedBadTen
set_option maxRecDepth 20000 in
theorem ggX10_learn_X3_plan : GoodIn wsX10_learn wsX3_plan := goodIn_r _ [36, 37, 15, 16, 17, 38, 39, 40, 35, 41, 42, 43, 44, 45, 46, 47, 48, 49, 50, 51, 52, 53, 54, 55, 56, 57, 58, 59, 60, 61, 62, 63, 64, 65, 66, 67, 68, 69, 70, 7, 71, 72, 73, 74, 75, 76, 77, 78, 79, 80, 81, 82, 83, 84, 85, 86, 87, 88, 89, 90, 91, 92, 93, 94, 95, 96, 97, 98, 99, 100, 101, 102, 103, 104, 105, 106, 107, 143, 144, 133, 134, 135, 136, 137, 138, 139, 140, 141, 142] (by decide +kernel) (by decide +kernel)
set_option maxRecDepth 20000 in
theorem gX10_learn_X3_plan : GoodIn wsX10_learn (wsV RX10 209 RX3 yX3_plan wsX3_plan) := goodIn_app (goodIn_of _ (by decide +kernel)) ggX10_learn_X3_plan
set_option maxRecDepth 20000 in
theorem ggX10_learn_X3_mostLeft : GoodIn wsX10_learn wsX3_mostLeft := goodIn_r _ [111, 38, 39, 40, 35, 41, 42, 43, 16, 44, 143, 144] (by decide +kernel) (by decide +kernel)
set_option maxRecDepth 20000 in
theorem gX10_learn_X3_mostLeft : GoodIn wsX10_learn (wsV RX10 213 RX3 yX3_mostLeft wsX3_mostLeft) := goodIn_app (goodIn_of _ (by decide +kernel)) ggX10_learn_X3_mostLeft
set_option maxRecDepth 20000 in
theorem ggX10_learn_X3_timesOf : GoodIn wsX10_learn wsX3_timesOf := goodIn_r _ [115, 37, 15, 16, 17, 116, 117, 118, 35, 119, 62, 63, 64, 65, 66, 67, 68, 69, 70, 7, 71, 72, 73, 74, 75, 76, 77, 78, 79, 60, 80, 81, 82, 83, 84, 85, 86, 87, 88, 89, 90, 91, 92, 55, 56, 57, 58, 59, 61, 93, 94, 95, 96, 97, 98, 99, 100, 101, 102, 103, 104, 105, 106, 107, 38, 39, 40, 41, 42, 43, 44, 143, 144, 133, 134, 135, 136, 137, 138, 139, 140, 141, 142] (by decide +kernel) (by decide +kernel)
set_option maxRecDepth 20000 in
theorem gX10_learn_X3_timesOf : GoodIn wsX10_learn (wsV RX10 216 RX3 yX3_timesOf wsX3_timesOf) := goodIn_app (goodIn_of _ (by decide +kernel)) ggX10_learn_X3_timesOf
theorem dX10_learn_0 : decode cX10_learn 0 = .ok (.iload_n 1, 1) := by decide +kernel
theorem dX10_learn_1 : decode cX10_learn 1 = .ok (.ifCond .lt 19, 3) := by decide +kernel
theorem dX10_learn_4 : decode cX10_learn 4 = .ok (.iload_n 1, 1) := by decide +kernel
theorem dX10_learn_5 : decode cX10_learn 5 = .ok (.iconst 1, 1) := by decide +kernel
theorem dX10_learn_6 : decode cX10_learn 6 = .ok (.aload_n 0, 1) := by decide +kernel
theorem dX10_learn_7 : decode cX10_learn 7 = .ok (.getfield 10, 3) := by decide +kernel
theorem dX10_learn_10 : decode cX10_learn 10 = .ok (.getfield 80, 3) := by decide +kernel
theorem dX10_learn_13 : decode cX10_learn 13 = .ok (.invokevirtual 206, 3) := by decide +kernel
theorem dX10_learn_16 : decode cX10_learn 16 = .ok (.ishl, 1) := by decide +kernel
theorem dX10_learn_17 : decode cX10_learn 17 = .ok (.if_icmp .lt 7, 3) := by decide +kernel
theorem dX10_learn_20 : decode cX10_learn 20 = .ok (.iconst 1, 1) := by decide +kernel
theorem dX10_learn_21 : decode cX10_learn 21 = .ok (.goto 4, 3) := by decide +kernel
theorem dX10_learn_24 : decode cX10_learn 24 = .ok (.iconst 0, 1) := by decide +kernel
theorem dX10_learn_25 : decode cX10_learn 25 = .ok (.istore 4, 2) := by decide +kernel
theorem dX10_learn_27 : decode cX10_learn 27 = .ok (.iload_n 3, 1) := by decide +kernel
theorem dX10_learn_28 : decode cX10_learn 28 = .ok (.iconst (-1), 1) := by decide +kernel
theorem dX10_learn_29 : decode cX10_learn 29 = .ok (.if_icmp .eq 29, 3) := by decide +kernel
theorem dX10_learn_32 : decode cX10_learn 32 = .ok (.aload_n 0, 1) := by decide +kernel
theorem dX10_learn_33 : decode cX10_learn 33 = .ok (.getfield 10, 3) := by decide +kernel
theorem dX10_learn_36 : decode cX10_learn 36 = .ok (.getfield 80, 3) := by decide +kernel
theorem dX10_learn_39 : decode cX10_learn 39 = .ok (.iload_n 3, 1) := by decide +kernel
theorem dX10_learn_40 : decode cX10_learn 40 = .ok (.invokevirtual 84, 3) := by decide +kernel
theorem dX10_learn_43 : decode cX10_learn 43 = .ok (.ifCond .eq 11, 3) := by decide +kernel
theorem dX10_learn_46 : decode cX10_learn 46 = .ok (.iload_n 1, 1) := by decide +kernel
theorem dX10_learn_47 : decode cX10_learn 47 = .ok (.iload_n 3, 1) := by decide +kernel
theorem dX10_learn_48 : decode cX10_learn 48 = .ok (.invokestatic 178, 3) := by decide +kernel
theorem dX10_learn_51 : decode cX10_learn 51 = .ok (.ifCond .ne 7, 3) := by decide +kernel
theorem dX10_learn_54 : decode cX10_learn 54 = .ok (.iconst 1, 1) := by decide +kernel
theorem dX10_learn_55 : decode cX10_learn 55 = .ok (.goto 4, 3) := by decide +kernel
theorem dX10_learn_58 : decode cX10_learn 58 = .ok (.iconst 0, 1) := by decide +kernel
theorem dX10_learn_59 : decode cX10_learn 59 = .ok (.istore 5, 2) := by decide +kernel
theorem dX10_learn_61 : decode cX10_learn 61 = .ok (.iload 4, 2) := by decide +kernel
theorem dX10_learn_63 : decode cX10_learn 63 = .ok (.ifCond .ne 18, 3) := by decide +kernel
theorem dX10_learn_66 : decode cX10_learn 66 = .ok (.iload 5, 2) := by decide +kernel
theorem dX10_learn_68 : decode cX10_learn 68 = .ok (.ifCond .ne 13, 3) := by decide +kernel
theorem dX10_learn_71 : decode cX10_learn 71 = .ok (.iload_n 2, 1) := by decide +kernel
theorem dX10_learn_72 : decode cX10_learn 72 = .ok (.iconst 0, 1) := by decide +kernel
theorem dX10_learn_73 : decode cX10_learn 73 = .ok (.bipush 99, 2) := by decide +kernel
theorem dX10_learn_75 : decode cX10_learn 75 = .ok (.invokestatic 90, 3) := by decide +kernel
theorem dX10_learn_78 : decode cX10_learn 78 = .ok (.ifCond .ne 8, 3) := by decide +kernel
theorem dX10_learn_81 : decode cX10_learn 81 = .ok (.aload_n 0, 1) := by decide +kernel
theorem dX10_learn_82 : decode cX10_learn 82 = .ok (.invokevirtual 160, 3) := by decide +kernel
theorem dX10_learn_85 : decode cX10_learn 85 = .ok (.ireturn, 1) := by decide +kernel
theorem dX10_learn_86 : decode cX10_learn 86 = .ok (.aload_n 0, 1) := by decide +kernel
theorem dX10_learn_87 : decode cX10_learn 87 = .ok (.getfield 53, 3) := by decide +kernel
theorem dX10_learn_90 : decode cX10_learn 90 = .ok (.aload_n 0, 1) := by decide +kernel
theorem dX10_learn_91 : decode cX10_learn 91 = .ok (.getfield 10, 3) := by decide +kernel
theorem dX10_learn_94 : decode cX10_learn 94 = .ok (.iload_n 1, 1) := by decide +kernel
theorem dX10_learn_95 : decode cX10_learn 95 = .ok (.iload_n 2, 1) := by decide +kernel
theorem dX10_learn_96 : decode cX10_learn 96 = .ok (.invokevirtual 209, 3) := by decide +kernel
theorem dX10_learn_99 : decode cX10_learn 99 = .ok (.iload_n 3, 1) := by decide +kernel
theorem dX10_learn_100 : decode cX10_learn 100 = .ok (.iconst (-1), 1) := by decide +kernel
theorem dX10_learn_101 : decode cX10_learn 101 = .ok (.if_icmp .ne 14, 3) := by decide +kernel
theorem dX10_learn_104 : decode cX10_learn 104 = .ok (.aload_n 0, 1) := by decide +kernel
theorem dX10_learn_105 : decode cX10_learn 105 = .ok (.getfield 53, 3) := by decide +kernel
theorem dX10_learn_108 : decode cX10_learn 108 = .ok (.iload_n 2, 1) := by decide +kernel
theorem dX10_learn_109 : decode cX10_learn 109 = .ok (.invokevirtual 213, 3) := by decide +kernel
theorem dX10_learn_112 : decode cX10_learn 112 = .ok (.goto 16, 3) := by decide +kernel
theorem dX10_learn_115 : decode cX10_learn 115 = .ok (.aload_n 0, 1) := by decide +kernel
theorem dX10_learn_116 : decode cX10_learn 116 = .ok (.getfield 53, 3) := by decide +kernel
theorem dX10_learn_119 : decode cX10_learn 119 = .ok (.aload_n 0, 1) := by decide +kernel
theorem dX10_learn_120 : decode cX10_learn 120 = .ok (.getfield 10, 3) := by decide +kernel
theorem dX10_learn_123 : decode cX10_learn 123 = .ok (.iload_n 2, 1) := by decide +kernel
theorem dX10_learn_124 : decode cX10_learn 124 = .ok (.iload_n 3, 1) := by decide +kernel
theorem dX10_learn_125 : decode cX10_learn 125 = .ok (.invokevirtual 216, 3) := by decide +kernel
theorem dX10_learn_128 : decode cX10_learn 128 = .ok (.ireturn, 1) := by decide +kernel
set_option maxRecDepth 20000 in
theorem ggX10_rests_X10_within : GoodIn wsX10_rests wsX10_within := goodIn_r _ [4] (by decide +kernel) (by decide +kernel)
set_option maxRecDepth 20000 in
theorem gX10_rests_X10_within : GoodIn wsX10_rests (va_wsS RX10 90 yX10_within wsX10_within) := goodIn_app (goodIn_of _ (by decide +kernel)) ggX10_rests_X10_within
set_option maxRecDepth 20000 in
theorem ggX10_rests_X10_counted : GoodIn wsX10_rests wsX10_counted := goodIn_r _ [8, 9, 10, 11, 19, 20, 21, 22, 23, 24, 25, 26, 27, 28, 29, 30, 31] (by decide +kernel) (by decide +kernel)
set_option maxRecDepth 20000 in
theorem gX10_rests_X10_counted : GoodIn wsX10_rests (wsV RX10 68 RX10 yX10_counted wsX10_counted) := goodIn_app (goodIn_of _ (by decide +kernel)) ggX10_rests_X10_counted
set_option maxRecDepth 20000 in
theorem ggX10_rests_X0_restBits : GoodIn wsX10_rests wsX0_restBits := goodIn_r _ [15, 16, 17, 14, 18] (by decide +kernel) (by decide +kernel)
set_option maxRecDepth 20000 in
theorem gX10_rests_X0_restBits : GoodIn wsX10_rests (va_wsS RX10 219 yX0_restBits wsX0_restBits) := goodIn_app (goodIn_of _ (by decide +kernel)) ggX10_rests_X0_restBits
theorem dX10_rests_0 : decode cX10_rests 0 = .ok (.iload_n 1, 1) := by decide +kernel
theorem dX10_rests_1 : decode cX10_rests 1 = .ok (.iconst 0, 1) := by decide +kernel
theorem dX10_rests_2 : decode cX10_rests 2 = .ok (.bipush 20, 2) := by decide +kernel
theorem dX10_rests_4 : decode cX10_rests 4 = .ok (.invokestatic 90, 3) := by decide +kernel
theorem dX10_rests_7 : decode cX10_rests 7 = .ok (.ifCond .eq 13, 3) := by decide +kernel
theorem dX10_rests_10 : decode cX10_rests 10 = .ok (.iload_n 2, 1) := by decide +kernel
theorem dX10_rests_11 : decode cX10_rests 11 = .ok (.iconst 0, 1) := by decide +kernel
theorem dX10_rests_12 : decode cX10_rests 12 = .ok (.bipush 20, 2) := by decide +kernel
theorem dX10_rests_14 : decode cX10_rests 14 = .ok (.invokestatic 90, 3) := by decide +kernel
theorem dX10_rests_17 : decode cX10_rests 17 = .ok (.ifCond .ne 10, 3) := by decide +kernel
theorem dX10_rests_20 : decode cX10_rests 20 = .ok (.aload_n 0, 1) := by decide +kernel
theorem dX10_rests_21 : decode cX10_rests 21 = .ok (.bipush (-2), 2) := by decide +kernel
theorem dX10_rests_23 : decode cX10_rests 23 = .ok (.invokevirtual 68, 3) := by decide +kernel
theorem dX10_rests_26 : decode cX10_rests 26 = .ok (.ireturn, 1) := by decide +kernel
theorem dX10_rests_27 : decode cX10_rests 27 = .ok (.iload_n 1, 1) := by decide +kernel
theorem dX10_rests_28 : decode cX10_rests 28 = .ok (.iload_n 2, 1) := by decide +kernel
theorem dX10_rests_29 : decode cX10_rests 29 = .ok (.invokestatic 219, 3) := by decide +kernel
theorem dX10_rests_32 : decode cX10_rests 32 = .ok (.ireturn, 1) := by decide +kernel
set_option maxRecDepth 20000 in
theorem ggX10_part_X10_within : GoodIn wsX10_part wsX10_within := goodIn_r _ [6] (by decide +kernel) (by decide +kernel)
set_option maxRecDepth 20000 in
theorem gX10_part_X10_within : GoodIn wsX10_part (va_wsS RX10 90 yX10_within wsX10_within) := goodIn_app (goodIn_of _ (by decide +kernel)) ggX10_part_X10_within
set_option maxRecDepth 20000 in
theorem ggX10_part_X10_counted : GoodIn wsX10_part wsX10_counted := goodIn_r _ [10, 11, 12, 13, 14, 15, 16, 17, 18, 19, 20, 21, 22, 23, 24, 25, 26] (by decide +kernel) (by decide +kernel)
set_option maxRecDepth 20000 in
theorem gX10_part_X10_counted : GoodIn wsX10_part (wsV RX10 68 RX10 yX10_counted wsX10_counted) := goodIn_app (goodIn_of _ (by decide +kernel)) ggX10_part_X10_counted
theorem dX10_part_0 : decode cX10_part 0 = .ok (.iload_n 1, 1) := by decide +kernel
theorem dX10_part_1 : decode cX10_part 1 = .ok (.iconst 0, 1) := by decide +kernel
theorem dX10_part_2 : decode cX10_part 2 = .ok (.iconst 1, 1) := by decide +kernel
theorem dX10_part_3 : decode cX10_part 3 = .ok (.invokestatic 90, 3) := by decide +kernel
theorem dX10_part_6 : decode cX10_part 6 = .ok (.ifCond .ne 11, 3) := by decide +kernel
theorem dX10_part_9 : decode cX10_part 9 = .ok (.aload_n 0, 1) := by decide +kernel
theorem dX10_part_10 : decode cX10_part 10 = .ok (.bipush (-2), 2) := by decide +kernel
theorem dX10_part_12 : decode cX10_part 12 = .ok (.invokevirtual 68, 3) := by decide +kernel
theorem dX10_part_15 : decode cX10_part 15 = .ok (.i2l, 1) := by decide +kernel
theorem dX10_part_16 : decode cX10_part 16 = .ok (.lreturn, 1) := by decide +kernel
theorem dX10_part_17 : decode cX10_part 17 = .ok (.iload_n 1, 1) := by decide +kernel
theorem dX10_part_18 : decode cX10_part 18 = .ok (.ifCond .ne 10, 3) := by decide +kernel
theorem dX10_part_21 : decode cX10_part 21 = .ok (.aload_n 0, 1) := by decide +kernel
theorem dX10_part_22 : decode cX10_part 22 = .ok (.getfield 57, 3) := by decide +kernel
theorem dX10_part_25 : decode cX10_part 25 = .ok (.goto 7, 3) := by decide +kernel
theorem dX10_part_28 : decode cX10_part 28 = .ok (.aload_n 0, 1) := by decide +kernel
theorem dX10_part_29 : decode cX10_part 29 = .ok (.getfield 61, 3) := by decide +kernel
theorem dX10_part_32 : decode cX10_part 32 = .ok (.lreturn, 1) := by decide +kernel
set_option maxRecDepth 20000 in
theorem ggX10_image_X10_imageAt : GoodIn wsX10_image wsX10_imageAt := goodIn_r _ [7, 8, 34, 35, 36, 37, 38, 39, 40, 41, 42, 43, 44, 45, 46] (by decide +kernel) (by decide +kernel)
set_option maxRecDepth 20000 in
theorem gX10_image_X10_imageAt : GoodIn wsX10_image (wsV RX10 224 RX10 yX10_imageAt wsX10_imageAt) := goodIn_app (goodIn_of _ (by decide +kernel)) ggX10_image_X10_imageAt
set_option maxRecDepth 20000 in
theorem ggX10_image_X10_counted : GoodIn wsX10_image wsX10_counted := goodIn_r _ [12, 13, 14, 15, 34, 35, 36, 37, 38, 39, 40, 41, 42, 43, 44, 45, 46] (by decide +kernel) (by decide +kernel)
set_option maxRecDepth 20000 in
theorem gX10_image_X10_counted : GoodIn wsX10_image (wsV RX10 68 RX10 yX10_counted wsX10_counted) := goodIn_app (goodIn_of _ (by decide +kernel)) ggX10_image_X10_counted
set_option maxRecDepth 20000 in
theorem ggX10_image_X1_become : GoodIn wsX10_image wsX1_become := goodIn_r _ [20, 21, 22, 23, 24, 25, 26, 27, 28, 29, 30, 31, 32, 33, 47, 48, 49, 50, 51, 52, 53, 54, 55, 56] (by decide +kernel) (by decide +kernel)
set_option maxRecDepth 20000 in
theorem gX10_image_X1_become : GoodIn wsX10_image (wsV RX10 228 RX1 yX1_become wsX1_become) := goodIn_app (goodIn_of _ (by decide +kernel)) ggX10_image_X1_become
theorem dX10_image_0 : decode cX10_image 0 = .ok (.aload_n 0, 1) := by decide +kernel
theorem dX10_image_1 : decode cX10_image 1 = .ok (.iload_n 1, 1) := by decide +kernel
theorem dX10_image_2 : decode cX10_image 2 = .ok (.invokevirtual 224, 3) := by decide +kernel
theorem dX10_image_5 : decode cX10_image 5 = .ok (.astore_n 2, 1) := by decide +kernel
theorem dX10_image_6 : decode cX10_image 6 = .ok (.aload_n 2, 1) := by decide +kernel
theorem dX10_image_7 : decode cX10_image 7 = .ok (.ifnonnull 10, 3) := by decide +kernel
theorem dX10_image_10 : decode cX10_image 10 = .ok (.aload_n 0, 1) := by decide +kernel
theorem dX10_image_11 : decode cX10_image 11 = .ok (.bipush (-2), 2) := by decide +kernel
theorem dX10_image_13 : decode cX10_image 13 = .ok (.invokevirtual 68, 3) := by decide +kernel
theorem dX10_image_16 : decode cX10_image 16 = .ok (.ireturn, 1) := by decide +kernel
theorem dX10_image_17 : decode cX10_image 17 = .ok (.aload_n 2, 1) := by decide +kernel
theorem dX10_image_18 : decode cX10_image 18 = .ok (.aload_n 0, 1) := by decide +kernel
theorem dX10_image_19 : decode cX10_image 19 = .ok (.getfield 10, 3) := by decide +kernel
theorem dX10_image_22 : decode cX10_image 22 = .ok (.invokevirtual 228, 3) := by decide +kernel
theorem dX10_image_25 : decode cX10_image 25 = .ok (.aload_n 0, 1) := by decide +kernel
theorem dX10_image_26 : decode cX10_image 26 = .ok (.dup, 1) := by decide +kernel
theorem dX10_image_27 : decode cX10_image 27 = .ok (.getfield 231, 3) := by decide +kernel
theorem dX10_image_30 : decode cX10_image 30 = .ok (.iconst 1, 1) := by decide +kernel
theorem dX10_image_31 : decode cX10_image 31 = .ok (.iload_n 1, 1) := by decide +kernel
theorem dX10_image_32 : decode cX10_image 32 = .ok (.ishl, 1) := by decide +kernel
theorem dX10_image_33 : decode cX10_image 33 = .ok (.ior, 1) := by decide +kernel
theorem dX10_image_34 : decode cX10_image 34 = .ok (.putfield 231, 3) := by decide +kernel
theorem dX10_image_37 : decode cX10_image 37 = .ok (.iconst 1, 1) := by decide +kernel
theorem dX10_image_38 : decode cX10_image 38 = .ok (.ireturn, 1) := by decide +kernel
set_option maxRecDepth 20000 in
theorem ggX10_from_X10_imageAt : GoodIn wsX10_from wsX10_imageAt := goodIn_r _ [8, 9, 44, 45, 46, 47, 48, 49, 50, 51, 52, 53, 54, 55, 56] (by decide +kernel) (by decide +kernel)
set_option maxRecDepth 20000 in
theorem gX10_from_X10_imageAt : GoodIn wsX10_from (wsV RX10 224 RX10 yX10_imageAt wsX10_imageAt) := goodIn_app (goodIn_of _ (by decide +kernel)) ggX10_from_X10_imageAt
set_option maxRecDepth 20000 in
theorem ggX10_from_X10_counted : GoodIn wsX10_from wsX10_counted := goodIn_r _ [13, 14, 15, 16, 44, 45, 46, 47, 48, 49, 50, 51, 52, 53, 54, 55, 56] (by decide +kernel) (by decide +kernel)
set_option maxRecDepth 20000 in
theorem gX10_from_X10_counted : GoodIn wsX10_from (wsV RX10 68 RX10 yX10_counted wsX10_counted) := goodIn_app (goodIn_of _ (by decide +kernel)) ggX10_from_X10_counted
set_option maxRecDepth 20000 in
theorem ggX10_from_X10_isIn : GoodIn wsX10_from wsX10_isIn := goodIn_r _ [19] (by decide +kernel) (by decide +kernel)
set_option maxRecDepth 20000 in
theorem gX10_from_X10_isIn : GoodIn wsX10_from (va_wsS RX10 178 yX10_isIn wsX10_isIn) := goodIn_app (goodIn_of _ (by decide +kernel)) ggX10_from_X10_isIn
set_option maxRecDepth 20000 in
theorem ggX10_from_X1_become : GoodIn wsX10_from wsX1_become := goodIn_r _ [24, 25, 26, 27, 28, 29, 30, 31, 32, 33, 34, 35, 36, 37, 57, 58, 59, 60, 61, 62, 63, 64, 65, 66] (by decide +kernel) (by decide +kernel)
set_option maxRecDepth 20000 in
theorem gX10_from_X1_become : GoodIn wsX10_from (wsV RX10 228 RX1 yX1_become wsX1_become) := goodIn_app (goodIn_of _ (by decide +kernel)) ggX10_from_X1_become
set_option maxRecDepth 20000 in
theorem ggX10_from_X5_forget : GoodIn wsX10_from wsX5_forget := goodIn_r _ [42, 43, 67, 68, 69] (by decide +kernel) (by decide +kernel)
set_option maxRecDepth 20000 in
theorem gX10_from_X5_forget : GoodIn wsX10_from (wsV RX10 124 RX5 yX5_forget wsX5_forget) := goodIn_app (goodIn_of _ (by decide +kernel)) ggX10_from_X5_forget
theorem dX10_from_0 : decode cX10_from 0 = .ok (.aload_n 0, 1) := by decide +kernel
theorem dX10_from_1 : decode cX10_from 1 = .ok (.iload_n 1, 1) := by decide +kernel
theorem dX10_from_2 : decode cX10_from 2 = .ok (.invokevirtual 224, 3) := by decide +kernel
theorem dX10_from_5 : decode cX10_from 5 = .ok (.astore_n 2, 1) := by decide +kernel
theorem dX10_from_6 : decode cX10_from 6 = .ok (.aload_n 2, 1) := by decide +kernel
theorem dX10_from_7 : decode cX10_from 7 = .ok (.ifnonnull 10, 3) := by decide +kernel
theorem dX10_from_10 : decode cX10_from 10 = .ok (.aload_n 0, 1) := by decide +kernel
theorem dX10_from_11 : decode cX10_from 11 = .ok (.bipush (-2), 2) := by decide +kernel
theorem dX10_from_13 : decode cX10_from 13 = .ok (.invokevirtual 68, 3) := by decide +kernel
theorem dX10_from_16 : decode cX10_from 16 = .ok (.ireturn, 1) := by decide +kernel
theorem dX10_from_17 : decode cX10_from 17 = .ok (.aload_n 0, 1) := by decide +kernel
theorem dX10_from_18 : decode cX10_from 18 = .ok (.getfield 231, 3) := by decide +kernel
theorem dX10_from_21 : decode cX10_from 21 = .ok (.iload_n 1, 1) := by decide +kernel
theorem dX10_from_22 : decode cX10_from 22 = .ok (.invokestatic 178, 3) := by decide +kernel
theorem dX10_from_25 : decode cX10_from 25 = .ok (.ifCond .ne 10, 3) := by decide +kernel
theorem dX10_from_28 : decode cX10_from 28 = .ok (.aload_n 0, 1) := by decide +kernel
theorem dX10_from_29 : decode cX10_from 29 = .ok (.bipush (-3), 2) := by decide +kernel
theorem dX10_from_31 : decode cX10_from 31 = .ok (.invokevirtual 68, 3) := by decide +kernel
theorem dX10_from_34 : decode cX10_from 34 = .ok (.ireturn, 1) := by decide +kernel
theorem dX10_from_35 : decode cX10_from 35 = .ok (.aload_n 0, 1) := by decide +kernel
theorem dX10_from_36 : decode cX10_from 36 = .ok (.getfield 10, 3) := by decide +kernel
theorem dX10_from_39 : decode cX10_from 39 = .ok (.aload_n 2, 1) := by decide +kernel
theorem dX10_from_40 : decode cX10_from 40 = .ok (.invokevirtual 228, 3) := by decide +kernel
theorem dX10_from_43 : decode cX10_from 43 = .ok (.aload_n 0, 1) := by decide +kernel
theorem dX10_from_44 : decode cX10_from 44 = .ok (.getfield 19, 3) := by decide +kernel
theorem dX10_from_47 : decode cX10_from 47 = .ok (.invokevirtual 124, 3) := by decide +kernel
theorem dX10_from_50 : decode cX10_from 50 = .ok (.iconst 1, 1) := by decide +kernel
theorem dX10_from_51 : decode cX10_from 51 = .ok (.ireturn, 1) := by decide +kernel
set_option maxRecDepth 20000 in
theorem ggX10_status_X10_counted : GoodIn wsX10_status wsX10_counted := goodIn_r _ [8, 1, 2, 3, 9, 10, 11, 12, 13, 14, 15, 16, 17, 18, 19, 20, 21] (by decide +kernel) (by decide +kernel)
set_option maxRecDepth 20000 in
theorem gX10_status_X10_counted : GoodIn wsX10_status (wsV RX10 68 RX10 yX10_counted wsX10_counted) := goodIn_app (goodIn_of _ (by decide +kernel)) ggX10_status_X10_counted
theorem dX10_status_0 : decode cX10_status 0 = .ok (.iload_n 1, 1) := by decide +kernel
theorem dX10_status_1 : decode cX10_status 1 = .ok (.tableswitch 42 0 2 #[27, 32, 37], 27) := by decide +kernel
theorem dX10_status_28 : decode cX10_status 28 = .ok (.aload_n 0, 1) := by decide +kernel
theorem dX10_status_29 : decode cX10_status 29 = .ok (.getfield 234, 3) := by decide +kernel
theorem dX10_status_32 : decode cX10_status 32 = .ok (.ireturn, 1) := by decide +kernel
theorem dX10_status_33 : decode cX10_status 33 = .ok (.aload_n 0, 1) := by decide +kernel
theorem dX10_status_34 : decode cX10_status 34 = .ok (.getfield 237, 3) := by decide +kernel
theorem dX10_status_37 : decode cX10_status 37 = .ok (.ireturn, 1) := by decide +kernel
theorem dX10_status_38 : decode cX10_status 38 = .ok (.aload_n 0, 1) := by decide +kernel
theorem dX10_status_39 : decode cX10_status 39 = .ok (.getfield 240, 3) := by decide +kernel
theorem dX10_status_42 : decode cX10_status 42 = .ok (.ireturn, 1) := by decide +kernel
theorem dX10_status_43 : decode cX10_status 43 = .ok (.aload_n 0, 1) := by decide +kernel
theorem dX10_status_44 : decode cX10_status 44 = .ok (.bipush (-2), 2) := by decide +kernel
theorem dX10_status_46 : decode cX10_status 46 = .ok (.invokevirtual 68, 3) := by decide +kernel
theorem dX10_status_49 : decode cX10_status 49 = .ok (.pop, 1) := by decide +kernel
theorem dX10_status_50 : decode cX10_status 50 = .ok (.iconst (-1), 1) := by decide +kernel
theorem dX10_status_51 : decode cX10_status 51 = .ok (.ireturn, 1) := by decide +kernel
set_option maxRecDepth 20000 in
theorem ggX10_count_X10_within : GoodIn wsX10_count wsX10_within := goodIn_r _ [4] (by decide +kernel) (by decide +kernel)
set_option maxRecDepth 20000 in
theorem gX10_count_X10_within : GoodIn wsX10_count (va_wsS RX10 90 yX10_within wsX10_within) := goodIn_app (goodIn_of _ (by decide +kernel)) ggX10_count_X10_within
set_option maxRecDepth 20000 in
theorem ggX10_count_X10_tally : GoodIn wsX10_count wsX10_tally := goodIn_r _ [8, 9, 10, 11, 12, 13, 14, 15, 16, 17, 18, 19, 20, 21, 22, 23, 24, 25, 26, 27, 28, 29, 30, 31, 32, 33, 41, 42, 43, 44, 45, 46, 47, 48, 49, 50, 51, 52, 53, 54, 55, 56, 57, 58, 59, 60, 61, 62, 63, 64, 65, 66, 67, 68] (by decide +kernel) (by decide +kernel)
set_option maxRecDepth 20000 in
theorem gX10_count_X10_tally : GoodIn wsX10_count (wsV RX10 243 RX10 yX10_tally wsX10_tally) := goodIn_app (goodIn_of _ (by decide +kernel)) ggX10_count_X10_tally
set_option maxRecDepth 20000 in
theorem ggX10_count_X10_counted : GoodIn wsX10_count wsX10_counted := goodIn_r _ [37, 38, 39, 40, 41, 42, 43, 44, 45, 46, 47, 48, 49, 50, 51, 52, 53] (by decide +kernel) (by decide +kernel)
set_option maxRecDepth 20000 in
theorem gX10_count_X10_counted : GoodIn wsX10_count (wsV RX10 68 RX10 yX10_counted wsX10_counted) := goodIn_app (goodIn_of _ (by decide +kernel)) ggX10_count_X10_counted
theorem dX10_count_0 : decode cX10_count 0 = .ok (.iload_n 1, 1) := by decide +kernel
theorem dX10_count_1 : decode cX10_count 1 = .ok (.iconst 0, 1) := by decide +kernel
theorem dX10_count_2 : decode cX10_count 2 = .ok (.iconst 5, 1) := by decide +kernel
theorem dX10_count_3 : decode cX10_count 3 = .ok (.invokestatic 90, 3) := by decide +kernel
theorem dX10_count_6 : decode cX10_count 6 = .ok (.ifCond .eq 11, 3) := by decide +kernel
theorem dX10_count_9 : decode cX10_count 9 = .ok (.aload_n 0, 1) := by decide +kernel
theorem dX10_count_10 : decode cX10_count 10 = .ok (.iload_n 1, 1) := by decide +kernel
theorem dX10_count_11 : decode cX10_count 11 = .ok (.invokevirtual 243, 3) := by decide +kernel
theorem dX10_count_14 : decode cX10_count 14 = .ok (.goto 9, 3) := by decide +kernel
theorem dX10_count_17 : decode cX10_count 17 = .ok (.aload_n 0, 1) := by decide +kernel
theorem dX10_count_18 : decode cX10_count 18 = .ok (.bipush (-2), 2) := by decide +kernel
theorem dX10_count_20 : decode cX10_count 20 = .ok (.invokevirtual 68, 3) := by decide +kernel
theorem dX10_count_23 : decode cX10_count 23 = .ok (.ireturn, 1) := by decide +kernel
set_option maxRecDepth 20000 in
theorem ggX10_digest_X10_tally : GoodIn wsX10_digest wsX10_tally := goodIn_r _ [10, 3, 11, 12, 13, 14, 15, 16, 17, 18, 19, 20, 21, 22, 23, 24, 25, 26, 27, 28, 29, 30, 31, 32, 33, 34, 52, 53, 54, 55, 56, 57, 58, 59, 60, 61, 62, 63, 64, 65, 66, 67, 68, 69, 70, 71, 72, 73, 74, 75, 76, 77, 78, 79] (by decide +kernel) (by decide +kernel)
set_option maxRecDepth 20000 in
theorem gX10_digest_X10_tally : GoodIn wsX10_digest (wsV RX10 243 RX10 yX10_tally wsX10_tally) := goodIn_app (goodIn_of _ (by decide +kernel)) ggX10_digest_X10_tally
set_option maxRecDepth 20000 in
theorem ggX10_digest_X1_mixedInto : GoodIn wsX10_digest wsX1_mixedInto := goodIn_r _ [39, 40, 41, 42, 43, 44, 45, 46, 47, 20, 48, 22, 49, 50, 51, 65, 66, 67, 68, 69, 70, 71, 72, 73, 74] (by decide +kernel) (by decide +kernel)
set_option maxRecDepth 20000 in
theorem gX10_digest_X1_mixedInto : GoodIn wsX10_digest (wsV RX10 250 RX1 yX1_mixedInto wsX1_mixedInto) := goodIn_app (goodIn_of _ (by decide +kernel)) ggX10_digest_X1_mixedInto
theorem dX10_digest_0 : decode cX10_digest 0 = .ok (.ldc2_w 246, 3) := by decide +kernel
theorem dX10_digest_3 : decode cX10_digest 3 = .ok (.lstore_n 1, 1) := by decide +kernel
theorem dX10_digest_4 : decode cX10_digest 4 = .ok (.iconst 0, 1) := by decide +kernel
theorem dX10_digest_5 : decode cX10_digest 5 = .ok (.istore_n 3, 1) := by decide +kernel
theorem dX10_digest_6 : decode cX10_digest 6 = .ok (.iload_n 3, 1) := by decide +kernel
theorem dX10_digest_7 : decode cX10_digest 7 = .ok (.iconst 5, 1) := by decide +kernel
theorem dX10_digest_8 : decode cX10_digest 8 = .ok (.if_icmp .gt 22, 3) := by decide +kernel
theorem dX10_digest_11 : decode cX10_digest 11 = .ok (.ldc2_w 248, 3) := by decide +kernel
theorem dX10_digest_14 : decode cX10_digest 14 = .ok (.lload_n 1, 1) := by decide +kernel
theorem dX10_digest_15 : decode cX10_digest 15 = .ok (.lmul, 1) := by decide +kernel
theorem dX10_digest_16 : decode cX10_digest 16 = .ok (.aload_n 0, 1) := by decide +kernel
theorem dX10_digest_17 : decode cX10_digest 17 = .ok (.iload_n 3, 1) := by decide +kernel
theorem dX10_digest_18 : decode cX10_digest 18 = .ok (.invokevirtual 243, 3) := by decide +kernel
theorem dX10_digest_21 : decode cX10_digest 21 = .ok (.i2l, 1) := by decide +kernel
theorem dX10_digest_22 : decode cX10_digest 22 = .ok (.ladd, 1) := by decide +kernel
theorem dX10_digest_23 : decode cX10_digest 23 = .ok (.lstore_n 1, 1) := by decide +kernel
theorem dX10_digest_24 : decode cX10_digest 24 = .ok (.iinc 3 1, 3) := by decide +kernel
theorem dX10_digest_27 : decode cX10_digest 27 = .ok (.goto (-21), 3) := by decide +kernel
theorem dX10_digest_30 : decode cX10_digest 30 = .ok (.aload_n 0, 1) := by decide +kernel
theorem dX10_digest_31 : decode cX10_digest 31 = .ok (.getfield 10, 3) := by decide +kernel
theorem dX10_digest_34 : decode cX10_digest 34 = .ok (.lload_n 1, 1) := by decide +kernel
theorem dX10_digest_35 : decode cX10_digest 35 = .ok (.invokevirtual 250, 3) := by decide +kernel
theorem dX10_digest_38 : decode cX10_digest 38 = .ok (.lstore_n 1, 1) := by decide +kernel
theorem dX10_digest_39 : decode cX10_digest 39 = .ok (.ldc2_w 248, 3) := by decide +kernel
theorem dX10_digest_42 : decode cX10_digest 42 = .ok (.lload_n 1, 1) := by decide +kernel
theorem dX10_digest_43 : decode cX10_digest 43 = .ok (.lmul, 1) := by decide +kernel
theorem dX10_digest_44 : decode cX10_digest 44 = .ok (.aload_n 0, 1) := by decide +kernel
theorem dX10_digest_45 : decode cX10_digest 45 = .ok (.getfield 57, 3) := by decide +kernel
theorem dX10_digest_48 : decode cX10_digest 48 = .ok (.ladd, 1) := by decide +kernel
theorem dX10_digest_49 : decode cX10_digest 49 = .ok (.lstore_n 1, 1) := by decide +kernel
theorem dX10_digest_50 : decode cX10_digest 50 = .ok (.ldc2_w 248, 3) := by decide +kernel
theorem dX10_digest_53 : decode cX10_digest 53 = .ok (.lload_n 1, 1) := by decide +kernel
theorem dX10_digest_54 : decode cX10_digest 54 = .ok (.lmul, 1) := by decide +kernel
theorem dX10_digest_55 : decode cX10_digest 55 = .ok (.aload_n 0, 1) := by decide +kernel
theorem dX10_digest_56 : decode cX10_digest 56 = .ok (.getfield 61, 3) := by decide +kernel
theorem dX10_digest_59 : decode cX10_digest 59 = .ok (.ladd, 1) := by decide +kernel
theorem dX10_digest_60 : decode cX10_digest 60 = .ok (.lreturn, 1) := by decide +kernel
theorem dX10_counted_0 : decode cX10_counted 0 = .ok (.iload_n 1, 1) := by decide +kernel
theorem dX10_counted_1 : decode cX10_counted 1 = .ok (.bipush (-2), 2) := by decide +kernel
theorem dX10_counted_3 : decode cX10_counted 3 = .ok (.if_icmp .ne 16, 3) := by decide +kernel
theorem dX10_counted_6 : decode cX10_counted 6 = .ok (.aload_n 0, 1) := by decide +kernel
theorem dX10_counted_7 : decode cX10_counted 7 = .ok (.dup, 1) := by decide +kernel
theorem dX10_counted_8 : decode cX10_counted 8 = .ok (.getfield 234, 3) := by decide +kernel
theorem dX10_counted_11 : decode cX10_counted 11 = .ok (.iconst 1, 1) := by decide +kernel
theorem dX10_counted_12 : decode cX10_counted 12 = .ok (.iadd, 1) := by decide +kernel
theorem dX10_counted_13 : decode cX10_counted 13 = .ok (.putfield 234, 3) := by decide +kernel
theorem dX10_counted_16 : decode cX10_counted 16 = .ok (.goto 38, 3) := by decide +kernel
theorem dX10_counted_19 : decode cX10_counted 19 = .ok (.iload_n 1, 1) := by decide +kernel
theorem dX10_counted_20 : decode cX10_counted 20 = .ok (.bipush (-3), 2) := by decide +kernel
theorem dX10_counted_22 : decode cX10_counted 22 = .ok (.if_icmp .ne 16, 3) := by decide +kernel
theorem dX10_counted_25 : decode cX10_counted 25 = .ok (.aload_n 0, 1) := by decide +kernel
theorem dX10_counted_26 : decode cX10_counted 26 = .ok (.dup, 1) := by decide +kernel
theorem dX10_counted_27 : decode cX10_counted 27 = .ok (.getfield 237, 3) := by decide +kernel
theorem dX10_counted_30 : decode cX10_counted 30 = .ok (.iconst 1, 1) := by decide +kernel
theorem dX10_counted_31 : decode cX10_counted 31 = .ok (.iadd, 1) := by decide +kernel
theorem dX10_counted_32 : decode cX10_counted 32 = .ok (.putfield 237, 3) := by decide +kernel
theorem dX10_counted_35 : decode cX10_counted 35 = .ok (.goto 19, 3) := by decide +kernel
theorem dX10_counted_38 : decode cX10_counted 38 = .ok (.iload_n 1, 1) := by decide +kernel
theorem dX10_counted_39 : decode cX10_counted 39 = .ok (.bipush (-4), 2) := by decide +kernel
theorem dX10_counted_41 : decode cX10_counted 41 = .ok (.if_icmp .ne 13, 3) := by decide +kernel
theorem dX10_counted_44 : decode cX10_counted 44 = .ok (.aload_n 0, 1) := by decide +kernel
theorem dX10_counted_45 : decode cX10_counted 45 = .ok (.dup, 1) := by decide +kernel
theorem dX10_counted_46 : decode cX10_counted 46 = .ok (.getfield 240, 3) := by decide +kernel
theorem dX10_counted_49 : decode cX10_counted 49 = .ok (.iconst 1, 1) := by decide +kernel
theorem dX10_counted_50 : decode cX10_counted 50 = .ok (.iadd, 1) := by decide +kernel
theorem dX10_counted_51 : decode cX10_counted 51 = .ok (.putfield 240, 3) := by decide +kernel
theorem dX10_counted_54 : decode cX10_counted 54 = .ok (.iload_n 1, 1) := by decide +kernel
theorem dX10_counted_55 : decode cX10_counted 55 = .ok (.ireturn, 1) := by decide +kernel
set_option maxRecDepth 20000 in
theorem ggX10_countedBadTen_X10_counted : GoodIn wsX10_countedBadTen wsX10_counted := goodIn_r _ [5, 6, 7, 8, 9, 10, 11, 12, 13, 14, 15, 16, 17, 18, 19, 20, 21] (by decide +kernel) (by decide +kernel)
set_option maxRecDepth 20000 in
theorem gX10_countedBadTen_X10_counted : GoodIn wsX10_countedBadTen (wsV RX10 68 RX10 yX10_counted wsX10_counted) := goodIn_app (goodIn_of _ (by decide +kernel)) ggX10_countedBadTen_X10_counted
theorem dX10_countedBadTen_0 : decode cX10_countedBadTen 0 = .ok (.aload_n 0, 1) := by decide +kernel
theorem dX10_countedBadTen_1 : decode cX10_countedBadTen 1 = .ok (.bipush (-2), 2) := by decide +kernel
theorem dX10_countedBadTen_3 : decode cX10_countedBadTen 3 = .ok (.invokevirtual 68, 3) := by decide +kernel
theorem dX10_countedBadTen_6 : decode cX10_countedBadTen 6 = .ok (.pop, 1) := by decide +kernel
theorem dX10_countedBadTen_7 : decode cX10_countedBadTen 7 = .ok (.bipush (-10), 2) := by decide +kernel
theorem dX10_countedBadTen_9 : decode cX10_countedBadTen 9 = .ok (.ireturn, 1) := by decide +kernel
set_option maxRecDepth 20000 in
theorem ggX10_tally_X8_size : GoodIn wsX10_tally wsX8_size := goodIn_r _ [12, 13, 45, 46, 47, 48] (by decide +kernel) (by decide +kernel)
set_option maxRecDepth 20000 in
theorem gX10_tally_X8_size : GoodIn wsX10_tally (wsV RX10 206 RX8 yX8_size wsX8_size) := goodIn_app (goodIn_of _ (by decide +kernel)) ggX10_tally_X8_size
set_option maxRecDepth 20000 in
theorem ggX10_tally_X9_size : GoodIn wsX10_tally wsX9_size := goodIn_r _ [18, 19, 49, 50] (by decide +kernel) (by decide +kernel)
set_option maxRecDepth 20000 in
theorem gX10_tally_X9_size : GoodIn wsX10_tally (wsV RX10 260 RX9 yX9_size wsX9_size) := goodIn_app (goodIn_of _ (by decide +kernel)) ggX10_tally_X9_size
set_option maxRecDepth 20000 in
theorem ggX10_tally_X5_size : GoodIn wsX10_tally wsX5_size := goodIn_r _ [24, 25, 51, 52, 53] (by decide +kernel) (by decide +kernel)
set_option maxRecDepth 20000 in
theorem gX10_tally_X5_size : GoodIn wsX10_tally (wsV RX10 261 RX5 yX5_size wsX5_size) := goodIn_app (goodIn_of _ (by decide +kernel)) ggX10_tally_X5_size
theorem dX10_tally_0 : decode cX10_tally 0 = .ok (.iload_n 1, 1) := by decide +kernel
theorem dX10_tally_1 : decode cX10_tally 1 = .ok (.tableswitch 84 0 4 #[35, 46, 57, 68, 76], 35) := by decide +kernel
theorem dX10_tally_36 : decode cX10_tally 36 = .ok (.aload_n 0, 1) := by decide +kernel
theorem dX10_tally_37 : decode cX10_tally 37 = .ok (.getfield 10, 3) := by decide +kernel
theorem dX10_tally_40 : decode cX10_tally 40 = .ok (.getfield 80, 3) := by decide +kernel
theorem dX10_tally_43 : decode cX10_tally 43 = .ok (.invokevirtual 206, 3) := by decide +kernel
theorem dX10_tally_46 : decode cX10_tally 46 = .ok (.ireturn, 1) := by decide +kernel
theorem dX10_tally_47 : decode cX10_tally 47 = .ok (.aload_n 0, 1) := by decide +kernel
theorem dX10_tally_48 : decode cX10_tally 48 = .ok (.getfield 10, 3) := by decide +kernel
theorem dX10_tally_51 : decode cX10_tally 51 = .ok (.getfield 254, 3) := by decide +kernel
theorem dX10_tally_54 : decode cX10_tally 54 = .ok (.invokevirtual 206, 3) := by decide +kernel
theorem dX10_tally_57 : decode cX10_tally 57 = .ok (.ireturn, 1) := by decide +kernel
theorem dX10_tally_58 : decode cX10_tally 58 = .ok (.aload_n 0, 1) := by decide +kernel
theorem dX10_tally_59 : decode cX10_tally 59 = .ok (.getfield 10, 3) := by decide +kernel
theorem dX10_tally_62 : decode cX10_tally 62 = .ok (.getfield 257, 3) := by decide +kernel
theorem dX10_tally_65 : decode cX10_tally 65 = .ok (.invokevirtual 206, 3) := by decide +kernel
theorem dX10_tally_68 : decode cX10_tally 68 = .ok (.ireturn, 1) := by decide +kernel
theorem dX10_tally_69 : decode cX10_tally 69 = .ok (.aload_n 0, 1) := by decide +kernel
theorem dX10_tally_70 : decode cX10_tally 70 = .ok (.getfield 30, 3) := by decide +kernel
theorem dX10_tally_73 : decode cX10_tally 73 = .ok (.invokevirtual 260, 3) := by decide +kernel
theorem dX10_tally_76 : decode cX10_tally 76 = .ok (.ireturn, 1) := by decide +kernel
theorem dX10_tally_77 : decode cX10_tally 77 = .ok (.aload_n 0, 1) := by decide +kernel
theorem dX10_tally_78 : decode cX10_tally 78 = .ok (.getfield 19, 3) := by decide +kernel
theorem dX10_tally_81 : decode cX10_tally 81 = .ok (.invokevirtual 261, 3) := by decide +kernel
theorem dX10_tally_84 : decode cX10_tally 84 = .ok (.ireturn, 1) := by decide +kernel
theorem dX10_tally_85 : decode cX10_tally 85 = .ok (.aload_n 0, 1) := by decide +kernel
