theorem dX11_read_82 : decode cX11_read 82 = .ok (.isub, 1) := by decide +kernel
theorem dX11_read_83 : decode cX11_read 83 = .ok (.ireturn, 1) := by decide +kernel
theorem dX11_read_84 : decode cX11_read 84 = .ok (.iinc 1 1, 3) := by decide +kernel
theorem dX11_read_87 : decode cX11_read 87 = .ok (.goto (-25), 3) := by decide +kernel
theorem dX11_read_90 : decode cX11_read 90 = .ok (.aload_n 0, 1) := by decide +kernel
theorem dX11_read_91 : decode cX11_read 91 = .ok (.sipush 360, 3) := by decide +kernel
theorem dX11_read_94 : decode cX11_read 94 = .ok (.iconst 0, 1) := by decide +kernel
theorem dX11_read_95 : decode cX11_read 95 = .ok (.invokevirtual 109, 3) := by decide +kernel
theorem dX11_read_98 : decode cX11_read 98 = .ok (.aload_n 0, 1) := by decide +kernel
theorem dX11_read_99 : decode cX11_read 99 = .ok (.iconst 0, 1) := by decide +kernel
theorem dX11_read_100 : decode cX11_read 100 = .ok (.putfield 105, 3) := by decide +kernel
theorem dX11_read_103 : decode cX11_read 103 = .ok (.aload_n 0, 1) := by decide +kernel
theorem dX11_read_104 : decode cX11_read 104 = .ok (.getfield 168, 3) := by decide +kernel
theorem dX11_read_107 : decode cX11_read 107 = .ok (.ireturn, 1) := by decide +kernel
set_option maxRecDepth 20000 in
theorem ggX11_isRow_X11_in : GoodIn wsX11_isRow wsX11_in := goodIn_r _ [6] (by decide +kernel) (by decide +kernel)
set_option maxRecDepth 20000 in
theorem gX11_isRow_X11_in : GoodIn wsX11_isRow (va_wsS RX11 47 yX11_in wsX11_in) := goodIn_app (goodIn_of _ (by decide +kernel)) ggX11_isRow_X11_in
set_option maxRecDepth 20000 in
theorem ggX11_isRow_X11_holds : GoodIn wsX11_isRow wsX11_holds := goodIn_r _ [9] (by decide +kernel) (by decide +kernel)
set_option maxRecDepth 20000 in
theorem gX11_isRow_X11_holds : GoodIn wsX11_isRow (va_wsS RX11 189 yX11_holds wsX11_holds) := goodIn_app (goodIn_of _ (by decide +kernel)) ggX11_isRow_X11_holds
theorem dX11_isRow_0 : decode cX11_isRow 0 = .ok (.iconst 0, 1) := by decide +kernel
theorem dX11_isRow_1 : decode cX11_isRow 1 = .ok (.istore_n 2, 1) := by decide +kernel
theorem dX11_isRow_2 : decode cX11_isRow 2 = .ok (.iload_n 1, 1) := by decide +kernel
theorem dX11_isRow_3 : decode cX11_isRow 3 = .ok (.i2l, 1) := by decide +kernel
theorem dX11_isRow_4 : decode cX11_isRow 4 = .ok (.lconst 0, 1) := by decide +kernel
theorem dX11_isRow_5 : decode cX11_isRow 5 = .ok (.ldc2_w 187, 3) := by decide +kernel
theorem dX11_isRow_8 : decode cX11_isRow 8 = .ok (.invokestatic 47, 3) := by decide +kernel
theorem dX11_isRow_11 : decode cX11_isRow 11 = .ok (.istore_n 3, 1) := by decide +kernel
theorem dX11_isRow_12 : decode cX11_isRow 12 = .ok (.iload_n 1, 1) := by decide +kernel
theorem dX11_isRow_13 : decode cX11_isRow 13 = .ok (.istore 4, 2) := by decide +kernel
theorem dX11_isRow_15 : decode cX11_isRow 15 = .ok (.iload 4, 2) := by decide +kernel
theorem dX11_isRow_17 : decode cX11_isRow 17 = .ok (.ifCond .le 76, 3) := by decide +kernel
theorem dX11_isRow_20 : decode cX11_isRow 20 = .ok (.iload_n 3, 1) := by decide +kernel
theorem dX11_isRow_21 : decode cX11_isRow 21 = .ok (.ifCond .eq 72, 3) := by decide +kernel
theorem dX11_isRow_24 : decode cX11_isRow 24 = .ok (.iload 4, 2) := by decide +kernel
theorem dX11_isRow_26 : decode cX11_isRow 26 = .ok (.bipush 10, 2) := by decide +kernel
theorem dX11_isRow_28 : decode cX11_isRow 28 = .ok (.irem, 1) := by decide +kernel
theorem dX11_isRow_29 : decode cX11_isRow 29 = .ok (.iconst 1, 1) := by decide +kernel
theorem dX11_isRow_30 : decode cX11_isRow 30 = .ok (.isub, 1) := by decide +kernel
theorem dX11_isRow_31 : decode cX11_isRow 31 = .ok (.istore 5, 2) := by decide +kernel
theorem dX11_isRow_33 : decode cX11_isRow 33 = .ok (.iload 5, 2) := by decide +kernel
theorem dX11_isRow_35 : decode cX11_isRow 35 = .ok (.i2l, 1) := by decide +kernel
theorem dX11_isRow_36 : decode cX11_isRow 36 = .ok (.lconst 0, 1) := by decide +kernel
theorem dX11_isRow_37 : decode cX11_isRow 37 = .ok (.aload_n 0, 1) := by decide +kernel
theorem dX11_isRow_38 : decode cX11_isRow 38 = .ok (.getfield 7, 3) := by decide +kernel
theorem dX11_isRow_41 : decode cX11_isRow 41 = .ok (.bipush 73, 2) := by decide +kernel
theorem dX11_isRow_43 : decode cX11_isRow 43 = .ok (.iaload, 1) := by decide +kernel
theorem dX11_isRow_44 : decode cX11_isRow 44 = .ok (.iconst 1, 1) := by decide +kernel
theorem dX11_isRow_45 : decode cX11_isRow 45 = .ok (.isub, 1) := by decide +kernel
theorem dX11_isRow_46 : decode cX11_isRow 46 = .ok (.i2l, 1) := by decide +kernel
theorem dX11_isRow_47 : decode cX11_isRow 47 = .ok (.invokestatic 47, 3) := by decide +kernel
theorem dX11_isRow_50 : decode cX11_isRow 50 = .ok (.ifCond .eq 16, 3) := by decide +kernel
theorem dX11_isRow_53 : decode cX11_isRow 53 = .ok (.iload_n 2, 1) := by decide +kernel
theorem dX11_isRow_54 : decode cX11_isRow 54 = .ok (.iload 5, 2) := by decide +kernel
theorem dX11_isRow_56 : decode cX11_isRow 56 = .ok (.invokestatic 189, 3) := by decide +kernel
theorem dX11_isRow_59 : decode cX11_isRow 59 = .ok (.ifCond .ne 7, 3) := by decide +kernel
theorem dX11_isRow_62 : decode cX11_isRow 62 = .ok (.iconst 1, 1) := by decide +kernel
theorem dX11_isRow_63 : decode cX11_isRow 63 = .ok (.goto 4, 3) := by decide +kernel
theorem dX11_isRow_66 : decode cX11_isRow 66 = .ok (.iconst 0, 1) := by decide +kernel
theorem dX11_isRow_67 : decode cX11_isRow 67 = .ok (.istore_n 3, 1) := by decide +kernel
theorem dX11_isRow_68 : decode cX11_isRow 68 = .ok (.iload_n 2, 1) := by decide +kernel
theorem dX11_isRow_69 : decode cX11_isRow 69 = .ok (.iload_n 3, 1) := by decide +kernel
theorem dX11_isRow_70 : decode cX11_isRow 70 = .ok (.ifCond .eq 10, 3) := by decide +kernel
theorem dX11_isRow_73 : decode cX11_isRow 73 = .ok (.iconst 1, 1) := by decide +kernel
theorem dX11_isRow_74 : decode cX11_isRow 74 = .ok (.iload 5, 2) := by decide +kernel
theorem dX11_isRow_76 : decode cX11_isRow 76 = .ok (.ishl, 1) := by decide +kernel
theorem dX11_isRow_77 : decode cX11_isRow 77 = .ok (.goto 4, 3) := by decide +kernel
theorem dX11_isRow_80 : decode cX11_isRow 80 = .ok (.iconst 0, 1) := by decide +kernel
theorem dX11_isRow_81 : decode cX11_isRow 81 = .ok (.ior, 1) := by decide +kernel
theorem dX11_isRow_82 : decode cX11_isRow 82 = .ok (.istore_n 2, 1) := by decide +kernel
theorem dX11_isRow_83 : decode cX11_isRow 83 = .ok (.iload 4, 2) := by decide +kernel
theorem dX11_isRow_85 : decode cX11_isRow 85 = .ok (.bipush 10, 2) := by decide +kernel
theorem dX11_isRow_87 : decode cX11_isRow 87 = .ok (.idiv, 1) := by decide +kernel
theorem dX11_isRow_88 : decode cX11_isRow 88 = .ok (.istore 4, 2) := by decide +kernel
theorem dX11_isRow_90 : decode cX11_isRow 90 = .ok (.goto (-75), 3) := by decide +kernel
theorem dX11_isRow_93 : decode cX11_isRow 93 = .ok (.iload_n 3, 1) := by decide +kernel
theorem dX11_isRow_94 : decode cX11_isRow 94 = .ok (.ireturn, 1) := by decide +kernel
set_option maxRecDepth 20000 in
theorem ggX11_go_X11_lesser : GoodIn wsX11_go wsX11_lesser := goodIn_r _ [8] (by decide +kernel) (by decide +kernel)
set_option maxRecDepth 20000 in
theorem gX11_go_X11_lesser : GoodIn wsX11_go (va_wsS RX11 119 yX11_lesser wsX11_lesser) := goodIn_app (goodIn_of _ (by decide +kernel)) ggX11_go_X11_lesser
set_option maxRecDepth 20000 in
theorem ggX11_go_X11_heldNow : GoodIn wsX11_go wsX11_heldNow := goodIn_r _ [12, 4, 13, 14, 15, 7, 16, 17, 18, 19, 20, 21, 22, 23, 24, 25, 26, 27, 28, 29, 30, 31, 32, 33, 34, 35, 36] (by decide +kernel) (by decide +kernel)
set_option maxRecDepth 20000 in
theorem gX11_go_X11_heldNow : GoodIn wsX11_go (wsV RX11 116 RX11 yX11_heldNow wsX11_heldNow) := goodIn_app (goodIn_of _ (by decide +kernel)) ggX11_go_X11_heldNow
theorem dX11_go_0 : decode cX11_go 0 = .ok (.sipush 10000, 3) := by decide +kernel
theorem dX11_go_3 : decode cX11_go 3 = .ok (.istore_n 3, 1) := by decide +kernel
theorem dX11_go_4 : decode cX11_go 4 = .ok (.iconst 0, 1) := by decide +kernel
theorem dX11_go_5 : decode cX11_go 5 = .ok (.istore 4, 2) := by decide +kernel
theorem dX11_go_7 : decode cX11_go 7 = .ok (.iconst 0, 1) := by decide +kernel
theorem dX11_go_8 : decode cX11_go 8 = .ok (.istore 5, 2) := by decide +kernel
theorem dX11_go_10 : decode cX11_go 10 = .ok (.aload_n 0, 1) := by decide +kernel
theorem dX11_go_11 : decode cX11_go 11 = .ok (.iconst 0, 1) := by decide +kernel
theorem dX11_go_12 : decode cX11_go 12 = .ok (.putfield 193, 3) := by decide +kernel
theorem dX11_go_15 : decode cX11_go 15 = .ok (.aload_n 0, 1) := by decide +kernel
theorem dX11_go_16 : decode cX11_go 16 = .ok (.lconst 1, 1) := by decide +kernel
theorem dX11_go_17 : decode cX11_go 17 = .ok (.putfield 196, 3) := by decide +kernel
theorem dX11_go_20 : decode cX11_go 20 = .ok (.iconst 0, 1) := by decide +kernel
theorem dX11_go_21 : decode cX11_go 21 = .ok (.istore 6, 2) := by decide +kernel
theorem dX11_go_23 : decode cX11_go 23 = .ok (.iload 6, 2) := by decide +kernel
theorem dX11_go_25 : decode cX11_go 25 = .ok (.iconst 5, 1) := by decide +kernel
theorem dX11_go_26 : decode cX11_go 26 = .ok (.if_icmp .ge 286, 3) := by decide +kernel
theorem dX11_go_29 : decode cX11_go 29 = .ok (.iload_n 2, 1) := by decide +kernel
theorem dX11_go_30 : decode cX11_go 30 = .ok (.iload_n 3, 1) := by decide +kernel
theorem dX11_go_31 : decode cX11_go 31 = .ok (.idiv, 1) := by decide +kernel
theorem dX11_go_32 : decode cX11_go 32 = .ok (.bipush 10, 2) := by decide +kernel
theorem dX11_go_34 : decode cX11_go 34 = .ok (.irem, 1) := by decide +kernel
theorem dX11_go_35 : decode cX11_go 35 = .ok (.iconst 1, 1) := by decide +kernel
theorem dX11_go_36 : decode cX11_go 36 = .ok (.isub, 1) := by decide +kernel
theorem dX11_go_37 : decode cX11_go 37 = .ok (.istore 7, 2) := by decide +kernel
theorem dX11_go_39 : decode cX11_go 39 = .ok (.iload_n 3, 1) := by decide +kernel
theorem dX11_go_40 : decode cX11_go 40 = .ok (.bipush 10, 2) := by decide +kernel
theorem dX11_go_42 : decode cX11_go 42 = .ok (.idiv, 1) := by decide +kernel
theorem dX11_go_43 : decode cX11_go 43 = .ok (.istore_n 3, 1) := by decide +kernel
theorem dX11_go_44 : decode cX11_go 44 = .ok (.iload 7, 2) := by decide +kernel
theorem dX11_go_46 : decode cX11_go 46 = .ok (.ifCond .ge 18, 3) := by decide +kernel
theorem dX11_go_49 : decode cX11_go 49 = .ok (.aload_n 0, 1) := by decide +kernel
theorem dX11_go_50 : decode cX11_go 50 = .ok (.dup, 1) := by decide +kernel
theorem dX11_go_51 : decode cX11_go 51 = .ok (.getfield 196, 3) := by decide +kernel
theorem dX11_go_54 : decode cX11_go 54 = .ok (.ldc2_w 199, 3) := by decide +kernel
theorem dX11_go_57 : decode cX11_go 57 = .ok (.lmul, 1) := by decide +kernel
theorem dX11_go_58 : decode cX11_go 58 = .ok (.putfield 196, 3) := by decide +kernel
theorem dX11_go_61 : decode cX11_go 61 = .ok (.goto 245, 3) := by decide +kernel
theorem dX11_go_64 : decode cX11_go 64 = .ok (.aload_n 0, 1) := by decide +kernel
theorem dX11_go_65 : decode cX11_go 65 = .ok (.getfield 7, 3) := by decide +kernel
theorem dX11_go_68 : decode cX11_go 68 = .ok (.bipush 74, 2) := by decide +kernel
theorem dX11_go_70 : decode cX11_go 70 = .ok (.iload 7, 2) := by decide +kernel
theorem dX11_go_72 : decode cX11_go 72 = .ok (.iadd, 1) := by decide +kernel
theorem dX11_go_73 : decode cX11_go 73 = .ok (.iaload, 1) := by decide +kernel
theorem dX11_go_74 : decode cX11_go 74 = .ok (.istore 8, 2) := by decide +kernel
theorem dX11_go_76 : decode cX11_go 76 = .ok (.bipush 20, 2) := by decide +kernel
theorem dX11_go_78 : decode cX11_go 78 = .ok (.aload_n 0, 1) := by decide +kernel
theorem dX11_go_79 : decode cX11_go 79 = .ok (.getfield 7, 3) := by decide +kernel
theorem dX11_go_82 : decode cX11_go 82 = .ok (.bipush 84, 2) := by decide +kernel
theorem dX11_go_84 : decode cX11_go 84 = .ok (.iload 7, 2) := by decide +kernel
theorem dX11_go_86 : decode cX11_go 86 = .ok (.iadd, 1) := by decide +kernel
theorem dX11_go_87 : decode cX11_go 87 = .ok (.iaload, 1) := by decide +kernel
theorem dX11_go_88 : decode cX11_go 88 = .ok (.iload 4, 2) := by decide +kernel
theorem dX11_go_90 : decode cX11_go 90 = .ok (.iadd, 1) := by decide +kernel
theorem dX11_go_91 : decode cX11_go 91 = .ok (.invokestatic 119, 3) := by decide +kernel
theorem dX11_go_94 : decode cX11_go 94 = .ok (.istore 9, 2) := by decide +kernel
theorem dX11_go_96 : decode cX11_go 96 = .ok (.iload 8, 2) := by decide +kernel
theorem dX11_go_98 : decode cX11_go 98 = .ok (.iconst 5, 1) := by decide +kernel
theorem dX11_go_99 : decode cX11_go 99 = .ok (.if_icmp .ne 9, 3) := by decide +kernel
theorem dX11_go_102 : decode cX11_go 102 = .ok (.sipush 400, 3) := by decide +kernel
theorem dX11_go_105 : decode cX11_go 105 = .ok (.goto 25, 3) := by decide +kernel
theorem dX11_go_108 : decode cX11_go 108 = .ok (.iload 8, 2) := by decide +kernel
theorem dX11_go_110 : decode cX11_go 110 = .ok (.iconst 4, 1) := by decide +kernel
theorem dX11_go_111 : decode cX11_go 111 = .ok (.if_icmp .ne 11, 3) := by decide +kernel
theorem dX11_go_114 : decode cX11_go 114 = .ok (.bipush 10, 2) := by decide +kernel
theorem dX11_go_116 : decode cX11_go 116 = .ok (.iload 9, 2) := by decide +kernel
theorem dX11_go_118 : decode cX11_go 118 = .ok (.imul, 1) := by decide +kernel
theorem dX11_go_119 : decode cX11_go 119 = .ok (.goto 11, 3) := by decide +kernel
theorem dX11_go_122 : decode cX11_go 122 = .ok (.aload_n 0, 1) := by decide +kernel
theorem dX11_go_123 : decode cX11_go 123 = .ok (.iload_n 1, 1) := by decide +kernel
theorem dX11_go_124 : decode cX11_go 124 = .ok (.invokevirtual 116, 3) := by decide +kernel
theorem dX11_go_127 : decode cX11_go 127 = .ok (.iload 9, 2) := by decide +kernel
theorem dX11_go_129 : decode cX11_go 129 = .ok (.imul, 1) := by decide +kernel
theorem dX11_go_130 : decode cX11_go 130 = .ok (.istore 10, 2) := by decide +kernel
theorem dX11_go_132 : decode cX11_go 132 = .ok (.iload 8, 2) := by decide +kernel
theorem dX11_go_134 : decode cX11_go 134 = .ok (.iconst 3, 1) := by decide +kernel
theorem dX11_go_135 : decode cX11_go 135 = .ok (.if_icmp .eq 28, 3) := by decide +kernel
theorem dX11_go_138 : decode cX11_go 138 = .ok (.iload 8, 2) := by decide +kernel
theorem dX11_go_140 : decode cX11_go 140 = .ok (.iconst 2, 1) := by decide +kernel
theorem dX11_go_141 : decode cX11_go 141 = .ok (.if_icmp .ne 26, 3) := by decide +kernel
theorem dX11_go_144 : decode cX11_go 144 = .ok (.aload_n 0, 1) := by decide +kernel
theorem dX11_go_145 : decode cX11_go 145 = .ok (.getfield 7, 3) := by decide +kernel
theorem dX11_go_148 : decode cX11_go 148 = .ok (.bipush 13, 2) := by decide +kernel
theorem dX11_go_150 : decode cX11_go 150 = .ok (.iload_n 1, 1) := by decide +kernel
theorem dX11_go_151 : decode cX11_go 151 = .ok (.iadd, 1) := by decide +kernel
theorem dX11_go_152 : decode cX11_go 152 = .ok (.iaload, 1) := by decide +kernel
theorem dX11_go_153 : decode cX11_go 153 = .ok (.aload_n 0, 1) := by decide +kernel
theorem dX11_go_154 : decode cX11_go 154 = .ok (.getfield 7, 3) := by decide +kernel
theorem dX11_go_157 : decode cX11_go 157 = .ok (.bipush 102, 2) := by decide +kernel
theorem dX11_go_159 : decode cX11_go 159 = .ok (.iaload, 1) := by decide +kernel
theorem dX11_go_160 : decode cX11_go 160 = .ok (.if_icmp .eq 7, 3) := by decide +kernel
theorem dX11_go_163 : decode cX11_go 163 = .ok (.iconst 1, 1) := by decide +kernel
theorem dX11_go_164 : decode cX11_go 164 = .ok (.goto 4, 3) := by decide +kernel
theorem dX11_go_167 : decode cX11_go 167 = .ok (.iconst 0, 1) := by decide +kernel
theorem dX11_go_168 : decode cX11_go 168 = .ok (.istore 11, 2) := by decide +kernel
theorem dX11_go_170 : decode cX11_go 170 = .ok (.iload 11, 2) := by decide +kernel
theorem dX11_go_172 : decode cX11_go 172 = .ok (.ifCond .eq 10, 3) := by decide +kernel
theorem dX11_go_175 : decode cX11_go 175 = .ok (.iload 10, 2) := by decide +kernel
theorem dX11_go_177 : decode cX11_go 177 = .ok (.iconst 2, 1) := by decide +kernel
theorem dX11_go_178 : decode cX11_go 178 = .ok (.idiv, 1) := by decide +kernel
theorem dX11_go_179 : decode cX11_go 179 = .ok (.goto 5, 3) := by decide +kernel
theorem dX11_go_182 : decode cX11_go 182 = .ok (.iload 10, 2) := by decide +kernel
theorem dX11_go_184 : decode cX11_go 184 = .ok (.istore 10, 2) := by decide +kernel
theorem dX11_go_186 : decode cX11_go 186 = .ok (.iload 8, 2) := by decide +kernel
theorem dX11_go_188 : decode cX11_go 188 = .ok (.iconst 3, 1) := by decide +kernel
theorem dX11_go_189 : decode cX11_go 189 = .ok (.if_icmp .ge 26, 3) := by decide +kernel
theorem dX11_go_192 : decode cX11_go 192 = .ok (.iload 5, 2) := by decide +kernel
theorem dX11_go_194 : decode cX11_go 194 = .ok (.ifCond .ne 21, 3) := by decide +kernel
theorem dX11_go_197 : decode cX11_go 197 = .ok (.aload_n 0, 1) := by decide +kernel
theorem dX11_go_198 : decode cX11_go 198 = .ok (.getfield 193, 3) := by decide +kernel
theorem dX11_go_201 : decode cX11_go 201 = .ok (.aload_n 0, 1) := by decide +kernel
theorem dX11_go_202 : decode cX11_go 202 = .ok (.getfield 7, 3) := by decide +kernel
theorem dX11_go_205 : decode cX11_go 205 = .ok (.bipush 104, 2) := by decide +kernel
theorem dX11_go_207 : decode cX11_go 207 = .ok (.iaload, 1) := by decide +kernel
theorem dX11_go_208 : decode cX11_go 208 = .ok (.if_icmp .ge 7, 3) := by decide +kernel
theorem dX11_go_211 : decode cX11_go 211 = .ok (.iconst 1, 1) := by decide +kernel
theorem dX11_go_212 : decode cX11_go 212 = .ok (.goto 4, 3) := by decide +kernel
theorem dX11_go_215 : decode cX11_go 215 = .ok (.iconst 0, 1) := by decide +kernel
theorem dX11_go_216 : decode cX11_go 216 = .ok (.istore 12, 2) := by decide +kernel
theorem dX11_go_218 : decode cX11_go 218 = .ok (.aload_n 0, 1) := by decide +kernel
theorem dX11_go_219 : decode cX11_go 219 = .ok (.dup, 1) := by decide +kernel
theorem dX11_go_220 : decode cX11_go 220 = .ok (.getfield 196, 3) := by decide +kernel
theorem dX11_go_223 : decode cX11_go 223 = .ok (.ldc2_w 199, 3) := by decide +kernel
theorem dX11_go_226 : decode cX11_go 226 = .ok (.iload 12, 2) := by decide +kernel
theorem dX11_go_228 : decode cX11_go 228 = .ok (.ifCond .eq 7, 3) := by decide +kernel
theorem dX11_go_231 : decode cX11_go 231 = .ok (.iconst 0, 1) := by decide +kernel
theorem dX11_go_232 : decode cX11_go 232 = .ok (.goto 5, 3) := by decide +kernel
theorem dX11_go_235 : decode cX11_go 235 = .ok (.iload 10, 2) := by decide +kernel
theorem dX11_go_237 : decode cX11_go 237 = .ok (.i2l, 1) := by decide +kernel
theorem dX11_go_238 : decode cX11_go 238 = .ok (.lsub, 1) := by decide +kernel
theorem dX11_go_239 : decode cX11_go 239 = .ok (.lmul, 1) := by decide +kernel
theorem dX11_go_240 : decode cX11_go 240 = .ok (.putfield 196, 3) := by decide +kernel
theorem dX11_go_243 : decode cX11_go 243 = .ok (.iload 4, 2) := by decide +kernel
theorem dX11_go_245 : decode cX11_go 245 = .ok (.iload 8, 2) := by decide +kernel
theorem dX11_go_247 : decode cX11_go 247 = .ok (.iconst 1, 1) := by decide +kernel
theorem dX11_go_248 : decode cX11_go 248 = .ok (.if_icmp .ne 7, 3) := by decide +kernel
theorem dX11_go_251 : decode cX11_go 251 = .ok (.iconst 2, 1) := by decide +kernel
theorem dX11_go_252 : decode cX11_go 252 = .ok (.goto 14, 3) := by decide +kernel
theorem dX11_go_255 : decode cX11_go 255 = .ok (.iload 8, 2) := by decide +kernel
theorem dX11_go_257 : decode cX11_go 257 = .ok (.iconst 2, 1) := by decide +kernel
theorem dX11_go_258 : decode cX11_go 258 = .ok (.if_icmp .ne 7, 3) := by decide +kernel
theorem dX11_go_261 : decode cX11_go 261 = .ok (.iconst 3, 1) := by decide +kernel
theorem dX11_go_262 : decode cX11_go 262 = .ok (.goto 4, 3) := by decide +kernel
theorem dX11_go_265 : decode cX11_go 265 = .ok (.iconst 0, 1) := by decide +kernel
theorem dX11_go_266 : decode cX11_go 266 = .ok (.iadd, 1) := by decide +kernel
theorem dX11_go_267 : decode cX11_go 267 = .ok (.istore 4, 2) := by decide +kernel
theorem dX11_go_269 : decode cX11_go 269 = .ok (.iload 5, 2) := by decide +kernel
theorem dX11_go_271 : decode cX11_go 271 = .ok (.ifCond .ne 9, 3) := by decide +kernel
theorem dX11_go_274 : decode cX11_go 274 = .ok (.iload 8, 2) := by decide +kernel
theorem dX11_go_276 : decode cX11_go 276 = .ok (.iconst 3, 1) := by decide +kernel
theorem dX11_go_277 : decode cX11_go 277 = .ok (.if_icmp .ne 7, 3) := by decide +kernel
theorem dX11_go_280 : decode cX11_go 280 = .ok (.iconst 1, 1) := by decide +kernel
theorem dX11_go_281 : decode cX11_go 281 = .ok (.goto 4, 3) := by decide +kernel
theorem dX11_go_284 : decode cX11_go 284 = .ok (.iconst 0, 1) := by decide +kernel
theorem dX11_go_285 : decode cX11_go 285 = .ok (.istore 5, 2) := by decide +kernel
theorem dX11_go_287 : decode cX11_go 287 = .ok (.aload_n 0, 1) := by decide +kernel
theorem dX11_go_288 : decode cX11_go 288 = .ok (.dup, 1) := by decide +kernel
theorem dX11_go_289 : decode cX11_go 289 = .ok (.getfield 193, 3) := by decide +kernel
theorem dX11_go_292 : decode cX11_go 292 = .ok (.aload_n 0, 1) := by decide +kernel
theorem dX11_go_293 : decode cX11_go 293 = .ok (.getfield 7, 3) := by decide +kernel
theorem dX11_go_296 : decode cX11_go 296 = .ok (.bipush 79, 2) := by decide +kernel
theorem dX11_go_298 : decode cX11_go 298 = .ok (.iload 7, 2) := by decide +kernel
theorem dX11_go_300 : decode cX11_go 300 = .ok (.iadd, 1) := by decide +kernel
theorem dX11_go_301 : decode cX11_go 301 = .ok (.iaload, 1) := by decide +kernel
theorem dX11_go_302 : decode cX11_go 302 = .ok (.iadd, 1) := by decide +kernel
theorem dX11_go_303 : decode cX11_go 303 = .ok (.putfield 193, 3) := by decide +kernel
theorem dX11_go_306 : decode cX11_go 306 = .ok (.iinc 6 1, 3) := by decide +kernel
theorem dX11_go_309 : decode cX11_go 309 = .ok (.goto (-286), 3) := by decide +kernel
theorem dX11_go_312 : decode cX11_go 312 = .ok (.return_, 1) := by decide +kernel
theorem dX11_share_0 : decode cX11_share 0 = .ok (.lload_n 1, 1) := by decide +kernel
theorem dX11_share_1 : decode cX11_share 1 = .ok (.lstore 5, 2) := by decide +kernel
theorem dX11_share_3 : decode cX11_share 3 = .ok (.lload_n 3, 1) := by decide +kernel
theorem dX11_share_4 : decode cX11_share 4 = .ok (.lstore 7, 2) := by decide +kernel
theorem dX11_share_6 : decode cX11_share 6 = .ok (.lload 7, 2) := by decide +kernel
theorem dX11_share_8 : decode cX11_share 8 = .ok (.lconst 0, 1) := by decide +kernel
theorem dX11_share_9 : decode cX11_share 9 = .ok (.lcmp, 1) := by decide +kernel
theorem dX11_share_10 : decode cX11_share 10 = .ok (.ifCond .eq 21, 3) := by decide +kernel
theorem dX11_share_13 : decode cX11_share 13 = .ok (.lload 5, 2) := by decide +kernel
theorem dX11_share_15 : decode cX11_share 15 = .ok (.lload 7, 2) := by decide +kernel
theorem dX11_share_17 : decode cX11_share 17 = .ok (.lrem, 1) := by decide +kernel
theorem dX11_share_18 : decode cX11_share 18 = .ok (.lstore 9, 2) := by decide +kernel
theorem dX11_share_20 : decode cX11_share 20 = .ok (.lload 7, 2) := by decide +kernel
theorem dX11_share_22 : decode cX11_share 22 = .ok (.lstore 5, 2) := by decide +kernel
theorem dX11_share_24 : decode cX11_share 24 = .ok (.lload 9, 2) := by decide +kernel
theorem dX11_share_26 : decode cX11_share 26 = .ok (.lstore 7, 2) := by decide +kernel
theorem dX11_share_28 : decode cX11_share 28 = .ok (.goto (-22), 3) := by decide +kernel
theorem dX11_share_31 : decode cX11_share 31 = .ok (.aload_n 0, 1) := by decide +kernel
theorem dX11_share_32 : decode cX11_share 32 = .ok (.lload_n 1, 1) := by decide +kernel
theorem dX11_share_33 : decode cX11_share 33 = .ok (.lload 5, 2) := by decide +kernel
theorem dX11_share_35 : decode cX11_share 35 = .ok (.ldiv, 1) := by decide +kernel
theorem dX11_share_36 : decode cX11_share 36 = .ok (.putfield 201, 3) := by decide +kernel
theorem dX11_share_39 : decode cX11_share 39 = .ok (.aload_n 0, 1) := by decide +kernel
theorem dX11_share_40 : decode cX11_share 40 = .ok (.lload_n 3, 1) := by decide +kernel
theorem dX11_share_41 : decode cX11_share 41 = .ok (.lload 5, 2) := by decide +kernel
theorem dX11_share_43 : decode cX11_share 43 = .ok (.ldiv, 1) := by decide +kernel
theorem dX11_share_44 : decode cX11_share 44 = .ok (.putfield 24, 3) := by decide +kernel
theorem dX11_share_47 : decode cX11_share 47 = .ok (.iconst 1, 1) := by decide +kernel
theorem dX11_share_48 : decode cX11_share 48 = .ok (.ireturn, 1) := by decide +kernel
set_option maxRecDepth 20000 in
theorem ggX11_comes_X11_isOne : GoodIn wsX11_comes wsX11_isOne := goodIn_r _ [8, 9, 10, 11, 7, 12, 48, 49, 50, 51, 52, 53, 54, 55, 56, 57, 58, 59, 60, 61, 62, 63, 64, 65, 66, 67] (by decide +kernel) (by decide +kernel)
set_option maxRecDepth 20000 in
theorem gX11_comes_X11_isOne : GoodIn wsX11_comes (wsV RX11 99 RX11 yX11_isOne wsX11_isOne) := goodIn_app (goodIn_of _ (by decide +kernel)) ggX11_comes_X11_isOne
set_option maxRecDepth 20000 in
theorem ggX11_comes_X11_isRow : GoodIn wsX11_comes wsX11_isRow := goodIn_r _ [16, 17, 9, 10, 11, 7, 12, 18, 19, 20, 48, 49, 50, 51, 52, 53, 54, 55, 56, 57, 58, 59, 60, 61, 62, 63, 64, 65, 66, 67] (by decide +kernel) (by decide +kernel)
set_option maxRecDepth 20000 in
theorem gX11_comes_X11_isRow : GoodIn wsX11_comes (wsV RX11 204 RX11 yX11_isRow wsX11_isRow) := goodIn_app (goodIn_of _ (by decide +kernel)) ggX11_comes_X11_isRow
set_option maxRecDepth 20000 in
theorem ggX11_comes_X11_told : GoodIn wsX11_comes wsX11_told := goodIn_r _ [24, 25, 48, 49, 50, 51, 52, 53, 54, 55, 56, 57, 58, 59, 60, 61, 62, 63, 64, 65, 66, 67] (by decide +kernel) (by decide +kernel)
set_option maxRecDepth 20000 in
theorem gX11_comes_X11_told : GoodIn wsX11_comes (wsV RX11 83 RX11 yX11_told wsX11_told) := goodIn_app (goodIn_of _ (by decide +kernel)) ggX11_comes_X11_told
set_option maxRecDepth 20000 in
theorem ggX11_comes_X11_go : GoodIn wsX11_comes wsX11_go := goodIn_r _ [29, 3, 2, 30, 9, 31, 32, 7, 33, 34, 35, 36, 37, 38, 39, 40, 41, 48, 49, 50, 51, 52, 53, 54, 55, 56, 57, 58, 59, 60, 61, 62, 63, 64, 65, 66, 67] (by decide +kernel) (by decide +kernel)
set_option maxRecDepth 20000 in
theorem gX11_comes_X11_go : GoodIn wsX11_comes (wsV RX11 207 RX11 yX11_go wsX11_go) := goodIn_app (goodIn_of _ (by decide +kernel)) ggX11_comes_X11_go
set_option maxRecDepth 20000 in
theorem ggX11_comes_X11_share : GoodIn wsX11_comes wsX11_share := goodIn_r _ [45, 46, 47, 48, 49, 50, 51, 52, 53, 54, 55, 56, 57, 58, 59, 60, 61, 62, 63, 64, 65, 66, 67] (by decide +kernel) (by decide +kernel)
set_option maxRecDepth 20000 in
theorem gX11_comes_X11_share : GoodIn wsX11_comes (wsV RX11 212 RX11 yX11_share wsX11_share) := goodIn_app (goodIn_of _ (by decide +kernel)) ggX11_comes_X11_share
theorem dX11_comes_0 : decode cX11_comes 0 = .ok (.aload_n 0, 1) := by decide +kernel
theorem dX11_comes_1 : decode cX11_comes 1 = .ok (.iload_n 1, 1) := by decide +kernel
theorem dX11_comes_2 : decode cX11_comes 2 = .ok (.invokevirtual 99, 3) := by decide +kernel
theorem dX11_comes_5 : decode cX11_comes 5 = .ok (.ifCond .eq 11, 3) := by decide +kernel
theorem dX11_comes_8 : decode cX11_comes 8 = .ok (.aload_n 0, 1) := by decide +kernel
theorem dX11_comes_9 : decode cX11_comes 9 = .ok (.iload_n 2, 1) := by decide +kernel
theorem dX11_comes_10 : decode cX11_comes 10 = .ok (.invokevirtual 204, 3) := by decide +kernel
theorem dX11_comes_13 : decode cX11_comes 13 = .ok (.ifCond .ne 10, 3) := by decide +kernel
theorem dX11_comes_16 : decode cX11_comes 16 = .ok (.aload_n 0, 1) := by decide +kernel
theorem dX11_comes_17 : decode cX11_comes 17 = .ok (.bipush (-2), 2) := by decide +kernel
theorem dX11_comes_19 : decode cX11_comes 19 = .ok (.invokevirtual 83, 3) := by decide +kernel
theorem dX11_comes_22 : decode cX11_comes 22 = .ok (.ireturn, 1) := by decide +kernel
theorem dX11_comes_23 : decode cX11_comes 23 = .ok (.aload_n 0, 1) := by decide +kernel
theorem dX11_comes_24 : decode cX11_comes 24 = .ok (.iload_n 1, 1) := by decide +kernel
theorem dX11_comes_25 : decode cX11_comes 25 = .ok (.iload_n 2, 1) := by decide +kernel
theorem dX11_comes_26 : decode cX11_comes 26 = .ok (.invokevirtual 207, 3) := by decide +kernel
theorem dX11_comes_29 : decode cX11_comes 29 = .ok (.aload_n 0, 1) := by decide +kernel
theorem dX11_comes_30 : decode cX11_comes 30 = .ok (.ldc2_w 210, 3) := by decide +kernel
theorem dX11_comes_33 : decode cX11_comes 33 = .ok (.aload_n 0, 1) := by decide +kernel
theorem dX11_comes_34 : decode cX11_comes 34 = .ok (.getfield 196, 3) := by decide +kernel
theorem dX11_comes_37 : decode cX11_comes 37 = .ok (.lsub, 1) := by decide +kernel
theorem dX11_comes_38 : decode cX11_comes 38 = .ok (.ldc2_w 210, 3) := by decide +kernel
theorem dX11_comes_41 : decode cX11_comes 41 = .ok (.invokevirtual 212, 3) := by decide +kernel
theorem dX11_comes_44 : decode cX11_comes 44 = .ok (.pop, 1) := by decide +kernel
theorem dX11_comes_45 : decode cX11_comes 45 = .ok (.aload_n 0, 1) := by decide +kernel
theorem dX11_comes_46 : decode cX11_comes 46 = .ok (.getfield 193, 3) := by decide +kernel
theorem dX11_comes_49 : decode cX11_comes 49 = .ok (.ireturn, 1) := by decide +kernel
theorem dX11_isOutright_0 : decode cX11_isOutright 0 = .ok (.iconst 0, 1) := by decide +kernel
theorem dX11_isOutright_1 : decode cX11_isOutright 1 = .ok (.istore_n 2, 1) := by decide +kernel
theorem dX11_isOutright_2 : decode cX11_isOutright 2 = .ok (.iload_n 1, 1) := by decide +kernel
theorem dX11_isOutright_3 : decode cX11_isOutright 3 = .ok (.istore_n 3, 1) := by decide +kernel
theorem dX11_isOutright_4 : decode cX11_isOutright 4 = .ok (.iload_n 3, 1) := by decide +kernel
theorem dX11_isOutright_5 : decode cX11_isOutright 5 = .ok (.ifCond .le 39, 3) := by decide +kernel
theorem dX11_isOutright_8 : decode cX11_isOutright 8 = .ok (.iload_n 2, 1) := by decide +kernel
theorem dX11_isOutright_9 : decode cX11_isOutright 9 = .ok (.ifCond .ne 21, 3) := by decide +kernel
theorem dX11_isOutright_12 : decode cX11_isOutright 12 = .ok (.aload_n 0, 1) := by decide +kernel
theorem dX11_isOutright_13 : decode cX11_isOutright 13 = .ok (.getfield 7, 3) := by decide +kernel
theorem dX11_isOutright_16 : decode cX11_isOutright 16 = .ok (.bipush 74, 2) := by decide +kernel
theorem dX11_isOutright_18 : decode cX11_isOutright 18 = .ok (.iload_n 3, 1) := by decide +kernel
theorem dX11_isOutright_19 : decode cX11_isOutright 19 = .ok (.bipush 10, 2) := by decide +kernel
theorem dX11_isOutright_21 : decode cX11_isOutright 21 = .ok (.irem, 1) := by decide +kernel
theorem dX11_isOutright_22 : decode cX11_isOutright 22 = .ok (.iadd, 1) := by decide +kernel
theorem dX11_isOutright_23 : decode cX11_isOutright 23 = .ok (.iconst 1, 1) := by decide +kernel
theorem dX11_isOutright_24 : decode cX11_isOutright 24 = .ok (.isub, 1) := by decide +kernel
theorem dX11_isOutright_25 : decode cX11_isOutright 25 = .ok (.iaload, 1) := by decide +kernel
theorem dX11_isOutright_26 : decode cX11_isOutright 26 = .ok (.iconst 5, 1) := by decide +kernel
theorem dX11_isOutright_27 : decode cX11_isOutright 27 = .ok (.if_icmp .ne 7, 3) := by decide +kernel
theorem dX11_isOutright_30 : decode cX11_isOutright 30 = .ok (.iconst 1, 1) := by decide +kernel
theorem dX11_isOutright_31 : decode cX11_isOutright 31 = .ok (.goto 4, 3) := by decide +kernel
theorem dX11_isOutright_34 : decode cX11_isOutright 34 = .ok (.iconst 0, 1) := by decide +kernel
theorem dX11_isOutright_35 : decode cX11_isOutright 35 = .ok (.istore_n 2, 1) := by decide +kernel
theorem dX11_isOutright_36 : decode cX11_isOutright 36 = .ok (.iload_n 3, 1) := by decide +kernel
theorem dX11_isOutright_37 : decode cX11_isOutright 37 = .ok (.bipush 10, 2) := by decide +kernel
theorem dX11_isOutright_39 : decode cX11_isOutright 39 = .ok (.idiv, 1) := by decide +kernel
theorem dX11_isOutright_40 : decode cX11_isOutright 40 = .ok (.istore_n 3, 1) := by decide +kernel
theorem dX11_isOutright_41 : decode cX11_isOutright 41 = .ok (.goto (-37), 3) := by decide +kernel
theorem dX11_isOutright_44 : decode cX11_isOutright 44 = .ok (.iload_n 2, 1) := by decide +kernel
theorem dX11_isOutright_45 : decode cX11_isOutright 45 = .ok (.ireturn, 1) := by decide +kernel
set_option maxRecDepth 20000 in
theorem ggX11_findBest_X11_isRow : GoodIn wsX11_findBest wsX11_isRow := goodIn_r _ [10, 11, 3, 12, 13, 9, 14, 15, 16, 17, 38, 39, 40, 41, 42, 43, 44, 45, 46, 47, 48, 49, 50, 51, 52, 53, 54, 55, 56, 57] (by decide +kernel) (by decide +kernel)
set_option maxRecDepth 20000 in
theorem gX11_findBest_X11_isRow : GoodIn wsX11_findBest (wsV RX11 204 RX11 yX11_isRow wsX11_isRow) := goodIn_app (goodIn_of _ (by decide +kernel)) ggX11_findBest_X11_isRow
set_option maxRecDepth 20000 in
theorem ggX11_findBest_X11_isOutright : GoodIn wsX11_findBest wsX11_isOutright := goodIn_r _ [21, 3, 38, 39, 40, 41, 42, 43, 44, 45, 46, 47, 48, 49, 50, 51, 52, 53, 54, 55, 56, 57] (by decide +kernel) (by decide +kernel)
set_option maxRecDepth 20000 in
theorem gX11_findBest_X11_isOutright : GoodIn wsX11_findBest (wsV RX11 219 RX11 yX11_isOutright wsX11_isOutright) := goodIn_app (goodIn_of _ (by decide +kernel)) ggX11_findBest_X11_isOutright
set_option maxRecDepth 20000 in
theorem ggX11_findBest_X11_go : GoodIn wsX11_findBest wsX11_go := goodIn_r _ [25, 4, 5, 26, 3, 27, 28, 9, 29, 30, 31, 32, 33, 34, 35, 36, 37, 38, 39, 40, 41, 42, 43, 44, 45, 46, 47, 48, 49, 50, 51, 52, 53, 54, 55, 56, 57] (by decide +kernel) (by decide +kernel)
set_option maxRecDepth 20000 in
theorem gX11_findBest_X11_go : GoodIn wsX11_findBest (wsV RX11 207 RX11 yX11_go wsX11_go) := goodIn_app (goodIn_of _ (by decide +kernel)) ggX11_findBest_X11_go
theorem dX11_findBest_0 : decode cX11_findBest 0 = .ok (.iconst 0, 1) := by decide +kernel
theorem dX11_findBest_1 : decode cX11_findBest 1 = .ok (.istore 4, 2) := by decide +kernel
theorem dX11_findBest_3 : decode cX11_findBest 3 = .ok (.aload_n 0, 1) := by decide +kernel
theorem dX11_findBest_4 : decode cX11_findBest 4 = .ok (.ldc2_w 210, 3) := by decide +kernel
theorem dX11_findBest_7 : decode cX11_findBest 7 = .ok (.putfield 216, 3) := by decide +kernel
theorem dX11_findBest_10 : decode cX11_findBest 10 = .ok (.iconst 0, 1) := by decide +kernel
theorem dX11_findBest_11 : decode cX11_findBest 11 = .ok (.istore 5, 2) := by decide +kernel
theorem dX11_findBest_13 : decode cX11_findBest 13 = .ok (.iconst 0, 1) := by decide +kernel
theorem dX11_findBest_14 : decode cX11_findBest 14 = .ok (.istore 6, 2) := by decide +kernel
theorem dX11_findBest_16 : decode cX11_findBest 16 = .ok (.iload 6, 2) := by decide +kernel
theorem dX11_findBest_18 : decode cX11_findBest 18 = .ok (.aload_n 0, 1) := by decide +kernel
theorem dX11_findBest_19 : decode cX11_findBest 19 = .ok (.getfield 7, 3) := by decide +kernel
theorem dX11_findBest_22 : decode cX11_findBest 22 = .ok (.bipush 73, 2) := by decide +kernel
theorem dX11_findBest_24 : decode cX11_findBest 24 = .ok (.iaload, 1) := by decide +kernel
theorem dX11_findBest_25 : decode cX11_findBest 25 = .ok (.if_icmp .ge 24, 3) := by decide +kernel
theorem dX11_findBest_28 : decode cX11_findBest 28 = .ok (.bipush 10, 2) := by decide +kernel
theorem dX11_findBest_30 : decode cX11_findBest 30 = .ok (.iload 5, 2) := by decide +kernel
theorem dX11_findBest_32 : decode cX11_findBest 32 = .ok (.imul, 1) := by decide +kernel
theorem dX11_findBest_33 : decode cX11_findBest 33 = .ok (.aload_n 0, 1) := by decide +kernel
theorem dX11_findBest_34 : decode cX11_findBest 34 = .ok (.getfield 7, 3) := by decide +kernel
theorem dX11_findBest_37 : decode cX11_findBest 37 = .ok (.bipush 73, 2) := by decide +kernel
theorem dX11_findBest_39 : decode cX11_findBest 39 = .ok (.iaload, 1) := by decide +kernel
theorem dX11_findBest_40 : decode cX11_findBest 40 = .ok (.iadd, 1) := by decide +kernel
theorem dX11_findBest_41 : decode cX11_findBest 41 = .ok (.istore 5, 2) := by decide +kernel
theorem dX11_findBest_43 : decode cX11_findBest 43 = .ok (.iinc 6 1, 3) := by decide +kernel
theorem dX11_findBest_46 : decode cX11_findBest 46 = .ok (.goto (-30), 3) := by decide +kernel
theorem dX11_findBest_49 : decode cX11_findBest 49 = .ok (.iconst 1, 1) := by decide +kernel
theorem dX11_findBest_50 : decode cX11_findBest 50 = .ok (.istore 6, 2) := by decide +kernel
theorem dX11_findBest_52 : decode cX11_findBest 52 = .ok (.iload 6, 2) := by decide +kernel
theorem dX11_findBest_54 : decode cX11_findBest 54 = .ok (.iload 5, 2) := by decide +kernel
theorem dX11_findBest_56 : decode cX11_findBest 56 = .ok (.if_icmp .gt 70, 3) := by decide +kernel
theorem dX11_findBest_59 : decode cX11_findBest 59 = .ok (.aload_n 0, 1) := by decide +kernel
theorem dX11_findBest_60 : decode cX11_findBest 60 = .ok (.iload 6, 2) := by decide +kernel
theorem dX11_findBest_62 : decode cX11_findBest 62 = .ok (.invokevirtual 204, 3) := by decide +kernel
theorem dX11_findBest_65 : decode cX11_findBest 65 = .ok (.ifCond .eq 55, 3) := by decide +kernel
theorem dX11_findBest_68 : decode cX11_findBest 68 = .ok (.iload_n 3, 1) := by decide +kernel
theorem dX11_findBest_69 : decode cX11_findBest 69 = .ok (.ifCond .ne 12, 3) := by decide +kernel
theorem dX11_findBest_72 : decode cX11_findBest 72 = .ok (.aload_n 0, 1) := by decide +kernel
theorem dX11_findBest_73 : decode cX11_findBest 73 = .ok (.iload 6, 2) := by decide +kernel
theorem dX11_findBest_75 : decode cX11_findBest 75 = .ok (.invokevirtual 219, 3) := by decide +kernel
theorem dX11_findBest_78 : decode cX11_findBest 78 = .ok (.ifCond .ne 42, 3) := by decide +kernel
theorem dX11_findBest_81 : decode cX11_findBest 81 = .ok (.aload_n 0, 1) := by decide +kernel
theorem dX11_findBest_82 : decode cX11_findBest 82 = .ok (.iload_n 1, 1) := by decide +kernel
theorem dX11_findBest_83 : decode cX11_findBest 83 = .ok (.iload 6, 2) := by decide +kernel
theorem dX11_findBest_85 : decode cX11_findBest 85 = .ok (.invokevirtual 207, 3) := by decide +kernel
theorem dX11_findBest_88 : decode cX11_findBest 88 = .ok (.aload_n 0, 1) := by decide +kernel
theorem dX11_findBest_89 : decode cX11_findBest 89 = .ok (.getfield 193, 3) := by decide +kernel
theorem dX11_findBest_92 : decode cX11_findBest 92 = .ok (.iload_n 2, 1) := by decide +kernel
theorem dX11_findBest_93 : decode cX11_findBest 93 = .ok (.if_icmp .gt 27, 3) := by decide +kernel
theorem dX11_findBest_96 : decode cX11_findBest 96 = .ok (.aload_n 0, 1) := by decide +kernel
theorem dX11_findBest_97 : decode cX11_findBest 97 = .ok (.getfield 196, 3) := by decide +kernel
theorem dX11_findBest_100 : decode cX11_findBest 100 = .ok (.aload_n 0, 1) := by decide +kernel
theorem dX11_findBest_101 : decode cX11_findBest 101 = .ok (.getfield 216, 3) := by decide +kernel
theorem dX11_findBest_104 : decode cX11_findBest 104 = .ok (.lcmp, 1) := by decide +kernel
theorem dX11_findBest_105 : decode cX11_findBest 105 = .ok (.ifCond .ge 15, 3) := by decide +kernel
theorem dX11_findBest_108 : decode cX11_findBest 108 = .ok (.iload 6, 2) := by decide +kernel
theorem dX11_findBest_110 : decode cX11_findBest 110 = .ok (.istore 4, 2) := by decide +kernel
theorem dX11_findBest_112 : decode cX11_findBest 112 = .ok (.aload_n 0, 1) := by decide +kernel
theorem dX11_findBest_113 : decode cX11_findBest 113 = .ok (.aload_n 0, 1) := by decide +kernel
theorem dX11_findBest_114 : decode cX11_findBest 114 = .ok (.getfield 196, 3) := by decide +kernel
theorem dX11_findBest_117 : decode cX11_findBest 117 = .ok (.putfield 216, 3) := by decide +kernel
theorem dX11_findBest_120 : decode cX11_findBest 120 = .ok (.iinc 6 1, 3) := by decide +kernel
theorem dX11_findBest_123 : decode cX11_findBest 123 = .ok (.goto (-71), 3) := by decide +kernel
theorem dX11_findBest_126 : decode cX11_findBest 126 = .ok (.iload 4, 2) := by decide +kernel
theorem dX11_findBest_128 : decode cX11_findBest 128 = .ok (.ireturn, 1) := by decide +kernel
set_option maxRecDepth 20000 in
theorem ggX11_best_X11_isOne : GoodIn wsX11_best wsX11_isOne := goodIn_r _ [8, 9, 10, 11, 7, 12, 58, 59, 60, 61, 62, 63, 64, 65, 66, 67, 68, 69, 70, 71, 72, 73, 74, 75, 76, 77] (by decide +kernel) (by decide +kernel)
set_option maxRecDepth 20000 in
theorem gX11_best_X11_isOne : GoodIn wsX11_best (wsV RX11 99 RX11 yX11_isOne wsX11_isOne) := goodIn_app (goodIn_of _ (by decide +kernel)) ggX11_best_X11_isOne
set_option maxRecDepth 20000 in
theorem ggX11_best_X11_in : GoodIn wsX11_best wsX11_in := goodIn_r _ [12] (by decide +kernel) (by decide +kernel)
set_option maxRecDepth 20000 in
theorem gX11_best_X11_in : GoodIn wsX11_best (va_wsS RX11 47 yX11_in wsX11_in) := goodIn_app (goodIn_of _ (by decide +kernel)) ggX11_best_X11_in
set_option maxRecDepth 20000 in
theorem ggX11_best_X11_told : GoodIn wsX11_best wsX11_told := goodIn_r _ [16, 17, 58, 59, 60, 61, 62, 63, 64, 65, 66, 67, 68, 69, 70, 71, 72, 73, 74, 75, 76, 77] (by decide +kernel) (by decide +kernel)
set_option maxRecDepth 20000 in
theorem gX11_best_X11_told : GoodIn wsX11_best (wsV RX11 83 RX11 yX11_told wsX11_told) := goodIn_app (goodIn_of _ (by decide +kernel)) ggX11_best_X11_told
set_option maxRecDepth 20000 in
theorem ggX11_best_X11_findBest : GoodIn wsX11_best wsX11_findBest := goodIn_r _ [21, 2, 3, 9, 22, 23, 24, 25, 26, 7, 27, 28, 10, 11, 12, 29, 30, 31, 32, 33, 34, 35, 36, 37, 38, 39, 40, 41, 42, 43, 44, 45, 46, 47, 48, 49, 50, 51, 58, 59, 60, 61, 62, 63, 64, 65, 66, 67, 68, 69, 70, 71, 72, 73, 74, 75, 76, 77] (by decide +kernel) (by decide +kernel)
set_option maxRecDepth 20000 in
theorem gX11_best_X11_findBest : GoodIn wsX11_best (wsV RX11 222 RX11 yX11_findBest wsX11_findBest) := goodIn_app (goodIn_of _ (by decide +kernel)) ggX11_best_X11_findBest
set_option maxRecDepth 20000 in
theorem ggX11_best_X11_share : GoodIn wsX11_best wsX11_share := goodIn_r _ [55, 56, 57, 58, 59, 60, 61, 62, 63, 64, 65, 66, 67, 68, 69, 70, 71, 72, 73, 74, 75, 76, 77] (by decide +kernel) (by decide +kernel)
set_option maxRecDepth 20000 in
theorem gX11_best_X11_share : GoodIn wsX11_best (wsV RX11 212 RX11 yX11_share wsX11_share) := goodIn_app (goodIn_of _ (by decide +kernel)) ggX11_best_X11_share
theorem dX11_best_0 : decode cX11_best 0 = .ok (.aload_n 0, 1) := by decide +kernel
theorem dX11_best_1 : decode cX11_best 1 = .ok (.iload_n 1, 1) := by decide +kernel
theorem dX11_best_2 : decode cX11_best 2 = .ok (.invokevirtual 99, 3) := by decide +kernel
theorem dX11_best_5 : decode cX11_best 5 = .ok (.ifCond .eq 15, 3) := by decide +kernel
theorem dX11_best_8 : decode cX11_best 8 = .ok (.iload_n 2, 1) := by decide +kernel
theorem dX11_best_9 : decode cX11_best 9 = .ok (.i2l, 1) := by decide +kernel
theorem dX11_best_10 : decode cX11_best 10 = .ok (.lconst 0, 1) := by decide +kernel
theorem dX11_best_11 : decode cX11_best 11 = .ok (.ldc2_w 71, 3) := by decide +kernel
theorem dX11_best_14 : decode cX11_best 14 = .ok (.invokestatic 47, 3) := by decide +kernel
theorem dX11_best_17 : decode cX11_best 17 = .ok (.ifCond .ne 10, 3) := by decide +kernel
theorem dX11_best_20 : decode cX11_best 20 = .ok (.aload_n 0, 1) := by decide +kernel
theorem dX11_best_21 : decode cX11_best 21 = .ok (.bipush (-2), 2) := by decide +kernel
theorem dX11_best_23 : decode cX11_best 23 = .ok (.invokevirtual 83, 3) := by decide +kernel
theorem dX11_best_26 : decode cX11_best 26 = .ok (.ireturn, 1) := by decide +kernel
theorem dX11_best_27 : decode cX11_best 27 = .ok (.aload_n 0, 1) := by decide +kernel
theorem dX11_best_28 : decode cX11_best 28 = .ok (.iload_n 1, 1) := by decide +kernel
theorem dX11_best_29 : decode cX11_best 29 = .ok (.iload_n 2, 1) := by decide +kernel
theorem dX11_best_30 : decode cX11_best 30 = .ok (.iconst 1, 1) := by decide +kernel
theorem dX11_best_31 : decode cX11_best 31 = .ok (.invokevirtual 222, 3) := by decide +kernel
theorem dX11_best_34 : decode cX11_best 34 = .ok (.istore_n 3, 1) := by decide +kernel
theorem dX11_best_35 : decode cX11_best 35 = .ok (.aload_n 0, 1) := by decide +kernel
theorem dX11_best_36 : decode cX11_best 36 = .ok (.ldc2_w 210, 3) := by decide +kernel
theorem dX11_best_39 : decode cX11_best 39 = .ok (.aload_n 0, 1) := by decide +kernel
theorem dX11_best_40 : decode cX11_best 40 = .ok (.getfield 216, 3) := by decide +kernel
theorem dX11_best_43 : decode cX11_best 43 = .ok (.lsub, 1) := by decide +kernel
theorem dX11_best_44 : decode cX11_best 44 = .ok (.ldc2_w 210, 3) := by decide +kernel
theorem dX11_best_47 : decode cX11_best 47 = .ok (.invokevirtual 212, 3) := by decide +kernel
theorem dX11_best_50 : decode cX11_best 50 = .ok (.pop, 1) := by decide +kernel
theorem dX11_best_51 : decode cX11_best 51 = .ok (.iload_n 3, 1) := by decide +kernel
theorem dX11_best_52 : decode cX11_best 52 = .ok (.ireturn, 1) := by decide +kernel
set_option maxRecDepth 20000 in
theorem ggX11_tell_X11_isOne : GoodIn wsX11_tell wsX11_isOne := goodIn_r _ [10, 2, 11, 12, 9, 13, 53, 54, 55, 56, 57, 58, 59, 60, 61, 62, 63, 64, 65, 66, 67, 68, 69, 70, 71, 72] (by decide +kernel) (by decide +kernel)
set_option maxRecDepth 20000 in
theorem gX11_tell_X11_isOne : GoodIn wsX11_tell (wsV RX11 99 RX11 yX11_isOne wsX11_isOne) := goodIn_app (goodIn_of _ (by decide +kernel)) ggX11_tell_X11_isOne
set_option maxRecDepth 20000 in
theorem ggX11_tell_X11_in : GoodIn wsX11_tell wsX11_in := goodIn_r _ [13] (by decide +kernel) (by decide +kernel)
set_option maxRecDepth 20000 in
theorem gX11_tell_X11_in : GoodIn wsX11_tell (va_wsS RX11 47 yX11_in wsX11_in) := goodIn_app (goodIn_of _ (by decide +kernel)) ggX11_tell_X11_in
set_option maxRecDepth 20000 in
theorem ggX11_tell_X11_told : GoodIn wsX11_tell wsX11_told := goodIn_r _ [17, 18, 53, 54, 55, 56, 57, 58, 59, 60, 61, 62, 63, 64, 65, 66, 67, 68, 69, 70, 71, 72] (by decide +kernel) (by decide +kernel)
set_option maxRecDepth 20000 in
theorem gX11_tell_X11_told : GoodIn wsX11_tell (wsV RX11 83 RX11 yX11_told wsX11_told) := goodIn_app (goodIn_of _ (by decide +kernel)) ggX11_tell_X11_told
set_option maxRecDepth 20000 in
theorem ggX11_tell_X11_findBest : GoodIn wsX11_tell wsX11_findBest := goodIn_r _ [22, 4, 5, 2, 23, 24, 25, 26, 27, 9, 28, 29, 11, 12, 13, 30, 31, 32, 33, 34, 35, 36, 37, 38, 39, 40, 41, 42, 43, 44, 45, 46, 47, 48, 49, 50, 51, 52, 53, 54, 55, 56, 57, 58, 59, 60, 61, 62, 63, 64, 65, 66, 67, 68, 69, 70, 71, 72] (by decide +kernel) (by decide +kernel)
set_option maxRecDepth 20000 in
theorem gX11_tell_X11_findBest : GoodIn wsX11_tell (wsV RX11 222 RX11 yX11_findBest wsX11_findBest) := goodIn_app (goodIn_of _ (by decide +kernel)) ggX11_tell_X11_findBest
set_option maxRecDepth 20000 in
theorem ggX11_tell_X11_lesser : GoodIn wsX11_tell wsX11_lesser := goodIn_r _ [44] (by decide +kernel) (by decide +kernel)
set_option maxRecDepth 20000 in
theorem gX11_tell_X11_lesser : GoodIn wsX11_tell (va_wsS RX11 119 yX11_lesser wsX11_lesser) := goodIn_app (goodIn_of _ (by decide +kernel)) ggX11_tell_X11_lesser
theorem dX11_tell_0 : decode cX11_tell 0 = .ok (.aload_n 0, 1) := by decide +kernel
theorem dX11_tell_1 : decode cX11_tell 1 = .ok (.iload_n 1, 1) := by decide +kernel
theorem dX11_tell_2 : decode cX11_tell 2 = .ok (.invokevirtual 99, 3) := by decide +kernel
theorem dX11_tell_5 : decode cX11_tell 5 = .ok (.ifCond .eq 15, 3) := by decide +kernel
theorem dX11_tell_8 : decode cX11_tell 8 = .ok (.iload_n 2, 1) := by decide +kernel
theorem dX11_tell_9 : decode cX11_tell 9 = .ok (.i2l, 1) := by decide +kernel
theorem dX11_tell_10 : decode cX11_tell 10 = .ok (.lconst 0, 1) := by decide +kernel
theorem dX11_tell_11 : decode cX11_tell 11 = .ok (.ldc2_w 71, 3) := by decide +kernel
theorem dX11_tell_14 : decode cX11_tell 14 = .ok (.invokestatic 47, 3) := by decide +kernel
theorem dX11_tell_17 : decode cX11_tell 17 = .ok (.ifCond .ne 10, 3) := by decide +kernel
theorem dX11_tell_20 : decode cX11_tell 20 = .ok (.aload_n 0, 1) := by decide +kernel
theorem dX11_tell_21 : decode cX11_tell 21 = .ok (.bipush (-2), 2) := by decide +kernel
theorem dX11_tell_23 : decode cX11_tell 23 = .ok (.invokevirtual 83, 3) := by decide +kernel
theorem dX11_tell_26 : decode cX11_tell 26 = .ok (.ireturn, 1) := by decide +kernel
theorem dX11_tell_27 : decode cX11_tell 27 = .ok (.aload_n 0, 1) := by decide +kernel
theorem dX11_tell_28 : decode cX11_tell 28 = .ok (.iload_n 1, 1) := by decide +kernel
theorem dX11_tell_29 : decode cX11_tell 29 = .ok (.iload_n 2, 1) := by decide +kernel
theorem dX11_tell_30 : decode cX11_tell 30 = .ok (.iconst 0, 1) := by decide +kernel
theorem dX11_tell_31 : decode cX11_tell 31 = .ok (.invokevirtual 222, 3) := by decide +kernel
theorem dX11_tell_34 : decode cX11_tell 34 = .ok (.pop, 1) := by decide +kernel
theorem dX11_tell_35 : decode cX11_tell 35 = .ok (.aload_n 0, 1) := by decide +kernel
theorem dX11_tell_36 : decode cX11_tell 36 = .ok (.getfield 7, 3) := by decide +kernel
theorem dX11_tell_39 : decode cX11_tell 39 = .ok (.bipush 115, 2) := by decide +kernel
theorem dX11_tell_41 : decode cX11_tell 41 = .ok (.iaload, 1) := by decide +kernel
theorem dX11_tell_42 : decode cX11_tell 42 = .ok (.aload_n 0, 1) := by decide +kernel
theorem dX11_tell_43 : decode cX11_tell 43 = .ok (.getfield 7, 3) := by decide +kernel
theorem dX11_tell_46 : decode cX11_tell 46 = .ok (.bipush 61, 2) := by decide +kernel
theorem dX11_tell_48 : decode cX11_tell 48 = .ok (.iload_n 1, 1) := by decide +kernel
theorem dX11_tell_49 : decode cX11_tell 49 = .ok (.iadd, 1) := by decide +kernel
theorem dX11_tell_50 : decode cX11_tell 50 = .ok (.iaload, 1) := by decide +kernel
theorem dX11_tell_51 : decode cX11_tell 51 = .ok (.isub, 1) := by decide +kernel
theorem dX11_tell_52 : decode cX11_tell 52 = .ok (.istore_n 3, 1) := by decide +kernel
theorem dX11_tell_53 : decode cX11_tell 53 = .ok (.bipush 20, 2) := by decide +kernel
theorem dX11_tell_55 : decode cX11_tell 55 = .ok (.iload_n 3, 1) := by decide +kernel
theorem dX11_tell_56 : decode cX11_tell 56 = .ok (.bipush 50, 2) := by decide +kernel
theorem dX11_tell_58 : decode cX11_tell 58 = .ok (.idiv, 1) := by decide +kernel
theorem dX11_tell_59 : decode cX11_tell 59 = .ok (.invokestatic 119, 3) := by decide +kernel
theorem dX11_tell_62 : decode cX11_tell 62 = .ok (.istore 4, 2) := by decide +kernel
theorem dX11_tell_64 : decode cX11_tell 64 = .ok (.ldc2_w 65, 3) := by decide +kernel
theorem dX11_tell_67 : decode cX11_tell 67 = .ok (.ldc2_w 210, 3) := by decide +kernel
theorem dX11_tell_70 : decode cX11_tell 70 = .ok (.aload_n 0, 1) := by decide +kernel
theorem dX11_tell_71 : decode cX11_tell 71 = .ok (.getfield 216, 3) := by decide +kernel
theorem dX11_tell_74 : decode cX11_tell 74 = .ok (.lsub, 1) := by decide +kernel
theorem dX11_tell_75 : decode cX11_tell 75 = .ok (.lmul, 1) := by decide +kernel
theorem dX11_tell_76 : decode cX11_tell 76 = .ok (.bipush 20, 2) := by decide +kernel
theorem dX11_tell_78 : decode cX11_tell 78 = .ok (.iload 4, 2) := by decide +kernel
theorem dX11_tell_80 : decode cX11_tell 80 = .ok (.isub, 1) := by decide +kernel
theorem dX11_tell_81 : decode cX11_tell 81 = .ok (.i2l, 1) := by decide +kernel
theorem dX11_tell_82 : decode cX11_tell 82 = .ok (.ldc2_w 210, 3) := by decide +kernel
theorem dX11_tell_85 : decode cX11_tell 85 = .ok (.lmul, 1) := by decide +kernel
theorem dX11_tell_86 : decode cX11_tell 86 = .ok (.lcmp, 1) := by decide +kernel
theorem dX11_tell_87 : decode cX11_tell 87 = .ok (.ifCond .ge 7, 3) := by decide +kernel
theorem dX11_tell_90 : decode cX11_tell 90 = .ok (.iconst 1, 1) := by decide +kernel
theorem dX11_tell_91 : decode cX11_tell 91 = .ok (.goto 4, 3) := by decide +kernel
theorem dX11_tell_94 : decode cX11_tell 94 = .ok (.iconst 0, 1) := by decide +kernel
theorem dX11_tell_95 : decode cX11_tell 95 = .ok (.ireturn, 1) := by decide +kernel
set_option maxRecDepth 20000 in
theorem ggX11_has_X11_in : GoodIn wsX11_has wsX11_in := goodIn_r _ [6] (by decide +kernel) (by decide +kernel)
set_option maxRecDepth 20000 in
theorem gX11_has_X11_in : GoodIn wsX11_has (va_wsS RX11 47 yX11_in wsX11_in) := goodIn_app (goodIn_of _ (by decide +kernel)) ggX11_has_X11_in
set_option maxRecDepth 20000 in
theorem ggX11_has_X11_toldElse : GoodIn wsX11_has wsX11_toldElse := goodIn_r _ [10, 11, 12, 13, 14, 15, 16, 17, 18, 19, 20, 21, 22, 23, 24, 25, 26, 27, 28, 29, 30, 31] (by decide +kernel) (by decide +kernel)
set_option maxRecDepth 20000 in
theorem gX11_has_X11_toldElse : GoodIn wsX11_has (wsV RX11 226 RX11 yX11_toldElse wsX11_toldElse) := goodIn_app (goodIn_of _ (by decide +kernel)) ggX11_has_X11_toldElse
theorem dX11_has_0 : decode cX11_has 0 = .ok (.iload_n 1, 1) := by decide +kernel
theorem dX11_has_1 : decode cX11_has 1 = .ok (.iconst 1, 1) := by decide +kernel
theorem dX11_has_2 : decode cX11_has 2 = .ok (.if_icmp .eq 8, 3) := by decide +kernel
theorem dX11_has_5 : decode cX11_has 5 = .ok (.iload_n 1, 1) := by decide +kernel
theorem dX11_has_6 : decode cX11_has 6 = .ok (.iconst 2, 1) := by decide +kernel
theorem dX11_has_7 : decode cX11_has 7 = .ok (.if_icmp .ne 7, 3) := by decide +kernel
theorem dX11_has_10 : decode cX11_has 10 = .ok (.iconst 1, 1) := by decide +kernel
theorem dX11_has_11 : decode cX11_has 11 = .ok (.goto 4, 3) := by decide +kernel
theorem dX11_has_14 : decode cX11_has 14 = .ok (.iconst 0, 1) := by decide +kernel
theorem dX11_has_15 : decode cX11_has 15 = .ok (.istore_n 3, 1) := by decide +kernel
theorem dX11_has_16 : decode cX11_has 16 = .ok (.iload_n 1, 1) := by decide +kernel
theorem dX11_has_17 : decode cX11_has 17 = .ok (.ifCond .ne 8, 3) := by decide +kernel
theorem dX11_has_20 : decode cX11_has 20 = .ok (.bipush 25, 2) := by decide +kernel
theorem dX11_has_22 : decode cX11_has 22 = .ok (.goto 14, 3) := by decide +kernel
theorem dX11_has_25 : decode cX11_has 25 = .ok (.iload_n 1, 1) := by decide +kernel
theorem dX11_has_26 : decode cX11_has 26 = .ok (.iconst 1, 1) := by decide +kernel
theorem dX11_has_27 : decode cX11_has 27 = .ok (.if_icmp .ne 8, 3) := by decide +kernel
theorem dX11_has_30 : decode cX11_has 30 = .ok (.bipush 7, 2) := by decide +kernel
theorem dX11_has_32 : decode cX11_has 32 = .ok (.goto 4, 3) := by decide +kernel
theorem dX11_has_35 : decode cX11_has 35 = .ok (.iconst 5, 1) := by decide +kernel
theorem dX11_has_36 : decode cX11_has 36 = .ok (.istore 4, 2) := by decide +kernel
theorem dX11_has_38 : decode cX11_has 38 = .ok (.iload_n 1, 1) := by decide +kernel
theorem dX11_has_39 : decode cX11_has 39 = .ok (.i2l, 1) := by decide +kernel
theorem dX11_has_40 : decode cX11_has 40 = .ok (.lconst 0, 1) := by decide +kernel
theorem dX11_has_41 : decode cX11_has 41 = .ok (.ldc2_w 77, 3) := by decide +kernel
theorem dX11_has_44 : decode cX11_has 44 = .ok (.invokestatic 47, 3) := by decide +kernel
theorem dX11_has_47 : decode cX11_has 47 = .ok (.ifCond .eq 21, 3) := by decide +kernel
theorem dX11_has_50 : decode cX11_has 50 = .ok (.iload_n 2, 1) := by decide +kernel
theorem dX11_has_51 : decode cX11_has 51 = .ok (.iconst (-1), 1) := by decide +kernel
theorem dX11_has_52 : decode cX11_has 52 = .ok (.if_icmp .eq 21, 3) := by decide +kernel
theorem dX11_has_55 : decode cX11_has 55 = .ok (.iload_n 2, 1) := by decide +kernel
theorem dX11_has_56 : decode cX11_has 56 = .ok (.i2l, 1) := by decide +kernel
theorem dX11_has_57 : decode cX11_has 57 = .ok (.iload_n 3, 1) := by decide +kernel
theorem dX11_has_58 : decode cX11_has 58 = .ok (.i2l, 1) := by decide +kernel
theorem dX11_has_59 : decode cX11_has 59 = .ok (.iload 4, 2) := by decide +kernel
theorem dX11_has_61 : decode cX11_has 61 = .ok (.i2l, 1) := by decide +kernel
theorem dX11_has_62 : decode cX11_has 62 = .ok (.invokestatic 47, 3) := by decide +kernel
theorem dX11_has_65 : decode cX11_has 65 = .ok (.ifCond .ne 8, 3) := by decide +kernel
theorem dX11_has_68 : decode cX11_has 68 = .ok (.aload_n 0, 1) := by decide +kernel
theorem dX11_has_69 : decode cX11_has 69 = .ok (.invokevirtual 226, 3) := by decide +kernel
theorem dX11_has_72 : decode cX11_has 72 = .ok (.ireturn, 1) := by decide +kernel
theorem dX11_has_73 : decode cX11_has 73 = .ok (.aload_n 0, 1) := by decide +kernel
theorem dX11_has_74 : decode cX11_has 74 = .ok (.getfield 7, 3) := by decide +kernel
theorem dX11_has_77 : decode cX11_has 77 = .ok (.bipush 110, 2) := by decide +kernel
theorem dX11_has_79 : decode cX11_has 79 = .ok (.iload_n 1, 1) := by decide +kernel
theorem dX11_has_80 : decode cX11_has 80 = .ok (.iadd, 1) := by decide +kernel
theorem dX11_has_81 : decode cX11_has 81 = .ok (.iaload, 1) := by decide +kernel
theorem dX11_has_82 : decode cX11_has 82 = .ok (.istore 5, 2) := by decide +kernel
theorem dX11_has_84 : decode cX11_has 84 = .ok (.aload_n 0, 1) := by decide +kernel
theorem dX11_has_85 : decode cX11_has 85 = .ok (.getfield 7, 3) := by decide +kernel
theorem dX11_has_88 : decode cX11_has 88 = .ok (.bipush 110, 2) := by decide +kernel
theorem dX11_has_90 : decode cX11_has 90 = .ok (.iload_n 1, 1) := by decide +kernel
theorem dX11_has_91 : decode cX11_has 91 = .ok (.iadd, 1) := by decide +kernel
theorem dX11_has_92 : decode cX11_has 92 = .ok (.iload_n 2, 1) := by decide +kernel
theorem dX11_has_93 : decode cX11_has 93 = .ok (.iastore, 1) := by decide +kernel
theorem dX11_has_94 : decode cX11_has 94 = .ok (.iload 5, 2) := by decide +kernel
theorem dX11_has_96 : decode cX11_has 96 = .ok (.ireturn, 1) := by decide +kernel
set_option maxRecDepth 20000 in
theorem ggX11_partOf_X11_letterOf : GoodIn wsX11_partOf wsX11_letterOf := goodIn_r _ [6, 7, 8, 9, 5, 10] (by decide +kernel) (by decide +kernel)
set_option maxRecDepth 20000 in
theorem gX11_partOf_X11_letterOf : GoodIn wsX11_partOf (va_wsS RX11 229 yX11_letterOf wsX11_letterOf) := goodIn_app (goodIn_of _ (by decide +kernel)) ggX11_partOf_X11_letterOf
set_option maxRecDepth 20000 in
theorem ggX11_partOf_X11_lettersOf : GoodIn wsX11_partOf wsX11_lettersOf := goodIn_r _ [10, 7] (by decide +kernel) (by decide +kernel)
set_option maxRecDepth 20000 in
theorem gX11_partOf_X11_lettersOf : GoodIn wsX11_partOf (va_wsS RX11 53 yX11_lettersOf wsX11_lettersOf) := goodIn_app (goodIn_of _ (by decide +kernel)) ggX11_partOf_X11_lettersOf
theorem dX11_partOf_0 : decode cX11_partOf 0 = .ok (.iload_n 2, 1) := by decide +kernel
theorem dX11_partOf_1 : decode cX11_partOf 1 = .ok (.tableswitch 73 0 3 #[31, 44, 54, 63], 31) := by decide +kernel
theorem dX11_partOf_32 : decode cX11_partOf 32 = .ok (.aload_n 0, 1) := by decide +kernel
theorem dX11_partOf_33 : decode cX11_partOf 33 = .ok (.getfield 13, 3) := by decide +kernel
theorem dX11_partOf_36 : decode cX11_partOf 36 = .ok (.iload_n 1, 1) := by decide +kernel
theorem dX11_partOf_37 : decode cX11_partOf 37 = .ok (.laload, 1) := by decide +kernel
theorem dX11_partOf_38 : decode cX11_partOf 38 = .ok (.iconst 0, 1) := by decide +kernel
theorem dX11_partOf_39 : decode cX11_partOf 39 = .ok (.invokestatic 229, 3) := by decide +kernel
theorem dX11_partOf_42 : decode cX11_partOf 42 = .ok (.iconst 1, 1) := by decide +kernel
theorem dX11_partOf_43 : decode cX11_partOf 43 = .ok (.isub, 1) := by decide +kernel
theorem dX11_partOf_44 : decode cX11_partOf 44 = .ok (.ireturn, 1) := by decide +kernel
theorem dX11_partOf_45 : decode cX11_partOf 45 = .ok (.aload_n 0, 1) := by decide +kernel
theorem dX11_partOf_46 : decode cX11_partOf 46 = .ok (.getfield 13, 3) := by decide +kernel
theorem dX11_partOf_49 : decode cX11_partOf 49 = .ok (.iload_n 1, 1) := by decide +kernel
theorem dX11_partOf_50 : decode cX11_partOf 50 = .ok (.laload, 1) := by decide +kernel
theorem dX11_partOf_51 : decode cX11_partOf 51 = .ok (.invokestatic 53, 3) := by decide +kernel
theorem dX11_partOf_54 : decode cX11_partOf 54 = .ok (.ireturn, 1) := by decide +kernel
theorem dX11_partOf_55 : decode cX11_partOf 55 = .ok (.aload_n 0, 1) := by decide +kernel
theorem dX11_partOf_56 : decode cX11_partOf 56 = .ok (.getfield 7, 3) := by decide +kernel
theorem dX11_partOf_59 : decode cX11_partOf 59 = .ok (.iconst 1, 1) := by decide +kernel
theorem dX11_partOf_60 : decode cX11_partOf 60 = .ok (.iload_n 1, 1) := by decide +kernel
theorem dX11_partOf_61 : decode cX11_partOf 61 = .ok (.iadd, 1) := by decide +kernel
theorem dX11_partOf_62 : decode cX11_partOf 62 = .ok (.iaload, 1) := by decide +kernel
theorem dX11_partOf_63 : decode cX11_partOf 63 = .ok (.ireturn, 1) := by decide +kernel
theorem dX11_partOf_64 : decode cX11_partOf 64 = .ok (.aload_n 0, 1) := by decide +kernel
theorem dX11_partOf_65 : decode cX11_partOf 65 = .ok (.getfield 7, 3) := by decide +kernel
theorem dX11_partOf_68 : decode cX11_partOf 68 = .ok (.bipush 13, 2) := by decide +kernel
theorem dX11_partOf_70 : decode cX11_partOf 70 = .ok (.iload_n 1, 1) := by decide +kernel
theorem dX11_partOf_71 : decode cX11_partOf 71 = .ok (.iadd, 1) := by decide +kernel
theorem dX11_partOf_72 : decode cX11_partOf 72 = .ok (.iaload, 1) := by decide +kernel
theorem dX11_partOf_73 : decode cX11_partOf 73 = .ok (.ireturn, 1) := by decide +kernel
theorem dX11_partOf_74 : decode cX11_partOf 74 = .ok (.aload_n 0, 1) := by decide +kernel
theorem dX11_partOf_75 : decode cX11_partOf 75 = .ok (.getfield 7, 3) := by decide +kernel
theorem dX11_partOf_78 : decode cX11_partOf 78 = .ok (.bipush 25, 2) := by decide +kernel
theorem dX11_partOf_80 : decode cX11_partOf 80 = .ok (.iload_n 1, 1) := by decide +kernel
theorem dX11_partOf_81 : decode cX11_partOf 81 = .ok (.iadd, 1) := by decide +kernel
theorem dX11_partOf_82 : decode cX11_partOf 82 = .ok (.iaload, 1) := by decide +kernel
theorem dX11_partOf_83 : decode cX11_partOf 83 = .ok (.ireturn, 1) := by decide +kernel
set_option maxRecDepth 20000 in
theorem ggX11_findWhose_X11_partOf : GoodIn wsX11_findWhose wsX11_partOf := goodIn_r _ [6, 7, 1, 8, 9, 5, 10, 11, 12, 13, 14, 15, 16, 17, 18, 19, 20, 21, 22, 23, 24, 25, 26, 27, 28, 29, 30, 31, 32, 33, 34] (by decide +kernel) (by decide +kernel)
set_option maxRecDepth 20000 in
theorem gX11_findWhose_X11_partOf : GoodIn wsX11_findWhose (wsV RX11 233 RX11 yX11_partOf wsX11_partOf) := goodIn_app (goodIn_of _ (by decide +kernel)) ggX11_findWhose_X11_partOf
theorem dX11_findWhose_0 : decode cX11_findWhose 0 = .ok (.iconst 0, 1) := by decide +kernel
theorem dX11_findWhose_1 : decode cX11_findWhose 1 = .ok (.istore_n 1, 1) := by decide +kernel
theorem dX11_findWhose_2 : decode cX11_findWhose 2 = .ok (.iconst 0, 1) := by decide +kernel
theorem dX11_findWhose_3 : decode cX11_findWhose 3 = .ok (.istore_n 2, 1) := by decide +kernel
theorem dX11_findWhose_4 : decode cX11_findWhose 4 = .ok (.iload_n 2, 1) := by decide +kernel
theorem dX11_findWhose_5 : decode cX11_findWhose 5 = .ok (.aload_n 0, 1) := by decide +kernel
theorem dX11_findWhose_6 : decode cX11_findWhose 6 = .ok (.getfield 7, 3) := by decide +kernel
theorem dX11_findWhose_9 : decode cX11_findWhose 9 = .ok (.iconst 0, 1) := by decide +kernel
theorem dX11_findWhose_10 : decode cX11_findWhose 10 = .ok (.iaload, 1) := by decide +kernel
theorem dX11_findWhose_11 : decode cX11_findWhose 11 = .ok (.if_icmp .ge 84, 3) := by decide +kernel
theorem dX11_findWhose_14 : decode cX11_findWhose 14 = .ok (.iconst 1, 1) := by decide +kernel
theorem dX11_findWhose_15 : decode cX11_findWhose 15 = .ok (.istore_n 3, 1) := by decide +kernel
theorem dX11_findWhose_16 : decode cX11_findWhose 16 = .ok (.iconst 0, 1) := by decide +kernel
theorem dX11_findWhose_17 : decode cX11_findWhose 17 = .ok (.istore 4, 2) := by decide +kernel
theorem dX11_findWhose_19 : decode cX11_findWhose 19 = .ok (.iload 4, 2) := by decide +kernel
theorem dX11_findWhose_21 : decode cX11_findWhose 21 = .ok (.iconst 5, 1) := by decide +kernel
theorem dX11_findWhose_22 : decode cX11_findWhose 22 = .ok (.if_icmp .ge 53, 3) := by decide +kernel
theorem dX11_findWhose_25 : decode cX11_findWhose 25 = .ok (.iload_n 3, 1) := by decide +kernel
theorem dX11_findWhose_26 : decode cX11_findWhose 26 = .ok (.ifCond .eq 41, 3) := by decide +kernel
theorem dX11_findWhose_29 : decode cX11_findWhose 29 = .ok (.aload_n 0, 1) := by decide +kernel
theorem dX11_findWhose_30 : decode cX11_findWhose 30 = .ok (.getfield 7, 3) := by decide +kernel
theorem dX11_findWhose_33 : decode cX11_findWhose 33 = .ok (.bipush 110, 2) := by decide +kernel
theorem dX11_findWhose_35 : decode cX11_findWhose 35 = .ok (.iload 4, 2) := by decide +kernel
theorem dX11_findWhose_37 : decode cX11_findWhose 37 = .ok (.iadd, 1) := by decide +kernel
theorem dX11_findWhose_38 : decode cX11_findWhose 38 = .ok (.iaload, 1) := by decide +kernel
theorem dX11_findWhose_39 : decode cX11_findWhose 39 = .ok (.iconst (-1), 1) := by decide +kernel
theorem dX11_findWhose_40 : decode cX11_findWhose 40 = .ok (.if_icmp .eq 23, 3) := by decide +kernel
theorem dX11_findWhose_43 : decode cX11_findWhose 43 = .ok (.aload_n 0, 1) := by decide +kernel
theorem dX11_findWhose_44 : decode cX11_findWhose 44 = .ok (.getfield 7, 3) := by decide +kernel
theorem dX11_findWhose_47 : decode cX11_findWhose 47 = .ok (.bipush 110, 2) := by decide +kernel
theorem dX11_findWhose_49 : decode cX11_findWhose 49 = .ok (.iload 4, 2) := by decide +kernel
theorem dX11_findWhose_51 : decode cX11_findWhose 51 = .ok (.iadd, 1) := by decide +kernel
theorem dX11_findWhose_52 : decode cX11_findWhose 52 = .ok (.iaload, 1) := by decide +kernel
theorem dX11_findWhose_53 : decode cX11_findWhose 53 = .ok (.aload_n 0, 1) := by decide +kernel
theorem dX11_findWhose_54 : decode cX11_findWhose 54 = .ok (.iload_n 2, 1) := by decide +kernel
theorem dX11_findWhose_55 : decode cX11_findWhose 55 = .ok (.iload 4, 2) := by decide +kernel
theorem dX11_findWhose_57 : decode cX11_findWhose 57 = .ok (.invokevirtual 233, 3) := by decide +kernel
theorem dX11_findWhose_60 : decode cX11_findWhose 60 = .ok (.if_icmp .ne 7, 3) := by decide +kernel
theorem dX11_findWhose_63 : decode cX11_findWhose 63 = .ok (.iconst 1, 1) := by decide +kernel
theorem dX11_findWhose_64 : decode cX11_findWhose 64 = .ok (.goto 4, 3) := by decide +kernel
theorem dX11_findWhose_67 : decode cX11_findWhose 67 = .ok (.iconst 0, 1) := by decide +kernel
theorem dX11_findWhose_68 : decode cX11_findWhose 68 = .ok (.istore_n 3, 1) := by decide +kernel
theorem dX11_findWhose_69 : decode cX11_findWhose 69 = .ok (.iinc 4 1, 3) := by decide +kernel
theorem dX11_findWhose_72 : decode cX11_findWhose 72 = .ok (.goto (-53), 3) := by decide +kernel
theorem dX11_findWhose_75 : decode cX11_findWhose 75 = .ok (.iload_n 1, 1) := by decide +kernel
theorem dX11_findWhose_76 : decode cX11_findWhose 76 = .ok (.iload_n 3, 1) := by decide +kernel
theorem dX11_findWhose_77 : decode cX11_findWhose 77 = .ok (.ifCond .eq 9, 3) := by decide +kernel
theorem dX11_findWhose_80 : decode cX11_findWhose 80 = .ok (.iconst 1, 1) := by decide +kernel
theorem dX11_findWhose_81 : decode cX11_findWhose 81 = .ok (.iload_n 2, 1) := by decide +kernel
theorem dX11_findWhose_82 : decode cX11_findWhose 82 = .ok (.ishl, 1) := by decide +kernel
theorem dX11_findWhose_83 : decode cX11_findWhose 83 = .ok (.goto 4, 3) := by decide +kernel
theorem dX11_findWhose_86 : decode cX11_findWhose 86 = .ok (.iconst 0, 1) := by decide +kernel
theorem dX11_findWhose_87 : decode cX11_findWhose 87 = .ok (.ior, 1) := by decide +kernel
theorem dX11_findWhose_88 : decode cX11_findWhose 88 = .ok (.istore_n 1, 1) := by decide +kernel
theorem dX11_findWhose_89 : decode cX11_findWhose 89 = .ok (.iinc 2 1, 3) := by decide +kernel
theorem dX11_findWhose_92 : decode cX11_findWhose 92 = .ok (.goto (-88), 3) := by decide +kernel
theorem dX11_findWhose_95 : decode cX11_findWhose 95 = .ok (.iload_n 1, 1) := by decide +kernel
theorem dX11_findWhose_96 : decode cX11_findWhose 96 = .ok (.ireturn, 1) := by decide +kernel
set_option maxRecDepth 20000 in
theorem ggX11_whose_X11_findWhose : GoodIn wsX11_whose wsX11_findWhose := goodIn_r _ [5, 6, 7, 8, 9, 4, 10, 11, 12, 13, 14, 15, 16, 17, 18, 19, 20, 21, 22, 23, 24, 25, 26, 27, 28, 29, 30, 31, 32, 33, 34, 35, 36, 37, 38] (by decide +kernel) (by decide +kernel)
set_option maxRecDepth 20000 in
theorem gX11_whose_X11_findWhose : GoodIn wsX11_whose (wsV RX11 236 RX11 yX11_findWhose wsX11_findWhose) := goodIn_app (goodIn_of _ (by decide +kernel)) ggX11_whose_X11_findWhose
theorem dX11_whose_0 : decode cX11_whose 0 = .ok (.aload_n 0, 1) := by decide +kernel
theorem dX11_whose_1 : decode cX11_whose 1 = .ok (.invokevirtual 236, 3) := by decide +kernel
theorem dX11_whose_4 : decode cX11_whose 4 = .ok (.ireturn, 1) := by decide +kernel
set_option maxRecDepth 20000 in
theorem ggX11_odds_X11_isOne : GoodIn wsX11_odds wsX11_isOne := goodIn_r _ [6, 1, 7, 8, 5, 9, 40, 41, 42, 43, 44, 45, 46, 47, 48, 49, 50, 51, 52, 53, 54, 55, 56, 57, 58, 59] (by decide +kernel) (by decide +kernel)
set_option maxRecDepth 20000 in
theorem gX11_odds_X11_isOne : GoodIn wsX11_odds (wsV RX11 99 RX11 yX11_isOne wsX11_isOne) := goodIn_app (goodIn_of _ (by decide +kernel)) ggX11_odds_X11_isOne
set_option maxRecDepth 20000 in
theorem ggX11_odds_X11_told : GoodIn wsX11_odds wsX11_told := goodIn_r _ [13, 14, 40, 41, 42, 43, 44, 45, 46, 47, 48, 49, 50, 51, 52, 53, 54, 55, 56, 57, 58, 59] (by decide +kernel) (by decide +kernel)
set_option maxRecDepth 20000 in
theorem gX11_odds_X11_told : GoodIn wsX11_odds (wsV RX11 83 RX11 yX11_told wsX11_told) := goodIn_app (goodIn_of _ (by decide +kernel)) ggX11_odds_X11_told
set_option maxRecDepth 20000 in
theorem ggX11_odds_X11_findWhose : GoodIn wsX11_odds wsX11_findWhose := goodIn_r _ [18, 1, 19, 20, 21, 5, 22, 23, 24, 25, 26, 27, 28, 29, 30, 40, 41, 42, 43, 44, 45, 46, 47, 48, 49, 50, 51, 52, 53, 54, 55, 56, 57, 58, 59] (by decide +kernel) (by decide +kernel)
set_option maxRecDepth 20000 in
theorem gX11_odds_X11_findWhose : GoodIn wsX11_odds (wsV RX11 236 RX11 yX11_findWhose wsX11_findWhose) := goodIn_app (goodIn_of _ (by decide +kernel)) ggX11_odds_X11_findWhose
set_option maxRecDepth 20000 in
theorem ggX11_odds_X11_holds : GoodIn wsX11_odds wsX11_holds := goodIn_r _ [33] (by decide +kernel) (by decide +kernel)
set_option maxRecDepth 20000 in
theorem gX11_odds_X11_holds : GoodIn wsX11_odds (va_wsS RX11 189 yX11_holds wsX11_holds) := goodIn_app (goodIn_of _ (by decide +kernel)) ggX11_odds_X11_holds
set_option maxRecDepth 20000 in
theorem ggX11_odds_X11_share : GoodIn wsX11_odds wsX11_share := goodIn_r _ [37, 38, 39, 40, 41, 42, 43, 44, 45, 46, 47, 48, 49, 50, 51, 52, 53, 54, 55, 56, 57, 58, 59] (by decide +kernel) (by decide +kernel)
set_option maxRecDepth 20000 in
theorem gX11_odds_X11_share : GoodIn wsX11_odds (wsV RX11 212 RX11 yX11_share wsX11_share) := goodIn_app (goodIn_of _ (by decide +kernel)) ggX11_odds_X11_share
theorem dX11_odds_0 : decode cX11_odds 0 = .ok (.aload_n 0, 1) := by decide +kernel
theorem dX11_odds_1 : decode cX11_odds 1 = .ok (.iload_n 1, 1) := by decide +kernel
theorem dX11_odds_2 : decode cX11_odds 2 = .ok (.invokevirtual 99, 3) := by decide +kernel
theorem dX11_odds_5 : decode cX11_odds 5 = .ok (.ifCond .ne 10, 3) := by decide +kernel
theorem dX11_odds_8 : decode cX11_odds 8 = .ok (.aload_n 0, 1) := by decide +kernel
theorem dX11_odds_9 : decode cX11_odds 9 = .ok (.bipush (-2), 2) := by decide +kernel
theorem dX11_odds_11 : decode cX11_odds 11 = .ok (.invokevirtual 83, 3) := by decide +kernel
theorem dX11_odds_14 : decode cX11_odds 14 = .ok (.ireturn, 1) := by decide +kernel
theorem dX11_odds_15 : decode cX11_odds 15 = .ok (.aload_n 0, 1) := by decide +kernel
theorem dX11_odds_16 : decode cX11_odds 16 = .ok (.invokevirtual 236, 3) := by decide +kernel
theorem dX11_odds_19 : decode cX11_odds 19 = .ok (.istore_n 2, 1) := by decide +kernel
theorem dX11_odds_20 : decode cX11_odds 20 = .ok (.iload_n 2, 1) := by decide +kernel
theorem dX11_odds_21 : decode cX11_odds 21 = .ok (.iload_n 1, 1) := by decide +kernel
theorem dX11_odds_22 : decode cX11_odds 22 = .ok (.invokestatic 189, 3) := by decide +kernel
theorem dX11_odds_25 : decode cX11_odds 25 = .ok (.ifCond .ne 10, 3) := by decide +kernel
theorem dX11_odds_28 : decode cX11_odds 28 = .ok (.aload_n 0, 1) := by decide +kernel
theorem dX11_odds_29 : decode cX11_odds 29 = .ok (.bipush (-3), 2) := by decide +kernel
theorem dX11_odds_31 : decode cX11_odds 31 = .ok (.invokevirtual 83, 3) := by decide +kernel
theorem dX11_odds_34 : decode cX11_odds 34 = .ok (.ireturn, 1) := by decide +kernel
theorem dX11_odds_35 : decode cX11_odds 35 = .ok (.iconst 0, 1) := by decide +kernel
theorem dX11_odds_36 : decode cX11_odds 36 = .ok (.istore_n 3, 1) := by decide +kernel
theorem dX11_odds_37 : decode cX11_odds 37 = .ok (.iconst 0, 1) := by decide +kernel
theorem dX11_odds_38 : decode cX11_odds 38 = .ok (.istore 4, 2) := by decide +kernel
theorem dX11_odds_40 : decode cX11_odds 40 = .ok (.iload 4, 2) := by decide +kernel
theorem dX11_odds_42 : decode cX11_odds 42 = .ok (.aload_n 0, 1) := by decide +kernel
theorem dX11_odds_43 : decode cX11_odds 43 = .ok (.getfield 7, 3) := by decide +kernel
theorem dX11_odds_46 : decode cX11_odds 46 = .ok (.iconst 0, 1) := by decide +kernel
theorem dX11_odds_47 : decode cX11_odds 47 = .ok (.iaload, 1) := by decide +kernel
theorem dX11_odds_48 : decode cX11_odds 48 = .ok (.if_icmp .ge 35, 3) := by decide +kernel
theorem dX11_odds_51 : decode cX11_odds 51 = .ok (.iload_n 3, 1) := by decide +kernel
theorem dX11_odds_52 : decode cX11_odds 52 = .ok (.iload_n 2, 1) := by decide +kernel
theorem dX11_odds_53 : decode cX11_odds 53 = .ok (.iload 4, 2) := by decide +kernel
theorem dX11_odds_55 : decode cX11_odds 55 = .ok (.invokestatic 189, 3) := by decide +kernel
theorem dX11_odds_58 : decode cX11_odds 58 = .ok (.ifCond .eq 16, 3) := by decide +kernel
theorem dX11_odds_61 : decode cX11_odds 61 = .ok (.aload_n 0, 1) := by decide +kernel
theorem dX11_odds_62 : decode cX11_odds 62 = .ok (.getfield 7, 3) := by decide +kernel
theorem dX11_odds_65 : decode cX11_odds 65 = .ok (.bipush 49, 2) := by decide +kernel
theorem dX11_odds_67 : decode cX11_odds 67 = .ok (.iload 4, 2) := by decide +kernel
theorem dX11_odds_69 : decode cX11_odds 69 = .ok (.iadd, 1) := by decide +kernel
theorem dX11_odds_70 : decode cX11_odds 70 = .ok (.iaload, 1) := by decide +kernel
theorem dX11_odds_71 : decode cX11_odds 71 = .ok (.goto 4, 3) := by decide +kernel
theorem dX11_odds_74 : decode cX11_odds 74 = .ok (.iconst 0, 1) := by decide +kernel
theorem dX11_odds_75 : decode cX11_odds 75 = .ok (.iadd, 1) := by decide +kernel
theorem dX11_odds_76 : decode cX11_odds 76 = .ok (.istore_n 3, 1) := by decide +kernel
theorem dX11_odds_77 : decode cX11_odds 77 = .ok (.iinc 4 1, 3) := by decide +kernel
theorem dX11_odds_80 : decode cX11_odds 80 = .ok (.goto (-40), 3) := by decide +kernel
theorem dX11_odds_83 : decode cX11_odds 83 = .ok (.aload_n 0, 1) := by decide +kernel
theorem dX11_odds_84 : decode cX11_odds 84 = .ok (.aload_n 0, 1) := by decide +kernel
theorem dX11_odds_85 : decode cX11_odds 85 = .ok (.getfield 7, 3) := by decide +kernel
theorem dX11_odds_88 : decode cX11_odds 88 = .ok (.bipush 49, 2) := by decide +kernel
theorem dX11_odds_90 : decode cX11_odds 90 = .ok (.iload_n 1, 1) := by decide +kernel
theorem dX11_odds_91 : decode cX11_odds 91 = .ok (.iadd, 1) := by decide +kernel
theorem dX11_odds_92 : decode cX11_odds 92 = .ok (.iaload, 1) := by decide +kernel
theorem dX11_odds_93 : decode cX11_odds 93 = .ok (.i2l, 1) := by decide +kernel
theorem dX11_odds_94 : decode cX11_odds 94 = .ok (.iload_n 3, 1) := by decide +kernel
theorem dX11_odds_95 : decode cX11_odds 95 = .ok (.i2l, 1) := by decide +kernel
theorem dX11_odds_96 : decode cX11_odds 96 = .ok (.invokevirtual 212, 3) := by decide +kernel
theorem dX11_odds_99 : decode cX11_odds 99 = .ok (.ireturn, 1) := by decide +kernel
set_option maxRecDepth 20000 in
theorem ggX11_leaves_X11_holds : GoodIn wsX11_leaves wsX11_holds := goodIn_r _ [5] (by decide +kernel) (by decide +kernel)
set_option maxRecDepth 20000 in
theorem gX11_leaves_X11_holds : GoodIn wsX11_leaves (va_wsS RX11 189 yX11_holds wsX11_holds) := goodIn_app (goodIn_of _ (by decide +kernel)) ggX11_leaves_X11_holds
set_option maxRecDepth 20000 in
theorem ggX11_leaves_X11_partOf : GoodIn wsX11_leaves wsX11_partOf := goodIn_r _ [9, 10, 1, 11, 12, 4, 13, 14, 15, 16, 17, 18, 19, 20, 21, 22, 23, 24, 25, 26, 27, 28, 29, 30, 31, 32, 33, 34, 35, 36, 37] (by decide +kernel) (by decide +kernel)
set_option maxRecDepth 20000 in
theorem gX11_leaves_X11_partOf : GoodIn wsX11_leaves (wsV RX11 233 RX11 yX11_partOf wsX11_partOf) := goodIn_app (goodIn_of _ (by decide +kernel)) ggX11_leaves_X11_partOf
theorem dX11_leaves_0 : decode cX11_leaves 0 = .ok (.iconst 0, 1) := by decide +kernel
theorem dX11_leaves_1 : decode cX11_leaves 1 = .ok (.istore_n 3, 1) := by decide +kernel
theorem dX11_leaves_2 : decode cX11_leaves 2 = .ok (.iconst 0, 1) := by decide +kernel
theorem dX11_leaves_3 : decode cX11_leaves 3 = .ok (.istore 4, 2) := by decide +kernel
theorem dX11_leaves_5 : decode cX11_leaves 5 = .ok (.iload 4, 2) := by decide +kernel
theorem dX11_leaves_7 : decode cX11_leaves 7 = .ok (.bipush 26, 2) := by decide +kernel
theorem dX11_leaves_9 : decode cX11_leaves 9 = .ok (.if_icmp .ge 80, 3) := by decide +kernel
theorem dX11_leaves_12 : decode cX11_leaves 12 = .ok (.iconst 0, 1) := by decide +kernel
theorem dX11_leaves_13 : decode cX11_leaves 13 = .ok (.istore 5, 2) := by decide +kernel
theorem dX11_leaves_15 : decode cX11_leaves 15 = .ok (.iconst 0, 1) := by decide +kernel
theorem dX11_leaves_16 : decode cX11_leaves 16 = .ok (.istore 6, 2) := by decide +kernel
theorem dX11_leaves_18 : decode cX11_leaves 18 = .ok (.iload 6, 2) := by decide +kernel
theorem dX11_leaves_20 : decode cX11_leaves 20 = .ok (.aload_n 0, 1) := by decide +kernel
theorem dX11_leaves_21 : decode cX11_leaves 21 = .ok (.getfield 7, 3) := by decide +kernel
theorem dX11_leaves_24 : decode cX11_leaves 24 = .ok (.iconst 0, 1) := by decide +kernel
theorem dX11_leaves_25 : decode cX11_leaves 25 = .ok (.iaload, 1) := by decide +kernel
theorem dX11_leaves_26 : decode cX11_leaves 26 = .ok (.if_icmp .ge 49, 3) := by decide +kernel
theorem dX11_leaves_29 : decode cX11_leaves 29 = .ok (.iload 5, 2) := by decide +kernel
theorem dX11_leaves_31 : decode cX11_leaves 31 = .ok (.iload_n 1, 1) := by decide +kernel
theorem dX11_leaves_32 : decode cX11_leaves 32 = .ok (.iload 6, 2) := by decide +kernel
theorem dX11_leaves_34 : decode cX11_leaves 34 = .ok (.invokestatic 189, 3) := by decide +kernel
theorem dX11_leaves_37 : decode cX11_leaves 37 = .ok (.ifCond .eq 28, 3) := by decide +kernel
theorem dX11_leaves_40 : decode cX11_leaves 40 = .ok (.aload_n 0, 1) := by decide +kernel
theorem dX11_leaves_41 : decode cX11_leaves 41 = .ok (.iload 6, 2) := by decide +kernel
theorem dX11_leaves_43 : decode cX11_leaves 43 = .ok (.iload_n 2, 1) := by decide +kernel
theorem dX11_leaves_44 : decode cX11_leaves 44 = .ok (.invokevirtual 233, 3) := by decide +kernel
theorem dX11_leaves_47 : decode cX11_leaves 47 = .ok (.iload 4, 2) := by decide +kernel
theorem dX11_leaves_49 : decode cX11_leaves 49 = .ok (.if_icmp .ne 16, 3) := by decide +kernel
theorem dX11_leaves_52 : decode cX11_leaves 52 = .ok (.aload_n 0, 1) := by decide +kernel
theorem dX11_leaves_53 : decode cX11_leaves 53 = .ok (.getfield 7, 3) := by decide +kernel
theorem dX11_leaves_56 : decode cX11_leaves 56 = .ok (.bipush 49, 2) := by decide +kernel
theorem dX11_leaves_58 : decode cX11_leaves 58 = .ok (.iload 6, 2) := by decide +kernel
theorem dX11_leaves_60 : decode cX11_leaves 60 = .ok (.iadd, 1) := by decide +kernel
theorem dX11_leaves_61 : decode cX11_leaves 61 = .ok (.iaload, 1) := by decide +kernel
theorem dX11_leaves_62 : decode cX11_leaves 62 = .ok (.goto 4, 3) := by decide +kernel
theorem dX11_leaves_65 : decode cX11_leaves 65 = .ok (.iconst 0, 1) := by decide +kernel
theorem dX11_leaves_66 : decode cX11_leaves 66 = .ok (.iadd, 1) := by decide +kernel
theorem dX11_leaves_67 : decode cX11_leaves 67 = .ok (.istore 5, 2) := by decide +kernel
theorem dX11_leaves_69 : decode cX11_leaves 69 = .ok (.iinc 6 1, 3) := by decide +kernel
theorem dX11_leaves_72 : decode cX11_leaves 72 = .ok (.goto (-54), 3) := by decide +kernel
theorem dX11_leaves_75 : decode cX11_leaves 75 = .ok (.iload_n 3, 1) := by decide +kernel
theorem dX11_leaves_76 : decode cX11_leaves 76 = .ok (.iload 5, 2) := by decide +kernel
theorem dX11_leaves_78 : decode cX11_leaves 78 = .ok (.iload 5, 2) := by decide +kernel
theorem dX11_leaves_80 : decode cX11_leaves 80 = .ok (.imul, 1) := by decide +kernel
theorem dX11_leaves_81 : decode cX11_leaves 81 = .ok (.iadd, 1) := by decide +kernel
theorem dX11_leaves_82 : decode cX11_leaves 82 = .ok (.istore_n 3, 1) := by decide +kernel
theorem dX11_leaves_83 : decode cX11_leaves 83 = .ok (.iinc 4 1, 3) := by decide +kernel
theorem dX11_leaves_86 : decode cX11_leaves 86 = .ok (.goto (-81), 3) := by decide +kernel
theorem dX11_leaves_89 : decode cX11_leaves 89 = .ok (.iload_n 3, 1) := by decide +kernel
theorem dX11_leaves_90 : decode cX11_leaves 90 = .ok (.ireturn, 1) := by decide +kernel
set_option maxRecDepth 20000 in
theorem ggX11_next_X11_findWhose : GoodIn wsX11_next wsX11_findWhose := goodIn_r _ [6, 1, 7, 8, 9, 5, 10, 11, 12, 13, 14, 15, 16, 17, 18, 31, 32, 33, 34, 35, 36, 37, 38, 39, 40, 41, 42, 43, 44, 45, 46, 47, 48, 49, 50] (by decide +kernel) (by decide +kernel)
set_option maxRecDepth 20000 in
theorem gX11_next_X11_findWhose : GoodIn wsX11_next (wsV RX11 236 RX11 yX11_findWhose wsX11_findWhose) := goodIn_app (goodIn_of _ (by decide +kernel)) ggX11_next_X11_findWhose
set_option maxRecDepth 20000 in
theorem ggX11_next_X11_told : GoodIn wsX11_next wsX11_told := goodIn_r _ [22, 23, 31, 32, 33, 34, 35, 36, 37, 38, 39, 40, 41, 42, 43, 44, 45, 46, 47, 48, 49, 50] (by decide +kernel) (by decide +kernel)
set_option maxRecDepth 20000 in
theorem gX11_next_X11_told : GoodIn wsX11_next (wsV RX11 83 RX11 yX11_told wsX11_told) := goodIn_app (goodIn_of _ (by decide +kernel)) ggX11_next_X11_told
set_option maxRecDepth 20000 in
theorem ggX11_next_X11_leaves : GoodIn wsX11_next wsX11_leaves := goodIn_r _ [27, 1, 28, 29, 5, 30, 7, 8, 9, 10, 11, 12, 13, 14, 15, 16, 17, 18, 31, 32, 33, 34, 35, 36, 37, 38, 39, 40, 41, 42, 43, 44, 45, 46, 47, 48, 49, 50] (by decide +kernel) (by decide +kernel)
set_option maxRecDepth 20000 in
theorem gX11_next_X11_leaves : GoodIn wsX11_next (wsV RX11 239 RX11 yX11_leaves wsX11_leaves) := goodIn_app (goodIn_of _ (by decide +kernel)) ggX11_next_X11_leaves
theorem dX11_next_0 : decode cX11_next 0 = .ok (.aload_n 0, 1) := by decide +kernel
theorem dX11_next_1 : decode cX11_next 1 = .ok (.invokevirtual 236, 3) := by decide +kernel
theorem dX11_next_4 : decode cX11_next 4 = .ok (.istore_n 1, 1) := by decide +kernel
theorem dX11_next_5 : decode cX11_next 5 = .ok (.iload_n 1, 1) := by decide +kernel
theorem dX11_next_6 : decode cX11_next 6 = .ok (.ifCond .ne 10, 3) := by decide +kernel
theorem dX11_next_9 : decode cX11_next 9 = .ok (.aload_n 0, 1) := by decide +kernel
theorem dX11_next_10 : decode cX11_next 10 = .ok (.bipush (-3), 2) := by decide +kernel
theorem dX11_next_12 : decode cX11_next 12 = .ok (.invokevirtual 83, 3) := by decide +kernel
theorem dX11_next_15 : decode cX11_next 15 = .ok (.ireturn, 1) := by decide +kernel
theorem dX11_next_16 : decode cX11_next 16 = .ok (.iconst (-1), 1) := by decide +kernel
theorem dX11_next_17 : decode cX11_next 17 = .ok (.istore_n 2, 1) := by decide +kernel
theorem dX11_next_18 : decode cX11_next 18 = .ok (.iconst 0, 1) := by decide +kernel
theorem dX11_next_19 : decode cX11_next 19 = .ok (.istore_n 3, 1) := by decide +kernel
theorem dX11_next_20 : decode cX11_next 20 = .ok (.iconst 0, 1) := by decide +kernel
theorem dX11_next_21 : decode cX11_next 21 = .ok (.istore 4, 2) := by decide +kernel
theorem dX11_next_23 : decode cX11_next 23 = .ok (.iload 4, 2) := by decide +kernel
theorem dX11_next_25 : decode cX11_next 25 = .ok (.iconst 5, 1) := by decide +kernel
theorem dX11_next_26 : decode cX11_next 26 = .ok (.if_icmp .ge 58, 3) := by decide +kernel
theorem dX11_next_29 : decode cX11_next 29 = .ok (.aload_n 0, 1) := by decide +kernel
theorem dX11_next_30 : decode cX11_next 30 = .ok (.getfield 7, 3) := by decide +kernel
theorem dX11_next_33 : decode cX11_next 33 = .ok (.bipush 110, 2) := by decide +kernel
theorem dX11_next_35 : decode cX11_next 35 = .ok (.iload 4, 2) := by decide +kernel
theorem dX11_next_37 : decode cX11_next 37 = .ok (.iadd, 1) := by decide +kernel
theorem dX11_next_38 : decode cX11_next 38 = .ok (.iaload, 1) := by decide +kernel
theorem dX11_next_39 : decode cX11_next 39 = .ok (.iconst (-1), 1) := by decide +kernel
theorem dX11_next_40 : decode cX11_next 40 = .ok (.if_icmp .ne 13, 3) := by decide +kernel
theorem dX11_next_43 : decode cX11_next 43 = .ok (.aload_n 0, 1) := by decide +kernel
theorem dX11_next_44 : decode cX11_next 44 = .ok (.iload_n 1, 1) := by decide +kernel
theorem dX11_next_45 : decode cX11_next 45 = .ok (.iload 4, 2) := by decide +kernel
theorem dX11_next_47 : decode cX11_next 47 = .ok (.invokevirtual 239, 3) := by decide +kernel
theorem dX11_next_50 : decode cX11_next 50 = .ok (.goto 4, 3) := by decide +kernel
theorem dX11_next_53 : decode cX11_next 53 = .ok (.iconst (-1), 1) := by decide +kernel
theorem dX11_next_54 : decode cX11_next 54 = .ok (.istore 5, 2) := by decide +kernel
theorem dX11_next_56 : decode cX11_next 56 = .ok (.iload 5, 2) := by decide +kernel
theorem dX11_next_58 : decode cX11_next 58 = .ok (.ifCond .lt 20, 3) := by decide +kernel
theorem dX11_next_61 : decode cX11_next 61 = .ok (.iload_n 2, 1) := by decide +kernel
theorem dX11_next_62 : decode cX11_next 62 = .ok (.iconst (-1), 1) := by decide +kernel
theorem dX11_next_63 : decode cX11_next 63 = .ok (.if_icmp .eq 9, 3) := by decide +kernel
theorem dX11_next_66 : decode cX11_next 66 = .ok (.iload 5, 2) := by decide +kernel
theorem dX11_next_68 : decode cX11_next 68 = .ok (.iload_n 3, 1) := by decide +kernel
theorem dX11_next_69 : decode cX11_next 69 = .ok (.if_icmp .ge 9, 3) := by decide +kernel
theorem dX11_next_72 : decode cX11_next 72 = .ok (.iload 4, 2) := by decide +kernel
theorem dX11_next_74 : decode cX11_next 74 = .ok (.istore_n 2, 1) := by decide +kernel
theorem dX11_next_75 : decode cX11_next 75 = .ok (.iload 5, 2) := by decide +kernel
theorem dX11_next_77 : decode cX11_next 77 = .ok (.istore_n 3, 1) := by decide +kernel
theorem dX11_next_78 : decode cX11_next 78 = .ok (.iinc 4 1, 3) := by decide +kernel
theorem dX11_next_81 : decode cX11_next 81 = .ok (.goto (-58), 3) := by decide +kernel
theorem dX11_next_84 : decode cX11_next 84 = .ok (.iload_n 2, 1) := by decide +kernel
theorem dX11_next_85 : decode cX11_next 85 = .ok (.ireturn, 1) := by decide +kernel
set_option maxRecDepth 20000 in
theorem ggX11_question_X11_oneQuestion : GoodIn wsX11_question wsX11_oneQuestion := goodIn_r _ [5, 6, 7, 8, 9, 10, 4, 11, 17, 18, 19, 20, 21, 22, 23, 24, 25, 26, 27, 28, 29, 30, 31, 32, 33, 34, 35, 36] (by decide +kernel) (by decide +kernel)
set_option maxRecDepth 20000 in
theorem gX11_question_X11_oneQuestion : GoodIn wsX11_question (wsV RX11 178 RX11 yX11_oneQuestion wsX11_oneQuestion) := goodIn_app (goodIn_of _ (by decide +kernel)) ggX11_question_X11_oneQuestion
set_option maxRecDepth 20000 in
theorem ggX11_question_X11_told : GoodIn wsX11_question wsX11_told := goodIn_r _ [15, 16, 17, 18, 19, 20, 21, 22, 23, 24, 25, 26, 27, 28, 29, 30, 31, 32, 33, 34, 35, 36] (by decide +kernel) (by decide +kernel)
set_option maxRecDepth 20000 in
theorem gX11_question_X11_told : GoodIn wsX11_question (wsV RX11 83 RX11 yX11_told wsX11_told) := goodIn_app (goodIn_of _ (by decide +kernel)) ggX11_question_X11_told
theorem dX11_question_0 : decode cX11_question 0 = .ok (.aload_n 0, 1) := by decide +kernel
theorem dX11_question_1 : decode cX11_question 1 = .ok (.aload_n 0, 1) := by decide +kernel
theorem dX11_question_2 : decode cX11_question 2 = .ok (.iconst 0, 1) := by decide +kernel
theorem dX11_question_3 : decode cX11_question 3 = .ok (.iload_n 1, 1) := by decide +kernel
theorem dX11_question_4 : decode cX11_question 4 = .ok (.iload_n 2, 1) := by decide +kernel
theorem dX11_question_5 : decode cX11_question 5 = .ok (.invokevirtual 178, 3) := by decide +kernel
theorem dX11_question_8 : decode cX11_question 8 = .ok (.invokevirtual 83, 3) := by decide +kernel
theorem dX11_question_11 : decode cX11_question 11 = .ok (.ireturn, 1) := by decide +kernel
set_option maxRecDepth 20000 in
theorem ggX11_ask_X11_findWhose : GoodIn wsX11_ask wsX11_findWhose := goodIn_r _ [6, 1, 7, 8, 9, 5, 10, 11, 12, 13, 14, 15, 16, 17, 18, 31, 32, 33, 34, 35, 36, 37, 38, 39, 40, 41, 42, 43, 44, 45, 46, 47, 48, 49, 50] (by decide +kernel) (by decide +kernel)
set_option maxRecDepth 20000 in
theorem gX11_ask_X11_findWhose : GoodIn wsX11_ask (wsV RX11 236 RX11 yX11_findWhose wsX11_findWhose) := goodIn_app (goodIn_of _ (by decide +kernel)) ggX11_ask_X11_findWhose
set_option maxRecDepth 20000 in
theorem ggX11_ask_X11_told : GoodIn wsX11_ask wsX11_told := goodIn_r _ [22, 23, 31, 32, 33, 34, 35, 36, 37, 38, 39, 40, 41, 42, 43, 44, 45, 46, 47, 48, 49, 50] (by decide +kernel) (by decide +kernel)
set_option maxRecDepth 20000 in
theorem gX11_ask_X11_told : GoodIn wsX11_ask (wsV RX11 83 RX11 yX11_told wsX11_told) := goodIn_app (goodIn_of _ (by decide +kernel)) ggX11_ask_X11_told
set_option maxRecDepth 20000 in
theorem ggX11_ask_X11_leaves : GoodIn wsX11_ask wsX11_leaves := goodIn_r _ [27, 1, 28, 29, 5, 30, 7, 8, 9, 10, 11, 12, 13, 14, 15, 16, 17, 18, 31, 32, 33, 34, 35, 36, 37, 38, 39, 40, 41, 42, 43, 44, 45, 46, 47, 48, 49, 50] (by decide +kernel) (by decide +kernel)
set_option maxRecDepth 20000 in
theorem gX11_ask_X11_leaves : GoodIn wsX11_ask (wsV RX11 239 RX11 yX11_leaves wsX11_leaves) := goodIn_app (goodIn_of _ (by decide +kernel)) ggX11_ask_X11_leaves
theorem dX11_ask_0 : decode cX11_ask 0 = .ok (.aload_n 0, 1) := by decide +kernel
theorem dX11_ask_1 : decode cX11_ask 1 = .ok (.invokevirtual 236, 3) := by decide +kernel
theorem dX11_ask_4 : decode cX11_ask 4 = .ok (.istore_n 1, 1) := by decide +kernel
theorem dX11_ask_5 : decode cX11_ask 5 = .ok (.iload_n 1, 1) := by decide +kernel
theorem dX11_ask_6 : decode cX11_ask 6 = .ok (.ifCond .ne 10, 3) := by decide +kernel
theorem dX11_ask_9 : decode cX11_ask 9 = .ok (.aload_n 0, 1) := by decide +kernel
theorem dX11_ask_10 : decode cX11_ask 10 = .ok (.bipush (-3), 2) := by decide +kernel
theorem dX11_ask_12 : decode cX11_ask 12 = .ok (.invokevirtual 83, 3) := by decide +kernel
theorem dX11_ask_15 : decode cX11_ask 15 = .ok (.ireturn, 1) := by decide +kernel
theorem dX11_ask_16 : decode cX11_ask 16 = .ok (.iconst (-1), 1) := by decide +kernel
theorem dX11_ask_17 : decode cX11_ask 17 = .ok (.istore_n 2, 1) := by decide +kernel
theorem dX11_ask_18 : decode cX11_ask 18 = .ok (.iconst 0, 1) := by decide +kernel
theorem dX11_ask_19 : decode cX11_ask 19 = .ok (.istore_n 3, 1) := by decide +kernel
theorem dX11_ask_20 : decode cX11_ask 20 = .ok (.iconst 0, 1) := by decide +kernel
theorem dX11_ask_21 : decode cX11_ask 21 = .ok (.istore 4, 2) := by decide +kernel
theorem dX11_ask_23 : decode cX11_ask 23 = .ok (.iload 4, 2) := by decide +kernel
theorem dX11_ask_25 : decode cX11_ask 25 = .ok (.aload_n 0, 1) := by decide +kernel
theorem dX11_ask_26 : decode cX11_ask 26 = .ok (.getfield 7, 3) := by decide +kernel
theorem dX11_ask_29 : decode cX11_ask 29 = .ok (.bipush 89, 2) := by decide +kernel
theorem dX11_ask_31 : decode cX11_ask 31 = .ok (.iaload, 1) := by decide +kernel
theorem dX11_ask_32 : decode cX11_ask 32 = .ok (.if_icmp .ge 88, 3) := by decide +kernel
theorem dX11_ask_35 : decode cX11_ask 35 = .ok (.aload_n 0, 1) := by decide +kernel
theorem dX11_ask_36 : decode cX11_ask 36 = .ok (.getfield 7, 3) := by decide +kernel
theorem dX11_ask_39 : decode cX11_ask 39 = .ok (.bipush 110, 2) := by decide +kernel
theorem dX11_ask_41 : decode cX11_ask 41 = .ok (.aload_n 0, 1) := by decide +kernel
theorem dX11_ask_42 : decode cX11_ask 42 = .ok (.getfield 7, 3) := by decide +kernel
theorem dX11_ask_45 : decode cX11_ask 45 = .ok (.bipush 90, 2) := by decide +kernel
theorem dX11_ask_47 : decode cX11_ask 47 = .ok (.iload 4, 2) := by decide +kernel
theorem dX11_ask_49 : decode cX11_ask 49 = .ok (.iadd, 1) := by decide +kernel
theorem dX11_ask_50 : decode cX11_ask 50 = .ok (.iaload, 1) := by decide +kernel
theorem dX11_ask_51 : decode cX11_ask 51 = .ok (.iadd, 1) := by decide +kernel
theorem dX11_ask_52 : decode cX11_ask 52 = .ok (.iaload, 1) := by decide +kernel
theorem dX11_ask_53 : decode cX11_ask 53 = .ok (.iconst (-1), 1) := by decide +kernel
theorem dX11_ask_54 : decode cX11_ask 54 = .ok (.if_icmp .ne 35, 3) := by decide +kernel
theorem dX11_ask_57 : decode cX11_ask 57 = .ok (.bipush 100, 2) := by decide +kernel
theorem dX11_ask_59 : decode cX11_ask 59 = .ok (.aload_n 0, 1) := by decide +kernel
theorem dX11_ask_60 : decode cX11_ask 60 = .ok (.iload_n 1, 1) := by decide +kernel
theorem dX11_ask_61 : decode cX11_ask 61 = .ok (.aload_n 0, 1) := by decide +kernel
theorem dX11_ask_62 : decode cX11_ask 62 = .ok (.getfield 7, 3) := by decide +kernel
theorem dX11_ask_65 : decode cX11_ask 65 = .ok (.bipush 90, 2) := by decide +kernel
theorem dX11_ask_67 : decode cX11_ask 67 = .ok (.iload 4, 2) := by decide +kernel
theorem dX11_ask_69 : decode cX11_ask 69 = .ok (.iadd, 1) := by decide +kernel
theorem dX11_ask_70 : decode cX11_ask 70 = .ok (.iaload, 1) := by decide +kernel
theorem dX11_ask_71 : decode cX11_ask 71 = .ok (.invokevirtual 239, 3) := by decide +kernel
theorem dX11_ask_74 : decode cX11_ask 74 = .ok (.imul, 1) := by decide +kernel
theorem dX11_ask_75 : decode cX11_ask 75 = .ok (.aload_n 0, 1) := by decide +kernel
theorem dX11_ask_76 : decode cX11_ask 76 = .ok (.getfield 7, 3) := by decide +kernel
theorem dX11_ask_79 : decode cX11_ask 79 = .ok (.bipush 96, 2) := by decide +kernel
theorem dX11_ask_81 : decode cX11_ask 81 = .ok (.iload 4, 2) := by decide +kernel
theorem dX11_ask_83 : decode cX11_ask 83 = .ok (.iadd, 1) := by decide +kernel
theorem dX11_ask_84 : decode cX11_ask 84 = .ok (.iaload, 1) := by decide +kernel
theorem dX11_ask_85 : decode cX11_ask 85 = .ok (.iadd, 1) := by decide +kernel
theorem dX11_ask_86 : decode cX11_ask 86 = .ok (.goto 4, 3) := by decide +kernel
theorem dX11_ask_89 : decode cX11_ask 89 = .ok (.iconst (-1), 1) := by decide +kernel
theorem dX11_ask_90 : decode cX11_ask 90 = .ok (.istore 5, 2) := by decide +kernel
theorem dX11_ask_92 : decode cX11_ask 92 = .ok (.iload 5, 2) := by decide +kernel
theorem dX11_ask_94 : decode cX11_ask 94 = .ok (.ifCond .lt 20, 3) := by decide +kernel
theorem dX11_ask_97 : decode cX11_ask 97 = .ok (.iload_n 2, 1) := by decide +kernel
theorem dX11_ask_98 : decode cX11_ask 98 = .ok (.iconst (-1), 1) := by decide +kernel
theorem dX11_ask_99 : decode cX11_ask 99 = .ok (.if_icmp .eq 9, 3) := by decide +kernel
theorem dX11_ask_102 : decode cX11_ask 102 = .ok (.iload 5, 2) := by decide +kernel
theorem dX11_ask_104 : decode cX11_ask 104 = .ok (.iload_n 3, 1) := by decide +kernel
theorem dX11_ask_105 : decode cX11_ask 105 = .ok (.if_icmp .ge 9, 3) := by decide +kernel
theorem dX11_ask_108 : decode cX11_ask 108 = .ok (.iload 4, 2) := by decide +kernel
theorem dX11_ask_110 : decode cX11_ask 110 = .ok (.istore_n 2, 1) := by decide +kernel
theorem dX11_ask_111 : decode cX11_ask 111 = .ok (.iload 5, 2) := by decide +kernel
theorem dX11_ask_113 : decode cX11_ask 113 = .ok (.istore_n 3, 1) := by decide +kernel
theorem dX11_ask_114 : decode cX11_ask 114 = .ok (.iinc 4 1, 3) := by decide +kernel
theorem dX11_ask_117 : decode cX11_ask 117 = .ok (.goto (-94), 3) := by decide +kernel
theorem dX11_ask_120 : decode cX11_ask 120 = .ok (.iload_n 2, 1) := by decide +kernel
theorem dX11_ask_121 : decode cX11_ask 121 = .ok (.ireturn, 1) := by decide +kernel
set_option maxRecDepth 20000 in
theorem ggX11_areTold_X11_holds : GoodIn wsX11_areTold wsX11_holds := goodIn_r _ [5] (by decide +kernel) (by decide +kernel)
set_option maxRecDepth 20000 in
theorem gX11_areTold_X11_holds : GoodIn wsX11_areTold (va_wsS RX11 189 yX11_holds wsX11_holds) := goodIn_app (goodIn_of _ (by decide +kernel)) ggX11_areTold_X11_holds
set_option maxRecDepth 20000 in
theorem ggX11_areTold_X11_partOf : GoodIn wsX11_areTold wsX11_partOf := goodIn_r _ [9, 10, 1, 11, 12, 4, 13, 14, 15, 16, 17, 18, 19, 20, 21, 22, 23, 24, 25, 26, 27, 28, 29, 30, 31, 32, 33, 34, 35, 36, 37] (by decide +kernel) (by decide +kernel)
set_option maxRecDepth 20000 in
theorem gX11_areTold_X11_partOf : GoodIn wsX11_areTold (wsV RX11 233 RX11 yX11_partOf wsX11_partOf) := goodIn_app (goodIn_of _ (by decide +kernel)) ggX11_areTold_X11_partOf
theorem dX11_areTold_0 : decode cX11_areTold 0 = .ok (.iconst 0, 1) := by decide +kernel
theorem dX11_areTold_1 : decode cX11_areTold 1 = .ok (.istore_n 2, 1) := by decide +kernel
theorem dX11_areTold_2 : decode cX11_areTold 2 = .ok (.iload_n 2, 1) := by decide +kernel
theorem dX11_areTold_3 : decode cX11_areTold 3 = .ok (.aload_n 0, 1) := by decide +kernel
theorem dX11_areTold_4 : decode cX11_areTold 4 = .ok (.getfield 7, 3) := by decide +kernel
theorem dX11_areTold_7 : decode cX11_areTold 7 = .ok (.iconst 0, 1) := by decide +kernel
theorem dX11_areTold_8 : decode cX11_areTold 8 = .ok (.iaload, 1) := by decide +kernel
theorem dX11_areTold_9 : decode cX11_areTold 9 = .ok (.if_icmp .ge 85, 3) := by decide +kernel
theorem dX11_areTold_12 : decode cX11_areTold 12 = .ok (.iconst 0, 1) := by decide +kernel
theorem dX11_areTold_13 : decode cX11_areTold 13 = .ok (.istore_n 3, 1) := by decide +kernel
theorem dX11_areTold_14 : decode cX11_areTold 14 = .ok (.iload_n 3, 1) := by decide +kernel
theorem dX11_areTold_15 : decode cX11_areTold 15 = .ok (.iload_n 2, 1) := by decide +kernel
theorem dX11_areTold_16 : decode cX11_areTold 16 = .ok (.if_icmp .ge 72, 3) := by decide +kernel
theorem dX11_areTold_19 : decode cX11_areTold 19 = .ok (.iconst 1, 1) := by decide +kernel
theorem dX11_areTold_20 : decode cX11_areTold 20 = .ok (.istore 4, 2) := by decide +kernel
theorem dX11_areTold_22 : decode cX11_areTold 22 = .ok (.iconst 0, 1) := by decide +kernel
theorem dX11_areTold_23 : decode cX11_areTold 23 = .ok (.istore 5, 2) := by decide +kernel
theorem dX11_areTold_25 : decode cX11_areTold 25 = .ok (.iload 5, 2) := by decide +kernel
theorem dX11_areTold_27 : decode cX11_areTold 27 = .ok (.iconst 5, 1) := by decide +kernel
theorem dX11_areTold_28 : decode cX11_areTold 28 = .ok (.if_icmp .ge 47, 3) := by decide +kernel
theorem dX11_areTold_31 : decode cX11_areTold 31 = .ok (.iload 4, 2) := by decide +kernel
theorem dX11_areTold_33 : decode cX11_areTold 33 = .ok (.ifCond .eq 33, 3) := by decide +kernel
theorem dX11_areTold_36 : decode cX11_areTold 36 = .ok (.iload_n 1, 1) := by decide +kernel
theorem dX11_areTold_37 : decode cX11_areTold 37 = .ok (.iload 5, 2) := by decide +kernel
theorem dX11_areTold_39 : decode cX11_areTold 39 = .ok (.invokestatic 189, 3) := by decide +kernel
theorem dX11_areTold_42 : decode cX11_areTold 42 = .ok (.ifCond .eq 20, 3) := by decide +kernel
theorem dX11_areTold_45 : decode cX11_areTold 45 = .ok (.aload_n 0, 1) := by decide +kernel
theorem dX11_areTold_46 : decode cX11_areTold 46 = .ok (.iload_n 2, 1) := by decide +kernel
theorem dX11_areTold_47 : decode cX11_areTold 47 = .ok (.iload 5, 2) := by decide +kernel
theorem dX11_areTold_49 : decode cX11_areTold 49 = .ok (.invokevirtual 233, 3) := by decide +kernel
theorem dX11_areTold_52 : decode cX11_areTold 52 = .ok (.aload_n 0, 1) := by decide +kernel
theorem dX11_areTold_53 : decode cX11_areTold 53 = .ok (.iload_n 3, 1) := by decide +kernel
theorem dX11_areTold_54 : decode cX11_areTold 54 = .ok (.iload 5, 2) := by decide +kernel
theorem dX11_areTold_56 : decode cX11_areTold 56 = .ok (.invokevirtual 233, 3) := by decide +kernel
theorem dX11_areTold_59 : decode cX11_areTold 59 = .ok (.if_icmp .ne 7, 3) := by decide +kernel
theorem dX11_areTold_62 : decode cX11_areTold 62 = .ok (.iconst 1, 1) := by decide +kernel
theorem dX11_areTold_63 : decode cX11_areTold 63 = .ok (.goto 4, 3) := by decide +kernel
theorem dX11_areTold_66 : decode cX11_areTold 66 = .ok (.iconst 0, 1) := by decide +kernel
theorem dX11_areTold_67 : decode cX11_areTold 67 = .ok (.istore 4, 2) := by decide +kernel
theorem dX11_areTold_69 : decode cX11_areTold 69 = .ok (.iinc 5 1, 3) := by decide +kernel
theorem dX11_areTold_72 : decode cX11_areTold 72 = .ok (.goto (-47), 3) := by decide +kernel
theorem dX11_areTold_75 : decode cX11_areTold 75 = .ok (.iload 4, 2) := by decide +kernel
theorem dX11_areTold_77 : decode cX11_areTold 77 = .ok (.ifCond .eq 5, 3) := by decide +kernel
theorem dX11_areTold_80 : decode cX11_areTold 80 = .ok (.iconst 0, 1) := by decide +kernel
theorem dX11_areTold_81 : decode cX11_areTold 81 = .ok (.ireturn, 1) := by decide +kernel
theorem dX11_areTold_82 : decode cX11_areTold 82 = .ok (.iinc 3 1, 3) := by decide +kernel
theorem dX11_areTold_85 : decode cX11_areTold 85 = .ok (.goto (-71), 3) := by decide +kernel
theorem dX11_areTold_88 : decode cX11_areTold 88 = .ok (.iinc 2 1, 3) := by decide +kernel
theorem dX11_areTold_91 : decode cX11_areTold 91 = .ok (.goto (-89), 3) := by decide +kernel
theorem dX11_areTold_94 : decode cX11_areTold 94 = .ok (.iconst 1, 1) := by decide +kernel
theorem dX11_areTold_95 : decode cX11_areTold 95 = .ok (.ireturn, 1) := by decide +kernel
set_option maxRecDepth 20000 in
theorem ggX11_index_X11_ones : GoodIn wsX11_index wsX11_ones := goodIn_r _ [4] (by decide +kernel) (by decide +kernel)
set_option maxRecDepth 20000 in
theorem gX11_index_X11_ones : GoodIn wsX11_index (va_wsS RX11 242 yX11_ones wsX11_ones) := goodIn_app (goodIn_of _ (by decide +kernel)) ggX11_index_X11_ones
set_option maxRecDepth 20000 in
theorem ggX11_index_X11_areTold : GoodIn wsX11_index wsX11_areTold := goodIn_r _ [8, 9, 10, 11, 3, 12, 13, 14, 15, 16, 17, 18, 19, 20, 21, 22, 23, 24, 25, 26, 27, 28, 29, 30, 31, 32, 33, 34, 35, 36, 37, 38, 39, 40, 41, 42, 43, 44] (by decide +kernel) (by decide +kernel)
set_option maxRecDepth 20000 in
theorem gX11_index_X11_areTold : GoodIn wsX11_index (wsV RX11 245 RX11 yX11_areTold wsX11_areTold) := goodIn_app (goodIn_of _ (by decide +kernel)) ggX11_index_X11_areTold
theorem dX11_index_0 : decode cX11_index 0 = .ok (.iconst (-1), 1) := by decide +kernel
theorem dX11_index_1 : decode cX11_index 1 = .ok (.istore_n 1, 1) := by decide +kernel
theorem dX11_index_2 : decode cX11_index 2 = .ok (.iconst 0, 1) := by decide +kernel
theorem dX11_index_3 : decode cX11_index 3 = .ok (.istore_n 2, 1) := by decide +kernel
theorem dX11_index_4 : decode cX11_index 4 = .ok (.iload_n 2, 1) := by decide +kernel
theorem dX11_index_5 : decode cX11_index 5 = .ok (.bipush 32, 2) := by decide +kernel
theorem dX11_index_7 : decode cX11_index 7 = .ok (.if_icmp .ge 39, 3) := by decide +kernel
theorem dX11_index_10 : decode cX11_index 10 = .ok (.iload_n 1, 1) := by decide +kernel
theorem dX11_index_11 : decode cX11_index 11 = .ok (.iconst (-1), 1) := by decide +kernel
theorem dX11_index_12 : decode cX11_index 12 = .ok (.if_icmp .eq 14, 3) := by decide +kernel
theorem dX11_index_15 : decode cX11_index 15 = .ok (.iload_n 2, 1) := by decide +kernel
theorem dX11_index_16 : decode cX11_index 16 = .ok (.invokestatic 242, 3) := by decide +kernel
theorem dX11_index_19 : decode cX11_index 19 = .ok (.iload_n 1, 1) := by decide +kernel
theorem dX11_index_20 : decode cX11_index 20 = .ok (.invokestatic 242, 3) := by decide +kernel
theorem dX11_index_23 : decode cX11_index 23 = .ok (.if_icmp .ge 15, 3) := by decide +kernel
theorem dX11_index_26 : decode cX11_index 26 = .ok (.aload_n 0, 1) := by decide +kernel
theorem dX11_index_27 : decode cX11_index 27 = .ok (.iload_n 2, 1) := by decide +kernel
theorem dX11_index_28 : decode cX11_index 28 = .ok (.invokevirtual 245, 3) := by decide +kernel
theorem dX11_index_31 : decode cX11_index 31 = .ok (.ifCond .eq 7, 3) := by decide +kernel
theorem dX11_index_34 : decode cX11_index 34 = .ok (.iload_n 2, 1) := by decide +kernel
theorem dX11_index_35 : decode cX11_index 35 = .ok (.goto 4, 3) := by decide +kernel
theorem dX11_index_38 : decode cX11_index 38 = .ok (.iload_n 1, 1) := by decide +kernel
theorem dX11_index_39 : decode cX11_index 39 = .ok (.istore_n 1, 1) := by decide +kernel
theorem dX11_index_40 : decode cX11_index 40 = .ok (.iinc 2 1, 3) := by decide +kernel
theorem dX11_index_43 : decode cX11_index 43 = .ok (.goto (-39), 3) := by decide +kernel
theorem dX11_index_46 : decode cX11_index 46 = .ok (.iload_n 1, 1) := by decide +kernel
theorem dX11_index_47 : decode cX11_index 47 = .ok (.ireturn, 1) := by decide +kernel
set_option maxRecDepth 20000 in
theorem ggX11_areTakenFor_X11_lettersOf : GoodIn wsX11_areTakenFor wsX11_lettersOf := goodIn_r _ [5, 6] (by decide +kernel) (by decide +kernel)
set_option maxRecDepth 20000 in
theorem gX11_areTakenFor_X11_lettersOf : GoodIn wsX11_areTakenFor (va_wsS RX11 53 yX11_lettersOf wsX11_lettersOf) := goodIn_app (goodIn_of _ (by decide +kernel)) ggX11_areTakenFor_X11_lettersOf
set_option maxRecDepth 20000 in
theorem ggX11_areTakenFor_X11_letterOf : GoodIn wsX11_areTakenFor wsX11_letterOf := goodIn_r _ [9, 6, 2, 3, 4, 5] (by decide +kernel) (by decide +kernel)
set_option maxRecDepth 20000 in
theorem gX11_areTakenFor_X11_letterOf : GoodIn wsX11_areTakenFor (va_wsS RX11 229 yX11_letterOf wsX11_letterOf) := goodIn_app (goodIn_of _ (by decide +kernel)) ggX11_areTakenFor_X11_letterOf
theorem dX11_areTakenFor_0 : decode cX11_areTakenFor 0 = .ok (.aload_n 0, 1) := by decide +kernel
theorem dX11_areTakenFor_1 : decode cX11_areTakenFor 1 = .ok (.getfield 13, 3) := by decide +kernel
theorem dX11_areTakenFor_4 : decode cX11_areTakenFor 4 = .ok (.iload_n 1, 1) := by decide +kernel
theorem dX11_areTakenFor_5 : decode cX11_areTakenFor 5 = .ok (.laload, 1) := by decide +kernel
theorem dX11_areTakenFor_6 : decode cX11_areTakenFor 6 = .ok (.invokestatic 53, 3) := by decide +kernel
theorem dX11_areTakenFor_9 : decode cX11_areTakenFor 9 = .ok (.istore 4, 2) := by decide +kernel
theorem dX11_areTakenFor_11 : decode cX11_areTakenFor 11 = .ok (.iload 4, 2) := by decide +kernel
theorem dX11_areTakenFor_13 : decode cX11_areTakenFor 13 = .ok (.aload_n 0, 1) := by decide +kernel
theorem dX11_areTakenFor_14 : decode cX11_areTakenFor 14 = .ok (.getfield 13, 3) := by decide +kernel
theorem dX11_areTakenFor_17 : decode cX11_areTakenFor 17 = .ok (.iload_n 2, 1) := by decide +kernel
theorem dX11_areTakenFor_18 : decode cX11_areTakenFor 18 = .ok (.laload, 1) := by decide +kernel
theorem dX11_areTakenFor_19 : decode cX11_areTakenFor 19 = .ok (.invokestatic 53, 3) := by decide +kernel
theorem dX11_areTakenFor_22 : decode cX11_areTakenFor 22 = .ok (.if_icmp .eq 5, 3) := by decide +kernel
theorem dX11_areTakenFor_25 : decode cX11_areTakenFor 25 = .ok (.iconst 0, 1) := by decide +kernel
theorem dX11_areTakenFor_26 : decode cX11_areTakenFor 26 = .ok (.ireturn, 1) := by decide +kernel
theorem dX11_areTakenFor_27 : decode cX11_areTakenFor 27 = .ok (.iconst 0, 1) := by decide +kernel
theorem dX11_areTakenFor_28 : decode cX11_areTakenFor 28 = .ok (.istore 5, 2) := by decide +kernel
theorem dX11_areTakenFor_30 : decode cX11_areTakenFor 30 = .ok (.iconst 0, 1) := by decide +kernel
theorem dX11_areTakenFor_31 : decode cX11_areTakenFor 31 = .ok (.istore 6, 2) := by decide +kernel
theorem dX11_areTakenFor_33 : decode cX11_areTakenFor 33 = .ok (.iload 6, 2) := by decide +kernel
theorem dX11_areTakenFor_35 : decode cX11_areTakenFor 35 = .ok (.iload 4, 2) := by decide +kernel
theorem dX11_areTakenFor_37 : decode cX11_areTakenFor 37 = .ok (.if_icmp .ge 44, 3) := by decide +kernel
theorem dX11_areTakenFor_40 : decode cX11_areTakenFor 40 = .ok (.iload 5, 2) := by decide +kernel
theorem dX11_areTakenFor_42 : decode cX11_areTakenFor 42 = .ok (.aload_n 0, 1) := by decide +kernel
theorem dX11_areTakenFor_43 : decode cX11_areTakenFor 43 = .ok (.getfield 13, 3) := by decide +kernel
theorem dX11_areTakenFor_46 : decode cX11_areTakenFor 46 = .ok (.iload_n 1, 1) := by decide +kernel
theorem dX11_areTakenFor_47 : decode cX11_areTakenFor 47 = .ok (.laload, 1) := by decide +kernel
theorem dX11_areTakenFor_48 : decode cX11_areTakenFor 48 = .ok (.iload 6, 2) := by decide +kernel
theorem dX11_areTakenFor_50 : decode cX11_areTakenFor 50 = .ok (.invokestatic 229, 3) := by decide +kernel
theorem dX11_areTakenFor_53 : decode cX11_areTakenFor 53 = .ok (.aload_n 0, 1) := by decide +kernel
theorem dX11_areTakenFor_54 : decode cX11_areTakenFor 54 = .ok (.getfield 13, 3) := by decide +kernel
theorem dX11_areTakenFor_57 : decode cX11_areTakenFor 57 = .ok (.iload_n 2, 1) := by decide +kernel
theorem dX11_areTakenFor_58 : decode cX11_areTakenFor 58 = .ok (.laload, 1) := by decide +kernel
theorem dX11_areTakenFor_59 : decode cX11_areTakenFor 59 = .ok (.iload 6, 2) := by decide +kernel
theorem dX11_areTakenFor_61 : decode cX11_areTakenFor 61 = .ok (.invokestatic 229, 3) := by decide +kernel
theorem dX11_areTakenFor_64 : decode cX11_areTakenFor 64 = .ok (.if_icmp .ne 7, 3) := by decide +kernel
theorem dX11_areTakenFor_67 : decode cX11_areTakenFor 67 = .ok (.iconst 0, 1) := by decide +kernel
theorem dX11_areTakenFor_68 : decode cX11_areTakenFor 68 = .ok (.goto 4, 3) := by decide +kernel
theorem dX11_areTakenFor_71 : decode cX11_areTakenFor 71 = .ok (.iconst 1, 1) := by decide +kernel
theorem dX11_areTakenFor_72 : decode cX11_areTakenFor 72 = .ok (.iadd, 1) := by decide +kernel
theorem dX11_areTakenFor_73 : decode cX11_areTakenFor 73 = .ok (.istore 5, 2) := by decide +kernel
theorem dX11_areTakenFor_75 : decode cX11_areTakenFor 75 = .ok (.iinc 6 1, 3) := by decide +kernel
theorem dX11_areTakenFor_78 : decode cX11_areTakenFor 78 = .ok (.goto (-45), 3) := by decide +kernel
theorem dX11_areTakenFor_81 : decode cX11_areTakenFor 81 = .ok (.iload 5, 2) := by decide +kernel
theorem dX11_areTakenFor_83 : decode cX11_areTakenFor 83 = .ok (.iload_n 3, 1) := by decide +kernel
theorem dX11_areTakenFor_84 : decode cX11_areTakenFor 84 = .ok (.if_icmp .gt 7, 3) := by decide +kernel
theorem dX11_areTakenFor_87 : decode cX11_areTakenFor 87 = .ok (.iconst 1, 1) := by decide +kernel
theorem dX11_areTakenFor_88 : decode cX11_areTakenFor 88 = .ok (.goto 4, 3) := by decide +kernel
theorem dX11_areTakenFor_91 : decode cX11_areTakenFor 91 = .ok (.iconst 0, 1) := by decide +kernel
theorem dX11_areTakenFor_92 : decode cX11_areTakenFor 92 = .ok (.ireturn, 1) := by decide +kernel
set_option maxRecDepth 20000 in
theorem ggX11_takenFor_X11_in : GoodIn wsX11_takenFor wsX11_in := goodIn_r _ [6] (by decide +kernel) (by decide +kernel)
set_option maxRecDepth 20000 in
theorem gX11_takenFor_X11_in : GoodIn wsX11_takenFor (va_wsS RX11 47 yX11_in wsX11_in) := goodIn_app (goodIn_of _ (by decide +kernel)) ggX11_takenFor_X11_in
set_option maxRecDepth 20000 in
theorem ggX11_takenFor_X11_toldElse : GoodIn wsX11_takenFor wsX11_toldElse := goodIn_r _ [10, 11, 24, 25, 26, 27, 28, 29, 30, 31, 32, 33, 34, 35, 36, 37, 38, 39, 40, 41, 42, 43] (by decide +kernel) (by decide +kernel)
set_option maxRecDepth 20000 in
theorem gX11_takenFor_X11_toldElse : GoodIn wsX11_takenFor (wsV RX11 226 RX11 yX11_toldElse wsX11_toldElse) := goodIn_app (goodIn_of _ (by decide +kernel)) ggX11_takenFor_X11_toldElse
set_option maxRecDepth 20000 in
theorem ggX11_takenFor_X11_areTakenFor : GoodIn wsX11_takenFor wsX11_areTakenFor := goodIn_r _ [15, 16, 17, 18, 5, 19, 20, 21, 22, 23, 24, 25, 26, 27, 28, 29, 30, 31, 32, 33, 34, 35, 36, 37, 38, 39, 40, 41, 42, 43] (by decide +kernel) (by decide +kernel)
set_option maxRecDepth 20000 in
theorem gX11_takenFor_X11_areTakenFor : GoodIn wsX11_takenFor (wsV RX11 248 RX11 yX11_areTakenFor wsX11_areTakenFor) := goodIn_app (goodIn_of _ (by decide +kernel)) ggX11_takenFor_X11_areTakenFor
theorem dX11_takenFor_0 : decode cX11_takenFor 0 = .ok (.iload_n 1, 1) := by decide +kernel
theorem dX11_takenFor_1 : decode cX11_takenFor 1 = .ok (.i2l, 1) := by decide +kernel
theorem dX11_takenFor_2 : decode cX11_takenFor 2 = .ok (.lconst 0, 1) := by decide +kernel
theorem dX11_takenFor_3 : decode cX11_takenFor 3 = .ok (.ldc2_w 75, 3) := by decide +kernel
theorem dX11_takenFor_6 : decode cX11_takenFor 6 = .ok (.invokestatic 47, 3) := by decide +kernel
theorem dX11_takenFor_9 : decode cX11_takenFor 9 = .ok (.ifCond .eq 8, 3) := by decide +kernel
theorem dX11_takenFor_12 : decode cX11_takenFor 12 = .ok (.iload_n 2, 1) := by decide +kernel
theorem dX11_takenFor_13 : decode cX11_takenFor 13 = .ok (.iconst (-1), 1) := by decide +kernel
theorem dX11_takenFor_14 : decode cX11_takenFor 14 = .ok (.if_icmp .ge 8, 3) := by decide +kernel
theorem dX11_takenFor_17 : decode cX11_takenFor 17 = .ok (.aload_n 0, 1) := by decide +kernel
theorem dX11_takenFor_18 : decode cX11_takenFor 18 = .ok (.invokevirtual 226, 3) := by decide +kernel
theorem dX11_takenFor_21 : decode cX11_takenFor 21 = .ok (.ireturn, 1) := by decide +kernel
theorem dX11_takenFor_22 : decode cX11_takenFor 22 = .ok (.iconst 0, 1) := by decide +kernel
theorem dX11_takenFor_23 : decode cX11_takenFor 23 = .ok (.istore_n 3, 1) := by decide +kernel
theorem dX11_takenFor_24 : decode cX11_takenFor 24 = .ok (.iconst 0, 1) := by decide +kernel
theorem dX11_takenFor_25 : decode cX11_takenFor 25 = .ok (.istore 4, 2) := by decide +kernel
theorem dX11_takenFor_27 : decode cX11_takenFor 27 = .ok (.iload 4, 2) := by decide +kernel
theorem dX11_takenFor_29 : decode cX11_takenFor 29 = .ok (.aload_n 0, 1) := by decide +kernel
theorem dX11_takenFor_30 : decode cX11_takenFor 30 = .ok (.getfield 7, 3) := by decide +kernel
theorem dX11_takenFor_33 : decode cX11_takenFor 33 = .ok (.iconst 0, 1) := by decide +kernel
theorem dX11_takenFor_34 : decode cX11_takenFor 34 = .ok (.iaload, 1) := by decide +kernel
theorem dX11_takenFor_35 : decode cX11_takenFor 35 = .ok (.if_icmp .ge 61, 3) := by decide +kernel
theorem dX11_takenFor_38 : decode cX11_takenFor 38 = .ok (.iload 4, 2) := by decide +kernel
theorem dX11_takenFor_40 : decode cX11_takenFor 40 = .ok (.iconst 1, 1) := by decide +kernel
theorem dX11_takenFor_41 : decode cX11_takenFor 41 = .ok (.iadd, 1) := by decide +kernel
theorem dX11_takenFor_42 : decode cX11_takenFor 42 = .ok (.istore 5, 2) := by decide +kernel
theorem dX11_takenFor_44 : decode cX11_takenFor 44 = .ok (.iload 5, 2) := by decide +kernel
theorem dX11_takenFor_46 : decode cX11_takenFor 46 = .ok (.aload_n 0, 1) := by decide +kernel
theorem dX11_takenFor_47 : decode cX11_takenFor 47 = .ok (.getfield 7, 3) := by decide +kernel
theorem dX11_takenFor_50 : decode cX11_takenFor 50 = .ok (.iconst 0, 1) := by decide +kernel
theorem dX11_takenFor_51 : decode cX11_takenFor 51 = .ok (.iaload, 1) := by decide +kernel
theorem dX11_takenFor_52 : decode cX11_takenFor 52 = .ok (.if_icmp .ge 38, 3) := by decide +kernel
theorem dX11_takenFor_55 : decode cX11_takenFor 55 = .ok (.aload_n 0, 1) := by decide +kernel
theorem dX11_takenFor_56 : decode cX11_takenFor 56 = .ok (.iload 4, 2) := by decide +kernel
theorem dX11_takenFor_58 : decode cX11_takenFor 58 = .ok (.iload 5, 2) := by decide +kernel
theorem dX11_takenFor_60 : decode cX11_takenFor 60 = .ok (.iload_n 1, 1) := by decide +kernel
theorem dX11_takenFor_61 : decode cX11_takenFor 61 = .ok (.invokevirtual 248, 3) := by decide +kernel
theorem dX11_takenFor_64 : decode cX11_takenFor 64 = .ok (.ifCond .eq 20, 3) := by decide +kernel
theorem dX11_takenFor_67 : decode cX11_takenFor 67 = .ok (.iload_n 3, 1) := by decide +kernel
theorem dX11_takenFor_68 : decode cX11_takenFor 68 = .ok (.iload_n 2, 1) := by decide +kernel
theorem dX11_takenFor_69 : decode cX11_takenFor 69 = .ok (.if_icmp .ne 12, 3) := by decide +kernel
theorem dX11_takenFor_72 : decode cX11_takenFor 72 = .ok (.bipush 100, 2) := by decide +kernel
theorem dX11_takenFor_74 : decode cX11_takenFor 74 = .ok (.iload 4, 2) := by decide +kernel
theorem dX11_takenFor_76 : decode cX11_takenFor 76 = .ok (.imul, 1) := by decide +kernel
theorem dX11_takenFor_77 : decode cX11_takenFor 77 = .ok (.iload 5, 2) := by decide +kernel
theorem dX11_takenFor_79 : decode cX11_takenFor 79 = .ok (.iadd, 1) := by decide +kernel
theorem dX11_takenFor_80 : decode cX11_takenFor 80 = .ok (.ireturn, 1) := by decide +kernel
theorem dX11_takenFor_81 : decode cX11_takenFor 81 = .ok (.iinc 3 1, 3) := by decide +kernel
theorem dX11_takenFor_84 : decode cX11_takenFor 84 = .ok (.iinc 5 1, 3) := by decide +kernel
theorem dX11_takenFor_87 : decode cX11_takenFor 87 = .ok (.goto (-43), 3) := by decide +kernel
theorem dX11_takenFor_90 : decode cX11_takenFor 90 = .ok (.iinc 4 1, 3) := by decide +kernel
theorem dX11_takenFor_93 : decode cX11_takenFor 93 = .ok (.goto (-66), 3) := by decide +kernel
theorem dX11_takenFor_96 : decode cX11_takenFor 96 = .ok (.iload_n 2, 1) := by decide +kernel
theorem dX11_takenFor_97 : decode cX11_takenFor 97 = .ok (.iconst (-1), 1) := by decide +kernel
theorem dX11_takenFor_98 : decode cX11_takenFor 98 = .ok (.if_icmp .ne 7, 3) := by decide +kernel
theorem dX11_takenFor_101 : decode cX11_takenFor 101 = .ok (.iload_n 3, 1) := by decide +kernel
theorem dX11_takenFor_102 : decode cX11_takenFor 102 = .ok (.goto 5, 3) := by decide +kernel
theorem dX11_takenFor_105 : decode cX11_takenFor 105 = .ok (.bipush (-5), 2) := by decide +kernel
theorem dX11_takenFor_107 : decode cX11_takenFor 107 = .ok (.ireturn, 1) := by decide +kernel
set_option maxRecDepth 20000 in
theorem ggX11_keeps_X11_heldNow : GoodIn wsX11_keeps wsX11_heldNow := goodIn_r _ [6, 1, 7, 8, 9, 5, 10, 14, 15, 16, 17, 18, 19, 20, 21, 22, 23, 24, 25, 26, 27, 28, 29, 30, 31, 32, 33] (by decide +kernel) (by decide +kernel)
set_option maxRecDepth 20000 in
theorem gX11_keeps_X11_heldNow : GoodIn wsX11_keeps (wsV RX11 116 RX11 yX11_heldNow wsX11_heldNow) := goodIn_app (goodIn_of _ (by decide +kernel)) ggX11_keeps_X11_heldNow
set_option maxRecDepth 20000 in
theorem ggX11_keeps_X11_lesser : GoodIn wsX11_keeps wsX11_lesser := goodIn_r _ [13] (by decide +kernel) (by decide +kernel)
set_option maxRecDepth 20000 in
theorem gX11_keeps_X11_lesser : GoodIn wsX11_keeps (va_wsS RX11 119 yX11_lesser wsX11_lesser) := goodIn_app (goodIn_of _ (by decide +kernel)) ggX11_keeps_X11_lesser
theorem dX11_keeps_0 : decode cX11_keeps 0 = .ok (.iload_n 2, 1) := by decide +kernel
theorem dX11_keeps_1 : decode cX11_keeps 1 = .ok (.ifCond .ne 7, 3) := by decide +kernel
theorem dX11_keeps_4 : decode cX11_keeps 4 = .ok (.iconst 0, 1) := by decide +kernel
theorem dX11_keeps_5 : decode cX11_keeps 5 = .ok (.goto 14, 3) := by decide +kernel
theorem dX11_keeps_8 : decode cX11_keeps 8 = .ok (.aload_n 0, 1) := by decide +kernel
theorem dX11_keeps_9 : decode cX11_keeps 9 = .ok (.getfield 7, 3) := by decide +kernel
theorem dX11_keeps_12 : decode cX11_keeps 12 = .ok (.bipush 105, 2) := by decide +kernel
theorem dX11_keeps_14 : decode cX11_keeps 14 = .ok (.iload_n 2, 1) := by decide +kernel
theorem dX11_keeps_15 : decode cX11_keeps 15 = .ok (.iadd, 1) := by decide +kernel
theorem dX11_keeps_16 : decode cX11_keeps 16 = .ok (.iconst 1, 1) := by decide +kernel
theorem dX11_keeps_17 : decode cX11_keeps 17 = .ok (.isub, 1) := by decide +kernel
theorem dX11_keeps_18 : decode cX11_keeps 18 = .ok (.iaload, 1) := by decide +kernel
theorem dX11_keeps_19 : decode cX11_keeps 19 = .ok (.istore_n 3, 1) := by decide +kernel
theorem dX11_keeps_20 : decode cX11_keeps 20 = .ok (.iload_n 2, 1) := by decide +kernel
theorem dX11_keeps_21 : decode cX11_keeps 21 = .ok (.ifCond .le 28, 3) := by decide +kernel
theorem dX11_keeps_24 : decode cX11_keeps 24 = .ok (.aload_n 0, 1) := by decide +kernel
theorem dX11_keeps_25 : decode cX11_keeps 25 = .ok (.getfield 7, 3) := by decide +kernel
theorem dX11_keeps_28 : decode cX11_keeps 28 = .ok (.bipush 25, 2) := by decide +kernel
theorem dX11_keeps_30 : decode cX11_keeps 30 = .ok (.iload_n 1, 1) := by decide +kernel
theorem dX11_keeps_31 : decode cX11_keeps 31 = .ok (.iadd, 1) := by decide +kernel
theorem dX11_keeps_32 : decode cX11_keeps 32 = .ok (.iaload, 1) := by decide +kernel
theorem dX11_keeps_33 : decode cX11_keeps 33 = .ok (.aload_n 0, 1) := by decide +kernel
theorem dX11_keeps_34 : decode cX11_keeps 34 = .ok (.getfield 7, 3) := by decide +kernel
theorem dX11_keeps_37 : decode cX11_keeps 37 = .ok (.bipush 13, 2) := by decide +kernel
theorem dX11_keeps_39 : decode cX11_keeps 39 = .ok (.iload_n 1, 1) := by decide +kernel
theorem dX11_keeps_40 : decode cX11_keeps 40 = .ok (.iadd, 1) := by decide +kernel
theorem dX11_keeps_41 : decode cX11_keeps 41 = .ok (.iaload, 1) := by decide +kernel
theorem dX11_keeps_42 : decode cX11_keeps 42 = .ok (.if_icmp .ne 7, 3) := by decide +kernel
theorem dX11_keeps_45 : decode cX11_keeps 45 = .ok (.iconst 2, 1) := by decide +kernel
theorem dX11_keeps_46 : decode cX11_keeps 46 = .ok (.goto 4, 3) := by decide +kernel
theorem dX11_keeps_49 : decode cX11_keeps 49 = .ok (.iconst 0, 1) := by decide +kernel
theorem dX11_keeps_50 : decode cX11_keeps 50 = .ok (.istore 4, 2) := by decide +kernel
theorem dX11_keeps_52 : decode cX11_keeps 52 = .ok (.bipush 20, 2) := by decide +kernel
theorem dX11_keeps_54 : decode cX11_keeps 54 = .ok (.aload_n 0, 1) := by decide +kernel
theorem dX11_keeps_55 : decode cX11_keeps 55 = .ok (.iload_n 1, 1) := by decide +kernel
theorem dX11_keeps_56 : decode cX11_keeps 56 = .ok (.invokevirtual 116, 3) := by decide +kernel
theorem dX11_keeps_59 : decode cX11_keeps 59 = .ok (.iload_n 3, 1) := by decide +kernel
theorem dX11_keeps_60 : decode cX11_keeps 60 = .ok (.iadd, 1) := by decide +kernel
theorem dX11_keeps_61 : decode cX11_keeps 61 = .ok (.iload 4, 2) := by decide +kernel
theorem dX11_keeps_63 : decode cX11_keeps 63 = .ok (.iadd, 1) := by decide +kernel
theorem dX11_keeps_64 : decode cX11_keeps 64 = .ok (.invokestatic 119, 3) := by decide +kernel
theorem dX11_keeps_67 : decode cX11_keeps 67 = .ok (.ireturn, 1) := by decide +kernel
set_option maxRecDepth 20000 in
theorem ggX11_findNight_X11_holds : GoodIn wsX11_findNight wsX11_holds := goodIn_r _ [6] (by decide +kernel) (by decide +kernel)
set_option maxRecDepth 20000 in
theorem gX11_findNight_X11_holds : GoodIn wsX11_findNight (va_wsS RX11 189 yX11_holds wsX11_holds) := goodIn_app (goodIn_of _ (by decide +kernel)) ggX11_findNight_X11_holds
set_option maxRecDepth 20000 in
theorem ggX11_findNight_X11_lettersOf : GoodIn wsX11_findNight wsX11_lettersOf := goodIn_r _ [9, 10] (by decide +kernel) (by decide +kernel)
set_option maxRecDepth 20000 in
theorem gX11_findNight_X11_lettersOf : GoodIn wsX11_findNight (va_wsS RX11 53 yX11_lettersOf wsX11_lettersOf) := goodIn_app (goodIn_of _ (by decide +kernel)) ggX11_findNight_X11_lettersOf
set_option maxRecDepth 20000 in
theorem ggX11_findNight_X11_keeps : GoodIn wsX11_findNight wsX11_keeps := goodIn_r _ [14, 15, 16, 17, 18, 5, 19, 20, 21, 22, 23, 24, 25, 26, 27, 28, 29, 30, 31, 32, 33, 34, 35, 36, 37, 38, 39, 40, 41, 42, 43, 44, 45, 46] (by decide +kernel) (by decide +kernel)
set_option maxRecDepth 20000 in
theorem gX11_findNight_X11_keeps : GoodIn wsX11_findNight (wsV RX11 252 RX11 yX11_keeps wsX11_keeps) := goodIn_app (goodIn_of _ (by decide +kernel)) ggX11_findNight_X11_keeps
theorem dX11_findNight_0 : decode cX11_findNight 0 = .ok (.iconst 0, 1) := by decide +kernel
theorem dX11_findNight_1 : decode cX11_findNight 1 = .ok (.istore_n 2, 1) := by decide +kernel
theorem dX11_findNight_2 : decode cX11_findNight 2 = .ok (.iload_n 2, 1) := by decide +kernel
theorem dX11_findNight_3 : decode cX11_findNight 3 = .ok (.bipush 100, 2) := by decide +kernel
theorem dX11_findNight_5 : decode cX11_findNight 5 = .ok (.if_icmp .ge 20, 3) := by decide +kernel
theorem dX11_findNight_8 : decode cX11_findNight 8 = .ok (.aload_n 0, 1) := by decide +kernel
theorem dX11_findNight_9 : decode cX11_findNight 9 = .ok (.getfield 40, 3) := by decide +kernel
theorem dX11_findNight_12 : decode cX11_findNight 12 = .ok (.sipush 1200, 3) := by decide +kernel
theorem dX11_findNight_15 : decode cX11_findNight 15 = .ok (.iload_n 2, 1) := by decide +kernel
theorem dX11_findNight_16 : decode cX11_findNight 16 = .ok (.iadd, 1) := by decide +kernel
theorem dX11_findNight_17 : decode cX11_findNight 17 = .ok (.iconst 0, 1) := by decide +kernel
theorem dX11_findNight_18 : decode cX11_findNight 18 = .ok (.iastore, 1) := by decide +kernel
theorem dX11_findNight_19 : decode cX11_findNight 19 = .ok (.iinc 2 1, 3) := by decide +kernel
theorem dX11_findNight_22 : decode cX11_findNight 22 = .ok (.goto (-20), 3) := by decide +kernel
theorem dX11_findNight_25 : decode cX11_findNight 25 = .ok (.bipush 11, 2) := by decide +kernel
theorem dX11_findNight_27 : decode cX11_findNight 27 = .ok (.istore_n 2, 1) := by decide +kernel
theorem dX11_findNight_28 : decode cX11_findNight 28 = .ok (.iload_n 2, 1) := by decide +kernel
theorem dX11_findNight_29 : decode cX11_findNight 29 = .ok (.ifCond .lt 152, 3) := by decide +kernel
theorem dX11_findNight_32 : decode cX11_findNight 32 = .ok (.iconst 0, 1) := by decide +kernel
theorem dX11_findNight_33 : decode cX11_findNight 33 = .ok (.istore_n 3, 1) := by decide +kernel
theorem dX11_findNight_34 : decode cX11_findNight 34 = .ok (.iload_n 3, 1) := by decide +kernel
theorem dX11_findNight_35 : decode cX11_findNight 35 = .ok (.bipush 100, 2) := by decide +kernel
theorem dX11_findNight_37 : decode cX11_findNight 37 = .ok (.if_icmp .ge 138, 3) := by decide +kernel
theorem dX11_findNight_40 : decode cX11_findNight 40 = .ok (.iload_n 1, 1) := by decide +kernel
theorem dX11_findNight_41 : decode cX11_findNight 41 = .ok (.iload_n 2, 1) := by decide +kernel
theorem dX11_findNight_42 : decode cX11_findNight 42 = .ok (.invokestatic 189, 3) := by decide +kernel
theorem dX11_findNight_45 : decode cX11_findNight 45 = .ok (.ifCond .eq 7, 3) := by decide +kernel
theorem dX11_findNight_48 : decode cX11_findNight 48 = .ok (.iconst 0, 1) := by decide +kernel
theorem dX11_findNight_49 : decode cX11_findNight 49 = .ok (.goto 16, 3) := by decide +kernel
theorem dX11_findNight_52 : decode cX11_findNight 52 = .ok (.aload_n 0, 1) := by decide +kernel
theorem dX11_findNight_53 : decode cX11_findNight 53 = .ok (.getfield 40, 3) := by decide +kernel
theorem dX11_findNight_56 : decode cX11_findNight 56 = .ok (.bipush 100, 2) := by decide +kernel
theorem dX11_findNight_58 : decode cX11_findNight 58 = .ok (.iload_n 2, 1) := by decide +kernel
theorem dX11_findNight_59 : decode cX11_findNight 59 = .ok (.iconst 1, 1) := by decide +kernel
theorem dX11_findNight_60 : decode cX11_findNight 60 = .ok (.iadd, 1) := by decide +kernel
theorem dX11_findNight_61 : decode cX11_findNight 61 = .ok (.imul, 1) := by decide +kernel
theorem dX11_findNight_62 : decode cX11_findNight 62 = .ok (.iload_n 3, 1) := by decide +kernel
theorem dX11_findNight_63 : decode cX11_findNight 63 = .ok (.iadd, 1) := by decide +kernel
theorem dX11_findNight_64 : decode cX11_findNight 64 = .ok (.iaload, 1) := by decide +kernel
theorem dX11_findNight_65 : decode cX11_findNight 65 = .ok (.istore 4, 2) := by decide +kernel
theorem dX11_findNight_67 : decode cX11_findNight 67 = .ok (.iconst 0, 1) := by decide +kernel
theorem dX11_findNight_68 : decode cX11_findNight 68 = .ok (.istore 5, 2) := by decide +kernel
theorem dX11_findNight_70 : decode cX11_findNight 70 = .ok (.iload_n 1, 1) := by decide +kernel
theorem dX11_findNight_71 : decode cX11_findNight 71 = .ok (.iload_n 2, 1) := by decide +kernel
theorem dX11_findNight_72 : decode cX11_findNight 72 = .ok (.invokestatic 189, 3) := by decide +kernel
theorem dX11_findNight_75 : decode cX11_findNight 75 = .ok (.ifCond .eq 81, 3) := by decide +kernel
theorem dX11_findNight_78 : decode cX11_findNight 78 = .ok (.iload 5, 2) := by decide +kernel
theorem dX11_findNight_80 : decode cX11_findNight 80 = .ok (.bipush 6, 2) := by decide +kernel
theorem dX11_findNight_82 : decode cX11_findNight 82 = .ok (.if_icmp .ge 74, 3) := by decide +kernel
theorem dX11_findNight_85 : decode cX11_findNight 85 = .ok (.iload_n 3, 1) := by decide +kernel
theorem dX11_findNight_86 : decode cX11_findNight 86 = .ok (.iload 5, 2) := by decide +kernel
theorem dX11_findNight_88 : decode cX11_findNight 88 = .ok (.aload_n 0, 1) := by decide +kernel
theorem dX11_findNight_89 : decode cX11_findNight 89 = .ok (.getfield 13, 3) := by decide +kernel
theorem dX11_findNight_92 : decode cX11_findNight 92 = .ok (.iload_n 2, 1) := by decide +kernel
theorem dX11_findNight_93 : decode cX11_findNight 93 = .ok (.laload, 1) := by decide +kernel
theorem dX11_findNight_94 : decode cX11_findNight 94 = .ok (.invokestatic 53, 3) := by decide +kernel
theorem dX11_findNight_97 : decode cX11_findNight 97 = .ok (.imul, 1) := by decide +kernel
theorem dX11_findNight_98 : decode cX11_findNight 98 = .ok (.isub, 1) := by decide +kernel
theorem dX11_findNight_99 : decode cX11_findNight 99 = .ok (.istore 6, 2) := by decide +kernel
theorem dX11_findNight_101 : decode cX11_findNight 101 = .ok (.iload 6, 2) := by decide +kernel
theorem dX11_findNight_103 : decode cX11_findNight 103 = .ok (.ifCond .ge 7, 3) := by decide +kernel
theorem dX11_findNight_106 : decode cX11_findNight 106 = .ok (.iconst 0, 1) := by decide +kernel
theorem dX11_findNight_107 : decode cX11_findNight 107 = .ok (.goto 25, 3) := by decide +kernel
theorem dX11_findNight_110 : decode cX11_findNight 110 = .ok (.aload_n 0, 1) := by decide +kernel
theorem dX11_findNight_111 : decode cX11_findNight 111 = .ok (.getfield 40, 3) := by decide +kernel
theorem dX11_findNight_114 : decode cX11_findNight 114 = .ok (.bipush 100, 2) := by decide +kernel
theorem dX11_findNight_116 : decode cX11_findNight 116 = .ok (.iload_n 2, 1) := by decide +kernel
theorem dX11_findNight_117 : decode cX11_findNight 117 = .ok (.iconst 1, 1) := by decide +kernel
theorem dX11_findNight_118 : decode cX11_findNight 118 = .ok (.iadd, 1) := by decide +kernel
theorem dX11_findNight_119 : decode cX11_findNight 119 = .ok (.imul, 1) := by decide +kernel
theorem dX11_findNight_120 : decode cX11_findNight 120 = .ok (.iload 6, 2) := by decide +kernel
theorem dX11_findNight_122 : decode cX11_findNight 122 = .ok (.iadd, 1) := by decide +kernel
theorem dX11_findNight_123 : decode cX11_findNight 123 = .ok (.iaload, 1) := by decide +kernel
theorem dX11_findNight_124 : decode cX11_findNight 124 = .ok (.aload_n 0, 1) := by decide +kernel
theorem dX11_findNight_125 : decode cX11_findNight 125 = .ok (.iload_n 2, 1) := by decide +kernel
theorem dX11_findNight_126 : decode cX11_findNight 126 = .ok (.iload 5, 2) := by decide +kernel
theorem dX11_findNight_128 : decode cX11_findNight 128 = .ok (.invokevirtual 252, 3) := by decide +kernel
theorem dX11_findNight_131 : decode cX11_findNight 131 = .ok (.iadd, 1) := by decide +kernel
theorem dX11_findNight_132 : decode cX11_findNight 132 = .ok (.istore 7, 2) := by decide +kernel
theorem dX11_findNight_134 : decode cX11_findNight 134 = .ok (.iload 7, 2) := by decide +kernel
theorem dX11_findNight_136 : decode cX11_findNight 136 = .ok (.iload 4, 2) := by decide +kernel
theorem dX11_findNight_138 : decode cX11_findNight 138 = .ok (.if_icmp .le 8, 3) := by decide +kernel
theorem dX11_findNight_141 : decode cX11_findNight 141 = .ok (.iload 7, 2) := by decide +kernel
theorem dX11_findNight_143 : decode cX11_findNight 143 = .ok (.goto 5, 3) := by decide +kernel
theorem dX11_findNight_146 : decode cX11_findNight 146 = .ok (.iload 4, 2) := by decide +kernel
theorem dX11_findNight_148 : decode cX11_findNight 148 = .ok (.istore 4, 2) := by decide +kernel
theorem dX11_findNight_150 : decode cX11_findNight 150 = .ok (.iinc 5 1, 3) := by decide +kernel
theorem dX11_findNight_153 : decode cX11_findNight 153 = .ok (.goto (-83), 3) := by decide +kernel
theorem dX11_findNight_156 : decode cX11_findNight 156 = .ok (.aload_n 0, 1) := by decide +kernel
theorem dX11_findNight_157 : decode cX11_findNight 157 = .ok (.getfield 40, 3) := by decide +kernel
theorem dX11_findNight_160 : decode cX11_findNight 160 = .ok (.bipush 100, 2) := by decide +kernel
theorem dX11_findNight_162 : decode cX11_findNight 162 = .ok (.iload_n 2, 1) := by decide +kernel
theorem dX11_findNight_163 : decode cX11_findNight 163 = .ok (.imul, 1) := by decide +kernel
theorem dX11_findNight_164 : decode cX11_findNight 164 = .ok (.iload_n 3, 1) := by decide +kernel
theorem dX11_findNight_165 : decode cX11_findNight 165 = .ok (.iadd, 1) := by decide +kernel
theorem dX11_findNight_166 : decode cX11_findNight 166 = .ok (.iload 4, 2) := by decide +kernel
theorem dX11_findNight_168 : decode cX11_findNight 168 = .ok (.iastore, 1) := by decide +kernel
theorem dX11_findNight_169 : decode cX11_findNight 169 = .ok (.iinc 3 1, 3) := by decide +kernel
theorem dX11_findNight_172 : decode cX11_findNight 172 = .ok (.goto (-138), 3) := by decide +kernel
theorem dX11_findNight_175 : decode cX11_findNight 175 = .ok (.iinc 2 (-1), 3) := by decide +kernel
theorem dX11_findNight_178 : decode cX11_findNight 178 = .ok (.goto (-150), 3) := by decide +kernel
theorem dX11_findNight_181 : decode cX11_findNight 181 = .ok (.return_, 1) := by decide +kernel
set_option maxRecDepth 20000 in
theorem ggX11_learn_X11_in : GoodIn wsX11_learn wsX11_in := goodIn_r _ [8] (by decide +kernel) (by decide +kernel)
set_option maxRecDepth 20000 in
theorem gX11_learn_X11_in : GoodIn wsX11_learn (va_wsS RX11 47 yX11_in wsX11_in) := goodIn_app (goodIn_of _ (by decide +kernel)) ggX11_learn_X11_in
set_option maxRecDepth 20000 in
theorem ggX11_learn_X11_isOne : GoodIn wsX11_learn wsX11_isOne := goodIn_r _ [12, 1, 5, 6, 7, 8, 44, 45, 46, 47, 48, 49, 50, 51, 52, 53, 54, 55, 56, 57, 58, 59, 60, 61, 62, 63] (by decide +kernel) (by decide +kernel)
set_option maxRecDepth 20000 in
theorem gX11_learn_X11_isOne : GoodIn wsX11_learn (wsV RX11 99 RX11 yX11_isOne wsX11_isOne) := goodIn_app (goodIn_of _ (by decide +kernel)) ggX11_learn_X11_isOne
set_option maxRecDepth 20000 in
theorem ggX11_learn_X11_holds : GoodIn wsX11_learn wsX11_holds := goodIn_r _ [15] (by decide +kernel) (by decide +kernel)
set_option maxRecDepth 20000 in
theorem gX11_learn_X11_holds : GoodIn wsX11_learn (va_wsS RX11 189 yX11_holds wsX11_holds) := goodIn_app (goodIn_of _ (by decide +kernel)) ggX11_learn_X11_holds
set_option maxRecDepth 20000 in
theorem ggX11_learn_X11_toldElse : GoodIn wsX11_learn wsX11_toldElse := goodIn_r _ [19, 20, 44, 45, 46, 47, 48, 49, 50, 51, 52, 53, 54, 55, 56, 57, 58, 59, 60, 61, 62, 63] (by decide +kernel) (by decide +kernel)
set_option maxRecDepth 20000 in
theorem gX11_learn_X11_toldElse : GoodIn wsX11_learn (wsV RX11 226 RX11 yX11_toldElse wsX11_toldElse) := goodIn_app (goodIn_of _ (by decide +kernel)) ggX11_learn_X11_toldElse
set_option maxRecDepth 20000 in
theorem ggX11_learn_X11_findNight : GoodIn wsX11_learn wsX11_findNight := goodIn_r _ [24, 3, 4, 13, 14, 7, 15, 25, 26, 27, 28, 29, 30, 31, 32, 1, 33, 34, 35, 36, 37, 38, 39, 40, 41, 42, 43, 44, 45, 46, 47, 48, 49, 50, 51, 52, 53, 54, 55, 56, 57, 58, 59, 60, 61, 62, 63] (by decide +kernel) (by decide +kernel)
set_option maxRecDepth 20000 in
theorem gX11_learn_X11_findNight : GoodIn wsX11_learn (wsV RX11 255 RX11 yX11_findNight wsX11_findNight) := goodIn_app (goodIn_of _ (by decide +kernel)) ggX11_learn_X11_findNight
set_option maxRecDepth 20000 in
theorem ggX11_learn_X11_lettersOf : GoodIn wsX11_learn wsX11_lettersOf := goodIn_r _ [27, 28] (by decide +kernel) (by decide +kernel)
set_option maxRecDepth 20000 in
theorem gX11_learn_X11_lettersOf : GoodIn wsX11_learn (va_wsS RX11 53 yX11_lettersOf wsX11_lettersOf) := goodIn_app (goodIn_of _ (by decide +kernel)) ggX11_learn_X11_lettersOf
set_option maxRecDepth 20000 in
theorem ggX11_learn_X11_keeps : GoodIn wsX11_learn wsX11_keeps := goodIn_r _ [32, 1, 33, 34, 35, 7, 36, 37, 38, 39, 40, 41, 42, 43, 44, 45, 46, 47, 48, 49, 50, 51, 52, 53, 54, 55, 56, 57, 58, 59, 60, 61, 62, 63] (by decide +kernel) (by decide +kernel)
set_option maxRecDepth 20000 in
theorem gX11_learn_X11_keeps : GoodIn wsX11_learn (wsV RX11 252 RX11 yX11_keeps wsX11_keeps) := goodIn_app (goodIn_of _ (by decide +kernel)) ggX11_learn_X11_keeps
theorem dX11_learn_0 : decode cX11_learn 0 = .ok (.iload_n 1, 1) := by decide +kernel
theorem dX11_learn_1 : decode cX11_learn 1 = .ok (.i2l, 1) := by decide +kernel
theorem dX11_learn_2 : decode cX11_learn 2 = .ok (.lconst 0, 1) := by decide +kernel
theorem dX11_learn_3 : decode cX11_learn 3 = .ok (.iconst 1, 1) := by decide +kernel
theorem dX11_learn_4 : decode cX11_learn 4 = .ok (.aload_n 0, 1) := by decide +kernel
theorem dX11_learn_5 : decode cX11_learn 5 = .ok (.getfield 7, 3) := by decide +kernel
theorem dX11_learn_8 : decode cX11_learn 8 = .ok (.iconst 0, 1) := by decide +kernel
theorem dX11_learn_9 : decode cX11_learn 9 = .ok (.iaload, 1) := by decide +kernel
theorem dX11_learn_10 : decode cX11_learn 10 = .ok (.ishl, 1) := by decide +kernel
theorem dX11_learn_11 : decode cX11_learn 11 = .ok (.iconst 1, 1) := by decide +kernel
theorem dX11_learn_12 : decode cX11_learn 12 = .ok (.isub, 1) := by decide +kernel
theorem dX11_learn_13 : decode cX11_learn 13 = .ok (.i2l, 1) := by decide +kernel
theorem dX11_learn_14 : decode cX11_learn 14 = .ok (.invokestatic 47, 3) := by decide +kernel
theorem dX11_learn_17 : decode cX11_learn 17 = .ok (.ifCond .eq 36, 3) := by decide +kernel
theorem dX11_learn_20 : decode cX11_learn 20 = .ok (.iload_n 2, 1) := by decide +kernel
theorem dX11_learn_21 : decode cX11_learn 21 = .ok (.i2l, 1) := by decide +kernel
theorem dX11_learn_22 : decode cX11_learn 22 = .ok (.lconst 0, 1) := by decide +kernel
theorem dX11_learn_23 : decode cX11_learn 23 = .ok (.ldc2_w 69, 3) := by decide +kernel
theorem dX11_learn_26 : decode cX11_learn 26 = .ok (.invokestatic 47, 3) := by decide +kernel
theorem dX11_learn_29 : decode cX11_learn 29 = .ok (.ifCond .eq 24, 3) := by decide +kernel
theorem dX11_learn_32 : decode cX11_learn 32 = .ok (.iload_n 3, 1) := by decide +kernel
theorem dX11_learn_33 : decode cX11_learn 33 = .ok (.iconst (-1), 1) := by decide +kernel
theorem dX11_learn_34 : decode cX11_learn 34 = .ok (.if_icmp .eq 24, 3) := by decide +kernel
theorem dX11_learn_37 : decode cX11_learn 37 = .ok (.aload_n 0, 1) := by decide +kernel
theorem dX11_learn_38 : decode cX11_learn 38 = .ok (.iload_n 3, 1) := by decide +kernel
theorem dX11_learn_39 : decode cX11_learn 39 = .ok (.invokevirtual 99, 3) := by decide +kernel
theorem dX11_learn_42 : decode cX11_learn 42 = .ok (.ifCond .eq 11, 3) := by decide +kernel
theorem dX11_learn_45 : decode cX11_learn 45 = .ok (.iload_n 1, 1) := by decide +kernel
theorem dX11_learn_46 : decode cX11_learn 46 = .ok (.iload_n 3, 1) := by decide +kernel
theorem dX11_learn_47 : decode cX11_learn 47 = .ok (.invokestatic 189, 3) := by decide +kernel
theorem dX11_learn_50 : decode cX11_learn 50 = .ok (.ifCond .ne 8, 3) := by decide +kernel
theorem dX11_learn_53 : decode cX11_learn 53 = .ok (.aload_n 0, 1) := by decide +kernel
theorem dX11_learn_54 : decode cX11_learn 54 = .ok (.invokevirtual 226, 3) := by decide +kernel
theorem dX11_learn_57 : decode cX11_learn 57 = .ok (.ireturn, 1) := by decide +kernel
theorem dX11_learn_58 : decode cX11_learn 58 = .ok (.aload_n 0, 1) := by decide +kernel
theorem dX11_learn_59 : decode cX11_learn 59 = .ok (.iload_n 1, 1) := by decide +kernel
theorem dX11_learn_60 : decode cX11_learn 60 = .ok (.invokevirtual 255, 3) := by decide +kernel
theorem dX11_learn_63 : decode cX11_learn 63 = .ok (.iload_n 3, 1) := by decide +kernel
theorem dX11_learn_64 : decode cX11_learn 64 = .ok (.iconst (-1), 1) := by decide +kernel
theorem dX11_learn_65 : decode cX11_learn 65 = .ok (.if_icmp .ne 10, 3) := by decide +kernel
theorem dX11_learn_68 : decode cX11_learn 68 = .ok (.aload_n 0, 1) := by decide +kernel
theorem dX11_learn_69 : decode cX11_learn 69 = .ok (.getfield 40, 3) := by decide +kernel
theorem dX11_learn_72 : decode cX11_learn 72 = .ok (.iload_n 2, 1) := by decide +kernel
theorem dX11_learn_73 : decode cX11_learn 73 = .ok (.iaload, 1) := by decide +kernel
theorem dX11_learn_74 : decode cX11_learn 74 = .ok (.ireturn, 1) := by decide +kernel
theorem dX11_learn_75 : decode cX11_learn 75 = .ok (.iload_n 2, 1) := by decide +kernel
theorem dX11_learn_76 : decode cX11_learn 76 = .ok (.istore 4, 2) := by decide +kernel
theorem dX11_learn_78 : decode cX11_learn 78 = .ok (.iconst 0, 1) := by decide +kernel
theorem dX11_learn_79 : decode cX11_learn 79 = .ok (.istore 5, 2) := by decide +kernel
theorem dX11_learn_81 : decode cX11_learn 81 = .ok (.iconst 0, 1) := by decide +kernel
theorem dX11_learn_82 : decode cX11_learn 82 = .ok (.istore 6, 2) := by decide +kernel
theorem dX11_learn_84 : decode cX11_learn 84 = .ok (.iload 6, 2) := by decide +kernel
theorem dX11_learn_86 : decode cX11_learn 86 = .ok (.iload_n 3, 1) := by decide +kernel
theorem dX11_learn_87 : decode cX11_learn 87 = .ok (.if_icmp .gt 117, 3) := by decide +kernel
theorem dX11_learn_90 : decode cX11_learn 90 = .ok (.iload_n 1, 1) := by decide +kernel
theorem dX11_learn_91 : decode cX11_learn 91 = .ok (.iload 6, 2) := by decide +kernel
theorem dX11_learn_93 : decode cX11_learn 93 = .ok (.invokestatic 189, 3) := by decide +kernel
theorem dX11_learn_96 : decode cX11_learn 96 = .ok (.ifCond .eq 102, 3) := by decide +kernel
theorem dX11_learn_99 : decode cX11_learn 99 = .ok (.iconst 0, 1) := by decide +kernel
theorem dX11_learn_100 : decode cX11_learn 100 = .ok (.istore 5, 2) := by decide +kernel
theorem dX11_learn_102 : decode cX11_learn 102 = .ok (.iload 4, 2) := by decide +kernel
theorem dX11_learn_104 : decode cX11_learn 104 = .ok (.iload 5, 2) := by decide +kernel
theorem dX11_learn_106 : decode cX11_learn 106 = .ok (.aload_n 0, 1) := by decide +kernel
theorem dX11_learn_107 : decode cX11_learn 107 = .ok (.getfield 13, 3) := by decide +kernel
theorem dX11_learn_110 : decode cX11_learn 110 = .ok (.iload 6, 2) := by decide +kernel
theorem dX11_learn_112 : decode cX11_learn 112 = .ok (.laload, 1) := by decide +kernel
theorem dX11_learn_113 : decode cX11_learn 113 = .ok (.invokestatic 53, 3) := by decide +kernel
theorem dX11_learn_116 : decode cX11_learn 116 = .ok (.imul, 1) := by decide +kernel
theorem dX11_learn_117 : decode cX11_learn 117 = .ok (.if_icmp .lt 57, 3) := by decide +kernel
theorem dX11_learn_120 : decode cX11_learn 120 = .ok (.aload_n 0, 1) := by decide +kernel
theorem dX11_learn_121 : decode cX11_learn 121 = .ok (.getfield 40, 3) := by decide +kernel
theorem dX11_learn_124 : decode cX11_learn 124 = .ok (.bipush 100, 2) := by decide +kernel
theorem dX11_learn_126 : decode cX11_learn 126 = .ok (.iload 6, 2) := by decide +kernel
theorem dX11_learn_128 : decode cX11_learn 128 = .ok (.iconst 1, 1) := by decide +kernel
theorem dX11_learn_129 : decode cX11_learn 129 = .ok (.iadd, 1) := by decide +kernel
theorem dX11_learn_130 : decode cX11_learn 130 = .ok (.imul, 1) := by decide +kernel
theorem dX11_learn_131 : decode cX11_learn 131 = .ok (.iload 4, 2) := by decide +kernel
theorem dX11_learn_133 : decode cX11_learn 133 = .ok (.iadd, 1) := by decide +kernel
theorem dX11_learn_134 : decode cX11_learn 134 = .ok (.iload 5, 2) := by decide +kernel
theorem dX11_learn_136 : decode cX11_learn 136 = .ok (.aload_n 0, 1) := by decide +kernel
theorem dX11_learn_137 : decode cX11_learn 137 = .ok (.getfield 13, 3) := by decide +kernel
theorem dX11_learn_140 : decode cX11_learn 140 = .ok (.iload 6, 2) := by decide +kernel
theorem dX11_learn_142 : decode cX11_learn 142 = .ok (.laload, 1) := by decide +kernel
theorem dX11_learn_143 : decode cX11_learn 143 = .ok (.invokestatic 53, 3) := by decide +kernel
theorem dX11_learn_146 : decode cX11_learn 146 = .ok (.imul, 1) := by decide +kernel
theorem dX11_learn_147 : decode cX11_learn 147 = .ok (.isub, 1) := by decide +kernel
theorem dX11_learn_148 : decode cX11_learn 148 = .ok (.iaload, 1) := by decide +kernel
theorem dX11_learn_149 : decode cX11_learn 149 = .ok (.aload_n 0, 1) := by decide +kernel
theorem dX11_learn_150 : decode cX11_learn 150 = .ok (.iload 6, 2) := by decide +kernel
theorem dX11_learn_152 : decode cX11_learn 152 = .ok (.iload 5, 2) := by decide +kernel
theorem dX11_learn_154 : decode cX11_learn 154 = .ok (.invokevirtual 252, 3) := by decide +kernel
theorem dX11_learn_157 : decode cX11_learn 157 = .ok (.iadd, 1) := by decide +kernel
theorem dX11_learn_158 : decode cX11_learn 158 = .ok (.aload_n 0, 1) := by decide +kernel
theorem dX11_learn_159 : decode cX11_learn 159 = .ok (.getfield 40, 3) := by decide +kernel
theorem dX11_learn_162 : decode cX11_learn 162 = .ok (.bipush 100, 2) := by decide +kernel
theorem dX11_learn_164 : decode cX11_learn 164 = .ok (.iload 6, 2) := by decide +kernel
theorem dX11_learn_166 : decode cX11_learn 166 = .ok (.imul, 1) := by decide +kernel
theorem dX11_learn_167 : decode cX11_learn 167 = .ok (.iload 4, 2) := by decide +kernel
theorem dX11_learn_169 : decode cX11_learn 169 = .ok (.iadd, 1) := by decide +kernel
theorem dX11_learn_170 : decode cX11_learn 170 = .ok (.iaload, 1) := by decide +kernel
theorem dX11_learn_171 : decode cX11_learn 171 = .ok (.if_icmp .eq 9, 3) := by decide +kernel
theorem dX11_learn_174 : decode cX11_learn 174 = .ok (.iinc 5 1, 3) := by decide +kernel
theorem dX11_learn_177 : decode cX11_learn 177 = .ok (.goto (-75), 3) := by decide +kernel
theorem dX11_learn_180 : decode cX11_learn 180 = .ok (.iload 4, 2) := by decide +kernel
theorem dX11_learn_182 : decode cX11_learn 182 = .ok (.iload 5, 2) := by decide +kernel
theorem dX11_learn_184 : decode cX11_learn 184 = .ok (.aload_n 0, 1) := by decide +kernel
theorem dX11_learn_185 : decode cX11_learn 185 = .ok (.getfield 13, 3) := by decide +kernel
theorem dX11_learn_188 : decode cX11_learn 188 = .ok (.iload 6, 2) := by decide +kernel
theorem dX11_learn_190 : decode cX11_learn 190 = .ok (.laload, 1) := by decide +kernel
theorem dX11_learn_191 : decode cX11_learn 191 = .ok (.invokestatic 53, 3) := by decide +kernel
theorem dX11_learn_194 : decode cX11_learn 194 = .ok (.imul, 1) := by decide +kernel
theorem dX11_learn_195 : decode cX11_learn 195 = .ok (.isub, 1) := by decide +kernel
theorem dX11_learn_196 : decode cX11_learn 196 = .ok (.istore 4, 2) := by decide +kernel
theorem dX11_learn_198 : decode cX11_learn 198 = .ok (.iinc 6 1, 3) := by decide +kernel
theorem dX11_learn_201 : decode cX11_learn 201 = .ok (.goto (-117), 3) := by decide +kernel
theorem dX11_learn_204 : decode cX11_learn 204 = .ok (.iload 5, 2) := by decide +kernel
theorem dX11_learn_206 : decode cX11_learn 206 = .ok (.ireturn, 1) := by decide +kernel
set_option maxRecDepth 20000 in
theorem ggX11_rests_X11_in : GoodIn wsX11_rests wsX11_in := goodIn_r _ [5] (by decide +kernel) (by decide +kernel)
set_option maxRecDepth 20000 in
theorem gX11_rests_X11_in : GoodIn wsX11_rests (va_wsS RX11 47 yX11_in wsX11_in) := goodIn_app (goodIn_of _ (by decide +kernel)) ggX11_rests_X11_in
set_option maxRecDepth 20000 in
theorem ggX11_rests_X11_told : GoodIn wsX11_rests wsX11_told := goodIn_r _ [9, 10, 11, 12, 13, 14, 15, 16, 17, 18, 19, 20, 21, 22, 23, 24, 25, 26, 27, 28, 29, 30] (by decide +kernel) (by decide +kernel)
set_option maxRecDepth 20000 in
theorem gX11_rests_X11_told : GoodIn wsX11_rests (wsV RX11 83 RX11 yX11_told wsX11_told) := goodIn_app (goodIn_of _ (by decide +kernel)) ggX11_rests_X11_told
theorem dX11_rests_0 : decode cX11_rests 0 = .ok (.iload_n 1, 1) := by decide +kernel
theorem dX11_rests_1 : decode cX11_rests 1 = .ok (.i2l, 1) := by decide +kernel
theorem dX11_rests_2 : decode cX11_rests 2 = .ok (.lconst 0, 1) := by decide +kernel
theorem dX11_rests_3 : decode cX11_rests 3 = .ok (.ldc2_w 65, 3) := by decide +kernel
theorem dX11_rests_6 : decode cX11_rests 6 = .ok (.invokestatic 47, 3) := by decide +kernel
theorem dX11_rests_9 : decode cX11_rests 9 = .ok (.ifCond .eq 15, 3) := by decide +kernel
theorem dX11_rests_12 : decode cX11_rests 12 = .ok (.iload_n 2, 1) := by decide +kernel
theorem dX11_rests_13 : decode cX11_rests 13 = .ok (.i2l, 1) := by decide +kernel
theorem dX11_rests_14 : decode cX11_rests 14 = .ok (.lconst 0, 1) := by decide +kernel
theorem dX11_rests_15 : decode cX11_rests 15 = .ok (.ldc2_w 65, 3) := by decide +kernel
theorem dX11_rests_18 : decode cX11_rests 18 = .ok (.invokestatic 47, 3) := by decide +kernel
theorem dX11_rests_21 : decode cX11_rests 21 = .ok (.ifCond .ne 10, 3) := by decide +kernel
theorem dX11_rests_24 : decode cX11_rests 24 = .ok (.aload_n 0, 1) := by decide +kernel
theorem dX11_rests_25 : decode cX11_rests 25 = .ok (.bipush (-2), 2) := by decide +kernel
theorem dX11_rests_27 : decode cX11_rests 27 = .ok (.invokevirtual 83, 3) := by decide +kernel
theorem dX11_rests_30 : decode cX11_rests 30 = .ok (.ireturn, 1) := by decide +kernel
theorem dX11_rests_31 : decode cX11_rests 31 = .ok (.iconst 4, 1) := by decide +kernel
theorem dX11_rests_32 : decode cX11_rests 32 = .ok (.iload_n 2, 1) := by decide +kernel
