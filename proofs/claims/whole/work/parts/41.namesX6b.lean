theorem dX6_goes_38 : decode cX6_goes 38 = .ok (.laload, 1) := by decide +kernel
theorem dX6_goes_39 : decode cX6_goes 39 = .ok (.lload_n 2, 1) := by decide +kernel
theorem dX6_goes_40 : decode cX6_goes 40 = .ok (.lsub, 1) := by decide +kernel
theorem dX6_goes_41 : decode cX6_goes 41 = .ok (.lastore, 1) := by decide +kernel
theorem dX6_goes_42 : decode cX6_goes 42 = .ok (.aload_n 0, 1) := by decide +kernel
theorem dX6_goes_43 : decode cX6_goes 43 = .ok (.getfield 42, 3) := by decide +kernel
theorem dX6_goes_46 : decode cX6_goes 46 = .ok (.iload_n 1, 1) := by decide +kernel
theorem dX6_goes_47 : decode cX6_goes 47 = .ok (.dup2, 1) := by decide +kernel
theorem dX6_goes_48 : decode cX6_goes 48 = .ok (.laload, 1) := by decide +kernel
theorem dX6_goes_49 : decode cX6_goes 49 = .ok (.lload 4, 2) := by decide +kernel
theorem dX6_goes_51 : decode cX6_goes 51 = .ok (.lsub, 1) := by decide +kernel
theorem dX6_goes_52 : decode cX6_goes 52 = .ok (.lastore, 1) := by decide +kernel
theorem dX6_goes_53 : decode cX6_goes 53 = .ok (.lload 4, 2) := by decide +kernel
theorem dX6_goes_55 : decode cX6_goes 55 = .ok (.lreturn, 1) := by decide +kernel
theorem dX6_comes_0 : decode cX6_comes 0 = .ok (.aload_n 0, 1) := by decide +kernel
theorem dX6_comes_1 : decode cX6_comes 1 = .ok (.getfield 38, 3) := by decide +kernel
theorem dX6_comes_4 : decode cX6_comes 4 = .ok (.iload_n 1, 1) := by decide +kernel
theorem dX6_comes_5 : decode cX6_comes 5 = .ok (.dup2, 1) := by decide +kernel
theorem dX6_comes_6 : decode cX6_comes 6 = .ok (.laload, 1) := by decide +kernel
theorem dX6_comes_7 : decode cX6_comes 7 = .ok (.lload_n 2, 1) := by decide +kernel
theorem dX6_comes_8 : decode cX6_comes 8 = .ok (.ladd, 1) := by decide +kernel
theorem dX6_comes_9 : decode cX6_comes 9 = .ok (.lastore, 1) := by decide +kernel
theorem dX6_comes_10 : decode cX6_comes 10 = .ok (.aload_n 0, 1) := by decide +kernel
theorem dX6_comes_11 : decode cX6_comes 11 = .ok (.getfield 42, 3) := by decide +kernel
theorem dX6_comes_14 : decode cX6_comes 14 = .ok (.iload_n 1, 1) := by decide +kernel
theorem dX6_comes_15 : decode cX6_comes 15 = .ok (.dup2, 1) := by decide +kernel
theorem dX6_comes_16 : decode cX6_comes 16 = .ok (.laload, 1) := by decide +kernel
theorem dX6_comes_17 : decode cX6_comes 17 = .ok (.lload 4, 2) := by decide +kernel
theorem dX6_comes_19 : decode cX6_comes 19 = .ok (.ladd, 1) := by decide +kernel
theorem dX6_comes_20 : decode cX6_comes 20 = .ok (.lastore, 1) := by decide +kernel
theorem dX6_comes_21 : decode cX6_comes 21 = .ok (.return_, 1) := by decide +kernel
set_option maxRecDepth 20000 in
theorem ggX6_wellsGive_X6_flowOf : GoodIn wsX6_wellsGive wsX6_flowOf := goodIn_r _ [14, 15, 16, 17, 36, 37, 38, 39, 40, 41, 42, 43, 44, 45, 46, 47, 48, 49, 50, 51, 52, 53, 54, 55, 56, 57, 58, 59, 60, 61, 62] (by decide +kernel) (by decide +kernel)
set_option maxRecDepth 20000 in
theorem gX6_wellsGive_X6_flowOf : GoodIn wsX6_wellsGive (wsV RX6 92 RX6 yX6_flowOf wsX6_flowOf) := goodIn_app (goodIn_of _ (by decide +kernel)) ggX6_wellsGive_X6_flowOf
set_option maxRecDepth 20000 in
theorem ggX6_wellsGive_X6_goes : GoodIn wsX6_wellsGive wsX6_goes := goodIn_r _ [21, 4, 22, 36, 37, 38, 39, 40, 41, 42, 43, 44, 45, 46, 47, 48, 49, 50, 51, 52, 53, 54, 55, 56, 57, 58, 59, 60, 61, 62] (by decide +kernel) (by decide +kernel)
set_option maxRecDepth 20000 in
theorem gX6_wellsGive_X6_goes : GoodIn wsX6_wellsGive (wsV RX6 119 RX6 yX6_goes wsX6_goes) := goodIn_app (goodIn_of _ (by decide +kernel)) ggX6_wellsGive_X6_goes
set_option maxRecDepth 20000 in
theorem ggX6_wellsGive_X6_comes : GoodIn wsX6_wellsGive wsX6_comes := goodIn_r _ [26, 4, 22, 36, 37, 38, 39, 40, 41, 42, 43, 44, 45, 46, 47, 48, 49, 50, 51, 52, 53, 54, 55, 56, 57, 58, 59, 60, 61, 62] (by decide +kernel) (by decide +kernel)
set_option maxRecDepth 20000 in
theorem gX6_wellsGive_X6_comes : GoodIn wsX6_wellsGive (wsV RX6 127 RX6 yX6_comes wsX6_comes) := goodIn_app (goodIn_of _ (by decide +kernel)) ggX6_wellsGive_X6_comes
set_option maxRecDepth 20000 in
theorem ggX6_wellsGive_X6_draw : GoodIn wsX6_wellsGive wsX6_draw := goodIn_r _ [30, 31, 32, 33, 34, 35, 36, 37, 38, 39, 40, 41, 42, 43, 44, 45, 46, 47, 48, 49, 50, 51, 52, 53, 54, 55, 56, 57, 58, 59, 60, 61, 62] (by decide +kernel) (by decide +kernel)
set_option maxRecDepth 20000 in
theorem gX6_wellsGive_X6_draw : GoodIn wsX6_wellsGive (wsV RX6 106 RX6 yX6_draw wsX6_draw) := goodIn_app (goodIn_of _ (by decide +kernel)) ggX6_wellsGive_X6_draw
theorem dX6_wellsGive_0 : decode cX6_wellsGive 0 = .ok (.lconst 0, 1) := by decide +kernel
theorem dX6_wellsGive_1 : decode cX6_wellsGive 1 = .ok (.lstore_n 2, 1) := by decide +kernel
theorem dX6_wellsGive_2 : decode cX6_wellsGive 2 = .ok (.iconst 0, 1) := by decide +kernel
theorem dX6_wellsGive_3 : decode cX6_wellsGive 3 = .ok (.istore 4, 2) := by decide +kernel
theorem dX6_wellsGive_5 : decode cX6_wellsGive 5 = .ok (.iload 4, 2) := by decide +kernel
theorem dX6_wellsGive_7 : decode cX6_wellsGive 7 = .ok (.aload_n 0, 1) := by decide +kernel
theorem dX6_wellsGive_8 : decode cX6_wellsGive 8 = .ok (.getfield 72, 3) := by decide +kernel
theorem dX6_wellsGive_11 : decode cX6_wellsGive 11 = .ok (.if_icmp .ge 102, 3) := by decide +kernel
theorem dX6_wellsGive_14 : decode cX6_wellsGive 14 = .ok (.aload_n 0, 1) := by decide +kernel
theorem dX6_wellsGive_15 : decode cX6_wellsGive 15 = .ok (.getfield 19, 3) := by decide +kernel
theorem dX6_wellsGive_18 : decode cX6_wellsGive 18 = .ok (.iload 4, 2) := by decide +kernel
theorem dX6_wellsGive_20 : decode cX6_wellsGive 20 = .ok (.baload, 1) := by decide +kernel
theorem dX6_wellsGive_21 : decode cX6_wellsGive 21 = .ok (.ifCond .eq 86, 3) := by decide +kernel
theorem dX6_wellsGive_24 : decode cX6_wellsGive 24 = .ok (.aload_n 0, 1) := by decide +kernel
theorem dX6_wellsGive_25 : decode cX6_wellsGive 25 = .ok (.getfield 13, 3) := by decide +kernel
theorem dX6_wellsGive_28 : decode cX6_wellsGive 28 = .ok (.iload 4, 2) := by decide +kernel
theorem dX6_wellsGive_30 : decode cX6_wellsGive 30 = .ok (.iaload, 1) := by decide +kernel
theorem dX6_wellsGive_31 : decode cX6_wellsGive 31 = .ok (.istore 5, 2) := by decide +kernel
theorem dX6_wellsGive_33 : decode cX6_wellsGive 33 = .ok (.aload_n 0, 1) := by decide +kernel
theorem dX6_wellsGive_34 : decode cX6_wellsGive 34 = .ok (.iload 4, 2) := by decide +kernel
theorem dX6_wellsGive_36 : decode cX6_wellsGive 36 = .ok (.iload_n 1, 1) := by decide +kernel
theorem dX6_wellsGive_37 : decode cX6_wellsGive 37 = .ok (.invokevirtual 92, 3) := by decide +kernel
theorem dX6_wellsGive_40 : decode cX6_wellsGive 40 = .ok (.i2l, 1) := by decide +kernel
theorem dX6_wellsGive_41 : decode cX6_wellsGive 41 = .ok (.lstore 6, 2) := by decide +kernel
theorem dX6_wellsGive_43 : decode cX6_wellsGive 43 = .ok (.lload 6, 2) := by decide +kernel
theorem dX6_wellsGive_45 : decode cX6_wellsGive 45 = .ok (.aload_n 0, 1) := by decide +kernel
theorem dX6_wellsGive_46 : decode cX6_wellsGive 46 = .ok (.getfield 38, 3) := by decide +kernel
theorem dX6_wellsGive_49 : decode cX6_wellsGive 49 = .ok (.iload 5, 2) := by decide +kernel
theorem dX6_wellsGive_51 : decode cX6_wellsGive 51 = .ok (.laload, 1) := by decide +kernel
theorem dX6_wellsGive_52 : decode cX6_wellsGive 52 = .ok (.lcmp, 1) := by decide +kernel
theorem dX6_wellsGive_53 : decode cX6_wellsGive 53 = .ok (.ifCond .le 13, 3) := by decide +kernel
theorem dX6_wellsGive_56 : decode cX6_wellsGive 56 = .ok (.aload_n 0, 1) := by decide +kernel
theorem dX6_wellsGive_57 : decode cX6_wellsGive 57 = .ok (.getfield 38, 3) := by decide +kernel
theorem dX6_wellsGive_60 : decode cX6_wellsGive 60 = .ok (.iload 5, 2) := by decide +kernel
theorem dX6_wellsGive_62 : decode cX6_wellsGive 62 = .ok (.laload, 1) := by decide +kernel
theorem dX6_wellsGive_63 : decode cX6_wellsGive 63 = .ok (.goto 5, 3) := by decide +kernel
theorem dX6_wellsGive_66 : decode cX6_wellsGive 66 = .ok (.lload 6, 2) := by decide +kernel
theorem dX6_wellsGive_68 : decode cX6_wellsGive 68 = .ok (.lstore 6, 2) := by decide +kernel
theorem dX6_wellsGive_70 : decode cX6_wellsGive 70 = .ok (.aload_n 0, 1) := by decide +kernel
theorem dX6_wellsGive_71 : decode cX6_wellsGive 71 = .ok (.iload 5, 2) := by decide +kernel
theorem dX6_wellsGive_73 : decode cX6_wellsGive 73 = .ok (.lload 6, 2) := by decide +kernel
theorem dX6_wellsGive_75 : decode cX6_wellsGive 75 = .ok (.invokevirtual 119, 3) := by decide +kernel
theorem dX6_wellsGive_78 : decode cX6_wellsGive 78 = .ok (.lstore 8, 2) := by decide +kernel
theorem dX6_wellsGive_80 : decode cX6_wellsGive 80 = .ok (.lload_n 2, 1) := by decide +kernel
theorem dX6_wellsGive_81 : decode cX6_wellsGive 81 = .ok (.lload 6, 2) := by decide +kernel
theorem dX6_wellsGive_83 : decode cX6_wellsGive 83 = .ok (.ladd, 1) := by decide +kernel
theorem dX6_wellsGive_84 : decode cX6_wellsGive 84 = .ok (.lstore_n 2, 1) := by decide +kernel
theorem dX6_wellsGive_85 : decode cX6_wellsGive 85 = .ok (.aload_n 0, 1) := by decide +kernel
theorem dX6_wellsGive_86 : decode cX6_wellsGive 86 = .ok (.getfield 51, 3) := by decide +kernel
theorem dX6_wellsGive_89 : decode cX6_wellsGive 89 = .ok (.iconst 0, 1) := by decide +kernel
theorem dX6_wellsGive_90 : decode cX6_wellsGive 90 = .ok (.dup2, 1) := by decide +kernel
theorem dX6_wellsGive_91 : decode cX6_wellsGive 91 = .ok (.laload, 1) := by decide +kernel
theorem dX6_wellsGive_92 : decode cX6_wellsGive 92 = .ok (.lload 6, 2) := by decide +kernel
theorem dX6_wellsGive_94 : decode cX6_wellsGive 94 = .ok (.ladd, 1) := by decide +kernel
theorem dX6_wellsGive_95 : decode cX6_wellsGive 95 = .ok (.lastore, 1) := by decide +kernel
theorem dX6_wellsGive_96 : decode cX6_wellsGive 96 = .ok (.aload_n 0, 1) := by decide +kernel
theorem dX6_wellsGive_97 : decode cX6_wellsGive 97 = .ok (.getfield 51, 3) := by decide +kernel
theorem dX6_wellsGive_100 : decode cX6_wellsGive 100 = .ok (.iconst 1, 1) := by decide +kernel
theorem dX6_wellsGive_101 : decode cX6_wellsGive 101 = .ok (.dup2, 1) := by decide +kernel
theorem dX6_wellsGive_102 : decode cX6_wellsGive 102 = .ok (.laload, 1) := by decide +kernel
theorem dX6_wellsGive_103 : decode cX6_wellsGive 103 = .ok (.lload 8, 2) := by decide +kernel
theorem dX6_wellsGive_105 : decode cX6_wellsGive 105 = .ok (.ladd, 1) := by decide +kernel
theorem dX6_wellsGive_106 : decode cX6_wellsGive 106 = .ok (.lastore, 1) := by decide +kernel
theorem dX6_wellsGive_107 : decode cX6_wellsGive 107 = .ok (.iinc 4 1, 3) := by decide +kernel
theorem dX6_wellsGive_110 : decode cX6_wellsGive 110 = .ok (.goto (-105), 3) := by decide +kernel
theorem dX6_wellsGive_113 : decode cX6_wellsGive 113 = .ok (.lload_n 2, 1) := by decide +kernel
theorem dX6_wellsGive_114 : decode cX6_wellsGive 114 = .ok (.aload_n 0, 1) := by decide +kernel
theorem dX6_wellsGive_115 : decode cX6_wellsGive 115 = .ok (.getfield 113, 3) := by decide +kernel
theorem dX6_wellsGive_118 : decode cX6_wellsGive 118 = .ok (.i2l, 1) := by decide +kernel
theorem dX6_wellsGive_119 : decode cX6_wellsGive 119 = .ok (.lmul, 1) := by decide +kernel
theorem dX6_wellsGive_120 : decode cX6_wellsGive 120 = .ok (.ldc2_w 123, 3) := by decide +kernel
theorem dX6_wellsGive_123 : decode cX6_wellsGive 123 = .ok (.ldiv, 1) := by decide +kernel
theorem dX6_wellsGive_124 : decode cX6_wellsGive 124 = .ok (.lstore 4, 2) := by decide +kernel
theorem dX6_wellsGive_126 : decode cX6_wellsGive 126 = .ok (.aload_n 0, 1) := by decide +kernel
theorem dX6_wellsGive_127 : decode cX6_wellsGive 127 = .ok (.aload_n 0, 1) := by decide +kernel
theorem dX6_wellsGive_128 : decode cX6_wellsGive 128 = .ok (.getfield 116, 3) := by decide +kernel
theorem dX6_wellsGive_131 : decode cX6_wellsGive 131 = .ok (.lload 4, 2) := by decide +kernel
theorem dX6_wellsGive_133 : decode cX6_wellsGive 133 = .ok (.ldc2_w 125, 3) := by decide +kernel
theorem dX6_wellsGive_136 : decode cX6_wellsGive 136 = .ok (.lload 4, 2) := by decide +kernel
theorem dX6_wellsGive_138 : decode cX6_wellsGive 138 = .ok (.lmul, 1) := by decide +kernel
theorem dX6_wellsGive_139 : decode cX6_wellsGive 139 = .ok (.invokevirtual 127, 3) := by decide +kernel
theorem dX6_wellsGive_142 : decode cX6_wellsGive 142 = .ok (.aload_n 0, 1) := by decide +kernel
theorem dX6_wellsGive_143 : decode cX6_wellsGive 143 = .ok (.getfield 51, 3) := by decide +kernel
theorem dX6_wellsGive_146 : decode cX6_wellsGive 146 = .ok (.iconst 2, 1) := by decide +kernel
theorem dX6_wellsGive_147 : decode cX6_wellsGive 147 = .ok (.dup2, 1) := by decide +kernel
theorem dX6_wellsGive_148 : decode cX6_wellsGive 148 = .ok (.laload, 1) := by decide +kernel
theorem dX6_wellsGive_149 : decode cX6_wellsGive 149 = .ok (.lload 4, 2) := by decide +kernel
theorem dX6_wellsGive_151 : decode cX6_wellsGive 151 = .ok (.ladd, 1) := by decide +kernel
theorem dX6_wellsGive_152 : decode cX6_wellsGive 152 = .ok (.lastore, 1) := by decide +kernel
theorem dX6_wellsGive_153 : decode cX6_wellsGive 153 = .ok (.aload_n 0, 1) := by decide +kernel
theorem dX6_wellsGive_154 : decode cX6_wellsGive 154 = .ok (.getfield 51, 3) := by decide +kernel
theorem dX6_wellsGive_157 : decode cX6_wellsGive 157 = .ok (.iconst 3, 1) := by decide +kernel
theorem dX6_wellsGive_158 : decode cX6_wellsGive 158 = .ok (.dup2, 1) := by decide +kernel
theorem dX6_wellsGive_159 : decode cX6_wellsGive 159 = .ok (.laload, 1) := by decide +kernel
theorem dX6_wellsGive_160 : decode cX6_wellsGive 160 = .ok (.ldc2_w 125, 3) := by decide +kernel
theorem dX6_wellsGive_163 : decode cX6_wellsGive 163 = .ok (.lload 4, 2) := by decide +kernel
theorem dX6_wellsGive_165 : decode cX6_wellsGive 165 = .ok (.lmul, 1) := by decide +kernel
theorem dX6_wellsGive_166 : decode cX6_wellsGive 166 = .ok (.ladd, 1) := by decide +kernel
theorem dX6_wellsGive_167 : decode cX6_wellsGive 167 = .ok (.lastore, 1) := by decide +kernel
theorem dX6_wellsGive_168 : decode cX6_wellsGive 168 = .ok (.aload_n 0, 1) := by decide +kernel
theorem dX6_wellsGive_169 : decode cX6_wellsGive 169 = .ok (.getfield 51, 3) := by decide +kernel
theorem dX6_wellsGive_172 : decode cX6_wellsGive 172 = .ok (.bipush 6, 2) := by decide +kernel
theorem dX6_wellsGive_174 : decode cX6_wellsGive 174 = .ok (.dup2, 1) := by decide +kernel
theorem dX6_wellsGive_175 : decode cX6_wellsGive 175 = .ok (.laload, 1) := by decide +kernel
theorem dX6_wellsGive_176 : decode cX6_wellsGive 176 = .ok (.aload_n 0, 1) := by decide +kernel
theorem dX6_wellsGive_177 : decode cX6_wellsGive 177 = .ok (.iload_n 1, 1) := by decide +kernel
theorem dX6_wellsGive_178 : decode cX6_wellsGive 178 = .ok (.invokevirtual 106, 3) := by decide +kernel
theorem dX6_wellsGive_181 : decode cX6_wellsGive 181 = .ok (.i2l, 1) := by decide +kernel
theorem dX6_wellsGive_182 : decode cX6_wellsGive 182 = .ok (.ladd, 1) := by decide +kernel
theorem dX6_wellsGive_183 : decode cX6_wellsGive 183 = .ok (.lastore, 1) := by decide +kernel
theorem dX6_wellsGive_184 : decode cX6_wellsGive 184 = .ok (.return_, 1) := by decide +kernel
set_option maxRecDepth 20000 in
theorem ggX6_leaks_X6_goes : GoodIn wsX6_leaks wsX6_goes := goodIn_r _ [7, 1, 8, 13, 14, 15, 16, 17, 18, 19, 20, 21, 22, 23, 24, 25, 26, 27, 28, 29, 30, 31, 32, 33, 34, 35, 36, 37, 38, 39] (by decide +kernel) (by decide +kernel)
set_option maxRecDepth 20000 in
theorem gX6_leaks_X6_goes : GoodIn wsX6_leaks (wsV RX6 119 RX6 yX6_goes wsX6_goes) := goodIn_app (goodIn_of _ (by decide +kernel)) ggX6_leaks_X6_goes
set_option maxRecDepth 20000 in
theorem ggX6_leaks_X6_comes : GoodIn wsX6_leaks wsX6_comes := goodIn_r _ [12, 1, 8, 13, 14, 15, 16, 17, 18, 19, 20, 21, 22, 23, 24, 25, 26, 27, 28, 29, 30, 31, 32, 33, 34, 35, 36, 37, 38, 39] (by decide +kernel) (by decide +kernel)
set_option maxRecDepth 20000 in
theorem gX6_leaks_X6_comes : GoodIn wsX6_leaks (wsV RX6 127 RX6 yX6_comes wsX6_comes) := goodIn_app (goodIn_of _ (by decide +kernel)) ggX6_leaks_X6_comes
theorem dX6_leaks_0 : decode cX6_leaks 0 = .ok (.aload_n 0, 1) := by decide +kernel
theorem dX6_leaks_1 : decode cX6_leaks 1 = .ok (.getfield 38, 3) := by decide +kernel
theorem dX6_leaks_4 : decode cX6_leaks 4 = .ok (.iload_n 1, 1) := by decide +kernel
theorem dX6_leaks_5 : decode cX6_leaks 5 = .ok (.laload, 1) := by decide +kernel
theorem dX6_leaks_6 : decode cX6_leaks 6 = .ok (.aload_n 0, 1) := by decide +kernel
theorem dX6_leaks_7 : decode cX6_leaks 7 = .ok (.getfield 38, 3) := by decide +kernel
theorem dX6_leaks_10 : decode cX6_leaks 10 = .ok (.iload_n 1, 1) := by decide +kernel
theorem dX6_leaks_11 : decode cX6_leaks 11 = .ok (.iconst 1, 1) := by decide +kernel
theorem dX6_leaks_12 : decode cX6_leaks 12 = .ok (.iadd, 1) := by decide +kernel
theorem dX6_leaks_13 : decode cX6_leaks 13 = .ok (.laload, 1) := by decide +kernel
theorem dX6_leaks_14 : decode cX6_leaks 14 = .ok (.lsub, 1) := by decide +kernel
theorem dX6_leaks_15 : decode cX6_leaks 15 = .ok (.lstore_n 2, 1) := by decide +kernel
theorem dX6_leaks_16 : decode cX6_leaks 16 = .ok (.lload_n 2, 1) := by decide +kernel
theorem dX6_leaks_17 : decode cX6_leaks 17 = .ok (.lconst 0, 1) := by decide +kernel
theorem dX6_leaks_18 : decode cX6_leaks 18 = .ok (.lcmp, 1) := by decide +kernel
theorem dX6_leaks_19 : decode cX6_leaks 19 = .ok (.ifCond .le 7, 3) := by decide +kernel
theorem dX6_leaks_22 : decode cX6_leaks 22 = .ok (.iload_n 1, 1) := by decide +kernel
theorem dX6_leaks_23 : decode cX6_leaks 23 = .ok (.goto 6, 3) := by decide +kernel
theorem dX6_leaks_26 : decode cX6_leaks 26 = .ok (.iload_n 1, 1) := by decide +kernel
theorem dX6_leaks_27 : decode cX6_leaks 27 = .ok (.iconst 1, 1) := by decide +kernel
theorem dX6_leaks_28 : decode cX6_leaks 28 = .ok (.iadd, 1) := by decide +kernel
theorem dX6_leaks_29 : decode cX6_leaks 29 = .ok (.istore 4, 2) := by decide +kernel
theorem dX6_leaks_31 : decode cX6_leaks 31 = .ok (.lload_n 2, 1) := by decide +kernel
theorem dX6_leaks_32 : decode cX6_leaks 32 = .ok (.lconst 0, 1) := by decide +kernel
theorem dX6_leaks_33 : decode cX6_leaks 33 = .ok (.lcmp, 1) := by decide +kernel
theorem dX6_leaks_34 : decode cX6_leaks 34 = .ok (.ifCond .le 7, 3) := by decide +kernel
theorem dX6_leaks_37 : decode cX6_leaks 37 = .ok (.lload_n 2, 1) := by decide +kernel
theorem dX6_leaks_38 : decode cX6_leaks 38 = .ok (.goto 5, 3) := by decide +kernel
theorem dX6_leaks_41 : decode cX6_leaks 41 = .ok (.lload_n 2, 1) := by decide +kernel
theorem dX6_leaks_42 : decode cX6_leaks 42 = .ok (.lneg, 1) := by decide +kernel
theorem dX6_leaks_43 : decode cX6_leaks 43 = .ok (.aload_n 0, 1) := by decide +kernel
theorem dX6_leaks_44 : decode cX6_leaks 44 = .ok (.getfield 45, 3) := by decide +kernel
theorem dX6_leaks_47 : decode cX6_leaks 47 = .ok (.iload_n 1, 1) := by decide +kernel
theorem dX6_leaks_48 : decode cX6_leaks 48 = .ok (.iaload, 1) := by decide +kernel
theorem dX6_leaks_49 : decode cX6_leaks 49 = .ok (.i2l, 1) := by decide +kernel
theorem dX6_leaks_50 : decode cX6_leaks 50 = .ok (.ldiv, 1) := by decide +kernel
theorem dX6_leaks_51 : decode cX6_leaks 51 = .ok (.lstore 5, 2) := by decide +kernel
theorem dX6_leaks_53 : decode cX6_leaks 53 = .ok (.aload_n 0, 1) := by decide +kernel
theorem dX6_leaks_54 : decode cX6_leaks 54 = .ok (.iload 4, 2) := by decide +kernel
theorem dX6_leaks_56 : decode cX6_leaks 56 = .ok (.lload 5, 2) := by decide +kernel
theorem dX6_leaks_58 : decode cX6_leaks 58 = .ok (.invokevirtual 119, 3) := by decide +kernel
theorem dX6_leaks_61 : decode cX6_leaks 61 = .ok (.lstore 7, 2) := by decide +kernel
theorem dX6_leaks_63 : decode cX6_leaks 63 = .ok (.aload_n 0, 1) := by decide +kernel
theorem dX6_leaks_64 : decode cX6_leaks 64 = .ok (.iconst 2, 1) := by decide +kernel
theorem dX6_leaks_65 : decode cX6_leaks 65 = .ok (.iload_n 1, 1) := by decide +kernel
theorem dX6_leaks_66 : decode cX6_leaks 66 = .ok (.imul, 1) := by decide +kernel
theorem dX6_leaks_67 : decode cX6_leaks 67 = .ok (.iconst 1, 1) := by decide +kernel
theorem dX6_leaks_68 : decode cX6_leaks 68 = .ok (.iadd, 1) := by decide +kernel
theorem dX6_leaks_69 : decode cX6_leaks 69 = .ok (.iload 4, 2) := by decide +kernel
theorem dX6_leaks_71 : decode cX6_leaks 71 = .ok (.isub, 1) := by decide +kernel
theorem dX6_leaks_72 : decode cX6_leaks 72 = .ok (.lload 5, 2) := by decide +kernel
theorem dX6_leaks_74 : decode cX6_leaks 74 = .ok (.lload 7, 2) := by decide +kernel
theorem dX6_leaks_76 : decode cX6_leaks 76 = .ok (.invokevirtual 127, 3) := by decide +kernel
theorem dX6_leaks_79 : decode cX6_leaks 79 = .ok (.return_, 1) := by decide +kernel
set_option maxRecDepth 20000 in
theorem ggX6_oneYear_X6_point : GoodIn wsX6_oneYear wsX6_point := goodIn_r _ [11, 12, 13, 14, 10, 15, 4, 6, 16, 17, 18, 19, 20, 21, 5, 22, 23, 24, 25, 26, 27, 28, 29, 30, 31, 32, 33, 58, 59, 60, 61, 62, 63, 64, 65, 66, 67, 68, 69, 70, 71, 72, 73, 74, 75, 76, 77, 78, 79, 80, 81, 82, 83, 84] (by decide +kernel) (by decide +kernel)
set_option maxRecDepth 20000 in
theorem gX6_oneYear_X6_point : GoodIn wsX6_oneYear (wsV RX6 131 RX6 yX6_point wsX6_point) := goodIn_app (goodIn_of _ (by decide +kernel)) ggX6_oneYear_X6_point
set_option maxRecDepth 20000 in
theorem ggX6_oneYear_X6_wellsGive : GoodIn wsX6_oneYear wsX6_wellsGive := goodIn_r _ [37, 4, 6, 38, 39, 1, 40, 41, 42, 43, 16, 17, 18, 10, 19, 20, 21, 5, 44, 45, 46, 47, 48, 49, 50, 51, 52, 25, 26, 27, 28, 29, 30, 31, 32, 33, 58, 59, 60, 61, 62, 63, 64, 65, 66, 67, 68, 69, 70, 71, 72, 73, 74, 75, 76, 77, 78, 79, 80, 81, 82, 83, 84] (by decide +kernel) (by decide +kernel)
set_option maxRecDepth 20000 in
theorem gX6_oneYear_X6_wellsGive : GoodIn wsX6_oneYear (wsV RX6 135 RX6 yX6_wellsGive wsX6_wellsGive) := goodIn_app (goodIn_of _ (by decide +kernel)) ggX6_oneYear_X6_wellsGive
set_option maxRecDepth 20000 in
theorem ggX6_oneYear_X6_leaks : GoodIn wsX6_oneYear wsX6_leaks := goodIn_r _ [56, 39, 57, 44, 45, 46, 10, 47, 48, 49, 50, 51, 52, 58, 59, 60, 61, 62, 63, 64, 65, 66, 67, 68, 69, 70, 71, 72, 73, 74, 75, 76, 77, 78, 79, 80, 81, 82, 83, 84] (by decide +kernel) (by decide +kernel)
set_option maxRecDepth 20000 in
theorem gX6_oneYear_X6_leaks : GoodIn wsX6_oneYear (wsV RX6 139 RX6 yX6_leaks wsX6_leaks) := goodIn_app (goodIn_of _ (by decide +kernel)) ggX6_oneYear_X6_leaks
set_option maxRecDepth 20000 in
theorem ggX6_oneYear_X6_comes : GoodIn wsX6_oneYear wsX6_comes := goodIn_r _ [52, 39, 48, 58, 59, 60, 61, 62, 63, 64, 65, 66, 67, 68, 69, 70, 71, 72, 73, 74, 75, 76, 77, 78, 79, 80, 81, 82, 83, 84] (by decide +kernel) (by decide +kernel)
set_option maxRecDepth 20000 in
theorem gX6_oneYear_X6_comes : GoodIn wsX6_oneYear (wsV RX6 127 RX6 yX6_comes wsX6_comes) := goodIn_app (goodIn_of _ (by decide +kernel)) ggX6_oneYear_X6_comes
theorem dX6_oneYear_0 : decode cX6_oneYear 0 = .ok (.aload_n 0, 1) := by decide +kernel
theorem dX6_oneYear_1 : decode cX6_oneYear 1 = .ok (.invokevirtual 131, 3) := by decide +kernel
theorem dX6_oneYear_4 : decode cX6_oneYear 4 = .ok (.istore_n 1, 1) := by decide +kernel
theorem dX6_oneYear_5 : decode cX6_oneYear 5 = .ok (.iload_n 1, 1) := by decide +kernel
theorem dX6_oneYear_6 : decode cX6_oneYear 6 = .ok (.ifCond .lt 11, 3) := by decide +kernel
theorem dX6_oneYear_9 : decode cX6_oneYear 9 = .ok (.aload_n 0, 1) := by decide +kernel
theorem dX6_oneYear_10 : decode cX6_oneYear 10 = .ok (.iload_n 1, 1) := by decide +kernel
theorem dX6_oneYear_11 : decode cX6_oneYear 11 = .ok (.invokevirtual 135, 3) := by decide +kernel
theorem dX6_oneYear_14 : decode cX6_oneYear 14 = .ok (.goto 14, 3) := by decide +kernel
theorem dX6_oneYear_17 : decode cX6_oneYear 17 = .ok (.aload_n 0, 1) := by decide +kernel
theorem dX6_oneYear_18 : decode cX6_oneYear 18 = .ok (.getfield 51, 3) := by decide +kernel
theorem dX6_oneYear_21 : decode cX6_oneYear 21 = .ok (.bipush 8, 2) := by decide +kernel
theorem dX6_oneYear_23 : decode cX6_oneYear 23 = .ok (.dup2, 1) := by decide +kernel
theorem dX6_oneYear_24 : decode cX6_oneYear 24 = .ok (.laload, 1) := by decide +kernel
theorem dX6_oneYear_25 : decode cX6_oneYear 25 = .ok (.lconst 1, 1) := by decide +kernel
theorem dX6_oneYear_26 : decode cX6_oneYear 26 = .ok (.ladd, 1) := by decide +kernel
theorem dX6_oneYear_27 : decode cX6_oneYear 27 = .ok (.lastore, 1) := by decide +kernel
theorem dX6_oneYear_28 : decode cX6_oneYear 28 = .ok (.iconst 0, 1) := by decide +kernel
theorem dX6_oneYear_29 : decode cX6_oneYear 29 = .ok (.istore_n 2, 1) := by decide +kernel
theorem dX6_oneYear_30 : decode cX6_oneYear 30 = .ok (.iload_n 2, 1) := by decide +kernel
theorem dX6_oneYear_31 : decode cX6_oneYear 31 = .ok (.iconst 3, 1) := by decide +kernel
theorem dX6_oneYear_32 : decode cX6_oneYear 32 = .ok (.if_icmp .ge 14, 3) := by decide +kernel
theorem dX6_oneYear_35 : decode cX6_oneYear 35 = .ok (.aload_n 0, 1) := by decide +kernel
theorem dX6_oneYear_36 : decode cX6_oneYear 36 = .ok (.iload_n 2, 1) := by decide +kernel
theorem dX6_oneYear_37 : decode cX6_oneYear 37 = .ok (.invokevirtual 139, 3) := by decide +kernel
theorem dX6_oneYear_40 : decode cX6_oneYear 40 = .ok (.iinc 2 1, 3) := by decide +kernel
theorem dX6_oneYear_43 : decode cX6_oneYear 43 = .ok (.goto (-13), 3) := by decide +kernel
theorem dX6_oneYear_46 : decode cX6_oneYear 46 = .ok (.iconst 0, 1) := by decide +kernel
theorem dX6_oneYear_47 : decode cX6_oneYear 47 = .ok (.istore_n 2, 1) := by decide +kernel
theorem dX6_oneYear_48 : decode cX6_oneYear 48 = .ok (.iload_n 2, 1) := by decide +kernel
theorem dX6_oneYear_49 : decode cX6_oneYear 49 = .ok (.iconst 4, 1) := by decide +kernel
theorem dX6_oneYear_50 : decode cX6_oneYear 50 = .ok (.if_icmp .ge 68, 3) := by decide +kernel
theorem dX6_oneYear_53 : decode cX6_oneYear 53 = .ok (.aload_n 0, 1) := by decide +kernel
theorem dX6_oneYear_54 : decode cX6_oneYear 54 = .ok (.iload_n 2, 1) := by decide +kernel
theorem dX6_oneYear_55 : decode cX6_oneYear 55 = .ok (.aload_n 0, 1) := by decide +kernel
theorem dX6_oneYear_56 : decode cX6_oneYear 56 = .ok (.getfield 48, 3) := by decide +kernel
theorem dX6_oneYear_59 : decode cX6_oneYear 59 = .ok (.iload_n 2, 1) := by decide +kernel
theorem dX6_oneYear_60 : decode cX6_oneYear 60 = .ok (.iaload, 1) := by decide +kernel
theorem dX6_oneYear_61 : decode cX6_oneYear 61 = .ok (.i2l, 1) := by decide +kernel
theorem dX6_oneYear_62 : decode cX6_oneYear 62 = .ok (.ldc2_w 142, 3) := by decide +kernel
theorem dX6_oneYear_65 : decode cX6_oneYear 65 = .ok (.aload_n 0, 1) := by decide +kernel
theorem dX6_oneYear_66 : decode cX6_oneYear 66 = .ok (.getfield 48, 3) := by decide +kernel
theorem dX6_oneYear_69 : decode cX6_oneYear 69 = .ok (.iload_n 2, 1) := by decide +kernel
theorem dX6_oneYear_70 : decode cX6_oneYear 70 = .ok (.iaload, 1) := by decide +kernel
theorem dX6_oneYear_71 : decode cX6_oneYear 71 = .ok (.i2l, 1) := by decide +kernel
theorem dX6_oneYear_72 : decode cX6_oneYear 72 = .ok (.lmul, 1) := by decide +kernel
theorem dX6_oneYear_73 : decode cX6_oneYear 73 = .ok (.invokevirtual 127, 3) := by decide +kernel
theorem dX6_oneYear_76 : decode cX6_oneYear 76 = .ok (.aload_n 0, 1) := by decide +kernel
theorem dX6_oneYear_77 : decode cX6_oneYear 77 = .ok (.getfield 51, 3) := by decide +kernel
theorem dX6_oneYear_80 : decode cX6_oneYear 80 = .ok (.iconst 4, 1) := by decide +kernel
theorem dX6_oneYear_81 : decode cX6_oneYear 81 = .ok (.dup2, 1) := by decide +kernel
theorem dX6_oneYear_82 : decode cX6_oneYear 82 = .ok (.laload, 1) := by decide +kernel
theorem dX6_oneYear_83 : decode cX6_oneYear 83 = .ok (.aload_n 0, 1) := by decide +kernel
theorem dX6_oneYear_84 : decode cX6_oneYear 84 = .ok (.getfield 48, 3) := by decide +kernel
theorem dX6_oneYear_87 : decode cX6_oneYear 87 = .ok (.iload_n 2, 1) := by decide +kernel
theorem dX6_oneYear_88 : decode cX6_oneYear 88 = .ok (.iaload, 1) := by decide +kernel
theorem dX6_oneYear_89 : decode cX6_oneYear 89 = .ok (.i2l, 1) := by decide +kernel
theorem dX6_oneYear_90 : decode cX6_oneYear 90 = .ok (.ladd, 1) := by decide +kernel
theorem dX6_oneYear_91 : decode cX6_oneYear 91 = .ok (.lastore, 1) := by decide +kernel
theorem dX6_oneYear_92 : decode cX6_oneYear 92 = .ok (.aload_n 0, 1) := by decide +kernel
theorem dX6_oneYear_93 : decode cX6_oneYear 93 = .ok (.getfield 51, 3) := by decide +kernel
theorem dX6_oneYear_96 : decode cX6_oneYear 96 = .ok (.iconst 5, 1) := by decide +kernel
theorem dX6_oneYear_97 : decode cX6_oneYear 97 = .ok (.dup2, 1) := by decide +kernel
theorem dX6_oneYear_98 : decode cX6_oneYear 98 = .ok (.laload, 1) := by decide +kernel
theorem dX6_oneYear_99 : decode cX6_oneYear 99 = .ok (.ldc2_w 142, 3) := by decide +kernel
theorem dX6_oneYear_102 : decode cX6_oneYear 102 = .ok (.aload_n 0, 1) := by decide +kernel
theorem dX6_oneYear_103 : decode cX6_oneYear 103 = .ok (.getfield 48, 3) := by decide +kernel
theorem dX6_oneYear_106 : decode cX6_oneYear 106 = .ok (.iload_n 2, 1) := by decide +kernel
theorem dX6_oneYear_107 : decode cX6_oneYear 107 = .ok (.iaload, 1) := by decide +kernel
theorem dX6_oneYear_108 : decode cX6_oneYear 108 = .ok (.i2l, 1) := by decide +kernel
theorem dX6_oneYear_109 : decode cX6_oneYear 109 = .ok (.lmul, 1) := by decide +kernel
theorem dX6_oneYear_110 : decode cX6_oneYear 110 = .ok (.ladd, 1) := by decide +kernel
theorem dX6_oneYear_111 : decode cX6_oneYear 111 = .ok (.lastore, 1) := by decide +kernel
theorem dX6_oneYear_112 : decode cX6_oneYear 112 = .ok (.iinc 2 1, 3) := by decide +kernel
theorem dX6_oneYear_115 : decode cX6_oneYear 115 = .ok (.goto (-67), 3) := by decide +kernel
theorem dX6_oneYear_118 : decode cX6_oneYear 118 = .ok (.iconst 0, 1) := by decide +kernel
theorem dX6_oneYear_119 : decode cX6_oneYear 119 = .ok (.istore_n 2, 1) := by decide +kernel
theorem dX6_oneYear_120 : decode cX6_oneYear 120 = .ok (.iload_n 2, 1) := by decide +kernel
theorem dX6_oneYear_121 : decode cX6_oneYear 121 = .ok (.aload_n 0, 1) := by decide +kernel
theorem dX6_oneYear_122 : decode cX6_oneYear 122 = .ok (.getfield 72, 3) := by decide +kernel
theorem dX6_oneYear_125 : decode cX6_oneYear 125 = .ok (.if_icmp .ge 32, 3) := by decide +kernel
theorem dX6_oneYear_128 : decode cX6_oneYear 128 = .ok (.aload_n 0, 1) := by decide +kernel
theorem dX6_oneYear_129 : decode cX6_oneYear 129 = .ok (.getfield 16, 3) := by decide +kernel
theorem dX6_oneYear_132 : decode cX6_oneYear 132 = .ok (.iload_n 2, 1) := by decide +kernel
theorem dX6_oneYear_133 : decode cX6_oneYear 133 = .ok (.dup2, 1) := by decide +kernel
theorem dX6_oneYear_134 : decode cX6_oneYear 134 = .ok (.iaload, 1) := by decide +kernel
theorem dX6_oneYear_135 : decode cX6_oneYear 135 = .ok (.aload_n 0, 1) := by decide +kernel
theorem dX6_oneYear_136 : decode cX6_oneYear 136 = .ok (.getfield 19, 3) := by decide +kernel
theorem dX6_oneYear_139 : decode cX6_oneYear 139 = .ok (.iload_n 2, 1) := by decide +kernel
theorem dX6_oneYear_140 : decode cX6_oneYear 140 = .ok (.baload, 1) := by decide +kernel
theorem dX6_oneYear_141 : decode cX6_oneYear 141 = .ok (.ifCond .eq 7, 3) := by decide +kernel
theorem dX6_oneYear_144 : decode cX6_oneYear 144 = .ok (.iconst 1, 1) := by decide +kernel
theorem dX6_oneYear_145 : decode cX6_oneYear 145 = .ok (.goto 4, 3) := by decide +kernel
theorem dX6_oneYear_148 : decode cX6_oneYear 148 = .ok (.iconst 0, 1) := by decide +kernel
theorem dX6_oneYear_149 : decode cX6_oneYear 149 = .ok (.iadd, 1) := by decide +kernel
theorem dX6_oneYear_150 : decode cX6_oneYear 150 = .ok (.iastore, 1) := by decide +kernel
theorem dX6_oneYear_151 : decode cX6_oneYear 151 = .ok (.iinc 2 1, 3) := by decide +kernel
theorem dX6_oneYear_154 : decode cX6_oneYear 154 = .ok (.goto (-34), 3) := by decide +kernel
theorem dX6_oneYear_157 : decode cX6_oneYear 157 = .ok (.aload_n 0, 1) := by decide +kernel
theorem dX6_oneYear_158 : decode cX6_oneYear 158 = .ok (.getfield 51, 3) := by decide +kernel
theorem dX6_oneYear_161 : decode cX6_oneYear 161 = .ok (.bipush 7, 2) := by decide +kernel
theorem dX6_oneYear_163 : decode cX6_oneYear 163 = .ok (.dup2, 1) := by decide +kernel
theorem dX6_oneYear_164 : decode cX6_oneYear 164 = .ok (.laload, 1) := by decide +kernel
theorem dX6_oneYear_165 : decode cX6_oneYear 165 = .ok (.lconst 1, 1) := by decide +kernel
theorem dX6_oneYear_166 : decode cX6_oneYear 166 = .ok (.ladd, 1) := by decide +kernel
theorem dX6_oneYear_167 : decode cX6_oneYear 167 = .ok (.lastore, 1) := by decide +kernel
theorem dX6_oneYear_168 : decode cX6_oneYear 168 = .ok (.return_, 1) := by decide +kernel
set_option maxRecDepth 20000 in
theorem ggX6_year_X6_in : GoodIn wsX6_year wsX6_in := goodIn_r _ [5] (by decide +kernel) (by decide +kernel)
set_option maxRecDepth 20000 in
theorem gX6_year_X6_in : GoodIn wsX6_year (va_wsS RX6 76 yX6_in wsX6_in) := goodIn_app (goodIn_of _ (by decide +kernel)) ggX6_year_X6_in
set_option maxRecDepth 20000 in
theorem ggX6_year_X6_oneYear : GoodIn wsX6_year wsX6_oneYear := goodIn_r _ [9, 1, 10, 11, 12, 13, 14, 15, 16, 17, 4, 18, 19, 20, 21, 22, 23, 24, 25, 26, 27, 28, 29, 30, 31, 32, 33, 34, 35, 36, 37, 38, 39, 40, 41, 42, 43, 44, 45, 46, 47, 48, 49, 50, 51, 52, 53, 54, 55, 56, 57, 58, 59, 60, 61, 62, 63, 64, 65, 66, 67, 68, 69, 70, 71, 72, 73, 74, 75, 76, 77, 78, 79, 80, 81, 82, 83, 84, 85, 86, 87, 88, 89, 90, 91] (by decide +kernel) (by decide +kernel)
set_option maxRecDepth 20000 in
theorem gX6_year_X6_oneYear : GoodIn wsX6_year (wsV RX6 144 RX6 yX6_oneYear wsX6_oneYear) := goodIn_app (goodIn_of _ (by decide +kernel)) ggX6_year_X6_oneYear
theorem dX6_year_0 : decode cX6_year 0 = .ok (.iload_n 1, 1) := by decide +kernel
theorem dX6_year_1 : decode cX6_year 1 = .ok (.iconst 1, 1) := by decide +kernel
theorem dX6_year_2 : decode cX6_year 2 = .ok (.bipush 20, 2) := by decide +kernel
theorem dX6_year_4 : decode cX6_year 4 = .ok (.invokestatic 76, 3) := by decide +kernel
theorem dX6_year_7 : decode cX6_year 7 = .ok (.ifCond .ne 5, 3) := by decide +kernel
theorem dX6_year_10 : decode cX6_year 10 = .ok (.iconst (-1), 1) := by decide +kernel
theorem dX6_year_11 : decode cX6_year 11 = .ok (.ireturn, 1) := by decide +kernel
theorem dX6_year_12 : decode cX6_year 12 = .ok (.iconst 0, 1) := by decide +kernel
theorem dX6_year_13 : decode cX6_year 13 = .ok (.istore_n 2, 1) := by decide +kernel
theorem dX6_year_14 : decode cX6_year 14 = .ok (.iload_n 2, 1) := by decide +kernel
theorem dX6_year_15 : decode cX6_year 15 = .ok (.iload_n 1, 1) := by decide +kernel
theorem dX6_year_16 : decode cX6_year 16 = .ok (.if_icmp .ge 13, 3) := by decide +kernel
theorem dX6_year_19 : decode cX6_year 19 = .ok (.aload_n 0, 1) := by decide +kernel
theorem dX6_year_20 : decode cX6_year 20 = .ok (.invokevirtual 144, 3) := by decide +kernel
theorem dX6_year_23 : decode cX6_year 23 = .ok (.iinc 2 1, 3) := by decide +kernel
theorem dX6_year_26 : decode cX6_year 26 = .ok (.goto (-12), 3) := by decide +kernel
theorem dX6_year_29 : decode cX6_year 29 = .ok (.aload_n 0, 1) := by decide +kernel
theorem dX6_year_30 : decode cX6_year 30 = .ok (.getfield 51, 3) := by decide +kernel
theorem dX6_year_33 : decode cX6_year 33 = .ok (.bipush 7, 2) := by decide +kernel
theorem dX6_year_35 : decode cX6_year 35 = .ok (.laload, 1) := by decide +kernel
theorem dX6_year_36 : decode cX6_year 36 = .ok (.l2i, 1) := by decide +kernel
theorem dX6_year_37 : decode cX6_year 37 = .ok (.ireturn, 1) := by decide +kernel
set_option maxRecDepth 20000 in
theorem ggX6_box_X6_isBox : GoodIn wsX6_box wsX6_isBox := goodIn_r _ [7, 8, 9, 6, 10] (by decide +kernel) (by decide +kernel)
set_option maxRecDepth 20000 in
theorem gX6_box_X6_isBox : GoodIn wsX6_box (va_wsS RX6 109 yX6_isBox wsX6_isBox) := goodIn_app (goodIn_of _ (by decide +kernel)) ggX6_box_X6_isBox
set_option maxRecDepth 20000 in
theorem ggX6_box_X6_in : GoodIn wsX6_box wsX6_in := goodIn_r _ [10] (by decide +kernel) (by decide +kernel)
set_option maxRecDepth 20000 in
theorem gX6_box_X6_in : GoodIn wsX6_box (va_wsS RX6 76 yX6_in wsX6_in) := goodIn_app (goodIn_of _ (by decide +kernel)) ggX6_box_X6_in
theorem dX6_box_0 : decode cX6_box 0 = .ok (.iload_n 1, 1) := by decide +kernel
theorem dX6_box_1 : decode cX6_box 1 = .ok (.invokestatic 109, 3) := by decide +kernel
theorem dX6_box_4 : decode cX6_box 4 = .ok (.ifCond .eq 12, 3) := by decide +kernel
theorem dX6_box_7 : decode cX6_box 7 = .ok (.iload_n 2, 1) := by decide +kernel
theorem dX6_box_8 : decode cX6_box 8 = .ok (.iconst 0, 1) := by decide +kernel
theorem dX6_box_9 : decode cX6_box 9 = .ok (.iconst 1, 1) := by decide +kernel
theorem dX6_box_10 : decode cX6_box 10 = .ok (.invokestatic 76, 3) := by decide +kernel
theorem dX6_box_13 : decode cX6_box 13 = .ok (.ifCond .ne 9, 3) := by decide +kernel
theorem dX6_box_16 : decode cX6_box 16 = .ok (.ldc2_w 147, 3) := by decide +kernel
theorem dX6_box_19 : decode cX6_box 19 = .ok (.goto 22, 3) := by decide +kernel
theorem dX6_box_22 : decode cX6_box 22 = .ok (.iload_n 2, 1) := by decide +kernel
theorem dX6_box_23 : decode cX6_box 23 = .ok (.ifCond .ne 12, 3) := by decide +kernel
theorem dX6_box_26 : decode cX6_box 26 = .ok (.aload_n 0, 1) := by decide +kernel
theorem dX6_box_27 : decode cX6_box 27 = .ok (.getfield 38, 3) := by decide +kernel
theorem dX6_box_30 : decode cX6_box 30 = .ok (.iload_n 1, 1) := by decide +kernel
theorem dX6_box_31 : decode cX6_box 31 = .ok (.laload, 1) := by decide +kernel
theorem dX6_box_32 : decode cX6_box 32 = .ok (.goto 9, 3) := by decide +kernel
theorem dX6_box_35 : decode cX6_box 35 = .ok (.aload_n 0, 1) := by decide +kernel
theorem dX6_box_36 : decode cX6_box 36 = .ok (.getfield 42, 3) := by decide +kernel
theorem dX6_box_39 : decode cX6_box 39 = .ok (.iload_n 1, 1) := by decide +kernel
theorem dX6_box_40 : decode cX6_box 40 = .ok (.laload, 1) := by decide +kernel
theorem dX6_box_41 : decode cX6_box 41 = .ok (.lreturn, 1) := by decide +kernel
set_option maxRecDepth 20000 in
theorem ggX6_sum_X6_in : GoodIn wsX6_sum wsX6_in := goodIn_r _ [6] (by decide +kernel) (by decide +kernel)
set_option maxRecDepth 20000 in
theorem gX6_sum_X6_in : GoodIn wsX6_sum (va_wsS RX6 76 yX6_in wsX6_in) := goodIn_app (goodIn_of _ (by decide +kernel)) ggX6_sum_X6_in
theorem dX6_sum_0 : decode cX6_sum 0 = .ok (.iload_n 1, 1) := by decide +kernel
theorem dX6_sum_1 : decode cX6_sum 1 = .ok (.iconst 0, 1) := by decide +kernel
theorem dX6_sum_2 : decode cX6_sum 2 = .ok (.bipush 8, 2) := by decide +kernel
theorem dX6_sum_4 : decode cX6_sum 4 = .ok (.invokestatic 76, 3) := by decide +kernel
theorem dX6_sum_7 : decode cX6_sum 7 = .ok (.ifCond .eq 12, 3) := by decide +kernel
theorem dX6_sum_10 : decode cX6_sum 10 = .ok (.aload_n 0, 1) := by decide +kernel
theorem dX6_sum_11 : decode cX6_sum 11 = .ok (.getfield 51, 3) := by decide +kernel
theorem dX6_sum_14 : decode cX6_sum 14 = .ok (.iload_n 1, 1) := by decide +kernel
theorem dX6_sum_15 : decode cX6_sum 15 = .ok (.laload, 1) := by decide +kernel
theorem dX6_sum_16 : decode cX6_sum 16 = .ok (.goto 6, 3) := by decide +kernel
theorem dX6_sum_19 : decode cX6_sum 19 = .ok (.ldc2_w 147, 3) := by decide +kernel
theorem dX6_sum_22 : decode cX6_sum 22 = .ok (.lreturn, 1) := by decide +kernel
set_option maxRecDepth 20000 in
theorem ggX6_share_X6_in : GoodIn wsX6_share wsX6_in := goodIn_r _ [5] (by decide +kernel) (by decide +kernel)
set_option maxRecDepth 20000 in
theorem gX6_share_X6_in : GoodIn wsX6_share (va_wsS RX6 76 yX6_in wsX6_in) := goodIn_app (goodIn_of _ (by decide +kernel)) ggX6_share_X6_in
theorem dX6_share_0 : decode cX6_share 0 = .ok (.iload_n 1, 1) := by decide +kernel
theorem dX6_share_1 : decode cX6_share 1 = .ok (.iconst 0, 1) := by decide +kernel
theorem dX6_share_2 : decode cX6_share 2 = .ok (.iconst 5, 1) := by decide +kernel
theorem dX6_share_3 : decode cX6_share 3 = .ok (.invokestatic 76, 3) := by decide +kernel
theorem dX6_share_6 : decode cX6_share 6 = .ok (.ifCond .eq 14, 3) := by decide +kernel
theorem dX6_share_9 : decode cX6_share 9 = .ok (.iload_n 2, 1) := by decide +kernel
theorem dX6_share_10 : decode cX6_share 10 = .ok (.iconst 0, 1) := by decide +kernel
theorem dX6_share_11 : decode cX6_share 11 = .ok (.sipush 1000, 3) := by decide +kernel
theorem dX6_share_14 : decode cX6_share 14 = .ok (.invokestatic 76, 3) := by decide +kernel
theorem dX6_share_17 : decode cX6_share 17 = .ok (.ifCond .ne 5, 3) := by decide +kernel
theorem dX6_share_20 : decode cX6_share 20 = .ok (.iconst (-1), 1) := by decide +kernel
theorem dX6_share_21 : decode cX6_share 21 = .ok (.ireturn, 1) := by decide +kernel
theorem dX6_share_22 : decode cX6_share 22 = .ok (.iload_n 2, 1) := by decide +kernel
theorem dX6_share_23 : decode cX6_share 23 = .ok (.istore_n 3, 1) := by decide +kernel
theorem dX6_share_24 : decode cX6_share 24 = .ok (.iconst 0, 1) := by decide +kernel
theorem dX6_share_25 : decode cX6_share 25 = .ok (.istore 4, 2) := by decide +kernel
theorem dX6_share_27 : decode cX6_share 27 = .ok (.iload 4, 2) := by decide +kernel
theorem dX6_share_29 : decode cX6_share 29 = .ok (.bipush 6, 2) := by decide +kernel
theorem dX6_share_31 : decode cX6_share 31 = .ok (.if_icmp .ge 29, 3) := by decide +kernel
theorem dX6_share_34 : decode cX6_share 34 = .ok (.iload_n 3, 1) := by decide +kernel
theorem dX6_share_35 : decode cX6_share 35 = .ok (.iload 4, 2) := by decide +kernel
theorem dX6_share_37 : decode cX6_share 37 = .ok (.iload_n 1, 1) := by decide +kernel
theorem dX6_share_38 : decode cX6_share 38 = .ok (.if_icmp .ne 7, 3) := by decide +kernel
theorem dX6_share_41 : decode cX6_share 41 = .ok (.iconst 0, 1) := by decide +kernel
theorem dX6_share_42 : decode cX6_share 42 = .ok (.goto 10, 3) := by decide +kernel
theorem dX6_share_45 : decode cX6_share 45 = .ok (.aload_n 0, 1) := by decide +kernel
theorem dX6_share_46 : decode cX6_share 46 = .ok (.getfield 54, 3) := by decide +kernel
theorem dX6_share_49 : decode cX6_share 49 = .ok (.iload 4, 2) := by decide +kernel
theorem dX6_share_51 : decode cX6_share 51 = .ok (.iaload, 1) := by decide +kernel
theorem dX6_share_52 : decode cX6_share 52 = .ok (.iadd, 1) := by decide +kernel
theorem dX6_share_53 : decode cX6_share 53 = .ok (.istore_n 3, 1) := by decide +kernel
theorem dX6_share_54 : decode cX6_share 54 = .ok (.iinc 4 1, 3) := by decide +kernel
theorem dX6_share_57 : decode cX6_share 57 = .ok (.goto (-30), 3) := by decide +kernel
theorem dX6_share_60 : decode cX6_share 60 = .ok (.iload_n 3, 1) := by decide +kernel
theorem dX6_share_61 : decode cX6_share 61 = .ok (.sipush 1000, 3) := by decide +kernel
theorem dX6_share_64 : decode cX6_share 64 = .ok (.if_icmp .le 5, 3) := by decide +kernel
theorem dX6_share_67 : decode cX6_share 67 = .ok (.iconst (-1), 1) := by decide +kernel
theorem dX6_share_68 : decode cX6_share 68 = .ok (.ireturn, 1) := by decide +kernel
theorem dX6_share_69 : decode cX6_share 69 = .ok (.aload_n 0, 1) := by decide +kernel
theorem dX6_share_70 : decode cX6_share 70 = .ok (.getfield 54, 3) := by decide +kernel
theorem dX6_share_73 : decode cX6_share 73 = .ok (.iload_n 1, 1) := by decide +kernel
theorem dX6_share_74 : decode cX6_share 74 = .ok (.iaload, 1) := by decide +kernel
theorem dX6_share_75 : decode cX6_share 75 = .ok (.istore 4, 2) := by decide +kernel
theorem dX6_share_77 : decode cX6_share 77 = .ok (.aload_n 0, 1) := by decide +kernel
theorem dX6_share_78 : decode cX6_share 78 = .ok (.getfield 54, 3) := by decide +kernel
theorem dX6_share_81 : decode cX6_share 81 = .ok (.iload_n 1, 1) := by decide +kernel
theorem dX6_share_82 : decode cX6_share 82 = .ok (.iload_n 2, 1) := by decide +kernel
theorem dX6_share_83 : decode cX6_share 83 = .ok (.iastore, 1) := by decide +kernel
theorem dX6_share_84 : decode cX6_share 84 = .ok (.iload 4, 2) := by decide +kernel
theorem dX6_share_86 : decode cX6_share 86 = .ok (.ireturn, 1) := by decide +kernel
set_option maxRecDepth 20000 in
theorem ggX6_put_X6_in : GoodIn wsX6_put wsX6_in := goodIn_r _ [7] (by decide +kernel) (by decide +kernel)
set_option maxRecDepth 20000 in
theorem gX6_put_X6_in : GoodIn wsX6_put (va_wsS RX6 76 yX6_in wsX6_in) := goodIn_app (goodIn_of _ (by decide +kernel)) ggX6_put_X6_in
theorem dX6_put_0 : decode cX6_put 0 = .ok (.iload_n 1, 1) := by decide +kernel
theorem dX6_put_1 : decode cX6_put 1 = .ok (.iconst 0, 1) := by decide +kernel
theorem dX6_put_2 : decode cX6_put 2 = .ok (.ldc 149, 2) := by decide +kernel
theorem dX6_put_4 : decode cX6_put 4 = .ok (.invokestatic 76, 3) := by decide +kernel
theorem dX6_put_7 : decode cX6_put 7 = .ok (.ifCond .ne 5, 3) := by decide +kernel
theorem dX6_put_10 : decode cX6_put 10 = .ok (.iconst (-1), 1) := by decide +kernel
theorem dX6_put_11 : decode cX6_put 11 = .ok (.ireturn, 1) := by decide +kernel
theorem dX6_put_12 : decode cX6_put 12 = .ok (.aload_n 0, 1) := by decide +kernel
theorem dX6_put_13 : decode cX6_put 13 = .ok (.getfield 150, 3) := by decide +kernel
theorem dX6_put_16 : decode cX6_put 16 = .ok (.bipush 12, 2) := by decide +kernel
theorem dX6_put_18 : decode cX6_put 18 = .ok (.if_icmp .ne 6, 3) := by decide +kernel
theorem dX6_put_21 : decode cX6_put 21 = .ok (.bipush (-3), 2) := by decide +kernel
theorem dX6_put_23 : decode cX6_put 23 = .ok (.ireturn, 1) := by decide +kernel
theorem dX6_put_24 : decode cX6_put 24 = .ok (.aload_n 0, 1) := by decide +kernel
theorem dX6_put_25 : decode cX6_put 25 = .ok (.getfield 57, 3) := by decide +kernel
theorem dX6_put_28 : decode cX6_put 28 = .ok (.aload_n 0, 1) := by decide +kernel
theorem dX6_put_29 : decode cX6_put 29 = .ok (.getfield 150, 3) := by decide +kernel
theorem dX6_put_32 : decode cX6_put 32 = .ok (.iload_n 1, 1) := by decide +kernel
theorem dX6_put_33 : decode cX6_put 33 = .ok (.iastore, 1) := by decide +kernel
theorem dX6_put_34 : decode cX6_put 34 = .ok (.aload_n 0, 1) := by decide +kernel
theorem dX6_put_35 : decode cX6_put 35 = .ok (.dup, 1) := by decide +kernel
theorem dX6_put_36 : decode cX6_put 36 = .ok (.getfield 150, 3) := by decide +kernel
theorem dX6_put_39 : decode cX6_put 39 = .ok (.iconst 1, 1) := by decide +kernel
theorem dX6_put_40 : decode cX6_put 40 = .ok (.iadd, 1) := by decide +kernel
theorem dX6_put_41 : decode cX6_put 41 = .ok (.putfield 150, 3) := by decide +kernel
theorem dX6_put_44 : decode cX6_put 44 = .ok (.aload_n 0, 1) := by decide +kernel
theorem dX6_put_45 : decode cX6_put 45 = .ok (.getfield 150, 3) := by decide +kernel
theorem dX6_put_48 : decode cX6_put 48 = .ok (.ireturn, 1) := by decide +kernel
set_option maxRecDepth 20000 in
theorem ggX6_back_X6_in : GoodIn wsX6_back wsX6_in := goodIn_r _ [7] (by decide +kernel) (by decide +kernel)
set_option maxRecDepth 20000 in
theorem gX6_back_X6_in : GoodIn wsX6_back (va_wsS RX6 76 yX6_in wsX6_in) := goodIn_app (goodIn_of _ (by decide +kernel)) ggX6_back_X6_in
theorem dX6_back_0 : decode cX6_back 0 = .ok (.iload_n 1, 1) := by decide +kernel
theorem dX6_back_1 : decode cX6_back 1 = .ok (.iconst 0, 1) := by decide +kernel
theorem dX6_back_2 : decode cX6_back 2 = .ok (.bipush 16, 2) := by decide +kernel
theorem dX6_back_4 : decode cX6_back 4 = .ok (.invokestatic 76, 3) := by decide +kernel
theorem dX6_back_7 : decode cX6_back 7 = .ok (.ifCond .ne 5, 3) := by decide +kernel
theorem dX6_back_10 : decode cX6_back 10 = .ok (.iconst (-1), 1) := by decide +kernel
theorem dX6_back_11 : decode cX6_back 11 = .ok (.ireturn, 1) := by decide +kernel
theorem dX6_back_12 : decode cX6_back 12 = .ok (.iconst 0, 1) := by decide +kernel
theorem dX6_back_13 : decode cX6_back 13 = .ok (.istore_n 2, 1) := by decide +kernel
theorem dX6_back_14 : decode cX6_back 14 = .ok (.iconst 0, 1) := by decide +kernel
theorem dX6_back_15 : decode cX6_back 15 = .ok (.istore_n 3, 1) := by decide +kernel
theorem dX6_back_16 : decode cX6_back 16 = .ok (.iload_n 3, 1) := by decide +kernel
theorem dX6_back_17 : decode cX6_back 17 = .ok (.aload_n 0, 1) := by decide +kernel
theorem dX6_back_18 : decode cX6_back 18 = .ok (.getfield 150, 3) := by decide +kernel
theorem dX6_back_21 : decode cX6_back 21 = .ok (.if_icmp .ge 49, 3) := by decide +kernel
theorem dX6_back_24 : decode cX6_back 24 = .ok (.iload_n 1, 1) := by decide +kernel
theorem dX6_back_25 : decode cX6_back 25 = .ok (.iload_n 3, 1) := by decide +kernel
theorem dX6_back_26 : decode cX6_back 26 = .ok (.isub, 1) := by decide +kernel
theorem dX6_back_27 : decode cX6_back 27 = .ok (.istore 4, 2) := by decide +kernel
theorem dX6_back_29 : decode cX6_back 29 = .ok (.iload_n 2, 1) := by decide +kernel
theorem dX6_back_30 : decode cX6_back 30 = .ok (.iload 4, 2) := by decide +kernel
theorem dX6_back_32 : decode cX6_back 32 = .ok (.iconst 0, 1) := by decide +kernel
theorem dX6_back_33 : decode cX6_back 33 = .ok (.iconst 5, 1) := by decide +kernel
theorem dX6_back_34 : decode cX6_back 34 = .ok (.invokestatic 76, 3) := by decide +kernel
theorem dX6_back_37 : decode cX6_back 37 = .ok (.ifCond .eq 24, 3) := by decide +kernel
theorem dX6_back_40 : decode cX6_back 40 = .ok (.aload_n 0, 1) := by decide +kernel
theorem dX6_back_41 : decode cX6_back 41 = .ok (.getfield 57, 3) := by decide +kernel
theorem dX6_back_44 : decode cX6_back 44 = .ok (.iload_n 3, 1) := by decide +kernel
theorem dX6_back_45 : decode cX6_back 45 = .ok (.iaload, 1) := by decide +kernel
theorem dX6_back_46 : decode cX6_back 46 = .ok (.aload_n 0, 1) := by decide +kernel
theorem dX6_back_47 : decode cX6_back 47 = .ok (.getfield 54, 3) := by decide +kernel
theorem dX6_back_50 : decode cX6_back 50 = .ok (.iload 4, 2) := by decide +kernel
theorem dX6_back_52 : decode cX6_back 52 = .ok (.iaload, 1) := by decide +kernel
theorem dX6_back_53 : decode cX6_back 53 = .ok (.imul, 1) := by decide +kernel
theorem dX6_back_54 : decode cX6_back 54 = .ok (.sipush 1000, 3) := by decide +kernel
theorem dX6_back_57 : decode cX6_back 57 = .ok (.idiv, 1) := by decide +kernel
theorem dX6_back_58 : decode cX6_back 58 = .ok (.goto 4, 3) := by decide +kernel
theorem dX6_back_61 : decode cX6_back 61 = .ok (.iconst 0, 1) := by decide +kernel
theorem dX6_back_62 : decode cX6_back 62 = .ok (.iadd, 1) := by decide +kernel
theorem dX6_back_63 : decode cX6_back 63 = .ok (.istore_n 2, 1) := by decide +kernel
theorem dX6_back_64 : decode cX6_back 64 = .ok (.iinc 3 1, 3) := by decide +kernel
theorem dX6_back_67 : decode cX6_back 67 = .ok (.goto (-51), 3) := by decide +kernel
theorem dX6_back_70 : decode cX6_back 70 = .ok (.iload_n 2, 1) := by decide +kernel
theorem dX6_back_71 : decode cX6_back 71 = .ok (.ireturn, 1) := by decide +kernel
theorem dX6_cut_0 : decode cX6_cut 0 = .ok (.aload_n 0, 1) := by decide +kernel
theorem dX6_cut_1 : decode cX6_cut 1 = .ok (.getfield 150, 3) := by decide +kernel
theorem dX6_cut_4 : decode cX6_cut 4 = .ok (.ifCond .ne 6, 3) := by decide +kernel
theorem dX6_cut_7 : decode cX6_cut 7 = .ok (.bipush (-2), 2) := by decide +kernel
theorem dX6_cut_9 : decode cX6_cut 9 = .ok (.ireturn, 1) := by decide +kernel
theorem dX6_cut_10 : decode cX6_cut 10 = .ok (.aload_n 0, 1) := by decide +kernel
theorem dX6_cut_11 : decode cX6_cut 11 = .ok (.dup, 1) := by decide +kernel
theorem dX6_cut_12 : decode cX6_cut 12 = .ok (.getfield 150, 3) := by decide +kernel
theorem dX6_cut_15 : decode cX6_cut 15 = .ok (.iconst 1, 1) := by decide +kernel
theorem dX6_cut_16 : decode cX6_cut 16 = .ok (.isub, 1) := by decide +kernel
theorem dX6_cut_17 : decode cX6_cut 17 = .ok (.putfield 150, 3) := by decide +kernel
theorem dX6_cut_20 : decode cX6_cut 20 = .ok (.aload_n 0, 1) := by decide +kernel
theorem dX6_cut_21 : decode cX6_cut 21 = .ok (.getfield 150, 3) := by decide +kernel
theorem dX6_cut_24 : decode cX6_cut 24 = .ok (.ireturn, 1) := by decide +kernel
set_option maxRecDepth 20000 in
theorem ggX6_candidate_X6_in : GoodIn wsX6_candidate wsX6_in := goodIn_r _ [8] (by decide +kernel) (by decide +kernel)
set_option maxRecDepth 20000 in
theorem gX6_candidate_X6_in : GoodIn wsX6_candidate (va_wsS RX6 76 yX6_in wsX6_in) := goodIn_app (goodIn_of _ (by decide +kernel)) ggX6_candidate_X6_in
theorem dX6_candidate_0 : decode cX6_candidate 0 = .ok (.iload_n 1, 1) := by decide +kernel
theorem dX6_candidate_1 : decode cX6_candidate 1 = .ok (.iconst 1, 1) := by decide +kernel
theorem dX6_candidate_2 : decode cX6_candidate 2 = .ok (.sipush 1000, 3) := by decide +kernel
theorem dX6_candidate_5 : decode cX6_candidate 5 = .ok (.invokestatic 76, 3) := by decide +kernel
theorem dX6_candidate_8 : decode cX6_candidate 8 = .ok (.ifCond .eq 23, 3) := by decide +kernel
theorem dX6_candidate_11 : decode cX6_candidate 11 = .ok (.iload_n 2, 1) := by decide +kernel
theorem dX6_candidate_12 : decode cX6_candidate 12 = .ok (.iconst 0, 1) := by decide +kernel
theorem dX6_candidate_13 : decode cX6_candidate 13 = .ok (.iconst 5, 1) := by decide +kernel
theorem dX6_candidate_14 : decode cX6_candidate 14 = .ok (.invokestatic 76, 3) := by decide +kernel
theorem dX6_candidate_17 : decode cX6_candidate 17 = .ok (.ifCond .eq 14, 3) := by decide +kernel
theorem dX6_candidate_20 : decode cX6_candidate 20 = .ok (.iload_n 3, 1) := by decide +kernel
theorem dX6_candidate_21 : decode cX6_candidate 21 = .ok (.iconst 1, 1) := by decide +kernel
theorem dX6_candidate_22 : decode cX6_candidate 22 = .ok (.sipush 500, 3) := by decide +kernel
theorem dX6_candidate_25 : decode cX6_candidate 25 = .ok (.invokestatic 76, 3) := by decide +kernel
theorem dX6_candidate_28 : decode cX6_candidate 28 = .ok (.ifCond .ne 5, 3) := by decide +kernel
theorem dX6_candidate_31 : decode cX6_candidate 31 = .ok (.iconst (-1), 1) := by decide +kernel
theorem dX6_candidate_32 : decode cX6_candidate 32 = .ok (.ireturn, 1) := by decide +kernel
theorem dX6_candidate_33 : decode cX6_candidate 33 = .ok (.aload_n 0, 1) := by decide +kernel
theorem dX6_candidate_34 : decode cX6_candidate 34 = .ok (.getfield 153, 3) := by decide +kernel
theorem dX6_candidate_37 : decode cX6_candidate 37 = .ok (.bipush 8, 2) := by decide +kernel
theorem dX6_candidate_39 : decode cX6_candidate 39 = .ok (.if_icmp .ne 6, 3) := by decide +kernel
theorem dX6_candidate_42 : decode cX6_candidate 42 = .ok (.bipush (-3), 2) := by decide +kernel
theorem dX6_candidate_44 : decode cX6_candidate 44 = .ok (.ireturn, 1) := by decide +kernel
theorem dX6_candidate_45 : decode cX6_candidate 45 = .ok (.aload_n 0, 1) := by decide +kernel
theorem dX6_candidate_46 : decode cX6_candidate 46 = .ok (.getfield 60, 3) := by decide +kernel
theorem dX6_candidate_49 : decode cX6_candidate 49 = .ok (.aload_n 0, 1) := by decide +kernel
theorem dX6_candidate_50 : decode cX6_candidate 50 = .ok (.getfield 153, 3) := by decide +kernel
theorem dX6_candidate_53 : decode cX6_candidate 53 = .ok (.iload_n 1, 1) := by decide +kernel
theorem dX6_candidate_54 : decode cX6_candidate 54 = .ok (.iastore, 1) := by decide +kernel
theorem dX6_candidate_55 : decode cX6_candidate 55 = .ok (.aload_n 0, 1) := by decide +kernel
theorem dX6_candidate_56 : decode cX6_candidate 56 = .ok (.getfield 63, 3) := by decide +kernel
theorem dX6_candidate_59 : decode cX6_candidate 59 = .ok (.aload_n 0, 1) := by decide +kernel
theorem dX6_candidate_60 : decode cX6_candidate 60 = .ok (.getfield 153, 3) := by decide +kernel
theorem dX6_candidate_63 : decode cX6_candidate 63 = .ok (.iload_n 2, 1) := by decide +kernel
theorem dX6_candidate_64 : decode cX6_candidate 64 = .ok (.iastore, 1) := by decide +kernel
theorem dX6_candidate_65 : decode cX6_candidate 65 = .ok (.aload_n 0, 1) := by decide +kernel
theorem dX6_candidate_66 : decode cX6_candidate 66 = .ok (.getfield 66, 3) := by decide +kernel
theorem dX6_candidate_69 : decode cX6_candidate 69 = .ok (.aload_n 0, 1) := by decide +kernel
theorem dX6_candidate_70 : decode cX6_candidate 70 = .ok (.getfield 153, 3) := by decide +kernel
theorem dX6_candidate_73 : decode cX6_candidate 73 = .ok (.iload_n 3, 1) := by decide +kernel
theorem dX6_candidate_74 : decode cX6_candidate 74 = .ok (.iastore, 1) := by decide +kernel
theorem dX6_candidate_75 : decode cX6_candidate 75 = .ok (.aload_n 0, 1) := by decide +kernel
theorem dX6_candidate_76 : decode cX6_candidate 76 = .ok (.dup, 1) := by decide +kernel
theorem dX6_candidate_77 : decode cX6_candidate 77 = .ok (.getfield 153, 3) := by decide +kernel
theorem dX6_candidate_80 : decode cX6_candidate 80 = .ok (.iconst 1, 1) := by decide +kernel
theorem dX6_candidate_81 : decode cX6_candidate 81 = .ok (.iadd, 1) := by decide +kernel
theorem dX6_candidate_82 : decode cX6_candidate 82 = .ok (.putfield 153, 3) := by decide +kernel
theorem dX6_candidate_85 : decode cX6_candidate 85 = .ok (.aload_n 0, 1) := by decide +kernel
theorem dX6_candidate_86 : decode cX6_candidate 86 = .ok (.getfield 153, 3) := by decide +kernel
theorem dX6_candidate_89 : decode cX6_candidate 89 = .ok (.iconst 1, 1) := by decide +kernel
theorem dX6_candidate_90 : decode cX6_candidate 90 = .ok (.isub, 1) := by decide +kernel
theorem dX6_candidate_91 : decode cX6_candidate 91 = .ok (.ireturn, 1) := by decide +kernel
set_option maxRecDepth 20000 in
theorem ggX6_promise_X6_in : GoodIn wsX6_promise wsX6_in := goodIn_r _ [5] (by decide +kernel) (by decide +kernel)
set_option maxRecDepth 20000 in
theorem gX6_promise_X6_in : GoodIn wsX6_promise (va_wsS RX6 76 yX6_in wsX6_in) := goodIn_app (goodIn_of _ (by decide +kernel)) ggX6_promise_X6_in
theorem dX6_promise_0 : decode cX6_promise 0 = .ok (.iload_n 1, 1) := by decide +kernel
theorem dX6_promise_1 : decode cX6_promise 1 = .ok (.iconst 0, 1) := by decide +kernel
theorem dX6_promise_2 : decode cX6_promise 2 = .ok (.iconst 5, 1) := by decide +kernel
theorem dX6_promise_3 : decode cX6_promise 3 = .ok (.invokestatic 76, 3) := by decide +kernel
theorem dX6_promise_6 : decode cX6_promise 6 = .ok (.ifCond .eq 14, 3) := by decide +kernel
theorem dX6_promise_9 : decode cX6_promise 9 = .ok (.iload_n 2, 1) := by decide +kernel
theorem dX6_promise_10 : decode cX6_promise 10 = .ok (.iconst 0, 1) := by decide +kernel
theorem dX6_promise_11 : decode cX6_promise 11 = .ok (.sipush 3000, 3) := by decide +kernel
theorem dX6_promise_14 : decode cX6_promise 14 = .ok (.invokestatic 76, 3) := by decide +kernel
theorem dX6_promise_17 : decode cX6_promise 17 = .ok (.ifCond .ne 5, 3) := by decide +kernel
theorem dX6_promise_20 : decode cX6_promise 20 = .ok (.iconst (-1), 1) := by decide +kernel
theorem dX6_promise_21 : decode cX6_promise 21 = .ok (.ireturn, 1) := by decide +kernel
theorem dX6_promise_22 : decode cX6_promise 22 = .ok (.aload_n 0, 1) := by decide +kernel
theorem dX6_promise_23 : decode cX6_promise 23 = .ok (.getfield 69, 3) := by decide +kernel
theorem dX6_promise_26 : decode cX6_promise 26 = .ok (.iload_n 1, 1) := by decide +kernel
theorem dX6_promise_27 : decode cX6_promise 27 = .ok (.iaload, 1) := by decide +kernel
theorem dX6_promise_28 : decode cX6_promise 28 = .ok (.istore_n 3, 1) := by decide +kernel
theorem dX6_promise_29 : decode cX6_promise 29 = .ok (.aload_n 0, 1) := by decide +kernel
theorem dX6_promise_30 : decode cX6_promise 30 = .ok (.getfield 69, 3) := by decide +kernel
theorem dX6_promise_33 : decode cX6_promise 33 = .ok (.iload_n 1, 1) := by decide +kernel
theorem dX6_promise_34 : decode cX6_promise 34 = .ok (.iload_n 2, 1) := by decide +kernel
theorem dX6_promise_35 : decode cX6_promise 35 = .ok (.iastore, 1) := by decide +kernel
theorem dX6_promise_36 : decode cX6_promise 36 = .ok (.iload_n 3, 1) := by decide +kernel
theorem dX6_promise_37 : decode cX6_promise 37 = .ok (.ireturn, 1) := by decide +kernel
theorem dX6_lack_0 : decode cX6_lack 0 = .ok (.aload_n 0, 1) := by decide +kernel
theorem dX6_lack_1 : decode cX6_lack 1 = .ok (.getfield 69, 3) := by decide +kernel
theorem dX6_lack_4 : decode cX6_lack 4 = .ok (.iload_n 2, 1) := by decide +kernel
theorem dX6_lack_5 : decode cX6_lack 5 = .ok (.iaload, 1) := by decide +kernel
theorem dX6_lack_6 : decode cX6_lack 6 = .ok (.istore_n 3, 1) := by decide +kernel
theorem dX6_lack_7 : decode cX6_lack 7 = .ok (.iconst 0, 1) := by decide +kernel
theorem dX6_lack_8 : decode cX6_lack 8 = .ok (.istore 4, 2) := by decide +kernel
theorem dX6_lack_10 : decode cX6_lack 10 = .ok (.iload 4, 2) := by decide +kernel
theorem dX6_lack_12 : decode cX6_lack 12 = .ok (.aload_n 0, 1) := by decide +kernel
theorem dX6_lack_13 : decode cX6_lack 13 = .ok (.getfield 153, 3) := by decide +kernel
theorem dX6_lack_16 : decode cX6_lack 16 = .ok (.if_icmp .ge 44, 3) := by decide +kernel
theorem dX6_lack_19 : decode cX6_lack 19 = .ok (.iload_n 3, 1) := by decide +kernel
theorem dX6_lack_20 : decode cX6_lack 20 = .ok (.iload_n 1, 1) := by decide +kernel
theorem dX6_lack_21 : decode cX6_lack 21 = .ok (.iload 4, 2) := by decide +kernel
theorem dX6_lack_23 : decode cX6_lack 23 = .ok (.ishr, 1) := by decide +kernel
theorem dX6_lack_24 : decode cX6_lack 24 = .ok (.iconst 1, 1) := by decide +kernel
theorem dX6_lack_25 : decode cX6_lack 25 = .ok (.iand, 1) := by decide +kernel
theorem dX6_lack_26 : decode cX6_lack 26 = .ok (.iconst 1, 1) := by decide +kernel
theorem dX6_lack_27 : decode cX6_lack 27 = .ok (.if_icmp .ne 24, 3) := by decide +kernel
theorem dX6_lack_30 : decode cX6_lack 30 = .ok (.aload_n 0, 1) := by decide +kernel
theorem dX6_lack_31 : decode cX6_lack 31 = .ok (.getfield 63, 3) := by decide +kernel
theorem dX6_lack_34 : decode cX6_lack 34 = .ok (.iload 4, 2) := by decide +kernel
theorem dX6_lack_36 : decode cX6_lack 36 = .ok (.iaload, 1) := by decide +kernel
theorem dX6_lack_37 : decode cX6_lack 37 = .ok (.iload_n 2, 1) := by decide +kernel
theorem dX6_lack_38 : decode cX6_lack 38 = .ok (.if_icmp .gt 13, 3) := by decide +kernel
theorem dX6_lack_41 : decode cX6_lack 41 = .ok (.aload_n 0, 1) := by decide +kernel
theorem dX6_lack_42 : decode cX6_lack 42 = .ok (.getfield 66, 3) := by decide +kernel
theorem dX6_lack_45 : decode cX6_lack 45 = .ok (.iload 4, 2) := by decide +kernel
theorem dX6_lack_47 : decode cX6_lack 47 = .ok (.iaload, 1) := by decide +kernel
theorem dX6_lack_48 : decode cX6_lack 48 = .ok (.goto 4, 3) := by decide +kernel
theorem dX6_lack_51 : decode cX6_lack 51 = .ok (.iconst 0, 1) := by decide +kernel
theorem dX6_lack_52 : decode cX6_lack 52 = .ok (.isub, 1) := by decide +kernel
theorem dX6_lack_53 : decode cX6_lack 53 = .ok (.istore_n 3, 1) := by decide +kernel
theorem dX6_lack_54 : decode cX6_lack 54 = .ok (.iinc 4 1, 3) := by decide +kernel
theorem dX6_lack_57 : decode cX6_lack 57 = .ok (.goto (-47), 3) := by decide +kernel
theorem dX6_lack_60 : decode cX6_lack 60 = .ok (.iload_n 3, 1) := by decide +kernel
theorem dX6_lack_61 : decode cX6_lack 61 = .ok (.ifCond .ge 7, 3) := by decide +kernel
theorem dX6_lack_64 : decode cX6_lack 64 = .ok (.iconst 0, 1) := by decide +kernel
theorem dX6_lack_65 : decode cX6_lack 65 = .ok (.goto 4, 3) := by decide +kernel
theorem dX6_lack_68 : decode cX6_lack 68 = .ok (.iload_n 3, 1) := by decide +kernel
theorem dX6_lack_69 : decode cX6_lack 69 = .ok (.ireturn, 1) := by decide +kernel
theorem dX6_costOf_0 : decode cX6_costOf 0 = .ok (.iconst 0, 1) := by decide +kernel
theorem dX6_costOf_1 : decode cX6_costOf 1 = .ok (.istore_n 2, 1) := by decide +kernel
theorem dX6_costOf_2 : decode cX6_costOf 2 = .ok (.iconst 0, 1) := by decide +kernel
theorem dX6_costOf_3 : decode cX6_costOf 3 = .ok (.istore_n 3, 1) := by decide +kernel
theorem dX6_costOf_4 : decode cX6_costOf 4 = .ok (.iload_n 3, 1) := by decide +kernel
theorem dX6_costOf_5 : decode cX6_costOf 5 = .ok (.aload_n 0, 1) := by decide +kernel
theorem dX6_costOf_6 : decode cX6_costOf 6 = .ok (.getfield 153, 3) := by decide +kernel
theorem dX6_costOf_9 : decode cX6_costOf 9 = .ok (.if_icmp .ge 31, 3) := by decide +kernel
theorem dX6_costOf_12 : decode cX6_costOf 12 = .ok (.iload_n 2, 1) := by decide +kernel
theorem dX6_costOf_13 : decode cX6_costOf 13 = .ok (.iload_n 1, 1) := by decide +kernel
theorem dX6_costOf_14 : decode cX6_costOf 14 = .ok (.iload_n 3, 1) := by decide +kernel
theorem dX6_costOf_15 : decode cX6_costOf 15 = .ok (.ishr, 1) := by decide +kernel
theorem dX6_costOf_16 : decode cX6_costOf 16 = .ok (.iconst 1, 1) := by decide +kernel
theorem dX6_costOf_17 : decode cX6_costOf 17 = .ok (.iand, 1) := by decide +kernel
theorem dX6_costOf_18 : decode cX6_costOf 18 = .ok (.iconst 1, 1) := by decide +kernel
theorem dX6_costOf_19 : decode cX6_costOf 19 = .ok (.if_icmp .ne 12, 3) := by decide +kernel
theorem dX6_costOf_22 : decode cX6_costOf 22 = .ok (.aload_n 0, 1) := by decide +kernel
theorem dX6_costOf_23 : decode cX6_costOf 23 = .ok (.getfield 60, 3) := by decide +kernel
theorem dX6_costOf_26 : decode cX6_costOf 26 = .ok (.iload_n 3, 1) := by decide +kernel
theorem dX6_costOf_27 : decode cX6_costOf 27 = .ok (.iaload, 1) := by decide +kernel
theorem dX6_costOf_28 : decode cX6_costOf 28 = .ok (.goto 4, 3) := by decide +kernel
theorem dX6_costOf_31 : decode cX6_costOf 31 = .ok (.iconst 0, 1) := by decide +kernel
theorem dX6_costOf_32 : decode cX6_costOf 32 = .ok (.iadd, 1) := by decide +kernel
theorem dX6_costOf_33 : decode cX6_costOf 33 = .ok (.istore_n 2, 1) := by decide +kernel
theorem dX6_costOf_34 : decode cX6_costOf 34 = .ok (.iinc 3 1, 3) := by decide +kernel
theorem dX6_costOf_37 : decode cX6_costOf 37 = .ok (.goto (-33), 3) := by decide +kernel
theorem dX6_costOf_40 : decode cX6_costOf 40 = .ok (.iload_n 2, 1) := by decide +kernel
theorem dX6_costOf_41 : decode cX6_costOf 41 = .ok (.ireturn, 1) := by decide +kernel
set_option maxRecDepth 20000 in
theorem ggX6_plan_X6_in : GoodIn wsX6_plan wsX6_in := goodIn_r _ [5] (by decide +kernel) (by decide +kernel)
set_option maxRecDepth 20000 in
theorem gX6_plan_X6_in : GoodIn wsX6_plan (va_wsS RX6 76 yX6_in wsX6_in) := goodIn_app (goodIn_of _ (by decide +kernel)) ggX6_plan_X6_in
set_option maxRecDepth 20000 in
theorem ggX6_plan_X6_lack : GoodIn wsX6_plan wsX6_lack := goodIn_r _ [9, 10, 1, 11, 12, 18, 19, 20, 21, 22, 23, 24, 25, 26, 27, 28, 29, 30, 31, 32, 33, 34, 35, 36, 37, 38, 39, 40, 41, 42, 43, 44] (by decide +kernel) (by decide +kernel)
set_option maxRecDepth 20000 in
theorem gX6_plan_X6_lack : GoodIn wsX6_plan (wsV RX6 156 RX6 yX6_lack wsX6_lack) := goodIn_app (goodIn_of _ (by decide +kernel)) ggX6_plan_X6_lack
set_option maxRecDepth 20000 in
theorem ggX6_plan_X6_costOf : GoodIn wsX6_plan wsX6_costOf := goodIn_r _ [16, 1, 17, 18, 19, 20, 21, 22, 23, 24, 25, 26, 27, 28, 29, 30, 31, 32, 33, 34, 35, 36, 37, 38, 39, 40, 41, 42, 43, 44] (by decide +kernel) (by decide +kernel)
set_option maxRecDepth 20000 in
theorem gX6_plan_X6_costOf : GoodIn wsX6_plan (wsV RX6 159 RX6 yX6_costOf wsX6_costOf) := goodIn_app (goodIn_of _ (by decide +kernel)) ggX6_plan_X6_costOf
theorem dX6_plan_0 : decode cX6_plan 0 = .ok (.iload_n 1, 1) := by decide +kernel
theorem dX6_plan_1 : decode cX6_plan 1 = .ok (.iconst 0, 1) := by decide +kernel
theorem dX6_plan_2 : decode cX6_plan 2 = .ok (.iconst 1, 1) := by decide +kernel
theorem dX6_plan_3 : decode cX6_plan 3 = .ok (.invokestatic 76, 3) := by decide +kernel
theorem dX6_plan_6 : decode cX6_plan 6 = .ok (.ifCond .ne 5, 3) := by decide +kernel
theorem dX6_plan_9 : decode cX6_plan 9 = .ok (.iconst (-1), 1) := by decide +kernel
theorem dX6_plan_10 : decode cX6_plan 10 = .ok (.ireturn, 1) := by decide +kernel
theorem dX6_plan_11 : decode cX6_plan 11 = .ok (.bipush (-9), 2) := by decide +kernel
theorem dX6_plan_13 : decode cX6_plan 13 = .ok (.istore_n 2, 1) := by decide +kernel
theorem dX6_plan_14 : decode cX6_plan 14 = .ok (.iconst 0, 1) := by decide +kernel
theorem dX6_plan_15 : decode cX6_plan 15 = .ok (.istore_n 3, 1) := by decide +kernel
theorem dX6_plan_16 : decode cX6_plan 16 = .ok (.iload_n 3, 1) := by decide +kernel
theorem dX6_plan_17 : decode cX6_plan 17 = .ok (.iconst 1, 1) := by decide +kernel
theorem dX6_plan_18 : decode cX6_plan 18 = .ok (.aload_n 0, 1) := by decide +kernel
theorem dX6_plan_19 : decode cX6_plan 19 = .ok (.getfield 153, 3) := by decide +kernel
theorem dX6_plan_22 : decode cX6_plan 22 = .ok (.ishl, 1) := by decide +kernel
theorem dX6_plan_23 : decode cX6_plan 23 = .ok (.if_icmp .ge 74, 3) := by decide +kernel
theorem dX6_plan_26 : decode cX6_plan 26 = .ok (.iconst 1, 1) := by decide +kernel
theorem dX6_plan_27 : decode cX6_plan 27 = .ok (.istore 4, 2) := by decide +kernel
theorem dX6_plan_29 : decode cX6_plan 29 = .ok (.iconst 0, 1) := by decide +kernel
theorem dX6_plan_30 : decode cX6_plan 30 = .ok (.istore 5, 2) := by decide +kernel
theorem dX6_plan_32 : decode cX6_plan 32 = .ok (.iload 5, 2) := by decide +kernel
theorem dX6_plan_34 : decode cX6_plan 34 = .ok (.bipush 6, 2) := by decide +kernel
theorem dX6_plan_36 : decode cX6_plan 36 = .ok (.if_icmp .ge 31, 3) := by decide +kernel
theorem dX6_plan_39 : decode cX6_plan 39 = .ok (.iload 4, 2) := by decide +kernel
theorem dX6_plan_41 : decode cX6_plan 41 = .ok (.ifCond .eq 17, 3) := by decide +kernel
theorem dX6_plan_44 : decode cX6_plan 44 = .ok (.aload_n 0, 1) := by decide +kernel
theorem dX6_plan_45 : decode cX6_plan 45 = .ok (.iload_n 3, 1) := by decide +kernel
theorem dX6_plan_46 : decode cX6_plan 46 = .ok (.iload 5, 2) := by decide +kernel
theorem dX6_plan_48 : decode cX6_plan 48 = .ok (.invokevirtual 156, 3) := by decide +kernel
theorem dX6_plan_51 : decode cX6_plan 51 = .ok (.ifCond .ne 7, 3) := by decide +kernel
theorem dX6_plan_54 : decode cX6_plan 54 = .ok (.iconst 1, 1) := by decide +kernel
theorem dX6_plan_55 : decode cX6_plan 55 = .ok (.goto 4, 3) := by decide +kernel
theorem dX6_plan_58 : decode cX6_plan 58 = .ok (.iconst 0, 1) := by decide +kernel
theorem dX6_plan_59 : decode cX6_plan 59 = .ok (.istore 4, 2) := by decide +kernel
theorem dX6_plan_61 : decode cX6_plan 61 = .ok (.iinc 5 1, 3) := by decide +kernel
theorem dX6_plan_64 : decode cX6_plan 64 = .ok (.goto (-32), 3) := by decide +kernel
theorem dX6_plan_67 : decode cX6_plan 67 = .ok (.iload 4, 2) := by decide +kernel
theorem dX6_plan_69 : decode cX6_plan 69 = .ok (.ifCond .eq 22, 3) := by decide +kernel
theorem dX6_plan_72 : decode cX6_plan 72 = .ok (.iload_n 2, 1) := by decide +kernel
theorem dX6_plan_73 : decode cX6_plan 73 = .ok (.ifCond .lt 16, 3) := by decide +kernel
theorem dX6_plan_76 : decode cX6_plan 76 = .ok (.aload_n 0, 1) := by decide +kernel
theorem dX6_plan_77 : decode cX6_plan 77 = .ok (.iload_n 3, 1) := by decide +kernel
theorem dX6_plan_78 : decode cX6_plan 78 = .ok (.invokevirtual 159, 3) := by decide +kernel
theorem dX6_plan_81 : decode cX6_plan 81 = .ok (.aload_n 0, 1) := by decide +kernel
theorem dX6_plan_82 : decode cX6_plan 82 = .ok (.iload_n 2, 1) := by decide +kernel
theorem dX6_plan_83 : decode cX6_plan 83 = .ok (.invokevirtual 159, 3) := by decide +kernel
theorem dX6_plan_86 : decode cX6_plan 86 = .ok (.if_icmp .ge 5, 3) := by decide +kernel
theorem dX6_plan_89 : decode cX6_plan 89 = .ok (.iload_n 3, 1) := by decide +kernel
theorem dX6_plan_90 : decode cX6_plan 90 = .ok (.istore_n 2, 1) := by decide +kernel
theorem dX6_plan_91 : decode cX6_plan 91 = .ok (.iinc 3 1, 3) := by decide +kernel
theorem dX6_plan_94 : decode cX6_plan 94 = .ok (.goto (-78), 3) := by decide +kernel
theorem dX6_plan_97 : decode cX6_plan 97 = .ok (.iload_n 2, 1) := by decide +kernel
theorem dX6_plan_98 : decode cX6_plan 98 = .ok (.ifCond .ge 8, 3) := by decide +kernel
theorem dX6_plan_101 : decode cX6_plan 101 = .ok (.bipush (-9), 2) := by decide +kernel
theorem dX6_plan_103 : decode cX6_plan 103 = .ok (.goto 16, 3) := by decide +kernel
theorem dX6_plan_106 : decode cX6_plan 106 = .ok (.iload_n 1, 1) := by decide +kernel
theorem dX6_plan_107 : decode cX6_plan 107 = .ok (.ifCond .ne 7, 3) := by decide +kernel
theorem dX6_plan_110 : decode cX6_plan 110 = .ok (.iload_n 2, 1) := by decide +kernel
theorem dX6_plan_111 : decode cX6_plan 111 = .ok (.goto 8, 3) := by decide +kernel
theorem dX6_plan_114 : decode cX6_plan 114 = .ok (.aload_n 0, 1) := by decide +kernel
theorem dX6_plan_115 : decode cX6_plan 115 = .ok (.iload_n 2, 1) := by decide +kernel
theorem dX6_plan_116 : decode cX6_plan 116 = .ok (.invokevirtual 159, 3) := by decide +kernel
theorem dX6_plan_119 : decode cX6_plan 119 = .ok (.ireturn, 1) := by decide +kernel
set_option maxRecDepth 20000 in
theorem ggX6_lacks_X6_in : GoodIn wsX6_lacks wsX6_in := goodIn_r _ [5] (by decide +kernel) (by decide +kernel)
set_option maxRecDepth 20000 in
theorem gX6_lacks_X6_in : GoodIn wsX6_lacks (va_wsS RX6 76 yX6_in wsX6_in) := goodIn_app (goodIn_of _ (by decide +kernel)) ggX6_lacks_X6_in
set_option maxRecDepth 20000 in
theorem ggX6_lacks_X6_lack : GoodIn wsX6_lacks wsX6_lack := goodIn_r _ [9, 10, 1, 11, 12, 13, 14, 15, 16, 17, 18, 19, 20, 21, 22, 23, 24, 25, 26, 27, 28, 29, 30, 31, 32, 33, 34, 35, 36, 37, 38, 39] (by decide +kernel) (by decide +kernel)
set_option maxRecDepth 20000 in
theorem gX6_lacks_X6_lack : GoodIn wsX6_lacks (wsV RX6 156 RX6 yX6_lack wsX6_lack) := goodIn_app (goodIn_of _ (by decide +kernel)) ggX6_lacks_X6_lack
theorem dX6_lacks_0 : decode cX6_lacks 0 = .ok (.iload_n 1, 1) := by decide +kernel
theorem dX6_lacks_1 : decode cX6_lacks 1 = .ok (.iconst 0, 1) := by decide +kernel
theorem dX6_lacks_2 : decode cX6_lacks 2 = .ok (.iconst 1, 1) := by decide +kernel
theorem dX6_lacks_3 : decode cX6_lacks 3 = .ok (.aload_n 0, 1) := by decide +kernel
theorem dX6_lacks_4 : decode cX6_lacks 4 = .ok (.getfield 153, 3) := by decide +kernel
theorem dX6_lacks_7 : decode cX6_lacks 7 = .ok (.ishl, 1) := by decide +kernel
theorem dX6_lacks_8 : decode cX6_lacks 8 = .ok (.iconst 1, 1) := by decide +kernel
theorem dX6_lacks_9 : decode cX6_lacks 9 = .ok (.isub, 1) := by decide +kernel
theorem dX6_lacks_10 : decode cX6_lacks 10 = .ok (.invokestatic 76, 3) := by decide +kernel
theorem dX6_lacks_13 : decode cX6_lacks 13 = .ok (.ifCond .eq 12, 3) := by decide +kernel
theorem dX6_lacks_16 : decode cX6_lacks 16 = .ok (.iload_n 2, 1) := by decide +kernel
theorem dX6_lacks_17 : decode cX6_lacks 17 = .ok (.iconst 0, 1) := by decide +kernel
theorem dX6_lacks_18 : decode cX6_lacks 18 = .ok (.iconst 5, 1) := by decide +kernel
theorem dX6_lacks_19 : decode cX6_lacks 19 = .ok (.invokestatic 76, 3) := by decide +kernel
theorem dX6_lacks_22 : decode cX6_lacks 22 = .ok (.ifCond .ne 7, 3) := by decide +kernel
theorem dX6_lacks_25 : decode cX6_lacks 25 = .ok (.iconst (-1), 1) := by decide +kernel
theorem dX6_lacks_26 : decode cX6_lacks 26 = .ok (.goto 9, 3) := by decide +kernel
theorem dX6_lacks_29 : decode cX6_lacks 29 = .ok (.aload_n 0, 1) := by decide +kernel
theorem dX6_lacks_30 : decode cX6_lacks 30 = .ok (.iload_n 1, 1) := by decide +kernel
theorem dX6_lacks_31 : decode cX6_lacks 31 = .ok (.iload_n 2, 1) := by decide +kernel
theorem dX6_lacks_32 : decode cX6_lacks 32 = .ok (.invokevirtual 156, 3) := by decide +kernel
theorem dX6_lacks_35 : decode cX6_lacks 35 = .ok (.ireturn, 1) := by decide +kernel
theorem dX6_count_0 : decode cX6_count 0 = .ok (.iconst 0, 1) := by decide +kernel
theorem dX6_count_1 : decode cX6_count 1 = .ok (.istore_n 2, 1) := by decide +kernel
theorem dX6_count_2 : decode cX6_count 2 = .ok (.iload_n 1, 1) := by decide +kernel
theorem dX6_count_3 : decode cX6_count 3 = .ok (.tableswitch 127 0 5 #[37, 42, 47, 52, 57, 92], 37) := by decide +kernel
theorem dX6_count_40 : decode cX6_count 40 = .ok (.aload_n 0, 1) := by decide +kernel
theorem dX6_count_41 : decode cX6_count 41 = .ok (.getfield 72, 3) := by decide +kernel
theorem dX6_count_44 : decode cX6_count 44 = .ok (.ireturn, 1) := by decide +kernel
theorem dX6_count_45 : decode cX6_count 45 = .ok (.aload_n 0, 1) := by decide +kernel
theorem dX6_count_46 : decode cX6_count 46 = .ok (.getfield 96, 3) := by decide +kernel
theorem dX6_count_49 : decode cX6_count 49 = .ok (.ireturn, 1) := by decide +kernel
theorem dX6_count_50 : decode cX6_count 50 = .ok (.aload_n 0, 1) := by decide +kernel
theorem dX6_count_51 : decode cX6_count 51 = .ok (.getfield 153, 3) := by decide +kernel
theorem dX6_count_54 : decode cX6_count 54 = .ok (.ireturn, 1) := by decide +kernel
theorem dX6_count_55 : decode cX6_count 55 = .ok (.aload_n 0, 1) := by decide +kernel
theorem dX6_count_56 : decode cX6_count 56 = .ok (.getfield 150, 3) := by decide +kernel
theorem dX6_count_59 : decode cX6_count 59 = .ok (.ireturn, 1) := by decide +kernel
theorem dX6_count_60 : decode cX6_count 60 = .ok (.iconst 0, 1) := by decide +kernel
theorem dX6_count_61 : decode cX6_count 61 = .ok (.istore_n 3, 1) := by decide +kernel
theorem dX6_count_62 : decode cX6_count 62 = .ok (.iload_n 3, 1) := by decide +kernel
theorem dX6_count_63 : decode cX6_count 63 = .ok (.aload_n 0, 1) := by decide +kernel
theorem dX6_count_64 : decode cX6_count 64 = .ok (.getfield 72, 3) := by decide +kernel
theorem dX6_count_67 : decode cX6_count 67 = .ok (.if_icmp .ge 26, 3) := by decide +kernel
theorem dX6_count_70 : decode cX6_count 70 = .ok (.iload_n 2, 1) := by decide +kernel
theorem dX6_count_71 : decode cX6_count 71 = .ok (.aload_n 0, 1) := by decide +kernel
theorem dX6_count_72 : decode cX6_count 72 = .ok (.getfield 19, 3) := by decide +kernel
theorem dX6_count_75 : decode cX6_count 75 = .ok (.iload_n 3, 1) := by decide +kernel
theorem dX6_count_76 : decode cX6_count 76 = .ok (.baload, 1) := by decide +kernel
theorem dX6_count_77 : decode cX6_count 77 = .ok (.ifCond .eq 7, 3) := by decide +kernel
theorem dX6_count_80 : decode cX6_count 80 = .ok (.iconst 1, 1) := by decide +kernel
theorem dX6_count_81 : decode cX6_count 81 = .ok (.goto 4, 3) := by decide +kernel
theorem dX6_count_84 : decode cX6_count 84 = .ok (.iconst 0, 1) := by decide +kernel
theorem dX6_count_85 : decode cX6_count 85 = .ok (.iadd, 1) := by decide +kernel
theorem dX6_count_86 : decode cX6_count 86 = .ok (.istore_n 2, 1) := by decide +kernel
theorem dX6_count_87 : decode cX6_count 87 = .ok (.iinc 3 1, 3) := by decide +kernel
theorem dX6_count_90 : decode cX6_count 90 = .ok (.goto (-28), 3) := by decide +kernel
theorem dX6_count_93 : decode cX6_count 93 = .ok (.iload_n 2, 1) := by decide +kernel
theorem dX6_count_94 : decode cX6_count 94 = .ok (.ireturn, 1) := by decide +kernel
theorem dX6_count_95 : decode cX6_count 95 = .ok (.iconst 0, 1) := by decide +kernel
theorem dX6_count_96 : decode cX6_count 96 = .ok (.istore_n 3, 1) := by decide +kernel
theorem dX6_count_97 : decode cX6_count 97 = .ok (.iload_n 3, 1) := by decide +kernel
theorem dX6_count_98 : decode cX6_count 98 = .ok (.aload_n 0, 1) := by decide +kernel
theorem dX6_count_99 : decode cX6_count 99 = .ok (.getfield 96, 3) := by decide +kernel
theorem dX6_count_102 : decode cX6_count 102 = .ok (.if_icmp .ge 26, 3) := by decide +kernel
theorem dX6_count_105 : decode cX6_count 105 = .ok (.iload_n 2, 1) := by decide +kernel
theorem dX6_count_106 : decode cX6_count 106 = .ok (.aload_n 0, 1) := by decide +kernel
theorem dX6_count_107 : decode cX6_count 107 = .ok (.getfield 35, 3) := by decide +kernel
theorem dX6_count_110 : decode cX6_count 110 = .ok (.iload_n 3, 1) := by decide +kernel
theorem dX6_count_111 : decode cX6_count 111 = .ok (.baload, 1) := by decide +kernel
theorem dX6_count_112 : decode cX6_count 112 = .ok (.ifCond .eq 7, 3) := by decide +kernel
theorem dX6_count_115 : decode cX6_count 115 = .ok (.iconst 1, 1) := by decide +kernel
theorem dX6_count_116 : decode cX6_count 116 = .ok (.goto 4, 3) := by decide +kernel
theorem dX6_count_119 : decode cX6_count 119 = .ok (.iconst 0, 1) := by decide +kernel
theorem dX6_count_120 : decode cX6_count 120 = .ok (.iadd, 1) := by decide +kernel
theorem dX6_count_121 : decode cX6_count 121 = .ok (.istore_n 2, 1) := by decide +kernel
theorem dX6_count_122 : decode cX6_count 122 = .ok (.iinc 3 1, 3) := by decide +kernel
theorem dX6_count_125 : decode cX6_count 125 = .ok (.goto (-28), 3) := by decide +kernel
theorem dX6_count_128 : decode cX6_count 128 = .ok (.iload_n 2, 1) := by decide +kernel
theorem dX6_count_129 : decode cX6_count 129 = .ok (.ireturn, 1) := by decide +kernel
theorem dX6_count_130 : decode cX6_count 130 = .ok (.iconst (-1), 1) := by decide +kernel
theorem dX6_count_131 : decode cX6_count 131 = .ok (.ireturn, 1) := by decide +kernel
theorem dX6_trace_0 : decode cX6_trace 0 = .ok (.aload_n 0, 1) := by decide +kernel
theorem dX6_trace_1 : decode cX6_trace 1 = .ok (.getfield 84, 3) := by decide +kernel
theorem dX6_trace_4 : decode cX6_trace 4 = .ok (.lreturn, 1) := by decide +kernel
theorem dJ9_max_7cf53_0 : decode cJ9_max_7cf53 0 = .ok (.iload_n 0, 1) := by decide +kernel
theorem dJ9_max_7cf53_1 : decode cJ9_max_7cf53 1 = .ok (.iload_n 1, 1) := by decide +kernel
theorem dJ9_max_7cf53_2 : decode cJ9_max_7cf53 2 = .ok (.if_icmp .lt 7, 3) := by decide +kernel
theorem dJ9_max_7cf53_5 : decode cJ9_max_7cf53 5 = .ok (.iload_n 0, 1) := by decide +kernel
theorem dJ9_max_7cf53_6 : decode cJ9_max_7cf53 6 = .ok (.goto 4, 3) := by decide +kernel
theorem dJ9_max_7cf53_9 : decode cJ9_max_7cf53 9 = .ok (.iload_n 1, 1) := by decide +kernel
theorem dJ9_max_7cf53_10 : decode cJ9_max_7cf53 10 = .ok (.ireturn, 1) := by decide +kernel
theorem dJ9_min_7cf53_0 : decode cJ9_min_7cf53 0 = .ok (.iload_n 0, 1) := by decide +kernel
theorem dJ9_min_7cf53_1 : decode cJ9_min_7cf53 1 = .ok (.iload_n 1, 1) := by decide +kernel
theorem dJ9_min_7cf53_2 : decode cJ9_min_7cf53 2 = .ok (.if_icmp .gt 7, 3) := by decide +kernel
theorem dJ9_min_7cf53_5 : decode cJ9_min_7cf53 5 = .ok (.iload_n 0, 1) := by decide +kernel
theorem dJ9_min_7cf53_6 : decode cJ9_min_7cf53 6 = .ok (.goto 4, 3) := by decide +kernel
theorem dJ9_min_7cf53_9 : decode cJ9_min_7cf53 9 = .ok (.iload_n 1, 1) := by decide +kernel
theorem dJ9_min_7cf53_10 : decode cJ9_min_7cf53 10 = .ok (.ireturn, 1) := by decide +kernel
theorem dJ9_min_f86c9_0 : decode cJ9_min_f86c9 0 = .ok (.lload_n 0, 1) := by decide +kernel
theorem dJ9_min_f86c9_1 : decode cJ9_min_f86c9 1 = .ok (.lload_n 2, 1) := by decide +kernel
theorem dJ9_min_f86c9_2 : decode cJ9_min_f86c9 2 = .ok (.lcmp, 1) := by decide +kernel
theorem dJ9_min_f86c9_3 : decode cJ9_min_f86c9 3 = .ok (.ifCond .gt 7, 3) := by decide +kernel
theorem dJ9_min_f86c9_6 : decode cJ9_min_f86c9 6 = .ok (.lload_n 0, 1) := by decide +kernel
theorem dJ9_min_f86c9_7 : decode cJ9_min_f86c9 7 = .ok (.goto 4, 3) := by decide +kernel
theorem dJ9_min_f86c9_10 : decode cJ9_min_f86c9 10 = .ok (.lload_n 2, 1) := by decide +kernel
