theorem dX6_init_0 : decode cX6_init 0 = .ok (.aload_n 0, 1) := by decide +kernel
theorem dX6_init_1 : decode cX6_init 1 = .ok (.invokespecial 1, 3) := by decide +kernel
theorem dX6_init_4 : decode cX6_init 4 = .ok (.aload_n 0, 1) := by decide +kernel
theorem dX6_init_5 : decode cX6_init 5 = .ok (.bipush 8, 2) := by decide +kernel
theorem dX6_init_7 : decode cX6_init 7 = .ok (.newarray .int, 2) := by decide +kernel
theorem dX6_init_9 : decode cX6_init 9 = .ok (.putfield 7, 3) := by decide +kernel
theorem dX6_init_12 : decode cX6_init 12 = .ok (.aload_n 0, 1) := by decide +kernel
theorem dX6_init_13 : decode cX6_init 13 = .ok (.bipush 8, 2) := by decide +kernel
theorem dX6_init_15 : decode cX6_init 15 = .ok (.newarray .int, 2) := by decide +kernel
theorem dX6_init_17 : decode cX6_init 17 = .ok (.putfield 13, 3) := by decide +kernel
theorem dX6_init_20 : decode cX6_init 20 = .ok (.aload_n 0, 1) := by decide +kernel
theorem dX6_init_21 : decode cX6_init 21 = .ok (.bipush 8, 2) := by decide +kernel
theorem dX6_init_23 : decode cX6_init 23 = .ok (.newarray .int, 2) := by decide +kernel
theorem dX6_init_25 : decode cX6_init 25 = .ok (.putfield 16, 3) := by decide +kernel
theorem dX6_init_28 : decode cX6_init 28 = .ok (.aload_n 0, 1) := by decide +kernel
theorem dX6_init_29 : decode cX6_init 29 = .ok (.bipush 8, 2) := by decide +kernel
theorem dX6_init_31 : decode cX6_init 31 = .ok (.newarray .boolean, 2) := by decide +kernel
theorem dX6_init_33 : decode cX6_init 33 = .ok (.putfield 19, 3) := by decide +kernel
theorem dX6_init_36 : decode cX6_init 36 = .ok (.aload_n 0, 1) := by decide +kernel
theorem dX6_init_37 : decode cX6_init 37 = .ok (.bipush 40, 2) := by decide +kernel
theorem dX6_init_39 : decode cX6_init 39 = .ok (.newarray .int, 2) := by decide +kernel
theorem dX6_init_41 : decode cX6_init 41 = .ok (.putfield 23, 3) := by decide +kernel
theorem dX6_init_44 : decode cX6_init 44 = .ok (.aload_n 0, 1) := by decide +kernel
theorem dX6_init_45 : decode cX6_init 45 = .ok (.iconst 4, 1) := by decide +kernel
theorem dX6_init_46 : decode cX6_init 46 = .ok (.newarray .int, 2) := by decide +kernel
theorem dX6_init_48 : decode cX6_init 48 = .ok (.putfield 26, 3) := by decide +kernel
theorem dX6_init_51 : decode cX6_init 51 = .ok (.aload_n 0, 1) := by decide +kernel
theorem dX6_init_52 : decode cX6_init 52 = .ok (.iconst 4, 1) := by decide +kernel
theorem dX6_init_53 : decode cX6_init 53 = .ok (.newarray .int, 2) := by decide +kernel
theorem dX6_init_55 : decode cX6_init 55 = .ok (.putfield 29, 3) := by decide +kernel
theorem dX6_init_58 : decode cX6_init 58 = .ok (.aload_n 0, 1) := by decide +kernel
theorem dX6_init_59 : decode cX6_init 59 = .ok (.iconst 4, 1) := by decide +kernel
theorem dX6_init_60 : decode cX6_init 60 = .ok (.newarray .int, 2) := by decide +kernel
theorem dX6_init_62 : decode cX6_init 62 = .ok (.putfield 32, 3) := by decide +kernel
theorem dX6_init_65 : decode cX6_init 65 = .ok (.aload_n 0, 1) := by decide +kernel
theorem dX6_init_66 : decode cX6_init 66 = .ok (.iconst 4, 1) := by decide +kernel
theorem dX6_init_67 : decode cX6_init 67 = .ok (.newarray .boolean, 2) := by decide +kernel
theorem dX6_init_69 : decode cX6_init 69 = .ok (.putfield 35, 3) := by decide +kernel
theorem dX6_init_72 : decode cX6_init 72 = .ok (.aload_n 0, 1) := by decide +kernel
theorem dX6_init_73 : decode cX6_init 73 = .ok (.iconst 4, 1) := by decide +kernel
theorem dX6_init_74 : decode cX6_init 74 = .ok (.newarray .long, 2) := by decide +kernel
theorem dX6_init_76 : decode cX6_init 76 = .ok (.putfield 38, 3) := by decide +kernel
theorem dX6_init_79 : decode cX6_init 79 = .ok (.aload_n 0, 1) := by decide +kernel
theorem dX6_init_80 : decode cX6_init 80 = .ok (.iconst 4, 1) := by decide +kernel
theorem dX6_init_81 : decode cX6_init 81 = .ok (.newarray .long, 2) := by decide +kernel
theorem dX6_init_83 : decode cX6_init 83 = .ok (.putfield 42, 3) := by decide +kernel
theorem dX6_init_86 : decode cX6_init 86 = .ok (.aload_n 0, 1) := by decide +kernel
theorem dX6_init_87 : decode cX6_init 87 = .ok (.iconst 3, 1) := by decide +kernel
theorem dX6_init_88 : decode cX6_init 88 = .ok (.newarray .int, 2) := by decide +kernel
theorem dX6_init_90 : decode cX6_init 90 = .ok (.dup, 1) := by decide +kernel
theorem dX6_init_91 : decode cX6_init 91 = .ok (.iconst 0, 1) := by decide +kernel
theorem dX6_init_92 : decode cX6_init 92 = .ok (.sipush 1000, 3) := by decide +kernel
theorem dX6_init_95 : decode cX6_init 95 = .ok (.iastore, 1) := by decide +kernel
theorem dX6_init_96 : decode cX6_init 96 = .ok (.dup, 1) := by decide +kernel
theorem dX6_init_97 : decode cX6_init 97 = .ok (.iconst 1, 1) := by decide +kernel
theorem dX6_init_98 : decode cX6_init 98 = .ok (.sipush 1000, 3) := by decide +kernel
theorem dX6_init_101 : decode cX6_init 101 = .ok (.iastore, 1) := by decide +kernel
theorem dX6_init_102 : decode cX6_init 102 = .ok (.dup, 1) := by decide +kernel
theorem dX6_init_103 : decode cX6_init 103 = .ok (.iconst 2, 1) := by decide +kernel
theorem dX6_init_104 : decode cX6_init 104 = .ok (.sipush 1000, 3) := by decide +kernel
theorem dX6_init_107 : decode cX6_init 107 = .ok (.iastore, 1) := by decide +kernel
theorem dX6_init_108 : decode cX6_init 108 = .ok (.putfield 45, 3) := by decide +kernel
theorem dX6_init_111 : decode cX6_init 111 = .ok (.aload_n 0, 1) := by decide +kernel
theorem dX6_init_112 : decode cX6_init 112 = .ok (.iconst 4, 1) := by decide +kernel
theorem dX6_init_113 : decode cX6_init 113 = .ok (.newarray .int, 2) := by decide +kernel
theorem dX6_init_115 : decode cX6_init 115 = .ok (.putfield 48, 3) := by decide +kernel
theorem dX6_init_118 : decode cX6_init 118 = .ok (.aload_n 0, 1) := by decide +kernel
theorem dX6_init_119 : decode cX6_init 119 = .ok (.bipush 9, 2) := by decide +kernel
theorem dX6_init_121 : decode cX6_init 121 = .ok (.newarray .long, 2) := by decide +kernel
theorem dX6_init_123 : decode cX6_init 123 = .ok (.putfield 51, 3) := by decide +kernel
theorem dX6_init_126 : decode cX6_init 126 = .ok (.aload_n 0, 1) := by decide +kernel
theorem dX6_init_127 : decode cX6_init 127 = .ok (.bipush 6, 2) := by decide +kernel
theorem dX6_init_129 : decode cX6_init 129 = .ok (.newarray .int, 2) := by decide +kernel
theorem dX6_init_131 : decode cX6_init 131 = .ok (.putfield 54, 3) := by decide +kernel
theorem dX6_init_134 : decode cX6_init 134 = .ok (.aload_n 0, 1) := by decide +kernel
theorem dX6_init_135 : decode cX6_init 135 = .ok (.bipush 12, 2) := by decide +kernel
theorem dX6_init_137 : decode cX6_init 137 = .ok (.newarray .int, 2) := by decide +kernel
theorem dX6_init_139 : decode cX6_init 139 = .ok (.putfield 57, 3) := by decide +kernel
theorem dX6_init_142 : decode cX6_init 142 = .ok (.aload_n 0, 1) := by decide +kernel
theorem dX6_init_143 : decode cX6_init 143 = .ok (.bipush 8, 2) := by decide +kernel
theorem dX6_init_145 : decode cX6_init 145 = .ok (.newarray .int, 2) := by decide +kernel
theorem dX6_init_147 : decode cX6_init 147 = .ok (.putfield 60, 3) := by decide +kernel
theorem dX6_init_150 : decode cX6_init 150 = .ok (.aload_n 0, 1) := by decide +kernel
theorem dX6_init_151 : decode cX6_init 151 = .ok (.bipush 8, 2) := by decide +kernel
theorem dX6_init_153 : decode cX6_init 153 = .ok (.newarray .int, 2) := by decide +kernel
theorem dX6_init_155 : decode cX6_init 155 = .ok (.putfield 63, 3) := by decide +kernel
theorem dX6_init_158 : decode cX6_init 158 = .ok (.aload_n 0, 1) := by decide +kernel
theorem dX6_init_159 : decode cX6_init 159 = .ok (.bipush 8, 2) := by decide +kernel
theorem dX6_init_161 : decode cX6_init 161 = .ok (.newarray .int, 2) := by decide +kernel
theorem dX6_init_163 : decode cX6_init 163 = .ok (.putfield 66, 3) := by decide +kernel
theorem dX6_init_166 : decode cX6_init 166 = .ok (.aload_n 0, 1) := by decide +kernel
theorem dX6_init_167 : decode cX6_init 167 = .ok (.bipush 6, 2) := by decide +kernel
theorem dX6_init_169 : decode cX6_init 169 = .ok (.newarray .int, 2) := by decide +kernel
theorem dX6_init_171 : decode cX6_init 171 = .ok (.putfield 69, 3) := by decide +kernel
theorem dX6_init_174 : decode cX6_init 174 = .ok (.aload_n 0, 1) := by decide +kernel
theorem dX6_init_175 : decode cX6_init 175 = .ok (.iconst 0, 1) := by decide +kernel
theorem dX6_init_176 : decode cX6_init 176 = .ok (.putfield 72, 3) := by decide +kernel
theorem dX6_init_179 : decode cX6_init 179 = .ok (.return_, 1) := by decide +kernel
theorem dX6_in_0 : decode cX6_in 0 = .ok (.iload_n 0, 1) := by decide +kernel
theorem dX6_in_1 : decode cX6_in 1 = .ok (.iload_n 1, 1) := by decide +kernel
theorem dX6_in_2 : decode cX6_in 2 = .ok (.if_icmp .lt 12, 3) := by decide +kernel
theorem dX6_in_5 : decode cX6_in 5 = .ok (.iload_n 0, 1) := by decide +kernel
theorem dX6_in_6 : decode cX6_in 6 = .ok (.iload_n 2, 1) := by decide +kernel
theorem dX6_in_7 : decode cX6_in 7 = .ok (.if_icmp .gt 7, 3) := by decide +kernel
theorem dX6_in_10 : decode cX6_in 10 = .ok (.iconst 1, 1) := by decide +kernel
theorem dX6_in_11 : decode cX6_in 11 = .ok (.goto 4, 3) := by decide +kernel
theorem dX6_in_14 : decode cX6_in 14 = .ok (.iconst 0, 1) := by decide +kernel
theorem dX6_in_15 : decode cX6_in 15 = .ok (.ireturn, 1) := by decide +kernel
set_option maxRecDepth 20000 in
theorem ggX6_isWell_X6_in : GoodIn wsX6_isWell wsX6_in := goodIn_r _ [5] (by decide +kernel) (by decide +kernel)
set_option maxRecDepth 20000 in
theorem gX6_isWell_X6_in : GoodIn wsX6_isWell (va_wsS RX6 76 yX6_in wsX6_in) := goodIn_app (goodIn_of _ (by decide +kernel)) ggX6_isWell_X6_in
theorem dX6_isWell_0 : decode cX6_isWell 0 = .ok (.iload_n 1, 1) := by decide +kernel
theorem dX6_isWell_1 : decode cX6_isWell 1 = .ok (.iconst 0, 1) := by decide +kernel
theorem dX6_isWell_2 : decode cX6_isWell 2 = .ok (.aload_n 0, 1) := by decide +kernel
theorem dX6_isWell_3 : decode cX6_isWell 3 = .ok (.getfield 72, 3) := by decide +kernel
theorem dX6_isWell_6 : decode cX6_isWell 6 = .ok (.iconst 1, 1) := by decide +kernel
theorem dX6_isWell_7 : decode cX6_isWell 7 = .ok (.isub, 1) := by decide +kernel
theorem dX6_isWell_8 : decode cX6_isWell 8 = .ok (.invokestatic 76, 3) := by decide +kernel
theorem dX6_isWell_11 : decode cX6_isWell 11 = .ok (.ireturn, 1) := by decide +kernel
set_option maxRecDepth 20000 in
theorem ggX6_well_X6_in : GoodIn wsX6_well wsX6_in := goodIn_r _ [10] (by decide +kernel) (by decide +kernel)
set_option maxRecDepth 20000 in
theorem gX6_well_X6_in : GoodIn wsX6_well (va_wsS RX6 76 yX6_in wsX6_in) := goodIn_app (goodIn_of _ (by decide +kernel)) ggX6_well_X6_in
theorem dX6_well_0 : decode cX6_well 0 = .ok (.iload_n 3, 1) := by decide +kernel
theorem dX6_well_1 : decode cX6_well 1 = .ok (.sipush 200, 3) := by decide +kernel
theorem dX6_well_4 : decode cX6_well 4 = .ok (.if_icmp .gt 39, 3) := by decide +kernel
theorem dX6_well_7 : decode cX6_well 7 = .ok (.iload_n 3, 1) := by decide +kernel
theorem dX6_well_8 : decode cX6_well 8 = .ok (.iload 4, 2) := by decide +kernel
theorem dX6_well_10 : decode cX6_well 10 = .ok (.if_icmp .lt 33, 3) := by decide +kernel
theorem dX6_well_13 : decode cX6_well 13 = .ok (.iload 4, 2) := by decide +kernel
theorem dX6_well_15 : decode cX6_well 15 = .ok (.iload 5, 2) := by decide +kernel
theorem dX6_well_17 : decode cX6_well 17 = .ok (.if_icmp .lt 26, 3) := by decide +kernel
theorem dX6_well_20 : decode cX6_well 20 = .ok (.iload 5, 2) := by decide +kernel
theorem dX6_well_22 : decode cX6_well 22 = .ok (.iload 6, 2) := by decide +kernel
theorem dX6_well_24 : decode cX6_well 24 = .ok (.if_icmp .lt 19, 3) := by decide +kernel
theorem dX6_well_27 : decode cX6_well 27 = .ok (.iload 6, 2) := by decide +kernel
theorem dX6_well_29 : decode cX6_well 29 = .ok (.iload 7, 2) := by decide +kernel
theorem dX6_well_31 : decode cX6_well 31 = .ok (.if_icmp .lt 12, 3) := by decide +kernel
theorem dX6_well_34 : decode cX6_well 34 = .ok (.iload 7, 2) := by decide +kernel
theorem dX6_well_36 : decode cX6_well 36 = .ok (.ifCond .lt 7, 3) := by decide +kernel
theorem dX6_well_39 : decode cX6_well 39 = .ok (.iconst 1, 1) := by decide +kernel
theorem dX6_well_40 : decode cX6_well 40 = .ok (.goto 4, 3) := by decide +kernel
theorem dX6_well_43 : decode cX6_well 43 = .ok (.iconst 0, 1) := by decide +kernel
theorem dX6_well_44 : decode cX6_well 44 = .ok (.istore 8, 2) := by decide +kernel
theorem dX6_well_46 : decode cX6_well 46 = .ok (.iload_n 1, 1) := by decide +kernel
theorem dX6_well_47 : decode cX6_well 47 = .ok (.iconst 0, 1) := by decide +kernel
theorem dX6_well_48 : decode cX6_well 48 = .ok (.iconst 2, 1) := by decide +kernel
theorem dX6_well_49 : decode cX6_well 49 = .ok (.invokestatic 76, 3) := by decide +kernel
theorem dX6_well_52 : decode cX6_well 52 = .ok (.ifCond .eq 17, 3) := by decide +kernel
theorem dX6_well_55 : decode cX6_well 55 = .ok (.iload_n 2, 1) := by decide +kernel
theorem dX6_well_56 : decode cX6_well 56 = .ok (.iconst 0, 1) := by decide +kernel
theorem dX6_well_57 : decode cX6_well 57 = .ok (.iconst 3, 1) := by decide +kernel
theorem dX6_well_58 : decode cX6_well 58 = .ok (.invokestatic 76, 3) := by decide +kernel
theorem dX6_well_61 : decode cX6_well 61 = .ok (.ifCond .eq 8, 3) := by decide +kernel
theorem dX6_well_64 : decode cX6_well 64 = .ok (.iload 8, 2) := by decide +kernel
theorem dX6_well_66 : decode cX6_well 66 = .ok (.ifCond .ne 5, 3) := by decide +kernel
theorem dX6_well_69 : decode cX6_well 69 = .ok (.iconst (-1), 1) := by decide +kernel
theorem dX6_well_70 : decode cX6_well 70 = .ok (.ireturn, 1) := by decide +kernel
theorem dX6_well_71 : decode cX6_well 71 = .ok (.aload_n 0, 1) := by decide +kernel
theorem dX6_well_72 : decode cX6_well 72 = .ok (.getfield 72, 3) := by decide +kernel
theorem dX6_well_75 : decode cX6_well 75 = .ok (.bipush 8, 2) := by decide +kernel
theorem dX6_well_77 : decode cX6_well 77 = .ok (.if_icmp .ne 6, 3) := by decide +kernel
theorem dX6_well_80 : decode cX6_well 80 = .ok (.bipush (-3), 2) := by decide +kernel
theorem dX6_well_82 : decode cX6_well 82 = .ok (.ireturn, 1) := by decide +kernel
theorem dX6_well_83 : decode cX6_well 83 = .ok (.aload_n 0, 1) := by decide +kernel
theorem dX6_well_84 : decode cX6_well 84 = .ok (.getfield 7, 3) := by decide +kernel
theorem dX6_well_87 : decode cX6_well 87 = .ok (.aload_n 0, 1) := by decide +kernel
theorem dX6_well_88 : decode cX6_well 88 = .ok (.getfield 72, 3) := by decide +kernel
theorem dX6_well_91 : decode cX6_well 91 = .ok (.iload_n 1, 1) := by decide +kernel
theorem dX6_well_92 : decode cX6_well 92 = .ok (.iastore, 1) := by decide +kernel
theorem dX6_well_93 : decode cX6_well 93 = .ok (.aload_n 0, 1) := by decide +kernel
theorem dX6_well_94 : decode cX6_well 94 = .ok (.getfield 13, 3) := by decide +kernel
theorem dX6_well_97 : decode cX6_well 97 = .ok (.aload_n 0, 1) := by decide +kernel
theorem dX6_well_98 : decode cX6_well 98 = .ok (.getfield 72, 3) := by decide +kernel
theorem dX6_well_101 : decode cX6_well 101 = .ok (.iload_n 2, 1) := by decide +kernel
theorem dX6_well_102 : decode cX6_well 102 = .ok (.iastore, 1) := by decide +kernel
theorem dX6_well_103 : decode cX6_well 103 = .ok (.aload_n 0, 1) := by decide +kernel
theorem dX6_well_104 : decode cX6_well 104 = .ok (.getfield 16, 3) := by decide +kernel
theorem dX6_well_107 : decode cX6_well 107 = .ok (.aload_n 0, 1) := by decide +kernel
theorem dX6_well_108 : decode cX6_well 108 = .ok (.getfield 72, 3) := by decide +kernel
theorem dX6_well_111 : decode cX6_well 111 = .ok (.iconst 0, 1) := by decide +kernel
theorem dX6_well_112 : decode cX6_well 112 = .ok (.iastore, 1) := by decide +kernel
theorem dX6_well_113 : decode cX6_well 113 = .ok (.aload_n 0, 1) := by decide +kernel
theorem dX6_well_114 : decode cX6_well 114 = .ok (.getfield 19, 3) := by decide +kernel
theorem dX6_well_117 : decode cX6_well 117 = .ok (.aload_n 0, 1) := by decide +kernel
theorem dX6_well_118 : decode cX6_well 118 = .ok (.getfield 72, 3) := by decide +kernel
theorem dX6_well_121 : decode cX6_well 121 = .ok (.iconst 0, 1) := by decide +kernel
theorem dX6_well_122 : decode cX6_well 122 = .ok (.bastore, 1) := by decide +kernel
theorem dX6_well_123 : decode cX6_well 123 = .ok (.aload_n 0, 1) := by decide +kernel
theorem dX6_well_124 : decode cX6_well 124 = .ok (.getfield 23, 3) := by decide +kernel
theorem dX6_well_127 : decode cX6_well 127 = .ok (.iconst 5, 1) := by decide +kernel
theorem dX6_well_128 : decode cX6_well 128 = .ok (.aload_n 0, 1) := by decide +kernel
theorem dX6_well_129 : decode cX6_well 129 = .ok (.getfield 72, 3) := by decide +kernel
theorem dX6_well_132 : decode cX6_well 132 = .ok (.imul, 1) := by decide +kernel
theorem dX6_well_133 : decode cX6_well 133 = .ok (.iload_n 3, 1) := by decide +kernel
theorem dX6_well_134 : decode cX6_well 134 = .ok (.iastore, 1) := by decide +kernel
theorem dX6_well_135 : decode cX6_well 135 = .ok (.aload_n 0, 1) := by decide +kernel
theorem dX6_well_136 : decode cX6_well 136 = .ok (.getfield 23, 3) := by decide +kernel
theorem dX6_well_139 : decode cX6_well 139 = .ok (.iconst 5, 1) := by decide +kernel
theorem dX6_well_140 : decode cX6_well 140 = .ok (.aload_n 0, 1) := by decide +kernel
theorem dX6_well_141 : decode cX6_well 141 = .ok (.getfield 72, 3) := by decide +kernel
theorem dX6_well_144 : decode cX6_well 144 = .ok (.imul, 1) := by decide +kernel
theorem dX6_well_145 : decode cX6_well 145 = .ok (.iconst 1, 1) := by decide +kernel
theorem dX6_well_146 : decode cX6_well 146 = .ok (.iadd, 1) := by decide +kernel
theorem dX6_well_147 : decode cX6_well 147 = .ok (.iload 4, 2) := by decide +kernel
theorem dX6_well_149 : decode cX6_well 149 = .ok (.iastore, 1) := by decide +kernel
theorem dX6_well_150 : decode cX6_well 150 = .ok (.aload_n 0, 1) := by decide +kernel
theorem dX6_well_151 : decode cX6_well 151 = .ok (.getfield 23, 3) := by decide +kernel
theorem dX6_well_154 : decode cX6_well 154 = .ok (.iconst 5, 1) := by decide +kernel
theorem dX6_well_155 : decode cX6_well 155 = .ok (.aload_n 0, 1) := by decide +kernel
theorem dX6_well_156 : decode cX6_well 156 = .ok (.getfield 72, 3) := by decide +kernel
theorem dX6_well_159 : decode cX6_well 159 = .ok (.imul, 1) := by decide +kernel
theorem dX6_well_160 : decode cX6_well 160 = .ok (.iconst 2, 1) := by decide +kernel
theorem dX6_well_161 : decode cX6_well 161 = .ok (.iadd, 1) := by decide +kernel
theorem dX6_well_162 : decode cX6_well 162 = .ok (.iload 5, 2) := by decide +kernel
theorem dX6_well_164 : decode cX6_well 164 = .ok (.iastore, 1) := by decide +kernel
theorem dX6_well_165 : decode cX6_well 165 = .ok (.aload_n 0, 1) := by decide +kernel
theorem dX6_well_166 : decode cX6_well 166 = .ok (.getfield 23, 3) := by decide +kernel
theorem dX6_well_169 : decode cX6_well 169 = .ok (.iconst 5, 1) := by decide +kernel
theorem dX6_well_170 : decode cX6_well 170 = .ok (.aload_n 0, 1) := by decide +kernel
theorem dX6_well_171 : decode cX6_well 171 = .ok (.getfield 72, 3) := by decide +kernel
theorem dX6_well_174 : decode cX6_well 174 = .ok (.imul, 1) := by decide +kernel
theorem dX6_well_175 : decode cX6_well 175 = .ok (.iconst 3, 1) := by decide +kernel
theorem dX6_well_176 : decode cX6_well 176 = .ok (.iadd, 1) := by decide +kernel
theorem dX6_well_177 : decode cX6_well 177 = .ok (.iload 6, 2) := by decide +kernel
theorem dX6_well_179 : decode cX6_well 179 = .ok (.iastore, 1) := by decide +kernel
theorem dX6_well_180 : decode cX6_well 180 = .ok (.aload_n 0, 1) := by decide +kernel
theorem dX6_well_181 : decode cX6_well 181 = .ok (.getfield 23, 3) := by decide +kernel
theorem dX6_well_184 : decode cX6_well 184 = .ok (.iconst 5, 1) := by decide +kernel
theorem dX6_well_185 : decode cX6_well 185 = .ok (.aload_n 0, 1) := by decide +kernel
theorem dX6_well_186 : decode cX6_well 186 = .ok (.getfield 72, 3) := by decide +kernel
theorem dX6_well_189 : decode cX6_well 189 = .ok (.imul, 1) := by decide +kernel
theorem dX6_well_190 : decode cX6_well 190 = .ok (.iconst 4, 1) := by decide +kernel
theorem dX6_well_191 : decode cX6_well 191 = .ok (.iadd, 1) := by decide +kernel
theorem dX6_well_192 : decode cX6_well 192 = .ok (.iload 7, 2) := by decide +kernel
theorem dX6_well_194 : decode cX6_well 194 = .ok (.iastore, 1) := by decide +kernel
theorem dX6_well_195 : decode cX6_well 195 = .ok (.aload_n 0, 1) := by decide +kernel
theorem dX6_well_196 : decode cX6_well 196 = .ok (.dup, 1) := by decide +kernel
theorem dX6_well_197 : decode cX6_well 197 = .ok (.getfield 72, 3) := by decide +kernel
theorem dX6_well_200 : decode cX6_well 200 = .ok (.iconst 1, 1) := by decide +kernel
theorem dX6_well_201 : decode cX6_well 201 = .ok (.iadd, 1) := by decide +kernel
theorem dX6_well_202 : decode cX6_well 202 = .ok (.putfield 72, 3) := by decide +kernel
theorem dX6_well_205 : decode cX6_well 205 = .ok (.aload_n 0, 1) := by decide +kernel
theorem dX6_well_206 : decode cX6_well 206 = .ok (.getfield 72, 3) := by decide +kernel
theorem dX6_well_209 : decode cX6_well 209 = .ok (.iconst 1, 1) := by decide +kernel
theorem dX6_well_210 : decode cX6_well 210 = .ok (.isub, 1) := by decide +kernel
theorem dX6_well_211 : decode cX6_well 211 = .ok (.ireturn, 1) := by decide +kernel
set_option maxRecDepth 20000 in
theorem ggX6_open_X6_isWell : GoodIn wsX6_open wsX6_isWell := goodIn_r _ [6, 7, 8, 9, 5, 10, 11, 12, 13, 14, 15, 16, 17, 18, 19, 20, 21, 22, 23, 24, 25, 26, 27, 28, 29, 30, 31, 32, 33, 34, 35, 36, 37] (by decide +kernel) (by decide +kernel)
set_option maxRecDepth 20000 in
theorem gX6_open_X6_isWell : GoodIn wsX6_open (wsV RX6 80 RX6 yX6_isWell wsX6_isWell) := goodIn_app (goodIn_of _ (by decide +kernel)) ggX6_open_X6_isWell
theorem dX6_open_0 : decode cX6_open 0 = .ok (.aload_n 0, 1) := by decide +kernel
theorem dX6_open_1 : decode cX6_open 1 = .ok (.iload_n 1, 1) := by decide +kernel
theorem dX6_open_2 : decode cX6_open 2 = .ok (.invokevirtual 80, 3) := by decide +kernel
theorem dX6_open_5 : decode cX6_open 5 = .ok (.ifCond .ne 5, 3) := by decide +kernel
theorem dX6_open_8 : decode cX6_open 8 = .ok (.iconst (-1), 1) := by decide +kernel
theorem dX6_open_9 : decode cX6_open 9 = .ok (.ireturn, 1) := by decide +kernel
theorem dX6_open_10 : decode cX6_open 10 = .ok (.aload_n 0, 1) := by decide +kernel
theorem dX6_open_11 : decode cX6_open 11 = .ok (.getfield 19, 3) := by decide +kernel
theorem dX6_open_14 : decode cX6_open 14 = .ok (.iload_n 1, 1) := by decide +kernel
theorem dX6_open_15 : decode cX6_open 15 = .ok (.baload, 1) := by decide +kernel
theorem dX6_open_16 : decode cX6_open 16 = .ok (.ifCond .eq 7, 3) := by decide +kernel
theorem dX6_open_19 : decode cX6_open 19 = .ok (.iconst 1, 1) := by decide +kernel
theorem dX6_open_20 : decode cX6_open 20 = .ok (.goto 4, 3) := by decide +kernel
theorem dX6_open_23 : decode cX6_open 23 = .ok (.iconst 0, 1) := by decide +kernel
theorem dX6_open_24 : decode cX6_open 24 = .ok (.istore_n 3, 1) := by decide +kernel
theorem dX6_open_25 : decode cX6_open 25 = .ok (.aload_n 0, 1) := by decide +kernel
theorem dX6_open_26 : decode cX6_open 26 = .ok (.getfield 19, 3) := by decide +kernel
theorem dX6_open_29 : decode cX6_open 29 = .ok (.iload_n 1, 1) := by decide +kernel
theorem dX6_open_30 : decode cX6_open 30 = .ok (.iload_n 2, 1) := by decide +kernel
theorem dX6_open_31 : decode cX6_open 31 = .ok (.bastore, 1) := by decide +kernel
theorem dX6_open_32 : decode cX6_open 32 = .ok (.iload_n 3, 1) := by decide +kernel
theorem dX6_open_33 : decode cX6_open 33 = .ok (.ireturn, 1) := by decide +kernel
set_option maxRecDepth 20000 in
theorem ggX6_clean_X6_isWell : GoodIn wsX6_clean wsX6_isWell := goodIn_r _ [6, 7, 8, 9, 5, 10, 11, 12, 13, 14, 15, 16, 17, 18, 19, 20, 21, 22, 23, 24, 25, 26, 27, 28, 29, 30, 31, 32, 33, 34, 35, 36, 37] (by decide +kernel) (by decide +kernel)
set_option maxRecDepth 20000 in
theorem gX6_clean_X6_isWell : GoodIn wsX6_clean (wsV RX6 80 RX6 yX6_isWell wsX6_isWell) := goodIn_app (goodIn_of _ (by decide +kernel)) ggX6_clean_X6_isWell
theorem dX6_clean_0 : decode cX6_clean 0 = .ok (.aload_n 0, 1) := by decide +kernel
theorem dX6_clean_1 : decode cX6_clean 1 = .ok (.iload_n 1, 1) := by decide +kernel
theorem dX6_clean_2 : decode cX6_clean 2 = .ok (.invokevirtual 80, 3) := by decide +kernel
theorem dX6_clean_5 : decode cX6_clean 5 = .ok (.ifCond .ne 5, 3) := by decide +kernel
theorem dX6_clean_8 : decode cX6_clean 8 = .ok (.iconst (-1), 1) := by decide +kernel
theorem dX6_clean_9 : decode cX6_clean 9 = .ok (.ireturn, 1) := by decide +kernel
theorem dX6_clean_10 : decode cX6_clean 10 = .ok (.aload_n 0, 1) := by decide +kernel
theorem dX6_clean_11 : decode cX6_clean 11 = .ok (.getfield 16, 3) := by decide +kernel
theorem dX6_clean_14 : decode cX6_clean 14 = .ok (.iload_n 1, 1) := by decide +kernel
theorem dX6_clean_15 : decode cX6_clean 15 = .ok (.iaload, 1) := by decide +kernel
theorem dX6_clean_16 : decode cX6_clean 16 = .ok (.istore_n 2, 1) := by decide +kernel
theorem dX6_clean_17 : decode cX6_clean 17 = .ok (.aload_n 0, 1) := by decide +kernel
theorem dX6_clean_18 : decode cX6_clean 18 = .ok (.getfield 16, 3) := by decide +kernel
theorem dX6_clean_21 : decode cX6_clean 21 = .ok (.iload_n 1, 1) := by decide +kernel
theorem dX6_clean_22 : decode cX6_clean 22 = .ok (.iconst 0, 1) := by decide +kernel
theorem dX6_clean_23 : decode cX6_clean 23 = .ok (.iastore, 1) := by decide +kernel
theorem dX6_clean_24 : decode cX6_clean 24 = .ok (.iload_n 2, 1) := by decide +kernel
theorem dX6_clean_25 : decode cX6_clean 25 = .ok (.ireturn, 1) := by decide +kernel
theorem dX6_flowOf_0 : decode cX6_flowOf 0 = .ok (.iload_n 2, 1) := by decide +kernel
theorem dX6_flowOf_1 : decode cX6_flowOf 1 = .ok (.iconst 5, 1) := by decide +kernel
theorem dX6_flowOf_2 : decode cX6_flowOf 2 = .ok (.idiv, 1) := by decide +kernel
theorem dX6_flowOf_3 : decode cX6_flowOf 3 = .ok (.istore_n 3, 1) := by decide +kernel
theorem dX6_flowOf_4 : decode cX6_flowOf 4 = .ok (.iload_n 2, 1) := by decide +kernel
theorem dX6_flowOf_5 : decode cX6_flowOf 5 = .ok (.iconst 5, 1) := by decide +kernel
theorem dX6_flowOf_6 : decode cX6_flowOf 6 = .ok (.irem, 1) := by decide +kernel
theorem dX6_flowOf_7 : decode cX6_flowOf 7 = .ok (.istore 4, 2) := by decide +kernel
theorem dX6_flowOf_9 : decode cX6_flowOf 9 = .ok (.iconst 5, 1) := by decide +kernel
theorem dX6_flowOf_10 : decode cX6_flowOf 10 = .ok (.iload 4, 2) := by decide +kernel
theorem dX6_flowOf_12 : decode cX6_flowOf 12 = .ok (.isub, 1) := by decide +kernel
theorem dX6_flowOf_13 : decode cX6_flowOf 13 = .ok (.aload_n 0, 1) := by decide +kernel
theorem dX6_flowOf_14 : decode cX6_flowOf 14 = .ok (.getfield 23, 3) := by decide +kernel
theorem dX6_flowOf_17 : decode cX6_flowOf 17 = .ok (.iconst 5, 1) := by decide +kernel
theorem dX6_flowOf_18 : decode cX6_flowOf 18 = .ok (.iload_n 1, 1) := by decide +kernel
theorem dX6_flowOf_19 : decode cX6_flowOf 19 = .ok (.imul, 1) := by decide +kernel
theorem dX6_flowOf_20 : decode cX6_flowOf 20 = .ok (.iload_n 3, 1) := by decide +kernel
theorem dX6_flowOf_21 : decode cX6_flowOf 21 = .ok (.iadd, 1) := by decide +kernel
theorem dX6_flowOf_22 : decode cX6_flowOf 22 = .ok (.iaload, 1) := by decide +kernel
theorem dX6_flowOf_23 : decode cX6_flowOf 23 = .ok (.imul, 1) := by decide +kernel
theorem dX6_flowOf_24 : decode cX6_flowOf 24 = .ok (.istore 5, 2) := by decide +kernel
theorem dX6_flowOf_26 : decode cX6_flowOf 26 = .ok (.iload 5, 2) := by decide +kernel
theorem dX6_flowOf_28 : decode cX6_flowOf 28 = .ok (.iload 4, 2) := by decide +kernel
theorem dX6_flowOf_30 : decode cX6_flowOf 30 = .ok (.ifCond .ne 7, 3) := by decide +kernel
theorem dX6_flowOf_33 : decode cX6_flowOf 33 = .ok (.iconst 0, 1) := by decide +kernel
theorem dX6_flowOf_34 : decode cX6_flowOf 34 = .ok (.goto 18, 3) := by decide +kernel
theorem dX6_flowOf_37 : decode cX6_flowOf 37 = .ok (.iload 4, 2) := by decide +kernel
theorem dX6_flowOf_39 : decode cX6_flowOf 39 = .ok (.aload_n 0, 1) := by decide +kernel
theorem dX6_flowOf_40 : decode cX6_flowOf 40 = .ok (.getfield 23, 3) := by decide +kernel
theorem dX6_flowOf_43 : decode cX6_flowOf 43 = .ok (.iconst 5, 1) := by decide +kernel
theorem dX6_flowOf_44 : decode cX6_flowOf 44 = .ok (.iload_n 1, 1) := by decide +kernel
theorem dX6_flowOf_45 : decode cX6_flowOf 45 = .ok (.imul, 1) := by decide +kernel
theorem dX6_flowOf_46 : decode cX6_flowOf 46 = .ok (.iload_n 3, 1) := by decide +kernel
theorem dX6_flowOf_47 : decode cX6_flowOf 47 = .ok (.iadd, 1) := by decide +kernel
theorem dX6_flowOf_48 : decode cX6_flowOf 48 = .ok (.iconst 1, 1) := by decide +kernel
theorem dX6_flowOf_49 : decode cX6_flowOf 49 = .ok (.iadd, 1) := by decide +kernel
theorem dX6_flowOf_50 : decode cX6_flowOf 50 = .ok (.iaload, 1) := by decide +kernel
theorem dX6_flowOf_51 : decode cX6_flowOf 51 = .ok (.imul, 1) := by decide +kernel
theorem dX6_flowOf_52 : decode cX6_flowOf 52 = .ok (.iadd, 1) := by decide +kernel
theorem dX6_flowOf_53 : decode cX6_flowOf 53 = .ok (.istore 5, 2) := by decide +kernel
theorem dX6_flowOf_55 : decode cX6_flowOf 55 = .ok (.aload_n 0, 1) := by decide +kernel
theorem dX6_flowOf_56 : decode cX6_flowOf 56 = .ok (.getfield 7, 3) := by decide +kernel
theorem dX6_flowOf_59 : decode cX6_flowOf 59 = .ok (.iload_n 1, 1) := by decide +kernel
theorem dX6_flowOf_60 : decode cX6_flowOf 60 = .ok (.iaload, 1) := by decide +kernel
theorem dX6_flowOf_61 : decode cX6_flowOf 61 = .ok (.ifCond .le 35, 3) := by decide +kernel
theorem dX6_flowOf_64 : decode cX6_flowOf 64 = .ok (.aload_n 0, 1) := by decide +kernel
theorem dX6_flowOf_65 : decode cX6_flowOf 65 = .ok (.getfield 16, 3) := by decide +kernel
theorem dX6_flowOf_68 : decode cX6_flowOf 68 = .ok (.iload_n 1, 1) := by decide +kernel
theorem dX6_flowOf_69 : decode cX6_flowOf 69 = .ok (.iaload, 1) := by decide +kernel
theorem dX6_flowOf_70 : decode cX6_flowOf 70 = .ok (.bipush 19, 2) := by decide +kernel
theorem dX6_flowOf_72 : decode cX6_flowOf 72 = .ok (.if_icmp .le 7, 3) := by decide +kernel
theorem dX6_flowOf_75 : decode cX6_flowOf 75 = .ok (.iconst 0, 1) := by decide +kernel
theorem dX6_flowOf_76 : decode cX6_flowOf 76 = .ok (.goto 18, 3) := by decide +kernel
theorem dX6_flowOf_79 : decode cX6_flowOf 79 = .ok (.iload 5, 2) := by decide +kernel
theorem dX6_flowOf_81 : decode cX6_flowOf 81 = .ok (.bipush 20, 2) := by decide +kernel
theorem dX6_flowOf_83 : decode cX6_flowOf 83 = .ok (.aload_n 0, 1) := by decide +kernel
theorem dX6_flowOf_84 : decode cX6_flowOf 84 = .ok (.getfield 16, 3) := by decide +kernel
theorem dX6_flowOf_87 : decode cX6_flowOf 87 = .ok (.iload_n 1, 1) := by decide +kernel
theorem dX6_flowOf_88 : decode cX6_flowOf 88 = .ok (.iaload, 1) := by decide +kernel
theorem dX6_flowOf_89 : decode cX6_flowOf 89 = .ok (.isub, 1) := by decide +kernel
theorem dX6_flowOf_90 : decode cX6_flowOf 90 = .ok (.imul, 1) := by decide +kernel
theorem dX6_flowOf_91 : decode cX6_flowOf 91 = .ok (.bipush 20, 2) := by decide +kernel
theorem dX6_flowOf_93 : decode cX6_flowOf 93 = .ok (.idiv, 1) := by decide +kernel
theorem dX6_flowOf_94 : decode cX6_flowOf 94 = .ok (.istore 5, 2) := by decide +kernel
theorem dX6_flowOf_96 : decode cX6_flowOf 96 = .ok (.aload_n 0, 1) := by decide +kernel
theorem dX6_flowOf_97 : decode cX6_flowOf 97 = .ok (.getfield 7, 3) := by decide +kernel
theorem dX6_flowOf_100 : decode cX6_flowOf 100 = .ok (.iload_n 1, 1) := by decide +kernel
theorem dX6_flowOf_101 : decode cX6_flowOf 101 = .ok (.iaload, 1) := by decide +kernel
theorem dX6_flowOf_102 : decode cX6_flowOf 102 = .ok (.iconst 2, 1) := by decide +kernel
theorem dX6_flowOf_103 : decode cX6_flowOf 103 = .ok (.if_icmp .ne 17, 3) := by decide +kernel
theorem dX6_flowOf_106 : decode cX6_flowOf 106 = .ok (.iload 5, 2) := by decide +kernel
theorem dX6_flowOf_108 : decode cX6_flowOf 108 = .ok (.sipush 1000, 3) := by decide +kernel
theorem dX6_flowOf_111 : decode cX6_flowOf 111 = .ok (.if_icmp .le 9, 3) := by decide +kernel
theorem dX6_flowOf_114 : decode cX6_flowOf 114 = .ok (.sipush 1000, 3) := by decide +kernel
theorem dX6_flowOf_117 : decode cX6_flowOf 117 = .ok (.goto 5, 3) := by decide +kernel
theorem dX6_flowOf_120 : decode cX6_flowOf 120 = .ok (.iload 5, 2) := by decide +kernel
theorem dX6_flowOf_122 : decode cX6_flowOf 122 = .ok (.ireturn, 1) := by decide +kernel
theorem dX6_steamOf_0 : decode cX6_steamOf 0 = .ok (.iload_n 0, 1) := by decide +kernel
theorem dX6_steamOf_1 : decode cX6_steamOf 1 = .ok (.sipush 300, 3) := by decide +kernel
theorem dX6_steamOf_4 : decode cX6_steamOf 4 = .ok (.iconst 5, 1) := by decide +kernel
theorem dX6_steamOf_5 : decode cX6_steamOf 5 = .ok (.iload_n 1, 1) := by decide +kernel
theorem dX6_steamOf_6 : decode cX6_steamOf 6 = .ok (.imul, 1) := by decide +kernel
theorem dX6_steamOf_7 : decode cX6_steamOf 7 = .ok (.isub, 1) := by decide +kernel
theorem dX6_steamOf_8 : decode cX6_steamOf 8 = .ok (.imul, 1) := by decide +kernel
theorem dX6_steamOf_9 : decode cX6_steamOf 9 = .ok (.sipush 1000, 3) := by decide +kernel
theorem dX6_steamOf_12 : decode cX6_steamOf 12 = .ok (.idiv, 1) := by decide +kernel
theorem dX6_steamOf_13 : decode cX6_steamOf 13 = .ok (.ireturn, 1) := by decide +kernel
set_option maxRecDepth 20000 in
theorem ggX6_flow_X6_isWell : GoodIn wsX6_flow wsX6_isWell := goodIn_r _ [9, 10, 11, 12, 8, 13, 20, 21, 22, 23, 24, 25, 26, 27, 28, 29, 30, 31, 32, 33, 34, 35, 36, 37, 38, 39, 40, 41, 42, 43, 44, 45, 46] (by decide +kernel) (by decide +kernel)
set_option maxRecDepth 20000 in
theorem gX6_flow_X6_isWell : GoodIn wsX6_flow (wsV RX6 80 RX6 yX6_isWell wsX6_isWell) := goodIn_app (goodIn_of _ (by decide +kernel)) ggX6_flow_X6_isWell
set_option maxRecDepth 20000 in
theorem ggX6_flow_X6_in : GoodIn wsX6_flow wsX6_in := goodIn_r _ [13] (by decide +kernel) (by decide +kernel)
set_option maxRecDepth 20000 in
theorem gX6_flow_X6_in : GoodIn wsX6_flow (va_wsS RX6 76 yX6_in wsX6_in) := goodIn_app (goodIn_of _ (by decide +kernel)) ggX6_flow_X6_in
set_option maxRecDepth 20000 in
theorem ggX6_flow_X6_flowOf : GoodIn wsX6_flow wsX6_flowOf := goodIn_r _ [17, 18, 2, 19, 20, 21, 22, 23, 24, 25, 26, 27, 28, 29, 30, 31, 32, 33, 34, 35, 36, 37, 38, 39, 40, 41, 42, 43, 44, 45, 46] (by decide +kernel) (by decide +kernel)
set_option maxRecDepth 20000 in
theorem gX6_flow_X6_flowOf : GoodIn wsX6_flow (wsV RX6 92 RX6 yX6_flowOf wsX6_flowOf) := goodIn_app (goodIn_of _ (by decide +kernel)) ggX6_flow_X6_flowOf
theorem dX6_flow_0 : decode cX6_flow 0 = .ok (.aload_n 0, 1) := by decide +kernel
theorem dX6_flow_1 : decode cX6_flow 1 = .ok (.iload_n 1, 1) := by decide +kernel
theorem dX6_flow_2 : decode cX6_flow 2 = .ok (.invokevirtual 80, 3) := by decide +kernel
theorem dX6_flow_5 : decode cX6_flow 5 = .ok (.ifCond .eq 13, 3) := by decide +kernel
theorem dX6_flow_8 : decode cX6_flow 8 = .ok (.iload_n 2, 1) := by decide +kernel
theorem dX6_flow_9 : decode cX6_flow 9 = .ok (.iconst 0, 1) := by decide +kernel
theorem dX6_flow_10 : decode cX6_flow 10 = .ok (.bipush 20, 2) := by decide +kernel
theorem dX6_flow_12 : decode cX6_flow 12 = .ok (.invokestatic 76, 3) := by decide +kernel
theorem dX6_flow_15 : decode cX6_flow 15 = .ok (.ifCond .ne 5, 3) := by decide +kernel
theorem dX6_flow_18 : decode cX6_flow 18 = .ok (.iconst (-1), 1) := by decide +kernel
theorem dX6_flow_19 : decode cX6_flow 19 = .ok (.ireturn, 1) := by decide +kernel
theorem dX6_flow_20 : decode cX6_flow 20 = .ok (.aload_n 0, 1) := by decide +kernel
theorem dX6_flow_21 : decode cX6_flow 21 = .ok (.dup, 1) := by decide +kernel
theorem dX6_flow_22 : decode cX6_flow 22 = .ok (.getfield 84, 3) := by decide +kernel
theorem dX6_flow_25 : decode cX6_flow 25 = .ok (.aload_n 0, 1) := by decide +kernel
theorem dX6_flow_26 : decode cX6_flow 26 = .ok (.getfield 7, 3) := by decide +kernel
theorem dX6_flow_29 : decode cX6_flow 29 = .ok (.iload_n 1, 1) := by decide +kernel
theorem dX6_flow_30 : decode cX6_flow 30 = .ok (.iaload, 1) := by decide +kernel
theorem dX6_flow_31 : decode cX6_flow 31 = .ok (.ifCond .ne 7, 3) := by decide +kernel
theorem dX6_flow_34 : decode cX6_flow 34 = .ok (.lconst 1, 1) := by decide +kernel
theorem dX6_flow_35 : decode cX6_flow 35 = .ok (.goto 22, 3) := by decide +kernel
theorem dX6_flow_38 : decode cX6_flow 38 = .ok (.aload_n 0, 1) := by decide +kernel
theorem dX6_flow_39 : decode cX6_flow 39 = .ok (.getfield 7, 3) := by decide +kernel
theorem dX6_flow_42 : decode cX6_flow 42 = .ok (.iload_n 1, 1) := by decide +kernel
theorem dX6_flow_43 : decode cX6_flow 43 = .ok (.iaload, 1) := by decide +kernel
theorem dX6_flow_44 : decode cX6_flow 44 = .ok (.iconst 1, 1) := by decide +kernel
theorem dX6_flow_45 : decode cX6_flow 45 = .ok (.if_icmp .ne 9, 3) := by decide +kernel
theorem dX6_flow_48 : decode cX6_flow 48 = .ok (.ldc2_w 88, 3) := by decide +kernel
theorem dX6_flow_51 : decode cX6_flow 51 = .ok (.goto 6, 3) := by decide +kernel
theorem dX6_flow_54 : decode cX6_flow 54 = .ok (.ldc2_w 90, 3) := by decide +kernel
theorem dX6_flow_57 : decode cX6_flow 57 = .ok (.ladd, 1) := by decide +kernel
theorem dX6_flow_58 : decode cX6_flow 58 = .ok (.putfield 84, 3) := by decide +kernel
theorem dX6_flow_61 : decode cX6_flow 61 = .ok (.aload_n 0, 1) := by decide +kernel
theorem dX6_flow_62 : decode cX6_flow 62 = .ok (.iload_n 1, 1) := by decide +kernel
theorem dX6_flow_63 : decode cX6_flow 63 = .ok (.iload_n 2, 1) := by decide +kernel
theorem dX6_flow_64 : decode cX6_flow 64 = .ok (.invokevirtual 92, 3) := by decide +kernel
theorem dX6_flow_67 : decode cX6_flow 67 = .ok (.ireturn, 1) := by decide +kernel
set_option maxRecDepth 20000 in
theorem ggX6_about_X6_isWell : GoodIn wsX6_about wsX6_isWell := goodIn_r _ [10, 11, 12, 13, 9, 14, 15, 16, 17, 18, 19, 20, 21, 22, 23, 24, 25, 26, 27, 28, 29, 30, 31, 32, 33, 34, 35, 36, 37, 38, 39, 40, 41] (by decide +kernel) (by decide +kernel)
set_option maxRecDepth 20000 in
theorem gX6_about_X6_isWell : GoodIn wsX6_about (wsV RX6 80 RX6 yX6_isWell wsX6_isWell) := goodIn_app (goodIn_of _ (by decide +kernel)) ggX6_about_X6_isWell
set_option maxRecDepth 20000 in
theorem ggX6_about_X6_in : GoodIn wsX6_about wsX6_in := goodIn_r _ [14] (by decide +kernel) (by decide +kernel)
set_option maxRecDepth 20000 in
theorem gX6_about_X6_in : GoodIn wsX6_about (va_wsS RX6 76 yX6_in wsX6_in) := goodIn_app (goodIn_of _ (by decide +kernel)) ggX6_about_X6_in
theorem dX6_about_0 : decode cX6_about 0 = .ok (.aload_n 0, 1) := by decide +kernel
theorem dX6_about_1 : decode cX6_about 1 = .ok (.iload_n 1, 1) := by decide +kernel
theorem dX6_about_2 : decode cX6_about 2 = .ok (.invokevirtual 80, 3) := by decide +kernel
theorem dX6_about_5 : decode cX6_about 5 = .ok (.ifCond .eq 13, 3) := by decide +kernel
theorem dX6_about_8 : decode cX6_about 8 = .ok (.iload_n 2, 1) := by decide +kernel
theorem dX6_about_9 : decode cX6_about 9 = .ok (.iconst 0, 1) := by decide +kernel
theorem dX6_about_10 : decode cX6_about 10 = .ok (.bipush 8, 2) := by decide +kernel
theorem dX6_about_12 : decode cX6_about 12 = .ok (.invokestatic 76, 3) := by decide +kernel
theorem dX6_about_15 : decode cX6_about 15 = .ok (.ifCond .ne 5, 3) := by decide +kernel
theorem dX6_about_18 : decode cX6_about 18 = .ok (.iconst (-1), 1) := by decide +kernel
theorem dX6_about_19 : decode cX6_about 19 = .ok (.ireturn, 1) := by decide +kernel
theorem dX6_about_20 : decode cX6_about 20 = .ok (.iload_n 2, 1) := by decide +kernel
theorem dX6_about_21 : decode cX6_about 21 = .ok (.tableswitch 67 0 3 #[31, 38, 45, 52], 31) := by decide +kernel
theorem dX6_about_52 : decode cX6_about 52 = .ok (.aload_n 0, 1) := by decide +kernel
theorem dX6_about_53 : decode cX6_about 53 = .ok (.getfield 7, 3) := by decide +kernel
theorem dX6_about_56 : decode cX6_about 56 = .ok (.iload_n 1, 1) := by decide +kernel
theorem dX6_about_57 : decode cX6_about 57 = .ok (.iaload, 1) := by decide +kernel
theorem dX6_about_58 : decode cX6_about 58 = .ok (.ireturn, 1) := by decide +kernel
theorem dX6_about_59 : decode cX6_about 59 = .ok (.aload_n 0, 1) := by decide +kernel
theorem dX6_about_60 : decode cX6_about 60 = .ok (.getfield 13, 3) := by decide +kernel
theorem dX6_about_63 : decode cX6_about 63 = .ok (.iload_n 1, 1) := by decide +kernel
theorem dX6_about_64 : decode cX6_about 64 = .ok (.iaload, 1) := by decide +kernel
theorem dX6_about_65 : decode cX6_about 65 = .ok (.ireturn, 1) := by decide +kernel
theorem dX6_about_66 : decode cX6_about 66 = .ok (.aload_n 0, 1) := by decide +kernel
theorem dX6_about_67 : decode cX6_about 67 = .ok (.getfield 16, 3) := by decide +kernel
theorem dX6_about_70 : decode cX6_about 70 = .ok (.iload_n 1, 1) := by decide +kernel
theorem dX6_about_71 : decode cX6_about 71 = .ok (.iaload, 1) := by decide +kernel
theorem dX6_about_72 : decode cX6_about 72 = .ok (.ireturn, 1) := by decide +kernel
theorem dX6_about_73 : decode cX6_about 73 = .ok (.aload_n 0, 1) := by decide +kernel
theorem dX6_about_74 : decode cX6_about 74 = .ok (.getfield 19, 3) := by decide +kernel
theorem dX6_about_77 : decode cX6_about 77 = .ok (.iload_n 1, 1) := by decide +kernel
theorem dX6_about_78 : decode cX6_about 78 = .ok (.baload, 1) := by decide +kernel
theorem dX6_about_79 : decode cX6_about 79 = .ok (.ifCond .eq 7, 3) := by decide +kernel
theorem dX6_about_82 : decode cX6_about 82 = .ok (.iconst 1, 1) := by decide +kernel
theorem dX6_about_83 : decode cX6_about 83 = .ok (.goto 4, 3) := by decide +kernel
theorem dX6_about_86 : decode cX6_about 86 = .ok (.iconst 0, 1) := by decide +kernel
theorem dX6_about_87 : decode cX6_about 87 = .ok (.ireturn, 1) := by decide +kernel
theorem dX6_about_88 : decode cX6_about 88 = .ok (.aload_n 0, 1) := by decide +kernel
theorem dX6_about_89 : decode cX6_about 89 = .ok (.getfield 23, 3) := by decide +kernel
theorem dX6_about_92 : decode cX6_about 92 = .ok (.iconst 5, 1) := by decide +kernel
theorem dX6_about_93 : decode cX6_about 93 = .ok (.iload_n 1, 1) := by decide +kernel
theorem dX6_about_94 : decode cX6_about 94 = .ok (.imul, 1) := by decide +kernel
theorem dX6_about_95 : decode cX6_about 95 = .ok (.iload_n 2, 1) := by decide +kernel
theorem dX6_about_96 : decode cX6_about 96 = .ok (.iadd, 1) := by decide +kernel
theorem dX6_about_97 : decode cX6_about 97 = .ok (.iconst 4, 1) := by decide +kernel
theorem dX6_about_98 : decode cX6_about 98 = .ok (.isub, 1) := by decide +kernel
theorem dX6_about_99 : decode cX6_about 99 = .ok (.iaload, 1) := by decide +kernel
theorem dX6_about_100 : decode cX6_about 100 = .ok (.ireturn, 1) := by decide +kernel
set_option maxRecDepth 20000 in
theorem ggX6_turbine_X6_in : GoodIn wsX6_turbine wsX6_in := goodIn_r _ [9] (by decide +kernel) (by decide +kernel)
set_option maxRecDepth 20000 in
theorem gX6_turbine_X6_in : GoodIn wsX6_turbine (va_wsS RX6 76 yX6_in wsX6_in) := goodIn_app (goodIn_of _ (by decide +kernel)) ggX6_turbine_X6_in
theorem dX6_turbine_0 : decode cX6_turbine 0 = .ok (.iload_n 1, 1) := by decide +kernel
theorem dX6_turbine_1 : decode cX6_turbine 1 = .ok (.iconst 0, 1) := by decide +kernel
theorem dX6_turbine_2 : decode cX6_turbine 2 = .ok (.bipush 20, 2) := by decide +kernel
theorem dX6_turbine_4 : decode cX6_turbine 4 = .ok (.invokestatic 76, 3) := by decide +kernel
theorem dX6_turbine_7 : decode cX6_turbine 7 = .ok (.ifCond .eq 24, 3) := by decide +kernel
theorem dX6_turbine_10 : decode cX6_turbine 10 = .ok (.iload_n 2, 1) := by decide +kernel
theorem dX6_turbine_11 : decode cX6_turbine 11 = .ok (.iconst 1, 1) := by decide +kernel
theorem dX6_turbine_12 : decode cX6_turbine 12 = .ok (.bipush 40, 2) := by decide +kernel
theorem dX6_turbine_14 : decode cX6_turbine 14 = .ok (.invokestatic 76, 3) := by decide +kernel
theorem dX6_turbine_17 : decode cX6_turbine 17 = .ok (.ifCond .eq 14, 3) := by decide +kernel
theorem dX6_turbine_20 : decode cX6_turbine 20 = .ok (.iload_n 3, 1) := by decide +kernel
theorem dX6_turbine_21 : decode cX6_turbine 21 = .ok (.iconst 1, 1) := by decide +kernel
theorem dX6_turbine_22 : decode cX6_turbine 22 = .ok (.sipush 2000, 3) := by decide +kernel
theorem dX6_turbine_25 : decode cX6_turbine 25 = .ok (.invokestatic 76, 3) := by decide +kernel
theorem dX6_turbine_28 : decode cX6_turbine 28 = .ok (.ifCond .ne 5, 3) := by decide +kernel
theorem dX6_turbine_31 : decode cX6_turbine 31 = .ok (.iconst (-1), 1) := by decide +kernel
theorem dX6_turbine_32 : decode cX6_turbine 32 = .ok (.ireturn, 1) := by decide +kernel
theorem dX6_turbine_33 : decode cX6_turbine 33 = .ok (.aload_n 0, 1) := by decide +kernel
theorem dX6_turbine_34 : decode cX6_turbine 34 = .ok (.getfield 96, 3) := by decide +kernel
theorem dX6_turbine_37 : decode cX6_turbine 37 = .ok (.iconst 4, 1) := by decide +kernel
theorem dX6_turbine_38 : decode cX6_turbine 38 = .ok (.if_icmp .ne 6, 3) := by decide +kernel
theorem dX6_turbine_41 : decode cX6_turbine 41 = .ok (.bipush (-3), 2) := by decide +kernel
theorem dX6_turbine_43 : decode cX6_turbine 43 = .ok (.ireturn, 1) := by decide +kernel
theorem dX6_turbine_44 : decode cX6_turbine 44 = .ok (.aload_n 0, 1) := by decide +kernel
theorem dX6_turbine_45 : decode cX6_turbine 45 = .ok (.getfield 26, 3) := by decide +kernel
theorem dX6_turbine_48 : decode cX6_turbine 48 = .ok (.aload_n 0, 1) := by decide +kernel
theorem dX6_turbine_49 : decode cX6_turbine 49 = .ok (.getfield 96, 3) := by decide +kernel
theorem dX6_turbine_52 : decode cX6_turbine 52 = .ok (.iload_n 1, 1) := by decide +kernel
theorem dX6_turbine_53 : decode cX6_turbine 53 = .ok (.iastore, 1) := by decide +kernel
theorem dX6_turbine_54 : decode cX6_turbine 54 = .ok (.aload_n 0, 1) := by decide +kernel
theorem dX6_turbine_55 : decode cX6_turbine 55 = .ok (.getfield 29, 3) := by decide +kernel
theorem dX6_turbine_58 : decode cX6_turbine 58 = .ok (.aload_n 0, 1) := by decide +kernel
theorem dX6_turbine_59 : decode cX6_turbine 59 = .ok (.getfield 96, 3) := by decide +kernel
theorem dX6_turbine_62 : decode cX6_turbine 62 = .ok (.iload_n 2, 1) := by decide +kernel
theorem dX6_turbine_63 : decode cX6_turbine 63 = .ok (.iastore, 1) := by decide +kernel
theorem dX6_turbine_64 : decode cX6_turbine 64 = .ok (.aload_n 0, 1) := by decide +kernel
theorem dX6_turbine_65 : decode cX6_turbine 65 = .ok (.getfield 32, 3) := by decide +kernel
theorem dX6_turbine_68 : decode cX6_turbine 68 = .ok (.aload_n 0, 1) := by decide +kernel
theorem dX6_turbine_69 : decode cX6_turbine 69 = .ok (.getfield 96, 3) := by decide +kernel
theorem dX6_turbine_72 : decode cX6_turbine 72 = .ok (.iload_n 3, 1) := by decide +kernel
theorem dX6_turbine_73 : decode cX6_turbine 73 = .ok (.iastore, 1) := by decide +kernel
theorem dX6_turbine_74 : decode cX6_turbine 74 = .ok (.aload_n 0, 1) := by decide +kernel
theorem dX6_turbine_75 : decode cX6_turbine 75 = .ok (.getfield 35, 3) := by decide +kernel
theorem dX6_turbine_78 : decode cX6_turbine 78 = .ok (.aload_n 0, 1) := by decide +kernel
theorem dX6_turbine_79 : decode cX6_turbine 79 = .ok (.getfield 96, 3) := by decide +kernel
theorem dX6_turbine_82 : decode cX6_turbine 82 = .ok (.iconst 1, 1) := by decide +kernel
theorem dX6_turbine_83 : decode cX6_turbine 83 = .ok (.bastore, 1) := by decide +kernel
theorem dX6_turbine_84 : decode cX6_turbine 84 = .ok (.aload_n 0, 1) := by decide +kernel
theorem dX6_turbine_85 : decode cX6_turbine 85 = .ok (.dup, 1) := by decide +kernel
theorem dX6_turbine_86 : decode cX6_turbine 86 = .ok (.getfield 96, 3) := by decide +kernel
theorem dX6_turbine_89 : decode cX6_turbine 89 = .ok (.iconst 1, 1) := by decide +kernel
theorem dX6_turbine_90 : decode cX6_turbine 90 = .ok (.iadd, 1) := by decide +kernel
theorem dX6_turbine_91 : decode cX6_turbine 91 = .ok (.putfield 96, 3) := by decide +kernel
theorem dX6_turbine_94 : decode cX6_turbine 94 = .ok (.aload_n 0, 1) := by decide +kernel
theorem dX6_turbine_95 : decode cX6_turbine 95 = .ok (.getfield 96, 3) := by decide +kernel
theorem dX6_turbine_98 : decode cX6_turbine 98 = .ok (.iconst 1, 1) := by decide +kernel
theorem dX6_turbine_99 : decode cX6_turbine 99 = .ok (.isub, 1) := by decide +kernel
theorem dX6_turbine_100 : decode cX6_turbine 100 = .ok (.ireturn, 1) := by decide +kernel
set_option maxRecDepth 20000 in
theorem ggX6_on_X6_in : GoodIn wsX6_on wsX6_in := goodIn_r _ [6] (by decide +kernel) (by decide +kernel)
set_option maxRecDepth 20000 in
theorem gX6_on_X6_in : GoodIn wsX6_on (va_wsS RX6 76 yX6_in wsX6_in) := goodIn_app (goodIn_of _ (by decide +kernel)) ggX6_on_X6_in
theorem dX6_on_0 : decode cX6_on 0 = .ok (.iload_n 1, 1) := by decide +kernel
theorem dX6_on_1 : decode cX6_on 1 = .ok (.iconst 0, 1) := by decide +kernel
theorem dX6_on_2 : decode cX6_on 2 = .ok (.aload_n 0, 1) := by decide +kernel
theorem dX6_on_3 : decode cX6_on 3 = .ok (.getfield 96, 3) := by decide +kernel
theorem dX6_on_6 : decode cX6_on 6 = .ok (.iconst 1, 1) := by decide +kernel
theorem dX6_on_7 : decode cX6_on 7 = .ok (.isub, 1) := by decide +kernel
theorem dX6_on_8 : decode cX6_on 8 = .ok (.invokestatic 76, 3) := by decide +kernel
theorem dX6_on_11 : decode cX6_on 11 = .ok (.ifCond .ne 5, 3) := by decide +kernel
theorem dX6_on_14 : decode cX6_on 14 = .ok (.iconst (-1), 1) := by decide +kernel
theorem dX6_on_15 : decode cX6_on 15 = .ok (.ireturn, 1) := by decide +kernel
theorem dX6_on_16 : decode cX6_on 16 = .ok (.aload_n 0, 1) := by decide +kernel
theorem dX6_on_17 : decode cX6_on 17 = .ok (.getfield 35, 3) := by decide +kernel
theorem dX6_on_20 : decode cX6_on 20 = .ok (.iload_n 1, 1) := by decide +kernel
theorem dX6_on_21 : decode cX6_on 21 = .ok (.baload, 1) := by decide +kernel
theorem dX6_on_22 : decode cX6_on 22 = .ok (.ifCond .eq 7, 3) := by decide +kernel
theorem dX6_on_25 : decode cX6_on 25 = .ok (.iconst 1, 1) := by decide +kernel
theorem dX6_on_26 : decode cX6_on 26 = .ok (.goto 4, 3) := by decide +kernel
theorem dX6_on_29 : decode cX6_on 29 = .ok (.iconst 0, 1) := by decide +kernel
theorem dX6_on_30 : decode cX6_on 30 = .ok (.istore_n 3, 1) := by decide +kernel
theorem dX6_on_31 : decode cX6_on 31 = .ok (.aload_n 0, 1) := by decide +kernel
theorem dX6_on_32 : decode cX6_on 32 = .ok (.getfield 35, 3) := by decide +kernel
theorem dX6_on_35 : decode cX6_on 35 = .ok (.iload_n 1, 1) := by decide +kernel
theorem dX6_on_36 : decode cX6_on 36 = .ok (.iload_n 2, 1) := by decide +kernel
theorem dX6_on_37 : decode cX6_on 37 = .ok (.bastore, 1) := by decide +kernel
theorem dX6_on_38 : decode cX6_on 38 = .ok (.iload_n 3, 1) := by decide +kernel
theorem dX6_on_39 : decode cX6_on 39 = .ok (.ireturn, 1) := by decide +kernel
set_option maxRecDepth 20000 in
theorem ggX6_supply_X6_flowOf : GoodIn wsX6_supply wsX6_flowOf := goodIn_r _ [7, 8, 9, 10, 14, 15, 16, 17, 18, 19, 20, 21, 22, 23, 24, 25, 26, 27, 28, 29, 30, 31, 32, 33, 34, 35, 36, 37, 38, 39, 40] (by decide +kernel) (by decide +kernel)
set_option maxRecDepth 20000 in
theorem gX6_supply_X6_flowOf : GoodIn wsX6_supply (wsV RX6 92 RX6 yX6_flowOf wsX6_flowOf) := goodIn_app (goodIn_of _ (by decide +kernel)) ggX6_supply_X6_flowOf
set_option maxRecDepth 20000 in
theorem ggX6_supply_X6_steamOf : GoodIn wsX6_supply wsX6_steamOf := goodIn_r _ [13] (by decide +kernel) (by decide +kernel)
set_option maxRecDepth 20000 in
theorem gX6_supply_X6_steamOf : GoodIn wsX6_supply (va_wsS RX6 99 yX6_steamOf wsX6_steamOf) := goodIn_app (goodIn_of _ (by decide +kernel)) ggX6_supply_X6_steamOf
theorem dX6_supply_0 : decode cX6_supply 0 = .ok (.iconst 0, 1) := by decide +kernel
theorem dX6_supply_1 : decode cX6_supply 1 = .ok (.istore_n 2, 1) := by decide +kernel
theorem dX6_supply_2 : decode cX6_supply 2 = .ok (.iconst 0, 1) := by decide +kernel
theorem dX6_supply_3 : decode cX6_supply 3 = .ok (.istore_n 3, 1) := by decide +kernel
theorem dX6_supply_4 : decode cX6_supply 4 = .ok (.iload_n 3, 1) := by decide +kernel
theorem dX6_supply_5 : decode cX6_supply 5 = .ok (.aload_n 0, 1) := by decide +kernel
theorem dX6_supply_6 : decode cX6_supply 6 = .ok (.getfield 72, 3) := by decide +kernel
theorem dX6_supply_9 : decode cX6_supply 9 = .ok (.if_icmp .ge 35, 3) := by decide +kernel
theorem dX6_supply_12 : decode cX6_supply 12 = .ok (.iload_n 2, 1) := by decide +kernel
theorem dX6_supply_13 : decode cX6_supply 13 = .ok (.aload_n 0, 1) := by decide +kernel
theorem dX6_supply_14 : decode cX6_supply 14 = .ok (.getfield 19, 3) := by decide +kernel
theorem dX6_supply_17 : decode cX6_supply 17 = .ok (.iload_n 3, 1) := by decide +kernel
theorem dX6_supply_18 : decode cX6_supply 18 = .ok (.baload, 1) := by decide +kernel
theorem dX6_supply_19 : decode cX6_supply 19 = .ok (.ifCond .eq 16, 3) := by decide +kernel
theorem dX6_supply_22 : decode cX6_supply 22 = .ok (.aload_n 0, 1) := by decide +kernel
theorem dX6_supply_23 : decode cX6_supply 23 = .ok (.iload_n 3, 1) := by decide +kernel
theorem dX6_supply_24 : decode cX6_supply 24 = .ok (.iload_n 1, 1) := by decide +kernel
theorem dX6_supply_25 : decode cX6_supply 25 = .ok (.invokevirtual 92, 3) := by decide +kernel
theorem dX6_supply_28 : decode cX6_supply 28 = .ok (.iload_n 1, 1) := by decide +kernel
theorem dX6_supply_29 : decode cX6_supply 29 = .ok (.invokestatic 99, 3) := by decide +kernel
theorem dX6_supply_32 : decode cX6_supply 32 = .ok (.goto 4, 3) := by decide +kernel
theorem dX6_supply_35 : decode cX6_supply 35 = .ok (.iconst 0, 1) := by decide +kernel
theorem dX6_supply_36 : decode cX6_supply 36 = .ok (.iadd, 1) := by decide +kernel
theorem dX6_supply_37 : decode cX6_supply 37 = .ok (.istore_n 2, 1) := by decide +kernel
theorem dX6_supply_38 : decode cX6_supply 38 = .ok (.iinc 3 1, 3) := by decide +kernel
theorem dX6_supply_41 : decode cX6_supply 41 = .ok (.goto (-37), 3) := by decide +kernel
theorem dX6_supply_44 : decode cX6_supply 44 = .ok (.iload_n 2, 1) := by decide +kernel
theorem dX6_supply_45 : decode cX6_supply 45 = .ok (.ireturn, 1) := by decide +kernel
theorem dX6_draw_0 : decode cX6_draw 0 = .ok (.iconst 0, 1) := by decide +kernel
theorem dX6_draw_1 : decode cX6_draw 1 = .ok (.istore_n 2, 1) := by decide +kernel
theorem dX6_draw_2 : decode cX6_draw 2 = .ok (.iconst 0, 1) := by decide +kernel
theorem dX6_draw_3 : decode cX6_draw 3 = .ok (.istore_n 3, 1) := by decide +kernel
theorem dX6_draw_4 : decode cX6_draw 4 = .ok (.iload_n 3, 1) := by decide +kernel
theorem dX6_draw_5 : decode cX6_draw 5 = .ok (.aload_n 0, 1) := by decide +kernel
theorem dX6_draw_6 : decode cX6_draw 6 = .ok (.getfield 96, 3) := by decide +kernel
theorem dX6_draw_9 : decode cX6_draw 9 = .ok (.if_icmp .ge 65, 3) := by decide +kernel
theorem dX6_draw_12 : decode cX6_draw 12 = .ok (.aload_n 0, 1) := by decide +kernel
theorem dX6_draw_13 : decode cX6_draw 13 = .ok (.getfield 35, 3) := by decide +kernel
theorem dX6_draw_16 : decode cX6_draw 16 = .ok (.iload_n 3, 1) := by decide +kernel
theorem dX6_draw_17 : decode cX6_draw 17 = .ok (.baload, 1) := by decide +kernel
theorem dX6_draw_18 : decode cX6_draw 18 = .ok (.ifCond .eq 50, 3) := by decide +kernel
theorem dX6_draw_21 : decode cX6_draw 21 = .ok (.iload_n 1, 1) := by decide +kernel
theorem dX6_draw_22 : decode cX6_draw 22 = .ok (.aload_n 0, 1) := by decide +kernel
theorem dX6_draw_23 : decode cX6_draw 23 = .ok (.getfield 26, 3) := by decide +kernel
theorem dX6_draw_26 : decode cX6_draw 26 = .ok (.iload_n 3, 1) := by decide +kernel
theorem dX6_draw_27 : decode cX6_draw 27 = .ok (.iaload, 1) := by decide +kernel
theorem dX6_draw_28 : decode cX6_draw 28 = .ok (.if_icmp .lt 40, 3) := by decide +kernel
theorem dX6_draw_31 : decode cX6_draw 31 = .ok (.aload_n 0, 1) := by decide +kernel
theorem dX6_draw_32 : decode cX6_draw 32 = .ok (.getfield 29, 3) := by decide +kernel
theorem dX6_draw_35 : decode cX6_draw 35 = .ok (.iload_n 3, 1) := by decide +kernel
theorem dX6_draw_36 : decode cX6_draw 36 = .ok (.iaload, 1) := by decide +kernel
theorem dX6_draw_37 : decode cX6_draw 37 = .ok (.iload_n 1, 1) := by decide +kernel
theorem dX6_draw_38 : decode cX6_draw 38 = .ok (.iconst 1, 1) := by decide +kernel
theorem dX6_draw_39 : decode cX6_draw 39 = .ok (.iadd, 1) := by decide +kernel
theorem dX6_draw_40 : decode cX6_draw 40 = .ok (.imul, 1) := by decide +kernel
theorem dX6_draw_41 : decode cX6_draw 41 = .ok (.istore 4, 2) := by decide +kernel
theorem dX6_draw_43 : decode cX6_draw 43 = .ok (.iload_n 2, 1) := by decide +kernel
theorem dX6_draw_44 : decode cX6_draw 44 = .ok (.iload 4, 2) := by decide +kernel
theorem dX6_draw_46 : decode cX6_draw 46 = .ok (.aload_n 0, 1) := by decide +kernel
theorem dX6_draw_47 : decode cX6_draw 47 = .ok (.getfield 32, 3) := by decide +kernel
theorem dX6_draw_50 : decode cX6_draw 50 = .ok (.iload_n 3, 1) := by decide +kernel
theorem dX6_draw_51 : decode cX6_draw 51 = .ok (.iaload, 1) := by decide +kernel
theorem dX6_draw_52 : decode cX6_draw 52 = .ok (.if_icmp .le 12, 3) := by decide +kernel
theorem dX6_draw_55 : decode cX6_draw 55 = .ok (.aload_n 0, 1) := by decide +kernel
theorem dX6_draw_56 : decode cX6_draw 56 = .ok (.getfield 32, 3) := by decide +kernel
theorem dX6_draw_59 : decode cX6_draw 59 = .ok (.iload_n 3, 1) := by decide +kernel
theorem dX6_draw_60 : decode cX6_draw 60 = .ok (.iaload, 1) := by decide +kernel
theorem dX6_draw_61 : decode cX6_draw 61 = .ok (.goto 5, 3) := by decide +kernel
theorem dX6_draw_64 : decode cX6_draw 64 = .ok (.iload 4, 2) := by decide +kernel
theorem dX6_draw_66 : decode cX6_draw 66 = .ok (.iadd, 1) := by decide +kernel
theorem dX6_draw_67 : decode cX6_draw 67 = .ok (.istore_n 2, 1) := by decide +kernel
theorem dX6_draw_68 : decode cX6_draw 68 = .ok (.iinc 3 1, 3) := by decide +kernel
theorem dX6_draw_71 : decode cX6_draw 71 = .ok (.goto (-67), 3) := by decide +kernel
theorem dX6_draw_74 : decode cX6_draw 74 = .ok (.iload_n 2, 1) := by decide +kernel
theorem dX6_draw_75 : decode cX6_draw 75 = .ok (.ireturn, 1) := by decide +kernel
set_option maxRecDepth 20000 in
theorem ggX6_at_X6_in : GoodIn wsX6_at wsX6_in := goodIn_r _ [6] (by decide +kernel) (by decide +kernel)
set_option maxRecDepth 20000 in
theorem gX6_at_X6_in : GoodIn wsX6_at (va_wsS RX6 76 yX6_in wsX6_in) := goodIn_app (goodIn_of _ (by decide +kernel)) ggX6_at_X6_in
set_option maxRecDepth 20000 in
theorem ggX6_at_X6_supply : GoodIn wsX6_at wsX6_supply := goodIn_r _ [10, 1, 2, 11, 12, 13, 5, 14, 15, 16, 17, 18, 19, 20, 30, 31, 32, 33, 34, 35, 36, 37, 38, 39, 40, 41, 42, 43, 44, 45, 46, 47, 48, 49, 50, 51, 52, 53, 54, 55, 56] (by decide +kernel) (by decide +kernel)
set_option maxRecDepth 20000 in
theorem gX6_at_X6_supply : GoodIn wsX6_at (wsV RX6 102 RX6 yX6_supply wsX6_supply) := goodIn_app (goodIn_of _ (by decide +kernel)) ggX6_at_X6_supply
set_option maxRecDepth 20000 in
theorem ggX6_at_X6_draw : GoodIn wsX6_at wsX6_draw := goodIn_r _ [24, 25, 26, 27, 28, 29, 30, 31, 32, 33, 34, 35, 36, 37, 38, 39, 40, 41, 42, 43, 44, 45, 46, 47, 48, 49, 50, 51, 52, 53, 54, 55, 56] (by decide +kernel) (by decide +kernel)
set_option maxRecDepth 20000 in
theorem gX6_at_X6_draw : GoodIn wsX6_at (wsV RX6 106 RX6 yX6_draw wsX6_draw) := goodIn_app (goodIn_of _ (by decide +kernel)) ggX6_at_X6_draw
set_option maxRecDepth 20000 in
theorem ggX6_at_X6_flowOf : GoodIn wsX6_at wsX6_flowOf := goodIn_r _ [14, 15, 16, 17, 30, 31, 32, 33, 34, 35, 36, 37, 38, 39, 40, 41, 42, 43, 44, 45, 46, 47, 48, 49, 50, 51, 52, 53, 54, 55, 56] (by decide +kernel) (by decide +kernel)
set_option maxRecDepth 20000 in
theorem gX6_at_X6_flowOf : GoodIn wsX6_at (wsV RX6 92 RX6 yX6_flowOf wsX6_flowOf) := goodIn_app (goodIn_of _ (by decide +kernel)) ggX6_at_X6_flowOf
theorem dX6_at_0 : decode cX6_at 0 = .ok (.iload_n 1, 1) := by decide +kernel
theorem dX6_at_1 : decode cX6_at 1 = .ok (.iconst 0, 1) := by decide +kernel
theorem dX6_at_2 : decode cX6_at 2 = .ok (.iconst 2, 1) := by decide +kernel
theorem dX6_at_3 : decode cX6_at 3 = .ok (.invokestatic 76, 3) := by decide +kernel
theorem dX6_at_6 : decode cX6_at 6 = .ok (.ifCond .eq 13, 3) := by decide +kernel
theorem dX6_at_9 : decode cX6_at 9 = .ok (.iload_n 2, 1) := by decide +kernel
theorem dX6_at_10 : decode cX6_at 10 = .ok (.iconst 0, 1) := by decide +kernel
theorem dX6_at_11 : decode cX6_at 11 = .ok (.bipush 20, 2) := by decide +kernel
theorem dX6_at_13 : decode cX6_at 13 = .ok (.invokestatic 76, 3) := by decide +kernel
theorem dX6_at_16 : decode cX6_at 16 = .ok (.ifCond .ne 5, 3) := by decide +kernel
theorem dX6_at_19 : decode cX6_at 19 = .ok (.iconst (-1), 1) := by decide +kernel
theorem dX6_at_20 : decode cX6_at 20 = .ok (.ireturn, 1) := by decide +kernel
theorem dX6_at_21 : decode cX6_at 21 = .ok (.iload_n 1, 1) := by decide +kernel
theorem dX6_at_22 : decode cX6_at 22 = .ok (.iconst 2, 1) := by decide +kernel
theorem dX6_at_23 : decode cX6_at 23 = .ok (.if_icmp .ge 21, 3) := by decide +kernel
theorem dX6_at_26 : decode cX6_at 26 = .ok (.iload_n 1, 1) := by decide +kernel
theorem dX6_at_27 : decode cX6_at 27 = .ok (.ifCond .ne 11, 3) := by decide +kernel
theorem dX6_at_30 : decode cX6_at 30 = .ok (.aload_n 0, 1) := by decide +kernel
theorem dX6_at_31 : decode cX6_at 31 = .ok (.iload_n 2, 1) := by decide +kernel
theorem dX6_at_32 : decode cX6_at 32 = .ok (.invokevirtual 102, 3) := by decide +kernel
theorem dX6_at_35 : decode cX6_at 35 = .ok (.goto 8, 3) := by decide +kernel
theorem dX6_at_38 : decode cX6_at 38 = .ok (.aload_n 0, 1) := by decide +kernel
theorem dX6_at_39 : decode cX6_at 39 = .ok (.iload_n 2, 1) := by decide +kernel
theorem dX6_at_40 : decode cX6_at 40 = .ok (.invokevirtual 106, 3) := by decide +kernel
theorem dX6_at_43 : decode cX6_at 43 = .ok (.ireturn, 1) := by decide +kernel
theorem dX6_at_44 : decode cX6_at 44 = .ok (.iconst 0, 1) := by decide +kernel
theorem dX6_at_45 : decode cX6_at 45 = .ok (.istore_n 3, 1) := by decide +kernel
theorem dX6_at_46 : decode cX6_at 46 = .ok (.iconst 0, 1) := by decide +kernel
theorem dX6_at_47 : decode cX6_at 47 = .ok (.istore 4, 2) := by decide +kernel
theorem dX6_at_49 : decode cX6_at 49 = .ok (.iload 4, 2) := by decide +kernel
theorem dX6_at_51 : decode cX6_at 51 = .ok (.aload_n 0, 1) := by decide +kernel
theorem dX6_at_52 : decode cX6_at 52 = .ok (.getfield 72, 3) := by decide +kernel
theorem dX6_at_55 : decode cX6_at 55 = .ok (.if_icmp .ge 33, 3) := by decide +kernel
theorem dX6_at_58 : decode cX6_at 58 = .ok (.iload_n 3, 1) := by decide +kernel
theorem dX6_at_59 : decode cX6_at 59 = .ok (.aload_n 0, 1) := by decide +kernel
theorem dX6_at_60 : decode cX6_at 60 = .ok (.getfield 19, 3) := by decide +kernel
theorem dX6_at_63 : decode cX6_at 63 = .ok (.iload 4, 2) := by decide +kernel
theorem dX6_at_65 : decode cX6_at 65 = .ok (.baload, 1) := by decide +kernel
theorem dX6_at_66 : decode cX6_at 66 = .ok (.ifCond .eq 13, 3) := by decide +kernel
theorem dX6_at_69 : decode cX6_at 69 = .ok (.aload_n 0, 1) := by decide +kernel
theorem dX6_at_70 : decode cX6_at 70 = .ok (.iload 4, 2) := by decide +kernel
theorem dX6_at_72 : decode cX6_at 72 = .ok (.iload_n 2, 1) := by decide +kernel
theorem dX6_at_73 : decode cX6_at 73 = .ok (.invokevirtual 92, 3) := by decide +kernel
theorem dX6_at_76 : decode cX6_at 76 = .ok (.goto 4, 3) := by decide +kernel
theorem dX6_at_79 : decode cX6_at 79 = .ok (.iconst 0, 1) := by decide +kernel
theorem dX6_at_80 : decode cX6_at 80 = .ok (.iadd, 1) := by decide +kernel
theorem dX6_at_81 : decode cX6_at 81 = .ok (.istore_n 3, 1) := by decide +kernel
theorem dX6_at_82 : decode cX6_at 82 = .ok (.iinc 4 1, 3) := by decide +kernel
theorem dX6_at_85 : decode cX6_at 85 = .ok (.goto (-36), 3) := by decide +kernel
theorem dX6_at_88 : decode cX6_at 88 = .ok (.iload_n 3, 1) := by decide +kernel
theorem dX6_at_89 : decode cX6_at 89 = .ok (.aload_n 0, 1) := by decide +kernel
theorem dX6_at_90 : decode cX6_at 90 = .ok (.iload_n 2, 1) := by decide +kernel
theorem dX6_at_91 : decode cX6_at 91 = .ok (.invokevirtual 102, 3) := by decide +kernel
theorem dX6_at_94 : decode cX6_at 94 = .ok (.isub, 1) := by decide +kernel
theorem dX6_at_95 : decode cX6_at 95 = .ok (.ireturn, 1) := by decide +kernel
set_option maxRecDepth 20000 in
theorem ggX6_point_X6_supply : GoodIn wsX6_point wsX6_supply := goodIn_r _ [5, 6, 7, 8, 9, 10, 4, 11, 12, 13, 14, 15, 16, 17, 27, 28, 29, 30, 31, 32, 33, 34, 35, 36, 37, 38, 39, 40, 41, 42, 43, 44, 45, 46, 47, 48, 49, 50, 51, 52, 53] (by decide +kernel) (by decide +kernel)
set_option maxRecDepth 20000 in
theorem gX6_point_X6_supply : GoodIn wsX6_point (wsV RX6 102 RX6 yX6_supply wsX6_supply) := goodIn_app (goodIn_of _ (by decide +kernel)) ggX6_point_X6_supply
set_option maxRecDepth 20000 in
theorem ggX6_point_X6_draw : GoodIn wsX6_point wsX6_draw := goodIn_r _ [21, 22, 23, 24, 25, 26, 27, 28, 29, 30, 31, 32, 33, 34, 35, 36, 37, 38, 39, 40, 41, 42, 43, 44, 45, 46, 47, 48, 49, 50, 51, 52, 53] (by decide +kernel) (by decide +kernel)
set_option maxRecDepth 20000 in
theorem gX6_point_X6_draw : GoodIn wsX6_point (wsV RX6 106 RX6 yX6_draw wsX6_draw) := goodIn_app (goodIn_of _ (by decide +kernel)) ggX6_point_X6_draw
theorem dX6_point_0 : decode cX6_point 0 = .ok (.bipush 20, 2) := by decide +kernel
theorem dX6_point_2 : decode cX6_point 2 = .ok (.istore_n 1, 1) := by decide +kernel
theorem dX6_point_3 : decode cX6_point 3 = .ok (.iload_n 1, 1) := by decide +kernel
theorem dX6_point_4 : decode cX6_point 4 = .ok (.ifCond .lt 22, 3) := by decide +kernel
theorem dX6_point_7 : decode cX6_point 7 = .ok (.aload_n 0, 1) := by decide +kernel
theorem dX6_point_8 : decode cX6_point 8 = .ok (.iload_n 1, 1) := by decide +kernel
theorem dX6_point_9 : decode cX6_point 9 = .ok (.invokevirtual 102, 3) := by decide +kernel
theorem dX6_point_12 : decode cX6_point 12 = .ok (.aload_n 0, 1) := by decide +kernel
theorem dX6_point_13 : decode cX6_point 13 = .ok (.iload_n 1, 1) := by decide +kernel
theorem dX6_point_14 : decode cX6_point 14 = .ok (.invokevirtual 106, 3) := by decide +kernel
theorem dX6_point_17 : decode cX6_point 17 = .ok (.if_icmp .ge 9, 3) := by decide +kernel
theorem dX6_point_20 : decode cX6_point 20 = .ok (.iinc 1 (-1), 3) := by decide +kernel
theorem dX6_point_23 : decode cX6_point 23 = .ok (.goto (-20), 3) := by decide +kernel
theorem dX6_point_26 : decode cX6_point 26 = .ok (.iload_n 1, 1) := by decide +kernel
theorem dX6_point_27 : decode cX6_point 27 = .ok (.ifCond .ge 8, 3) := by decide +kernel
theorem dX6_point_30 : decode cX6_point 30 = .ok (.bipush (-9), 2) := by decide +kernel
theorem dX6_point_32 : decode cX6_point 32 = .ok (.goto 4, 3) := by decide +kernel
theorem dX6_point_35 : decode cX6_point 35 = .ok (.iload_n 1, 1) := by decide +kernel
theorem dX6_point_36 : decode cX6_point 36 = .ok (.ireturn, 1) := by decide +kernel
set_option maxRecDepth 20000 in
theorem ggX6_isBox_X6_in : GoodIn wsX6_isBox wsX6_in := goodIn_r _ [4] (by decide +kernel) (by decide +kernel)
set_option maxRecDepth 20000 in
theorem gX6_isBox_X6_in : GoodIn wsX6_isBox (va_wsS RX6 76 yX6_in wsX6_in) := goodIn_app (goodIn_of _ (by decide +kernel)) ggX6_isBox_X6_in
theorem dX6_isBox_0 : decode cX6_isBox 0 = .ok (.iload_n 0, 1) := by decide +kernel
theorem dX6_isBox_1 : decode cX6_isBox 1 = .ok (.iconst 0, 1) := by decide +kernel
theorem dX6_isBox_2 : decode cX6_isBox 2 = .ok (.iconst 3, 1) := by decide +kernel
theorem dX6_isBox_3 : decode cX6_isBox 3 = .ok (.invokestatic 76, 3) := by decide +kernel
theorem dX6_isBox_6 : decode cX6_isBox 6 = .ok (.ireturn, 1) := by decide +kernel
set_option maxRecDepth 20000 in
theorem ggX6_fill_X6_isBox : GoodIn wsX6_fill wsX6_isBox := goodIn_r _ [7, 8, 9, 6, 10] (by decide +kernel) (by decide +kernel)
set_option maxRecDepth 20000 in
theorem gX6_fill_X6_isBox : GoodIn wsX6_fill (va_wsS RX6 109 yX6_isBox wsX6_isBox) := goodIn_app (goodIn_of _ (by decide +kernel)) ggX6_fill_X6_isBox
set_option maxRecDepth 20000 in
theorem ggX6_fill_X6_in : GoodIn wsX6_fill wsX6_in := goodIn_r _ [10] (by decide +kernel) (by decide +kernel)
set_option maxRecDepth 20000 in
theorem gX6_fill_X6_in : GoodIn wsX6_fill (va_wsS RX6 76 yX6_in wsX6_in) := goodIn_app (goodIn_of _ (by decide +kernel)) ggX6_fill_X6_in
theorem dX6_fill_0 : decode cX6_fill 0 = .ok (.iload_n 1, 1) := by decide +kernel
theorem dX6_fill_1 : decode cX6_fill 1 = .ok (.invokestatic 109, 3) := by decide +kernel
theorem dX6_fill_4 : decode cX6_fill 4 = .ok (.ifCond .eq 23, 3) := by decide +kernel
theorem dX6_fill_7 : decode cX6_fill 7 = .ok (.iload_n 2, 1) := by decide +kernel
theorem dX6_fill_8 : decode cX6_fill 8 = .ok (.iconst 0, 1) := by decide +kernel
theorem dX6_fill_9 : decode cX6_fill 9 = .ok (.ldc 112, 2) := by decide +kernel
theorem dX6_fill_11 : decode cX6_fill 11 = .ok (.invokestatic 76, 3) := by decide +kernel
theorem dX6_fill_14 : decode cX6_fill 14 = .ok (.ifCond .eq 13, 3) := by decide +kernel
theorem dX6_fill_17 : decode cX6_fill 17 = .ok (.iload_n 3, 1) := by decide +kernel
theorem dX6_fill_18 : decode cX6_fill 18 = .ok (.iconst 0, 1) := by decide +kernel
theorem dX6_fill_19 : decode cX6_fill 19 = .ok (.ldc 112, 2) := by decide +kernel
theorem dX6_fill_21 : decode cX6_fill 21 = .ok (.invokestatic 76, 3) := by decide +kernel
theorem dX6_fill_24 : decode cX6_fill 24 = .ok (.ifCond .ne 5, 3) := by decide +kernel
theorem dX6_fill_27 : decode cX6_fill 27 = .ok (.iconst (-1), 1) := by decide +kernel
theorem dX6_fill_28 : decode cX6_fill 28 = .ok (.ireturn, 1) := by decide +kernel
theorem dX6_fill_29 : decode cX6_fill 29 = .ok (.aload_n 0, 1) := by decide +kernel
theorem dX6_fill_30 : decode cX6_fill 30 = .ok (.getfield 38, 3) := by decide +kernel
theorem dX6_fill_33 : decode cX6_fill 33 = .ok (.iload_n 1, 1) := by decide +kernel
theorem dX6_fill_34 : decode cX6_fill 34 = .ok (.iload_n 2, 1) := by decide +kernel
theorem dX6_fill_35 : decode cX6_fill 35 = .ok (.i2l, 1) := by decide +kernel
theorem dX6_fill_36 : decode cX6_fill 36 = .ok (.lastore, 1) := by decide +kernel
theorem dX6_fill_37 : decode cX6_fill 37 = .ok (.aload_n 0, 1) := by decide +kernel
theorem dX6_fill_38 : decode cX6_fill 38 = .ok (.getfield 42, 3) := by decide +kernel
theorem dX6_fill_41 : decode cX6_fill 41 = .ok (.iload_n 1, 1) := by decide +kernel
theorem dX6_fill_42 : decode cX6_fill 42 = .ok (.iload_n 3, 1) := by decide +kernel
theorem dX6_fill_43 : decode cX6_fill 43 = .ok (.i2l, 1) := by decide +kernel
theorem dX6_fill_44 : decode cX6_fill 44 = .ok (.lastore, 1) := by decide +kernel
theorem dX6_fill_45 : decode cX6_fill 45 = .ok (.iconst 1, 1) := by decide +kernel
theorem dX6_fill_46 : decode cX6_fill 46 = .ok (.ireturn, 1) := by decide +kernel
set_option maxRecDepth 20000 in
theorem ggX6_set_X6_in : GoodIn wsX6_set wsX6_in := goodIn_r _ [8] (by decide +kernel) (by decide +kernel)
set_option maxRecDepth 20000 in
theorem gX6_set_X6_in : GoodIn wsX6_set (va_wsS RX6 76 yX6_in wsX6_in) := goodIn_app (goodIn_of _ (by decide +kernel)) ggX6_set_X6_in
set_option maxRecDepth 20000 in
theorem ggX6_set_X6_isBox : GoodIn wsX6_set wsX6_isBox := goodIn_r _ [11, 5, 6, 7, 8] (by decide +kernel) (by decide +kernel)
set_option maxRecDepth 20000 in
theorem gX6_set_X6_isBox : GoodIn wsX6_set (va_wsS RX6 109 yX6_isBox wsX6_isBox) := goodIn_app (goodIn_of _ (by decide +kernel)) ggX6_set_X6_isBox
theorem dX6_set_0 : decode cX6_set 0 = .ok (.iconst (-1), 1) := by decide +kernel
theorem dX6_set_1 : decode cX6_set 1 = .ok (.istore 4, 2) := by decide +kernel
theorem dX6_set_3 : decode cX6_set 3 = .ok (.iload_n 1, 1) := by decide +kernel
theorem dX6_set_4 : decode cX6_set 4 = .ok (.ifCond .ne 41, 3) := by decide +kernel
theorem dX6_set_7 : decode cX6_set 7 = .ok (.iload_n 2, 1) := by decide +kernel
theorem dX6_set_8 : decode cX6_set 8 = .ok (.iconst 0, 1) := by decide +kernel
theorem dX6_set_9 : decode cX6_set 9 = .ok (.iconst 2, 1) := by decide +kernel
theorem dX6_set_10 : decode cX6_set 10 = .ok (.invokestatic 76, 3) := by decide +kernel
theorem dX6_set_13 : decode cX6_set 13 = .ok (.ifCond .eq 32, 3) := by decide +kernel
theorem dX6_set_16 : decode cX6_set 16 = .ok (.iload_n 3, 1) := by decide +kernel
theorem dX6_set_17 : decode cX6_set 17 = .ok (.iconst 2, 1) := by decide +kernel
theorem dX6_set_18 : decode cX6_set 18 = .ok (.sipush 1000, 3) := by decide +kernel
theorem dX6_set_21 : decode cX6_set 21 = .ok (.invokestatic 76, 3) := by decide +kernel
theorem dX6_set_24 : decode cX6_set 24 = .ok (.ifCond .eq 21, 3) := by decide +kernel
theorem dX6_set_27 : decode cX6_set 27 = .ok (.aload_n 0, 1) := by decide +kernel
theorem dX6_set_28 : decode cX6_set 28 = .ok (.getfield 45, 3) := by decide +kernel
theorem dX6_set_31 : decode cX6_set 31 = .ok (.iload_n 2, 1) := by decide +kernel
theorem dX6_set_32 : decode cX6_set 32 = .ok (.iaload, 1) := by decide +kernel
theorem dX6_set_33 : decode cX6_set 33 = .ok (.istore 4, 2) := by decide +kernel
theorem dX6_set_35 : decode cX6_set 35 = .ok (.aload_n 0, 1) := by decide +kernel
theorem dX6_set_36 : decode cX6_set 36 = .ok (.getfield 45, 3) := by decide +kernel
theorem dX6_set_39 : decode cX6_set 39 = .ok (.iload_n 2, 1) := by decide +kernel
theorem dX6_set_40 : decode cX6_set 40 = .ok (.iload_n 3, 1) := by decide +kernel
theorem dX6_set_41 : decode cX6_set 41 = .ok (.iastore, 1) := by decide +kernel
theorem dX6_set_42 : decode cX6_set 42 = .ok (.goto 106, 3) := by decide +kernel
theorem dX6_set_45 : decode cX6_set 45 = .ok (.iload_n 1, 1) := by decide +kernel
theorem dX6_set_46 : decode cX6_set 46 = .ok (.iconst 1, 1) := by decide +kernel
theorem dX6_set_47 : decode cX6_set 47 = .ok (.if_icmp .ne 39, 3) := by decide +kernel
theorem dX6_set_50 : decode cX6_set 50 = .ok (.iload_n 2, 1) := by decide +kernel
theorem dX6_set_51 : decode cX6_set 51 = .ok (.invokestatic 109, 3) := by decide +kernel
theorem dX6_set_54 : decode cX6_set 54 = .ok (.ifCond .eq 32, 3) := by decide +kernel
theorem dX6_set_57 : decode cX6_set 57 = .ok (.iload_n 3, 1) := by decide +kernel
theorem dX6_set_58 : decode cX6_set 58 = .ok (.iconst 0, 1) := by decide +kernel
theorem dX6_set_59 : decode cX6_set 59 = .ok (.sipush 1000, 3) := by decide +kernel
theorem dX6_set_62 : decode cX6_set 62 = .ok (.invokestatic 76, 3) := by decide +kernel
theorem dX6_set_65 : decode cX6_set 65 = .ok (.ifCond .eq 21, 3) := by decide +kernel
theorem dX6_set_68 : decode cX6_set 68 = .ok (.aload_n 0, 1) := by decide +kernel
theorem dX6_set_69 : decode cX6_set 69 = .ok (.getfield 48, 3) := by decide +kernel
theorem dX6_set_72 : decode cX6_set 72 = .ok (.iload_n 2, 1) := by decide +kernel
theorem dX6_set_73 : decode cX6_set 73 = .ok (.iaload, 1) := by decide +kernel
theorem dX6_set_74 : decode cX6_set 74 = .ok (.istore 4, 2) := by decide +kernel
theorem dX6_set_76 : decode cX6_set 76 = .ok (.aload_n 0, 1) := by decide +kernel
theorem dX6_set_77 : decode cX6_set 77 = .ok (.getfield 48, 3) := by decide +kernel
theorem dX6_set_80 : decode cX6_set 80 = .ok (.iload_n 2, 1) := by decide +kernel
theorem dX6_set_81 : decode cX6_set 81 = .ok (.iload_n 3, 1) := by decide +kernel
theorem dX6_set_82 : decode cX6_set 82 = .ok (.iastore, 1) := by decide +kernel
theorem dX6_set_83 : decode cX6_set 83 = .ok (.goto 65, 3) := by decide +kernel
theorem dX6_set_86 : decode cX6_set 86 = .ok (.iload_n 1, 1) := by decide +kernel
theorem dX6_set_87 : decode cX6_set 87 = .ok (.iconst 2, 1) := by decide +kernel
theorem dX6_set_88 : decode cX6_set 88 = .ok (.if_icmp .ne 32, 3) := by decide +kernel
theorem dX6_set_91 : decode cX6_set 91 = .ok (.iload_n 2, 1) := by decide +kernel
theorem dX6_set_92 : decode cX6_set 92 = .ok (.ifCond .ne 28, 3) := by decide +kernel
theorem dX6_set_95 : decode cX6_set 95 = .ok (.iload_n 3, 1) := by decide +kernel
theorem dX6_set_96 : decode cX6_set 96 = .ok (.iconst 0, 1) := by decide +kernel
theorem dX6_set_97 : decode cX6_set 97 = .ok (.sipush 1000, 3) := by decide +kernel
theorem dX6_set_100 : decode cX6_set 100 = .ok (.invokestatic 76, 3) := by decide +kernel
theorem dX6_set_103 : decode cX6_set 103 = .ok (.ifCond .eq 17, 3) := by decide +kernel
theorem dX6_set_106 : decode cX6_set 106 = .ok (.aload_n 0, 1) := by decide +kernel
theorem dX6_set_107 : decode cX6_set 107 = .ok (.getfield 113, 3) := by decide +kernel
theorem dX6_set_110 : decode cX6_set 110 = .ok (.istore 4, 2) := by decide +kernel
theorem dX6_set_112 : decode cX6_set 112 = .ok (.aload_n 0, 1) := by decide +kernel
theorem dX6_set_113 : decode cX6_set 113 = .ok (.iload_n 3, 1) := by decide +kernel
theorem dX6_set_114 : decode cX6_set 114 = .ok (.putfield 113, 3) := by decide +kernel
theorem dX6_set_117 : decode cX6_set 117 = .ok (.goto 31, 3) := by decide +kernel
theorem dX6_set_120 : decode cX6_set 120 = .ok (.iload_n 1, 1) := by decide +kernel
theorem dX6_set_121 : decode cX6_set 121 = .ok (.iconst 2, 1) := by decide +kernel
theorem dX6_set_122 : decode cX6_set 122 = .ok (.if_icmp .ne 26, 3) := by decide +kernel
theorem dX6_set_125 : decode cX6_set 125 = .ok (.iload_n 2, 1) := by decide +kernel
theorem dX6_set_126 : decode cX6_set 126 = .ok (.iconst 1, 1) := by decide +kernel
theorem dX6_set_127 : decode cX6_set 127 = .ok (.if_icmp .ne 21, 3) := by decide +kernel
theorem dX6_set_130 : decode cX6_set 130 = .ok (.iload_n 3, 1) := by decide +kernel
theorem dX6_set_131 : decode cX6_set 131 = .ok (.invokestatic 109, 3) := by decide +kernel
theorem dX6_set_134 : decode cX6_set 134 = .ok (.ifCond .eq 14, 3) := by decide +kernel
theorem dX6_set_137 : decode cX6_set 137 = .ok (.aload_n 0, 1) := by decide +kernel
theorem dX6_set_138 : decode cX6_set 138 = .ok (.getfield 116, 3) := by decide +kernel
theorem dX6_set_141 : decode cX6_set 141 = .ok (.istore 4, 2) := by decide +kernel
theorem dX6_set_143 : decode cX6_set 143 = .ok (.aload_n 0, 1) := by decide +kernel
theorem dX6_set_144 : decode cX6_set 144 = .ok (.iload_n 3, 1) := by decide +kernel
theorem dX6_set_145 : decode cX6_set 145 = .ok (.putfield 116, 3) := by decide +kernel
theorem dX6_set_148 : decode cX6_set 148 = .ok (.iload 4, 2) := by decide +kernel
theorem dX6_set_150 : decode cX6_set 150 = .ok (.ireturn, 1) := by decide +kernel
theorem dX6_goes_0 : decode cX6_goes 0 = .ok (.aload_n 0, 1) := by decide +kernel
theorem dX6_goes_1 : decode cX6_goes 1 = .ok (.getfield 38, 3) := by decide +kernel
theorem dX6_goes_4 : decode cX6_goes 4 = .ok (.iload_n 1, 1) := by decide +kernel
theorem dX6_goes_5 : decode cX6_goes 5 = .ok (.laload, 1) := by decide +kernel
theorem dX6_goes_6 : decode cX6_goes 6 = .ok (.lconst 0, 1) := by decide +kernel
theorem dX6_goes_7 : decode cX6_goes 7 = .ok (.lcmp, 1) := by decide +kernel
theorem dX6_goes_8 : decode cX6_goes 8 = .ok (.ifCond .ne 7, 3) := by decide +kernel
theorem dX6_goes_11 : decode cX6_goes 11 = .ok (.lconst 0, 1) := by decide +kernel
theorem dX6_goes_12 : decode cX6_goes 12 = .ok (.goto 18, 3) := by decide +kernel
theorem dX6_goes_15 : decode cX6_goes 15 = .ok (.lload_n 2, 1) := by decide +kernel
theorem dX6_goes_16 : decode cX6_goes 16 = .ok (.aload_n 0, 1) := by decide +kernel
theorem dX6_goes_17 : decode cX6_goes 17 = .ok (.getfield 42, 3) := by decide +kernel
theorem dX6_goes_20 : decode cX6_goes 20 = .ok (.iload_n 1, 1) := by decide +kernel
theorem dX6_goes_21 : decode cX6_goes 21 = .ok (.laload, 1) := by decide +kernel
theorem dX6_goes_22 : decode cX6_goes 22 = .ok (.lmul, 1) := by decide +kernel
theorem dX6_goes_23 : decode cX6_goes 23 = .ok (.aload_n 0, 1) := by decide +kernel
theorem dX6_goes_24 : decode cX6_goes 24 = .ok (.getfield 38, 3) := by decide +kernel
theorem dX6_goes_27 : decode cX6_goes 27 = .ok (.iload_n 1, 1) := by decide +kernel
theorem dX6_goes_28 : decode cX6_goes 28 = .ok (.laload, 1) := by decide +kernel
theorem dX6_goes_29 : decode cX6_goes 29 = .ok (.ldiv, 1) := by decide +kernel
theorem dX6_goes_30 : decode cX6_goes 30 = .ok (.lstore 4, 2) := by decide +kernel
theorem dX6_goes_32 : decode cX6_goes 32 = .ok (.aload_n 0, 1) := by decide +kernel
theorem dX6_goes_33 : decode cX6_goes 33 = .ok (.getfield 38, 3) := by decide +kernel
theorem dX6_goes_36 : decode cX6_goes 36 = .ok (.iload_n 1, 1) := by decide +kernel
theorem dX6_goes_37 : decode cX6_goes 37 = .ok (.dup2, 1) := by decide +kernel
