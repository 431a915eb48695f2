set_option maxRecDepth 20000 in
theorem ggX5_init_X4_init : GoodIn wsX5_init wsX4_init := goodIn_r _ [26, 27, 2, 3, 28, 29, 30, 31, 32, 33, 34, 63, 64, 65, 66, 67, 68] (by decide +kernel) (by decide +kernel)
set_option maxRecDepth 20000 in
theorem gX5_init_X4_init_n9 : GoodIn wsX5_init (wsX4_init) := ggX5_init_X4_init
set_option maxRecDepth 20000 in
theorem ggX5_init_X3_init : GoodIn wsX5_init wsX3_init := goodIn_r _ [36, 37, 2, 3, 28, 38, 39, 40, 32, 41, 75, 76, 77, 78, 79] (by decide +kernel) (by decide +kernel)
set_option maxRecDepth 20000 in
theorem gX5_init_X3_init_n18 : GoodIn wsX5_init (wsX3_init) := ggX5_init_X3_init
set_option maxRecDepth 20000 in
theorem ggX5_init_X0_init : GoodIn wsX5_init wsX0_init := goodIn_r _ [43, 44, 2, 3, 45, 46, 47, 28, 48, 49, 50, 80, 81, 82, 83, 84, 85, 86] (by decide +kernel) (by decide +kernel)
set_option maxRecDepth 20000 in
theorem gX5_init_X0_init_n25 : GoodIn wsX5_init (wsX0_init) := ggX5_init_X0_init
set_option maxRecDepth 20000 in
theorem ggX5_init_X1_init : GoodIn wsX5_init wsX1_init := goodIn_r _ [52, 53, 2, 3, 28, 54, 55, 87, 88, 89] (by decide +kernel) (by decide +kernel)
set_option maxRecDepth 20000 in
theorem gX5_init_X1_init_n32 : GoodIn wsX5_init (wsX1_init) := ggX5_init_X1_init
set_option maxRecDepth 20000 in
theorem ggX5_init_X2_init : GoodIn wsX5_init wsX2_init := goodIn_r _ [57, 58, 2, 3, 28, 59, 60, 61, 62, 90, 91, 92, 93, 94] (by decide +kernel) (by decide +kernel)
set_option maxRecDepth 20000 in
theorem gX5_init_X2_init_n39 : GoodIn wsX5_init (wsX2_init) := ggX5_init_X2_init
theorem dX5_init_0 : decode cX5_init 0 = .ok (.aload_n 0, 1) := by decide +kernel
theorem dX5_init_1 : decode cX5_init 1 = .ok (.invokespecial 1, 3) := by decide +kernel
theorem dX5_init_4 : decode cX5_init 4 = .ok (.aload_n 0, 1) := by decide +kernel
theorem dX5_init_5 : decode cX5_init 5 = .ok (.new 7, 3) := by decide +kernel
theorem dX5_init_8 : decode cX5_init 8 = .ok (.dup, 1) := by decide +kernel
theorem dX5_init_9 : decode cX5_init 9 = .ok (.invokespecial 9, 3) := by decide +kernel
theorem dX5_init_12 : decode cX5_init 12 = .ok (.putfield 10, 3) := by decide +kernel
theorem dX5_init_15 : decode cX5_init 15 = .ok (.aload_n 0, 1) := by decide +kernel
theorem dX5_init_16 : decode cX5_init 16 = .ok (.new 16, 3) := by decide +kernel
theorem dX5_init_19 : decode cX5_init 19 = .ok (.dup, 1) := by decide +kernel
theorem dX5_init_20 : decode cX5_init 20 = .ok (.invokespecial 18, 3) := by decide +kernel
theorem dX5_init_23 : decode cX5_init 23 = .ok (.putfield 19, 3) := by decide +kernel
theorem dX5_init_26 : decode cX5_init 26 = .ok (.aload_n 0, 1) := by decide +kernel
theorem dX5_init_27 : decode cX5_init 27 = .ok (.new 23, 3) := by decide +kernel
theorem dX5_init_30 : decode cX5_init 30 = .ok (.dup, 1) := by decide +kernel
theorem dX5_init_31 : decode cX5_init 31 = .ok (.invokespecial 25, 3) := by decide +kernel
theorem dX5_init_34 : decode cX5_init 34 = .ok (.putfield 26, 3) := by decide +kernel
theorem dX5_init_37 : decode cX5_init 37 = .ok (.aload_n 0, 1) := by decide +kernel
theorem dX5_init_38 : decode cX5_init 38 = .ok (.new 30, 3) := by decide +kernel
theorem dX5_init_41 : decode cX5_init 41 = .ok (.dup, 1) := by decide +kernel
theorem dX5_init_42 : decode cX5_init 42 = .ok (.invokespecial 32, 3) := by decide +kernel
theorem dX5_init_45 : decode cX5_init 45 = .ok (.putfield 33, 3) := by decide +kernel
theorem dX5_init_48 : decode cX5_init 48 = .ok (.aload_n 0, 1) := by decide +kernel
theorem dX5_init_49 : decode cX5_init 49 = .ok (.new 37, 3) := by decide +kernel
theorem dX5_init_52 : decode cX5_init 52 = .ok (.dup, 1) := by decide +kernel
theorem dX5_init_53 : decode cX5_init 53 = .ok (.invokespecial 39, 3) := by decide +kernel
theorem dX5_init_56 : decode cX5_init 56 = .ok (.putfield 40, 3) := by decide +kernel
theorem dX5_init_59 : decode cX5_init 59 = .ok (.aload_n 0, 1) := by decide +kernel
theorem dX5_init_60 : decode cX5_init 60 = .ok (.lconst 0, 1) := by decide +kernel
theorem dX5_init_61 : decode cX5_init 61 = .ok (.putfield 44, 3) := by decide +kernel
theorem dX5_init_64 : decode cX5_init 64 = .ok (.return_, 1) := by decide +kernel
set_option maxRecDepth 20000 in
theorem ggX5_well_X5_within : GoodIn wsX5_well wsX5_within := goodIn_r _ [6] (by decide +kernel) (by decide +kernel)
set_option maxRecDepth 20000 in
theorem gX5_well_X5_within : GoodIn wsX5_well (va_wsS RX5 48 yX5_within wsX5_within) := goodIn_app (goodIn_of _ (by decide +kernel)) ggX5_well_X5_within
set_option maxRecDepth 20000 in
theorem ggX5_well_X4_add : GoodIn wsX5_well wsX4_add := goodIn_r _ [11, 12, 13, 14, 26, 27, 28, 29, 30, 31] (by decide +kernel) (by decide +kernel)
set_option maxRecDepth 20000 in
theorem gX5_well_X4_add : GoodIn wsX5_well (wsV RX5 56 RX4 yX4_add wsX4_add) := goodIn_app (goodIn_of _ (by decide +kernel)) ggX5_well_X4_add
set_option maxRecDepth 20000 in
theorem ggX5_well_X4_shape : GoodIn wsX5_well wsX4_shape := goodIn_r _ [18, 19, 26, 27, 28, 29, 30, 31] (by decide +kernel) (by decide +kernel)
set_option maxRecDepth 20000 in
theorem gX5_well_X4_shape : GoodIn wsX5_well (wsV RX5 60 RX4 yX4_shape wsX4_shape) := goodIn_app (goodIn_of _ (by decide +kernel)) ggX5_well_X4_shape
theorem dX5_well_0 : decode cX5_well 0 = .ok (.iload_n 1, 1) := by decide +kernel
theorem dX5_well_1 : decode cX5_well 1 = .ok (.iconst 0, 1) := by decide +kernel
theorem dX5_well_2 : decode cX5_well 2 = .ok (.iconst 2, 1) := by decide +kernel
theorem dX5_well_3 : decode cX5_well 3 = .ok (.invokestatic 48, 3) := by decide +kernel
theorem dX5_well_6 : decode cX5_well 6 = .ok (.ifCond .eq 12, 3) := by decide +kernel
theorem dX5_well_9 : decode cX5_well 9 = .ok (.iload_n 2, 1) := by decide +kernel
theorem dX5_well_10 : decode cX5_well 10 = .ok (.iconst 0, 1) := by decide +kernel
theorem dX5_well_11 : decode cX5_well 11 = .ok (.iconst 3, 1) := by decide +kernel
theorem dX5_well_12 : decode cX5_well 12 = .ok (.invokestatic 48, 3) := by decide +kernel
theorem dX5_well_15 : decode cX5_well 15 = .ok (.ifCond .ne 5, 3) := by decide +kernel
theorem dX5_well_18 : decode cX5_well 18 = .ok (.iconst (-1), 1) := by decide +kernel
theorem dX5_well_19 : decode cX5_well 19 = .ok (.ireturn, 1) := by decide +kernel
theorem dX5_well_20 : decode cX5_well 20 = .ok (.iload_n 3, 1) := by decide +kernel
theorem dX5_well_21 : decode cX5_well 21 = .ok (.iconst 0, 1) := by decide +kernel
theorem dX5_well_22 : decode cX5_well 22 = .ok (.sipush 200, 3) := by decide +kernel
theorem dX5_well_25 : decode cX5_well 25 = .ok (.invokestatic 48, 3) := by decide +kernel
theorem dX5_well_28 : decode cX5_well 28 = .ok (.ifCond .eq 46, 3) := by decide +kernel
theorem dX5_well_31 : decode cX5_well 31 = .ok (.iload 4, 2) := by decide +kernel
theorem dX5_well_33 : decode cX5_well 33 = .ok (.iconst 0, 1) := by decide +kernel
theorem dX5_well_34 : decode cX5_well 34 = .ok (.iload_n 3, 1) := by decide +kernel
theorem dX5_well_35 : decode cX5_well 35 = .ok (.invokestatic 48, 3) := by decide +kernel
theorem dX5_well_38 : decode cX5_well 38 = .ok (.ifCond .eq 36, 3) := by decide +kernel
theorem dX5_well_41 : decode cX5_well 41 = .ok (.iload 5, 2) := by decide +kernel
theorem dX5_well_43 : decode cX5_well 43 = .ok (.iconst 0, 1) := by decide +kernel
theorem dX5_well_44 : decode cX5_well 44 = .ok (.iload 4, 2) := by decide +kernel
theorem dX5_well_46 : decode cX5_well 46 = .ok (.invokestatic 48, 3) := by decide +kernel
theorem dX5_well_49 : decode cX5_well 49 = .ok (.ifCond .eq 25, 3) := by decide +kernel
theorem dX5_well_52 : decode cX5_well 52 = .ok (.iload 6, 2) := by decide +kernel
theorem dX5_well_54 : decode cX5_well 54 = .ok (.iconst 0, 1) := by decide +kernel
theorem dX5_well_55 : decode cX5_well 55 = .ok (.iload 5, 2) := by decide +kernel
theorem dX5_well_57 : decode cX5_well 57 = .ok (.invokestatic 48, 3) := by decide +kernel
theorem dX5_well_60 : decode cX5_well 60 = .ok (.ifCond .eq 14, 3) := by decide +kernel
theorem dX5_well_63 : decode cX5_well 63 = .ok (.iload 7, 2) := by decide +kernel
theorem dX5_well_65 : decode cX5_well 65 = .ok (.iconst 0, 1) := by decide +kernel
theorem dX5_well_66 : decode cX5_well 66 = .ok (.iload 6, 2) := by decide +kernel
theorem dX5_well_68 : decode cX5_well 68 = .ok (.invokestatic 48, 3) := by decide +kernel
theorem dX5_well_71 : decode cX5_well 71 = .ok (.ifCond .ne 5, 3) := by decide +kernel
theorem dX5_well_74 : decode cX5_well 74 = .ok (.iconst (-1), 1) := by decide +kernel
theorem dX5_well_75 : decode cX5_well 75 = .ok (.ireturn, 1) := by decide +kernel
theorem dX5_well_76 : decode cX5_well 76 = .ok (.aload_n 0, 1) := by decide +kernel
theorem dX5_well_77 : decode cX5_well 77 = .ok (.getfield 10, 3) := by decide +kernel
theorem dX5_well_80 : decode cX5_well 80 = .ok (.getfield 52, 3) := by decide +kernel
theorem dX5_well_83 : decode cX5_well 83 = .ok (.bipush 8, 2) := by decide +kernel
theorem dX5_well_85 : decode cX5_well 85 = .ok (.if_icmp .lt 6, 3) := by decide +kernel
theorem dX5_well_88 : decode cX5_well 88 = .ok (.bipush (-3), 2) := by decide +kernel
theorem dX5_well_90 : decode cX5_well 90 = .ok (.ireturn, 1) := by decide +kernel
theorem dX5_well_91 : decode cX5_well 91 = .ok (.aload_n 0, 1) := by decide +kernel
theorem dX5_well_92 : decode cX5_well 92 = .ok (.getfield 10, 3) := by decide +kernel
theorem dX5_well_95 : decode cX5_well 95 = .ok (.iload_n 1, 1) := by decide +kernel
theorem dX5_well_96 : decode cX5_well 96 = .ok (.iload_n 2, 1) := by decide +kernel
theorem dX5_well_97 : decode cX5_well 97 = .ok (.invokevirtual 56, 3) := by decide +kernel
theorem dX5_well_100 : decode cX5_well 100 = .ok (.istore 8, 2) := by decide +kernel
theorem dX5_well_102 : decode cX5_well 102 = .ok (.aload_n 0, 1) := by decide +kernel
theorem dX5_well_103 : decode cX5_well 103 = .ok (.getfield 10, 3) := by decide +kernel
theorem dX5_well_106 : decode cX5_well 106 = .ok (.iload 8, 2) := by decide +kernel
theorem dX5_well_108 : decode cX5_well 108 = .ok (.iload_n 3, 1) := by decide +kernel
theorem dX5_well_109 : decode cX5_well 109 = .ok (.iload 4, 2) := by decide +kernel
theorem dX5_well_111 : decode cX5_well 111 = .ok (.iload 5, 2) := by decide +kernel
theorem dX5_well_113 : decode cX5_well 113 = .ok (.iload 6, 2) := by decide +kernel
theorem dX5_well_115 : decode cX5_well 115 = .ok (.iload 7, 2) := by decide +kernel
theorem dX5_well_117 : decode cX5_well 117 = .ok (.invokevirtual 60, 3) := by decide +kernel
theorem dX5_well_120 : decode cX5_well 120 = .ok (.iload 8, 2) := by decide +kernel
theorem dX5_well_122 : decode cX5_well 122 = .ok (.ireturn, 1) := by decide +kernel
set_option maxRecDepth 20000 in
theorem ggX5_open_X5_isWell : GoodIn wsX5_open wsX5_isWell := goodIn_r _ [7, 1, 8, 9, 10, 6, 11, 12, 13, 14, 15, 16, 17, 18, 19, 20, 21, 22, 23] (by decide +kernel) (by decide +kernel)
set_option maxRecDepth 20000 in
theorem gX5_open_X5_isWell : GoodIn wsX5_open (wsV RX5 64 RX5 yX5_isWell wsX5_isWell) := goodIn_app (goodIn_of _ (by decide +kernel)) ggX5_open_X5_isWell
theorem dX5_open_0 : decode cX5_open 0 = .ok (.aload_n 0, 1) := by decide +kernel
theorem dX5_open_1 : decode cX5_open 1 = .ok (.iload_n 1, 1) := by decide +kernel
theorem dX5_open_2 : decode cX5_open 2 = .ok (.invokevirtual 64, 3) := by decide +kernel
theorem dX5_open_5 : decode cX5_open 5 = .ok (.ifCond .ne 5, 3) := by decide +kernel
theorem dX5_open_8 : decode cX5_open 8 = .ok (.iconst (-1), 1) := by decide +kernel
theorem dX5_open_9 : decode cX5_open 9 = .ok (.ireturn, 1) := by decide +kernel
theorem dX5_open_10 : decode cX5_open 10 = .ok (.aload_n 0, 1) := by decide +kernel
theorem dX5_open_11 : decode cX5_open 11 = .ok (.getfield 10, 3) := by decide +kernel
theorem dX5_open_14 : decode cX5_open 14 = .ok (.getfield 68, 3) := by decide +kernel
theorem dX5_open_17 : decode cX5_open 17 = .ok (.iload_n 1, 1) := by decide +kernel
theorem dX5_open_18 : decode cX5_open 18 = .ok (.baload, 1) := by decide +kernel
theorem dX5_open_19 : decode cX5_open 19 = .ok (.istore_n 3, 1) := by decide +kernel
theorem dX5_open_20 : decode cX5_open 20 = .ok (.aload_n 0, 1) := by decide +kernel
theorem dX5_open_21 : decode cX5_open 21 = .ok (.getfield 10, 3) := by decide +kernel
theorem dX5_open_24 : decode cX5_open 24 = .ok (.getfield 68, 3) := by decide +kernel
theorem dX5_open_27 : decode cX5_open 27 = .ok (.iload_n 1, 1) := by decide +kernel
theorem dX5_open_28 : decode cX5_open 28 = .ok (.iload_n 2, 1) := by decide +kernel
theorem dX5_open_29 : decode cX5_open 29 = .ok (.bastore, 1) := by decide +kernel
theorem dX5_open_30 : decode cX5_open 30 = .ok (.iload_n 3, 1) := by decide +kernel
theorem dX5_open_31 : decode cX5_open 31 = .ok (.ifCond .eq 7, 3) := by decide +kernel
theorem dX5_open_34 : decode cX5_open 34 = .ok (.iconst 1, 1) := by decide +kernel
theorem dX5_open_35 : decode cX5_open 35 = .ok (.goto 4, 3) := by decide +kernel
theorem dX5_open_38 : decode cX5_open 38 = .ok (.iconst 0, 1) := by decide +kernel
theorem dX5_open_39 : decode cX5_open 39 = .ok (.ireturn, 1) := by decide +kernel
set_option maxRecDepth 20000 in
theorem ggX5_clean_X5_isWell : GoodIn wsX5_clean wsX5_isWell := goodIn_r _ [7, 1, 8, 9, 10, 6, 11, 12, 13, 14, 15, 16, 17, 18, 19, 20, 21, 22, 23] (by decide +kernel) (by decide +kernel)
set_option maxRecDepth 20000 in
theorem gX5_clean_X5_isWell : GoodIn wsX5_clean (wsV RX5 64 RX5 yX5_isWell wsX5_isWell) := goodIn_app (goodIn_of _ (by decide +kernel)) ggX5_clean_X5_isWell
theorem dX5_clean_0 : decode cX5_clean 0 = .ok (.aload_n 0, 1) := by decide +kernel
theorem dX5_clean_1 : decode cX5_clean 1 = .ok (.iload_n 1, 1) := by decide +kernel
theorem dX5_clean_2 : decode cX5_clean 2 = .ok (.invokevirtual 64, 3) := by decide +kernel
theorem dX5_clean_5 : decode cX5_clean 5 = .ok (.ifCond .ne 5, 3) := by decide +kernel
theorem dX5_clean_8 : decode cX5_clean 8 = .ok (.iconst (-1), 1) := by decide +kernel
theorem dX5_clean_9 : decode cX5_clean 9 = .ok (.ireturn, 1) := by decide +kernel
theorem dX5_clean_10 : decode cX5_clean 10 = .ok (.aload_n 0, 1) := by decide +kernel
theorem dX5_clean_11 : decode cX5_clean 11 = .ok (.getfield 10, 3) := by decide +kernel
theorem dX5_clean_14 : decode cX5_clean 14 = .ok (.getfield 72, 3) := by decide +kernel
theorem dX5_clean_17 : decode cX5_clean 17 = .ok (.iload_n 1, 1) := by decide +kernel
theorem dX5_clean_18 : decode cX5_clean 18 = .ok (.iaload, 1) := by decide +kernel
theorem dX5_clean_19 : decode cX5_clean 19 = .ok (.istore_n 2, 1) := by decide +kernel
theorem dX5_clean_20 : decode cX5_clean 20 = .ok (.aload_n 0, 1) := by decide +kernel
theorem dX5_clean_21 : decode cX5_clean 21 = .ok (.getfield 10, 3) := by decide +kernel
theorem dX5_clean_24 : decode cX5_clean 24 = .ok (.getfield 72, 3) := by decide +kernel
theorem dX5_clean_27 : decode cX5_clean 27 = .ok (.iload_n 1, 1) := by decide +kernel
theorem dX5_clean_28 : decode cX5_clean 28 = .ok (.iconst 0, 1) := by decide +kernel
theorem dX5_clean_29 : decode cX5_clean 29 = .ok (.iastore, 1) := by decide +kernel
theorem dX5_clean_30 : decode cX5_clean 30 = .ok (.iload_n 2, 1) := by decide +kernel
theorem dX5_clean_31 : decode cX5_clean 31 = .ok (.ireturn, 1) := by decide +kernel
set_option maxRecDepth 20000 in
theorem ggX5_flow_X5_isWell : GoodIn wsX5_flow wsX5_isWell := goodIn_r _ [7, 2, 8, 9, 10, 6, 11, 41, 42, 43, 44, 45, 46, 47, 48, 49, 50, 51, 52] (by decide +kernel) (by decide +kernel)
set_option maxRecDepth 20000 in
theorem gX5_flow_X5_isWell : GoodIn wsX5_flow (wsV RX5 64 RX5 yX5_isWell wsX5_isWell) := goodIn_app (goodIn_of _ (by decide +kernel)) ggX5_flow_X5_isWell
set_option maxRecDepth 20000 in
theorem ggX5_flow_X5_isPressure : GoodIn wsX5_flow wsX5_isPressure := goodIn_r _ [14, 9, 10, 6, 11] (by decide +kernel) (by decide +kernel)
set_option maxRecDepth 20000 in
theorem gX5_flow_X5_isPressure : GoodIn wsX5_flow (va_wsS RX5 76 yX5_isPressure wsX5_isPressure) := goodIn_app (goodIn_of _ (by decide +kernel)) ggX5_flow_X5_isPressure
set_option maxRecDepth 20000 in
theorem ggX5_flow_X4_weight : GoodIn wsX5_flow wsX4_weight := goodIn_r _ [19, 20, 47, 48, 49, 50, 51, 52] (by decide +kernel) (by decide +kernel)
set_option maxRecDepth 20000 in
theorem gX5_flow_X4_weight : GoodIn wsX5_flow (wsV RX5 79 RX4 yX4_weight wsX4_weight) := goodIn_app (goodIn_of _ (by decide +kernel)) ggX5_flow_X4_weight
set_option maxRecDepth 20000 in
theorem ggX5_flow_X4_fifths : GoodIn wsX5_flow wsX4_fifths := goodIn_r _ [24, 20, 25, 26, 27, 28, 18, 29, 30, 31, 32, 33, 34, 35, 36, 37, 38, 39, 40, 47, 48, 49, 50, 51, 52] (by decide +kernel) (by decide +kernel)
set_option maxRecDepth 20000 in
theorem gX5_flow_X4_fifths : GoodIn wsX5_flow (wsV RX5 83 RX4 yX4_fifths wsX4_fifths) := goodIn_app (goodIn_of _ (by decide +kernel)) ggX5_flow_X4_fifths
theorem dX5_flow_0 : decode cX5_flow 0 = .ok (.aload_n 0, 1) := by decide +kernel
theorem dX5_flow_1 : decode cX5_flow 1 = .ok (.iload_n 1, 1) := by decide +kernel
theorem dX5_flow_2 : decode cX5_flow 2 = .ok (.invokevirtual 64, 3) := by decide +kernel
theorem dX5_flow_5 : decode cX5_flow 5 = .ok (.ifCond .eq 10, 3) := by decide +kernel
theorem dX5_flow_8 : decode cX5_flow 8 = .ok (.iload_n 2, 1) := by decide +kernel
theorem dX5_flow_9 : decode cX5_flow 9 = .ok (.invokestatic 76, 3) := by decide +kernel
theorem dX5_flow_12 : decode cX5_flow 12 = .ok (.ifCond .ne 5, 3) := by decide +kernel
theorem dX5_flow_15 : decode cX5_flow 15 = .ok (.iconst (-1), 1) := by decide +kernel
theorem dX5_flow_16 : decode cX5_flow 16 = .ok (.ireturn, 1) := by decide +kernel
theorem dX5_flow_17 : decode cX5_flow 17 = .ok (.aload_n 0, 1) := by decide +kernel
theorem dX5_flow_18 : decode cX5_flow 18 = .ok (.dup, 1) := by decide +kernel
theorem dX5_flow_19 : decode cX5_flow 19 = .ok (.getfield 44, 3) := by decide +kernel
theorem dX5_flow_22 : decode cX5_flow 22 = .ok (.aload_n 0, 1) := by decide +kernel
theorem dX5_flow_23 : decode cX5_flow 23 = .ok (.getfield 10, 3) := by decide +kernel
theorem dX5_flow_26 : decode cX5_flow 26 = .ok (.iload_n 1, 1) := by decide +kernel
theorem dX5_flow_27 : decode cX5_flow 27 = .ok (.invokevirtual 79, 3) := by decide +kernel
theorem dX5_flow_30 : decode cX5_flow 30 = .ok (.i2l, 1) := by decide +kernel
theorem dX5_flow_31 : decode cX5_flow 31 = .ok (.ladd, 1) := by decide +kernel
theorem dX5_flow_32 : decode cX5_flow 32 = .ok (.putfield 44, 3) := by decide +kernel
theorem dX5_flow_35 : decode cX5_flow 35 = .ok (.aload_n 0, 1) := by decide +kernel
theorem dX5_flow_36 : decode cX5_flow 36 = .ok (.getfield 10, 3) := by decide +kernel
theorem dX5_flow_39 : decode cX5_flow 39 = .ok (.iload_n 1, 1) := by decide +kernel
theorem dX5_flow_40 : decode cX5_flow 40 = .ok (.iload_n 2, 1) := by decide +kernel
theorem dX5_flow_41 : decode cX5_flow 41 = .ok (.invokevirtual 83, 3) := by decide +kernel
theorem dX5_flow_44 : decode cX5_flow 44 = .ok (.ireturn, 1) := by decide +kernel
set_option maxRecDepth 20000 in
theorem ggX5_about_X5_isWell : GoodIn wsX5_about wsX5_isWell := goodIn_r _ [11, 1, 12, 13, 14, 10, 15, 16, 17, 18, 19, 20, 21, 22, 23, 24, 25, 26, 27] (by decide +kernel) (by decide +kernel)
set_option maxRecDepth 20000 in
theorem gX5_about_X5_isWell : GoodIn wsX5_about (wsV RX5 64 RX5 yX5_isWell wsX5_isWell) := goodIn_app (goodIn_of _ (by decide +kernel)) ggX5_about_X5_isWell
set_option maxRecDepth 20000 in
theorem ggX5_about_X5_within : GoodIn wsX5_about wsX5_within := goodIn_r _ [15] (by decide +kernel) (by decide +kernel)
set_option maxRecDepth 20000 in
theorem gX5_about_X5_within : GoodIn wsX5_about (va_wsS RX5 48 yX5_within wsX5_within) := goodIn_app (goodIn_of _ (by decide +kernel)) ggX5_about_X5_within
theorem dX5_about_0 : decode cX5_about 0 = .ok (.aload_n 0, 1) := by decide +kernel
theorem dX5_about_1 : decode cX5_about 1 = .ok (.iload_n 1, 1) := by decide +kernel
theorem dX5_about_2 : decode cX5_about 2 = .ok (.invokevirtual 64, 3) := by decide +kernel
theorem dX5_about_5 : decode cX5_about 5 = .ok (.ifCond .eq 13, 3) := by decide +kernel
theorem dX5_about_8 : decode cX5_about 8 = .ok (.iload_n 2, 1) := by decide +kernel
theorem dX5_about_9 : decode cX5_about 9 = .ok (.iconst 0, 1) := by decide +kernel
theorem dX5_about_10 : decode cX5_about 10 = .ok (.bipush 8, 2) := by decide +kernel
theorem dX5_about_12 : decode cX5_about 12 = .ok (.invokestatic 48, 3) := by decide +kernel
theorem dX5_about_15 : decode cX5_about 15 = .ok (.ifCond .ne 5, 3) := by decide +kernel
theorem dX5_about_18 : decode cX5_about 18 = .ok (.iconst (-1), 1) := by decide +kernel
theorem dX5_about_19 : decode cX5_about 19 = .ok (.ireturn, 1) := by decide +kernel
theorem dX5_about_20 : decode cX5_about 20 = .ok (.iload_n 2, 1) := by decide +kernel
theorem dX5_about_21 : decode cX5_about 21 = .ok (.tableswitch 79 0 3 #[31, 41, 51, 61], 31) := by decide +kernel
theorem dX5_about_52 : decode cX5_about 52 = .ok (.aload_n 0, 1) := by decide +kernel
theorem dX5_about_53 : decode cX5_about 53 = .ok (.getfield 10, 3) := by decide +kernel
theorem dX5_about_56 : decode cX5_about 56 = .ok (.getfield 86, 3) := by decide +kernel
theorem dX5_about_59 : decode cX5_about 59 = .ok (.iload_n 1, 1) := by decide +kernel
theorem dX5_about_60 : decode cX5_about 60 = .ok (.iaload, 1) := by decide +kernel
theorem dX5_about_61 : decode cX5_about 61 = .ok (.ireturn, 1) := by decide +kernel
theorem dX5_about_62 : decode cX5_about 62 = .ok (.aload_n 0, 1) := by decide +kernel
theorem dX5_about_63 : decode cX5_about 63 = .ok (.getfield 10, 3) := by decide +kernel
theorem dX5_about_66 : decode cX5_about 66 = .ok (.getfield 89, 3) := by decide +kernel
theorem dX5_about_69 : decode cX5_about 69 = .ok (.iload_n 1, 1) := by decide +kernel
theorem dX5_about_70 : decode cX5_about 70 = .ok (.iaload, 1) := by decide +kernel
theorem dX5_about_71 : decode cX5_about 71 = .ok (.ireturn, 1) := by decide +kernel
theorem dX5_about_72 : decode cX5_about 72 = .ok (.aload_n 0, 1) := by decide +kernel
theorem dX5_about_73 : decode cX5_about 73 = .ok (.getfield 10, 3) := by decide +kernel
theorem dX5_about_76 : decode cX5_about 76 = .ok (.getfield 72, 3) := by decide +kernel
theorem dX5_about_79 : decode cX5_about 79 = .ok (.iload_n 1, 1) := by decide +kernel
theorem dX5_about_80 : decode cX5_about 80 = .ok (.iaload, 1) := by decide +kernel
theorem dX5_about_81 : decode cX5_about 81 = .ok (.ireturn, 1) := by decide +kernel
theorem dX5_about_82 : decode cX5_about 82 = .ok (.aload_n 0, 1) := by decide +kernel
theorem dX5_about_83 : decode cX5_about 83 = .ok (.getfield 10, 3) := by decide +kernel
theorem dX5_about_86 : decode cX5_about 86 = .ok (.getfield 68, 3) := by decide +kernel
theorem dX5_about_89 : decode cX5_about 89 = .ok (.iload_n 1, 1) := by decide +kernel
theorem dX5_about_90 : decode cX5_about 90 = .ok (.baload, 1) := by decide +kernel
theorem dX5_about_91 : decode cX5_about 91 = .ok (.ifCond .eq 7, 3) := by decide +kernel
theorem dX5_about_94 : decode cX5_about 94 = .ok (.iconst 1, 1) := by decide +kernel
theorem dX5_about_95 : decode cX5_about 95 = .ok (.goto 4, 3) := by decide +kernel
theorem dX5_about_98 : decode cX5_about 98 = .ok (.iconst 0, 1) := by decide +kernel
theorem dX5_about_99 : decode cX5_about 99 = .ok (.ireturn, 1) := by decide +kernel
theorem dX5_about_100 : decode cX5_about 100 = .ok (.aload_n 0, 1) := by decide +kernel
theorem dX5_about_101 : decode cX5_about 101 = .ok (.getfield 10, 3) := by decide +kernel
theorem dX5_about_104 : decode cX5_about 104 = .ok (.getfield 92, 3) := by decide +kernel
theorem dX5_about_107 : decode cX5_about 107 = .ok (.iload_n 1, 1) := by decide +kernel
theorem dX5_about_108 : decode cX5_about 108 = .ok (.iconst 5, 1) := by decide +kernel
theorem dX5_about_109 : decode cX5_about 109 = .ok (.imul, 1) := by decide +kernel
theorem dX5_about_110 : decode cX5_about 110 = .ok (.iload_n 2, 1) := by decide +kernel
theorem dX5_about_111 : decode cX5_about 111 = .ok (.iadd, 1) := by decide +kernel
theorem dX5_about_112 : decode cX5_about 112 = .ok (.iconst 4, 1) := by decide +kernel
theorem dX5_about_113 : decode cX5_about 113 = .ok (.isub, 1) := by decide +kernel
theorem dX5_about_114 : decode cX5_about 114 = .ok (.iaload, 1) := by decide +kernel
theorem dX5_about_115 : decode cX5_about 115 = .ok (.ireturn, 1) := by decide +kernel
set_option maxRecDepth 20000 in
theorem ggX5_turbine_X5_isPressure : GoodIn wsX5_turbine wsX5_isPressure := goodIn_r _ [6, 7, 8, 5, 9] (by decide +kernel) (by decide +kernel)
set_option maxRecDepth 20000 in
theorem gX5_turbine_X5_isPressure : GoodIn wsX5_turbine (va_wsS RX5 76 yX5_isPressure wsX5_isPressure) := goodIn_app (goodIn_of _ (by decide +kernel)) ggX5_turbine_X5_isPressure
set_option maxRecDepth 20000 in
theorem ggX5_turbine_X5_within : GoodIn wsX5_turbine wsX5_within := goodIn_r _ [9] (by decide +kernel) (by decide +kernel)
set_option maxRecDepth 20000 in
theorem gX5_turbine_X5_within : GoodIn wsX5_turbine (va_wsS RX5 48 yX5_within wsX5_within) := goodIn_app (goodIn_of _ (by decide +kernel)) ggX5_turbine_X5_within
set_option maxRecDepth 20000 in
theorem ggX5_turbine_X3_add : GoodIn wsX5_turbine wsX3_add := goodIn_r _ [14, 15, 16, 17, 18, 19, 26, 27, 28, 29, 30] (by decide +kernel) (by decide +kernel)
set_option maxRecDepth 20000 in
theorem gX5_turbine_X3_add : GoodIn wsX5_turbine (wsV RX5 96 RX3 yX3_add wsX3_add) := goodIn_app (goodIn_of _ (by decide +kernel)) ggX5_turbine_X3_add
theorem dX5_turbine_0 : decode cX5_turbine 0 = .ok (.iload_n 1, 1) := by decide +kernel
theorem dX5_turbine_1 : decode cX5_turbine 1 = .ok (.invokestatic 76, 3) := by decide +kernel
theorem dX5_turbine_4 : decode cX5_turbine 4 = .ok (.ifCond .eq 24, 3) := by decide +kernel
theorem dX5_turbine_7 : decode cX5_turbine 7 = .ok (.iload_n 2, 1) := by decide +kernel
theorem dX5_turbine_8 : decode cX5_turbine 8 = .ok (.iconst 1, 1) := by decide +kernel
theorem dX5_turbine_9 : decode cX5_turbine 9 = .ok (.bipush 40, 2) := by decide +kernel
theorem dX5_turbine_11 : decode cX5_turbine 11 = .ok (.invokestatic 48, 3) := by decide +kernel
theorem dX5_turbine_14 : decode cX5_turbine 14 = .ok (.ifCond .eq 14, 3) := by decide +kernel
theorem dX5_turbine_17 : decode cX5_turbine 17 = .ok (.iload_n 3, 1) := by decide +kernel
theorem dX5_turbine_18 : decode cX5_turbine 18 = .ok (.iconst 1, 1) := by decide +kernel
theorem dX5_turbine_19 : decode cX5_turbine 19 = .ok (.sipush 2000, 3) := by decide +kernel
theorem dX5_turbine_22 : decode cX5_turbine 22 = .ok (.invokestatic 48, 3) := by decide +kernel
theorem dX5_turbine_25 : decode cX5_turbine 25 = .ok (.ifCond .ne 5, 3) := by decide +kernel
theorem dX5_turbine_28 : decode cX5_turbine 28 = .ok (.iconst (-1), 1) := by decide +kernel
theorem dX5_turbine_29 : decode cX5_turbine 29 = .ok (.ireturn, 1) := by decide +kernel
theorem dX5_turbine_30 : decode cX5_turbine 30 = .ok (.aload_n 0, 1) := by decide +kernel
theorem dX5_turbine_31 : decode cX5_turbine 31 = .ok (.getfield 19, 3) := by decide +kernel
theorem dX5_turbine_34 : decode cX5_turbine 34 = .ok (.getfield 95, 3) := by decide +kernel
theorem dX5_turbine_37 : decode cX5_turbine 37 = .ok (.iconst 4, 1) := by decide +kernel
theorem dX5_turbine_38 : decode cX5_turbine 38 = .ok (.if_icmp .lt 6, 3) := by decide +kernel
theorem dX5_turbine_41 : decode cX5_turbine 41 = .ok (.bipush (-3), 2) := by decide +kernel
theorem dX5_turbine_43 : decode cX5_turbine 43 = .ok (.ireturn, 1) := by decide +kernel
theorem dX5_turbine_44 : decode cX5_turbine 44 = .ok (.aload_n 0, 1) := by decide +kernel
theorem dX5_turbine_45 : decode cX5_turbine 45 = .ok (.getfield 19, 3) := by decide +kernel
theorem dX5_turbine_48 : decode cX5_turbine 48 = .ok (.iload_n 1, 1) := by decide +kernel
theorem dX5_turbine_49 : decode cX5_turbine 49 = .ok (.iload_n 2, 1) := by decide +kernel
theorem dX5_turbine_50 : decode cX5_turbine 50 = .ok (.iload_n 3, 1) := by decide +kernel
theorem dX5_turbine_51 : decode cX5_turbine 51 = .ok (.invokevirtual 96, 3) := by decide +kernel
theorem dX5_turbine_54 : decode cX5_turbine 54 = .ok (.ireturn, 1) := by decide +kernel
set_option maxRecDepth 20000 in
theorem ggX5_on_X5_within : GoodIn wsX5_on wsX5_within := goodIn_r _ [7] (by decide +kernel) (by decide +kernel)
set_option maxRecDepth 20000 in
theorem gX5_on_X5_within : GoodIn wsX5_on (va_wsS RX5 48 yX5_within wsX5_within) := goodIn_app (goodIn_of _ (by decide +kernel)) ggX5_on_X5_within
theorem dX5_on_0 : decode cX5_on 0 = .ok (.iload_n 1, 1) := by decide +kernel
theorem dX5_on_1 : decode cX5_on 1 = .ok (.iconst 0, 1) := by decide +kernel
theorem dX5_on_2 : decode cX5_on 2 = .ok (.aload_n 0, 1) := by decide +kernel
theorem dX5_on_3 : decode cX5_on 3 = .ok (.getfield 19, 3) := by decide +kernel
theorem dX5_on_6 : decode cX5_on 6 = .ok (.getfield 95, 3) := by decide +kernel
theorem dX5_on_9 : decode cX5_on 9 = .ok (.iconst 1, 1) := by decide +kernel
theorem dX5_on_10 : decode cX5_on 10 = .ok (.isub, 1) := by decide +kernel
theorem dX5_on_11 : decode cX5_on 11 = .ok (.invokestatic 48, 3) := by decide +kernel
theorem dX5_on_14 : decode cX5_on 14 = .ok (.ifCond .ne 5, 3) := by decide +kernel
theorem dX5_on_17 : decode cX5_on 17 = .ok (.iconst (-1), 1) := by decide +kernel
theorem dX5_on_18 : decode cX5_on 18 = .ok (.ireturn, 1) := by decide +kernel
theorem dX5_on_19 : decode cX5_on 19 = .ok (.aload_n 0, 1) := by decide +kernel
theorem dX5_on_20 : decode cX5_on 20 = .ok (.getfield 19, 3) := by decide +kernel
theorem dX5_on_23 : decode cX5_on 23 = .ok (.getfield 99, 3) := by decide +kernel
theorem dX5_on_26 : decode cX5_on 26 = .ok (.iload_n 1, 1) := by decide +kernel
theorem dX5_on_27 : decode cX5_on 27 = .ok (.baload, 1) := by decide +kernel
theorem dX5_on_28 : decode cX5_on 28 = .ok (.istore_n 3, 1) := by decide +kernel
theorem dX5_on_29 : decode cX5_on 29 = .ok (.aload_n 0, 1) := by decide +kernel
theorem dX5_on_30 : decode cX5_on 30 = .ok (.getfield 19, 3) := by decide +kernel
theorem dX5_on_33 : decode cX5_on 33 = .ok (.getfield 99, 3) := by decide +kernel
theorem dX5_on_36 : decode cX5_on 36 = .ok (.iload_n 1, 1) := by decide +kernel
theorem dX5_on_37 : decode cX5_on 37 = .ok (.iload_n 2, 1) := by decide +kernel
theorem dX5_on_38 : decode cX5_on 38 = .ok (.bastore, 1) := by decide +kernel
theorem dX5_on_39 : decode cX5_on 39 = .ok (.iload_n 3, 1) := by decide +kernel
theorem dX5_on_40 : decode cX5_on 40 = .ok (.ifCond .eq 7, 3) := by decide +kernel
theorem dX5_on_43 : decode cX5_on 43 = .ok (.iconst 1, 1) := by decide +kernel
theorem dX5_on_44 : decode cX5_on 44 = .ok (.goto 4, 3) := by decide +kernel
theorem dX5_on_47 : decode cX5_on 47 = .ok (.iconst 0, 1) := by decide +kernel
theorem dX5_on_48 : decode cX5_on 48 = .ok (.ireturn, 1) := by decide +kernel
set_option maxRecDepth 20000 in
theorem ggX5_at_X5_within : GoodIn wsX5_at wsX5_within := goodIn_r _ [6] (by decide +kernel) (by decide +kernel)
set_option maxRecDepth 20000 in
theorem gX5_at_X5_within : GoodIn wsX5_at (va_wsS RX5 48 yX5_within wsX5_within) := goodIn_app (goodIn_of _ (by decide +kernel)) ggX5_at_X5_within
set_option maxRecDepth 20000 in
theorem ggX5_at_X5_isPressure : GoodIn wsX5_at wsX5_isPressure := goodIn_r _ [9, 3, 4, 5, 6] (by decide +kernel) (by decide +kernel)
set_option maxRecDepth 20000 in
theorem gX5_at_X5_isPressure : GoodIn wsX5_at (va_wsS RX5 76 yX5_isPressure wsX5_isPressure) := goodIn_app (goodIn_of _ (by decide +kernel)) ggX5_at_X5_isPressure
set_option maxRecDepth 20000 in
theorem ggX5_at_X4_supply : GoodIn wsX5_at wsX4_supply := goodIn_r _ [14, 15, 16, 17, 18, 19, 13, 20, 21, 22, 23, 24, 25, 26, 27, 28, 29, 30, 31, 32, 33, 34, 35, 36, 37, 38, 39, 40, 62, 63, 64, 65, 66, 67] (by decide +kernel) (by decide +kernel)
set_option maxRecDepth 20000 in
theorem gX5_at_X4_supply : GoodIn wsX5_at (wsV RX5 102 RX4 yX4_supply wsX4_supply) := goodIn_app (goodIn_of _ (by decide +kernel)) ggX5_at_X4_supply
set_option maxRecDepth 20000 in
theorem ggX5_at_X3_draw : GoodIn wsX5_at wsX3_draw := goodIn_r _ [45, 46, 47, 48, 49, 50, 51, 35, 36, 37, 68, 69, 70, 71, 72] (by decide +kernel) (by decide +kernel)
set_option maxRecDepth 20000 in
theorem gX5_at_X3_draw : GoodIn wsX5_at (wsV RX5 105 RX3 yX3_draw wsX3_draw) := goodIn_app (goodIn_of _ (by decide +kernel)) ggX5_at_X3_draw
set_option maxRecDepth 20000 in
theorem ggX5_at_X4_water : GoodIn wsX5_at wsX4_water := goodIn_r _ [55, 15, 16, 17, 18, 19, 13, 20, 21, 22, 23, 24, 25, 26, 27, 28, 29, 30, 31, 32, 33, 34, 35, 36, 37, 38, 39, 40, 62, 63, 64, 65, 66, 67] (by decide +kernel) (by decide +kernel)
set_option maxRecDepth 20000 in
theorem gX5_at_X4_water : GoodIn wsX5_at (wsV RX5 108 RX4 yX4_water wsX4_water) := goodIn_app (goodIn_of _ (by decide +kernel)) ggX5_at_X4_water
theorem dX5_at_0 : decode cX5_at 0 = .ok (.iload_n 1, 1) := by decide +kernel
theorem dX5_at_1 : decode cX5_at 1 = .ok (.iconst 0, 1) := by decide +kernel
theorem dX5_at_2 : decode cX5_at 2 = .ok (.iconst 2, 1) := by decide +kernel
theorem dX5_at_3 : decode cX5_at 3 = .ok (.invokestatic 48, 3) := by decide +kernel
theorem dX5_at_6 : decode cX5_at 6 = .ok (.ifCond .eq 10, 3) := by decide +kernel
theorem dX5_at_9 : decode cX5_at 9 = .ok (.iload_n 2, 1) := by decide +kernel
theorem dX5_at_10 : decode cX5_at 10 = .ok (.invokestatic 76, 3) := by decide +kernel
theorem dX5_at_13 : decode cX5_at 13 = .ok (.ifCond .ne 5, 3) := by decide +kernel
theorem dX5_at_16 : decode cX5_at 16 = .ok (.iconst (-1), 1) := by decide +kernel
theorem dX5_at_17 : decode cX5_at 17 = .ok (.ireturn, 1) := by decide +kernel
theorem dX5_at_18 : decode cX5_at 18 = .ok (.iload_n 1, 1) := by decide +kernel
theorem dX5_at_19 : decode cX5_at 19 = .ok (.lookupswitch 43 #[(0, 25), (1, 34)], 25) := by decide +kernel
theorem dX5_at_44 : decode cX5_at 44 = .ok (.aload_n 0, 1) := by decide +kernel
theorem dX5_at_45 : decode cX5_at 45 = .ok (.getfield 10, 3) := by decide +kernel
theorem dX5_at_48 : decode cX5_at 48 = .ok (.iload_n 2, 1) := by decide +kernel
theorem dX5_at_49 : decode cX5_at 49 = .ok (.invokevirtual 102, 3) := by decide +kernel
theorem dX5_at_52 : decode cX5_at 52 = .ok (.ireturn, 1) := by decide +kernel
theorem dX5_at_53 : decode cX5_at 53 = .ok (.aload_n 0, 1) := by decide +kernel
theorem dX5_at_54 : decode cX5_at 54 = .ok (.getfield 19, 3) := by decide +kernel
theorem dX5_at_57 : decode cX5_at 57 = .ok (.iload_n 2, 1) := by decide +kernel
theorem dX5_at_58 : decode cX5_at 58 = .ok (.invokevirtual 105, 3) := by decide +kernel
theorem dX5_at_61 : decode cX5_at 61 = .ok (.ireturn, 1) := by decide +kernel
theorem dX5_at_62 : decode cX5_at 62 = .ok (.aload_n 0, 1) := by decide +kernel
theorem dX5_at_63 : decode cX5_at 63 = .ok (.getfield 10, 3) := by decide +kernel
theorem dX5_at_66 : decode cX5_at 66 = .ok (.iload_n 2, 1) := by decide +kernel
theorem dX5_at_67 : decode cX5_at 67 = .ok (.invokevirtual 108, 3) := by decide +kernel
theorem dX5_at_70 : decode cX5_at 70 = .ok (.ireturn, 1) := by decide +kernel
set_option maxRecDepth 20000 in
theorem ggX5_point_X5_meeting : GoodIn wsX5_point wsX5_meeting := goodIn_r _ [5, 6, 7, 8, 9, 10, 11, 12, 13, 14, 15, 16, 17, 18, 19, 20, 21, 22, 23, 24, 25, 26, 27, 28, 29, 30, 31, 32, 33, 34, 35, 36, 37, 38, 39, 40, 41, 42, 43, 44, 45, 46, 47, 48, 49, 50, 51, 52, 53, 54, 55, 56, 57, 58, 59, 60, 61, 62, 63, 64, 65, 66] (by decide +kernel) (by decide +kernel)
set_option maxRecDepth 20000 in
theorem gX5_point_X5_meeting : GoodIn wsX5_point (wsV RX5 111 RX5 yX5_meeting wsX5_meeting) := goodIn_app (goodIn_of _ (by decide +kernel)) ggX5_point_X5_meeting
theorem dX5_point_0 : decode cX5_point 0 = .ok (.aload_n 0, 1) := by decide +kernel
theorem dX5_point_1 : decode cX5_point 1 = .ok (.invokevirtual 111, 3) := by decide +kernel
theorem dX5_point_4 : decode cX5_point 4 = .ok (.ireturn, 1) := by decide +kernel
set_option maxRecDepth 20000 in
theorem ggX5_fill_X5_isBox : GoodIn wsX5_fill wsX5_isBox := goodIn_r _ [8, 9, 10, 7, 11] (by decide +kernel) (by decide +kernel)
set_option maxRecDepth 20000 in
theorem gX5_fill_X5_isBox : GoodIn wsX5_fill (va_wsS RX5 115 yX5_isBox wsX5_isBox) := goodIn_app (goodIn_of _ (by decide +kernel)) ggX5_fill_X5_isBox
set_option maxRecDepth 20000 in
theorem ggX5_fill_X5_within : GoodIn wsX5_fill wsX5_within := goodIn_r _ [11] (by decide +kernel) (by decide +kernel)
set_option maxRecDepth 20000 in
theorem gX5_fill_X5_within : GoodIn wsX5_fill (va_wsS RX5 48 yX5_within wsX5_within) := goodIn_app (goodIn_of _ (by decide +kernel)) ggX5_fill_X5_within
theorem dX5_fill_0 : decode cX5_fill 0 = .ok (.iload_n 1, 1) := by decide +kernel
theorem dX5_fill_1 : decode cX5_fill 1 = .ok (.invokestatic 115, 3) := by decide +kernel
theorem dX5_fill_4 : decode cX5_fill 4 = .ok (.ifCond .eq 23, 3) := by decide +kernel
theorem dX5_fill_7 : decode cX5_fill 7 = .ok (.iload_n 2, 1) := by decide +kernel
theorem dX5_fill_8 : decode cX5_fill 8 = .ok (.iconst 0, 1) := by decide +kernel
theorem dX5_fill_9 : decode cX5_fill 9 = .ok (.ldc 118, 2) := by decide +kernel
theorem dX5_fill_11 : decode cX5_fill 11 = .ok (.invokestatic 48, 3) := by decide +kernel
theorem dX5_fill_14 : decode cX5_fill 14 = .ok (.ifCond .eq 13, 3) := by decide +kernel
theorem dX5_fill_17 : decode cX5_fill 17 = .ok (.iload_n 3, 1) := by decide +kernel
theorem dX5_fill_18 : decode cX5_fill 18 = .ok (.iconst 0, 1) := by decide +kernel
theorem dX5_fill_19 : decode cX5_fill 19 = .ok (.ldc 118, 2) := by decide +kernel
theorem dX5_fill_21 : decode cX5_fill 21 = .ok (.invokestatic 48, 3) := by decide +kernel
theorem dX5_fill_24 : decode cX5_fill 24 = .ok (.ifCond .ne 5, 3) := by decide +kernel
theorem dX5_fill_27 : decode cX5_fill 27 = .ok (.iconst (-1), 1) := by decide +kernel
theorem dX5_fill_28 : decode cX5_fill 28 = .ok (.ireturn, 1) := by decide +kernel
theorem dX5_fill_29 : decode cX5_fill 29 = .ok (.aload_n 0, 1) := by decide +kernel
theorem dX5_fill_30 : decode cX5_fill 30 = .ok (.getfield 26, 3) := by decide +kernel
theorem dX5_fill_33 : decode cX5_fill 33 = .ok (.getfield 119, 3) := by decide +kernel
theorem dX5_fill_36 : decode cX5_fill 36 = .ok (.iload_n 1, 1) := by decide +kernel
theorem dX5_fill_37 : decode cX5_fill 37 = .ok (.iload_n 2, 1) := by decide +kernel
theorem dX5_fill_38 : decode cX5_fill 38 = .ok (.i2l, 1) := by decide +kernel
theorem dX5_fill_39 : decode cX5_fill 39 = .ok (.lastore, 1) := by decide +kernel
theorem dX5_fill_40 : decode cX5_fill 40 = .ok (.aload_n 0, 1) := by decide +kernel
theorem dX5_fill_41 : decode cX5_fill 41 = .ok (.getfield 26, 3) := by decide +kernel
theorem dX5_fill_44 : decode cX5_fill 44 = .ok (.getfield 123, 3) := by decide +kernel
theorem dX5_fill_47 : decode cX5_fill 47 = .ok (.iload_n 1, 1) := by decide +kernel
theorem dX5_fill_48 : decode cX5_fill 48 = .ok (.iload_n 3, 1) := by decide +kernel
theorem dX5_fill_49 : decode cX5_fill 49 = .ok (.i2l, 1) := by decide +kernel
theorem dX5_fill_50 : decode cX5_fill 50 = .ok (.lastore, 1) := by decide +kernel
theorem dX5_fill_51 : decode cX5_fill 51 = .ok (.iconst 1, 1) := by decide +kernel
theorem dX5_fill_52 : decode cX5_fill 52 = .ok (.ireturn, 1) := by decide +kernel
set_option maxRecDepth 20000 in
theorem ggX5_set_X5_setLeak : GoodIn wsX5_set wsX5_setLeak := goodIn_r _ [5, 6, 7, 8, 9, 4, 10, 29, 30, 31, 32, 33, 34, 35, 36, 37, 38, 39, 40, 41] (by decide +kernel) (by decide +kernel)
set_option maxRecDepth 20000 in
theorem gX5_set_X5_setLeak : GoodIn wsX5_set (wsV RX5 126 RX5 yX5_setLeak wsX5_setLeak) := goodIn_app (goodIn_of _ (by decide +kernel)) ggX5_set_X5_setLeak
set_option maxRecDepth 20000 in
theorem ggX5_set_X5_setFeed : GoodIn wsX5_set wsX5_setFeed := goodIn_r _ [14, 6, 15, 16, 17, 4, 18, 8, 9, 10, 29, 30, 31, 32, 33, 34, 35, 36, 37, 38, 39, 40, 41] (by decide +kernel) (by decide +kernel)
set_option maxRecDepth 20000 in
theorem gX5_set_X5_setFeed : GoodIn wsX5_set (wsV RX5 129 RX5 yX5_setFeed wsX5_setFeed) := goodIn_app (goodIn_of _ (by decide +kernel)) ggX5_set_X5_setFeed
set_option maxRecDepth 20000 in
theorem ggX5_set_X5_setGivenShare : GoodIn wsX5_set wsX5_setGivenShare := goodIn_r _ [22, 6, 23, 8, 9, 4, 10, 29, 30, 31, 32, 33, 34, 35, 36, 37, 38, 39, 40, 41] (by decide +kernel) (by decide +kernel)
set_option maxRecDepth 20000 in
theorem gX5_set_X5_setGivenShare : GoodIn wsX5_set (wsV RX5 132 RX5 yX5_setGivenShare wsX5_setGivenShare) := goodIn_app (goodIn_of _ (by decide +kernel)) ggX5_set_X5_setGivenShare
set_option maxRecDepth 20000 in
theorem ggX5_set_X5_setGivenBox : GoodIn wsX5_set wsX5_setGivenBox := goodIn_r _ [27, 6, 28, 16, 17, 4, 18, 8, 9, 10, 29, 30, 31, 32, 33, 34, 35, 36, 37, 38, 39, 40, 41] (by decide +kernel) (by decide +kernel)
set_option maxRecDepth 20000 in
theorem gX5_set_X5_setGivenBox : GoodIn wsX5_set (wsV RX5 135 RX5 yX5_setGivenBox wsX5_setGivenBox) := goodIn_app (goodIn_of _ (by decide +kernel)) ggX5_set_X5_setGivenBox
theorem dX5_set_0 : decode cX5_set 0 = .ok (.iload_n 1, 1) := by decide +kernel
theorem dX5_set_1 : decode cX5_set 1 = .ok (.tableswitch 68 0 2 #[27, 34, 41], 27) := by decide +kernel
theorem dX5_set_28 : decode cX5_set 28 = .ok (.aload_n 0, 1) := by decide +kernel
theorem dX5_set_29 : decode cX5_set 29 = .ok (.iload_n 2, 1) := by decide +kernel
theorem dX5_set_30 : decode cX5_set 30 = .ok (.iload_n 3, 1) := by decide +kernel
theorem dX5_set_31 : decode cX5_set 31 = .ok (.invokevirtual 126, 3) := by decide +kernel
theorem dX5_set_34 : decode cX5_set 34 = .ok (.ireturn, 1) := by decide +kernel
theorem dX5_set_35 : decode cX5_set 35 = .ok (.aload_n 0, 1) := by decide +kernel
theorem dX5_set_36 : decode cX5_set 36 = .ok (.iload_n 2, 1) := by decide +kernel
theorem dX5_set_37 : decode cX5_set 37 = .ok (.iload_n 3, 1) := by decide +kernel
theorem dX5_set_38 : decode cX5_set 38 = .ok (.invokevirtual 129, 3) := by decide +kernel
theorem dX5_set_41 : decode cX5_set 41 = .ok (.ireturn, 1) := by decide +kernel
theorem dX5_set_42 : decode cX5_set 42 = .ok (.iload_n 2, 1) := by decide +kernel
theorem dX5_set_43 : decode cX5_set 43 = .ok (.ifCond .ne 11, 3) := by decide +kernel
theorem dX5_set_46 : decode cX5_set 46 = .ok (.aload_n 0, 1) := by decide +kernel
theorem dX5_set_47 : decode cX5_set 47 = .ok (.iload_n 3, 1) := by decide +kernel
theorem dX5_set_48 : decode cX5_set 48 = .ok (.invokevirtual 132, 3) := by decide +kernel
theorem dX5_set_51 : decode cX5_set 51 = .ok (.goto 17, 3) := by decide +kernel
theorem dX5_set_54 : decode cX5_set 54 = .ok (.iload_n 2, 1) := by decide +kernel
theorem dX5_set_55 : decode cX5_set 55 = .ok (.iconst 1, 1) := by decide +kernel
theorem dX5_set_56 : decode cX5_set 56 = .ok (.if_icmp .ne 11, 3) := by decide +kernel
theorem dX5_set_59 : decode cX5_set 59 = .ok (.aload_n 0, 1) := by decide +kernel
theorem dX5_set_60 : decode cX5_set 60 = .ok (.iload_n 3, 1) := by decide +kernel
theorem dX5_set_61 : decode cX5_set 61 = .ok (.invokevirtual 135, 3) := by decide +kernel
theorem dX5_set_64 : decode cX5_set 64 = .ok (.goto 4, 3) := by decide +kernel
theorem dX5_set_67 : decode cX5_set 67 = .ok (.iconst (-1), 1) := by decide +kernel
theorem dX5_set_68 : decode cX5_set 68 = .ok (.ireturn, 1) := by decide +kernel
theorem dX5_set_69 : decode cX5_set 69 = .ok (.iconst (-1), 1) := by decide +kernel
theorem dX5_set_70 : decode cX5_set 70 = .ok (.ireturn, 1) := by decide +kernel
set_option maxRecDepth 20000 in
theorem ggX5_year_X5_within : GoodIn wsX5_year wsX5_within := goodIn_r _ [6] (by decide +kernel) (by decide +kernel)
set_option maxRecDepth 20000 in
theorem gX5_year_X5_within : GoodIn wsX5_year (va_wsS RX5 48 yX5_within wsX5_within) := goodIn_app (goodIn_of _ (by decide +kernel)) ggX5_year_X5_within
set_option maxRecDepth 20000 in
theorem ggX5_year_X5_passYear : GoodIn wsX5_year wsX5_passYear := goodIn_r _ [10, 1, 2, 11, 12, 13, 14, 15, 5, 16, 17, 18, 19, 20, 21, 22, 23, 24, 25, 26, 27, 28, 29, 30, 31, 32, 33, 34, 35, 36, 37, 38, 39, 40, 41, 42, 43, 44, 45, 46, 47, 48, 49, 50, 51, 52, 53, 54, 55, 56, 57, 58, 59, 60, 61, 62, 63, 64, 65, 66, 67, 68, 69, 70, 71, 72, 73, 74, 75, 76, 77, 78, 79, 80, 81, 82, 83, 84, 85, 86, 87, 88, 89, 90, 91, 92, 93, 94, 95, 96, 97, 98, 99, 100, 101, 102, 103, 104, 105, 106, 107, 108, 109, 110, 111, 112, 113, 114, 115, 116, 117, 118, 119, 120, 121, 122, 123, 124, 125, 126, 127, 128, 129, 130, 131, 132, 133, 134, 135, 136] (by decide +kernel) (by decide +kernel)
set_option maxRecDepth 20000 in
theorem gX5_year_X5_passYear : GoodIn wsX5_year (wsV RX5 138 RX5 yX5_passYear wsX5_passYear) := goodIn_app (goodIn_of _ (by decide +kernel)) ggX5_year_X5_passYear
theorem dX5_year_0 : decode cX5_year 0 = .ok (.iload_n 1, 1) := by decide +kernel
theorem dX5_year_1 : decode cX5_year 1 = .ok (.iconst 1, 1) := by decide +kernel
theorem dX5_year_2 : decode cX5_year 2 = .ok (.bipush 20, 2) := by decide +kernel
theorem dX5_year_4 : decode cX5_year 4 = .ok (.invokestatic 48, 3) := by decide +kernel
theorem dX5_year_7 : decode cX5_year 7 = .ok (.ifCond .ne 5, 3) := by decide +kernel
theorem dX5_year_10 : decode cX5_year 10 = .ok (.iconst (-1), 1) := by decide +kernel
theorem dX5_year_11 : decode cX5_year 11 = .ok (.ireturn, 1) := by decide +kernel
theorem dX5_year_12 : decode cX5_year 12 = .ok (.iconst 0, 1) := by decide +kernel
theorem dX5_year_13 : decode cX5_year 13 = .ok (.istore_n 2, 1) := by decide +kernel
theorem dX5_year_14 : decode cX5_year 14 = .ok (.iload_n 2, 1) := by decide +kernel
theorem dX5_year_15 : decode cX5_year 15 = .ok (.iload_n 1, 1) := by decide +kernel
theorem dX5_year_16 : decode cX5_year 16 = .ok (.if_icmp .ge 13, 3) := by decide +kernel
theorem dX5_year_19 : decode cX5_year 19 = .ok (.aload_n 0, 1) := by decide +kernel
theorem dX5_year_20 : decode cX5_year 20 = .ok (.invokevirtual 138, 3) := by decide +kernel
theorem dX5_year_23 : decode cX5_year 23 = .ok (.iinc 2 1, 3) := by decide +kernel
theorem dX5_year_26 : decode cX5_year 26 = .ok (.goto (-12), 3) := by decide +kernel
theorem dX5_year_29 : decode cX5_year 29 = .ok (.aload_n 0, 1) := by decide +kernel
theorem dX5_year_30 : decode cX5_year 30 = .ok (.getfield 26, 3) := by decide +kernel
theorem dX5_year_33 : decode cX5_year 33 = .ok (.getfield 141, 3) := by decide +kernel
theorem dX5_year_36 : decode cX5_year 36 = .ok (.bipush 7, 2) := by decide +kernel
theorem dX5_year_38 : decode cX5_year 38 = .ok (.laload, 1) := by decide +kernel
theorem dX5_year_39 : decode cX5_year 39 = .ok (.l2i, 1) := by decide +kernel
theorem dX5_year_40 : decode cX5_year 40 = .ok (.ireturn, 1) := by decide +kernel
set_option maxRecDepth 20000 in
theorem ggX5_box_X5_isBox : GoodIn wsX5_box wsX5_isBox := goodIn_r _ [8, 9, 10, 7, 11] (by decide +kernel) (by decide +kernel)
set_option maxRecDepth 20000 in
theorem gX5_box_X5_isBox : GoodIn wsX5_box (va_wsS RX5 115 yX5_isBox wsX5_isBox) := goodIn_app (goodIn_of _ (by decide +kernel)) ggX5_box_X5_isBox
set_option maxRecDepth 20000 in
theorem ggX5_box_X5_within : GoodIn wsX5_box wsX5_within := goodIn_r _ [11] (by decide +kernel) (by decide +kernel)
set_option maxRecDepth 20000 in
theorem gX5_box_X5_within : GoodIn wsX5_box (va_wsS RX5 48 yX5_within wsX5_within) := goodIn_app (goodIn_of _ (by decide +kernel)) ggX5_box_X5_within
theorem dX5_box_0 : decode cX5_box 0 = .ok (.iload_n 1, 1) := by decide +kernel
theorem dX5_box_1 : decode cX5_box 1 = .ok (.invokestatic 115, 3) := by decide +kernel
theorem dX5_box_4 : decode cX5_box 4 = .ok (.ifCond .eq 12, 3) := by decide +kernel
theorem dX5_box_7 : decode cX5_box 7 = .ok (.iload_n 2, 1) := by decide +kernel
theorem dX5_box_8 : decode cX5_box 8 = .ok (.iconst 0, 1) := by decide +kernel
theorem dX5_box_9 : decode cX5_box 9 = .ok (.iconst 1, 1) := by decide +kernel
theorem dX5_box_10 : decode cX5_box 10 = .ok (.invokestatic 48, 3) := by decide +kernel
theorem dX5_box_13 : decode cX5_box 13 = .ok (.ifCond .ne 7, 3) := by decide +kernel
theorem dX5_box_16 : decode cX5_box 16 = .ok (.ldc2_w 144, 3) := by decide +kernel
theorem dX5_box_19 : decode cX5_box 19 = .ok (.lreturn, 1) := by decide +kernel
theorem dX5_box_20 : decode cX5_box 20 = .ok (.iload_n 2, 1) := by decide +kernel
theorem dX5_box_21 : decode cX5_box 21 = .ok (.ifCond .ne 15, 3) := by decide +kernel
theorem dX5_box_24 : decode cX5_box 24 = .ok (.aload_n 0, 1) := by decide +kernel
theorem dX5_box_25 : decode cX5_box 25 = .ok (.getfield 26, 3) := by decide +kernel
theorem dX5_box_28 : decode cX5_box 28 = .ok (.getfield 119, 3) := by decide +kernel
theorem dX5_box_31 : decode cX5_box 31 = .ok (.iload_n 1, 1) := by decide +kernel
theorem dX5_box_32 : decode cX5_box 32 = .ok (.laload, 1) := by decide +kernel
theorem dX5_box_33 : decode cX5_box 33 = .ok (.goto 12, 3) := by decide +kernel
theorem dX5_box_36 : decode cX5_box 36 = .ok (.aload_n 0, 1) := by decide +kernel
theorem dX5_box_37 : decode cX5_box 37 = .ok (.getfield 26, 3) := by decide +kernel
theorem dX5_box_40 : decode cX5_box 40 = .ok (.getfield 123, 3) := by decide +kernel
theorem dX5_box_43 : decode cX5_box 43 = .ok (.iload_n 1, 1) := by decide +kernel
theorem dX5_box_44 : decode cX5_box 44 = .ok (.laload, 1) := by decide +kernel
theorem dX5_box_45 : decode cX5_box 45 = .ok (.lreturn, 1) := by decide +kernel
set_option maxRecDepth 20000 in
theorem ggX5_sum_X5_within : GoodIn wsX5_sum wsX5_within := goodIn_r _ [7] (by decide +kernel) (by decide +kernel)
set_option maxRecDepth 20000 in
theorem gX5_sum_X5_within : GoodIn wsX5_sum (va_wsS RX5 48 yX5_within wsX5_within) := goodIn_app (goodIn_of _ (by decide +kernel)) ggX5_sum_X5_within
theorem dX5_sum_0 : decode cX5_sum 0 = .ok (.iload_n 1, 1) := by decide +kernel
theorem dX5_sum_1 : decode cX5_sum 1 = .ok (.iconst 0, 1) := by decide +kernel
theorem dX5_sum_2 : decode cX5_sum 2 = .ok (.bipush 8, 2) := by decide +kernel
theorem dX5_sum_4 : decode cX5_sum 4 = .ok (.invokestatic 48, 3) := by decide +kernel
theorem dX5_sum_7 : decode cX5_sum 7 = .ok (.ifCond .ne 7, 3) := by decide +kernel
theorem dX5_sum_10 : decode cX5_sum 10 = .ok (.ldc2_w 144, 3) := by decide +kernel
theorem dX5_sum_13 : decode cX5_sum 13 = .ok (.lreturn, 1) := by decide +kernel
theorem dX5_sum_14 : decode cX5_sum 14 = .ok (.aload_n 0, 1) := by decide +kernel
theorem dX5_sum_15 : decode cX5_sum 15 = .ok (.getfield 26, 3) := by decide +kernel
theorem dX5_sum_18 : decode cX5_sum 18 = .ok (.getfield 141, 3) := by decide +kernel
theorem dX5_sum_21 : decode cX5_sum 21 = .ok (.iload_n 1, 1) := by decide +kernel
theorem dX5_sum_22 : decode cX5_sum 22 = .ok (.laload, 1) := by decide +kernel
theorem dX5_sum_23 : decode cX5_sum 23 = .ok (.lreturn, 1) := by decide +kernel
set_option maxRecDepth 20000 in
theorem ggX5_share_X5_within : GoodIn wsX5_share wsX5_within := goodIn_r _ [6] (by decide +kernel) (by decide +kernel)
set_option maxRecDepth 20000 in
theorem gX5_share_X5_within : GoodIn wsX5_share (va_wsS RX5 48 yX5_within wsX5_within) := goodIn_app (goodIn_of _ (by decide +kernel)) ggX5_share_X5_within
set_option maxRecDepth 20000 in
theorem ggX5_share_X1_together : GoodIn wsX5_share wsX1_together := goodIn_r _ [11, 12, 19, 20, 21] (by decide +kernel) (by decide +kernel)
set_option maxRecDepth 20000 in
theorem gX5_share_X1_together : GoodIn wsX5_share (wsV RX5 149 RX1 yX1_together wsX1_together) := goodIn_app (goodIn_of _ (by decide +kernel)) ggX5_share_X1_together
theorem dX5_share_0 : decode cX5_share 0 = .ok (.iload_n 1, 1) := by decide +kernel
theorem dX5_share_1 : decode cX5_share 1 = .ok (.iconst 0, 1) := by decide +kernel
theorem dX5_share_2 : decode cX5_share 2 = .ok (.iconst 5, 1) := by decide +kernel
theorem dX5_share_3 : decode cX5_share 3 = .ok (.invokestatic 48, 3) := by decide +kernel
theorem dX5_share_6 : decode cX5_share 6 = .ok (.ifCond .eq 14, 3) := by decide +kernel
theorem dX5_share_9 : decode cX5_share 9 = .ok (.iload_n 2, 1) := by decide +kernel
theorem dX5_share_10 : decode cX5_share 10 = .ok (.iconst 0, 1) := by decide +kernel
theorem dX5_share_11 : decode cX5_share 11 = .ok (.sipush 1000, 3) := by decide +kernel
theorem dX5_share_14 : decode cX5_share 14 = .ok (.invokestatic 48, 3) := by decide +kernel
theorem dX5_share_17 : decode cX5_share 17 = .ok (.ifCond .ne 5, 3) := by decide +kernel
theorem dX5_share_20 : decode cX5_share 20 = .ok (.iconst (-1), 1) := by decide +kernel
theorem dX5_share_21 : decode cX5_share 21 = .ok (.ireturn, 1) := by decide +kernel
theorem dX5_share_22 : decode cX5_share 22 = .ok (.aload_n 0, 1) := by decide +kernel
theorem dX5_share_23 : decode cX5_share 23 = .ok (.getfield 33, 3) := by decide +kernel
theorem dX5_share_26 : decode cX5_share 26 = .ok (.getfield 146, 3) := by decide +kernel
theorem dX5_share_29 : decode cX5_share 29 = .ok (.iload_n 1, 1) := by decide +kernel
theorem dX5_share_30 : decode cX5_share 30 = .ok (.iaload, 1) := by decide +kernel
theorem dX5_share_31 : decode cX5_share 31 = .ok (.istore_n 3, 1) := by decide +kernel
theorem dX5_share_32 : decode cX5_share 32 = .ok (.aload_n 0, 1) := by decide +kernel
theorem dX5_share_33 : decode cX5_share 33 = .ok (.getfield 33, 3) := by decide +kernel
theorem dX5_share_36 : decode cX5_share 36 = .ok (.invokevirtual 149, 3) := by decide +kernel
theorem dX5_share_39 : decode cX5_share 39 = .ok (.iload_n 3, 1) := by decide +kernel
theorem dX5_share_40 : decode cX5_share 40 = .ok (.isub, 1) := by decide +kernel
theorem dX5_share_41 : decode cX5_share 41 = .ok (.iload_n 2, 1) := by decide +kernel
theorem dX5_share_42 : decode cX5_share 42 = .ok (.iadd, 1) := by decide +kernel
theorem dX5_share_43 : decode cX5_share 43 = .ok (.sipush 1000, 3) := by decide +kernel
theorem dX5_share_46 : decode cX5_share 46 = .ok (.if_icmp .le 5, 3) := by decide +kernel
theorem dX5_share_49 : decode cX5_share 49 = .ok (.iconst (-1), 1) := by decide +kernel
theorem dX5_share_50 : decode cX5_share 50 = .ok (.ireturn, 1) := by decide +kernel
theorem dX5_share_51 : decode cX5_share 51 = .ok (.aload_n 0, 1) := by decide +kernel
theorem dX5_share_52 : decode cX5_share 52 = .ok (.getfield 33, 3) := by decide +kernel
theorem dX5_share_55 : decode cX5_share 55 = .ok (.getfield 146, 3) := by decide +kernel
theorem dX5_share_58 : decode cX5_share 58 = .ok (.iload_n 1, 1) := by decide +kernel
theorem dX5_share_59 : decode cX5_share 59 = .ok (.iload_n 2, 1) := by decide +kernel
theorem dX5_share_60 : decode cX5_share 60 = .ok (.iastore, 1) := by decide +kernel
theorem dX5_share_61 : decode cX5_share 61 = .ok (.iload_n 3, 1) := by decide +kernel
theorem dX5_share_62 : decode cX5_share 62 = .ok (.ireturn, 1) := by decide +kernel
set_option maxRecDepth 20000 in
theorem ggX5_put_X5_within : GoodIn wsX5_put wsX5_within := goodIn_r _ [8] (by decide +kernel) (by decide +kernel)
set_option maxRecDepth 20000 in
theorem gX5_put_X5_within : GoodIn wsX5_put (va_wsS RX5 48 yX5_within wsX5_within) := goodIn_app (goodIn_of _ (by decide +kernel)) ggX5_put_X5_within
theorem dX5_put_0 : decode cX5_put 0 = .ok (.iload_n 1, 1) := by decide +kernel
theorem dX5_put_1 : decode cX5_put 1 = .ok (.iconst 0, 1) := by decide +kernel
theorem dX5_put_2 : decode cX5_put 2 = .ok (.ldc 152, 2) := by decide +kernel
theorem dX5_put_4 : decode cX5_put 4 = .ok (.invokestatic 48, 3) := by decide +kernel
theorem dX5_put_7 : decode cX5_put 7 = .ok (.ifCond .ne 5, 3) := by decide +kernel
theorem dX5_put_10 : decode cX5_put 10 = .ok (.iconst (-1), 1) := by decide +kernel
theorem dX5_put_11 : decode cX5_put 11 = .ok (.ireturn, 1) := by decide +kernel
theorem dX5_put_12 : decode cX5_put 12 = .ok (.aload_n 0, 1) := by decide +kernel
theorem dX5_put_13 : decode cX5_put 13 = .ok (.getfield 33, 3) := by decide +kernel
theorem dX5_put_16 : decode cX5_put 16 = .ok (.getfield 153, 3) := by decide +kernel
theorem dX5_put_19 : decode cX5_put 19 = .ok (.bipush 12, 2) := by decide +kernel
theorem dX5_put_21 : decode cX5_put 21 = .ok (.if_icmp .lt 6, 3) := by decide +kernel
theorem dX5_put_24 : decode cX5_put 24 = .ok (.bipush (-3), 2) := by decide +kernel
theorem dX5_put_26 : decode cX5_put 26 = .ok (.ireturn, 1) := by decide +kernel
theorem dX5_put_27 : decode cX5_put 27 = .ok (.aload_n 0, 1) := by decide +kernel
theorem dX5_put_28 : decode cX5_put 28 = .ok (.getfield 33, 3) := by decide +kernel
theorem dX5_put_31 : decode cX5_put 31 = .ok (.getfield 154, 3) := by decide +kernel
theorem dX5_put_34 : decode cX5_put 34 = .ok (.aload_n 0, 1) := by decide +kernel
theorem dX5_put_35 : decode cX5_put 35 = .ok (.getfield 33, 3) := by decide +kernel
theorem dX5_put_38 : decode cX5_put 38 = .ok (.getfield 153, 3) := by decide +kernel
theorem dX5_put_41 : decode cX5_put 41 = .ok (.iload_n 1, 1) := by decide +kernel
theorem dX5_put_42 : decode cX5_put 42 = .ok (.iastore, 1) := by decide +kernel
theorem dX5_put_43 : decode cX5_put 43 = .ok (.aload_n 0, 1) := by decide +kernel
theorem dX5_put_44 : decode cX5_put 44 = .ok (.getfield 33, 3) := by decide +kernel
theorem dX5_put_47 : decode cX5_put 47 = .ok (.dup, 1) := by decide +kernel
theorem dX5_put_48 : decode cX5_put 48 = .ok (.getfield 153, 3) := by decide +kernel
theorem dX5_put_51 : decode cX5_put 51 = .ok (.iconst 1, 1) := by decide +kernel
theorem dX5_put_52 : decode cX5_put 52 = .ok (.iadd, 1) := by decide +kernel
theorem dX5_put_53 : decode cX5_put 53 = .ok (.putfield 153, 3) := by decide +kernel
theorem dX5_put_56 : decode cX5_put 56 = .ok (.aload_n 0, 1) := by decide +kernel
theorem dX5_put_57 : decode cX5_put 57 = .ok (.getfield 33, 3) := by decide +kernel
theorem dX5_put_60 : decode cX5_put 60 = .ok (.getfield 153, 3) := by decide +kernel
theorem dX5_put_63 : decode cX5_put 63 = .ok (.ireturn, 1) := by decide +kernel
set_option maxRecDepth 20000 in
theorem ggX5_back_X5_within : GoodIn wsX5_back wsX5_within := goodIn_r _ [5] (by decide +kernel) (by decide +kernel)
set_option maxRecDepth 20000 in
theorem gX5_back_X5_within : GoodIn wsX5_back (va_wsS RX5 48 yX5_within wsX5_within) := goodIn_app (goodIn_of _ (by decide +kernel)) ggX5_back_X5_within
set_option maxRecDepth 20000 in
theorem ggX5_back_X1_comes : GoodIn wsX5_back wsX1_comes := goodIn_r _ [10, 11, 12, 13, 20, 21, 22] (by decide +kernel) (by decide +kernel)
set_option maxRecDepth 20000 in
theorem gX5_back_X1_comes : GoodIn wsX5_back (wsV RX5 157 RX1 yX1_comes wsX1_comes) := goodIn_app (goodIn_of _ (by decide +kernel)) ggX5_back_X1_comes
theorem dX5_back_0 : decode cX5_back 0 = .ok (.iload_n 1, 1) := by decide +kernel
theorem dX5_back_1 : decode cX5_back 1 = .ok (.iconst 0, 1) := by decide +kernel
theorem dX5_back_2 : decode cX5_back 2 = .ok (.bipush 16, 2) := by decide +kernel
theorem dX5_back_4 : decode cX5_back 4 = .ok (.invokestatic 48, 3) := by decide +kernel
theorem dX5_back_7 : decode cX5_back 7 = .ok (.ifCond .ne 5, 3) := by decide +kernel
theorem dX5_back_10 : decode cX5_back 10 = .ok (.iconst (-1), 1) := by decide +kernel
theorem dX5_back_11 : decode cX5_back 11 = .ok (.ireturn, 1) := by decide +kernel
theorem dX5_back_12 : decode cX5_back 12 = .ok (.aload_n 0, 1) := by decide +kernel
theorem dX5_back_13 : decode cX5_back 13 = .ok (.getfield 33, 3) := by decide +kernel
theorem dX5_back_16 : decode cX5_back 16 = .ok (.iload_n 1, 1) := by decide +kernel
theorem dX5_back_17 : decode cX5_back 17 = .ok (.invokevirtual 157, 3) := by decide +kernel
theorem dX5_back_20 : decode cX5_back 20 = .ok (.ireturn, 1) := by decide +kernel
theorem dX5_cut_0 : decode cX5_cut 0 = .ok (.aload_n 0, 1) := by decide +kernel
theorem dX5_cut_1 : decode cX5_cut 1 = .ok (.getfield 33, 3) := by decide +kernel
theorem dX5_cut_4 : decode cX5_cut 4 = .ok (.getfield 153, 3) := by decide +kernel
theorem dX5_cut_7 : decode cX5_cut 7 = .ok (.ifCond .gt 6, 3) := by decide +kernel
theorem dX5_cut_10 : decode cX5_cut 10 = .ok (.bipush (-2), 2) := by decide +kernel
theorem dX5_cut_12 : decode cX5_cut 12 = .ok (.ireturn, 1) := by decide +kernel
theorem dX5_cut_13 : decode cX5_cut 13 = .ok (.aload_n 0, 1) := by decide +kernel
theorem dX5_cut_14 : decode cX5_cut 14 = .ok (.getfield 33, 3) := by decide +kernel
theorem dX5_cut_17 : decode cX5_cut 17 = .ok (.dup, 1) := by decide +kernel
theorem dX5_cut_18 : decode cX5_cut 18 = .ok (.getfield 153, 3) := by decide +kernel
theorem dX5_cut_21 : decode cX5_cut 21 = .ok (.iconst 1, 1) := by decide +kernel
theorem dX5_cut_22 : decode cX5_cut 22 = .ok (.isub, 1) := by decide +kernel
theorem dX5_cut_23 : decode cX5_cut 23 = .ok (.putfield 153, 3) := by decide +kernel
theorem dX5_cut_26 : decode cX5_cut 26 = .ok (.aload_n 0, 1) := by decide +kernel
theorem dX5_cut_27 : decode cX5_cut 27 = .ok (.getfield 33, 3) := by decide +kernel
theorem dX5_cut_30 : decode cX5_cut 30 = .ok (.getfield 153, 3) := by decide +kernel
theorem dX5_cut_33 : decode cX5_cut 33 = .ok (.ireturn, 1) := by decide +kernel
set_option maxRecDepth 20000 in
theorem ggX5_candidate_X5_within : GoodIn wsX5_candidate wsX5_within := goodIn_r _ [6] (by decide +kernel) (by decide +kernel)
set_option maxRecDepth 20000 in
theorem gX5_candidate_X5_within : GoodIn wsX5_candidate (va_wsS RX5 48 yX5_within wsX5_within) := goodIn_app (goodIn_of _ (by decide +kernel)) ggX5_candidate_X5_within
set_option maxRecDepth 20000 in
theorem ggX5_candidate_X5_isPlanYear : GoodIn wsX5_candidate wsX5_isPlanYear := goodIn_r _ [9, 3, 4, 5, 6] (by decide +kernel) (by decide +kernel)
set_option maxRecDepth 20000 in
theorem gX5_candidate_X5_isPlanYear : GoodIn wsX5_candidate (va_wsS RX5 160 yX5_isPlanYear wsX5_isPlanYear) := goodIn_app (goodIn_of _ (by decide +kernel)) ggX5_candidate_X5_isPlanYear
set_option maxRecDepth 20000 in
theorem ggX5_candidate_X2_add : GoodIn wsX5_candidate wsX2_add := goodIn_r _ [14, 15, 16, 17, 18, 25, 26, 27, 28, 29] (by decide +kernel) (by decide +kernel)
set_option maxRecDepth 20000 in
theorem gX5_candidate_X2_add : GoodIn wsX5_candidate (wsV RX5 164 RX2 yX2_add wsX2_add) := goodIn_app (goodIn_of _ (by decide +kernel)) ggX5_candidate_X2_add
theorem dX5_candidate_0 : decode cX5_candidate 0 = .ok (.iload_n 1, 1) := by decide +kernel
theorem dX5_candidate_1 : decode cX5_candidate 1 = .ok (.iconst 1, 1) := by decide +kernel
theorem dX5_candidate_2 : decode cX5_candidate 2 = .ok (.sipush 1000, 3) := by decide +kernel
theorem dX5_candidate_5 : decode cX5_candidate 5 = .ok (.invokestatic 48, 3) := by decide +kernel
theorem dX5_candidate_8 : decode cX5_candidate 8 = .ok (.ifCond .eq 21, 3) := by decide +kernel
theorem dX5_candidate_11 : decode cX5_candidate 11 = .ok (.iload_n 2, 1) := by decide +kernel
theorem dX5_candidate_12 : decode cX5_candidate 12 = .ok (.invokestatic 160, 3) := by decide +kernel
theorem dX5_candidate_15 : decode cX5_candidate 15 = .ok (.ifCond .eq 14, 3) := by decide +kernel
theorem dX5_candidate_18 : decode cX5_candidate 18 = .ok (.iload_n 3, 1) := by decide +kernel
theorem dX5_candidate_19 : decode cX5_candidate 19 = .ok (.iconst 1, 1) := by decide +kernel
theorem dX5_candidate_20 : decode cX5_candidate 20 = .ok (.sipush 500, 3) := by decide +kernel
theorem dX5_candidate_23 : decode cX5_candidate 23 = .ok (.invokestatic 48, 3) := by decide +kernel
theorem dX5_candidate_26 : decode cX5_candidate 26 = .ok (.ifCond .ne 5, 3) := by decide +kernel
theorem dX5_candidate_29 : decode cX5_candidate 29 = .ok (.iconst (-1), 1) := by decide +kernel
theorem dX5_candidate_30 : decode cX5_candidate 30 = .ok (.ireturn, 1) := by decide +kernel
theorem dX5_candidate_31 : decode cX5_candidate 31 = .ok (.aload_n 0, 1) := by decide +kernel
theorem dX5_candidate_32 : decode cX5_candidate 32 = .ok (.getfield 40, 3) := by decide +kernel
theorem dX5_candidate_35 : decode cX5_candidate 35 = .ok (.getfield 163, 3) := by decide +kernel
theorem dX5_candidate_38 : decode cX5_candidate 38 = .ok (.bipush 8, 2) := by decide +kernel
theorem dX5_candidate_40 : decode cX5_candidate 40 = .ok (.if_icmp .lt 6, 3) := by decide +kernel
theorem dX5_candidate_43 : decode cX5_candidate 43 = .ok (.bipush (-3), 2) := by decide +kernel
theorem dX5_candidate_45 : decode cX5_candidate 45 = .ok (.ireturn, 1) := by decide +kernel
theorem dX5_candidate_46 : decode cX5_candidate 46 = .ok (.aload_n 0, 1) := by decide +kernel
theorem dX5_candidate_47 : decode cX5_candidate 47 = .ok (.getfield 40, 3) := by decide +kernel
theorem dX5_candidate_50 : decode cX5_candidate 50 = .ok (.iload_n 1, 1) := by decide +kernel
theorem dX5_candidate_51 : decode cX5_candidate 51 = .ok (.iload_n 2, 1) := by decide +kernel
theorem dX5_candidate_52 : decode cX5_candidate 52 = .ok (.iload_n 3, 1) := by decide +kernel
theorem dX5_candidate_53 : decode cX5_candidate 53 = .ok (.invokevirtual 164, 3) := by decide +kernel
theorem dX5_candidate_56 : decode cX5_candidate 56 = .ok (.ireturn, 1) := by decide +kernel
set_option maxRecDepth 20000 in
theorem ggX5_promise_X5_isPlanYear : GoodIn wsX5_promise wsX5_isPlanYear := goodIn_r _ [6, 7, 8, 5, 9] (by decide +kernel) (by decide +kernel)
set_option maxRecDepth 20000 in
theorem gX5_promise_X5_isPlanYear : GoodIn wsX5_promise (va_wsS RX5 160 yX5_isPlanYear wsX5_isPlanYear) := goodIn_app (goodIn_of _ (by decide +kernel)) ggX5_promise_X5_isPlanYear
set_option maxRecDepth 20000 in
theorem ggX5_promise_X5_within : GoodIn wsX5_promise wsX5_within := goodIn_r _ [9] (by decide +kernel) (by decide +kernel)
set_option maxRecDepth 20000 in
theorem gX5_promise_X5_within : GoodIn wsX5_promise (va_wsS RX5 48 yX5_within wsX5_within) := goodIn_app (goodIn_of _ (by decide +kernel)) ggX5_promise_X5_within
theorem dX5_promise_0 : decode cX5_promise 0 = .ok (.iload_n 1, 1) := by decide +kernel
theorem dX5_promise_1 : decode cX5_promise 1 = .ok (.invokestatic 160, 3) := by decide +kernel
theorem dX5_promise_4 : decode cX5_promise 4 = .ok (.ifCond .eq 14, 3) := by decide +kernel
theorem dX5_promise_7 : decode cX5_promise 7 = .ok (.iload_n 2, 1) := by decide +kernel
theorem dX5_promise_8 : decode cX5_promise 8 = .ok (.iconst 0, 1) := by decide +kernel
theorem dX5_promise_9 : decode cX5_promise 9 = .ok (.sipush 3000, 3) := by decide +kernel
theorem dX5_promise_12 : decode cX5_promise 12 = .ok (.invokestatic 48, 3) := by decide +kernel
theorem dX5_promise_15 : decode cX5_promise 15 = .ok (.ifCond .ne 5, 3) := by decide +kernel
theorem dX5_promise_18 : decode cX5_promise 18 = .ok (.iconst (-1), 1) := by decide +kernel
theorem dX5_promise_19 : decode cX5_promise 19 = .ok (.ireturn, 1) := by decide +kernel
theorem dX5_promise_20 : decode cX5_promise 20 = .ok (.aload_n 0, 1) := by decide +kernel
theorem dX5_promise_21 : decode cX5_promise 21 = .ok (.getfield 40, 3) := by decide +kernel
theorem dX5_promise_24 : decode cX5_promise 24 = .ok (.getfield 165, 3) := by decide +kernel
theorem dX5_promise_27 : decode cX5_promise 27 = .ok (.iload_n 1, 1) := by decide +kernel
theorem dX5_promise_28 : decode cX5_promise 28 = .ok (.iaload, 1) := by decide +kernel
theorem dX5_promise_29 : decode cX5_promise 29 = .ok (.istore_n 3, 1) := by decide +kernel
theorem dX5_promise_30 : decode cX5_promise 30 = .ok (.aload_n 0, 1) := by decide +kernel
theorem dX5_promise_31 : decode cX5_promise 31 = .ok (.getfield 40, 3) := by decide +kernel
theorem dX5_promise_34 : decode cX5_promise 34 = .ok (.getfield 165, 3) := by decide +kernel
theorem dX5_promise_37 : decode cX5_promise 37 = .ok (.iload_n 1, 1) := by decide +kernel
theorem dX5_promise_38 : decode cX5_promise 38 = .ok (.iload_n 2, 1) := by decide +kernel
theorem dX5_promise_39 : decode cX5_promise 39 = .ok (.iastore, 1) := by decide +kernel
theorem dX5_promise_40 : decode cX5_promise 40 = .ok (.iload_n 3, 1) := by decide +kernel
theorem dX5_promise_41 : decode cX5_promise 41 = .ok (.ireturn, 1) := by decide +kernel
set_option maxRecDepth 20000 in
theorem ggX5_plan_X5_within : GoodIn wsX5_plan wsX5_within := goodIn_r _ [5] (by decide +kernel) (by decide +kernel)
set_option maxRecDepth 20000 in
theorem gX5_plan_X5_within : GoodIn wsX5_plan (va_wsS RX5 48 yX5_within wsX5_within) := goodIn_app (goodIn_of _ (by decide +kernel)) ggX5_plan_X5_within
set_option maxRecDepth 20000 in
theorem ggX5_plan_X2_cheapest : GoodIn wsX5_plan wsX2_cheapest := goodIn_r _ [10, 11, 12, 13, 9, 14, 15, 16, 17, 18, 19, 20, 21, 22, 23, 24, 25, 26, 27, 28, 29, 30, 31, 32, 33, 34, 35, 43, 44, 45, 46, 47] (by decide +kernel) (by decide +kernel)
set_option maxRecDepth 20000 in
theorem gX5_plan_X2_cheapest : GoodIn wsX5_plan (wsV RX5 168 RX2 yX2_cheapest wsX2_cheapest) := goodIn_app (goodIn_of _ (by decide +kernel)) ggX5_plan_X2_cheapest
set_option maxRecDepth 20000 in
theorem ggX5_plan_X2_price : GoodIn wsX5_plan wsX2_price := goodIn_r _ [19, 15, 20, 43, 44, 45, 46, 47] (by decide +kernel) (by decide +kernel)
set_option maxRecDepth 20000 in
theorem gX5_plan_X2_price : GoodIn wsX5_plan (wsV RX5 171 RX2 yX2_price wsX2_price) := goodIn_app (goodIn_of _ (by decide +kernel)) ggX5_plan_X2_price
theorem dX5_plan_0 : decode cX5_plan 0 = .ok (.iload_n 1, 1) := by decide +kernel
theorem dX5_plan_1 : decode cX5_plan 1 = .ok (.iconst 0, 1) := by decide +kernel
theorem dX5_plan_2 : decode cX5_plan 2 = .ok (.iconst 1, 1) := by decide +kernel
theorem dX5_plan_3 : decode cX5_plan 3 = .ok (.invokestatic 48, 3) := by decide +kernel
theorem dX5_plan_6 : decode cX5_plan 6 = .ok (.ifCond .ne 5, 3) := by decide +kernel
theorem dX5_plan_9 : decode cX5_plan 9 = .ok (.iconst (-1), 1) := by decide +kernel
theorem dX5_plan_10 : decode cX5_plan 10 = .ok (.ireturn, 1) := by decide +kernel
theorem dX5_plan_11 : decode cX5_plan 11 = .ok (.aload_n 0, 1) := by decide +kernel
theorem dX5_plan_12 : decode cX5_plan 12 = .ok (.getfield 40, 3) := by decide +kernel
theorem dX5_plan_15 : decode cX5_plan 15 = .ok (.invokevirtual 168, 3) := by decide +kernel
theorem dX5_plan_18 : decode cX5_plan 18 = .ok (.istore_n 2, 1) := by decide +kernel
theorem dX5_plan_19 : decode cX5_plan 19 = .ok (.iload_n 2, 1) := by decide +kernel
theorem dX5_plan_20 : decode cX5_plan 20 = .ok (.bipush (-9), 2) := by decide +kernel
theorem dX5_plan_22 : decode cX5_plan 22 = .ok (.if_icmp .ne 6, 3) := by decide +kernel
theorem dX5_plan_25 : decode cX5_plan 25 = .ok (.bipush (-9), 2) := by decide +kernel
theorem dX5_plan_27 : decode cX5_plan 27 = .ok (.ireturn, 1) := by decide +kernel
theorem dX5_plan_28 : decode cX5_plan 28 = .ok (.iload_n 1, 1) := by decide +kernel
theorem dX5_plan_29 : decode cX5_plan 29 = .ok (.ifCond .ne 7, 3) := by decide +kernel
theorem dX5_plan_32 : decode cX5_plan 32 = .ok (.iload_n 2, 1) := by decide +kernel
theorem dX5_plan_33 : decode cX5_plan 33 = .ok (.goto 11, 3) := by decide +kernel
theorem dX5_plan_36 : decode cX5_plan 36 = .ok (.aload_n 0, 1) := by decide +kernel
theorem dX5_plan_37 : decode cX5_plan 37 = .ok (.getfield 40, 3) := by decide +kernel
theorem dX5_plan_40 : decode cX5_plan 40 = .ok (.iload_n 2, 1) := by decide +kernel
theorem dX5_plan_41 : decode cX5_plan 41 = .ok (.invokevirtual 171, 3) := by decide +kernel
theorem dX5_plan_44 : decode cX5_plan 44 = .ok (.ireturn, 1) := by decide +kernel
set_option maxRecDepth 20000 in
theorem ggX5_lacks_X2_sets : GoodIn wsX5_lacks wsX2_sets := goodIn_r _ [6, 7, 32, 33, 34, 35, 36] (by decide +kernel) (by decide +kernel)
set_option maxRecDepth 20000 in
theorem gX5_lacks_X2_sets : GoodIn wsX5_lacks (wsV RX5 174 RX2 yX2_sets wsX2_sets) := goodIn_app (goodIn_of _ (by decide +kernel)) ggX5_lacks_X2_sets
set_option maxRecDepth 20000 in
theorem ggX5_lacks_X5_within : GoodIn wsX5_lacks wsX5_within := goodIn_r _ [11] (by decide +kernel) (by decide +kernel)
set_option maxRecDepth 20000 in
theorem gX5_lacks_X5_within : GoodIn wsX5_lacks (va_wsS RX5 48 yX5_within wsX5_within) := goodIn_app (goodIn_of _ (by decide +kernel)) ggX5_lacks_X5_within
set_option maxRecDepth 20000 in
theorem ggX5_lacks_X5_isPlanYear : GoodIn wsX5_lacks wsX5_isPlanYear := goodIn_r _ [14, 8, 9, 10, 11] (by decide +kernel) (by decide +kernel)
set_option maxRecDepth 20000 in
theorem gX5_lacks_X5_isPlanYear : GoodIn wsX5_lacks (va_wsS RX5 160 yX5_isPlanYear wsX5_isPlanYear) := goodIn_app (goodIn_of _ (by decide +kernel)) ggX5_lacks_X5_isPlanYear
set_option maxRecDepth 20000 in
theorem ggX5_lacks_X2_missing : GoodIn wsX5_lacks wsX2_missing := goodIn_r _ [18, 7, 19, 20, 21, 22, 23, 24, 25, 32, 33, 34, 35, 36] (by decide +kernel) (by decide +kernel)
set_option maxRecDepth 20000 in
theorem gX5_lacks_X2_missing : GoodIn wsX5_lacks (wsV RX5 177 RX2 yX2_missing wsX2_missing) := goodIn_app (goodIn_of _ (by decide +kernel)) ggX5_lacks_X2_missing
theorem dX5_lacks_0 : decode cX5_lacks 0 = .ok (.iload_n 1, 1) := by decide +kernel
theorem dX5_lacks_1 : decode cX5_lacks 1 = .ok (.iconst 0, 1) := by decide +kernel
theorem dX5_lacks_2 : decode cX5_lacks 2 = .ok (.aload_n 0, 1) := by decide +kernel
theorem dX5_lacks_3 : decode cX5_lacks 3 = .ok (.getfield 40, 3) := by decide +kernel
theorem dX5_lacks_6 : decode cX5_lacks 6 = .ok (.invokevirtual 174, 3) := by decide +kernel
theorem dX5_lacks_9 : decode cX5_lacks 9 = .ok (.iconst 1, 1) := by decide +kernel
theorem dX5_lacks_10 : decode cX5_lacks 10 = .ok (.isub, 1) := by decide +kernel
theorem dX5_lacks_11 : decode cX5_lacks 11 = .ok (.invokestatic 48, 3) := by decide +kernel
theorem dX5_lacks_14 : decode cX5_lacks 14 = .ok (.ifCond .eq 10, 3) := by decide +kernel
theorem dX5_lacks_17 : decode cX5_lacks 17 = .ok (.iload_n 2, 1) := by decide +kernel
theorem dX5_lacks_18 : decode cX5_lacks 18 = .ok (.invokestatic 160, 3) := by decide +kernel
theorem dX5_lacks_21 : decode cX5_lacks 21 = .ok (.ifCond .ne 5, 3) := by decide +kernel
theorem dX5_lacks_24 : decode cX5_lacks 24 = .ok (.iconst (-1), 1) := by decide +kernel
theorem dX5_lacks_25 : decode cX5_lacks 25 = .ok (.ireturn, 1) := by decide +kernel
theorem dX5_lacks_26 : decode cX5_lacks 26 = .ok (.aload_n 0, 1) := by decide +kernel
theorem dX5_lacks_27 : decode cX5_lacks 27 = .ok (.getfield 40, 3) := by decide +kernel
theorem dX5_lacks_30 : decode cX5_lacks 30 = .ok (.iload_n 1, 1) := by decide +kernel
theorem dX5_lacks_31 : decode cX5_lacks 31 = .ok (.iload_n 2, 1) := by decide +kernel
theorem dX5_lacks_32 : decode cX5_lacks 32 = .ok (.invokevirtual 177, 3) := by decide +kernel
theorem dX5_lacks_35 : decode cX5_lacks 35 = .ok (.ireturn, 1) := by decide +kernel
set_option maxRecDepth 20000 in
theorem ggX5_count_X5_trues : GoodIn wsX5_count wsX5_trues := goodIn_r _ [14] (by decide +kernel) (by decide +kernel)
set_option maxRecDepth 20000 in
theorem gX5_count_X5_trues : GoodIn wsX5_count (va_wsS RX5 180 yX5_trues wsX5_trues) := goodIn_app (goodIn_of _ (by decide +kernel)) ggX5_count_X5_trues
theorem dX5_count_0 : decode cX5_count 0 = .ok (.iload_n 1, 1) := by decide +kernel
theorem dX5_count_1 : decode cX5_count 1 = .ok (.tableswitch 107 0 5 #[39, 47, 55, 63, 71, 89], 39) := by decide +kernel
theorem dX5_count_40 : decode cX5_count 40 = .ok (.aload_n 0, 1) := by decide +kernel
theorem dX5_count_41 : decode cX5_count 41 = .ok (.getfield 10, 3) := by decide +kernel
theorem dX5_count_44 : decode cX5_count 44 = .ok (.getfield 52, 3) := by decide +kernel
theorem dX5_count_47 : decode cX5_count 47 = .ok (.ireturn, 1) := by decide +kernel
theorem dX5_count_48 : decode cX5_count 48 = .ok (.aload_n 0, 1) := by decide +kernel
theorem dX5_count_49 : decode cX5_count 49 = .ok (.getfield 19, 3) := by decide +kernel
theorem dX5_count_52 : decode cX5_count 52 = .ok (.getfield 95, 3) := by decide +kernel
theorem dX5_count_55 : decode cX5_count 55 = .ok (.ireturn, 1) := by decide +kernel
theorem dX5_count_56 : decode cX5_count 56 = .ok (.aload_n 0, 1) := by decide +kernel
theorem dX5_count_57 : decode cX5_count 57 = .ok (.getfield 40, 3) := by decide +kernel
theorem dX5_count_60 : decode cX5_count 60 = .ok (.getfield 163, 3) := by decide +kernel
theorem dX5_count_63 : decode cX5_count 63 = .ok (.ireturn, 1) := by decide +kernel
theorem dX5_count_64 : decode cX5_count 64 = .ok (.aload_n 0, 1) := by decide +kernel
theorem dX5_count_65 : decode cX5_count 65 = .ok (.getfield 33, 3) := by decide +kernel
theorem dX5_count_68 : decode cX5_count 68 = .ok (.getfield 153, 3) := by decide +kernel
theorem dX5_count_71 : decode cX5_count 71 = .ok (.ireturn, 1) := by decide +kernel
theorem dX5_count_72 : decode cX5_count 72 = .ok (.aload_n 0, 1) := by decide +kernel
theorem dX5_count_73 : decode cX5_count 73 = .ok (.getfield 10, 3) := by decide +kernel
theorem dX5_count_76 : decode cX5_count 76 = .ok (.getfield 68, 3) := by decide +kernel
theorem dX5_count_79 : decode cX5_count 79 = .ok (.aload_n 0, 1) := by decide +kernel
theorem dX5_count_80 : decode cX5_count 80 = .ok (.getfield 10, 3) := by decide +kernel
theorem dX5_count_83 : decode cX5_count 83 = .ok (.getfield 52, 3) := by decide +kernel
theorem dX5_count_86 : decode cX5_count 86 = .ok (.invokestatic 180, 3) := by decide +kernel
theorem dX5_count_89 : decode cX5_count 89 = .ok (.ireturn, 1) := by decide +kernel
theorem dX5_count_90 : decode cX5_count 90 = .ok (.aload_n 0, 1) := by decide +kernel
theorem dX5_count_91 : decode cX5_count 91 = .ok (.getfield 19, 3) := by decide +kernel
theorem dX5_count_94 : decode cX5_count 94 = .ok (.getfield 99, 3) := by decide +kernel
theorem dX5_count_97 : decode cX5_count 97 = .ok (.aload_n 0, 1) := by decide +kernel
theorem dX5_count_98 : decode cX5_count 98 = .ok (.getfield 19, 3) := by decide +kernel
theorem dX5_count_101 : decode cX5_count 101 = .ok (.getfield 95, 3) := by decide +kernel
theorem dX5_count_104 : decode cX5_count 104 = .ok (.invokestatic 180, 3) := by decide +kernel
theorem dX5_count_107 : decode cX5_count 107 = .ok (.ireturn, 1) := by decide +kernel
theorem dX5_count_108 : decode cX5_count 108 = .ok (.iconst (-1), 1) := by decide +kernel
theorem dX5_count_109 : decode cX5_count 109 = .ok (.ireturn, 1) := by decide +kernel
theorem dX5_trace_0 : decode cX5_trace 0 = .ok (.aload_n 0, 1) := by decide +kernel
theorem dX5_trace_1 : decode cX5_trace 1 = .ok (.getfield 44, 3) := by decide +kernel
theorem dX5_trace_4 : decode cX5_trace 4 = .ok (.lreturn, 1) := by decide +kernel
theorem dX5_within_0 : decode cX5_within 0 = .ok (.iload_n 0, 1) := by decide +kernel
theorem dX5_within_1 : decode cX5_within 1 = .ok (.iload_n 1, 1) := by decide +kernel
theorem dX5_within_2 : decode cX5_within 2 = .ok (.if_icmp .lt 12, 3) := by decide +kernel
theorem dX5_within_5 : decode cX5_within 5 = .ok (.iload_n 0, 1) := by decide +kernel
theorem dX5_within_6 : decode cX5_within 6 = .ok (.iload_n 2, 1) := by decide +kernel
theorem dX5_within_7 : decode cX5_within 7 = .ok (.if_icmp .gt 7, 3) := by decide +kernel
theorem dX5_within_10 : decode cX5_within 10 = .ok (.iconst 1, 1) := by decide +kernel
theorem dX5_within_11 : decode cX5_within 11 = .ok (.goto 4, 3) := by decide +kernel
theorem dX5_within_14 : decode cX5_within 14 = .ok (.iconst 0, 1) := by decide +kernel
theorem dX5_within_15 : decode cX5_within 15 = .ok (.ireturn, 1) := by decide +kernel
set_option maxRecDepth 20000 in
theorem ggX5_isPressure_X5_within : GoodIn wsX5_isPressure wsX5_within := goodIn_r _ [4] (by decide +kernel) (by decide +kernel)
set_option maxRecDepth 20000 in
theorem gX5_isPressure_X5_within : GoodIn wsX5_isPressure (va_wsS RX5 48 yX5_within wsX5_within) := goodIn_app (goodIn_of _ (by decide +kernel)) ggX5_isPressure_X5_within
theorem dX5_isPressure_0 : decode cX5_isPressure 0 = .ok (.iload_n 0, 1) := by decide +kernel
theorem dX5_isPressure_1 : decode cX5_isPressure 1 = .ok (.iconst 0, 1) := by decide +kernel
theorem dX5_isPressure_2 : decode cX5_isPressure 2 = .ok (.bipush 20, 2) := by decide +kernel
theorem dX5_isPressure_4 : decode cX5_isPressure 4 = .ok (.invokestatic 48, 3) := by decide +kernel
theorem dX5_isPressure_7 : decode cX5_isPressure 7 = .ok (.ireturn, 1) := by decide +kernel
set_option maxRecDepth 20000 in
theorem ggX5_isBox_X5_within : GoodIn wsX5_isBox wsX5_within := goodIn_r _ [4] (by decide +kernel) (by decide +kernel)
set_option maxRecDepth 20000 in
theorem gX5_isBox_X5_within : GoodIn wsX5_isBox (va_wsS RX5 48 yX5_within wsX5_within) := goodIn_app (goodIn_of _ (by decide +kernel)) ggX5_isBox_X5_within
theorem dX5_isBox_0 : decode cX5_isBox 0 = .ok (.iload_n 0, 1) := by decide +kernel
theorem dX5_isBox_1 : decode cX5_isBox 1 = .ok (.iconst 0, 1) := by decide +kernel
theorem dX5_isBox_2 : decode cX5_isBox 2 = .ok (.iconst 3, 1) := by decide +kernel
theorem dX5_isBox_3 : decode cX5_isBox 3 = .ok (.invokestatic 48, 3) := by decide +kernel
theorem dX5_isBox_6 : decode cX5_isBox 6 = .ok (.ireturn, 1) := by decide +kernel
set_option maxRecDepth 20000 in
theorem ggX5_isPlanYear_X5_within : GoodIn wsX5_isPlanYear wsX5_within := goodIn_r _ [4] (by decide +kernel) (by decide +kernel)
set_option maxRecDepth 20000 in
theorem gX5_isPlanYear_X5_within : GoodIn wsX5_isPlanYear (va_wsS RX5 48 yX5_within wsX5_within) := goodIn_app (goodIn_of _ (by decide +kernel)) ggX5_isPlanYear_X5_within
theorem dX5_isPlanYear_0 : decode cX5_isPlanYear 0 = .ok (.iload_n 0, 1) := by decide +kernel
theorem dX5_isPlanYear_1 : decode cX5_isPlanYear 1 = .ok (.iconst 0, 1) := by decide +kernel
theorem dX5_isPlanYear_2 : decode cX5_isPlanYear 2 = .ok (.iconst 5, 1) := by decide +kernel
theorem dX5_isPlanYear_3 : decode cX5_isPlanYear 3 = .ok (.invokestatic 48, 3) := by decide +kernel
theorem dX5_isPlanYear_6 : decode cX5_isPlanYear 6 = .ok (.ireturn, 1) := by decide +kernel
set_option maxRecDepth 20000 in
theorem ggX5_isWell_X5_within : GoodIn wsX5_isWell wsX5_within := goodIn_r _ [6] (by decide +kernel) (by decide +kernel)
set_option maxRecDepth 20000 in
theorem gX5_isWell_X5_within : GoodIn wsX5_isWell (va_wsS RX5 48 yX5_within wsX5_within) := goodIn_app (goodIn_of _ (by decide +kernel)) ggX5_isWell_X5_within
theorem dX5_isWell_0 : decode cX5_isWell 0 = .ok (.iload_n 1, 1) := by decide +kernel
theorem dX5_isWell_1 : decode cX5_isWell 1 = .ok (.iconst 0, 1) := by decide +kernel
theorem dX5_isWell_2 : decode cX5_isWell 2 = .ok (.aload_n 0, 1) := by decide +kernel
theorem dX5_isWell_3 : decode cX5_isWell 3 = .ok (.getfield 10, 3) := by decide +kernel
theorem dX5_isWell_6 : decode cX5_isWell 6 = .ok (.getfield 52, 3) := by decide +kernel
theorem dX5_isWell_9 : decode cX5_isWell 9 = .ok (.iconst 1, 1) := by decide +kernel
theorem dX5_isWell_10 : decode cX5_isWell 10 = .ok (.isub, 1) := by decide +kernel
theorem dX5_isWell_11 : decode cX5_isWell 11 = .ok (.invokestatic 48, 3) := by decide +kernel
theorem dX5_isWell_14 : decode cX5_isWell 14 = .ok (.ireturn, 1) := by decide +kernel
theorem dX5_trues_0 : decode cX5_trues 0 = .ok (.iconst 0, 1) := by decide +kernel
theorem dX5_trues_1 : decode cX5_trues 1 = .ok (.istore_n 2, 1) := by decide +kernel
theorem dX5_trues_2 : decode cX5_trues 2 = .ok (.iconst 0, 1) := by decide +kernel
theorem dX5_trues_3 : decode cX5_trues 3 = .ok (.istore_n 3, 1) := by decide +kernel
theorem dX5_trues_4 : decode cX5_trues 4 = .ok (.iload_n 3, 1) := by decide +kernel
theorem dX5_trues_5 : decode cX5_trues 5 = .ok (.iload_n 1, 1) := by decide +kernel
theorem dX5_trues_6 : decode cX5_trues 6 = .ok (.if_icmp .ge 18, 3) := by decide +kernel
theorem dX5_trues_9 : decode cX5_trues 9 = .ok (.aload_n 0, 1) := by decide +kernel
theorem dX5_trues_10 : decode cX5_trues 10 = .ok (.iload_n 3, 1) := by decide +kernel
theorem dX5_trues_11 : decode cX5_trues 11 = .ok (.baload, 1) := by decide +kernel
theorem dX5_trues_12 : decode cX5_trues 12 = .ok (.ifCond .eq 6, 3) := by decide +kernel
theorem dX5_trues_15 : decode cX5_trues 15 = .ok (.iinc 2 1, 3) := by decide +kernel
theorem dX5_trues_18 : decode cX5_trues 18 = .ok (.iinc 3 1, 3) := by decide +kernel
theorem dX5_trues_21 : decode cX5_trues 21 = .ok (.goto (-17), 3) := by decide +kernel
theorem dX5_trues_24 : decode cX5_trues 24 = .ok (.iload_n 2, 1) := by decide +kernel
theorem dX5_trues_25 : decode cX5_trues 25 = .ok (.ireturn, 1) := by decide +kernel
set_option maxRecDepth 20000 in
theorem ggX5_setLeak_X5_within : GoodIn wsX5_setLeak wsX5_within := goodIn_r _ [6] (by decide +kernel) (by decide +kernel)
set_option maxRecDepth 20000 in
theorem gX5_setLeak_X5_within : GoodIn wsX5_setLeak (va_wsS RX5 48 yX5_within wsX5_within) := goodIn_app (goodIn_of _ (by decide +kernel)) ggX5_setLeak_X5_within
theorem dX5_setLeak_0 : decode cX5_setLeak 0 = .ok (.iload_n 1, 1) := by decide +kernel
theorem dX5_setLeak_1 : decode cX5_setLeak 1 = .ok (.iconst 0, 1) := by decide +kernel
theorem dX5_setLeak_2 : decode cX5_setLeak 2 = .ok (.iconst 2, 1) := by decide +kernel
theorem dX5_setLeak_3 : decode cX5_setLeak 3 = .ok (.invokestatic 48, 3) := by decide +kernel
theorem dX5_setLeak_6 : decode cX5_setLeak 6 = .ok (.ifCond .eq 14, 3) := by decide +kernel
theorem dX5_setLeak_9 : decode cX5_setLeak 9 = .ok (.iload_n 2, 1) := by decide +kernel
theorem dX5_setLeak_10 : decode cX5_setLeak 10 = .ok (.iconst 2, 1) := by decide +kernel
theorem dX5_setLeak_11 : decode cX5_setLeak 11 = .ok (.sipush 1000, 3) := by decide +kernel
theorem dX5_setLeak_14 : decode cX5_setLeak 14 = .ok (.invokestatic 48, 3) := by decide +kernel
theorem dX5_setLeak_17 : decode cX5_setLeak 17 = .ok (.ifCond .ne 5, 3) := by decide +kernel
theorem dX5_setLeak_20 : decode cX5_setLeak 20 = .ok (.iconst (-1), 1) := by decide +kernel
theorem dX5_setLeak_21 : decode cX5_setLeak 21 = .ok (.ireturn, 1) := by decide +kernel
theorem dX5_setLeak_22 : decode cX5_setLeak 22 = .ok (.aload_n 0, 1) := by decide +kernel
theorem dX5_setLeak_23 : decode cX5_setLeak 23 = .ok (.getfield 26, 3) := by decide +kernel
theorem dX5_setLeak_26 : decode cX5_setLeak 26 = .ok (.getfield 184, 3) := by decide +kernel
theorem dX5_setLeak_29 : decode cX5_setLeak 29 = .ok (.iload_n 1, 1) := by decide +kernel
theorem dX5_setLeak_30 : decode cX5_setLeak 30 = .ok (.iaload, 1) := by decide +kernel
theorem dX5_setLeak_31 : decode cX5_setLeak 31 = .ok (.istore_n 3, 1) := by decide +kernel
theorem dX5_setLeak_32 : decode cX5_setLeak 32 = .ok (.aload_n 0, 1) := by decide +kernel
theorem dX5_setLeak_33 : decode cX5_setLeak 33 = .ok (.getfield 26, 3) := by decide +kernel
theorem dX5_setLeak_36 : decode cX5_setLeak 36 = .ok (.getfield 184, 3) := by decide +kernel
theorem dX5_setLeak_39 : decode cX5_setLeak 39 = .ok (.iload_n 1, 1) := by decide +kernel
theorem dX5_setLeak_40 : decode cX5_setLeak 40 = .ok (.iload_n 2, 1) := by decide +kernel
theorem dX5_setLeak_41 : decode cX5_setLeak 41 = .ok (.iastore, 1) := by decide +kernel
theorem dX5_setLeak_42 : decode cX5_setLeak 42 = .ok (.iload_n 3, 1) := by decide +kernel
theorem dX5_setLeak_43 : decode cX5_setLeak 43 = .ok (.ireturn, 1) := by decide +kernel
set_option maxRecDepth 20000 in
theorem ggX5_setFeed_X5_isBox : GoodIn wsX5_setFeed wsX5_isBox := goodIn_r _ [6, 7, 8, 5, 9] (by decide +kernel) (by decide +kernel)
set_option maxRecDepth 20000 in
theorem gX5_setFeed_X5_isBox : GoodIn wsX5_setFeed (va_wsS RX5 115 yX5_isBox wsX5_isBox) := goodIn_app (goodIn_of _ (by decide +kernel)) ggX5_setFeed_X5_isBox
set_option maxRecDepth 20000 in
theorem ggX5_setFeed_X5_within : GoodIn wsX5_setFeed wsX5_within := goodIn_r _ [9] (by decide +kernel) (by decide +kernel)
set_option maxRecDepth 20000 in
theorem gX5_setFeed_X5_within : GoodIn wsX5_setFeed (va_wsS RX5 48 yX5_within wsX5_within) := goodIn_app (goodIn_of _ (by decide +kernel)) ggX5_setFeed_X5_within
theorem dX5_setFeed_0 : decode cX5_setFeed 0 = .ok (.iload_n 1, 1) := by decide +kernel
theorem dX5_setFeed_1 : decode cX5_setFeed 1 = .ok (.invokestatic 115, 3) := by decide +kernel
theorem dX5_setFeed_4 : decode cX5_setFeed 4 = .ok (.ifCond .eq 14, 3) := by decide +kernel
theorem dX5_setFeed_7 : decode cX5_setFeed 7 = .ok (.iload_n 2, 1) := by decide +kernel
theorem dX5_setFeed_8 : decode cX5_setFeed 8 = .ok (.iconst 0, 1) := by decide +kernel
theorem dX5_setFeed_9 : decode cX5_setFeed 9 = .ok (.sipush 1000, 3) := by decide +kernel
theorem dX5_setFeed_12 : decode cX5_setFeed 12 = .ok (.invokestatic 48, 3) := by decide +kernel
theorem dX5_setFeed_15 : decode cX5_setFeed 15 = .ok (.ifCond .ne 5, 3) := by decide +kernel
theorem dX5_setFeed_18 : decode cX5_setFeed 18 = .ok (.iconst (-1), 1) := by decide +kernel
theorem dX5_setFeed_19 : decode cX5_setFeed 19 = .ok (.ireturn, 1) := by decide +kernel
theorem dX5_setFeed_20 : decode cX5_setFeed 20 = .ok (.aload_n 0, 1) := by decide +kernel
theorem dX5_setFeed_21 : decode cX5_setFeed 21 = .ok (.getfield 26, 3) := by decide +kernel
theorem dX5_setFeed_24 : decode cX5_setFeed 24 = .ok (.getfield 187, 3) := by decide +kernel
theorem dX5_setFeed_27 : decode cX5_setFeed 27 = .ok (.iload_n 1, 1) := by decide +kernel
theorem dX5_setFeed_28 : decode cX5_setFeed 28 = .ok (.iaload, 1) := by decide +kernel
theorem dX5_setFeed_29 : decode cX5_setFeed 29 = .ok (.istore_n 3, 1) := by decide +kernel
theorem dX5_setFeed_30 : decode cX5_setFeed 30 = .ok (.aload_n 0, 1) := by decide +kernel
theorem dX5_setFeed_31 : decode cX5_setFeed 31 = .ok (.getfield 26, 3) := by decide +kernel
theorem dX5_setFeed_34 : decode cX5_setFeed 34 = .ok (.getfield 187, 3) := by decide +kernel
theorem dX5_setFeed_37 : decode cX5_setFeed 37 = .ok (.iload_n 1, 1) := by decide +kernel
theorem dX5_setFeed_38 : decode cX5_setFeed 38 = .ok (.iload_n 2, 1) := by decide +kernel
theorem dX5_setFeed_39 : decode cX5_setFeed 39 = .ok (.iastore, 1) := by decide +kernel
theorem dX5_setFeed_40 : decode cX5_setFeed 40 = .ok (.iload_n 3, 1) := by decide +kernel
theorem dX5_setFeed_41 : decode cX5_setFeed 41 = .ok (.ireturn, 1) := by decide +kernel
set_option maxRecDepth 20000 in
theorem ggX5_setGivenShare_X5_within : GoodIn wsX5_setGivenShare wsX5_within := goodIn_r _ [6] (by decide +kernel) (by decide +kernel)
set_option maxRecDepth 20000 in
theorem gX5_setGivenShare_X5_within : GoodIn wsX5_setGivenShare (va_wsS RX5 48 yX5_within wsX5_within) := goodIn_app (goodIn_of _ (by decide +kernel)) ggX5_setGivenShare_X5_within
theorem dX5_setGivenShare_0 : decode cX5_setGivenShare 0 = .ok (.iload_n 1, 1) := by decide +kernel
theorem dX5_setGivenShare_1 : decode cX5_setGivenShare 1 = .ok (.iconst 0, 1) := by decide +kernel
theorem dX5_setGivenShare_2 : decode cX5_setGivenShare 2 = .ok (.sipush 1000, 3) := by decide +kernel
theorem dX5_setGivenShare_5 : decode cX5_setGivenShare 5 = .ok (.invokestatic 48, 3) := by decide +kernel
theorem dX5_setGivenShare_8 : decode cX5_setGivenShare 8 = .ok (.ifCond .ne 5, 3) := by decide +kernel
theorem dX5_setGivenShare_11 : decode cX5_setGivenShare 11 = .ok (.iconst (-1), 1) := by decide +kernel
theorem dX5_setGivenShare_12 : decode cX5_setGivenShare 12 = .ok (.ireturn, 1) := by decide +kernel
theorem dX5_setGivenShare_13 : decode cX5_setGivenShare 13 = .ok (.aload_n 0, 1) := by decide +kernel
theorem dX5_setGivenShare_14 : decode cX5_setGivenShare 14 = .ok (.getfield 26, 3) := by decide +kernel
theorem dX5_setGivenShare_17 : decode cX5_setGivenShare 17 = .ok (.getfield 190, 3) := by decide +kernel
theorem dX5_setGivenShare_20 : decode cX5_setGivenShare 20 = .ok (.istore_n 2, 1) := by decide +kernel
theorem dX5_setGivenShare_21 : decode cX5_setGivenShare 21 = .ok (.aload_n 0, 1) := by decide +kernel
theorem dX5_setGivenShare_22 : decode cX5_setGivenShare 22 = .ok (.getfield 26, 3) := by decide +kernel
theorem dX5_setGivenShare_25 : decode cX5_setGivenShare 25 = .ok (.iload_n 1, 1) := by decide +kernel
theorem dX5_setGivenShare_26 : decode cX5_setGivenShare 26 = .ok (.putfield 190, 3) := by decide +kernel
theorem dX5_setGivenShare_29 : decode cX5_setGivenShare 29 = .ok (.iload_n 2, 1) := by decide +kernel
theorem dX5_setGivenShare_30 : decode cX5_setGivenShare 30 = .ok (.ireturn, 1) := by decide +kernel
set_option maxRecDepth 20000 in
theorem ggX5_setGivenBox_X5_isBox : GoodIn wsX5_setGivenBox wsX5_isBox := goodIn_r _ [6, 7, 8, 5, 9] (by decide +kernel) (by decide +kernel)
set_option maxRecDepth 20000 in
theorem gX5_setGivenBox_X5_isBox : GoodIn wsX5_setGivenBox (va_wsS RX5 115 yX5_isBox wsX5_isBox) := goodIn_app (goodIn_of _ (by decide +kernel)) ggX5_setGivenBox_X5_isBox
theorem dX5_setGivenBox_0 : decode cX5_setGivenBox 0 = .ok (.iload_n 1, 1) := by decide +kernel
theorem dX5_setGivenBox_1 : decode cX5_setGivenBox 1 = .ok (.invokestatic 115, 3) := by decide +kernel
theorem dX5_setGivenBox_4 : decode cX5_setGivenBox 4 = .ok (.ifCond .ne 5, 3) := by decide +kernel
theorem dX5_setGivenBox_7 : decode cX5_setGivenBox 7 = .ok (.iconst (-1), 1) := by decide +kernel
theorem dX5_setGivenBox_8 : decode cX5_setGivenBox 8 = .ok (.ireturn, 1) := by decide +kernel
theorem dX5_setGivenBox_9 : decode cX5_setGivenBox 9 = .ok (.aload_n 0, 1) := by decide +kernel
theorem dX5_setGivenBox_10 : decode cX5_setGivenBox 10 = .ok (.getfield 26, 3) := by decide +kernel
theorem dX5_setGivenBox_13 : decode cX5_setGivenBox 13 = .ok (.getfield 193, 3) := by decide +kernel
theorem dX5_setGivenBox_16 : decode cX5_setGivenBox 16 = .ok (.istore_n 2, 1) := by decide +kernel
theorem dX5_setGivenBox_17 : decode cX5_setGivenBox 17 = .ok (.aload_n 0, 1) := by decide +kernel
theorem dX5_setGivenBox_18 : decode cX5_setGivenBox 18 = .ok (.getfield 26, 3) := by decide +kernel
theorem dX5_setGivenBox_21 : decode cX5_setGivenBox 21 = .ok (.iload_n 1, 1) := by decide +kernel
theorem dX5_setGivenBox_22 : decode cX5_setGivenBox 22 = .ok (.putfield 193, 3) := by decide +kernel
theorem dX5_setGivenBox_25 : decode cX5_setGivenBox 25 = .ok (.iload_n 2, 1) := by decide +kernel
theorem dX5_setGivenBox_26 : decode cX5_setGivenBox 26 = .ok (.ireturn, 1) := by decide +kernel
set_option maxRecDepth 20000 in
theorem ggX5_meeting_X4_supply : GoodIn wsX5_meeting wsX4_supply := goodIn_r _ [7, 8, 9, 10, 11, 12, 6, 13, 14, 15, 16, 17, 18, 19, 20, 21, 22, 23, 24, 25, 26, 27, 28, 29, 30, 31, 32, 33, 51, 52, 53, 54, 55, 56] (by decide +kernel) (by decide +kernel)
set_option maxRecDepth 20000 in
theorem gX5_meeting_X4_supply : GoodIn wsX5_meeting (wsV RX5 102 RX4 yX4_supply wsX4_supply) := goodIn_app (goodIn_of _ (by decide +kernel)) ggX5_meeting_X4_supply
set_option maxRecDepth 20000 in
theorem ggX5_meeting_X3_draw : GoodIn wsX5_meeting wsX3_draw := goodIn_r _ [38, 39, 40, 41, 42, 43, 44, 28, 29, 30, 57, 58, 59, 60, 61] (by decide +kernel) (by decide +kernel)
set_option maxRecDepth 20000 in
theorem gX5_meeting_X3_draw : GoodIn wsX5_meeting (wsV RX5 105 RX3 yX3_draw wsX3_draw) := goodIn_app (goodIn_of _ (by decide +kernel)) ggX5_meeting_X3_draw
theorem dX5_meeting_0 : decode cX5_meeting 0 = .ok (.bipush 20, 2) := by decide +kernel
theorem dX5_meeting_2 : decode cX5_meeting 2 = .ok (.istore_n 1, 1) := by decide +kernel
theorem dX5_meeting_3 : decode cX5_meeting 3 = .ok (.iload_n 1, 1) := by decide +kernel
theorem dX5_meeting_4 : decode cX5_meeting 4 = .ok (.ifCond .lt 30, 3) := by decide +kernel
theorem dX5_meeting_7 : decode cX5_meeting 7 = .ok (.aload_n 0, 1) := by decide +kernel
theorem dX5_meeting_8 : decode cX5_meeting 8 = .ok (.getfield 10, 3) := by decide +kernel
theorem dX5_meeting_11 : decode cX5_meeting 11 = .ok (.iload_n 1, 1) := by decide +kernel
theorem dX5_meeting_12 : decode cX5_meeting 12 = .ok (.invokevirtual 102, 3) := by decide +kernel
theorem dX5_meeting_15 : decode cX5_meeting 15 = .ok (.aload_n 0, 1) := by decide +kernel
theorem dX5_meeting_16 : decode cX5_meeting 16 = .ok (.getfield 19, 3) := by decide +kernel
theorem dX5_meeting_19 : decode cX5_meeting 19 = .ok (.iload_n 1, 1) := by decide +kernel
theorem dX5_meeting_20 : decode cX5_meeting 20 = .ok (.invokevirtual 105, 3) := by decide +kernel
theorem dX5_meeting_23 : decode cX5_meeting 23 = .ok (.if_icmp .lt 5, 3) := by decide +kernel
theorem dX5_meeting_26 : decode cX5_meeting 26 = .ok (.iload_n 1, 1) := by decide +kernel
theorem dX5_meeting_27 : decode cX5_meeting 27 = .ok (.ireturn, 1) := by decide +kernel
theorem dX5_meeting_28 : decode cX5_meeting 28 = .ok (.iinc 1 (-1), 3) := by decide +kernel
theorem dX5_meeting_31 : decode cX5_meeting 31 = .ok (.goto (-28), 3) := by decide +kernel
theorem dX5_meeting_34 : decode cX5_meeting 34 = .ok (.bipush (-9), 2) := by decide +kernel
theorem dX5_meeting_36 : decode cX5_meeting 36 = .ok (.ireturn, 1) := by decide +kernel
set_option maxRecDepth 20000 in
theorem ggX5_passYear_X5_meeting : GoodIn wsX5_passYear wsX5_meeting := goodIn_r _ [9, 4, 3, 10, 11, 12, 13, 14, 15, 16, 17, 18, 19, 20, 21, 22, 23, 24, 25, 26, 27, 28, 29, 30, 31, 32, 33, 34, 35, 36, 37, 38, 39, 40, 41, 42, 43, 44, 45, 46, 47, 48, 49, 50, 51, 106, 107, 108, 109, 110, 111, 119, 120, 121, 122, 123, 124, 125, 126, 127, 128, 129] (by decide +kernel) (by decide +kernel)
set_option maxRecDepth 20000 in
theorem gX5_passYear_X5_meeting : GoodIn wsX5_passYear (wsV RX5 111 RX5 yX5_meeting wsX5_meeting) := goodIn_app (goodIn_of _ (by decide +kernel)) ggX5_passYear_X5_meeting
set_option maxRecDepth 20000 in
theorem ggX5_passYear_X3_draw : GoodIn wsX5_passYear wsX3_draw := goodIn_r _ [45, 46, 47, 48, 49, 50, 51, 35, 36, 37, 125, 126, 127, 128, 129] (by decide +kernel) (by decide +kernel)
set_option maxRecDepth 20000 in
theorem gX5_passYear_X3_draw : GoodIn wsX5_passYear (wsV RX5 105 RX3 yX3_draw wsX3_draw) := goodIn_app (goodIn_of _ (by decide +kernel)) ggX5_passYear_X3_draw
set_option maxRecDepth 20000 in
theorem ggX5_passYear_X5_takeAll : GoodIn wsX5_passYear wsX5_takeAll := goodIn_r _ [55, 4, 56, 57, 1, 58, 59, 18, 19, 13, 20, 21, 22, 23, 24, 25, 26, 27, 28, 29, 30, 31, 32, 33, 34, 35, 36, 37, 60, 61, 62, 63, 64, 65, 66, 67, 68, 69, 70, 71, 72, 73, 74, 75, 76, 77, 78, 106, 107, 108, 109, 110, 111, 119, 120, 121, 122, 123, 124, 112, 113, 114, 115, 116, 117, 118] (by decide +kernel) (by decide +kernel)
set_option maxRecDepth 20000 in
theorem gX5_passYear_X5_takeAll : GoodIn wsX5_passYear (wsV RX5 196 RX5 yX5_takeAll wsX5_takeAll) := goodIn_app (goodIn_of _ (by decide +kernel)) ggX5_passYear_X5_takeAll
set_option maxRecDepth 20000 in
theorem ggX5_passYear_X0_giveBack : GoodIn wsX5_passYear wsX0_giveBack := goodIn_r _ [82, 83, 84, 85, 86, 87, 88, 89, 63, 90, 65, 69, 74, 75, 76, 77, 78, 112, 113, 114, 115, 116, 117, 118] (by decide +kernel) (by decide +kernel)
set_option maxRecDepth 20000 in
theorem gX5_passYear_X0_giveBack : GoodIn wsX5_passYear (wsV RX5 200 RX0 yX0_giveBack wsX0_giveBack) := goodIn_app (goodIn_of _ (by decide +kernel)) ggX5_passYear_X0_giveBack
set_option maxRecDepth 20000 in
theorem ggX5_passYear_X0_leakAll : GoodIn wsX5_passYear wsX0_leakAll := goodIn_r _ [94, 65, 95, 70, 71, 72, 63, 73, 69, 87, 88, 89, 90, 112, 113, 114, 115, 116, 117, 118] (by decide +kernel) (by decide +kernel)
set_option maxRecDepth 20000 in
theorem gX5_passYear_X0_leakAll : GoodIn wsX5_passYear (wsV RX5 204 RX0 yX0_leakAll wsX0_leakAll) := goodIn_app (goodIn_of _ (by decide +kernel)) ggX5_passYear_X0_leakAll
set_option maxRecDepth 20000 in
theorem ggX5_passYear_X0_feedAll : GoodIn wsX5_passYear wsX0_feedAll := goodIn_r _ [99, 100, 101, 87, 88, 89, 63, 90, 65, 69, 74, 75, 76, 77, 78, 112, 113, 114, 115, 116, 117, 118] (by decide +kernel) (by decide +kernel)
set_option maxRecDepth 20000 in
theorem gX5_passYear_X0_feedAll : GoodIn wsX5_passYear (wsV RX5 207 RX0 yX0_feedAll wsX0_feedAll) := goodIn_app (goodIn_of _ (by decide +kernel)) ggX5_passYear_X0_feedAll
set_option maxRecDepth 20000 in
theorem ggX5_passYear_X4_grow : GoodIn wsX5_passYear wsX4_grow := goodIn_r _ [105, 15, 16, 22, 119, 120, 121, 122, 123, 124] (by decide +kernel) (by decide +kernel)
set_option maxRecDepth 20000 in
theorem gX5_passYear_X4_grow : GoodIn wsX5_passYear (wsV RX5 210 RX4 yX4_grow wsX4_grow) := goodIn_app (goodIn_of _ (by decide +kernel)) ggX5_passYear_X4_grow
theorem dX5_passYear_0 : decode cX5_passYear 0 = .ok (.aload_n 0, 1) := by decide +kernel
theorem dX5_passYear_1 : decode cX5_passYear 1 = .ok (.invokevirtual 111, 3) := by decide +kernel
theorem dX5_passYear_4 : decode cX5_passYear 4 = .ok (.istore_n 1, 1) := by decide +kernel
theorem dX5_passYear_5 : decode cX5_passYear 5 = .ok (.iload_n 1, 1) := by decide +kernel
theorem dX5_passYear_6 : decode cX5_passYear 6 = .ok (.bipush (-9), 2) := by decide +kernel
theorem dX5_passYear_8 : decode cX5_passYear 8 = .ok (.if_icmp .ne 20, 3) := by decide +kernel
theorem dX5_passYear_11 : decode cX5_passYear 11 = .ok (.aload_n 0, 1) := by decide +kernel
theorem dX5_passYear_12 : decode cX5_passYear 12 = .ok (.getfield 26, 3) := by decide +kernel
theorem dX5_passYear_15 : decode cX5_passYear 15 = .ok (.getfield 141, 3) := by decide +kernel
theorem dX5_passYear_18 : decode cX5_passYear 18 = .ok (.bipush 8, 2) := by decide +kernel
theorem dX5_passYear_20 : decode cX5_passYear 20 = .ok (.dup2, 1) := by decide +kernel
theorem dX5_passYear_21 : decode cX5_passYear 21 = .ok (.laload, 1) := by decide +kernel
theorem dX5_passYear_22 : decode cX5_passYear 22 = .ok (.lconst 1, 1) := by decide +kernel
theorem dX5_passYear_23 : decode cX5_passYear 23 = .ok (.ladd, 1) := by decide +kernel
theorem dX5_passYear_24 : decode cX5_passYear 24 = .ok (.lastore, 1) := by decide +kernel
theorem dX5_passYear_25 : decode cX5_passYear 25 = .ok (.goto 37, 3) := by decide +kernel
theorem dX5_passYear_28 : decode cX5_passYear 28 = .ok (.aload_n 0, 1) := by decide +kernel
theorem dX5_passYear_29 : decode cX5_passYear 29 = .ok (.getfield 26, 3) := by decide +kernel
theorem dX5_passYear_32 : decode cX5_passYear 32 = .ok (.getfield 141, 3) := by decide +kernel
theorem dX5_passYear_35 : decode cX5_passYear 35 = .ok (.bipush 6, 2) := by decide +kernel
theorem dX5_passYear_37 : decode cX5_passYear 37 = .ok (.dup2, 1) := by decide +kernel
theorem dX5_passYear_38 : decode cX5_passYear 38 = .ok (.laload, 1) := by decide +kernel
theorem dX5_passYear_39 : decode cX5_passYear 39 = .ok (.aload_n 0, 1) := by decide +kernel
theorem dX5_passYear_40 : decode cX5_passYear 40 = .ok (.getfield 19, 3) := by decide +kernel
theorem dX5_passYear_43 : decode cX5_passYear 43 = .ok (.iload_n 1, 1) := by decide +kernel
theorem dX5_passYear_44 : decode cX5_passYear 44 = .ok (.invokevirtual 105, 3) := by decide +kernel
theorem dX5_passYear_47 : decode cX5_passYear 47 = .ok (.i2l, 1) := by decide +kernel
theorem dX5_passYear_48 : decode cX5_passYear 48 = .ok (.ladd, 1) := by decide +kernel
theorem dX5_passYear_49 : decode cX5_passYear 49 = .ok (.lastore, 1) := by decide +kernel
theorem dX5_passYear_50 : decode cX5_passYear 50 = .ok (.aload_n 0, 1) := by decide +kernel
theorem dX5_passYear_51 : decode cX5_passYear 51 = .ok (.getfield 26, 3) := by decide +kernel
theorem dX5_passYear_54 : decode cX5_passYear 54 = .ok (.aload_n 0, 1) := by decide +kernel
theorem dX5_passYear_55 : decode cX5_passYear 55 = .ok (.iload_n 1, 1) := by decide +kernel
theorem dX5_passYear_56 : decode cX5_passYear 56 = .ok (.invokevirtual 196, 3) := by decide +kernel
theorem dX5_passYear_59 : decode cX5_passYear 59 = .ok (.invokevirtual 200, 3) := by decide +kernel
theorem dX5_passYear_62 : decode cX5_passYear 62 = .ok (.aload_n 0, 1) := by decide +kernel
theorem dX5_passYear_63 : decode cX5_passYear 63 = .ok (.getfield 26, 3) := by decide +kernel
theorem dX5_passYear_66 : decode cX5_passYear 66 = .ok (.invokevirtual 204, 3) := by decide +kernel
theorem dX5_passYear_69 : decode cX5_passYear 69 = .ok (.aload_n 0, 1) := by decide +kernel
theorem dX5_passYear_70 : decode cX5_passYear 70 = .ok (.getfield 26, 3) := by decide +kernel
theorem dX5_passYear_73 : decode cX5_passYear 73 = .ok (.invokevirtual 207, 3) := by decide +kernel
theorem dX5_passYear_76 : decode cX5_passYear 76 = .ok (.aload_n 0, 1) := by decide +kernel
theorem dX5_passYear_77 : decode cX5_passYear 77 = .ok (.getfield 10, 3) := by decide +kernel
theorem dX5_passYear_80 : decode cX5_passYear 80 = .ok (.invokevirtual 210, 3) := by decide +kernel
theorem dX5_passYear_83 : decode cX5_passYear 83 = .ok (.aload_n 0, 1) := by decide +kernel
theorem dX5_passYear_84 : decode cX5_passYear 84 = .ok (.getfield 26, 3) := by decide +kernel
theorem dX5_passYear_87 : decode cX5_passYear 87 = .ok (.getfield 141, 3) := by decide +kernel
theorem dX5_passYear_90 : decode cX5_passYear 90 = .ok (.bipush 7, 2) := by decide +kernel
theorem dX5_passYear_92 : decode cX5_passYear 92 = .ok (.dup2, 1) := by decide +kernel
theorem dX5_passYear_93 : decode cX5_passYear 93 = .ok (.laload, 1) := by decide +kernel
theorem dX5_passYear_94 : decode cX5_passYear 94 = .ok (.lconst 1, 1) := by decide +kernel
theorem dX5_passYear_95 : decode cX5_passYear 95 = .ok (.ladd, 1) := by decide +kernel
theorem dX5_passYear_96 : decode cX5_passYear 96 = .ok (.lastore, 1) := by decide +kernel
theorem dX5_passYear_97 : decode cX5_passYear 97 = .ok (.return_, 1) := by decide +kernel
set_option maxRecDepth 20000 in
theorem ggX5_takeAll_X4_fifths : GoodIn wsX5_takeAll wsX4_fifths := goodIn_r _ [10, 11, 12, 13, 14, 15, 9, 16, 17, 18, 19, 20, 21, 22, 23, 24, 25, 26, 27, 53, 54, 55, 56, 57, 58] (by decide +kernel) (by decide +kernel)
set_option maxRecDepth 20000 in
theorem gX5_takeAll_X4_fifths : GoodIn wsX5_takeAll (wsV RX5 83 RX4 yX4_fifths wsX4_fifths) := goodIn_app (goodIn_of _ (by decide +kernel)) ggX5_takeAll_X4_fifths
set_option maxRecDepth 20000 in
theorem ggX5_takeAll_X0_take : GoodIn wsX5_takeAll wsX0_take := goodIn_r _ [32, 33, 34, 35, 26, 36, 37, 38, 39, 40, 31, 41, 42, 43, 44, 45, 46, 59, 60, 61, 62, 63, 64, 65] (by decide +kernel) (by decide +kernel)
set_option maxRecDepth 20000 in
theorem gX5_takeAll_X0_take : GoodIn wsX5_takeAll (wsV RX5 213 RX0 yX0_take wsX0_take) := goodIn_app (goodIn_of _ (by decide +kernel)) ggX5_takeAll_X0_take
theorem dX5_takeAll_0 : decode cX5_takeAll 0 = .ok (.lconst 0, 1) := by decide +kernel
theorem dX5_takeAll_1 : decode cX5_takeAll 1 = .ok (.lstore_n 2, 1) := by decide +kernel
theorem dX5_takeAll_2 : decode cX5_takeAll 2 = .ok (.iconst 0, 1) := by decide +kernel
theorem dX5_takeAll_3 : decode cX5_takeAll 3 = .ok (.istore 4, 2) := by decide +kernel
theorem dX5_takeAll_5 : decode cX5_takeAll 5 = .ok (.iload 4, 2) := by decide +kernel
theorem dX5_takeAll_7 : decode cX5_takeAll 7 = .ok (.aload_n 0, 1) := by decide +kernel
theorem dX5_takeAll_8 : decode cX5_takeAll 8 = .ok (.getfield 10, 3) := by decide +kernel
theorem dX5_takeAll_11 : decode cX5_takeAll 11 = .ok (.getfield 52, 3) := by decide +kernel
theorem dX5_takeAll_14 : decode cX5_takeAll 14 = .ok (.if_icmp .ge 53, 3) := by decide +kernel
theorem dX5_takeAll_17 : decode cX5_takeAll 17 = .ok (.aload_n 0, 1) := by decide +kernel
theorem dX5_takeAll_18 : decode cX5_takeAll 18 = .ok (.getfield 10, 3) := by decide +kernel
theorem dX5_takeAll_21 : decode cX5_takeAll 21 = .ok (.getfield 68, 3) := by decide +kernel
theorem dX5_takeAll_24 : decode cX5_takeAll 24 = .ok (.iload 4, 2) := by decide +kernel
theorem dX5_takeAll_26 : decode cX5_takeAll 26 = .ok (.baload, 1) := by decide +kernel
theorem dX5_takeAll_27 : decode cX5_takeAll 27 = .ok (.ifCond .eq 34, 3) := by decide +kernel
theorem dX5_takeAll_30 : decode cX5_takeAll 30 = .ok (.lload_n 2, 1) := by decide +kernel
theorem dX5_takeAll_31 : decode cX5_takeAll 31 = .ok (.aload_n 0, 1) := by decide +kernel
theorem dX5_takeAll_32 : decode cX5_takeAll 32 = .ok (.getfield 26, 3) := by decide +kernel
theorem dX5_takeAll_35 : decode cX5_takeAll 35 = .ok (.aload_n 0, 1) := by decide +kernel
theorem dX5_takeAll_36 : decode cX5_takeAll 36 = .ok (.getfield 10, 3) := by decide +kernel
theorem dX5_takeAll_39 : decode cX5_takeAll 39 = .ok (.getfield 89, 3) := by decide +kernel
theorem dX5_takeAll_42 : decode cX5_takeAll 42 = .ok (.iload 4, 2) := by decide +kernel
theorem dX5_takeAll_44 : decode cX5_takeAll 44 = .ok (.iaload, 1) := by decide +kernel
theorem dX5_takeAll_45 : decode cX5_takeAll 45 = .ok (.aload_n 0, 1) := by decide +kernel
theorem dX5_takeAll_46 : decode cX5_takeAll 46 = .ok (.getfield 10, 3) := by decide +kernel
theorem dX5_takeAll_49 : decode cX5_takeAll 49 = .ok (.iload 4, 2) := by decide +kernel
theorem dX5_takeAll_51 : decode cX5_takeAll 51 = .ok (.iload_n 1, 1) := by decide +kernel
theorem dX5_takeAll_52 : decode cX5_takeAll 52 = .ok (.invokevirtual 83, 3) := by decide +kernel
theorem dX5_takeAll_55 : decode cX5_takeAll 55 = .ok (.i2l, 1) := by decide +kernel
theorem dX5_takeAll_56 : decode cX5_takeAll 56 = .ok (.invokevirtual 213, 3) := by decide +kernel
theorem dX5_takeAll_59 : decode cX5_takeAll 59 = .ok (.ladd, 1) := by decide +kernel
theorem dX5_takeAll_60 : decode cX5_takeAll 60 = .ok (.lstore_n 2, 1) := by decide +kernel
theorem dX5_takeAll_61 : decode cX5_takeAll 61 = .ok (.iinc 4 1, 3) := by decide +kernel
theorem dX5_takeAll_64 : decode cX5_takeAll 64 = .ok (.goto (-59), 3) := by decide +kernel
theorem dX5_takeAll_67 : decode cX5_takeAll 67 = .ok (.lload_n 2, 1) := by decide +kernel
theorem dX5_takeAll_68 : decode cX5_takeAll 68 = .ok (.lreturn, 1) := by decide +kernel
