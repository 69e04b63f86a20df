theorem dX3_admit_43 : decode cX3_admit 43 = .ok (.getfield 87, 3) := by decide +kernel
theorem dX3_admit_46 : decode cX3_admit 46 = .ok (.iload_n 1, 1) := by decide +kernel
theorem dX3_admit_47 : decode cX3_admit 47 = .ok (.laload, 1) := by decide +kernel
theorem dX3_admit_48 : decode cX3_admit 48 = .ok (.invokestatic 121, 3) := by decide +kernel
theorem dX3_admit_51 : decode cX3_admit 51 = .ok (.lstore 4, 2) := by decide +kernel
theorem dX3_admit_53 : decode cX3_admit 53 = .ok (.aload_n 0, 1) := by decide +kernel
theorem dX3_admit_54 : decode cX3_admit 54 = .ok (.getfield 20, 3) := by decide +kernel
theorem dX3_admit_57 : decode cX3_admit 57 = .ok (.getfield 87, 3) := by decide +kernel
theorem dX3_admit_60 : decode cX3_admit 60 = .ok (.iload_n 1, 1) := by decide +kernel
theorem dX3_admit_61 : decode cX3_admit 61 = .ok (.dup2, 1) := by decide +kernel
theorem dX3_admit_62 : decode cX3_admit 62 = .ok (.laload, 1) := by decide +kernel
theorem dX3_admit_63 : decode cX3_admit 63 = .ok (.lload 4, 2) := by decide +kernel
theorem dX3_admit_65 : decode cX3_admit 65 = .ok (.ldc2_w 115, 3) := by decide +kernel
theorem dX3_admit_68 : decode cX3_admit 68 = .ok (.lxor, 1) := by decide +kernel
theorem dX3_admit_69 : decode cX3_admit 69 = .ok (.land, 1) := by decide +kernel
theorem dX3_admit_70 : decode cX3_admit 70 = .ok (.lastore, 1) := by decide +kernel
theorem dX3_admit_71 : decode cX3_admit 71 = .ok (.aload_n 0, 1) := by decide +kernel
theorem dX3_admit_72 : decode cX3_admit 72 = .ok (.getfield 23, 3) := by decide +kernel
theorem dX3_admit_75 : decode cX3_admit 75 = .ok (.getfield 87, 3) := by decide +kernel
theorem dX3_admit_78 : decode cX3_admit 78 = .ok (.iload_n 1, 1) := by decide +kernel
theorem dX3_admit_79 : decode cX3_admit 79 = .ok (.dup2, 1) := by decide +kernel
theorem dX3_admit_80 : decode cX3_admit 80 = .ok (.laload, 1) := by decide +kernel
theorem dX3_admit_81 : decode cX3_admit 81 = .ok (.lload 4, 2) := by decide +kernel
theorem dX3_admit_83 : decode cX3_admit 83 = .ok (.lor, 1) := by decide +kernel
theorem dX3_admit_84 : decode cX3_admit 84 = .ok (.lastore, 1) := by decide +kernel
theorem dX3_admit_85 : decode cX3_admit 85 = .ok (.aload_n 0, 1) := by decide +kernel
theorem dX3_admit_86 : decode cX3_admit 86 = .ok (.getfield 29, 3) := by decide +kernel
theorem dX3_admit_89 : decode cX3_admit 89 = .ok (.iload_n 1, 1) := by decide +kernel
theorem dX3_admit_90 : decode cX3_admit 90 = .ok (.dup2, 1) := by decide +kernel
theorem dX3_admit_91 : decode cX3_admit 91 = .ok (.laload, 1) := by decide +kernel
theorem dX3_admit_92 : decode cX3_admit 92 = .ok (.lload 4, 2) := by decide +kernel
theorem dX3_admit_94 : decode cX3_admit 94 = .ok (.lor, 1) := by decide +kernel
theorem dX3_admit_95 : decode cX3_admit 95 = .ok (.lastore, 1) := by decide +kernel
theorem dX3_admit_96 : decode cX3_admit 96 = .ok (.aload_n 0, 1) := by decide +kernel
theorem dX3_admit_97 : decode cX3_admit 97 = .ok (.dup, 1) := by decide +kernel
theorem dX3_admit_98 : decode cX3_admit 98 = .ok (.getfield 33, 3) := by decide +kernel
theorem dX3_admit_101 : decode cX3_admit 101 = .ok (.lconst 1, 1) := by decide +kernel
theorem dX3_admit_102 : decode cX3_admit 102 = .ok (.iload_n 1, 1) := by decide +kernel
theorem dX3_admit_103 : decode cX3_admit 103 = .ok (.lshl, 1) := by decide +kernel
theorem dX3_admit_104 : decode cX3_admit 104 = .ok (.lor, 1) := by decide +kernel
theorem dX3_admit_105 : decode cX3_admit 105 = .ok (.putfield 33, 3) := by decide +kernel
theorem dX3_admit_108 : decode cX3_admit 108 = .ok (.aload_n 0, 1) := by decide +kernel
theorem dX3_admit_109 : decode cX3_admit 109 = .ok (.dup, 1) := by decide +kernel
theorem dX3_admit_110 : decode cX3_admit 110 = .ok (.getfield 37, 3) := by decide +kernel
theorem dX3_admit_113 : decode cX3_admit 113 = .ok (.lload 4, 2) := by decide +kernel
theorem dX3_admit_115 : decode cX3_admit 115 = .ok (.invokestatic 125, 3) := by decide +kernel
theorem dX3_admit_118 : decode cX3_admit 118 = .ok (.iadd, 1) := by decide +kernel
theorem dX3_admit_119 : decode cX3_admit 119 = .ok (.putfield 37, 3) := by decide +kernel
theorem dX3_admit_122 : decode cX3_admit 122 = .ok (.aload_n 0, 1) := by decide +kernel
theorem dX3_admit_123 : decode cX3_admit 123 = .ok (.aload_n 0, 1) := by decide +kernel
theorem dX3_admit_124 : decode cX3_admit 124 = .ok (.getfield 41, 3) := by decide +kernel
theorem dX3_admit_127 : decode cX3_admit 127 = .ok (.iload_n 1, 1) := by decide +kernel
theorem dX3_admit_128 : decode cX3_admit 128 = .ok (.invokestatic 130, 3) := by decide +kernel
theorem dX3_admit_131 : decode cX3_admit 131 = .ok (.putfield 41, 3) := by decide +kernel
theorem dX3_admit_134 : decode cX3_admit 134 = .ok (.aload_n 0, 1) := by decide +kernel
theorem dX3_admit_135 : decode cX3_admit 135 = .ok (.aload_n 0, 1) := by decide +kernel
theorem dX3_admit_136 : decode cX3_admit 136 = .ok (.getfield 44, 3) := by decide +kernel
theorem dX3_admit_139 : decode cX3_admit 139 = .ok (.iload_n 1, 1) := by decide +kernel
theorem dX3_admit_140 : decode cX3_admit 140 = .ok (.invokestatic 58, 3) := by decide +kernel
theorem dX3_admit_143 : decode cX3_admit 143 = .ok (.putfield 44, 3) := by decide +kernel
theorem dX3_admit_146 : decode cX3_admit 146 = .ok (.return_, 1) := by decide +kernel
theorem dX3_widened_0 : decode cX3_widened 0 = .ok (.lload_n 0, 1) := by decide +kernel
theorem dX3_widened_1 : decode cX3_widened 1 = .ok (.lload_n 0, 1) := by decide +kernel
theorem dX3_widened_2 : decode cX3_widened 2 = .ok (.iconst 1, 1) := by decide +kernel
theorem dX3_widened_3 : decode cX3_widened 3 = .ok (.lshl, 1) := by decide +kernel
theorem dX3_widened_4 : decode cX3_widened 4 = .ok (.lor, 1) := by decide +kernel
theorem dX3_widened_5 : decode cX3_widened 5 = .ok (.lload_n 0, 1) := by decide +kernel
theorem dX3_widened_6 : decode cX3_widened 6 = .ok (.iconst 1, 1) := by decide +kernel
theorem dX3_widened_7 : decode cX3_widened 7 = .ok (.lushr, 1) := by decide +kernel
theorem dX3_widened_8 : decode cX3_widened 8 = .ok (.lor, 1) := by decide +kernel
theorem dX3_widened_9 : decode cX3_widened 9 = .ok (.lreturn, 1) := by decide +kernel
theorem dX3_runsAt_0 : decode cX3_runsAt 0 = .ok (.lload_n 0, 1) := by decide +kernel
theorem dX3_runsAt_1 : decode cX3_runsAt 1 = .ok (.lstore 4, 2) := by decide +kernel
theorem dX3_runsAt_3 : decode cX3_runsAt 3 = .ok (.lload_n 0, 1) := by decide +kernel
theorem dX3_runsAt_4 : decode cX3_runsAt 4 = .ok (.lstore 6, 2) := by decide +kernel
theorem dX3_runsAt_6 : decode cX3_runsAt 6 = .ok (.lload_n 2, 1) := by decide +kernel
theorem dX3_runsAt_7 : decode cX3_runsAt 7 = .ok (.lstore 8, 2) := by decide +kernel
theorem dX3_runsAt_9 : decode cX3_runsAt 9 = .ok (.lload_n 2, 1) := by decide +kernel
theorem dX3_runsAt_10 : decode cX3_runsAt 10 = .ok (.lstore 10, 2) := by decide +kernel
theorem dX3_runsAt_12 : decode cX3_runsAt 12 = .ok (.iconst 1, 1) := by decide +kernel
theorem dX3_runsAt_13 : decode cX3_runsAt 13 = .ok (.istore 12, 2) := by decide +kernel
theorem dX3_runsAt_15 : decode cX3_runsAt 15 = .ok (.iload 12, 2) := by decide +kernel
theorem dX3_runsAt_17 : decode cX3_runsAt 17 = .ok (.bipush 64, 2) := by decide +kernel
theorem dX3_runsAt_19 : decode cX3_runsAt 19 = .ok (.if_icmp .ge 58, 3) := by decide +kernel
theorem dX3_runsAt_22 : decode cX3_runsAt 22 = .ok (.lload 4, 2) := by decide +kernel
theorem dX3_runsAt_24 : decode cX3_runsAt 24 = .ok (.lload 8, 2) := by decide +kernel
theorem dX3_runsAt_26 : decode cX3_runsAt 26 = .ok (.lload 4, 2) := by decide +kernel
theorem dX3_runsAt_28 : decode cX3_runsAt 28 = .ok (.iload 12, 2) := by decide +kernel
theorem dX3_runsAt_30 : decode cX3_runsAt 30 = .ok (.lshl, 1) := by decide +kernel
theorem dX3_runsAt_31 : decode cX3_runsAt 31 = .ok (.land, 1) := by decide +kernel
theorem dX3_runsAt_32 : decode cX3_runsAt 32 = .ok (.lor, 1) := by decide +kernel
theorem dX3_runsAt_33 : decode cX3_runsAt 33 = .ok (.lstore 4, 2) := by decide +kernel
theorem dX3_runsAt_35 : decode cX3_runsAt 35 = .ok (.lload 8, 2) := by decide +kernel
theorem dX3_runsAt_37 : decode cX3_runsAt 37 = .ok (.lload 8, 2) := by decide +kernel
theorem dX3_runsAt_39 : decode cX3_runsAt 39 = .ok (.iload 12, 2) := by decide +kernel
theorem dX3_runsAt_41 : decode cX3_runsAt 41 = .ok (.lshl, 1) := by decide +kernel
theorem dX3_runsAt_42 : decode cX3_runsAt 42 = .ok (.land, 1) := by decide +kernel
theorem dX3_runsAt_43 : decode cX3_runsAt 43 = .ok (.lstore 8, 2) := by decide +kernel
theorem dX3_runsAt_45 : decode cX3_runsAt 45 = .ok (.lload 6, 2) := by decide +kernel
theorem dX3_runsAt_47 : decode cX3_runsAt 47 = .ok (.lload 10, 2) := by decide +kernel
theorem dX3_runsAt_49 : decode cX3_runsAt 49 = .ok (.lload 6, 2) := by decide +kernel
theorem dX3_runsAt_51 : decode cX3_runsAt 51 = .ok (.iload 12, 2) := by decide +kernel
theorem dX3_runsAt_53 : decode cX3_runsAt 53 = .ok (.lushr, 1) := by decide +kernel
theorem dX3_runsAt_54 : decode cX3_runsAt 54 = .ok (.land, 1) := by decide +kernel
theorem dX3_runsAt_55 : decode cX3_runsAt 55 = .ok (.lor, 1) := by decide +kernel
theorem dX3_runsAt_56 : decode cX3_runsAt 56 = .ok (.lstore 6, 2) := by decide +kernel
theorem dX3_runsAt_58 : decode cX3_runsAt 58 = .ok (.lload 10, 2) := by decide +kernel
theorem dX3_runsAt_60 : decode cX3_runsAt 60 = .ok (.lload 10, 2) := by decide +kernel
theorem dX3_runsAt_62 : decode cX3_runsAt 62 = .ok (.iload 12, 2) := by decide +kernel
theorem dX3_runsAt_64 : decode cX3_runsAt 64 = .ok (.lushr, 1) := by decide +kernel
theorem dX3_runsAt_65 : decode cX3_runsAt 65 = .ok (.land, 1) := by decide +kernel
theorem dX3_runsAt_66 : decode cX3_runsAt 66 = .ok (.lstore 10, 2) := by decide +kernel
theorem dX3_runsAt_68 : decode cX3_runsAt 68 = .ok (.iload 12, 2) := by decide +kernel
theorem dX3_runsAt_70 : decode cX3_runsAt 70 = .ok (.iconst 2, 1) := by decide +kernel
theorem dX3_runsAt_71 : decode cX3_runsAt 71 = .ok (.imul, 1) := by decide +kernel
theorem dX3_runsAt_72 : decode cX3_runsAt 72 = .ok (.istore 12, 2) := by decide +kernel
theorem dX3_runsAt_74 : decode cX3_runsAt 74 = .ok (.goto (-59), 3) := by decide +kernel
theorem dX3_runsAt_77 : decode cX3_runsAt 77 = .ok (.lload 4, 2) := by decide +kernel
theorem dX3_runsAt_79 : decode cX3_runsAt 79 = .ok (.lload 6, 2) := by decide +kernel
theorem dX3_runsAt_81 : decode cX3_runsAt 81 = .ok (.lor, 1) := by decide +kernel
theorem dX3_runsAt_82 : decode cX3_runsAt 82 = .ok (.lreturn, 1) := by decide +kernel
set_option maxRecDepth 20000 in
theorem ggX4_init_X2_init : GoodIn wsX4_init wsX2_init := goodIn_r _ [24, 25, 2, 3, 26, 27, 28, 29, 73, 74, 75] (by decide +kernel) (by decide +kernel)
set_option maxRecDepth 20000 in
theorem gX4_init_X2_init : GoodIn wsX4_init (wsX2_init) := ggX4_init_X2_init
set_option maxRecDepth 20000 in
theorem ggX4_init_X1_init : GoodIn wsX4_init wsX1_init := goodIn_r _ [32, 33, 2, 3, 34, 35, 36, 37, 38, 39, 40, 41, 42, 43, 44, 45, 46, 6, 7, 47, 48, 23, 24, 25, 26, 27, 28, 29, 76, 77, 78, 89, 90, 91, 73, 74, 75] (by decide +kernel) (by decide +kernel)
set_option maxRecDepth 20000 in
theorem gX4_init_X1_init : GoodIn wsX4_init (wsX1_init) := ggX4_init_X1_init
set_option maxRecDepth 20000 in
theorem ggX4_init_X3_init : GoodIn wsX4_init wsX3_init := goodIn_r _ [51, 52, 2, 3, 53, 6, 7, 54, 55, 56, 57, 28, 58, 59, 60, 61, 62, 63, 64, 23, 24, 25, 26, 27, 29, 73, 74, 75, 79, 80, 81, 82, 83, 84, 85, 86, 87, 88] (by decide +kernel) (by decide +kernel)
set_option maxRecDepth 20000 in
theorem gX4_init_X3_init : GoodIn wsX4_init (wsX3_init) := ggX4_init_X3_init
theorem dX4_init_0 : decode cX4_init 0 = .ok (.aload_n 0, 1) := by decide +kernel
theorem dX4_init_1 : decode cX4_init 1 = .ok (.invokespecial 1, 3) := by decide +kernel
theorem dX4_init_4 : decode cX4_init 4 = .ok (.aload_n 0, 1) := by decide +kernel
theorem dX4_init_5 : decode cX4_init 5 = .ok (.bipush 8, 2) := by decide +kernel
theorem dX4_init_7 : decode cX4_init 7 = .ok (.anewarray 9, 3) := by decide +kernel
theorem dX4_init_10 : decode cX4_init 10 = .ok (.putfield 11, 3) := by decide +kernel
theorem dX4_init_13 : decode cX4_init 13 = .ok (.iconst 0, 1) := by decide +kernel
theorem dX4_init_14 : decode cX4_init 14 = .ok (.istore_n 1, 1) := by decide +kernel
theorem dX4_init_15 : decode cX4_init 15 = .ok (.iload_n 1, 1) := by decide +kernel
theorem dX4_init_16 : decode cX4_init 16 = .ok (.bipush 8, 2) := by decide +kernel
theorem dX4_init_18 : decode cX4_init 18 = .ok (.if_icmp .ge 24, 3) := by decide +kernel
theorem dX4_init_21 : decode cX4_init 21 = .ok (.aload_n 0, 1) := by decide +kernel
theorem dX4_init_22 : decode cX4_init 22 = .ok (.getfield 11, 3) := by decide +kernel
theorem dX4_init_25 : decode cX4_init 25 = .ok (.iload_n 1, 1) := by decide +kernel
theorem dX4_init_26 : decode cX4_init 26 = .ok (.new 9, 3) := by decide +kernel
theorem dX4_init_29 : decode cX4_init 29 = .ok (.dup, 1) := by decide +kernel
theorem dX4_init_30 : decode cX4_init 30 = .ok (.bipush 64, 2) := by decide +kernel
theorem dX4_init_32 : decode cX4_init 32 = .ok (.invokespecial 15, 3) := by decide +kernel
theorem dX4_init_35 : decode cX4_init 35 = .ok (.aastore, 1) := by decide +kernel
theorem dX4_init_36 : decode cX4_init 36 = .ok (.iinc 1 1, 3) := by decide +kernel
theorem dX4_init_39 : decode cX4_init 39 = .ok (.goto (-24), 3) := by decide +kernel
theorem dX4_init_42 : decode cX4_init 42 = .ok (.aload_n 0, 1) := by decide +kernel
theorem dX4_init_43 : decode cX4_init 43 = .ok (.iconst 0, 1) := by decide +kernel
theorem dX4_init_44 : decode cX4_init 44 = .ok (.putfield 18, 3) := by decide +kernel
theorem dX4_init_47 : decode cX4_init 47 = .ok (.aload_n 0, 1) := by decide +kernel
theorem dX4_init_48 : decode cX4_init 48 = .ok (.new 22, 3) := by decide +kernel
theorem dX4_init_51 : decode cX4_init 51 = .ok (.dup, 1) := by decide +kernel
theorem dX4_init_52 : decode cX4_init 52 = .ok (.invokespecial 24, 3) := by decide +kernel
theorem dX4_init_55 : decode cX4_init 55 = .ok (.putfield 25, 3) := by decide +kernel
theorem dX4_init_58 : decode cX4_init 58 = .ok (.aload_n 0, 1) := by decide +kernel
theorem dX4_init_59 : decode cX4_init 59 = .ok (.new 29, 3) := by decide +kernel
theorem dX4_init_62 : decode cX4_init 62 = .ok (.dup, 1) := by decide +kernel
theorem dX4_init_63 : decode cX4_init 63 = .ok (.invokespecial 31, 3) := by decide +kernel
theorem dX4_init_66 : decode cX4_init 66 = .ok (.putfield 32, 3) := by decide +kernel
theorem dX4_init_69 : decode cX4_init 69 = .ok (.aload_n 0, 1) := by decide +kernel
theorem dX4_init_70 : decode cX4_init 70 = .ok (.new 9, 3) := by decide +kernel
theorem dX4_init_73 : decode cX4_init 73 = .ok (.dup, 1) := by decide +kernel
theorem dX4_init_74 : decode cX4_init 74 = .ok (.bipush 64, 2) := by decide +kernel
theorem dX4_init_76 : decode cX4_init 76 = .ok (.invokespecial 15, 3) := by decide +kernel
theorem dX4_init_79 : decode cX4_init 79 = .ok (.putfield 36, 3) := by decide +kernel
theorem dX4_init_82 : decode cX4_init 82 = .ok (.aload_n 0, 1) := by decide +kernel
theorem dX4_init_83 : decode cX4_init 83 = .ok (.new 9, 3) := by decide +kernel
theorem dX4_init_86 : decode cX4_init 86 = .ok (.dup, 1) := by decide +kernel
theorem dX4_init_87 : decode cX4_init 87 = .ok (.sipush 128, 3) := by decide +kernel
theorem dX4_init_90 : decode cX4_init 90 = .ok (.invokespecial 15, 3) := by decide +kernel
theorem dX4_init_93 : decode cX4_init 93 = .ok (.putfield 40, 3) := by decide +kernel
theorem dX4_init_96 : decode cX4_init 96 = .ok (.aload_n 0, 1) := by decide +kernel
theorem dX4_init_97 : decode cX4_init 97 = .ok (.bipush 64, 2) := by decide +kernel
theorem dX4_init_99 : decode cX4_init 99 = .ok (.newarray .int, 2) := by decide +kernel
theorem dX4_init_101 : decode cX4_init 101 = .ok (.putfield 43, 3) := by decide +kernel
theorem dX4_init_104 : decode cX4_init 104 = .ok (.aload_n 0, 1) := by decide +kernel
theorem dX4_init_105 : decode cX4_init 105 = .ok (.iconst 0, 1) := by decide +kernel
theorem dX4_init_106 : decode cX4_init 106 = .ok (.putfield 47, 3) := by decide +kernel
theorem dX4_init_109 : decode cX4_init 109 = .ok (.return_, 1) := by decide +kernel
set_option maxRecDepth 20000 in
theorem ggX4_page_X4_within : GoodIn wsX4_page wsX4_within := goodIn_r _ [6] (by decide +kernel) (by decide +kernel)
set_option maxRecDepth 20000 in
theorem gX4_page_X4_within : GoodIn wsX4_page (va_wsS RX4 50 yX4_within wsX4_within) := goodIn_app (goodIn_of _ (by decide +kernel)) ggX4_page_X4_within
set_option maxRecDepth 20000 in
theorem ggX4_page_X2_empty : GoodIn wsX4_page wsX2_empty := goodIn_r _ [11, 12, 13, 14, 15, 16, 17, 18, 27, 28, 29] (by decide +kernel) (by decide +kernel)
set_option maxRecDepth 20000 in
theorem gX4_page_X2_empty : GoodIn wsX4_page (wsV RX4 54 RX2 yX2_empty wsX2_empty) := goodIn_app (goodIn_of _ (by decide +kernel)) ggX4_page_X2_empty
theorem dX4_page_0 : decode cX4_page 0 = .ok (.iload_n 1, 1) := by decide +kernel
theorem dX4_page_1 : decode cX4_page 1 = .ok (.iconst 1, 1) := by decide +kernel
theorem dX4_page_2 : decode cX4_page 2 = .ok (.bipush 64, 2) := by decide +kernel
theorem dX4_page_4 : decode cX4_page 4 = .ok (.invokestatic 50, 3) := by decide +kernel
theorem dX4_page_7 : decode cX4_page 7 = .ok (.ifCond .eq 22, 3) := by decide +kernel
theorem dX4_page_10 : decode cX4_page 10 = .ok (.iload_n 2, 1) := by decide +kernel
theorem dX4_page_11 : decode cX4_page 11 = .ok (.iconst 1, 1) := by decide +kernel
theorem dX4_page_12 : decode cX4_page 12 = .ok (.bipush 64, 2) := by decide +kernel
theorem dX4_page_14 : decode cX4_page 14 = .ok (.invokestatic 50, 3) := by decide +kernel
theorem dX4_page_17 : decode cX4_page 17 = .ok (.ifCond .eq 12, 3) := by decide +kernel
theorem dX4_page_20 : decode cX4_page 20 = .ok (.aload_n 0, 1) := by decide +kernel
theorem dX4_page_21 : decode cX4_page 21 = .ok (.getfield 18, 3) := by decide +kernel
theorem dX4_page_24 : decode cX4_page 24 = .ok (.bipush 8, 2) := by decide +kernel
theorem dX4_page_26 : decode cX4_page 26 = .ok (.if_icmp .lt 5, 3) := by decide +kernel
theorem dX4_page_29 : decode cX4_page 29 = .ok (.iconst (-1), 1) := by decide +kernel
theorem dX4_page_30 : decode cX4_page 30 = .ok (.ireturn, 1) := by decide +kernel
theorem dX4_page_31 : decode cX4_page 31 = .ok (.aload_n 0, 1) := by decide +kernel
theorem dX4_page_32 : decode cX4_page 32 = .ok (.getfield 11, 3) := by decide +kernel
theorem dX4_page_35 : decode cX4_page 35 = .ok (.aload_n 0, 1) := by decide +kernel
theorem dX4_page_36 : decode cX4_page 36 = .ok (.getfield 18, 3) := by decide +kernel
theorem dX4_page_39 : decode cX4_page 39 = .ok (.aaload, 1) := by decide +kernel
theorem dX4_page_40 : decode cX4_page 40 = .ok (.iload_n 1, 1) := by decide +kernel
theorem dX4_page_41 : decode cX4_page 41 = .ok (.iload_n 2, 1) := by decide +kernel
theorem dX4_page_42 : decode cX4_page 42 = .ok (.invokevirtual 54, 3) := by decide +kernel
theorem dX4_page_45 : decode cX4_page 45 = .ok (.aload_n 0, 1) := by decide +kernel
theorem dX4_page_46 : decode cX4_page 46 = .ok (.dup, 1) := by decide +kernel
theorem dX4_page_47 : decode cX4_page 47 = .ok (.getfield 18, 3) := by decide +kernel
theorem dX4_page_50 : decode cX4_page 50 = .ok (.dup_x1, 1) := by decide +kernel
theorem dX4_page_51 : decode cX4_page 51 = .ok (.iconst 1, 1) := by decide +kernel
theorem dX4_page_52 : decode cX4_page 52 = .ok (.iadd, 1) := by decide +kernel
theorem dX4_page_53 : decode cX4_page 53 = .ok (.putfield 18, 3) := by decide +kernel
theorem dX4_page_56 : decode cX4_page 56 = .ok (.ireturn, 1) := by decide +kernel
set_option maxRecDepth 20000 in
theorem ggX4_copy_X4_find : GoodIn wsX4_copy wsX4_find := goodIn_r _ [7, 1, 2, 8, 9, 6, 10, 31, 32, 33, 34, 35, 36, 37, 38] (by decide +kernel) (by decide +kernel)
set_option maxRecDepth 20000 in
theorem gX4_copy_X4_find : GoodIn wsX4_copy (wsV RX4 58 RX4 yX4_find wsX4_find) := goodIn_app (goodIn_of _ (by decide +kernel)) ggX4_copy_X4_find
set_option maxRecDepth 20000 in
theorem ggX4_copy_X2_become : GoodIn wsX4_copy wsX2_become := goodIn_r _ [15, 16, 17, 18, 19, 20, 21, 22, 23, 24, 25, 14, 26, 27, 28, 29, 30, 39, 40, 41] (by decide +kernel) (by decide +kernel)
set_option maxRecDepth 20000 in
theorem gX4_copy_X2_become : GoodIn wsX4_copy (wsV RX4 62 RX2 yX2_become wsX2_become) := goodIn_app (goodIn_of _ (by decide +kernel)) ggX4_copy_X2_become
theorem dX4_copy_0 : decode cX4_copy 0 = .ok (.aload_n 0, 1) := by decide +kernel
theorem dX4_copy_1 : decode cX4_copy 1 = .ok (.iload_n 1, 1) := by decide +kernel
theorem dX4_copy_2 : decode cX4_copy 2 = .ok (.invokevirtual 58, 3) := by decide +kernel
theorem dX4_copy_5 : decode cX4_copy 5 = .ok (.astore_n 2, 1) := by decide +kernel
theorem dX4_copy_6 : decode cX4_copy 6 = .ok (.aload_n 2, 1) := by decide +kernel
theorem dX4_copy_7 : decode cX4_copy 7 = .ok (.ifnull 12, 3) := by decide +kernel
theorem dX4_copy_10 : decode cX4_copy 10 = .ok (.aload_n 0, 1) := by decide +kernel
theorem dX4_copy_11 : decode cX4_copy 11 = .ok (.getfield 18, 3) := by decide +kernel
theorem dX4_copy_14 : decode cX4_copy 14 = .ok (.bipush 8, 2) := by decide +kernel
theorem dX4_copy_16 : decode cX4_copy 16 = .ok (.if_icmp .lt 5, 3) := by decide +kernel
theorem dX4_copy_19 : decode cX4_copy 19 = .ok (.iconst (-1), 1) := by decide +kernel
theorem dX4_copy_20 : decode cX4_copy 20 = .ok (.ireturn, 1) := by decide +kernel
theorem dX4_copy_21 : decode cX4_copy 21 = .ok (.aload_n 0, 1) := by decide +kernel
theorem dX4_copy_22 : decode cX4_copy 22 = .ok (.getfield 11, 3) := by decide +kernel
theorem dX4_copy_25 : decode cX4_copy 25 = .ok (.aload_n 0, 1) := by decide +kernel
theorem dX4_copy_26 : decode cX4_copy 26 = .ok (.getfield 18, 3) := by decide +kernel
theorem dX4_copy_29 : decode cX4_copy 29 = .ok (.aaload, 1) := by decide +kernel
theorem dX4_copy_30 : decode cX4_copy 30 = .ok (.aload_n 2, 1) := by decide +kernel
theorem dX4_copy_31 : decode cX4_copy 31 = .ok (.invokevirtual 62, 3) := by decide +kernel
theorem dX4_copy_34 : decode cX4_copy 34 = .ok (.aload_n 0, 1) := by decide +kernel
theorem dX4_copy_35 : decode cX4_copy 35 = .ok (.dup, 1) := by decide +kernel
theorem dX4_copy_36 : decode cX4_copy 36 = .ok (.getfield 18, 3) := by decide +kernel
theorem dX4_copy_39 : decode cX4_copy 39 = .ok (.dup_x1, 1) := by decide +kernel
theorem dX4_copy_40 : decode cX4_copy 40 = .ok (.iconst 1, 1) := by decide +kernel
theorem dX4_copy_41 : decode cX4_copy 41 = .ok (.iadd, 1) := by decide +kernel
theorem dX4_copy_42 : decode cX4_copy 42 = .ok (.putfield 18, 3) := by decide +kernel
theorem dX4_copy_45 : decode cX4_copy 45 = .ok (.ireturn, 1) := by decide +kernel
set_option maxRecDepth 20000 in
theorem ggX4_set_X4_find : GoodIn wsX4_set wsX4_find := goodIn_r _ [8, 9, 10, 11, 12, 7, 13, 57, 58, 59, 60, 61, 62, 63, 64] (by decide +kernel) (by decide +kernel)
set_option maxRecDepth 20000 in
theorem gX4_set_X4_find : GoodIn wsX4_set (wsV RX4 58 RX4 yX4_find wsX4_find) := goodIn_app (goodIn_of _ (by decide +kernel)) ggX4_set_X4_find
set_option maxRecDepth 20000 in
theorem ggX4_set_X2_hasPoint : GoodIn wsX4_set wsX2_hasPoint := goodIn_r _ [18, 19, 12, 7, 13, 20, 21, 22, 17, 23, 24, 65, 66, 67] (by decide +kernel) (by decide +kernel)
set_option maxRecDepth 20000 in
theorem gX4_set_X2_hasPoint : GoodIn wsX4_set (wsV RX4 66 RX2 yX2_hasPoint wsX2_hasPoint) := goodIn_app (goodIn_of _ (by decide +kernel)) ggX4_set_X2_hasPoint
set_option maxRecDepth 20000 in
theorem ggX4_set_X1_remember : GoodIn wsX4_set wsX1_remember := goodIn_r _ [29, 30, 31, 32, 33, 34, 35, 36, 37, 38, 39, 40, 41, 42, 17, 43, 19, 24, 44, 45, 46, 47, 48, 49, 50, 51, 52, 53, 54, 55, 56, 68, 69, 70, 71, 72, 73, 65, 66, 67] (by decide +kernel) (by decide +kernel)
set_option maxRecDepth 20000 in
theorem gX4_set_X1_remember : GoodIn wsX4_set (wsV RX4 70 RX1 yX1_remember wsX1_remember) := goodIn_app (goodIn_of _ (by decide +kernel)) ggX4_set_X1_remember
theorem dX4_set_0 : decode cX4_set 0 = .ok (.aload_n 0, 1) := by decide +kernel
theorem dX4_set_1 : decode cX4_set 1 = .ok (.iload_n 1, 1) := by decide +kernel
theorem dX4_set_2 : decode cX4_set 2 = .ok (.invokevirtual 58, 3) := by decide +kernel
theorem dX4_set_5 : decode cX4_set 5 = .ok (.astore 5, 2) := by decide +kernel
theorem dX4_set_7 : decode cX4_set 7 = .ok (.aload 5, 2) := by decide +kernel
theorem dX4_set_9 : decode cX4_set 9 = .ok (.ifnull 13, 3) := by decide +kernel
theorem dX4_set_12 : decode cX4_set 12 = .ok (.aload 5, 2) := by decide +kernel
theorem dX4_set_14 : decode cX4_set 14 = .ok (.iload_n 2, 1) := by decide +kernel
theorem dX4_set_15 : decode cX4_set 15 = .ok (.iload_n 3, 1) := by decide +kernel
theorem dX4_set_16 : decode cX4_set 16 = .ok (.invokevirtual 66, 3) := by decide +kernel
theorem dX4_set_19 : decode cX4_set 19 = .ok (.ifCond .ne 5, 3) := by decide +kernel
theorem dX4_set_22 : decode cX4_set 22 = .ok (.iconst 0, 1) := by decide +kernel
theorem dX4_set_23 : decode cX4_set 23 = .ok (.ireturn, 1) := by decide +kernel
theorem dX4_set_24 : decode cX4_set 24 = .ok (.aload_n 0, 1) := by decide +kernel
theorem dX4_set_25 : decode cX4_set 25 = .ok (.getfield 25, 3) := by decide +kernel
theorem dX4_set_28 : decode cX4_set 28 = .ok (.iload_n 1, 1) := by decide +kernel
theorem dX4_set_29 : decode cX4_set 29 = .ok (.aload 5, 2) := by decide +kernel
theorem dX4_set_31 : decode cX4_set 31 = .ok (.iconst (-1), 1) := by decide +kernel
theorem dX4_set_32 : decode cX4_set 32 = .ok (.invokevirtual 70, 3) := by decide +kernel
theorem dX4_set_35 : decode cX4_set 35 = .ok (.lconst 1, 1) := by decide +kernel
theorem dX4_set_36 : decode cX4_set 36 = .ok (.iload_n 2, 1) := by decide +kernel
theorem dX4_set_37 : decode cX4_set 37 = .ok (.lshl, 1) := by decide +kernel
theorem dX4_set_38 : decode cX4_set 38 = .ok (.lstore 6, 2) := by decide +kernel
theorem dX4_set_40 : decode cX4_set 40 = .ok (.aload 5, 2) := by decide +kernel
theorem dX4_set_42 : decode cX4_set 42 = .ok (.getfield 74, 3) := by decide +kernel
theorem dX4_set_45 : decode cX4_set 45 = .ok (.iload_n 3, 1) := by decide +kernel
theorem dX4_set_46 : decode cX4_set 46 = .ok (.iload 4, 2) := by decide +kernel
theorem dX4_set_48 : decode cX4_set 48 = .ok (.ifCond .eq 16, 3) := by decide +kernel
theorem dX4_set_51 : decode cX4_set 51 = .ok (.aload 5, 2) := by decide +kernel
theorem dX4_set_53 : decode cX4_set 53 = .ok (.getfield 74, 3) := by decide +kernel
theorem dX4_set_56 : decode cX4_set 56 = .ok (.iload_n 3, 1) := by decide +kernel
theorem dX4_set_57 : decode cX4_set 57 = .ok (.laload, 1) := by decide +kernel
theorem dX4_set_58 : decode cX4_set 58 = .ok (.lload 6, 2) := by decide +kernel
theorem dX4_set_60 : decode cX4_set 60 = .ok (.lor, 1) := by decide +kernel
theorem dX4_set_61 : decode cX4_set 61 = .ok (.goto 17, 3) := by decide +kernel
theorem dX4_set_64 : decode cX4_set 64 = .ok (.aload 5, 2) := by decide +kernel
theorem dX4_set_66 : decode cX4_set 66 = .ok (.getfield 74, 3) := by decide +kernel
theorem dX4_set_69 : decode cX4_set 69 = .ok (.iload_n 3, 1) := by decide +kernel
theorem dX4_set_70 : decode cX4_set 70 = .ok (.laload, 1) := by decide +kernel
theorem dX4_set_71 : decode cX4_set 71 = .ok (.lload 6, 2) := by decide +kernel
theorem dX4_set_73 : decode cX4_set 73 = .ok (.ldc2_w 78, 3) := by decide +kernel
theorem dX4_set_76 : decode cX4_set 76 = .ok (.lxor, 1) := by decide +kernel
theorem dX4_set_77 : decode cX4_set 77 = .ok (.land, 1) := by decide +kernel
theorem dX4_set_78 : decode cX4_set 78 = .ok (.lastore, 1) := by decide +kernel
theorem dX4_set_79 : decode cX4_set 79 = .ok (.iconst 1, 1) := by decide +kernel
theorem dX4_set_80 : decode cX4_set 80 = .ok (.ireturn, 1) := by decide +kernel
set_option maxRecDepth 20000 in
theorem ggX4_line_X4_find : GoodIn wsX4_line wsX4_find := goodIn_r _ [7, 8, 9, 10, 11, 6, 12, 64, 65, 66, 67, 68, 69, 70, 71] (by decide +kernel) (by decide +kernel)
set_option maxRecDepth 20000 in
theorem gX4_line_X4_find : GoodIn wsX4_line (wsV RX4 58 RX4 yX4_find wsX4_find) := goodIn_app (goodIn_of _ (by decide +kernel)) ggX4_line_X4_find
set_option maxRecDepth 20000 in
theorem ggX4_line_X2_hasRow : GoodIn wsX4_line wsX2_hasRow := goodIn_r _ [17, 18, 72, 73, 74] (by decide +kernel) (by decide +kernel)
set_option maxRecDepth 20000 in
theorem gX4_line_X2_hasRow : GoodIn wsX4_line (wsV RX4 80 RX2 yX2_hasRow wsX2_hasRow) := goodIn_app (goodIn_of _ (by decide +kernel)) ggX4_line_X2_hasRow
set_option maxRecDepth 20000 in
theorem ggX4_line_X1_remember : GoodIn wsX4_line wsX1_remember := goodIn_r _ [23, 24, 25, 26, 27, 28, 29, 30, 31, 32, 33, 34, 35, 36, 16, 37, 38, 18, 39, 40, 41, 42, 43, 44, 45, 46, 47, 48, 49, 50, 51, 75, 76, 77, 78, 79, 80, 72, 73, 74] (by decide +kernel) (by decide +kernel)
set_option maxRecDepth 20000 in
theorem gX4_line_X1_remember : GoodIn wsX4_line (wsV RX4 70 RX1 yX1_remember wsX1_remember) := goodIn_app (goodIn_of _ (by decide +kernel)) ggX4_line_X1_remember
set_option maxRecDepth 20000 in
theorem ggX4_line_X2_allColumns : GoodIn wsX4_line wsX2_allColumns := goodIn_r _ [55, 38, 56, 72, 73, 74] (by decide +kernel) (by decide +kernel)
set_option maxRecDepth 20000 in
theorem gX4_line_X2_allColumns : GoodIn wsX4_line (wsV RX4 84 RX2 yX2_allColumns wsX2_allColumns) := goodIn_app (goodIn_of _ (by decide +kernel)) ggX4_line_X2_allColumns
set_option maxRecDepth 20000 in
theorem ggX4_line_J13_bitCount_95d88 : GoodIn wsX4_line wsJ13_bitCount_95d88 := goodIn_r _ [60, 61, 62, 63] (by decide +kernel) (by decide +kernel)
set_option maxRecDepth 20000 in
theorem gX4_line_J13_bitCount_95d88 : GoodIn wsX4_line (va_wsS RX4 88 yJ13_bitCount_95d88 wsJ13_bitCount_95d88) := goodIn_app (goodIn_of _ (by decide +kernel)) ggX4_line_J13_bitCount_95d88
theorem dX4_line_0 : decode cX4_line 0 = .ok (.aload_n 0, 1) := by decide +kernel
theorem dX4_line_1 : decode cX4_line 1 = .ok (.iload_n 1, 1) := by decide +kernel
theorem dX4_line_2 : decode cX4_line 2 = .ok (.invokevirtual 58, 3) := by decide +kernel
theorem dX4_line_5 : decode cX4_line 5 = .ok (.astore 5, 2) := by decide +kernel
theorem dX4_line_7 : decode cX4_line 7 = .ok (.aload 5, 2) := by decide +kernel
theorem dX4_line_9 : decode cX4_line 9 = .ok (.ifnull 12, 3) := by decide +kernel
theorem dX4_line_12 : decode cX4_line 12 = .ok (.aload 5, 2) := by decide +kernel
theorem dX4_line_14 : decode cX4_line 14 = .ok (.iload_n 2, 1) := by decide +kernel
theorem dX4_line_15 : decode cX4_line 15 = .ok (.invokevirtual 80, 3) := by decide +kernel
theorem dX4_line_18 : decode cX4_line 18 = .ok (.ifCond .ne 5, 3) := by decide +kernel
theorem dX4_line_21 : decode cX4_line 21 = .ok (.iconst (-1), 1) := by decide +kernel
theorem dX4_line_22 : decode cX4_line 22 = .ok (.ireturn, 1) := by decide +kernel
theorem dX4_line_23 : decode cX4_line 23 = .ok (.aload_n 0, 1) := by decide +kernel
theorem dX4_line_24 : decode cX4_line 24 = .ok (.getfield 25, 3) := by decide +kernel
theorem dX4_line_27 : decode cX4_line 27 = .ok (.iload_n 1, 1) := by decide +kernel
theorem dX4_line_28 : decode cX4_line 28 = .ok (.aload 5, 2) := by decide +kernel
theorem dX4_line_30 : decode cX4_line 30 = .ok (.iconst (-1), 1) := by decide +kernel
theorem dX4_line_31 : decode cX4_line 31 = .ok (.invokevirtual 70, 3) := by decide +kernel
theorem dX4_line_34 : decode cX4_line 34 = .ok (.aload 5, 2) := by decide +kernel
theorem dX4_line_36 : decode cX4_line 36 = .ok (.getfield 74, 3) := by decide +kernel
theorem dX4_line_39 : decode cX4_line 39 = .ok (.iload_n 2, 1) := by decide +kernel
theorem dX4_line_40 : decode cX4_line 40 = .ok (.lload_n 3, 1) := by decide +kernel
theorem dX4_line_41 : decode cX4_line 41 = .ok (.aload 5, 2) := by decide +kernel
theorem dX4_line_43 : decode cX4_line 43 = .ok (.invokevirtual 84, 3) := by decide +kernel
theorem dX4_line_46 : decode cX4_line 46 = .ok (.land, 1) := by decide +kernel
theorem dX4_line_47 : decode cX4_line 47 = .ok (.lastore, 1) := by decide +kernel
theorem dX4_line_48 : decode cX4_line 48 = .ok (.aload 5, 2) := by decide +kernel
theorem dX4_line_50 : decode cX4_line 50 = .ok (.getfield 74, 3) := by decide +kernel
theorem dX4_line_53 : decode cX4_line 53 = .ok (.iload_n 2, 1) := by decide +kernel
theorem dX4_line_54 : decode cX4_line 54 = .ok (.laload, 1) := by decide +kernel
theorem dX4_line_55 : decode cX4_line 55 = .ok (.invokestatic 88, 3) := by decide +kernel
theorem dX4_line_58 : decode cX4_line 58 = .ok (.ireturn, 1) := by decide +kernel
set_option maxRecDepth 20000 in
theorem ggX4_lay_X4_find : GoodIn wsX4_lay wsX4_find := goodIn_r _ [12, 13, 14, 15, 16, 11, 17, 43, 44, 45, 46, 47, 48, 49, 50] (by decide +kernel) (by decide +kernel)
set_option maxRecDepth 20000 in
theorem gX4_lay_X4_find : GoodIn wsX4_lay (wsV RX4 58 RX4 yX4_find wsX4_find) := goodIn_app (goodIn_of _ (by decide +kernel)) ggX4_lay_X4_find
set_option maxRecDepth 20000 in
theorem ggX4_lay_X2_hasRow : GoodIn wsX4_lay wsX2_hasRow := goodIn_r _ [22, 23, 51, 52, 53] (by decide +kernel) (by decide +kernel)
set_option maxRecDepth 20000 in
theorem gX4_lay_X2_hasRow : GoodIn wsX4_lay (wsV RX4 80 RX2 yX2_hasRow wsX2_hasRow) := goodIn_app (goodIn_of _ (by decide +kernel)) ggX4_lay_X2_hasRow
set_option maxRecDepth 20000 in
theorem ggX4_lay_X4_within : GoodIn wsX4_lay wsX4_within := goodIn_r _ [17] (by decide +kernel) (by decide +kernel)
set_option maxRecDepth 20000 in
theorem gX4_lay_X4_within : GoodIn wsX4_lay (va_wsS RX4 50 yX4_within wsX4_within) := goodIn_app (goodIn_of _ (by decide +kernel)) ggX4_lay_X4_within
set_option maxRecDepth 20000 in
theorem ggX4_lay_X1_forget : GoodIn wsX4_lay wsX1_forget := goodIn_r _ [28, 29, 54, 55, 56] (by decide +kernel) (by decide +kernel)
set_option maxRecDepth 20000 in
theorem gX4_lay_X1_forget : GoodIn wsX4_lay (wsV RX4 94 RX1 yX1_forget wsX1_forget) := goodIn_app (goodIn_of _ (by decide +kernel)) ggX4_lay_X1_forget
set_option maxRecDepth 20000 in
theorem ggX4_lay_X4_entryBits : GoodIn wsX4_lay wsX4_entryBits := goodIn_r _ [32, 33, 34, 35, 36] (by decide +kernel) (by decide +kernel)
set_option maxRecDepth 20000 in
theorem gX4_lay_X4_entryBits : GoodIn wsX4_lay (va_wsS RX4 106 yX4_entryBits wsX4_entryBits) := goodIn_app (goodIn_of _ (by decide +kernel)) ggX4_lay_X4_entryBits
set_option maxRecDepth 20000 in
theorem ggX4_lay_X2_allColumns : GoodIn wsX4_lay wsX2_allColumns := goodIn_r _ [40, 41, 42, 51, 52, 53] (by decide +kernel) (by decide +kernel)
set_option maxRecDepth 20000 in
theorem gX4_lay_X2_allColumns : GoodIn wsX4_lay (wsV RX4 84 RX2 yX2_allColumns wsX2_allColumns) := goodIn_app (goodIn_of _ (by decide +kernel)) ggX4_lay_X2_allColumns
theorem dX4_lay_0 : decode cX4_lay 0 = .ok (.aload_n 0, 1) := by decide +kernel
theorem dX4_lay_1 : decode cX4_lay 1 = .ok (.iload_n 1, 1) := by decide +kernel
theorem dX4_lay_2 : decode cX4_lay 2 = .ok (.invokevirtual 58, 3) := by decide +kernel
theorem dX4_lay_5 : decode cX4_lay 5 = .ok (.astore 9, 2) := by decide +kernel
theorem dX4_lay_7 : decode cX4_lay 7 = .ok (.aload 9, 2) := by decide +kernel
theorem dX4_lay_9 : decode cX4_lay 9 = .ok (.ifnull 28, 3) := by decide +kernel
theorem dX4_lay_12 : decode cX4_lay 12 = .ok (.aload 9, 2) := by decide +kernel
theorem dX4_lay_14 : decode cX4_lay 14 = .ok (.iload_n 2, 1) := by decide +kernel
theorem dX4_lay_15 : decode cX4_lay 15 = .ok (.invokevirtual 80, 3) := by decide +kernel
theorem dX4_lay_18 : decode cX4_lay 18 = .ok (.ifCond .eq 19, 3) := by decide +kernel
theorem dX4_lay_21 : decode cX4_lay 21 = .ok (.iload_n 3, 1) := by decide +kernel
theorem dX4_lay_22 : decode cX4_lay 22 = .ok (.iconst 0, 1) := by decide +kernel
theorem dX4_lay_23 : decode cX4_lay 23 = .ok (.iconst 4, 1) := by decide +kernel
theorem dX4_lay_24 : decode cX4_lay 24 = .ok (.invokestatic 50, 3) := by decide +kernel
theorem dX4_lay_27 : decode cX4_lay 27 = .ok (.ifCond .eq 10, 3) := by decide +kernel
theorem dX4_lay_30 : decode cX4_lay 30 = .ok (.iload 4, 2) := by decide +kernel
theorem dX4_lay_32 : decode cX4_lay 32 = .ok (.bipush 64, 2) := by decide +kernel
theorem dX4_lay_34 : decode cX4_lay 34 = .ok (.if_icmp .le 5, 3) := by decide +kernel
theorem dX4_lay_37 : decode cX4_lay 37 = .ok (.iconst (-1), 1) := by decide +kernel
theorem dX4_lay_38 : decode cX4_lay 38 = .ok (.ireturn, 1) := by decide +kernel
theorem dX4_lay_39 : decode cX4_lay 39 = .ok (.iload 4, 2) := by decide +kernel
theorem dX4_lay_41 : decode cX4_lay 41 = .ok (.ifCond .ge 11, 3) := by decide +kernel
theorem dX4_lay_44 : decode cX4_lay 44 = .ok (.iload_n 3, 1) := by decide +kernel
theorem dX4_lay_45 : decode cX4_lay 45 = .ok (.iconst 4, 1) := by decide +kernel
theorem dX4_lay_46 : decode cX4_lay 46 = .ok (.if_icmp .eq 6, 3) := by decide +kernel
theorem dX4_lay_49 : decode cX4_lay 49 = .ok (.bipush (-2), 2) := by decide +kernel
theorem dX4_lay_51 : decode cX4_lay 51 = .ok (.ireturn, 1) := by decide +kernel
theorem dX4_lay_52 : decode cX4_lay 52 = .ok (.aload_n 0, 1) := by decide +kernel
theorem dX4_lay_53 : decode cX4_lay 53 = .ok (.getfield 25, 3) := by decide +kernel
theorem dX4_lay_56 : decode cX4_lay 56 = .ok (.invokevirtual 94, 3) := by decide +kernel
theorem dX4_lay_59 : decode cX4_lay 59 = .ok (.iload_n 3, 1) := by decide +kernel
theorem dX4_lay_60 : decode cX4_lay 60 = .ok (.iconst 4, 1) := by decide +kernel
theorem dX4_lay_61 : decode cX4_lay 61 = .ok (.if_icmp .ne 5, 3) := by decide +kernel
theorem dX4_lay_64 : decode cX4_lay 64 = .ok (.iconst 0, 1) := by decide +kernel
theorem dX4_lay_65 : decode cX4_lay 65 = .ok (.ireturn, 1) := by decide +kernel
theorem dX4_lay_66 : decode cX4_lay 66 = .ok (.iload 4, 2) := by decide +kernel
theorem dX4_lay_68 : decode cX4_lay 68 = .ok (.aload 9, 2) := by decide +kernel
theorem dX4_lay_70 : decode cX4_lay 70 = .ok (.getfield 97, 3) := by decide +kernel
theorem dX4_lay_73 : decode cX4_lay 73 = .ok (.iload_n 2, 1) := by decide +kernel
theorem dX4_lay_74 : decode cX4_lay 74 = .ok (.isub, 1) := by decide +kernel
theorem dX4_lay_75 : decode cX4_lay 75 = .ok (.invokestatic 100, 3) := by decide +kernel
theorem dX4_lay_78 : decode cX4_lay 78 = .ok (.istore 10, 2) := by decide +kernel
theorem dX4_lay_80 : decode cX4_lay 80 = .ok (.iload_n 3, 1) := by decide +kernel
theorem dX4_lay_81 : decode cX4_lay 81 = .ok (.invokestatic 106, 3) := by decide +kernel
theorem dX4_lay_84 : decode cX4_lay 84 = .ok (.aload 9, 2) := by decide +kernel
theorem dX4_lay_86 : decode cX4_lay 86 = .ok (.invokevirtual 84, 3) := by decide +kernel
theorem dX4_lay_89 : decode cX4_lay 89 = .ok (.land, 1) := by decide +kernel
theorem dX4_lay_90 : decode cX4_lay 90 = .ok (.lstore 11, 2) := by decide +kernel
theorem dX4_lay_92 : decode cX4_lay 92 = .ok (.iconst 0, 1) := by decide +kernel
theorem dX4_lay_93 : decode cX4_lay 93 = .ok (.istore 13, 2) := by decide +kernel
theorem dX4_lay_95 : decode cX4_lay 95 = .ok (.iload 13, 2) := by decide +kernel
theorem dX4_lay_97 : decode cX4_lay 97 = .ok (.iload 10, 2) := by decide +kernel
theorem dX4_lay_99 : decode cX4_lay 99 = .ok (.if_icmp .ge 31, 3) := by decide +kernel
theorem dX4_lay_102 : decode cX4_lay 102 = .ok (.aload 9, 2) := by decide +kernel
theorem dX4_lay_104 : decode cX4_lay 104 = .ok (.getfield 74, 3) := by decide +kernel
theorem dX4_lay_107 : decode cX4_lay 107 = .ok (.iload_n 2, 1) := by decide +kernel
theorem dX4_lay_108 : decode cX4_lay 108 = .ok (.iload 13, 2) := by decide +kernel
theorem dX4_lay_110 : decode cX4_lay 110 = .ok (.iadd, 1) := by decide +kernel
theorem dX4_lay_111 : decode cX4_lay 111 = .ok (.lload 5, 2) := by decide +kernel
theorem dX4_lay_113 : decode cX4_lay 113 = .ok (.iload 13, 2) := by decide +kernel
theorem dX4_lay_115 : decode cX4_lay 115 = .ok (.i2l, 1) := by decide +kernel
theorem dX4_lay_116 : decode cX4_lay 116 = .ok (.lload 7, 2) := by decide +kernel
theorem dX4_lay_118 : decode cX4_lay 118 = .ok (.lmul, 1) := by decide +kernel
theorem dX4_lay_119 : decode cX4_lay 119 = .ok (.ladd, 1) := by decide +kernel
theorem dX4_lay_120 : decode cX4_lay 120 = .ok (.lload 11, 2) := by decide +kernel
theorem dX4_lay_122 : decode cX4_lay 122 = .ok (.land, 1) := by decide +kernel
theorem dX4_lay_123 : decode cX4_lay 123 = .ok (.lastore, 1) := by decide +kernel
theorem dX4_lay_124 : decode cX4_lay 124 = .ok (.iinc 13 1, 3) := by decide +kernel
theorem dX4_lay_127 : decode cX4_lay 127 = .ok (.goto (-32), 3) := by decide +kernel
theorem dX4_lay_130 : decode cX4_lay 130 = .ok (.iload 10, 2) := by decide +kernel
theorem dX4_lay_132 : decode cX4_lay 132 = .ok (.ireturn, 1) := by decide +kernel
set_option maxRecDepth 20000 in
theorem ggX4_at_X4_find : GoodIn wsX4_at wsX4_find := goodIn_r _ [6, 7, 8, 9, 10, 5, 11, 26, 27, 28, 29, 30, 31, 32, 33] (by decide +kernel) (by decide +kernel)
set_option maxRecDepth 20000 in
theorem gX4_at_X4_find : GoodIn wsX4_at (wsV RX4 58 RX4 yX4_find wsX4_find) := goodIn_app (goodIn_of _ (by decide +kernel)) ggX4_at_X4_find
set_option maxRecDepth 20000 in
theorem ggX4_at_X2_hasPoint : GoodIn wsX4_at wsX2_hasPoint := goodIn_r _ [16, 17, 10, 5, 11, 18, 19, 20, 15, 21, 22, 23, 24, 25] (by decide +kernel) (by decide +kernel)
set_option maxRecDepth 20000 in
theorem gX4_at_X2_hasPoint : GoodIn wsX4_at (wsV RX4 66 RX2 yX2_hasPoint wsX2_hasPoint) := goodIn_app (goodIn_of _ (by decide +kernel)) ggX4_at_X2_hasPoint
theorem dX4_at_0 : decode cX4_at 0 = .ok (.aload_n 0, 1) := by decide +kernel
theorem dX4_at_1 : decode cX4_at 1 = .ok (.iload_n 1, 1) := by decide +kernel
theorem dX4_at_2 : decode cX4_at 2 = .ok (.invokevirtual 58, 3) := by decide +kernel
theorem dX4_at_5 : decode cX4_at 5 = .ok (.astore 4, 2) := by decide +kernel
theorem dX4_at_7 : decode cX4_at 7 = .ok (.aload 4, 2) := by decide +kernel
theorem dX4_at_9 : decode cX4_at 9 = .ok (.ifnull 13, 3) := by decide +kernel
theorem dX4_at_12 : decode cX4_at 12 = .ok (.aload 4, 2) := by decide +kernel
theorem dX4_at_14 : decode cX4_at 14 = .ok (.iload_n 2, 1) := by decide +kernel
theorem dX4_at_15 : decode cX4_at 15 = .ok (.iload_n 3, 1) := by decide +kernel
theorem dX4_at_16 : decode cX4_at 16 = .ok (.invokevirtual 66, 3) := by decide +kernel
theorem dX4_at_19 : decode cX4_at 19 = .ok (.ifCond .ne 5, 3) := by decide +kernel
theorem dX4_at_22 : decode cX4_at 22 = .ok (.iconst (-1), 1) := by decide +kernel
theorem dX4_at_23 : decode cX4_at 23 = .ok (.ireturn, 1) := by decide +kernel
theorem dX4_at_24 : decode cX4_at 24 = .ok (.aload 4, 2) := by decide +kernel
theorem dX4_at_26 : decode cX4_at 26 = .ok (.getfield 74, 3) := by decide +kernel
theorem dX4_at_29 : decode cX4_at 29 = .ok (.iload_n 3, 1) := by decide +kernel
theorem dX4_at_30 : decode cX4_at 30 = .ok (.laload, 1) := by decide +kernel
theorem dX4_at_31 : decode cX4_at 31 = .ok (.iload_n 2, 1) := by decide +kernel
theorem dX4_at_32 : decode cX4_at 32 = .ok (.lushr, 1) := by decide +kernel
theorem dX4_at_33 : decode cX4_at 33 = .ok (.lconst 1, 1) := by decide +kernel
theorem dX4_at_34 : decode cX4_at 34 = .ok (.land, 1) := by decide +kernel
theorem dX4_at_35 : decode cX4_at 35 = .ok (.lconst 1, 1) := by decide +kernel
theorem dX4_at_36 : decode cX4_at 36 = .ok (.lcmp, 1) := by decide +kernel
theorem dX4_at_37 : decode cX4_at 37 = .ok (.ifCond .ne 7, 3) := by decide +kernel
theorem dX4_at_40 : decode cX4_at 40 = .ok (.iconst 1, 1) := by decide +kernel
theorem dX4_at_41 : decode cX4_at 41 = .ok (.goto 4, 3) := by decide +kernel
theorem dX4_at_44 : decode cX4_at 44 = .ok (.iconst 0, 1) := by decide +kernel
theorem dX4_at_45 : decode cX4_at 45 = .ok (.ireturn, 1) := by decide +kernel
set_option maxRecDepth 20000 in
theorem ggX4_row_X4_find : GoodIn wsX4_row wsX4_find := goodIn_r _ [8, 9, 10, 11, 12, 7, 13, 23, 24, 25, 26, 27, 28, 29, 30] (by decide +kernel) (by decide +kernel)
set_option maxRecDepth 20000 in
theorem gX4_row_X4_find : GoodIn wsX4_row (wsV RX4 58 RX4 yX4_find wsX4_find) := goodIn_app (goodIn_of _ (by decide +kernel)) ggX4_row_X4_find
set_option maxRecDepth 20000 in
theorem ggX4_row_X2_hasRow : GoodIn wsX4_row wsX2_hasRow := goodIn_r _ [18, 19, 20, 21, 22] (by decide +kernel) (by decide +kernel)
set_option maxRecDepth 20000 in
theorem gX4_row_X2_hasRow : GoodIn wsX4_row (wsV RX4 80 RX2 yX2_hasRow wsX2_hasRow) := goodIn_app (goodIn_of _ (by decide +kernel)) ggX4_row_X2_hasRow
theorem dX4_row_0 : decode cX4_row 0 = .ok (.aload_n 0, 1) := by decide +kernel
theorem dX4_row_1 : decode cX4_row 1 = .ok (.iload_n 1, 1) := by decide +kernel
theorem dX4_row_2 : decode cX4_row 2 = .ok (.invokevirtual 58, 3) := by decide +kernel
theorem dX4_row_5 : decode cX4_row 5 = .ok (.astore_n 3, 1) := by decide +kernel
theorem dX4_row_6 : decode cX4_row 6 = .ok (.aload_n 3, 1) := by decide +kernel
theorem dX4_row_7 : decode cX4_row 7 = .ok (.ifnull 11, 3) := by decide +kernel
theorem dX4_row_10 : decode cX4_row 10 = .ok (.aload_n 3, 1) := by decide +kernel
theorem dX4_row_11 : decode cX4_row 11 = .ok (.iload_n 2, 1) := by decide +kernel
theorem dX4_row_12 : decode cX4_row 12 = .ok (.invokevirtual 80, 3) := by decide +kernel
theorem dX4_row_15 : decode cX4_row 15 = .ok (.ifCond .ne 13, 3) := by decide +kernel
theorem dX4_row_18 : decode cX4_row 18 = .ok (.new 110, 3) := by decide +kernel
theorem dX4_row_21 : decode cX4_row 21 = .ok (.dup, 1) := by decide +kernel
theorem dX4_row_22 : decode cX4_row 22 = .ok (.ldc 112, 2) := by decide +kernel
theorem dX4_row_24 : decode cX4_row 24 = .ok (.invokespecial 114, 3) := by decide +kernel
theorem dX4_row_27 : decode cX4_row 27 = .ok (.athrow, 1) := by decide +kernel
theorem dX4_row_28 : decode cX4_row 28 = .ok (.aload_n 3, 1) := by decide +kernel
theorem dX4_row_29 : decode cX4_row 29 = .ok (.getfield 74, 3) := by decide +kernel
theorem dX4_row_32 : decode cX4_row 32 = .ok (.iload_n 2, 1) := by decide +kernel
theorem dX4_row_33 : decode cX4_row 33 = .ok (.laload, 1) := by decide +kernel
theorem dX4_row_34 : decode cX4_row 34 = .ok (.lreturn, 1) := by decide +kernel
set_option maxRecDepth 20000 in
theorem ggX4_of_X4_find : GoodIn wsX4_of wsX4_find := goodIn_r _ [8, 9, 10, 11, 12, 7, 13, 119, 120, 121, 122, 123, 124, 125, 126] (by decide +kernel) (by decide +kernel)
set_option maxRecDepth 20000 in
theorem gX4_of_X4_find : GoodIn wsX4_of (wsV RX4 58 RX4 yX4_find wsX4_find) := goodIn_app (goodIn_of _ (by decide +kernel)) ggX4_of_X4_find
set_option maxRecDepth 20000 in
theorem ggX4_of_X2_ink : GoodIn wsX4_of wsX2_ink := goodIn_r _ [18, 19, 20, 21, 22, 23, 24, 25, 26, 27, 116, 117, 118] (by decide +kernel) (by decide +kernel)
set_option maxRecDepth 20000 in
theorem gX4_of_X2_ink : GoodIn wsX4_of (wsV RX4 120 RX2 yX2_ink wsX2_ink) := goodIn_app (goodIn_of _ (by decide +kernel)) ggX4_of_X2_ink
set_option maxRecDepth 20000 in
theorem ggX4_of_X2_inkedRows : GoodIn wsX4_of wsX2_inkedRows := goodIn_r _ [31, 19, 20, 116, 117, 118] (by decide +kernel) (by decide +kernel)
set_option maxRecDepth 20000 in
theorem gX4_of_X2_inkedRows : GoodIn wsX4_of (wsV RX4 124 RX2 yX2_inkedRows wsX2_inkedRows) := goodIn_app (goodIn_of _ (by decide +kernel)) ggX4_of_X2_inkedRows
set_option maxRecDepth 20000 in
theorem ggX4_of_J13_bitCount_95d88 : GoodIn wsX4_of wsJ13_bitCount_95d88 := goodIn_r _ [24, 25, 26, 27] (by decide +kernel) (by decide +kernel)
set_option maxRecDepth 20000 in
theorem gX4_of_J13_bitCount_95d88 : GoodIn wsX4_of (va_wsS RX4 88 yJ13_bitCount_95d88 wsJ13_bitCount_95d88) := goodIn_app (goodIn_of _ (by decide +kernel)) ggX4_of_J13_bitCount_95d88
set_option maxRecDepth 20000 in
theorem ggX4_of_X2_inkedColumns : GoodIn wsX4_of wsX2_inkedColumns := goodIn_r _ [36, 19, 20, 116, 117, 118] (by decide +kernel) (by decide +kernel)
set_option maxRecDepth 20000 in
theorem gX4_of_X2_inkedColumns : GoodIn wsX4_of (wsV RX4 127 RX2 yX2_inkedColumns wsX2_inkedColumns) := goodIn_app (goodIn_of _ (by decide +kernel)) ggX4_of_X2_inkedColumns
set_option maxRecDepth 20000 in
theorem ggX4_of_X3_number : GoodIn wsX4_of wsX3_number := goodIn_r _ [41, 42, 43, 44, 40, 45, 46, 47, 48, 49, 50, 51, 52, 53, 54, 55, 17, 56, 57, 19, 20, 58, 59, 60, 61, 62, 63, 64, 65, 66, 67, 68, 69, 70, 71, 72, 73, 74, 75, 76, 77, 78, 79, 80, 81, 82, 83, 84, 85, 86, 87, 88, 89, 90, 91, 92, 93, 94, 95, 96, 97, 98, 99, 100, 101, 102, 22, 23, 24, 25, 26, 27, 103, 7, 104, 32, 105, 106, 107, 108, 109, 110, 111, 127, 128, 129, 130, 131, 132, 133, 134, 135, 136, 116, 117, 118] (by decide +kernel) (by decide +kernel)
set_option maxRecDepth 20000 in
theorem gX4_of_X3_number : GoodIn wsX4_of (wsV RX4 130 RX3 yX3_number wsX3_number) := goodIn_app (goodIn_of _ (by decide +kernel)) ggX4_of_X3_number
set_option maxRecDepth 20000 in
theorem ggX4_of_X3_largest : GoodIn wsX4_of wsX3_largest := goodIn_r _ [115, 81, 92, 93, 90, 94, 42, 43, 44, 40, 45, 46, 47, 48, 49, 50, 51, 52, 53, 54, 55, 17, 56, 57, 19, 20, 58, 59, 60, 61, 62, 63, 64, 65, 66, 67, 68, 69, 70, 71, 72, 73, 74, 75, 76, 77, 78, 79, 80, 82, 83, 84, 85, 86, 87, 88, 89, 91, 95, 96, 97, 98, 99, 100, 101, 102, 22, 23, 24, 25, 26, 27, 103, 7, 104, 32, 105, 106, 107, 108, 109, 110, 111, 127, 128, 129, 130, 131, 132, 133, 134, 135, 136, 116, 117, 118] (by decide +kernel) (by decide +kernel)
set_option maxRecDepth 20000 in
theorem gX4_of_X3_largest : GoodIn wsX4_of (wsV RX4 134 RX3 yX3_largest wsX3_largest) := goodIn_app (goodIn_of _ (by decide +kernel)) ggX4_of_X3_largest
theorem dX4_of_0 : decode cX4_of 0 = .ok (.aload_n 0, 1) := by decide +kernel
theorem dX4_of_1 : decode cX4_of 1 = .ok (.iload_n 1, 1) := by decide +kernel
theorem dX4_of_2 : decode cX4_of 2 = .ok (.invokevirtual 58, 3) := by decide +kernel
theorem dX4_of_5 : decode cX4_of 5 = .ok (.astore_n 3, 1) := by decide +kernel
theorem dX4_of_6 : decode cX4_of 6 = .ok (.aload_n 3, 1) := by decide +kernel
theorem dX4_of_7 : decode cX4_of 7 = .ok (.ifnonnull 5, 3) := by decide +kernel
theorem dX4_of_10 : decode cX4_of 10 = .ok (.iconst (-1), 1) := by decide +kernel
theorem dX4_of_11 : decode cX4_of 11 = .ok (.ireturn, 1) := by decide +kernel
theorem dX4_of_12 : decode cX4_of 12 = .ok (.iload_n 2, 1) := by decide +kernel
theorem dX4_of_13 : decode cX4_of 13 = .ok (.tableswitch 92 0 6 #[43, 48, 53, 58, 66, 74, 83], 43) := by decide +kernel
theorem dX4_of_56 : decode cX4_of 56 = .ok (.aload_n 3, 1) := by decide +kernel
theorem dX4_of_57 : decode cX4_of 57 = .ok (.getfield 117, 3) := by decide +kernel
theorem dX4_of_60 : decode cX4_of 60 = .ok (.ireturn, 1) := by decide +kernel
theorem dX4_of_61 : decode cX4_of 61 = .ok (.aload_n 3, 1) := by decide +kernel
theorem dX4_of_62 : decode cX4_of 62 = .ok (.getfield 97, 3) := by decide +kernel
theorem dX4_of_65 : decode cX4_of 65 = .ok (.ireturn, 1) := by decide +kernel
theorem dX4_of_66 : decode cX4_of 66 = .ok (.aload_n 3, 1) := by decide +kernel
theorem dX4_of_67 : decode cX4_of 67 = .ok (.invokevirtual 120, 3) := by decide +kernel
theorem dX4_of_70 : decode cX4_of 70 = .ok (.ireturn, 1) := by decide +kernel
theorem dX4_of_71 : decode cX4_of 71 = .ok (.aload_n 3, 1) := by decide +kernel
theorem dX4_of_72 : decode cX4_of 72 = .ok (.invokevirtual 124, 3) := by decide +kernel
theorem dX4_of_75 : decode cX4_of 75 = .ok (.invokestatic 88, 3) := by decide +kernel
theorem dX4_of_78 : decode cX4_of 78 = .ok (.ireturn, 1) := by decide +kernel
theorem dX4_of_79 : decode cX4_of 79 = .ok (.aload_n 3, 1) := by decide +kernel
theorem dX4_of_80 : decode cX4_of 80 = .ok (.invokevirtual 127, 3) := by decide +kernel
theorem dX4_of_83 : decode cX4_of 83 = .ok (.invokestatic 88, 3) := by decide +kernel
theorem dX4_of_86 : decode cX4_of 86 = .ok (.ireturn, 1) := by decide +kernel
theorem dX4_of_87 : decode cX4_of 87 = .ok (.aload_n 0, 1) := by decide +kernel
theorem dX4_of_88 : decode cX4_of 88 = .ok (.getfield 32, 3) := by decide +kernel
theorem dX4_of_91 : decode cX4_of 91 = .ok (.aload_n 3, 1) := by decide +kernel
theorem dX4_of_92 : decode cX4_of 92 = .ok (.invokevirtual 130, 3) := by decide +kernel
theorem dX4_of_95 : decode cX4_of 95 = .ok (.ireturn, 1) := by decide +kernel
theorem dX4_of_96 : decode cX4_of 96 = .ok (.aload_n 0, 1) := by decide +kernel
theorem dX4_of_97 : decode cX4_of 97 = .ok (.getfield 32, 3) := by decide +kernel
theorem dX4_of_100 : decode cX4_of 100 = .ok (.aload_n 3, 1) := by decide +kernel
theorem dX4_of_101 : decode cX4_of 101 = .ok (.invokevirtual 134, 3) := by decide +kernel
theorem dX4_of_104 : decode cX4_of 104 = .ok (.ireturn, 1) := by decide +kernel
theorem dX4_of_105 : decode cX4_of 105 = .ok (.iconst (-1), 1) := by decide +kernel
theorem dX4_of_106 : decode cX4_of 106 = .ok (.ireturn, 1) := by decide +kernel
set_option maxRecDepth 20000 in
theorem ggX4_count_X2_ink : GoodIn wsX4_count wsX2_ink := goodIn_r _ [10, 11, 12, 13, 14, 15, 16, 17, 18, 19, 31, 32, 33] (by decide +kernel) (by decide +kernel)
set_option maxRecDepth 20000 in
theorem gX4_count_X2_ink : GoodIn wsX4_count (wsV RX4 120 RX2 yX2_ink wsX2_ink) := goodIn_app (goodIn_of _ (by decide +kernel)) ggX4_count_X2_ink
theorem dX4_count_0 : decode cX4_count 0 = .ok (.iload_n 1, 1) := by decide +kernel
theorem dX4_count_1 : decode cX4_count 1 = .ok (.tableswitch 57 0 3 #[31, 36, 44, 52], 31) := by decide +kernel
theorem dX4_count_32 : decode cX4_count 32 = .ok (.aload_n 0, 1) := by decide +kernel
theorem dX4_count_33 : decode cX4_count 33 = .ok (.getfield 18, 3) := by decide +kernel
theorem dX4_count_36 : decode cX4_count 36 = .ok (.ireturn, 1) := by decide +kernel
theorem dX4_count_37 : decode cX4_count 37 = .ok (.aload_n 0, 1) := by decide +kernel
theorem dX4_count_38 : decode cX4_count 38 = .ok (.getfield 25, 3) := by decide +kernel
theorem dX4_count_41 : decode cX4_count 41 = .ok (.getfield 137, 3) := by decide +kernel
theorem dX4_count_44 : decode cX4_count 44 = .ok (.ireturn, 1) := by decide +kernel
theorem dX4_count_45 : decode cX4_count 45 = .ok (.aload_n 0, 1) := by decide +kernel
theorem dX4_count_46 : decode cX4_count 46 = .ok (.getfield 36, 3) := by decide +kernel
theorem dX4_count_49 : decode cX4_count 49 = .ok (.invokevirtual 120, 3) := by decide +kernel
theorem dX4_count_52 : decode cX4_count 52 = .ok (.ireturn, 1) := by decide +kernel
theorem dX4_count_53 : decode cX4_count 53 = .ok (.aload_n 0, 1) := by decide +kernel
theorem dX4_count_54 : decode cX4_count 54 = .ok (.getfield 47, 3) := by decide +kernel
theorem dX4_count_57 : decode cX4_count 57 = .ok (.ireturn, 1) := by decide +kernel
theorem dX4_count_58 : decode cX4_count 58 = .ok (.iconst (-1), 1) := by decide +kernel
theorem dX4_count_59 : decode cX4_count 59 = .ok (.ireturn, 1) := by decide +kernel
set_option maxRecDepth 20000 in
theorem ggX4_unlike_X4_find : GoodIn wsX4_unlike wsX4_find := goodIn_r _ [8, 9, 10, 11, 12, 7, 13, 17, 18, 19, 20, 21, 22, 23, 24] (by decide +kernel) (by decide +kernel)
set_option maxRecDepth 20000 in
theorem gX4_unlike_X4_find : GoodIn wsX4_unlike (wsV RX4 58 RX4 yX4_find wsX4_find) := goodIn_app (goodIn_of _ (by decide +kernel)) ggX4_unlike_X4_find
theorem dX4_unlike_0 : decode cX4_unlike 0 = .ok (.aload_n 0, 1) := by decide +kernel
theorem dX4_unlike_1 : decode cX4_unlike 1 = .ok (.iload_n 1, 1) := by decide +kernel
theorem dX4_unlike_2 : decode cX4_unlike 2 = .ok (.invokevirtual 58, 3) := by decide +kernel
theorem dX4_unlike_5 : decode cX4_unlike 5 = .ok (.astore_n 3, 1) := by decide +kernel
theorem dX4_unlike_6 : decode cX4_unlike 6 = .ok (.aload_n 0, 1) := by decide +kernel
theorem dX4_unlike_7 : decode cX4_unlike 7 = .ok (.iload_n 2, 1) := by decide +kernel
theorem dX4_unlike_8 : decode cX4_unlike 8 = .ok (.invokevirtual 58, 3) := by decide +kernel
theorem dX4_unlike_11 : decode cX4_unlike 11 = .ok (.astore 4, 2) := by decide +kernel
theorem dX4_unlike_13 : decode cX4_unlike 13 = .ok (.aload_n 3, 1) := by decide +kernel
theorem dX4_unlike_14 : decode cX4_unlike 14 = .ok (.ifnull 8, 3) := by decide +kernel
theorem dX4_unlike_17 : decode cX4_unlike 17 = .ok (.aload 4, 2) := by decide +kernel
theorem dX4_unlike_19 : decode cX4_unlike 19 = .ok (.ifnonnull 6, 3) := by decide +kernel
theorem dX4_unlike_22 : decode cX4_unlike 22 = .ok (.bipush (-2), 2) := by decide +kernel
theorem dX4_unlike_24 : decode cX4_unlike 24 = .ok (.ireturn, 1) := by decide +kernel
theorem dX4_unlike_25 : decode cX4_unlike 25 = .ok (.aload_n 3, 1) := by decide +kernel
theorem dX4_unlike_26 : decode cX4_unlike 26 = .ok (.getfield 117, 3) := by decide +kernel
theorem dX4_unlike_29 : decode cX4_unlike 29 = .ok (.aload 4, 2) := by decide +kernel
theorem dX4_unlike_31 : decode cX4_unlike 31 = .ok (.getfield 117, 3) := by decide +kernel
theorem dX4_unlike_34 : decode cX4_unlike 34 = .ok (.if_icmp .ne 15, 3) := by decide +kernel
theorem dX4_unlike_37 : decode cX4_unlike 37 = .ok (.aload_n 3, 1) := by decide +kernel
theorem dX4_unlike_38 : decode cX4_unlike 38 = .ok (.getfield 97, 3) := by decide +kernel
theorem dX4_unlike_41 : decode cX4_unlike 41 = .ok (.aload 4, 2) := by decide +kernel
theorem dX4_unlike_43 : decode cX4_unlike 43 = .ok (.getfield 97, 3) := by decide +kernel
theorem dX4_unlike_46 : decode cX4_unlike 46 = .ok (.if_icmp .eq 6, 3) := by decide +kernel
theorem dX4_unlike_49 : decode cX4_unlike 49 = .ok (.bipush 100, 2) := by decide +kernel
theorem dX4_unlike_51 : decode cX4_unlike 51 = .ok (.ireturn, 1) := by decide +kernel
theorem dX4_unlike_52 : decode cX4_unlike 52 = .ok (.iconst 0, 1) := by decide +kernel
theorem dX4_unlike_53 : decode cX4_unlike 53 = .ok (.istore 5, 2) := by decide +kernel
theorem dX4_unlike_55 : decode cX4_unlike 55 = .ok (.iload 5, 2) := by decide +kernel
theorem dX4_unlike_57 : decode cX4_unlike 57 = .ok (.aload_n 3, 1) := by decide +kernel
theorem dX4_unlike_58 : decode cX4_unlike 58 = .ok (.getfield 97, 3) := by decide +kernel
theorem dX4_unlike_61 : decode cX4_unlike 61 = .ok (.if_icmp .ge 31, 3) := by decide +kernel
theorem dX4_unlike_64 : decode cX4_unlike 64 = .ok (.aload_n 3, 1) := by decide +kernel
theorem dX4_unlike_65 : decode cX4_unlike 65 = .ok (.getfield 74, 3) := by decide +kernel
theorem dX4_unlike_68 : decode cX4_unlike 68 = .ok (.iload 5, 2) := by decide +kernel
theorem dX4_unlike_70 : decode cX4_unlike 70 = .ok (.laload, 1) := by decide +kernel
theorem dX4_unlike_71 : decode cX4_unlike 71 = .ok (.aload 4, 2) := by decide +kernel
theorem dX4_unlike_73 : decode cX4_unlike 73 = .ok (.getfield 74, 3) := by decide +kernel
theorem dX4_unlike_76 : decode cX4_unlike 76 = .ok (.iload 5, 2) := by decide +kernel
theorem dX4_unlike_78 : decode cX4_unlike 78 = .ok (.laload, 1) := by decide +kernel
theorem dX4_unlike_79 : decode cX4_unlike 79 = .ok (.lcmp, 1) := by decide +kernel
theorem dX4_unlike_80 : decode cX4_unlike 80 = .ok (.ifCond .eq 6, 3) := by decide +kernel
theorem dX4_unlike_83 : decode cX4_unlike 83 = .ok (.iload 5, 2) := by decide +kernel
theorem dX4_unlike_85 : decode cX4_unlike 85 = .ok (.ireturn, 1) := by decide +kernel
theorem dX4_unlike_86 : decode cX4_unlike 86 = .ok (.iinc 5 1, 3) := by decide +kernel
theorem dX4_unlike_89 : decode cX4_unlike 89 = .ok (.goto (-34), 3) := by decide +kernel
theorem dX4_unlike_92 : decode cX4_unlike 92 = .ok (.iconst (-1), 1) := by decide +kernel
theorem dX4_unlike_93 : decode cX4_unlike 93 = .ok (.ireturn, 1) := by decide +kernel
set_option maxRecDepth 20000 in
theorem ggX4_across_X4_find : GoodIn wsX4_across wsX4_find := goodIn_r _ [8, 9, 10, 11, 12, 7, 13, 75, 76, 77, 78, 79, 80, 81, 82] (by decide +kernel) (by decide +kernel)
set_option maxRecDepth 20000 in
theorem gX4_across_X4_find : GoodIn wsX4_across (wsV RX4 58 RX4 yX4_find wsX4_find) := goodIn_app (goodIn_of _ (by decide +kernel)) ggX4_across_X4_find
set_option maxRecDepth 20000 in
theorem ggX4_across_X4_isShear : GoodIn wsX4_across wsX4_isShear := goodIn_r _ [16, 11, 12, 7, 13] (by decide +kernel) (by decide +kernel)
set_option maxRecDepth 20000 in
theorem gX4_across_X4_isShear : GoodIn wsX4_across (va_wsS RX4 140 yX4_isShear wsX4_isShear) := goodIn_app (goodIn_of _ (by decide +kernel)) ggX4_across_X4_isShear
set_option maxRecDepth 20000 in
theorem ggX4_across_X4_spread : GoodIn wsX4_across wsX4_spread := goodIn_r _ [19, 20, 21, 22, 23, 24, 25, 7, 26, 27, 28, 29, 30] (by decide +kernel) (by decide +kernel)
set_option maxRecDepth 20000 in
theorem gX4_across_X4_spread : GoodIn wsX4_across (va_wsS RX4 143 yX4_spread wsX4_spread) := goodIn_app (goodIn_of _ (by decide +kernel)) ggX4_across_X4_spread
set_option maxRecDepth 20000 in
theorem ggX4_across_X1_remember : GoodIn wsX4_across wsX1_remember := goodIn_r _ [35, 36, 37, 38, 39, 40, 41, 42, 43, 22, 44, 45, 46, 47, 48, 49, 50, 51, 52, 53, 54, 55, 56, 57, 58, 59, 60, 61, 62, 63, 64, 83, 84, 85, 86, 87, 88, 72, 73, 74] (by decide +kernel) (by decide +kernel)
set_option maxRecDepth 20000 in
theorem gX4_across_X1_remember : GoodIn wsX4_across (wsV RX4 70 RX1 yX1_remember wsX1_remember) := goodIn_app (goodIn_of _ (by decide +kernel)) ggX4_across_X1_remember
set_option maxRecDepth 20000 in
theorem ggX4_across_X2_shearAcross : GoodIn wsX4_across wsX2_shearAcross := goodIn_r _ [68, 51, 52, 50, 69, 7, 70, 71, 43, 22, 44, 24, 25, 26, 27, 28, 29, 30, 18, 19, 20, 21, 23, 72, 73, 74] (by decide +kernel) (by decide +kernel)
set_option maxRecDepth 20000 in
theorem gX4_across_X2_shearAcross : GoodIn wsX4_across (wsV RX4 146 RX2 yX2_shearAcross wsX2_shearAcross) := goodIn_app (goodIn_of _ (by decide +kernel)) ggX4_across_X2_shearAcross
theorem dX4_across_0 : decode cX4_across 0 = .ok (.aload_n 0, 1) := by decide +kernel
theorem dX4_across_1 : decode cX4_across 1 = .ok (.iload_n 1, 1) := by decide +kernel
theorem dX4_across_2 : decode cX4_across 2 = .ok (.invokevirtual 58, 3) := by decide +kernel
theorem dX4_across_5 : decode cX4_across 5 = .ok (.astore_n 3, 1) := by decide +kernel
theorem dX4_across_6 : decode cX4_across 6 = .ok (.aload_n 3, 1) := by decide +kernel
theorem dX4_across_7 : decode cX4_across 7 = .ok (.ifnull 28, 3) := by decide +kernel
theorem dX4_across_10 : decode cX4_across 10 = .ok (.iload_n 2, 1) := by decide +kernel
theorem dX4_across_11 : decode cX4_across 11 = .ok (.invokestatic 140, 3) := by decide +kernel
theorem dX4_across_14 : decode cX4_across 14 = .ok (.ifCond .eq 21, 3) := by decide +kernel
theorem dX4_across_17 : decode cX4_across 17 = .ok (.aload_n 3, 1) := by decide +kernel
theorem dX4_across_18 : decode cX4_across 18 = .ok (.getfield 117, 3) := by decide +kernel
theorem dX4_across_21 : decode cX4_across 21 = .ok (.iload_n 2, 1) := by decide +kernel
theorem dX4_across_22 : decode cX4_across 22 = .ok (.aload_n 3, 1) := by decide +kernel
theorem dX4_across_23 : decode cX4_across 23 = .ok (.getfield 97, 3) := by decide +kernel
theorem dX4_across_26 : decode cX4_across 26 = .ok (.invokestatic 143, 3) := by decide +kernel
theorem dX4_across_29 : decode cX4_across 29 = .ok (.iadd, 1) := by decide +kernel
theorem dX4_across_30 : decode cX4_across 30 = .ok (.bipush 64, 2) := by decide +kernel
theorem dX4_across_32 : decode cX4_across 32 = .ok (.if_icmp .le 5, 3) := by decide +kernel
theorem dX4_across_35 : decode cX4_across 35 = .ok (.iconst (-1), 1) := by decide +kernel
theorem dX4_across_36 : decode cX4_across 36 = .ok (.ireturn, 1) := by decide +kernel
theorem dX4_across_37 : decode cX4_across 37 = .ok (.aload_n 0, 1) := by decide +kernel
theorem dX4_across_38 : decode cX4_across 38 = .ok (.getfield 25, 3) := by decide +kernel
theorem dX4_across_41 : decode cX4_across 41 = .ok (.iload_n 1, 1) := by decide +kernel
theorem dX4_across_42 : decode cX4_across 42 = .ok (.aload_n 3, 1) := by decide +kernel
theorem dX4_across_43 : decode cX4_across 43 = .ok (.iconst (-1), 1) := by decide +kernel
theorem dX4_across_44 : decode cX4_across 44 = .ok (.invokevirtual 70, 3) := by decide +kernel
theorem dX4_across_47 : decode cX4_across 47 = .ok (.aload_n 3, 1) := by decide +kernel
theorem dX4_across_48 : decode cX4_across 48 = .ok (.iload_n 2, 1) := by decide +kernel
theorem dX4_across_49 : decode cX4_across 49 = .ok (.invokevirtual 146, 3) := by decide +kernel
theorem dX4_across_52 : decode cX4_across 52 = .ok (.aload_n 3, 1) := by decide +kernel
theorem dX4_across_53 : decode cX4_across 53 = .ok (.getfield 117, 3) := by decide +kernel
theorem dX4_across_56 : decode cX4_across 56 = .ok (.ireturn, 1) := by decide +kernel
set_option maxRecDepth 20000 in
theorem ggX4_upright_X4_find : GoodIn wsX4_upright wsX4_find := goodIn_r _ [8, 9, 10, 11, 12, 7, 13, 85, 86, 87, 88, 89, 90, 91, 92] (by decide +kernel) (by decide +kernel)
set_option maxRecDepth 20000 in
theorem gX4_upright_X4_find : GoodIn wsX4_upright (wsV RX4 58 RX4 yX4_find wsX4_find) := goodIn_app (goodIn_of _ (by decide +kernel)) ggX4_upright_X4_find
set_option maxRecDepth 20000 in
theorem ggX4_upright_X4_isShear : GoodIn wsX4_upright wsX4_isShear := goodIn_r _ [16, 11, 12, 7, 13] (by decide +kernel) (by decide +kernel)
set_option maxRecDepth 20000 in
theorem gX4_upright_X4_isShear : GoodIn wsX4_upright (va_wsS RX4 140 yX4_isShear wsX4_isShear) := goodIn_app (goodIn_of _ (by decide +kernel)) ggX4_upright_X4_isShear
set_option maxRecDepth 20000 in
theorem ggX4_upright_X4_spread : GoodIn wsX4_upright wsX4_spread := goodIn_r _ [19, 20, 21, 22, 23, 24, 25, 7, 26, 27, 28, 29, 30] (by decide +kernel) (by decide +kernel)
set_option maxRecDepth 20000 in
theorem gX4_upright_X4_spread : GoodIn wsX4_upright (va_wsS RX4 143 yX4_spread wsX4_spread) := goodIn_app (goodIn_of _ (by decide +kernel)) ggX4_upright_X4_spread
set_option maxRecDepth 20000 in
theorem ggX4_upright_X1_remember : GoodIn wsX4_upright wsX1_remember := goodIn_r _ [35, 36, 37, 38, 39, 40, 41, 42, 43, 22, 44, 45, 46, 47, 48, 49, 50, 51, 52, 53, 54, 55, 56, 57, 58, 59, 60, 61, 62, 63, 64, 93, 94, 95, 96, 97, 98, 82, 83, 84] (by decide +kernel) (by decide +kernel)
set_option maxRecDepth 20000 in
theorem gX4_upright_X1_remember : GoodIn wsX4_upright (wsV RX4 70 RX1 yX1_remember wsX1_remember) := goodIn_app (goodIn_of _ (by decide +kernel)) ggX4_upright_X1_remember
set_option maxRecDepth 20000 in
theorem ggX4_upright_X4_shearUp : GoodIn wsX4_upright wsX4_shearUp := goodIn_r _ [68, 69, 70, 71, 72, 48, 73, 50, 51, 18, 7, 19, 20, 21, 22, 23, 24, 25, 26, 27, 28, 29, 30, 57, 58, 59, 60, 52, 61, 62, 63, 64, 74, 75, 76, 43, 44, 77, 78, 79, 80, 81, 46, 47, 49, 53, 54, 55, 56, 85, 86, 87, 88, 89, 90, 91, 92, 82, 83, 84] (by decide +kernel) (by decide +kernel)
set_option maxRecDepth 20000 in
theorem gX4_upright_X4_shearUp : GoodIn wsX4_upright (wsV RX4 149 RX4 yX4_shearUp wsX4_shearUp) := goodIn_app (goodIn_of _ (by decide +kernel)) ggX4_upright_X4_shearUp
theorem dX4_upright_0 : decode cX4_upright 0 = .ok (.aload_n 0, 1) := by decide +kernel
theorem dX4_upright_1 : decode cX4_upright 1 = .ok (.iload_n 1, 1) := by decide +kernel
theorem dX4_upright_2 : decode cX4_upright 2 = .ok (.invokevirtual 58, 3) := by decide +kernel
theorem dX4_upright_5 : decode cX4_upright 5 = .ok (.astore_n 3, 1) := by decide +kernel
theorem dX4_upright_6 : decode cX4_upright 6 = .ok (.aload_n 3, 1) := by decide +kernel
theorem dX4_upright_7 : decode cX4_upright 7 = .ok (.ifnull 28, 3) := by decide +kernel
theorem dX4_upright_10 : decode cX4_upright 10 = .ok (.iload_n 2, 1) := by decide +kernel
theorem dX4_upright_11 : decode cX4_upright 11 = .ok (.invokestatic 140, 3) := by decide +kernel
theorem dX4_upright_14 : decode cX4_upright 14 = .ok (.ifCond .eq 21, 3) := by decide +kernel
theorem dX4_upright_17 : decode cX4_upright 17 = .ok (.aload_n 3, 1) := by decide +kernel
theorem dX4_upright_18 : decode cX4_upright 18 = .ok (.getfield 97, 3) := by decide +kernel
theorem dX4_upright_21 : decode cX4_upright 21 = .ok (.iload_n 2, 1) := by decide +kernel
theorem dX4_upright_22 : decode cX4_upright 22 = .ok (.aload_n 3, 1) := by decide +kernel
theorem dX4_upright_23 : decode cX4_upright 23 = .ok (.getfield 117, 3) := by decide +kernel
theorem dX4_upright_26 : decode cX4_upright 26 = .ok (.invokestatic 143, 3) := by decide +kernel
theorem dX4_upright_29 : decode cX4_upright 29 = .ok (.iadd, 1) := by decide +kernel
theorem dX4_upright_30 : decode cX4_upright 30 = .ok (.bipush 64, 2) := by decide +kernel
theorem dX4_upright_32 : decode cX4_upright 32 = .ok (.if_icmp .le 5, 3) := by decide +kernel
theorem dX4_upright_35 : decode cX4_upright 35 = .ok (.iconst (-1), 1) := by decide +kernel
theorem dX4_upright_36 : decode cX4_upright 36 = .ok (.ireturn, 1) := by decide +kernel
theorem dX4_upright_37 : decode cX4_upright 37 = .ok (.aload_n 0, 1) := by decide +kernel
theorem dX4_upright_38 : decode cX4_upright 38 = .ok (.getfield 25, 3) := by decide +kernel
theorem dX4_upright_41 : decode cX4_upright 41 = .ok (.iload_n 1, 1) := by decide +kernel
theorem dX4_upright_42 : decode cX4_upright 42 = .ok (.aload_n 3, 1) := by decide +kernel
theorem dX4_upright_43 : decode cX4_upright 43 = .ok (.iconst (-1), 1) := by decide +kernel
theorem dX4_upright_44 : decode cX4_upright 44 = .ok (.invokevirtual 70, 3) := by decide +kernel
theorem dX4_upright_47 : decode cX4_upright 47 = .ok (.aload_n 0, 1) := by decide +kernel
theorem dX4_upright_48 : decode cX4_upright 48 = .ok (.aload_n 3, 1) := by decide +kernel
theorem dX4_upright_49 : decode cX4_upright 49 = .ok (.iload_n 2, 1) := by decide +kernel
theorem dX4_upright_50 : decode cX4_upright 50 = .ok (.invokevirtual 149, 3) := by decide +kernel
theorem dX4_upright_53 : decode cX4_upright 53 = .ok (.aload_n 3, 1) := by decide +kernel
theorem dX4_upright_54 : decode cX4_upright 54 = .ok (.getfield 97, 3) := by decide +kernel
theorem dX4_upright_57 : decode cX4_upright 57 = .ok (.ireturn, 1) := by decide +kernel
set_option maxRecDepth 20000 in
theorem ggX4_turn_X4_find : GoodIn wsX4_turn wsX4_find := goodIn_r _ [6, 7, 8, 9, 10, 5, 11, 89, 90, 91, 92, 93, 94, 95, 96] (by decide +kernel) (by decide +kernel)
set_option maxRecDepth 20000 in
theorem gX4_turn_X4_find : GoodIn wsX4_turn (wsV RX4 58 RX4 yX4_find wsX4_find) := goodIn_app (goodIn_of _ (by decide +kernel)) ggX4_turn_X4_find
set_option maxRecDepth 20000 in
theorem ggX4_turn_X4_isShear : GoodIn wsX4_turn wsX4_isShear := goodIn_r _ [14, 9, 10, 5, 11] (by decide +kernel) (by decide +kernel)
set_option maxRecDepth 20000 in
theorem gX4_turn_X4_isShear : GoodIn wsX4_turn (va_wsS RX4 140 yX4_isShear wsX4_isShear) := goodIn_app (goodIn_of _ (by decide +kernel)) ggX4_turn_X4_isShear
set_option maxRecDepth 20000 in
theorem ggX4_turn_X4_canTurn : GoodIn wsX4_turn wsX4_canTurn := goodIn_r _ [17, 18, 19, 20, 21, 5, 22, 23, 24, 25, 26, 27, 28, 29, 30, 31, 32, 33, 97, 98, 99] (by decide +kernel) (by decide +kernel)
set_option maxRecDepth 20000 in
theorem gX4_turn_X4_canTurn : GoodIn wsX4_turn (va_wsS RX4 153 yX4_canTurn wsX4_canTurn) := goodIn_app (goodIn_of _ (by decide +kernel)) ggX4_turn_X4_canTurn
set_option maxRecDepth 20000 in
theorem ggX4_turn_X1_remember : GoodIn wsX4_turn wsX1_remember := goodIn_r _ [38, 39, 40, 41, 42, 43, 44, 45, 46, 25, 47, 48, 49, 50, 51, 52, 53, 54, 55, 56, 57, 58, 59, 60, 61, 62, 63, 64, 65, 66, 67, 100, 101, 102, 103, 104, 105, 97, 98, 99] (by decide +kernel) (by decide +kernel)
set_option maxRecDepth 20000 in
theorem gX4_turn_X1_remember : GoodIn wsX4_turn (wsV RX4 70 RX1 yX1_remember wsX1_remember) := goodIn_app (goodIn_of _ (by decide +kernel)) ggX4_turn_X1_remember
set_option maxRecDepth 20000 in
theorem ggX4_turn_X2_shearAcross : GoodIn wsX4_turn wsX2_shearAcross := goodIn_r _ [71, 54, 55, 53, 72, 5, 73, 74, 46, 25, 47, 27, 28, 29, 30, 31, 32, 33, 21, 22, 23, 24, 26, 97, 98, 99] (by decide +kernel) (by decide +kernel)
set_option maxRecDepth 20000 in
theorem gX4_turn_X2_shearAcross : GoodIn wsX4_turn (wsV RX4 146 RX2 yX2_shearAcross wsX2_shearAcross) := goodIn_app (goodIn_of _ (by decide +kernel)) ggX4_turn_X2_shearAcross
set_option maxRecDepth 20000 in
theorem ggX4_turn_X4_shearUp : GoodIn wsX4_turn wsX4_shearUp := goodIn_r _ [78, 79, 80, 81, 82, 51, 83, 53, 54, 21, 5, 22, 23, 24, 25, 26, 27, 28, 29, 30, 31, 32, 33, 60, 61, 62, 63, 55, 64, 65, 66, 67, 72, 73, 74, 46, 47, 84, 85, 86, 87, 88, 49, 50, 52, 56, 57, 58, 59, 89, 90, 91, 92, 93, 94, 95, 96, 97, 98, 99] (by decide +kernel) (by decide +kernel)
set_option maxRecDepth 20000 in
theorem gX4_turn_X4_shearUp : GoodIn wsX4_turn (wsV RX4 149 RX4 yX4_shearUp wsX4_shearUp) := goodIn_app (goodIn_of _ (by decide +kernel)) ggX4_turn_X4_shearUp
theorem dX4_turn_0 : decode cX4_turn 0 = .ok (.aload_n 0, 1) := by decide +kernel
theorem dX4_turn_1 : decode cX4_turn 1 = .ok (.iload_n 1, 1) := by decide +kernel
theorem dX4_turn_2 : decode cX4_turn 2 = .ok (.invokevirtual 58, 3) := by decide +kernel
theorem dX4_turn_5 : decode cX4_turn 5 = .ok (.astore 4, 2) := by decide +kernel
theorem dX4_turn_7 : decode cX4_turn 7 = .ok (.aload 4, 2) := by decide +kernel
theorem dX4_turn_9 : decode cX4_turn 9 = .ok (.ifnull 27, 3) := by decide +kernel
theorem dX4_turn_12 : decode cX4_turn 12 = .ok (.iload_n 2, 1) := by decide +kernel
theorem dX4_turn_13 : decode cX4_turn 13 = .ok (.invokestatic 140, 3) := by decide +kernel
theorem dX4_turn_16 : decode cX4_turn 16 = .ok (.ifCond .eq 20, 3) := by decide +kernel
theorem dX4_turn_19 : decode cX4_turn 19 = .ok (.iload_n 3, 1) := by decide +kernel
theorem dX4_turn_20 : decode cX4_turn 20 = .ok (.invokestatic 140, 3) := by decide +kernel
theorem dX4_turn_23 : decode cX4_turn 23 = .ok (.ifCond .eq 13, 3) := by decide +kernel
theorem dX4_turn_26 : decode cX4_turn 26 = .ok (.aload 4, 2) := by decide +kernel
theorem dX4_turn_28 : decode cX4_turn 28 = .ok (.iload_n 2, 1) := by decide +kernel
theorem dX4_turn_29 : decode cX4_turn 29 = .ok (.iload_n 3, 1) := by decide +kernel
theorem dX4_turn_30 : decode cX4_turn 30 = .ok (.invokestatic 153, 3) := by decide +kernel
theorem dX4_turn_33 : decode cX4_turn 33 = .ok (.ifCond .ne 5, 3) := by decide +kernel
theorem dX4_turn_36 : decode cX4_turn 36 = .ok (.iconst 0, 1) := by decide +kernel
theorem dX4_turn_37 : decode cX4_turn 37 = .ok (.ireturn, 1) := by decide +kernel
theorem dX4_turn_38 : decode cX4_turn 38 = .ok (.aload_n 0, 1) := by decide +kernel
theorem dX4_turn_39 : decode cX4_turn 39 = .ok (.getfield 25, 3) := by decide +kernel
theorem dX4_turn_42 : decode cX4_turn 42 = .ok (.iload_n 1, 1) := by decide +kernel
theorem dX4_turn_43 : decode cX4_turn 43 = .ok (.aload 4, 2) := by decide +kernel
theorem dX4_turn_45 : decode cX4_turn 45 = .ok (.iconst (-1), 1) := by decide +kernel
theorem dX4_turn_46 : decode cX4_turn 46 = .ok (.invokevirtual 70, 3) := by decide +kernel
theorem dX4_turn_49 : decode cX4_turn 49 = .ok (.aload 4, 2) := by decide +kernel
theorem dX4_turn_51 : decode cX4_turn 51 = .ok (.iload_n 2, 1) := by decide +kernel
theorem dX4_turn_52 : decode cX4_turn 52 = .ok (.invokevirtual 146, 3) := by decide +kernel
theorem dX4_turn_55 : decode cX4_turn 55 = .ok (.aload_n 0, 1) := by decide +kernel
theorem dX4_turn_56 : decode cX4_turn 56 = .ok (.aload 4, 2) := by decide +kernel
theorem dX4_turn_58 : decode cX4_turn 58 = .ok (.iload_n 3, 1) := by decide +kernel
theorem dX4_turn_59 : decode cX4_turn 59 = .ok (.invokevirtual 149, 3) := by decide +kernel
theorem dX4_turn_62 : decode cX4_turn 62 = .ok (.aload 4, 2) := by decide +kernel
theorem dX4_turn_64 : decode cX4_turn 64 = .ok (.iload_n 2, 1) := by decide +kernel
theorem dX4_turn_65 : decode cX4_turn 65 = .ok (.invokevirtual 146, 3) := by decide +kernel
theorem dX4_turn_68 : decode cX4_turn 68 = .ok (.iconst 1, 1) := by decide +kernel
theorem dX4_turn_69 : decode cX4_turn 69 = .ok (.ireturn, 1) := by decide +kernel
set_option maxRecDepth 20000 in
theorem ggX4_sharp_X4_find : GoodIn wsX4_sharp wsX4_find := goodIn_r _ [5, 6, 7, 8, 9, 4, 10, 63, 64, 65, 66, 67, 68, 69, 70] (by decide +kernel) (by decide +kernel)
set_option maxRecDepth 20000 in
theorem gX4_sharp_X4_find : GoodIn wsX4_sharp (wsV RX4 58 RX4 yX4_find wsX4_find) := goodIn_app (goodIn_of _ (by decide +kernel)) ggX4_sharp_X4_find
set_option maxRecDepth 20000 in
theorem ggX4_sharp_X4_within : GoodIn wsX4_sharp wsX4_within := goodIn_r _ [10] (by decide +kernel) (by decide +kernel)
set_option maxRecDepth 20000 in
theorem gX4_sharp_X4_within : GoodIn wsX4_sharp (va_wsS RX4 50 yX4_within wsX4_within) := goodIn_app (goodIn_of _ (by decide +kernel)) ggX4_sharp_X4_within
set_option maxRecDepth 20000 in
theorem ggX4_sharp_X4_sharpness : GoodIn wsX4_sharp wsX4_sharpness := goodIn_r _ [14, 15, 16, 17, 18, 19, 20, 21, 22, 23, 24, 25, 4, 26, 27, 28, 29, 30, 31, 32, 33, 34, 35, 36, 37, 38, 39, 40, 41, 42, 43, 44, 45, 46, 47, 48, 49, 50, 51, 52, 53, 54, 55, 56, 57, 58, 59, 60, 61, 62, 63, 64, 65, 66, 67, 68, 69, 70, 71, 72, 73] (by decide +kernel) (by decide +kernel)
set_option maxRecDepth 20000 in
theorem gX4_sharp_X4_sharpness : GoodIn wsX4_sharp (wsV RX4 157 RX4 yX4_sharpness wsX4_sharpness) := goodIn_app (goodIn_of _ (by decide +kernel)) ggX4_sharp_X4_sharpness
theorem dX4_sharp_0 : decode cX4_sharp 0 = .ok (.aload_n 0, 1) := by decide +kernel
theorem dX4_sharp_1 : decode cX4_sharp 1 = .ok (.iload_n 1, 1) := by decide +kernel
theorem dX4_sharp_2 : decode cX4_sharp 2 = .ok (.invokevirtual 58, 3) := by decide +kernel
theorem dX4_sharp_5 : decode cX4_sharp 5 = .ok (.astore_n 3, 1) := by decide +kernel
theorem dX4_sharp_6 : decode cX4_sharp 6 = .ok (.aload_n 3, 1) := by decide +kernel
theorem dX4_sharp_7 : decode cX4_sharp 7 = .ok (.ifnull 14, 3) := by decide +kernel
theorem dX4_sharp_10 : decode cX4_sharp 10 = .ok (.iload_n 2, 1) := by decide +kernel
theorem dX4_sharp_11 : decode cX4_sharp 11 = .ok (.bipush (-12), 2) := by decide +kernel
theorem dX4_sharp_13 : decode cX4_sharp 13 = .ok (.bipush 12, 2) := by decide +kernel
theorem dX4_sharp_15 : decode cX4_sharp 15 = .ok (.invokestatic 50, 3) := by decide +kernel
theorem dX4_sharp_18 : decode cX4_sharp 18 = .ok (.ifCond .ne 5, 3) := by decide +kernel
theorem dX4_sharp_21 : decode cX4_sharp 21 = .ok (.iconst (-1), 1) := by decide +kernel
theorem dX4_sharp_22 : decode cX4_sharp 22 = .ok (.ireturn, 1) := by decide +kernel
theorem dX4_sharp_23 : decode cX4_sharp 23 = .ok (.aload_n 0, 1) := by decide +kernel
theorem dX4_sharp_24 : decode cX4_sharp 24 = .ok (.aload_n 3, 1) := by decide +kernel
theorem dX4_sharp_25 : decode cX4_sharp 25 = .ok (.iload_n 2, 1) := by decide +kernel
theorem dX4_sharp_26 : decode cX4_sharp 26 = .ok (.invokevirtual 157, 3) := by decide +kernel
theorem dX4_sharp_29 : decode cX4_sharp 29 = .ok (.ireturn, 1) := by decide +kernel
set_option maxRecDepth 20000 in
theorem ggX4_angle_X4_find : GoodIn wsX4_angle wsX4_find := goodIn_r _ [5, 6, 7, 8, 9, 4, 10, 67, 68, 69, 70, 71, 72, 73, 74] (by decide +kernel) (by decide +kernel)
set_option maxRecDepth 20000 in
theorem gX4_angle_X4_find : GoodIn wsX4_angle (wsV RX4 58 RX4 yX4_find wsX4_find) := goodIn_app (goodIn_of _ (by decide +kernel)) ggX4_angle_X4_find
set_option maxRecDepth 20000 in
theorem ggX4_angle_X2_inkedRows : GoodIn wsX4_angle wsX2_inkedRows := goodIn_r _ [15, 16, 17, 75, 76, 77] (by decide +kernel) (by decide +kernel)
set_option maxRecDepth 20000 in
theorem gX4_angle_X2_inkedRows : GoodIn wsX4_angle (wsV RX4 124 RX2 yX2_inkedRows wsX2_inkedRows) := goodIn_app (goodIn_of _ (by decide +kernel)) ggX4_angle_X2_inkedRows
set_option maxRecDepth 20000 in
theorem ggX4_angle_J13_bitCount_95d88 : GoodIn wsX4_angle wsJ13_bitCount_95d88 := goodIn_r _ [21, 22, 23, 24] (by decide +kernel) (by decide +kernel)
set_option maxRecDepth 20000 in
theorem gX4_angle_J13_bitCount_95d88 : GoodIn wsX4_angle (va_wsS RX4 88 yJ13_bitCount_95d88 wsJ13_bitCount_95d88) := goodIn_app (goodIn_of _ (by decide +kernel)) ggX4_angle_J13_bitCount_95d88
set_option maxRecDepth 20000 in
theorem ggX4_angle_X4_sharpness : GoodIn wsX4_angle wsX4_sharpness := goodIn_r _ [28, 29, 30, 31, 32, 33, 34, 14, 35, 36, 16, 37, 4, 38, 39, 40, 41, 42, 43, 44, 45, 46, 47, 48, 49, 50, 51, 52, 53, 17, 54, 55, 56, 57, 58, 59, 60, 61, 62, 63, 64, 65, 66, 18, 19, 20, 21, 22, 23, 24, 67, 68, 69, 70, 71, 72, 73, 74, 75, 76, 77] (by decide +kernel) (by decide +kernel)
set_option maxRecDepth 20000 in
theorem gX4_angle_X4_sharpness : GoodIn wsX4_angle (wsV RX4 157 RX4 yX4_sharpness wsX4_sharpness) := goodIn_app (goodIn_of _ (by decide +kernel)) ggX4_angle_X4_sharpness
theorem dX4_angle_0 : decode cX4_angle 0 = .ok (.aload_n 0, 1) := by decide +kernel
theorem dX4_angle_1 : decode cX4_angle 1 = .ok (.iload_n 1, 1) := by decide +kernel
theorem dX4_angle_2 : decode cX4_angle 2 = .ok (.invokevirtual 58, 3) := by decide +kernel
theorem dX4_angle_5 : decode cX4_angle 5 = .ok (.astore_n 2, 1) := by decide +kernel
theorem dX4_angle_6 : decode cX4_angle 6 = .ok (.aload_n 2, 1) := by decide +kernel
theorem dX4_angle_7 : decode cX4_angle 7 = .ok (.ifnonnull 5, 3) := by decide +kernel
theorem dX4_angle_10 : decode cX4_angle 10 = .ok (.iconst (-1), 1) := by decide +kernel
theorem dX4_angle_11 : decode cX4_angle 11 = .ok (.ireturn, 1) := by decide +kernel
theorem dX4_angle_12 : decode cX4_angle 12 = .ok (.aload_n 2, 1) := by decide +kernel
theorem dX4_angle_13 : decode cX4_angle 13 = .ok (.invokevirtual 124, 3) := by decide +kernel
theorem dX4_angle_16 : decode cX4_angle 16 = .ok (.invokestatic 88, 3) := by decide +kernel
theorem dX4_angle_19 : decode cX4_angle 19 = .ok (.iconst 2, 1) := by decide +kernel
theorem dX4_angle_20 : decode cX4_angle 20 = .ok (.if_icmp .ge 6, 3) := by decide +kernel
theorem dX4_angle_23 : decode cX4_angle 23 = .ok (.bipush 100, 2) := by decide +kernel
theorem dX4_angle_25 : decode cX4_angle 25 = .ok (.ireturn, 1) := by decide +kernel
theorem dX4_angle_26 : decode cX4_angle 26 = .ok (.iconst 0, 1) := by decide +kernel
theorem dX4_angle_27 : decode cX4_angle 27 = .ok (.istore_n 3, 1) := by decide +kernel
theorem dX4_angle_28 : decode cX4_angle 28 = .ok (.aload_n 0, 1) := by decide +kernel
theorem dX4_angle_29 : decode cX4_angle 29 = .ok (.aload_n 2, 1) := by decide +kernel
theorem dX4_angle_30 : decode cX4_angle 30 = .ok (.iconst 0, 1) := by decide +kernel
theorem dX4_angle_31 : decode cX4_angle 31 = .ok (.invokevirtual 157, 3) := by decide +kernel
theorem dX4_angle_34 : decode cX4_angle 34 = .ok (.istore 4, 2) := by decide +kernel
theorem dX4_angle_36 : decode cX4_angle 36 = .ok (.iconst 1, 1) := by decide +kernel
theorem dX4_angle_37 : decode cX4_angle 37 = .ok (.istore 5, 2) := by decide +kernel
theorem dX4_angle_39 : decode cX4_angle 39 = .ok (.iload 5, 2) := by decide +kernel
theorem dX4_angle_41 : decode cX4_angle 41 = .ok (.bipush 12, 2) := by decide +kernel
theorem dX4_angle_43 : decode cX4_angle 43 = .ok (.if_icmp .gt 57, 3) := by decide +kernel
theorem dX4_angle_46 : decode cX4_angle 46 = .ok (.aload_n 0, 1) := by decide +kernel
theorem dX4_angle_47 : decode cX4_angle 47 = .ok (.aload_n 2, 1) := by decide +kernel
theorem dX4_angle_48 : decode cX4_angle 48 = .ok (.iload 5, 2) := by decide +kernel
theorem dX4_angle_50 : decode cX4_angle 50 = .ok (.invokevirtual 157, 3) := by decide +kernel
theorem dX4_angle_53 : decode cX4_angle 53 = .ok (.istore 6, 2) := by decide +kernel
theorem dX4_angle_55 : decode cX4_angle 55 = .ok (.iload 6, 2) := by decide +kernel
theorem dX4_angle_57 : decode cX4_angle 57 = .ok (.iload 4, 2) := by decide +kernel
theorem dX4_angle_59 : decode cX4_angle 59 = .ok (.if_icmp .le 10, 3) := by decide +kernel
theorem dX4_angle_62 : decode cX4_angle 62 = .ok (.iload 6, 2) := by decide +kernel
theorem dX4_angle_64 : decode cX4_angle 64 = .ok (.istore 4, 2) := by decide +kernel
theorem dX4_angle_66 : decode cX4_angle 66 = .ok (.iload 5, 2) := by decide +kernel
theorem dX4_angle_68 : decode cX4_angle 68 = .ok (.istore_n 3, 1) := by decide +kernel
theorem dX4_angle_69 : decode cX4_angle 69 = .ok (.aload_n 0, 1) := by decide +kernel
theorem dX4_angle_70 : decode cX4_angle 70 = .ok (.aload_n 2, 1) := by decide +kernel
theorem dX4_angle_71 : decode cX4_angle 71 = .ok (.iload 5, 2) := by decide +kernel
theorem dX4_angle_73 : decode cX4_angle 73 = .ok (.ineg, 1) := by decide +kernel
theorem dX4_angle_74 : decode cX4_angle 74 = .ok (.invokevirtual 157, 3) := by decide +kernel
theorem dX4_angle_77 : decode cX4_angle 77 = .ok (.istore 7, 2) := by decide +kernel
theorem dX4_angle_79 : decode cX4_angle 79 = .ok (.iload 7, 2) := by decide +kernel
theorem dX4_angle_81 : decode cX4_angle 81 = .ok (.iload 4, 2) := by decide +kernel
theorem dX4_angle_83 : decode cX4_angle 83 = .ok (.if_icmp .le 11, 3) := by decide +kernel
theorem dX4_angle_86 : decode cX4_angle 86 = .ok (.iload 7, 2) := by decide +kernel
theorem dX4_angle_88 : decode cX4_angle 88 = .ok (.istore 4, 2) := by decide +kernel
theorem dX4_angle_90 : decode cX4_angle 90 = .ok (.iload 5, 2) := by decide +kernel
theorem dX4_angle_92 : decode cX4_angle 92 = .ok (.ineg, 1) := by decide +kernel
theorem dX4_angle_93 : decode cX4_angle 93 = .ok (.istore_n 3, 1) := by decide +kernel
theorem dX4_angle_94 : decode cX4_angle 94 = .ok (.iinc 5 1, 3) := by decide +kernel
theorem dX4_angle_97 : decode cX4_angle 97 = .ok (.goto (-58), 3) := by decide +kernel
theorem dX4_angle_100 : decode cX4_angle 100 = .ok (.iload_n 3, 1) := by decide +kernel
theorem dX4_angle_101 : decode cX4_angle 101 = .ok (.ireturn, 1) := by decide +kernel
set_option maxRecDepth 20000 in
theorem ggX4_bend_X4_find : GoodIn wsX4_bend wsX4_find := goodIn_r _ [9, 10, 11, 12, 13, 8, 14, 75, 76, 77, 78, 79, 80, 81, 82] (by decide +kernel) (by decide +kernel)
set_option maxRecDepth 20000 in
theorem gX4_bend_X4_find : GoodIn wsX4_bend (wsV RX4 58 RX4 yX4_find wsX4_find) := goodIn_app (goodIn_of _ (by decide +kernel)) ggX4_bend_X4_find
set_option maxRecDepth 20000 in
theorem ggX4_bend_X1_remember : GoodIn wsX4_bend wsX1_remember := goodIn_r _ [19, 20, 21, 22, 23, 24, 25, 26, 27, 28, 29, 30, 31, 32, 33, 34, 35, 36, 37, 38, 39, 40, 41, 42, 43, 44, 45, 46, 47, 48, 49, 86, 87, 88, 89, 90, 91, 83, 84, 85] (by decide +kernel) (by decide +kernel)
set_option maxRecDepth 20000 in
theorem gX4_bend_X1_remember : GoodIn wsX4_bend (wsV RX4 70 RX1 yX1_remember wsX1_remember) := goodIn_app (goodIn_of _ (by decide +kernel)) ggX4_bend_X1_remember
set_option maxRecDepth 20000 in
theorem ggX4_bend_X2_inkedRows : GoodIn wsX4_bend wsX2_inkedRows := goodIn_r _ [53, 36, 37, 83, 84, 85] (by decide +kernel) (by decide +kernel)
set_option maxRecDepth 20000 in
theorem gX4_bend_X2_inkedRows : GoodIn wsX4_bend (wsV RX4 124 RX2 yX2_inkedRows wsX2_inkedRows) := goodIn_app (goodIn_of _ (by decide +kernel)) ggX4_bend_X2_inkedRows
set_option maxRecDepth 20000 in
theorem ggX4_bend_X4_highestBit : GoodIn wsX4_bend wsX4_highestBit := goodIn_r _ [56] (by decide +kernel) (by decide +kernel)
set_option maxRecDepth 20000 in
theorem gX4_bend_X4_highestBit : GoodIn wsX4_bend (va_wsS RX4 161 yX4_highestBit wsX4_highestBit) := goodIn_app (goodIn_of _ (by decide +kernel)) ggX4_bend_X4_highestBit
set_option maxRecDepth 20000 in
theorem ggX4_bend_X2_empty : GoodIn wsX4_bend wsX2_empty := goodIn_r _ [45, 35, 36, 37, 46, 47, 48, 49, 83, 84, 85] (by decide +kernel) (by decide +kernel)
set_option maxRecDepth 20000 in
theorem gX4_bend_X2_empty : GoodIn wsX4_bend (wsV RX4 54 RX2 yX2_empty wsX2_empty) := goodIn_app (goodIn_of _ (by decide +kernel)) ggX4_bend_X2_empty
set_option maxRecDepth 20000 in
theorem ggX4_bend_X2_steps : GoodIn wsX4_bend wsX2_steps := goodIn_r _ [61, 35, 83, 84, 85] (by decide +kernel) (by decide +kernel)
set_option maxRecDepth 20000 in
theorem gX4_bend_X2_steps : GoodIn wsX4_bend (wsV RX4 164 RX2 yX2_steps wsX2_steps) := goodIn_app (goodIn_of _ (by decide +kernel)) ggX4_bend_X2_steps
set_option maxRecDepth 20000 in
theorem ggX4_bend_X2_footOf : GoodIn wsX4_bend wsX2_footOf := goodIn_r _ [65, 36, 37, 66, 8, 67, 68, 83, 84, 85] (by decide +kernel) (by decide +kernel)
set_option maxRecDepth 20000 in
theorem gX4_bend_X2_footOf : GoodIn wsX4_bend (wsV RX4 167 RX2 yX2_footOf wsX2_footOf) := goodIn_app (goodIn_of _ (by decide +kernel)) ggX4_bend_X2_footOf
set_option maxRecDepth 20000 in
theorem ggX4_bend_X4_stepColumns : GoodIn wsX4_bend wsX4_stepColumns := goodIn_r _ [67, 68] (by decide +kernel) (by decide +kernel)
set_option maxRecDepth 20000 in
theorem gX4_bend_X4_stepColumns : GoodIn wsX4_bend (va_wsS RX4 171 yX4_stepColumns wsX4_stepColumns) := goodIn_app (goodIn_of _ (by decide +kernel)) ggX4_bend_X4_stepColumns
set_option maxRecDepth 20000 in
theorem ggX4_bend_X2_addDropped : GoodIn wsX4_bend wsX2_addDropped := goodIn_r _ [73, 36, 37, 83, 84, 85] (by decide +kernel) (by decide +kernel)
set_option maxRecDepth 20000 in
theorem gX4_bend_X2_addDropped : GoodIn wsX4_bend (wsV RX4 174 RX2 yX2_addDropped wsX2_addDropped) := goodIn_app (goodIn_of _ (by decide +kernel)) ggX4_bend_X2_addDropped
set_option maxRecDepth 20000 in
theorem ggX4_bend_X2_become : GoodIn wsX4_bend wsX2_become := goodIn_r _ [34, 35, 36, 37, 38, 39, 40, 41, 42, 43, 44, 33, 45, 46, 47, 48, 49, 83, 84, 85] (by decide +kernel) (by decide +kernel)
set_option maxRecDepth 20000 in
theorem gX4_bend_X2_become : GoodIn wsX4_bend (wsV RX4 62 RX2 yX2_become wsX2_become) := goodIn_app (goodIn_of _ (by decide +kernel)) ggX4_bend_X2_become
theorem dX4_bend_0 : decode cX4_bend 0 = .ok (.aload_n 0, 1) := by decide +kernel
theorem dX4_bend_1 : decode cX4_bend 1 = .ok (.iload_n 1, 1) := by decide +kernel
theorem dX4_bend_2 : decode cX4_bend 2 = .ok (.invokevirtual 58, 3) := by decide +kernel
theorem dX4_bend_5 : decode cX4_bend 5 = .ok (.astore_n 2, 1) := by decide +kernel
theorem dX4_bend_6 : decode cX4_bend 6 = .ok (.aload_n 2, 1) := by decide +kernel
theorem dX4_bend_7 : decode cX4_bend 7 = .ok (.ifnonnull 5, 3) := by decide +kernel
theorem dX4_bend_10 : decode cX4_bend 10 = .ok (.iconst (-1), 1) := by decide +kernel
theorem dX4_bend_11 : decode cX4_bend 11 = .ok (.ireturn, 1) := by decide +kernel
theorem dX4_bend_12 : decode cX4_bend 12 = .ok (.aload_n 0, 1) := by decide +kernel
theorem dX4_bend_13 : decode cX4_bend 13 = .ok (.getfield 25, 3) := by decide +kernel
theorem dX4_bend_16 : decode cX4_bend 16 = .ok (.iload_n 1, 1) := by decide +kernel
theorem dX4_bend_17 : decode cX4_bend 17 = .ok (.aload_n 2, 1) := by decide +kernel
theorem dX4_bend_18 : decode cX4_bend 18 = .ok (.iconst (-1), 1) := by decide +kernel
theorem dX4_bend_19 : decode cX4_bend 19 = .ok (.invokevirtual 70, 3) := by decide +kernel
theorem dX4_bend_22 : decode cX4_bend 22 = .ok (.aload_n 2, 1) := by decide +kernel
theorem dX4_bend_23 : decode cX4_bend 23 = .ok (.invokevirtual 124, 3) := by decide +kernel
theorem dX4_bend_26 : decode cX4_bend 26 = .ok (.invokestatic 161, 3) := by decide +kernel
theorem dX4_bend_29 : decode cX4_bend 29 = .ok (.istore_n 3, 1) := by decide +kernel
theorem dX4_bend_30 : decode cX4_bend 30 = .ok (.iconst 0, 1) := by decide +kernel
theorem dX4_bend_31 : decode cX4_bend 31 = .ok (.istore 4, 2) := by decide +kernel
theorem dX4_bend_33 : decode cX4_bend 33 = .ok (.aload_n 0, 1) := by decide +kernel
theorem dX4_bend_34 : decode cX4_bend 34 = .ok (.getfield 40, 3) := by decide +kernel
theorem dX4_bend_37 : decode cX4_bend 37 = .ok (.aload_n 2, 1) := by decide +kernel
theorem dX4_bend_38 : decode cX4_bend 38 = .ok (.getfield 117, 3) := by decide +kernel
theorem dX4_bend_41 : decode cX4_bend 41 = .ok (.aload_n 2, 1) := by decide +kernel
theorem dX4_bend_42 : decode cX4_bend 42 = .ok (.getfield 97, 3) := by decide +kernel
theorem dX4_bend_45 : decode cX4_bend 45 = .ok (.invokevirtual 54, 3) := by decide +kernel
theorem dX4_bend_48 : decode cX4_bend 48 = .ok (.iconst 0, 1) := by decide +kernel
theorem dX4_bend_49 : decode cX4_bend 49 = .ok (.istore 5, 2) := by decide +kernel
theorem dX4_bend_51 : decode cX4_bend 51 = .ok (.iload 5, 2) := by decide +kernel
theorem dX4_bend_53 : decode cX4_bend 53 = .ok (.aload_n 2, 1) := by decide +kernel
theorem dX4_bend_54 : decode cX4_bend 54 = .ok (.invokevirtual 164, 3) := by decide +kernel
theorem dX4_bend_57 : decode cX4_bend 57 = .ok (.if_icmp .ge 56, 3) := by decide +kernel
theorem dX4_bend_60 : decode cX4_bend 60 = .ok (.aload_n 2, 1) := by decide +kernel
theorem dX4_bend_61 : decode cX4_bend 61 = .ok (.iload 5, 2) := by decide +kernel
theorem dX4_bend_63 : decode cX4_bend 63 = .ok (.invokevirtual 167, 3) := by decide +kernel
theorem dX4_bend_66 : decode cX4_bend 66 = .ok (.istore 6, 2) := by decide +kernel
theorem dX4_bend_68 : decode cX4_bend 68 = .ok (.iload 6, 2) := by decide +kernel
theorem dX4_bend_70 : decode cX4_bend 70 = .ok (.iconst (-1), 1) := by decide +kernel
theorem dX4_bend_71 : decode cX4_bend 71 = .ok (.if_icmp .eq 36, 3) := by decide +kernel
theorem dX4_bend_74 : decode cX4_bend 74 = .ok (.aload_n 0, 1) := by decide +kernel
theorem dX4_bend_75 : decode cX4_bend 75 = .ok (.getfield 40, 3) := by decide +kernel
theorem dX4_bend_78 : decode cX4_bend 78 = .ok (.aload_n 2, 1) := by decide +kernel
theorem dX4_bend_79 : decode cX4_bend 79 = .ok (.iload 5, 2) := by decide +kernel
theorem dX4_bend_81 : decode cX4_bend 81 = .ok (.invokestatic 171, 3) := by decide +kernel
theorem dX4_bend_84 : decode cX4_bend 84 = .ok (.iload_n 3, 1) := by decide +kernel
theorem dX4_bend_85 : decode cX4_bend 85 = .ok (.iload 6, 2) := by decide +kernel
theorem dX4_bend_87 : decode cX4_bend 87 = .ok (.isub, 1) := by decide +kernel
theorem dX4_bend_88 : decode cX4_bend 88 = .ok (.invokevirtual 174, 3) := by decide +kernel
theorem dX4_bend_91 : decode cX4_bend 91 = .ok (.iload 4, 2) := by decide +kernel
theorem dX4_bend_93 : decode cX4_bend 93 = .ok (.iload 6, 2) := by decide +kernel
theorem dX4_bend_95 : decode cX4_bend 95 = .ok (.iload_n 3, 1) := by decide +kernel
theorem dX4_bend_96 : decode cX4_bend 96 = .ok (.if_icmp .ge 7, 3) := by decide +kernel
theorem dX4_bend_99 : decode cX4_bend 99 = .ok (.iconst 1, 1) := by decide +kernel
theorem dX4_bend_100 : decode cX4_bend 100 = .ok (.goto 4, 3) := by decide +kernel
theorem dX4_bend_103 : decode cX4_bend 103 = .ok (.iconst 0, 1) := by decide +kernel
theorem dX4_bend_104 : decode cX4_bend 104 = .ok (.iadd, 1) := by decide +kernel
theorem dX4_bend_105 : decode cX4_bend 105 = .ok (.istore 4, 2) := by decide +kernel
theorem dX4_bend_107 : decode cX4_bend 107 = .ok (.iinc 5 1, 3) := by decide +kernel
theorem dX4_bend_110 : decode cX4_bend 110 = .ok (.goto (-59), 3) := by decide +kernel
theorem dX4_bend_113 : decode cX4_bend 113 = .ok (.aload_n 2, 1) := by decide +kernel
theorem dX4_bend_114 : decode cX4_bend 114 = .ok (.aload_n 0, 1) := by decide +kernel
theorem dX4_bend_115 : decode cX4_bend 115 = .ok (.getfield 40, 3) := by decide +kernel
theorem dX4_bend_118 : decode cX4_bend 118 = .ok (.invokevirtual 62, 3) := by decide +kernel
theorem dX4_bend_121 : decode cX4_bend 121 = .ok (.iload 4, 2) := by decide +kernel
theorem dX4_bend_123 : decode cX4_bend 123 = .ok (.ireturn, 1) := by decide +kernel
set_option maxRecDepth 20000 in
theorem ggX4_foot_X4_find : GoodIn wsX4_foot wsX4_find := goodIn_r _ [5, 6, 7, 8, 9, 4, 10, 26, 27, 28, 29, 30, 31, 32, 33] (by decide +kernel) (by decide +kernel)
set_option maxRecDepth 20000 in
theorem gX4_foot_X4_find : GoodIn wsX4_foot (wsV RX4 58 RX4 yX4_find wsX4_find) := goodIn_app (goodIn_of _ (by decide +kernel)) ggX4_foot_X4_find
set_option maxRecDepth 20000 in
theorem ggX4_foot_X2_steps : GoodIn wsX4_foot wsX2_steps := goodIn_r _ [15, 16, 34, 35, 36] (by decide +kernel) (by decide +kernel)
set_option maxRecDepth 20000 in
theorem gX4_foot_X2_steps : GoodIn wsX4_foot (wsV RX4 164 RX2 yX2_steps wsX2_steps) := goodIn_app (goodIn_of _ (by decide +kernel)) ggX4_foot_X2_steps
set_option maxRecDepth 20000 in
theorem ggX4_foot_X4_within : GoodIn wsX4_foot wsX4_within := goodIn_r _ [10] (by decide +kernel) (by decide +kernel)
set_option maxRecDepth 20000 in
theorem gX4_foot_X4_within : GoodIn wsX4_foot (va_wsS RX4 50 yX4_within wsX4_within) := goodIn_app (goodIn_of _ (by decide +kernel)) ggX4_foot_X4_within
set_option maxRecDepth 20000 in
theorem ggX4_foot_X2_footOf : GoodIn wsX4_foot wsX2_footOf := goodIn_r _ [20, 21, 22, 23, 4, 24, 25, 34, 35, 36] (by decide +kernel) (by decide +kernel)
set_option maxRecDepth 20000 in
theorem gX4_foot_X2_footOf : GoodIn wsX4_foot (wsV RX4 167 RX2 yX2_footOf wsX2_footOf) := goodIn_app (goodIn_of _ (by decide +kernel)) ggX4_foot_X2_footOf
theorem dX4_foot_0 : decode cX4_foot 0 = .ok (.aload_n 0, 1) := by decide +kernel
theorem dX4_foot_1 : decode cX4_foot 1 = .ok (.iload_n 1, 1) := by decide +kernel
theorem dX4_foot_2 : decode cX4_foot 2 = .ok (.invokevirtual 58, 3) := by decide +kernel
theorem dX4_foot_5 : decode cX4_foot 5 = .ok (.astore_n 3, 1) := by decide +kernel
theorem dX4_foot_6 : decode cX4_foot 6 = .ok (.aload_n 3, 1) := by decide +kernel
theorem dX4_foot_7 : decode cX4_foot 7 = .ok (.ifnull 17, 3) := by decide +kernel
theorem dX4_foot_10 : decode cX4_foot 10 = .ok (.iload_n 2, 1) := by decide +kernel
theorem dX4_foot_11 : decode cX4_foot 11 = .ok (.iconst 0, 1) := by decide +kernel
theorem dX4_foot_12 : decode cX4_foot 12 = .ok (.aload_n 3, 1) := by decide +kernel
theorem dX4_foot_13 : decode cX4_foot 13 = .ok (.invokevirtual 164, 3) := by decide +kernel
theorem dX4_foot_16 : decode cX4_foot 16 = .ok (.iconst 1, 1) := by decide +kernel
theorem dX4_foot_17 : decode cX4_foot 17 = .ok (.isub, 1) := by decide +kernel
theorem dX4_foot_18 : decode cX4_foot 18 = .ok (.invokestatic 50, 3) := by decide +kernel
theorem dX4_foot_21 : decode cX4_foot 21 = .ok (.ifCond .ne 5, 3) := by decide +kernel
theorem dX4_foot_24 : decode cX4_foot 24 = .ok (.iconst (-1), 1) := by decide +kernel
theorem dX4_foot_25 : decode cX4_foot 25 = .ok (.ireturn, 1) := by decide +kernel
theorem dX4_foot_26 : decode cX4_foot 26 = .ok (.aload_n 3, 1) := by decide +kernel
theorem dX4_foot_27 : decode cX4_foot 27 = .ok (.iload_n 2, 1) := by decide +kernel
theorem dX4_foot_28 : decode cX4_foot 28 = .ok (.invokevirtual 167, 3) := by decide +kernel
theorem dX4_foot_31 : decode cX4_foot 31 = .ok (.istore 4, 2) := by decide +kernel
theorem dX4_foot_33 : decode cX4_foot 33 = .ok (.iload 4, 2) := by decide +kernel
theorem dX4_foot_35 : decode cX4_foot 35 = .ok (.iconst (-1), 1) := by decide +kernel
theorem dX4_foot_36 : decode cX4_foot 36 = .ok (.if_icmp .ne 8, 3) := by decide +kernel
theorem dX4_foot_39 : decode cX4_foot 39 = .ok (.bipush 100, 2) := by decide +kernel
theorem dX4_foot_41 : decode cX4_foot 41 = .ok (.goto 5, 3) := by decide +kernel
theorem dX4_foot_44 : decode cX4_foot 44 = .ok (.iload 4, 2) := by decide +kernel
theorem dX4_foot_46 : decode cX4_foot 46 = .ok (.ireturn, 1) := by decide +kernel
set_option maxRecDepth 20000 in
theorem ggX4_specks_X4_find : GoodIn wsX4_specks wsX4_find := goodIn_r _ [6, 7, 8, 9, 10, 5, 11, 123, 124, 125, 126, 127, 128, 129, 130] (by decide +kernel) (by decide +kernel)
set_option maxRecDepth 20000 in
theorem gX4_specks_X4_find : GoodIn wsX4_specks (wsV RX4 58 RX4 yX4_find wsX4_find) := goodIn_app (goodIn_of _ (by decide +kernel)) ggX4_specks_X4_find
set_option maxRecDepth 20000 in
theorem ggX4_specks_X4_isSpeckRule : GoodIn wsX4_specks wsX4_isSpeckRule := goodIn_r _ [14, 9, 10, 5, 11] (by decide +kernel) (by decide +kernel)
set_option maxRecDepth 20000 in
theorem gX4_specks_X4_isSpeckRule : GoodIn wsX4_specks (va_wsS RX4 178 yX4_isSpeckRule wsX4_isSpeckRule) := goodIn_app (goodIn_of _ (by decide +kernel)) ggX4_specks_X4_isSpeckRule
set_option maxRecDepth 20000 in
theorem ggX4_specks_X3_findSpecks : GoodIn wsX4_specks wsX3_findSpecks := goodIn_r _ [19, 20, 21, 22, 23, 24, 25, 18, 26, 27, 28, 29, 30, 31, 32, 33, 34, 35, 36, 37, 38, 39, 40, 41, 42, 43, 44, 45, 46, 47, 48, 49, 50, 51, 52, 53, 54, 55, 56, 57, 58, 59, 60, 61, 62, 63, 64, 65, 66, 67, 68, 69, 70, 71, 72, 73, 74, 75, 76, 77, 78, 79, 80, 81, 82, 83, 84, 85, 86, 87, 88, 89, 90, 91, 92, 93, 94, 95, 96, 5, 97, 98, 99, 100, 101, 102, 103, 104, 105, 106, 107, 108, 109, 110, 111, 112, 113, 114, 115, 116, 117, 118, 119, 120, 121, 122, 131, 132, 133, 134, 135, 136, 137, 138, 139, 140, 141, 142, 143] (by decide +kernel) (by decide +kernel)
set_option maxRecDepth 20000 in
theorem gX4_specks_X3_findSpecks : GoodIn wsX4_specks (wsV RX4 181 RX3 yX3_findSpecks wsX3_findSpecks) := goodIn_app (goodIn_of _ (by decide +kernel)) ggX4_specks_X3_findSpecks
theorem dX4_specks_0 : decode cX4_specks 0 = .ok (.aload_n 0, 1) := by decide +kernel
theorem dX4_specks_1 : decode cX4_specks 1 = .ok (.iload_n 1, 1) := by decide +kernel
theorem dX4_specks_2 : decode cX4_specks 2 = .ok (.invokevirtual 58, 3) := by decide +kernel
theorem dX4_specks_5 : decode cX4_specks 5 = .ok (.astore 4, 2) := by decide +kernel
theorem dX4_specks_7 : decode cX4_specks 7 = .ok (.aload 4, 2) := by decide +kernel
theorem dX4_specks_9 : decode cX4_specks 9 = .ok (.ifnull 11, 3) := by decide +kernel
theorem dX4_specks_12 : decode cX4_specks 12 = .ok (.iload_n 2, 1) := by decide +kernel
theorem dX4_specks_13 : decode cX4_specks 13 = .ok (.iload_n 3, 1) := by decide +kernel
theorem dX4_specks_14 : decode cX4_specks 14 = .ok (.invokestatic 178, 3) := by decide +kernel
theorem dX4_specks_17 : decode cX4_specks 17 = .ok (.ifCond .ne 5, 3) := by decide +kernel
theorem dX4_specks_20 : decode cX4_specks 20 = .ok (.iconst (-1), 1) := by decide +kernel
theorem dX4_specks_21 : decode cX4_specks 21 = .ok (.ireturn, 1) := by decide +kernel
theorem dX4_specks_22 : decode cX4_specks 22 = .ok (.aload_n 0, 1) := by decide +kernel
theorem dX4_specks_23 : decode cX4_specks 23 = .ok (.getfield 32, 3) := by decide +kernel
theorem dX4_specks_26 : decode cX4_specks 26 = .ok (.aload 4, 2) := by decide +kernel
theorem dX4_specks_28 : decode cX4_specks 28 = .ok (.iload_n 2, 1) := by decide +kernel
theorem dX4_specks_29 : decode cX4_specks 29 = .ok (.iload_n 3, 1) := by decide +kernel
theorem dX4_specks_30 : decode cX4_specks 30 = .ok (.invokevirtual 181, 3) := by decide +kernel
theorem dX4_specks_33 : decode cX4_specks 33 = .ok (.ireturn, 1) := by decide +kernel
set_option maxRecDepth 20000 in
theorem ggX4_take_X4_find : GoodIn wsX4_take wsX4_find := goodIn_r _ [8, 9, 10, 11, 12, 7, 13, 152, 153, 154, 155, 156, 157, 158, 159] (by decide +kernel) (by decide +kernel)
set_option maxRecDepth 20000 in
theorem gX4_take_X4_find : GoodIn wsX4_take (wsV RX4 58 RX4 yX4_find wsX4_find) := goodIn_app (goodIn_of _ (by decide +kernel)) ggX4_take_X4_find
set_option maxRecDepth 20000 in
theorem ggX4_take_X4_isSpeckRule : GoodIn wsX4_take wsX4_isSpeckRule := goodIn_r _ [16, 11, 12, 7, 13] (by decide +kernel) (by decide +kernel)
set_option maxRecDepth 20000 in
theorem gX4_take_X4_isSpeckRule : GoodIn wsX4_take (va_wsS RX4 178 yX4_isSpeckRule wsX4_isSpeckRule) := goodIn_app (goodIn_of _ (by decide +kernel)) ggX4_take_X4_isSpeckRule
set_option maxRecDepth 20000 in
theorem ggX4_take_X3_findSpecks : GoodIn wsX4_take wsX3_findSpecks := goodIn_r _ [21, 22, 23, 24, 25, 26, 27, 20, 28, 29, 30, 31, 32, 33, 34, 35, 36, 37, 38, 39, 40, 41, 42, 43, 44, 45, 46, 47, 48, 49, 50, 51, 52, 53, 54, 55, 56, 57, 58, 59, 60, 61, 62, 63, 64, 65, 66, 67, 68, 69, 70, 71, 72, 73, 74, 75, 76, 77, 78, 79, 80, 81, 82, 83, 84, 85, 86, 87, 88, 89, 90, 91, 92, 93, 94, 95, 96, 97, 98, 7, 99, 100, 101, 102, 103, 104, 105, 106, 107, 108, 109, 110, 111, 112, 113, 114, 115, 116, 117, 118, 119, 120, 121, 122, 123, 124, 160, 161, 162, 163, 164, 165, 166, 167, 168, 169, 170, 171, 172] (by decide +kernel) (by decide +kernel)
set_option maxRecDepth 20000 in
theorem gX4_take_X3_findSpecks : GoodIn wsX4_take (wsV RX4 181 RX3 yX3_findSpecks wsX3_findSpecks) := goodIn_app (goodIn_of _ (by decide +kernel)) ggX4_take_X3_findSpecks
set_option maxRecDepth 20000 in
theorem ggX4_take_X2_become : GoodIn wsX4_take wsX2_become := goodIn_r _ [55, 36, 37, 38, 56, 57, 58, 59, 60, 32, 33, 34, 35, 39, 40, 41, 42, 170, 171, 172] (by decide +kernel) (by decide +kernel)
set_option maxRecDepth 20000 in
theorem gX4_take_X2_become : GoodIn wsX4_take (wsV RX4 62 RX2 yX2_become wsX2_become) := goodIn_app (goodIn_of _ (by decide +kernel)) ggX4_take_X2_become
set_option maxRecDepth 20000 in
theorem ggX4_take_X4_takeListed : GoodIn wsX4_take wsX4_takeListed := goodIn_r _ [129, 130, 131, 132, 2, 133, 134, 135, 136, 137, 138, 139, 140, 141, 142, 143, 144, 145, 78, 79, 80, 146, 53, 54, 34, 55, 36, 37, 38, 56, 57, 58, 59, 60, 32, 33, 35, 39, 40, 41, 42, 152, 153, 154, 155, 156, 157, 158, 159, 170, 171, 172, 173, 174, 175, 176, 177, 178] (by decide +kernel) (by decide +kernel)
set_option maxRecDepth 20000 in
theorem gX4_take_X4_takeListed : GoodIn wsX4_take (wsV RX4 188 RX4 yX4_takeListed wsX4_takeListed) := goodIn_app (goodIn_of _ (by decide +kernel)) ggX4_take_X4_takeListed
set_option maxRecDepth 20000 in
theorem ggX4_take_X2_ink : GoodIn wsX4_take wsX2_ink := goodIn_r _ [150, 37, 38, 151, 92, 93, 94, 95, 96, 97, 170, 171, 172] (by decide +kernel) (by decide +kernel)
set_option maxRecDepth 20000 in
theorem gX4_take_X2_ink : GoodIn wsX4_take (wsV RX4 120 RX2 yX2_ink wsX2_ink) := goodIn_app (goodIn_of _ (by decide +kernel)) ggX4_take_X2_ink
theorem dX4_take_0 : decode cX4_take 0 = .ok (.aload_n 0, 1) := by decide +kernel
theorem dX4_take_1 : decode cX4_take 1 = .ok (.iload_n 1, 1) := by decide +kernel
theorem dX4_take_2 : decode cX4_take 2 = .ok (.invokevirtual 58, 3) := by decide +kernel
theorem dX4_take_5 : decode cX4_take 5 = .ok (.astore 4, 2) := by decide +kernel
theorem dX4_take_7 : decode cX4_take 7 = .ok (.aload 4, 2) := by decide +kernel
theorem dX4_take_9 : decode cX4_take 9 = .ok (.ifnull 11, 3) := by decide +kernel
theorem dX4_take_12 : decode cX4_take 12 = .ok (.iload_n 2, 1) := by decide +kernel
theorem dX4_take_13 : decode cX4_take 13 = .ok (.iload_n 3, 1) := by decide +kernel
theorem dX4_take_14 : decode cX4_take 14 = .ok (.invokestatic 178, 3) := by decide +kernel
theorem dX4_take_17 : decode cX4_take 17 = .ok (.ifCond .ne 5, 3) := by decide +kernel
theorem dX4_take_20 : decode cX4_take 20 = .ok (.iconst (-1), 1) := by decide +kernel
theorem dX4_take_21 : decode cX4_take 21 = .ok (.ireturn, 1) := by decide +kernel
theorem dX4_take_22 : decode cX4_take 22 = .ok (.aload_n 0, 1) := by decide +kernel
theorem dX4_take_23 : decode cX4_take 23 = .ok (.getfield 32, 3) := by decide +kernel
theorem dX4_take_26 : decode cX4_take 26 = .ok (.aload 4, 2) := by decide +kernel
theorem dX4_take_28 : decode cX4_take 28 = .ok (.iload_n 2, 1) := by decide +kernel
theorem dX4_take_29 : decode cX4_take 29 = .ok (.iload_n 3, 1) := by decide +kernel
theorem dX4_take_30 : decode cX4_take 30 = .ok (.invokevirtual 181, 3) := by decide +kernel
theorem dX4_take_33 : decode cX4_take 33 = .ok (.pop, 1) := by decide +kernel
theorem dX4_take_34 : decode cX4_take 34 = .ok (.aload_n 0, 1) := by decide +kernel
theorem dX4_take_35 : decode cX4_take 35 = .ok (.getfield 36, 3) := by decide +kernel
theorem dX4_take_38 : decode cX4_take 38 = .ok (.aload_n 0, 1) := by decide +kernel
theorem dX4_take_39 : decode cX4_take 39 = .ok (.getfield 32, 3) := by decide +kernel
theorem dX4_take_42 : decode cX4_take 42 = .ok (.getfield 185, 3) := by decide +kernel
theorem dX4_take_45 : decode cX4_take 45 = .ok (.invokevirtual 62, 3) := by decide +kernel
theorem dX4_take_48 : decode cX4_take 48 = .ok (.aload_n 0, 1) := by decide +kernel
theorem dX4_take_49 : decode cX4_take 49 = .ok (.iload_n 1, 1) := by decide +kernel
theorem dX4_take_50 : decode cX4_take 50 = .ok (.aload 4, 2) := by decide +kernel
theorem dX4_take_52 : decode cX4_take 52 = .ok (.invokevirtual 188, 3) := by decide +kernel
theorem dX4_take_55 : decode cX4_take 55 = .ok (.aload_n 0, 1) := by decide +kernel
theorem dX4_take_56 : decode cX4_take 56 = .ok (.getfield 36, 3) := by decide +kernel
theorem dX4_take_59 : decode cX4_take 59 = .ok (.invokevirtual 120, 3) := by decide +kernel
theorem dX4_take_62 : decode cX4_take 62 = .ok (.ireturn, 1) := by decide +kernel
set_option maxRecDepth 20000 in
theorem ggX4_shadow_X4_find : GoodIn wsX4_shadow wsX4_find := goodIn_r _ [8, 9, 10, 11, 12, 7, 13, 85, 86, 87, 88, 89, 90, 91, 92] (by decide +kernel) (by decide +kernel)
set_option maxRecDepth 20000 in
theorem gX4_shadow_X4_find : GoodIn wsX4_shadow (wsV RX4 58 RX4 yX4_find wsX4_find) := goodIn_app (goodIn_of _ (by decide +kernel)) ggX4_shadow_X4_find
set_option maxRecDepth 20000 in
theorem ggX4_shadow_X4_within : GoodIn wsX4_shadow wsX4_within := goodIn_r _ [13] (by decide +kernel) (by decide +kernel)
set_option maxRecDepth 20000 in
theorem gX4_shadow_X4_within : GoodIn wsX4_shadow (va_wsS RX4 50 yX4_within wsX4_within) := goodIn_app (goodIn_of _ (by decide +kernel)) ggX4_shadow_X4_within
set_option maxRecDepth 20000 in
theorem ggX4_shadow_X2_shadowColumns : GoodIn wsX4_shadow wsX2_shadowColumns := goodIn_r _ [18, 19, 20, 21, 22, 17, 23, 24, 25, 26, 27, 28, 29, 30, 31, 32, 33, 34, 93, 94, 95] (by decide +kernel) (by decide +kernel)
set_option maxRecDepth 20000 in
theorem gX4_shadow_X2_shadowColumns : GoodIn wsX4_shadow (wsV RX4 192 RX2 yX2_shadowColumns wsX2_shadowColumns) := goodIn_app (goodIn_of _ (by decide +kernel)) ggX4_shadow_X2_shadowColumns
set_option maxRecDepth 20000 in
theorem ggX4_shadow_X2_empty : GoodIn wsX4_shadow wsX2_empty := goodIn_r _ [38, 19, 24, 29, 39, 40, 41, 42, 93, 94, 95] (by decide +kernel) (by decide +kernel)
set_option maxRecDepth 20000 in
theorem gX4_shadow_X2_empty : GoodIn wsX4_shadow (wsV RX4 54 RX2 yX2_empty wsX2_empty) := goodIn_app (goodIn_of _ (by decide +kernel)) ggX4_shadow_X2_empty
set_option maxRecDepth 20000 in
theorem ggX4_shadow_X2_addDropped : GoodIn wsX4_shadow wsX2_addDropped := goodIn_r _ [46, 24, 29, 93, 94, 95] (by decide +kernel) (by decide +kernel)
set_option maxRecDepth 20000 in
theorem gX4_shadow_X2_addDropped : GoodIn wsX4_shadow (wsV RX4 174 RX2 yX2_addDropped wsX2_addDropped) := goodIn_app (goodIn_of _ (by decide +kernel)) ggX4_shadow_X2_addDropped
set_option maxRecDepth 20000 in
theorem ggX4_shadow_X4_takeListed : GoodIn wsX4_shadow wsX4_takeListed := goodIn_r _ [50, 51, 3, 52, 1, 53, 54, 55, 56, 57, 58, 59, 60, 61, 62, 63, 64, 65, 66, 67, 68, 69, 70, 71, 17, 72, 19, 24, 29, 73, 74, 75, 76, 77, 36, 37, 38, 39, 40, 41, 42, 85, 86, 87, 88, 89, 90, 91, 92, 93, 94, 95, 96, 97, 98, 99, 100, 101] (by decide +kernel) (by decide +kernel)
set_option maxRecDepth 20000 in
theorem gX4_shadow_X4_takeListed : GoodIn wsX4_shadow (wsV RX4 188 RX4 yX4_takeListed wsX4_takeListed) := goodIn_app (goodIn_of _ (by decide +kernel)) ggX4_shadow_X4_takeListed
set_option maxRecDepth 20000 in
theorem ggX4_shadow_J13_bitCount_95d88 : GoodIn wsX4_shadow wsJ13_bitCount_95d88 := goodIn_r _ [81, 82, 83, 84] (by decide +kernel) (by decide +kernel)
set_option maxRecDepth 20000 in
theorem gX4_shadow_J13_bitCount_95d88 : GoodIn wsX4_shadow (va_wsS RX4 88 yJ13_bitCount_95d88 wsJ13_bitCount_95d88) := goodIn_app (goodIn_of _ (by decide +kernel)) ggX4_shadow_J13_bitCount_95d88
theorem dX4_shadow_0 : decode cX4_shadow 0 = .ok (.aload_n 0, 1) := by decide +kernel
theorem dX4_shadow_1 : decode cX4_shadow 1 = .ok (.iload_n 1, 1) := by decide +kernel
theorem dX4_shadow_2 : decode cX4_shadow 2 = .ok (.invokevirtual 58, 3) := by decide +kernel
theorem dX4_shadow_5 : decode cX4_shadow 5 = .ok (.astore_n 3, 1) := by decide +kernel
theorem dX4_shadow_6 : decode cX4_shadow 6 = .ok (.aload_n 3, 1) := by decide +kernel
theorem dX4_shadow_7 : decode cX4_shadow 7 = .ok (.ifnull 13, 3) := by decide +kernel
theorem dX4_shadow_10 : decode cX4_shadow 10 = .ok (.iload_n 2, 1) := by decide +kernel
theorem dX4_shadow_11 : decode cX4_shadow 11 = .ok (.iconst 1, 1) := by decide +kernel
theorem dX4_shadow_12 : decode cX4_shadow 12 = .ok (.bipush 100, 2) := by decide +kernel
theorem dX4_shadow_14 : decode cX4_shadow 14 = .ok (.invokestatic 50, 3) := by decide +kernel
theorem dX4_shadow_17 : decode cX4_shadow 17 = .ok (.ifCond .ne 5, 3) := by decide +kernel
theorem dX4_shadow_20 : decode cX4_shadow 20 = .ok (.iconst (-1), 1) := by decide +kernel
theorem dX4_shadow_21 : decode cX4_shadow 21 = .ok (.ireturn, 1) := by decide +kernel
theorem dX4_shadow_22 : decode cX4_shadow 22 = .ok (.aload_n 3, 1) := by decide +kernel
theorem dX4_shadow_23 : decode cX4_shadow 23 = .ok (.iload_n 2, 1) := by decide +kernel
theorem dX4_shadow_24 : decode cX4_shadow 24 = .ok (.invokevirtual 192, 3) := by decide +kernel
theorem dX4_shadow_27 : decode cX4_shadow 27 = .ok (.lstore 4, 2) := by decide +kernel
theorem dX4_shadow_29 : decode cX4_shadow 29 = .ok (.aload_n 0, 1) := by decide +kernel
theorem dX4_shadow_30 : decode cX4_shadow 30 = .ok (.getfield 36, 3) := by decide +kernel
theorem dX4_shadow_33 : decode cX4_shadow 33 = .ok (.aload_n 3, 1) := by decide +kernel
theorem dX4_shadow_34 : decode cX4_shadow 34 = .ok (.getfield 117, 3) := by decide +kernel
theorem dX4_shadow_37 : decode cX4_shadow 37 = .ok (.aload_n 3, 1) := by decide +kernel
theorem dX4_shadow_38 : decode cX4_shadow 38 = .ok (.getfield 97, 3) := by decide +kernel
theorem dX4_shadow_41 : decode cX4_shadow 41 = .ok (.invokevirtual 54, 3) := by decide +kernel
theorem dX4_shadow_44 : decode cX4_shadow 44 = .ok (.aload_n 0, 1) := by decide +kernel
theorem dX4_shadow_45 : decode cX4_shadow 45 = .ok (.getfield 36, 3) := by decide +kernel
theorem dX4_shadow_48 : decode cX4_shadow 48 = .ok (.aload_n 3, 1) := by decide +kernel
theorem dX4_shadow_49 : decode cX4_shadow 49 = .ok (.lload 4, 2) := by decide +kernel
theorem dX4_shadow_51 : decode cX4_shadow 51 = .ok (.iconst 0, 1) := by decide +kernel
theorem dX4_shadow_52 : decode cX4_shadow 52 = .ok (.invokevirtual 174, 3) := by decide +kernel
theorem dX4_shadow_55 : decode cX4_shadow 55 = .ok (.aload_n 0, 1) := by decide +kernel
theorem dX4_shadow_56 : decode cX4_shadow 56 = .ok (.iload_n 1, 1) := by decide +kernel
theorem dX4_shadow_57 : decode cX4_shadow 57 = .ok (.aload_n 3, 1) := by decide +kernel
theorem dX4_shadow_58 : decode cX4_shadow 58 = .ok (.invokevirtual 188, 3) := by decide +kernel
theorem dX4_shadow_61 : decode cX4_shadow 61 = .ok (.lload 4, 2) := by decide +kernel
theorem dX4_shadow_63 : decode cX4_shadow 63 = .ok (.invokestatic 88, 3) := by decide +kernel
theorem dX4_shadow_66 : decode cX4_shadow 66 = .ok (.ireturn, 1) := by decide +kernel
set_option maxRecDepth 20000 in
theorem ggX4_listed_X4_within : GoodIn wsX4_listed wsX4_within := goodIn_r _ [9] (by decide +kernel) (by decide +kernel)
set_option maxRecDepth 20000 in
theorem gX4_listed_X4_within : GoodIn wsX4_listed (va_wsS RX4 50 yX4_within wsX4_within) := goodIn_app (goodIn_of _ (by decide +kernel)) ggX4_listed_X4_within
set_option maxRecDepth 20000 in
theorem ggX4_listed_X2_ink : GoodIn wsX4_listed wsX2_ink := goodIn_r _ [14, 15, 16, 17, 18, 19, 20, 21, 22, 23, 39, 40, 41] (by decide +kernel) (by decide +kernel)
set_option maxRecDepth 20000 in
theorem gX4_listed_X2_ink : GoodIn wsX4_listed (wsV RX4 120 RX2 yX2_ink wsX2_ink) := goodIn_app (goodIn_of _ (by decide +kernel)) ggX4_listed_X2_ink
set_option maxRecDepth 20000 in
theorem ggX4_listed_J13_bitCount_95d88 : GoodIn wsX4_listed wsJ13_bitCount_95d88 := goodIn_r _ [20, 21, 22, 23] (by decide +kernel) (by decide +kernel)
set_option maxRecDepth 20000 in
theorem gX4_listed_J13_bitCount_95d88 : GoodIn wsX4_listed (va_wsS RX4 88 yJ13_bitCount_95d88 wsJ13_bitCount_95d88) := goodIn_app (goodIn_of _ (by decide +kernel)) ggX4_listed_J13_bitCount_95d88
set_option maxRecDepth 20000 in
theorem ggX4_listed_X4_bitAfter : GoodIn wsX4_listed wsX4_bitAfter := goodIn_r _ [27, 28, 29, 8, 30, 24, 18, 19, 20, 21, 22, 23] (by decide +kernel) (by decide +kernel)
set_option maxRecDepth 20000 in
theorem gX4_listed_X4_bitAfter : GoodIn wsX4_listed (va_wsS RX4 197 yX4_bitAfter wsX4_bitAfter) := goodIn_app (goodIn_of _ (by decide +kernel)) ggX4_listed_X4_bitAfter
theorem dX4_listed_0 : decode cX4_listed 0 = .ok (.iload_n 2, 1) := by decide +kernel
theorem dX4_listed_1 : decode cX4_listed 1 = .ok (.iconst 0, 1) := by decide +kernel
theorem dX4_listed_2 : decode cX4_listed 2 = .ok (.iconst 1, 1) := by decide +kernel
theorem dX4_listed_3 : decode cX4_listed 3 = .ok (.invokestatic 50, 3) := by decide +kernel
theorem dX4_listed_6 : decode cX4_listed 6 = .ok (.ifCond .eq 20, 3) := by decide +kernel
theorem dX4_listed_9 : decode cX4_listed 9 = .ok (.iload_n 1, 1) := by decide +kernel
theorem dX4_listed_10 : decode cX4_listed 10 = .ok (.iconst 0, 1) := by decide +kernel
theorem dX4_listed_11 : decode cX4_listed 11 = .ok (.aload_n 0, 1) := by decide +kernel
theorem dX4_listed_12 : decode cX4_listed 12 = .ok (.getfield 36, 3) := by decide +kernel
theorem dX4_listed_15 : decode cX4_listed 15 = .ok (.invokevirtual 120, 3) := by decide +kernel
theorem dX4_listed_18 : decode cX4_listed 18 = .ok (.iconst 1, 1) := by decide +kernel
theorem dX4_listed_19 : decode cX4_listed 19 = .ok (.isub, 1) := by decide +kernel
theorem dX4_listed_20 : decode cX4_listed 20 = .ok (.invokestatic 50, 3) := by decide +kernel
theorem dX4_listed_23 : decode cX4_listed 23 = .ok (.ifCond .ne 13, 3) := by decide +kernel
theorem dX4_listed_26 : decode cX4_listed 26 = .ok (.new 110, 3) := by decide +kernel
theorem dX4_listed_29 : decode cX4_listed 29 = .ok (.dup, 1) := by decide +kernel
theorem dX4_listed_30 : decode cX4_listed 30 = .ok (.ldc 195, 2) := by decide +kernel
theorem dX4_listed_32 : decode cX4_listed 32 = .ok (.invokespecial 114, 3) := by decide +kernel
theorem dX4_listed_35 : decode cX4_listed 35 = .ok (.athrow, 1) := by decide +kernel
theorem dX4_listed_36 : decode cX4_listed 36 = .ok (.iload_n 1, 1) := by decide +kernel
theorem dX4_listed_37 : decode cX4_listed 37 = .ok (.istore_n 3, 1) := by decide +kernel
theorem dX4_listed_38 : decode cX4_listed 38 = .ok (.iconst 0, 1) := by decide +kernel
theorem dX4_listed_39 : decode cX4_listed 39 = .ok (.istore 4, 2) := by decide +kernel
theorem dX4_listed_41 : decode cX4_listed 41 = .ok (.iload 4, 2) := by decide +kernel
theorem dX4_listed_43 : decode cX4_listed 43 = .ok (.aload_n 0, 1) := by decide +kernel
theorem dX4_listed_44 : decode cX4_listed 44 = .ok (.getfield 36, 3) := by decide +kernel
theorem dX4_listed_47 : decode cX4_listed 47 = .ok (.getfield 97, 3) := by decide +kernel
theorem dX4_listed_50 : decode cX4_listed 50 = .ok (.iconst 1, 1) := by decide +kernel
theorem dX4_listed_51 : decode cX4_listed 51 = .ok (.isub, 1) := by decide +kernel
theorem dX4_listed_52 : decode cX4_listed 52 = .ok (.if_icmp .ge 42, 3) := by decide +kernel
theorem dX4_listed_55 : decode cX4_listed 55 = .ok (.iload_n 3, 1) := by decide +kernel
theorem dX4_listed_56 : decode cX4_listed 56 = .ok (.aload_n 0, 1) := by decide +kernel
theorem dX4_listed_57 : decode cX4_listed 57 = .ok (.getfield 36, 3) := by decide +kernel
theorem dX4_listed_60 : decode cX4_listed 60 = .ok (.getfield 74, 3) := by decide +kernel
theorem dX4_listed_63 : decode cX4_listed 63 = .ok (.iload 4, 2) := by decide +kernel
theorem dX4_listed_65 : decode cX4_listed 65 = .ok (.laload, 1) := by decide +kernel
theorem dX4_listed_66 : decode cX4_listed 66 = .ok (.invokestatic 88, 3) := by decide +kernel
theorem dX4_listed_69 : decode cX4_listed 69 = .ok (.if_icmp .lt 25, 3) := by decide +kernel
theorem dX4_listed_72 : decode cX4_listed 72 = .ok (.iload_n 3, 1) := by decide +kernel
theorem dX4_listed_73 : decode cX4_listed 73 = .ok (.aload_n 0, 1) := by decide +kernel
theorem dX4_listed_74 : decode cX4_listed 74 = .ok (.getfield 36, 3) := by decide +kernel
theorem dX4_listed_77 : decode cX4_listed 77 = .ok (.getfield 74, 3) := by decide +kernel
theorem dX4_listed_80 : decode cX4_listed 80 = .ok (.iload 4, 2) := by decide +kernel
theorem dX4_listed_82 : decode cX4_listed 82 = .ok (.laload, 1) := by decide +kernel
theorem dX4_listed_83 : decode cX4_listed 83 = .ok (.invokestatic 88, 3) := by decide +kernel
theorem dX4_listed_86 : decode cX4_listed 86 = .ok (.isub, 1) := by decide +kernel
theorem dX4_listed_87 : decode cX4_listed 87 = .ok (.istore_n 3, 1) := by decide +kernel
theorem dX4_listed_88 : decode cX4_listed 88 = .ok (.iinc 4 1, 3) := by decide +kernel
theorem dX4_listed_91 : decode cX4_listed 91 = .ok (.goto (-50), 3) := by decide +kernel
theorem dX4_listed_94 : decode cX4_listed 94 = .ok (.iload_n 2, 1) := by decide +kernel
theorem dX4_listed_95 : decode cX4_listed 95 = .ok (.iconst 1, 1) := by decide +kernel
theorem dX4_listed_96 : decode cX4_listed 96 = .ok (.if_icmp .ne 8, 3) := by decide +kernel
theorem dX4_listed_99 : decode cX4_listed 99 = .ok (.iload 4, 2) := by decide +kernel
theorem dX4_listed_101 : decode cX4_listed 101 = .ok (.goto 17, 3) := by decide +kernel
theorem dX4_listed_104 : decode cX4_listed 104 = .ok (.aload_n 0, 1) := by decide +kernel
theorem dX4_listed_105 : decode cX4_listed 105 = .ok (.getfield 36, 3) := by decide +kernel
theorem dX4_listed_108 : decode cX4_listed 108 = .ok (.getfield 74, 3) := by decide +kernel
theorem dX4_listed_111 : decode cX4_listed 111 = .ok (.iload 4, 2) := by decide +kernel
theorem dX4_listed_113 : decode cX4_listed 113 = .ok (.laload, 1) := by decide +kernel
theorem dX4_listed_114 : decode cX4_listed 114 = .ok (.iload_n 3, 1) := by decide +kernel
theorem dX4_listed_115 : decode cX4_listed 115 = .ok (.invokestatic 197, 3) := by decide +kernel
theorem dX4_listed_118 : decode cX4_listed 118 = .ok (.ireturn, 1) := by decide +kernel
set_option maxRecDepth 20000 in
theorem ggX4_box_X4_find : GoodIn wsX4_box wsX4_find := goodIn_r _ [5, 6, 7, 8, 9, 4, 10, 40, 41, 42, 43, 44, 45, 46, 47] (by decide +kernel) (by decide +kernel)
set_option maxRecDepth 20000 in
theorem gX4_box_X4_find : GoodIn wsX4_box (wsV RX4 58 RX4 yX4_find wsX4_find) := goodIn_app (goodIn_of _ (by decide +kernel)) ggX4_box_X4_find
set_option maxRecDepth 20000 in
theorem ggX4_box_X2_hasInk : GoodIn wsX4_box wsX2_hasInk := goodIn_r _ [15, 16, 17, 18, 14, 19, 20, 21, 48, 49, 50] (by decide +kernel) (by decide +kernel)
set_option maxRecDepth 20000 in
theorem gX4_box_X2_hasInk : GoodIn wsX4_box (wsV RX4 201 RX2 yX2_hasInk wsX2_hasInk) := goodIn_app (goodIn_of _ (by decide +kernel)) ggX4_box_X2_hasInk
set_option maxRecDepth 20000 in
theorem ggX4_box_X2_inkedColumns : GoodIn wsX4_box wsX2_inkedColumns := goodIn_r _ [19, 20, 21, 48, 49, 50] (by decide +kernel) (by decide +kernel)
set_option maxRecDepth 20000 in
theorem gX4_box_X2_inkedColumns : GoodIn wsX4_box (wsV RX4 127 RX2 yX2_inkedColumns wsX2_inkedColumns) := goodIn_app (goodIn_of _ (by decide +kernel)) ggX4_box_X2_inkedColumns
set_option maxRecDepth 20000 in
theorem ggX4_box_X4_lowestBit : GoodIn wsX4_box wsX4_lowestBit := goodIn_r _ [25, 26, 27, 28, 29, 30, 31, 32] (by decide +kernel) (by decide +kernel)
set_option maxRecDepth 20000 in
theorem gX4_box_X4_lowestBit : GoodIn wsX4_box (va_wsS RX4 205 yX4_lowestBit wsX4_lowestBit) := goodIn_app (goodIn_of _ (by decide +kernel)) ggX4_box_X4_lowestBit
set_option maxRecDepth 20000 in
theorem ggX4_box_X2_inkedRows : GoodIn wsX4_box wsX2_inkedRows := goodIn_r _ [36, 20, 21, 48, 49, 50] (by decide +kernel) (by decide +kernel)
set_option maxRecDepth 20000 in
theorem gX4_box_X2_inkedRows : GoodIn wsX4_box (wsV RX4 124 RX2 yX2_inkedRows wsX2_inkedRows) := goodIn_app (goodIn_of _ (by decide +kernel)) ggX4_box_X2_inkedRows
set_option maxRecDepth 20000 in
theorem ggX4_box_X4_highestBit : GoodIn wsX4_box wsX4_highestBit := goodIn_r _ [39] (by decide +kernel) (by decide +kernel)
set_option maxRecDepth 20000 in
theorem gX4_box_X4_highestBit : GoodIn wsX4_box (va_wsS RX4 161 yX4_highestBit wsX4_highestBit) := goodIn_app (goodIn_of _ (by decide +kernel)) ggX4_box_X4_highestBit
theorem dX4_box_0 : decode cX4_box 0 = .ok (.aload_n 0, 1) := by decide +kernel
theorem dX4_box_1 : decode cX4_box 1 = .ok (.iload_n 1, 1) := by decide +kernel
theorem dX4_box_2 : decode cX4_box 2 = .ok (.invokevirtual 58, 3) := by decide +kernel
theorem dX4_box_5 : decode cX4_box 5 = .ok (.astore_n 3, 1) := by decide +kernel
theorem dX4_box_6 : decode cX4_box 6 = .ok (.aload_n 3, 1) := by decide +kernel
theorem dX4_box_7 : decode cX4_box 7 = .ok (.ifnull 10, 3) := by decide +kernel
theorem dX4_box_10 : decode cX4_box 10 = .ok (.aload_n 3, 1) := by decide +kernel
theorem dX4_box_11 : decode cX4_box 11 = .ok (.invokevirtual 201, 3) := by decide +kernel
theorem dX4_box_14 : decode cX4_box 14 = .ok (.ifCond .ne 5, 3) := by decide +kernel
theorem dX4_box_17 : decode cX4_box 17 = .ok (.iconst (-1), 1) := by decide +kernel
theorem dX4_box_18 : decode cX4_box 18 = .ok (.ireturn, 1) := by decide +kernel
theorem dX4_box_19 : decode cX4_box 19 = .ok (.iload_n 2, 1) := by decide +kernel
theorem dX4_box_20 : decode cX4_box 20 = .ok (.tableswitch 64 0 3 #[32, 40, 48, 56], 32) := by decide +kernel
theorem dX4_box_52 : decode cX4_box 52 = .ok (.aload_n 3, 1) := by decide +kernel
theorem dX4_box_53 : decode cX4_box 53 = .ok (.invokevirtual 127, 3) := by decide +kernel
theorem dX4_box_56 : decode cX4_box 56 = .ok (.invokestatic 205, 3) := by decide +kernel
theorem dX4_box_59 : decode cX4_box 59 = .ok (.ireturn, 1) := by decide +kernel
theorem dX4_box_60 : decode cX4_box 60 = .ok (.aload_n 3, 1) := by decide +kernel
theorem dX4_box_61 : decode cX4_box 61 = .ok (.invokevirtual 124, 3) := by decide +kernel
theorem dX4_box_64 : decode cX4_box 64 = .ok (.invokestatic 205, 3) := by decide +kernel
theorem dX4_box_67 : decode cX4_box 67 = .ok (.ireturn, 1) := by decide +kernel
theorem dX4_box_68 : decode cX4_box 68 = .ok (.aload_n 3, 1) := by decide +kernel
theorem dX4_box_69 : decode cX4_box 69 = .ok (.invokevirtual 127, 3) := by decide +kernel
theorem dX4_box_72 : decode cX4_box 72 = .ok (.invokestatic 161, 3) := by decide +kernel
theorem dX4_box_75 : decode cX4_box 75 = .ok (.ireturn, 1) := by decide +kernel
theorem dX4_box_76 : decode cX4_box 76 = .ok (.aload_n 3, 1) := by decide +kernel
theorem dX4_box_77 : decode cX4_box 77 = .ok (.invokevirtual 124, 3) := by decide +kernel
theorem dX4_box_80 : decode cX4_box 80 = .ok (.invokestatic 161, 3) := by decide +kernel
theorem dX4_box_83 : decode cX4_box 83 = .ok (.ireturn, 1) := by decide +kernel
theorem dX4_box_84 : decode cX4_box 84 = .ok (.iconst (-1), 1) := by decide +kernel
theorem dX4_box_85 : decode cX4_box 85 = .ok (.ireturn, 1) := by decide +kernel
set_option maxRecDepth 20000 in
theorem ggX4_cut_X4_find : GoodIn wsX4_cut wsX4_find := goodIn_r _ [8, 9, 10, 11, 12, 7, 13, 77, 78, 79, 80, 81, 82, 83, 84] (by decide +kernel) (by decide +kernel)
set_option maxRecDepth 20000 in
theorem gX4_cut_X4_find : GoodIn wsX4_cut (wsV RX4 58 RX4 yX4_find wsX4_find) := goodIn_app (goodIn_of _ (by decide +kernel)) ggX4_cut_X4_find
set_option maxRecDepth 20000 in
theorem ggX4_cut_X4_within : GoodIn wsX4_cut wsX4_within := goodIn_r _ [13] (by decide +kernel) (by decide +kernel)
set_option maxRecDepth 20000 in
theorem gX4_cut_X4_within : GoodIn wsX4_cut (va_wsS RX4 50 yX4_within wsX4_within) := goodIn_app (goodIn_of _ (by decide +kernel)) ggX4_cut_X4_within
set_option maxRecDepth 20000 in
theorem ggX4_cut_X2_hasInk : GoodIn wsX4_cut wsX2_hasInk := goodIn_r _ [18, 19, 20, 21, 17, 22, 23, 24, 85, 86, 87] (by decide +kernel) (by decide +kernel)
set_option maxRecDepth 20000 in
theorem gX4_cut_X2_hasInk : GoodIn wsX4_cut (wsV RX4 201 RX2 yX2_hasInk wsX2_hasInk) := goodIn_app (goodIn_of _ (by decide +kernel)) ggX4_cut_X2_hasInk
set_option maxRecDepth 20000 in
theorem ggX4_cut_X2_inkedColumns : GoodIn wsX4_cut wsX2_inkedColumns := goodIn_r _ [22, 23, 24, 85, 86, 87] (by decide +kernel) (by decide +kernel)
set_option maxRecDepth 20000 in
theorem gX4_cut_X2_inkedColumns : GoodIn wsX4_cut (wsV RX4 127 RX2 yX2_inkedColumns wsX2_inkedColumns) := goodIn_app (goodIn_of _ (by decide +kernel)) ggX4_cut_X2_inkedColumns
set_option maxRecDepth 20000 in
theorem ggX4_cut_X4_lowestBit : GoodIn wsX4_cut wsX4_lowestBit := goodIn_r _ [28, 29, 30, 31, 32, 33, 34, 35] (by decide +kernel) (by decide +kernel)
set_option maxRecDepth 20000 in
theorem gX4_cut_X4_lowestBit : GoodIn wsX4_cut (va_wsS RX4 205 yX4_lowestBit wsX4_lowestBit) := goodIn_app (goodIn_of _ (by decide +kernel)) ggX4_cut_X4_lowestBit
set_option maxRecDepth 20000 in
theorem ggX4_cut_X2_inkedRows : GoodIn wsX4_cut wsX2_inkedRows := goodIn_r _ [39, 23, 24, 85, 86, 87] (by decide +kernel) (by decide +kernel)
set_option maxRecDepth 20000 in
theorem gX4_cut_X2_inkedRows : GoodIn wsX4_cut (wsV RX4 124 RX2 yX2_inkedRows wsX2_inkedRows) := goodIn_app (goodIn_of _ (by decide +kernel)) ggX4_cut_X2_inkedRows
set_option maxRecDepth 20000 in
theorem ggX4_cut_X4_highestBit : GoodIn wsX4_cut wsX4_highestBit := goodIn_r _ [42] (by decide +kernel) (by decide +kernel)
set_option maxRecDepth 20000 in
theorem gX4_cut_X4_highestBit : GoodIn wsX4_cut (va_wsS RX4 161 yX4_highestBit wsX4_highestBit) := goodIn_app (goodIn_of _ (by decide +kernel)) ggX4_cut_X4_highestBit
set_option maxRecDepth 20000 in
theorem ggX4_cut_X1_remember : GoodIn wsX4_cut wsX1_remember := goodIn_r _ [47, 48, 49, 50, 51, 52, 53, 54, 55, 56, 57, 58, 59, 60, 17, 61, 62, 23, 24, 63, 64, 65, 66, 67, 68, 69, 70, 71, 72, 73, 74, 88, 89, 90, 91, 92, 93, 85, 86, 87] (by decide +kernel) (by decide +kernel)
set_option maxRecDepth 20000 in
theorem gX4_cut_X1_remember : GoodIn wsX4_cut (wsV RX4 70 RX1 yX1_remember wsX1_remember) := goodIn_app (goodIn_of _ (by decide +kernel)) ggX4_cut_X1_remember
set_option maxRecDepth 20000 in
theorem ggX4_cut_X2_empty : GoodIn wsX4_cut wsX2_empty := goodIn_r _ [70, 62, 23, 24, 71, 72, 73, 74, 85, 86, 87] (by decide +kernel) (by decide +kernel)
set_option maxRecDepth 20000 in
theorem gX4_cut_X2_empty : GoodIn wsX4_cut (wsV RX4 54 RX2 yX2_empty wsX2_empty) := goodIn_app (goodIn_of _ (by decide +kernel)) ggX4_cut_X2_empty
set_option maxRecDepth 20000 in
theorem ggX4_cut_X2_become : GoodIn wsX4_cut wsX2_become := goodIn_r _ [61, 62, 23, 24, 63, 64, 65, 66, 67, 68, 69, 17, 70, 71, 72, 73, 74, 85, 86, 87] (by decide +kernel) (by decide +kernel)
set_option maxRecDepth 20000 in
theorem gX4_cut_X2_become : GoodIn wsX4_cut (wsV RX4 62 RX2 yX2_become wsX2_become) := goodIn_app (goodIn_of _ (by decide +kernel)) ggX4_cut_X2_become
theorem dX4_cut_0 : decode cX4_cut 0 = .ok (.aload_n 0, 1) := by decide +kernel
theorem dX4_cut_1 : decode cX4_cut 1 = .ok (.iload_n 1, 1) := by decide +kernel
theorem dX4_cut_2 : decode cX4_cut 2 = .ok (.invokevirtual 58, 3) := by decide +kernel
theorem dX4_cut_5 : decode cX4_cut 5 = .ok (.astore_n 3, 1) := by decide +kernel
theorem dX4_cut_6 : decode cX4_cut 6 = .ok (.aload_n 3, 1) := by decide +kernel
theorem dX4_cut_7 : decode cX4_cut 7 = .ok (.ifnull 20, 3) := by decide +kernel
theorem dX4_cut_10 : decode cX4_cut 10 = .ok (.iload_n 2, 1) := by decide +kernel
theorem dX4_cut_11 : decode cX4_cut 11 = .ok (.iconst 0, 1) := by decide +kernel
theorem dX4_cut_12 : decode cX4_cut 12 = .ok (.bipush 20, 2) := by decide +kernel
theorem dX4_cut_14 : decode cX4_cut 14 = .ok (.invokestatic 50, 3) := by decide +kernel
theorem dX4_cut_17 : decode cX4_cut 17 = .ok (.ifCond .eq 10, 3) := by decide +kernel
theorem dX4_cut_20 : decode cX4_cut 20 = .ok (.aload_n 3, 1) := by decide +kernel
theorem dX4_cut_21 : decode cX4_cut 21 = .ok (.invokevirtual 201, 3) := by decide +kernel
theorem dX4_cut_24 : decode cX4_cut 24 = .ok (.ifCond .ne 5, 3) := by decide +kernel
theorem dX4_cut_27 : decode cX4_cut 27 = .ok (.iconst 0, 1) := by decide +kernel
theorem dX4_cut_28 : decode cX4_cut 28 = .ok (.ireturn, 1) := by decide +kernel
theorem dX4_cut_29 : decode cX4_cut 29 = .ok (.aload_n 3, 1) := by decide +kernel
theorem dX4_cut_30 : decode cX4_cut 30 = .ok (.invokevirtual 127, 3) := by decide +kernel
theorem dX4_cut_33 : decode cX4_cut 33 = .ok (.invokestatic 205, 3) := by decide +kernel
theorem dX4_cut_36 : decode cX4_cut 36 = .ok (.istore 4, 2) := by decide +kernel
theorem dX4_cut_38 : decode cX4_cut 38 = .ok (.aload_n 3, 1) := by decide +kernel
theorem dX4_cut_39 : decode cX4_cut 39 = .ok (.invokevirtual 124, 3) := by decide +kernel
theorem dX4_cut_42 : decode cX4_cut 42 = .ok (.invokestatic 205, 3) := by decide +kernel
theorem dX4_cut_45 : decode cX4_cut 45 = .ok (.istore 5, 2) := by decide +kernel
theorem dX4_cut_47 : decode cX4_cut 47 = .ok (.aload_n 3, 1) := by decide +kernel
theorem dX4_cut_48 : decode cX4_cut 48 = .ok (.invokevirtual 127, 3) := by decide +kernel
theorem dX4_cut_51 : decode cX4_cut 51 = .ok (.invokestatic 161, 3) := by decide +kernel
theorem dX4_cut_54 : decode cX4_cut 54 = .ok (.iload 4, 2) := by decide +kernel
theorem dX4_cut_56 : decode cX4_cut 56 = .ok (.isub, 1) := by decide +kernel
theorem dX4_cut_57 : decode cX4_cut 57 = .ok (.iconst 1, 1) := by decide +kernel
theorem dX4_cut_58 : decode cX4_cut 58 = .ok (.iadd, 1) := by decide +kernel
theorem dX4_cut_59 : decode cX4_cut 59 = .ok (.iconst 2, 1) := by decide +kernel
theorem dX4_cut_60 : decode cX4_cut 60 = .ok (.iload_n 2, 1) := by decide +kernel
theorem dX4_cut_61 : decode cX4_cut 61 = .ok (.imul, 1) := by decide +kernel
theorem dX4_cut_62 : decode cX4_cut 62 = .ok (.iadd, 1) := by decide +kernel
theorem dX4_cut_63 : decode cX4_cut 63 = .ok (.istore 6, 2) := by decide +kernel
theorem dX4_cut_65 : decode cX4_cut 65 = .ok (.aload_n 3, 1) := by decide +kernel
theorem dX4_cut_66 : decode cX4_cut 66 = .ok (.invokevirtual 124, 3) := by decide +kernel
theorem dX4_cut_69 : decode cX4_cut 69 = .ok (.invokestatic 161, 3) := by decide +kernel
theorem dX4_cut_72 : decode cX4_cut 72 = .ok (.iload 5, 2) := by decide +kernel
theorem dX4_cut_74 : decode cX4_cut 74 = .ok (.isub, 1) := by decide +kernel
theorem dX4_cut_75 : decode cX4_cut 75 = .ok (.iconst 1, 1) := by decide +kernel
theorem dX4_cut_76 : decode cX4_cut 76 = .ok (.iadd, 1) := by decide +kernel
theorem dX4_cut_77 : decode cX4_cut 77 = .ok (.iconst 2, 1) := by decide +kernel
theorem dX4_cut_78 : decode cX4_cut 78 = .ok (.iload_n 2, 1) := by decide +kernel
theorem dX4_cut_79 : decode cX4_cut 79 = .ok (.imul, 1) := by decide +kernel
theorem dX4_cut_80 : decode cX4_cut 80 = .ok (.iadd, 1) := by decide +kernel
theorem dX4_cut_81 : decode cX4_cut 81 = .ok (.istore 7, 2) := by decide +kernel
theorem dX4_cut_83 : decode cX4_cut 83 = .ok (.iload 6, 2) := by decide +kernel
theorem dX4_cut_85 : decode cX4_cut 85 = .ok (.bipush 64, 2) := by decide +kernel
theorem dX4_cut_87 : decode cX4_cut 87 = .ok (.if_icmp .gt 10, 3) := by decide +kernel
theorem dX4_cut_90 : decode cX4_cut 90 = .ok (.iload 7, 2) := by decide +kernel
theorem dX4_cut_92 : decode cX4_cut 92 = .ok (.bipush 64, 2) := by decide +kernel
theorem dX4_cut_94 : decode cX4_cut 94 = .ok (.if_icmp .le 5, 3) := by decide +kernel
theorem dX4_cut_97 : decode cX4_cut 97 = .ok (.iconst 0, 1) := by decide +kernel
theorem dX4_cut_98 : decode cX4_cut 98 = .ok (.ireturn, 1) := by decide +kernel
theorem dX4_cut_99 : decode cX4_cut 99 = .ok (.aload_n 0, 1) := by decide +kernel
theorem dX4_cut_100 : decode cX4_cut 100 = .ok (.getfield 25, 3) := by decide +kernel
theorem dX4_cut_103 : decode cX4_cut 103 = .ok (.iload_n 1, 1) := by decide +kernel
theorem dX4_cut_104 : decode cX4_cut 104 = .ok (.aload_n 3, 1) := by decide +kernel
theorem dX4_cut_105 : decode cX4_cut 105 = .ok (.iconst (-1), 1) := by decide +kernel
theorem dX4_cut_106 : decode cX4_cut 106 = .ok (.invokevirtual 70, 3) := by decide +kernel
theorem dX4_cut_109 : decode cX4_cut 109 = .ok (.aload_n 0, 1) := by decide +kernel
theorem dX4_cut_110 : decode cX4_cut 110 = .ok (.getfield 40, 3) := by decide +kernel
theorem dX4_cut_113 : decode cX4_cut 113 = .ok (.iload 6, 2) := by decide +kernel
theorem dX4_cut_115 : decode cX4_cut 115 = .ok (.iload 7, 2) := by decide +kernel
theorem dX4_cut_117 : decode cX4_cut 117 = .ok (.invokevirtual 54, 3) := by decide +kernel
theorem dX4_cut_120 : decode cX4_cut 120 = .ok (.iload_n 2, 1) := by decide +kernel
theorem dX4_cut_121 : decode cX4_cut 121 = .ok (.istore 8, 2) := by decide +kernel
theorem dX4_cut_123 : decode cX4_cut 123 = .ok (.iload 8, 2) := by decide +kernel
theorem dX4_cut_125 : decode cX4_cut 125 = .ok (.iload 7, 2) := by decide +kernel
theorem dX4_cut_127 : decode cX4_cut 127 = .ok (.iload_n 2, 1) := by decide +kernel
theorem dX4_cut_128 : decode cX4_cut 128 = .ok (.isub, 1) := by decide +kernel
theorem dX4_cut_129 : decode cX4_cut 129 = .ok (.if_icmp .ge 36, 3) := by decide +kernel
theorem dX4_cut_132 : decode cX4_cut 132 = .ok (.aload_n 0, 1) := by decide +kernel
theorem dX4_cut_133 : decode cX4_cut 133 = .ok (.getfield 40, 3) := by decide +kernel
theorem dX4_cut_136 : decode cX4_cut 136 = .ok (.getfield 74, 3) := by decide +kernel
theorem dX4_cut_139 : decode cX4_cut 139 = .ok (.iload 8, 2) := by decide +kernel
theorem dX4_cut_141 : decode cX4_cut 141 = .ok (.aload_n 3, 1) := by decide +kernel
theorem dX4_cut_142 : decode cX4_cut 142 = .ok (.getfield 74, 3) := by decide +kernel
theorem dX4_cut_145 : decode cX4_cut 145 = .ok (.iload 5, 2) := by decide +kernel
theorem dX4_cut_147 : decode cX4_cut 147 = .ok (.iload 8, 2) := by decide +kernel
theorem dX4_cut_149 : decode cX4_cut 149 = .ok (.iadd, 1) := by decide +kernel
theorem dX4_cut_150 : decode cX4_cut 150 = .ok (.iload_n 2, 1) := by decide +kernel
theorem dX4_cut_151 : decode cX4_cut 151 = .ok (.isub, 1) := by decide +kernel
theorem dX4_cut_152 : decode cX4_cut 152 = .ok (.laload, 1) := by decide +kernel
theorem dX4_cut_153 : decode cX4_cut 153 = .ok (.iload 4, 2) := by decide +kernel
theorem dX4_cut_155 : decode cX4_cut 155 = .ok (.lushr, 1) := by decide +kernel
theorem dX4_cut_156 : decode cX4_cut 156 = .ok (.iload_n 2, 1) := by decide +kernel
theorem dX4_cut_157 : decode cX4_cut 157 = .ok (.lshl, 1) := by decide +kernel
theorem dX4_cut_158 : decode cX4_cut 158 = .ok (.lastore, 1) := by decide +kernel
theorem dX4_cut_159 : decode cX4_cut 159 = .ok (.iinc 8 1, 3) := by decide +kernel
theorem dX4_cut_162 : decode cX4_cut 162 = .ok (.goto (-39), 3) := by decide +kernel
theorem dX4_cut_165 : decode cX4_cut 165 = .ok (.aload_n 3, 1) := by decide +kernel
theorem dX4_cut_166 : decode cX4_cut 166 = .ok (.aload_n 0, 1) := by decide +kernel
theorem dX4_cut_167 : decode cX4_cut 167 = .ok (.getfield 40, 3) := by decide +kernel
theorem dX4_cut_170 : decode cX4_cut 170 = .ok (.invokevirtual 62, 3) := by decide +kernel
theorem dX4_cut_173 : decode cX4_cut 173 = .ok (.iconst 1, 1) := by decide +kernel
theorem dX4_cut_174 : decode cX4_cut 174 = .ok (.ireturn, 1) := by decide +kernel
set_option maxRecDepth 20000 in
theorem ggX4_spans_X4_find : GoodIn wsX4_spans wsX4_find := goodIn_r _ [6, 7, 8, 9, 10, 5, 11, 28, 29, 30, 31, 32, 33, 34, 35] (by decide +kernel) (by decide +kernel)
set_option maxRecDepth 20000 in
theorem gX4_spans_X4_find : GoodIn wsX4_spans (wsV RX4 58 RX4 yX4_find wsX4_find) := goodIn_app (goodIn_of _ (by decide +kernel)) ggX4_spans_X4_find
set_option maxRecDepth 20000 in
theorem ggX4_spans_X4_within : GoodIn wsX4_spans wsX4_within := goodIn_r _ [11] (by decide +kernel) (by decide +kernel)
set_option maxRecDepth 20000 in
theorem gX4_spans_X4_within : GoodIn wsX4_spans (va_wsS RX4 50 yX4_within wsX4_within) := goodIn_app (goodIn_of _ (by decide +kernel)) ggX4_spans_X4_within
set_option maxRecDepth 20000 in
theorem ggX4_spans_X2_inkedColumns : GoodIn wsX4_spans wsX2_inkedColumns := goodIn_r _ [16, 17, 18, 36, 37, 38] (by decide +kernel) (by decide +kernel)
set_option maxRecDepth 20000 in
theorem gX4_spans_X2_inkedColumns : GoodIn wsX4_spans (wsV RX4 127 RX2 yX2_inkedColumns wsX2_inkedColumns) := goodIn_app (goodIn_of _ (by decide +kernel)) ggX4_spans_X2_inkedColumns
set_option maxRecDepth 20000 in
theorem ggX4_spans_X2_inkedRows : GoodIn wsX4_spans wsX2_inkedRows := goodIn_r _ [22, 17, 18, 36, 37, 38] (by decide +kernel) (by decide +kernel)
set_option maxRecDepth 20000 in
theorem gX4_spans_X2_inkedRows : GoodIn wsX4_spans (wsV RX4 124 RX2 yX2_inkedRows wsX2_inkedRows) := goodIn_app (goodIn_of _ (by decide +kernel)) ggX4_spans_X2_inkedRows
set_option maxRecDepth 20000 in
theorem ggX4_spans_X4_tellSpans : GoodIn wsX4_spans wsX4_tellSpans := goodIn_r _ [26, 1, 27, 28, 29, 30, 31, 32, 33, 34, 35] (by decide +kernel) (by decide +kernel)
set_option maxRecDepth 20000 in
theorem gX4_spans_X4_tellSpans : GoodIn wsX4_spans (wsV RX4 208 RX4 yX4_tellSpans wsX4_tellSpans) := goodIn_app (goodIn_of _ (by decide +kernel)) ggX4_spans_X4_tellSpans
theorem dX4_spans_0 : decode cX4_spans 0 = .ok (.aload_n 0, 1) := by decide +kernel
theorem dX4_spans_1 : decode cX4_spans 1 = .ok (.iload_n 1, 1) := by decide +kernel
theorem dX4_spans_2 : decode cX4_spans 2 = .ok (.invokevirtual 58, 3) := by decide +kernel
theorem dX4_spans_5 : decode cX4_spans 5 = .ok (.astore 4, 2) := by decide +kernel
theorem dX4_spans_7 : decode cX4_spans 7 = .ok (.aload 4, 2) := by decide +kernel
theorem dX4_spans_9 : decode cX4_spans 9 = .ok (.ifnull 22, 3) := by decide +kernel
theorem dX4_spans_12 : decode cX4_spans 12 = .ok (.iload_n 2, 1) := by decide +kernel
theorem dX4_spans_13 : decode cX4_spans 13 = .ok (.iconst 0, 1) := by decide +kernel
theorem dX4_spans_14 : decode cX4_spans 14 = .ok (.iconst 1, 1) := by decide +kernel
theorem dX4_spans_15 : decode cX4_spans 15 = .ok (.invokestatic 50, 3) := by decide +kernel
theorem dX4_spans_18 : decode cX4_spans 18 = .ok (.ifCond .eq 13, 3) := by decide +kernel
theorem dX4_spans_21 : decode cX4_spans 21 = .ok (.iload_n 3, 1) := by decide +kernel
theorem dX4_spans_22 : decode cX4_spans 22 = .ok (.iconst 1, 1) := by decide +kernel
theorem dX4_spans_23 : decode cX4_spans 23 = .ok (.bipush 64, 2) := by decide +kernel
theorem dX4_spans_25 : decode cX4_spans 25 = .ok (.invokestatic 50, 3) := by decide +kernel
theorem dX4_spans_28 : decode cX4_spans 28 = .ok (.ifCond .ne 5, 3) := by decide +kernel
theorem dX4_spans_31 : decode cX4_spans 31 = .ok (.iconst (-1), 1) := by decide +kernel
theorem dX4_spans_32 : decode cX4_spans 32 = .ok (.ireturn, 1) := by decide +kernel
theorem dX4_spans_33 : decode cX4_spans 33 = .ok (.aload_n 0, 1) := by decide +kernel
theorem dX4_spans_34 : decode cX4_spans 34 = .ok (.iload_n 2, 1) := by decide +kernel
theorem dX4_spans_35 : decode cX4_spans 35 = .ok (.ifCond .ne 11, 3) := by decide +kernel
theorem dX4_spans_38 : decode cX4_spans 38 = .ok (.aload 4, 2) := by decide +kernel
theorem dX4_spans_40 : decode cX4_spans 40 = .ok (.invokevirtual 127, 3) := by decide +kernel
theorem dX4_spans_43 : decode cX4_spans 43 = .ok (.goto 8, 3) := by decide +kernel
theorem dX4_spans_46 : decode cX4_spans 46 = .ok (.aload 4, 2) := by decide +kernel
theorem dX4_spans_48 : decode cX4_spans 48 = .ok (.invokevirtual 124, 3) := by decide +kernel
theorem dX4_spans_51 : decode cX4_spans 51 = .ok (.iload_n 3, 1) := by decide +kernel
theorem dX4_spans_52 : decode cX4_spans 52 = .ok (.invokevirtual 208, 3) := by decide +kernel
theorem dX4_spans_55 : decode cX4_spans 55 = .ok (.aload_n 0, 1) := by decide +kernel
theorem dX4_spans_56 : decode cX4_spans 56 = .ok (.getfield 47, 3) := by decide +kernel
theorem dX4_spans_59 : decode cX4_spans 59 = .ok (.iconst 2, 1) := by decide +kernel
theorem dX4_spans_60 : decode cX4_spans 60 = .ok (.idiv, 1) := by decide +kernel
theorem dX4_spans_61 : decode cX4_spans 61 = .ok (.ireturn, 1) := by decide +kernel
set_option maxRecDepth 20000 in
theorem ggX4_part_X4_find : GoodIn wsX4_part wsX4_find := goodIn_r _ [9, 2, 4, 10, 11, 8, 12, 72, 73, 74, 75, 76, 77, 78, 79] (by decide +kernel) (by decide +kernel)
set_option maxRecDepth 20000 in
theorem gX4_part_X4_find : GoodIn wsX4_part (wsV RX4 58 RX4 yX4_find wsX4_find) := goodIn_app (goodIn_of _ (by decide +kernel)) ggX4_part_X4_find
set_option maxRecDepth 20000 in
theorem ggX4_part_X2_faintestColumn : GoodIn wsX4_part wsX2_faintestColumn := goodIn_r _ [17, 18, 19, 20, 21, 22, 23, 24, 16, 25, 26, 27, 69, 70, 71] (by decide +kernel) (by decide +kernel)
set_option maxRecDepth 20000 in
theorem gX4_part_X2_faintestColumn : GoodIn wsX4_part (wsV RX4 212 RX2 yX2_faintestColumn wsX2_faintestColumn) := goodIn_app (goodIn_of _ (by decide +kernel)) ggX4_part_X2_faintestColumn
set_option maxRecDepth 20000 in
theorem ggX4_part_X2_columnInk : GoodIn wsX4_part wsX2_columnInk := goodIn_r _ [25, 26, 27, 69, 70, 71] (by decide +kernel) (by decide +kernel)
set_option maxRecDepth 20000 in
theorem gX4_part_X2_columnInk : GoodIn wsX4_part (wsV RX4 215 RX2 yX2_columnInk wsX2_columnInk) := goodIn_app (goodIn_of _ (by decide +kernel)) ggX4_part_X2_columnInk
set_option maxRecDepth 20000 in
theorem ggX4_part_X1_remember : GoodIn wsX4_part wsX1_remember := goodIn_r _ [33, 34, 35, 36, 37, 38, 39, 40, 41, 20, 42, 43, 44, 45, 16, 46, 47, 26, 27, 48, 49, 50, 51, 52, 53, 54, 55, 56, 57, 58, 59, 80, 81, 82, 83, 84, 85, 69, 70, 71] (by decide +kernel) (by decide +kernel)
set_option maxRecDepth 20000 in
theorem gX4_part_X1_remember : GoodIn wsX4_part (wsV RX4 70 RX1 yX1_remember wsX1_remember) := goodIn_app (goodIn_of _ (by decide +kernel)) ggX4_part_X1_remember
set_option maxRecDepth 20000 in
theorem ggX4_part_X2_moveRightPart : GoodIn wsX4_part wsX2_moveRightPart := goodIn_r _ [63, 47, 26, 27, 52, 53, 54, 16, 55, 56, 57, 58, 59, 64, 65, 66, 67, 68, 69, 70, 71] (by decide +kernel) (by decide +kernel)
set_option maxRecDepth 20000 in
theorem gX4_part_X2_moveRightPart : GoodIn wsX4_part (wsV RX4 218 RX2 yX2_moveRightPart wsX2_moveRightPart) := goodIn_app (goodIn_of _ (by decide +kernel)) ggX4_part_X2_moveRightPart
theorem dX4_part_0 : decode cX4_part 0 = .ok (.aload_n 0, 1) := by decide +kernel
theorem dX4_part_1 : decode cX4_part 1 = .ok (.iload_n 1, 1) := by decide +kernel
theorem dX4_part_2 : decode cX4_part 2 = .ok (.invokevirtual 58, 3) := by decide +kernel
theorem dX4_part_5 : decode cX4_part 5 = .ok (.astore 5, 2) := by decide +kernel
theorem dX4_part_7 : decode cX4_part 7 = .ok (.aload 5, 2) := by decide +kernel
theorem dX4_part_9 : decode cX4_part 9 = .ok (.ifnull 36, 3) := by decide +kernel
theorem dX4_part_12 : decode cX4_part 12 = .ok (.iload_n 2, 1) := by decide +kernel
theorem dX4_part_13 : decode cX4_part 13 = .ok (.iconst 1, 1) := by decide +kernel
theorem dX4_part_14 : decode cX4_part 14 = .ok (.if_icmp .lt 31, 3) := by decide +kernel
theorem dX4_part_17 : decode cX4_part 17 = .ok (.iload_n 2, 1) := by decide +kernel
theorem dX4_part_18 : decode cX4_part 18 = .ok (.iload_n 3, 1) := by decide +kernel
theorem dX4_part_19 : decode cX4_part 19 = .ok (.if_icmp .gt 26, 3) := by decide +kernel
theorem dX4_part_22 : decode cX4_part 22 = .ok (.iload_n 3, 1) := by decide +kernel
theorem dX4_part_23 : decode cX4_part 23 = .ok (.aload 5, 2) := by decide +kernel
theorem dX4_part_25 : decode cX4_part 25 = .ok (.getfield 117, 3) := by decide +kernel
theorem dX4_part_28 : decode cX4_part 28 = .ok (.if_icmp .ge 17, 3) := by decide +kernel
theorem dX4_part_31 : decode cX4_part 31 = .ok (.iload 4, 2) := by decide +kernel
theorem dX4_part_33 : decode cX4_part 33 = .ok (.ifCond .lt 12, 3) := by decide +kernel
theorem dX4_part_36 : decode cX4_part 36 = .ok (.aload_n 0, 1) := by decide +kernel
theorem dX4_part_37 : decode cX4_part 37 = .ok (.getfield 18, 3) := by decide +kernel
theorem dX4_part_40 : decode cX4_part 40 = .ok (.bipush 8, 2) := by decide +kernel
theorem dX4_part_42 : decode cX4_part 42 = .ok (.if_icmp .lt 5, 3) := by decide +kernel
theorem dX4_part_45 : decode cX4_part 45 = .ok (.iconst (-1), 1) := by decide +kernel
theorem dX4_part_46 : decode cX4_part 46 = .ok (.ireturn, 1) := by decide +kernel
theorem dX4_part_47 : decode cX4_part 47 = .ok (.aload 5, 2) := by decide +kernel
theorem dX4_part_49 : decode cX4_part 49 = .ok (.iload_n 2, 1) := by decide +kernel
theorem dX4_part_50 : decode cX4_part 50 = .ok (.iload_n 3, 1) := by decide +kernel
theorem dX4_part_51 : decode cX4_part 51 = .ok (.invokevirtual 212, 3) := by decide +kernel
theorem dX4_part_54 : decode cX4_part 54 = .ok (.istore 6, 2) := by decide +kernel
theorem dX4_part_56 : decode cX4_part 56 = .ok (.aload 5, 2) := by decide +kernel
theorem dX4_part_58 : decode cX4_part 58 = .ok (.iload 6, 2) := by decide +kernel
theorem dX4_part_60 : decode cX4_part 60 = .ok (.invokevirtual 215, 3) := by decide +kernel
theorem dX4_part_63 : decode cX4_part 63 = .ok (.iload 4, 2) := by decide +kernel
theorem dX4_part_65 : decode cX4_part 65 = .ok (.if_icmp .le 5, 3) := by decide +kernel
theorem dX4_part_68 : decode cX4_part 68 = .ok (.iconst (-1), 1) := by decide +kernel
theorem dX4_part_69 : decode cX4_part 69 = .ok (.ireturn, 1) := by decide +kernel
theorem dX4_part_70 : decode cX4_part 70 = .ok (.aload_n 0, 1) := by decide +kernel
theorem dX4_part_71 : decode cX4_part 71 = .ok (.getfield 25, 3) := by decide +kernel
theorem dX4_part_74 : decode cX4_part 74 = .ok (.iload_n 1, 1) := by decide +kernel
theorem dX4_part_75 : decode cX4_part 75 = .ok (.aload 5, 2) := by decide +kernel
theorem dX4_part_77 : decode cX4_part 77 = .ok (.aload_n 0, 1) := by decide +kernel
theorem dX4_part_78 : decode cX4_part 78 = .ok (.getfield 18, 3) := by decide +kernel
theorem dX4_part_81 : decode cX4_part 81 = .ok (.invokevirtual 70, 3) := by decide +kernel
theorem dX4_part_84 : decode cX4_part 84 = .ok (.aload 5, 2) := by decide +kernel
theorem dX4_part_86 : decode cX4_part 86 = .ok (.iload 6, 2) := by decide +kernel
theorem dX4_part_88 : decode cX4_part 88 = .ok (.aload_n 0, 1) := by decide +kernel
theorem dX4_part_89 : decode cX4_part 89 = .ok (.getfield 11, 3) := by decide +kernel
theorem dX4_part_92 : decode cX4_part 92 = .ok (.aload_n 0, 1) := by decide +kernel
theorem dX4_part_93 : decode cX4_part 93 = .ok (.getfield 18, 3) := by decide +kernel
theorem dX4_part_96 : decode cX4_part 96 = .ok (.aaload, 1) := by decide +kernel
theorem dX4_part_97 : decode cX4_part 97 = .ok (.invokevirtual 218, 3) := by decide +kernel
theorem dX4_part_100 : decode cX4_part 100 = .ok (.aload_n 0, 1) := by decide +kernel
theorem dX4_part_101 : decode cX4_part 101 = .ok (.dup, 1) := by decide +kernel
theorem dX4_part_102 : decode cX4_part 102 = .ok (.getfield 18, 3) := by decide +kernel
theorem dX4_part_105 : decode cX4_part 105 = .ok (.dup_x1, 1) := by decide +kernel
theorem dX4_part_106 : decode cX4_part 106 = .ok (.iconst 1, 1) := by decide +kernel
theorem dX4_part_107 : decode cX4_part 107 = .ok (.iadd, 1) := by decide +kernel
theorem dX4_part_108 : decode cX4_part 108 = .ok (.putfield 18, 3) := by decide +kernel
theorem dX4_part_111 : decode cX4_part 111 = .ok (.ireturn, 1) := by decide +kernel
set_option maxRecDepth 20000 in
theorem ggX4_back_X1_takeLatest : GoodIn wsX4_back wsX1_takeLatest := goodIn_r _ [10, 11, 12, 13, 54, 55, 56] (by decide +kernel) (by decide +kernel)
set_option maxRecDepth 20000 in
theorem gX4_back_X1_takeLatest : GoodIn wsX4_back (wsV RX4 221 RX1 yX1_takeLatest wsX1_takeLatest) := goodIn_app (goodIn_of _ (by decide +kernel)) ggX4_back_X1_takeLatest
set_option maxRecDepth 20000 in
theorem ggX4_back_X4_find : GoodIn wsX4_back wsX4_find := goodIn_r _ [18, 5, 19, 20, 21, 17, 22, 43, 44, 45, 46, 47, 48, 49, 50] (by decide +kernel) (by decide +kernel)
set_option maxRecDepth 20000 in
theorem gX4_back_X4_find : GoodIn wsX4_back (wsV RX4 58 RX4 yX4_find wsX4_find) := goodIn_app (goodIn_of _ (by decide +kernel)) ggX4_back_X4_find
set_option maxRecDepth 20000 in
theorem ggX4_back_X2_become : GoodIn wsX4_back wsX2_become := goodIn_r _ [27, 28, 29, 30, 31, 32, 33, 34, 35, 36, 37, 26, 38, 39, 40, 41, 42, 57, 58, 59] (by decide +kernel) (by decide +kernel)
set_option maxRecDepth 20000 in
theorem gX4_back_X2_become : GoodIn wsX4_back (wsV RX4 62 RX2 yX2_become wsX2_become) := goodIn_app (goodIn_of _ (by decide +kernel)) ggX4_back_X2_become
theorem dX4_back_0 : decode cX4_back 0 = .ok (.aload_n 0, 1) := by decide +kernel
theorem dX4_back_1 : decode cX4_back 1 = .ok (.getfield 25, 3) := by decide +kernel
theorem dX4_back_4 : decode cX4_back 4 = .ok (.invokevirtual 221, 3) := by decide +kernel
theorem dX4_back_7 : decode cX4_back 7 = .ok (.astore_n 1, 1) := by decide +kernel
theorem dX4_back_8 : decode cX4_back 8 = .ok (.aload_n 1, 1) := by decide +kernel
theorem dX4_back_9 : decode cX4_back 9 = .ok (.ifnonnull 5, 3) := by decide +kernel
theorem dX4_back_12 : decode cX4_back 12 = .ok (.iconst (-1), 1) := by decide +kernel
theorem dX4_back_13 : decode cX4_back 13 = .ok (.ireturn, 1) := by decide +kernel
theorem dX4_back_14 : decode cX4_back 14 = .ok (.aload_n 0, 1) := by decide +kernel
theorem dX4_back_15 : decode cX4_back 15 = .ok (.aload_n 1, 1) := by decide +kernel
theorem dX4_back_16 : decode cX4_back 16 = .ok (.getfield 225, 3) := by decide +kernel
theorem dX4_back_19 : decode cX4_back 19 = .ok (.invokevirtual 58, 3) := by decide +kernel
theorem dX4_back_22 : decode cX4_back 22 = .ok (.astore_n 2, 1) := by decide +kernel
theorem dX4_back_23 : decode cX4_back 23 = .ok (.aload_n 2, 1) := by decide +kernel
theorem dX4_back_24 : decode cX4_back 24 = .ok (.ifnonnull 5, 3) := by decide +kernel
theorem dX4_back_27 : decode cX4_back 27 = .ok (.iconst (-1), 1) := by decide +kernel
theorem dX4_back_28 : decode cX4_back 28 = .ok (.ireturn, 1) := by decide +kernel
theorem dX4_back_29 : decode cX4_back 29 = .ok (.aload_n 2, 1) := by decide +kernel
theorem dX4_back_30 : decode cX4_back 30 = .ok (.aload_n 1, 1) := by decide +kernel
theorem dX4_back_31 : decode cX4_back 31 = .ok (.getfield 230, 3) := by decide +kernel
theorem dX4_back_34 : decode cX4_back 34 = .ok (.invokevirtual 62, 3) := by decide +kernel
theorem dX4_back_37 : decode cX4_back 37 = .ok (.aload_n 1, 1) := by decide +kernel
theorem dX4_back_38 : decode cX4_back 38 = .ok (.getfield 233, 3) := by decide +kernel
theorem dX4_back_41 : decode cX4_back 41 = .ok (.iconst (-1), 1) := by decide +kernel
theorem dX4_back_42 : decode cX4_back 42 = .ok (.if_icmp .eq 26, 3) := by decide +kernel
theorem dX4_back_45 : decode cX4_back 45 = .ok (.aload_n 1, 1) := by decide +kernel
theorem dX4_back_46 : decode cX4_back 46 = .ok (.getfield 233, 3) := by decide +kernel
theorem dX4_back_49 : decode cX4_back 49 = .ok (.aload_n 0, 1) := by decide +kernel
theorem dX4_back_50 : decode cX4_back 50 = .ok (.getfield 18, 3) := by decide +kernel
theorem dX4_back_53 : decode cX4_back 53 = .ok (.iconst 1, 1) := by decide +kernel
theorem dX4_back_54 : decode cX4_back 54 = .ok (.isub, 1) := by decide +kernel
theorem dX4_back_55 : decode cX4_back 55 = .ok (.if_icmp .ne 13, 3) := by decide +kernel
theorem dX4_back_58 : decode cX4_back 58 = .ok (.aload_n 0, 1) := by decide +kernel
theorem dX4_back_59 : decode cX4_back 59 = .ok (.dup, 1) := by decide +kernel
theorem dX4_back_60 : decode cX4_back 60 = .ok (.getfield 18, 3) := by decide +kernel
theorem dX4_back_63 : decode cX4_back 63 = .ok (.iconst 1, 1) := by decide +kernel
theorem dX4_back_64 : decode cX4_back 64 = .ok (.isub, 1) := by decide +kernel
theorem dX4_back_65 : decode cX4_back 65 = .ok (.putfield 18, 3) := by decide +kernel
theorem dX4_back_68 : decode cX4_back 68 = .ok (.aload_n 1, 1) := by decide +kernel
theorem dX4_back_69 : decode cX4_back 69 = .ok (.getfield 225, 3) := by decide +kernel
theorem dX4_back_72 : decode cX4_back 72 = .ok (.ireturn, 1) := by decide +kernel
set_option maxRecDepth 20000 in
theorem ggX4_told_X4_within : GoodIn wsX4_told wsX4_within := goodIn_r _ [8] (by decide +kernel) (by decide +kernel)
set_option maxRecDepth 20000 in
theorem gX4_told_X4_within : GoodIn wsX4_told (va_wsS RX4 50 yX4_within wsX4_within) := goodIn_app (goodIn_of _ (by decide +kernel)) ggX4_told_X4_within
theorem dX4_told_0 : decode cX4_told 0 = .ok (.iload_n 1, 1) := by decide +kernel
theorem dX4_told_1 : decode cX4_told 1 = .ok (.iconst 0, 1) := by decide +kernel
theorem dX4_told_2 : decode cX4_told 2 = .ok (.aload_n 0, 1) := by decide +kernel
theorem dX4_told_3 : decode cX4_told 3 = .ok (.getfield 47, 3) := by decide +kernel
theorem dX4_told_6 : decode cX4_told 6 = .ok (.iconst 1, 1) := by decide +kernel
theorem dX4_told_7 : decode cX4_told 7 = .ok (.isub, 1) := by decide +kernel
theorem dX4_told_8 : decode cX4_told 8 = .ok (.invokestatic 50, 3) := by decide +kernel
theorem dX4_told_11 : decode cX4_told 11 = .ok (.ifCond .ne 13, 3) := by decide +kernel
theorem dX4_told_14 : decode cX4_told 14 = .ok (.new 110, 3) := by decide +kernel
theorem dX4_told_17 : decode cX4_told 17 = .ok (.dup, 1) := by decide +kernel
theorem dX4_told_18 : decode cX4_told 18 = .ok (.ldc 236, 2) := by decide +kernel
theorem dX4_told_20 : decode cX4_told 20 = .ok (.invokespecial 114, 3) := by decide +kernel
theorem dX4_told_23 : decode cX4_told 23 = .ok (.athrow, 1) := by decide +kernel
theorem dX4_told_24 : decode cX4_told 24 = .ok (.aload_n 0, 1) := by decide +kernel
theorem dX4_told_25 : decode cX4_told 25 = .ok (.getfield 43, 3) := by decide +kernel
theorem dX4_told_28 : decode cX4_told 28 = .ok (.iload_n 1, 1) := by decide +kernel
theorem dX4_told_29 : decode cX4_told 29 = .ok (.iaload, 1) := by decide +kernel
theorem dX4_told_30 : decode cX4_told 30 = .ok (.ireturn, 1) := by decide +kernel
set_option maxRecDepth 20000 in
theorem ggX4_find_X4_within : GoodIn wsX4_find wsX4_within := goodIn_r _ [6] (by decide +kernel) (by decide +kernel)
set_option maxRecDepth 20000 in
theorem gX4_find_X4_within : GoodIn wsX4_find (va_wsS RX4 50 yX4_within wsX4_within) := goodIn_app (goodIn_of _ (by decide +kernel)) ggX4_find_X4_within
theorem dX4_find_0 : decode cX4_find 0 = .ok (.iload_n 1, 1) := by decide +kernel
theorem dX4_find_1 : decode cX4_find 1 = .ok (.iconst 0, 1) := by decide +kernel
theorem dX4_find_2 : decode cX4_find 2 = .ok (.aload_n 0, 1) := by decide +kernel
theorem dX4_find_3 : decode cX4_find 3 = .ok (.getfield 18, 3) := by decide +kernel
theorem dX4_find_6 : decode cX4_find 6 = .ok (.iconst 1, 1) := by decide +kernel
theorem dX4_find_7 : decode cX4_find 7 = .ok (.isub, 1) := by decide +kernel
theorem dX4_find_8 : decode cX4_find 8 = .ok (.invokestatic 50, 3) := by decide +kernel
theorem dX4_find_11 : decode cX4_find 11 = .ok (.ifCond .eq 12, 3) := by decide +kernel
theorem dX4_find_14 : decode cX4_find 14 = .ok (.aload_n 0, 1) := by decide +kernel
theorem dX4_find_15 : decode cX4_find 15 = .ok (.getfield 11, 3) := by decide +kernel
theorem dX4_find_18 : decode cX4_find 18 = .ok (.iload_n 1, 1) := by decide +kernel
theorem dX4_find_19 : decode cX4_find 19 = .ok (.aaload, 1) := by decide +kernel
theorem dX4_find_20 : decode cX4_find 20 = .ok (.goto 4, 3) := by decide +kernel
theorem dX4_find_23 : decode cX4_find 23 = .ok (.aconst_null, 1) := by decide +kernel
theorem dX4_find_24 : decode cX4_find 24 = .ok (.areturn, 1) := by decide +kernel
theorem dX4_within_0 : decode cX4_within 0 = .ok (.iload_n 0, 1) := by decide +kernel
theorem dX4_within_1 : decode cX4_within 1 = .ok (.iload_n 1, 1) := by decide +kernel
theorem dX4_within_2 : decode cX4_within 2 = .ok (.if_icmp .lt 12, 3) := by decide +kernel
theorem dX4_within_5 : decode cX4_within 5 = .ok (.iload_n 0, 1) := by decide +kernel
theorem dX4_within_6 : decode cX4_within 6 = .ok (.iload_n 2, 1) := by decide +kernel
theorem dX4_within_7 : decode cX4_within 7 = .ok (.if_icmp .gt 7, 3) := by decide +kernel
theorem dX4_within_10 : decode cX4_within 10 = .ok (.iconst 1, 1) := by decide +kernel
theorem dX4_within_11 : decode cX4_within 11 = .ok (.goto 4, 3) := by decide +kernel
theorem dX4_within_14 : decode cX4_within 14 = .ok (.iconst 0, 1) := by decide +kernel
theorem dX4_within_15 : decode cX4_within 15 = .ok (.ireturn, 1) := by decide +kernel
set_option maxRecDepth 20000 in
theorem ggX4_isShear_X4_within : GoodIn wsX4_isShear wsX4_within := goodIn_r _ [4] (by decide +kernel) (by decide +kernel)
set_option maxRecDepth 20000 in
theorem gX4_isShear_X4_within : GoodIn wsX4_isShear (va_wsS RX4 50 yX4_within wsX4_within) := goodIn_app (goodIn_of _ (by decide +kernel)) ggX4_isShear_X4_within
theorem dX4_isShear_0 : decode cX4_isShear 0 = .ok (.iload_n 0, 1) := by decide +kernel
theorem dX4_isShear_1 : decode cX4_isShear 1 = .ok (.bipush (-16), 2) := by decide +kernel
theorem dX4_isShear_3 : decode cX4_isShear 3 = .ok (.bipush 16, 2) := by decide +kernel
theorem dX4_isShear_5 : decode cX4_isShear 5 = .ok (.invokestatic 50, 3) := by decide +kernel
theorem dX4_isShear_8 : decode cX4_isShear 8 = .ok (.ireturn, 1) := by decide +kernel
set_option maxRecDepth 20000 in
theorem ggX4_isSpeckRule_X4_within : GoodIn wsX4_isSpeckRule wsX4_within := goodIn_r _ [4] (by decide +kernel) (by decide +kernel)
set_option maxRecDepth 20000 in
theorem gX4_isSpeckRule_X4_within : GoodIn wsX4_isSpeckRule (va_wsS RX4 50 yX4_within wsX4_within) := goodIn_app (goodIn_of _ (by decide +kernel)) ggX4_isSpeckRule_X4_within
theorem dX4_isSpeckRule_0 : decode cX4_isSpeckRule 0 = .ok (.iload_n 0, 1) := by decide +kernel
theorem dX4_isSpeckRule_1 : decode cX4_isSpeckRule 1 = .ok (.iconst 1, 1) := by decide +kernel
theorem dX4_isSpeckRule_2 : decode cX4_isSpeckRule 2 = .ok (.bipush 100, 2) := by decide +kernel
theorem dX4_isSpeckRule_4 : decode cX4_isSpeckRule 4 = .ok (.invokestatic 50, 3) := by decide +kernel
theorem dX4_isSpeckRule_7 : decode cX4_isSpeckRule 7 = .ok (.ifCond .eq 17, 3) := by decide +kernel
theorem dX4_isSpeckRule_10 : decode cX4_isSpeckRule 10 = .ok (.iload_n 1, 1) := by decide +kernel
theorem dX4_isSpeckRule_11 : decode cX4_isSpeckRule 11 = .ok (.iconst 0, 1) := by decide +kernel
theorem dX4_isSpeckRule_12 : decode cX4_isSpeckRule 12 = .ok (.bipush 20, 2) := by decide +kernel
theorem dX4_isSpeckRule_14 : decode cX4_isSpeckRule 14 = .ok (.invokestatic 50, 3) := by decide +kernel
theorem dX4_isSpeckRule_17 : decode cX4_isSpeckRule 17 = .ok (.ifCond .eq 7, 3) := by decide +kernel
theorem dX4_isSpeckRule_20 : decode cX4_isSpeckRule 20 = .ok (.iconst 1, 1) := by decide +kernel
theorem dX4_isSpeckRule_21 : decode cX4_isSpeckRule 21 = .ok (.goto 4, 3) := by decide +kernel
theorem dX4_isSpeckRule_24 : decode cX4_isSpeckRule 24 = .ok (.iconst 0, 1) := by decide +kernel
theorem dX4_isSpeckRule_25 : decode cX4_isSpeckRule 25 = .ok (.ireturn, 1) := by decide +kernel
theorem dX4_entryBits_0 : decode cX4_entryBits 0 = .ok (.iload_n 0, 1) := by decide +kernel
theorem dX4_entryBits_1 : decode cX4_entryBits 1 = .ok (.ifCond .ne 9, 3) := by decide +kernel
theorem dX4_entryBits_4 : decode cX4_entryBits 4 = .ok (.ldc2_w 238, 3) := by decide +kernel
theorem dX4_entryBits_7 : decode cX4_entryBits 7 = .ok (.goto 28, 3) := by decide +kernel
theorem dX4_entryBits_10 : decode cX4_entryBits 10 = .ok (.iload_n 0, 1) := by decide +kernel
theorem dX4_entryBits_11 : decode cX4_entryBits 11 = .ok (.iconst 1, 1) := by decide +kernel
theorem dX4_entryBits_12 : decode cX4_entryBits 12 = .ok (.if_icmp .ne 9, 3) := by decide +kernel
theorem dX4_entryBits_15 : decode cX4_entryBits 15 = .ok (.ldc2_w 240, 3) := by decide +kernel
theorem dX4_entryBits_18 : decode cX4_entryBits 18 = .ok (.goto 17, 3) := by decide +kernel
theorem dX4_entryBits_21 : decode cX4_entryBits 21 = .ok (.iload_n 0, 1) := by decide +kernel
theorem dX4_entryBits_22 : decode cX4_entryBits 22 = .ok (.iconst 2, 1) := by decide +kernel
theorem dX4_entryBits_23 : decode cX4_entryBits 23 = .ok (.if_icmp .ne 9, 3) := by decide +kernel
theorem dX4_entryBits_26 : decode cX4_entryBits 26 = .ok (.ldc2_w 242, 3) := by decide +kernel
theorem dX4_entryBits_29 : decode cX4_entryBits 29 = .ok (.goto 6, 3) := by decide +kernel
theorem dX4_entryBits_32 : decode cX4_entryBits 32 = .ok (.ldc2_w 78, 3) := by decide +kernel
theorem dX4_entryBits_35 : decode cX4_entryBits 35 = .ok (.lreturn, 1) := by decide +kernel
set_option maxRecDepth 20000 in
theorem ggX4_canTurn_X4_spread : GoodIn wsX4_canTurn wsX4_spread := goodIn_r _ [6, 7, 8, 9, 10, 11, 12, 5, 13, 14, 15, 16, 17] (by decide +kernel) (by decide +kernel)
set_option maxRecDepth 20000 in
theorem gX4_canTurn_X4_spread : GoodIn wsX4_canTurn (va_wsS RX4 143 yX4_spread wsX4_spread) := goodIn_app (goodIn_of _ (by decide +kernel)) ggX4_canTurn_X4_spread
theorem dX4_canTurn_0 : decode cX4_canTurn 0 = .ok (.aload_n 0, 1) := by decide +kernel
theorem dX4_canTurn_1 : decode cX4_canTurn 1 = .ok (.getfield 117, 3) := by decide +kernel
theorem dX4_canTurn_4 : decode cX4_canTurn 4 = .ok (.iload_n 1, 1) := by decide +kernel
theorem dX4_canTurn_5 : decode cX4_canTurn 5 = .ok (.aload_n 0, 1) := by decide +kernel
theorem dX4_canTurn_6 : decode cX4_canTurn 6 = .ok (.getfield 97, 3) := by decide +kernel
theorem dX4_canTurn_9 : decode cX4_canTurn 9 = .ok (.invokestatic 143, 3) := by decide +kernel
theorem dX4_canTurn_12 : decode cX4_canTurn 12 = .ok (.iadd, 1) := by decide +kernel
theorem dX4_canTurn_13 : decode cX4_canTurn 13 = .ok (.istore_n 3, 1) := by decide +kernel
theorem dX4_canTurn_14 : decode cX4_canTurn 14 = .ok (.aload_n 0, 1) := by decide +kernel
theorem dX4_canTurn_15 : decode cX4_canTurn 15 = .ok (.getfield 97, 3) := by decide +kernel
theorem dX4_canTurn_18 : decode cX4_canTurn 18 = .ok (.iload_n 2, 1) := by decide +kernel
theorem dX4_canTurn_19 : decode cX4_canTurn 19 = .ok (.iload_n 3, 1) := by decide +kernel
theorem dX4_canTurn_20 : decode cX4_canTurn 20 = .ok (.invokestatic 143, 3) := by decide +kernel
theorem dX4_canTurn_23 : decode cX4_canTurn 23 = .ok (.iadd, 1) := by decide +kernel
theorem dX4_canTurn_24 : decode cX4_canTurn 24 = .ok (.istore 4, 2) := by decide +kernel
theorem dX4_canTurn_26 : decode cX4_canTurn 26 = .ok (.iload_n 3, 1) := by decide +kernel
theorem dX4_canTurn_27 : decode cX4_canTurn 27 = .ok (.bipush 64, 2) := by decide +kernel
theorem dX4_canTurn_29 : decode cX4_canTurn 29 = .ok (.if_icmp .gt 27, 3) := by decide +kernel
theorem dX4_canTurn_32 : decode cX4_canTurn 32 = .ok (.iload 4, 2) := by decide +kernel
theorem dX4_canTurn_34 : decode cX4_canTurn 34 = .ok (.bipush 64, 2) := by decide +kernel
theorem dX4_canTurn_36 : decode cX4_canTurn 36 = .ok (.if_icmp .gt 20, 3) := by decide +kernel
theorem dX4_canTurn_39 : decode cX4_canTurn 39 = .ok (.iload_n 3, 1) := by decide +kernel
theorem dX4_canTurn_40 : decode cX4_canTurn 40 = .ok (.iload_n 1, 1) := by decide +kernel
theorem dX4_canTurn_41 : decode cX4_canTurn 41 = .ok (.iload 4, 2) := by decide +kernel
theorem dX4_canTurn_43 : decode cX4_canTurn 43 = .ok (.invokestatic 143, 3) := by decide +kernel
theorem dX4_canTurn_46 : decode cX4_canTurn 46 = .ok (.iadd, 1) := by decide +kernel
theorem dX4_canTurn_47 : decode cX4_canTurn 47 = .ok (.bipush 64, 2) := by decide +kernel
theorem dX4_canTurn_49 : decode cX4_canTurn 49 = .ok (.if_icmp .gt 7, 3) := by decide +kernel
theorem dX4_canTurn_52 : decode cX4_canTurn 52 = .ok (.iconst 1, 1) := by decide +kernel
theorem dX4_canTurn_53 : decode cX4_canTurn 53 = .ok (.goto 4, 3) := by decide +kernel
theorem dX4_canTurn_56 : decode cX4_canTurn 56 = .ok (.iconst 0, 1) := by decide +kernel
theorem dX4_canTurn_57 : decode cX4_canTurn 57 = .ok (.ireturn, 1) := by decide +kernel
set_option maxRecDepth 20000 in
theorem ggX4_shearUp_X2_becomeShearedUp : GoodIn wsX4_shearUp wsX2_becomeShearedUp := goodIn_r _ [6, 7, 8, 9, 10, 11, 12, 13, 14, 15, 16, 17, 18, 19, 20, 21, 22, 23, 24, 25, 5, 26, 27, 28, 29, 30, 31, 32, 33, 34, 35, 36, 37, 38, 39, 40, 57, 58, 59] (by decide +kernel) (by decide +kernel)
set_option maxRecDepth 20000 in
theorem gX4_shearUp_X2_becomeShearedUp : GoodIn wsX4_shearUp (wsV RX4 244 RX2 yX2_becomeShearedUp wsX2_becomeShearedUp) := goodIn_app (goodIn_of _ (by decide +kernel)) ggX4_shearUp_X2_becomeShearedUp
set_option maxRecDepth 20000 in
theorem ggX4_shearUp_X2_become : GoodIn wsX4_shearUp wsX2_become := goodIn_r _ [44, 7, 8, 27, 45, 46, 47, 48, 23, 24, 25, 5, 26, 28, 29, 30, 31, 57, 58, 59] (by decide +kernel) (by decide +kernel)
set_option maxRecDepth 20000 in
theorem gX4_shearUp_X2_become : GoodIn wsX4_shearUp (wsV RX4 62 RX2 yX2_become wsX2_become) := goodIn_app (goodIn_of _ (by decide +kernel)) ggX4_shearUp_X2_become
theorem dX4_shearUp_0 : decode cX4_shearUp 0 = .ok (.aload_n 0, 1) := by decide +kernel
theorem dX4_shearUp_1 : decode cX4_shearUp 1 = .ok (.getfield 40, 3) := by decide +kernel
theorem dX4_shearUp_4 : decode cX4_shearUp 4 = .ok (.aload_n 1, 1) := by decide +kernel
theorem dX4_shearUp_5 : decode cX4_shearUp 5 = .ok (.iload_n 2, 1) := by decide +kernel
theorem dX4_shearUp_6 : decode cX4_shearUp 6 = .ok (.invokevirtual 244, 3) := by decide +kernel
theorem dX4_shearUp_9 : decode cX4_shearUp 9 = .ok (.aload_n 1, 1) := by decide +kernel
theorem dX4_shearUp_10 : decode cX4_shearUp 10 = .ok (.aload_n 0, 1) := by decide +kernel
theorem dX4_shearUp_11 : decode cX4_shearUp 11 = .ok (.getfield 40, 3) := by decide +kernel
theorem dX4_shearUp_14 : decode cX4_shearUp 14 = .ok (.invokevirtual 62, 3) := by decide +kernel
theorem dX4_shearUp_17 : decode cX4_shearUp 17 = .ok (.return_, 1) := by decide +kernel
set_option maxRecDepth 20000 in
theorem ggX4_sharpness_X2_becomeShearedUp : GoodIn wsX4_sharpness wsX2_becomeShearedUp := goodIn_r _ [8, 9, 10, 11, 12, 13, 14, 15, 16, 17, 18, 19, 20, 21, 22, 23, 24, 25, 26, 27, 7, 28, 29, 30, 31, 32, 33, 34, 35, 36, 37, 38, 39, 40, 41, 42, 58, 59, 60] (by decide +kernel) (by decide +kernel)
set_option maxRecDepth 20000 in
theorem gX4_sharpness_X2_becomeShearedUp : GoodIn wsX4_sharpness (wsV RX4 244 RX2 yX2_becomeShearedUp wsX2_becomeShearedUp) := goodIn_app (goodIn_of _ (by decide +kernel)) ggX4_sharpness_X2_becomeShearedUp
set_option maxRecDepth 20000 in
theorem ggX4_sharpness_J13_bitCount_95d88 : GoodIn wsX4_sharpness wsJ13_bitCount_95d88 := goodIn_r _ [46, 47, 48, 49] (by decide +kernel) (by decide +kernel)
set_option maxRecDepth 20000 in
theorem gX4_sharpness_J13_bitCount_95d88 : GoodIn wsX4_sharpness (va_wsS RX4 88 yJ13_bitCount_95d88 wsJ13_bitCount_95d88) := goodIn_app (goodIn_of _ (by decide +kernel)) ggX4_sharpness_J13_bitCount_95d88
theorem dX4_sharpness_0 : decode cX4_sharpness 0 = .ok (.aload_n 0, 1) := by decide +kernel
theorem dX4_sharpness_1 : decode cX4_sharpness 1 = .ok (.getfield 40, 3) := by decide +kernel
theorem dX4_sharpness_4 : decode cX4_sharpness 4 = .ok (.aload_n 1, 1) := by decide +kernel
theorem dX4_sharpness_5 : decode cX4_sharpness 5 = .ok (.iload_n 2, 1) := by decide +kernel
theorem dX4_sharpness_6 : decode cX4_sharpness 6 = .ok (.invokevirtual 244, 3) := by decide +kernel
theorem dX4_sharpness_9 : decode cX4_sharpness 9 = .ok (.iconst 0, 1) := by decide +kernel
theorem dX4_sharpness_10 : decode cX4_sharpness 10 = .ok (.istore_n 3, 1) := by decide +kernel
theorem dX4_sharpness_11 : decode cX4_sharpness 11 = .ok (.iconst 0, 1) := by decide +kernel
theorem dX4_sharpness_12 : decode cX4_sharpness 12 = .ok (.istore 4, 2) := by decide +kernel
theorem dX4_sharpness_14 : decode cX4_sharpness 14 = .ok (.iload 4, 2) := by decide +kernel
theorem dX4_sharpness_16 : decode cX4_sharpness 16 = .ok (.aload_n 0, 1) := by decide +kernel
theorem dX4_sharpness_17 : decode cX4_sharpness 17 = .ok (.getfield 40, 3) := by decide +kernel
theorem dX4_sharpness_20 : decode cX4_sharpness 20 = .ok (.getfield 97, 3) := by decide +kernel
theorem dX4_sharpness_23 : decode cX4_sharpness 23 = .ok (.if_icmp .ge 32, 3) := by decide +kernel
theorem dX4_sharpness_26 : decode cX4_sharpness 26 = .ok (.aload_n 0, 1) := by decide +kernel
theorem dX4_sharpness_27 : decode cX4_sharpness 27 = .ok (.getfield 40, 3) := by decide +kernel
theorem dX4_sharpness_30 : decode cX4_sharpness 30 = .ok (.getfield 74, 3) := by decide +kernel
theorem dX4_sharpness_33 : decode cX4_sharpness 33 = .ok (.iload 4, 2) := by decide +kernel
theorem dX4_sharpness_35 : decode cX4_sharpness 35 = .ok (.laload, 1) := by decide +kernel
theorem dX4_sharpness_36 : decode cX4_sharpness 36 = .ok (.invokestatic 88, 3) := by decide +kernel
theorem dX4_sharpness_39 : decode cX4_sharpness 39 = .ok (.istore 5, 2) := by decide +kernel
theorem dX4_sharpness_41 : decode cX4_sharpness 41 = .ok (.iload_n 3, 1) := by decide +kernel
theorem dX4_sharpness_42 : decode cX4_sharpness 42 = .ok (.iload 5, 2) := by decide +kernel
theorem dX4_sharpness_44 : decode cX4_sharpness 44 = .ok (.iload 5, 2) := by decide +kernel
theorem dX4_sharpness_46 : decode cX4_sharpness 46 = .ok (.imul, 1) := by decide +kernel
theorem dX4_sharpness_47 : decode cX4_sharpness 47 = .ok (.iadd, 1) := by decide +kernel
theorem dX4_sharpness_48 : decode cX4_sharpness 48 = .ok (.istore_n 3, 1) := by decide +kernel
theorem dX4_sharpness_49 : decode cX4_sharpness 49 = .ok (.iinc 4 1, 3) := by decide +kernel
theorem dX4_sharpness_52 : decode cX4_sharpness 52 = .ok (.goto (-38), 3) := by decide +kernel
theorem dX4_sharpness_55 : decode cX4_sharpness 55 = .ok (.iload_n 3, 1) := by decide +kernel
theorem dX4_sharpness_56 : decode cX4_sharpness 56 = .ok (.ireturn, 1) := by decide +kernel
set_option maxRecDepth 20000 in
theorem ggX4_takeListed_X1_remember : GoodIn wsX4_takeListed wsX1_remember := goodIn_r _ [10, 11, 12, 13, 14, 15, 16, 17, 18, 19, 20, 21, 22, 23, 24, 25, 26, 27, 28, 29, 30, 31, 32, 33, 34, 35, 36, 37, 38, 39, 40, 52, 53, 54, 55, 56, 57, 49, 50, 51] (by decide +kernel) (by decide +kernel)
set_option maxRecDepth 20000 in
theorem gX4_takeListed_X1_remember : GoodIn wsX4_takeListed (wsV RX4 70 RX1 yX1_remember wsX1_remember) := goodIn_app (goodIn_of _ (by decide +kernel)) ggX4_takeListed_X1_remember
theorem dX4_takeListed_0 : decode cX4_takeListed 0 = .ok (.aload_n 0, 1) := by decide +kernel
theorem dX4_takeListed_1 : decode cX4_takeListed 1 = .ok (.getfield 25, 3) := by decide +kernel
theorem dX4_takeListed_4 : decode cX4_takeListed 4 = .ok (.iload_n 1, 1) := by decide +kernel
theorem dX4_takeListed_5 : decode cX4_takeListed 5 = .ok (.aload_n 2, 1) := by decide +kernel
theorem dX4_takeListed_6 : decode cX4_takeListed 6 = .ok (.iconst (-1), 1) := by decide +kernel
theorem dX4_takeListed_7 : decode cX4_takeListed 7 = .ok (.invokevirtual 70, 3) := by decide +kernel
theorem dX4_takeListed_10 : decode cX4_takeListed 10 = .ok (.iconst 0, 1) := by decide +kernel
theorem dX4_takeListed_11 : decode cX4_takeListed 11 = .ok (.istore_n 3, 1) := by decide +kernel
theorem dX4_takeListed_12 : decode cX4_takeListed 12 = .ok (.iload_n 3, 1) := by decide +kernel
theorem dX4_takeListed_13 : decode cX4_takeListed 13 = .ok (.aload_n 2, 1) := by decide +kernel
theorem dX4_takeListed_14 : decode cX4_takeListed 14 = .ok (.getfield 97, 3) := by decide +kernel
theorem dX4_takeListed_17 : decode cX4_takeListed 17 = .ok (.if_icmp .ge 31, 3) := by decide +kernel
theorem dX4_takeListed_20 : decode cX4_takeListed 20 = .ok (.aload_n 2, 1) := by decide +kernel
theorem dX4_takeListed_21 : decode cX4_takeListed 21 = .ok (.getfield 74, 3) := by decide +kernel
theorem dX4_takeListed_24 : decode cX4_takeListed 24 = .ok (.iload_n 3, 1) := by decide +kernel
theorem dX4_takeListed_25 : decode cX4_takeListed 25 = .ok (.dup2, 1) := by decide +kernel
theorem dX4_takeListed_26 : decode cX4_takeListed 26 = .ok (.laload, 1) := by decide +kernel
theorem dX4_takeListed_27 : decode cX4_takeListed 27 = .ok (.aload_n 0, 1) := by decide +kernel
theorem dX4_takeListed_28 : decode cX4_takeListed 28 = .ok (.getfield 36, 3) := by decide +kernel
theorem dX4_takeListed_31 : decode cX4_takeListed 31 = .ok (.getfield 74, 3) := by decide +kernel
theorem dX4_takeListed_34 : decode cX4_takeListed 34 = .ok (.iload_n 3, 1) := by decide +kernel
theorem dX4_takeListed_35 : decode cX4_takeListed 35 = .ok (.laload, 1) := by decide +kernel
theorem dX4_takeListed_36 : decode cX4_takeListed 36 = .ok (.ldc2_w 78, 3) := by decide +kernel
theorem dX4_takeListed_39 : decode cX4_takeListed 39 = .ok (.lxor, 1) := by decide +kernel
theorem dX4_takeListed_40 : decode cX4_takeListed 40 = .ok (.land, 1) := by decide +kernel
theorem dX4_takeListed_41 : decode cX4_takeListed 41 = .ok (.lastore, 1) := by decide +kernel
theorem dX4_takeListed_42 : decode cX4_takeListed 42 = .ok (.iinc 3 1, 3) := by decide +kernel
theorem dX4_takeListed_45 : decode cX4_takeListed 45 = .ok (.goto (-33), 3) := by decide +kernel
theorem dX4_takeListed_48 : decode cX4_takeListed 48 = .ok (.return_, 1) := by decide +kernel
theorem dX4_tellSpans_0 : decode cX4_tellSpans 0 = .ok (.aload_n 0, 1) := by decide +kernel
theorem dX4_tellSpans_1 : decode cX4_tellSpans 1 = .ok (.iconst 0, 1) := by decide +kernel
theorem dX4_tellSpans_2 : decode cX4_tellSpans 2 = .ok (.putfield 47, 3) := by decide +kernel
theorem dX4_tellSpans_5 : decode cX4_tellSpans 5 = .ok (.iconst 0, 1) := by decide +kernel
theorem dX4_tellSpans_6 : decode cX4_tellSpans 6 = .ok (.istore 4, 2) := by decide +kernel
theorem dX4_tellSpans_8 : decode cX4_tellSpans 8 = .ok (.iload 4, 2) := by decide +kernel
theorem dX4_tellSpans_10 : decode cX4_tellSpans 10 = .ok (.bipush 64, 2) := by decide +kernel
theorem dX4_tellSpans_12 : decode cX4_tellSpans 12 = .ok (.if_icmp .ge 82, 3) := by decide +kernel
theorem dX4_tellSpans_15 : decode cX4_tellSpans 15 = .ok (.lload_n 1, 1) := by decide +kernel
theorem dX4_tellSpans_16 : decode cX4_tellSpans 16 = .ok (.iload 4, 2) := by decide +kernel
theorem dX4_tellSpans_18 : decode cX4_tellSpans 18 = .ok (.lushr, 1) := by decide +kernel
theorem dX4_tellSpans_19 : decode cX4_tellSpans 19 = .ok (.lconst 1, 1) := by decide +kernel
theorem dX4_tellSpans_20 : decode cX4_tellSpans 20 = .ok (.land, 1) := by decide +kernel
theorem dX4_tellSpans_21 : decode cX4_tellSpans 21 = .ok (.lconst 0, 1) := by decide +kernel
theorem dX4_tellSpans_22 : decode cX4_tellSpans 22 = .ok (.lcmp, 1) := by decide +kernel
theorem dX4_tellSpans_23 : decode cX4_tellSpans 23 = .ok (.ifCond .ne 6, 3) := by decide +kernel
theorem dX4_tellSpans_26 : decode cX4_tellSpans 26 = .ok (.goto 62, 3) := by decide +kernel
theorem dX4_tellSpans_29 : decode cX4_tellSpans 29 = .ok (.aload_n 0, 1) := by decide +kernel
theorem dX4_tellSpans_30 : decode cX4_tellSpans 30 = .ok (.getfield 47, 3) := by decide +kernel
theorem dX4_tellSpans_33 : decode cX4_tellSpans 33 = .ok (.ifCond .eq 21, 3) := by decide +kernel
theorem dX4_tellSpans_36 : decode cX4_tellSpans 36 = .ok (.iload 4, 2) := by decide +kernel
theorem dX4_tellSpans_38 : decode cX4_tellSpans 38 = .ok (.aload_n 0, 1) := by decide +kernel
theorem dX4_tellSpans_39 : decode cX4_tellSpans 39 = .ok (.getfield 43, 3) := by decide +kernel
theorem dX4_tellSpans_42 : decode cX4_tellSpans 42 = .ok (.aload_n 0, 1) := by decide +kernel
theorem dX4_tellSpans_43 : decode cX4_tellSpans 43 = .ok (.getfield 47, 3) := by decide +kernel
theorem dX4_tellSpans_46 : decode cX4_tellSpans 46 = .ok (.iconst 1, 1) := by decide +kernel
theorem dX4_tellSpans_47 : decode cX4_tellSpans 47 = .ok (.isub, 1) := by decide +kernel
theorem dX4_tellSpans_48 : decode cX4_tellSpans 48 = .ok (.iaload, 1) := by decide +kernel
theorem dX4_tellSpans_49 : decode cX4_tellSpans 49 = .ok (.isub, 1) := by decide +kernel
theorem dX4_tellSpans_50 : decode cX4_tellSpans 50 = .ok (.iload_n 3, 1) := by decide +kernel
theorem dX4_tellSpans_51 : decode cX4_tellSpans 51 = .ok (.if_icmp .le 24, 3) := by decide +kernel
theorem dX4_tellSpans_54 : decode cX4_tellSpans 54 = .ok (.aload_n 0, 1) := by decide +kernel
theorem dX4_tellSpans_55 : decode cX4_tellSpans 55 = .ok (.getfield 43, 3) := by decide +kernel
theorem dX4_tellSpans_58 : decode cX4_tellSpans 58 = .ok (.aload_n 0, 1) := by decide +kernel
theorem dX4_tellSpans_59 : decode cX4_tellSpans 59 = .ok (.getfield 47, 3) := by decide +kernel
theorem dX4_tellSpans_62 : decode cX4_tellSpans 62 = .ok (.iload 4, 2) := by decide +kernel
theorem dX4_tellSpans_64 : decode cX4_tellSpans 64 = .ok (.iastore, 1) := by decide +kernel
theorem dX4_tellSpans_65 : decode cX4_tellSpans 65 = .ok (.aload_n 0, 1) := by decide +kernel
theorem dX4_tellSpans_66 : decode cX4_tellSpans 66 = .ok (.dup, 1) := by decide +kernel
theorem dX4_tellSpans_67 : decode cX4_tellSpans 67 = .ok (.getfield 47, 3) := by decide +kernel
theorem dX4_tellSpans_70 : decode cX4_tellSpans 70 = .ok (.iconst 2, 1) := by decide +kernel
theorem dX4_tellSpans_71 : decode cX4_tellSpans 71 = .ok (.iadd, 1) := by decide +kernel
theorem dX4_tellSpans_72 : decode cX4_tellSpans 72 = .ok (.putfield 47, 3) := by decide +kernel
theorem dX4_tellSpans_75 : decode cX4_tellSpans 75 = .ok (.aload_n 0, 1) := by decide +kernel
theorem dX4_tellSpans_76 : decode cX4_tellSpans 76 = .ok (.getfield 43, 3) := by decide +kernel
theorem dX4_tellSpans_79 : decode cX4_tellSpans 79 = .ok (.aload_n 0, 1) := by decide +kernel
theorem dX4_tellSpans_80 : decode cX4_tellSpans 80 = .ok (.getfield 47, 3) := by decide +kernel
theorem dX4_tellSpans_83 : decode cX4_tellSpans 83 = .ok (.iconst 1, 1) := by decide +kernel
theorem dX4_tellSpans_84 : decode cX4_tellSpans 84 = .ok (.isub, 1) := by decide +kernel
theorem dX4_tellSpans_85 : decode cX4_tellSpans 85 = .ok (.iload 4, 2) := by decide +kernel
theorem dX4_tellSpans_87 : decode cX4_tellSpans 87 = .ok (.iastore, 1) := by decide +kernel
theorem dX4_tellSpans_88 : decode cX4_tellSpans 88 = .ok (.iinc 4 1, 3) := by decide +kernel
theorem dX4_tellSpans_91 : decode cX4_tellSpans 91 = .ok (.goto (-83), 3) := by decide +kernel
theorem dX4_tellSpans_94 : decode cX4_tellSpans 94 = .ok (.return_, 1) := by decide +kernel
set_option maxRecDepth 20000 in
theorem ggX4_slide_J9_floorDiv_7cf53 : GoodIn wsX4_slide wsJ9_floorDiv_7cf53 := goodIn_r _ [4] (by decide +kernel) (by decide +kernel)
set_option maxRecDepth 20000 in
theorem gX4_slide_J9_floorDiv_7cf53 : GoodIn wsX4_slide (va_wsS RX4 247 yJ9_floorDiv_7cf53 wsJ9_floorDiv_7cf53) := goodIn_app (goodIn_of _ (by decide +kernel)) ggX4_slide_J9_floorDiv_7cf53
theorem dX4_slide_0 : decode cX4_slide 0 = .ok (.iload_n 0, 1) := by decide +kernel
theorem dX4_slide_1 : decode cX4_slide 1 = .ok (.iload_n 1, 1) := by decide +kernel
theorem dX4_slide_2 : decode cX4_slide 2 = .ok (.imul, 1) := by decide +kernel
theorem dX4_slide_3 : decode cX4_slide 3 = .ok (.bipush 16, 2) := by decide +kernel
theorem dX4_slide_5 : decode cX4_slide 5 = .ok (.invokestatic 247, 3) := by decide +kernel
theorem dX4_slide_8 : decode cX4_slide 8 = .ok (.ireturn, 1) := by decide +kernel
set_option maxRecDepth 20000 in
theorem ggX4_leastSlide_X4_slide : GoodIn wsX4_leastSlide wsX4_slide := goodIn_r _ [8, 9, 10, 11, 12] (by decide +kernel) (by decide +kernel)
set_option maxRecDepth 20000 in
theorem gX4_leastSlide_X4_slide : GoodIn wsX4_leastSlide (va_wsS RX4 250 yX4_slide wsX4_slide) := goodIn_app (goodIn_of _ (by decide +kernel)) ggX4_leastSlide_X4_slide
theorem dX4_leastSlide_0 : decode cX4_leastSlide 0 = .ok (.iconst 0, 1) := by decide +kernel
theorem dX4_leastSlide_1 : decode cX4_leastSlide 1 = .ok (.iload_n 0, 1) := by decide +kernel
theorem dX4_leastSlide_2 : decode cX4_leastSlide 2 = .ok (.iload_n 1, 1) := by decide +kernel
theorem dX4_leastSlide_3 : decode cX4_leastSlide 3 = .ok (.iconst 1, 1) := by decide +kernel
theorem dX4_leastSlide_4 : decode cX4_leastSlide 4 = .ok (.isub, 1) := by decide +kernel
theorem dX4_leastSlide_5 : decode cX4_leastSlide 5 = .ok (.invokestatic 250, 3) := by decide +kernel
theorem dX4_leastSlide_8 : decode cX4_leastSlide 8 = .ok (.invokestatic 100, 3) := by decide +kernel
theorem dX4_leastSlide_11 : decode cX4_leastSlide 11 = .ok (.ireturn, 1) := by decide +kernel
set_option maxRecDepth 20000 in
theorem ggX4_spread_X4_slide : GoodIn wsX4_spread wsX4_slide := goodIn_r _ [8, 9, 10, 11, 12] (by decide +kernel) (by decide +kernel)
set_option maxRecDepth 20000 in
theorem gX4_spread_X4_slide : GoodIn wsX4_spread (va_wsS RX4 250 yX4_slide wsX4_slide) := goodIn_app (goodIn_of _ (by decide +kernel)) ggX4_spread_X4_slide
theorem dX4_spread_0 : decode cX4_spread 0 = .ok (.iload_n 0, 1) := by decide +kernel
theorem dX4_spread_1 : decode cX4_spread 1 = .ok (.iload_n 1, 1) := by decide +kernel
theorem dX4_spread_2 : decode cX4_spread 2 = .ok (.iconst 1, 1) := by decide +kernel
theorem dX4_spread_3 : decode cX4_spread 3 = .ok (.isub, 1) := by decide +kernel
theorem dX4_spread_4 : decode cX4_spread 4 = .ok (.invokestatic 250, 3) := by decide +kernel
theorem dX4_spread_7 : decode cX4_spread 7 = .ok (.invokestatic 253, 3) := by decide +kernel
theorem dX4_spread_10 : decode cX4_spread 10 = .ok (.ireturn, 1) := by decide +kernel
theorem dX4_stepColumns_0 : decode cX4_stepColumns 0 = .ok (.ldc2_w 238, 3) := by decide +kernel
theorem dX4_stepColumns_3 : decode cX4_stepColumns 3 = .ok (.bipush 8, 2) := by decide +kernel
theorem dX4_stepColumns_5 : decode cX4_stepColumns 5 = .ok (.iload_n 0, 1) := by decide +kernel
theorem dX4_stepColumns_6 : decode cX4_stepColumns 6 = .ok (.imul, 1) := by decide +kernel
theorem dX4_stepColumns_7 : decode cX4_stepColumns 7 = .ok (.lshl, 1) := by decide +kernel
theorem dX4_stepColumns_8 : decode cX4_stepColumns 8 = .ok (.lreturn, 1) := by decide +kernel
set_option maxRecDepth 20000 in
theorem ggX4_lowestBit_J13_bitCount_95d88 : GoodIn wsX4_lowestBit wsJ13_bitCount_95d88 := goodIn_r _ [4, 5, 6, 7] (by decide +kernel) (by decide +kernel)
set_option maxRecDepth 20000 in
theorem gX4_lowestBit_J13_bitCount_95d88 : GoodIn wsX4_lowestBit (va_wsS RX4 88 yJ13_bitCount_95d88 wsJ13_bitCount_95d88) := goodIn_app (goodIn_of _ (by decide +kernel)) ggX4_lowestBit_J13_bitCount_95d88
theorem dX4_lowestBit_0 : decode cX4_lowestBit 0 = .ok (.lload_n 0, 1) := by decide +kernel
theorem dX4_lowestBit_1 : decode cX4_lowestBit 1 = .ok (.lload_n 0, 1) := by decide +kernel
theorem dX4_lowestBit_2 : decode cX4_lowestBit 2 = .ok (.lneg, 1) := by decide +kernel
theorem dX4_lowestBit_3 : decode cX4_lowestBit 3 = .ok (.land, 1) := by decide +kernel
theorem dX4_lowestBit_4 : decode cX4_lowestBit 4 = .ok (.lconst 1, 1) := by decide +kernel
theorem dX4_lowestBit_5 : decode cX4_lowestBit 5 = .ok (.lsub, 1) := by decide +kernel
theorem dX4_lowestBit_6 : decode cX4_lowestBit 6 = .ok (.invokestatic 88, 3) := by decide +kernel
theorem dX4_lowestBit_9 : decode cX4_lowestBit 9 = .ok (.ireturn, 1) := by decide +kernel
theorem dX4_highestBit_0 : decode cX4_highestBit 0 = .ok (.bipush 63, 2) := by decide +kernel
theorem dX4_highestBit_2 : decode cX4_highestBit 2 = .ok (.istore_n 2, 1) := by decide +kernel
theorem dX4_highestBit_3 : decode cX4_highestBit 3 = .ok (.iload_n 2, 1) := by decide +kernel
theorem dX4_highestBit_4 : decode cX4_highestBit 4 = .ok (.ifCond .lt 19, 3) := by decide +kernel
theorem dX4_highestBit_7 : decode cX4_highestBit 7 = .ok (.lload_n 0, 1) := by decide +kernel
theorem dX4_highestBit_8 : decode cX4_highestBit 8 = .ok (.iload_n 2, 1) := by decide +kernel
theorem dX4_highestBit_9 : decode cX4_highestBit 9 = .ok (.lushr, 1) := by decide +kernel
theorem dX4_highestBit_10 : decode cX4_highestBit 10 = .ok (.lconst 1, 1) := by decide +kernel
theorem dX4_highestBit_11 : decode cX4_highestBit 11 = .ok (.land, 1) := by decide +kernel
theorem dX4_highestBit_12 : decode cX4_highestBit 12 = .ok (.lconst 0, 1) := by decide +kernel
theorem dX4_highestBit_13 : decode cX4_highestBit 13 = .ok (.lcmp, 1) := by decide +kernel
theorem dX4_highestBit_14 : decode cX4_highestBit 14 = .ok (.ifCond .ne 9, 3) := by decide +kernel
theorem dX4_highestBit_17 : decode cX4_highestBit 17 = .ok (.iinc 2 (-1), 3) := by decide +kernel
theorem dX4_highestBit_20 : decode cX4_highestBit 20 = .ok (.goto (-17), 3) := by decide +kernel
theorem dX4_highestBit_23 : decode cX4_highestBit 23 = .ok (.iload_n 2, 1) := by decide +kernel
theorem dX4_highestBit_24 : decode cX4_highestBit 24 = .ok (.ireturn, 1) := by decide +kernel
set_option maxRecDepth 20000 in
theorem ggX4_bitAfter_X4_lowestBit : GoodIn wsX4_bitAfter wsX4_lowestBit := goodIn_r _ [4, 5, 6, 7, 8, 9, 10, 11] (by decide +kernel) (by decide +kernel)
set_option maxRecDepth 20000 in
theorem gX4_bitAfter_X4_lowestBit : GoodIn wsX4_bitAfter (va_wsS RX4 205 yX4_lowestBit wsX4_lowestBit) := goodIn_app (goodIn_of _ (by decide +kernel)) ggX4_bitAfter_X4_lowestBit
theorem dX4_bitAfter_0 : decode cX4_bitAfter 0 = .ok (.lload_n 0, 1) := by decide +kernel
theorem dX4_bitAfter_1 : decode cX4_bitAfter 1 = .ok (.lstore_n 3, 1) := by decide +kernel
theorem dX4_bitAfter_2 : decode cX4_bitAfter 2 = .ok (.iconst 0, 1) := by decide +kernel
theorem dX4_bitAfter_3 : decode cX4_bitAfter 3 = .ok (.istore 5, 2) := by decide +kernel
theorem dX4_bitAfter_5 : decode cX4_bitAfter 5 = .ok (.iload 5, 2) := by decide +kernel
theorem dX4_bitAfter_7 : decode cX4_bitAfter 7 = .ok (.iload_n 2, 1) := by decide +kernel
theorem dX4_bitAfter_8 : decode cX4_bitAfter 8 = .ok (.if_icmp .ge 15, 3) := by decide +kernel
theorem dX4_bitAfter_11 : decode cX4_bitAfter 11 = .ok (.lload_n 3, 1) := by decide +kernel
theorem dX4_bitAfter_12 : decode cX4_bitAfter 12 = .ok (.lload_n 3, 1) := by decide +kernel
theorem dX4_bitAfter_13 : decode cX4_bitAfter 13 = .ok (.lconst 1, 1) := by decide +kernel
theorem dX4_bitAfter_14 : decode cX4_bitAfter 14 = .ok (.lsub, 1) := by decide +kernel
theorem dX4_bitAfter_15 : decode cX4_bitAfter 15 = .ok (.land, 1) := by decide +kernel
theorem dX4_bitAfter_16 : decode cX4_bitAfter 16 = .ok (.lstore_n 3, 1) := by decide +kernel
theorem dX4_bitAfter_17 : decode cX4_bitAfter 17 = .ok (.iinc 5 1, 3) := by decide +kernel
theorem dX4_bitAfter_20 : decode cX4_bitAfter 20 = .ok (.goto (-15), 3) := by decide +kernel
theorem dX4_bitAfter_23 : decode cX4_bitAfter 23 = .ok (.lload_n 3, 1) := by decide +kernel
theorem dX4_bitAfter_24 : decode cX4_bitAfter 24 = .ok (.invokestatic 205, 3) := by decide +kernel
theorem dX4_bitAfter_27 : decode cX4_bitAfter 27 = .ok (.ireturn, 1) := by decide +kernel
theorem dX5_init_0 : decode cX5_init 0 = .ok (.aload_n 0, 1) := by decide +kernel
theorem dX5_init_1 : decode cX5_init 1 = .ok (.invokespecial 3, 3) := by decide +kernel
theorem dX5_init_4 : decode cX5_init 4 = .ok (.aload_n 0, 1) := by decide +kernel
theorem dX5_init_5 : decode cX5_init 5 = .ok (.bipush 8, 2) := by decide +kernel
theorem dX5_init_7 : decode cX5_init 7 = .ok (.newarray .int, 2) := by decide +kernel
theorem dX5_init_9 : decode cX5_init 9 = .ok (.putfield 9, 3) := by decide +kernel
theorem dX5_init_12 : decode cX5_init 12 = .ok (.aload_n 0, 1) := by decide +kernel
theorem dX5_init_13 : decode cX5_init 13 = .ok (.bipush 8, 2) := by decide +kernel
theorem dX5_init_15 : decode cX5_init 15 = .ok (.newarray .int, 2) := by decide +kernel
theorem dX5_init_17 : decode cX5_init 17 = .ok (.putfield 13, 3) := by decide +kernel
theorem dX5_init_20 : decode cX5_init 20 = .ok (.aload_n 0, 1) := by decide +kernel
theorem dX5_init_21 : decode cX5_init 21 = .ok (.ldc 16, 2) := by decide +kernel
theorem dX5_init_23 : decode cX5_init 23 = .ok (.newarray .boolean, 2) := by decide +kernel
theorem dX5_init_25 : decode cX5_init 25 = .ok (.putfield 17, 3) := by decide +kernel
theorem dX5_init_28 : decode cX5_init 28 = .ok (.aload_n 0, 1) := by decide +kernel
theorem dX5_init_29 : decode cX5_init 29 = .ok (.sipush 4096, 3) := by decide +kernel
theorem dX5_init_32 : decode cX5_init 32 = .ok (.newarray .boolean, 2) := by decide +kernel
theorem dX5_init_34 : decode cX5_init 34 = .ok (.putfield 21, 3) := by decide +kernel
theorem dX5_init_37 : decode cX5_init 37 = .ok (.aload_n 0, 1) := by decide +kernel
theorem dX5_init_38 : decode cX5_init 38 = .ok (.bipush 10, 2) := by decide +kernel
theorem dX5_init_40 : decode cX5_init 40 = .ok (.newarray .int, 2) := by decide +kernel
theorem dX5_init_42 : decode cX5_init 42 = .ok (.putfield 24, 3) := by decide +kernel
theorem dX5_init_45 : decode cX5_init 45 = .ok (.aload_n 0, 1) := by decide +kernel
theorem dX5_init_46 : decode cX5_init 46 = .ok (.bipush 10, 2) := by decide +kernel
theorem dX5_init_48 : decode cX5_init 48 = .ok (.newarray .int, 2) := by decide +kernel
theorem dX5_init_50 : decode cX5_init 50 = .ok (.putfield 27, 3) := by decide +kernel
theorem dX5_init_53 : decode cX5_init 53 = .ok (.aload_n 0, 1) := by decide +kernel
theorem dX5_init_54 : decode cX5_init 54 = .ok (.bipush 10, 2) := by decide +kernel
theorem dX5_init_56 : decode cX5_init 56 = .ok (.newarray .int, 2) := by decide +kernel
theorem dX5_init_58 : decode cX5_init 58 = .ok (.putfield 30, 3) := by decide +kernel
theorem dX5_init_61 : decode cX5_init 61 = .ok (.aload_n 0, 1) := by decide +kernel
theorem dX5_init_62 : decode cX5_init 62 = .ok (.bipush 10, 2) := by decide +kernel
theorem dX5_init_64 : decode cX5_init 64 = .ok (.newarray .int, 2) := by decide +kernel
theorem dX5_init_66 : decode cX5_init 66 = .ok (.putfield 33, 3) := by decide +kernel
theorem dX5_init_69 : decode cX5_init 69 = .ok (.aload_n 0, 1) := by decide +kernel
theorem dX5_init_70 : decode cX5_init 70 = .ok (.ldc 36, 2) := by decide +kernel
theorem dX5_init_72 : decode cX5_init 72 = .ok (.newarray .boolean, 2) := by decide +kernel
theorem dX5_init_74 : decode cX5_init 74 = .ok (.putfield 37, 3) := by decide +kernel
theorem dX5_init_77 : decode cX5_init 77 = .ok (.aload_n 0, 1) := by decide +kernel
theorem dX5_init_78 : decode cX5_init 78 = .ok (.sipush 4096, 3) := by decide +kernel
theorem dX5_init_81 : decode cX5_init 81 = .ok (.newarray .int, 2) := by decide +kernel
theorem dX5_init_83 : decode cX5_init 83 = .ok (.putfield 40, 3) := by decide +kernel
theorem dX5_init_86 : decode cX5_init 86 = .ok (.aload_n 0, 1) := by decide +kernel
theorem dX5_init_87 : decode cX5_init 87 = .ok (.sipush 4097, 3) := by decide +kernel
theorem dX5_init_90 : decode cX5_init 90 = .ok (.newarray .int, 2) := by decide +kernel
theorem dX5_init_92 : decode cX5_init 92 = .ok (.putfield 43, 3) := by decide +kernel
theorem dX5_init_95 : decode cX5_init 95 = .ok (.aload_n 0, 1) := by decide +kernel
theorem dX5_init_96 : decode cX5_init 96 = .ok (.sipush 4096, 3) := by decide +kernel
theorem dX5_init_99 : decode cX5_init 99 = .ok (.newarray .int, 2) := by decide +kernel
theorem dX5_init_101 : decode cX5_init 101 = .ok (.putfield 46, 3) := by decide +kernel
theorem dX5_init_104 : decode cX5_init 104 = .ok (.aload_n 0, 1) := by decide +kernel
theorem dX5_init_105 : decode cX5_init 105 = .ok (.sipush 192, 3) := by decide +kernel
theorem dX5_init_108 : decode cX5_init 108 = .ok (.newarray .int, 2) := by decide +kernel
theorem dX5_init_110 : decode cX5_init 110 = .ok (.putfield 49, 3) := by decide +kernel
theorem dX5_init_113 : decode cX5_init 113 = .ok (.aload_n 0, 1) := by decide +kernel
theorem dX5_init_114 : decode cX5_init 114 = .ok (.sipush 4097, 3) := by decide +kernel
theorem dX5_init_117 : decode cX5_init 117 = .ok (.newarray .boolean, 2) := by decide +kernel
theorem dX5_init_119 : decode cX5_init 119 = .ok (.putfield 52, 3) := by decide +kernel
theorem dX5_init_122 : decode cX5_init 122 = .ok (.aload_n 0, 1) := by decide +kernel
theorem dX5_init_123 : decode cX5_init 123 = .ok (.sipush 4096, 3) := by decide +kernel
theorem dX5_init_126 : decode cX5_init 126 = .ok (.newarray .int, 2) := by decide +kernel
theorem dX5_init_128 : decode cX5_init 128 = .ok (.putfield 55, 3) := by decide +kernel
theorem dX5_init_131 : decode cX5_init 131 = .ok (.aload_n 0, 1) := by decide +kernel
theorem dX5_init_132 : decode cX5_init 132 = .ok (.sipush 4096, 3) := by decide +kernel
theorem dX5_init_135 : decode cX5_init 135 = .ok (.newarray .int, 2) := by decide +kernel
theorem dX5_init_137 : decode cX5_init 137 = .ok (.putfield 58, 3) := by decide +kernel
theorem dX5_init_140 : decode cX5_init 140 = .ok (.aload_n 0, 1) := by decide +kernel
theorem dX5_init_141 : decode cX5_init 141 = .ok (.sipush 128, 3) := by decide +kernel
theorem dX5_init_144 : decode cX5_init 144 = .ok (.newarray .int, 2) := by decide +kernel
theorem dX5_init_146 : decode cX5_init 146 = .ok (.putfield 61, 3) := by decide +kernel
theorem dX5_init_149 : decode cX5_init 149 = .ok (.return_, 1) := by decide +kernel
theorem dX5_thrown_0 : decode cX5_thrown 0 = .ok (.aload_n 0, 1) := by decide +kernel
theorem dX5_thrown_1 : decode cX5_thrown 1 = .ok (.getfield 64, 3) := by decide +kernel
theorem dX5_thrown_4 : decode cX5_thrown 4 = .ok (.ireturn, 1) := by decide +kernel
theorem dX5_in_0 : decode cX5_in 0 = .ok (.lload_n 0, 1) := by decide +kernel
theorem dX5_in_1 : decode cX5_in 1 = .ok (.lload_n 2, 1) := by decide +kernel
theorem dX5_in_2 : decode cX5_in 2 = .ok (.lcmp, 1) := by decide +kernel
theorem dX5_in_3 : decode cX5_in 3 = .ok (.ifCond .lt 14, 3) := by decide +kernel
theorem dX5_in_6 : decode cX5_in 6 = .ok (.lload_n 0, 1) := by decide +kernel
theorem dX5_in_7 : decode cX5_in 7 = .ok (.lload 4, 2) := by decide +kernel
theorem dX5_in_9 : decode cX5_in 9 = .ok (.lcmp, 1) := by decide +kernel
theorem dX5_in_10 : decode cX5_in 10 = .ok (.ifCond .gt 7, 3) := by decide +kernel
theorem dX5_in_13 : decode cX5_in 13 = .ok (.iconst 1, 1) := by decide +kernel
theorem dX5_in_14 : decode cX5_in 14 = .ok (.goto 4, 3) := by decide +kernel
theorem dX5_in_17 : decode cX5_in 17 = .ok (.iconst 0, 1) := by decide +kernel
theorem dX5_in_18 : decode cX5_in 18 = .ok (.ireturn, 1) := by decide +kernel
theorem dX5_refuse_0 : decode cX5_refuse 0 = .ok (.aload_n 0, 1) := by decide +kernel
theorem dX5_refuse_1 : decode cX5_refuse 1 = .ok (.iconst 1, 1) := by decide +kernel
theorem dX5_refuse_2 : decode cX5_refuse 2 = .ok (.putfield 64, 3) := by decide +kernel
theorem dX5_refuse_5 : decode cX5_refuse 5 = .ok (.iconst 0, 1) := by decide +kernel
theorem dX5_refuse_6 : decode cX5_refuse 6 = .ok (.ireturn, 1) := by decide +kernel
set_option maxRecDepth 20000 in
theorem ggX5_isPage_X5_in : GoodIn wsX5_isPage wsX5_in := goodIn_r _ [5] (by decide +kernel) (by decide +kernel)
set_option maxRecDepth 20000 in
theorem gX5_isPage_X5_in : GoodIn wsX5_isPage (va_wsS RX5 71 yX5_in wsX5_in) := goodIn_app (goodIn_of _ (by decide +kernel)) ggX5_isPage_X5_in
theorem dX5_isPage_0 : decode cX5_isPage 0 = .ok (.iload_n 1, 1) := by decide +kernel
theorem dX5_isPage_1 : decode cX5_isPage 1 = .ok (.i2l, 1) := by decide +kernel
theorem dX5_isPage_2 : decode cX5_isPage 2 = .ok (.lconst 0, 1) := by decide +kernel
theorem dX5_isPage_3 : decode cX5_isPage 3 = .ok (.aload_n 0, 1) := by decide +kernel
theorem dX5_isPage_4 : decode cX5_isPage 4 = .ok (.getfield 68, 3) := by decide +kernel
theorem dX5_isPage_7 : decode cX5_isPage 7 = .ok (.iconst 1, 1) := by decide +kernel
theorem dX5_isPage_8 : decode cX5_isPage 8 = .ok (.isub, 1) := by decide +kernel
theorem dX5_isPage_9 : decode cX5_isPage 9 = .ok (.i2l, 1) := by decide +kernel
theorem dX5_isPage_10 : decode cX5_isPage 10 = .ok (.invokestatic 71, 3) := by decide +kernel
theorem dX5_isPage_13 : decode cX5_isPage 13 = .ok (.ireturn, 1) := by decide +kernel
theorem dX5_has_0 : decode cX5_has 0 = .ok (.aload_n 0, 1) := by decide +kernel
theorem dX5_has_1 : decode cX5_has 1 = .ok (.getfield 17, 3) := by decide +kernel
theorem dX5_has_4 : decode cX5_has 4 = .ok (.iload_n 1, 1) := by decide +kernel
theorem dX5_has_5 : decode cX5_has 5 = .ok (.sipush 4096, 3) := by decide +kernel
