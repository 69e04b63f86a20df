theorem dX5_has_8 : decode cX5_has 8 = .ok (.imul, 1) := by decide +kernel
theorem dX5_has_9 : decode cX5_has 9 = .ok (.iload_n 3, 1) := by decide +kernel
theorem dX5_has_10 : decode cX5_has 10 = .ok (.bipush 64, 2) := by decide +kernel
theorem dX5_has_12 : decode cX5_has 12 = .ok (.imul, 1) := by decide +kernel
theorem dX5_has_13 : decode cX5_has 13 = .ok (.iadd, 1) := by decide +kernel
theorem dX5_has_14 : decode cX5_has 14 = .ok (.iload_n 2, 1) := by decide +kernel
theorem dX5_has_15 : decode cX5_has 15 = .ok (.iadd, 1) := by decide +kernel
theorem dX5_has_16 : decode cX5_has 16 = .ok (.baload, 1) := by decide +kernel
theorem dX5_has_17 : decode cX5_has 17 = .ok (.ireturn, 1) := by decide +kernel
theorem dX5_inks_0 : decode cX5_inks 0 = .ok (.aload_n 0, 1) := by decide +kernel
theorem dX5_inks_1 : decode cX5_inks 1 = .ok (.getfield 17, 3) := by decide +kernel
theorem dX5_inks_4 : decode cX5_inks 4 = .ok (.iload_n 1, 1) := by decide +kernel
theorem dX5_inks_5 : decode cX5_inks 5 = .ok (.sipush 4096, 3) := by decide +kernel
theorem dX5_inks_8 : decode cX5_inks 8 = .ok (.imul, 1) := by decide +kernel
theorem dX5_inks_9 : decode cX5_inks 9 = .ok (.iload_n 3, 1) := by decide +kernel
theorem dX5_inks_10 : decode cX5_inks 10 = .ok (.bipush 64, 2) := by decide +kernel
theorem dX5_inks_12 : decode cX5_inks 12 = .ok (.imul, 1) := by decide +kernel
theorem dX5_inks_13 : decode cX5_inks 13 = .ok (.iadd, 1) := by decide +kernel
theorem dX5_inks_14 : decode cX5_inks 14 = .ok (.iload_n 2, 1) := by decide +kernel
theorem dX5_inks_15 : decode cX5_inks 15 = .ok (.iadd, 1) := by decide +kernel
theorem dX5_inks_16 : decode cX5_inks 16 = .ok (.iload 4, 2) := by decide +kernel
theorem dX5_inks_18 : decode cX5_inks 18 = .ok (.bastore, 1) := by decide +kernel
theorem dX5_inks_19 : decode cX5_inks 19 = .ok (.return_, 1) := by decide +kernel
theorem dX5_clears_0 : decode cX5_clears 0 = .ok (.aload_n 0, 1) := by decide +kernel
theorem dX5_clears_1 : decode cX5_clears 1 = .ok (.getfield 9, 3) := by decide +kernel
theorem dX5_clears_4 : decode cX5_clears 4 = .ok (.iload_n 1, 1) := by decide +kernel
theorem dX5_clears_5 : decode cX5_clears 5 = .ok (.iload_n 2, 1) := by decide +kernel
theorem dX5_clears_6 : decode cX5_clears 6 = .ok (.iastore, 1) := by decide +kernel
theorem dX5_clears_7 : decode cX5_clears 7 = .ok (.aload_n 0, 1) := by decide +kernel
theorem dX5_clears_8 : decode cX5_clears 8 = .ok (.getfield 13, 3) := by decide +kernel
theorem dX5_clears_11 : decode cX5_clears 11 = .ok (.iload_n 1, 1) := by decide +kernel
theorem dX5_clears_12 : decode cX5_clears 12 = .ok (.iload_n 3, 1) := by decide +kernel
theorem dX5_clears_13 : decode cX5_clears 13 = .ok (.iastore, 1) := by decide +kernel
theorem dX5_clears_14 : decode cX5_clears 14 = .ok (.iconst 0, 1) := by decide +kernel
theorem dX5_clears_15 : decode cX5_clears 15 = .ok (.istore 4, 2) := by decide +kernel
theorem dX5_clears_17 : decode cX5_clears 17 = .ok (.iload 4, 2) := by decide +kernel
theorem dX5_clears_19 : decode cX5_clears 19 = .ok (.sipush 4096, 3) := by decide +kernel
theorem dX5_clears_22 : decode cX5_clears 22 = .ok (.if_icmp .ge 23, 3) := by decide +kernel
theorem dX5_clears_25 : decode cX5_clears 25 = .ok (.aload_n 0, 1) := by decide +kernel
theorem dX5_clears_26 : decode cX5_clears 26 = .ok (.getfield 17, 3) := by decide +kernel
theorem dX5_clears_29 : decode cX5_clears 29 = .ok (.iload_n 1, 1) := by decide +kernel
theorem dX5_clears_30 : decode cX5_clears 30 = .ok (.sipush 4096, 3) := by decide +kernel
theorem dX5_clears_33 : decode cX5_clears 33 = .ok (.imul, 1) := by decide +kernel
theorem dX5_clears_34 : decode cX5_clears 34 = .ok (.iload 4, 2) := by decide +kernel
theorem dX5_clears_36 : decode cX5_clears 36 = .ok (.iadd, 1) := by decide +kernel
theorem dX5_clears_37 : decode cX5_clears 37 = .ok (.iconst 0, 1) := by decide +kernel
theorem dX5_clears_38 : decode cX5_clears 38 = .ok (.bastore, 1) := by decide +kernel
theorem dX5_clears_39 : decode cX5_clears 39 = .ok (.iinc 4 1, 3) := by decide +kernel
theorem dX5_clears_42 : decode cX5_clears 42 = .ok (.goto (-25), 3) := by decide +kernel
theorem dX5_clears_45 : decode cX5_clears 45 = .ok (.return_, 1) := by decide +kernel
theorem dX5_blank_0 : decode cX5_blank 0 = .ok (.iconst 0, 1) := by decide +kernel
theorem dX5_blank_1 : decode cX5_blank 1 = .ok (.istore_n 1, 1) := by decide +kernel
theorem dX5_blank_2 : decode cX5_blank 2 = .ok (.iload_n 1, 1) := by decide +kernel
theorem dX5_blank_3 : decode cX5_blank 3 = .ok (.sipush 4096, 3) := by decide +kernel
theorem dX5_blank_6 : decode cX5_blank 6 = .ok (.if_icmp .ge 16, 3) := by decide +kernel
theorem dX5_blank_9 : decode cX5_blank 9 = .ok (.aload_n 0, 1) := by decide +kernel
theorem dX5_blank_10 : decode cX5_blank 10 = .ok (.getfield 21, 3) := by decide +kernel
theorem dX5_blank_13 : decode cX5_blank 13 = .ok (.iload_n 1, 1) := by decide +kernel
theorem dX5_blank_14 : decode cX5_blank 14 = .ok (.iconst 0, 1) := by decide +kernel
theorem dX5_blank_15 : decode cX5_blank 15 = .ok (.bastore, 1) := by decide +kernel
theorem dX5_blank_16 : decode cX5_blank 16 = .ok (.iinc 1 1, 3) := by decide +kernel
theorem dX5_blank_19 : decode cX5_blank 19 = .ok (.goto (-17), 3) := by decide +kernel
theorem dX5_blank_22 : decode cX5_blank 22 = .ok (.return_, 1) := by decide +kernel
theorem dX5_becomes_0 : decode cX5_becomes 0 = .ok (.aload_n 0, 1) := by decide +kernel
theorem dX5_becomes_1 : decode cX5_becomes 1 = .ok (.getfield 9, 3) := by decide +kernel
theorem dX5_becomes_4 : decode cX5_becomes 4 = .ok (.iload_n 1, 1) := by decide +kernel
theorem dX5_becomes_5 : decode cX5_becomes 5 = .ok (.iload_n 2, 1) := by decide +kernel
theorem dX5_becomes_6 : decode cX5_becomes 6 = .ok (.iastore, 1) := by decide +kernel
theorem dX5_becomes_7 : decode cX5_becomes 7 = .ok (.aload_n 0, 1) := by decide +kernel
theorem dX5_becomes_8 : decode cX5_becomes 8 = .ok (.getfield 13, 3) := by decide +kernel
theorem dX5_becomes_11 : decode cX5_becomes 11 = .ok (.iload_n 1, 1) := by decide +kernel
theorem dX5_becomes_12 : decode cX5_becomes 12 = .ok (.iload_n 3, 1) := by decide +kernel
theorem dX5_becomes_13 : decode cX5_becomes 13 = .ok (.iastore, 1) := by decide +kernel
theorem dX5_becomes_14 : decode cX5_becomes 14 = .ok (.iconst 0, 1) := by decide +kernel
theorem dX5_becomes_15 : decode cX5_becomes 15 = .ok (.istore 4, 2) := by decide +kernel
theorem dX5_becomes_17 : decode cX5_becomes 17 = .ok (.iload 4, 2) := by decide +kernel
theorem dX5_becomes_19 : decode cX5_becomes 19 = .ok (.sipush 4096, 3) := by decide +kernel
theorem dX5_becomes_22 : decode cX5_becomes 22 = .ok (.if_icmp .ge 29, 3) := by decide +kernel
theorem dX5_becomes_25 : decode cX5_becomes 25 = .ok (.aload_n 0, 1) := by decide +kernel
theorem dX5_becomes_26 : decode cX5_becomes 26 = .ok (.getfield 17, 3) := by decide +kernel
theorem dX5_becomes_29 : decode cX5_becomes 29 = .ok (.iload_n 1, 1) := by decide +kernel
theorem dX5_becomes_30 : decode cX5_becomes 30 = .ok (.sipush 4096, 3) := by decide +kernel
theorem dX5_becomes_33 : decode cX5_becomes 33 = .ok (.imul, 1) := by decide +kernel
theorem dX5_becomes_34 : decode cX5_becomes 34 = .ok (.iload 4, 2) := by decide +kernel
theorem dX5_becomes_36 : decode cX5_becomes 36 = .ok (.iadd, 1) := by decide +kernel
theorem dX5_becomes_37 : decode cX5_becomes 37 = .ok (.aload_n 0, 1) := by decide +kernel
theorem dX5_becomes_38 : decode cX5_becomes 38 = .ok (.getfield 21, 3) := by decide +kernel
theorem dX5_becomes_41 : decode cX5_becomes 41 = .ok (.iload 4, 2) := by decide +kernel
theorem dX5_becomes_43 : decode cX5_becomes 43 = .ok (.baload, 1) := by decide +kernel
theorem dX5_becomes_44 : decode cX5_becomes 44 = .ok (.bastore, 1) := by decide +kernel
theorem dX5_becomes_45 : decode cX5_becomes 45 = .ok (.iinc 4 1, 3) := by decide +kernel
theorem dX5_becomes_48 : decode cX5_becomes 48 = .ok (.goto (-31), 3) := by decide +kernel
theorem dX5_becomes_51 : decode cX5_becomes 51 = .ok (.return_, 1) := by decide +kernel
set_option maxRecDepth 20000 in
theorem ggX5_page_X5_in : GoodIn wsX5_page wsX5_in := goodIn_r _ [7] (by decide +kernel) (by decide +kernel)
set_option maxRecDepth 20000 in
theorem gX5_page_X5_in : GoodIn wsX5_page (va_wsS RX5 71 yX5_in wsX5_in) := goodIn_app (goodIn_of _ (by decide +kernel)) ggX5_page_X5_in
set_option maxRecDepth 20000 in
theorem ggX5_page_X5_clears : GoodIn wsX5_page wsX5_clears := goodIn_r _ [11, 12, 13, 14, 15, 16, 17, 18, 19, 20, 21, 22, 23, 24, 25, 26, 27, 28, 29, 30, 31, 32, 33, 34, 35, 36, 37, 38] (by decide +kernel) (by decide +kernel)
set_option maxRecDepth 20000 in
theorem gX5_page_X5_clears : GoodIn wsX5_page (wsV RX5 77 RX5 yX5_clears wsX5_clears) := goodIn_app (goodIn_of _ (by decide +kernel)) ggX5_page_X5_clears
theorem dX5_page_0 : decode cX5_page 0 = .ok (.aload_n 0, 1) := by decide +kernel
theorem dX5_page_1 : decode cX5_page 1 = .ok (.iconst 0, 1) := by decide +kernel
theorem dX5_page_2 : decode cX5_page 2 = .ok (.putfield 64, 3) := by decide +kernel
theorem dX5_page_5 : decode cX5_page 5 = .ok (.iload_n 1, 1) := by decide +kernel
theorem dX5_page_6 : decode cX5_page 6 = .ok (.i2l, 1) := by decide +kernel
theorem dX5_page_7 : decode cX5_page 7 = .ok (.lconst 1, 1) := by decide +kernel
theorem dX5_page_8 : decode cX5_page 8 = .ok (.ldc2_w 75, 3) := by decide +kernel
theorem dX5_page_11 : decode cX5_page 11 = .ok (.invokestatic 71, 3) := by decide +kernel
theorem dX5_page_14 : decode cX5_page 14 = .ok (.ifCond .eq 24, 3) := by decide +kernel
theorem dX5_page_17 : decode cX5_page 17 = .ok (.iload_n 2, 1) := by decide +kernel
theorem dX5_page_18 : decode cX5_page 18 = .ok (.i2l, 1) := by decide +kernel
theorem dX5_page_19 : decode cX5_page 19 = .ok (.lconst 1, 1) := by decide +kernel
theorem dX5_page_20 : decode cX5_page 20 = .ok (.ldc2_w 75, 3) := by decide +kernel
theorem dX5_page_23 : decode cX5_page 23 = .ok (.invokestatic 71, 3) := by decide +kernel
theorem dX5_page_26 : decode cX5_page 26 = .ok (.ifCond .eq 12, 3) := by decide +kernel
theorem dX5_page_29 : decode cX5_page 29 = .ok (.aload_n 0, 1) := by decide +kernel
theorem dX5_page_30 : decode cX5_page 30 = .ok (.getfield 68, 3) := by decide +kernel
theorem dX5_page_33 : decode cX5_page 33 = .ok (.bipush 8, 2) := by decide +kernel
theorem dX5_page_35 : decode cX5_page 35 = .ok (.if_icmp .ne 5, 3) := by decide +kernel
theorem dX5_page_38 : decode cX5_page 38 = .ok (.iconst (-1), 1) := by decide +kernel
theorem dX5_page_39 : decode cX5_page 39 = .ok (.ireturn, 1) := by decide +kernel
theorem dX5_page_40 : decode cX5_page 40 = .ok (.aload_n 0, 1) := by decide +kernel
theorem dX5_page_41 : decode cX5_page 41 = .ok (.aload_n 0, 1) := by decide +kernel
theorem dX5_page_42 : decode cX5_page 42 = .ok (.getfield 68, 3) := by decide +kernel
theorem dX5_page_45 : decode cX5_page 45 = .ok (.iload_n 1, 1) := by decide +kernel
theorem dX5_page_46 : decode cX5_page 46 = .ok (.iload_n 2, 1) := by decide +kernel
theorem dX5_page_47 : decode cX5_page 47 = .ok (.invokevirtual 77, 3) := by decide +kernel
theorem dX5_page_50 : decode cX5_page 50 = .ok (.aload_n 0, 1) := by decide +kernel
theorem dX5_page_51 : decode cX5_page 51 = .ok (.dup, 1) := by decide +kernel
theorem dX5_page_52 : decode cX5_page 52 = .ok (.getfield 68, 3) := by decide +kernel
theorem dX5_page_55 : decode cX5_page 55 = .ok (.iconst 1, 1) := by decide +kernel
theorem dX5_page_56 : decode cX5_page 56 = .ok (.iadd, 1) := by decide +kernel
theorem dX5_page_57 : decode cX5_page 57 = .ok (.putfield 68, 3) := by decide +kernel
theorem dX5_page_60 : decode cX5_page 60 = .ok (.aload_n 0, 1) := by decide +kernel
theorem dX5_page_61 : decode cX5_page 61 = .ok (.getfield 68, 3) := by decide +kernel
theorem dX5_page_64 : decode cX5_page 64 = .ok (.iconst 1, 1) := by decide +kernel
theorem dX5_page_65 : decode cX5_page 65 = .ok (.isub, 1) := by decide +kernel
theorem dX5_page_66 : decode cX5_page 66 = .ok (.ireturn, 1) := by decide +kernel
set_option maxRecDepth 20000 in
theorem ggX5_copy_X5_isPage : GoodIn wsX5_copy wsX5_isPage := goodIn_r _ [10, 2, 11, 12, 9, 13, 18, 19, 20, 21, 22, 23, 24, 25, 26, 27, 28, 29, 30, 31, 32, 33, 34, 35, 36, 37, 38, 39, 40, 41] (by decide +kernel) (by decide +kernel)
set_option maxRecDepth 20000 in
theorem gX5_copy_X5_isPage : GoodIn wsX5_copy (wsV RX5 81 RX5 yX5_isPage wsX5_isPage) := goodIn_app (goodIn_of _ (by decide +kernel)) ggX5_copy_X5_isPage
set_option maxRecDepth 20000 in
theorem ggX5_copy_X5_clears : GoodIn wsX5_copy wsX5_clears := goodIn_r _ [17, 3, 4, 5, 18, 19, 20, 21, 22, 23, 24, 25, 26, 27, 28, 29, 30, 31, 32, 33, 34, 35, 36, 37, 38, 39, 40, 41] (by decide +kernel) (by decide +kernel)
set_option maxRecDepth 20000 in
theorem gX5_copy_X5_clears : GoodIn wsX5_copy (wsV RX5 77 RX5 yX5_clears wsX5_clears) := goodIn_app (goodIn_of _ (by decide +kernel)) ggX5_copy_X5_clears
theorem dX5_copy_0 : decode cX5_copy 0 = .ok (.aload_n 0, 1) := by decide +kernel
theorem dX5_copy_1 : decode cX5_copy 1 = .ok (.iconst 0, 1) := by decide +kernel
theorem dX5_copy_2 : decode cX5_copy 2 = .ok (.putfield 64, 3) := by decide +kernel
theorem dX5_copy_5 : decode cX5_copy 5 = .ok (.aload_n 0, 1) := by decide +kernel
theorem dX5_copy_6 : decode cX5_copy 6 = .ok (.iload_n 1, 1) := by decide +kernel
theorem dX5_copy_7 : decode cX5_copy 7 = .ok (.invokevirtual 81, 3) := by decide +kernel
theorem dX5_copy_10 : decode cX5_copy 10 = .ok (.ifCond .eq 12, 3) := by decide +kernel
theorem dX5_copy_13 : decode cX5_copy 13 = .ok (.aload_n 0, 1) := by decide +kernel
theorem dX5_copy_14 : decode cX5_copy 14 = .ok (.getfield 68, 3) := by decide +kernel
theorem dX5_copy_17 : decode cX5_copy 17 = .ok (.bipush 8, 2) := by decide +kernel
theorem dX5_copy_19 : decode cX5_copy 19 = .ok (.if_icmp .ne 5, 3) := by decide +kernel
theorem dX5_copy_22 : decode cX5_copy 22 = .ok (.iconst (-1), 1) := by decide +kernel
theorem dX5_copy_23 : decode cX5_copy 23 = .ok (.ireturn, 1) := by decide +kernel
theorem dX5_copy_24 : decode cX5_copy 24 = .ok (.aload_n 0, 1) := by decide +kernel
theorem dX5_copy_25 : decode cX5_copy 25 = .ok (.aload_n 0, 1) := by decide +kernel
theorem dX5_copy_26 : decode cX5_copy 26 = .ok (.getfield 68, 3) := by decide +kernel
theorem dX5_copy_29 : decode cX5_copy 29 = .ok (.aload_n 0, 1) := by decide +kernel
theorem dX5_copy_30 : decode cX5_copy 30 = .ok (.getfield 9, 3) := by decide +kernel
theorem dX5_copy_33 : decode cX5_copy 33 = .ok (.iload_n 1, 1) := by decide +kernel
theorem dX5_copy_34 : decode cX5_copy 34 = .ok (.iaload, 1) := by decide +kernel
theorem dX5_copy_35 : decode cX5_copy 35 = .ok (.aload_n 0, 1) := by decide +kernel
theorem dX5_copy_36 : decode cX5_copy 36 = .ok (.getfield 13, 3) := by decide +kernel
theorem dX5_copy_39 : decode cX5_copy 39 = .ok (.iload_n 1, 1) := by decide +kernel
theorem dX5_copy_40 : decode cX5_copy 40 = .ok (.iaload, 1) := by decide +kernel
theorem dX5_copy_41 : decode cX5_copy 41 = .ok (.invokevirtual 77, 3) := by decide +kernel
theorem dX5_copy_44 : decode cX5_copy 44 = .ok (.iconst 0, 1) := by decide +kernel
theorem dX5_copy_45 : decode cX5_copy 45 = .ok (.istore_n 2, 1) := by decide +kernel
theorem dX5_copy_46 : decode cX5_copy 46 = .ok (.iload_n 2, 1) := by decide +kernel
theorem dX5_copy_47 : decode cX5_copy 47 = .ok (.sipush 4096, 3) := by decide +kernel
theorem dX5_copy_50 : decode cX5_copy 50 = .ok (.if_icmp .ge 36, 3) := by decide +kernel
theorem dX5_copy_53 : decode cX5_copy 53 = .ok (.aload_n 0, 1) := by decide +kernel
theorem dX5_copy_54 : decode cX5_copy 54 = .ok (.getfield 17, 3) := by decide +kernel
theorem dX5_copy_57 : decode cX5_copy 57 = .ok (.aload_n 0, 1) := by decide +kernel
theorem dX5_copy_58 : decode cX5_copy 58 = .ok (.getfield 68, 3) := by decide +kernel
theorem dX5_copy_61 : decode cX5_copy 61 = .ok (.sipush 4096, 3) := by decide +kernel
theorem dX5_copy_64 : decode cX5_copy 64 = .ok (.imul, 1) := by decide +kernel
theorem dX5_copy_65 : decode cX5_copy 65 = .ok (.iload_n 2, 1) := by decide +kernel
theorem dX5_copy_66 : decode cX5_copy 66 = .ok (.iadd, 1) := by decide +kernel
theorem dX5_copy_67 : decode cX5_copy 67 = .ok (.aload_n 0, 1) := by decide +kernel
theorem dX5_copy_68 : decode cX5_copy 68 = .ok (.getfield 17, 3) := by decide +kernel
theorem dX5_copy_71 : decode cX5_copy 71 = .ok (.iload_n 1, 1) := by decide +kernel
theorem dX5_copy_72 : decode cX5_copy 72 = .ok (.sipush 4096, 3) := by decide +kernel
theorem dX5_copy_75 : decode cX5_copy 75 = .ok (.imul, 1) := by decide +kernel
theorem dX5_copy_76 : decode cX5_copy 76 = .ok (.iload_n 2, 1) := by decide +kernel
theorem dX5_copy_77 : decode cX5_copy 77 = .ok (.iadd, 1) := by decide +kernel
theorem dX5_copy_78 : decode cX5_copy 78 = .ok (.baload, 1) := by decide +kernel
theorem dX5_copy_79 : decode cX5_copy 79 = .ok (.bastore, 1) := by decide +kernel
theorem dX5_copy_80 : decode cX5_copy 80 = .ok (.iinc 2 1, 3) := by decide +kernel
theorem dX5_copy_83 : decode cX5_copy 83 = .ok (.goto (-37), 3) := by decide +kernel
theorem dX5_copy_86 : decode cX5_copy 86 = .ok (.aload_n 0, 1) := by decide +kernel
theorem dX5_copy_87 : decode cX5_copy 87 = .ok (.dup, 1) := by decide +kernel
theorem dX5_copy_88 : decode cX5_copy 88 = .ok (.getfield 68, 3) := by decide +kernel
theorem dX5_copy_91 : decode cX5_copy 91 = .ok (.iconst 1, 1) := by decide +kernel
theorem dX5_copy_92 : decode cX5_copy 92 = .ok (.iadd, 1) := by decide +kernel
theorem dX5_copy_93 : decode cX5_copy 93 = .ok (.putfield 68, 3) := by decide +kernel
theorem dX5_copy_96 : decode cX5_copy 96 = .ok (.aload_n 0, 1) := by decide +kernel
theorem dX5_copy_97 : decode cX5_copy 97 = .ok (.getfield 68, 3) := by decide +kernel
theorem dX5_copy_100 : decode cX5_copy 100 = .ok (.iconst 1, 1) := by decide +kernel
theorem dX5_copy_101 : decode cX5_copy 101 = .ok (.isub, 1) := by decide +kernel
theorem dX5_copy_102 : decode cX5_copy 102 = .ok (.ireturn, 1) := by decide +kernel
theorem dX5_changing_0 : decode cX5_changing 0 = .ok (.aload_n 0, 1) := by decide +kernel
theorem dX5_changing_1 : decode cX5_changing 1 = .ok (.aload_n 0, 1) := by decide +kernel
theorem dX5_changing_2 : decode cX5_changing 2 = .ok (.getfield 85, 3) := by decide +kernel
theorem dX5_changing_5 : decode cX5_changing 5 = .ok (.iconst 1, 1) := by decide +kernel
theorem dX5_changing_6 : decode cX5_changing 6 = .ok (.iadd, 1) := by decide +kernel
theorem dX5_changing_7 : decode cX5_changing 7 = .ok (.bipush 10, 2) := by decide +kernel
theorem dX5_changing_9 : decode cX5_changing 9 = .ok (.irem, 1) := by decide +kernel
theorem dX5_changing_10 : decode cX5_changing 10 = .ok (.putfield 85, 3) := by decide +kernel
theorem dX5_changing_13 : decode cX5_changing 13 = .ok (.aload_n 0, 1) := by decide +kernel
theorem dX5_changing_14 : decode cX5_changing 14 = .ok (.bipush 10, 2) := by decide +kernel
theorem dX5_changing_16 : decode cX5_changing 16 = .ok (.aload_n 0, 1) := by decide +kernel
theorem dX5_changing_17 : decode cX5_changing 17 = .ok (.getfield 88, 3) := by decide +kernel
theorem dX5_changing_20 : decode cX5_changing 20 = .ok (.iconst 1, 1) := by decide +kernel
theorem dX5_changing_21 : decode cX5_changing 21 = .ok (.iadd, 1) := by decide +kernel
theorem dX5_changing_22 : decode cX5_changing 22 = .ok (.invokestatic 91, 3) := by decide +kernel
theorem dX5_changing_25 : decode cX5_changing 25 = .ok (.putfield 88, 3) := by decide +kernel
theorem dX5_changing_28 : decode cX5_changing 28 = .ok (.aload_n 0, 1) := by decide +kernel
theorem dX5_changing_29 : decode cX5_changing 29 = .ok (.getfield 24, 3) := by decide +kernel
theorem dX5_changing_32 : decode cX5_changing 32 = .ok (.aload_n 0, 1) := by decide +kernel
theorem dX5_changing_33 : decode cX5_changing 33 = .ok (.getfield 85, 3) := by decide +kernel
theorem dX5_changing_36 : decode cX5_changing 36 = .ok (.iload_n 1, 1) := by decide +kernel
theorem dX5_changing_37 : decode cX5_changing 37 = .ok (.iastore, 1) := by decide +kernel
theorem dX5_changing_38 : decode cX5_changing 38 = .ok (.aload_n 0, 1) := by decide +kernel
theorem dX5_changing_39 : decode cX5_changing 39 = .ok (.getfield 27, 3) := by decide +kernel
theorem dX5_changing_42 : decode cX5_changing 42 = .ok (.aload_n 0, 1) := by decide +kernel
theorem dX5_changing_43 : decode cX5_changing 43 = .ok (.getfield 85, 3) := by decide +kernel
theorem dX5_changing_46 : decode cX5_changing 46 = .ok (.aload_n 0, 1) := by decide +kernel
theorem dX5_changing_47 : decode cX5_changing 47 = .ok (.getfield 9, 3) := by decide +kernel
theorem dX5_changing_50 : decode cX5_changing 50 = .ok (.iload_n 1, 1) := by decide +kernel
theorem dX5_changing_51 : decode cX5_changing 51 = .ok (.iaload, 1) := by decide +kernel
theorem dX5_changing_52 : decode cX5_changing 52 = .ok (.iastore, 1) := by decide +kernel
theorem dX5_changing_53 : decode cX5_changing 53 = .ok (.aload_n 0, 1) := by decide +kernel
theorem dX5_changing_54 : decode cX5_changing 54 = .ok (.getfield 30, 3) := by decide +kernel
theorem dX5_changing_57 : decode cX5_changing 57 = .ok (.aload_n 0, 1) := by decide +kernel
theorem dX5_changing_58 : decode cX5_changing 58 = .ok (.getfield 85, 3) := by decide +kernel
theorem dX5_changing_61 : decode cX5_changing 61 = .ok (.aload_n 0, 1) := by decide +kernel
theorem dX5_changing_62 : decode cX5_changing 62 = .ok (.getfield 13, 3) := by decide +kernel
theorem dX5_changing_65 : decode cX5_changing 65 = .ok (.iload_n 1, 1) := by decide +kernel
theorem dX5_changing_66 : decode cX5_changing 66 = .ok (.iaload, 1) := by decide +kernel
theorem dX5_changing_67 : decode cX5_changing 67 = .ok (.iastore, 1) := by decide +kernel
theorem dX5_changing_68 : decode cX5_changing 68 = .ok (.aload_n 0, 1) := by decide +kernel
theorem dX5_changing_69 : decode cX5_changing 69 = .ok (.getfield 33, 3) := by decide +kernel
theorem dX5_changing_72 : decode cX5_changing 72 = .ok (.aload_n 0, 1) := by decide +kernel
theorem dX5_changing_73 : decode cX5_changing 73 = .ok (.getfield 85, 3) := by decide +kernel
theorem dX5_changing_76 : decode cX5_changing 76 = .ok (.iconst (-1), 1) := by decide +kernel
theorem dX5_changing_77 : decode cX5_changing 77 = .ok (.iastore, 1) := by decide +kernel
theorem dX5_changing_78 : decode cX5_changing 78 = .ok (.iconst 0, 1) := by decide +kernel
theorem dX5_changing_79 : decode cX5_changing 79 = .ok (.istore_n 2, 1) := by decide +kernel
theorem dX5_changing_80 : decode cX5_changing 80 = .ok (.iload_n 2, 1) := by decide +kernel
theorem dX5_changing_81 : decode cX5_changing 81 = .ok (.sipush 4096, 3) := by decide +kernel
theorem dX5_changing_84 : decode cX5_changing 84 = .ok (.if_icmp .ge 36, 3) := by decide +kernel
theorem dX5_changing_87 : decode cX5_changing 87 = .ok (.aload_n 0, 1) := by decide +kernel
theorem dX5_changing_88 : decode cX5_changing 88 = .ok (.getfield 37, 3) := by decide +kernel
theorem dX5_changing_91 : decode cX5_changing 91 = .ok (.aload_n 0, 1) := by decide +kernel
theorem dX5_changing_92 : decode cX5_changing 92 = .ok (.getfield 85, 3) := by decide +kernel
theorem dX5_changing_95 : decode cX5_changing 95 = .ok (.sipush 4096, 3) := by decide +kernel
theorem dX5_changing_98 : decode cX5_changing 98 = .ok (.imul, 1) := by decide +kernel
theorem dX5_changing_99 : decode cX5_changing 99 = .ok (.iload_n 2, 1) := by decide +kernel
theorem dX5_changing_100 : decode cX5_changing 100 = .ok (.iadd, 1) := by decide +kernel
theorem dX5_changing_101 : decode cX5_changing 101 = .ok (.aload_n 0, 1) := by decide +kernel
theorem dX5_changing_102 : decode cX5_changing 102 = .ok (.getfield 17, 3) := by decide +kernel
theorem dX5_changing_105 : decode cX5_changing 105 = .ok (.iload_n 1, 1) := by decide +kernel
theorem dX5_changing_106 : decode cX5_changing 106 = .ok (.sipush 4096, 3) := by decide +kernel
theorem dX5_changing_109 : decode cX5_changing 109 = .ok (.imul, 1) := by decide +kernel
theorem dX5_changing_110 : decode cX5_changing 110 = .ok (.iload_n 2, 1) := by decide +kernel
theorem dX5_changing_111 : decode cX5_changing 111 = .ok (.iadd, 1) := by decide +kernel
theorem dX5_changing_112 : decode cX5_changing 112 = .ok (.baload, 1) := by decide +kernel
theorem dX5_changing_113 : decode cX5_changing 113 = .ok (.bastore, 1) := by decide +kernel
theorem dX5_changing_114 : decode cX5_changing 114 = .ok (.iinc 2 1, 3) := by decide +kernel
theorem dX5_changing_117 : decode cX5_changing 117 = .ok (.goto (-37), 3) := by decide +kernel
theorem dX5_changing_120 : decode cX5_changing 120 = .ok (.return_, 1) := by decide +kernel
theorem dX5_back_0 : decode cX5_back 0 = .ok (.aload_n 0, 1) := by decide +kernel
theorem dX5_back_1 : decode cX5_back 1 = .ok (.iconst 0, 1) := by decide +kernel
theorem dX5_back_2 : decode cX5_back 2 = .ok (.putfield 64, 3) := by decide +kernel
theorem dX5_back_5 : decode cX5_back 5 = .ok (.aload_n 0, 1) := by decide +kernel
theorem dX5_back_6 : decode cX5_back 6 = .ok (.getfield 88, 3) := by decide +kernel
theorem dX5_back_9 : decode cX5_back 9 = .ok (.ifCond .ne 5, 3) := by decide +kernel
theorem dX5_back_12 : decode cX5_back 12 = .ok (.iconst (-1), 1) := by decide +kernel
theorem dX5_back_13 : decode cX5_back 13 = .ok (.ireturn, 1) := by decide +kernel
theorem dX5_back_14 : decode cX5_back 14 = .ok (.aload_n 0, 1) := by decide +kernel
theorem dX5_back_15 : decode cX5_back 15 = .ok (.getfield 24, 3) := by decide +kernel
theorem dX5_back_18 : decode cX5_back 18 = .ok (.aload_n 0, 1) := by decide +kernel
theorem dX5_back_19 : decode cX5_back 19 = .ok (.getfield 85, 3) := by decide +kernel
theorem dX5_back_22 : decode cX5_back 22 = .ok (.iaload, 1) := by decide +kernel
theorem dX5_back_23 : decode cX5_back 23 = .ok (.istore_n 1, 1) := by decide +kernel
theorem dX5_back_24 : decode cX5_back 24 = .ok (.aload_n 0, 1) := by decide +kernel
theorem dX5_back_25 : decode cX5_back 25 = .ok (.getfield 9, 3) := by decide +kernel
theorem dX5_back_28 : decode cX5_back 28 = .ok (.iload_n 1, 1) := by decide +kernel
theorem dX5_back_29 : decode cX5_back 29 = .ok (.aload_n 0, 1) := by decide +kernel
theorem dX5_back_30 : decode cX5_back 30 = .ok (.getfield 27, 3) := by decide +kernel
theorem dX5_back_33 : decode cX5_back 33 = .ok (.aload_n 0, 1) := by decide +kernel
theorem dX5_back_34 : decode cX5_back 34 = .ok (.getfield 85, 3) := by decide +kernel
theorem dX5_back_37 : decode cX5_back 37 = .ok (.iaload, 1) := by decide +kernel
theorem dX5_back_38 : decode cX5_back 38 = .ok (.iastore, 1) := by decide +kernel
theorem dX5_back_39 : decode cX5_back 39 = .ok (.aload_n 0, 1) := by decide +kernel
theorem dX5_back_40 : decode cX5_back 40 = .ok (.getfield 13, 3) := by decide +kernel
theorem dX5_back_43 : decode cX5_back 43 = .ok (.iload_n 1, 1) := by decide +kernel
theorem dX5_back_44 : decode cX5_back 44 = .ok (.aload_n 0, 1) := by decide +kernel
theorem dX5_back_45 : decode cX5_back 45 = .ok (.getfield 30, 3) := by decide +kernel
theorem dX5_back_48 : decode cX5_back 48 = .ok (.aload_n 0, 1) := by decide +kernel
theorem dX5_back_49 : decode cX5_back 49 = .ok (.getfield 85, 3) := by decide +kernel
theorem dX5_back_52 : decode cX5_back 52 = .ok (.iaload, 1) := by decide +kernel
theorem dX5_back_53 : decode cX5_back 53 = .ok (.iastore, 1) := by decide +kernel
theorem dX5_back_54 : decode cX5_back 54 = .ok (.iconst 0, 1) := by decide +kernel
theorem dX5_back_55 : decode cX5_back 55 = .ok (.istore_n 2, 1) := by decide +kernel
theorem dX5_back_56 : decode cX5_back 56 = .ok (.iload_n 2, 1) := by decide +kernel
theorem dX5_back_57 : decode cX5_back 57 = .ok (.sipush 4096, 3) := by decide +kernel
theorem dX5_back_60 : decode cX5_back 60 = .ok (.if_icmp .ge 36, 3) := by decide +kernel
theorem dX5_back_63 : decode cX5_back 63 = .ok (.aload_n 0, 1) := by decide +kernel
theorem dX5_back_64 : decode cX5_back 64 = .ok (.getfield 17, 3) := by decide +kernel
theorem dX5_back_67 : decode cX5_back 67 = .ok (.iload_n 1, 1) := by decide +kernel
theorem dX5_back_68 : decode cX5_back 68 = .ok (.sipush 4096, 3) := by decide +kernel
theorem dX5_back_71 : decode cX5_back 71 = .ok (.imul, 1) := by decide +kernel
theorem dX5_back_72 : decode cX5_back 72 = .ok (.iload_n 2, 1) := by decide +kernel
theorem dX5_back_73 : decode cX5_back 73 = .ok (.iadd, 1) := by decide +kernel
theorem dX5_back_74 : decode cX5_back 74 = .ok (.aload_n 0, 1) := by decide +kernel
theorem dX5_back_75 : decode cX5_back 75 = .ok (.getfield 37, 3) := by decide +kernel
theorem dX5_back_78 : decode cX5_back 78 = .ok (.aload_n 0, 1) := by decide +kernel
theorem dX5_back_79 : decode cX5_back 79 = .ok (.getfield 85, 3) := by decide +kernel
theorem dX5_back_82 : decode cX5_back 82 = .ok (.sipush 4096, 3) := by decide +kernel
theorem dX5_back_85 : decode cX5_back 85 = .ok (.imul, 1) := by decide +kernel
theorem dX5_back_86 : decode cX5_back 86 = .ok (.iload_n 2, 1) := by decide +kernel
theorem dX5_back_87 : decode cX5_back 87 = .ok (.iadd, 1) := by decide +kernel
theorem dX5_back_88 : decode cX5_back 88 = .ok (.baload, 1) := by decide +kernel
theorem dX5_back_89 : decode cX5_back 89 = .ok (.bastore, 1) := by decide +kernel
theorem dX5_back_90 : decode cX5_back 90 = .ok (.iinc 2 1, 3) := by decide +kernel
theorem dX5_back_93 : decode cX5_back 93 = .ok (.goto (-37), 3) := by decide +kernel
theorem dX5_back_96 : decode cX5_back 96 = .ok (.aload_n 0, 1) := by decide +kernel
theorem dX5_back_97 : decode cX5_back 97 = .ok (.getfield 33, 3) := by decide +kernel
theorem dX5_back_100 : decode cX5_back 100 = .ok (.aload_n 0, 1) := by decide +kernel
theorem dX5_back_101 : decode cX5_back 101 = .ok (.getfield 85, 3) := by decide +kernel
theorem dX5_back_104 : decode cX5_back 104 = .ok (.iaload, 1) := by decide +kernel
theorem dX5_back_105 : decode cX5_back 105 = .ok (.ifCond .lt 31, 3) := by decide +kernel
theorem dX5_back_108 : decode cX5_back 108 = .ok (.aload_n 0, 1) := by decide +kernel
theorem dX5_back_109 : decode cX5_back 109 = .ok (.getfield 33, 3) := by decide +kernel
theorem dX5_back_112 : decode cX5_back 112 = .ok (.aload_n 0, 1) := by decide +kernel
theorem dX5_back_113 : decode cX5_back 113 = .ok (.getfield 85, 3) := by decide +kernel
theorem dX5_back_116 : decode cX5_back 116 = .ok (.iaload, 1) := by decide +kernel
theorem dX5_back_117 : decode cX5_back 117 = .ok (.aload_n 0, 1) := by decide +kernel
theorem dX5_back_118 : decode cX5_back 118 = .ok (.getfield 68, 3) := by decide +kernel
theorem dX5_back_121 : decode cX5_back 121 = .ok (.iconst 1, 1) := by decide +kernel
theorem dX5_back_122 : decode cX5_back 122 = .ok (.isub, 1) := by decide +kernel
theorem dX5_back_123 : decode cX5_back 123 = .ok (.if_icmp .ne 13, 3) := by decide +kernel
theorem dX5_back_126 : decode cX5_back 126 = .ok (.aload_n 0, 1) := by decide +kernel
theorem dX5_back_127 : decode cX5_back 127 = .ok (.dup, 1) := by decide +kernel
theorem dX5_back_128 : decode cX5_back 128 = .ok (.getfield 68, 3) := by decide +kernel
theorem dX5_back_131 : decode cX5_back 131 = .ok (.iconst 1, 1) := by decide +kernel
theorem dX5_back_132 : decode cX5_back 132 = .ok (.isub, 1) := by decide +kernel
theorem dX5_back_133 : decode cX5_back 133 = .ok (.putfield 68, 3) := by decide +kernel
theorem dX5_back_136 : decode cX5_back 136 = .ok (.aload_n 0, 1) := by decide +kernel
theorem dX5_back_137 : decode cX5_back 137 = .ok (.aload_n 0, 1) := by decide +kernel
theorem dX5_back_138 : decode cX5_back 138 = .ok (.getfield 85, 3) := by decide +kernel
theorem dX5_back_141 : decode cX5_back 141 = .ok (.bipush 10, 2) := by decide +kernel
theorem dX5_back_143 : decode cX5_back 143 = .ok (.iadd, 1) := by decide +kernel
theorem dX5_back_144 : decode cX5_back 144 = .ok (.iconst 1, 1) := by decide +kernel
theorem dX5_back_145 : decode cX5_back 145 = .ok (.isub, 1) := by decide +kernel
theorem dX5_back_146 : decode cX5_back 146 = .ok (.bipush 10, 2) := by decide +kernel
theorem dX5_back_148 : decode cX5_back 148 = .ok (.irem, 1) := by decide +kernel
theorem dX5_back_149 : decode cX5_back 149 = .ok (.putfield 85, 3) := by decide +kernel
theorem dX5_back_152 : decode cX5_back 152 = .ok (.aload_n 0, 1) := by decide +kernel
theorem dX5_back_153 : decode cX5_back 153 = .ok (.dup, 1) := by decide +kernel
theorem dX5_back_154 : decode cX5_back 154 = .ok (.getfield 88, 3) := by decide +kernel
theorem dX5_back_157 : decode cX5_back 157 = .ok (.iconst 1, 1) := by decide +kernel
theorem dX5_back_158 : decode cX5_back 158 = .ok (.isub, 1) := by decide +kernel
theorem dX5_back_159 : decode cX5_back 159 = .ok (.putfield 88, 3) := by decide +kernel
theorem dX5_back_162 : decode cX5_back 162 = .ok (.iload_n 1, 1) := by decide +kernel
theorem dX5_back_163 : decode cX5_back 163 = .ok (.ireturn, 1) := by decide +kernel
set_option maxRecDepth 20000 in
theorem ggX5_isPoint_X5_isPage : GoodIn wsX5_isPoint wsX5_isPage := goodIn_r _ [7, 8, 9, 10, 6, 11, 12, 13, 14, 15, 16, 17, 18, 19, 20, 21, 22, 23, 24, 25, 26, 27, 28, 29, 30, 31, 32, 33, 34, 35] (by decide +kernel) (by decide +kernel)
set_option maxRecDepth 20000 in
theorem gX5_isPoint_X5_isPage : GoodIn wsX5_isPoint (wsV RX5 81 RX5 yX5_isPage wsX5_isPage) := goodIn_app (goodIn_of _ (by decide +kernel)) ggX5_isPoint_X5_isPage
set_option maxRecDepth 20000 in
theorem ggX5_isPoint_X5_in : GoodIn wsX5_isPoint wsX5_in := goodIn_r _ [11] (by decide +kernel) (by decide +kernel)
set_option maxRecDepth 20000 in
theorem gX5_isPoint_X5_in : GoodIn wsX5_isPoint (va_wsS RX5 71 yX5_in wsX5_in) := goodIn_app (goodIn_of _ (by decide +kernel)) ggX5_isPoint_X5_in
theorem dX5_isPoint_0 : decode cX5_isPoint 0 = .ok (.aload_n 0, 1) := by decide +kernel
theorem dX5_isPoint_1 : decode cX5_isPoint 1 = .ok (.iload_n 1, 1) := by decide +kernel
theorem dX5_isPoint_2 : decode cX5_isPoint 2 = .ok (.invokevirtual 81, 3) := by decide +kernel
theorem dX5_isPoint_5 : decode cX5_isPoint 5 = .ok (.ifCond .eq 43, 3) := by decide +kernel
theorem dX5_isPoint_8 : decode cX5_isPoint 8 = .ok (.iload_n 2, 1) := by decide +kernel
theorem dX5_isPoint_9 : decode cX5_isPoint 9 = .ok (.i2l, 1) := by decide +kernel
theorem dX5_isPoint_10 : decode cX5_isPoint 10 = .ok (.lconst 0, 1) := by decide +kernel
theorem dX5_isPoint_11 : decode cX5_isPoint 11 = .ok (.aload_n 0, 1) := by decide +kernel
theorem dX5_isPoint_12 : decode cX5_isPoint 12 = .ok (.getfield 9, 3) := by decide +kernel
theorem dX5_isPoint_15 : decode cX5_isPoint 15 = .ok (.iload_n 1, 1) := by decide +kernel
theorem dX5_isPoint_16 : decode cX5_isPoint 16 = .ok (.iaload, 1) := by decide +kernel
theorem dX5_isPoint_17 : decode cX5_isPoint 17 = .ok (.iconst 1, 1) := by decide +kernel
theorem dX5_isPoint_18 : decode cX5_isPoint 18 = .ok (.isub, 1) := by decide +kernel
theorem dX5_isPoint_19 : decode cX5_isPoint 19 = .ok (.i2l, 1) := by decide +kernel
theorem dX5_isPoint_20 : decode cX5_isPoint 20 = .ok (.invokestatic 71, 3) := by decide +kernel
theorem dX5_isPoint_23 : decode cX5_isPoint 23 = .ok (.ifCond .eq 25, 3) := by decide +kernel
theorem dX5_isPoint_26 : decode cX5_isPoint 26 = .ok (.iload_n 3, 1) := by decide +kernel
theorem dX5_isPoint_27 : decode cX5_isPoint 27 = .ok (.i2l, 1) := by decide +kernel
theorem dX5_isPoint_28 : decode cX5_isPoint 28 = .ok (.lconst 0, 1) := by decide +kernel
theorem dX5_isPoint_29 : decode cX5_isPoint 29 = .ok (.aload_n 0, 1) := by decide +kernel
theorem dX5_isPoint_30 : decode cX5_isPoint 30 = .ok (.getfield 13, 3) := by decide +kernel
theorem dX5_isPoint_33 : decode cX5_isPoint 33 = .ok (.iload_n 1, 1) := by decide +kernel
theorem dX5_isPoint_34 : decode cX5_isPoint 34 = .ok (.iaload, 1) := by decide +kernel
theorem dX5_isPoint_35 : decode cX5_isPoint 35 = .ok (.iconst 1, 1) := by decide +kernel
theorem dX5_isPoint_36 : decode cX5_isPoint 36 = .ok (.isub, 1) := by decide +kernel
theorem dX5_isPoint_37 : decode cX5_isPoint 37 = .ok (.i2l, 1) := by decide +kernel
theorem dX5_isPoint_38 : decode cX5_isPoint 38 = .ok (.invokestatic 71, 3) := by decide +kernel
theorem dX5_isPoint_41 : decode cX5_isPoint 41 = .ok (.ifCond .eq 7, 3) := by decide +kernel
theorem dX5_isPoint_44 : decode cX5_isPoint 44 = .ok (.iconst 1, 1) := by decide +kernel
theorem dX5_isPoint_45 : decode cX5_isPoint 45 = .ok (.goto 4, 3) := by decide +kernel
theorem dX5_isPoint_48 : decode cX5_isPoint 48 = .ok (.iconst 0, 1) := by decide +kernel
theorem dX5_isPoint_49 : decode cX5_isPoint 49 = .ok (.ireturn, 1) := by decide +kernel
set_option maxRecDepth 20000 in
theorem ggX5_set_X5_isPoint : GoodIn wsX5_set wsX5_isPoint := goodIn_r _ [6, 7, 8, 9, 10, 11, 5, 12, 13, 14, 15, 16, 37, 38, 39, 40, 41, 42, 43, 44, 45, 46, 47, 48, 49, 50, 51, 52, 53, 54, 55, 56, 57, 58, 59, 60] (by decide +kernel) (by decide +kernel)
set_option maxRecDepth 20000 in
theorem gX5_set_X5_isPoint : GoodIn wsX5_set (wsV RX5 97 RX5 yX5_isPoint wsX5_isPoint) := goodIn_app (goodIn_of _ (by decide +kernel)) ggX5_set_X5_isPoint
set_option maxRecDepth 20000 in
theorem ggX5_set_X5_changing : GoodIn wsX5_set wsX5_changing := goodIn_r _ [20, 21, 22, 23, 24, 25, 26, 27, 28, 7, 29, 8, 30, 31, 32, 37, 38, 39, 40, 41, 42, 43, 44, 45, 46, 47, 48, 49, 50, 51, 52, 53, 54, 55, 56, 57, 58, 59, 60] (by decide +kernel) (by decide +kernel)
set_option maxRecDepth 20000 in
theorem gX5_set_X5_changing : GoodIn wsX5_set (wsV RX5 101 RX5 yX5_changing wsX5_changing) := goodIn_app (goodIn_of _ (by decide +kernel)) ggX5_set_X5_changing
set_option maxRecDepth 20000 in
theorem ggX5_set_X5_inks : GoodIn wsX5_set wsX5_inks := goodIn_r _ [36, 32, 37, 38, 39, 40, 41, 42, 43, 44, 45, 46, 47, 48, 49, 50, 51, 52, 53, 54, 55, 56, 57, 58, 59, 60] (by decide +kernel) (by decide +kernel)
set_option maxRecDepth 20000 in
theorem gX5_set_X5_inks : GoodIn wsX5_set (wsV RX5 105 RX5 yX5_inks wsX5_inks) := goodIn_app (goodIn_of _ (by decide +kernel)) ggX5_set_X5_inks
theorem dX5_set_0 : decode cX5_set 0 = .ok (.aload_n 0, 1) := by decide +kernel
theorem dX5_set_1 : decode cX5_set 1 = .ok (.iconst 0, 1) := by decide +kernel
theorem dX5_set_2 : decode cX5_set 2 = .ok (.putfield 64, 3) := by decide +kernel
theorem dX5_set_5 : decode cX5_set 5 = .ok (.aload_n 0, 1) := by decide +kernel
theorem dX5_set_6 : decode cX5_set 6 = .ok (.iload_n 1, 1) := by decide +kernel
theorem dX5_set_7 : decode cX5_set 7 = .ok (.iload_n 2, 1) := by decide +kernel
theorem dX5_set_8 : decode cX5_set 8 = .ok (.iload_n 3, 1) := by decide +kernel
theorem dX5_set_9 : decode cX5_set 9 = .ok (.invokevirtual 97, 3) := by decide +kernel
theorem dX5_set_12 : decode cX5_set 12 = .ok (.ifCond .ne 5, 3) := by decide +kernel
theorem dX5_set_15 : decode cX5_set 15 = .ok (.iconst 0, 1) := by decide +kernel
theorem dX5_set_16 : decode cX5_set 16 = .ok (.ireturn, 1) := by decide +kernel
theorem dX5_set_17 : decode cX5_set 17 = .ok (.aload_n 0, 1) := by decide +kernel
theorem dX5_set_18 : decode cX5_set 18 = .ok (.iload_n 1, 1) := by decide +kernel
theorem dX5_set_19 : decode cX5_set 19 = .ok (.invokevirtual 101, 3) := by decide +kernel
theorem dX5_set_22 : decode cX5_set 22 = .ok (.aload_n 0, 1) := by decide +kernel
theorem dX5_set_23 : decode cX5_set 23 = .ok (.iload_n 1, 1) := by decide +kernel
theorem dX5_set_24 : decode cX5_set 24 = .ok (.iload_n 2, 1) := by decide +kernel
theorem dX5_set_25 : decode cX5_set 25 = .ok (.iload_n 3, 1) := by decide +kernel
theorem dX5_set_26 : decode cX5_set 26 = .ok (.iload 4, 2) := by decide +kernel
theorem dX5_set_28 : decode cX5_set 28 = .ok (.invokevirtual 105, 3) := by decide +kernel
theorem dX5_set_31 : decode cX5_set 31 = .ok (.iconst 1, 1) := by decide +kernel
theorem dX5_set_32 : decode cX5_set 32 = .ok (.ireturn, 1) := by decide +kernel
set_option maxRecDepth 20000 in
theorem ggX5_rowInk_X5_has : GoodIn wsX5_rowInk wsX5_has := goodIn_r _ [6, 7, 8, 9, 10, 11, 12, 13, 14, 15, 16, 17, 18, 19, 20, 21, 22, 23, 24, 25, 26, 27, 28, 29, 30, 31] (by decide +kernel) (by decide +kernel)
set_option maxRecDepth 20000 in
theorem gX5_rowInk_X5_has : GoodIn wsX5_rowInk (wsV RX5 109 RX5 yX5_has wsX5_has) := goodIn_app (goodIn_of _ (by decide +kernel)) ggX5_rowInk_X5_has
theorem dX5_rowInk_0 : decode cX5_rowInk 0 = .ok (.iconst 0, 1) := by decide +kernel
theorem dX5_rowInk_1 : decode cX5_rowInk 1 = .ok (.istore_n 3, 1) := by decide +kernel
theorem dX5_rowInk_2 : decode cX5_rowInk 2 = .ok (.iconst 0, 1) := by decide +kernel
theorem dX5_rowInk_3 : decode cX5_rowInk 3 = .ok (.istore 4, 2) := by decide +kernel
theorem dX5_rowInk_5 : decode cX5_rowInk 5 = .ok (.iload 4, 2) := by decide +kernel
theorem dX5_rowInk_7 : decode cX5_rowInk 7 = .ok (.aload_n 0, 1) := by decide +kernel
theorem dX5_rowInk_8 : decode cX5_rowInk 8 = .ok (.getfield 9, 3) := by decide +kernel
theorem dX5_rowInk_11 : decode cX5_rowInk 11 = .ok (.iload_n 1, 1) := by decide +kernel
theorem dX5_rowInk_12 : decode cX5_rowInk 12 = .ok (.iaload, 1) := by decide +kernel
theorem dX5_rowInk_13 : decode cX5_rowInk 13 = .ok (.if_icmp .ge 28, 3) := by decide +kernel
theorem dX5_rowInk_16 : decode cX5_rowInk 16 = .ok (.iload_n 3, 1) := by decide +kernel
theorem dX5_rowInk_17 : decode cX5_rowInk 17 = .ok (.aload_n 0, 1) := by decide +kernel
theorem dX5_rowInk_18 : decode cX5_rowInk 18 = .ok (.iload_n 1, 1) := by decide +kernel
theorem dX5_rowInk_19 : decode cX5_rowInk 19 = .ok (.iload 4, 2) := by decide +kernel
theorem dX5_rowInk_21 : decode cX5_rowInk 21 = .ok (.iload_n 2, 1) := by decide +kernel
theorem dX5_rowInk_22 : decode cX5_rowInk 22 = .ok (.invokevirtual 109, 3) := by decide +kernel
theorem dX5_rowInk_25 : decode cX5_rowInk 25 = .ok (.ifCond .eq 7, 3) := by decide +kernel
theorem dX5_rowInk_28 : decode cX5_rowInk 28 = .ok (.iconst 1, 1) := by decide +kernel
theorem dX5_rowInk_29 : decode cX5_rowInk 29 = .ok (.goto 4, 3) := by decide +kernel
theorem dX5_rowInk_32 : decode cX5_rowInk 32 = .ok (.iconst 0, 1) := by decide +kernel
theorem dX5_rowInk_33 : decode cX5_rowInk 33 = .ok (.iadd, 1) := by decide +kernel
theorem dX5_rowInk_34 : decode cX5_rowInk 34 = .ok (.istore_n 3, 1) := by decide +kernel
theorem dX5_rowInk_35 : decode cX5_rowInk 35 = .ok (.iinc 4 1, 3) := by decide +kernel
theorem dX5_rowInk_38 : decode cX5_rowInk 38 = .ok (.goto (-33), 3) := by decide +kernel
theorem dX5_rowInk_41 : decode cX5_rowInk 41 = .ok (.iload_n 3, 1) := by decide +kernel
theorem dX5_rowInk_42 : decode cX5_rowInk 42 = .ok (.ireturn, 1) := by decide +kernel
set_option maxRecDepth 20000 in
theorem ggX5_columnInk_X5_has : GoodIn wsX5_columnInk wsX5_has := goodIn_r _ [6, 7, 8, 9, 10, 11, 12, 13, 14, 15, 16, 17, 18, 19, 20, 21, 22, 23, 24, 25, 26, 27, 28, 29, 30, 31] (by decide +kernel) (by decide +kernel)
set_option maxRecDepth 20000 in
theorem gX5_columnInk_X5_has : GoodIn wsX5_columnInk (wsV RX5 109 RX5 yX5_has wsX5_has) := goodIn_app (goodIn_of _ (by decide +kernel)) ggX5_columnInk_X5_has
theorem dX5_columnInk_0 : decode cX5_columnInk 0 = .ok (.iconst 0, 1) := by decide +kernel
theorem dX5_columnInk_1 : decode cX5_columnInk 1 = .ok (.istore_n 3, 1) := by decide +kernel
theorem dX5_columnInk_2 : decode cX5_columnInk 2 = .ok (.iconst 0, 1) := by decide +kernel
theorem dX5_columnInk_3 : decode cX5_columnInk 3 = .ok (.istore 4, 2) := by decide +kernel
theorem dX5_columnInk_5 : decode cX5_columnInk 5 = .ok (.iload 4, 2) := by decide +kernel
theorem dX5_columnInk_7 : decode cX5_columnInk 7 = .ok (.aload_n 0, 1) := by decide +kernel
theorem dX5_columnInk_8 : decode cX5_columnInk 8 = .ok (.getfield 13, 3) := by decide +kernel
theorem dX5_columnInk_11 : decode cX5_columnInk 11 = .ok (.iload_n 1, 1) := by decide +kernel
theorem dX5_columnInk_12 : decode cX5_columnInk 12 = .ok (.iaload, 1) := by decide +kernel
theorem dX5_columnInk_13 : decode cX5_columnInk 13 = .ok (.if_icmp .ge 28, 3) := by decide +kernel
theorem dX5_columnInk_16 : decode cX5_columnInk 16 = .ok (.iload_n 3, 1) := by decide +kernel
theorem dX5_columnInk_17 : decode cX5_columnInk 17 = .ok (.aload_n 0, 1) := by decide +kernel
theorem dX5_columnInk_18 : decode cX5_columnInk 18 = .ok (.iload_n 1, 1) := by decide +kernel
theorem dX5_columnInk_19 : decode cX5_columnInk 19 = .ok (.iload_n 2, 1) := by decide +kernel
theorem dX5_columnInk_20 : decode cX5_columnInk 20 = .ok (.iload 4, 2) := by decide +kernel
theorem dX5_columnInk_22 : decode cX5_columnInk 22 = .ok (.invokevirtual 109, 3) := by decide +kernel
theorem dX5_columnInk_25 : decode cX5_columnInk 25 = .ok (.ifCond .eq 7, 3) := by decide +kernel
theorem dX5_columnInk_28 : decode cX5_columnInk 28 = .ok (.iconst 1, 1) := by decide +kernel
theorem dX5_columnInk_29 : decode cX5_columnInk 29 = .ok (.goto 4, 3) := by decide +kernel
theorem dX5_columnInk_32 : decode cX5_columnInk 32 = .ok (.iconst 0, 1) := by decide +kernel
theorem dX5_columnInk_33 : decode cX5_columnInk 33 = .ok (.iadd, 1) := by decide +kernel
theorem dX5_columnInk_34 : decode cX5_columnInk 34 = .ok (.istore_n 3, 1) := by decide +kernel
theorem dX5_columnInk_35 : decode cX5_columnInk 35 = .ok (.iinc 4 1, 3) := by decide +kernel
theorem dX5_columnInk_38 : decode cX5_columnInk 38 = .ok (.goto (-33), 3) := by decide +kernel
theorem dX5_columnInk_41 : decode cX5_columnInk 41 = .ok (.iload_n 3, 1) := by decide +kernel
theorem dX5_columnInk_42 : decode cX5_columnInk 42 = .ok (.ireturn, 1) := by decide +kernel
set_option maxRecDepth 20000 in
theorem ggX5_lays_X5_inks : GoodIn wsX5_lays wsX5_inks := goodIn_r _ [6, 7, 8, 9, 10, 11, 12, 13, 14, 15, 16, 17, 18, 19, 20, 21, 22, 23, 24, 25, 26, 27, 28, 29, 30, 31] (by decide +kernel) (by decide +kernel)
set_option maxRecDepth 20000 in
theorem gX5_lays_X5_inks : GoodIn wsX5_lays (wsV RX5 105 RX5 yX5_inks wsX5_inks) := goodIn_app (goodIn_of _ (by decide +kernel)) ggX5_lays_X5_inks
theorem dX5_lays_0 : decode cX5_lays 0 = .ok (.iconst 0, 1) := by decide +kernel
theorem dX5_lays_1 : decode cX5_lays 1 = .ok (.istore 5, 2) := by decide +kernel
theorem dX5_lays_3 : decode cX5_lays 3 = .ok (.iload 5, 2) := by decide +kernel
theorem dX5_lays_5 : decode cX5_lays 5 = .ok (.aload_n 0, 1) := by decide +kernel
theorem dX5_lays_6 : decode cX5_lays 6 = .ok (.getfield 9, 3) := by decide +kernel
theorem dX5_lays_9 : decode cX5_lays 9 = .ok (.iload_n 1, 1) := by decide +kernel
theorem dX5_lays_10 : decode cX5_lays 10 = .ok (.iaload, 1) := by decide +kernel
theorem dX5_lays_11 : decode cX5_lays 11 = .ok (.if_icmp .ge 33, 3) := by decide +kernel
theorem dX5_lays_14 : decode cX5_lays 14 = .ok (.aload_n 0, 1) := by decide +kernel
theorem dX5_lays_15 : decode cX5_lays 15 = .ok (.iload_n 1, 1) := by decide +kernel
theorem dX5_lays_16 : decode cX5_lays 16 = .ok (.iload 5, 2) := by decide +kernel
theorem dX5_lays_18 : decode cX5_lays 18 = .ok (.iload_n 2, 1) := by decide +kernel
theorem dX5_lays_19 : decode cX5_lays 19 = .ok (.lload_n 3, 1) := by decide +kernel
theorem dX5_lays_20 : decode cX5_lays 20 = .ok (.iload 5, 2) := by decide +kernel
theorem dX5_lays_22 : decode cX5_lays 22 = .ok (.lshr, 1) := by decide +kernel
theorem dX5_lays_23 : decode cX5_lays 23 = .ok (.lconst 1, 1) := by decide +kernel
theorem dX5_lays_24 : decode cX5_lays 24 = .ok (.land, 1) := by decide +kernel
theorem dX5_lays_25 : decode cX5_lays 25 = .ok (.lconst 1, 1) := by decide +kernel
theorem dX5_lays_26 : decode cX5_lays 26 = .ok (.lcmp, 1) := by decide +kernel
theorem dX5_lays_27 : decode cX5_lays 27 = .ok (.ifCond .ne 7, 3) := by decide +kernel
theorem dX5_lays_30 : decode cX5_lays 30 = .ok (.iconst 1, 1) := by decide +kernel
theorem dX5_lays_31 : decode cX5_lays 31 = .ok (.goto 4, 3) := by decide +kernel
theorem dX5_lays_34 : decode cX5_lays 34 = .ok (.iconst 0, 1) := by decide +kernel
theorem dX5_lays_35 : decode cX5_lays 35 = .ok (.invokevirtual 105, 3) := by decide +kernel
theorem dX5_lays_38 : decode cX5_lays 38 = .ok (.iinc 5 1, 3) := by decide +kernel
theorem dX5_lays_41 : decode cX5_lays 41 = .ok (.goto (-38), 3) := by decide +kernel
theorem dX5_lays_44 : decode cX5_lays 44 = .ok (.return_, 1) := by decide +kernel
set_option maxRecDepth 20000 in
theorem ggX5_line_X5_isPoint : GoodIn wsX5_line wsX5_isPoint := goodIn_r _ [6, 7, 8, 9, 10, 11, 5, 12, 13, 14, 15, 16, 49, 50, 51, 52, 53, 54, 55, 56, 57, 58, 59, 60, 61, 62, 63, 64, 65, 66, 67, 68, 69, 70, 71, 72] (by decide +kernel) (by decide +kernel)
set_option maxRecDepth 20000 in
theorem gX5_line_X5_isPoint : GoodIn wsX5_line (wsV RX5 97 RX5 yX5_isPoint wsX5_isPoint) := goodIn_app (goodIn_of _ (by decide +kernel)) ggX5_line_X5_isPoint
set_option maxRecDepth 20000 in
theorem ggX5_line_X5_changing : GoodIn wsX5_line wsX5_changing := goodIn_r _ [20, 21, 22, 23, 24, 25, 26, 27, 28, 7, 29, 8, 30, 31, 32, 49, 50, 51, 52, 53, 54, 55, 56, 57, 58, 59, 60, 61, 62, 63, 64, 65, 66, 67, 68, 69, 70, 71, 72] (by decide +kernel) (by decide +kernel)
set_option maxRecDepth 20000 in
theorem gX5_line_X5_changing : GoodIn wsX5_line (wsV RX5 101 RX5 yX5_changing wsX5_changing) := goodIn_app (goodIn_of _ (by decide +kernel)) ggX5_line_X5_changing
set_option maxRecDepth 20000 in
theorem ggX5_line_X5_lays : GoodIn wsX5_line wsX5_lays := goodIn_r _ [36, 7, 37, 38, 39, 5, 40, 32, 49, 50, 51, 52, 53, 54, 55, 56, 57, 58, 59, 60, 61, 62, 63, 64, 65, 66, 67, 68, 69, 70, 71, 72] (by decide +kernel) (by decide +kernel)
set_option maxRecDepth 20000 in
theorem gX5_line_X5_lays : GoodIn wsX5_line (wsV RX5 112 RX5 yX5_lays wsX5_lays) := goodIn_app (goodIn_of _ (by decide +kernel)) ggX5_line_X5_lays
set_option maxRecDepth 20000 in
theorem ggX5_line_X5_rowInk : GoodIn wsX5_line wsX5_rowInk := goodIn_r _ [44, 7, 45, 46, 47, 5, 48, 32, 49, 50, 51, 52, 53, 54, 55, 56, 57, 58, 59, 60, 61, 62, 63, 64, 65, 66, 67, 68, 69, 70, 71, 72] (by decide +kernel) (by decide +kernel)
set_option maxRecDepth 20000 in
theorem gX5_line_X5_rowInk : GoodIn wsX5_line (wsV RX5 116 RX5 yX5_rowInk wsX5_rowInk) := goodIn_app (goodIn_of _ (by decide +kernel)) ggX5_line_X5_rowInk
theorem dX5_line_0 : decode cX5_line 0 = .ok (.aload_n 0, 1) := by decide +kernel
theorem dX5_line_1 : decode cX5_line 1 = .ok (.iconst 0, 1) := by decide +kernel
theorem dX5_line_2 : decode cX5_line 2 = .ok (.putfield 64, 3) := by decide +kernel
theorem dX5_line_5 : decode cX5_line 5 = .ok (.aload_n 0, 1) := by decide +kernel
theorem dX5_line_6 : decode cX5_line 6 = .ok (.iload_n 1, 1) := by decide +kernel
theorem dX5_line_7 : decode cX5_line 7 = .ok (.iconst 0, 1) := by decide +kernel
theorem dX5_line_8 : decode cX5_line 8 = .ok (.iload_n 2, 1) := by decide +kernel
theorem dX5_line_9 : decode cX5_line 9 = .ok (.invokevirtual 97, 3) := by decide +kernel
theorem dX5_line_12 : decode cX5_line 12 = .ok (.ifCond .ne 5, 3) := by decide +kernel
theorem dX5_line_15 : decode cX5_line 15 = .ok (.iconst (-1), 1) := by decide +kernel
theorem dX5_line_16 : decode cX5_line 16 = .ok (.ireturn, 1) := by decide +kernel
theorem dX5_line_17 : decode cX5_line 17 = .ok (.aload_n 0, 1) := by decide +kernel
theorem dX5_line_18 : decode cX5_line 18 = .ok (.iload_n 1, 1) := by decide +kernel
theorem dX5_line_19 : decode cX5_line 19 = .ok (.invokevirtual 101, 3) := by decide +kernel
theorem dX5_line_22 : decode cX5_line 22 = .ok (.aload_n 0, 1) := by decide +kernel
theorem dX5_line_23 : decode cX5_line 23 = .ok (.iload_n 1, 1) := by decide +kernel
theorem dX5_line_24 : decode cX5_line 24 = .ok (.iload_n 2, 1) := by decide +kernel
theorem dX5_line_25 : decode cX5_line 25 = .ok (.lload_n 3, 1) := by decide +kernel
theorem dX5_line_26 : decode cX5_line 26 = .ok (.invokevirtual 112, 3) := by decide +kernel
theorem dX5_line_29 : decode cX5_line 29 = .ok (.aload_n 0, 1) := by decide +kernel
theorem dX5_line_30 : decode cX5_line 30 = .ok (.iload_n 1, 1) := by decide +kernel
theorem dX5_line_31 : decode cX5_line 31 = .ok (.iload_n 2, 1) := by decide +kernel
theorem dX5_line_32 : decode cX5_line 32 = .ok (.invokevirtual 116, 3) := by decide +kernel
theorem dX5_line_35 : decode cX5_line 35 = .ok (.ireturn, 1) := by decide +kernel
set_option maxRecDepth 20000 in
theorem ggX5_lay_X5_isPoint : GoodIn wsX5_lay wsX5_isPoint := goodIn_r _ [16, 17, 4, 18, 19, 20, 15, 21, 22, 23, 24, 25, 35, 36, 37, 38, 39, 40, 41, 42, 43, 44, 45, 46, 47, 48, 49, 50, 51, 52, 53, 54, 55, 56, 57, 58] (by decide +kernel) (by decide +kernel)
set_option maxRecDepth 20000 in
theorem gX5_lay_X5_isPoint : GoodIn wsX5_lay (wsV RX5 97 RX5 yX5_isPoint wsX5_isPoint) := goodIn_app (goodIn_of _ (by decide +kernel)) ggX5_lay_X5_isPoint
set_option maxRecDepth 20000 in
theorem ggX5_lay_X5_in : GoodIn wsX5_lay wsX5_in := goodIn_r _ [25] (by decide +kernel) (by decide +kernel)
set_option maxRecDepth 20000 in
theorem gX5_lay_X5_in : GoodIn wsX5_lay (va_wsS RX5 71 yX5_in wsX5_in) := goodIn_app (goodIn_of _ (by decide +kernel)) ggX5_lay_X5_in
set_option maxRecDepth 20000 in
theorem ggX5_lay_X5_lays : GoodIn wsX5_lay wsX5_lays := goodIn_r _ [29, 17, 30, 31, 32, 15, 33, 34, 35, 36, 37, 38, 39, 40, 41, 42, 43, 44, 45, 46, 47, 48, 49, 50, 51, 52, 53, 54, 55, 56, 57, 58] (by decide +kernel) (by decide +kernel)
set_option maxRecDepth 20000 in
theorem gX5_lay_X5_lays : GoodIn wsX5_lay (wsV RX5 112 RX5 yX5_lays wsX5_lays) := goodIn_app (goodIn_of _ (by decide +kernel)) ggX5_lay_X5_lays
theorem dX5_lay_0 : decode cX5_lay 0 = .ok (.aload_n 0, 1) := by decide +kernel
theorem dX5_lay_1 : decode cX5_lay 1 = .ok (.iconst 0, 1) := by decide +kernel
theorem dX5_lay_2 : decode cX5_lay 2 = .ok (.putfield 64, 3) := by decide +kernel
theorem dX5_lay_5 : decode cX5_lay 5 = .ok (.aload_n 0, 1) := by decide +kernel
theorem dX5_lay_6 : decode cX5_lay 6 = .ok (.iload_n 1, 1) := by decide +kernel
theorem dX5_lay_7 : decode cX5_lay 7 = .ok (.iconst 0, 1) := by decide +kernel
theorem dX5_lay_8 : decode cX5_lay 8 = .ok (.iload_n 2, 1) := by decide +kernel
theorem dX5_lay_9 : decode cX5_lay 9 = .ok (.invokevirtual 97, 3) := by decide +kernel
theorem dX5_lay_12 : decode cX5_lay 12 = .ok (.ifCond .eq 22, 3) := by decide +kernel
theorem dX5_lay_15 : decode cX5_lay 15 = .ok (.iload_n 3, 1) := by decide +kernel
theorem dX5_lay_16 : decode cX5_lay 16 = .ok (.i2l, 1) := by decide +kernel
theorem dX5_lay_17 : decode cX5_lay 17 = .ok (.lconst 0, 1) := by decide +kernel
theorem dX5_lay_18 : decode cX5_lay 18 = .ok (.ldc2_w 119, 3) := by decide +kernel
theorem dX5_lay_21 : decode cX5_lay 21 = .ok (.invokestatic 71, 3) := by decide +kernel
theorem dX5_lay_24 : decode cX5_lay 24 = .ok (.ifCond .eq 10, 3) := by decide +kernel
theorem dX5_lay_27 : decode cX5_lay 27 = .ok (.iload 4, 2) := by decide +kernel
theorem dX5_lay_29 : decode cX5_lay 29 = .ok (.bipush 64, 2) := by decide +kernel
theorem dX5_lay_31 : decode cX5_lay 31 = .ok (.if_icmp .le 5, 3) := by decide +kernel
theorem dX5_lay_34 : decode cX5_lay 34 = .ok (.iconst (-1), 1) := by decide +kernel
theorem dX5_lay_35 : decode cX5_lay 35 = .ok (.ireturn, 1) := by decide +kernel
theorem dX5_lay_36 : decode cX5_lay 36 = .ok (.iload 4, 2) := by decide +kernel
theorem dX5_lay_38 : decode cX5_lay 38 = .ok (.ifCond .ge 11, 3) := by decide +kernel
theorem dX5_lay_41 : decode cX5_lay 41 = .ok (.iload_n 3, 1) := by decide +kernel
theorem dX5_lay_42 : decode cX5_lay 42 = .ok (.iconst 4, 1) := by decide +kernel
theorem dX5_lay_43 : decode cX5_lay 43 = .ok (.if_icmp .ge 6, 3) := by decide +kernel
theorem dX5_lay_46 : decode cX5_lay 46 = .ok (.bipush (-2), 2) := by decide +kernel
theorem dX5_lay_48 : decode cX5_lay 48 = .ok (.ireturn, 1) := by decide +kernel
theorem dX5_lay_49 : decode cX5_lay 49 = .ok (.aload_n 0, 1) := by decide +kernel
theorem dX5_lay_50 : decode cX5_lay 50 = .ok (.iconst 0, 1) := by decide +kernel
theorem dX5_lay_51 : decode cX5_lay 51 = .ok (.putfield 88, 3) := by decide +kernel
theorem dX5_lay_54 : decode cX5_lay 54 = .ok (.iload_n 3, 1) := by decide +kernel
theorem dX5_lay_55 : decode cX5_lay 55 = .ok (.iconst 4, 1) := by decide +kernel
theorem dX5_lay_56 : decode cX5_lay 56 = .ok (.if_icmp .ne 7, 3) := by decide +kernel
theorem dX5_lay_59 : decode cX5_lay 59 = .ok (.iconst 0, 1) := by decide +kernel
theorem dX5_lay_60 : decode cX5_lay 60 = .ok (.goto 16, 3) := by decide +kernel
theorem dX5_lay_63 : decode cX5_lay 63 = .ok (.iload 4, 2) := by decide +kernel
theorem dX5_lay_65 : decode cX5_lay 65 = .ok (.aload_n 0, 1) := by decide +kernel
theorem dX5_lay_66 : decode cX5_lay 66 = .ok (.getfield 13, 3) := by decide +kernel
theorem dX5_lay_69 : decode cX5_lay 69 = .ok (.iload_n 1, 1) := by decide +kernel
theorem dX5_lay_70 : decode cX5_lay 70 = .ok (.iaload, 1) := by decide +kernel
theorem dX5_lay_71 : decode cX5_lay 71 = .ok (.iload_n 2, 1) := by decide +kernel
theorem dX5_lay_72 : decode cX5_lay 72 = .ok (.isub, 1) := by decide +kernel
theorem dX5_lay_73 : decode cX5_lay 73 = .ok (.invokestatic 91, 3) := by decide +kernel
theorem dX5_lay_76 : decode cX5_lay 76 = .ok (.istore 9, 2) := by decide +kernel
theorem dX5_lay_78 : decode cX5_lay 78 = .ok (.iconst 0, 1) := by decide +kernel
theorem dX5_lay_79 : decode cX5_lay 79 = .ok (.istore 10, 2) := by decide +kernel
theorem dX5_lay_81 : decode cX5_lay 81 = .ok (.iload 10, 2) := by decide +kernel
theorem dX5_lay_83 : decode cX5_lay 83 = .ok (.iload 9, 2) := by decide +kernel
theorem dX5_lay_85 : decode cX5_lay 85 = .ok (.if_icmp .ge 72, 3) := by decide +kernel
theorem dX5_lay_88 : decode cX5_lay 88 = .ok (.lload 5, 2) := by decide +kernel
theorem dX5_lay_90 : decode cX5_lay 90 = .ok (.iload 10, 2) := by decide +kernel
theorem dX5_lay_92 : decode cX5_lay 92 = .ok (.i2l, 1) := by decide +kernel
theorem dX5_lay_93 : decode cX5_lay 93 = .ok (.lload 7, 2) := by decide +kernel
theorem dX5_lay_95 : decode cX5_lay 95 = .ok (.lmul, 1) := by decide +kernel
theorem dX5_lay_96 : decode cX5_lay 96 = .ok (.ladd, 1) := by decide +kernel
theorem dX5_lay_97 : decode cX5_lay 97 = .ok (.lstore 11, 2) := by decide +kernel
theorem dX5_lay_99 : decode cX5_lay 99 = .ok (.aload_n 0, 1) := by decide +kernel
theorem dX5_lay_100 : decode cX5_lay 100 = .ok (.iload_n 1, 1) := by decide +kernel
theorem dX5_lay_101 : decode cX5_lay 101 = .ok (.iload_n 2, 1) := by decide +kernel
theorem dX5_lay_102 : decode cX5_lay 102 = .ok (.iload 10, 2) := by decide +kernel
theorem dX5_lay_104 : decode cX5_lay 104 = .ok (.iadd, 1) := by decide +kernel
theorem dX5_lay_105 : decode cX5_lay 105 = .ok (.iload_n 3, 1) := by decide +kernel
theorem dX5_lay_106 : decode cX5_lay 106 = .ok (.ifCond .ne 12, 3) := by decide +kernel
theorem dX5_lay_109 : decode cX5_lay 109 = .ok (.lload 11, 2) := by decide +kernel
theorem dX5_lay_111 : decode cX5_lay 111 = .ok (.ldc2_w 121, 3) := by decide +kernel
theorem dX5_lay_114 : decode cX5_lay 114 = .ok (.land, 1) := by decide +kernel
theorem dX5_lay_115 : decode cX5_lay 115 = .ok (.goto 33, 3) := by decide +kernel
theorem dX5_lay_118 : decode cX5_lay 118 = .ok (.iload_n 3, 1) := by decide +kernel
theorem dX5_lay_119 : decode cX5_lay 119 = .ok (.iconst 1, 1) := by decide +kernel
theorem dX5_lay_120 : decode cX5_lay 120 = .ok (.if_icmp .ne 12, 3) := by decide +kernel
theorem dX5_lay_123 : decode cX5_lay 123 = .ok (.lload 11, 2) := by decide +kernel
theorem dX5_lay_125 : decode cX5_lay 125 = .ok (.ldc2_w 123, 3) := by decide +kernel
theorem dX5_lay_128 : decode cX5_lay 128 = .ok (.land, 1) := by decide +kernel
theorem dX5_lay_129 : decode cX5_lay 129 = .ok (.goto 19, 3) := by decide +kernel
theorem dX5_lay_132 : decode cX5_lay 132 = .ok (.iload_n 3, 1) := by decide +kernel
theorem dX5_lay_133 : decode cX5_lay 133 = .ok (.iconst 2, 1) := by decide +kernel
theorem dX5_lay_134 : decode cX5_lay 134 = .ok (.if_icmp .ne 12, 3) := by decide +kernel
theorem dX5_lay_137 : decode cX5_lay 137 = .ok (.lload 11, 2) := by decide +kernel
theorem dX5_lay_139 : decode cX5_lay 139 = .ok (.ldc2_w 125, 3) := by decide +kernel
theorem dX5_lay_142 : decode cX5_lay 142 = .ok (.land, 1) := by decide +kernel
theorem dX5_lay_143 : decode cX5_lay 143 = .ok (.goto 5, 3) := by decide +kernel
theorem dX5_lay_146 : decode cX5_lay 146 = .ok (.lload 11, 2) := by decide +kernel
theorem dX5_lay_148 : decode cX5_lay 148 = .ok (.invokevirtual 112, 3) := by decide +kernel
theorem dX5_lay_151 : decode cX5_lay 151 = .ok (.iinc 10 1, 3) := by decide +kernel
theorem dX5_lay_154 : decode cX5_lay 154 = .ok (.goto (-73), 3) := by decide +kernel
theorem dX5_lay_157 : decode cX5_lay 157 = .ok (.iload 9, 2) := by decide +kernel
theorem dX5_lay_159 : decode cX5_lay 159 = .ok (.ireturn, 1) := by decide +kernel
set_option maxRecDepth 20000 in
theorem ggX5_at_X5_isPoint : GoodIn wsX5_at wsX5_isPoint := goodIn_r _ [6, 7, 8, 9, 10, 11, 5, 12, 13, 14, 15, 16, 22, 23, 24, 25, 26, 27, 28, 29, 30, 31, 32, 33, 34, 35, 36, 37, 38, 39, 40, 41, 42, 43, 44, 45] (by decide +kernel) (by decide +kernel)
set_option maxRecDepth 20000 in
theorem gX5_at_X5_isPoint : GoodIn wsX5_at (wsV RX5 97 RX5 yX5_isPoint wsX5_isPoint) := goodIn_app (goodIn_of _ (by decide +kernel)) ggX5_at_X5_isPoint
set_option maxRecDepth 20000 in
theorem ggX5_at_X5_has : GoodIn wsX5_at wsX5_has := goodIn_r _ [20, 21, 22, 23, 24, 25, 26, 27, 28, 29, 30, 31, 32, 33, 34, 35, 36, 37, 38, 39, 40, 41, 42, 43, 44, 45] (by decide +kernel) (by decide +kernel)
set_option maxRecDepth 20000 in
theorem gX5_at_X5_has : GoodIn wsX5_at (wsV RX5 109 RX5 yX5_has wsX5_has) := goodIn_app (goodIn_of _ (by decide +kernel)) ggX5_at_X5_has
theorem dX5_at_0 : decode cX5_at 0 = .ok (.aload_n 0, 1) := by decide +kernel
theorem dX5_at_1 : decode cX5_at 1 = .ok (.iconst 0, 1) := by decide +kernel
theorem dX5_at_2 : decode cX5_at 2 = .ok (.putfield 64, 3) := by decide +kernel
theorem dX5_at_5 : decode cX5_at 5 = .ok (.aload_n 0, 1) := by decide +kernel
theorem dX5_at_6 : decode cX5_at 6 = .ok (.iload_n 1, 1) := by decide +kernel
theorem dX5_at_7 : decode cX5_at 7 = .ok (.iload_n 2, 1) := by decide +kernel
theorem dX5_at_8 : decode cX5_at 8 = .ok (.iload_n 3, 1) := by decide +kernel
theorem dX5_at_9 : decode cX5_at 9 = .ok (.invokevirtual 97, 3) := by decide +kernel
theorem dX5_at_12 : decode cX5_at 12 = .ok (.ifCond .ne 7, 3) := by decide +kernel
theorem dX5_at_15 : decode cX5_at 15 = .ok (.iconst (-1), 1) := by decide +kernel
theorem dX5_at_16 : decode cX5_at 16 = .ok (.goto 18, 3) := by decide +kernel
theorem dX5_at_19 : decode cX5_at 19 = .ok (.aload_n 0, 1) := by decide +kernel
theorem dX5_at_20 : decode cX5_at 20 = .ok (.iload_n 1, 1) := by decide +kernel
theorem dX5_at_21 : decode cX5_at 21 = .ok (.iload_n 2, 1) := by decide +kernel
theorem dX5_at_22 : decode cX5_at 22 = .ok (.iload_n 3, 1) := by decide +kernel
theorem dX5_at_23 : decode cX5_at 23 = .ok (.invokevirtual 109, 3) := by decide +kernel
theorem dX5_at_26 : decode cX5_at 26 = .ok (.ifCond .eq 7, 3) := by decide +kernel
theorem dX5_at_29 : decode cX5_at 29 = .ok (.iconst 1, 1) := by decide +kernel
theorem dX5_at_30 : decode cX5_at 30 = .ok (.goto 4, 3) := by decide +kernel
theorem dX5_at_33 : decode cX5_at 33 = .ok (.iconst 0, 1) := by decide +kernel
theorem dX5_at_34 : decode cX5_at 34 = .ok (.ireturn, 1) := by decide +kernel
set_option maxRecDepth 20000 in
theorem ggX5_row_X5_isPoint : GoodIn wsX5_row wsX5_isPoint := goodIn_r _ [7, 2, 8, 9, 10, 11, 6, 12, 13, 14, 15, 16, 26, 27, 28, 29, 30, 31, 32, 33, 34, 35, 36, 37, 38, 39, 40, 41, 42, 43, 44, 45, 46, 47, 48, 49] (by decide +kernel) (by decide +kernel)
set_option maxRecDepth 20000 in
theorem gX5_row_X5_isPoint : GoodIn wsX5_row (wsV RX5 97 RX5 yX5_isPoint wsX5_isPoint) := goodIn_app (goodIn_of _ (by decide +kernel)) ggX5_row_X5_isPoint
set_option maxRecDepth 20000 in
theorem ggX5_row_X5_refuse : GoodIn wsX5_row wsX5_refuse := goodIn_r _ [20, 1, 26, 27, 28, 29, 30, 31, 32, 33, 34, 35, 36, 37, 38, 39, 40, 41, 42, 43, 44, 45, 46, 47, 48, 49] (by decide +kernel) (by decide +kernel)
set_option maxRecDepth 20000 in
theorem gX5_row_X5_refuse : GoodIn wsX5_row (wsV RX5 127 RX5 yX5_refuse wsX5_refuse) := goodIn_app (goodIn_of _ (by decide +kernel)) ggX5_row_X5_refuse
set_option maxRecDepth 20000 in
theorem ggX5_row_X5_has : GoodIn wsX5_row wsX5_has := goodIn_r _ [24, 25, 26, 27, 28, 29, 30, 31, 32, 33, 34, 35, 36, 37, 38, 39, 40, 41, 42, 43, 44, 45, 46, 47, 48, 49] (by decide +kernel) (by decide +kernel)
set_option maxRecDepth 20000 in
theorem gX5_row_X5_has : GoodIn wsX5_row (wsV RX5 109 RX5 yX5_has wsX5_has) := goodIn_app (goodIn_of _ (by decide +kernel)) ggX5_row_X5_has
theorem dX5_row_0 : decode cX5_row 0 = .ok (.aload_n 0, 1) := by decide +kernel
theorem dX5_row_1 : decode cX5_row 1 = .ok (.iconst 0, 1) := by decide +kernel
theorem dX5_row_2 : decode cX5_row 2 = .ok (.putfield 64, 3) := by decide +kernel
theorem dX5_row_5 : decode cX5_row 5 = .ok (.aload_n 0, 1) := by decide +kernel
theorem dX5_row_6 : decode cX5_row 6 = .ok (.iload_n 1, 1) := by decide +kernel
theorem dX5_row_7 : decode cX5_row 7 = .ok (.iconst 0, 1) := by decide +kernel
theorem dX5_row_8 : decode cX5_row 8 = .ok (.iload_n 2, 1) := by decide +kernel
theorem dX5_row_9 : decode cX5_row 9 = .ok (.invokevirtual 97, 3) := by decide +kernel
theorem dX5_row_12 : decode cX5_row 12 = .ok (.ifCond .ne 9, 3) := by decide +kernel
theorem dX5_row_15 : decode cX5_row 15 = .ok (.aload_n 0, 1) := by decide +kernel
theorem dX5_row_16 : decode cX5_row 16 = .ok (.invokevirtual 127, 3) := by decide +kernel
theorem dX5_row_19 : decode cX5_row 19 = .ok (.i2l, 1) := by decide +kernel
theorem dX5_row_20 : decode cX5_row 20 = .ok (.lreturn, 1) := by decide +kernel
theorem dX5_row_21 : decode cX5_row 21 = .ok (.lconst 0, 1) := by decide +kernel
theorem dX5_row_22 : decode cX5_row 22 = .ok (.lstore_n 3, 1) := by decide +kernel
theorem dX5_row_23 : decode cX5_row 23 = .ok (.iconst 0, 1) := by decide +kernel
theorem dX5_row_24 : decode cX5_row 24 = .ok (.istore 5, 2) := by decide +kernel
theorem dX5_row_26 : decode cX5_row 26 = .ok (.iload 5, 2) := by decide +kernel
theorem dX5_row_28 : decode cX5_row 28 = .ok (.aload_n 0, 1) := by decide +kernel
theorem dX5_row_29 : decode cX5_row 29 = .ok (.getfield 9, 3) := by decide +kernel
theorem dX5_row_32 : decode cX5_row 32 = .ok (.iload_n 1, 1) := by decide +kernel
theorem dX5_row_33 : decode cX5_row 33 = .ok (.iaload, 1) := by decide +kernel
theorem dX5_row_34 : decode cX5_row 34 = .ok (.if_icmp .ge 31, 3) := by decide +kernel
theorem dX5_row_37 : decode cX5_row 37 = .ok (.lload_n 3, 1) := by decide +kernel
theorem dX5_row_38 : decode cX5_row 38 = .ok (.aload_n 0, 1) := by decide +kernel
theorem dX5_row_39 : decode cX5_row 39 = .ok (.iload_n 1, 1) := by decide +kernel
theorem dX5_row_40 : decode cX5_row 40 = .ok (.iload 5, 2) := by decide +kernel
theorem dX5_row_42 : decode cX5_row 42 = .ok (.iload_n 2, 1) := by decide +kernel
theorem dX5_row_43 : decode cX5_row 43 = .ok (.invokevirtual 109, 3) := by decide +kernel
theorem dX5_row_46 : decode cX5_row 46 = .ok (.ifCond .eq 10, 3) := by decide +kernel
theorem dX5_row_49 : decode cX5_row 49 = .ok (.lconst 1, 1) := by decide +kernel
theorem dX5_row_50 : decode cX5_row 50 = .ok (.iload 5, 2) := by decide +kernel
theorem dX5_row_52 : decode cX5_row 52 = .ok (.lshl, 1) := by decide +kernel
theorem dX5_row_53 : decode cX5_row 53 = .ok (.goto 4, 3) := by decide +kernel
theorem dX5_row_56 : decode cX5_row 56 = .ok (.lconst 0, 1) := by decide +kernel
theorem dX5_row_57 : decode cX5_row 57 = .ok (.lor, 1) := by decide +kernel
theorem dX5_row_58 : decode cX5_row 58 = .ok (.lstore_n 3, 1) := by decide +kernel
theorem dX5_row_59 : decode cX5_row 59 = .ok (.iinc 5 1, 3) := by decide +kernel
theorem dX5_row_62 : decode cX5_row 62 = .ok (.goto (-36), 3) := by decide +kernel
theorem dX5_row_65 : decode cX5_row 65 = .ok (.lload_n 3, 1) := by decide +kernel
theorem dX5_row_66 : decode cX5_row 66 = .ok (.lreturn, 1) := by decide +kernel
set_option maxRecDepth 20000 in
theorem ggX5_findsSpots_X5_has : GoodIn wsX5_findsSpots wsX5_has := goodIn_r _ [10, 11, 29, 30, 31, 32, 33, 34, 35, 36, 37, 38, 39, 40, 41, 42, 43, 44, 45, 46, 47, 48, 49, 50, 51, 52] (by decide +kernel) (by decide +kernel)
set_option maxRecDepth 20000 in
theorem gX5_findsSpots_X5_has : GoodIn wsX5_findsSpots (wsV RX5 109 RX5 yX5_has wsX5_has) := goodIn_app (goodIn_of _ (by decide +kernel)) ggX5_findsSpots_X5_has
set_option maxRecDepth 20000 in
theorem ggX5_findsSpots_X5_spreads : GoodIn wsX5_findsSpots wsX5_spreads := goodIn_r _ [15, 16, 2, 1, 17, 18, 19, 9, 20, 4, 3, 21, 22, 23, 24, 25, 26, 27, 28, 6, 7, 8, 10, 11, 29, 30, 31, 32, 33, 34, 35, 36, 37, 38, 39, 40, 41, 42, 43, 44, 45, 46, 47, 48, 49, 50, 51, 52] (by decide +kernel) (by decide +kernel)
set_option maxRecDepth 20000 in
theorem gX5_findsSpots_X5_spreads : GoodIn wsX5_findsSpots (wsV RX5 134 RX5 yX5_spreads wsX5_spreads) := goodIn_app (goodIn_of _ (by decide +kernel)) ggX5_findsSpots_X5_spreads
theorem dX5_findsSpots_0 : decode cX5_findsSpots 0 = .ok (.aload_n 0, 1) := by decide +kernel
theorem dX5_findsSpots_1 : decode cX5_findsSpots 1 = .ok (.iconst 0, 1) := by decide +kernel
theorem dX5_findsSpots_2 : decode cX5_findsSpots 2 = .ok (.putfield 131, 3) := by decide +kernel
theorem dX5_findsSpots_5 : decode cX5_findsSpots 5 = .ok (.iconst 0, 1) := by decide +kernel
theorem dX5_findsSpots_6 : decode cX5_findsSpots 6 = .ok (.istore_n 2, 1) := by decide +kernel
theorem dX5_findsSpots_7 : decode cX5_findsSpots 7 = .ok (.iload_n 2, 1) := by decide +kernel
theorem dX5_findsSpots_8 : decode cX5_findsSpots 8 = .ok (.sipush 4096, 3) := by decide +kernel
theorem dX5_findsSpots_11 : decode cX5_findsSpots 11 = .ok (.if_icmp .ge 16, 3) := by decide +kernel
theorem dX5_findsSpots_14 : decode cX5_findsSpots 14 = .ok (.aload_n 0, 1) := by decide +kernel
theorem dX5_findsSpots_15 : decode cX5_findsSpots 15 = .ok (.getfield 40, 3) := by decide +kernel
theorem dX5_findsSpots_18 : decode cX5_findsSpots 18 = .ok (.iload_n 2, 1) := by decide +kernel
theorem dX5_findsSpots_19 : decode cX5_findsSpots 19 = .ok (.iconst 0, 1) := by decide +kernel
theorem dX5_findsSpots_20 : decode cX5_findsSpots 20 = .ok (.iastore, 1) := by decide +kernel
theorem dX5_findsSpots_21 : decode cX5_findsSpots 21 = .ok (.iinc 2 1, 3) := by decide +kernel
theorem dX5_findsSpots_24 : decode cX5_findsSpots 24 = .ok (.goto (-17), 3) := by decide +kernel
theorem dX5_findsSpots_27 : decode cX5_findsSpots 27 = .ok (.iconst 0, 1) := by decide +kernel
theorem dX5_findsSpots_28 : decode cX5_findsSpots 28 = .ok (.istore_n 2, 1) := by decide +kernel
theorem dX5_findsSpots_29 : decode cX5_findsSpots 29 = .ok (.iload_n 2, 1) := by decide +kernel
theorem dX5_findsSpots_30 : decode cX5_findsSpots 30 = .ok (.aload_n 0, 1) := by decide +kernel
theorem dX5_findsSpots_31 : decode cX5_findsSpots 31 = .ok (.getfield 13, 3) := by decide +kernel
theorem dX5_findsSpots_34 : decode cX5_findsSpots 34 = .ok (.iload_n 1, 1) := by decide +kernel
theorem dX5_findsSpots_35 : decode cX5_findsSpots 35 = .ok (.iaload, 1) := by decide +kernel
theorem dX5_findsSpots_36 : decode cX5_findsSpots 36 = .ok (.if_icmp .ge 77, 3) := by decide +kernel
theorem dX5_findsSpots_39 : decode cX5_findsSpots 39 = .ok (.iconst 0, 1) := by decide +kernel
theorem dX5_findsSpots_40 : decode cX5_findsSpots 40 = .ok (.istore_n 3, 1) := by decide +kernel
theorem dX5_findsSpots_41 : decode cX5_findsSpots 41 = .ok (.iload_n 3, 1) := by decide +kernel
theorem dX5_findsSpots_42 : decode cX5_findsSpots 42 = .ok (.aload_n 0, 1) := by decide +kernel
theorem dX5_findsSpots_43 : decode cX5_findsSpots 43 = .ok (.getfield 9, 3) := by decide +kernel
theorem dX5_findsSpots_46 : decode cX5_findsSpots 46 = .ok (.iload_n 1, 1) := by decide +kernel
theorem dX5_findsSpots_47 : decode cX5_findsSpots 47 = .ok (.iaload, 1) := by decide +kernel
theorem dX5_findsSpots_48 : decode cX5_findsSpots 48 = .ok (.if_icmp .ge 59, 3) := by decide +kernel
theorem dX5_findsSpots_51 : decode cX5_findsSpots 51 = .ok (.aload_n 0, 1) := by decide +kernel
theorem dX5_findsSpots_52 : decode cX5_findsSpots 52 = .ok (.iload_n 1, 1) := by decide +kernel
theorem dX5_findsSpots_53 : decode cX5_findsSpots 53 = .ok (.iload_n 3, 1) := by decide +kernel
theorem dX5_findsSpots_54 : decode cX5_findsSpots 54 = .ok (.iload_n 2, 1) := by decide +kernel
theorem dX5_findsSpots_55 : decode cX5_findsSpots 55 = .ok (.invokevirtual 109, 3) := by decide +kernel
theorem dX5_findsSpots_58 : decode cX5_findsSpots 58 = .ok (.ifCond .eq 43, 3) := by decide +kernel
theorem dX5_findsSpots_61 : decode cX5_findsSpots 61 = .ok (.aload_n 0, 1) := by decide +kernel
theorem dX5_findsSpots_62 : decode cX5_findsSpots 62 = .ok (.getfield 40, 3) := by decide +kernel
theorem dX5_findsSpots_65 : decode cX5_findsSpots 65 = .ok (.iload_n 2, 1) := by decide +kernel
theorem dX5_findsSpots_66 : decode cX5_findsSpots 66 = .ok (.bipush 64, 2) := by decide +kernel
theorem dX5_findsSpots_68 : decode cX5_findsSpots 68 = .ok (.imul, 1) := by decide +kernel
theorem dX5_findsSpots_69 : decode cX5_findsSpots 69 = .ok (.iload_n 3, 1) := by decide +kernel
theorem dX5_findsSpots_70 : decode cX5_findsSpots 70 = .ok (.iadd, 1) := by decide +kernel
theorem dX5_findsSpots_71 : decode cX5_findsSpots 71 = .ok (.iaload, 1) := by decide +kernel
theorem dX5_findsSpots_72 : decode cX5_findsSpots 72 = .ok (.ifCond .ne 29, 3) := by decide +kernel
theorem dX5_findsSpots_75 : decode cX5_findsSpots 75 = .ok (.aload_n 0, 1) := by decide +kernel
theorem dX5_findsSpots_76 : decode cX5_findsSpots 76 = .ok (.dup, 1) := by decide +kernel
theorem dX5_findsSpots_77 : decode cX5_findsSpots 77 = .ok (.getfield 131, 3) := by decide +kernel
theorem dX5_findsSpots_80 : decode cX5_findsSpots 80 = .ok (.iconst 1, 1) := by decide +kernel
theorem dX5_findsSpots_81 : decode cX5_findsSpots 81 = .ok (.iadd, 1) := by decide +kernel
theorem dX5_findsSpots_82 : decode cX5_findsSpots 82 = .ok (.putfield 131, 3) := by decide +kernel
theorem dX5_findsSpots_85 : decode cX5_findsSpots 85 = .ok (.aload_n 0, 1) := by decide +kernel
theorem dX5_findsSpots_86 : decode cX5_findsSpots 86 = .ok (.getfield 43, 3) := by decide +kernel
theorem dX5_findsSpots_89 : decode cX5_findsSpots 89 = .ok (.aload_n 0, 1) := by decide +kernel
theorem dX5_findsSpots_90 : decode cX5_findsSpots 90 = .ok (.getfield 131, 3) := by decide +kernel
theorem dX5_findsSpots_93 : decode cX5_findsSpots 93 = .ok (.aload_n 0, 1) := by decide +kernel
theorem dX5_findsSpots_94 : decode cX5_findsSpots 94 = .ok (.iload_n 1, 1) := by decide +kernel
theorem dX5_findsSpots_95 : decode cX5_findsSpots 95 = .ok (.iload_n 3, 1) := by decide +kernel
theorem dX5_findsSpots_96 : decode cX5_findsSpots 96 = .ok (.iload_n 2, 1) := by decide +kernel
theorem dX5_findsSpots_97 : decode cX5_findsSpots 97 = .ok (.invokevirtual 134, 3) := by decide +kernel
theorem dX5_findsSpots_100 : decode cX5_findsSpots 100 = .ok (.iastore, 1) := by decide +kernel
theorem dX5_findsSpots_101 : decode cX5_findsSpots 101 = .ok (.iinc 3 1, 3) := by decide +kernel
theorem dX5_findsSpots_104 : decode cX5_findsSpots 104 = .ok (.goto (-63), 3) := by decide +kernel
theorem dX5_findsSpots_107 : decode cX5_findsSpots 107 = .ok (.iinc 2 1, 3) := by decide +kernel
theorem dX5_findsSpots_110 : decode cX5_findsSpots 110 = .ok (.goto (-81), 3) := by decide +kernel
theorem dX5_findsSpots_113 : decode cX5_findsSpots 113 = .ok (.return_, 1) := by decide +kernel
set_option maxRecDepth 20000 in
theorem ggX5_spreads_X5_isPoint : GoodIn wsX5_spreads wsX5_isPoint := goodIn_r _ [8, 9, 10, 11, 12, 13, 7, 14, 15, 16, 17, 18, 24, 25, 26, 27, 28, 29, 30, 31, 32, 33, 34, 35, 36, 37, 38, 39, 40, 41, 42, 43, 44, 45, 46, 47] (by decide +kernel) (by decide +kernel)
set_option maxRecDepth 20000 in
theorem gX5_spreads_X5_isPoint : GoodIn wsX5_spreads (wsV RX5 97 RX5 yX5_isPoint wsX5_isPoint) := goodIn_app (goodIn_of _ (by decide +kernel)) ggX5_spreads_X5_isPoint
set_option maxRecDepth 20000 in
theorem ggX5_spreads_X5_has : GoodIn wsX5_spreads wsX5_has := goodIn_r _ [22, 23, 24, 25, 26, 27, 28, 29, 30, 31, 32, 33, 34, 35, 36, 37, 38, 39, 40, 41, 42, 43, 44, 45, 46, 47] (by decide +kernel) (by decide +kernel)
set_option maxRecDepth 20000 in
theorem gX5_spreads_X5_has : GoodIn wsX5_spreads (wsV RX5 109 RX5 yX5_has wsX5_has) := goodIn_app (goodIn_of _ (by decide +kernel)) ggX5_spreads_X5_has
theorem dX5_spreads_0 : decode cX5_spreads 0 = .ok (.aload_n 0, 1) := by decide +kernel
theorem dX5_spreads_1 : decode cX5_spreads 1 = .ok (.getfield 46, 3) := by decide +kernel
theorem dX5_spreads_4 : decode cX5_spreads 4 = .ok (.iconst 0, 1) := by decide +kernel
theorem dX5_spreads_5 : decode cX5_spreads 5 = .ok (.iload_n 3, 1) := by decide +kernel
theorem dX5_spreads_6 : decode cX5_spreads 6 = .ok (.bipush 64, 2) := by decide +kernel
theorem dX5_spreads_8 : decode cX5_spreads 8 = .ok (.imul, 1) := by decide +kernel
theorem dX5_spreads_9 : decode cX5_spreads 9 = .ok (.iload_n 2, 1) := by decide +kernel
theorem dX5_spreads_10 : decode cX5_spreads 10 = .ok (.iadd, 1) := by decide +kernel
theorem dX5_spreads_11 : decode cX5_spreads 11 = .ok (.iastore, 1) := by decide +kernel
theorem dX5_spreads_12 : decode cX5_spreads 12 = .ok (.aload_n 0, 1) := by decide +kernel
theorem dX5_spreads_13 : decode cX5_spreads 13 = .ok (.getfield 40, 3) := by decide +kernel
theorem dX5_spreads_16 : decode cX5_spreads 16 = .ok (.aload_n 0, 1) := by decide +kernel
theorem dX5_spreads_17 : decode cX5_spreads 17 = .ok (.getfield 46, 3) := by decide +kernel
theorem dX5_spreads_20 : decode cX5_spreads 20 = .ok (.iconst 0, 1) := by decide +kernel
theorem dX5_spreads_21 : decode cX5_spreads 21 = .ok (.iaload, 1) := by decide +kernel
theorem dX5_spreads_22 : decode cX5_spreads 22 = .ok (.aload_n 0, 1) := by decide +kernel
theorem dX5_spreads_23 : decode cX5_spreads 23 = .ok (.getfield 131, 3) := by decide +kernel
theorem dX5_spreads_26 : decode cX5_spreads 26 = .ok (.iastore, 1) := by decide +kernel
theorem dX5_spreads_27 : decode cX5_spreads 27 = .ok (.iconst 1, 1) := by decide +kernel
theorem dX5_spreads_28 : decode cX5_spreads 28 = .ok (.istore 4, 2) := by decide +kernel
theorem dX5_spreads_30 : decode cX5_spreads 30 = .ok (.iconst 0, 1) := by decide +kernel
theorem dX5_spreads_31 : decode cX5_spreads 31 = .ok (.istore 5, 2) := by decide +kernel
theorem dX5_spreads_33 : decode cX5_spreads 33 = .ok (.iload 5, 2) := by decide +kernel
theorem dX5_spreads_35 : decode cX5_spreads 35 = .ok (.iload 4, 2) := by decide +kernel
theorem dX5_spreads_37 : decode cX5_spreads 37 = .ok (.if_icmp .ge 146, 3) := by decide +kernel
theorem dX5_spreads_40 : decode cX5_spreads 40 = .ok (.aload_n 0, 1) := by decide +kernel
theorem dX5_spreads_41 : decode cX5_spreads 41 = .ok (.getfield 46, 3) := by decide +kernel
theorem dX5_spreads_44 : decode cX5_spreads 44 = .ok (.iload 5, 2) := by decide +kernel
theorem dX5_spreads_46 : decode cX5_spreads 46 = .ok (.iaload, 1) := by decide +kernel
theorem dX5_spreads_47 : decode cX5_spreads 47 = .ok (.bipush 64, 2) := by decide +kernel
theorem dX5_spreads_49 : decode cX5_spreads 49 = .ok (.idiv, 1) := by decide +kernel
theorem dX5_spreads_50 : decode cX5_spreads 50 = .ok (.istore 6, 2) := by decide +kernel
theorem dX5_spreads_52 : decode cX5_spreads 52 = .ok (.aload_n 0, 1) := by decide +kernel
theorem dX5_spreads_53 : decode cX5_spreads 53 = .ok (.getfield 46, 3) := by decide +kernel
theorem dX5_spreads_56 : decode cX5_spreads 56 = .ok (.iload 5, 2) := by decide +kernel
theorem dX5_spreads_58 : decode cX5_spreads 58 = .ok (.iaload, 1) := by decide +kernel
theorem dX5_spreads_59 : decode cX5_spreads 59 = .ok (.bipush 64, 2) := by decide +kernel
theorem dX5_spreads_61 : decode cX5_spreads 61 = .ok (.irem, 1) := by decide +kernel
theorem dX5_spreads_62 : decode cX5_spreads 62 = .ok (.istore 7, 2) := by decide +kernel
theorem dX5_spreads_64 : decode cX5_spreads 64 = .ok (.iconst 0, 1) := by decide +kernel
theorem dX5_spreads_65 : decode cX5_spreads 65 = .ok (.istore 8, 2) := by decide +kernel
theorem dX5_spreads_67 : decode cX5_spreads 67 = .ok (.iload 8, 2) := by decide +kernel
theorem dX5_spreads_69 : decode cX5_spreads 69 = .ok (.bipush 9, 2) := by decide +kernel
theorem dX5_spreads_71 : decode cX5_spreads 71 = .ok (.if_icmp .ge 106, 3) := by decide +kernel
theorem dX5_spreads_74 : decode cX5_spreads 74 = .ok (.iload 7, 2) := by decide +kernel
theorem dX5_spreads_76 : decode cX5_spreads 76 = .ok (.iload 8, 2) := by decide +kernel
theorem dX5_spreads_78 : decode cX5_spreads 78 = .ok (.iconst 3, 1) := by decide +kernel
theorem dX5_spreads_79 : decode cX5_spreads 79 = .ok (.irem, 1) := by decide +kernel
theorem dX5_spreads_80 : decode cX5_spreads 80 = .ok (.iadd, 1) := by decide +kernel
theorem dX5_spreads_81 : decode cX5_spreads 81 = .ok (.iconst 1, 1) := by decide +kernel
theorem dX5_spreads_82 : decode cX5_spreads 82 = .ok (.isub, 1) := by decide +kernel
theorem dX5_spreads_83 : decode cX5_spreads 83 = .ok (.istore 9, 2) := by decide +kernel
theorem dX5_spreads_85 : decode cX5_spreads 85 = .ok (.iload 6, 2) := by decide +kernel
theorem dX5_spreads_87 : decode cX5_spreads 87 = .ok (.iload 8, 2) := by decide +kernel
theorem dX5_spreads_89 : decode cX5_spreads 89 = .ok (.iconst 3, 1) := by decide +kernel
theorem dX5_spreads_90 : decode cX5_spreads 90 = .ok (.idiv, 1) := by decide +kernel
theorem dX5_spreads_91 : decode cX5_spreads 91 = .ok (.iadd, 1) := by decide +kernel
theorem dX5_spreads_92 : decode cX5_spreads 92 = .ok (.iconst 1, 1) := by decide +kernel
theorem dX5_spreads_93 : decode cX5_spreads 93 = .ok (.isub, 1) := by decide +kernel
theorem dX5_spreads_94 : decode cX5_spreads 94 = .ok (.istore 10, 2) := by decide +kernel
theorem dX5_spreads_96 : decode cX5_spreads 96 = .ok (.aload_n 0, 1) := by decide +kernel
theorem dX5_spreads_97 : decode cX5_spreads 97 = .ok (.iload_n 1, 1) := by decide +kernel
theorem dX5_spreads_98 : decode cX5_spreads 98 = .ok (.iload 9, 2) := by decide +kernel
theorem dX5_spreads_100 : decode cX5_spreads 100 = .ok (.iload 10, 2) := by decide +kernel
theorem dX5_spreads_102 : decode cX5_spreads 102 = .ok (.invokevirtual 97, 3) := by decide +kernel
theorem dX5_spreads_105 : decode cX5_spreads 105 = .ok (.ifCond .eq 66, 3) := by decide +kernel
theorem dX5_spreads_108 : decode cX5_spreads 108 = .ok (.aload_n 0, 1) := by decide +kernel
theorem dX5_spreads_109 : decode cX5_spreads 109 = .ok (.iload_n 1, 1) := by decide +kernel
theorem dX5_spreads_110 : decode cX5_spreads 110 = .ok (.iload 9, 2) := by decide +kernel
theorem dX5_spreads_112 : decode cX5_spreads 112 = .ok (.iload 10, 2) := by decide +kernel
theorem dX5_spreads_114 : decode cX5_spreads 114 = .ok (.invokevirtual 109, 3) := by decide +kernel
theorem dX5_spreads_117 : decode cX5_spreads 117 = .ok (.ifCond .eq 54, 3) := by decide +kernel
theorem dX5_spreads_120 : decode cX5_spreads 120 = .ok (.aload_n 0, 1) := by decide +kernel
theorem dX5_spreads_121 : decode cX5_spreads 121 = .ok (.getfield 40, 3) := by decide +kernel
theorem dX5_spreads_124 : decode cX5_spreads 124 = .ok (.iload 10, 2) := by decide +kernel
theorem dX5_spreads_126 : decode cX5_spreads 126 = .ok (.bipush 64, 2) := by decide +kernel
theorem dX5_spreads_128 : decode cX5_spreads 128 = .ok (.imul, 1) := by decide +kernel
theorem dX5_spreads_129 : decode cX5_spreads 129 = .ok (.iload 9, 2) := by decide +kernel
theorem dX5_spreads_131 : decode cX5_spreads 131 = .ok (.iadd, 1) := by decide +kernel
theorem dX5_spreads_132 : decode cX5_spreads 132 = .ok (.iaload, 1) := by decide +kernel
theorem dX5_spreads_133 : decode cX5_spreads 133 = .ok (.ifCond .ne 38, 3) := by decide +kernel
theorem dX5_spreads_136 : decode cX5_spreads 136 = .ok (.aload_n 0, 1) := by decide +kernel
theorem dX5_spreads_137 : decode cX5_spreads 137 = .ok (.getfield 40, 3) := by decide +kernel
theorem dX5_spreads_140 : decode cX5_spreads 140 = .ok (.iload 10, 2) := by decide +kernel
theorem dX5_spreads_142 : decode cX5_spreads 142 = .ok (.bipush 64, 2) := by decide +kernel
theorem dX5_spreads_144 : decode cX5_spreads 144 = .ok (.imul, 1) := by decide +kernel
theorem dX5_spreads_145 : decode cX5_spreads 145 = .ok (.iload 9, 2) := by decide +kernel
theorem dX5_spreads_147 : decode cX5_spreads 147 = .ok (.iadd, 1) := by decide +kernel
theorem dX5_spreads_148 : decode cX5_spreads 148 = .ok (.aload_n 0, 1) := by decide +kernel
theorem dX5_spreads_149 : decode cX5_spreads 149 = .ok (.getfield 131, 3) := by decide +kernel
theorem dX5_spreads_152 : decode cX5_spreads 152 = .ok (.iastore, 1) := by decide +kernel
theorem dX5_spreads_153 : decode cX5_spreads 153 = .ok (.aload_n 0, 1) := by decide +kernel
theorem dX5_spreads_154 : decode cX5_spreads 154 = .ok (.getfield 46, 3) := by decide +kernel
theorem dX5_spreads_157 : decode cX5_spreads 157 = .ok (.iload 4, 2) := by decide +kernel
theorem dX5_spreads_159 : decode cX5_spreads 159 = .ok (.iload 10, 2) := by decide +kernel
theorem dX5_spreads_161 : decode cX5_spreads 161 = .ok (.bipush 64, 2) := by decide +kernel
theorem dX5_spreads_163 : decode cX5_spreads 163 = .ok (.imul, 1) := by decide +kernel
theorem dX5_spreads_164 : decode cX5_spreads 164 = .ok (.iload 9, 2) := by decide +kernel
theorem dX5_spreads_166 : decode cX5_spreads 166 = .ok (.iadd, 1) := by decide +kernel
theorem dX5_spreads_167 : decode cX5_spreads 167 = .ok (.iastore, 1) := by decide +kernel
theorem dX5_spreads_168 : decode cX5_spreads 168 = .ok (.iinc 4 1, 3) := by decide +kernel
theorem dX5_spreads_171 : decode cX5_spreads 171 = .ok (.iinc 8 1, 3) := by decide +kernel
theorem dX5_spreads_174 : decode cX5_spreads 174 = .ok (.goto (-107), 3) := by decide +kernel
theorem dX5_spreads_177 : decode cX5_spreads 177 = .ok (.iinc 5 1, 3) := by decide +kernel
theorem dX5_spreads_180 : decode cX5_spreads 180 = .ok (.goto (-147), 3) := by decide +kernel
theorem dX5_spreads_183 : decode cX5_spreads 183 = .ok (.iload 4, 2) := by decide +kernel
theorem dX5_spreads_185 : decode cX5_spreads 185 = .ok (.ireturn, 1) := by decide +kernel
set_option maxRecDepth 20000 in
theorem ggX5_of_X5_isPage : GoodIn wsX5_of wsX5_isPage := goodIn_r _ [15, 16, 17, 18, 14, 19, 47, 48, 49, 50, 51, 52, 53, 54, 55, 56, 57, 58, 59, 60, 61, 62, 63, 64, 65, 66, 67, 68, 69, 70] (by decide +kernel) (by decide +kernel)
set_option maxRecDepth 20000 in
theorem gX5_of_X5_isPage : GoodIn wsX5_of (wsV RX5 81 RX5 yX5_isPage wsX5_isPage) := goodIn_app (goodIn_of _ (by decide +kernel)) ggX5_of_X5_isPage
set_option maxRecDepth 20000 in
theorem ggX5_of_X5_in : GoodIn wsX5_of wsX5_in := goodIn_r _ [19] (by decide +kernel) (by decide +kernel)
set_option maxRecDepth 20000 in
theorem gX5_of_X5_in : GoodIn wsX5_of (va_wsS RX5 71 yX5_in wsX5_in) := goodIn_app (goodIn_of _ (by decide +kernel)) ggX5_of_X5_in
set_option maxRecDepth 20000 in
theorem ggX5_of_X5_rowInk : GoodIn wsX5_of wsX5_rowInk := goodIn_r _ [23, 4, 24, 25, 26, 14, 27, 28, 47, 48, 49, 50, 51, 52, 53, 54, 55, 56, 57, 58, 59, 60, 61, 62, 63, 64, 65, 66, 67, 68, 69, 70] (by decide +kernel) (by decide +kernel)
set_option maxRecDepth 20000 in
theorem gX5_of_X5_rowInk : GoodIn wsX5_of (wsV RX5 116 RX5 yX5_rowInk wsX5_rowInk) := goodIn_app (goodIn_of _ (by decide +kernel)) ggX5_of_X5_rowInk
set_option maxRecDepth 20000 in
theorem ggX5_of_X5_columnInk : GoodIn wsX5_of wsX5_columnInk := goodIn_r _ [32, 3, 24, 25, 26, 14, 27, 28, 47, 48, 49, 50, 51, 52, 53, 54, 55, 56, 57, 58, 59, 60, 61, 62, 63, 64, 65, 66, 67, 68, 69, 70] (by decide +kernel) (by decide +kernel)
set_option maxRecDepth 20000 in
theorem gX5_of_X5_columnInk : GoodIn wsX5_of (wsV RX5 140 RX5 yX5_columnInk wsX5_columnInk) := goodIn_app (goodIn_of _ (by decide +kernel)) ggX5_of_X5_columnInk
set_option maxRecDepth 20000 in
theorem ggX5_of_X5_findsSpots : GoodIn wsX5_of wsX5_findsSpots := goodIn_r _ [36, 5, 37, 3, 4, 6, 24, 25, 26, 14, 27, 28, 38, 39, 40, 41, 42, 43, 44, 45, 46, 11, 12, 13, 15, 16, 17, 18, 19, 47, 48, 49, 50, 51, 52, 53, 54, 55, 56, 57, 58, 59, 60, 61, 62, 63, 64, 65, 66, 67, 68, 69, 70] (by decide +kernel) (by decide +kernel)
set_option maxRecDepth 20000 in
theorem gX5_of_X5_findsSpots : GoodIn wsX5_of (wsV RX5 143 RX5 yX5_findsSpots wsX5_findsSpots) := goodIn_app (goodIn_of _ (by decide +kernel)) ggX5_of_X5_findsSpots
theorem dX5_of_0 : decode cX5_of 0 = .ok (.aload_n 0, 1) := by decide +kernel
theorem dX5_of_1 : decode cX5_of 1 = .ok (.iconst 0, 1) := by decide +kernel
theorem dX5_of_2 : decode cX5_of 2 = .ok (.putfield 64, 3) := by decide +kernel
theorem dX5_of_5 : decode cX5_of 5 = .ok (.aload_n 0, 1) := by decide +kernel
theorem dX5_of_6 : decode cX5_of 6 = .ok (.iload_n 1, 1) := by decide +kernel
theorem dX5_of_7 : decode cX5_of 7 = .ok (.invokevirtual 81, 3) := by decide +kernel
theorem dX5_of_10 : decode cX5_of 10 = .ok (.ifCond .eq 15, 3) := by decide +kernel
theorem dX5_of_13 : decode cX5_of 13 = .ok (.iload_n 2, 1) := by decide +kernel
theorem dX5_of_14 : decode cX5_of 14 = .ok (.i2l, 1) := by decide +kernel
theorem dX5_of_15 : decode cX5_of 15 = .ok (.lconst 0, 1) := by decide +kernel
theorem dX5_of_16 : decode cX5_of 16 = .ok (.ldc2_w 138, 3) := by decide +kernel
theorem dX5_of_19 : decode cX5_of 19 = .ok (.invokestatic 71, 3) := by decide +kernel
theorem dX5_of_22 : decode cX5_of 22 = .ok (.ifCond .ne 5, 3) := by decide +kernel
theorem dX5_of_25 : decode cX5_of 25 = .ok (.iconst (-1), 1) := by decide +kernel
theorem dX5_of_26 : decode cX5_of 26 = .ok (.ireturn, 1) := by decide +kernel
theorem dX5_of_27 : decode cX5_of 27 = .ok (.iconst 0, 1) := by decide +kernel
theorem dX5_of_28 : decode cX5_of 28 = .ok (.istore_n 3, 1) := by decide +kernel
theorem dX5_of_29 : decode cX5_of 29 = .ok (.iconst 0, 1) := by decide +kernel
theorem dX5_of_30 : decode cX5_of 30 = .ok (.istore 4, 2) := by decide +kernel
theorem dX5_of_32 : decode cX5_of 32 = .ok (.iconst 0, 1) := by decide +kernel
theorem dX5_of_33 : decode cX5_of 33 = .ok (.istore 5, 2) := by decide +kernel
theorem dX5_of_35 : decode cX5_of 35 = .ok (.iconst 0, 1) := by decide +kernel
theorem dX5_of_36 : decode cX5_of 36 = .ok (.istore 6, 2) := by decide +kernel
theorem dX5_of_38 : decode cX5_of 38 = .ok (.iload 6, 2) := by decide +kernel
theorem dX5_of_40 : decode cX5_of 40 = .ok (.aload_n 0, 1) := by decide +kernel
theorem dX5_of_41 : decode cX5_of 41 = .ok (.getfield 13, 3) := by decide +kernel
theorem dX5_of_44 : decode cX5_of 44 = .ok (.iload_n 1, 1) := by decide +kernel
theorem dX5_of_45 : decode cX5_of 45 = .ok (.iaload, 1) := by decide +kernel
theorem dX5_of_46 : decode cX5_of 46 = .ok (.if_icmp .ge 39, 3) := by decide +kernel
theorem dX5_of_49 : decode cX5_of 49 = .ok (.iload_n 3, 1) := by decide +kernel
theorem dX5_of_50 : decode cX5_of 50 = .ok (.aload_n 0, 1) := by decide +kernel
theorem dX5_of_51 : decode cX5_of 51 = .ok (.iload_n 1, 1) := by decide +kernel
theorem dX5_of_52 : decode cX5_of 52 = .ok (.iload 6, 2) := by decide +kernel
theorem dX5_of_54 : decode cX5_of 54 = .ok (.invokevirtual 116, 3) := by decide +kernel
theorem dX5_of_57 : decode cX5_of 57 = .ok (.iadd, 1) := by decide +kernel
theorem dX5_of_58 : decode cX5_of 58 = .ok (.istore_n 3, 1) := by decide +kernel
theorem dX5_of_59 : decode cX5_of 59 = .ok (.iload 4, 2) := by decide +kernel
theorem dX5_of_61 : decode cX5_of 61 = .ok (.aload_n 0, 1) := by decide +kernel
theorem dX5_of_62 : decode cX5_of 62 = .ok (.iload_n 1, 1) := by decide +kernel
theorem dX5_of_63 : decode cX5_of 63 = .ok (.iload 6, 2) := by decide +kernel
theorem dX5_of_65 : decode cX5_of 65 = .ok (.invokevirtual 116, 3) := by decide +kernel
theorem dX5_of_68 : decode cX5_of 68 = .ok (.ifCond .le 7, 3) := by decide +kernel
theorem dX5_of_71 : decode cX5_of 71 = .ok (.iconst 1, 1) := by decide +kernel
theorem dX5_of_72 : decode cX5_of 72 = .ok (.goto 4, 3) := by decide +kernel
theorem dX5_of_75 : decode cX5_of 75 = .ok (.iconst 0, 1) := by decide +kernel
theorem dX5_of_76 : decode cX5_of 76 = .ok (.iadd, 1) := by decide +kernel
theorem dX5_of_77 : decode cX5_of 77 = .ok (.istore 4, 2) := by decide +kernel
theorem dX5_of_79 : decode cX5_of 79 = .ok (.iinc 6 1, 3) := by decide +kernel
theorem dX5_of_82 : decode cX5_of 82 = .ok (.goto (-44), 3) := by decide +kernel
theorem dX5_of_85 : decode cX5_of 85 = .ok (.iconst 0, 1) := by decide +kernel
theorem dX5_of_86 : decode cX5_of 86 = .ok (.istore 6, 2) := by decide +kernel
theorem dX5_of_88 : decode cX5_of 88 = .ok (.iload 6, 2) := by decide +kernel
theorem dX5_of_90 : decode cX5_of 90 = .ok (.aload_n 0, 1) := by decide +kernel
theorem dX5_of_91 : decode cX5_of 91 = .ok (.getfield 9, 3) := by decide +kernel
theorem dX5_of_94 : decode cX5_of 94 = .ok (.iload_n 1, 1) := by decide +kernel
theorem dX5_of_95 : decode cX5_of 95 = .ok (.iaload, 1) := by decide +kernel
theorem dX5_of_96 : decode cX5_of 96 = .ok (.if_icmp .ge 29, 3) := by decide +kernel
theorem dX5_of_99 : decode cX5_of 99 = .ok (.iload 5, 2) := by decide +kernel
theorem dX5_of_101 : decode cX5_of 101 = .ok (.aload_n 0, 1) := by decide +kernel
theorem dX5_of_102 : decode cX5_of 102 = .ok (.iload_n 1, 1) := by decide +kernel
theorem dX5_of_103 : decode cX5_of 103 = .ok (.iload 6, 2) := by decide +kernel
theorem dX5_of_105 : decode cX5_of 105 = .ok (.invokevirtual 140, 3) := by decide +kernel
theorem dX5_of_108 : decode cX5_of 108 = .ok (.ifCond .le 7, 3) := by decide +kernel
theorem dX5_of_111 : decode cX5_of 111 = .ok (.iconst 1, 1) := by decide +kernel
theorem dX5_of_112 : decode cX5_of 112 = .ok (.goto 4, 3) := by decide +kernel
theorem dX5_of_115 : decode cX5_of 115 = .ok (.iconst 0, 1) := by decide +kernel
theorem dX5_of_116 : decode cX5_of 116 = .ok (.iadd, 1) := by decide +kernel
theorem dX5_of_117 : decode cX5_of 117 = .ok (.istore 5, 2) := by decide +kernel
theorem dX5_of_119 : decode cX5_of 119 = .ok (.iinc 6 1, 3) := by decide +kernel
theorem dX5_of_122 : decode cX5_of 122 = .ok (.goto (-34), 3) := by decide +kernel
theorem dX5_of_125 : decode cX5_of 125 = .ok (.aload_n 0, 1) := by decide +kernel
theorem dX5_of_126 : decode cX5_of 126 = .ok (.iload_n 1, 1) := by decide +kernel
theorem dX5_of_127 : decode cX5_of 127 = .ok (.invokevirtual 143, 3) := by decide +kernel
theorem dX5_of_130 : decode cX5_of 130 = .ok (.iconst 0, 1) := by decide +kernel
theorem dX5_of_131 : decode cX5_of 131 = .ok (.istore 6, 2) := by decide +kernel
theorem dX5_of_133 : decode cX5_of 133 = .ok (.iconst 1, 1) := by decide +kernel
theorem dX5_of_134 : decode cX5_of 134 = .ok (.istore 7, 2) := by decide +kernel
theorem dX5_of_136 : decode cX5_of 136 = .ok (.iload 7, 2) := by decide +kernel
theorem dX5_of_138 : decode cX5_of 138 = .ok (.aload_n 0, 1) := by decide +kernel
theorem dX5_of_139 : decode cX5_of 139 = .ok (.getfield 131, 3) := by decide +kernel
theorem dX5_of_142 : decode cX5_of 142 = .ok (.if_icmp .gt 23, 3) := by decide +kernel
theorem dX5_of_145 : decode cX5_of 145 = .ok (.iload 6, 2) := by decide +kernel
theorem dX5_of_147 : decode cX5_of 147 = .ok (.aload_n 0, 1) := by decide +kernel
theorem dX5_of_148 : decode cX5_of 148 = .ok (.getfield 43, 3) := by decide +kernel
theorem dX5_of_151 : decode cX5_of 151 = .ok (.iload 7, 2) := by decide +kernel
theorem dX5_of_153 : decode cX5_of 153 = .ok (.iaload, 1) := by decide +kernel
theorem dX5_of_154 : decode cX5_of 154 = .ok (.invokestatic 146, 3) := by decide +kernel
theorem dX5_of_157 : decode cX5_of 157 = .ok (.istore 6, 2) := by decide +kernel
theorem dX5_of_159 : decode cX5_of 159 = .ok (.iinc 7 1, 3) := by decide +kernel
theorem dX5_of_162 : decode cX5_of 162 = .ok (.goto (-26), 3) := by decide +kernel
theorem dX5_of_165 : decode cX5_of 165 = .ok (.iload_n 2, 1) := by decide +kernel
theorem dX5_of_166 : decode cX5_of 166 = .ok (.tableswitch 65 0 5 #[38, 45, 52, 54, 57, 60], 38) := by decide +kernel
theorem dX5_of_204 : decode cX5_of 204 = .ok (.aload_n 0, 1) := by decide +kernel
theorem dX5_of_205 : decode cX5_of 205 = .ok (.getfield 9, 3) := by decide +kernel
theorem dX5_of_208 : decode cX5_of 208 = .ok (.iload_n 1, 1) := by decide +kernel
theorem dX5_of_209 : decode cX5_of 209 = .ok (.iaload, 1) := by decide +kernel
theorem dX5_of_210 : decode cX5_of 210 = .ok (.ireturn, 1) := by decide +kernel
theorem dX5_of_211 : decode cX5_of 211 = .ok (.aload_n 0, 1) := by decide +kernel
theorem dX5_of_212 : decode cX5_of 212 = .ok (.getfield 13, 3) := by decide +kernel
theorem dX5_of_215 : decode cX5_of 215 = .ok (.iload_n 1, 1) := by decide +kernel
theorem dX5_of_216 : decode cX5_of 216 = .ok (.iaload, 1) := by decide +kernel
theorem dX5_of_217 : decode cX5_of 217 = .ok (.ireturn, 1) := by decide +kernel
theorem dX5_of_218 : decode cX5_of 218 = .ok (.iload_n 3, 1) := by decide +kernel
theorem dX5_of_219 : decode cX5_of 219 = .ok (.ireturn, 1) := by decide +kernel
theorem dX5_of_220 : decode cX5_of 220 = .ok (.iload 4, 2) := by decide +kernel
theorem dX5_of_222 : decode cX5_of 222 = .ok (.ireturn, 1) := by decide +kernel
theorem dX5_of_223 : decode cX5_of 223 = .ok (.iload 5, 2) := by decide +kernel
theorem dX5_of_225 : decode cX5_of 225 = .ok (.ireturn, 1) := by decide +kernel
theorem dX5_of_226 : decode cX5_of 226 = .ok (.aload_n 0, 1) := by decide +kernel
theorem dX5_of_227 : decode cX5_of 227 = .ok (.getfield 131, 3) := by decide +kernel
theorem dX5_of_230 : decode cX5_of 230 = .ok (.ireturn, 1) := by decide +kernel
theorem dX5_of_231 : decode cX5_of 231 = .ok (.iload 6, 2) := by decide +kernel
theorem dX5_of_233 : decode cX5_of 233 = .ok (.ireturn, 1) := by decide +kernel
theorem dX5_count_0 : decode cX5_count 0 = .ok (.aload_n 0, 1) := by decide +kernel
theorem dX5_count_1 : decode cX5_count 1 = .ok (.iconst 0, 1) := by decide +kernel
theorem dX5_count_2 : decode cX5_count 2 = .ok (.putfield 64, 3) := by decide +kernel
theorem dX5_count_5 : decode cX5_count 5 = .ok (.iload_n 1, 1) := by decide +kernel
theorem dX5_count_6 : decode cX5_count 6 = .ok (.tableswitch 50 0 3 #[30, 35, 40, 45], 30) := by decide +kernel
theorem dX5_count_36 : decode cX5_count 36 = .ok (.aload_n 0, 1) := by decide +kernel
theorem dX5_count_37 : decode cX5_count 37 = .ok (.getfield 68, 3) := by decide +kernel
theorem dX5_count_40 : decode cX5_count 40 = .ok (.ireturn, 1) := by decide +kernel
theorem dX5_count_41 : decode cX5_count 41 = .ok (.aload_n 0, 1) := by decide +kernel
theorem dX5_count_42 : decode cX5_count 42 = .ok (.getfield 88, 3) := by decide +kernel
theorem dX5_count_45 : decode cX5_count 45 = .ok (.ireturn, 1) := by decide +kernel
theorem dX5_count_46 : decode cX5_count 46 = .ok (.aload_n 0, 1) := by decide +kernel
theorem dX5_count_47 : decode cX5_count 47 = .ok (.getfield 149, 3) := by decide +kernel
theorem dX5_count_50 : decode cX5_count 50 = .ok (.ireturn, 1) := by decide +kernel
theorem dX5_count_51 : decode cX5_count 51 = .ok (.aload_n 0, 1) := by decide +kernel
theorem dX5_count_52 : decode cX5_count 52 = .ok (.getfield 152, 3) := by decide +kernel
theorem dX5_count_55 : decode cX5_count 55 = .ok (.ireturn, 1) := by decide +kernel
theorem dX5_count_56 : decode cX5_count 56 = .ok (.iconst (-1), 1) := by decide +kernel
theorem dX5_count_57 : decode cX5_count 57 = .ok (.ireturn, 1) := by decide +kernel
set_option maxRecDepth 20000 in
theorem ggX5_unlike_X5_isPage : GoodIn wsX5_unlike wsX5_isPage := goodIn_r _ [8, 9, 10, 11, 7, 12, 18, 19, 20, 21, 22, 23, 24, 25, 26, 27, 28, 29, 30, 31, 32, 33, 34, 35, 36, 37, 38, 39, 40, 41] (by decide +kernel) (by decide +kernel)
set_option maxRecDepth 20000 in
theorem gX5_unlike_X5_isPage : GoodIn wsX5_unlike (wsV RX5 81 RX5 yX5_isPage wsX5_isPage) := goodIn_app (goodIn_of _ (by decide +kernel)) ggX5_unlike_X5_isPage
set_option maxRecDepth 20000 in
theorem ggX5_unlike_X5_has : GoodIn wsX5_unlike wsX5_has := goodIn_r _ [16, 17, 18, 19, 20, 21, 22, 23, 24, 25, 26, 27, 28, 29, 30, 31, 32, 33, 34, 35, 36, 37, 38, 39, 40, 41] (by decide +kernel) (by decide +kernel)
set_option maxRecDepth 20000 in
theorem gX5_unlike_X5_has : GoodIn wsX5_unlike (wsV RX5 109 RX5 yX5_has wsX5_has) := goodIn_app (goodIn_of _ (by decide +kernel)) ggX5_unlike_X5_has
theorem dX5_unlike_0 : decode cX5_unlike 0 = .ok (.aload_n 0, 1) := by decide +kernel
theorem dX5_unlike_1 : decode cX5_unlike 1 = .ok (.iconst 0, 1) := by decide +kernel
theorem dX5_unlike_2 : decode cX5_unlike 2 = .ok (.putfield 64, 3) := by decide +kernel
theorem dX5_unlike_5 : decode cX5_unlike 5 = .ok (.aload_n 0, 1) := by decide +kernel
theorem dX5_unlike_6 : decode cX5_unlike 6 = .ok (.iload_n 1, 1) := by decide +kernel
theorem dX5_unlike_7 : decode cX5_unlike 7 = .ok (.invokevirtual 81, 3) := by decide +kernel
theorem dX5_unlike_10 : decode cX5_unlike 10 = .ok (.ifCond .eq 11, 3) := by decide +kernel
theorem dX5_unlike_13 : decode cX5_unlike 13 = .ok (.aload_n 0, 1) := by decide +kernel
theorem dX5_unlike_14 : decode cX5_unlike 14 = .ok (.iload_n 2, 1) := by decide +kernel
theorem dX5_unlike_15 : decode cX5_unlike 15 = .ok (.invokevirtual 81, 3) := by decide +kernel
theorem dX5_unlike_18 : decode cX5_unlike 18 = .ok (.ifCond .ne 6, 3) := by decide +kernel
theorem dX5_unlike_21 : decode cX5_unlike 21 = .ok (.bipush (-2), 2) := by decide +kernel
theorem dX5_unlike_23 : decode cX5_unlike 23 = .ok (.ireturn, 1) := by decide +kernel
theorem dX5_unlike_24 : decode cX5_unlike 24 = .ok (.aload_n 0, 1) := by decide +kernel
theorem dX5_unlike_25 : decode cX5_unlike 25 = .ok (.getfield 9, 3) := by decide +kernel
theorem dX5_unlike_28 : decode cX5_unlike 28 = .ok (.iload_n 1, 1) := by decide +kernel
theorem dX5_unlike_29 : decode cX5_unlike 29 = .ok (.iaload, 1) := by decide +kernel
theorem dX5_unlike_30 : decode cX5_unlike 30 = .ok (.aload_n 0, 1) := by decide +kernel
theorem dX5_unlike_31 : decode cX5_unlike 31 = .ok (.getfield 9, 3) := by decide +kernel
theorem dX5_unlike_34 : decode cX5_unlike 34 = .ok (.iload_n 2, 1) := by decide +kernel
theorem dX5_unlike_35 : decode cX5_unlike 35 = .ok (.iaload, 1) := by decide +kernel
theorem dX5_unlike_36 : decode cX5_unlike 36 = .ok (.if_icmp .ne 18, 3) := by decide +kernel
theorem dX5_unlike_39 : decode cX5_unlike 39 = .ok (.aload_n 0, 1) := by decide +kernel
theorem dX5_unlike_40 : decode cX5_unlike 40 = .ok (.getfield 13, 3) := by decide +kernel
theorem dX5_unlike_43 : decode cX5_unlike 43 = .ok (.iload_n 1, 1) := by decide +kernel
theorem dX5_unlike_44 : decode cX5_unlike 44 = .ok (.iaload, 1) := by decide +kernel
theorem dX5_unlike_45 : decode cX5_unlike 45 = .ok (.aload_n 0, 1) := by decide +kernel
theorem dX5_unlike_46 : decode cX5_unlike 46 = .ok (.getfield 13, 3) := by decide +kernel
theorem dX5_unlike_49 : decode cX5_unlike 49 = .ok (.iload_n 2, 1) := by decide +kernel
theorem dX5_unlike_50 : decode cX5_unlike 50 = .ok (.iaload, 1) := by decide +kernel
theorem dX5_unlike_51 : decode cX5_unlike 51 = .ok (.if_icmp .eq 6, 3) := by decide +kernel
theorem dX5_unlike_54 : decode cX5_unlike 54 = .ok (.bipush 100, 2) := by decide +kernel
theorem dX5_unlike_56 : decode cX5_unlike 56 = .ok (.ireturn, 1) := by decide +kernel
theorem dX5_unlike_57 : decode cX5_unlike 57 = .ok (.iconst 0, 1) := by decide +kernel
theorem dX5_unlike_58 : decode cX5_unlike 58 = .ok (.istore_n 3, 1) := by decide +kernel
theorem dX5_unlike_59 : decode cX5_unlike 59 = .ok (.iload_n 3, 1) := by decide +kernel
theorem dX5_unlike_60 : decode cX5_unlike 60 = .ok (.aload_n 0, 1) := by decide +kernel
theorem dX5_unlike_61 : decode cX5_unlike 61 = .ok (.getfield 13, 3) := by decide +kernel
theorem dX5_unlike_64 : decode cX5_unlike 64 = .ok (.iload_n 1, 1) := by decide +kernel
theorem dX5_unlike_65 : decode cX5_unlike 65 = .ok (.iaload, 1) := by decide +kernel
theorem dX5_unlike_66 : decode cX5_unlike 66 = .ok (.if_icmp .ge 50, 3) := by decide +kernel
theorem dX5_unlike_69 : decode cX5_unlike 69 = .ok (.iconst 0, 1) := by decide +kernel
theorem dX5_unlike_70 : decode cX5_unlike 70 = .ok (.istore 4, 2) := by decide +kernel
theorem dX5_unlike_72 : decode cX5_unlike 72 = .ok (.iload 4, 2) := by decide +kernel
theorem dX5_unlike_74 : decode cX5_unlike 74 = .ok (.aload_n 0, 1) := by decide +kernel
theorem dX5_unlike_75 : decode cX5_unlike 75 = .ok (.getfield 9, 3) := by decide +kernel
theorem dX5_unlike_78 : decode cX5_unlike 78 = .ok (.iload_n 1, 1) := by decide +kernel
theorem dX5_unlike_79 : decode cX5_unlike 79 = .ok (.iaload, 1) := by decide +kernel
theorem dX5_unlike_80 : decode cX5_unlike 80 = .ok (.if_icmp .ge 30, 3) := by decide +kernel
theorem dX5_unlike_83 : decode cX5_unlike 83 = .ok (.aload_n 0, 1) := by decide +kernel
theorem dX5_unlike_84 : decode cX5_unlike 84 = .ok (.iload_n 1, 1) := by decide +kernel
theorem dX5_unlike_85 : decode cX5_unlike 85 = .ok (.iload 4, 2) := by decide +kernel
theorem dX5_unlike_87 : decode cX5_unlike 87 = .ok (.iload_n 3, 1) := by decide +kernel
theorem dX5_unlike_88 : decode cX5_unlike 88 = .ok (.invokevirtual 109, 3) := by decide +kernel
theorem dX5_unlike_91 : decode cX5_unlike 91 = .ok (.aload_n 0, 1) := by decide +kernel
theorem dX5_unlike_92 : decode cX5_unlike 92 = .ok (.iload_n 2, 1) := by decide +kernel
theorem dX5_unlike_93 : decode cX5_unlike 93 = .ok (.iload 4, 2) := by decide +kernel
theorem dX5_unlike_95 : decode cX5_unlike 95 = .ok (.iload_n 3, 1) := by decide +kernel
theorem dX5_unlike_96 : decode cX5_unlike 96 = .ok (.invokevirtual 109, 3) := by decide +kernel
theorem dX5_unlike_99 : decode cX5_unlike 99 = .ok (.if_icmp .eq 5, 3) := by decide +kernel
theorem dX5_unlike_102 : decode cX5_unlike 102 = .ok (.iload_n 3, 1) := by decide +kernel
theorem dX5_unlike_103 : decode cX5_unlike 103 = .ok (.ireturn, 1) := by decide +kernel
theorem dX5_unlike_104 : decode cX5_unlike 104 = .ok (.iinc 4 1, 3) := by decide +kernel
theorem dX5_unlike_107 : decode cX5_unlike 107 = .ok (.goto (-35), 3) := by decide +kernel
theorem dX5_unlike_110 : decode cX5_unlike 110 = .ok (.iinc 3 1, 3) := by decide +kernel
theorem dX5_unlike_113 : decode cX5_unlike 113 = .ok (.goto (-54), 3) := by decide +kernel
theorem dX5_unlike_116 : decode cX5_unlike 116 = .ok (.iconst (-1), 1) := by decide +kernel
theorem dX5_unlike_117 : decode cX5_unlike 117 = .ok (.ireturn, 1) := by decide +kernel
set_option maxRecDepth 20000 in
theorem ggX5_least_J9_floorDiv_7cf53 : GoodIn wsX5_least wsJ9_floorDiv_7cf53 := goodIn_r _ [8] (by decide +kernel) (by decide +kernel)
set_option maxRecDepth 20000 in
theorem gX5_least_J9_floorDiv_7cf53 : GoodIn wsX5_least (va_wsS RX5 155 yJ9_floorDiv_7cf53 wsJ9_floorDiv_7cf53) := goodIn_app (goodIn_of _ (by decide +kernel)) ggX5_least_J9_floorDiv_7cf53
theorem dX5_least_0 : decode cX5_least 0 = .ok (.iconst 0, 1) := by decide +kernel
theorem dX5_least_1 : decode cX5_least 1 = .ok (.istore_n 2, 1) := by decide +kernel
theorem dX5_least_2 : decode cX5_least 2 = .ok (.iconst 0, 1) := by decide +kernel
theorem dX5_least_3 : decode cX5_least 3 = .ok (.istore_n 3, 1) := by decide +kernel
theorem dX5_least_4 : decode cX5_least 4 = .ok (.iload_n 3, 1) := by decide +kernel
theorem dX5_least_5 : decode cX5_least 5 = .ok (.iload_n 1, 1) := by decide +kernel
theorem dX5_least_6 : decode cX5_least 6 = .ok (.if_icmp .ge 22, 3) := by decide +kernel
theorem dX5_least_9 : decode cX5_least 9 = .ok (.iload_n 2, 1) := by decide +kernel
theorem dX5_least_10 : decode cX5_least 10 = .ok (.iload_n 0, 1) := by decide +kernel
theorem dX5_least_11 : decode cX5_least 11 = .ok (.iload_n 3, 1) := by decide +kernel
theorem dX5_least_12 : decode cX5_least 12 = .ok (.imul, 1) := by decide +kernel
theorem dX5_least_13 : decode cX5_least 13 = .ok (.bipush 16, 2) := by decide +kernel
theorem dX5_least_15 : decode cX5_least 15 = .ok (.invokestatic 155, 3) := by decide +kernel
theorem dX5_least_18 : decode cX5_least 18 = .ok (.invokestatic 91, 3) := by decide +kernel
theorem dX5_least_21 : decode cX5_least 21 = .ok (.istore_n 2, 1) := by decide +kernel
theorem dX5_least_22 : decode cX5_least 22 = .ok (.iinc 3 1, 3) := by decide +kernel
theorem dX5_least_25 : decode cX5_least 25 = .ok (.goto (-21), 3) := by decide +kernel
theorem dX5_least_28 : decode cX5_least 28 = .ok (.iload_n 2, 1) := by decide +kernel
theorem dX5_least_29 : decode cX5_least 29 = .ok (.ireturn, 1) := by decide +kernel
set_option maxRecDepth 20000 in
theorem ggX5_most_J9_floorDiv_7cf53 : GoodIn wsX5_most wsJ9_floorDiv_7cf53 := goodIn_r _ [8] (by decide +kernel) (by decide +kernel)
set_option maxRecDepth 20000 in
theorem gX5_most_J9_floorDiv_7cf53 : GoodIn wsX5_most (va_wsS RX5 155 yJ9_floorDiv_7cf53 wsJ9_floorDiv_7cf53) := goodIn_app (goodIn_of _ (by decide +kernel)) ggX5_most_J9_floorDiv_7cf53
set_option maxRecDepth 20000 in
theorem ggX5_most_X5_least : GoodIn wsX5_most wsX5_least := goodIn_r _ [12, 13, 14, 3, 15, 5, 6, 7, 8] (by decide +kernel) (by decide +kernel)
set_option maxRecDepth 20000 in
theorem gX5_most_X5_least : GoodIn wsX5_most (va_wsS RX5 158 yX5_least wsX5_least) := goodIn_app (goodIn_of _ (by decide +kernel)) ggX5_most_X5_least
theorem dX5_most_0 : decode cX5_most 0 = .ok (.iconst 0, 1) := by decide +kernel
theorem dX5_most_1 : decode cX5_most 1 = .ok (.istore_n 2, 1) := by decide +kernel
theorem dX5_most_2 : decode cX5_most 2 = .ok (.iconst 0, 1) := by decide +kernel
theorem dX5_most_3 : decode cX5_most 3 = .ok (.istore_n 3, 1) := by decide +kernel
theorem dX5_most_4 : decode cX5_most 4 = .ok (.iload_n 3, 1) := by decide +kernel
theorem dX5_most_5 : decode cX5_most 5 = .ok (.iload_n 1, 1) := by decide +kernel
theorem dX5_most_6 : decode cX5_most 6 = .ok (.if_icmp .ge 28, 3) := by decide +kernel
theorem dX5_most_9 : decode cX5_most 9 = .ok (.iload_n 2, 1) := by decide +kernel
theorem dX5_most_10 : decode cX5_most 10 = .ok (.iload_n 0, 1) := by decide +kernel
theorem dX5_most_11 : decode cX5_most 11 = .ok (.iload_n 3, 1) := by decide +kernel
theorem dX5_most_12 : decode cX5_most 12 = .ok (.imul, 1) := by decide +kernel
theorem dX5_most_13 : decode cX5_most 13 = .ok (.bipush 16, 2) := by decide +kernel
theorem dX5_most_15 : decode cX5_most 15 = .ok (.invokestatic 155, 3) := by decide +kernel
theorem dX5_most_18 : decode cX5_most 18 = .ok (.iload_n 0, 1) := by decide +kernel
theorem dX5_most_19 : decode cX5_most 19 = .ok (.iload_n 1, 1) := by decide +kernel
theorem dX5_most_20 : decode cX5_most 20 = .ok (.invokestatic 158, 3) := by decide +kernel
theorem dX5_most_23 : decode cX5_most 23 = .ok (.isub, 1) := by decide +kernel
theorem dX5_most_24 : decode cX5_most 24 = .ok (.invokestatic 146, 3) := by decide +kernel
theorem dX5_most_27 : decode cX5_most 27 = .ok (.istore_n 2, 1) := by decide +kernel
theorem dX5_most_28 : decode cX5_most 28 = .ok (.iinc 3 1, 3) := by decide +kernel
theorem dX5_most_31 : decode cX5_most 31 = .ok (.goto (-27), 3) := by decide +kernel
theorem dX5_most_34 : decode cX5_most 34 = .ok (.iload_n 2, 1) := by decide +kernel
theorem dX5_most_35 : decode cX5_most 35 = .ok (.ireturn, 1) := by decide +kernel
set_option maxRecDepth 20000 in
theorem ggX5_isShear_X5_in : GoodIn wsX5_isShear wsX5_in := goodIn_r _ [6] (by decide +kernel) (by decide +kernel)
set_option maxRecDepth 20000 in
theorem gX5_isShear_X5_in : GoodIn wsX5_isShear (va_wsS RX5 71 yX5_in wsX5_in) := goodIn_app (goodIn_of _ (by decide +kernel)) ggX5_isShear_X5_in
theorem dX5_isShear_0 : decode cX5_isShear 0 = .ok (.iload_n 0, 1) := by decide +kernel
theorem dX5_isShear_1 : decode cX5_isShear 1 = .ok (.i2l, 1) := by decide +kernel
theorem dX5_isShear_2 : decode cX5_isShear 2 = .ok (.ldc2_w 161, 3) := by decide +kernel
theorem dX5_isShear_5 : decode cX5_isShear 5 = .ok (.ldc2_w 163, 3) := by decide +kernel
theorem dX5_isShear_8 : decode cX5_isShear 8 = .ok (.invokestatic 71, 3) := by decide +kernel
theorem dX5_isShear_11 : decode cX5_isShear 11 = .ok (.ireturn, 1) := by decide +kernel
set_option maxRecDepth 20000 in
theorem ggX5_goesAcross_X5_most : GoodIn wsX5_goesAcross wsX5_most := goodIn_r _ [7, 8, 9, 10, 11, 12, 13, 14, 15, 16, 17, 6, 18, 19, 20, 21] (by decide +kernel) (by decide +kernel)
set_option maxRecDepth 20000 in
theorem gX5_goesAcross_X5_most : GoodIn wsX5_goesAcross (va_wsS RX5 165 yX5_most wsX5_most) := goodIn_app (goodIn_of _ (by decide +kernel)) ggX5_goesAcross_X5_most
set_option maxRecDepth 20000 in
theorem ggX5_goesAcross_X5_blank : GoodIn wsX5_goesAcross wsX5_blank := goodIn_r _ [25, 3, 35, 36, 37, 38, 39, 40, 41, 42, 43, 44, 45, 46, 47, 48, 49, 50, 51, 52, 53, 54, 55, 56, 57, 58] (by decide +kernel) (by decide +kernel)
set_option maxRecDepth 20000 in
theorem gX5_goesAcross_X5_blank : GoodIn wsX5_goesAcross (wsV RX5 168 RX5 yX5_blank wsX5_blank) := goodIn_app (goodIn_of _ (by decide +kernel)) ggX5_goesAcross_X5_blank
set_option maxRecDepth 20000 in
theorem ggX5_goesAcross_J9_floorDiv_7cf53 : GoodIn wsX5_goesAcross wsJ9_floorDiv_7cf53 := goodIn_r _ [15] (by decide +kernel) (by decide +kernel)
set_option maxRecDepth 20000 in
theorem gX5_goesAcross_J9_floorDiv_7cf53 : GoodIn wsX5_goesAcross (va_wsS RX5 155 yJ9_floorDiv_7cf53 wsJ9_floorDiv_7cf53) := goodIn_app (goodIn_of _ (by decide +kernel)) ggX5_goesAcross_J9_floorDiv_7cf53
set_option maxRecDepth 20000 in
theorem ggX5_goesAcross_X5_least : GoodIn wsX5_goesAcross wsX5_least := goodIn_r _ [18, 19, 20, 10, 21, 12, 13, 14, 15] (by decide +kernel) (by decide +kernel)
set_option maxRecDepth 20000 in
theorem gX5_goesAcross_X5_least : GoodIn wsX5_goesAcross (va_wsS RX5 158 yX5_least wsX5_least) := goodIn_app (goodIn_of _ (by decide +kernel)) ggX5_goesAcross_X5_least
set_option maxRecDepth 20000 in
theorem ggX5_goesAcross_X5_has : GoodIn wsX5_goesAcross wsX5_has := goodIn_r _ [29, 30, 35, 36, 37, 38, 39, 40, 41, 42, 43, 44, 45, 46, 47, 48, 49, 50, 51, 52, 53, 54, 55, 56, 57, 58] (by decide +kernel) (by decide +kernel)
set_option maxRecDepth 20000 in
theorem gX5_goesAcross_X5_has : GoodIn wsX5_goesAcross (wsV RX5 109 RX5 yX5_has wsX5_has) := goodIn_app (goodIn_of _ (by decide +kernel)) ggX5_goesAcross_X5_has
set_option maxRecDepth 20000 in
theorem ggX5_goesAcross_X5_becomes : GoodIn wsX5_goesAcross wsX5_becomes := goodIn_r _ [34, 1, 2, 30, 3, 35, 36, 37, 38, 39, 40, 41, 42, 43, 44, 45, 46, 47, 48, 49, 50, 51, 52, 53, 54, 55, 56, 57, 58] (by decide +kernel) (by decide +kernel)
set_option maxRecDepth 20000 in
theorem gX5_goesAcross_X5_becomes : GoodIn wsX5_goesAcross (wsV RX5 171 RX5 yX5_becomes wsX5_becomes) := goodIn_app (goodIn_of _ (by decide +kernel)) ggX5_goesAcross_X5_becomes
theorem dX5_goesAcross_0 : decode cX5_goesAcross 0 = .ok (.aload_n 0, 1) := by decide +kernel
theorem dX5_goesAcross_1 : decode cX5_goesAcross 1 = .ok (.getfield 9, 3) := by decide +kernel
theorem dX5_goesAcross_4 : decode cX5_goesAcross 4 = .ok (.iload_n 1, 1) := by decide +kernel
theorem dX5_goesAcross_5 : decode cX5_goesAcross 5 = .ok (.iaload, 1) := by decide +kernel
theorem dX5_goesAcross_6 : decode cX5_goesAcross 6 = .ok (.iload_n 2, 1) := by decide +kernel
theorem dX5_goesAcross_7 : decode cX5_goesAcross 7 = .ok (.aload_n 0, 1) := by decide +kernel
theorem dX5_goesAcross_8 : decode cX5_goesAcross 8 = .ok (.getfield 13, 3) := by decide +kernel
theorem dX5_goesAcross_11 : decode cX5_goesAcross 11 = .ok (.iload_n 1, 1) := by decide +kernel
theorem dX5_goesAcross_12 : decode cX5_goesAcross 12 = .ok (.iaload, 1) := by decide +kernel
theorem dX5_goesAcross_13 : decode cX5_goesAcross 13 = .ok (.invokestatic 165, 3) := by decide +kernel
theorem dX5_goesAcross_16 : decode cX5_goesAcross 16 = .ok (.iadd, 1) := by decide +kernel
theorem dX5_goesAcross_17 : decode cX5_goesAcross 17 = .ok (.istore_n 3, 1) := by decide +kernel
theorem dX5_goesAcross_18 : decode cX5_goesAcross 18 = .ok (.iload_n 3, 1) := by decide +kernel
theorem dX5_goesAcross_19 : decode cX5_goesAcross 19 = .ok (.bipush 64, 2) := by decide +kernel
theorem dX5_goesAcross_21 : decode cX5_goesAcross 21 = .ok (.if_icmp .le 5, 3) := by decide +kernel
theorem dX5_goesAcross_24 : decode cX5_goesAcross 24 = .ok (.iconst 0, 1) := by decide +kernel
theorem dX5_goesAcross_25 : decode cX5_goesAcross 25 = .ok (.ireturn, 1) := by decide +kernel
theorem dX5_goesAcross_26 : decode cX5_goesAcross 26 = .ok (.aload_n 0, 1) := by decide +kernel
theorem dX5_goesAcross_27 : decode cX5_goesAcross 27 = .ok (.invokevirtual 168, 3) := by decide +kernel
theorem dX5_goesAcross_30 : decode cX5_goesAcross 30 = .ok (.iconst 0, 1) := by decide +kernel
theorem dX5_goesAcross_31 : decode cX5_goesAcross 31 = .ok (.istore 4, 2) := by decide +kernel
theorem dX5_goesAcross_33 : decode cX5_goesAcross 33 = .ok (.iload 4, 2) := by decide +kernel
theorem dX5_goesAcross_35 : decode cX5_goesAcross 35 = .ok (.aload_n 0, 1) := by decide +kernel
theorem dX5_goesAcross_36 : decode cX5_goesAcross 36 = .ok (.getfield 13, 3) := by decide +kernel
theorem dX5_goesAcross_39 : decode cX5_goesAcross 39 = .ok (.iload_n 1, 1) := by decide +kernel
theorem dX5_goesAcross_40 : decode cX5_goesAcross 40 = .ok (.iaload, 1) := by decide +kernel
theorem dX5_goesAcross_41 : decode cX5_goesAcross 41 = .ok (.if_icmp .ge 76, 3) := by decide +kernel
theorem dX5_goesAcross_44 : decode cX5_goesAcross 44 = .ok (.iload_n 2, 1) := by decide +kernel
theorem dX5_goesAcross_45 : decode cX5_goesAcross 45 = .ok (.iload 4, 2) := by decide +kernel
theorem dX5_goesAcross_47 : decode cX5_goesAcross 47 = .ok (.imul, 1) := by decide +kernel
theorem dX5_goesAcross_48 : decode cX5_goesAcross 48 = .ok (.bipush 16, 2) := by decide +kernel
theorem dX5_goesAcross_50 : decode cX5_goesAcross 50 = .ok (.invokestatic 155, 3) := by decide +kernel
theorem dX5_goesAcross_53 : decode cX5_goesAcross 53 = .ok (.iload_n 2, 1) := by decide +kernel
theorem dX5_goesAcross_54 : decode cX5_goesAcross 54 = .ok (.aload_n 0, 1) := by decide +kernel
theorem dX5_goesAcross_55 : decode cX5_goesAcross 55 = .ok (.getfield 13, 3) := by decide +kernel
theorem dX5_goesAcross_58 : decode cX5_goesAcross 58 = .ok (.iload_n 1, 1) := by decide +kernel
theorem dX5_goesAcross_59 : decode cX5_goesAcross 59 = .ok (.iaload, 1) := by decide +kernel
theorem dX5_goesAcross_60 : decode cX5_goesAcross 60 = .ok (.invokestatic 158, 3) := by decide +kernel
theorem dX5_goesAcross_63 : decode cX5_goesAcross 63 = .ok (.isub, 1) := by decide +kernel
theorem dX5_goesAcross_64 : decode cX5_goesAcross 64 = .ok (.istore 5, 2) := by decide +kernel
theorem dX5_goesAcross_66 : decode cX5_goesAcross 66 = .ok (.iconst 0, 1) := by decide +kernel
theorem dX5_goesAcross_67 : decode cX5_goesAcross 67 = .ok (.istore 6, 2) := by decide +kernel
theorem dX5_goesAcross_69 : decode cX5_goesAcross 69 = .ok (.iload 6, 2) := by decide +kernel
theorem dX5_goesAcross_71 : decode cX5_goesAcross 71 = .ok (.aload_n 0, 1) := by decide +kernel
theorem dX5_goesAcross_72 : decode cX5_goesAcross 72 = .ok (.getfield 9, 3) := by decide +kernel
theorem dX5_goesAcross_75 : decode cX5_goesAcross 75 = .ok (.iload_n 1, 1) := by decide +kernel
theorem dX5_goesAcross_76 : decode cX5_goesAcross 76 = .ok (.iaload, 1) := by decide +kernel
theorem dX5_goesAcross_77 : decode cX5_goesAcross 77 = .ok (.if_icmp .ge 34, 3) := by decide +kernel
theorem dX5_goesAcross_80 : decode cX5_goesAcross 80 = .ok (.aload_n 0, 1) := by decide +kernel
theorem dX5_goesAcross_81 : decode cX5_goesAcross 81 = .ok (.getfield 21, 3) := by decide +kernel
theorem dX5_goesAcross_84 : decode cX5_goesAcross 84 = .ok (.iload 4, 2) := by decide +kernel
theorem dX5_goesAcross_86 : decode cX5_goesAcross 86 = .ok (.bipush 64, 2) := by decide +kernel
theorem dX5_goesAcross_88 : decode cX5_goesAcross 88 = .ok (.imul, 1) := by decide +kernel
theorem dX5_goesAcross_89 : decode cX5_goesAcross 89 = .ok (.iload 6, 2) := by decide +kernel
theorem dX5_goesAcross_91 : decode cX5_goesAcross 91 = .ok (.iadd, 1) := by decide +kernel
theorem dX5_goesAcross_92 : decode cX5_goesAcross 92 = .ok (.iload 5, 2) := by decide +kernel
theorem dX5_goesAcross_94 : decode cX5_goesAcross 94 = .ok (.iadd, 1) := by decide +kernel
theorem dX5_goesAcross_95 : decode cX5_goesAcross 95 = .ok (.aload_n 0, 1) := by decide +kernel
theorem dX5_goesAcross_96 : decode cX5_goesAcross 96 = .ok (.iload_n 1, 1) := by decide +kernel
theorem dX5_goesAcross_97 : decode cX5_goesAcross 97 = .ok (.iload 6, 2) := by decide +kernel
theorem dX5_goesAcross_99 : decode cX5_goesAcross 99 = .ok (.iload 4, 2) := by decide +kernel
theorem dX5_goesAcross_101 : decode cX5_goesAcross 101 = .ok (.invokevirtual 109, 3) := by decide +kernel
theorem dX5_goesAcross_104 : decode cX5_goesAcross 104 = .ok (.bastore, 1) := by decide +kernel
theorem dX5_goesAcross_105 : decode cX5_goesAcross 105 = .ok (.iinc 6 1, 3) := by decide +kernel
theorem dX5_goesAcross_108 : decode cX5_goesAcross 108 = .ok (.goto (-39), 3) := by decide +kernel
theorem dX5_goesAcross_111 : decode cX5_goesAcross 111 = .ok (.iinc 4 1, 3) := by decide +kernel
theorem dX5_goesAcross_114 : decode cX5_goesAcross 114 = .ok (.goto (-81), 3) := by decide +kernel
theorem dX5_goesAcross_117 : decode cX5_goesAcross 117 = .ok (.aload_n 0, 1) := by decide +kernel
theorem dX5_goesAcross_118 : decode cX5_goesAcross 118 = .ok (.iload_n 1, 1) := by decide +kernel
theorem dX5_goesAcross_119 : decode cX5_goesAcross 119 = .ok (.iload_n 3, 1) := by decide +kernel
theorem dX5_goesAcross_120 : decode cX5_goesAcross 120 = .ok (.aload_n 0, 1) := by decide +kernel
theorem dX5_goesAcross_121 : decode cX5_goesAcross 121 = .ok (.getfield 13, 3) := by decide +kernel
theorem dX5_goesAcross_124 : decode cX5_goesAcross 124 = .ok (.iload_n 1, 1) := by decide +kernel
theorem dX5_goesAcross_125 : decode cX5_goesAcross 125 = .ok (.iaload, 1) := by decide +kernel
theorem dX5_goesAcross_126 : decode cX5_goesAcross 126 = .ok (.invokevirtual 171, 3) := by decide +kernel
theorem dX5_goesAcross_129 : decode cX5_goesAcross 129 = .ok (.iconst 1, 1) := by decide +kernel
theorem dX5_goesAcross_130 : decode cX5_goesAcross 130 = .ok (.ireturn, 1) := by decide +kernel
set_option maxRecDepth 20000 in
theorem ggX5_goesUp_X5_most : GoodIn wsX5_goesUp wsX5_most := goodIn_r _ [7, 8, 9, 10, 11, 12, 13, 14, 15, 16, 17, 6, 18, 19, 20, 21] (by decide +kernel) (by decide +kernel)
set_option maxRecDepth 20000 in
theorem gX5_goesUp_X5_most : GoodIn wsX5_goesUp (va_wsS RX5 165 yX5_most wsX5_most) := goodIn_app (goodIn_of _ (by decide +kernel)) ggX5_goesUp_X5_most
set_option maxRecDepth 20000 in
theorem ggX5_goesUp_X5_blank : GoodIn wsX5_goesUp wsX5_blank := goodIn_r _ [25, 3, 35, 36, 37, 38, 39, 40, 41, 42, 43, 44, 45, 46, 47, 48, 49, 50, 51, 52, 53, 54, 55, 56, 57, 58] (by decide +kernel) (by decide +kernel)
set_option maxRecDepth 20000 in
theorem gX5_goesUp_X5_blank : GoodIn wsX5_goesUp (wsV RX5 168 RX5 yX5_blank wsX5_blank) := goodIn_app (goodIn_of _ (by decide +kernel)) ggX5_goesUp_X5_blank
set_option maxRecDepth 20000 in
theorem ggX5_goesUp_J9_floorDiv_7cf53 : GoodIn wsX5_goesUp wsJ9_floorDiv_7cf53 := goodIn_r _ [15] (by decide +kernel) (by decide +kernel)
set_option maxRecDepth 20000 in
theorem gX5_goesUp_J9_floorDiv_7cf53 : GoodIn wsX5_goesUp (va_wsS RX5 155 yJ9_floorDiv_7cf53 wsJ9_floorDiv_7cf53) := goodIn_app (goodIn_of _ (by decide +kernel)) ggX5_goesUp_J9_floorDiv_7cf53
set_option maxRecDepth 20000 in
theorem ggX5_goesUp_X5_least : GoodIn wsX5_goesUp wsX5_least := goodIn_r _ [18, 19, 20, 10, 21, 12, 13, 14, 15] (by decide +kernel) (by decide +kernel)
set_option maxRecDepth 20000 in
theorem gX5_goesUp_X5_least : GoodIn wsX5_goesUp (va_wsS RX5 158 yX5_least wsX5_least) := goodIn_app (goodIn_of _ (by decide +kernel)) ggX5_goesUp_X5_least
set_option maxRecDepth 20000 in
theorem ggX5_goesUp_X5_has : GoodIn wsX5_goesUp wsX5_has := goodIn_r _ [29, 30, 35, 36, 37, 38, 39, 40, 41, 42, 43, 44, 45, 46, 47, 48, 49, 50, 51, 52, 53, 54, 55, 56, 57, 58] (by decide +kernel) (by decide +kernel)
set_option maxRecDepth 20000 in
theorem gX5_goesUp_X5_has : GoodIn wsX5_goesUp (wsV RX5 109 RX5 yX5_has wsX5_has) := goodIn_app (goodIn_of _ (by decide +kernel)) ggX5_goesUp_X5_has
set_option maxRecDepth 20000 in
theorem ggX5_goesUp_X5_becomes : GoodIn wsX5_goesUp wsX5_becomes := goodIn_r _ [34, 2, 1, 30, 3, 35, 36, 37, 38, 39, 40, 41, 42, 43, 44, 45, 46, 47, 48, 49, 50, 51, 52, 53, 54, 55, 56, 57, 58] (by decide +kernel) (by decide +kernel)
set_option maxRecDepth 20000 in
theorem gX5_goesUp_X5_becomes : GoodIn wsX5_goesUp (wsV RX5 171 RX5 yX5_becomes wsX5_becomes) := goodIn_app (goodIn_of _ (by decide +kernel)) ggX5_goesUp_X5_becomes
theorem dX5_goesUp_0 : decode cX5_goesUp 0 = .ok (.aload_n 0, 1) := by decide +kernel
theorem dX5_goesUp_1 : decode cX5_goesUp 1 = .ok (.getfield 13, 3) := by decide +kernel
theorem dX5_goesUp_4 : decode cX5_goesUp 4 = .ok (.iload_n 1, 1) := by decide +kernel
theorem dX5_goesUp_5 : decode cX5_goesUp 5 = .ok (.iaload, 1) := by decide +kernel
theorem dX5_goesUp_6 : decode cX5_goesUp 6 = .ok (.iload_n 2, 1) := by decide +kernel
theorem dX5_goesUp_7 : decode cX5_goesUp 7 = .ok (.aload_n 0, 1) := by decide +kernel
theorem dX5_goesUp_8 : decode cX5_goesUp 8 = .ok (.getfield 9, 3) := by decide +kernel
theorem dX5_goesUp_11 : decode cX5_goesUp 11 = .ok (.iload_n 1, 1) := by decide +kernel
theorem dX5_goesUp_12 : decode cX5_goesUp 12 = .ok (.iaload, 1) := by decide +kernel
theorem dX5_goesUp_13 : decode cX5_goesUp 13 = .ok (.invokestatic 165, 3) := by decide +kernel
theorem dX5_goesUp_16 : decode cX5_goesUp 16 = .ok (.iadd, 1) := by decide +kernel
theorem dX5_goesUp_17 : decode cX5_goesUp 17 = .ok (.istore_n 3, 1) := by decide +kernel
theorem dX5_goesUp_18 : decode cX5_goesUp 18 = .ok (.iload_n 3, 1) := by decide +kernel
theorem dX5_goesUp_19 : decode cX5_goesUp 19 = .ok (.bipush 64, 2) := by decide +kernel
theorem dX5_goesUp_21 : decode cX5_goesUp 21 = .ok (.if_icmp .le 5, 3) := by decide +kernel
theorem dX5_goesUp_24 : decode cX5_goesUp 24 = .ok (.iconst 0, 1) := by decide +kernel
theorem dX5_goesUp_25 : decode cX5_goesUp 25 = .ok (.ireturn, 1) := by decide +kernel
theorem dX5_goesUp_26 : decode cX5_goesUp 26 = .ok (.aload_n 0, 1) := by decide +kernel
theorem dX5_goesUp_27 : decode cX5_goesUp 27 = .ok (.invokevirtual 168, 3) := by decide +kernel
theorem dX5_goesUp_30 : decode cX5_goesUp 30 = .ok (.iconst 0, 1) := by decide +kernel
theorem dX5_goesUp_31 : decode cX5_goesUp 31 = .ok (.istore 4, 2) := by decide +kernel
theorem dX5_goesUp_33 : decode cX5_goesUp 33 = .ok (.iload 4, 2) := by decide +kernel
theorem dX5_goesUp_35 : decode cX5_goesUp 35 = .ok (.aload_n 0, 1) := by decide +kernel
theorem dX5_goesUp_36 : decode cX5_goesUp 36 = .ok (.getfield 9, 3) := by decide +kernel
theorem dX5_goesUp_39 : decode cX5_goesUp 39 = .ok (.iload_n 1, 1) := by decide +kernel
theorem dX5_goesUp_40 : decode cX5_goesUp 40 = .ok (.iaload, 1) := by decide +kernel
theorem dX5_goesUp_41 : decode cX5_goesUp 41 = .ok (.if_icmp .ge 76, 3) := by decide +kernel
theorem dX5_goesUp_44 : decode cX5_goesUp 44 = .ok (.iload_n 2, 1) := by decide +kernel
theorem dX5_goesUp_45 : decode cX5_goesUp 45 = .ok (.iload 4, 2) := by decide +kernel
theorem dX5_goesUp_47 : decode cX5_goesUp 47 = .ok (.imul, 1) := by decide +kernel
theorem dX5_goesUp_48 : decode cX5_goesUp 48 = .ok (.bipush 16, 2) := by decide +kernel
theorem dX5_goesUp_50 : decode cX5_goesUp 50 = .ok (.invokestatic 155, 3) := by decide +kernel
theorem dX5_goesUp_53 : decode cX5_goesUp 53 = .ok (.iload_n 2, 1) := by decide +kernel
theorem dX5_goesUp_54 : decode cX5_goesUp 54 = .ok (.aload_n 0, 1) := by decide +kernel
theorem dX5_goesUp_55 : decode cX5_goesUp 55 = .ok (.getfield 9, 3) := by decide +kernel
theorem dX5_goesUp_58 : decode cX5_goesUp 58 = .ok (.iload_n 1, 1) := by decide +kernel
theorem dX5_goesUp_59 : decode cX5_goesUp 59 = .ok (.iaload, 1) := by decide +kernel
theorem dX5_goesUp_60 : decode cX5_goesUp 60 = .ok (.invokestatic 158, 3) := by decide +kernel
theorem dX5_goesUp_63 : decode cX5_goesUp 63 = .ok (.isub, 1) := by decide +kernel
theorem dX5_goesUp_64 : decode cX5_goesUp 64 = .ok (.istore 5, 2) := by decide +kernel
theorem dX5_goesUp_66 : decode cX5_goesUp 66 = .ok (.iconst 0, 1) := by decide +kernel
theorem dX5_goesUp_67 : decode cX5_goesUp 67 = .ok (.istore 6, 2) := by decide +kernel
theorem dX5_goesUp_69 : decode cX5_goesUp 69 = .ok (.iload 6, 2) := by decide +kernel
theorem dX5_goesUp_71 : decode cX5_goesUp 71 = .ok (.aload_n 0, 1) := by decide +kernel
theorem dX5_goesUp_72 : decode cX5_goesUp 72 = .ok (.getfield 13, 3) := by decide +kernel
theorem dX5_goesUp_75 : decode cX5_goesUp 75 = .ok (.iload_n 1, 1) := by decide +kernel
theorem dX5_goesUp_76 : decode cX5_goesUp 76 = .ok (.iaload, 1) := by decide +kernel
theorem dX5_goesUp_77 : decode cX5_goesUp 77 = .ok (.if_icmp .ge 34, 3) := by decide +kernel
theorem dX5_goesUp_80 : decode cX5_goesUp 80 = .ok (.aload_n 0, 1) := by decide +kernel
theorem dX5_goesUp_81 : decode cX5_goesUp 81 = .ok (.getfield 21, 3) := by decide +kernel
theorem dX5_goesUp_84 : decode cX5_goesUp 84 = .ok (.iload 6, 2) := by decide +kernel
theorem dX5_goesUp_86 : decode cX5_goesUp 86 = .ok (.iload 5, 2) := by decide +kernel
theorem dX5_goesUp_88 : decode cX5_goesUp 88 = .ok (.iadd, 1) := by decide +kernel
theorem dX5_goesUp_89 : decode cX5_goesUp 89 = .ok (.bipush 64, 2) := by decide +kernel
theorem dX5_goesUp_91 : decode cX5_goesUp 91 = .ok (.imul, 1) := by decide +kernel
theorem dX5_goesUp_92 : decode cX5_goesUp 92 = .ok (.iload 4, 2) := by decide +kernel
theorem dX5_goesUp_94 : decode cX5_goesUp 94 = .ok (.iadd, 1) := by decide +kernel
theorem dX5_goesUp_95 : decode cX5_goesUp 95 = .ok (.aload_n 0, 1) := by decide +kernel
theorem dX5_goesUp_96 : decode cX5_goesUp 96 = .ok (.iload_n 1, 1) := by decide +kernel
theorem dX5_goesUp_97 : decode cX5_goesUp 97 = .ok (.iload 4, 2) := by decide +kernel
theorem dX5_goesUp_99 : decode cX5_goesUp 99 = .ok (.iload 6, 2) := by decide +kernel
theorem dX5_goesUp_101 : decode cX5_goesUp 101 = .ok (.invokevirtual 109, 3) := by decide +kernel
theorem dX5_goesUp_104 : decode cX5_goesUp 104 = .ok (.bastore, 1) := by decide +kernel
theorem dX5_goesUp_105 : decode cX5_goesUp 105 = .ok (.iinc 6 1, 3) := by decide +kernel
theorem dX5_goesUp_108 : decode cX5_goesUp 108 = .ok (.goto (-39), 3) := by decide +kernel
theorem dX5_goesUp_111 : decode cX5_goesUp 111 = .ok (.iinc 4 1, 3) := by decide +kernel
theorem dX5_goesUp_114 : decode cX5_goesUp 114 = .ok (.goto (-81), 3) := by decide +kernel
theorem dX5_goesUp_117 : decode cX5_goesUp 117 = .ok (.aload_n 0, 1) := by decide +kernel
theorem dX5_goesUp_118 : decode cX5_goesUp 118 = .ok (.iload_n 1, 1) := by decide +kernel
theorem dX5_goesUp_119 : decode cX5_goesUp 119 = .ok (.aload_n 0, 1) := by decide +kernel
theorem dX5_goesUp_120 : decode cX5_goesUp 120 = .ok (.getfield 9, 3) := by decide +kernel
theorem dX5_goesUp_123 : decode cX5_goesUp 123 = .ok (.iload_n 1, 1) := by decide +kernel
theorem dX5_goesUp_124 : decode cX5_goesUp 124 = .ok (.iaload, 1) := by decide +kernel
theorem dX5_goesUp_125 : decode cX5_goesUp 125 = .ok (.iload_n 3, 1) := by decide +kernel
theorem dX5_goesUp_126 : decode cX5_goesUp 126 = .ok (.invokevirtual 171, 3) := by decide +kernel
theorem dX5_goesUp_129 : decode cX5_goesUp 129 = .ok (.iconst 1, 1) := by decide +kernel
theorem dX5_goesUp_130 : decode cX5_goesUp 130 = .ok (.ireturn, 1) := by decide +kernel
set_option maxRecDepth 20000 in
theorem ggX5_across_X5_isPage : GoodIn wsX5_across wsX5_isPage := goodIn_r _ [8, 9, 10, 11, 7, 12, 64, 65, 66, 67, 68, 69, 70, 71, 72, 73, 74, 75, 76, 77, 78, 79, 80, 81, 82, 83, 84, 85, 86, 87] (by decide +kernel) (by decide +kernel)
set_option maxRecDepth 20000 in
theorem gX5_across_X5_isPage : GoodIn wsX5_across (wsV RX5 81 RX5 yX5_isPage wsX5_isPage) := goodIn_app (goodIn_of _ (by decide +kernel)) ggX5_across_X5_isPage
set_option maxRecDepth 20000 in
theorem ggX5_across_X5_isShear : GoodIn wsX5_across wsX5_isShear := goodIn_r _ [15, 16, 17, 10, 11, 7, 12] (by decide +kernel) (by decide +kernel)
set_option maxRecDepth 20000 in
theorem gX5_across_X5_isShear : GoodIn wsX5_across (va_wsS RX5 174 yX5_isShear wsX5_isShear) := goodIn_app (goodIn_of _ (by decide +kernel)) ggX5_across_X5_isShear
set_option maxRecDepth 20000 in
theorem ggX5_across_X5_most : GoodIn wsX5_across wsX5_most := goodIn_r _ [20, 21, 22, 23, 24, 25, 26, 27, 28, 29, 30, 7, 31, 32, 33, 34] (by decide +kernel) (by decide +kernel)
set_option maxRecDepth 20000 in
theorem gX5_across_X5_most : GoodIn wsX5_across (va_wsS RX5 165 yX5_most wsX5_most) := goodIn_app (goodIn_of _ (by decide +kernel)) ggX5_across_X5_most
set_option maxRecDepth 20000 in
theorem ggX5_across_X5_changing : GoodIn wsX5_across wsX5_changing := goodIn_r _ [38, 39, 40, 32, 33, 23, 34, 41, 42, 2, 43, 3, 44, 45, 46, 64, 65, 66, 67, 68, 69, 70, 71, 72, 73, 74, 75, 76, 77, 78, 79, 80, 81, 82, 83, 84, 85, 86, 87] (by decide +kernel) (by decide +kernel)
set_option maxRecDepth 20000 in
theorem gX5_across_X5_changing : GoodIn wsX5_across (wsV RX5 101 RX5 yX5_changing wsX5_changing) := goodIn_app (goodIn_of _ (by decide +kernel)) ggX5_across_X5_changing
set_option maxRecDepth 20000 in
theorem ggX5_across_X5_goesAcross : GoodIn wsX5_across wsX5_goesAcross := goodIn_r _ [50, 2, 3, 51, 18, 19, 7, 20, 21, 22, 23, 24, 25, 26, 27, 28, 29, 30, 31, 32, 33, 34, 52, 53, 54, 55, 56, 57, 58, 59, 46, 60, 61, 62, 63, 64, 65, 66, 67, 68, 69, 70, 71, 72, 73, 74, 75, 76, 77, 78, 79, 80, 81, 82, 83, 84, 85, 86, 87] (by decide +kernel) (by decide +kernel)
set_option maxRecDepth 20000 in
theorem gX5_across_X5_goesAcross : GoodIn wsX5_across (wsV RX5 177 RX5 yX5_goesAcross wsX5_goesAcross) := goodIn_app (goodIn_of _ (by decide +kernel)) ggX5_across_X5_goesAcross
theorem dX5_across_0 : decode cX5_across 0 = .ok (.aload_n 0, 1) := by decide +kernel
theorem dX5_across_1 : decode cX5_across 1 = .ok (.iconst 0, 1) := by decide +kernel
theorem dX5_across_2 : decode cX5_across 2 = .ok (.putfield 64, 3) := by decide +kernel
theorem dX5_across_5 : decode cX5_across 5 = .ok (.aload_n 0, 1) := by decide +kernel
theorem dX5_across_6 : decode cX5_across 6 = .ok (.iload_n 1, 1) := by decide +kernel
theorem dX5_across_7 : decode cX5_across 7 = .ok (.invokevirtual 81, 3) := by decide +kernel
theorem dX5_across_10 : decode cX5_across 10 = .ok (.ifCond .eq 32, 3) := by decide +kernel
theorem dX5_across_13 : decode cX5_across 13 = .ok (.iload_n 2, 1) := by decide +kernel
theorem dX5_across_14 : decode cX5_across 14 = .ok (.invokestatic 174, 3) := by decide +kernel
theorem dX5_across_17 : decode cX5_across 17 = .ok (.ifCond .eq 25, 3) := by decide +kernel
theorem dX5_across_20 : decode cX5_across 20 = .ok (.aload_n 0, 1) := by decide +kernel
theorem dX5_across_21 : decode cX5_across 21 = .ok (.getfield 9, 3) := by decide +kernel
theorem dX5_across_24 : decode cX5_across 24 = .ok (.iload_n 1, 1) := by decide +kernel
theorem dX5_across_25 : decode cX5_across 25 = .ok (.iaload, 1) := by decide +kernel
theorem dX5_across_26 : decode cX5_across 26 = .ok (.iload_n 2, 1) := by decide +kernel
theorem dX5_across_27 : decode cX5_across 27 = .ok (.aload_n 0, 1) := by decide +kernel
theorem dX5_across_28 : decode cX5_across 28 = .ok (.getfield 13, 3) := by decide +kernel
theorem dX5_across_31 : decode cX5_across 31 = .ok (.iload_n 1, 1) := by decide +kernel
theorem dX5_across_32 : decode cX5_across 32 = .ok (.iaload, 1) := by decide +kernel
theorem dX5_across_33 : decode cX5_across 33 = .ok (.invokestatic 165, 3) := by decide +kernel
theorem dX5_across_36 : decode cX5_across 36 = .ok (.iadd, 1) := by decide +kernel
theorem dX5_across_37 : decode cX5_across 37 = .ok (.bipush 64, 2) := by decide +kernel
theorem dX5_across_39 : decode cX5_across 39 = .ok (.if_icmp .le 5, 3) := by decide +kernel
theorem dX5_across_42 : decode cX5_across 42 = .ok (.iconst (-1), 1) := by decide +kernel
theorem dX5_across_43 : decode cX5_across 43 = .ok (.ireturn, 1) := by decide +kernel
theorem dX5_across_44 : decode cX5_across 44 = .ok (.aload_n 0, 1) := by decide +kernel
theorem dX5_across_45 : decode cX5_across 45 = .ok (.iload_n 1, 1) := by decide +kernel
theorem dX5_across_46 : decode cX5_across 46 = .ok (.invokevirtual 101, 3) := by decide +kernel
theorem dX5_across_49 : decode cX5_across 49 = .ok (.aload_n 0, 1) := by decide +kernel
theorem dX5_across_50 : decode cX5_across 50 = .ok (.iload_n 1, 1) := by decide +kernel
theorem dX5_across_51 : decode cX5_across 51 = .ok (.iload_n 2, 1) := by decide +kernel
theorem dX5_across_52 : decode cX5_across 52 = .ok (.invokevirtual 177, 3) := by decide +kernel
theorem dX5_across_55 : decode cX5_across 55 = .ok (.istore_n 3, 1) := by decide +kernel
theorem dX5_across_56 : decode cX5_across 56 = .ok (.aload_n 0, 1) := by decide +kernel
theorem dX5_across_57 : decode cX5_across 57 = .ok (.getfield 9, 3) := by decide +kernel
theorem dX5_across_60 : decode cX5_across 60 = .ok (.iload_n 1, 1) := by decide +kernel
theorem dX5_across_61 : decode cX5_across 61 = .ok (.iaload, 1) := by decide +kernel
theorem dX5_across_62 : decode cX5_across 62 = .ok (.ireturn, 1) := by decide +kernel
set_option maxRecDepth 20000 in
theorem ggX5_upright_X5_isPage : GoodIn wsX5_upright wsX5_isPage := goodIn_r _ [8, 9, 10, 11, 7, 12, 64, 65, 66, 67, 68, 69, 70, 71, 72, 73, 74, 75, 76, 77, 78, 79, 80, 81, 82, 83, 84, 85, 86, 87] (by decide +kernel) (by decide +kernel)
set_option maxRecDepth 20000 in
theorem gX5_upright_X5_isPage : GoodIn wsX5_upright (wsV RX5 81 RX5 yX5_isPage wsX5_isPage) := goodIn_app (goodIn_of _ (by decide +kernel)) ggX5_upright_X5_isPage
set_option maxRecDepth 20000 in
theorem ggX5_upright_X5_isShear : GoodIn wsX5_upright wsX5_isShear := goodIn_r _ [15, 16, 17, 10, 11, 7, 12] (by decide +kernel) (by decide +kernel)
set_option maxRecDepth 20000 in
theorem gX5_upright_X5_isShear : GoodIn wsX5_upright (va_wsS RX5 174 yX5_isShear wsX5_isShear) := goodIn_app (goodIn_of _ (by decide +kernel)) ggX5_upright_X5_isShear
set_option maxRecDepth 20000 in
theorem ggX5_upright_X5_most : GoodIn wsX5_upright wsX5_most := goodIn_r _ [20, 21, 22, 23, 24, 25, 26, 27, 28, 29, 30, 7, 31, 32, 33, 34] (by decide +kernel) (by decide +kernel)
set_option maxRecDepth 20000 in
theorem gX5_upright_X5_most : GoodIn wsX5_upright (va_wsS RX5 165 yX5_most wsX5_most) := goodIn_app (goodIn_of _ (by decide +kernel)) ggX5_upright_X5_most
set_option maxRecDepth 20000 in
theorem ggX5_upright_X5_changing : GoodIn wsX5_upright wsX5_changing := goodIn_r _ [38, 39, 40, 32, 33, 23, 34, 41, 42, 3, 43, 2, 44, 45, 46, 64, 65, 66, 67, 68, 69, 70, 71, 72, 73, 74, 75, 76, 77, 78, 79, 80, 81, 82, 83, 84, 85, 86, 87] (by decide +kernel) (by decide +kernel)
set_option maxRecDepth 20000 in
theorem gX5_upright_X5_changing : GoodIn wsX5_upright (wsV RX5 101 RX5 yX5_changing wsX5_changing) := goodIn_app (goodIn_of _ (by decide +kernel)) ggX5_upright_X5_changing
set_option maxRecDepth 20000 in
theorem ggX5_upright_X5_goesUp : GoodIn wsX5_upright wsX5_goesUp := goodIn_r _ [50, 2, 3, 51, 18, 19, 7, 20, 21, 22, 23, 24, 25, 26, 27, 28, 29, 30, 31, 32, 33, 34, 52, 53, 54, 55, 56, 57, 58, 59, 46, 60, 61, 62, 63, 64, 65, 66, 67, 68, 69, 70, 71, 72, 73, 74, 75, 76, 77, 78, 79, 80, 81, 82, 83, 84, 85, 86, 87] (by decide +kernel) (by decide +kernel)
set_option maxRecDepth 20000 in
theorem gX5_upright_X5_goesUp : GoodIn wsX5_upright (wsV RX5 181 RX5 yX5_goesUp wsX5_goesUp) := goodIn_app (goodIn_of _ (by decide +kernel)) ggX5_upright_X5_goesUp
theorem dX5_upright_0 : decode cX5_upright 0 = .ok (.aload_n 0, 1) := by decide +kernel
theorem dX5_upright_1 : decode cX5_upright 1 = .ok (.iconst 0, 1) := by decide +kernel
theorem dX5_upright_2 : decode cX5_upright 2 = .ok (.putfield 64, 3) := by decide +kernel
theorem dX5_upright_5 : decode cX5_upright 5 = .ok (.aload_n 0, 1) := by decide +kernel
theorem dX5_upright_6 : decode cX5_upright 6 = .ok (.iload_n 1, 1) := by decide +kernel
theorem dX5_upright_7 : decode cX5_upright 7 = .ok (.invokevirtual 81, 3) := by decide +kernel
theorem dX5_upright_10 : decode cX5_upright 10 = .ok (.ifCond .eq 32, 3) := by decide +kernel
theorem dX5_upright_13 : decode cX5_upright 13 = .ok (.iload_n 2, 1) := by decide +kernel
theorem dX5_upright_14 : decode cX5_upright 14 = .ok (.invokestatic 174, 3) := by decide +kernel
theorem dX5_upright_17 : decode cX5_upright 17 = .ok (.ifCond .eq 25, 3) := by decide +kernel
theorem dX5_upright_20 : decode cX5_upright 20 = .ok (.aload_n 0, 1) := by decide +kernel
theorem dX5_upright_21 : decode cX5_upright 21 = .ok (.getfield 13, 3) := by decide +kernel
theorem dX5_upright_24 : decode cX5_upright 24 = .ok (.iload_n 1, 1) := by decide +kernel
theorem dX5_upright_25 : decode cX5_upright 25 = .ok (.iaload, 1) := by decide +kernel
theorem dX5_upright_26 : decode cX5_upright 26 = .ok (.iload_n 2, 1) := by decide +kernel
theorem dX5_upright_27 : decode cX5_upright 27 = .ok (.aload_n 0, 1) := by decide +kernel
theorem dX5_upright_28 : decode cX5_upright 28 = .ok (.getfield 9, 3) := by decide +kernel
theorem dX5_upright_31 : decode cX5_upright 31 = .ok (.iload_n 1, 1) := by decide +kernel
theorem dX5_upright_32 : decode cX5_upright 32 = .ok (.iaload, 1) := by decide +kernel
theorem dX5_upright_33 : decode cX5_upright 33 = .ok (.invokestatic 165, 3) := by decide +kernel
theorem dX5_upright_36 : decode cX5_upright 36 = .ok (.iadd, 1) := by decide +kernel
theorem dX5_upright_37 : decode cX5_upright 37 = .ok (.bipush 64, 2) := by decide +kernel
theorem dX5_upright_39 : decode cX5_upright 39 = .ok (.if_icmp .le 5, 3) := by decide +kernel
theorem dX5_upright_42 : decode cX5_upright 42 = .ok (.iconst (-1), 1) := by decide +kernel
theorem dX5_upright_43 : decode cX5_upright 43 = .ok (.ireturn, 1) := by decide +kernel
theorem dX5_upright_44 : decode cX5_upright 44 = .ok (.aload_n 0, 1) := by decide +kernel
theorem dX5_upright_45 : decode cX5_upright 45 = .ok (.iload_n 1, 1) := by decide +kernel
theorem dX5_upright_46 : decode cX5_upright 46 = .ok (.invokevirtual 101, 3) := by decide +kernel
theorem dX5_upright_49 : decode cX5_upright 49 = .ok (.aload_n 0, 1) := by decide +kernel
theorem dX5_upright_50 : decode cX5_upright 50 = .ok (.iload_n 1, 1) := by decide +kernel
theorem dX5_upright_51 : decode cX5_upright 51 = .ok (.iload_n 2, 1) := by decide +kernel
theorem dX5_upright_52 : decode cX5_upright 52 = .ok (.invokevirtual 181, 3) := by decide +kernel
theorem dX5_upright_55 : decode cX5_upright 55 = .ok (.istore_n 3, 1) := by decide +kernel
theorem dX5_upright_56 : decode cX5_upright 56 = .ok (.aload_n 0, 1) := by decide +kernel
theorem dX5_upright_57 : decode cX5_upright 57 = .ok (.getfield 13, 3) := by decide +kernel
theorem dX5_upright_60 : decode cX5_upright 60 = .ok (.iload_n 1, 1) := by decide +kernel
theorem dX5_upright_61 : decode cX5_upright 61 = .ok (.iaload, 1) := by decide +kernel
theorem dX5_upright_62 : decode cX5_upright 62 = .ok (.ireturn, 1) := by decide +kernel
set_option maxRecDepth 20000 in
theorem ggX5_turn_X5_isPage : GoodIn wsX5_turn wsX5_isPage := goodIn_r _ [8, 9, 10, 11, 7, 12, 68, 69, 70, 71, 72, 73, 74, 75, 76, 77, 78, 79, 80, 81, 82, 83, 84, 85, 86, 87, 88, 89, 90, 91] (by decide +kernel) (by decide +kernel)
set_option maxRecDepth 20000 in
theorem gX5_turn_X5_isPage : GoodIn wsX5_turn (wsV RX5 81 RX5 yX5_isPage wsX5_isPage) := goodIn_app (goodIn_of _ (by decide +kernel)) ggX5_turn_X5_isPage
set_option maxRecDepth 20000 in
theorem ggX5_turn_X5_isShear : GoodIn wsX5_turn wsX5_isShear := goodIn_r _ [15, 16, 17, 10, 11, 7, 12] (by decide +kernel) (by decide +kernel)
set_option maxRecDepth 20000 in
theorem gX5_turn_X5_isShear : GoodIn wsX5_turn (va_wsS RX5 174 yX5_isShear wsX5_isShear) := goodIn_app (goodIn_of _ (by decide +kernel)) ggX5_turn_X5_isShear
set_option maxRecDepth 20000 in
theorem ggX5_turn_X5_most : GoodIn wsX5_turn wsX5_most := goodIn_r _ [20, 21, 22, 23, 24, 25, 26, 27, 28, 29, 30, 7, 31, 32, 33, 34] (by decide +kernel) (by decide +kernel)
set_option maxRecDepth 20000 in
theorem gX5_turn_X5_most : GoodIn wsX5_turn (va_wsS RX5 165 yX5_most wsX5_most) := goodIn_app (goodIn_of _ (by decide +kernel)) ggX5_turn_X5_most
set_option maxRecDepth 20000 in
theorem ggX5_turn_X5_changing : GoodIn wsX5_turn wsX5_changing := goodIn_r _ [38, 39, 40, 32, 33, 23, 34, 41, 42, 2, 43, 3, 44, 45, 46, 68, 69, 70, 71, 72, 73, 74, 75, 76, 77, 78, 79, 80, 81, 82, 83, 84, 85, 86, 87, 88, 89, 90, 91] (by decide +kernel) (by decide +kernel)
set_option maxRecDepth 20000 in
theorem gX5_turn_X5_changing : GoodIn wsX5_turn (wsV RX5 101 RX5 yX5_changing wsX5_changing) := goodIn_app (goodIn_of _ (by decide +kernel)) ggX5_turn_X5_changing
set_option maxRecDepth 20000 in
theorem ggX5_turn_X5_goesAcross : GoodIn wsX5_turn wsX5_goesAcross := goodIn_r _ [50, 2, 3, 51, 18, 19, 7, 20, 21, 22, 23, 24, 25, 26, 27, 28, 29, 30, 31, 32, 33, 34, 52, 53, 54, 55, 56, 57, 58, 59, 46, 60, 61, 62, 63, 68, 69, 70, 71, 72, 73, 74, 75, 76, 77, 78, 79, 80, 81, 82, 83, 84, 85, 86, 87, 88, 89, 90, 91] (by decide +kernel) (by decide +kernel)
set_option maxRecDepth 20000 in
theorem gX5_turn_X5_goesAcross : GoodIn wsX5_turn (wsV RX5 177 RX5 yX5_goesAcross wsX5_goesAcross) := goodIn_app (goodIn_of _ (by decide +kernel)) ggX5_turn_X5_goesAcross
set_option maxRecDepth 20000 in
theorem ggX5_turn_X5_goesUp : GoodIn wsX5_turn wsX5_goesUp := goodIn_r _ [67, 3, 2, 51, 18, 19, 7, 20, 21, 22, 23, 24, 25, 26, 27, 28, 29, 30, 31, 32, 33, 34, 52, 53, 54, 55, 56, 57, 58, 59, 46, 60, 61, 62, 63, 68, 69, 70, 71, 72, 73, 74, 75, 76, 77, 78, 79, 80, 81, 82, 83, 84, 85, 86, 87, 88, 89, 90, 91] (by decide +kernel) (by decide +kernel)
set_option maxRecDepth 20000 in
theorem gX5_turn_X5_goesUp : GoodIn wsX5_turn (wsV RX5 181 RX5 yX5_goesUp wsX5_goesUp) := goodIn_app (goodIn_of _ (by decide +kernel)) ggX5_turn_X5_goesUp
theorem dX5_turn_0 : decode cX5_turn 0 = .ok (.aload_n 0, 1) := by decide +kernel
theorem dX5_turn_1 : decode cX5_turn 1 = .ok (.iconst 0, 1) := by decide +kernel
theorem dX5_turn_2 : decode cX5_turn 2 = .ok (.putfield 64, 3) := by decide +kernel
theorem dX5_turn_5 : decode cX5_turn 5 = .ok (.aload_n 0, 1) := by decide +kernel
theorem dX5_turn_6 : decode cX5_turn 6 = .ok (.iload_n 1, 1) := by decide +kernel
theorem dX5_turn_7 : decode cX5_turn 7 = .ok (.invokevirtual 81, 3) := by decide +kernel
theorem dX5_turn_10 : decode cX5_turn 10 = .ok (.ifCond .eq 17, 3) := by decide +kernel
theorem dX5_turn_13 : decode cX5_turn 13 = .ok (.iload_n 2, 1) := by decide +kernel
theorem dX5_turn_14 : decode cX5_turn 14 = .ok (.invokestatic 174, 3) := by decide +kernel
theorem dX5_turn_17 : decode cX5_turn 17 = .ok (.ifCond .eq 10, 3) := by decide +kernel
theorem dX5_turn_20 : decode cX5_turn 20 = .ok (.iload_n 3, 1) := by decide +kernel
theorem dX5_turn_21 : decode cX5_turn 21 = .ok (.invokestatic 174, 3) := by decide +kernel
theorem dX5_turn_24 : decode cX5_turn 24 = .ok (.ifCond .ne 5, 3) := by decide +kernel
theorem dX5_turn_27 : decode cX5_turn 27 = .ok (.iconst 0, 1) := by decide +kernel
theorem dX5_turn_28 : decode cX5_turn 28 = .ok (.ireturn, 1) := by decide +kernel
theorem dX5_turn_29 : decode cX5_turn 29 = .ok (.aload_n 0, 1) := by decide +kernel
theorem dX5_turn_30 : decode cX5_turn 30 = .ok (.getfield 9, 3) := by decide +kernel
theorem dX5_turn_33 : decode cX5_turn 33 = .ok (.iload_n 1, 1) := by decide +kernel
theorem dX5_turn_34 : decode cX5_turn 34 = .ok (.iaload, 1) := by decide +kernel
theorem dX5_turn_35 : decode cX5_turn 35 = .ok (.iload_n 2, 1) := by decide +kernel
theorem dX5_turn_36 : decode cX5_turn 36 = .ok (.aload_n 0, 1) := by decide +kernel
theorem dX5_turn_37 : decode cX5_turn 37 = .ok (.getfield 13, 3) := by decide +kernel
theorem dX5_turn_40 : decode cX5_turn 40 = .ok (.iload_n 1, 1) := by decide +kernel
theorem dX5_turn_41 : decode cX5_turn 41 = .ok (.iaload, 1) := by decide +kernel
theorem dX5_turn_42 : decode cX5_turn 42 = .ok (.invokestatic 165, 3) := by decide +kernel
theorem dX5_turn_45 : decode cX5_turn 45 = .ok (.iadd, 1) := by decide +kernel
theorem dX5_turn_46 : decode cX5_turn 46 = .ok (.istore 4, 2) := by decide +kernel
theorem dX5_turn_48 : decode cX5_turn 48 = .ok (.iload 4, 2) := by decide +kernel
theorem dX5_turn_50 : decode cX5_turn 50 = .ok (.bipush 64, 2) := by decide +kernel
theorem dX5_turn_52 : decode cX5_turn 52 = .ok (.if_icmp .le 8, 3) := by decide +kernel
theorem dX5_turn_55 : decode cX5_turn 55 = .ok (.bipush 65, 2) := by decide +kernel
theorem dX5_turn_57 : decode cX5_turn 57 = .ok (.goto 16, 3) := by decide +kernel
theorem dX5_turn_60 : decode cX5_turn 60 = .ok (.aload_n 0, 1) := by decide +kernel
theorem dX5_turn_61 : decode cX5_turn 61 = .ok (.getfield 13, 3) := by decide +kernel
theorem dX5_turn_64 : decode cX5_turn 64 = .ok (.iload_n 1, 1) := by decide +kernel
theorem dX5_turn_65 : decode cX5_turn 65 = .ok (.iaload, 1) := by decide +kernel
theorem dX5_turn_66 : decode cX5_turn 66 = .ok (.iload_n 3, 1) := by decide +kernel
theorem dX5_turn_67 : decode cX5_turn 67 = .ok (.iload 4, 2) := by decide +kernel
theorem dX5_turn_69 : decode cX5_turn 69 = .ok (.invokestatic 165, 3) := by decide +kernel
theorem dX5_turn_72 : decode cX5_turn 72 = .ok (.iadd, 1) := by decide +kernel
theorem dX5_turn_73 : decode cX5_turn 73 = .ok (.istore 5, 2) := by decide +kernel
theorem dX5_turn_75 : decode cX5_turn 75 = .ok (.iload 4, 2) := by decide +kernel
theorem dX5_turn_77 : decode cX5_turn 77 = .ok (.bipush 64, 2) := by decide +kernel
theorem dX5_turn_79 : decode cX5_turn 79 = .ok (.if_icmp .gt 24, 3) := by decide +kernel
theorem dX5_turn_82 : decode cX5_turn 82 = .ok (.iload 5, 2) := by decide +kernel
theorem dX5_turn_84 : decode cX5_turn 84 = .ok (.bipush 64, 2) := by decide +kernel
theorem dX5_turn_86 : decode cX5_turn 86 = .ok (.if_icmp .gt 17, 3) := by decide +kernel
theorem dX5_turn_89 : decode cX5_turn 89 = .ok (.iload 4, 2) := by decide +kernel
theorem dX5_turn_91 : decode cX5_turn 91 = .ok (.iload_n 2, 1) := by decide +kernel
theorem dX5_turn_92 : decode cX5_turn 92 = .ok (.iload 5, 2) := by decide +kernel
theorem dX5_turn_94 : decode cX5_turn 94 = .ok (.invokestatic 165, 3) := by decide +kernel
theorem dX5_turn_97 : decode cX5_turn 97 = .ok (.iadd, 1) := by decide +kernel
theorem dX5_turn_98 : decode cX5_turn 98 = .ok (.bipush 64, 2) := by decide +kernel
theorem dX5_turn_100 : decode cX5_turn 100 = .ok (.if_icmp .le 5, 3) := by decide +kernel
theorem dX5_turn_103 : decode cX5_turn 103 = .ok (.iconst 0, 1) := by decide +kernel
theorem dX5_turn_104 : decode cX5_turn 104 = .ok (.ireturn, 1) := by decide +kernel
theorem dX5_turn_105 : decode cX5_turn 105 = .ok (.aload_n 0, 1) := by decide +kernel
theorem dX5_turn_106 : decode cX5_turn 106 = .ok (.iload_n 1, 1) := by decide +kernel
theorem dX5_turn_107 : decode cX5_turn 107 = .ok (.invokevirtual 101, 3) := by decide +kernel
theorem dX5_turn_110 : decode cX5_turn 110 = .ok (.aload_n 0, 1) := by decide +kernel
theorem dX5_turn_111 : decode cX5_turn 111 = .ok (.iload_n 1, 1) := by decide +kernel
theorem dX5_turn_112 : decode cX5_turn 112 = .ok (.iload_n 2, 1) := by decide +kernel
theorem dX5_turn_113 : decode cX5_turn 113 = .ok (.invokevirtual 177, 3) := by decide +kernel
theorem dX5_turn_116 : decode cX5_turn 116 = .ok (.ifCond .eq 25, 3) := by decide +kernel
theorem dX5_turn_119 : decode cX5_turn 119 = .ok (.aload_n 0, 1) := by decide +kernel
theorem dX5_turn_120 : decode cX5_turn 120 = .ok (.iload_n 1, 1) := by decide +kernel
theorem dX5_turn_121 : decode cX5_turn 121 = .ok (.iload_n 3, 1) := by decide +kernel
theorem dX5_turn_122 : decode cX5_turn 122 = .ok (.invokevirtual 181, 3) := by decide +kernel
theorem dX5_turn_125 : decode cX5_turn 125 = .ok (.ifCond .eq 16, 3) := by decide +kernel
theorem dX5_turn_128 : decode cX5_turn 128 = .ok (.aload_n 0, 1) := by decide +kernel
theorem dX5_turn_129 : decode cX5_turn 129 = .ok (.iload_n 1, 1) := by decide +kernel
theorem dX5_turn_130 : decode cX5_turn 130 = .ok (.iload_n 2, 1) := by decide +kernel
theorem dX5_turn_131 : decode cX5_turn 131 = .ok (.invokevirtual 177, 3) := by decide +kernel
theorem dX5_turn_134 : decode cX5_turn 134 = .ok (.ifCond .eq 7, 3) := by decide +kernel
theorem dX5_turn_137 : decode cX5_turn 137 = .ok (.iconst 1, 1) := by decide +kernel
theorem dX5_turn_138 : decode cX5_turn 138 = .ok (.goto 4, 3) := by decide +kernel
theorem dX5_turn_141 : decode cX5_turn 141 = .ok (.iconst 0, 1) := by decide +kernel
theorem dX5_turn_142 : decode cX5_turn 142 = .ok (.ireturn, 1) := by decide +kernel
set_option maxRecDepth 20000 in
theorem ggX5_sharpness_J9_floorDiv_7cf53 : GoodIn wsX5_sharpness wsJ9_floorDiv_7cf53 := goodIn_r _ [7] (by decide +kernel) (by decide +kernel)
set_option maxRecDepth 20000 in
theorem gX5_sharpness_J9_floorDiv_7cf53 : GoodIn wsX5_sharpness (va_wsS RX5 155 yJ9_floorDiv_7cf53 wsJ9_floorDiv_7cf53) := goodIn_app (goodIn_of _ (by decide +kernel)) ggX5_sharpness_J9_floorDiv_7cf53
set_option maxRecDepth 20000 in
theorem ggX5_sharpness_X5_least : GoodIn wsX5_sharpness wsX5_least := goodIn_r _ [11, 12, 13, 14, 15, 4, 5, 6, 7] (by decide +kernel) (by decide +kernel)
set_option maxRecDepth 20000 in
theorem gX5_sharpness_X5_least : GoodIn wsX5_sharpness (va_wsS RX5 158 yX5_least wsX5_least) := goodIn_app (goodIn_of _ (by decide +kernel)) ggX5_sharpness_X5_least
set_option maxRecDepth 20000 in
theorem ggX5_sharpness_X5_has : GoodIn wsX5_sharpness wsX5_has := goodIn_r _ [19, 20, 21, 22, 23, 24, 25, 26, 27, 28, 29, 30, 31, 32, 33, 34, 35, 36, 37, 38, 39, 40, 41, 42, 43, 44] (by decide +kernel) (by decide +kernel)
set_option maxRecDepth 20000 in
theorem gX5_sharpness_X5_has : GoodIn wsX5_sharpness (wsV RX5 109 RX5 yX5_has wsX5_has) := goodIn_app (goodIn_of _ (by decide +kernel)) ggX5_sharpness_X5_has
theorem dX5_sharpness_0 : decode cX5_sharpness 0 = .ok (.iconst 0, 1) := by decide +kernel
theorem dX5_sharpness_1 : decode cX5_sharpness 1 = .ok (.istore_n 3, 1) := by decide +kernel
theorem dX5_sharpness_2 : decode cX5_sharpness 2 = .ok (.iload_n 3, 1) := by decide +kernel
theorem dX5_sharpness_3 : decode cX5_sharpness 3 = .ok (.aload_n 0, 1) := by decide +kernel
theorem dX5_sharpness_4 : decode cX5_sharpness 4 = .ok (.getfield 49, 3) := by decide +kernel
theorem dX5_sharpness_7 : decode cX5_sharpness 7 = .ok (.arraylength, 1) := by decide +kernel
theorem dX5_sharpness_8 : decode cX5_sharpness 8 = .ok (.if_icmp .ge 16, 3) := by decide +kernel
theorem dX5_sharpness_11 : decode cX5_sharpness 11 = .ok (.aload_n 0, 1) := by decide +kernel
theorem dX5_sharpness_12 : decode cX5_sharpness 12 = .ok (.getfield 49, 3) := by decide +kernel
theorem dX5_sharpness_15 : decode cX5_sharpness 15 = .ok (.iload_n 3, 1) := by decide +kernel
theorem dX5_sharpness_16 : decode cX5_sharpness 16 = .ok (.iconst 0, 1) := by decide +kernel
theorem dX5_sharpness_17 : decode cX5_sharpness 17 = .ok (.iastore, 1) := by decide +kernel
theorem dX5_sharpness_18 : decode cX5_sharpness 18 = .ok (.iinc 3 1, 3) := by decide +kernel
theorem dX5_sharpness_21 : decode cX5_sharpness 21 = .ok (.goto (-19), 3) := by decide +kernel
theorem dX5_sharpness_24 : decode cX5_sharpness 24 = .ok (.iconst 0, 1) := by decide +kernel
theorem dX5_sharpness_25 : decode cX5_sharpness 25 = .ok (.istore_n 3, 1) := by decide +kernel
theorem dX5_sharpness_26 : decode cX5_sharpness 26 = .ok (.iload_n 3, 1) := by decide +kernel
theorem dX5_sharpness_27 : decode cX5_sharpness 27 = .ok (.aload_n 0, 1) := by decide +kernel
theorem dX5_sharpness_28 : decode cX5_sharpness 28 = .ok (.getfield 9, 3) := by decide +kernel
theorem dX5_sharpness_31 : decode cX5_sharpness 31 = .ok (.iload_n 1, 1) := by decide +kernel
theorem dX5_sharpness_32 : decode cX5_sharpness 32 = .ok (.iaload, 1) := by decide +kernel
theorem dX5_sharpness_33 : decode cX5_sharpness 33 = .ok (.if_icmp .ge 79, 3) := by decide +kernel
theorem dX5_sharpness_36 : decode cX5_sharpness 36 = .ok (.iload_n 2, 1) := by decide +kernel
theorem dX5_sharpness_37 : decode cX5_sharpness 37 = .ok (.iload_n 3, 1) := by decide +kernel
theorem dX5_sharpness_38 : decode cX5_sharpness 38 = .ok (.imul, 1) := by decide +kernel
theorem dX5_sharpness_39 : decode cX5_sharpness 39 = .ok (.bipush 16, 2) := by decide +kernel
theorem dX5_sharpness_41 : decode cX5_sharpness 41 = .ok (.invokestatic 155, 3) := by decide +kernel
theorem dX5_sharpness_44 : decode cX5_sharpness 44 = .ok (.iload_n 2, 1) := by decide +kernel
theorem dX5_sharpness_45 : decode cX5_sharpness 45 = .ok (.aload_n 0, 1) := by decide +kernel
theorem dX5_sharpness_46 : decode cX5_sharpness 46 = .ok (.getfield 9, 3) := by decide +kernel
theorem dX5_sharpness_49 : decode cX5_sharpness 49 = .ok (.iload_n 1, 1) := by decide +kernel
theorem dX5_sharpness_50 : decode cX5_sharpness 50 = .ok (.iaload, 1) := by decide +kernel
theorem dX5_sharpness_51 : decode cX5_sharpness 51 = .ok (.invokestatic 158, 3) := by decide +kernel
theorem dX5_sharpness_54 : decode cX5_sharpness 54 = .ok (.isub, 1) := by decide +kernel
theorem dX5_sharpness_55 : decode cX5_sharpness 55 = .ok (.istore 4, 2) := by decide +kernel
theorem dX5_sharpness_57 : decode cX5_sharpness 57 = .ok (.iconst 0, 1) := by decide +kernel
theorem dX5_sharpness_58 : decode cX5_sharpness 58 = .ok (.istore 5, 2) := by decide +kernel
theorem dX5_sharpness_60 : decode cX5_sharpness 60 = .ok (.iload 5, 2) := by decide +kernel
theorem dX5_sharpness_62 : decode cX5_sharpness 62 = .ok (.aload_n 0, 1) := by decide +kernel
theorem dX5_sharpness_63 : decode cX5_sharpness 63 = .ok (.getfield 13, 3) := by decide +kernel
theorem dX5_sharpness_66 : decode cX5_sharpness 66 = .ok (.iload_n 1, 1) := by decide +kernel
theorem dX5_sharpness_67 : decode cX5_sharpness 67 = .ok (.iaload, 1) := by decide +kernel
theorem dX5_sharpness_68 : decode cX5_sharpness 68 = .ok (.if_icmp .ge 38, 3) := by decide +kernel
theorem dX5_sharpness_71 : decode cX5_sharpness 71 = .ok (.aload_n 0, 1) := by decide +kernel
theorem dX5_sharpness_72 : decode cX5_sharpness 72 = .ok (.getfield 49, 3) := by decide +kernel
theorem dX5_sharpness_75 : decode cX5_sharpness 75 = .ok (.iload 5, 2) := by decide +kernel
theorem dX5_sharpness_77 : decode cX5_sharpness 77 = .ok (.iload 4, 2) := by decide +kernel
theorem dX5_sharpness_79 : decode cX5_sharpness 79 = .ok (.iadd, 1) := by decide +kernel
theorem dX5_sharpness_80 : decode cX5_sharpness 80 = .ok (.dup2, 1) := by decide +kernel
theorem dX5_sharpness_81 : decode cX5_sharpness 81 = .ok (.iaload, 1) := by decide +kernel
theorem dX5_sharpness_82 : decode cX5_sharpness 82 = .ok (.aload_n 0, 1) := by decide +kernel
theorem dX5_sharpness_83 : decode cX5_sharpness 83 = .ok (.iload_n 1, 1) := by decide +kernel
theorem dX5_sharpness_84 : decode cX5_sharpness 84 = .ok (.iload_n 3, 1) := by decide +kernel
theorem dX5_sharpness_85 : decode cX5_sharpness 85 = .ok (.iload 5, 2) := by decide +kernel
theorem dX5_sharpness_87 : decode cX5_sharpness 87 = .ok (.invokevirtual 109, 3) := by decide +kernel
theorem dX5_sharpness_90 : decode cX5_sharpness 90 = .ok (.ifCond .eq 7, 3) := by decide +kernel
theorem dX5_sharpness_93 : decode cX5_sharpness 93 = .ok (.iconst 1, 1) := by decide +kernel
theorem dX5_sharpness_94 : decode cX5_sharpness 94 = .ok (.goto 4, 3) := by decide +kernel
theorem dX5_sharpness_97 : decode cX5_sharpness 97 = .ok (.iconst 0, 1) := by decide +kernel
theorem dX5_sharpness_98 : decode cX5_sharpness 98 = .ok (.iadd, 1) := by decide +kernel
theorem dX5_sharpness_99 : decode cX5_sharpness 99 = .ok (.iastore, 1) := by decide +kernel
theorem dX5_sharpness_100 : decode cX5_sharpness 100 = .ok (.iinc 5 1, 3) := by decide +kernel
theorem dX5_sharpness_103 : decode cX5_sharpness 103 = .ok (.goto (-43), 3) := by decide +kernel
theorem dX5_sharpness_106 : decode cX5_sharpness 106 = .ok (.iinc 3 1, 3) := by decide +kernel
theorem dX5_sharpness_109 : decode cX5_sharpness 109 = .ok (.goto (-83), 3) := by decide +kernel
theorem dX5_sharpness_112 : decode cX5_sharpness 112 = .ok (.iconst 0, 1) := by decide +kernel
theorem dX5_sharpness_113 : decode cX5_sharpness 113 = .ok (.istore_n 3, 1) := by decide +kernel
theorem dX5_sharpness_114 : decode cX5_sharpness 114 = .ok (.iconst 0, 1) := by decide +kernel
theorem dX5_sharpness_115 : decode cX5_sharpness 115 = .ok (.istore 4, 2) := by decide +kernel
theorem dX5_sharpness_117 : decode cX5_sharpness 117 = .ok (.iload 4, 2) := by decide +kernel
theorem dX5_sharpness_119 : decode cX5_sharpness 119 = .ok (.aload_n 0, 1) := by decide +kernel
theorem dX5_sharpness_120 : decode cX5_sharpness 120 = .ok (.getfield 49, 3) := by decide +kernel
theorem dX5_sharpness_123 : decode cX5_sharpness 123 = .ok (.arraylength, 1) := by decide +kernel
theorem dX5_sharpness_124 : decode cX5_sharpness 124 = .ok (.if_icmp .ge 27, 3) := by decide +kernel
theorem dX5_sharpness_127 : decode cX5_sharpness 127 = .ok (.iload_n 3, 1) := by decide +kernel
theorem dX5_sharpness_128 : decode cX5_sharpness 128 = .ok (.aload_n 0, 1) := by decide +kernel
theorem dX5_sharpness_129 : decode cX5_sharpness 129 = .ok (.getfield 49, 3) := by decide +kernel
theorem dX5_sharpness_132 : decode cX5_sharpness 132 = .ok (.iload 4, 2) := by decide +kernel
theorem dX5_sharpness_134 : decode cX5_sharpness 134 = .ok (.iaload, 1) := by decide +kernel
theorem dX5_sharpness_135 : decode cX5_sharpness 135 = .ok (.aload_n 0, 1) := by decide +kernel
theorem dX5_sharpness_136 : decode cX5_sharpness 136 = .ok (.getfield 49, 3) := by decide +kernel
theorem dX5_sharpness_139 : decode cX5_sharpness 139 = .ok (.iload 4, 2) := by decide +kernel
theorem dX5_sharpness_141 : decode cX5_sharpness 141 = .ok (.iaload, 1) := by decide +kernel
theorem dX5_sharpness_142 : decode cX5_sharpness 142 = .ok (.imul, 1) := by decide +kernel
theorem dX5_sharpness_143 : decode cX5_sharpness 143 = .ok (.iadd, 1) := by decide +kernel
theorem dX5_sharpness_144 : decode cX5_sharpness 144 = .ok (.istore_n 3, 1) := by decide +kernel
theorem dX5_sharpness_145 : decode cX5_sharpness 145 = .ok (.iinc 4 1, 3) := by decide +kernel
theorem dX5_sharpness_148 : decode cX5_sharpness 148 = .ok (.goto (-31), 3) := by decide +kernel
theorem dX5_sharpness_151 : decode cX5_sharpness 151 = .ok (.iload_n 3, 1) := by decide +kernel
theorem dX5_sharpness_152 : decode cX5_sharpness 152 = .ok (.ireturn, 1) := by decide +kernel
set_option maxRecDepth 20000 in
theorem ggX5_sharp_X5_isPage : GoodIn wsX5_sharp wsX5_isPage := goodIn_r _ [8, 9, 10, 11, 7, 12, 36, 37, 38, 39, 40, 41, 42, 43, 44, 45, 46, 47, 48, 49, 50, 51, 52, 53, 54, 55, 56, 57, 58, 59] (by decide +kernel) (by decide +kernel)
set_option maxRecDepth 20000 in
theorem gX5_sharp_X5_isPage : GoodIn wsX5_sharp (wsV RX5 81 RX5 yX5_isPage wsX5_isPage) := goodIn_app (goodIn_of _ (by decide +kernel)) ggX5_sharp_X5_isPage
set_option maxRecDepth 20000 in
theorem ggX5_sharp_X5_in : GoodIn wsX5_sharp wsX5_in := goodIn_r _ [12] (by decide +kernel) (by decide +kernel)
set_option maxRecDepth 20000 in
theorem gX5_sharp_X5_in : GoodIn wsX5_sharp (va_wsS RX5 71 yX5_in wsX5_in) := goodIn_app (goodIn_of _ (by decide +kernel)) ggX5_sharp_X5_in
set_option maxRecDepth 20000 in
theorem ggX5_sharp_X5_sharpness : GoodIn wsX5_sharp wsX5_sharpness := goodIn_r _ [16, 17, 18, 19, 20, 21, 22, 23, 24, 25, 7, 26, 27, 28, 29, 30, 31, 32, 33, 34, 35, 36, 37, 38, 39, 40, 41, 42, 43, 44, 45, 46, 47, 48, 49, 50, 51, 52, 53, 54, 55, 56, 57, 58, 59] (by decide +kernel) (by decide +kernel)
set_option maxRecDepth 20000 in
theorem gX5_sharp_X5_sharpness : GoodIn wsX5_sharp (wsV RX5 188 RX5 yX5_sharpness wsX5_sharpness) := goodIn_app (goodIn_of _ (by decide +kernel)) ggX5_sharp_X5_sharpness
theorem dX5_sharp_0 : decode cX5_sharp 0 = .ok (.aload_n 0, 1) := by decide +kernel
theorem dX5_sharp_1 : decode cX5_sharp 1 = .ok (.iconst 0, 1) := by decide +kernel
theorem dX5_sharp_2 : decode cX5_sharp 2 = .ok (.putfield 64, 3) := by decide +kernel
theorem dX5_sharp_5 : decode cX5_sharp 5 = .ok (.aload_n 0, 1) := by decide +kernel
theorem dX5_sharp_6 : decode cX5_sharp 6 = .ok (.iload_n 1, 1) := by decide +kernel
theorem dX5_sharp_7 : decode cX5_sharp 7 = .ok (.invokevirtual 81, 3) := by decide +kernel
theorem dX5_sharp_10 : decode cX5_sharp 10 = .ok (.ifCond .eq 26, 3) := by decide +kernel
theorem dX5_sharp_13 : decode cX5_sharp 13 = .ok (.iload_n 2, 1) := by decide +kernel
theorem dX5_sharp_14 : decode cX5_sharp 14 = .ok (.i2l, 1) := by decide +kernel
theorem dX5_sharp_15 : decode cX5_sharp 15 = .ok (.ldc2_w 184, 3) := by decide +kernel
theorem dX5_sharp_18 : decode cX5_sharp 18 = .ok (.ldc2_w 186, 3) := by decide +kernel
theorem dX5_sharp_21 : decode cX5_sharp 21 = .ok (.invokestatic 71, 3) := by decide +kernel
theorem dX5_sharp_24 : decode cX5_sharp 24 = .ok (.ifCond .eq 12, 3) := by decide +kernel
theorem dX5_sharp_27 : decode cX5_sharp 27 = .ok (.aload_n 0, 1) := by decide +kernel
theorem dX5_sharp_28 : decode cX5_sharp 28 = .ok (.iload_n 1, 1) := by decide +kernel
theorem dX5_sharp_29 : decode cX5_sharp 29 = .ok (.iload_n 2, 1) := by decide +kernel
theorem dX5_sharp_30 : decode cX5_sharp 30 = .ok (.invokevirtual 188, 3) := by decide +kernel
theorem dX5_sharp_33 : decode cX5_sharp 33 = .ok (.goto 4, 3) := by decide +kernel
theorem dX5_sharp_36 : decode cX5_sharp 36 = .ok (.iconst (-1), 1) := by decide +kernel
theorem dX5_sharp_37 : decode cX5_sharp 37 = .ok (.ireturn, 1) := by decide +kernel
set_option maxRecDepth 20000 in
theorem ggX5_angle_X5_isPage : GoodIn wsX5_angle wsX5_isPage := goodIn_r _ [7, 8, 9, 10, 6, 11, 38, 39, 40, 41, 42, 43, 44, 45, 46, 47, 48, 49, 50, 51, 52, 53, 54, 55, 56, 57, 58, 59, 60, 61] (by decide +kernel) (by decide +kernel)
set_option maxRecDepth 20000 in
theorem gX5_angle_X5_isPage : GoodIn wsX5_angle (wsV RX5 81 RX5 yX5_isPage wsX5_isPage) := goodIn_app (goodIn_of _ (by decide +kernel)) ggX5_angle_X5_isPage
set_option maxRecDepth 20000 in
theorem ggX5_angle_X5_rowInk : GoodIn wsX5_angle wsX5_rowInk := goodIn_r _ [15, 16, 17, 18, 19, 6, 20, 21, 38, 39, 40, 41, 42, 43, 44, 45, 46, 47, 48, 49, 50, 51, 52, 53, 54, 55, 56, 57, 58, 59, 60, 61] (by decide +kernel) (by decide +kernel)
set_option maxRecDepth 20000 in
theorem gX5_angle_X5_rowInk : GoodIn wsX5_angle (wsV RX5 116 RX5 yX5_rowInk wsX5_rowInk) := goodIn_app (goodIn_of _ (by decide +kernel)) ggX5_angle_X5_rowInk
set_option maxRecDepth 20000 in
theorem ggX5_angle_X5_sharpness : GoodIn wsX5_angle wsX5_sharpness := goodIn_r _ [25, 26, 16, 2, 27, 28, 29, 30, 31, 32, 6, 33, 34, 35, 36, 37, 17, 18, 19, 20, 21, 38, 39, 40, 41, 42, 43, 44, 45, 46, 47, 48, 49, 50, 51, 52, 53, 54, 55, 56, 57, 58, 59, 60, 61] (by decide +kernel) (by decide +kernel)
set_option maxRecDepth 20000 in
theorem gX5_angle_X5_sharpness : GoodIn wsX5_angle (wsV RX5 188 RX5 yX5_sharpness wsX5_sharpness) := goodIn_app (goodIn_of _ (by decide +kernel)) ggX5_angle_X5_sharpness
theorem dX5_angle_0 : decode cX5_angle 0 = .ok (.aload_n 0, 1) := by decide +kernel
theorem dX5_angle_1 : decode cX5_angle 1 = .ok (.iconst 0, 1) := by decide +kernel
theorem dX5_angle_2 : decode cX5_angle 2 = .ok (.putfield 64, 3) := by decide +kernel
theorem dX5_angle_5 : decode cX5_angle 5 = .ok (.aload_n 0, 1) := by decide +kernel
theorem dX5_angle_6 : decode cX5_angle 6 = .ok (.iload_n 1, 1) := by decide +kernel
theorem dX5_angle_7 : decode cX5_angle 7 = .ok (.invokevirtual 81, 3) := by decide +kernel
theorem dX5_angle_10 : decode cX5_angle 10 = .ok (.ifCond .ne 5, 3) := by decide +kernel
theorem dX5_angle_13 : decode cX5_angle 13 = .ok (.iconst (-1), 1) := by decide +kernel
theorem dX5_angle_14 : decode cX5_angle 14 = .ok (.ireturn, 1) := by decide +kernel
theorem dX5_angle_15 : decode cX5_angle 15 = .ok (.iconst 0, 1) := by decide +kernel
theorem dX5_angle_16 : decode cX5_angle 16 = .ok (.istore_n 2, 1) := by decide +kernel
theorem dX5_angle_17 : decode cX5_angle 17 = .ok (.iconst 0, 1) := by decide +kernel
theorem dX5_angle_18 : decode cX5_angle 18 = .ok (.istore_n 3, 1) := by decide +kernel
theorem dX5_angle_19 : decode cX5_angle 19 = .ok (.iload_n 3, 1) := by decide +kernel
theorem dX5_angle_20 : decode cX5_angle 20 = .ok (.aload_n 0, 1) := by decide +kernel
theorem dX5_angle_21 : decode cX5_angle 21 = .ok (.getfield 13, 3) := by decide +kernel
theorem dX5_angle_24 : decode cX5_angle 24 = .ok (.iload_n 1, 1) := by decide +kernel
theorem dX5_angle_25 : decode cX5_angle 25 = .ok (.iaload, 1) := by decide +kernel
theorem dX5_angle_26 : decode cX5_angle 26 = .ok (.if_icmp .ge 26, 3) := by decide +kernel
theorem dX5_angle_29 : decode cX5_angle 29 = .ok (.iload_n 2, 1) := by decide +kernel
theorem dX5_angle_30 : decode cX5_angle 30 = .ok (.aload_n 0, 1) := by decide +kernel
theorem dX5_angle_31 : decode cX5_angle 31 = .ok (.iload_n 1, 1) := by decide +kernel
theorem dX5_angle_32 : decode cX5_angle 32 = .ok (.iload_n 3, 1) := by decide +kernel
theorem dX5_angle_33 : decode cX5_angle 33 = .ok (.invokevirtual 116, 3) := by decide +kernel
theorem dX5_angle_36 : decode cX5_angle 36 = .ok (.ifCond .le 7, 3) := by decide +kernel
theorem dX5_angle_39 : decode cX5_angle 39 = .ok (.iconst 1, 1) := by decide +kernel
theorem dX5_angle_40 : decode cX5_angle 40 = .ok (.goto 4, 3) := by decide +kernel
theorem dX5_angle_43 : decode cX5_angle 43 = .ok (.iconst 0, 1) := by decide +kernel
theorem dX5_angle_44 : decode cX5_angle 44 = .ok (.iadd, 1) := by decide +kernel
theorem dX5_angle_45 : decode cX5_angle 45 = .ok (.istore_n 2, 1) := by decide +kernel
theorem dX5_angle_46 : decode cX5_angle 46 = .ok (.iinc 3 1, 3) := by decide +kernel
theorem dX5_angle_49 : decode cX5_angle 49 = .ok (.goto (-30), 3) := by decide +kernel
theorem dX5_angle_52 : decode cX5_angle 52 = .ok (.iload_n 2, 1) := by decide +kernel
theorem dX5_angle_53 : decode cX5_angle 53 = .ok (.iconst 2, 1) := by decide +kernel
theorem dX5_angle_54 : decode cX5_angle 54 = .ok (.if_icmp .ge 6, 3) := by decide +kernel
theorem dX5_angle_57 : decode cX5_angle 57 = .ok (.bipush 100, 2) := by decide +kernel
theorem dX5_angle_59 : decode cX5_angle 59 = .ok (.ireturn, 1) := by decide +kernel
theorem dX5_angle_60 : decode cX5_angle 60 = .ok (.iconst 0, 1) := by decide +kernel
theorem dX5_angle_61 : decode cX5_angle 61 = .ok (.istore_n 3, 1) := by decide +kernel
theorem dX5_angle_62 : decode cX5_angle 62 = .ok (.aload_n 0, 1) := by decide +kernel
theorem dX5_angle_63 : decode cX5_angle 63 = .ok (.iload_n 1, 1) := by decide +kernel
theorem dX5_angle_64 : decode cX5_angle 64 = .ok (.iconst 0, 1) := by decide +kernel
theorem dX5_angle_65 : decode cX5_angle 65 = .ok (.invokevirtual 188, 3) := by decide +kernel
theorem dX5_angle_68 : decode cX5_angle 68 = .ok (.istore 4, 2) := by decide +kernel
theorem dX5_angle_70 : decode cX5_angle 70 = .ok (.iconst 1, 1) := by decide +kernel
theorem dX5_angle_71 : decode cX5_angle 71 = .ok (.istore 5, 2) := by decide +kernel
theorem dX5_angle_73 : decode cX5_angle 73 = .ok (.iload 5, 2) := by decide +kernel
theorem dX5_angle_75 : decode cX5_angle 75 = .ok (.bipush 12, 2) := by decide +kernel
theorem dX5_angle_77 : decode cX5_angle 77 = .ok (.if_icmp .gt 53, 3) := by decide +kernel
theorem dX5_angle_80 : decode cX5_angle 80 = .ok (.iconst 1, 1) := by decide +kernel
theorem dX5_angle_81 : decode cX5_angle 81 = .ok (.istore 6, 2) := by decide +kernel
theorem dX5_angle_83 : decode cX5_angle 83 = .ok (.iload 6, 2) := by decide +kernel
theorem dX5_angle_85 : decode cX5_angle 85 = .ok (.iconst (-1), 1) := by decide +kernel
theorem dX5_angle_86 : decode cX5_angle 86 = .ok (.if_icmp .lt 38, 3) := by decide +kernel
theorem dX5_angle_89 : decode cX5_angle 89 = .ok (.aload_n 0, 1) := by decide +kernel
theorem dX5_angle_90 : decode cX5_angle 90 = .ok (.iload_n 1, 1) := by decide +kernel
theorem dX5_angle_91 : decode cX5_angle 91 = .ok (.iload 6, 2) := by decide +kernel
theorem dX5_angle_93 : decode cX5_angle 93 = .ok (.iload 5, 2) := by decide +kernel
theorem dX5_angle_95 : decode cX5_angle 95 = .ok (.imul, 1) := by decide +kernel
theorem dX5_angle_96 : decode cX5_angle 96 = .ok (.invokevirtual 188, 3) := by decide +kernel
theorem dX5_angle_99 : decode cX5_angle 99 = .ok (.istore 7, 2) := by decide +kernel
theorem dX5_angle_101 : decode cX5_angle 101 = .ok (.iload 7, 2) := by decide +kernel
theorem dX5_angle_103 : decode cX5_angle 103 = .ok (.iload 4, 2) := by decide +kernel
theorem dX5_angle_105 : decode cX5_angle 105 = .ok (.if_icmp .le 13, 3) := by decide +kernel
theorem dX5_angle_108 : decode cX5_angle 108 = .ok (.iload 7, 2) := by decide +kernel
theorem dX5_angle_110 : decode cX5_angle 110 = .ok (.istore 4, 2) := by decide +kernel
theorem dX5_angle_112 : decode cX5_angle 112 = .ok (.iload 6, 2) := by decide +kernel
theorem dX5_angle_114 : decode cX5_angle 114 = .ok (.iload 5, 2) := by decide +kernel
theorem dX5_angle_116 : decode cX5_angle 116 = .ok (.imul, 1) := by decide +kernel
theorem dX5_angle_117 : decode cX5_angle 117 = .ok (.istore_n 3, 1) := by decide +kernel
theorem dX5_angle_118 : decode cX5_angle 118 = .ok (.iinc 6 (-2), 3) := by decide +kernel
theorem dX5_angle_121 : decode cX5_angle 121 = .ok (.goto (-38), 3) := by decide +kernel
theorem dX5_angle_124 : decode cX5_angle 124 = .ok (.iinc 5 1, 3) := by decide +kernel
theorem dX5_angle_127 : decode cX5_angle 127 = .ok (.goto (-54), 3) := by decide +kernel
theorem dX5_angle_130 : decode cX5_angle 130 = .ok (.iload_n 3, 1) := by decide +kernel
theorem dX5_angle_131 : decode cX5_angle 131 = .ok (.ireturn, 1) := by decide +kernel
theorem dX5_steps_0 : decode cX5_steps 0 = .ok (.aload_n 0, 1) := by decide +kernel
theorem dX5_steps_1 : decode cX5_steps 1 = .ok (.getfield 9, 3) := by decide +kernel
theorem dX5_steps_4 : decode cX5_steps 4 = .ok (.iload_n 1, 1) := by decide +kernel
theorem dX5_steps_5 : decode cX5_steps 5 = .ok (.iaload, 1) := by decide +kernel
theorem dX5_steps_6 : decode cX5_steps 6 = .ok (.bipush 7, 2) := by decide +kernel
theorem dX5_steps_8 : decode cX5_steps 8 = .ok (.iadd, 1) := by decide +kernel
theorem dX5_steps_9 : decode cX5_steps 9 = .ok (.bipush 8, 2) := by decide +kernel
theorem dX5_steps_11 : decode cX5_steps 11 = .ok (.idiv, 1) := by decide +kernel
theorem dX5_steps_12 : decode cX5_steps 12 = .ok (.ireturn, 1) := by decide +kernel
set_option maxRecDepth 20000 in
theorem ggX5_footOf_X5_has : GoodIn wsX5_footOf wsX5_has := goodIn_r _ [7, 8, 9, 10, 11, 12, 13, 14, 15, 16, 17, 18, 19, 20, 21, 22, 23, 24, 25, 26, 27, 28, 29, 30, 31, 32] (by decide +kernel) (by decide +kernel)
set_option maxRecDepth 20000 in
theorem gX5_footOf_X5_has : GoodIn wsX5_footOf (wsV RX5 109 RX5 yX5_has wsX5_has) := goodIn_app (goodIn_of _ (by decide +kernel)) ggX5_footOf_X5_has
theorem dX5_footOf_0 : decode cX5_footOf 0 = .ok (.aload_n 0, 1) := by decide +kernel
theorem dX5_footOf_1 : decode cX5_footOf 1 = .ok (.getfield 13, 3) := by decide +kernel
theorem dX5_footOf_4 : decode cX5_footOf 4 = .ok (.iload_n 1, 1) := by decide +kernel
theorem dX5_footOf_5 : decode cX5_footOf 5 = .ok (.iaload, 1) := by decide +kernel
theorem dX5_footOf_6 : decode cX5_footOf 6 = .ok (.iconst 1, 1) := by decide +kernel
theorem dX5_footOf_7 : decode cX5_footOf 7 = .ok (.isub, 1) := by decide +kernel
theorem dX5_footOf_8 : decode cX5_footOf 8 = .ok (.istore_n 3, 1) := by decide +kernel
theorem dX5_footOf_9 : decode cX5_footOf 9 = .ok (.iload_n 3, 1) := by decide +kernel
theorem dX5_footOf_10 : decode cX5_footOf 10 = .ok (.ifCond .lt 57, 3) := by decide +kernel
theorem dX5_footOf_13 : decode cX5_footOf 13 = .ok (.bipush 8, 2) := by decide +kernel
theorem dX5_footOf_15 : decode cX5_footOf 15 = .ok (.iload_n 2, 1) := by decide +kernel
theorem dX5_footOf_16 : decode cX5_footOf 16 = .ok (.imul, 1) := by decide +kernel
theorem dX5_footOf_17 : decode cX5_footOf 17 = .ok (.istore 4, 2) := by decide +kernel
theorem dX5_footOf_19 : decode cX5_footOf 19 = .ok (.iload 4, 2) := by decide +kernel
theorem dX5_footOf_21 : decode cX5_footOf 21 = .ok (.bipush 8, 2) := by decide +kernel
theorem dX5_footOf_23 : decode cX5_footOf 23 = .ok (.iload_n 2, 1) := by decide +kernel
theorem dX5_footOf_24 : decode cX5_footOf 24 = .ok (.imul, 1) := by decide +kernel
theorem dX5_footOf_25 : decode cX5_footOf 25 = .ok (.bipush 8, 2) := by decide +kernel
theorem dX5_footOf_27 : decode cX5_footOf 27 = .ok (.iadd, 1) := by decide +kernel
theorem dX5_footOf_28 : decode cX5_footOf 28 = .ok (.if_icmp .ge 33, 3) := by decide +kernel
theorem dX5_footOf_31 : decode cX5_footOf 31 = .ok (.iload 4, 2) := by decide +kernel
theorem dX5_footOf_33 : decode cX5_footOf 33 = .ok (.aload_n 0, 1) := by decide +kernel
theorem dX5_footOf_34 : decode cX5_footOf 34 = .ok (.getfield 9, 3) := by decide +kernel
theorem dX5_footOf_37 : decode cX5_footOf 37 = .ok (.iload_n 1, 1) := by decide +kernel
theorem dX5_footOf_38 : decode cX5_footOf 38 = .ok (.iaload, 1) := by decide +kernel
theorem dX5_footOf_39 : decode cX5_footOf 39 = .ok (.if_icmp .ge 22, 3) := by decide +kernel
theorem dX5_footOf_42 : decode cX5_footOf 42 = .ok (.aload_n 0, 1) := by decide +kernel
theorem dX5_footOf_43 : decode cX5_footOf 43 = .ok (.iload_n 1, 1) := by decide +kernel
theorem dX5_footOf_44 : decode cX5_footOf 44 = .ok (.iload 4, 2) := by decide +kernel
theorem dX5_footOf_46 : decode cX5_footOf 46 = .ok (.iload_n 3, 1) := by decide +kernel
theorem dX5_footOf_47 : decode cX5_footOf 47 = .ok (.invokevirtual 109, 3) := by decide +kernel
theorem dX5_footOf_50 : decode cX5_footOf 50 = .ok (.ifCond .eq 5, 3) := by decide +kernel
theorem dX5_footOf_53 : decode cX5_footOf 53 = .ok (.iload_n 3, 1) := by decide +kernel
theorem dX5_footOf_54 : decode cX5_footOf 54 = .ok (.ireturn, 1) := by decide +kernel
theorem dX5_footOf_55 : decode cX5_footOf 55 = .ok (.iinc 4 1, 3) := by decide +kernel
theorem dX5_footOf_58 : decode cX5_footOf 58 = .ok (.goto (-39), 3) := by decide +kernel
theorem dX5_footOf_61 : decode cX5_footOf 61 = .ok (.iinc 3 (-1), 3) := by decide +kernel
theorem dX5_footOf_64 : decode cX5_footOf 64 = .ok (.goto (-55), 3) := by decide +kernel
theorem dX5_footOf_67 : decode cX5_footOf 67 = .ok (.bipush 100, 2) := by decide +kernel
theorem dX5_footOf_69 : decode cX5_footOf 69 = .ok (.ireturn, 1) := by decide +kernel
set_option maxRecDepth 20000 in
theorem ggX5_foot_X5_isPage : GoodIn wsX5_foot wsX5_isPage := goodIn_r _ [6, 7, 8, 9, 5, 10, 26, 27, 28, 29, 30, 31, 32, 33, 34, 35, 36, 37, 38, 39, 40, 41, 42, 43, 44, 45, 46, 47, 48, 49] (by decide +kernel) (by decide +kernel)
set_option maxRecDepth 20000 in
theorem gX5_foot_X5_isPage : GoodIn wsX5_foot (wsV RX5 81 RX5 yX5_isPage wsX5_isPage) := goodIn_app (goodIn_of _ (by decide +kernel)) ggX5_foot_X5_isPage
set_option maxRecDepth 20000 in
theorem ggX5_foot_X5_steps : GoodIn wsX5_foot wsX5_steps := goodIn_r _ [14, 15, 26, 27, 28, 29, 30, 31, 32, 33, 34, 35, 36, 37, 38, 39, 40, 41, 42, 43, 44, 45, 46, 47, 48, 49] (by decide +kernel) (by decide +kernel)
set_option maxRecDepth 20000 in
theorem gX5_foot_X5_steps : GoodIn wsX5_foot (wsV RX5 191 RX5 yX5_steps wsX5_steps) := goodIn_app (goodIn_of _ (by decide +kernel)) ggX5_foot_X5_steps
set_option maxRecDepth 20000 in
theorem ggX5_foot_X5_in : GoodIn wsX5_foot wsX5_in := goodIn_r _ [10] (by decide +kernel) (by decide +kernel)
set_option maxRecDepth 20000 in
theorem gX5_foot_X5_in : GoodIn wsX5_foot (va_wsS RX5 71 yX5_in wsX5_in) := goodIn_app (goodIn_of _ (by decide +kernel)) ggX5_foot_X5_in
set_option maxRecDepth 20000 in
theorem ggX5_foot_X5_footOf : GoodIn wsX5_foot wsX5_footOf := goodIn_r _ [19, 20, 15, 21, 22, 23, 5, 24, 25, 26, 27, 28, 29, 30, 31, 32, 33, 34, 35, 36, 37, 38, 39, 40, 41, 42, 43, 44, 45, 46, 47, 48, 49] (by decide +kernel) (by decide +kernel)
set_option maxRecDepth 20000 in
theorem gX5_foot_X5_footOf : GoodIn wsX5_foot (wsV RX5 195 RX5 yX5_footOf wsX5_footOf) := goodIn_app (goodIn_of _ (by decide +kernel)) ggX5_foot_X5_footOf
theorem dX5_foot_0 : decode cX5_foot 0 = .ok (.aload_n 0, 1) := by decide +kernel
theorem dX5_foot_1 : decode cX5_foot 1 = .ok (.iconst 0, 1) := by decide +kernel
theorem dX5_foot_2 : decode cX5_foot 2 = .ok (.putfield 64, 3) := by decide +kernel
theorem dX5_foot_5 : decode cX5_foot 5 = .ok (.aload_n 0, 1) := by decide +kernel
theorem dX5_foot_6 : decode cX5_foot 6 = .ok (.iload_n 1, 1) := by decide +kernel
theorem dX5_foot_7 : decode cX5_foot 7 = .ok (.invokevirtual 81, 3) := by decide +kernel
theorem dX5_foot_10 : decode cX5_foot 10 = .ok (.ifCond .eq 29, 3) := by decide +kernel
theorem dX5_foot_13 : decode cX5_foot 13 = .ok (.iload_n 2, 1) := by decide +kernel
theorem dX5_foot_14 : decode cX5_foot 14 = .ok (.i2l, 1) := by decide +kernel
theorem dX5_foot_15 : decode cX5_foot 15 = .ok (.lconst 0, 1) := by decide +kernel
theorem dX5_foot_16 : decode cX5_foot 16 = .ok (.aload_n 0, 1) := by decide +kernel
theorem dX5_foot_17 : decode cX5_foot 17 = .ok (.iload_n 1, 1) := by decide +kernel
theorem dX5_foot_18 : decode cX5_foot 18 = .ok (.invokevirtual 191, 3) := by decide +kernel
theorem dX5_foot_21 : decode cX5_foot 21 = .ok (.iconst 1, 1) := by decide +kernel
theorem dX5_foot_22 : decode cX5_foot 22 = .ok (.isub, 1) := by decide +kernel
theorem dX5_foot_23 : decode cX5_foot 23 = .ok (.i2l, 1) := by decide +kernel
theorem dX5_foot_24 : decode cX5_foot 24 = .ok (.invokestatic 71, 3) := by decide +kernel
theorem dX5_foot_27 : decode cX5_foot 27 = .ok (.ifCond .eq 12, 3) := by decide +kernel
theorem dX5_foot_30 : decode cX5_foot 30 = .ok (.aload_n 0, 1) := by decide +kernel
theorem dX5_foot_31 : decode cX5_foot 31 = .ok (.iload_n 1, 1) := by decide +kernel
theorem dX5_foot_32 : decode cX5_foot 32 = .ok (.iload_n 2, 1) := by decide +kernel
theorem dX5_foot_33 : decode cX5_foot 33 = .ok (.invokevirtual 195, 3) := by decide +kernel
theorem dX5_foot_36 : decode cX5_foot 36 = .ok (.goto 4, 3) := by decide +kernel
theorem dX5_foot_39 : decode cX5_foot 39 = .ok (.iconst (-1), 1) := by decide +kernel
theorem dX5_foot_40 : decode cX5_foot 40 = .ok (.ireturn, 1) := by decide +kernel
set_option maxRecDepth 20000 in
theorem ggX5_bend_X5_isPage : GoodIn wsX5_bend wsX5_isPage := goodIn_r _ [13, 14, 15, 16, 12, 17, 53, 54, 55, 56, 57, 58, 59, 60, 61, 62, 63, 64, 65, 66, 67, 68, 69, 70, 71, 72, 73, 74, 75, 76] (by decide +kernel) (by decide +kernel)
set_option maxRecDepth 20000 in
theorem gX5_bend_X5_isPage : GoodIn wsX5_bend (wsV RX5 81 RX5 yX5_isPage wsX5_isPage) := goodIn_app (goodIn_of _ (by decide +kernel)) ggX5_bend_X5_isPage
set_option maxRecDepth 20000 in
theorem ggX5_bend_X5_changing : GoodIn wsX5_bend wsX5_changing := goodIn_r _ [21, 22, 23, 24, 25, 4, 26, 27, 28, 6, 29, 8, 30, 31, 32, 53, 54, 55, 56, 57, 58, 59, 60, 61, 62, 63, 64, 65, 66, 67, 68, 69, 70, 71, 72, 73, 74, 75, 76] (by decide +kernel) (by decide +kernel)
set_option maxRecDepth 20000 in
theorem gX5_bend_X5_changing : GoodIn wsX5_bend (wsV RX5 101 RX5 yX5_changing wsX5_changing) := goodIn_app (goodIn_of _ (by decide +kernel)) ggX5_bend_X5_changing
set_option maxRecDepth 20000 in
theorem ggX5_bend_X5_steps : GoodIn wsX5_bend wsX5_steps := goodIn_r _ [36, 6, 53, 54, 55, 56, 57, 58, 59, 60, 61, 62, 63, 64, 65, 66, 67, 68, 69, 70, 71, 72, 73, 74, 75, 76] (by decide +kernel) (by decide +kernel)
set_option maxRecDepth 20000 in
theorem gX5_bend_X5_steps : GoodIn wsX5_bend (wsV RX5 191 RX5 yX5_steps wsX5_steps) := goodIn_app (goodIn_of _ (by decide +kernel)) ggX5_bend_X5_steps
set_option maxRecDepth 20000 in
theorem ggX5_bend_X5_footOf : GoodIn wsX5_bend wsX5_footOf := goodIn_r _ [40, 8, 6, 41, 42, 43, 12, 44, 32, 53, 54, 55, 56, 57, 58, 59, 60, 61, 62, 63, 64, 65, 66, 67, 68, 69, 70, 71, 72, 73, 74, 75, 76] (by decide +kernel) (by decide +kernel)
set_option maxRecDepth 20000 in
theorem gX5_bend_X5_footOf : GoodIn wsX5_bend (wsV RX5 195 RX5 yX5_footOf wsX5_footOf) := goodIn_app (goodIn_of _ (by decide +kernel)) ggX5_bend_X5_footOf
set_option maxRecDepth 20000 in
theorem ggX5_bend_X5_blank : GoodIn wsX5_bend wsX5_blank := goodIn_r _ [48, 7, 53, 54, 55, 56, 57, 58, 59, 60, 61, 62, 63, 64, 65, 66, 67, 68, 69, 70, 71, 72, 73, 74, 75, 76] (by decide +kernel) (by decide +kernel)
set_option maxRecDepth 20000 in
theorem gX5_bend_X5_blank : GoodIn wsX5_bend (wsV RX5 168 RX5 yX5_blank wsX5_blank) := goodIn_app (goodIn_of _ (by decide +kernel)) ggX5_bend_X5_blank
set_option maxRecDepth 20000 in
theorem ggX5_bend_X5_has : GoodIn wsX5_bend wsX5_has := goodIn_r _ [44, 32, 53, 54, 55, 56, 57, 58, 59, 60, 61, 62, 63, 64, 65, 66, 67, 68, 69, 70, 71, 72, 73, 74, 75, 76] (by decide +kernel) (by decide +kernel)
set_option maxRecDepth 20000 in
theorem gX5_bend_X5_has : GoodIn wsX5_bend (wsV RX5 109 RX5 yX5_has wsX5_has) := goodIn_app (goodIn_of _ (by decide +kernel)) ggX5_bend_X5_has
set_option maxRecDepth 20000 in
theorem ggX5_bend_X5_becomes : GoodIn wsX5_bend wsX5_becomes := goodIn_r _ [52, 6, 8, 32, 7, 53, 54, 55, 56, 57, 58, 59, 60, 61, 62, 63, 64, 65, 66, 67, 68, 69, 70, 71, 72, 73, 74, 75, 76] (by decide +kernel) (by decide +kernel)
set_option maxRecDepth 20000 in
theorem gX5_bend_X5_becomes : GoodIn wsX5_bend (wsV RX5 171 RX5 yX5_becomes wsX5_becomes) := goodIn_app (goodIn_of _ (by decide +kernel)) ggX5_bend_X5_becomes
theorem dX5_bend_0 : decode cX5_bend 0 = .ok (.aload_n 0, 1) := by decide +kernel
theorem dX5_bend_1 : decode cX5_bend 1 = .ok (.iconst 0, 1) := by decide +kernel
theorem dX5_bend_2 : decode cX5_bend 2 = .ok (.putfield 64, 3) := by decide +kernel
theorem dX5_bend_5 : decode cX5_bend 5 = .ok (.aload_n 0, 1) := by decide +kernel
theorem dX5_bend_6 : decode cX5_bend 6 = .ok (.iload_n 1, 1) := by decide +kernel
theorem dX5_bend_7 : decode cX5_bend 7 = .ok (.invokevirtual 81, 3) := by decide +kernel
theorem dX5_bend_10 : decode cX5_bend 10 = .ok (.ifCond .ne 5, 3) := by decide +kernel
theorem dX5_bend_13 : decode cX5_bend 13 = .ok (.iconst (-1), 1) := by decide +kernel
theorem dX5_bend_14 : decode cX5_bend 14 = .ok (.ireturn, 1) := by decide +kernel
theorem dX5_bend_15 : decode cX5_bend 15 = .ok (.aload_n 0, 1) := by decide +kernel
theorem dX5_bend_16 : decode cX5_bend 16 = .ok (.iload_n 1, 1) := by decide +kernel
theorem dX5_bend_17 : decode cX5_bend 17 = .ok (.invokevirtual 101, 3) := by decide +kernel
theorem dX5_bend_20 : decode cX5_bend 20 = .ok (.iconst (-1), 1) := by decide +kernel
theorem dX5_bend_21 : decode cX5_bend 21 = .ok (.istore_n 2, 1) := by decide +kernel
theorem dX5_bend_22 : decode cX5_bend 22 = .ok (.iconst 0, 1) := by decide +kernel
theorem dX5_bend_23 : decode cX5_bend 23 = .ok (.istore_n 3, 1) := by decide +kernel
theorem dX5_bend_24 : decode cX5_bend 24 = .ok (.iload_n 3, 1) := by decide +kernel
theorem dX5_bend_25 : decode cX5_bend 25 = .ok (.aload_n 0, 1) := by decide +kernel
theorem dX5_bend_26 : decode cX5_bend 26 = .ok (.iload_n 1, 1) := by decide +kernel
theorem dX5_bend_27 : decode cX5_bend 27 = .ok (.invokevirtual 191, 3) := by decide +kernel
theorem dX5_bend_30 : decode cX5_bend 30 = .ok (.if_icmp .ge 35, 3) := by decide +kernel
theorem dX5_bend_33 : decode cX5_bend 33 = .ok (.aload_n 0, 1) := by decide +kernel
theorem dX5_bend_34 : decode cX5_bend 34 = .ok (.iload_n 1, 1) := by decide +kernel
theorem dX5_bend_35 : decode cX5_bend 35 = .ok (.iload_n 3, 1) := by decide +kernel
theorem dX5_bend_36 : decode cX5_bend 36 = .ok (.invokevirtual 195, 3) := by decide +kernel
theorem dX5_bend_39 : decode cX5_bend 39 = .ok (.istore 4, 2) := by decide +kernel
theorem dX5_bend_41 : decode cX5_bend 41 = .ok (.iload 4, 2) := by decide +kernel
theorem dX5_bend_43 : decode cX5_bend 43 = .ok (.bipush 100, 2) := by decide +kernel
theorem dX5_bend_45 : decode cX5_bend 45 = .ok (.if_icmp .ne 7, 3) := by decide +kernel
theorem dX5_bend_48 : decode cX5_bend 48 = .ok (.iload_n 2, 1) := by decide +kernel
theorem dX5_bend_49 : decode cX5_bend 49 = .ok (.goto 9, 3) := by decide +kernel
theorem dX5_bend_52 : decode cX5_bend 52 = .ok (.iload_n 2, 1) := by decide +kernel
theorem dX5_bend_53 : decode cX5_bend 53 = .ok (.iload 4, 2) := by decide +kernel
theorem dX5_bend_55 : decode cX5_bend 55 = .ok (.invokestatic 146, 3) := by decide +kernel
theorem dX5_bend_58 : decode cX5_bend 58 = .ok (.istore_n 2, 1) := by decide +kernel
theorem dX5_bend_59 : decode cX5_bend 59 = .ok (.iinc 3 1, 3) := by decide +kernel
theorem dX5_bend_62 : decode cX5_bend 62 = .ok (.goto (-38), 3) := by decide +kernel
theorem dX5_bend_65 : decode cX5_bend 65 = .ok (.aload_n 0, 1) := by decide +kernel
theorem dX5_bend_66 : decode cX5_bend 66 = .ok (.invokevirtual 168, 3) := by decide +kernel
theorem dX5_bend_69 : decode cX5_bend 69 = .ok (.iconst 0, 1) := by decide +kernel
theorem dX5_bend_70 : decode cX5_bend 70 = .ok (.istore_n 3, 1) := by decide +kernel
theorem dX5_bend_71 : decode cX5_bend 71 = .ok (.iconst 0, 1) := by decide +kernel
theorem dX5_bend_72 : decode cX5_bend 72 = .ok (.istore 4, 2) := by decide +kernel
theorem dX5_bend_74 : decode cX5_bend 74 = .ok (.iload 4, 2) := by decide +kernel
theorem dX5_bend_76 : decode cX5_bend 76 = .ok (.aload_n 0, 1) := by decide +kernel
theorem dX5_bend_77 : decode cX5_bend 77 = .ok (.iload_n 1, 1) := by decide +kernel
theorem dX5_bend_78 : decode cX5_bend 78 = .ok (.invokevirtual 191, 3) := by decide +kernel
theorem dX5_bend_81 : decode cX5_bend 81 = .ok (.if_icmp .ge 122, 3) := by decide +kernel
theorem dX5_bend_84 : decode cX5_bend 84 = .ok (.aload_n 0, 1) := by decide +kernel
theorem dX5_bend_85 : decode cX5_bend 85 = .ok (.iload_n 1, 1) := by decide +kernel
theorem dX5_bend_86 : decode cX5_bend 86 = .ok (.iload 4, 2) := by decide +kernel
theorem dX5_bend_88 : decode cX5_bend 88 = .ok (.invokevirtual 195, 3) := by decide +kernel
theorem dX5_bend_91 : decode cX5_bend 91 = .ok (.istore 5, 2) := by decide +kernel
theorem dX5_bend_93 : decode cX5_bend 93 = .ok (.iload 5, 2) := by decide +kernel
theorem dX5_bend_95 : decode cX5_bend 95 = .ok (.bipush 100, 2) := by decide +kernel
theorem dX5_bend_97 : decode cX5_bend 97 = .ok (.if_icmp .ne 6, 3) := by decide +kernel
theorem dX5_bend_100 : decode cX5_bend 100 = .ok (.goto 97, 3) := by decide +kernel
theorem dX5_bend_103 : decode cX5_bend 103 = .ok (.iload_n 3, 1) := by decide +kernel
theorem dX5_bend_104 : decode cX5_bend 104 = .ok (.iload_n 2, 1) := by decide +kernel
theorem dX5_bend_105 : decode cX5_bend 105 = .ok (.iload 5, 2) := by decide +kernel
theorem dX5_bend_107 : decode cX5_bend 107 = .ok (.if_icmp .le 7, 3) := by decide +kernel
theorem dX5_bend_110 : decode cX5_bend 110 = .ok (.iconst 1, 1) := by decide +kernel
theorem dX5_bend_111 : decode cX5_bend 111 = .ok (.goto 4, 3) := by decide +kernel
theorem dX5_bend_114 : decode cX5_bend 114 = .ok (.iconst 0, 1) := by decide +kernel
theorem dX5_bend_115 : decode cX5_bend 115 = .ok (.iadd, 1) := by decide +kernel
theorem dX5_bend_116 : decode cX5_bend 116 = .ok (.istore_n 3, 1) := by decide +kernel
theorem dX5_bend_117 : decode cX5_bend 117 = .ok (.bipush 8, 2) := by decide +kernel
theorem dX5_bend_119 : decode cX5_bend 119 = .ok (.iload 4, 2) := by decide +kernel
theorem dX5_bend_121 : decode cX5_bend 121 = .ok (.imul, 1) := by decide +kernel
theorem dX5_bend_122 : decode cX5_bend 122 = .ok (.istore 6, 2) := by decide +kernel
