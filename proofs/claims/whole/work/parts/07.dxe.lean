theorem dX3_numbers_23 : decode cX3_numbers 23 = .ok (.iaload, 1) := by decide +kernel
theorem dX3_numbers_24 : decode cX3_numbers 24 = .ok (.iload_n 1, 1) := by decide +kernel
theorem dX3_numbers_25 : decode cX3_numbers 25 = .ok (.if_icmp .ne 6, 3) := by decide +kernel
theorem dX3_numbers_28 : decode cX3_numbers 28 = .ok (.iinc 2 1, 3) := by decide +kernel
theorem dX3_numbers_31 : decode cX3_numbers 31 = .ok (.iinc 3 1, 3) := by decide +kernel
theorem dX3_numbers_34 : decode cX3_numbers 34 = .ok (.goto (-30), 3) := by decide +kernel
theorem dX3_numbers_37 : decode cX3_numbers 37 = .ok (.iload_n 2, 1) := by decide +kernel
theorem dX3_numbers_38 : decode cX3_numbers 38 = .ok (.ireturn, 1) := by decide +kernel
set_option maxRecDepth 20000 in
theorem ggX3_line_X3_wordOfTape : GoodIn wsX3_line wsX3_wordOfTape := goodIn_r _ [10, 2, 11, 12, 13, 9, 14, 15, 16, 17, 18, 3, 19, 20, 21, 22, 1, 23, 40, 41, 42, 43, 44, 45, 46, 47, 48, 49] (by decide +kernel) (by decide +kernel)
set_option maxRecDepth 20000 in
theorem gX3_line_X3_wordOfTape : GoodIn wsX3_line (wsV RX3 98 RX3 yX3_wordOfTape wsX3_wordOfTape) := goodIn_app (goodIn_of _ (by decide +kernel)) ggX3_line_X3_wordOfTape
set_option maxRecDepth 20000 in
theorem ggX3_line_X3_tapeSign : GoodIn wsX3_line wsX3_tapeSign := goodIn_r _ [22, 1, 23, 40, 41, 42, 43, 44, 45, 46, 47, 48, 49] (by decide +kernel) (by decide +kernel)
set_option maxRecDepth 20000 in
theorem gX3_line_X3_tapeSign : GoodIn wsX3_line (wsV RX3 88 RX3 yX3_tapeSign wsX3_tapeSign) := goodIn_app (goodIn_of _ (by decide +kernel)) ggX3_line_X3_tapeSign
set_option maxRecDepth 20000 in
theorem ggX3_line_X2_add : GoodIn wsX3_line wsX2_add := goodIn_r _ [28, 29, 30, 4, 31, 32, 33, 50, 51, 52, 53] (by decide +kernel) (by decide +kernel)
set_option maxRecDepth 20000 in
theorem gX3_line_X2_add : GoodIn wsX3_line (wsV RX3 42 RX2 yX2_add wsX2_add) := goodIn_app (goodIn_of _ (by decide +kernel)) ggX3_line_X2_add
set_option maxRecDepth 20000 in
theorem ggX3_line_X3_numbers : GoodIn wsX3_line wsX3_numbers := goodIn_r _ [37, 5, 38, 39, 40, 41, 42, 43, 44, 45, 46, 47, 48, 49, 50, 51, 52, 53] (by decide +kernel) (by decide +kernel)
set_option maxRecDepth 20000 in
theorem gX3_line_X3_numbers : GoodIn wsX3_line (wsV RX3 102 RX3 yX3_numbers wsX3_numbers) := goodIn_app (goodIn_of _ (by decide +kernel)) ggX3_line_X3_numbers
theorem dX3_line_0 : decode cX3_line 0 = .ok (.aload_n 0, 1) := by decide +kernel
theorem dX3_line_1 : decode cX3_line 1 = .ok (.getfield 82, 3) := by decide +kernel
theorem dX3_line_4 : decode cX3_line 4 = .ok (.ifCond .ne 5, 3) := by decide +kernel
theorem dX3_line_7 : decode cX3_line 7 = .ok (.iconst (-1), 1) := by decide +kernel
theorem dX3_line_8 : decode cX3_line 8 = .ok (.ireturn, 1) := by decide +kernel
theorem dX3_line_9 : decode cX3_line 9 = .ok (.aload_n 0, 1) := by decide +kernel
theorem dX3_line_10 : decode cX3_line 10 = .ok (.invokevirtual 98, 3) := by decide +kernel
theorem dX3_line_13 : decode cX3_line 13 = .ok (.istore_n 2, 1) := by decide +kernel
theorem dX3_line_14 : decode cX3_line 14 = .ok (.iload_n 2, 1) := by decide +kernel
theorem dX3_line_15 : decode cX3_line 15 = .ok (.ifCond .ge 107, 3) := by decide +kernel
theorem dX3_line_18 : decode cX3_line 18 = .ok (.bipush 12, 2) := by decide +kernel
theorem dX3_line_20 : decode cX3_line 20 = .ok (.aload_n 0, 1) := by decide +kernel
theorem dX3_line_21 : decode cX3_line 21 = .ok (.getfield 92, 3) := by decide +kernel
theorem dX3_line_24 : decode cX3_line 24 = .ok (.iconst 1, 1) := by decide +kernel
theorem dX3_line_25 : decode cX3_line 25 = .ok (.iadd, 1) := by decide +kernel
theorem dX3_line_26 : decode cX3_line 26 = .ok (.imul, 1) := by decide +kernel
theorem dX3_line_27 : decode cX3_line 27 = .ok (.aload_n 0, 1) := by decide +kernel
theorem dX3_line_28 : decode cX3_line 28 = .ok (.getfield 31, 3) := by decide +kernel
theorem dX3_line_31 : decode cX3_line 31 = .ok (.arraylength, 1) := by decide +kernel
theorem dX3_line_32 : decode cX3_line 32 = .ok (.if_icmp .le 48, 3) := by decide +kernel
theorem dX3_line_35 : decode cX3_line 35 = .ok (.iconst 2, 1) := by decide +kernel
theorem dX3_line_36 : decode cX3_line 36 = .ok (.aload_n 0, 1) := by decide +kernel
theorem dX3_line_37 : decode cX3_line 37 = .ok (.getfield 31, 3) := by decide +kernel
theorem dX3_line_40 : decode cX3_line 40 = .ok (.arraylength, 1) := by decide +kernel
theorem dX3_line_41 : decode cX3_line 41 = .ok (.imul, 1) := by decide +kernel
theorem dX3_line_42 : decode cX3_line 42 = .ok (.newarray .int, 2) := by decide +kernel
theorem dX3_line_44 : decode cX3_line 44 = .ok (.astore_n 3, 1) := by decide +kernel
theorem dX3_line_45 : decode cX3_line 45 = .ok (.iconst 0, 1) := by decide +kernel
theorem dX3_line_46 : decode cX3_line 46 = .ok (.istore 4, 2) := by decide +kernel
theorem dX3_line_48 : decode cX3_line 48 = .ok (.iload 4, 2) := by decide +kernel
theorem dX3_line_50 : decode cX3_line 50 = .ok (.aload_n 0, 1) := by decide +kernel
theorem dX3_line_51 : decode cX3_line 51 = .ok (.getfield 31, 3) := by decide +kernel
theorem dX3_line_54 : decode cX3_line 54 = .ok (.arraylength, 1) := by decide +kernel
theorem dX3_line_55 : decode cX3_line 55 = .ok (.if_icmp .ge 20, 3) := by decide +kernel
theorem dX3_line_58 : decode cX3_line 58 = .ok (.aload_n 3, 1) := by decide +kernel
theorem dX3_line_59 : decode cX3_line 59 = .ok (.iload 4, 2) := by decide +kernel
theorem dX3_line_61 : decode cX3_line 61 = .ok (.aload_n 0, 1) := by decide +kernel
theorem dX3_line_62 : decode cX3_line 62 = .ok (.getfield 31, 3) := by decide +kernel
theorem dX3_line_65 : decode cX3_line 65 = .ok (.iload 4, 2) := by decide +kernel
theorem dX3_line_67 : decode cX3_line 67 = .ok (.iaload, 1) := by decide +kernel
theorem dX3_line_68 : decode cX3_line 68 = .ok (.iastore, 1) := by decide +kernel
theorem dX3_line_69 : decode cX3_line 69 = .ok (.iinc 4 1, 3) := by decide +kernel
theorem dX3_line_72 : decode cX3_line 72 = .ok (.goto (-24), 3) := by decide +kernel
theorem dX3_line_75 : decode cX3_line 75 = .ok (.aload_n 0, 1) := by decide +kernel
theorem dX3_line_76 : decode cX3_line 76 = .ok (.aload_n 3, 1) := by decide +kernel
theorem dX3_line_77 : decode cX3_line 77 = .ok (.putfield 31, 3) := by decide +kernel
theorem dX3_line_80 : decode cX3_line 80 = .ok (.aload_n 0, 1) := by decide +kernel
theorem dX3_line_81 : decode cX3_line 81 = .ok (.dup, 1) := by decide +kernel
theorem dX3_line_82 : decode cX3_line 82 = .ok (.getfield 92, 3) := by decide +kernel
theorem dX3_line_85 : decode cX3_line 85 = .ok (.dup_x1, 1) := by decide +kernel
theorem dX3_line_86 : decode cX3_line 86 = .ok (.iconst 1, 1) := by decide +kernel
theorem dX3_line_87 : decode cX3_line 87 = .ok (.iadd, 1) := by decide +kernel
theorem dX3_line_88 : decode cX3_line 88 = .ok (.putfield 92, 3) := by decide +kernel
theorem dX3_line_91 : decode cX3_line 91 = .ok (.istore_n 2, 1) := by decide +kernel
theorem dX3_line_92 : decode cX3_line 92 = .ok (.iconst 0, 1) := by decide +kernel
theorem dX3_line_93 : decode cX3_line 93 = .ok (.istore_n 3, 1) := by decide +kernel
theorem dX3_line_94 : decode cX3_line 94 = .ok (.iload_n 3, 1) := by decide +kernel
theorem dX3_line_95 : decode cX3_line 95 = .ok (.bipush 12, 2) := by decide +kernel
theorem dX3_line_97 : decode cX3_line 97 = .ok (.if_icmp .ge 25, 3) := by decide +kernel
theorem dX3_line_100 : decode cX3_line 100 = .ok (.aload_n 0, 1) := by decide +kernel
theorem dX3_line_101 : decode cX3_line 101 = .ok (.getfield 31, 3) := by decide +kernel
theorem dX3_line_104 : decode cX3_line 104 = .ok (.bipush 12, 2) := by decide +kernel
theorem dX3_line_106 : decode cX3_line 106 = .ok (.iload_n 2, 1) := by decide +kernel
theorem dX3_line_107 : decode cX3_line 107 = .ok (.imul, 1) := by decide +kernel
theorem dX3_line_108 : decode cX3_line 108 = .ok (.iload_n 3, 1) := by decide +kernel
theorem dX3_line_109 : decode cX3_line 109 = .ok (.iadd, 1) := by decide +kernel
theorem dX3_line_110 : decode cX3_line 110 = .ok (.aload_n 0, 1) := by decide +kernel
theorem dX3_line_111 : decode cX3_line 111 = .ok (.iload_n 3, 1) := by decide +kernel
theorem dX3_line_112 : decode cX3_line 112 = .ok (.invokevirtual 88, 3) := by decide +kernel
theorem dX3_line_115 : decode cX3_line 115 = .ok (.iastore, 1) := by decide +kernel
theorem dX3_line_116 : decode cX3_line 116 = .ok (.iinc 3 1, 3) := by decide +kernel
theorem dX3_line_119 : decode cX3_line 119 = .ok (.goto (-25), 3) := by decide +kernel
theorem dX3_line_122 : decode cX3_line 122 = .ok (.aload_n 0, 1) := by decide +kernel
theorem dX3_line_123 : decode cX3_line 123 = .ok (.getfield 28, 3) := by decide +kernel
theorem dX3_line_126 : decode cX3_line 126 = .ok (.iload_n 2, 1) := by decide +kernel
theorem dX3_line_127 : decode cX3_line 127 = .ok (.iconst 0, 1) := by decide +kernel
theorem dX3_line_128 : decode cX3_line 128 = .ok (.iload_n 1, 1) := by decide +kernel
theorem dX3_line_129 : decode cX3_line 129 = .ok (.i2l, 1) := by decide +kernel
theorem dX3_line_130 : decode cX3_line 130 = .ok (.invokevirtual 42, 3) := by decide +kernel
theorem dX3_line_133 : decode cX3_line 133 = .ok (.aload_n 0, 1) := by decide +kernel
theorem dX3_line_134 : decode cX3_line 134 = .ok (.iconst 0, 1) := by decide +kernel
theorem dX3_line_135 : decode cX3_line 135 = .ok (.putfield 82, 3) := by decide +kernel
theorem dX3_line_138 : decode cX3_line 138 = .ok (.aload_n 0, 1) := by decide +kernel
theorem dX3_line_139 : decode cX3_line 139 = .ok (.iload_n 2, 1) := by decide +kernel
theorem dX3_line_140 : decode cX3_line 140 = .ok (.invokevirtual 102, 3) := by decide +kernel
theorem dX3_line_143 : decode cX3_line 143 = .ok (.ireturn, 1) := by decide +kernel
set_option maxRecDepth 20000 in
theorem ggX3_read_X3_wordOfTape : GoodIn wsX3_read wsX3_wordOfTape := goodIn_r _ [11, 12, 13, 14, 15, 10, 16, 17, 18, 19, 20, 21, 22, 23, 24, 25, 1, 26, 27, 28, 29, 30, 31, 32, 33, 34, 35, 36] (by decide +kernel) (by decide +kernel)
set_option maxRecDepth 20000 in
theorem gX3_read_X3_wordOfTape : GoodIn wsX3_read (wsV RX3 98 RX3 yX3_wordOfTape wsX3_wordOfTape) := goodIn_app (goodIn_of _ (by decide +kernel)) ggX3_read_X3_wordOfTape
theorem dX3_read_0 : decode cX3_read 0 = .ok (.aload_n 0, 1) := by decide +kernel
theorem dX3_read_1 : decode cX3_read 1 = .ok (.invokevirtual 98, 3) := by decide +kernel
theorem dX3_read_4 : decode cX3_read 4 = .ok (.istore_n 2, 1) := by decide +kernel
theorem dX3_read_5 : decode cX3_read 5 = .ok (.iload_n 1, 1) := by decide +kernel
theorem dX3_read_6 : decode cX3_read 6 = .ok (.istore_n 3, 1) := by decide +kernel
theorem dX3_read_7 : decode cX3_read 7 = .ok (.aload_n 0, 1) := by decide +kernel
theorem dX3_read_8 : decode cX3_read 8 = .ok (.iconst 0, 1) := by decide +kernel
theorem dX3_read_9 : decode cX3_read 9 = .ok (.putfield 82, 3) := by decide +kernel
theorem dX3_read_12 : decode cX3_read 12 = .ok (.iload_n 2, 1) := by decide +kernel
theorem dX3_read_13 : decode cX3_read 13 = .ok (.ifCond .lt 7, 3) := by decide +kernel
theorem dX3_read_16 : decode cX3_read 16 = .ok (.iload_n 1, 1) := by decide +kernel
theorem dX3_read_17 : decode cX3_read 17 = .ok (.ifCond .ge 7, 3) := by decide +kernel
theorem dX3_read_20 : decode cX3_read 20 = .ok (.ldc2_w 54, 3) := by decide +kernel
theorem dX3_read_23 : decode cX3_read 23 = .ok (.lreturn, 1) := by decide +kernel
theorem dX3_read_24 : decode cX3_read 24 = .ok (.iconst 0, 1) := by decide +kernel
theorem dX3_read_25 : decode cX3_read 25 = .ok (.istore 4, 2) := by decide +kernel
theorem dX3_read_27 : decode cX3_read 27 = .ok (.iload 4, 2) := by decide +kernel
theorem dX3_read_29 : decode cX3_read 29 = .ok (.aload_n 0, 1) := by decide +kernel
theorem dX3_read_30 : decode cX3_read 30 = .ok (.getfield 28, 3) := by decide +kernel
theorem dX3_read_33 : decode cX3_read 33 = .ok (.getfield 46, 3) := by decide +kernel
theorem dX3_read_36 : decode cX3_read 36 = .ok (.if_icmp .ge 41, 3) := by decide +kernel
theorem dX3_read_39 : decode cX3_read 39 = .ok (.aload_n 0, 1) := by decide +kernel
theorem dX3_read_40 : decode cX3_read 40 = .ok (.getfield 28, 3) := by decide +kernel
theorem dX3_read_43 : decode cX3_read 43 = .ok (.getfield 66, 3) := by decide +kernel
theorem dX3_read_46 : decode cX3_read 46 = .ok (.iload 4, 2) := by decide +kernel
theorem dX3_read_48 : decode cX3_read 48 = .ok (.iaload, 1) := by decide +kernel
theorem dX3_read_49 : decode cX3_read 49 = .ok (.iload_n 2, 1) := by decide +kernel
theorem dX3_read_50 : decode cX3_read 50 = .ok (.if_icmp .ne 21, 3) := by decide +kernel
theorem dX3_read_53 : decode cX3_read 53 = .ok (.iload_n 3, 1) := by decide +kernel
theorem dX3_read_54 : decode cX3_read 54 = .ok (.iinc 3 (-1), 3) := by decide +kernel
theorem dX3_read_57 : decode cX3_read 57 = .ok (.ifCond .ne 14, 3) := by decide +kernel
theorem dX3_read_60 : decode cX3_read 60 = .ok (.aload_n 0, 1) := by decide +kernel
theorem dX3_read_61 : decode cX3_read 61 = .ok (.getfield 28, 3) := by decide +kernel
theorem dX3_read_64 : decode cX3_read 64 = .ok (.getfield 50, 3) := by decide +kernel
theorem dX3_read_67 : decode cX3_read 67 = .ok (.iload 4, 2) := by decide +kernel
theorem dX3_read_69 : decode cX3_read 69 = .ok (.laload, 1) := by decide +kernel
theorem dX3_read_70 : decode cX3_read 70 = .ok (.lreturn, 1) := by decide +kernel
theorem dX3_read_71 : decode cX3_read 71 = .ok (.iinc 4 1, 3) := by decide +kernel
theorem dX3_read_74 : decode cX3_read 74 = .ok (.goto (-47), 3) := by decide +kernel
theorem dX3_read_77 : decode cX3_read 77 = .ok (.ldc2_w 54, 3) := by decide +kernel
theorem dX3_read_80 : decode cX3_read 80 = .ok (.lreturn, 1) := by decide +kernel
set_option maxRecDepth 20000 in
theorem ggX3_next_X3_numbers : GoodIn wsX3_next wsX3_numbers := goodIn_r _ [8, 9, 10, 11, 29, 30, 31, 32, 33, 34, 35, 36, 37, 38, 39, 40, 41, 42] (by decide +kernel) (by decide +kernel)
set_option maxRecDepth 20000 in
theorem gX3_next_X3_numbers : GoodIn wsX3_next (wsV RX3 102 RX3 yX3_numbers wsX3_numbers) := goodIn_app (goodIn_of _ (by decide +kernel)) ggX3_next_X3_numbers
set_option maxRecDepth 20000 in
theorem ggX3_next_X3_against : GoodIn wsX3_next wsX3_against := goodIn_r _ [15, 16, 17, 18, 7, 19, 20, 21, 22, 23, 24, 2, 3, 29, 30, 31, 32, 33, 34, 35, 36, 37, 38] (by decide +kernel) (by decide +kernel)
set_option maxRecDepth 20000 in
theorem gX3_next_X3_against : GoodIn wsX3_next (wsV RX3 95 RX3 yX3_against wsX3_against) := goodIn_app (goodIn_of _ (by decide +kernel)) ggX3_next_X3_against
set_option maxRecDepth 20000 in
theorem ggX3_next_X3_before : GoodIn wsX3_next wsX3_before := goodIn_r _ [28, 16, 17, 18, 7, 19, 20, 29, 30, 31, 32, 33, 34, 35, 36, 37, 38] (by decide +kernel) (by decide +kernel)
set_option maxRecDepth 20000 in
theorem gX3_next_X3_before : GoodIn wsX3_next (wsV RX3 105 RX3 yX3_before wsX3_before) := goodIn_app (goodIn_of _ (by decide +kernel)) ggX3_next_X3_before
set_option maxRecDepth 20000 in
theorem ggX3_next_X3_signOf : GoodIn wsX3_next wsX3_signOf := goodIn_r _ [19, 20, 29, 30, 31, 32, 33, 34, 35, 36, 37, 38] (by decide +kernel) (by decide +kernel)
set_option maxRecDepth 20000 in
theorem gX3_next_X3_signOf : GoodIn wsX3_next (wsV RX3 85 RX3 yX3_signOf wsX3_signOf) := goodIn_app (goodIn_of _ (by decide +kernel)) ggX3_next_X3_signOf
theorem dX3_next_0 : decode cX3_next 0 = .ok (.iconst (-1), 1) := by decide +kernel
theorem dX3_next_1 : decode cX3_next 1 = .ok (.istore_n 1, 1) := by decide +kernel
theorem dX3_next_2 : decode cX3_next 2 = .ok (.iconst 0, 1) := by decide +kernel
theorem dX3_next_3 : decode cX3_next 3 = .ok (.istore_n 2, 1) := by decide +kernel
theorem dX3_next_4 : decode cX3_next 4 = .ok (.iload_n 2, 1) := by decide +kernel
theorem dX3_next_5 : decode cX3_next 5 = .ok (.aload_n 0, 1) := by decide +kernel
theorem dX3_next_6 : decode cX3_next 6 = .ok (.getfield 92, 3) := by decide +kernel
theorem dX3_next_9 : decode cX3_next 9 = .ok (.if_icmp .ge 40, 3) := by decide +kernel
theorem dX3_next_12 : decode cX3_next 12 = .ok (.aload_n 0, 1) := by decide +kernel
theorem dX3_next_13 : decode cX3_next 13 = .ok (.iload_n 2, 1) := by decide +kernel
theorem dX3_next_14 : decode cX3_next 14 = .ok (.invokevirtual 102, 3) := by decide +kernel
theorem dX3_next_17 : decode cX3_next 17 = .ok (.ifCond .le 26, 3) := by decide +kernel
theorem dX3_next_20 : decode cX3_next 20 = .ok (.aload_n 0, 1) := by decide +kernel
theorem dX3_next_21 : decode cX3_next 21 = .ok (.iload_n 2, 1) := by decide +kernel
theorem dX3_next_22 : decode cX3_next 22 = .ok (.invokevirtual 95, 3) := by decide +kernel
theorem dX3_next_25 : decode cX3_next 25 = .ok (.ifCond .le 18, 3) := by decide +kernel
theorem dX3_next_28 : decode cX3_next 28 = .ok (.iload_n 1, 1) := by decide +kernel
theorem dX3_next_29 : decode cX3_next 29 = .ok (.ifCond .lt 12, 3) := by decide +kernel
theorem dX3_next_32 : decode cX3_next 32 = .ok (.aload_n 0, 1) := by decide +kernel
theorem dX3_next_33 : decode cX3_next 33 = .ok (.iload_n 2, 1) := by decide +kernel
theorem dX3_next_34 : decode cX3_next 34 = .ok (.iload_n 1, 1) := by decide +kernel
theorem dX3_next_35 : decode cX3_next 35 = .ok (.invokevirtual 105, 3) := by decide +kernel
theorem dX3_next_38 : decode cX3_next 38 = .ok (.ifCond .eq 5, 3) := by decide +kernel
theorem dX3_next_41 : decode cX3_next 41 = .ok (.iload_n 2, 1) := by decide +kernel
theorem dX3_next_42 : decode cX3_next 42 = .ok (.istore_n 1, 1) := by decide +kernel
theorem dX3_next_43 : decode cX3_next 43 = .ok (.iinc 2 1, 3) := by decide +kernel
theorem dX3_next_46 : decode cX3_next 46 = .ok (.goto (-42), 3) := by decide +kernel
theorem dX3_next_49 : decode cX3_next 49 = .ok (.aload_n 0, 1) := by decide +kernel
theorem dX3_next_50 : decode cX3_next 50 = .ok (.iconst 0, 1) := by decide +kernel
theorem dX3_next_51 : decode cX3_next 51 = .ok (.putfield 82, 3) := by decide +kernel
theorem dX3_next_54 : decode cX3_next 54 = .ok (.iload_n 1, 1) := by decide +kernel
theorem dX3_next_55 : decode cX3_next 55 = .ok (.ifCond .lt 55, 3) := by decide +kernel
theorem dX3_next_58 : decode cX3_next 58 = .ok (.aload_n 0, 1) := by decide +kernel
theorem dX3_next_59 : decode cX3_next 59 = .ok (.getfield 82, 3) := by decide +kernel
theorem dX3_next_62 : decode cX3_next 62 = .ok (.bipush 12, 2) := by decide +kernel
theorem dX3_next_64 : decode cX3_next 64 = .ok (.if_icmp .ge 46, 3) := by decide +kernel
theorem dX3_next_67 : decode cX3_next 67 = .ok (.aload_n 0, 1) := by decide +kernel
theorem dX3_next_68 : decode cX3_next 68 = .ok (.iload_n 1, 1) := by decide +kernel
theorem dX3_next_69 : decode cX3_next 69 = .ok (.aload_n 0, 1) := by decide +kernel
theorem dX3_next_70 : decode cX3_next 70 = .ok (.getfield 82, 3) := by decide +kernel
theorem dX3_next_73 : decode cX3_next 73 = .ok (.invokevirtual 85, 3) := by decide +kernel
theorem dX3_next_76 : decode cX3_next 76 = .ok (.ifCond .eq 34, 3) := by decide +kernel
theorem dX3_next_79 : decode cX3_next 79 = .ok (.aload_n 0, 1) := by decide +kernel
theorem dX3_next_80 : decode cX3_next 80 = .ok (.getfield 35, 3) := by decide +kernel
theorem dX3_next_83 : decode cX3_next 83 = .ok (.aload_n 0, 1) := by decide +kernel
theorem dX3_next_84 : decode cX3_next 84 = .ok (.getfield 82, 3) := by decide +kernel
theorem dX3_next_87 : decode cX3_next 87 = .ok (.aload_n 0, 1) := by decide +kernel
theorem dX3_next_88 : decode cX3_next 88 = .ok (.iload_n 1, 1) := by decide +kernel
theorem dX3_next_89 : decode cX3_next 89 = .ok (.aload_n 0, 1) := by decide +kernel
theorem dX3_next_90 : decode cX3_next 90 = .ok (.getfield 82, 3) := by decide +kernel
theorem dX3_next_93 : decode cX3_next 93 = .ok (.invokevirtual 85, 3) := by decide +kernel
theorem dX3_next_96 : decode cX3_next 96 = .ok (.iastore, 1) := by decide +kernel
theorem dX3_next_97 : decode cX3_next 97 = .ok (.aload_n 0, 1) := by decide +kernel
theorem dX3_next_98 : decode cX3_next 98 = .ok (.dup, 1) := by decide +kernel
theorem dX3_next_99 : decode cX3_next 99 = .ok (.getfield 82, 3) := by decide +kernel
theorem dX3_next_102 : decode cX3_next 102 = .ok (.iconst 1, 1) := by decide +kernel
theorem dX3_next_103 : decode cX3_next 103 = .ok (.iadd, 1) := by decide +kernel
theorem dX3_next_104 : decode cX3_next 104 = .ok (.putfield 82, 3) := by decide +kernel
theorem dX3_next_107 : decode cX3_next 107 = .ok (.goto (-53), 3) := by decide +kernel
theorem dX3_next_110 : decode cX3_next 110 = .ok (.aload_n 0, 1) := by decide +kernel
theorem dX3_next_111 : decode cX3_next 111 = .ok (.getfield 82, 3) := by decide +kernel
theorem dX3_next_114 : decode cX3_next 114 = .ok (.ireturn, 1) := by decide +kernel
set_option maxRecDepth 20000 in
theorem ggX3_before_X3_signOf : GoodIn wsX3_before wsX3_signOf := goodIn_r _ [5, 6, 7, 8, 9, 10, 11, 12, 13, 14, 15, 16] (by decide +kernel) (by decide +kernel)
set_option maxRecDepth 20000 in
theorem gX3_before_X3_signOf : GoodIn wsX3_before (wsV RX3 85 RX3 yX3_signOf wsX3_signOf) := goodIn_app (goodIn_of _ (by decide +kernel)) ggX3_before_X3_signOf
theorem dX3_before_0 : decode cX3_before 0 = .ok (.iconst 0, 1) := by decide +kernel
theorem dX3_before_1 : decode cX3_before 1 = .ok (.istore_n 3, 1) := by decide +kernel
theorem dX3_before_2 : decode cX3_before 2 = .ok (.iload_n 3, 1) := by decide +kernel
theorem dX3_before_3 : decode cX3_before 3 = .ok (.bipush 12, 2) := by decide +kernel
theorem dX3_before_5 : decode cX3_before 5 = .ok (.if_icmp .ge 45, 3) := by decide +kernel
theorem dX3_before_8 : decode cX3_before 8 = .ok (.aload_n 0, 1) := by decide +kernel
theorem dX3_before_9 : decode cX3_before 9 = .ok (.iload_n 1, 1) := by decide +kernel
theorem dX3_before_10 : decode cX3_before 10 = .ok (.iload_n 3, 1) := by decide +kernel
theorem dX3_before_11 : decode cX3_before 11 = .ok (.invokevirtual 85, 3) := by decide +kernel
theorem dX3_before_14 : decode cX3_before 14 = .ok (.aload_n 0, 1) := by decide +kernel
theorem dX3_before_15 : decode cX3_before 15 = .ok (.iload_n 2, 1) := by decide +kernel
theorem dX3_before_16 : decode cX3_before 16 = .ok (.iload_n 3, 1) := by decide +kernel
theorem dX3_before_17 : decode cX3_before 17 = .ok (.invokevirtual 85, 3) := by decide +kernel
theorem dX3_before_20 : decode cX3_before 20 = .ok (.if_icmp .eq 24, 3) := by decide +kernel
theorem dX3_before_23 : decode cX3_before 23 = .ok (.aload_n 0, 1) := by decide +kernel
theorem dX3_before_24 : decode cX3_before 24 = .ok (.iload_n 1, 1) := by decide +kernel
theorem dX3_before_25 : decode cX3_before 25 = .ok (.iload_n 3, 1) := by decide +kernel
theorem dX3_before_26 : decode cX3_before 26 = .ok (.invokevirtual 85, 3) := by decide +kernel
theorem dX3_before_29 : decode cX3_before 29 = .ok (.aload_n 0, 1) := by decide +kernel
theorem dX3_before_30 : decode cX3_before 30 = .ok (.iload_n 2, 1) := by decide +kernel
theorem dX3_before_31 : decode cX3_before 31 = .ok (.iload_n 3, 1) := by decide +kernel
theorem dX3_before_32 : decode cX3_before 32 = .ok (.invokevirtual 85, 3) := by decide +kernel
theorem dX3_before_35 : decode cX3_before 35 = .ok (.if_icmp .ge 7, 3) := by decide +kernel
theorem dX3_before_38 : decode cX3_before 38 = .ok (.iconst 1, 1) := by decide +kernel
theorem dX3_before_39 : decode cX3_before 39 = .ok (.goto 4, 3) := by decide +kernel
theorem dX3_before_42 : decode cX3_before 42 = .ok (.iconst 0, 1) := by decide +kernel
theorem dX3_before_43 : decode cX3_before 43 = .ok (.ireturn, 1) := by decide +kernel
theorem dX3_before_44 : decode cX3_before 44 = .ok (.iinc 3 1, 3) := by decide +kernel
theorem dX3_before_47 : decode cX3_before 47 = .ok (.goto (-45), 3) := by decide +kernel
theorem dX3_before_50 : decode cX3_before 50 = .ok (.iconst 0, 1) := by decide +kernel
theorem dX3_before_51 : decode cX3_before 51 = .ok (.ireturn, 1) := by decide +kernel
theorem dX3_letter_0 : decode cX3_letter 0 = .ok (.iload_n 1, 1) := by decide +kernel
theorem dX3_letter_1 : decode cX3_letter 1 = .ok (.ifCond .lt 11, 3) := by decide +kernel
theorem dX3_letter_4 : decode cX3_letter 4 = .ok (.iload_n 1, 1) := by decide +kernel
theorem dX3_letter_5 : decode cX3_letter 5 = .ok (.aload_n 0, 1) := by decide +kernel
theorem dX3_letter_6 : decode cX3_letter 6 = .ok (.getfield 82, 3) := by decide +kernel
theorem dX3_letter_9 : decode cX3_letter 9 = .ok (.if_icmp .lt 7, 3) := by decide +kernel
theorem dX3_letter_12 : decode cX3_letter 12 = .ok (.iconst (-1), 1) := by decide +kernel
theorem dX3_letter_13 : decode cX3_letter 13 = .ok (.goto 9, 3) := by decide +kernel
theorem dX3_letter_16 : decode cX3_letter 16 = .ok (.aload_n 0, 1) := by decide +kernel
theorem dX3_letter_17 : decode cX3_letter 17 = .ok (.getfield 35, 3) := by decide +kernel
theorem dX3_letter_20 : decode cX3_letter 20 = .ok (.iload_n 1, 1) := by decide +kernel
theorem dX3_letter_21 : decode cX3_letter 21 = .ok (.iaload, 1) := by decide +kernel
theorem dX3_letter_22 : decode cX3_letter 22 = .ok (.ireturn, 1) := by decide +kernel
set_option maxRecDepth 20000 in
theorem ggX3_forget_X3_wordOfTape : GoodIn wsX3_forget wsX3_wordOfTape := goodIn_r _ [9, 10, 11, 12, 13, 8, 14, 15, 16, 17, 18, 19, 20, 21, 22, 23, 1, 24, 38, 39, 40, 41, 42, 43, 44, 45, 46, 47] (by decide +kernel) (by decide +kernel)
set_option maxRecDepth 20000 in
theorem gX3_forget_X3_wordOfTape : GoodIn wsX3_forget (wsV RX3 98 RX3 yX3_wordOfTape wsX3_wordOfTape) := goodIn_app (goodIn_of _ (by decide +kernel)) ggX3_forget_X3_wordOfTape
set_option maxRecDepth 20000 in
theorem ggX3_forget_X3_numbers : GoodIn wsX3_forget wsX3_numbers := goodIn_r _ [28, 2, 3, 4, 38, 39, 40, 41, 42, 43, 44, 45, 46, 47, 48, 49, 50, 51] (by decide +kernel) (by decide +kernel)
set_option maxRecDepth 20000 in
theorem gX3_forget_X3_numbers : GoodIn wsX3_forget (wsV RX3 102 RX3 yX3_numbers wsX3_numbers) := goodIn_app (goodIn_of _ (by decide +kernel)) ggX3_forget_X3_numbers
set_option maxRecDepth 20000 in
theorem ggX3_forget_X2_remove : GoodIn wsX3_forget wsX2_remove := goodIn_r _ [33, 34, 35, 36, 37, 48, 49, 50, 51] (by decide +kernel) (by decide +kernel)
set_option maxRecDepth 20000 in
theorem gX3_forget_X2_remove : GoodIn wsX3_forget (wsV RX3 60 RX2 yX2_remove wsX2_remove) := goodIn_app (goodIn_of _ (by decide +kernel)) ggX3_forget_X2_remove
theorem dX3_forget_0 : decode cX3_forget 0 = .ok (.aload_n 0, 1) := by decide +kernel
theorem dX3_forget_1 : decode cX3_forget 1 = .ok (.invokevirtual 98, 3) := by decide +kernel
theorem dX3_forget_4 : decode cX3_forget 4 = .ok (.istore_n 1, 1) := by decide +kernel
theorem dX3_forget_5 : decode cX3_forget 5 = .ok (.iload_n 1, 1) := by decide +kernel
theorem dX3_forget_6 : decode cX3_forget 6 = .ok (.ifCond .ge 7, 3) := by decide +kernel
theorem dX3_forget_9 : decode cX3_forget 9 = .ok (.iconst 0, 1) := by decide +kernel
theorem dX3_forget_10 : decode cX3_forget 10 = .ok (.goto 8, 3) := by decide +kernel
theorem dX3_forget_13 : decode cX3_forget 13 = .ok (.aload_n 0, 1) := by decide +kernel
theorem dX3_forget_14 : decode cX3_forget 14 = .ok (.iload_n 1, 1) := by decide +kernel
theorem dX3_forget_15 : decode cX3_forget 15 = .ok (.invokevirtual 102, 3) := by decide +kernel
theorem dX3_forget_18 : decode cX3_forget 18 = .ok (.istore_n 2, 1) := by decide +kernel
theorem dX3_forget_19 : decode cX3_forget 19 = .ok (.aload_n 0, 1) := by decide +kernel
theorem dX3_forget_20 : decode cX3_forget 20 = .ok (.iconst 0, 1) := by decide +kernel
theorem dX3_forget_21 : decode cX3_forget 21 = .ok (.putfield 82, 3) := by decide +kernel
theorem dX3_forget_24 : decode cX3_forget 24 = .ok (.aload_n 0, 1) := by decide +kernel
theorem dX3_forget_25 : decode cX3_forget 25 = .ok (.getfield 28, 3) := by decide +kernel
theorem dX3_forget_28 : decode cX3_forget 28 = .ok (.getfield 46, 3) := by decide +kernel
theorem dX3_forget_31 : decode cX3_forget 31 = .ok (.iconst 1, 1) := by decide +kernel
theorem dX3_forget_32 : decode cX3_forget 32 = .ok (.isub, 1) := by decide +kernel
theorem dX3_forget_33 : decode cX3_forget 33 = .ok (.istore_n 3, 1) := by decide +kernel
theorem dX3_forget_34 : decode cX3_forget 34 = .ok (.iload_n 3, 1) := by decide +kernel
theorem dX3_forget_35 : decode cX3_forget 35 = .ok (.ifCond .lt 34, 3) := by decide +kernel
theorem dX3_forget_38 : decode cX3_forget 38 = .ok (.iload_n 1, 1) := by decide +kernel
theorem dX3_forget_39 : decode cX3_forget 39 = .ok (.ifCond .lt 24, 3) := by decide +kernel
theorem dX3_forget_42 : decode cX3_forget 42 = .ok (.aload_n 0, 1) := by decide +kernel
theorem dX3_forget_43 : decode cX3_forget 43 = .ok (.getfield 28, 3) := by decide +kernel
theorem dX3_forget_46 : decode cX3_forget 46 = .ok (.getfield 66, 3) := by decide +kernel
theorem dX3_forget_49 : decode cX3_forget 49 = .ok (.iload_n 3, 1) := by decide +kernel
theorem dX3_forget_50 : decode cX3_forget 50 = .ok (.iaload, 1) := by decide +kernel
theorem dX3_forget_51 : decode cX3_forget 51 = .ok (.iload_n 1, 1) := by decide +kernel
theorem dX3_forget_52 : decode cX3_forget 52 = .ok (.if_icmp .ne 11, 3) := by decide +kernel
theorem dX3_forget_55 : decode cX3_forget 55 = .ok (.aload_n 0, 1) := by decide +kernel
theorem dX3_forget_56 : decode cX3_forget 56 = .ok (.getfield 28, 3) := by decide +kernel
theorem dX3_forget_59 : decode cX3_forget 59 = .ok (.iload_n 3, 1) := by decide +kernel
theorem dX3_forget_60 : decode cX3_forget 60 = .ok (.invokevirtual 60, 3) := by decide +kernel
theorem dX3_forget_63 : decode cX3_forget 63 = .ok (.iinc 3 (-1), 3) := by decide +kernel
theorem dX3_forget_66 : decode cX3_forget 66 = .ok (.goto (-32), 3) := by decide +kernel
theorem dX3_forget_69 : decode cX3_forget 69 = .ok (.iload_n 2, 1) := by decide +kernel
theorem dX3_forget_70 : decode cX3_forget 70 = .ok (.ifCond .ne 7, 3) := by decide +kernel
theorem dX3_forget_73 : decode cX3_forget 73 = .ok (.iconst (-1), 1) := by decide +kernel
theorem dX3_forget_74 : decode cX3_forget 74 = .ok (.goto 4, 3) := by decide +kernel
theorem dX3_forget_77 : decode cX3_forget 77 = .ok (.iload_n 2, 1) := by decide +kernel
theorem dX3_forget_78 : decode cX3_forget 78 = .ok (.ireturn, 1) := by decide +kernel
set_option maxRecDepth 20000 in
theorem ggX3_mark_X2_find : GoodIn wsX3_mark wsX2_find := goodIn_r _ [7, 8, 9, 10, 32, 33, 34, 35] (by decide +kernel) (by decide +kernel)
set_option maxRecDepth 20000 in
theorem gX3_mark_X2_find : GoodIn wsX3_mark (wsV RX3 38 RX2 yX2_find wsX2_find) := goodIn_app (goodIn_of _ (by decide +kernel)) ggX3_mark_X2_find
set_option maxRecDepth 20000 in
theorem ggX3_mark_X2_add : GoodIn wsX3_mark wsX2_add := goodIn_r _ [14, 8, 9, 15, 16, 10, 17, 32, 33, 34, 35] (by decide +kernel) (by decide +kernel)
set_option maxRecDepth 20000 in
theorem gX3_mark_X2_add : GoodIn wsX3_mark (wsV RX3 42 RX2 yX2_add wsX2_add) := goodIn_app (goodIn_of _ (by decide +kernel)) ggX3_mark_X2_add
set_option maxRecDepth 20000 in
theorem ggX3_mark_X2_remove : GoodIn wsX3_mark wsX2_remove := goodIn_r _ [21, 8, 9, 10, 17, 32, 33, 34, 35] (by decide +kernel) (by decide +kernel)
set_option maxRecDepth 20000 in
theorem gX3_mark_X2_remove : GoodIn wsX3_mark (wsV RX3 60 RX2 yX2_remove wsX2_remove) := goodIn_app (goodIn_of _ (by decide +kernel)) ggX3_mark_X2_remove
theorem dX3_mark_0 : decode cX3_mark 0 = .ok (.aload_n 0, 1) := by decide +kernel
theorem dX3_mark_1 : decode cX3_mark 1 = .ok (.getfield 22, 3) := by decide +kernel
theorem dX3_mark_4 : decode cX3_mark 4 = .ok (.iload_n 1, 1) := by decide +kernel
theorem dX3_mark_5 : decode cX3_mark 5 = .ok (.iload_n 2, 1) := by decide +kernel
theorem dX3_mark_6 : decode cX3_mark 6 = .ok (.invokevirtual 38, 3) := by decide +kernel
theorem dX3_mark_9 : decode cX3_mark 9 = .ok (.istore_n 3, 1) := by decide +kernel
theorem dX3_mark_10 : decode cX3_mark 10 = .ok (.iload_n 3, 1) := by decide +kernel
theorem dX3_mark_11 : decode cX3_mark 11 = .ok (.ifCond .ge 16, 3) := by decide +kernel
theorem dX3_mark_14 : decode cX3_mark 14 = .ok (.aload_n 0, 1) := by decide +kernel
theorem dX3_mark_15 : decode cX3_mark 15 = .ok (.getfield 22, 3) := by decide +kernel
theorem dX3_mark_18 : decode cX3_mark 18 = .ok (.iload_n 1, 1) := by decide +kernel
theorem dX3_mark_19 : decode cX3_mark 19 = .ok (.iload_n 2, 1) := by decide +kernel
theorem dX3_mark_20 : decode cX3_mark 20 = .ok (.lconst 0, 1) := by decide +kernel
theorem dX3_mark_21 : decode cX3_mark 21 = .ok (.invokevirtual 42, 3) := by decide +kernel
theorem dX3_mark_24 : decode cX3_mark 24 = .ok (.goto 11, 3) := by decide +kernel
theorem dX3_mark_27 : decode cX3_mark 27 = .ok (.aload_n 0, 1) := by decide +kernel
theorem dX3_mark_28 : decode cX3_mark 28 = .ok (.getfield 22, 3) := by decide +kernel
theorem dX3_mark_31 : decode cX3_mark 31 = .ok (.iload_n 3, 1) := by decide +kernel
theorem dX3_mark_32 : decode cX3_mark 32 = .ok (.invokevirtual 60, 3) := by decide +kernel
theorem dX3_mark_35 : decode cX3_mark 35 = .ok (.aload_n 0, 1) := by decide +kernel
theorem dX3_mark_36 : decode cX3_mark 36 = .ok (.getfield 22, 3) := by decide +kernel
theorem dX3_mark_39 : decode cX3_mark 39 = .ok (.getfield 46, 3) := by decide +kernel
theorem dX3_mark_42 : decode cX3_mark 42 = .ok (.ireturn, 1) := by decide +kernel
set_option maxRecDepth 20000 in
theorem ggX3_around_X2_find : GoodIn wsX3_around wsX2_find := goodIn_r _ [6, 7, 8, 9, 20, 21, 22, 23] (by decide +kernel) (by decide +kernel)
set_option maxRecDepth 20000 in
theorem gX3_around_X2_find : GoodIn wsX3_around (wsV RX3 38 RX2 yX2_find wsX2_find) := goodIn_app (goodIn_of _ (by decide +kernel)) ggX3_around_X2_find
theorem dX3_around_0 : decode cX3_around 0 = .ok (.iconst 0, 1) := by decide +kernel
theorem dX3_around_1 : decode cX3_around 1 = .ok (.istore_n 3, 1) := by decide +kernel
theorem dX3_around_2 : decode cX3_around 2 = .ok (.iconst (-1), 1) := by decide +kernel
theorem dX3_around_3 : decode cX3_around 3 = .ok (.istore 4, 2) := by decide +kernel
theorem dX3_around_5 : decode cX3_around 5 = .ok (.iload 4, 2) := by decide +kernel
theorem dX3_around_7 : decode cX3_around 7 = .ok (.iconst 2, 1) := by decide +kernel
theorem dX3_around_8 : decode cX3_around 8 = .ok (.if_icmp .ge 55, 3) := by decide +kernel
theorem dX3_around_11 : decode cX3_around 11 = .ok (.iconst (-1), 1) := by decide +kernel
theorem dX3_around_12 : decode cX3_around 12 = .ok (.istore 5, 2) := by decide +kernel
theorem dX3_around_14 : decode cX3_around 14 = .ok (.iload 5, 2) := by decide +kernel
theorem dX3_around_16 : decode cX3_around 16 = .ok (.iconst 2, 1) := by decide +kernel
theorem dX3_around_17 : decode cX3_around 17 = .ok (.if_icmp .ge 40, 3) := by decide +kernel
theorem dX3_around_20 : decode cX3_around 20 = .ok (.iload 4, 2) := by decide +kernel
theorem dX3_around_22 : decode cX3_around 22 = .ok (.ifCond .ne 8, 3) := by decide +kernel
theorem dX3_around_25 : decode cX3_around 25 = .ok (.iload 5, 2) := by decide +kernel
theorem dX3_around_27 : decode cX3_around 27 = .ok (.ifCond .eq 24, 3) := by decide +kernel
theorem dX3_around_30 : decode cX3_around 30 = .ok (.aload_n 0, 1) := by decide +kernel
theorem dX3_around_31 : decode cX3_around 31 = .ok (.getfield 22, 3) := by decide +kernel
theorem dX3_around_34 : decode cX3_around 34 = .ok (.iload_n 1, 1) := by decide +kernel
theorem dX3_around_35 : decode cX3_around 35 = .ok (.iload 4, 2) := by decide +kernel
theorem dX3_around_37 : decode cX3_around 37 = .ok (.iadd, 1) := by decide +kernel
theorem dX3_around_38 : decode cX3_around 38 = .ok (.iload_n 2, 1) := by decide +kernel
theorem dX3_around_39 : decode cX3_around 39 = .ok (.iload 5, 2) := by decide +kernel
theorem dX3_around_41 : decode cX3_around 41 = .ok (.iadd, 1) := by decide +kernel
theorem dX3_around_42 : decode cX3_around 42 = .ok (.invokevirtual 38, 3) := by decide +kernel
theorem dX3_around_45 : decode cX3_around 45 = .ok (.ifCond .lt 6, 3) := by decide +kernel
theorem dX3_around_48 : decode cX3_around 48 = .ok (.iinc 3 1, 3) := by decide +kernel
theorem dX3_around_51 : decode cX3_around 51 = .ok (.iinc 5 1, 3) := by decide +kernel
theorem dX3_around_54 : decode cX3_around 54 = .ok (.goto (-40), 3) := by decide +kernel
theorem dX3_around_57 : decode cX3_around 57 = .ok (.iinc 4 1, 3) := by decide +kernel
theorem dX3_around_60 : decode cX3_around 60 = .ok (.goto (-55), 3) := by decide +kernel
theorem dX3_around_63 : decode cX3_around 63 = .ok (.iload_n 3, 1) := by decide +kernel
theorem dX3_around_64 : decode cX3_around 64 = .ok (.ireturn, 1) := by decide +kernel
set_option maxRecDepth 20000 in
theorem ggX3_step_X2_init : GoodIn wsX3_step wsX2_init := goodIn_r _ [9, 10, 11, 12, 13, 14, 15, 16, 17, 42, 43, 44, 45] (by decide +kernel) (by decide +kernel)
set_option maxRecDepth 20000 in
theorem gX3_step_X2_init_n9 : GoodIn wsX3_step (wsX2_init) := ggX3_step_X2_init
set_option maxRecDepth 20000 in
theorem ggX3_step_X3_around : GoodIn wsX3_step wsX3_around := goodIn_r _ [22, 1, 23, 24, 25, 5, 26, 27, 14, 15, 32, 33, 34, 35, 36, 37, 38, 39, 40, 41, 42, 43, 44, 45] (by decide +kernel) (by decide +kernel)
set_option maxRecDepth 20000 in
theorem gX3_step_X3_around : GoodIn wsX3_step (wsV RX3 109 RX3 yX3_around wsX3_around) := goodIn_app (goodIn_of _ (by decide +kernel)) ggX3_step_X3_around
set_option maxRecDepth 20000 in
theorem ggX3_step_X2_find : GoodIn wsX3_step wsX2_find := goodIn_r _ [26, 27, 14, 15, 42, 43, 44, 45] (by decide +kernel) (by decide +kernel)
set_option maxRecDepth 20000 in
theorem gX3_step_X2_find : GoodIn wsX3_step (wsV RX3 38 RX2 yX2_find wsX2_find) := goodIn_app (goodIn_of _ (by decide +kernel)) ggX3_step_X2_find
set_option maxRecDepth 20000 in
theorem ggX3_step_X2_add : GoodIn wsX3_step wsX2_add := goodIn_r _ [31, 27, 14, 13, 16, 15, 17, 42, 43, 44, 45] (by decide +kernel) (by decide +kernel)
set_option maxRecDepth 20000 in
theorem gX3_step_X2_add : GoodIn wsX3_step (wsV RX3 42 RX2 yX2_add wsX2_add) := goodIn_app (goodIn_of _ (by decide +kernel)) ggX3_step_X2_add
theorem dX3_step_0 : decode cX3_step 0 = .ok (.aload_n 0, 1) := by decide +kernel
theorem dX3_step_1 : decode cX3_step 1 = .ok (.getfield 22, 3) := by decide +kernel
theorem dX3_step_4 : decode cX3_step 4 = .ok (.getfield 46, 3) := by decide +kernel
theorem dX3_step_7 : decode cX3_step 7 = .ok (.bipush 60, 2) := by decide +kernel
theorem dX3_step_9 : decode cX3_step 9 = .ok (.if_icmp .le 5, 3) := by decide +kernel
theorem dX3_step_12 : decode cX3_step 12 = .ok (.iconst (-1), 1) := by decide +kernel
theorem dX3_step_13 : decode cX3_step 13 = .ok (.ireturn, 1) := by decide +kernel
theorem dX3_step_14 : decode cX3_step 14 = .ok (.new 7, 3) := by decide +kernel
theorem dX3_step_17 : decode cX3_step 17 = .ok (.dup, 1) := by decide +kernel
theorem dX3_step_18 : decode cX3_step 18 = .ok (.invokespecial 9, 3) := by decide +kernel
theorem dX3_step_21 : decode cX3_step 21 = .ok (.astore_n 1, 1) := by decide +kernel
theorem dX3_step_22 : decode cX3_step 22 = .ok (.iconst 0, 1) := by decide +kernel
theorem dX3_step_23 : decode cX3_step 23 = .ok (.istore_n 2, 1) := by decide +kernel
theorem dX3_step_24 : decode cX3_step 24 = .ok (.iload_n 2, 1) := by decide +kernel
theorem dX3_step_25 : decode cX3_step 25 = .ok (.aload_n 0, 1) := by decide +kernel
theorem dX3_step_26 : decode cX3_step 26 = .ok (.getfield 22, 3) := by decide +kernel
theorem dX3_step_29 : decode cX3_step 29 = .ok (.getfield 46, 3) := by decide +kernel
theorem dX3_step_32 : decode cX3_step 32 = .ok (.if_icmp .ge 120, 3) := by decide +kernel
theorem dX3_step_35 : decode cX3_step 35 = .ok (.iconst (-1), 1) := by decide +kernel
theorem dX3_step_36 : decode cX3_step 36 = .ok (.istore_n 3, 1) := by decide +kernel
theorem dX3_step_37 : decode cX3_step 37 = .ok (.iload_n 3, 1) := by decide +kernel
theorem dX3_step_38 : decode cX3_step 38 = .ok (.iconst 2, 1) := by decide +kernel
theorem dX3_step_39 : decode cX3_step 39 = .ok (.if_icmp .ge 107, 3) := by decide +kernel
theorem dX3_step_42 : decode cX3_step 42 = .ok (.iconst (-1), 1) := by decide +kernel
theorem dX3_step_43 : decode cX3_step 43 = .ok (.istore 4, 2) := by decide +kernel
theorem dX3_step_45 : decode cX3_step 45 = .ok (.iload 4, 2) := by decide +kernel
theorem dX3_step_47 : decode cX3_step 47 = .ok (.iconst 2, 1) := by decide +kernel
theorem dX3_step_48 : decode cX3_step 48 = .ok (.if_icmp .ge 92, 3) := by decide +kernel
theorem dX3_step_51 : decode cX3_step 51 = .ok (.aload_n 0, 1) := by decide +kernel
theorem dX3_step_52 : decode cX3_step 52 = .ok (.getfield 22, 3) := by decide +kernel
theorem dX3_step_55 : decode cX3_step 55 = .ok (.getfield 66, 3) := by decide +kernel
theorem dX3_step_58 : decode cX3_step 58 = .ok (.iload_n 2, 1) := by decide +kernel
theorem dX3_step_59 : decode cX3_step 59 = .ok (.iaload, 1) := by decide +kernel
theorem dX3_step_60 : decode cX3_step 60 = .ok (.iload_n 3, 1) := by decide +kernel
theorem dX3_step_61 : decode cX3_step 61 = .ok (.iadd, 1) := by decide +kernel
theorem dX3_step_62 : decode cX3_step 62 = .ok (.istore 5, 2) := by decide +kernel
theorem dX3_step_64 : decode cX3_step 64 = .ok (.aload_n 0, 1) := by decide +kernel
theorem dX3_step_65 : decode cX3_step 65 = .ok (.getfield 22, 3) := by decide +kernel
theorem dX3_step_68 : decode cX3_step 68 = .ok (.getfield 69, 3) := by decide +kernel
theorem dX3_step_71 : decode cX3_step 71 = .ok (.iload_n 2, 1) := by decide +kernel
theorem dX3_step_72 : decode cX3_step 72 = .ok (.iaload, 1) := by decide +kernel
theorem dX3_step_73 : decode cX3_step 73 = .ok (.iload 4, 2) := by decide +kernel
theorem dX3_step_75 : decode cX3_step 75 = .ok (.iadd, 1) := by decide +kernel
theorem dX3_step_76 : decode cX3_step 76 = .ok (.istore 6, 2) := by decide +kernel
theorem dX3_step_78 : decode cX3_step 78 = .ok (.aload_n 0, 1) := by decide +kernel
theorem dX3_step_79 : decode cX3_step 79 = .ok (.iload 5, 2) := by decide +kernel
theorem dX3_step_81 : decode cX3_step 81 = .ok (.iload 6, 2) := by decide +kernel
theorem dX3_step_83 : decode cX3_step 83 = .ok (.invokevirtual 109, 3) := by decide +kernel
theorem dX3_step_86 : decode cX3_step 86 = .ok (.istore 7, 2) := by decide +kernel
theorem dX3_step_88 : decode cX3_step 88 = .ok (.iload 7, 2) := by decide +kernel
theorem dX3_step_90 : decode cX3_step 90 = .ok (.iconst 3, 1) := by decide +kernel
theorem dX3_step_91 : decode cX3_step 91 = .ok (.if_icmp .eq 23, 3) := by decide +kernel
theorem dX3_step_94 : decode cX3_step 94 = .ok (.iload 7, 2) := by decide +kernel
theorem dX3_step_96 : decode cX3_step 96 = .ok (.iconst 2, 1) := by decide +kernel
theorem dX3_step_97 : decode cX3_step 97 = .ok (.if_icmp .ne 37, 3) := by decide +kernel
theorem dX3_step_100 : decode cX3_step 100 = .ok (.aload_n 0, 1) := by decide +kernel
theorem dX3_step_101 : decode cX3_step 101 = .ok (.getfield 22, 3) := by decide +kernel
theorem dX3_step_104 : decode cX3_step 104 = .ok (.iload 5, 2) := by decide +kernel
theorem dX3_step_106 : decode cX3_step 106 = .ok (.iload 6, 2) := by decide +kernel
theorem dX3_step_108 : decode cX3_step 108 = .ok (.invokevirtual 38, 3) := by decide +kernel
theorem dX3_step_111 : decode cX3_step 111 = .ok (.ifCond .lt 23, 3) := by decide +kernel
theorem dX3_step_114 : decode cX3_step 114 = .ok (.aload_n 1, 1) := by decide +kernel
theorem dX3_step_115 : decode cX3_step 115 = .ok (.iload 5, 2) := by decide +kernel
theorem dX3_step_117 : decode cX3_step 117 = .ok (.iload 6, 2) := by decide +kernel
theorem dX3_step_119 : decode cX3_step 119 = .ok (.invokevirtual 38, 3) := by decide +kernel
theorem dX3_step_122 : decode cX3_step 122 = .ok (.ifCond .ge 12, 3) := by decide +kernel
theorem dX3_step_125 : decode cX3_step 125 = .ok (.aload_n 1, 1) := by decide +kernel
theorem dX3_step_126 : decode cX3_step 126 = .ok (.iload 5, 2) := by decide +kernel
theorem dX3_step_128 : decode cX3_step 128 = .ok (.iload 6, 2) := by decide +kernel
theorem dX3_step_130 : decode cX3_step 130 = .ok (.lconst 0, 1) := by decide +kernel
theorem dX3_step_131 : decode cX3_step 131 = .ok (.invokevirtual 42, 3) := by decide +kernel
theorem dX3_step_134 : decode cX3_step 134 = .ok (.iinc 4 1, 3) := by decide +kernel
theorem dX3_step_137 : decode cX3_step 137 = .ok (.goto (-92), 3) := by decide +kernel
theorem dX3_step_140 : decode cX3_step 140 = .ok (.iinc 3 1, 3) := by decide +kernel
theorem dX3_step_143 : decode cX3_step 143 = .ok (.goto (-106), 3) := by decide +kernel
theorem dX3_step_146 : decode cX3_step 146 = .ok (.iinc 2 1, 3) := by decide +kernel
theorem dX3_step_149 : decode cX3_step 149 = .ok (.goto (-125), 3) := by decide +kernel
theorem dX3_step_152 : decode cX3_step 152 = .ok (.aload_n 0, 1) := by decide +kernel
theorem dX3_step_153 : decode cX3_step 153 = .ok (.getfield 22, 3) := by decide +kernel
theorem dX3_step_156 : decode cX3_step 156 = .ok (.iconst 0, 1) := by decide +kernel
theorem dX3_step_157 : decode cX3_step 157 = .ok (.putfield 46, 3) := by decide +kernel
theorem dX3_step_160 : decode cX3_step 160 = .ok (.iconst 0, 1) := by decide +kernel
theorem dX3_step_161 : decode cX3_step 161 = .ok (.istore_n 2, 1) := by decide +kernel
theorem dX3_step_162 : decode cX3_step 162 = .ok (.iload_n 2, 1) := by decide +kernel
theorem dX3_step_163 : decode cX3_step 163 = .ok (.aload_n 1, 1) := by decide +kernel
theorem dX3_step_164 : decode cX3_step 164 = .ok (.getfield 46, 3) := by decide +kernel
theorem dX3_step_167 : decode cX3_step 167 = .ok (.if_icmp .ge 29, 3) := by decide +kernel
theorem dX3_step_170 : decode cX3_step 170 = .ok (.aload_n 0, 1) := by decide +kernel
theorem dX3_step_171 : decode cX3_step 171 = .ok (.getfield 22, 3) := by decide +kernel
theorem dX3_step_174 : decode cX3_step 174 = .ok (.aload_n 1, 1) := by decide +kernel
theorem dX3_step_175 : decode cX3_step 175 = .ok (.getfield 66, 3) := by decide +kernel
theorem dX3_step_178 : decode cX3_step 178 = .ok (.iload_n 2, 1) := by decide +kernel
theorem dX3_step_179 : decode cX3_step 179 = .ok (.iaload, 1) := by decide +kernel
theorem dX3_step_180 : decode cX3_step 180 = .ok (.aload_n 1, 1) := by decide +kernel
theorem dX3_step_181 : decode cX3_step 181 = .ok (.getfield 69, 3) := by decide +kernel
theorem dX3_step_184 : decode cX3_step 184 = .ok (.iload_n 2, 1) := by decide +kernel
theorem dX3_step_185 : decode cX3_step 185 = .ok (.iaload, 1) := by decide +kernel
theorem dX3_step_186 : decode cX3_step 186 = .ok (.lconst 0, 1) := by decide +kernel
theorem dX3_step_187 : decode cX3_step 187 = .ok (.invokevirtual 42, 3) := by decide +kernel
theorem dX3_step_190 : decode cX3_step 190 = .ok (.iinc 2 1, 3) := by decide +kernel
theorem dX3_step_193 : decode cX3_step 193 = .ok (.goto (-31), 3) := by decide +kernel
theorem dX3_step_196 : decode cX3_step 196 = .ok (.aload_n 0, 1) := by decide +kernel
theorem dX3_step_197 : decode cX3_step 197 = .ok (.getfield 22, 3) := by decide +kernel
theorem dX3_step_200 : decode cX3_step 200 = .ok (.getfield 46, 3) := by decide +kernel
theorem dX3_step_203 : decode cX3_step 203 = .ok (.ireturn, 1) := by decide +kernel
set_option maxRecDepth 20000 in
theorem ggX3_put_X2_find : GoodIn wsX3_put wsX2_find := goodIn_r _ [7, 8, 9, 10, 33, 34, 35, 36] (by decide +kernel) (by decide +kernel)
set_option maxRecDepth 20000 in
theorem gX3_put_X2_find : GoodIn wsX3_put (wsV RX3 38 RX2 yX2_find wsX2_find) := goodIn_app (goodIn_of _ (by decide +kernel)) ggX3_put_X2_find
set_option maxRecDepth 20000 in
theorem ggX3_put_X3_told : GoodIn wsX3_put wsX3_told := goodIn_r _ [14, 15, 2, 33, 34, 35, 36] (by decide +kernel) (by decide +kernel)
set_option maxRecDepth 20000 in
theorem gX3_put_X3_told : GoodIn wsX3_put (va_wsS RX3 56 yX3_told wsX3_told) := goodIn_app (goodIn_of _ (by decide +kernel)) ggX3_put_X3_told
set_option maxRecDepth 20000 in
theorem ggX3_put_X2_add : GoodIn wsX3_put wsX2_add := goodIn_r _ [19, 8, 9, 20, 21, 10, 22, 33, 34, 35, 36] (by decide +kernel) (by decide +kernel)
set_option maxRecDepth 20000 in
theorem gX3_put_X2_add : GoodIn wsX3_put (wsV RX3 42 RX2 yX2_add wsX2_add) := goodIn_app (goodIn_of _ (by decide +kernel)) ggX3_put_X2_add
theorem dX3_put_0 : decode cX3_put 0 = .ok (.aload_n 0, 1) := by decide +kernel
theorem dX3_put_1 : decode cX3_put 1 = .ok (.getfield 25, 3) := by decide +kernel
theorem dX3_put_4 : decode cX3_put 4 = .ok (.iload_n 1, 1) := by decide +kernel
theorem dX3_put_5 : decode cX3_put 5 = .ok (.iload_n 2, 1) := by decide +kernel
theorem dX3_put_6 : decode cX3_put 6 = .ok (.invokevirtual 38, 3) := by decide +kernel
theorem dX3_put_9 : decode cX3_put 9 = .ok (.istore 4, 2) := by decide +kernel
theorem dX3_put_11 : decode cX3_put 11 = .ok (.aload_n 0, 1) := by decide +kernel
theorem dX3_put_12 : decode cX3_put 12 = .ok (.getfield 25, 3) := by decide +kernel
theorem dX3_put_15 : decode cX3_put 15 = .ok (.iload 4, 2) := by decide +kernel
theorem dX3_put_17 : decode cX3_put 17 = .ok (.invokestatic 56, 3) := by decide +kernel
theorem dX3_put_20 : decode cX3_put 20 = .ok (.lstore 5, 2) := by decide +kernel
theorem dX3_put_22 : decode cX3_put 22 = .ok (.iload 4, 2) := by decide +kernel
theorem dX3_put_24 : decode cX3_put 24 = .ok (.ifCond .ge 17, 3) := by decide +kernel
theorem dX3_put_27 : decode cX3_put 27 = .ok (.aload_n 0, 1) := by decide +kernel
theorem dX3_put_28 : decode cX3_put 28 = .ok (.getfield 25, 3) := by decide +kernel
theorem dX3_put_31 : decode cX3_put 31 = .ok (.iload_n 1, 1) := by decide +kernel
theorem dX3_put_32 : decode cX3_put 32 = .ok (.iload_n 2, 1) := by decide +kernel
theorem dX3_put_33 : decode cX3_put 33 = .ok (.iload_n 3, 1) := by decide +kernel
theorem dX3_put_34 : decode cX3_put 34 = .ok (.i2l, 1) := by decide +kernel
theorem dX3_put_35 : decode cX3_put 35 = .ok (.invokevirtual 42, 3) := by decide +kernel
theorem dX3_put_38 : decode cX3_put 38 = .ok (.goto 15, 3) := by decide +kernel
theorem dX3_put_41 : decode cX3_put 41 = .ok (.aload_n 0, 1) := by decide +kernel
theorem dX3_put_42 : decode cX3_put 42 = .ok (.getfield 25, 3) := by decide +kernel
theorem dX3_put_45 : decode cX3_put 45 = .ok (.getfield 50, 3) := by decide +kernel
theorem dX3_put_48 : decode cX3_put 48 = .ok (.iload 4, 2) := by decide +kernel
theorem dX3_put_50 : decode cX3_put 50 = .ok (.iload_n 3, 1) := by decide +kernel
theorem dX3_put_51 : decode cX3_put 51 = .ok (.i2l, 1) := by decide +kernel
theorem dX3_put_52 : decode cX3_put 52 = .ok (.lastore, 1) := by decide +kernel
theorem dX3_put_53 : decode cX3_put 53 = .ok (.lload 5, 2) := by decide +kernel
theorem dX3_put_55 : decode cX3_put 55 = .ok (.lreturn, 1) := by decide +kernel
set_option maxRecDepth 20000 in
theorem ggX3_get_X2_find : GoodIn wsX3_get wsX2_find := goodIn_r _ [6, 7, 8, 9, 26, 27, 28, 29] (by decide +kernel) (by decide +kernel)
set_option maxRecDepth 20000 in
theorem gX3_get_X2_find : GoodIn wsX3_get (wsV RX3 38 RX2 yX2_find wsX2_find) := goodIn_app (goodIn_of _ (by decide +kernel)) ggX3_get_X2_find
set_option maxRecDepth 20000 in
theorem ggX3_get_X3_told : GoodIn wsX3_get wsX3_told := goodIn_r _ [13, 14, 15, 26, 27, 28, 29] (by decide +kernel) (by decide +kernel)
set_option maxRecDepth 20000 in
theorem gX3_get_X3_told : GoodIn wsX3_get (va_wsS RX3 56 yX3_told wsX3_told) := goodIn_app (goodIn_of _ (by decide +kernel)) ggX3_get_X3_told
theorem dX3_get_0 : decode cX3_get 0 = .ok (.aload_n 0, 1) := by decide +kernel
theorem dX3_get_1 : decode cX3_get 1 = .ok (.getfield 25, 3) := by decide +kernel
theorem dX3_get_4 : decode cX3_get 4 = .ok (.aload_n 0, 1) := by decide +kernel
theorem dX3_get_5 : decode cX3_get 5 = .ok (.getfield 25, 3) := by decide +kernel
theorem dX3_get_8 : decode cX3_get 8 = .ok (.iload_n 1, 1) := by decide +kernel
theorem dX3_get_9 : decode cX3_get 9 = .ok (.iload_n 2, 1) := by decide +kernel
theorem dX3_get_10 : decode cX3_get 10 = .ok (.invokevirtual 38, 3) := by decide +kernel
theorem dX3_get_13 : decode cX3_get 13 = .ok (.invokestatic 56, 3) := by decide +kernel
theorem dX3_get_16 : decode cX3_get 16 = .ok (.lreturn, 1) := by decide +kernel
theorem dX3_end_0 : decode cX3_end 0 = .ok (.ldc2_w 54, 3) := by decide +kernel
theorem dX3_end_3 : decode cX3_end 3 = .ok (.lstore_n 2, 1) := by decide +kernel
theorem dX3_end_4 : decode cX3_end 4 = .ok (.iconst 0, 1) := by decide +kernel
theorem dX3_end_5 : decode cX3_end 5 = .ok (.istore 4, 2) := by decide +kernel
theorem dX3_end_7 : decode cX3_end 7 = .ok (.iload 4, 2) := by decide +kernel
theorem dX3_end_9 : decode cX3_end 9 = .ok (.aload_n 0, 1) := by decide +kernel
theorem dX3_end_10 : decode cX3_end 10 = .ok (.getfield 25, 3) := by decide +kernel
theorem dX3_end_13 : decode cX3_end 13 = .ok (.getfield 46, 3) := by decide +kernel
theorem dX3_end_16 : decode cX3_end 16 = .ok (.if_icmp .ge 59, 3) := by decide +kernel
theorem dX3_end_19 : decode cX3_end 19 = .ok (.aload_n 0, 1) := by decide +kernel
theorem dX3_end_20 : decode cX3_end 20 = .ok (.getfield 25, 3) := by decide +kernel
theorem dX3_end_23 : decode cX3_end 23 = .ok (.getfield 66, 3) := by decide +kernel
theorem dX3_end_26 : decode cX3_end 26 = .ok (.iload 4, 2) := by decide +kernel
theorem dX3_end_28 : decode cX3_end 28 = .ok (.iaload, 1) := by decide +kernel
theorem dX3_end_29 : decode cX3_end 29 = .ok (.iload_n 1, 1) := by decide +kernel
theorem dX3_end_30 : decode cX3_end 30 = .ok (.if_icmp .ne 39, 3) := by decide +kernel
theorem dX3_end_33 : decode cX3_end 33 = .ok (.lload_n 2, 1) := by decide +kernel
theorem dX3_end_34 : decode cX3_end 34 = .ok (.ldc2_w 54, 3) := by decide +kernel
theorem dX3_end_37 : decode cX3_end 37 = .ok (.lcmp, 1) := by decide +kernel
theorem dX3_end_38 : decode cX3_end 38 = .ok (.ifCond .eq 19, 3) := by decide +kernel
theorem dX3_end_41 : decode cX3_end 41 = .ok (.aload_n 0, 1) := by decide +kernel
theorem dX3_end_42 : decode cX3_end 42 = .ok (.getfield 25, 3) := by decide +kernel
theorem dX3_end_45 : decode cX3_end 45 = .ok (.getfield 69, 3) := by decide +kernel
theorem dX3_end_48 : decode cX3_end 48 = .ok (.iload 4, 2) := by decide +kernel
theorem dX3_end_50 : decode cX3_end 50 = .ok (.iaload, 1) := by decide +kernel
theorem dX3_end_51 : decode cX3_end 51 = .ok (.i2l, 1) := by decide +kernel
theorem dX3_end_52 : decode cX3_end 52 = .ok (.lload_n 2, 1) := by decide +kernel
theorem dX3_end_53 : decode cX3_end 53 = .ok (.lcmp, 1) := by decide +kernel
theorem dX3_end_54 : decode cX3_end 54 = .ok (.ifCond .le 15, 3) := by decide +kernel
theorem dX3_end_57 : decode cX3_end 57 = .ok (.aload_n 0, 1) := by decide +kernel
theorem dX3_end_58 : decode cX3_end 58 = .ok (.getfield 25, 3) := by decide +kernel
theorem dX3_end_61 : decode cX3_end 61 = .ok (.getfield 69, 3) := by decide +kernel
theorem dX3_end_64 : decode cX3_end 64 = .ok (.iload 4, 2) := by decide +kernel
theorem dX3_end_66 : decode cX3_end 66 = .ok (.iaload, 1) := by decide +kernel
theorem dX3_end_67 : decode cX3_end 67 = .ok (.i2l, 1) := by decide +kernel
theorem dX3_end_68 : decode cX3_end 68 = .ok (.lstore_n 2, 1) := by decide +kernel
theorem dX3_end_69 : decode cX3_end 69 = .ok (.iinc 4 1, 3) := by decide +kernel
theorem dX3_end_72 : decode cX3_end 72 = .ok (.goto (-65), 3) := by decide +kernel
theorem dX3_end_75 : decode cX3_end 75 = .ok (.lload_n 2, 1) := by decide +kernel
theorem dX3_end_76 : decode cX3_end 76 = .ok (.lreturn, 1) := by decide +kernel
theorem dX3_rows_0 : decode cX3_rows 0 = .ok (.iconst 0, 1) := by decide +kernel
theorem dX3_rows_1 : decode cX3_rows 1 = .ok (.istore_n 1, 1) := by decide +kernel
theorem dX3_rows_2 : decode cX3_rows 2 = .ok (.iconst 0, 1) := by decide +kernel
theorem dX3_rows_3 : decode cX3_rows 3 = .ok (.istore_n 2, 1) := by decide +kernel
theorem dX3_rows_4 : decode cX3_rows 4 = .ok (.iload_n 2, 1) := by decide +kernel
theorem dX3_rows_5 : decode cX3_rows 5 = .ok (.aload_n 0, 1) := by decide +kernel
theorem dX3_rows_6 : decode cX3_rows 6 = .ok (.getfield 25, 3) := by decide +kernel
theorem dX3_rows_9 : decode cX3_rows 9 = .ok (.getfield 46, 3) := by decide +kernel
theorem dX3_rows_12 : decode cX3_rows 12 = .ok (.if_icmp .ge 57, 3) := by decide +kernel
theorem dX3_rows_15 : decode cX3_rows 15 = .ok (.iconst 1, 1) := by decide +kernel
theorem dX3_rows_16 : decode cX3_rows 16 = .ok (.istore_n 3, 1) := by decide +kernel
theorem dX3_rows_17 : decode cX3_rows 17 = .ok (.iconst 0, 1) := by decide +kernel
theorem dX3_rows_18 : decode cX3_rows 18 = .ok (.istore 4, 2) := by decide +kernel
theorem dX3_rows_20 : decode cX3_rows 20 = .ok (.iload 4, 2) := by decide +kernel
theorem dX3_rows_22 : decode cX3_rows 22 = .ok (.iload_n 2, 1) := by decide +kernel
theorem dX3_rows_23 : decode cX3_rows 23 = .ok (.if_icmp .ge 33, 3) := by decide +kernel
theorem dX3_rows_26 : decode cX3_rows 26 = .ok (.aload_n 0, 1) := by decide +kernel
theorem dX3_rows_27 : decode cX3_rows 27 = .ok (.getfield 25, 3) := by decide +kernel
theorem dX3_rows_30 : decode cX3_rows 30 = .ok (.getfield 66, 3) := by decide +kernel
theorem dX3_rows_33 : decode cX3_rows 33 = .ok (.iload 4, 2) := by decide +kernel
theorem dX3_rows_35 : decode cX3_rows 35 = .ok (.iaload, 1) := by decide +kernel
theorem dX3_rows_36 : decode cX3_rows 36 = .ok (.aload_n 0, 1) := by decide +kernel
theorem dX3_rows_37 : decode cX3_rows 37 = .ok (.getfield 25, 3) := by decide +kernel
theorem dX3_rows_40 : decode cX3_rows 40 = .ok (.getfield 66, 3) := by decide +kernel
theorem dX3_rows_43 : decode cX3_rows 43 = .ok (.iload_n 2, 1) := by decide +kernel
theorem dX3_rows_44 : decode cX3_rows 44 = .ok (.iaload, 1) := by decide +kernel
theorem dX3_rows_45 : decode cX3_rows 45 = .ok (.if_icmp .ne 5, 3) := by decide +kernel
theorem dX3_rows_48 : decode cX3_rows 48 = .ok (.iconst 0, 1) := by decide +kernel
theorem dX3_rows_49 : decode cX3_rows 49 = .ok (.istore_n 3, 1) := by decide +kernel
theorem dX3_rows_50 : decode cX3_rows 50 = .ok (.iinc 4 1, 3) := by decide +kernel
theorem dX3_rows_53 : decode cX3_rows 53 = .ok (.goto (-33), 3) := by decide +kernel
theorem dX3_rows_56 : decode cX3_rows 56 = .ok (.iload_n 3, 1) := by decide +kernel
theorem dX3_rows_57 : decode cX3_rows 57 = .ok (.ifCond .eq 6, 3) := by decide +kernel
theorem dX3_rows_60 : decode cX3_rows 60 = .ok (.iinc 1 1, 3) := by decide +kernel
theorem dX3_rows_63 : decode cX3_rows 63 = .ok (.iinc 2 1, 3) := by decide +kernel
theorem dX3_rows_66 : decode cX3_rows 66 = .ok (.goto (-62), 3) := by decide +kernel
theorem dX3_rows_69 : decode cX3_rows 69 = .ok (.iload_n 1, 1) := by decide +kernel
theorem dX3_rows_70 : decode cX3_rows 70 = .ok (.ireturn, 1) := by decide +kernel
set_option maxRecDepth 20000 in
theorem ggX3_cut_X2_find : GoodIn wsX3_cut wsX2_find := goodIn_r _ [6, 7, 8, 9, 32, 33, 34, 35] (by decide +kernel) (by decide +kernel)
set_option maxRecDepth 20000 in
theorem gX3_cut_X2_find : GoodIn wsX3_cut (wsV RX3 38 RX2 yX2_find wsX2_find) := goodIn_app (goodIn_of _ (by decide +kernel)) ggX3_cut_X2_find
set_option maxRecDepth 20000 in
theorem ggX3_cut_X2_remove : GoodIn wsX3_cut wsX2_remove := goodIn_r _ [13, 7, 8, 9, 14, 32, 33, 34, 35] (by decide +kernel) (by decide +kernel)
set_option maxRecDepth 20000 in
theorem gX3_cut_X2_remove : GoodIn wsX3_cut (wsV RX3 60 RX2 yX2_remove wsX2_remove) := goodIn_app (goodIn_of _ (by decide +kernel)) ggX3_cut_X2_remove
set_option maxRecDepth 20000 in
theorem ggX3_cut_X3_rows : GoodIn wsX3_cut wsX3_rows := goodIn_r _ [19, 1, 20, 21, 22, 23, 24, 25, 26, 27, 28, 29, 30, 31, 32, 33, 34, 35] (by decide +kernel) (by decide +kernel)
set_option maxRecDepth 20000 in
theorem gX3_cut_X3_rows : GoodIn wsX3_cut (wsV RX3 112 RX3 yX3_rows wsX3_rows) := goodIn_app (goodIn_of _ (by decide +kernel)) ggX3_cut_X3_rows
theorem dX3_cut_0 : decode cX3_cut 0 = .ok (.aload_n 0, 1) := by decide +kernel
theorem dX3_cut_1 : decode cX3_cut 1 = .ok (.getfield 25, 3) := by decide +kernel
theorem dX3_cut_4 : decode cX3_cut 4 = .ok (.iload_n 1, 1) := by decide +kernel
theorem dX3_cut_5 : decode cX3_cut 5 = .ok (.iload_n 2, 1) := by decide +kernel
theorem dX3_cut_6 : decode cX3_cut 6 = .ok (.invokevirtual 38, 3) := by decide +kernel
theorem dX3_cut_9 : decode cX3_cut 9 = .ok (.istore_n 3, 1) := by decide +kernel
theorem dX3_cut_10 : decode cX3_cut 10 = .ok (.iload_n 3, 1) := by decide +kernel
theorem dX3_cut_11 : decode cX3_cut 11 = .ok (.ifCond .lt 11, 3) := by decide +kernel
theorem dX3_cut_14 : decode cX3_cut 14 = .ok (.aload_n 0, 1) := by decide +kernel
theorem dX3_cut_15 : decode cX3_cut 15 = .ok (.getfield 25, 3) := by decide +kernel
theorem dX3_cut_18 : decode cX3_cut 18 = .ok (.iload_n 3, 1) := by decide +kernel
theorem dX3_cut_19 : decode cX3_cut 19 = .ok (.invokevirtual 60, 3) := by decide +kernel
theorem dX3_cut_22 : decode cX3_cut 22 = .ok (.aload_n 0, 1) := by decide +kernel
theorem dX3_cut_23 : decode cX3_cut 23 = .ok (.invokevirtual 112, 3) := by decide +kernel
theorem dX3_cut_26 : decode cX3_cut 26 = .ok (.ireturn, 1) := by decide +kernel
set_option maxRecDepth 20000 in
theorem ggX3_size_X3_numbers : GoodIn wsX3_size wsX3_numbers := goodIn_r _ [12, 13, 2, 14, 19, 20, 21, 22, 23, 24, 25, 26, 27, 28, 29, 30, 31, 32] (by decide +kernel) (by decide +kernel)
set_option maxRecDepth 20000 in
theorem gX3_size_X3_numbers : GoodIn wsX3_size (wsV RX3 102 RX3 yX3_numbers wsX3_numbers) := goodIn_app (goodIn_of _ (by decide +kernel)) ggX3_size_X3_numbers
set_option maxRecDepth 20000 in
theorem ggX3_size_X3_rows : GoodIn wsX3_size wsX3_rows := goodIn_r _ [18, 7, 2, 14, 19, 20, 21, 22, 23, 24, 25, 26, 27, 28, 29, 30, 31, 32] (by decide +kernel) (by decide +kernel)
set_option maxRecDepth 20000 in
theorem gX3_size_X3_rows : GoodIn wsX3_size (wsV RX3 112 RX3 yX3_rows wsX3_rows) := goodIn_app (goodIn_of _ (by decide +kernel)) ggX3_size_X3_rows
theorem dX3_size_0 : decode cX3_size 0 = .ok (.iconst 0, 1) := by decide +kernel
theorem dX3_size_1 : decode cX3_size 1 = .ok (.istore_n 2, 1) := by decide +kernel
theorem dX3_size_2 : decode cX3_size 2 = .ok (.iload_n 1, 1) := by decide +kernel
theorem dX3_size_3 : decode cX3_size 3 = .ok (.tableswitch 115 0 6 #[41, 49, 57, 65, 94, 102, 107], 41) := by decide +kernel
theorem dX3_size_44 : decode cX3_size 44 = .ok (.aload_n 0, 1) := by decide +kernel
theorem dX3_size_45 : decode cX3_size 45 = .ok (.getfield 10, 3) := by decide +kernel
theorem dX3_size_48 : decode cX3_size 48 = .ok (.getfield 46, 3) := by decide +kernel
theorem dX3_size_51 : decode cX3_size 51 = .ok (.ireturn, 1) := by decide +kernel
theorem dX3_size_52 : decode cX3_size 52 = .ok (.aload_n 0, 1) := by decide +kernel
theorem dX3_size_53 : decode cX3_size 53 = .ok (.getfield 16, 3) := by decide +kernel
theorem dX3_size_56 : decode cX3_size 56 = .ok (.getfield 46, 3) := by decide +kernel
theorem dX3_size_59 : decode cX3_size 59 = .ok (.ireturn, 1) := by decide +kernel
theorem dX3_size_60 : decode cX3_size 60 = .ok (.aload_n 0, 1) := by decide +kernel
theorem dX3_size_61 : decode cX3_size 61 = .ok (.getfield 19, 3) := by decide +kernel
theorem dX3_size_64 : decode cX3_size 64 = .ok (.getfield 46, 3) := by decide +kernel
theorem dX3_size_67 : decode cX3_size 67 = .ok (.ireturn, 1) := by decide +kernel
theorem dX3_size_68 : decode cX3_size 68 = .ok (.iconst 0, 1) := by decide +kernel
theorem dX3_size_69 : decode cX3_size 69 = .ok (.istore_n 3, 1) := by decide +kernel
theorem dX3_size_70 : decode cX3_size 70 = .ok (.iload_n 3, 1) := by decide +kernel
theorem dX3_size_71 : decode cX3_size 71 = .ok (.aload_n 0, 1) := by decide +kernel
theorem dX3_size_72 : decode cX3_size 72 = .ok (.getfield 92, 3) := by decide +kernel
theorem dX3_size_75 : decode cX3_size 75 = .ok (.if_icmp .ge 20, 3) := by decide +kernel
theorem dX3_size_78 : decode cX3_size 78 = .ok (.aload_n 0, 1) := by decide +kernel
theorem dX3_size_79 : decode cX3_size 79 = .ok (.iload_n 3, 1) := by decide +kernel
theorem dX3_size_80 : decode cX3_size 80 = .ok (.invokevirtual 102, 3) := by decide +kernel
theorem dX3_size_83 : decode cX3_size 83 = .ok (.ifCond .le 6, 3) := by decide +kernel
theorem dX3_size_86 : decode cX3_size 86 = .ok (.iinc 2 1, 3) := by decide +kernel
theorem dX3_size_89 : decode cX3_size 89 = .ok (.iinc 3 1, 3) := by decide +kernel
theorem dX3_size_92 : decode cX3_size 92 = .ok (.goto (-22), 3) := by decide +kernel
theorem dX3_size_95 : decode cX3_size 95 = .ok (.iload_n 2, 1) := by decide +kernel
theorem dX3_size_96 : decode cX3_size 96 = .ok (.ireturn, 1) := by decide +kernel
theorem dX3_size_97 : decode cX3_size 97 = .ok (.aload_n 0, 1) := by decide +kernel
theorem dX3_size_98 : decode cX3_size 98 = .ok (.getfield 22, 3) := by decide +kernel
theorem dX3_size_101 : decode cX3_size 101 = .ok (.getfield 46, 3) := by decide +kernel
theorem dX3_size_104 : decode cX3_size 104 = .ok (.ireturn, 1) := by decide +kernel
theorem dX3_size_105 : decode cX3_size 105 = .ok (.aload_n 0, 1) := by decide +kernel
theorem dX3_size_106 : decode cX3_size 106 = .ok (.invokevirtual 112, 3) := by decide +kernel
theorem dX3_size_109 : decode cX3_size 109 = .ok (.ireturn, 1) := by decide +kernel
theorem dX3_size_110 : decode cX3_size 110 = .ok (.aload_n 0, 1) := by decide +kernel
theorem dX3_size_111 : decode cX3_size 111 = .ok (.getfield 25, 3) := by decide +kernel
theorem dX3_size_114 : decode cX3_size 114 = .ok (.getfield 46, 3) := by decide +kernel
theorem dX3_size_117 : decode cX3_size 117 = .ok (.ireturn, 1) := by decide +kernel
theorem dX3_size_118 : decode cX3_size 118 = .ok (.iconst (-1), 1) := by decide +kernel
theorem dX3_size_119 : decode cX3_size 119 = .ok (.ireturn, 1) := by decide +kernel
