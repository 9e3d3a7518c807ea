theorem dX2_init_0 : decode cX2_init 0 = .ok (.aload_n 0, 1) := by decide +kernel
theorem dX2_init_1 : decode cX2_init 1 = .ok (.invokespecial 1, 3) := by decide +kernel
theorem dX2_init_4 : decode cX2_init 4 = .ok (.aload_n 0, 1) := by decide +kernel
theorem dX2_init_5 : decode cX2_init 5 = .ok (.bipush 16, 2) := by decide +kernel
theorem dX2_init_7 : decode cX2_init 7 = .ok (.newarray .int, 2) := by decide +kernel
theorem dX2_init_9 : decode cX2_init 9 = .ok (.putfield 7, 3) := by decide +kernel
theorem dX2_init_12 : decode cX2_init 12 = .ok (.aload_n 0, 1) := by decide +kernel
theorem dX2_init_13 : decode cX2_init 13 = .ok (.bipush 16, 2) := by decide +kernel
theorem dX2_init_15 : decode cX2_init 15 = .ok (.newarray .int, 2) := by decide +kernel
theorem dX2_init_17 : decode cX2_init 17 = .ok (.putfield 13, 3) := by decide +kernel
theorem dX2_init_20 : decode cX2_init 20 = .ok (.aload_n 0, 1) := by decide +kernel
theorem dX2_init_21 : decode cX2_init 21 = .ok (.bipush 16, 2) := by decide +kernel
theorem dX2_init_23 : decode cX2_init 23 = .ok (.newarray .long, 2) := by decide +kernel
theorem dX2_init_25 : decode cX2_init 25 = .ok (.putfield 16, 3) := by decide +kernel
theorem dX2_init_28 : decode cX2_init 28 = .ok (.return_, 1) := by decide +kernel
theorem dX2_find_0 : decode cX2_find 0 = .ok (.iconst 0, 1) := by decide +kernel
theorem dX2_find_1 : decode cX2_find 1 = .ok (.istore_n 3, 1) := by decide +kernel
theorem dX2_find_2 : decode cX2_find 2 = .ok (.iload_n 3, 1) := by decide +kernel
theorem dX2_find_3 : decode cX2_find 3 = .ok (.aload_n 0, 1) := by decide +kernel
theorem dX2_find_4 : decode cX2_find 4 = .ok (.getfield 20, 3) := by decide +kernel
theorem dX2_find_7 : decode cX2_find 7 = .ok (.if_icmp .ge 31, 3) := by decide +kernel
theorem dX2_find_10 : decode cX2_find 10 = .ok (.aload_n 0, 1) := by decide +kernel
theorem dX2_find_11 : decode cX2_find 11 = .ok (.getfield 7, 3) := by decide +kernel
theorem dX2_find_14 : decode cX2_find 14 = .ok (.iload_n 3, 1) := by decide +kernel
theorem dX2_find_15 : decode cX2_find 15 = .ok (.iaload, 1) := by decide +kernel
theorem dX2_find_16 : decode cX2_find 16 = .ok (.iload_n 1, 1) := by decide +kernel
theorem dX2_find_17 : decode cX2_find 17 = .ok (.if_icmp .ne 15, 3) := by decide +kernel
theorem dX2_find_20 : decode cX2_find 20 = .ok (.aload_n 0, 1) := by decide +kernel
theorem dX2_find_21 : decode cX2_find 21 = .ok (.getfield 13, 3) := by decide +kernel
theorem dX2_find_24 : decode cX2_find 24 = .ok (.iload_n 3, 1) := by decide +kernel
theorem dX2_find_25 : decode cX2_find 25 = .ok (.iaload, 1) := by decide +kernel
theorem dX2_find_26 : decode cX2_find 26 = .ok (.iload_n 2, 1) := by decide +kernel
theorem dX2_find_27 : decode cX2_find 27 = .ok (.if_icmp .ne 5, 3) := by decide +kernel
theorem dX2_find_30 : decode cX2_find 30 = .ok (.iload_n 3, 1) := by decide +kernel
theorem dX2_find_31 : decode cX2_find 31 = .ok (.ireturn, 1) := by decide +kernel
theorem dX2_find_32 : decode cX2_find 32 = .ok (.iinc 3 1, 3) := by decide +kernel
theorem dX2_find_35 : decode cX2_find 35 = .ok (.goto (-33), 3) := by decide +kernel
theorem dX2_find_38 : decode cX2_find 38 = .ok (.iconst (-1), 1) := by decide +kernel
theorem dX2_find_39 : decode cX2_find 39 = .ok (.ireturn, 1) := by decide +kernel
theorem dX2_add_0 : decode cX2_add 0 = .ok (.aload_n 0, 1) := by decide +kernel
theorem dX2_add_1 : decode cX2_add 1 = .ok (.getfield 20, 3) := by decide +kernel
theorem dX2_add_4 : decode cX2_add 4 = .ok (.aload_n 0, 1) := by decide +kernel
theorem dX2_add_5 : decode cX2_add 5 = .ok (.getfield 7, 3) := by decide +kernel
theorem dX2_add_8 : decode cX2_add 8 = .ok (.arraylength, 1) := by decide +kernel
theorem dX2_add_9 : decode cX2_add 9 = .ok (.if_icmp .ne 105, 3) := by decide +kernel
theorem dX2_add_12 : decode cX2_add 12 = .ok (.iconst 2, 1) := by decide +kernel
theorem dX2_add_13 : decode cX2_add 13 = .ok (.aload_n 0, 1) := by decide +kernel
theorem dX2_add_14 : decode cX2_add 14 = .ok (.getfield 20, 3) := by decide +kernel
theorem dX2_add_17 : decode cX2_add 17 = .ok (.imul, 1) := by decide +kernel
theorem dX2_add_18 : decode cX2_add 18 = .ok (.newarray .int, 2) := by decide +kernel
theorem dX2_add_20 : decode cX2_add 20 = .ok (.astore 5, 2) := by decide +kernel
theorem dX2_add_22 : decode cX2_add 22 = .ok (.iconst 2, 1) := by decide +kernel
theorem dX2_add_23 : decode cX2_add 23 = .ok (.aload_n 0, 1) := by decide +kernel
theorem dX2_add_24 : decode cX2_add 24 = .ok (.getfield 20, 3) := by decide +kernel
theorem dX2_add_27 : decode cX2_add 27 = .ok (.imul, 1) := by decide +kernel
theorem dX2_add_28 : decode cX2_add 28 = .ok (.newarray .int, 2) := by decide +kernel
theorem dX2_add_30 : decode cX2_add 30 = .ok (.astore 6, 2) := by decide +kernel
theorem dX2_add_32 : decode cX2_add 32 = .ok (.iconst 2, 1) := by decide +kernel
theorem dX2_add_33 : decode cX2_add 33 = .ok (.aload_n 0, 1) := by decide +kernel
theorem dX2_add_34 : decode cX2_add 34 = .ok (.getfield 20, 3) := by decide +kernel
theorem dX2_add_37 : decode cX2_add 37 = .ok (.imul, 1) := by decide +kernel
theorem dX2_add_38 : decode cX2_add 38 = .ok (.newarray .long, 2) := by decide +kernel
theorem dX2_add_40 : decode cX2_add 40 = .ok (.astore 7, 2) := by decide +kernel
theorem dX2_add_42 : decode cX2_add 42 = .ok (.iconst 0, 1) := by decide +kernel
theorem dX2_add_43 : decode cX2_add 43 = .ok (.istore 8, 2) := by decide +kernel
theorem dX2_add_45 : decode cX2_add 45 = .ok (.iload 8, 2) := by decide +kernel
theorem dX2_add_47 : decode cX2_add 47 = .ok (.aload_n 0, 1) := by decide +kernel
theorem dX2_add_48 : decode cX2_add 48 = .ok (.getfield 20, 3) := by decide +kernel
theorem dX2_add_51 : decode cX2_add 51 = .ok (.if_icmp .ge 45, 3) := by decide +kernel
theorem dX2_add_54 : decode cX2_add 54 = .ok (.aload 5, 2) := by decide +kernel
theorem dX2_add_56 : decode cX2_add 56 = .ok (.iload 8, 2) := by decide +kernel
theorem dX2_add_58 : decode cX2_add 58 = .ok (.aload_n 0, 1) := by decide +kernel
theorem dX2_add_59 : decode cX2_add 59 = .ok (.getfield 7, 3) := by decide +kernel
theorem dX2_add_62 : decode cX2_add 62 = .ok (.iload 8, 2) := by decide +kernel
theorem dX2_add_64 : decode cX2_add 64 = .ok (.iaload, 1) := by decide +kernel
theorem dX2_add_65 : decode cX2_add 65 = .ok (.iastore, 1) := by decide +kernel
theorem dX2_add_66 : decode cX2_add 66 = .ok (.aload 6, 2) := by decide +kernel
theorem dX2_add_68 : decode cX2_add 68 = .ok (.iload 8, 2) := by decide +kernel
theorem dX2_add_70 : decode cX2_add 70 = .ok (.aload_n 0, 1) := by decide +kernel
theorem dX2_add_71 : decode cX2_add 71 = .ok (.getfield 13, 3) := by decide +kernel
theorem dX2_add_74 : decode cX2_add 74 = .ok (.iload 8, 2) := by decide +kernel
theorem dX2_add_76 : decode cX2_add 76 = .ok (.iaload, 1) := by decide +kernel
theorem dX2_add_77 : decode cX2_add 77 = .ok (.iastore, 1) := by decide +kernel
theorem dX2_add_78 : decode cX2_add 78 = .ok (.aload 7, 2) := by decide +kernel
theorem dX2_add_80 : decode cX2_add 80 = .ok (.iload 8, 2) := by decide +kernel
theorem dX2_add_82 : decode cX2_add 82 = .ok (.aload_n 0, 1) := by decide +kernel
theorem dX2_add_83 : decode cX2_add 83 = .ok (.getfield 16, 3) := by decide +kernel
theorem dX2_add_86 : decode cX2_add 86 = .ok (.iload 8, 2) := by decide +kernel
theorem dX2_add_88 : decode cX2_add 88 = .ok (.laload, 1) := by decide +kernel
theorem dX2_add_89 : decode cX2_add 89 = .ok (.lastore, 1) := by decide +kernel
theorem dX2_add_90 : decode cX2_add 90 = .ok (.iinc 8 1, 3) := by decide +kernel
theorem dX2_add_93 : decode cX2_add 93 = .ok (.goto (-48), 3) := by decide +kernel
theorem dX2_add_96 : decode cX2_add 96 = .ok (.aload_n 0, 1) := by decide +kernel
theorem dX2_add_97 : decode cX2_add 97 = .ok (.aload 5, 2) := by decide +kernel
theorem dX2_add_99 : decode cX2_add 99 = .ok (.putfield 7, 3) := by decide +kernel
theorem dX2_add_102 : decode cX2_add 102 = .ok (.aload_n 0, 1) := by decide +kernel
theorem dX2_add_103 : decode cX2_add 103 = .ok (.aload 6, 2) := by decide +kernel
theorem dX2_add_105 : decode cX2_add 105 = .ok (.putfield 13, 3) := by decide +kernel
theorem dX2_add_108 : decode cX2_add 108 = .ok (.aload_n 0, 1) := by decide +kernel
theorem dX2_add_109 : decode cX2_add 109 = .ok (.aload 7, 2) := by decide +kernel
theorem dX2_add_111 : decode cX2_add 111 = .ok (.putfield 16, 3) := by decide +kernel
theorem dX2_add_114 : decode cX2_add 114 = .ok (.aload_n 0, 1) := by decide +kernel
theorem dX2_add_115 : decode cX2_add 115 = .ok (.getfield 7, 3) := by decide +kernel
theorem dX2_add_118 : decode cX2_add 118 = .ok (.aload_n 0, 1) := by decide +kernel
theorem dX2_add_119 : decode cX2_add 119 = .ok (.getfield 20, 3) := by decide +kernel
theorem dX2_add_122 : decode cX2_add 122 = .ok (.iload_n 1, 1) := by decide +kernel
theorem dX2_add_123 : decode cX2_add 123 = .ok (.iastore, 1) := by decide +kernel
theorem dX2_add_124 : decode cX2_add 124 = .ok (.aload_n 0, 1) := by decide +kernel
theorem dX2_add_125 : decode cX2_add 125 = .ok (.getfield 13, 3) := by decide +kernel
theorem dX2_add_128 : decode cX2_add 128 = .ok (.aload_n 0, 1) := by decide +kernel
theorem dX2_add_129 : decode cX2_add 129 = .ok (.getfield 20, 3) := by decide +kernel
theorem dX2_add_132 : decode cX2_add 132 = .ok (.iload_n 2, 1) := by decide +kernel
theorem dX2_add_133 : decode cX2_add 133 = .ok (.iastore, 1) := by decide +kernel
theorem dX2_add_134 : decode cX2_add 134 = .ok (.aload_n 0, 1) := by decide +kernel
theorem dX2_add_135 : decode cX2_add 135 = .ok (.getfield 16, 3) := by decide +kernel
theorem dX2_add_138 : decode cX2_add 138 = .ok (.aload_n 0, 1) := by decide +kernel
theorem dX2_add_139 : decode cX2_add 139 = .ok (.dup, 1) := by decide +kernel
theorem dX2_add_140 : decode cX2_add 140 = .ok (.getfield 20, 3) := by decide +kernel
theorem dX2_add_143 : decode cX2_add 143 = .ok (.dup_x1, 1) := by decide +kernel
theorem dX2_add_144 : decode cX2_add 144 = .ok (.iconst 1, 1) := by decide +kernel
theorem dX2_add_145 : decode cX2_add 145 = .ok (.iadd, 1) := by decide +kernel
theorem dX2_add_146 : decode cX2_add 146 = .ok (.putfield 20, 3) := by decide +kernel
theorem dX2_add_149 : decode cX2_add 149 = .ok (.lload_n 3, 1) := by decide +kernel
theorem dX2_add_150 : decode cX2_add 150 = .ok (.lastore, 1) := by decide +kernel
theorem dX2_add_151 : decode cX2_add 151 = .ok (.return_, 1) := by decide +kernel
theorem dX2_remove_0 : decode cX2_remove 0 = .ok (.aload_n 0, 1) := by decide +kernel
theorem dX2_remove_1 : decode cX2_remove 1 = .ok (.dup, 1) := by decide +kernel
theorem dX2_remove_2 : decode cX2_remove 2 = .ok (.getfield 20, 3) := by decide +kernel
theorem dX2_remove_5 : decode cX2_remove 5 = .ok (.iconst 1, 1) := by decide +kernel
theorem dX2_remove_6 : decode cX2_remove 6 = .ok (.isub, 1) := by decide +kernel
theorem dX2_remove_7 : decode cX2_remove 7 = .ok (.putfield 20, 3) := by decide +kernel
theorem dX2_remove_10 : decode cX2_remove 10 = .ok (.iload_n 1, 1) := by decide +kernel
theorem dX2_remove_11 : decode cX2_remove 11 = .ok (.istore_n 2, 1) := by decide +kernel
theorem dX2_remove_12 : decode cX2_remove 12 = .ok (.iload_n 2, 1) := by decide +kernel
theorem dX2_remove_13 : decode cX2_remove 13 = .ok (.aload_n 0, 1) := by decide +kernel
theorem dX2_remove_14 : decode cX2_remove 14 = .ok (.getfield 20, 3) := by decide +kernel
theorem dX2_remove_17 : decode cX2_remove 17 = .ok (.if_icmp .ge 51, 3) := by decide +kernel
theorem dX2_remove_20 : decode cX2_remove 20 = .ok (.aload_n 0, 1) := by decide +kernel
theorem dX2_remove_21 : decode cX2_remove 21 = .ok (.getfield 7, 3) := by decide +kernel
theorem dX2_remove_24 : decode cX2_remove 24 = .ok (.iload_n 2, 1) := by decide +kernel
theorem dX2_remove_25 : decode cX2_remove 25 = .ok (.aload_n 0, 1) := by decide +kernel
theorem dX2_remove_26 : decode cX2_remove 26 = .ok (.getfield 7, 3) := by decide +kernel
theorem dX2_remove_29 : decode cX2_remove 29 = .ok (.iload_n 2, 1) := by decide +kernel
theorem dX2_remove_30 : decode cX2_remove 30 = .ok (.iconst 1, 1) := by decide +kernel
theorem dX2_remove_31 : decode cX2_remove 31 = .ok (.iadd, 1) := by decide +kernel
theorem dX2_remove_32 : decode cX2_remove 32 = .ok (.iaload, 1) := by decide +kernel
theorem dX2_remove_33 : decode cX2_remove 33 = .ok (.iastore, 1) := by decide +kernel
theorem dX2_remove_34 : decode cX2_remove 34 = .ok (.aload_n 0, 1) := by decide +kernel
theorem dX2_remove_35 : decode cX2_remove 35 = .ok (.getfield 13, 3) := by decide +kernel
theorem dX2_remove_38 : decode cX2_remove 38 = .ok (.iload_n 2, 1) := by decide +kernel
theorem dX2_remove_39 : decode cX2_remove 39 = .ok (.aload_n 0, 1) := by decide +kernel
theorem dX2_remove_40 : decode cX2_remove 40 = .ok (.getfield 13, 3) := by decide +kernel
theorem dX2_remove_43 : decode cX2_remove 43 = .ok (.iload_n 2, 1) := by decide +kernel
theorem dX2_remove_44 : decode cX2_remove 44 = .ok (.iconst 1, 1) := by decide +kernel
theorem dX2_remove_45 : decode cX2_remove 45 = .ok (.iadd, 1) := by decide +kernel
theorem dX2_remove_46 : decode cX2_remove 46 = .ok (.iaload, 1) := by decide +kernel
theorem dX2_remove_47 : decode cX2_remove 47 = .ok (.iastore, 1) := by decide +kernel
theorem dX2_remove_48 : decode cX2_remove 48 = .ok (.aload_n 0, 1) := by decide +kernel
theorem dX2_remove_49 : decode cX2_remove 49 = .ok (.getfield 16, 3) := by decide +kernel
theorem dX2_remove_52 : decode cX2_remove 52 = .ok (.iload_n 2, 1) := by decide +kernel
theorem dX2_remove_53 : decode cX2_remove 53 = .ok (.aload_n 0, 1) := by decide +kernel
theorem dX2_remove_54 : decode cX2_remove 54 = .ok (.getfield 16, 3) := by decide +kernel
theorem dX2_remove_57 : decode cX2_remove 57 = .ok (.iload_n 2, 1) := by decide +kernel
theorem dX2_remove_58 : decode cX2_remove 58 = .ok (.iconst 1, 1) := by decide +kernel
theorem dX2_remove_59 : decode cX2_remove 59 = .ok (.iadd, 1) := by decide +kernel
theorem dX2_remove_60 : decode cX2_remove 60 = .ok (.laload, 1) := by decide +kernel
theorem dX2_remove_61 : decode cX2_remove 61 = .ok (.lastore, 1) := by decide +kernel
theorem dX2_remove_62 : decode cX2_remove 62 = .ok (.iinc 2 1, 3) := by decide +kernel
theorem dX2_remove_65 : decode cX2_remove 65 = .ok (.goto (-53), 3) := by decide +kernel
theorem dX2_remove_68 : decode cX2_remove 68 = .ok (.return_, 1) := by decide +kernel
set_option maxRecDepth 20000 in
theorem ggX3_init_X2_init : GoodIn wsX3_init wsX2_init := goodIn_r _ [17, 18, 2, 3, 13, 19, 20, 21, 22, 23, 24, 25, 26] (by decide +kernel) (by decide +kernel)
set_option maxRecDepth 20000 in
theorem gX3_init_X2_init_n9 : GoodIn wsX3_init (wsX2_init) := ggX3_init_X2_init
theorem dX3_init_0 : decode cX3_init 0 = .ok (.aload_n 0, 1) := by decide +kernel
theorem dX3_init_1 : decode cX3_init 1 = .ok (.invokespecial 1, 3) := by decide +kernel
theorem dX3_init_4 : decode cX3_init 4 = .ok (.aload_n 0, 1) := by decide +kernel
theorem dX3_init_5 : decode cX3_init 5 = .ok (.new 7, 3) := by decide +kernel
theorem dX3_init_8 : decode cX3_init 8 = .ok (.dup, 1) := by decide +kernel
theorem dX3_init_9 : decode cX3_init 9 = .ok (.invokespecial 9, 3) := by decide +kernel
theorem dX3_init_12 : decode cX3_init 12 = .ok (.putfield 10, 3) := by decide +kernel
theorem dX3_init_15 : decode cX3_init 15 = .ok (.aload_n 0, 1) := by decide +kernel
theorem dX3_init_16 : decode cX3_init 16 = .ok (.new 7, 3) := by decide +kernel
theorem dX3_init_19 : decode cX3_init 19 = .ok (.dup, 1) := by decide +kernel
theorem dX3_init_20 : decode cX3_init 20 = .ok (.invokespecial 9, 3) := by decide +kernel
theorem dX3_init_23 : decode cX3_init 23 = .ok (.putfield 16, 3) := by decide +kernel
theorem dX3_init_26 : decode cX3_init 26 = .ok (.aload_n 0, 1) := by decide +kernel
theorem dX3_init_27 : decode cX3_init 27 = .ok (.new 7, 3) := by decide +kernel
theorem dX3_init_30 : decode cX3_init 30 = .ok (.dup, 1) := by decide +kernel
theorem dX3_init_31 : decode cX3_init 31 = .ok (.invokespecial 9, 3) := by decide +kernel
theorem dX3_init_34 : decode cX3_init 34 = .ok (.putfield 19, 3) := by decide +kernel
theorem dX3_init_37 : decode cX3_init 37 = .ok (.aload_n 0, 1) := by decide +kernel
theorem dX3_init_38 : decode cX3_init 38 = .ok (.new 7, 3) := by decide +kernel
theorem dX3_init_41 : decode cX3_init 41 = .ok (.dup, 1) := by decide +kernel
theorem dX3_init_42 : decode cX3_init 42 = .ok (.invokespecial 9, 3) := by decide +kernel
theorem dX3_init_45 : decode cX3_init 45 = .ok (.putfield 22, 3) := by decide +kernel
theorem dX3_init_48 : decode cX3_init 48 = .ok (.aload_n 0, 1) := by decide +kernel
theorem dX3_init_49 : decode cX3_init 49 = .ok (.new 7, 3) := by decide +kernel
theorem dX3_init_52 : decode cX3_init 52 = .ok (.dup, 1) := by decide +kernel
theorem dX3_init_53 : decode cX3_init 53 = .ok (.invokespecial 9, 3) := by decide +kernel
theorem dX3_init_56 : decode cX3_init 56 = .ok (.putfield 25, 3) := by decide +kernel
theorem dX3_init_59 : decode cX3_init 59 = .ok (.aload_n 0, 1) := by decide +kernel
theorem dX3_init_60 : decode cX3_init 60 = .ok (.new 7, 3) := by decide +kernel
theorem dX3_init_63 : decode cX3_init 63 = .ok (.dup, 1) := by decide +kernel
theorem dX3_init_64 : decode cX3_init 64 = .ok (.invokespecial 9, 3) := by decide +kernel
theorem dX3_init_67 : decode cX3_init 67 = .ok (.putfield 28, 3) := by decide +kernel
theorem dX3_init_70 : decode cX3_init 70 = .ok (.aload_n 0, 1) := by decide +kernel
theorem dX3_init_71 : decode cX3_init 71 = .ok (.sipush 192, 3) := by decide +kernel
theorem dX3_init_74 : decode cX3_init 74 = .ok (.newarray .int, 2) := by decide +kernel
theorem dX3_init_76 : decode cX3_init 76 = .ok (.putfield 31, 3) := by decide +kernel
theorem dX3_init_79 : decode cX3_init 79 = .ok (.aload_n 0, 1) := by decide +kernel
theorem dX3_init_80 : decode cX3_init 80 = .ok (.bipush 12, 2) := by decide +kernel
theorem dX3_init_82 : decode cX3_init 82 = .ok (.newarray .int, 2) := by decide +kernel
theorem dX3_init_84 : decode cX3_init 84 = .ok (.putfield 35, 3) := by decide +kernel
theorem dX3_init_87 : decode cX3_init 87 = .ok (.return_, 1) := by decide +kernel
set_option maxRecDepth 20000 in
theorem ggX3_add_X2_find : GoodIn wsX3_add wsX2_find := goodIn_r _ [8, 9, 10, 11, 29, 30, 31, 32] (by decide +kernel) (by decide +kernel)
set_option maxRecDepth 20000 in
theorem gX3_add_X2_find : GoodIn wsX3_add (wsV RX3 38 RX2 yX2_find wsX2_find) := goodIn_app (goodIn_of _ (by decide +kernel)) ggX3_add_X2_find
set_option maxRecDepth 20000 in
theorem ggX3_add_X2_add : GoodIn wsX3_add wsX2_add := goodIn_r _ [15, 9, 10, 16, 17, 11, 18, 29, 30, 31, 32] (by decide +kernel) (by decide +kernel)
set_option maxRecDepth 20000 in
theorem gX3_add_X2_add : GoodIn wsX3_add (wsV RX3 42 RX2 yX2_add wsX2_add) := goodIn_app (goodIn_of _ (by decide +kernel)) ggX3_add_X2_add
theorem dX3_add_0 : decode cX3_add 0 = .ok (.aload_n 0, 1) := by decide +kernel
theorem dX3_add_1 : decode cX3_add 1 = .ok (.getfield 10, 3) := by decide +kernel
theorem dX3_add_4 : decode cX3_add 4 = .ok (.iload_n 1, 1) := by decide +kernel
theorem dX3_add_5 : decode cX3_add 5 = .ok (.iload_n 2, 1) := by decide +kernel
theorem dX3_add_6 : decode cX3_add 6 = .ok (.invokevirtual 38, 3) := by decide +kernel
theorem dX3_add_9 : decode cX3_add 9 = .ok (.istore 4, 2) := by decide +kernel
theorem dX3_add_11 : decode cX3_add 11 = .ok (.iload 4, 2) := by decide +kernel
theorem dX3_add_13 : decode cX3_add 13 = .ok (.ifCond .ge 24, 3) := by decide +kernel
theorem dX3_add_16 : decode cX3_add 16 = .ok (.aload_n 0, 1) := by decide +kernel
theorem dX3_add_17 : decode cX3_add 17 = .ok (.getfield 10, 3) := by decide +kernel
theorem dX3_add_20 : decode cX3_add 20 = .ok (.iload_n 1, 1) := by decide +kernel
theorem dX3_add_21 : decode cX3_add 21 = .ok (.iload_n 2, 1) := by decide +kernel
theorem dX3_add_22 : decode cX3_add 22 = .ok (.lconst 0, 1) := by decide +kernel
theorem dX3_add_23 : decode cX3_add 23 = .ok (.invokevirtual 42, 3) := by decide +kernel
theorem dX3_add_26 : decode cX3_add 26 = .ok (.aload_n 0, 1) := by decide +kernel
theorem dX3_add_27 : decode cX3_add 27 = .ok (.getfield 10, 3) := by decide +kernel
theorem dX3_add_30 : decode cX3_add 30 = .ok (.getfield 46, 3) := by decide +kernel
theorem dX3_add_33 : decode cX3_add 33 = .ok (.iconst 1, 1) := by decide +kernel
theorem dX3_add_34 : decode cX3_add 34 = .ok (.isub, 1) := by decide +kernel
theorem dX3_add_35 : decode cX3_add 35 = .ok (.istore 4, 2) := by decide +kernel
theorem dX3_add_37 : decode cX3_add 37 = .ok (.aload_n 0, 1) := by decide +kernel
theorem dX3_add_38 : decode cX3_add 38 = .ok (.getfield 10, 3) := by decide +kernel
theorem dX3_add_41 : decode cX3_add 41 = .ok (.getfield 50, 3) := by decide +kernel
theorem dX3_add_44 : decode cX3_add 44 = .ok (.iload 4, 2) := by decide +kernel
theorem dX3_add_46 : decode cX3_add 46 = .ok (.dup2, 1) := by decide +kernel
theorem dX3_add_47 : decode cX3_add 47 = .ok (.laload, 1) := by decide +kernel
theorem dX3_add_48 : decode cX3_add 48 = .ok (.iload_n 3, 1) := by decide +kernel
theorem dX3_add_49 : decode cX3_add 49 = .ok (.i2l, 1) := by decide +kernel
theorem dX3_add_50 : decode cX3_add 50 = .ok (.ladd, 1) := by decide +kernel
theorem dX3_add_51 : decode cX3_add 51 = .ok (.lastore, 1) := by decide +kernel
theorem dX3_add_52 : decode cX3_add 52 = .ok (.aload_n 0, 1) := by decide +kernel
theorem dX3_add_53 : decode cX3_add 53 = .ok (.getfield 10, 3) := by decide +kernel
theorem dX3_add_56 : decode cX3_add 56 = .ok (.getfield 50, 3) := by decide +kernel
theorem dX3_add_59 : decode cX3_add 59 = .ok (.iload 4, 2) := by decide +kernel
theorem dX3_add_61 : decode cX3_add 61 = .ok (.laload, 1) := by decide +kernel
theorem dX3_add_62 : decode cX3_add 62 = .ok (.lreturn, 1) := by decide +kernel
theorem dX3_told_0 : decode cX3_told 0 = .ok (.iload_n 1, 1) := by decide +kernel
theorem dX3_told_1 : decode cX3_told 1 = .ok (.ifCond .ge 9, 3) := by decide +kernel
theorem dX3_told_4 : decode cX3_told 4 = .ok (.ldc2_w 54, 3) := by decide +kernel
theorem dX3_told_7 : decode cX3_told 7 = .ok (.goto 9, 3) := by decide +kernel
theorem dX3_told_10 : decode cX3_told 10 = .ok (.aload_n 0, 1) := by decide +kernel
theorem dX3_told_11 : decode cX3_told 11 = .ok (.getfield 50, 3) := by decide +kernel
theorem dX3_told_14 : decode cX3_told 14 = .ok (.iload_n 1, 1) := by decide +kernel
theorem dX3_told_15 : decode cX3_told 15 = .ok (.laload, 1) := by decide +kernel
theorem dX3_told_16 : decode cX3_told 16 = .ok (.lreturn, 1) := by decide +kernel
set_option maxRecDepth 20000 in
theorem ggX3_count_X2_find : GoodIn wsX3_count wsX2_find := goodIn_r _ [6, 7, 8, 9, 26, 27, 28, 29] (by decide +kernel) (by decide +kernel)
set_option maxRecDepth 20000 in
theorem gX3_count_X2_find : GoodIn wsX3_count (wsV RX3 38 RX2 yX2_find wsX2_find) := goodIn_app (goodIn_of _ (by decide +kernel)) ggX3_count_X2_find
set_option maxRecDepth 20000 in
theorem ggX3_count_X3_told : GoodIn wsX3_count wsX3_told := goodIn_r _ [13, 14, 15, 26, 27, 28, 29] (by decide +kernel) (by decide +kernel)
set_option maxRecDepth 20000 in
theorem gX3_count_X3_told : GoodIn wsX3_count (va_wsS RX3 56 yX3_told wsX3_told) := goodIn_app (goodIn_of _ (by decide +kernel)) ggX3_count_X3_told
theorem dX3_count_0 : decode cX3_count 0 = .ok (.aload_n 0, 1) := by decide +kernel
theorem dX3_count_1 : decode cX3_count 1 = .ok (.getfield 10, 3) := by decide +kernel
theorem dX3_count_4 : decode cX3_count 4 = .ok (.aload_n 0, 1) := by decide +kernel
theorem dX3_count_5 : decode cX3_count 5 = .ok (.getfield 10, 3) := by decide +kernel
theorem dX3_count_8 : decode cX3_count 8 = .ok (.iload_n 1, 1) := by decide +kernel
theorem dX3_count_9 : decode cX3_count 9 = .ok (.iload_n 2, 1) := by decide +kernel
theorem dX3_count_10 : decode cX3_count 10 = .ok (.invokevirtual 38, 3) := by decide +kernel
theorem dX3_count_13 : decode cX3_count 13 = .ok (.invokestatic 56, 3) := by decide +kernel
theorem dX3_count_16 : decode cX3_count 16 = .ok (.lreturn, 1) := by decide +kernel
set_option maxRecDepth 20000 in
theorem ggX3_drop_X2_find : GoodIn wsX3_drop wsX2_find := goodIn_r _ [6, 7, 8, 9, 31, 32, 33, 34] (by decide +kernel) (by decide +kernel)
set_option maxRecDepth 20000 in
theorem gX3_drop_X2_find : GoodIn wsX3_drop (wsV RX3 38 RX2 yX2_find wsX2_find) := goodIn_app (goodIn_of _ (by decide +kernel)) ggX3_drop_X2_find
set_option maxRecDepth 20000 in
theorem ggX3_drop_X3_told : GoodIn wsX3_drop wsX3_told := goodIn_r _ [13, 14, 15, 31, 32, 33, 34] (by decide +kernel) (by decide +kernel)
set_option maxRecDepth 20000 in
theorem gX3_drop_X3_told : GoodIn wsX3_drop (va_wsS RX3 56 yX3_told wsX3_told) := goodIn_app (goodIn_of _ (by decide +kernel)) ggX3_drop_X3_told
set_option maxRecDepth 20000 in
theorem ggX3_drop_X2_remove : GoodIn wsX3_drop wsX2_remove := goodIn_r _ [19, 7, 8, 9, 20, 31, 32, 33, 34] (by decide +kernel) (by decide +kernel)
set_option maxRecDepth 20000 in
theorem gX3_drop_X2_remove : GoodIn wsX3_drop (wsV RX3 60 RX2 yX2_remove wsX2_remove) := goodIn_app (goodIn_of _ (by decide +kernel)) ggX3_drop_X2_remove
theorem dX3_drop_0 : decode cX3_drop 0 = .ok (.aload_n 0, 1) := by decide +kernel
theorem dX3_drop_1 : decode cX3_drop 1 = .ok (.getfield 10, 3) := by decide +kernel
theorem dX3_drop_4 : decode cX3_drop 4 = .ok (.iload_n 1, 1) := by decide +kernel
theorem dX3_drop_5 : decode cX3_drop 5 = .ok (.iload_n 2, 1) := by decide +kernel
theorem dX3_drop_6 : decode cX3_drop 6 = .ok (.invokevirtual 38, 3) := by decide +kernel
theorem dX3_drop_9 : decode cX3_drop 9 = .ok (.istore_n 3, 1) := by decide +kernel
theorem dX3_drop_10 : decode cX3_drop 10 = .ok (.aload_n 0, 1) := by decide +kernel
theorem dX3_drop_11 : decode cX3_drop 11 = .ok (.getfield 10, 3) := by decide +kernel
theorem dX3_drop_14 : decode cX3_drop 14 = .ok (.iload_n 3, 1) := by decide +kernel
theorem dX3_drop_15 : decode cX3_drop 15 = .ok (.invokestatic 56, 3) := by decide +kernel
theorem dX3_drop_18 : decode cX3_drop 18 = .ok (.lstore 4, 2) := by decide +kernel
theorem dX3_drop_20 : decode cX3_drop 20 = .ok (.iload_n 3, 1) := by decide +kernel
theorem dX3_drop_21 : decode cX3_drop 21 = .ok (.ifCond .lt 11, 3) := by decide +kernel
theorem dX3_drop_24 : decode cX3_drop 24 = .ok (.aload_n 0, 1) := by decide +kernel
theorem dX3_drop_25 : decode cX3_drop 25 = .ok (.getfield 10, 3) := by decide +kernel
theorem dX3_drop_28 : decode cX3_drop 28 = .ok (.iload_n 3, 1) := by decide +kernel
theorem dX3_drop_29 : decode cX3_drop 29 = .ok (.invokevirtual 60, 3) := by decide +kernel
theorem dX3_drop_32 : decode cX3_drop 32 = .ok (.lload 4, 2) := by decide +kernel
theorem dX3_drop_34 : decode cX3_drop 34 = .ok (.lreturn, 1) := by decide +kernel
theorem dX3_total_0 : decode cX3_total 0 = .ok (.lconst 0, 1) := by decide +kernel
theorem dX3_total_1 : decode cX3_total 1 = .ok (.lstore_n 1, 1) := by decide +kernel
theorem dX3_total_2 : decode cX3_total 2 = .ok (.iconst 0, 1) := by decide +kernel
theorem dX3_total_3 : decode cX3_total 3 = .ok (.istore_n 3, 1) := by decide +kernel
theorem dX3_total_4 : decode cX3_total 4 = .ok (.iload_n 3, 1) := by decide +kernel
theorem dX3_total_5 : decode cX3_total 5 = .ok (.aload_n 0, 1) := by decide +kernel
theorem dX3_total_6 : decode cX3_total 6 = .ok (.getfield 10, 3) := by decide +kernel
theorem dX3_total_9 : decode cX3_total 9 = .ok (.getfield 46, 3) := by decide +kernel
theorem dX3_total_12 : decode cX3_total 12 = .ok (.if_icmp .ge 47, 3) := by decide +kernel
theorem dX3_total_15 : decode cX3_total 15 = .ok (.lload_n 1, 1) := by decide +kernel
theorem dX3_total_16 : decode cX3_total 16 = .ok (.ldc2_w 64, 3) := by decide +kernel
theorem dX3_total_19 : decode cX3_total 19 = .ok (.aload_n 0, 1) := by decide +kernel
theorem dX3_total_20 : decode cX3_total 20 = .ok (.getfield 10, 3) := by decide +kernel
theorem dX3_total_23 : decode cX3_total 23 = .ok (.getfield 66, 3) := by decide +kernel
theorem dX3_total_26 : decode cX3_total 26 = .ok (.iload_n 3, 1) := by decide +kernel
theorem dX3_total_27 : decode cX3_total 27 = .ok (.iaload, 1) := by decide +kernel
theorem dX3_total_28 : decode cX3_total 28 = .ok (.i2l, 1) := by decide +kernel
theorem dX3_total_29 : decode cX3_total 29 = .ok (.lmul, 1) := by decide +kernel
theorem dX3_total_30 : decode cX3_total 30 = .ok (.aload_n 0, 1) := by decide +kernel
theorem dX3_total_31 : decode cX3_total 31 = .ok (.getfield 10, 3) := by decide +kernel
theorem dX3_total_34 : decode cX3_total 34 = .ok (.getfield 69, 3) := by decide +kernel
theorem dX3_total_37 : decode cX3_total 37 = .ok (.iload_n 3, 1) := by decide +kernel
theorem dX3_total_38 : decode cX3_total 38 = .ok (.iaload, 1) := by decide +kernel
theorem dX3_total_39 : decode cX3_total 39 = .ok (.i2l, 1) := by decide +kernel
theorem dX3_total_40 : decode cX3_total 40 = .ok (.ladd, 1) := by decide +kernel
theorem dX3_total_41 : decode cX3_total 41 = .ok (.aload_n 0, 1) := by decide +kernel
theorem dX3_total_42 : decode cX3_total 42 = .ok (.getfield 10, 3) := by decide +kernel
theorem dX3_total_45 : decode cX3_total 45 = .ok (.getfield 50, 3) := by decide +kernel
theorem dX3_total_48 : decode cX3_total 48 = .ok (.iload_n 3, 1) := by decide +kernel
theorem dX3_total_49 : decode cX3_total 49 = .ok (.laload, 1) := by decide +kernel
theorem dX3_total_50 : decode cX3_total 50 = .ok (.lmul, 1) := by decide +kernel
theorem dX3_total_51 : decode cX3_total 51 = .ok (.ladd, 1) := by decide +kernel
theorem dX3_total_52 : decode cX3_total 52 = .ok (.lstore_n 1, 1) := by decide +kernel
theorem dX3_total_53 : decode cX3_total 53 = .ok (.iinc 3 1, 3) := by decide +kernel
theorem dX3_total_56 : decode cX3_total 56 = .ok (.goto (-52), 3) := by decide +kernel
theorem dX3_total_59 : decode cX3_total 59 = .ok (.lload_n 1, 1) := by decide +kernel
theorem dX3_total_60 : decode cX3_total 60 = .ok (.lreturn, 1) := by decide +kernel
set_option maxRecDepth 20000 in
theorem ggX3_sweep_X2_remove : GoodIn wsX3_sweep wsX2_remove := goodIn_r _ [9, 10, 11, 12, 13, 24, 25, 26, 27] (by decide +kernel) (by decide +kernel)
set_option maxRecDepth 20000 in
theorem gX3_sweep_X2_remove : GoodIn wsX3_sweep (wsV RX3 60 RX2 yX2_remove wsX2_remove) := goodIn_app (goodIn_of _ (by decide +kernel)) ggX3_sweep_X2_remove
theorem dX3_sweep_0 : decode cX3_sweep 0 = .ok (.iconst 0, 1) := by decide +kernel
theorem dX3_sweep_1 : decode cX3_sweep 1 = .ok (.istore_n 1, 1) := by decide +kernel
theorem dX3_sweep_2 : decode cX3_sweep 2 = .ok (.aload_n 0, 1) := by decide +kernel
theorem dX3_sweep_3 : decode cX3_sweep 3 = .ok (.getfield 10, 3) := by decide +kernel
theorem dX3_sweep_6 : decode cX3_sweep 6 = .ok (.getfield 46, 3) := by decide +kernel
theorem dX3_sweep_9 : decode cX3_sweep 9 = .ok (.iconst 1, 1) := by decide +kernel
theorem dX3_sweep_10 : decode cX3_sweep 10 = .ok (.isub, 1) := by decide +kernel
theorem dX3_sweep_11 : decode cX3_sweep 11 = .ok (.istore_n 2, 1) := by decide +kernel
theorem dX3_sweep_12 : decode cX3_sweep 12 = .ok (.iload_n 2, 1) := by decide +kernel
theorem dX3_sweep_13 : decode cX3_sweep 13 = .ok (.ifCond .lt 44, 3) := by decide +kernel
theorem dX3_sweep_16 : decode cX3_sweep 16 = .ok (.aload_n 0, 1) := by decide +kernel
theorem dX3_sweep_17 : decode cX3_sweep 17 = .ok (.getfield 10, 3) := by decide +kernel
theorem dX3_sweep_20 : decode cX3_sweep 20 = .ok (.getfield 66, 3) := by decide +kernel
theorem dX3_sweep_23 : decode cX3_sweep 23 = .ok (.iload_n 2, 1) := by decide +kernel
theorem dX3_sweep_24 : decode cX3_sweep 24 = .ok (.iaload, 1) := by decide +kernel
theorem dX3_sweep_25 : decode cX3_sweep 25 = .ok (.aload_n 0, 1) := by decide +kernel
theorem dX3_sweep_26 : decode cX3_sweep 26 = .ok (.getfield 10, 3) := by decide +kernel
theorem dX3_sweep_29 : decode cX3_sweep 29 = .ok (.getfield 69, 3) := by decide +kernel
theorem dX3_sweep_32 : decode cX3_sweep 32 = .ok (.iload_n 2, 1) := by decide +kernel
theorem dX3_sweep_33 : decode cX3_sweep 33 = .ok (.iaload, 1) := by decide +kernel
theorem dX3_sweep_34 : decode cX3_sweep 34 = .ok (.iadd, 1) := by decide +kernel
theorem dX3_sweep_35 : decode cX3_sweep 35 = .ok (.iconst 2, 1) := by decide +kernel
theorem dX3_sweep_36 : decode cX3_sweep 36 = .ok (.irem, 1) := by decide +kernel
theorem dX3_sweep_37 : decode cX3_sweep 37 = .ok (.ifCond .ne 14, 3) := by decide +kernel
theorem dX3_sweep_40 : decode cX3_sweep 40 = .ok (.aload_n 0, 1) := by decide +kernel
theorem dX3_sweep_41 : decode cX3_sweep 41 = .ok (.getfield 10, 3) := by decide +kernel
theorem dX3_sweep_44 : decode cX3_sweep 44 = .ok (.iload_n 2, 1) := by decide +kernel
theorem dX3_sweep_45 : decode cX3_sweep 45 = .ok (.invokevirtual 60, 3) := by decide +kernel
theorem dX3_sweep_48 : decode cX3_sweep 48 = .ok (.iinc 1 1, 3) := by decide +kernel
theorem dX3_sweep_51 : decode cX3_sweep 51 = .ok (.iinc 2 (-1), 3) := by decide +kernel
theorem dX3_sweep_54 : decode cX3_sweep 54 = .ok (.goto (-42), 3) := by decide +kernel
theorem dX3_sweep_57 : decode cX3_sweep 57 = .ok (.iload_n 1, 1) := by decide +kernel
theorem dX3_sweep_58 : decode cX3_sweep 58 = .ok (.ireturn, 1) := by decide +kernel
set_option maxRecDepth 20000 in
theorem ggX3_come_X2_find : GoodIn wsX3_come wsX2_find := goodIn_r _ [6, 7, 8, 9, 27, 28, 29, 30] (by decide +kernel) (by decide +kernel)
set_option maxRecDepth 20000 in
theorem gX3_come_X2_find : GoodIn wsX3_come (wsV RX3 38 RX2 yX2_find wsX2_find) := goodIn_app (goodIn_of _ (by decide +kernel)) ggX3_come_X2_find
set_option maxRecDepth 20000 in
theorem ggX3_come_X2_add : GoodIn wsX3_come wsX2_add := goodIn_r _ [13, 7, 8, 14, 15, 9, 16, 27, 28, 29, 30] (by decide +kernel) (by decide +kernel)
set_option maxRecDepth 20000 in
theorem gX3_come_X2_add : GoodIn wsX3_come (wsV RX3 42 RX2 yX2_add wsX2_add) := goodIn_app (goodIn_of _ (by decide +kernel)) ggX3_come_X2_add
theorem dX3_come_0 : decode cX3_come 0 = .ok (.aload_n 0, 1) := by decide +kernel
theorem dX3_come_1 : decode cX3_come 1 = .ok (.getfield 16, 3) := by decide +kernel
theorem dX3_come_4 : decode cX3_come 4 = .ok (.iload_n 1, 1) := by decide +kernel
theorem dX3_come_5 : decode cX3_come 5 = .ok (.iload_n 2, 1) := by decide +kernel
theorem dX3_come_6 : decode cX3_come 6 = .ok (.invokevirtual 38, 3) := by decide +kernel
theorem dX3_come_9 : decode cX3_come 9 = .ok (.ifCond .ge 7, 3) := by decide +kernel
theorem dX3_come_12 : decode cX3_come 12 = .ok (.iconst 1, 1) := by decide +kernel
theorem dX3_come_13 : decode cX3_come 13 = .ok (.goto 4, 3) := by decide +kernel
theorem dX3_come_16 : decode cX3_come 16 = .ok (.iconst 0, 1) := by decide +kernel
theorem dX3_come_17 : decode cX3_come 17 = .ok (.istore_n 3, 1) := by decide +kernel
theorem dX3_come_18 : decode cX3_come 18 = .ok (.iload_n 3, 1) := by decide +kernel
theorem dX3_come_19 : decode cX3_come 19 = .ok (.ifCond .eq 13, 3) := by decide +kernel
theorem dX3_come_22 : decode cX3_come 22 = .ok (.aload_n 0, 1) := by decide +kernel
theorem dX3_come_23 : decode cX3_come 23 = .ok (.getfield 16, 3) := by decide +kernel
theorem dX3_come_26 : decode cX3_come 26 = .ok (.iload_n 1, 1) := by decide +kernel
theorem dX3_come_27 : decode cX3_come 27 = .ok (.iload_n 2, 1) := by decide +kernel
theorem dX3_come_28 : decode cX3_come 28 = .ok (.lconst 0, 1) := by decide +kernel
theorem dX3_come_29 : decode cX3_come 29 = .ok (.invokevirtual 42, 3) := by decide +kernel
theorem dX3_come_32 : decode cX3_come 32 = .ok (.iload_n 3, 1) := by decide +kernel
theorem dX3_come_33 : decode cX3_come 33 = .ok (.ireturn, 1) := by decide +kernel
set_option maxRecDepth 20000 in
theorem ggX3_leave_X2_find : GoodIn wsX3_leave wsX2_find := goodIn_r _ [6, 7, 8, 9, 25, 26, 27, 28] (by decide +kernel) (by decide +kernel)
set_option maxRecDepth 20000 in
theorem gX3_leave_X2_find : GoodIn wsX3_leave (wsV RX3 38 RX2 yX2_find wsX2_find) := goodIn_app (goodIn_of _ (by decide +kernel)) ggX3_leave_X2_find
set_option maxRecDepth 20000 in
theorem ggX3_leave_X2_remove : GoodIn wsX3_leave wsX2_remove := goodIn_r _ [13, 7, 8, 9, 14, 25, 26, 27, 28] (by decide +kernel) (by decide +kernel)
set_option maxRecDepth 20000 in
theorem gX3_leave_X2_remove : GoodIn wsX3_leave (wsV RX3 60 RX2 yX2_remove wsX2_remove) := goodIn_app (goodIn_of _ (by decide +kernel)) ggX3_leave_X2_remove
theorem dX3_leave_0 : decode cX3_leave 0 = .ok (.aload_n 0, 1) := by decide +kernel
theorem dX3_leave_1 : decode cX3_leave 1 = .ok (.getfield 16, 3) := by decide +kernel
theorem dX3_leave_4 : decode cX3_leave 4 = .ok (.iload_n 1, 1) := by decide +kernel
theorem dX3_leave_5 : decode cX3_leave 5 = .ok (.iload_n 2, 1) := by decide +kernel
theorem dX3_leave_6 : decode cX3_leave 6 = .ok (.invokevirtual 38, 3) := by decide +kernel
theorem dX3_leave_9 : decode cX3_leave 9 = .ok (.istore_n 3, 1) := by decide +kernel
theorem dX3_leave_10 : decode cX3_leave 10 = .ok (.iload_n 3, 1) := by decide +kernel
theorem dX3_leave_11 : decode cX3_leave 11 = .ok (.ifCond .lt 11, 3) := by decide +kernel
theorem dX3_leave_14 : decode cX3_leave 14 = .ok (.aload_n 0, 1) := by decide +kernel
theorem dX3_leave_15 : decode cX3_leave 15 = .ok (.getfield 16, 3) := by decide +kernel
theorem dX3_leave_18 : decode cX3_leave 18 = .ok (.iload_n 3, 1) := by decide +kernel
theorem dX3_leave_19 : decode cX3_leave 19 = .ok (.invokevirtual 60, 3) := by decide +kernel
theorem dX3_leave_22 : decode cX3_leave 22 = .ok (.iload_n 3, 1) := by decide +kernel
theorem dX3_leave_23 : decode cX3_leave 23 = .ok (.ifCond .lt 7, 3) := by decide +kernel
theorem dX3_leave_26 : decode cX3_leave 26 = .ok (.iconst 1, 1) := by decide +kernel
theorem dX3_leave_27 : decode cX3_leave 27 = .ok (.goto 4, 3) := by decide +kernel
theorem dX3_leave_30 : decode cX3_leave 30 = .ok (.iconst 0, 1) := by decide +kernel
theorem dX3_leave_31 : decode cX3_leave 31 = .ok (.ireturn, 1) := by decide +kernel
theorem dX3_comer_0 : decode cX3_comer 0 = .ok (.iload_n 1, 1) := by decide +kernel
theorem dX3_comer_1 : decode cX3_comer 1 = .ok (.ifCond .lt 14, 3) := by decide +kernel
theorem dX3_comer_4 : decode cX3_comer 4 = .ok (.iload_n 1, 1) := by decide +kernel
theorem dX3_comer_5 : decode cX3_comer 5 = .ok (.aload_n 0, 1) := by decide +kernel
theorem dX3_comer_6 : decode cX3_comer 6 = .ok (.getfield 16, 3) := by decide +kernel
theorem dX3_comer_9 : decode cX3_comer 9 = .ok (.getfield 46, 3) := by decide +kernel
theorem dX3_comer_12 : decode cX3_comer 12 = .ok (.if_icmp .lt 9, 3) := by decide +kernel
theorem dX3_comer_15 : decode cX3_comer 15 = .ok (.ldc2_w 54, 3) := by decide +kernel
theorem dX3_comer_18 : decode cX3_comer 18 = .ok (.goto 30, 3) := by decide +kernel
theorem dX3_comer_21 : decode cX3_comer 21 = .ok (.iload_n 2, 1) := by decide +kernel
theorem dX3_comer_22 : decode cX3_comer 22 = .ok (.ifCond .eq 16, 3) := by decide +kernel
theorem dX3_comer_25 : decode cX3_comer 25 = .ok (.aload_n 0, 1) := by decide +kernel
theorem dX3_comer_26 : decode cX3_comer 26 = .ok (.getfield 16, 3) := by decide +kernel
theorem dX3_comer_29 : decode cX3_comer 29 = .ok (.getfield 69, 3) := by decide +kernel
theorem dX3_comer_32 : decode cX3_comer 32 = .ok (.iload_n 1, 1) := by decide +kernel
theorem dX3_comer_33 : decode cX3_comer 33 = .ok (.iaload, 1) := by decide +kernel
theorem dX3_comer_34 : decode cX3_comer 34 = .ok (.i2l, 1) := by decide +kernel
theorem dX3_comer_35 : decode cX3_comer 35 = .ok (.goto 13, 3) := by decide +kernel
theorem dX3_comer_38 : decode cX3_comer 38 = .ok (.aload_n 0, 1) := by decide +kernel
theorem dX3_comer_39 : decode cX3_comer 39 = .ok (.getfield 16, 3) := by decide +kernel
theorem dX3_comer_42 : decode cX3_comer 42 = .ok (.getfield 66, 3) := by decide +kernel
theorem dX3_comer_45 : decode cX3_comer 45 = .ok (.iload_n 1, 1) := by decide +kernel
theorem dX3_comer_46 : decode cX3_comer 46 = .ok (.iaload, 1) := by decide +kernel
theorem dX3_comer_47 : decode cX3_comer 47 = .ok (.i2l, 1) := by decide +kernel
theorem dX3_comer_48 : decode cX3_comer 48 = .ok (.lreturn, 1) := by decide +kernel
set_option maxRecDepth 20000 in
theorem ggX3_retain_X2_find : GoodIn wsX3_retain wsX2_find := goodIn_r _ [10, 11, 12, 13, 29, 30, 31, 32] (by decide +kernel) (by decide +kernel)
set_option maxRecDepth 20000 in
theorem gX3_retain_X2_find : GoodIn wsX3_retain (wsV RX3 38 RX2 yX2_find wsX2_find) := goodIn_app (goodIn_of _ (by decide +kernel)) ggX3_retain_X2_find
set_option maxRecDepth 20000 in
theorem ggX3_retain_X2_remove : GoodIn wsX3_retain wsX2_remove := goodIn_r _ [17, 11, 12, 13, 18, 29, 30, 31, 32] (by decide +kernel) (by decide +kernel)
set_option maxRecDepth 20000 in
theorem gX3_retain_X2_remove : GoodIn wsX3_retain (wsV RX3 60 RX2 yX2_remove wsX2_remove) := goodIn_app (goodIn_of _ (by decide +kernel)) ggX3_retain_X2_remove
theorem dX3_retain_0 : decode cX3_retain 0 = .ok (.aload_n 0, 1) := by decide +kernel
theorem dX3_retain_1 : decode cX3_retain 1 = .ok (.getfield 16, 3) := by decide +kernel
theorem dX3_retain_4 : decode cX3_retain 4 = .ok (.getfield 46, 3) := by decide +kernel
theorem dX3_retain_7 : decode cX3_retain 7 = .ok (.iconst 1, 1) := by decide +kernel
theorem dX3_retain_8 : decode cX3_retain 8 = .ok (.isub, 1) := by decide +kernel
theorem dX3_retain_9 : decode cX3_retain 9 = .ok (.istore_n 1, 1) := by decide +kernel
theorem dX3_retain_10 : decode cX3_retain 10 = .ok (.iload_n 1, 1) := by decide +kernel
theorem dX3_retain_11 : decode cX3_retain 11 = .ok (.ifCond .lt 45, 3) := by decide +kernel
theorem dX3_retain_14 : decode cX3_retain 14 = .ok (.aload_n 0, 1) := by decide +kernel
theorem dX3_retain_15 : decode cX3_retain 15 = .ok (.getfield 10, 3) := by decide +kernel
theorem dX3_retain_18 : decode cX3_retain 18 = .ok (.aload_n 0, 1) := by decide +kernel
theorem dX3_retain_19 : decode cX3_retain 19 = .ok (.getfield 16, 3) := by decide +kernel
theorem dX3_retain_22 : decode cX3_retain 22 = .ok (.getfield 66, 3) := by decide +kernel
theorem dX3_retain_25 : decode cX3_retain 25 = .ok (.iload_n 1, 1) := by decide +kernel
theorem dX3_retain_26 : decode cX3_retain 26 = .ok (.iaload, 1) := by decide +kernel
theorem dX3_retain_27 : decode cX3_retain 27 = .ok (.aload_n 0, 1) := by decide +kernel
theorem dX3_retain_28 : decode cX3_retain 28 = .ok (.getfield 16, 3) := by decide +kernel
theorem dX3_retain_31 : decode cX3_retain 31 = .ok (.getfield 69, 3) := by decide +kernel
theorem dX3_retain_34 : decode cX3_retain 34 = .ok (.iload_n 1, 1) := by decide +kernel
theorem dX3_retain_35 : decode cX3_retain 35 = .ok (.iaload, 1) := by decide +kernel
theorem dX3_retain_36 : decode cX3_retain 36 = .ok (.invokevirtual 38, 3) := by decide +kernel
theorem dX3_retain_39 : decode cX3_retain 39 = .ok (.ifCond .ge 11, 3) := by decide +kernel
theorem dX3_retain_42 : decode cX3_retain 42 = .ok (.aload_n 0, 1) := by decide +kernel
theorem dX3_retain_43 : decode cX3_retain 43 = .ok (.getfield 16, 3) := by decide +kernel
theorem dX3_retain_46 : decode cX3_retain 46 = .ok (.iload_n 1, 1) := by decide +kernel
theorem dX3_retain_47 : decode cX3_retain 47 = .ok (.invokevirtual 60, 3) := by decide +kernel
theorem dX3_retain_50 : decode cX3_retain 50 = .ok (.iinc 1 (-1), 3) := by decide +kernel
theorem dX3_retain_53 : decode cX3_retain 53 = .ok (.goto (-43), 3) := by decide +kernel
theorem dX3_retain_56 : decode cX3_retain 56 = .ok (.aload_n 0, 1) := by decide +kernel
theorem dX3_retain_57 : decode cX3_retain 57 = .ok (.getfield 16, 3) := by decide +kernel
theorem dX3_retain_60 : decode cX3_retain 60 = .ok (.getfield 46, 3) := by decide +kernel
theorem dX3_retain_63 : decode cX3_retain 63 = .ok (.ireturn, 1) := by decide +kernel
theorem dX3_order_0 : decode cX3_order 0 = .ok (.iload_n 0, 1) := by decide +kernel
theorem dX3_order_1 : decode cX3_order 1 = .ok (.iload_n 2, 1) := by decide +kernel
theorem dX3_order_2 : decode cX3_order 2 = .ok (.if_icmp .eq 16, 3) := by decide +kernel
theorem dX3_order_5 : decode cX3_order 5 = .ok (.iload_n 0, 1) := by decide +kernel
theorem dX3_order_6 : decode cX3_order 6 = .ok (.iload_n 2, 1) := by decide +kernel
theorem dX3_order_7 : decode cX3_order 7 = .ok (.if_icmp .ge 7, 3) := by decide +kernel
theorem dX3_order_10 : decode cX3_order 10 = .ok (.iconst (-1), 1) := by decide +kernel
theorem dX3_order_11 : decode cX3_order 11 = .ok (.goto 26, 3) := by decide +kernel
theorem dX3_order_14 : decode cX3_order 14 = .ok (.iconst 1, 1) := by decide +kernel
theorem dX3_order_15 : decode cX3_order 15 = .ok (.goto 22, 3) := by decide +kernel
theorem dX3_order_18 : decode cX3_order 18 = .ok (.iload_n 1, 1) := by decide +kernel
theorem dX3_order_19 : decode cX3_order 19 = .ok (.iload_n 3, 1) := by decide +kernel
theorem dX3_order_20 : decode cX3_order 20 = .ok (.if_icmp .eq 16, 3) := by decide +kernel
theorem dX3_order_23 : decode cX3_order 23 = .ok (.iload_n 1, 1) := by decide +kernel
theorem dX3_order_24 : decode cX3_order 24 = .ok (.iload_n 3, 1) := by decide +kernel
theorem dX3_order_25 : decode cX3_order 25 = .ok (.if_icmp .ge 7, 3) := by decide +kernel
theorem dX3_order_28 : decode cX3_order 28 = .ok (.iconst (-1), 1) := by decide +kernel
theorem dX3_order_29 : decode cX3_order 29 = .ok (.goto 8, 3) := by decide +kernel
theorem dX3_order_32 : decode cX3_order 32 = .ok (.iconst 1, 1) := by decide +kernel
theorem dX3_order_33 : decode cX3_order 33 = .ok (.goto 4, 3) := by decide +kernel
theorem dX3_order_36 : decode cX3_order 36 = .ok (.iconst 0, 1) := by decide +kernel
theorem dX3_order_37 : decode cX3_order 37 = .ok (.ireturn, 1) := by decide +kernel
set_option maxRecDepth 20000 in
theorem ggX3_rank_X2_find : GoodIn wsX3_rank wsX2_find := goodIn_r _ [7, 8, 9, 10, 33, 34, 35, 36] (by decide +kernel) (by decide +kernel)
set_option maxRecDepth 20000 in
theorem gX3_rank_X2_find : GoodIn wsX3_rank (wsV RX3 38 RX2 yX2_find wsX2_find) := goodIn_app (goodIn_of _ (by decide +kernel)) ggX3_rank_X2_find
set_option maxRecDepth 20000 in
theorem ggX3_rank_X3_told : GoodIn wsX3_rank wsX3_told := goodIn_r _ [14, 15, 2, 33, 34, 35, 36] (by decide +kernel) (by decide +kernel)
set_option maxRecDepth 20000 in
theorem gX3_rank_X3_told : GoodIn wsX3_rank (va_wsS RX3 56 yX3_told wsX3_told) := goodIn_app (goodIn_of _ (by decide +kernel)) ggX3_rank_X3_told
set_option maxRecDepth 20000 in
theorem ggX3_rank_X2_add : GoodIn wsX3_rank wsX2_add := goodIn_r _ [19, 8, 9, 20, 21, 10, 22, 33, 34, 35, 36] (by decide +kernel) (by decide +kernel)
set_option maxRecDepth 20000 in
theorem gX3_rank_X2_add : GoodIn wsX3_rank (wsV RX3 42 RX2 yX2_add wsX2_add) := goodIn_app (goodIn_of _ (by decide +kernel)) ggX3_rank_X2_add
theorem dX3_rank_0 : decode cX3_rank 0 = .ok (.aload_n 0, 1) := by decide +kernel
theorem dX3_rank_1 : decode cX3_rank 1 = .ok (.getfield 19, 3) := by decide +kernel
theorem dX3_rank_4 : decode cX3_rank 4 = .ok (.iload_n 1, 1) := by decide +kernel
theorem dX3_rank_5 : decode cX3_rank 5 = .ok (.iload_n 2, 1) := by decide +kernel
theorem dX3_rank_6 : decode cX3_rank 6 = .ok (.invokevirtual 38, 3) := by decide +kernel
theorem dX3_rank_9 : decode cX3_rank 9 = .ok (.istore 4, 2) := by decide +kernel
theorem dX3_rank_11 : decode cX3_rank 11 = .ok (.aload_n 0, 1) := by decide +kernel
theorem dX3_rank_12 : decode cX3_rank 12 = .ok (.getfield 19, 3) := by decide +kernel
theorem dX3_rank_15 : decode cX3_rank 15 = .ok (.iload 4, 2) := by decide +kernel
theorem dX3_rank_17 : decode cX3_rank 17 = .ok (.invokestatic 56, 3) := by decide +kernel
theorem dX3_rank_20 : decode cX3_rank 20 = .ok (.lstore 5, 2) := by decide +kernel
theorem dX3_rank_22 : decode cX3_rank 22 = .ok (.iload 4, 2) := by decide +kernel
theorem dX3_rank_24 : decode cX3_rank 24 = .ok (.ifCond .ge 17, 3) := by decide +kernel
theorem dX3_rank_27 : decode cX3_rank 27 = .ok (.aload_n 0, 1) := by decide +kernel
theorem dX3_rank_28 : decode cX3_rank 28 = .ok (.getfield 19, 3) := by decide +kernel
theorem dX3_rank_31 : decode cX3_rank 31 = .ok (.iload_n 1, 1) := by decide +kernel
theorem dX3_rank_32 : decode cX3_rank 32 = .ok (.iload_n 2, 1) := by decide +kernel
theorem dX3_rank_33 : decode cX3_rank 33 = .ok (.iload_n 3, 1) := by decide +kernel
theorem dX3_rank_34 : decode cX3_rank 34 = .ok (.i2l, 1) := by decide +kernel
theorem dX3_rank_35 : decode cX3_rank 35 = .ok (.invokevirtual 42, 3) := by decide +kernel
theorem dX3_rank_38 : decode cX3_rank 38 = .ok (.goto 15, 3) := by decide +kernel
theorem dX3_rank_41 : decode cX3_rank 41 = .ok (.aload_n 0, 1) := by decide +kernel
theorem dX3_rank_42 : decode cX3_rank 42 = .ok (.getfield 19, 3) := by decide +kernel
theorem dX3_rank_45 : decode cX3_rank 45 = .ok (.getfield 50, 3) := by decide +kernel
theorem dX3_rank_48 : decode cX3_rank 48 = .ok (.iload 4, 2) := by decide +kernel
theorem dX3_rank_50 : decode cX3_rank 50 = .ok (.iload_n 3, 1) := by decide +kernel
theorem dX3_rank_51 : decode cX3_rank 51 = .ok (.i2l, 1) := by decide +kernel
theorem dX3_rank_52 : decode cX3_rank 52 = .ok (.lastore, 1) := by decide +kernel
theorem dX3_rank_53 : decode cX3_rank 53 = .ok (.lload 5, 2) := by decide +kernel
theorem dX3_rank_55 : decode cX3_rank 55 = .ok (.lreturn, 1) := by decide +kernel
set_option maxRecDepth 20000 in
theorem ggX3_nearest_X3_order : GoodIn wsX3_nearest wsX3_order := goodIn_r _ [8] (by decide +kernel) (by decide +kernel)
set_option maxRecDepth 20000 in
theorem gX3_nearest_X3_order : GoodIn wsX3_nearest (va_wsS RX3 72 yX3_order wsX3_order) := goodIn_app (goodIn_of _ (by decide +kernel)) ggX3_nearest_X3_order
theorem dX3_nearest_0 : decode cX3_nearest 0 = .ok (.iconst (-1), 1) := by decide +kernel
theorem dX3_nearest_1 : decode cX3_nearest 1 = .ok (.istore 6, 2) := by decide +kernel
theorem dX3_nearest_3 : decode cX3_nearest 3 = .ok (.iconst 0, 1) := by decide +kernel
theorem dX3_nearest_4 : decode cX3_nearest 4 = .ok (.istore 7, 2) := by decide +kernel
theorem dX3_nearest_6 : decode cX3_nearest 6 = .ok (.iload 7, 2) := by decide +kernel
theorem dX3_nearest_8 : decode cX3_nearest 8 = .ok (.aload_n 0, 1) := by decide +kernel
theorem dX3_nearest_9 : decode cX3_nearest 9 = .ok (.getfield 19, 3) := by decide +kernel
theorem dX3_nearest_12 : decode cX3_nearest 12 = .ok (.getfield 46, 3) := by decide +kernel
theorem dX3_nearest_15 : decode cX3_nearest 15 = .ok (.if_icmp .ge 135, 3) := by decide +kernel
theorem dX3_nearest_18 : decode cX3_nearest 18 = .ok (.aload_n 0, 1) := by decide +kernel
theorem dX3_nearest_19 : decode cX3_nearest 19 = .ok (.getfield 19, 3) := by decide +kernel
theorem dX3_nearest_22 : decode cX3_nearest 22 = .ok (.getfield 66, 3) := by decide +kernel
theorem dX3_nearest_25 : decode cX3_nearest 25 = .ok (.iload 7, 2) := by decide +kernel
theorem dX3_nearest_27 : decode cX3_nearest 27 = .ok (.iaload, 1) := by decide +kernel
theorem dX3_nearest_28 : decode cX3_nearest 28 = .ok (.aload_n 0, 1) := by decide +kernel
theorem dX3_nearest_29 : decode cX3_nearest 29 = .ok (.getfield 19, 3) := by decide +kernel
theorem dX3_nearest_32 : decode cX3_nearest 32 = .ok (.getfield 69, 3) := by decide +kernel
theorem dX3_nearest_35 : decode cX3_nearest 35 = .ok (.iload 7, 2) := by decide +kernel
theorem dX3_nearest_37 : decode cX3_nearest 37 = .ok (.iaload, 1) := by decide +kernel
theorem dX3_nearest_38 : decode cX3_nearest 38 = .ok (.iload_n 1, 1) := by decide +kernel
theorem dX3_nearest_39 : decode cX3_nearest 39 = .ok (.iload_n 2, 1) := by decide +kernel
theorem dX3_nearest_40 : decode cX3_nearest 40 = .ok (.invokestatic 72, 3) := by decide +kernel
theorem dX3_nearest_43 : decode cX3_nearest 43 = .ok (.istore 8, 2) := by decide +kernel
theorem dX3_nearest_45 : decode cX3_nearest 45 = .ok (.iload 5, 2) := by decide +kernel
theorem dX3_nearest_47 : decode cX3_nearest 47 = .ok (.ifCond .ne 33, 3) := by decide +kernel
theorem dX3_nearest_50 : decode cX3_nearest 50 = .ok (.iload 8, 2) := by decide +kernel
theorem dX3_nearest_52 : decode cX3_nearest 52 = .ok (.ifCond .ne 11, 3) := by decide +kernel
theorem dX3_nearest_55 : decode cX3_nearest 55 = .ok (.iload 4, 2) := by decide +kernel
theorem dX3_nearest_57 : decode cX3_nearest 57 = .ok (.ifCond .ne 23, 3) := by decide +kernel
theorem dX3_nearest_60 : decode cX3_nearest 60 = .ok (.goto 84, 3) := by decide +kernel
theorem dX3_nearest_63 : decode cX3_nearest 63 = .ok (.iload_n 3, 1) := by decide +kernel
theorem dX3_nearest_64 : decode cX3_nearest 64 = .ok (.iload 8, 2) := by decide +kernel
theorem dX3_nearest_66 : decode cX3_nearest 66 = .ok (.ifCond .ge 7, 3) := by decide +kernel
theorem dX3_nearest_69 : decode cX3_nearest 69 = .ok (.iconst 1, 1) := by decide +kernel
theorem dX3_nearest_70 : decode cX3_nearest 70 = .ok (.goto 4, 3) := by decide +kernel
theorem dX3_nearest_73 : decode cX3_nearest 73 = .ok (.iconst 0, 1) := by decide +kernel
theorem dX3_nearest_74 : decode cX3_nearest 74 = .ok (.if_icmp .eq 6, 3) := by decide +kernel
theorem dX3_nearest_77 : decode cX3_nearest 77 = .ok (.goto 67, 3) := by decide +kernel
theorem dX3_nearest_80 : decode cX3_nearest 80 = .ok (.iload 6, 2) := by decide +kernel
theorem dX3_nearest_82 : decode cX3_nearest 82 = .ok (.ifCond .lt 58, 3) := by decide +kernel
theorem dX3_nearest_85 : decode cX3_nearest 85 = .ok (.iload_n 3, 1) := by decide +kernel
theorem dX3_nearest_86 : decode cX3_nearest 86 = .ok (.aload_n 0, 1) := by decide +kernel
theorem dX3_nearest_87 : decode cX3_nearest 87 = .ok (.getfield 19, 3) := by decide +kernel
theorem dX3_nearest_90 : decode cX3_nearest 90 = .ok (.getfield 66, 3) := by decide +kernel
theorem dX3_nearest_93 : decode cX3_nearest 93 = .ok (.iload 7, 2) := by decide +kernel
theorem dX3_nearest_95 : decode cX3_nearest 95 = .ok (.iaload, 1) := by decide +kernel
theorem dX3_nearest_96 : decode cX3_nearest 96 = .ok (.aload_n 0, 1) := by decide +kernel
theorem dX3_nearest_97 : decode cX3_nearest 97 = .ok (.getfield 19, 3) := by decide +kernel
theorem dX3_nearest_100 : decode cX3_nearest 100 = .ok (.getfield 69, 3) := by decide +kernel
theorem dX3_nearest_103 : decode cX3_nearest 103 = .ok (.iload 7, 2) := by decide +kernel
theorem dX3_nearest_105 : decode cX3_nearest 105 = .ok (.iaload, 1) := by decide +kernel
theorem dX3_nearest_106 : decode cX3_nearest 106 = .ok (.aload_n 0, 1) := by decide +kernel
theorem dX3_nearest_107 : decode cX3_nearest 107 = .ok (.getfield 19, 3) := by decide +kernel
theorem dX3_nearest_110 : decode cX3_nearest 110 = .ok (.getfield 66, 3) := by decide +kernel
theorem dX3_nearest_113 : decode cX3_nearest 113 = .ok (.iload 6, 2) := by decide +kernel
theorem dX3_nearest_115 : decode cX3_nearest 115 = .ok (.iaload, 1) := by decide +kernel
theorem dX3_nearest_116 : decode cX3_nearest 116 = .ok (.aload_n 0, 1) := by decide +kernel
theorem dX3_nearest_117 : decode cX3_nearest 117 = .ok (.getfield 19, 3) := by decide +kernel
theorem dX3_nearest_120 : decode cX3_nearest 120 = .ok (.getfield 69, 3) := by decide +kernel
theorem dX3_nearest_123 : decode cX3_nearest 123 = .ok (.iload 6, 2) := by decide +kernel
theorem dX3_nearest_125 : decode cX3_nearest 125 = .ok (.iaload, 1) := by decide +kernel
theorem dX3_nearest_126 : decode cX3_nearest 126 = .ok (.invokestatic 72, 3) := by decide +kernel
theorem dX3_nearest_129 : decode cX3_nearest 129 = .ok (.ifCond .le 7, 3) := by decide +kernel
theorem dX3_nearest_132 : decode cX3_nearest 132 = .ok (.iconst 1, 1) := by decide +kernel
theorem dX3_nearest_133 : decode cX3_nearest 133 = .ok (.goto 4, 3) := by decide +kernel
theorem dX3_nearest_136 : decode cX3_nearest 136 = .ok (.iconst 0, 1) := by decide +kernel
theorem dX3_nearest_137 : decode cX3_nearest 137 = .ok (.if_icmp .ne 7, 3) := by decide +kernel
theorem dX3_nearest_140 : decode cX3_nearest 140 = .ok (.iload 7, 2) := by decide +kernel
theorem dX3_nearest_142 : decode cX3_nearest 142 = .ok (.istore 6, 2) := by decide +kernel
theorem dX3_nearest_144 : decode cX3_nearest 144 = .ok (.iinc 7 1, 3) := by decide +kernel
theorem dX3_nearest_147 : decode cX3_nearest 147 = .ok (.goto (-141), 3) := by decide +kernel
theorem dX3_nearest_150 : decode cX3_nearest 150 = .ok (.iload 6, 2) := by decide +kernel
theorem dX3_nearest_152 : decode cX3_nearest 152 = .ok (.ireturn, 1) := by decide +kernel
set_option maxRecDepth 20000 in
theorem ggX3_near_X3_nearest : GoodIn wsX3_near wsX3_nearest := goodIn_r _ [10, 2, 11, 3, 5, 12, 13, 9, 14, 15, 16, 17, 18, 19, 20, 21, 22, 23, 24, 25, 26, 27, 28] (by decide +kernel) (by decide +kernel)
set_option maxRecDepth 20000 in
theorem gX3_near_X3_nearest : GoodIn wsX3_near (wsV RX3 76 RX3 yX3_nearest wsX3_nearest) := goodIn_app (goodIn_of _ (by decide +kernel)) ggX3_near_X3_nearest
theorem dX3_near_0 : decode cX3_near 0 = .ok (.aload_n 0, 1) := by decide +kernel
theorem dX3_near_1 : decode cX3_near 1 = .ok (.iload_n 1, 1) := by decide +kernel
theorem dX3_near_2 : decode cX3_near 2 = .ok (.iload_n 2, 1) := by decide +kernel
theorem dX3_near_3 : decode cX3_near 3 = .ok (.iload_n 3, 1) := by decide +kernel
theorem dX3_near_4 : decode cX3_near 4 = .ok (.iload 4, 2) := by decide +kernel
theorem dX3_near_6 : decode cX3_near 6 = .ok (.iconst 0, 1) := by decide +kernel
theorem dX3_near_7 : decode cX3_near 7 = .ok (.invokevirtual 76, 3) := by decide +kernel
theorem dX3_near_10 : decode cX3_near 10 = .ok (.istore 5, 2) := by decide +kernel
theorem dX3_near_12 : decode cX3_near 12 = .ok (.iload 5, 2) := by decide +kernel
theorem dX3_near_14 : decode cX3_near 14 = .ok (.ifCond .ge 9, 3) := by decide +kernel
theorem dX3_near_17 : decode cX3_near 17 = .ok (.ldc2_w 54, 3) := by decide +kernel
theorem dX3_near_20 : decode cX3_near 20 = .ok (.goto 30, 3) := by decide +kernel
theorem dX3_near_23 : decode cX3_near 23 = .ok (.aload_n 0, 1) := by decide +kernel
theorem dX3_near_24 : decode cX3_near 24 = .ok (.getfield 19, 3) := by decide +kernel
theorem dX3_near_27 : decode cX3_near 27 = .ok (.getfield 66, 3) := by decide +kernel
theorem dX3_near_30 : decode cX3_near 30 = .ok (.iload 5, 2) := by decide +kernel
theorem dX3_near_32 : decode cX3_near 32 = .ok (.iaload, 1) := by decide +kernel
theorem dX3_near_33 : decode cX3_near 33 = .ok (.i2l, 1) := by decide +kernel
theorem dX3_near_34 : decode cX3_near 34 = .ok (.ldc2_w 80, 3) := by decide +kernel
theorem dX3_near_37 : decode cX3_near 37 = .ok (.lmul, 1) := by decide +kernel
theorem dX3_near_38 : decode cX3_near 38 = .ok (.aload_n 0, 1) := by decide +kernel
theorem dX3_near_39 : decode cX3_near 39 = .ok (.getfield 19, 3) := by decide +kernel
theorem dX3_near_42 : decode cX3_near 42 = .ok (.getfield 69, 3) := by decide +kernel
theorem dX3_near_45 : decode cX3_near 45 = .ok (.iload 5, 2) := by decide +kernel
theorem dX3_near_47 : decode cX3_near 47 = .ok (.iaload, 1) := by decide +kernel
theorem dX3_near_48 : decode cX3_near 48 = .ok (.i2l, 1) := by decide +kernel
theorem dX3_near_49 : decode cX3_near 49 = .ok (.ladd, 1) := by decide +kernel
theorem dX3_near_50 : decode cX3_near 50 = .ok (.lreturn, 1) := by decide +kernel
set_option maxRecDepth 20000 in
theorem ggX3_poll_X3_nearest : GoodIn wsX3_poll wsX3_nearest := goodIn_r _ [6, 1, 7, 8, 9, 10, 11, 5, 12, 27, 28, 29, 30, 31, 32, 33, 34, 35, 36, 37, 38, 39, 40] (by decide +kernel) (by decide +kernel)
set_option maxRecDepth 20000 in
theorem gX3_poll_X3_nearest : GoodIn wsX3_poll (wsV RX3 76 RX3 yX3_nearest wsX3_nearest) := goodIn_app (goodIn_of _ (by decide +kernel)) ggX3_poll_X3_nearest
set_option maxRecDepth 20000 in
theorem ggX3_poll_X3_told : GoodIn wsX3_poll wsX3_told := goodIn_r _ [15, 16, 17, 37, 38, 39, 40] (by decide +kernel) (by decide +kernel)
set_option maxRecDepth 20000 in
theorem gX3_poll_X3_told : GoodIn wsX3_poll (va_wsS RX3 56 yX3_told wsX3_told) := goodIn_app (goodIn_of _ (by decide +kernel)) ggX3_poll_X3_told
set_option maxRecDepth 20000 in
theorem ggX3_poll_X2_remove : GoodIn wsX3_poll wsX2_remove := goodIn_r _ [22, 23, 24, 25, 26, 37, 38, 39, 40] (by decide +kernel) (by decide +kernel)
set_option maxRecDepth 20000 in
theorem gX3_poll_X2_remove : GoodIn wsX3_poll (wsV RX3 60 RX2 yX2_remove wsX2_remove) := goodIn_app (goodIn_of _ (by decide +kernel)) ggX3_poll_X2_remove
theorem dX3_poll_0 : decode cX3_poll 0 = .ok (.aload_n 0, 1) := by decide +kernel
theorem dX3_poll_1 : decode cX3_poll 1 = .ok (.iconst 0, 1) := by decide +kernel
theorem dX3_poll_2 : decode cX3_poll 2 = .ok (.iconst 0, 1) := by decide +kernel
theorem dX3_poll_3 : decode cX3_poll 3 = .ok (.iload_n 1, 1) := by decide +kernel
theorem dX3_poll_4 : decode cX3_poll 4 = .ok (.iconst 1, 1) := by decide +kernel
theorem dX3_poll_5 : decode cX3_poll 5 = .ok (.iconst 1, 1) := by decide +kernel
theorem dX3_poll_6 : decode cX3_poll 6 = .ok (.invokevirtual 76, 3) := by decide +kernel
theorem dX3_poll_9 : decode cX3_poll 9 = .ok (.istore_n 2, 1) := by decide +kernel
theorem dX3_poll_10 : decode cX3_poll 10 = .ok (.aload_n 0, 1) := by decide +kernel
theorem dX3_poll_11 : decode cX3_poll 11 = .ok (.getfield 19, 3) := by decide +kernel
theorem dX3_poll_14 : decode cX3_poll 14 = .ok (.iload_n 2, 1) := by decide +kernel
theorem dX3_poll_15 : decode cX3_poll 15 = .ok (.invokestatic 56, 3) := by decide +kernel
theorem dX3_poll_18 : decode cX3_poll 18 = .ok (.lstore_n 3, 1) := by decide +kernel
theorem dX3_poll_19 : decode cX3_poll 19 = .ok (.iload_n 2, 1) := by decide +kernel
theorem dX3_poll_20 : decode cX3_poll 20 = .ok (.ifCond .lt 11, 3) := by decide +kernel
theorem dX3_poll_23 : decode cX3_poll 23 = .ok (.aload_n 0, 1) := by decide +kernel
theorem dX3_poll_24 : decode cX3_poll 24 = .ok (.getfield 19, 3) := by decide +kernel
theorem dX3_poll_27 : decode cX3_poll 27 = .ok (.iload_n 2, 1) := by decide +kernel
theorem dX3_poll_28 : decode cX3_poll 28 = .ok (.invokevirtual 60, 3) := by decide +kernel
theorem dX3_poll_31 : decode cX3_poll 31 = .ok (.lload_n 3, 1) := by decide +kernel
theorem dX3_poll_32 : decode cX3_poll 32 = .ok (.lreturn, 1) := by decide +kernel
set_option maxRecDepth 20000 in
theorem ggX3_between_X3_order : GoodIn wsX3_between wsX3_order := goodIn_r _ [8] (by decide +kernel) (by decide +kernel)
set_option maxRecDepth 20000 in
theorem gX3_between_X3_order : GoodIn wsX3_between (va_wsS RX3 72 yX3_order wsX3_order) := goodIn_app (goodIn_of _ (by decide +kernel)) ggX3_between_X3_order
theorem dX3_between_0 : decode cX3_between 0 = .ok (.iload_n 3, 1) := by decide +kernel
theorem dX3_between_1 : decode cX3_between 1 = .ok (.iload 4, 2) := by decide +kernel
theorem dX3_between_3 : decode cX3_between 3 = .ok (.iload_n 1, 1) := by decide +kernel
theorem dX3_between_4 : decode cX3_between 4 = .ok (.iload_n 2, 1) := by decide +kernel
theorem dX3_between_5 : decode cX3_between 5 = .ok (.invokestatic 72, 3) := by decide +kernel
theorem dX3_between_8 : decode cX3_between 8 = .ok (.ifCond .ge 5, 3) := by decide +kernel
theorem dX3_between_11 : decode cX3_between 11 = .ok (.iconst (-1), 1) := by decide +kernel
theorem dX3_between_12 : decode cX3_between 12 = .ok (.ireturn, 1) := by decide +kernel
theorem dX3_between_13 : decode cX3_between 13 = .ok (.iconst 0, 1) := by decide +kernel
theorem dX3_between_14 : decode cX3_between 14 = .ok (.istore 5, 2) := by decide +kernel
theorem dX3_between_16 : decode cX3_between 16 = .ok (.iconst 0, 1) := by decide +kernel
theorem dX3_between_17 : decode cX3_between 17 = .ok (.istore 6, 2) := by decide +kernel
theorem dX3_between_19 : decode cX3_between 19 = .ok (.iload 6, 2) := by decide +kernel
theorem dX3_between_21 : decode cX3_between 21 = .ok (.aload_n 0, 1) := by decide +kernel
theorem dX3_between_22 : decode cX3_between 22 = .ok (.getfield 19, 3) := by decide +kernel
theorem dX3_between_25 : decode cX3_between 25 = .ok (.getfield 46, 3) := by decide +kernel
theorem dX3_between_28 : decode cX3_between 28 = .ok (.if_icmp .ge 69, 3) := by decide +kernel
theorem dX3_between_31 : decode cX3_between 31 = .ok (.aload_n 0, 1) := by decide +kernel
theorem dX3_between_32 : decode cX3_between 32 = .ok (.getfield 19, 3) := by decide +kernel
theorem dX3_between_35 : decode cX3_between 35 = .ok (.getfield 66, 3) := by decide +kernel
theorem dX3_between_38 : decode cX3_between 38 = .ok (.iload 6, 2) := by decide +kernel
theorem dX3_between_40 : decode cX3_between 40 = .ok (.iaload, 1) := by decide +kernel
theorem dX3_between_41 : decode cX3_between 41 = .ok (.aload_n 0, 1) := by decide +kernel
theorem dX3_between_42 : decode cX3_between 42 = .ok (.getfield 19, 3) := by decide +kernel
theorem dX3_between_45 : decode cX3_between 45 = .ok (.getfield 69, 3) := by decide +kernel
theorem dX3_between_48 : decode cX3_between 48 = .ok (.iload 6, 2) := by decide +kernel
theorem dX3_between_50 : decode cX3_between 50 = .ok (.iaload, 1) := by decide +kernel
theorem dX3_between_51 : decode cX3_between 51 = .ok (.iload_n 1, 1) := by decide +kernel
theorem dX3_between_52 : decode cX3_between 52 = .ok (.iload_n 2, 1) := by decide +kernel
theorem dX3_between_53 : decode cX3_between 53 = .ok (.invokestatic 72, 3) := by decide +kernel
theorem dX3_between_56 : decode cX3_between 56 = .ok (.ifCond .lt 35, 3) := by decide +kernel
theorem dX3_between_59 : decode cX3_between 59 = .ok (.aload_n 0, 1) := by decide +kernel
theorem dX3_between_60 : decode cX3_between 60 = .ok (.getfield 19, 3) := by decide +kernel
theorem dX3_between_63 : decode cX3_between 63 = .ok (.getfield 66, 3) := by decide +kernel
theorem dX3_between_66 : decode cX3_between 66 = .ok (.iload 6, 2) := by decide +kernel
theorem dX3_between_68 : decode cX3_between 68 = .ok (.iaload, 1) := by decide +kernel
theorem dX3_between_69 : decode cX3_between 69 = .ok (.aload_n 0, 1) := by decide +kernel
theorem dX3_between_70 : decode cX3_between 70 = .ok (.getfield 19, 3) := by decide +kernel
theorem dX3_between_73 : decode cX3_between 73 = .ok (.getfield 69, 3) := by decide +kernel
theorem dX3_between_76 : decode cX3_between 76 = .ok (.iload 6, 2) := by decide +kernel
theorem dX3_between_78 : decode cX3_between 78 = .ok (.iaload, 1) := by decide +kernel
theorem dX3_between_79 : decode cX3_between 79 = .ok (.iload_n 3, 1) := by decide +kernel
theorem dX3_between_80 : decode cX3_between 80 = .ok (.iload 4, 2) := by decide +kernel
theorem dX3_between_82 : decode cX3_between 82 = .ok (.invokestatic 72, 3) := by decide +kernel
theorem dX3_between_85 : decode cX3_between 85 = .ok (.ifCond .ge 6, 3) := by decide +kernel
theorem dX3_between_88 : decode cX3_between 88 = .ok (.iinc 5 1, 3) := by decide +kernel
theorem dX3_between_91 : decode cX3_between 91 = .ok (.iinc 6 1, 3) := by decide +kernel
theorem dX3_between_94 : decode cX3_between 94 = .ok (.goto (-75), 3) := by decide +kernel
theorem dX3_between_97 : decode cX3_between 97 = .ok (.iload 5, 2) := by decide +kernel
theorem dX3_between_99 : decode cX3_between 99 = .ok (.ireturn, 1) := by decide +kernel
theorem dX3_sign_0 : decode cX3_sign 0 = .ok (.iload_n 1, 1) := by decide +kernel
theorem dX3_sign_1 : decode cX3_sign 1 = .ok (.bipush 97, 2) := by decide +kernel
theorem dX3_sign_3 : decode cX3_sign 3 = .ok (.if_icmp .lt 9, 3) := by decide +kernel
theorem dX3_sign_6 : decode cX3_sign 6 = .ok (.iload_n 1, 1) := by decide +kernel
theorem dX3_sign_7 : decode cX3_sign 7 = .ok (.bipush 122, 2) := by decide +kernel
theorem dX3_sign_9 : decode cX3_sign 9 = .ok (.if_icmp .le 5, 3) := by decide +kernel
theorem dX3_sign_12 : decode cX3_sign 12 = .ok (.iconst (-1), 1) := by decide +kernel
theorem dX3_sign_13 : decode cX3_sign 13 = .ok (.ireturn, 1) := by decide +kernel
theorem dX3_sign_14 : decode cX3_sign 14 = .ok (.aload_n 0, 1) := by decide +kernel
theorem dX3_sign_15 : decode cX3_sign 15 = .ok (.getfield 82, 3) := by decide +kernel
theorem dX3_sign_18 : decode cX3_sign 18 = .ok (.bipush 12, 2) := by decide +kernel
theorem dX3_sign_20 : decode cX3_sign 20 = .ok (.if_icmp .ne 6, 3) := by decide +kernel
theorem dX3_sign_23 : decode cX3_sign 23 = .ok (.bipush (-3), 2) := by decide +kernel
theorem dX3_sign_25 : decode cX3_sign 25 = .ok (.ireturn, 1) := by decide +kernel
theorem dX3_sign_26 : decode cX3_sign 26 = .ok (.aload_n 0, 1) := by decide +kernel
theorem dX3_sign_27 : decode cX3_sign 27 = .ok (.getfield 35, 3) := by decide +kernel
theorem dX3_sign_30 : decode cX3_sign 30 = .ok (.aload_n 0, 1) := by decide +kernel
theorem dX3_sign_31 : decode cX3_sign 31 = .ok (.getfield 82, 3) := by decide +kernel
theorem dX3_sign_34 : decode cX3_sign 34 = .ok (.iload_n 1, 1) := by decide +kernel
theorem dX3_sign_35 : decode cX3_sign 35 = .ok (.iastore, 1) := by decide +kernel
theorem dX3_sign_36 : decode cX3_sign 36 = .ok (.aload_n 0, 1) := by decide +kernel
theorem dX3_sign_37 : decode cX3_sign 37 = .ok (.dup, 1) := by decide +kernel
theorem dX3_sign_38 : decode cX3_sign 38 = .ok (.getfield 82, 3) := by decide +kernel
theorem dX3_sign_41 : decode cX3_sign 41 = .ok (.iconst 1, 1) := by decide +kernel
theorem dX3_sign_42 : decode cX3_sign 42 = .ok (.iadd, 1) := by decide +kernel
theorem dX3_sign_43 : decode cX3_sign 43 = .ok (.dup_x1, 1) := by decide +kernel
theorem dX3_sign_44 : decode cX3_sign 44 = .ok (.putfield 82, 3) := by decide +kernel
theorem dX3_sign_47 : decode cX3_sign 47 = .ok (.ireturn, 1) := by decide +kernel
theorem dX3_erase_0 : decode cX3_erase 0 = .ok (.aload_n 0, 1) := by decide +kernel
theorem dX3_erase_1 : decode cX3_erase 1 = .ok (.getfield 82, 3) := by decide +kernel
theorem dX3_erase_4 : decode cX3_erase 4 = .ok (.istore_n 1, 1) := by decide +kernel
theorem dX3_erase_5 : decode cX3_erase 5 = .ok (.aload_n 0, 1) := by decide +kernel
theorem dX3_erase_6 : decode cX3_erase 6 = .ok (.iconst 0, 1) := by decide +kernel
theorem dX3_erase_7 : decode cX3_erase 7 = .ok (.putfield 82, 3) := by decide +kernel
theorem dX3_erase_10 : decode cX3_erase 10 = .ok (.iload_n 1, 1) := by decide +kernel
theorem dX3_erase_11 : decode cX3_erase 11 = .ok (.ireturn, 1) := by decide +kernel
theorem dX3_signOf_0 : decode cX3_signOf 0 = .ok (.aload_n 0, 1) := by decide +kernel
theorem dX3_signOf_1 : decode cX3_signOf 1 = .ok (.getfield 31, 3) := by decide +kernel
theorem dX3_signOf_4 : decode cX3_signOf 4 = .ok (.bipush 12, 2) := by decide +kernel
theorem dX3_signOf_6 : decode cX3_signOf 6 = .ok (.iload_n 1, 1) := by decide +kernel
theorem dX3_signOf_7 : decode cX3_signOf 7 = .ok (.imul, 1) := by decide +kernel
theorem dX3_signOf_8 : decode cX3_signOf 8 = .ok (.iload_n 2, 1) := by decide +kernel
theorem dX3_signOf_9 : decode cX3_signOf 9 = .ok (.iadd, 1) := by decide +kernel
theorem dX3_signOf_10 : decode cX3_signOf 10 = .ok (.iaload, 1) := by decide +kernel
theorem dX3_signOf_11 : decode cX3_signOf 11 = .ok (.ireturn, 1) := by decide +kernel
theorem dX3_tapeSign_0 : decode cX3_tapeSign 0 = .ok (.iload_n 1, 1) := by decide +kernel
theorem dX3_tapeSign_1 : decode cX3_tapeSign 1 = .ok (.aload_n 0, 1) := by decide +kernel
theorem dX3_tapeSign_2 : decode cX3_tapeSign 2 = .ok (.getfield 82, 3) := by decide +kernel
theorem dX3_tapeSign_5 : decode cX3_tapeSign 5 = .ok (.if_icmp .ge 12, 3) := by decide +kernel
theorem dX3_tapeSign_8 : decode cX3_tapeSign 8 = .ok (.aload_n 0, 1) := by decide +kernel
theorem dX3_tapeSign_9 : decode cX3_tapeSign 9 = .ok (.getfield 35, 3) := by decide +kernel
theorem dX3_tapeSign_12 : decode cX3_tapeSign 12 = .ok (.iload_n 1, 1) := by decide +kernel
theorem dX3_tapeSign_13 : decode cX3_tapeSign 13 = .ok (.iaload, 1) := by decide +kernel
theorem dX3_tapeSign_14 : decode cX3_tapeSign 14 = .ok (.goto 4, 3) := by decide +kernel
theorem dX3_tapeSign_17 : decode cX3_tapeSign 17 = .ok (.iconst 0, 1) := by decide +kernel
theorem dX3_tapeSign_18 : decode cX3_tapeSign 18 = .ok (.ireturn, 1) := by decide +kernel
set_option maxRecDepth 20000 in
theorem ggX3_against_X3_signOf : GoodIn wsX3_against wsX3_signOf := goodIn_r _ [5, 6, 13, 14, 15, 16, 17, 18, 19, 20, 21, 22] (by decide +kernel) (by decide +kernel)
set_option maxRecDepth 20000 in
theorem gX3_against_X3_signOf : GoodIn wsX3_against (wsV RX3 85 RX3 yX3_signOf wsX3_signOf) := goodIn_app (goodIn_of _ (by decide +kernel)) ggX3_against_X3_signOf
set_option maxRecDepth 20000 in
theorem ggX3_against_X3_tapeSign : GoodIn wsX3_against wsX3_tapeSign := goodIn_r _ [10, 11, 12, 13, 14, 15, 16, 17, 18, 19, 20, 21, 22] (by decide +kernel) (by decide +kernel)
set_option maxRecDepth 20000 in
theorem gX3_against_X3_tapeSign : GoodIn wsX3_against (wsV RX3 88 RX3 yX3_tapeSign wsX3_tapeSign) := goodIn_app (goodIn_of _ (by decide +kernel)) ggX3_against_X3_tapeSign
theorem dX3_against_0 : decode cX3_against 0 = .ok (.iconst 0, 1) := by decide +kernel
theorem dX3_against_1 : decode cX3_against 1 = .ok (.istore_n 2, 1) := by decide +kernel
theorem dX3_against_2 : decode cX3_against 2 = .ok (.iload_n 2, 1) := by decide +kernel
theorem dX3_against_3 : decode cX3_against 3 = .ok (.bipush 12, 2) := by decide +kernel
theorem dX3_against_5 : decode cX3_against 5 = .ok (.if_icmp .ge 43, 3) := by decide +kernel
theorem dX3_against_8 : decode cX3_against 8 = .ok (.aload_n 0, 1) := by decide +kernel
theorem dX3_against_9 : decode cX3_against 9 = .ok (.iload_n 1, 1) := by decide +kernel
theorem dX3_against_10 : decode cX3_against 10 = .ok (.iload_n 2, 1) := by decide +kernel
theorem dX3_against_11 : decode cX3_against 11 = .ok (.invokevirtual 85, 3) := by decide +kernel
theorem dX3_against_14 : decode cX3_against 14 = .ok (.aload_n 0, 1) := by decide +kernel
theorem dX3_against_15 : decode cX3_against 15 = .ok (.iload_n 2, 1) := by decide +kernel
theorem dX3_against_16 : decode cX3_against 16 = .ok (.invokevirtual 88, 3) := by decide +kernel
theorem dX3_against_19 : decode cX3_against 19 = .ok (.if_icmp .eq 23, 3) := by decide +kernel
theorem dX3_against_22 : decode cX3_against 22 = .ok (.aload_n 0, 1) := by decide +kernel
theorem dX3_against_23 : decode cX3_against 23 = .ok (.iload_n 1, 1) := by decide +kernel
theorem dX3_against_24 : decode cX3_against 24 = .ok (.iload_n 2, 1) := by decide +kernel
theorem dX3_against_25 : decode cX3_against 25 = .ok (.invokevirtual 85, 3) := by decide +kernel
theorem dX3_against_28 : decode cX3_against 28 = .ok (.aload_n 0, 1) := by decide +kernel
theorem dX3_against_29 : decode cX3_against 29 = .ok (.iload_n 2, 1) := by decide +kernel
theorem dX3_against_30 : decode cX3_against 30 = .ok (.invokevirtual 88, 3) := by decide +kernel
theorem dX3_against_33 : decode cX3_against 33 = .ok (.if_icmp .ge 7, 3) := by decide +kernel
theorem dX3_against_36 : decode cX3_against 36 = .ok (.iconst (-1), 1) := by decide +kernel
theorem dX3_against_37 : decode cX3_against 37 = .ok (.goto 4, 3) := by decide +kernel
theorem dX3_against_40 : decode cX3_against 40 = .ok (.iconst 1, 1) := by decide +kernel
theorem dX3_against_41 : decode cX3_against 41 = .ok (.ireturn, 1) := by decide +kernel
theorem dX3_against_42 : decode cX3_against 42 = .ok (.iinc 2 1, 3) := by decide +kernel
theorem dX3_against_45 : decode cX3_against 45 = .ok (.goto (-43), 3) := by decide +kernel
theorem dX3_against_48 : decode cX3_against 48 = .ok (.iconst 0, 1) := by decide +kernel
theorem dX3_against_49 : decode cX3_against 49 = .ok (.ireturn, 1) := by decide +kernel
set_option maxRecDepth 20000 in
theorem ggX3_wordOfTape_X3_against : GoodIn wsX3_wordOfTape wsX3_against := goodIn_r _ [6, 7, 8, 9, 5, 10, 11, 12, 13, 14, 15, 16, 17, 18, 19, 20, 21, 22, 23, 24, 25, 26, 27] (by decide +kernel) (by decide +kernel)
set_option maxRecDepth 20000 in
theorem gX3_wordOfTape_X3_against : GoodIn wsX3_wordOfTape (wsV RX3 95 RX3 yX3_against wsX3_against) := goodIn_app (goodIn_of _ (by decide +kernel)) ggX3_wordOfTape_X3_against
theorem dX3_wordOfTape_0 : decode cX3_wordOfTape 0 = .ok (.iconst 0, 1) := by decide +kernel
theorem dX3_wordOfTape_1 : decode cX3_wordOfTape 1 = .ok (.istore_n 1, 1) := by decide +kernel
theorem dX3_wordOfTape_2 : decode cX3_wordOfTape 2 = .ok (.iload_n 1, 1) := by decide +kernel
theorem dX3_wordOfTape_3 : decode cX3_wordOfTape 3 = .ok (.aload_n 0, 1) := by decide +kernel
theorem dX3_wordOfTape_4 : decode cX3_wordOfTape 4 = .ok (.getfield 92, 3) := by decide +kernel
theorem dX3_wordOfTape_7 : decode cX3_wordOfTape 7 = .ok (.if_icmp .ge 19, 3) := by decide +kernel
theorem dX3_wordOfTape_10 : decode cX3_wordOfTape 10 = .ok (.aload_n 0, 1) := by decide +kernel
theorem dX3_wordOfTape_11 : decode cX3_wordOfTape 11 = .ok (.iload_n 1, 1) := by decide +kernel
theorem dX3_wordOfTape_12 : decode cX3_wordOfTape 12 = .ok (.invokevirtual 95, 3) := by decide +kernel
theorem dX3_wordOfTape_15 : decode cX3_wordOfTape 15 = .ok (.ifCond .ne 5, 3) := by decide +kernel
theorem dX3_wordOfTape_18 : decode cX3_wordOfTape 18 = .ok (.iload_n 1, 1) := by decide +kernel
theorem dX3_wordOfTape_19 : decode cX3_wordOfTape 19 = .ok (.ireturn, 1) := by decide +kernel
theorem dX3_wordOfTape_20 : decode cX3_wordOfTape 20 = .ok (.iinc 1 1, 3) := by decide +kernel
theorem dX3_wordOfTape_23 : decode cX3_wordOfTape 23 = .ok (.goto (-21), 3) := by decide +kernel
theorem dX3_wordOfTape_26 : decode cX3_wordOfTape 26 = .ok (.iconst (-1), 1) := by decide +kernel
theorem dX3_wordOfTape_27 : decode cX3_wordOfTape 27 = .ok (.ireturn, 1) := by decide +kernel
theorem dX3_numbers_0 : decode cX3_numbers 0 = .ok (.iconst 0, 1) := by decide +kernel
theorem dX3_numbers_1 : decode cX3_numbers 1 = .ok (.istore_n 2, 1) := by decide +kernel
theorem dX3_numbers_2 : decode cX3_numbers 2 = .ok (.iconst 0, 1) := by decide +kernel
theorem dX3_numbers_3 : decode cX3_numbers 3 = .ok (.istore_n 3, 1) := by decide +kernel
theorem dX3_numbers_4 : decode cX3_numbers 4 = .ok (.iload_n 3, 1) := by decide +kernel
theorem dX3_numbers_5 : decode cX3_numbers 5 = .ok (.aload_n 0, 1) := by decide +kernel
theorem dX3_numbers_6 : decode cX3_numbers 6 = .ok (.getfield 28, 3) := by decide +kernel
theorem dX3_numbers_9 : decode cX3_numbers 9 = .ok (.getfield 46, 3) := by decide +kernel
theorem dX3_numbers_12 : decode cX3_numbers 12 = .ok (.if_icmp .ge 25, 3) := by decide +kernel
theorem dX3_numbers_15 : decode cX3_numbers 15 = .ok (.aload_n 0, 1) := by decide +kernel
theorem dX3_numbers_16 : decode cX3_numbers 16 = .ok (.getfield 28, 3) := by decide +kernel
theorem dX3_numbers_19 : decode cX3_numbers 19 = .ok (.getfield 66, 3) := by decide +kernel
theorem dX3_numbers_22 : decode cX3_numbers 22 = .ok (.iload_n 3, 1) := by decide +kernel
