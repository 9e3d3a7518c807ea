set_option maxRecDepth 20000 in
theorem ggX1_init_X0_init : GoodIn wsX1_init wsX0_init := goodIn_r _ [18, 19, 2, 3, 20, 21, 22, 23, 24, 25, 26, 27, 28, 29, 30, 31, 32, 33] (by decide +kernel) (by decide +kernel)
set_option maxRecDepth 20000 in
theorem gX1_init_X0_init : GoodIn wsX1_init (wsX0_init) := ggX1_init_X0_init
theorem dX1_init_0 : decode cX1_init 0 = .ok (.aload_n 0, 1) := by decide +kernel
theorem dX1_init_1 : decode cX1_init 1 = .ok (.invokespecial 3, 3) := by decide +kernel
theorem dX1_init_4 : decode cX1_init 4 = .ok (.aload_n 0, 1) := by decide +kernel
theorem dX1_init_5 : decode cX1_init 5 = .ok (.new 9, 3) := by decide +kernel
theorem dX1_init_8 : decode cX1_init 8 = .ok (.dup, 1) := by decide +kernel
theorem dX1_init_9 : decode cX1_init 9 = .ok (.sipush 512, 3) := by decide +kernel
theorem dX1_init_12 : decode cX1_init 12 = .ok (.invokespecial 11, 3) := by decide +kernel
theorem dX1_init_15 : decode cX1_init 15 = .ok (.putfield 14, 3) := by decide +kernel
theorem dX1_init_18 : decode cX1_init 18 = .ok (.aload_n 0, 1) := by decide +kernel
theorem dX1_init_19 : decode cX1_init 19 = .ok (.new 9, 3) := by decide +kernel
theorem dX1_init_22 : decode cX1_init 22 = .ok (.dup, 1) := by decide +kernel
theorem dX1_init_23 : decode cX1_init 23 = .ok (.sipush 512, 3) := by decide +kernel
theorem dX1_init_26 : decode cX1_init 26 = .ok (.invokespecial 11, 3) := by decide +kernel
theorem dX1_init_29 : decode cX1_init 29 = .ok (.putfield 18, 3) := by decide +kernel
theorem dX1_init_32 : decode cX1_init 32 = .ok (.aload_n 0, 1) := by decide +kernel
theorem dX1_init_33 : decode cX1_init 33 = .ok (.new 9, 3) := by decide +kernel
theorem dX1_init_36 : decode cX1_init 36 = .ok (.dup, 1) := by decide +kernel
theorem dX1_init_37 : decode cX1_init 37 = .ok (.sipush 512, 3) := by decide +kernel
theorem dX1_init_40 : decode cX1_init 40 = .ok (.invokespecial 11, 3) := by decide +kernel
theorem dX1_init_43 : decode cX1_init 43 = .ok (.putfield 21, 3) := by decide +kernel
theorem dX1_init_46 : decode cX1_init 46 = .ok (.aload_n 0, 1) := by decide +kernel
theorem dX1_init_47 : decode cX1_init 47 = .ok (.new 9, 3) := by decide +kernel
theorem dX1_init_50 : decode cX1_init 50 = .ok (.dup, 1) := by decide +kernel
theorem dX1_init_51 : decode cX1_init 51 = .ok (.sipush 512, 3) := by decide +kernel
theorem dX1_init_54 : decode cX1_init 54 = .ok (.invokespecial 11, 3) := by decide +kernel
theorem dX1_init_57 : decode cX1_init 57 = .ok (.putfield 24, 3) := by decide +kernel
theorem dX1_init_60 : decode cX1_init 60 = .ok (.aload_n 0, 1) := by decide +kernel
theorem dX1_init_61 : decode cX1_init 61 = .ok (.new 9, 3) := by decide +kernel
theorem dX1_init_64 : decode cX1_init 64 = .ok (.dup, 1) := by decide +kernel
theorem dX1_init_65 : decode cX1_init 65 = .ok (.sipush 512, 3) := by decide +kernel
theorem dX1_init_68 : decode cX1_init 68 = .ok (.invokespecial 11, 3) := by decide +kernel
theorem dX1_init_71 : decode cX1_init 71 = .ok (.putfield 27, 3) := by decide +kernel
theorem dX1_init_74 : decode cX1_init 74 = .ok (.aload_n 0, 1) := by decide +kernel
theorem dX1_init_75 : decode cX1_init 75 = .ok (.new 9, 3) := by decide +kernel
theorem dX1_init_78 : decode cX1_init 78 = .ok (.dup, 1) := by decide +kernel
theorem dX1_init_79 : decode cX1_init 79 = .ok (.sipush 752, 3) := by decide +kernel
theorem dX1_init_82 : decode cX1_init 82 = .ok (.invokespecial 11, 3) := by decide +kernel
theorem dX1_init_85 : decode cX1_init 85 = .ok (.putfield 30, 3) := by decide +kernel
theorem dX1_init_88 : decode cX1_init 88 = .ok (.aload_n 0, 1) := by decide +kernel
theorem dX1_init_89 : decode cX1_init 89 = .ok (.new 9, 3) := by decide +kernel
theorem dX1_init_92 : decode cX1_init 92 = .ok (.dup, 1) := by decide +kernel
theorem dX1_init_93 : decode cX1_init 93 = .ok (.sipush 752, 3) := by decide +kernel
theorem dX1_init_96 : decode cX1_init 96 = .ok (.invokespecial 11, 3) := by decide +kernel
theorem dX1_init_99 : decode cX1_init 99 = .ok (.putfield 33, 3) := by decide +kernel
theorem dX1_init_102 : decode cX1_init 102 = .ok (.aload_n 0, 1) := by decide +kernel
theorem dX1_init_103 : decode cX1_init 103 = .ok (.lconst 0, 1) := by decide +kernel
theorem dX1_init_104 : decode cX1_init 104 = .ok (.putfield 36, 3) := by decide +kernel
theorem dX1_init_107 : decode cX1_init 107 = .ok (.aload_n 0, 1) := by decide +kernel
theorem dX1_init_108 : decode cX1_init 108 = .ok (.lconst 0, 1) := by decide +kernel
theorem dX1_init_109 : decode cX1_init 109 = .ok (.putfield 40, 3) := by decide +kernel
theorem dX1_init_112 : decode cX1_init 112 = .ok (.return_, 1) := by decide +kernel
set_option maxRecDepth 20000 in
theorem ggX1_add_X1_pairKey : GoodIn wsX1_add wsX1_pairKey := goodIn_r _ [5, 6] (by decide +kernel) (by decide +kernel)
set_option maxRecDepth 20000 in
theorem gX1_add_X1_pairKey : GoodIn wsX1_add (va_wsS RX1 43 yX1_pairKey wsX1_pairKey) := goodIn_app (goodIn_of _ (by decide +kernel)) ggX1_add_X1_pairKey
set_option maxRecDepth 20000 in
theorem ggX1_add_X0_raise : GoodIn wsX1_add wsX0_raise := goodIn_r _ [11, 12, 13, 14, 15, 10, 16, 17, 18, 19, 20, 21, 22, 23, 24, 25, 26, 27, 28, 29, 30, 31, 32, 33, 34, 44, 45, 46] (by decide +kernel) (by decide +kernel)
set_option maxRecDepth 20000 in
theorem gX1_add_X0_raise : GoodIn wsX1_add (wsV RX1 47 RX0 yX0_raise wsX0_raise) := goodIn_app (goodIn_of _ (by decide +kernel)) ggX1_add_X0_raise
theorem dX1_add_0 : decode cX1_add 0 = .ok (.aload_n 0, 1) := by decide +kernel
theorem dX1_add_1 : decode cX1_add 1 = .ok (.getfield 14, 3) := by decide +kernel
theorem dX1_add_4 : decode cX1_add 4 = .ok (.iload_n 1, 1) := by decide +kernel
theorem dX1_add_5 : decode cX1_add 5 = .ok (.iload_n 2, 1) := by decide +kernel
theorem dX1_add_6 : decode cX1_add 6 = .ok (.invokestatic 43, 3) := by decide +kernel
theorem dX1_add_9 : decode cX1_add 9 = .ok (.iload_n 3, 1) := by decide +kernel
theorem dX1_add_10 : decode cX1_add 10 = .ok (.i2l, 1) := by decide +kernel
theorem dX1_add_11 : decode cX1_add 11 = .ok (.invokevirtual 47, 3) := by decide +kernel
theorem dX1_add_14 : decode cX1_add 14 = .ok (.lreturn, 1) := by decide +kernel
set_option maxRecDepth 20000 in
theorem ggX1_count_X1_pairKey : GoodIn wsX1_count wsX1_pairKey := goodIn_r _ [5, 6] (by decide +kernel) (by decide +kernel)
set_option maxRecDepth 20000 in
theorem gX1_count_X1_pairKey : GoodIn wsX1_count (va_wsS RX1 43 yX1_pairKey wsX1_pairKey) := goodIn_app (goodIn_of _ (by decide +kernel)) ggX1_count_X1_pairKey
set_option maxRecDepth 20000 in
theorem ggX1_count_X0_find : GoodIn wsX1_count wsX0_find := goodIn_r _ [11, 12, 13, 14, 10, 15, 16, 17, 18, 19, 20, 21, 22, 23, 24, 25, 41, 42, 43] (by decide +kernel) (by decide +kernel)
set_option maxRecDepth 20000 in
theorem gX1_count_X0_find : GoodIn wsX1_count (wsV RX1 51 RX0 yX0_find wsX0_find) := goodIn_app (goodIn_of _ (by decide +kernel)) ggX1_count_X0_find
set_option maxRecDepth 20000 in
theorem ggX1_count_X0_valueAt : GoodIn wsX1_count wsX0_valueAt := goodIn_r _ [29, 30, 31, 22, 23, 24, 10, 25, 16, 41, 42, 43] (by decide +kernel) (by decide +kernel)
set_option maxRecDepth 20000 in
theorem gX1_count_X0_valueAt : GoodIn wsX1_count (wsV RX1 55 RX0 yX0_valueAt wsX0_valueAt) := goodIn_app (goodIn_of _ (by decide +kernel)) ggX1_count_X0_valueAt
theorem dX1_count_0 : decode cX1_count 0 = .ok (.aload_n 0, 1) := by decide +kernel
theorem dX1_count_1 : decode cX1_count 1 = .ok (.getfield 14, 3) := by decide +kernel
theorem dX1_count_4 : decode cX1_count 4 = .ok (.aload_n 0, 1) := by decide +kernel
theorem dX1_count_5 : decode cX1_count 5 = .ok (.getfield 14, 3) := by decide +kernel
theorem dX1_count_8 : decode cX1_count 8 = .ok (.iload_n 1, 1) := by decide +kernel
theorem dX1_count_9 : decode cX1_count 9 = .ok (.iload_n 2, 1) := by decide +kernel
theorem dX1_count_10 : decode cX1_count 10 = .ok (.invokestatic 43, 3) := by decide +kernel
theorem dX1_count_13 : decode cX1_count 13 = .ok (.invokevirtual 51, 3) := by decide +kernel
theorem dX1_count_16 : decode cX1_count 16 = .ok (.invokevirtual 55, 3) := by decide +kernel
theorem dX1_count_19 : decode cX1_count 19 = .ok (.lreturn, 1) := by decide +kernel
set_option maxRecDepth 20000 in
theorem ggX1_drop_X1_pairKey : GoodIn wsX1_drop wsX1_pairKey := goodIn_r _ [5, 6] (by decide +kernel) (by decide +kernel)
set_option maxRecDepth 20000 in
theorem gX1_drop_X1_pairKey : GoodIn wsX1_drop (va_wsS RX1 43 yX1_pairKey wsX1_pairKey) := goodIn_app (goodIn_of _ (by decide +kernel)) ggX1_drop_X1_pairKey
set_option maxRecDepth 20000 in
theorem ggX1_drop_X0_find : GoodIn wsX1_drop wsX0_find := goodIn_r _ [11, 12, 13, 14, 10, 15, 16, 17, 18, 19, 20, 21, 22, 23, 24, 25, 53, 54, 55] (by decide +kernel) (by decide +kernel)
set_option maxRecDepth 20000 in
theorem gX1_drop_X0_find : GoodIn wsX1_drop (wsV RX1 51 RX0 yX0_find wsX0_find) := goodIn_app (goodIn_of _ (by decide +kernel)) ggX1_drop_X0_find
set_option maxRecDepth 20000 in
theorem ggX1_drop_X0_takeAt : GoodIn wsX1_drop wsX0_takeAt := goodIn_r _ [29, 30, 31, 32, 10, 33, 34, 35, 22, 23, 24, 25, 16, 36, 37, 38, 39, 17, 40, 41, 42, 43, 53, 54, 55] (by decide +kernel) (by decide +kernel)
set_option maxRecDepth 20000 in
theorem gX1_drop_X0_takeAt : GoodIn wsX1_drop (wsV RX1 59 RX0 yX0_takeAt wsX0_takeAt) := goodIn_app (goodIn_of _ (by decide +kernel)) ggX1_drop_X0_takeAt
theorem dX1_drop_0 : decode cX1_drop 0 = .ok (.aload_n 0, 1) := by decide +kernel
theorem dX1_drop_1 : decode cX1_drop 1 = .ok (.getfield 14, 3) := by decide +kernel
theorem dX1_drop_4 : decode cX1_drop 4 = .ok (.aload_n 0, 1) := by decide +kernel
theorem dX1_drop_5 : decode cX1_drop 5 = .ok (.getfield 14, 3) := by decide +kernel
theorem dX1_drop_8 : decode cX1_drop 8 = .ok (.iload_n 1, 1) := by decide +kernel
theorem dX1_drop_9 : decode cX1_drop 9 = .ok (.iload_n 2, 1) := by decide +kernel
theorem dX1_drop_10 : decode cX1_drop 10 = .ok (.invokestatic 43, 3) := by decide +kernel
theorem dX1_drop_13 : decode cX1_drop 13 = .ok (.invokevirtual 51, 3) := by decide +kernel
theorem dX1_drop_16 : decode cX1_drop 16 = .ok (.invokevirtual 59, 3) := by decide +kernel
theorem dX1_drop_19 : decode cX1_drop 19 = .ok (.lreturn, 1) := by decide +kernel
set_option maxRecDepth 20000 in
theorem ggX1_total_X0_held : GoodIn wsX1_total wsX0_held := goodIn_r _ [7, 8, 41, 42, 43] (by decide +kernel) (by decide +kernel)
set_option maxRecDepth 20000 in
theorem gX1_total_X0_held : GoodIn wsX1_total (wsV RX1 62 RX0 yX0_held wsX0_held) := goodIn_app (goodIn_of _ (by decide +kernel)) ggX1_total_X0_held
set_option maxRecDepth 20000 in
theorem ggX1_total_X0_keyAt : GoodIn wsX1_total wsX0_keyAt := goodIn_r _ [12, 13, 14, 15, 16, 17, 6, 18, 8, 41, 42, 43] (by decide +kernel) (by decide +kernel)
set_option maxRecDepth 20000 in
theorem gX1_total_X0_keyAt : GoodIn wsX1_total (wsV RX1 66 RX0 yX0_keyAt wsX0_keyAt) := goodIn_app (goodIn_of _ (by decide +kernel)) ggX1_total_X0_keyAt
set_option maxRecDepth 20000 in
theorem ggX1_total_X1_firstOf : GoodIn wsX1_total wsX1_firstOf := goodIn_r _ [22] (by decide +kernel) (by decide +kernel)
set_option maxRecDepth 20000 in
theorem gX1_total_X1_firstOf : GoodIn wsX1_total (va_wsS RX1 71 yX1_firstOf wsX1_firstOf) := goodIn_app (goodIn_of _ (by decide +kernel)) ggX1_total_X1_firstOf
set_option maxRecDepth 20000 in
theorem ggX1_total_X1_secondOf : GoodIn wsX1_total wsX1_secondOf := goodIn_r _ [25, 26] (by decide +kernel) (by decide +kernel)
set_option maxRecDepth 20000 in
theorem gX1_total_X1_secondOf : GoodIn wsX1_total (va_wsS RX1 74 yX1_secondOf wsX1_secondOf) := goodIn_app (goodIn_of _ (by decide +kernel)) ggX1_total_X1_secondOf
set_option maxRecDepth 20000 in
theorem ggX1_total_X0_valueAt : GoodIn wsX1_total wsX0_valueAt := goodIn_r _ [30, 31, 14, 15, 16, 17, 6, 18, 8, 41, 42, 43] (by decide +kernel) (by decide +kernel)
set_option maxRecDepth 20000 in
theorem gX1_total_X0_valueAt : GoodIn wsX1_total (wsV RX1 55 RX0 yX0_valueAt wsX0_valueAt) := goodIn_app (goodIn_of _ (by decide +kernel)) ggX1_total_X0_valueAt
theorem dX1_total_0 : decode cX1_total 0 = .ok (.lconst 0, 1) := by decide +kernel
theorem dX1_total_1 : decode cX1_total 1 = .ok (.lstore_n 1, 1) := by decide +kernel
theorem dX1_total_2 : decode cX1_total 2 = .ok (.iconst 0, 1) := by decide +kernel
theorem dX1_total_3 : decode cX1_total 3 = .ok (.istore_n 3, 1) := by decide +kernel
theorem dX1_total_4 : decode cX1_total 4 = .ok (.iload_n 3, 1) := by decide +kernel
theorem dX1_total_5 : decode cX1_total 5 = .ok (.aload_n 0, 1) := by decide +kernel
theorem dX1_total_6 : decode cX1_total 6 = .ok (.getfield 14, 3) := by decide +kernel
theorem dX1_total_9 : decode cX1_total 9 = .ok (.invokevirtual 62, 3) := by decide +kernel
theorem dX1_total_12 : decode cX1_total 12 = .ok (.if_icmp .ge 48, 3) := by decide +kernel
theorem dX1_total_15 : decode cX1_total 15 = .ok (.aload_n 0, 1) := by decide +kernel
theorem dX1_total_16 : decode cX1_total 16 = .ok (.getfield 14, 3) := by decide +kernel
theorem dX1_total_19 : decode cX1_total 19 = .ok (.iload_n 3, 1) := by decide +kernel
theorem dX1_total_20 : decode cX1_total 20 = .ok (.invokevirtual 66, 3) := by decide +kernel
theorem dX1_total_23 : decode cX1_total 23 = .ok (.lstore 4, 2) := by decide +kernel
theorem dX1_total_25 : decode cX1_total 25 = .ok (.lload_n 1, 1) := by decide +kernel
theorem dX1_total_26 : decode cX1_total 26 = .ok (.ldc2_w 69, 3) := by decide +kernel
theorem dX1_total_29 : decode cX1_total 29 = .ok (.lload 4, 2) := by decide +kernel
theorem dX1_total_31 : decode cX1_total 31 = .ok (.invokestatic 71, 3) := by decide +kernel
theorem dX1_total_34 : decode cX1_total 34 = .ok (.i2l, 1) := by decide +kernel
theorem dX1_total_35 : decode cX1_total 35 = .ok (.lmul, 1) := by decide +kernel
theorem dX1_total_36 : decode cX1_total 36 = .ok (.lload 4, 2) := by decide +kernel
theorem dX1_total_38 : decode cX1_total 38 = .ok (.invokestatic 74, 3) := by decide +kernel
theorem dX1_total_41 : decode cX1_total 41 = .ok (.i2l, 1) := by decide +kernel
theorem dX1_total_42 : decode cX1_total 42 = .ok (.ladd, 1) := by decide +kernel
theorem dX1_total_43 : decode cX1_total 43 = .ok (.aload_n 0, 1) := by decide +kernel
theorem dX1_total_44 : decode cX1_total 44 = .ok (.getfield 14, 3) := by decide +kernel
theorem dX1_total_47 : decode cX1_total 47 = .ok (.iload_n 3, 1) := by decide +kernel
theorem dX1_total_48 : decode cX1_total 48 = .ok (.invokevirtual 55, 3) := by decide +kernel
theorem dX1_total_51 : decode cX1_total 51 = .ok (.lmul, 1) := by decide +kernel
theorem dX1_total_52 : decode cX1_total 52 = .ok (.ladd, 1) := by decide +kernel
theorem dX1_total_53 : decode cX1_total 53 = .ok (.lstore_n 1, 1) := by decide +kernel
theorem dX1_total_54 : decode cX1_total 54 = .ok (.iinc 3 1, 3) := by decide +kernel
theorem dX1_total_57 : decode cX1_total 57 = .ok (.goto (-53), 3) := by decide +kernel
theorem dX1_total_60 : decode cX1_total 60 = .ok (.lload_n 1, 1) := by decide +kernel
theorem dX1_total_61 : decode cX1_total 61 = .ok (.lreturn, 1) := by decide +kernel
set_option maxRecDepth 20000 in
theorem ggX1_sweep_X0_held : GoodIn wsX1_sweep wsX0_held := goodIn_r _ [6, 7, 47, 48, 49] (by decide +kernel) (by decide +kernel)
set_option maxRecDepth 20000 in
theorem gX1_sweep_X0_held : GoodIn wsX1_sweep (wsV RX1 62 RX0 yX0_held wsX0_held) := goodIn_app (goodIn_of _ (by decide +kernel)) ggX1_sweep_X0_held
set_option maxRecDepth 20000 in
theorem ggX1_sweep_X0_keyAt : GoodIn wsX1_sweep wsX0_keyAt := goodIn_r _ [11, 12, 13, 14, 15, 16, 5, 17, 7, 47, 48, 49] (by decide +kernel) (by decide +kernel)
set_option maxRecDepth 20000 in
theorem gX1_sweep_X0_keyAt : GoodIn wsX1_sweep (wsV RX1 66 RX0 yX0_keyAt wsX0_keyAt) := goodIn_app (goodIn_of _ (by decide +kernel)) ggX1_sweep_X0_keyAt
set_option maxRecDepth 20000 in
theorem ggX1_sweep_X1_hasEvenSum : GoodIn wsX1_sweep wsX1_hasEvenSum := goodIn_r _ [21, 22, 23, 20, 24, 25, 26, 27, 28] (by decide +kernel) (by decide +kernel)
set_option maxRecDepth 20000 in
theorem gX1_sweep_X1_hasEvenSum : GoodIn wsX1_sweep (va_wsS RX1 77 yX1_hasEvenSum wsX1_hasEvenSum) := goodIn_app (goodIn_of _ (by decide +kernel)) ggX1_sweep_X1_hasEvenSum
set_option maxRecDepth 20000 in
theorem ggX1_sweep_X0_move : GoodIn wsX1_sweep wsX0_move := goodIn_r _ [32, 12, 33, 14, 15, 16, 5, 17, 7, 47, 48, 49] (by decide +kernel) (by decide +kernel)
set_option maxRecDepth 20000 in
theorem gX1_sweep_X0_move : GoodIn wsX1_sweep (wsV RX1 81 RX0 yX0_move wsX0_move) := goodIn_app (goodIn_of _ (by decide +kernel)) ggX1_sweep_X0_move
set_option maxRecDepth 20000 in
theorem ggX1_sweep_X0_shorten : GoodIn wsX1_sweep wsX0_shorten := goodIn_r _ [37, 7, 47, 48, 49] (by decide +kernel) (by decide +kernel)
set_option maxRecDepth 20000 in
theorem gX1_sweep_X0_shorten : GoodIn wsX1_sweep (wsV RX1 85 RX0 yX0_shorten wsX0_shorten) := goodIn_app (goodIn_of _ (by decide +kernel)) ggX1_sweep_X0_shorten
theorem dX1_sweep_0 : decode cX1_sweep 0 = .ok (.aload_n 0, 1) := by decide +kernel
theorem dX1_sweep_1 : decode cX1_sweep 1 = .ok (.getfield 14, 3) := by decide +kernel
theorem dX1_sweep_4 : decode cX1_sweep 4 = .ok (.invokevirtual 62, 3) := by decide +kernel
theorem dX1_sweep_7 : decode cX1_sweep 7 = .ok (.istore_n 1, 1) := by decide +kernel
theorem dX1_sweep_8 : decode cX1_sweep 8 = .ok (.iconst 0, 1) := by decide +kernel
theorem dX1_sweep_9 : decode cX1_sweep 9 = .ok (.istore_n 2, 1) := by decide +kernel
theorem dX1_sweep_10 : decode cX1_sweep 10 = .ok (.iconst 0, 1) := by decide +kernel
theorem dX1_sweep_11 : decode cX1_sweep 11 = .ok (.istore_n 3, 1) := by decide +kernel
theorem dX1_sweep_12 : decode cX1_sweep 12 = .ok (.iload_n 3, 1) := by decide +kernel
theorem dX1_sweep_13 : decode cX1_sweep 13 = .ok (.iload_n 1, 1) := by decide +kernel
theorem dX1_sweep_14 : decode cX1_sweep 14 = .ok (.if_icmp .ge 35, 3) := by decide +kernel
theorem dX1_sweep_17 : decode cX1_sweep 17 = .ok (.aload_n 0, 1) := by decide +kernel
theorem dX1_sweep_18 : decode cX1_sweep 18 = .ok (.getfield 14, 3) := by decide +kernel
theorem dX1_sweep_21 : decode cX1_sweep 21 = .ok (.iload_n 3, 1) := by decide +kernel
theorem dX1_sweep_22 : decode cX1_sweep 22 = .ok (.invokevirtual 66, 3) := by decide +kernel
theorem dX1_sweep_25 : decode cX1_sweep 25 = .ok (.invokestatic 77, 3) := by decide +kernel
theorem dX1_sweep_28 : decode cX1_sweep 28 = .ok (.ifCond .ne 15, 3) := by decide +kernel
theorem dX1_sweep_31 : decode cX1_sweep 31 = .ok (.aload_n 0, 1) := by decide +kernel
theorem dX1_sweep_32 : decode cX1_sweep 32 = .ok (.getfield 14, 3) := by decide +kernel
theorem dX1_sweep_35 : decode cX1_sweep 35 = .ok (.iload_n 3, 1) := by decide +kernel
theorem dX1_sweep_36 : decode cX1_sweep 36 = .ok (.iload_n 2, 1) := by decide +kernel
theorem dX1_sweep_37 : decode cX1_sweep 37 = .ok (.invokevirtual 81, 3) := by decide +kernel
theorem dX1_sweep_40 : decode cX1_sweep 40 = .ok (.iinc 2 1, 3) := by decide +kernel
theorem dX1_sweep_43 : decode cX1_sweep 43 = .ok (.iinc 3 1, 3) := by decide +kernel
theorem dX1_sweep_46 : decode cX1_sweep 46 = .ok (.goto (-34), 3) := by decide +kernel
theorem dX1_sweep_49 : decode cX1_sweep 49 = .ok (.aload_n 0, 1) := by decide +kernel
theorem dX1_sweep_50 : decode cX1_sweep 50 = .ok (.getfield 14, 3) := by decide +kernel
theorem dX1_sweep_53 : decode cX1_sweep 53 = .ok (.iload_n 2, 1) := by decide +kernel
theorem dX1_sweep_54 : decode cX1_sweep 54 = .ok (.invokevirtual 85, 3) := by decide +kernel
theorem dX1_sweep_57 : decode cX1_sweep 57 = .ok (.iload_n 1, 1) := by decide +kernel
theorem dX1_sweep_58 : decode cX1_sweep 58 = .ok (.iload_n 2, 1) := by decide +kernel
theorem dX1_sweep_59 : decode cX1_sweep 59 = .ok (.isub, 1) := by decide +kernel
theorem dX1_sweep_60 : decode cX1_sweep 60 = .ok (.ireturn, 1) := by decide +kernel
set_option maxRecDepth 20000 in
theorem ggX1_come_X1_pairKey : GoodIn wsX1_come wsX1_pairKey := goodIn_r _ [6, 7] (by decide +kernel) (by decide +kernel)
set_option maxRecDepth 20000 in
theorem gX1_come_X1_pairKey : GoodIn wsX1_come (va_wsS RX1 43 yX1_pairKey wsX1_pairKey) := goodIn_app (goodIn_of _ (by decide +kernel)) ggX1_come_X1_pairKey
set_option maxRecDepth 20000 in
theorem ggX1_come_X0_findValue : GoodIn wsX1_come wsX0_findValue := goodIn_r _ [12, 13, 14, 50, 51, 52] (by decide +kernel) (by decide +kernel)
set_option maxRecDepth 20000 in
theorem gX1_come_X0_findValue : GoodIn wsX1_come (wsV RX1 88 RX0 yX0_findValue wsX0_findValue) := goodIn_app (goodIn_of _ (by decide +kernel)) ggX1_come_X0_findValue
set_option maxRecDepth 20000 in
theorem ggX1_come_X0_store : GoodIn wsX1_come wsX0_store := goodIn_r _ [18, 19, 14, 20, 21, 22, 11, 23, 13, 24, 25, 26, 27, 28, 29, 30, 31, 32, 33, 34, 35, 36, 37, 38, 39, 40, 50, 51, 52] (by decide +kernel) (by decide +kernel)
set_option maxRecDepth 20000 in
theorem gX1_come_X0_store : GoodIn wsX1_come (wsV RX1 91 RX0 yX0_store wsX0_store) := goodIn_app (goodIn_of _ (by decide +kernel)) ggX1_come_X0_store
theorem dX1_come_0 : decode cX1_come 0 = .ok (.iload_n 1, 1) := by decide +kernel
theorem dX1_come_1 : decode cX1_come 1 = .ok (.iload_n 2, 1) := by decide +kernel
theorem dX1_come_2 : decode cX1_come 2 = .ok (.invokestatic 43, 3) := by decide +kernel
theorem dX1_come_5 : decode cX1_come 5 = .ok (.lstore_n 3, 1) := by decide +kernel
theorem dX1_come_6 : decode cX1_come 6 = .ok (.aload_n 0, 1) := by decide +kernel
theorem dX1_come_7 : decode cX1_come 7 = .ok (.getfield 18, 3) := by decide +kernel
theorem dX1_come_10 : decode cX1_come 10 = .ok (.lload_n 3, 1) := by decide +kernel
theorem dX1_come_11 : decode cX1_come 11 = .ok (.invokevirtual 88, 3) := by decide +kernel
theorem dX1_come_14 : decode cX1_come 14 = .ok (.ifCond .lt 5, 3) := by decide +kernel
theorem dX1_come_17 : decode cX1_come 17 = .ok (.iconst 0, 1) := by decide +kernel
theorem dX1_come_18 : decode cX1_come 18 = .ok (.ireturn, 1) := by decide +kernel
theorem dX1_come_19 : decode cX1_come 19 = .ok (.aload_n 0, 1) := by decide +kernel
theorem dX1_come_20 : decode cX1_come 20 = .ok (.getfield 18, 3) := by decide +kernel
theorem dX1_come_23 : decode cX1_come 23 = .ok (.aload_n 0, 1) := by decide +kernel
theorem dX1_come_24 : decode cX1_come 24 = .ok (.getfield 40, 3) := by decide +kernel
theorem dX1_come_27 : decode cX1_come 27 = .ok (.lload_n 3, 1) := by decide +kernel
theorem dX1_come_28 : decode cX1_come 28 = .ok (.invokevirtual 91, 3) := by decide +kernel
theorem dX1_come_31 : decode cX1_come 31 = .ok (.pop2, 1) := by decide +kernel
theorem dX1_come_32 : decode cX1_come 32 = .ok (.aload_n 0, 1) := by decide +kernel
theorem dX1_come_33 : decode cX1_come 33 = .ok (.dup, 1) := by decide +kernel
theorem dX1_come_34 : decode cX1_come 34 = .ok (.getfield 40, 3) := by decide +kernel
theorem dX1_come_37 : decode cX1_come 37 = .ok (.lconst 1, 1) := by decide +kernel
theorem dX1_come_38 : decode cX1_come 38 = .ok (.ladd, 1) := by decide +kernel
theorem dX1_come_39 : decode cX1_come 39 = .ok (.putfield 40, 3) := by decide +kernel
theorem dX1_come_42 : decode cX1_come 42 = .ok (.iconst 1, 1) := by decide +kernel
theorem dX1_come_43 : decode cX1_come 43 = .ok (.ireturn, 1) := by decide +kernel
set_option maxRecDepth 20000 in
theorem ggX1_leave_X1_pairKey : GoodIn wsX1_leave wsX1_pairKey := goodIn_r _ [5, 6] (by decide +kernel) (by decide +kernel)
set_option maxRecDepth 20000 in
theorem gX1_leave_X1_pairKey : GoodIn wsX1_leave (va_wsS RX1 43 yX1_pairKey wsX1_pairKey) := goodIn_app (goodIn_of _ (by decide +kernel)) ggX1_leave_X1_pairKey
set_option maxRecDepth 20000 in
theorem ggX1_leave_X0_findValue : GoodIn wsX1_leave wsX0_findValue := goodIn_r _ [11, 12, 13, 45, 46, 47] (by decide +kernel) (by decide +kernel)
set_option maxRecDepth 20000 in
theorem gX1_leave_X0_findValue : GoodIn wsX1_leave (wsV RX1 88 RX0 yX0_findValue wsX0_findValue) := goodIn_app (goodIn_of _ (by decide +kernel)) ggX1_leave_X0_findValue
set_option maxRecDepth 20000 in
theorem ggX1_leave_X0_takeAt : GoodIn wsX1_leave wsX0_takeAt := goodIn_r _ [17, 18, 19, 20, 10, 21, 13, 22, 23, 24, 25, 26, 12, 27, 28, 29, 30, 31, 32, 33, 34, 35, 45, 46, 47] (by decide +kernel) (by decide +kernel)
set_option maxRecDepth 20000 in
theorem gX1_leave_X0_takeAt : GoodIn wsX1_leave (wsV RX1 59 RX0 yX0_takeAt wsX0_takeAt) := goodIn_app (goodIn_of _ (by decide +kernel)) ggX1_leave_X0_takeAt
theorem dX1_leave_0 : decode cX1_leave 0 = .ok (.aload_n 0, 1) := by decide +kernel
theorem dX1_leave_1 : decode cX1_leave 1 = .ok (.getfield 18, 3) := by decide +kernel
theorem dX1_leave_4 : decode cX1_leave 4 = .ok (.iload_n 1, 1) := by decide +kernel
theorem dX1_leave_5 : decode cX1_leave 5 = .ok (.iload_n 2, 1) := by decide +kernel
theorem dX1_leave_6 : decode cX1_leave 6 = .ok (.invokestatic 43, 3) := by decide +kernel
theorem dX1_leave_9 : decode cX1_leave 9 = .ok (.invokevirtual 88, 3) := by decide +kernel
theorem dX1_leave_12 : decode cX1_leave 12 = .ok (.istore_n 3, 1) := by decide +kernel
theorem dX1_leave_13 : decode cX1_leave 13 = .ok (.aload_n 0, 1) := by decide +kernel
theorem dX1_leave_14 : decode cX1_leave 14 = .ok (.getfield 18, 3) := by decide +kernel
theorem dX1_leave_17 : decode cX1_leave 17 = .ok (.iload_n 3, 1) := by decide +kernel
theorem dX1_leave_18 : decode cX1_leave 18 = .ok (.invokevirtual 59, 3) := by decide +kernel
theorem dX1_leave_21 : decode cX1_leave 21 = .ok (.pop2, 1) := by decide +kernel
theorem dX1_leave_22 : decode cX1_leave 22 = .ok (.iload_n 3, 1) := by decide +kernel
theorem dX1_leave_23 : decode cX1_leave 23 = .ok (.ifCond .lt 7, 3) := by decide +kernel
theorem dX1_leave_26 : decode cX1_leave 26 = .ok (.iconst 1, 1) := by decide +kernel
theorem dX1_leave_27 : decode cX1_leave 27 = .ok (.goto 4, 3) := by decide +kernel
theorem dX1_leave_30 : decode cX1_leave 30 = .ok (.iconst 0, 1) := by decide +kernel
theorem dX1_leave_31 : decode cX1_leave 31 = .ok (.ireturn, 1) := by decide +kernel
set_option maxRecDepth 20000 in
theorem ggX1_comer_X0_held : GoodIn wsX1_comer wsX0_held := goodIn_r _ [7, 8, 36, 37, 38] (by decide +kernel) (by decide +kernel)
set_option maxRecDepth 20000 in
theorem gX1_comer_X0_held : GoodIn wsX1_comer (wsV RX1 62 RX0 yX0_held wsX0_held) := goodIn_app (goodIn_of _ (by decide +kernel)) ggX1_comer_X0_held
set_option maxRecDepth 20000 in
theorem ggX1_comer_X0_valueAt : GoodIn wsX1_comer wsX0_valueAt := goodIn_r _ [12, 13, 14, 15, 16, 17, 6, 18, 8, 36, 37, 38] (by decide +kernel) (by decide +kernel)
set_option maxRecDepth 20000 in
theorem gX1_comer_X0_valueAt : GoodIn wsX1_comer (wsV RX1 55 RX0 yX0_valueAt wsX0_valueAt) := goodIn_app (goodIn_of _ (by decide +kernel)) ggX1_comer_X0_valueAt
set_option maxRecDepth 20000 in
theorem ggX1_comer_X1_secondOf : GoodIn wsX1_comer wsX1_secondOf := goodIn_r _ [22, 23] (by decide +kernel) (by decide +kernel)
set_option maxRecDepth 20000 in
theorem gX1_comer_X1_secondOf : GoodIn wsX1_comer (va_wsS RX1 74 yX1_secondOf wsX1_secondOf) := goodIn_app (goodIn_of _ (by decide +kernel)) ggX1_comer_X1_secondOf
set_option maxRecDepth 20000 in
theorem ggX1_comer_X1_firstOf : GoodIn wsX1_comer wsX1_firstOf := goodIn_r _ [26] (by decide +kernel) (by decide +kernel)
set_option maxRecDepth 20000 in
theorem gX1_comer_X1_firstOf : GoodIn wsX1_comer (va_wsS RX1 71 yX1_firstOf wsX1_firstOf) := goodIn_app (goodIn_of _ (by decide +kernel)) ggX1_comer_X1_firstOf
theorem dX1_comer_0 : decode cX1_comer 0 = .ok (.iload_n 1, 1) := by decide +kernel
theorem dX1_comer_1 : decode cX1_comer 1 = .ok (.ifCond .lt 14, 3) := by decide +kernel
theorem dX1_comer_4 : decode cX1_comer 4 = .ok (.iload_n 1, 1) := by decide +kernel
theorem dX1_comer_5 : decode cX1_comer 5 = .ok (.aload_n 0, 1) := by decide +kernel
theorem dX1_comer_6 : decode cX1_comer 6 = .ok (.getfield 18, 3) := by decide +kernel
theorem dX1_comer_9 : decode cX1_comer 9 = .ok (.invokevirtual 62, 3) := by decide +kernel
theorem dX1_comer_12 : decode cX1_comer 12 = .ok (.if_icmp .lt 7, 3) := by decide +kernel
theorem dX1_comer_15 : decode cX1_comer 15 = .ok (.ldc2_w 94, 3) := by decide +kernel
theorem dX1_comer_18 : decode cX1_comer 18 = .ok (.lreturn, 1) := by decide +kernel
theorem dX1_comer_19 : decode cX1_comer 19 = .ok (.aload_n 0, 1) := by decide +kernel
theorem dX1_comer_20 : decode cX1_comer 20 = .ok (.getfield 18, 3) := by decide +kernel
theorem dX1_comer_23 : decode cX1_comer 23 = .ok (.iload_n 1, 1) := by decide +kernel
theorem dX1_comer_24 : decode cX1_comer 24 = .ok (.invokevirtual 55, 3) := by decide +kernel
theorem dX1_comer_27 : decode cX1_comer 27 = .ok (.lstore_n 3, 1) := by decide +kernel
theorem dX1_comer_28 : decode cX1_comer 28 = .ok (.iload_n 2, 1) := by decide +kernel
theorem dX1_comer_29 : decode cX1_comer 29 = .ok (.ifCond .eq 11, 3) := by decide +kernel
theorem dX1_comer_32 : decode cX1_comer 32 = .ok (.lload_n 3, 1) := by decide +kernel
theorem dX1_comer_33 : decode cX1_comer 33 = .ok (.invokestatic 74, 3) := by decide +kernel
theorem dX1_comer_36 : decode cX1_comer 36 = .ok (.i2l, 1) := by decide +kernel
theorem dX1_comer_37 : decode cX1_comer 37 = .ok (.goto 8, 3) := by decide +kernel
theorem dX1_comer_40 : decode cX1_comer 40 = .ok (.lload_n 3, 1) := by decide +kernel
theorem dX1_comer_41 : decode cX1_comer 41 = .ok (.invokestatic 71, 3) := by decide +kernel
theorem dX1_comer_44 : decode cX1_comer 44 = .ok (.i2l, 1) := by decide +kernel
theorem dX1_comer_45 : decode cX1_comer 45 = .ok (.lreturn, 1) := by decide +kernel
set_option maxRecDepth 20000 in
theorem ggX1_retain_X0_held : GoodIn wsX1_retain wsX0_held := goodIn_r _ [7, 8, 53, 54, 55] (by decide +kernel) (by decide +kernel)
set_option maxRecDepth 20000 in
theorem gX1_retain_X0_held : GoodIn wsX1_retain (wsV RX1 62 RX0 yX0_held wsX0_held) := goodIn_app (goodIn_of _ (by decide +kernel)) ggX1_retain_X0_held
set_option maxRecDepth 20000 in
theorem ggX1_retain_X0_valueAt : GoodIn wsX1_retain wsX0_valueAt := goodIn_r _ [12, 13, 14, 15, 16, 17, 6, 18, 8, 53, 54, 55] (by decide +kernel) (by decide +kernel)
set_option maxRecDepth 20000 in
theorem gX1_retain_X0_valueAt : GoodIn wsX1_retain (wsV RX1 55 RX0 yX0_valueAt wsX0_valueAt) := goodIn_app (goodIn_of _ (by decide +kernel)) ggX1_retain_X0_valueAt
set_option maxRecDepth 20000 in
theorem ggX1_retain_X0_holds : GoodIn wsX1_retain wsX0_holds := goodIn_r _ [22, 23, 24, 25, 6, 26, 27, 28, 29, 30, 8, 31, 32, 33, 34, 35, 15, 16, 17, 18, 53, 54, 55] (by decide +kernel) (by decide +kernel)
set_option maxRecDepth 20000 in
theorem gX1_retain_X0_holds : GoodIn wsX1_retain (wsV RX1 96 RX0 yX0_holds wsX0_holds) := goodIn_app (goodIn_of _ (by decide +kernel)) ggX1_retain_X0_holds
set_option maxRecDepth 20000 in
theorem ggX1_retain_X0_move : GoodIn wsX1_retain wsX0_move := goodIn_r _ [39, 31, 13, 15, 16, 17, 6, 18, 8, 53, 54, 55] (by decide +kernel) (by decide +kernel)
set_option maxRecDepth 20000 in
theorem gX1_retain_X0_move : GoodIn wsX1_retain (wsV RX1 81 RX0 yX0_move wsX0_move) := goodIn_app (goodIn_of _ (by decide +kernel)) ggX1_retain_X0_move
set_option maxRecDepth 20000 in
theorem ggX1_retain_X0_shorten : GoodIn wsX1_retain wsX0_shorten := goodIn_r _ [43, 8, 53, 54, 55] (by decide +kernel) (by decide +kernel)
set_option maxRecDepth 20000 in
theorem gX1_retain_X0_shorten : GoodIn wsX1_retain (wsV RX1 85 RX0 yX0_shorten wsX0_shorten) := goodIn_app (goodIn_of _ (by decide +kernel)) ggX1_retain_X0_shorten
theorem dX1_retain_0 : decode cX1_retain 0 = .ok (.iconst 0, 1) := by decide +kernel
theorem dX1_retain_1 : decode cX1_retain 1 = .ok (.istore_n 1, 1) := by decide +kernel
theorem dX1_retain_2 : decode cX1_retain 2 = .ok (.iconst 0, 1) := by decide +kernel
theorem dX1_retain_3 : decode cX1_retain 3 = .ok (.istore_n 2, 1) := by decide +kernel
theorem dX1_retain_4 : decode cX1_retain 4 = .ok (.iload_n 2, 1) := by decide +kernel
theorem dX1_retain_5 : decode cX1_retain 5 = .ok (.aload_n 0, 1) := by decide +kernel
theorem dX1_retain_6 : decode cX1_retain 6 = .ok (.getfield 18, 3) := by decide +kernel
theorem dX1_retain_9 : decode cX1_retain 9 = .ok (.invokevirtual 62, 3) := by decide +kernel
theorem dX1_retain_12 : decode cX1_retain 12 = .ok (.if_icmp .ge 39, 3) := by decide +kernel
theorem dX1_retain_15 : decode cX1_retain 15 = .ok (.aload_n 0, 1) := by decide +kernel
theorem dX1_retain_16 : decode cX1_retain 16 = .ok (.getfield 14, 3) := by decide +kernel
theorem dX1_retain_19 : decode cX1_retain 19 = .ok (.aload_n 0, 1) := by decide +kernel
theorem dX1_retain_20 : decode cX1_retain 20 = .ok (.getfield 18, 3) := by decide +kernel
theorem dX1_retain_23 : decode cX1_retain 23 = .ok (.iload_n 2, 1) := by decide +kernel
theorem dX1_retain_24 : decode cX1_retain 24 = .ok (.invokevirtual 55, 3) := by decide +kernel
theorem dX1_retain_27 : decode cX1_retain 27 = .ok (.invokevirtual 96, 3) := by decide +kernel
theorem dX1_retain_30 : decode cX1_retain 30 = .ok (.ifCond .eq 15, 3) := by decide +kernel
theorem dX1_retain_33 : decode cX1_retain 33 = .ok (.aload_n 0, 1) := by decide +kernel
theorem dX1_retain_34 : decode cX1_retain 34 = .ok (.getfield 18, 3) := by decide +kernel
theorem dX1_retain_37 : decode cX1_retain 37 = .ok (.iload_n 2, 1) := by decide +kernel
theorem dX1_retain_38 : decode cX1_retain 38 = .ok (.iload_n 1, 1) := by decide +kernel
theorem dX1_retain_39 : decode cX1_retain 39 = .ok (.invokevirtual 81, 3) := by decide +kernel
theorem dX1_retain_42 : decode cX1_retain 42 = .ok (.iinc 1 1, 3) := by decide +kernel
theorem dX1_retain_45 : decode cX1_retain 45 = .ok (.iinc 2 1, 3) := by decide +kernel
theorem dX1_retain_48 : decode cX1_retain 48 = .ok (.goto (-44), 3) := by decide +kernel
theorem dX1_retain_51 : decode cX1_retain 51 = .ok (.aload_n 0, 1) := by decide +kernel
theorem dX1_retain_52 : decode cX1_retain 52 = .ok (.getfield 18, 3) := by decide +kernel
theorem dX1_retain_55 : decode cX1_retain 55 = .ok (.iload_n 1, 1) := by decide +kernel
theorem dX1_retain_56 : decode cX1_retain 56 = .ok (.invokevirtual 85, 3) := by decide +kernel
theorem dX1_retain_59 : decode cX1_retain 59 = .ok (.iload_n 1, 1) := by decide +kernel
theorem dX1_retain_60 : decode cX1_retain 60 = .ok (.ireturn, 1) := by decide +kernel
set_option maxRecDepth 20000 in
theorem ggX1_rank_X1_pairKey : GoodIn wsX1_rank wsX1_pairKey := goodIn_r _ [5, 6] (by decide +kernel) (by decide +kernel)
set_option maxRecDepth 20000 in
theorem gX1_rank_X1_pairKey : GoodIn wsX1_rank (va_wsS RX1 43 yX1_pairKey wsX1_pairKey) := goodIn_app (goodIn_of _ (by decide +kernel)) ggX1_rank_X1_pairKey
set_option maxRecDepth 20000 in
theorem ggX1_rank_X0_store : GoodIn wsX1_rank wsX0_store := goodIn_r _ [11, 12, 13, 14, 15, 16, 10, 17, 18, 19, 20, 21, 22, 23, 24, 25, 26, 27, 28, 29, 30, 31, 32, 33, 34, 35, 45, 46, 47] (by decide +kernel) (by decide +kernel)
set_option maxRecDepth 20000 in
theorem gX1_rank_X0_store : GoodIn wsX1_rank (wsV RX1 91 RX0 yX0_store wsX0_store) := goodIn_app (goodIn_of _ (by decide +kernel)) ggX1_rank_X0_store
theorem dX1_rank_0 : decode cX1_rank 0 = .ok (.aload_n 0, 1) := by decide +kernel
theorem dX1_rank_1 : decode cX1_rank 1 = .ok (.getfield 21, 3) := by decide +kernel
theorem dX1_rank_4 : decode cX1_rank 4 = .ok (.iload_n 1, 1) := by decide +kernel
theorem dX1_rank_5 : decode cX1_rank 5 = .ok (.iload_n 2, 1) := by decide +kernel
theorem dX1_rank_6 : decode cX1_rank 6 = .ok (.invokestatic 43, 3) := by decide +kernel
theorem dX1_rank_9 : decode cX1_rank 9 = .ok (.iload_n 3, 1) := by decide +kernel
theorem dX1_rank_10 : decode cX1_rank 10 = .ok (.i2l, 1) := by decide +kernel
theorem dX1_rank_11 : decode cX1_rank 11 = .ok (.invokevirtual 91, 3) := by decide +kernel
theorem dX1_rank_14 : decode cX1_rank 14 = .ok (.lreturn, 1) := by decide +kernel
set_option maxRecDepth 20000 in
theorem ggX1_near_X1_pairKey : GoodIn wsX1_near wsX1_pairKey := goodIn_r _ [7, 8] (by decide +kernel) (by decide +kernel)
set_option maxRecDepth 20000 in
theorem gX1_near_X1_pairKey : GoodIn wsX1_near (va_wsS RX1 43 yX1_pairKey wsX1_pairKey) := goodIn_app (goodIn_of _ (by decide +kernel)) ggX1_near_X1_pairKey
set_option maxRecDepth 20000 in
theorem ggX1_near_X0_upTo : GoodIn wsX1_near wsX0_upTo := goodIn_r _ [13, 14, 15, 16, 17, 18, 12, 19, 20, 51, 52, 53] (by decide +kernel) (by decide +kernel)
set_option maxRecDepth 20000 in
theorem gX1_near_X0_upTo : GoodIn wsX1_near (wsV RX1 99 RX0 yX0_upTo wsX0_upTo) := goodIn_app (goodIn_of _ (by decide +kernel)) ggX1_near_X0_upTo
set_option maxRecDepth 20000 in
theorem ggX1_near_X0_below : GoodIn wsX1_near wsX0_below := goodIn_r _ [19, 15, 20, 51, 52, 53] (by decide +kernel) (by decide +kernel)
set_option maxRecDepth 20000 in
theorem gX1_near_X0_below : GoodIn wsX1_near (wsV RX1 102 RX0 yX0_below wsX0_below) := goodIn_app (goodIn_of _ (by decide +kernel)) ggX1_near_X0_below
set_option maxRecDepth 20000 in
theorem ggX1_near_X0_held : GoodIn wsX1_near wsX0_held := goodIn_r _ [25, 15, 51, 52, 53] (by decide +kernel) (by decide +kernel)
set_option maxRecDepth 20000 in
theorem gX1_near_X0_held : GoodIn wsX1_near (wsV RX1 62 RX0 yX0_held wsX0_held) := goodIn_app (goodIn_of _ (by decide +kernel)) ggX1_near_X0_held
set_option maxRecDepth 20000 in
theorem ggX1_near_X0_keyAt : GoodIn wsX1_near wsX0_keyAt := goodIn_r _ [29, 20, 30, 31, 32, 33, 12, 34, 15, 51, 52, 53] (by decide +kernel) (by decide +kernel)
set_option maxRecDepth 20000 in
theorem gX1_near_X0_keyAt : GoodIn wsX1_near (wsV RX1 66 RX0 yX0_keyAt wsX0_keyAt) := goodIn_app (goodIn_of _ (by decide +kernel)) ggX1_near_X0_keyAt
set_option maxRecDepth 20000 in
theorem ggX1_near_X1_firstOf : GoodIn wsX1_near wsX1_firstOf := goodIn_r _ [37] (by decide +kernel) (by decide +kernel)
set_option maxRecDepth 20000 in
theorem gX1_near_X1_firstOf : GoodIn wsX1_near (va_wsS RX1 71 yX1_firstOf wsX1_firstOf) := goodIn_app (goodIn_of _ (by decide +kernel)) ggX1_near_X1_firstOf
set_option maxRecDepth 20000 in
theorem ggX1_near_X1_secondOf : GoodIn wsX1_near wsX1_secondOf := goodIn_r _ [40, 41] (by decide +kernel) (by decide +kernel)
set_option maxRecDepth 20000 in
theorem gX1_near_X1_secondOf : GoodIn wsX1_near (va_wsS RX1 74 yX1_secondOf wsX1_secondOf) := goodIn_app (goodIn_of _ (by decide +kernel)) ggX1_near_X1_secondOf
theorem dX1_near_0 : decode cX1_near 0 = .ok (.iload_n 1, 1) := by decide +kernel
theorem dX1_near_1 : decode cX1_near 1 = .ok (.iload_n 2, 1) := by decide +kernel
theorem dX1_near_2 : decode cX1_near 2 = .ok (.invokestatic 43, 3) := by decide +kernel
theorem dX1_near_5 : decode cX1_near 5 = .ok (.lstore 5, 2) := by decide +kernel
theorem dX1_near_7 : decode cX1_near 7 = .ok (.iload_n 3, 1) := by decide +kernel
theorem dX1_near_8 : decode cX1_near 8 = .ok (.iload 4, 2) := by decide +kernel
theorem dX1_near_10 : decode cX1_near 10 = .ok (.if_icmp .ne 15, 3) := by decide +kernel
theorem dX1_near_13 : decode cX1_near 13 = .ok (.aload_n 0, 1) := by decide +kernel
theorem dX1_near_14 : decode cX1_near 14 = .ok (.getfield 21, 3) := by decide +kernel
theorem dX1_near_17 : decode cX1_near 17 = .ok (.lload 5, 2) := by decide +kernel
theorem dX1_near_19 : decode cX1_near 19 = .ok (.invokevirtual 99, 3) := by decide +kernel
theorem dX1_near_22 : decode cX1_near 22 = .ok (.goto 12, 3) := by decide +kernel
theorem dX1_near_25 : decode cX1_near 25 = .ok (.aload_n 0, 1) := by decide +kernel
theorem dX1_near_26 : decode cX1_near 26 = .ok (.getfield 21, 3) := by decide +kernel
theorem dX1_near_29 : decode cX1_near 29 = .ok (.lload 5, 2) := by decide +kernel
theorem dX1_near_31 : decode cX1_near 31 = .ok (.invokevirtual 102, 3) := by decide +kernel
theorem dX1_near_34 : decode cX1_near 34 = .ok (.istore 7, 2) := by decide +kernel
theorem dX1_near_36 : decode cX1_near 36 = .ok (.iload_n 3, 1) := by decide +kernel
theorem dX1_near_37 : decode cX1_near 37 = .ok (.ifCond .eq 10, 3) := by decide +kernel
theorem dX1_near_40 : decode cX1_near 40 = .ok (.iload 7, 2) := by decide +kernel
theorem dX1_near_42 : decode cX1_near 42 = .ok (.iconst 1, 1) := by decide +kernel
theorem dX1_near_43 : decode cX1_near 43 = .ok (.isub, 1) := by decide +kernel
theorem dX1_near_44 : decode cX1_near 44 = .ok (.goto 5, 3) := by decide +kernel
theorem dX1_near_47 : decode cX1_near 47 = .ok (.iload 7, 2) := by decide +kernel
theorem dX1_near_49 : decode cX1_near 49 = .ok (.istore 8, 2) := by decide +kernel
theorem dX1_near_51 : decode cX1_near 51 = .ok (.iload 8, 2) := by decide +kernel
theorem dX1_near_53 : decode cX1_near 53 = .ok (.ifCond .lt 15, 3) := by decide +kernel
theorem dX1_near_56 : decode cX1_near 56 = .ok (.iload 8, 2) := by decide +kernel
theorem dX1_near_58 : decode cX1_near 58 = .ok (.aload_n 0, 1) := by decide +kernel
theorem dX1_near_59 : decode cX1_near 59 = .ok (.getfield 21, 3) := by decide +kernel
theorem dX1_near_62 : decode cX1_near 62 = .ok (.invokevirtual 62, 3) := by decide +kernel
theorem dX1_near_65 : decode cX1_near 65 = .ok (.if_icmp .lt 7, 3) := by decide +kernel
theorem dX1_near_68 : decode cX1_near 68 = .ok (.ldc2_w 94, 3) := by decide +kernel
theorem dX1_near_71 : decode cX1_near 71 = .ok (.lreturn, 1) := by decide +kernel
theorem dX1_near_72 : decode cX1_near 72 = .ok (.aload_n 0, 1) := by decide +kernel
theorem dX1_near_73 : decode cX1_near 73 = .ok (.getfield 21, 3) := by decide +kernel
theorem dX1_near_76 : decode cX1_near 76 = .ok (.iload 8, 2) := by decide +kernel
theorem dX1_near_78 : decode cX1_near 78 = .ok (.invokevirtual 66, 3) := by decide +kernel
theorem dX1_near_81 : decode cX1_near 81 = .ok (.lstore 9, 2) := by decide +kernel
theorem dX1_near_83 : decode cX1_near 83 = .ok (.lload 9, 2) := by decide +kernel
theorem dX1_near_85 : decode cX1_near 85 = .ok (.invokestatic 71, 3) := by decide +kernel
theorem dX1_near_88 : decode cX1_near 88 = .ok (.i2l, 1) := by decide +kernel
theorem dX1_near_89 : decode cX1_near 89 = .ok (.ldc2_w 105, 3) := by decide +kernel
theorem dX1_near_92 : decode cX1_near 92 = .ok (.lmul, 1) := by decide +kernel
theorem dX1_near_93 : decode cX1_near 93 = .ok (.lload 9, 2) := by decide +kernel
theorem dX1_near_95 : decode cX1_near 95 = .ok (.invokestatic 74, 3) := by decide +kernel
theorem dX1_near_98 : decode cX1_near 98 = .ok (.i2l, 1) := by decide +kernel
theorem dX1_near_99 : decode cX1_near 99 = .ok (.ladd, 1) := by decide +kernel
theorem dX1_near_100 : decode cX1_near 100 = .ok (.lreturn, 1) := by decide +kernel
set_option maxRecDepth 20000 in
theorem ggX1_poll_X0_held : GoodIn wsX1_poll wsX0_held := goodIn_r _ [6, 7, 40, 41, 42] (by decide +kernel) (by decide +kernel)
set_option maxRecDepth 20000 in
theorem gX1_poll_X0_held : GoodIn wsX1_poll (wsV RX1 62 RX0 yX0_held wsX0_held) := goodIn_app (goodIn_of _ (by decide +kernel)) ggX1_poll_X0_held
set_option maxRecDepth 20000 in
theorem ggX1_poll_X0_takeAt : GoodIn wsX1_poll wsX0_takeAt := goodIn_r _ [11, 12, 13, 14, 5, 15, 16, 17, 18, 19, 20, 21, 7, 22, 23, 24, 25, 26, 27, 28, 29, 30, 40, 41, 42] (by decide +kernel) (by decide +kernel)
set_option maxRecDepth 20000 in
theorem gX1_poll_X0_takeAt : GoodIn wsX1_poll (wsV RX1 59 RX0 yX0_takeAt wsX0_takeAt) := goodIn_app (goodIn_of _ (by decide +kernel)) ggX1_poll_X0_takeAt
theorem dX1_poll_0 : decode cX1_poll 0 = .ok (.aload_n 0, 1) := by decide +kernel
theorem dX1_poll_1 : decode cX1_poll 1 = .ok (.getfield 21, 3) := by decide +kernel
theorem dX1_poll_4 : decode cX1_poll 4 = .ok (.iload_n 1, 1) := by decide +kernel
theorem dX1_poll_5 : decode cX1_poll 5 = .ok (.ifCond .eq 15, 3) := by decide +kernel
theorem dX1_poll_8 : decode cX1_poll 8 = .ok (.aload_n 0, 1) := by decide +kernel
theorem dX1_poll_9 : decode cX1_poll 9 = .ok (.getfield 21, 3) := by decide +kernel
theorem dX1_poll_12 : decode cX1_poll 12 = .ok (.invokevirtual 62, 3) := by decide +kernel
theorem dX1_poll_15 : decode cX1_poll 15 = .ok (.iconst 1, 1) := by decide +kernel
theorem dX1_poll_16 : decode cX1_poll 16 = .ok (.isub, 1) := by decide +kernel
theorem dX1_poll_17 : decode cX1_poll 17 = .ok (.goto 4, 3) := by decide +kernel
theorem dX1_poll_20 : decode cX1_poll 20 = .ok (.iconst 0, 1) := by decide +kernel
theorem dX1_poll_21 : decode cX1_poll 21 = .ok (.invokevirtual 59, 3) := by decide +kernel
theorem dX1_poll_24 : decode cX1_poll 24 = .ok (.lreturn, 1) := by decide +kernel
set_option maxRecDepth 20000 in
theorem ggX1_between_X1_pairKey : GoodIn wsX1_between wsX1_pairKey := goodIn_r _ [5, 6] (by decide +kernel) (by decide +kernel)
set_option maxRecDepth 20000 in
theorem gX1_between_X1_pairKey : GoodIn wsX1_between (va_wsS RX1 43 yX1_pairKey wsX1_pairKey) := goodIn_app (goodIn_of _ (by decide +kernel)) ggX1_between_X1_pairKey
set_option maxRecDepth 20000 in
theorem ggX1_between_X0_below : GoodIn wsX1_between wsX0_below := goodIn_r _ [11, 12, 13, 23, 24, 25] (by decide +kernel) (by decide +kernel)
set_option maxRecDepth 20000 in
theorem gX1_between_X0_below : GoodIn wsX1_between (wsV RX1 102 RX0 yX0_below wsX0_below) := goodIn_app (goodIn_of _ (by decide +kernel)) ggX1_between_X0_below
theorem dX1_between_0 : decode cX1_between 0 = .ok (.iload_n 1, 1) := by decide +kernel
theorem dX1_between_1 : decode cX1_between 1 = .ok (.iload_n 2, 1) := by decide +kernel
theorem dX1_between_2 : decode cX1_between 2 = .ok (.invokestatic 43, 3) := by decide +kernel
theorem dX1_between_5 : decode cX1_between 5 = .ok (.lstore 5, 2) := by decide +kernel
theorem dX1_between_7 : decode cX1_between 7 = .ok (.iload_n 3, 1) := by decide +kernel
theorem dX1_between_8 : decode cX1_between 8 = .ok (.iload 4, 2) := by decide +kernel
theorem dX1_between_10 : decode cX1_between 10 = .ok (.invokestatic 43, 3) := by decide +kernel
theorem dX1_between_13 : decode cX1_between 13 = .ok (.lstore 7, 2) := by decide +kernel
theorem dX1_between_15 : decode cX1_between 15 = .ok (.lload 7, 2) := by decide +kernel
theorem dX1_between_17 : decode cX1_between 17 = .ok (.lload 5, 2) := by decide +kernel
theorem dX1_between_19 : decode cX1_between 19 = .ok (.lcmp, 1) := by decide +kernel
theorem dX1_between_20 : decode cX1_between 20 = .ok (.ifCond .ge 5, 3) := by decide +kernel
theorem dX1_between_23 : decode cX1_between 23 = .ok (.iconst (-1), 1) := by decide +kernel
theorem dX1_between_24 : decode cX1_between 24 = .ok (.ireturn, 1) := by decide +kernel
theorem dX1_between_25 : decode cX1_between 25 = .ok (.aload_n 0, 1) := by decide +kernel
theorem dX1_between_26 : decode cX1_between 26 = .ok (.getfield 21, 3) := by decide +kernel
theorem dX1_between_29 : decode cX1_between 29 = .ok (.lload 7, 2) := by decide +kernel
theorem dX1_between_31 : decode cX1_between 31 = .ok (.invokevirtual 102, 3) := by decide +kernel
theorem dX1_between_34 : decode cX1_between 34 = .ok (.aload_n 0, 1) := by decide +kernel
theorem dX1_between_35 : decode cX1_between 35 = .ok (.getfield 21, 3) := by decide +kernel
theorem dX1_between_38 : decode cX1_between 38 = .ok (.lload 5, 2) := by decide +kernel
theorem dX1_between_40 : decode cX1_between 40 = .ok (.invokevirtual 102, 3) := by decide +kernel
theorem dX1_between_43 : decode cX1_between 43 = .ok (.isub, 1) := by decide +kernel
theorem dX1_between_44 : decode cX1_between 44 = .ok (.ireturn, 1) := by decide +kernel
set_option maxRecDepth 20000 in
theorem ggX1_sign_X1_signsOf : GoodIn wsX1_sign wsX1_signsOf := goodIn_r _ [5, 6, 7, 4, 8, 9, 10, 11, 12] (by decide +kernel) (by decide +kernel)
set_option maxRecDepth 20000 in
theorem gX1_sign_X1_signsOf : GoodIn wsX1_sign (va_wsS RX1 107 yX1_signsOf wsX1_signsOf) := goodIn_app (goodIn_of _ (by decide +kernel)) ggX1_sign_X1_signsOf
set_option maxRecDepth 20000 in
theorem ggX1_sign_X1_placeOf : GoodIn wsX1_sign wsX1_placeOf := goodIn_r _ [12] (by decide +kernel) (by decide +kernel)
set_option maxRecDepth 20000 in
theorem gX1_sign_X1_placeOf : GoodIn wsX1_sign (va_wsS RX1 110 yX1_placeOf wsX1_placeOf) := goodIn_app (goodIn_of _ (by decide +kernel)) ggX1_sign_X1_placeOf
theorem dX1_sign_0 : decode cX1_sign 0 = .ok (.iload_n 1, 1) := by decide +kernel
theorem dX1_sign_1 : decode cX1_sign 1 = .ok (.bipush 97, 2) := by decide +kernel
theorem dX1_sign_3 : decode cX1_sign 3 = .ok (.if_icmp .lt 9, 3) := by decide +kernel
theorem dX1_sign_6 : decode cX1_sign 6 = .ok (.iload_n 1, 1) := by decide +kernel
theorem dX1_sign_7 : decode cX1_sign 7 = .ok (.bipush 122, 2) := by decide +kernel
theorem dX1_sign_9 : decode cX1_sign 9 = .ok (.if_icmp .le 5, 3) := by decide +kernel
theorem dX1_sign_12 : decode cX1_sign 12 = .ok (.iconst (-1), 1) := by decide +kernel
theorem dX1_sign_13 : decode cX1_sign 13 = .ok (.ireturn, 1) := by decide +kernel
theorem dX1_sign_14 : decode cX1_sign 14 = .ok (.aload_n 0, 1) := by decide +kernel
theorem dX1_sign_15 : decode cX1_sign 15 = .ok (.getfield 36, 3) := by decide +kernel
theorem dX1_sign_18 : decode cX1_sign 18 = .ok (.invokestatic 107, 3) := by decide +kernel
theorem dX1_sign_21 : decode cX1_sign 21 = .ok (.istore_n 2, 1) := by decide +kernel
theorem dX1_sign_22 : decode cX1_sign 22 = .ok (.iload_n 2, 1) := by decide +kernel
theorem dX1_sign_23 : decode cX1_sign 23 = .ok (.bipush 12, 2) := by decide +kernel
theorem dX1_sign_25 : decode cX1_sign 25 = .ok (.if_icmp .lt 6, 3) := by decide +kernel
theorem dX1_sign_28 : decode cX1_sign 28 = .ok (.bipush (-3), 2) := by decide +kernel
theorem dX1_sign_30 : decode cX1_sign 30 = .ok (.ireturn, 1) := by decide +kernel
theorem dX1_sign_31 : decode cX1_sign 31 = .ok (.aload_n 0, 1) := by decide +kernel
theorem dX1_sign_32 : decode cX1_sign 32 = .ok (.dup, 1) := by decide +kernel
theorem dX1_sign_33 : decode cX1_sign 33 = .ok (.getfield 36, 3) := by decide +kernel
theorem dX1_sign_36 : decode cX1_sign 36 = .ok (.iload_n 1, 1) := by decide +kernel
theorem dX1_sign_37 : decode cX1_sign 37 = .ok (.bipush 96, 2) := by decide +kernel
theorem dX1_sign_39 : decode cX1_sign 39 = .ok (.isub, 1) := by decide +kernel
theorem dX1_sign_40 : decode cX1_sign 40 = .ok (.i2l, 1) := by decide +kernel
theorem dX1_sign_41 : decode cX1_sign 41 = .ok (.iload_n 2, 1) := by decide +kernel
theorem dX1_sign_42 : decode cX1_sign 42 = .ok (.invokestatic 110, 3) := by decide +kernel
theorem dX1_sign_45 : decode cX1_sign 45 = .ok (.lshl, 1) := by decide +kernel
theorem dX1_sign_46 : decode cX1_sign 46 = .ok (.ladd, 1) := by decide +kernel
theorem dX1_sign_47 : decode cX1_sign 47 = .ok (.putfield 36, 3) := by decide +kernel
theorem dX1_sign_50 : decode cX1_sign 50 = .ok (.iload_n 2, 1) := by decide +kernel
theorem dX1_sign_51 : decode cX1_sign 51 = .ok (.iconst 1, 1) := by decide +kernel
theorem dX1_sign_52 : decode cX1_sign 52 = .ok (.iadd, 1) := by decide +kernel
theorem dX1_sign_53 : decode cX1_sign 53 = .ok (.ireturn, 1) := by decide +kernel
set_option maxRecDepth 20000 in
theorem ggX1_erase_X1_takeTape : GoodIn wsX1_erase wsX1_takeTape := goodIn_r _ [5, 6, 17, 18, 19, 20, 21, 22, 23, 24, 25] (by decide +kernel) (by decide +kernel)
set_option maxRecDepth 20000 in
theorem gX1_erase_X1_takeTape : GoodIn wsX1_erase (wsV RX1 114 RX1 yX1_takeTape wsX1_takeTape) := goodIn_app (goodIn_of _ (by decide +kernel)) ggX1_erase_X1_takeTape
set_option maxRecDepth 20000 in
theorem ggX1_erase_X1_signsOf : GoodIn wsX1_erase wsX1_signsOf := goodIn_r _ [9, 10, 11, 4, 12, 13, 14, 15, 16] (by decide +kernel) (by decide +kernel)
set_option maxRecDepth 20000 in
theorem gX1_erase_X1_signsOf : GoodIn wsX1_erase (va_wsS RX1 107 yX1_signsOf wsX1_signsOf) := goodIn_app (goodIn_of _ (by decide +kernel)) ggX1_erase_X1_signsOf
theorem dX1_erase_0 : decode cX1_erase 0 = .ok (.aload_n 0, 1) := by decide +kernel
theorem dX1_erase_1 : decode cX1_erase 1 = .ok (.invokevirtual 114, 3) := by decide +kernel
theorem dX1_erase_4 : decode cX1_erase 4 = .ok (.invokestatic 107, 3) := by decide +kernel
theorem dX1_erase_7 : decode cX1_erase 7 = .ok (.ireturn, 1) := by decide +kernel
set_option maxRecDepth 20000 in
theorem ggX1_line_X1_takeTape : GoodIn wsX1_line wsX1_takeTape := goodIn_r _ [6, 7, 30, 31, 32, 33, 34, 35, 36, 37, 38] (by decide +kernel) (by decide +kernel)
set_option maxRecDepth 20000 in
theorem gX1_line_X1_takeTape : GoodIn wsX1_line (wsV RX1 114 RX1 yX1_takeTape wsX1_takeTape) := goodIn_app (goodIn_of _ (by decide +kernel)) ggX1_line_X1_takeTape
set_option maxRecDepth 20000 in
theorem ggX1_line_X0_upTo : GoodIn wsX1_line wsX0_upTo := goodIn_r _ [12, 13, 14, 15, 16, 17, 11, 18, 19, 39, 40, 41] (by decide +kernel) (by decide +kernel)
set_option maxRecDepth 20000 in
theorem gX1_line_X0_upTo : GoodIn wsX1_line (wsV RX1 99 RX0 yX0_upTo wsX0_upTo) := goodIn_app (goodIn_of _ (by decide +kernel)) ggX1_line_X0_upTo
set_option maxRecDepth 20000 in
theorem ggX1_line_X0_insert : GoodIn wsX1_line wsX0_insert := goodIn_r _ [23, 14, 19, 24, 25, 26, 27, 28, 39, 40, 41] (by decide +kernel) (by decide +kernel)
set_option maxRecDepth 20000 in
theorem gX1_line_X0_insert : GoodIn wsX1_line (wsV RX1 118 RX0 yX0_insert wsX0_insert) := goodIn_app (goodIn_of _ (by decide +kernel)) ggX1_line_X0_insert
set_option maxRecDepth 20000 in
theorem ggX1_line_X0_below : GoodIn wsX1_line wsX0_below := goodIn_r _ [18, 14, 19, 39, 40, 41] (by decide +kernel) (by decide +kernel)
set_option maxRecDepth 20000 in
theorem gX1_line_X0_below : GoodIn wsX1_line (wsV RX1 102 RX0 yX0_below wsX0_below) := goodIn_app (goodIn_of _ (by decide +kernel)) ggX1_line_X0_below
theorem dX1_line_0 : decode cX1_line 0 = .ok (.aload_n 0, 1) := by decide +kernel
theorem dX1_line_1 : decode cX1_line 1 = .ok (.invokevirtual 114, 3) := by decide +kernel
theorem dX1_line_4 : decode cX1_line 4 = .ok (.lstore_n 2, 1) := by decide +kernel
theorem dX1_line_5 : decode cX1_line 5 = .ok (.lload_n 2, 1) := by decide +kernel
theorem dX1_line_6 : decode cX1_line 6 = .ok (.lconst 0, 1) := by decide +kernel
theorem dX1_line_7 : decode cX1_line 7 = .ok (.lcmp, 1) := by decide +kernel
theorem dX1_line_8 : decode cX1_line 8 = .ok (.ifCond .ne 5, 3) := by decide +kernel
theorem dX1_line_11 : decode cX1_line 11 = .ok (.iconst (-1), 1) := by decide +kernel
theorem dX1_line_12 : decode cX1_line 12 = .ok (.ireturn, 1) := by decide +kernel
theorem dX1_line_13 : decode cX1_line 13 = .ok (.aload_n 0, 1) := by decide +kernel
theorem dX1_line_14 : decode cX1_line 14 = .ok (.getfield 24, 3) := by decide +kernel
theorem dX1_line_17 : decode cX1_line 17 = .ok (.aload_n 0, 1) := by decide +kernel
theorem dX1_line_18 : decode cX1_line 18 = .ok (.getfield 24, 3) := by decide +kernel
theorem dX1_line_21 : decode cX1_line 21 = .ok (.lload_n 2, 1) := by decide +kernel
theorem dX1_line_22 : decode cX1_line 22 = .ok (.invokevirtual 99, 3) := by decide +kernel
theorem dX1_line_25 : decode cX1_line 25 = .ok (.lload_n 2, 1) := by decide +kernel
theorem dX1_line_26 : decode cX1_line 26 = .ok (.iload_n 1, 1) := by decide +kernel
theorem dX1_line_27 : decode cX1_line 27 = .ok (.i2l, 1) := by decide +kernel
theorem dX1_line_28 : decode cX1_line 28 = .ok (.invokevirtual 118, 3) := by decide +kernel
theorem dX1_line_31 : decode cX1_line 31 = .ok (.aload_n 0, 1) := by decide +kernel
theorem dX1_line_32 : decode cX1_line 32 = .ok (.getfield 24, 3) := by decide +kernel
theorem dX1_line_35 : decode cX1_line 35 = .ok (.lload_n 2, 1) := by decide +kernel
theorem dX1_line_36 : decode cX1_line 36 = .ok (.invokevirtual 99, 3) := by decide +kernel
theorem dX1_line_39 : decode cX1_line 39 = .ok (.aload_n 0, 1) := by decide +kernel
theorem dX1_line_40 : decode cX1_line 40 = .ok (.getfield 24, 3) := by decide +kernel
theorem dX1_line_43 : decode cX1_line 43 = .ok (.lload_n 2, 1) := by decide +kernel
theorem dX1_line_44 : decode cX1_line 44 = .ok (.invokevirtual 102, 3) := by decide +kernel
theorem dX1_line_47 : decode cX1_line 47 = .ok (.isub, 1) := by decide +kernel
theorem dX1_line_48 : decode cX1_line 48 = .ok (.ireturn, 1) := by decide +kernel
