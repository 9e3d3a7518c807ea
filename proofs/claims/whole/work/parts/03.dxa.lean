theorem dX0_init_0 : decode cX0_init 0 = .ok (.aload_n 0, 1) := by decide +kernel
theorem dX0_init_1 : decode cX0_init 1 = .ok (.invokespecial 5, 3) := by decide +kernel
theorem dX0_init_4 : decode cX0_init 4 = .ok (.aload_n 0, 1) := by decide +kernel
theorem dX0_init_5 : decode cX0_init 5 = .ok (.iconst 0, 1) := by decide +kernel
theorem dX0_init_6 : decode cX0_init 6 = .ok (.putfield 11, 3) := by decide +kernel
theorem dX0_init_9 : decode cX0_init 9 = .ok (.iconst 0, 1) := by decide +kernel
theorem dX0_init_10 : decode cX0_init 10 = .ok (.iload_n 1, 1) := by decide +kernel
theorem dX0_init_11 : decode cX0_init 11 = .ok (.sipush 1023, 3) := by decide +kernel
theorem dX0_init_14 : decode cX0_init 14 = .ok (.invokestatic 15, 3) := by decide +kernel
theorem dX0_init_17 : decode cX0_init 17 = .ok (.invokestatic 21, 3) := by decide +kernel
theorem dX0_init_20 : decode cX0_init 20 = .ok (.istore_n 2, 1) := by decide +kernel
theorem dX0_init_21 : decode cX0_init 21 = .ok (.aload_n 0, 1) := by decide +kernel
theorem dX0_init_22 : decode cX0_init 22 = .ok (.iload_n 2, 1) := by decide +kernel
theorem dX0_init_23 : decode cX0_init 23 = .ok (.newarray .long, 2) := by decide +kernel
theorem dX0_init_25 : decode cX0_init 25 = .ok (.putfield 24, 3) := by decide +kernel
theorem dX0_init_28 : decode cX0_init 28 = .ok (.aload_n 0, 1) := by decide +kernel
theorem dX0_init_29 : decode cX0_init 29 = .ok (.iload_n 2, 1) := by decide +kernel
theorem dX0_init_30 : decode cX0_init 30 = .ok (.newarray .long, 2) := by decide +kernel
theorem dX0_init_32 : decode cX0_init 32 = .ok (.putfield 28, 3) := by decide +kernel
theorem dX0_init_35 : decode cX0_init 35 = .ok (.return_, 1) := by decide +kernel
theorem dX0_held_0 : decode cX0_held 0 = .ok (.aload_n 0, 1) := by decide +kernel
theorem dX0_held_1 : decode cX0_held 1 = .ok (.getfield 11, 3) := by decide +kernel
theorem dX0_held_4 : decode cX0_held 4 = .ok (.ireturn, 1) := by decide +kernel
theorem dX0_below_0 : decode cX0_below 0 = .ok (.iconst 0, 1) := by decide +kernel
theorem dX0_below_1 : decode cX0_below 1 = .ok (.istore_n 3, 1) := by decide +kernel
theorem dX0_below_2 : decode cX0_below 2 = .ok (.sipush 512, 3) := by decide +kernel
theorem dX0_below_5 : decode cX0_below 5 = .ok (.istore 4, 2) := by decide +kernel
theorem dX0_below_7 : decode cX0_below 7 = .ok (.iload 4, 2) := by decide +kernel
theorem dX0_below_9 : decode cX0_below 9 = .ok (.ifCond .le 44, 3) := by decide +kernel
theorem dX0_below_12 : decode cX0_below 12 = .ok (.iload_n 3, 1) := by decide +kernel
theorem dX0_below_13 : decode cX0_below 13 = .ok (.iload 4, 2) := by decide +kernel
theorem dX0_below_15 : decode cX0_below 15 = .ok (.iadd, 1) := by decide +kernel
theorem dX0_below_16 : decode cX0_below 16 = .ok (.aload_n 0, 1) := by decide +kernel
theorem dX0_below_17 : decode cX0_below 17 = .ok (.getfield 11, 3) := by decide +kernel
theorem dX0_below_20 : decode cX0_below 20 = .ok (.if_icmp .gt 24, 3) := by decide +kernel
theorem dX0_below_23 : decode cX0_below 23 = .ok (.aload_n 0, 1) := by decide +kernel
theorem dX0_below_24 : decode cX0_below 24 = .ok (.getfield 24, 3) := by decide +kernel
theorem dX0_below_27 : decode cX0_below 27 = .ok (.iload_n 3, 1) := by decide +kernel
theorem dX0_below_28 : decode cX0_below 28 = .ok (.iload 4, 2) := by decide +kernel
theorem dX0_below_30 : decode cX0_below 30 = .ok (.iadd, 1) := by decide +kernel
theorem dX0_below_31 : decode cX0_below 31 = .ok (.iconst 1, 1) := by decide +kernel
theorem dX0_below_32 : decode cX0_below 32 = .ok (.isub, 1) := by decide +kernel
theorem dX0_below_33 : decode cX0_below 33 = .ok (.laload, 1) := by decide +kernel
theorem dX0_below_34 : decode cX0_below 34 = .ok (.lload_n 1, 1) := by decide +kernel
theorem dX0_below_35 : decode cX0_below 35 = .ok (.lcmp, 1) := by decide +kernel
theorem dX0_below_36 : decode cX0_below 36 = .ok (.ifCond .ge 8, 3) := by decide +kernel
theorem dX0_below_39 : decode cX0_below 39 = .ok (.iload_n 3, 1) := by decide +kernel
theorem dX0_below_40 : decode cX0_below 40 = .ok (.iload 4, 2) := by decide +kernel
theorem dX0_below_42 : decode cX0_below 42 = .ok (.iadd, 1) := by decide +kernel
theorem dX0_below_43 : decode cX0_below 43 = .ok (.istore_n 3, 1) := by decide +kernel
theorem dX0_below_44 : decode cX0_below 44 = .ok (.iload 4, 2) := by decide +kernel
theorem dX0_below_46 : decode cX0_below 46 = .ok (.iconst 1, 1) := by decide +kernel
theorem dX0_below_47 : decode cX0_below 47 = .ok (.ishr, 1) := by decide +kernel
theorem dX0_below_48 : decode cX0_below 48 = .ok (.istore 4, 2) := by decide +kernel
theorem dX0_below_50 : decode cX0_below 50 = .ok (.goto (-43), 3) := by decide +kernel
theorem dX0_below_53 : decode cX0_below 53 = .ok (.iload_n 3, 1) := by decide +kernel
theorem dX0_below_54 : decode cX0_below 54 = .ok (.ireturn, 1) := by decide +kernel
set_option maxRecDepth 20000 in
theorem ggX0_upTo_X0_below : GoodIn wsX0_upTo wsX0_below := goodIn_r _ [7, 2, 8, 9, 10, 11] (by decide +kernel) (by decide +kernel)
set_option maxRecDepth 20000 in
theorem gX0_upTo_X0_below : GoodIn wsX0_upTo (wsV RX0 33 RX0 yX0_below wsX0_below) := goodIn_app (goodIn_of _ (by decide +kernel)) ggX0_upTo_X0_below
theorem dX0_upTo_0 : decode cX0_upTo 0 = .ok (.lload_n 1, 1) := by decide +kernel
theorem dX0_upTo_1 : decode cX0_upTo 1 = .ok (.ldc2_w 31, 3) := by decide +kernel
theorem dX0_upTo_4 : decode cX0_upTo 4 = .ok (.lcmp, 1) := by decide +kernel
theorem dX0_upTo_5 : decode cX0_upTo 5 = .ok (.ifCond .ne 10, 3) := by decide +kernel
theorem dX0_upTo_8 : decode cX0_upTo 8 = .ok (.aload_n 0, 1) := by decide +kernel
theorem dX0_upTo_9 : decode cX0_upTo 9 = .ok (.getfield 11, 3) := by decide +kernel
theorem dX0_upTo_12 : decode cX0_upTo 12 = .ok (.goto 10, 3) := by decide +kernel
theorem dX0_upTo_15 : decode cX0_upTo 15 = .ok (.aload_n 0, 1) := by decide +kernel
theorem dX0_upTo_16 : decode cX0_upTo 16 = .ok (.lload_n 1, 1) := by decide +kernel
theorem dX0_upTo_17 : decode cX0_upTo 17 = .ok (.lconst 1, 1) := by decide +kernel
theorem dX0_upTo_18 : decode cX0_upTo 18 = .ok (.ladd, 1) := by decide +kernel
theorem dX0_upTo_19 : decode cX0_upTo 19 = .ok (.invokevirtual 33, 3) := by decide +kernel
theorem dX0_upTo_22 : decode cX0_upTo 22 = .ok (.ireturn, 1) := by decide +kernel
set_option maxRecDepth 20000 in
theorem ggX0_find_X0_below : GoodIn wsX0_find wsX0_below := goodIn_r _ [5, 6, 7, 16, 17, 18] (by decide +kernel) (by decide +kernel)
set_option maxRecDepth 20000 in
theorem gX0_find_X0_below : GoodIn wsX0_find (wsV RX0 33 RX0 yX0_below wsX0_below) := goodIn_app (goodIn_of _ (by decide +kernel)) ggX0_find_X0_below
set_option maxRecDepth 20000 in
theorem ggX0_find_X0_isKeyAt : GoodIn wsX0_find wsX0_isKeyAt := goodIn_r _ [11, 7, 12, 13, 14, 4, 15, 6, 16, 17, 18] (by decide +kernel) (by decide +kernel)
set_option maxRecDepth 20000 in
theorem gX0_find_X0_isKeyAt : GoodIn wsX0_find (wsV RX0 37 RX0 yX0_isKeyAt wsX0_isKeyAt) := goodIn_app (goodIn_of _ (by decide +kernel)) ggX0_find_X0_isKeyAt
theorem dX0_find_0 : decode cX0_find 0 = .ok (.aload_n 0, 1) := by decide +kernel
theorem dX0_find_1 : decode cX0_find 1 = .ok (.lload_n 1, 1) := by decide +kernel
theorem dX0_find_2 : decode cX0_find 2 = .ok (.invokevirtual 33, 3) := by decide +kernel
theorem dX0_find_5 : decode cX0_find 5 = .ok (.istore_n 3, 1) := by decide +kernel
theorem dX0_find_6 : decode cX0_find 6 = .ok (.aload_n 0, 1) := by decide +kernel
theorem dX0_find_7 : decode cX0_find 7 = .ok (.iload_n 3, 1) := by decide +kernel
theorem dX0_find_8 : decode cX0_find 8 = .ok (.lload_n 1, 1) := by decide +kernel
theorem dX0_find_9 : decode cX0_find 9 = .ok (.invokevirtual 37, 3) := by decide +kernel
theorem dX0_find_12 : decode cX0_find 12 = .ok (.ifCond .eq 7, 3) := by decide +kernel
theorem dX0_find_15 : decode cX0_find 15 = .ok (.iload_n 3, 1) := by decide +kernel
theorem dX0_find_16 : decode cX0_find 16 = .ok (.goto 4, 3) := by decide +kernel
theorem dX0_find_19 : decode cX0_find 19 = .ok (.iconst (-1), 1) := by decide +kernel
theorem dX0_find_20 : decode cX0_find 20 = .ok (.ireturn, 1) := by decide +kernel
set_option maxRecDepth 20000 in
theorem ggX0_holds_X0_find : GoodIn wsX0_holds wsX0_find := goodIn_r _ [5, 6, 7, 8, 4, 9, 10, 11, 12, 13, 14, 15, 16, 17, 18, 19, 20, 21, 22] (by decide +kernel) (by decide +kernel)
set_option maxRecDepth 20000 in
theorem gX0_holds_X0_find : GoodIn wsX0_holds (wsV RX0 41 RX0 yX0_find wsX0_find) := goodIn_app (goodIn_of _ (by decide +kernel)) ggX0_holds_X0_find
theorem dX0_holds_0 : decode cX0_holds 0 = .ok (.aload_n 0, 1) := by decide +kernel
theorem dX0_holds_1 : decode cX0_holds 1 = .ok (.lload_n 1, 1) := by decide +kernel
theorem dX0_holds_2 : decode cX0_holds 2 = .ok (.invokevirtual 41, 3) := by decide +kernel
theorem dX0_holds_5 : decode cX0_holds 5 = .ok (.ifCond .lt 7, 3) := by decide +kernel
theorem dX0_holds_8 : decode cX0_holds 8 = .ok (.iconst 1, 1) := by decide +kernel
theorem dX0_holds_9 : decode cX0_holds 9 = .ok (.goto 4, 3) := by decide +kernel
theorem dX0_holds_12 : decode cX0_holds 12 = .ok (.iconst 0, 1) := by decide +kernel
theorem dX0_holds_13 : decode cX0_holds 13 = .ok (.ireturn, 1) := by decide +kernel
theorem dX0_findValue_0 : decode cX0_findValue 0 = .ok (.iconst 0, 1) := by decide +kernel
theorem dX0_findValue_1 : decode cX0_findValue 1 = .ok (.istore_n 3, 1) := by decide +kernel
theorem dX0_findValue_2 : decode cX0_findValue 2 = .ok (.iload_n 3, 1) := by decide +kernel
theorem dX0_findValue_3 : decode cX0_findValue 3 = .ok (.aload_n 0, 1) := by decide +kernel
theorem dX0_findValue_4 : decode cX0_findValue 4 = .ok (.getfield 11, 3) := by decide +kernel
theorem dX0_findValue_7 : decode cX0_findValue 7 = .ok (.if_icmp .ge 22, 3) := by decide +kernel
theorem dX0_findValue_10 : decode cX0_findValue 10 = .ok (.aload_n 0, 1) := by decide +kernel
theorem dX0_findValue_11 : decode cX0_findValue 11 = .ok (.getfield 28, 3) := by decide +kernel
theorem dX0_findValue_14 : decode cX0_findValue 14 = .ok (.iload_n 3, 1) := by decide +kernel
theorem dX0_findValue_15 : decode cX0_findValue 15 = .ok (.laload, 1) := by decide +kernel
theorem dX0_findValue_16 : decode cX0_findValue 16 = .ok (.lload_n 1, 1) := by decide +kernel
theorem dX0_findValue_17 : decode cX0_findValue 17 = .ok (.lcmp, 1) := by decide +kernel
theorem dX0_findValue_18 : decode cX0_findValue 18 = .ok (.ifCond .ne 5, 3) := by decide +kernel
theorem dX0_findValue_21 : decode cX0_findValue 21 = .ok (.iload_n 3, 1) := by decide +kernel
theorem dX0_findValue_22 : decode cX0_findValue 22 = .ok (.ireturn, 1) := by decide +kernel
theorem dX0_findValue_23 : decode cX0_findValue 23 = .ok (.iinc 3 1, 3) := by decide +kernel
theorem dX0_findValue_26 : decode cX0_findValue 26 = .ok (.goto (-24), 3) := by decide +kernel
theorem dX0_findValue_29 : decode cX0_findValue 29 = .ok (.iconst (-1), 1) := by decide +kernel
theorem dX0_findValue_30 : decode cX0_findValue 30 = .ok (.ireturn, 1) := by decide +kernel
set_option maxRecDepth 20000 in
theorem ggX0_keyAt_X0_isInside : GoodIn wsX0_keyAt wsX0_isInside := goodIn_r _ [7, 8, 9, 10, 11] (by decide +kernel) (by decide +kernel)
set_option maxRecDepth 20000 in
theorem gX0_keyAt_X0_isInside : GoodIn wsX0_keyAt (wsV RX0 44 RX0 yX0_isInside wsX0_isInside) := goodIn_app (goodIn_of _ (by decide +kernel)) ggX0_keyAt_X0_isInside
theorem dX0_keyAt_0 : decode cX0_keyAt 0 = .ok (.aload_n 0, 1) := by decide +kernel
theorem dX0_keyAt_1 : decode cX0_keyAt 1 = .ok (.iload_n 1, 1) := by decide +kernel
theorem dX0_keyAt_2 : decode cX0_keyAt 2 = .ok (.invokevirtual 44, 3) := by decide +kernel
theorem dX0_keyAt_5 : decode cX0_keyAt 5 = .ok (.ifCond .eq 12, 3) := by decide +kernel
theorem dX0_keyAt_8 : decode cX0_keyAt 8 = .ok (.aload_n 0, 1) := by decide +kernel
theorem dX0_keyAt_9 : decode cX0_keyAt 9 = .ok (.getfield 24, 3) := by decide +kernel
theorem dX0_keyAt_12 : decode cX0_keyAt 12 = .ok (.iload_n 1, 1) := by decide +kernel
theorem dX0_keyAt_13 : decode cX0_keyAt 13 = .ok (.laload, 1) := by decide +kernel
theorem dX0_keyAt_14 : decode cX0_keyAt 14 = .ok (.goto 6, 3) := by decide +kernel
theorem dX0_keyAt_17 : decode cX0_keyAt 17 = .ok (.ldc2_w 48, 3) := by decide +kernel
theorem dX0_keyAt_20 : decode cX0_keyAt 20 = .ok (.lreturn, 1) := by decide +kernel
set_option maxRecDepth 20000 in
theorem ggX0_valueAt_X0_isInside : GoodIn wsX0_valueAt wsX0_isInside := goodIn_r _ [7, 8, 9, 10, 11] (by decide +kernel) (by decide +kernel)
set_option maxRecDepth 20000 in
theorem gX0_valueAt_X0_isInside : GoodIn wsX0_valueAt (wsV RX0 44 RX0 yX0_isInside wsX0_isInside) := goodIn_app (goodIn_of _ (by decide +kernel)) ggX0_valueAt_X0_isInside
theorem dX0_valueAt_0 : decode cX0_valueAt 0 = .ok (.aload_n 0, 1) := by decide +kernel
theorem dX0_valueAt_1 : decode cX0_valueAt 1 = .ok (.iload_n 1, 1) := by decide +kernel
theorem dX0_valueAt_2 : decode cX0_valueAt 2 = .ok (.invokevirtual 44, 3) := by decide +kernel
theorem dX0_valueAt_5 : decode cX0_valueAt 5 = .ok (.ifCond .eq 12, 3) := by decide +kernel
theorem dX0_valueAt_8 : decode cX0_valueAt 8 = .ok (.aload_n 0, 1) := by decide +kernel
theorem dX0_valueAt_9 : decode cX0_valueAt 9 = .ok (.getfield 28, 3) := by decide +kernel
theorem dX0_valueAt_12 : decode cX0_valueAt 12 = .ok (.iload_n 1, 1) := by decide +kernel
theorem dX0_valueAt_13 : decode cX0_valueAt 13 = .ok (.laload, 1) := by decide +kernel
theorem dX0_valueAt_14 : decode cX0_valueAt 14 = .ok (.goto 6, 3) := by decide +kernel
theorem dX0_valueAt_17 : decode cX0_valueAt 17 = .ok (.ldc2_w 48, 3) := by decide +kernel
theorem dX0_valueAt_20 : decode cX0_valueAt 20 = .ok (.lreturn, 1) := by decide +kernel
set_option maxRecDepth 20000 in
theorem ggX0_store_X0_below : GoodIn wsX0_store wsX0_below := goodIn_r _ [7, 8, 9, 26, 27, 28] (by decide +kernel) (by decide +kernel)
set_option maxRecDepth 20000 in
theorem gX0_store_X0_below : GoodIn wsX0_store (wsV RX0 33 RX0 yX0_below wsX0_below) := goodIn_app (goodIn_of _ (by decide +kernel)) ggX0_store_X0_below
set_option maxRecDepth 20000 in
theorem ggX0_store_X0_isKeyAt : GoodIn wsX0_store wsX0_isKeyAt := goodIn_r _ [13, 9, 14, 15, 16, 6, 17, 8, 26, 27, 28] (by decide +kernel) (by decide +kernel)
set_option maxRecDepth 20000 in
theorem gX0_store_X0_isKeyAt : GoodIn wsX0_store (wsV RX0 37 RX0 yX0_isKeyAt wsX0_isKeyAt) := goodIn_app (goodIn_of _ (by decide +kernel)) ggX0_store_X0_isKeyAt
set_option maxRecDepth 20000 in
theorem ggX0_store_X0_insert : GoodIn wsX0_store wsX0_insert := goodIn_r _ [21, 8, 9, 22, 23, 24, 25, 2, 26, 27, 28] (by decide +kernel) (by decide +kernel)
set_option maxRecDepth 20000 in
theorem gX0_store_X0_insert : GoodIn wsX0_store (wsV RX0 50 RX0 yX0_insert wsX0_insert) := goodIn_app (goodIn_of _ (by decide +kernel)) ggX0_store_X0_insert
theorem dX0_store_0 : decode cX0_store 0 = .ok (.aload_n 0, 1) := by decide +kernel
theorem dX0_store_1 : decode cX0_store 1 = .ok (.lload_n 1, 1) := by decide +kernel
theorem dX0_store_2 : decode cX0_store 2 = .ok (.invokevirtual 33, 3) := by decide +kernel
theorem dX0_store_5 : decode cX0_store 5 = .ok (.istore 5, 2) := by decide +kernel
theorem dX0_store_7 : decode cX0_store 7 = .ok (.aload_n 0, 1) := by decide +kernel
theorem dX0_store_8 : decode cX0_store 8 = .ok (.iload 5, 2) := by decide +kernel
theorem dX0_store_10 : decode cX0_store 10 = .ok (.lload_n 1, 1) := by decide +kernel
theorem dX0_store_11 : decode cX0_store 11 = .ok (.invokevirtual 37, 3) := by decide +kernel
theorem dX0_store_14 : decode cX0_store 14 = .ok (.ifCond .ne 15, 3) := by decide +kernel
theorem dX0_store_17 : decode cX0_store 17 = .ok (.aload_n 0, 1) := by decide +kernel
theorem dX0_store_18 : decode cX0_store 18 = .ok (.iload 5, 2) := by decide +kernel
theorem dX0_store_20 : decode cX0_store 20 = .ok (.lload_n 1, 1) := by decide +kernel
theorem dX0_store_21 : decode cX0_store 21 = .ok (.lload_n 3, 1) := by decide +kernel
theorem dX0_store_22 : decode cX0_store 22 = .ok (.invokevirtual 50, 3) := by decide +kernel
theorem dX0_store_25 : decode cX0_store 25 = .ok (.ldc2_w 48, 3) := by decide +kernel
theorem dX0_store_28 : decode cX0_store 28 = .ok (.lreturn, 1) := by decide +kernel
theorem dX0_store_29 : decode cX0_store 29 = .ok (.aload_n 0, 1) := by decide +kernel
theorem dX0_store_30 : decode cX0_store 30 = .ok (.getfield 28, 3) := by decide +kernel
theorem dX0_store_33 : decode cX0_store 33 = .ok (.iload 5, 2) := by decide +kernel
theorem dX0_store_35 : decode cX0_store 35 = .ok (.laload, 1) := by decide +kernel
theorem dX0_store_36 : decode cX0_store 36 = .ok (.lstore 6, 2) := by decide +kernel
theorem dX0_store_38 : decode cX0_store 38 = .ok (.aload_n 0, 1) := by decide +kernel
theorem dX0_store_39 : decode cX0_store 39 = .ok (.getfield 28, 3) := by decide +kernel
theorem dX0_store_42 : decode cX0_store 42 = .ok (.iload 5, 2) := by decide +kernel
theorem dX0_store_44 : decode cX0_store 44 = .ok (.lload_n 3, 1) := by decide +kernel
theorem dX0_store_45 : decode cX0_store 45 = .ok (.lastore, 1) := by decide +kernel
theorem dX0_store_46 : decode cX0_store 46 = .ok (.lload 6, 2) := by decide +kernel
theorem dX0_store_48 : decode cX0_store 48 = .ok (.lreturn, 1) := by decide +kernel
set_option maxRecDepth 20000 in
theorem ggX0_raise_X0_below : GoodIn wsX0_raise wsX0_below := goodIn_r _ [6, 7, 8, 25, 26, 27] (by decide +kernel) (by decide +kernel)
set_option maxRecDepth 20000 in
theorem gX0_raise_X0_below : GoodIn wsX0_raise (wsV RX0 33 RX0 yX0_below wsX0_below) := goodIn_app (goodIn_of _ (by decide +kernel)) ggX0_raise_X0_below
set_option maxRecDepth 20000 in
theorem ggX0_raise_X0_isKeyAt : GoodIn wsX0_raise wsX0_isKeyAt := goodIn_r _ [12, 8, 13, 14, 15, 5, 16, 7, 25, 26, 27] (by decide +kernel) (by decide +kernel)
set_option maxRecDepth 20000 in
theorem gX0_raise_X0_isKeyAt : GoodIn wsX0_raise (wsV RX0 37 RX0 yX0_isKeyAt wsX0_isKeyAt) := goodIn_app (goodIn_of _ (by decide +kernel)) ggX0_raise_X0_isKeyAt
set_option maxRecDepth 20000 in
theorem ggX0_raise_X0_insert : GoodIn wsX0_raise wsX0_insert := goodIn_r _ [20, 7, 8, 21, 22, 23, 24, 1, 25, 26, 27] (by decide +kernel) (by decide +kernel)
set_option maxRecDepth 20000 in
theorem gX0_raise_X0_insert : GoodIn wsX0_raise (wsV RX0 50 RX0 yX0_insert wsX0_insert) := goodIn_app (goodIn_of _ (by decide +kernel)) ggX0_raise_X0_insert
theorem dX0_raise_0 : decode cX0_raise 0 = .ok (.aload_n 0, 1) := by decide +kernel
theorem dX0_raise_1 : decode cX0_raise 1 = .ok (.lload_n 1, 1) := by decide +kernel
theorem dX0_raise_2 : decode cX0_raise 2 = .ok (.invokevirtual 33, 3) := by decide +kernel
theorem dX0_raise_5 : decode cX0_raise 5 = .ok (.istore 5, 2) := by decide +kernel
theorem dX0_raise_7 : decode cX0_raise 7 = .ok (.aload_n 0, 1) := by decide +kernel
theorem dX0_raise_8 : decode cX0_raise 8 = .ok (.iload 5, 2) := by decide +kernel
theorem dX0_raise_10 : decode cX0_raise 10 = .ok (.lload_n 1, 1) := by decide +kernel
theorem dX0_raise_11 : decode cX0_raise 11 = .ok (.invokevirtual 37, 3) := by decide +kernel
theorem dX0_raise_14 : decode cX0_raise 14 = .ok (.ifCond .ne 13, 3) := by decide +kernel
theorem dX0_raise_17 : decode cX0_raise 17 = .ok (.aload_n 0, 1) := by decide +kernel
theorem dX0_raise_18 : decode cX0_raise 18 = .ok (.iload 5, 2) := by decide +kernel
theorem dX0_raise_20 : decode cX0_raise 20 = .ok (.lload_n 1, 1) := by decide +kernel
theorem dX0_raise_21 : decode cX0_raise 21 = .ok (.lload_n 3, 1) := by decide +kernel
theorem dX0_raise_22 : decode cX0_raise 22 = .ok (.invokevirtual 50, 3) := by decide +kernel
theorem dX0_raise_25 : decode cX0_raise 25 = .ok (.lload_n 3, 1) := by decide +kernel
theorem dX0_raise_26 : decode cX0_raise 26 = .ok (.lreturn, 1) := by decide +kernel
theorem dX0_raise_27 : decode cX0_raise 27 = .ok (.aload_n 0, 1) := by decide +kernel
theorem dX0_raise_28 : decode cX0_raise 28 = .ok (.getfield 28, 3) := by decide +kernel
theorem dX0_raise_31 : decode cX0_raise 31 = .ok (.iload 5, 2) := by decide +kernel
theorem dX0_raise_33 : decode cX0_raise 33 = .ok (.dup2, 1) := by decide +kernel
theorem dX0_raise_34 : decode cX0_raise 34 = .ok (.laload, 1) := by decide +kernel
theorem dX0_raise_35 : decode cX0_raise 35 = .ok (.lload_n 3, 1) := by decide +kernel
theorem dX0_raise_36 : decode cX0_raise 36 = .ok (.ladd, 1) := by decide +kernel
theorem dX0_raise_37 : decode cX0_raise 37 = .ok (.lastore, 1) := by decide +kernel
theorem dX0_raise_38 : decode cX0_raise 38 = .ok (.aload_n 0, 1) := by decide +kernel
theorem dX0_raise_39 : decode cX0_raise 39 = .ok (.getfield 28, 3) := by decide +kernel
theorem dX0_raise_42 : decode cX0_raise 42 = .ok (.iload 5, 2) := by decide +kernel
theorem dX0_raise_44 : decode cX0_raise 44 = .ok (.laload, 1) := by decide +kernel
theorem dX0_raise_45 : decode cX0_raise 45 = .ok (.lreturn, 1) := by decide +kernel
theorem dX0_insert_0 : decode cX0_insert 0 = .ok (.iload_n 1, 1) := by decide +kernel
theorem dX0_insert_1 : decode cX0_insert 1 = .ok (.ifCond .lt 23, 3) := by decide +kernel
theorem dX0_insert_4 : decode cX0_insert 4 = .ok (.iload_n 1, 1) := by decide +kernel
theorem dX0_insert_5 : decode cX0_insert 5 = .ok (.aload_n 0, 1) := by decide +kernel
theorem dX0_insert_6 : decode cX0_insert 6 = .ok (.getfield 11, 3) := by decide +kernel
theorem dX0_insert_9 : decode cX0_insert 9 = .ok (.if_icmp .gt 15, 3) := by decide +kernel
theorem dX0_insert_12 : decode cX0_insert 12 = .ok (.aload_n 0, 1) := by decide +kernel
theorem dX0_insert_13 : decode cX0_insert 13 = .ok (.getfield 11, 3) := by decide +kernel
theorem dX0_insert_16 : decode cX0_insert 16 = .ok (.aload_n 0, 1) := by decide +kernel
theorem dX0_insert_17 : decode cX0_insert 17 = .ok (.getfield 24, 3) := by decide +kernel
theorem dX0_insert_20 : decode cX0_insert 20 = .ok (.arraylength, 1) := by decide +kernel
theorem dX0_insert_21 : decode cX0_insert 21 = .ok (.if_icmp .lt 4, 3) := by decide +kernel
theorem dX0_insert_24 : decode cX0_insert 24 = .ok (.return_, 1) := by decide +kernel
theorem dX0_insert_25 : decode cX0_insert 25 = .ok (.aload_n 0, 1) := by decide +kernel
theorem dX0_insert_26 : decode cX0_insert 26 = .ok (.getfield 24, 3) := by decide +kernel
theorem dX0_insert_29 : decode cX0_insert 29 = .ok (.iload_n 1, 1) := by decide +kernel
theorem dX0_insert_30 : decode cX0_insert 30 = .ok (.aload_n 0, 1) := by decide +kernel
theorem dX0_insert_31 : decode cX0_insert 31 = .ok (.getfield 24, 3) := by decide +kernel
theorem dX0_insert_34 : decode cX0_insert 34 = .ok (.iload_n 1, 1) := by decide +kernel
theorem dX0_insert_35 : decode cX0_insert 35 = .ok (.iconst 1, 1) := by decide +kernel
theorem dX0_insert_36 : decode cX0_insert 36 = .ok (.iadd, 1) := by decide +kernel
theorem dX0_insert_37 : decode cX0_insert 37 = .ok (.aload_n 0, 1) := by decide +kernel
theorem dX0_insert_38 : decode cX0_insert 38 = .ok (.getfield 11, 3) := by decide +kernel
theorem dX0_insert_41 : decode cX0_insert 41 = .ok (.iload_n 1, 1) := by decide +kernel
theorem dX0_insert_42 : decode cX0_insert 42 = .ok (.isub, 1) := by decide +kernel
theorem dX0_insert_43 : decode cX0_insert 43 = .ok (.invokestatic 54, 3) := by decide +kernel
theorem dX0_insert_46 : decode cX0_insert 46 = .ok (.aload_n 0, 1) := by decide +kernel
theorem dX0_insert_47 : decode cX0_insert 47 = .ok (.getfield 28, 3) := by decide +kernel
theorem dX0_insert_50 : decode cX0_insert 50 = .ok (.iload_n 1, 1) := by decide +kernel
theorem dX0_insert_51 : decode cX0_insert 51 = .ok (.aload_n 0, 1) := by decide +kernel
theorem dX0_insert_52 : decode cX0_insert 52 = .ok (.getfield 28, 3) := by decide +kernel
theorem dX0_insert_55 : decode cX0_insert 55 = .ok (.iload_n 1, 1) := by decide +kernel
theorem dX0_insert_56 : decode cX0_insert 56 = .ok (.iconst 1, 1) := by decide +kernel
theorem dX0_insert_57 : decode cX0_insert 57 = .ok (.iadd, 1) := by decide +kernel
theorem dX0_insert_58 : decode cX0_insert 58 = .ok (.aload_n 0, 1) := by decide +kernel
theorem dX0_insert_59 : decode cX0_insert 59 = .ok (.getfield 11, 3) := by decide +kernel
theorem dX0_insert_62 : decode cX0_insert 62 = .ok (.iload_n 1, 1) := by decide +kernel
theorem dX0_insert_63 : decode cX0_insert 63 = .ok (.isub, 1) := by decide +kernel
theorem dX0_insert_64 : decode cX0_insert 64 = .ok (.invokestatic 54, 3) := by decide +kernel
theorem dX0_insert_67 : decode cX0_insert 67 = .ok (.aload_n 0, 1) := by decide +kernel
theorem dX0_insert_68 : decode cX0_insert 68 = .ok (.getfield 24, 3) := by decide +kernel
theorem dX0_insert_71 : decode cX0_insert 71 = .ok (.iload_n 1, 1) := by decide +kernel
theorem dX0_insert_72 : decode cX0_insert 72 = .ok (.lload_n 2, 1) := by decide +kernel
theorem dX0_insert_73 : decode cX0_insert 73 = .ok (.lastore, 1) := by decide +kernel
theorem dX0_insert_74 : decode cX0_insert 74 = .ok (.aload_n 0, 1) := by decide +kernel
theorem dX0_insert_75 : decode cX0_insert 75 = .ok (.getfield 28, 3) := by decide +kernel
theorem dX0_insert_78 : decode cX0_insert 78 = .ok (.iload_n 1, 1) := by decide +kernel
theorem dX0_insert_79 : decode cX0_insert 79 = .ok (.lload 4, 2) := by decide +kernel
theorem dX0_insert_81 : decode cX0_insert 81 = .ok (.lastore, 1) := by decide +kernel
theorem dX0_insert_82 : decode cX0_insert 82 = .ok (.aload_n 0, 1) := by decide +kernel
theorem dX0_insert_83 : decode cX0_insert 83 = .ok (.dup, 1) := by decide +kernel
theorem dX0_insert_84 : decode cX0_insert 84 = .ok (.getfield 11, 3) := by decide +kernel
theorem dX0_insert_87 : decode cX0_insert 87 = .ok (.iconst 1, 1) := by decide +kernel
theorem dX0_insert_88 : decode cX0_insert 88 = .ok (.iadd, 1) := by decide +kernel
theorem dX0_insert_89 : decode cX0_insert 89 = .ok (.putfield 11, 3) := by decide +kernel
theorem dX0_insert_92 : decode cX0_insert 92 = .ok (.return_, 1) := by decide +kernel
set_option maxRecDepth 20000 in
theorem ggX0_takeAt_X0_valueAt : GoodIn wsX0_takeAt wsX0_valueAt := goodIn_r _ [5, 6, 7, 8, 9, 10, 4, 11, 12, 22, 23, 24] (by decide +kernel) (by decide +kernel)
set_option maxRecDepth 20000 in
theorem gX0_takeAt_X0_valueAt : GoodIn wsX0_takeAt (wsV RX0 60 RX0 yX0_valueAt wsX0_valueAt) := goodIn_app (goodIn_of _ (by decide +kernel)) ggX0_takeAt_X0_valueAt
set_option maxRecDepth 20000 in
theorem ggX0_takeAt_X0_takeOut : GoodIn wsX0_takeAt wsX0_takeOut := goodIn_r _ [16, 12, 17, 18, 19, 20, 21, 6, 22, 23, 24] (by decide +kernel) (by decide +kernel)
set_option maxRecDepth 20000 in
theorem gX0_takeAt_X0_takeOut : GoodIn wsX0_takeAt (wsV RX0 64 RX0 yX0_takeOut wsX0_takeOut) := goodIn_app (goodIn_of _ (by decide +kernel)) ggX0_takeAt_X0_takeOut
theorem dX0_takeAt_0 : decode cX0_takeAt 0 = .ok (.aload_n 0, 1) := by decide +kernel
theorem dX0_takeAt_1 : decode cX0_takeAt 1 = .ok (.iload_n 1, 1) := by decide +kernel
theorem dX0_takeAt_2 : decode cX0_takeAt 2 = .ok (.invokevirtual 60, 3) := by decide +kernel
theorem dX0_takeAt_5 : decode cX0_takeAt 5 = .ok (.lstore_n 2, 1) := by decide +kernel
theorem dX0_takeAt_6 : decode cX0_takeAt 6 = .ok (.aload_n 0, 1) := by decide +kernel
theorem dX0_takeAt_7 : decode cX0_takeAt 7 = .ok (.iload_n 1, 1) := by decide +kernel
theorem dX0_takeAt_8 : decode cX0_takeAt 8 = .ok (.iload_n 1, 1) := by decide +kernel
theorem dX0_takeAt_9 : decode cX0_takeAt 9 = .ok (.iconst 1, 1) := by decide +kernel
theorem dX0_takeAt_10 : decode cX0_takeAt 10 = .ok (.iadd, 1) := by decide +kernel
theorem dX0_takeAt_11 : decode cX0_takeAt 11 = .ok (.invokevirtual 64, 3) := by decide +kernel
theorem dX0_takeAt_14 : decode cX0_takeAt 14 = .ok (.lload_n 2, 1) := by decide +kernel
theorem dX0_takeAt_15 : decode cX0_takeAt 15 = .ok (.lreturn, 1) := by decide +kernel
theorem dX0_takeOut_0 : decode cX0_takeOut 0 = .ok (.iload_n 1, 1) := by decide +kernel
theorem dX0_takeOut_1 : decode cX0_takeOut 1 = .ok (.ifCond .lt 16, 3) := by decide +kernel
theorem dX0_takeOut_4 : decode cX0_takeOut 4 = .ok (.iload_n 2, 1) := by decide +kernel
theorem dX0_takeOut_5 : decode cX0_takeOut 5 = .ok (.iload_n 1, 1) := by decide +kernel
theorem dX0_takeOut_6 : decode cX0_takeOut 6 = .ok (.if_icmp .le 11, 3) := by decide +kernel
theorem dX0_takeOut_9 : decode cX0_takeOut 9 = .ok (.iload_n 2, 1) := by decide +kernel
theorem dX0_takeOut_10 : decode cX0_takeOut 10 = .ok (.aload_n 0, 1) := by decide +kernel
theorem dX0_takeOut_11 : decode cX0_takeOut 11 = .ok (.getfield 11, 3) := by decide +kernel
theorem dX0_takeOut_14 : decode cX0_takeOut 14 = .ok (.if_icmp .le 4, 3) := by decide +kernel
theorem dX0_takeOut_17 : decode cX0_takeOut 17 = .ok (.return_, 1) := by decide +kernel
theorem dX0_takeOut_18 : decode cX0_takeOut 18 = .ok (.aload_n 0, 1) := by decide +kernel
theorem dX0_takeOut_19 : decode cX0_takeOut 19 = .ok (.getfield 24, 3) := by decide +kernel
theorem dX0_takeOut_22 : decode cX0_takeOut 22 = .ok (.iload_n 2, 1) := by decide +kernel
theorem dX0_takeOut_23 : decode cX0_takeOut 23 = .ok (.aload_n 0, 1) := by decide +kernel
theorem dX0_takeOut_24 : decode cX0_takeOut 24 = .ok (.getfield 24, 3) := by decide +kernel
theorem dX0_takeOut_27 : decode cX0_takeOut 27 = .ok (.iload_n 1, 1) := by decide +kernel
theorem dX0_takeOut_28 : decode cX0_takeOut 28 = .ok (.aload_n 0, 1) := by decide +kernel
theorem dX0_takeOut_29 : decode cX0_takeOut 29 = .ok (.getfield 11, 3) := by decide +kernel
theorem dX0_takeOut_32 : decode cX0_takeOut 32 = .ok (.iload_n 2, 1) := by decide +kernel
theorem dX0_takeOut_33 : decode cX0_takeOut 33 = .ok (.isub, 1) := by decide +kernel
theorem dX0_takeOut_34 : decode cX0_takeOut 34 = .ok (.invokestatic 54, 3) := by decide +kernel
theorem dX0_takeOut_37 : decode cX0_takeOut 37 = .ok (.aload_n 0, 1) := by decide +kernel
theorem dX0_takeOut_38 : decode cX0_takeOut 38 = .ok (.getfield 28, 3) := by decide +kernel
theorem dX0_takeOut_41 : decode cX0_takeOut 41 = .ok (.iload_n 2, 1) := by decide +kernel
theorem dX0_takeOut_42 : decode cX0_takeOut 42 = .ok (.aload_n 0, 1) := by decide +kernel
theorem dX0_takeOut_43 : decode cX0_takeOut 43 = .ok (.getfield 28, 3) := by decide +kernel
theorem dX0_takeOut_46 : decode cX0_takeOut 46 = .ok (.iload_n 1, 1) := by decide +kernel
theorem dX0_takeOut_47 : decode cX0_takeOut 47 = .ok (.aload_n 0, 1) := by decide +kernel
theorem dX0_takeOut_48 : decode cX0_takeOut 48 = .ok (.getfield 11, 3) := by decide +kernel
theorem dX0_takeOut_51 : decode cX0_takeOut 51 = .ok (.iload_n 2, 1) := by decide +kernel
theorem dX0_takeOut_52 : decode cX0_takeOut 52 = .ok (.isub, 1) := by decide +kernel
theorem dX0_takeOut_53 : decode cX0_takeOut 53 = .ok (.invokestatic 54, 3) := by decide +kernel
theorem dX0_takeOut_56 : decode cX0_takeOut 56 = .ok (.aload_n 0, 1) := by decide +kernel
theorem dX0_takeOut_57 : decode cX0_takeOut 57 = .ok (.dup, 1) := by decide +kernel
theorem dX0_takeOut_58 : decode cX0_takeOut 58 = .ok (.getfield 11, 3) := by decide +kernel
theorem dX0_takeOut_61 : decode cX0_takeOut 61 = .ok (.iload_n 2, 1) := by decide +kernel
theorem dX0_takeOut_62 : decode cX0_takeOut 62 = .ok (.iload_n 1, 1) := by decide +kernel
theorem dX0_takeOut_63 : decode cX0_takeOut 63 = .ok (.isub, 1) := by decide +kernel
theorem dX0_takeOut_64 : decode cX0_takeOut 64 = .ok (.isub, 1) := by decide +kernel
theorem dX0_takeOut_65 : decode cX0_takeOut 65 = .ok (.putfield 11, 3) := by decide +kernel
theorem dX0_takeOut_68 : decode cX0_takeOut 68 = .ok (.return_, 1) := by decide +kernel
set_option maxRecDepth 20000 in
theorem ggX0_move_X0_isInside : GoodIn wsX0_move wsX0_isInside := goodIn_r _ [7, 8, 9, 10, 11] (by decide +kernel) (by decide +kernel)
set_option maxRecDepth 20000 in
theorem gX0_move_X0_isInside : GoodIn wsX0_move (wsV RX0 44 RX0 yX0_isInside wsX0_isInside) := goodIn_app (goodIn_of _ (by decide +kernel)) ggX0_move_X0_isInside
theorem dX0_move_0 : decode cX0_move 0 = .ok (.aload_n 0, 1) := by decide +kernel
theorem dX0_move_1 : decode cX0_move 1 = .ok (.iload_n 1, 1) := by decide +kernel
theorem dX0_move_2 : decode cX0_move 2 = .ok (.invokevirtual 44, 3) := by decide +kernel
theorem dX0_move_5 : decode cX0_move 5 = .ok (.ifCond .eq 35, 3) := by decide +kernel
theorem dX0_move_8 : decode cX0_move 8 = .ok (.aload_n 0, 1) := by decide +kernel
theorem dX0_move_9 : decode cX0_move 9 = .ok (.iload_n 2, 1) := by decide +kernel
theorem dX0_move_10 : decode cX0_move 10 = .ok (.invokevirtual 44, 3) := by decide +kernel
theorem dX0_move_13 : decode cX0_move 13 = .ok (.ifCond .eq 27, 3) := by decide +kernel
theorem dX0_move_16 : decode cX0_move 16 = .ok (.aload_n 0, 1) := by decide +kernel
theorem dX0_move_17 : decode cX0_move 17 = .ok (.getfield 24, 3) := by decide +kernel
theorem dX0_move_20 : decode cX0_move 20 = .ok (.iload_n 2, 1) := by decide +kernel
theorem dX0_move_21 : decode cX0_move 21 = .ok (.aload_n 0, 1) := by decide +kernel
theorem dX0_move_22 : decode cX0_move 22 = .ok (.getfield 24, 3) := by decide +kernel
theorem dX0_move_25 : decode cX0_move 25 = .ok (.iload_n 1, 1) := by decide +kernel
theorem dX0_move_26 : decode cX0_move 26 = .ok (.laload, 1) := by decide +kernel
theorem dX0_move_27 : decode cX0_move 27 = .ok (.lastore, 1) := by decide +kernel
theorem dX0_move_28 : decode cX0_move 28 = .ok (.aload_n 0, 1) := by decide +kernel
theorem dX0_move_29 : decode cX0_move 29 = .ok (.getfield 28, 3) := by decide +kernel
theorem dX0_move_32 : decode cX0_move 32 = .ok (.iload_n 2, 1) := by decide +kernel
theorem dX0_move_33 : decode cX0_move 33 = .ok (.aload_n 0, 1) := by decide +kernel
theorem dX0_move_34 : decode cX0_move 34 = .ok (.getfield 28, 3) := by decide +kernel
theorem dX0_move_37 : decode cX0_move 37 = .ok (.iload_n 1, 1) := by decide +kernel
theorem dX0_move_38 : decode cX0_move 38 = .ok (.laload, 1) := by decide +kernel
theorem dX0_move_39 : decode cX0_move 39 = .ok (.lastore, 1) := by decide +kernel
theorem dX0_move_40 : decode cX0_move 40 = .ok (.return_, 1) := by decide +kernel
theorem dX0_shorten_0 : decode cX0_shorten 0 = .ok (.iload_n 1, 1) := by decide +kernel
theorem dX0_shorten_1 : decode cX0_shorten 1 = .ok (.ifCond .lt 16, 3) := by decide +kernel
theorem dX0_shorten_4 : decode cX0_shorten 4 = .ok (.iload_n 1, 1) := by decide +kernel
theorem dX0_shorten_5 : decode cX0_shorten 5 = .ok (.aload_n 0, 1) := by decide +kernel
theorem dX0_shorten_6 : decode cX0_shorten 6 = .ok (.getfield 11, 3) := by decide +kernel
theorem dX0_shorten_9 : decode cX0_shorten 9 = .ok (.if_icmp .ge 8, 3) := by decide +kernel
theorem dX0_shorten_12 : decode cX0_shorten 12 = .ok (.aload_n 0, 1) := by decide +kernel
theorem dX0_shorten_13 : decode cX0_shorten 13 = .ok (.iload_n 1, 1) := by decide +kernel
theorem dX0_shorten_14 : decode cX0_shorten 14 = .ok (.putfield 11, 3) := by decide +kernel
theorem dX0_shorten_17 : decode cX0_shorten 17 = .ok (.return_, 1) := by decide +kernel
theorem dX0_groups_0 : decode cX0_groups 0 = .ok (.iconst 0, 1) := by decide +kernel
theorem dX0_groups_1 : decode cX0_groups 1 = .ok (.istore_n 2, 1) := by decide +kernel
theorem dX0_groups_2 : decode cX0_groups 2 = .ok (.iconst 0, 1) := by decide +kernel
theorem dX0_groups_3 : decode cX0_groups 3 = .ok (.istore_n 3, 1) := by decide +kernel
theorem dX0_groups_4 : decode cX0_groups 4 = .ok (.iload_n 3, 1) := by decide +kernel
theorem dX0_groups_5 : decode cX0_groups 5 = .ok (.aload_n 0, 1) := by decide +kernel
theorem dX0_groups_6 : decode cX0_groups 6 = .ok (.getfield 11, 3) := by decide +kernel
theorem dX0_groups_9 : decode cX0_groups 9 = .ok (.if_icmp .ge 38, 3) := by decide +kernel
theorem dX0_groups_12 : decode cX0_groups 12 = .ok (.iload_n 3, 1) := by decide +kernel
theorem dX0_groups_13 : decode cX0_groups 13 = .ok (.ifCond .eq 25, 3) := by decide +kernel
theorem dX0_groups_16 : decode cX0_groups 16 = .ok (.aload_n 0, 1) := by decide +kernel
theorem dX0_groups_17 : decode cX0_groups 17 = .ok (.getfield 24, 3) := by decide +kernel
theorem dX0_groups_20 : decode cX0_groups 20 = .ok (.iload_n 3, 1) := by decide +kernel
theorem dX0_groups_21 : decode cX0_groups 21 = .ok (.laload, 1) := by decide +kernel
theorem dX0_groups_22 : decode cX0_groups 22 = .ok (.iload_n 1, 1) := by decide +kernel
theorem dX0_groups_23 : decode cX0_groups 23 = .ok (.lshr, 1) := by decide +kernel
theorem dX0_groups_24 : decode cX0_groups 24 = .ok (.aload_n 0, 1) := by decide +kernel
theorem dX0_groups_25 : decode cX0_groups 25 = .ok (.getfield 24, 3) := by decide +kernel
theorem dX0_groups_28 : decode cX0_groups 28 = .ok (.iload_n 3, 1) := by decide +kernel
theorem dX0_groups_29 : decode cX0_groups 29 = .ok (.iconst 1, 1) := by decide +kernel
theorem dX0_groups_30 : decode cX0_groups 30 = .ok (.isub, 1) := by decide +kernel
theorem dX0_groups_31 : decode cX0_groups 31 = .ok (.laload, 1) := by decide +kernel
theorem dX0_groups_32 : decode cX0_groups 32 = .ok (.iload_n 1, 1) := by decide +kernel
theorem dX0_groups_33 : decode cX0_groups 33 = .ok (.lshr, 1) := by decide +kernel
theorem dX0_groups_34 : decode cX0_groups 34 = .ok (.lcmp, 1) := by decide +kernel
theorem dX0_groups_35 : decode cX0_groups 35 = .ok (.ifCond .eq 6, 3) := by decide +kernel
theorem dX0_groups_38 : decode cX0_groups 38 = .ok (.iinc 2 1, 3) := by decide +kernel
theorem dX0_groups_41 : decode cX0_groups 41 = .ok (.iinc 3 1, 3) := by decide +kernel
theorem dX0_groups_44 : decode cX0_groups 44 = .ok (.goto (-40), 3) := by decide +kernel
theorem dX0_groups_47 : decode cX0_groups 47 = .ok (.iload_n 2, 1) := by decide +kernel
theorem dX0_groups_48 : decode cX0_groups 48 = .ok (.ireturn, 1) := by decide +kernel
theorem dX0_isInside_0 : decode cX0_isInside 0 = .ok (.iload_n 1, 1) := by decide +kernel
theorem dX0_isInside_1 : decode cX0_isInside 1 = .ok (.ifCond .lt 15, 3) := by decide +kernel
theorem dX0_isInside_4 : decode cX0_isInside 4 = .ok (.iload_n 1, 1) := by decide +kernel
theorem dX0_isInside_5 : decode cX0_isInside 5 = .ok (.aload_n 0, 1) := by decide +kernel
theorem dX0_isInside_6 : decode cX0_isInside 6 = .ok (.getfield 11, 3) := by decide +kernel
theorem dX0_isInside_9 : decode cX0_isInside 9 = .ok (.if_icmp .ge 7, 3) := by decide +kernel
theorem dX0_isInside_12 : decode cX0_isInside 12 = .ok (.iconst 1, 1) := by decide +kernel
theorem dX0_isInside_13 : decode cX0_isInside 13 = .ok (.goto 4, 3) := by decide +kernel
theorem dX0_isInside_16 : decode cX0_isInside 16 = .ok (.iconst 0, 1) := by decide +kernel
theorem dX0_isInside_17 : decode cX0_isInside 17 = .ok (.ireturn, 1) := by decide +kernel
set_option maxRecDepth 20000 in
theorem ggX0_isKeyAt_X0_isInside : GoodIn wsX0_isKeyAt wsX0_isInside := goodIn_r _ [6, 7, 8, 9, 10] (by decide +kernel) (by decide +kernel)
set_option maxRecDepth 20000 in
theorem gX0_isKeyAt_X0_isInside : GoodIn wsX0_isKeyAt (wsV RX0 44 RX0 yX0_isInside wsX0_isInside) := goodIn_app (goodIn_of _ (by decide +kernel)) ggX0_isKeyAt_X0_isInside
theorem dX0_isKeyAt_0 : decode cX0_isKeyAt 0 = .ok (.aload_n 0, 1) := by decide +kernel
theorem dX0_isKeyAt_1 : decode cX0_isKeyAt 1 = .ok (.iload_n 1, 1) := by decide +kernel
theorem dX0_isKeyAt_2 : decode cX0_isKeyAt 2 = .ok (.invokevirtual 44, 3) := by decide +kernel
theorem dX0_isKeyAt_5 : decode cX0_isKeyAt 5 = .ok (.ifCond .eq 18, 3) := by decide +kernel
theorem dX0_isKeyAt_8 : decode cX0_isKeyAt 8 = .ok (.aload_n 0, 1) := by decide +kernel
theorem dX0_isKeyAt_9 : decode cX0_isKeyAt 9 = .ok (.getfield 24, 3) := by decide +kernel
theorem dX0_isKeyAt_12 : decode cX0_isKeyAt 12 = .ok (.iload_n 1, 1) := by decide +kernel
theorem dX0_isKeyAt_13 : decode cX0_isKeyAt 13 = .ok (.laload, 1) := by decide +kernel
theorem dX0_isKeyAt_14 : decode cX0_isKeyAt 14 = .ok (.lload_n 2, 1) := by decide +kernel
theorem dX0_isKeyAt_15 : decode cX0_isKeyAt 15 = .ok (.lcmp, 1) := by decide +kernel
theorem dX0_isKeyAt_16 : decode cX0_isKeyAt 16 = .ok (.ifCond .ne 7, 3) := by decide +kernel
theorem dX0_isKeyAt_19 : decode cX0_isKeyAt 19 = .ok (.iconst 1, 1) := by decide +kernel
theorem dX0_isKeyAt_20 : decode cX0_isKeyAt 20 = .ok (.goto 4, 3) := by decide +kernel
theorem dX0_isKeyAt_23 : decode cX0_isKeyAt 23 = .ok (.iconst 0, 1) := by decide +kernel
theorem dX0_isKeyAt_24 : decode cX0_isKeyAt 24 = .ok (.ireturn, 1) := by decide +kernel
