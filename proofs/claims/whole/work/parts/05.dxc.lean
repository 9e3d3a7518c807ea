set_option maxRecDepth 20000 in
theorem ggX1_read_X1_takeTape : GoodIn wsX1_read wsX1_takeTape := goodIn_r _ [7, 8, 32, 33, 34, 35, 36, 37, 38, 39, 40] (by decide +kernel) (by decide +kernel)
set_option maxRecDepth 20000 in
theorem gX1_read_X1_takeTape : GoodIn wsX1_read (wsV RX1 114 RX1 yX1_takeTape wsX1_takeTape) := goodIn_app (goodIn_of _ (by decide +kernel)) ggX1_read_X1_takeTape
set_option maxRecDepth 20000 in
theorem ggX1_read_X0_below : GoodIn wsX1_read wsX0_below := goodIn_r _ [13, 14, 15, 41, 42, 43] (by decide +kernel) (by decide +kernel)
set_option maxRecDepth 20000 in
theorem gX1_read_X0_below : GoodIn wsX1_read (wsV RX1 102 RX0 yX0_below wsX0_below) := goodIn_app (goodIn_of _ (by decide +kernel)) ggX1_read_X0_below
set_option maxRecDepth 20000 in
theorem ggX1_read_X0_upTo : GoodIn wsX1_read wsX0_upTo := goodIn_r _ [19, 20, 14, 21, 10, 11, 12, 13, 15, 41, 42, 43] (by decide +kernel) (by decide +kernel)
set_option maxRecDepth 20000 in
theorem gX1_read_X0_upTo : GoodIn wsX1_read (wsV RX1 99 RX0 yX0_upTo wsX0_upTo) := goodIn_app (goodIn_of _ (by decide +kernel)) ggX1_read_X0_upTo
set_option maxRecDepth 20000 in
theorem ggX1_read_X0_valueAt : GoodIn wsX1_read wsX0_valueAt := goodIn_r _ [25, 26, 27, 28, 29, 30, 12, 31, 14, 41, 42, 43] (by decide +kernel) (by decide +kernel)
set_option maxRecDepth 20000 in
theorem gX1_read_X0_valueAt : GoodIn wsX1_read (wsV RX1 55 RX0 yX0_valueAt wsX0_valueAt) := goodIn_app (goodIn_of _ (by decide +kernel)) ggX1_read_X0_valueAt
theorem dX1_read_0 : decode cX1_read 0 = .ok (.aload_n 0, 1) := by decide +kernel
theorem dX1_read_1 : decode cX1_read 1 = .ok (.invokevirtual 114, 3) := by decide +kernel
theorem dX1_read_4 : decode cX1_read 4 = .ok (.lstore_n 2, 1) := by decide +kernel
theorem dX1_read_5 : decode cX1_read 5 = .ok (.aload_n 0, 1) := by decide +kernel
theorem dX1_read_6 : decode cX1_read 6 = .ok (.getfield 24, 3) := by decide +kernel
theorem dX1_read_9 : decode cX1_read 9 = .ok (.lload_n 2, 1) := by decide +kernel
theorem dX1_read_10 : decode cX1_read 10 = .ok (.invokevirtual 102, 3) := by decide +kernel
theorem dX1_read_13 : decode cX1_read 13 = .ok (.istore 4, 2) := by decide +kernel
theorem dX1_read_15 : decode cX1_read 15 = .ok (.aload_n 0, 1) := by decide +kernel
theorem dX1_read_16 : decode cX1_read 16 = .ok (.getfield 24, 3) := by decide +kernel
theorem dX1_read_19 : decode cX1_read 19 = .ok (.lload_n 2, 1) := by decide +kernel
theorem dX1_read_20 : decode cX1_read 20 = .ok (.invokevirtual 99, 3) := by decide +kernel
theorem dX1_read_23 : decode cX1_read 23 = .ok (.iload 4, 2) := by decide +kernel
theorem dX1_read_25 : decode cX1_read 25 = .ok (.isub, 1) := by decide +kernel
theorem dX1_read_26 : decode cX1_read 26 = .ok (.istore 5, 2) := by decide +kernel
theorem dX1_read_28 : decode cX1_read 28 = .ok (.iload_n 1, 1) := by decide +kernel
theorem dX1_read_29 : decode cX1_read 29 = .ok (.ifCond .lt 23, 3) := by decide +kernel
theorem dX1_read_32 : decode cX1_read 32 = .ok (.iload_n 1, 1) := by decide +kernel
theorem dX1_read_33 : decode cX1_read 33 = .ok (.iload 5, 2) := by decide +kernel
theorem dX1_read_35 : decode cX1_read 35 = .ok (.if_icmp .ge 17, 3) := by decide +kernel
theorem dX1_read_38 : decode cX1_read 38 = .ok (.aload_n 0, 1) := by decide +kernel
theorem dX1_read_39 : decode cX1_read 39 = .ok (.getfield 24, 3) := by decide +kernel
theorem dX1_read_42 : decode cX1_read 42 = .ok (.iload 4, 2) := by decide +kernel
theorem dX1_read_44 : decode cX1_read 44 = .ok (.iload_n 1, 1) := by decide +kernel
theorem dX1_read_45 : decode cX1_read 45 = .ok (.iadd, 1) := by decide +kernel
theorem dX1_read_46 : decode cX1_read 46 = .ok (.invokevirtual 55, 3) := by decide +kernel
theorem dX1_read_49 : decode cX1_read 49 = .ok (.goto 6, 3) := by decide +kernel
theorem dX1_read_52 : decode cX1_read 52 = .ok (.ldc2_w 94, 3) := by decide +kernel
theorem dX1_read_55 : decode cX1_read 55 = .ok (.lreturn, 1) := by decide +kernel
set_option maxRecDepth 20000 in
theorem ggX1_next_X0_upTo : GoodIn wsX1_next wsX0_upTo := goodIn_r _ [7, 8, 9, 10, 11, 12, 6, 13, 14, 48, 49, 50] (by decide +kernel) (by decide +kernel)
set_option maxRecDepth 20000 in
theorem gX1_next_X0_upTo : GoodIn wsX1_next (wsV RX1 99 RX0 yX0_upTo wsX0_upTo) := goodIn_app (goodIn_of _ (by decide +kernel)) ggX1_next_X0_upTo
set_option maxRecDepth 20000 in
theorem ggX1_next_X0_held : GoodIn wsX1_next wsX0_held := goodIn_r _ [18, 9, 48, 49, 50] (by decide +kernel) (by decide +kernel)
set_option maxRecDepth 20000 in
theorem gX1_next_X0_held : GoodIn wsX1_next (wsV RX1 62 RX0 yX0_held wsX0_held) := goodIn_app (goodIn_of _ (by decide +kernel)) ggX1_next_X0_held
set_option maxRecDepth 20000 in
theorem ggX1_next_X0_keyAt : GoodIn wsX1_next wsX0_keyAt := goodIn_r _ [22, 14, 23, 24, 25, 26, 6, 27, 9, 48, 49, 50] (by decide +kernel) (by decide +kernel)
set_option maxRecDepth 20000 in
theorem gX1_next_X0_keyAt : GoodIn wsX1_next (wsV RX1 66 RX0 yX0_keyAt wsX0_keyAt) := goodIn_app (goodIn_of _ (by decide +kernel)) ggX1_next_X0_keyAt
set_option maxRecDepth 20000 in
theorem ggX1_next_X1_signsOf : GoodIn wsX1_next wsX1_signsOf := goodIn_r _ [31, 32, 33, 30, 34, 35, 36, 37, 38] (by decide +kernel) (by decide +kernel)
set_option maxRecDepth 20000 in
theorem gX1_next_X1_signsOf : GoodIn wsX1_next (va_wsS RX1 107 yX1_signsOf wsX1_signsOf) := goodIn_app (goodIn_of _ (by decide +kernel)) ggX1_next_X1_signsOf
theorem dX1_next_0 : decode cX1_next 0 = .ok (.aload_n 0, 1) := by decide +kernel
theorem dX1_next_1 : decode cX1_next 1 = .ok (.getfield 24, 3) := by decide +kernel
theorem dX1_next_4 : decode cX1_next 4 = .ok (.aload_n 0, 1) := by decide +kernel
theorem dX1_next_5 : decode cX1_next 5 = .ok (.getfield 36, 3) := by decide +kernel
theorem dX1_next_8 : decode cX1_next 8 = .ok (.invokevirtual 99, 3) := by decide +kernel
theorem dX1_next_11 : decode cX1_next 11 = .ok (.istore_n 1, 1) := by decide +kernel
theorem dX1_next_12 : decode cX1_next 12 = .ok (.aload_n 0, 1) := by decide +kernel
theorem dX1_next_13 : decode cX1_next 13 = .ok (.iload_n 1, 1) := by decide +kernel
theorem dX1_next_14 : decode cX1_next 14 = .ok (.aload_n 0, 1) := by decide +kernel
theorem dX1_next_15 : decode cX1_next 15 = .ok (.getfield 24, 3) := by decide +kernel
theorem dX1_next_18 : decode cX1_next 18 = .ok (.invokevirtual 62, 3) := by decide +kernel
theorem dX1_next_21 : decode cX1_next 21 = .ok (.if_icmp .ge 14, 3) := by decide +kernel
theorem dX1_next_24 : decode cX1_next 24 = .ok (.aload_n 0, 1) := by decide +kernel
theorem dX1_next_25 : decode cX1_next 25 = .ok (.getfield 24, 3) := by decide +kernel
theorem dX1_next_28 : decode cX1_next 28 = .ok (.iload_n 1, 1) := by decide +kernel
theorem dX1_next_29 : decode cX1_next 29 = .ok (.invokevirtual 66, 3) := by decide +kernel
theorem dX1_next_32 : decode cX1_next 32 = .ok (.goto 4, 3) := by decide +kernel
theorem dX1_next_35 : decode cX1_next 35 = .ok (.lconst 0, 1) := by decide +kernel
theorem dX1_next_36 : decode cX1_next 36 = .ok (.putfield 36, 3) := by decide +kernel
theorem dX1_next_39 : decode cX1_next 39 = .ok (.aload_n 0, 1) := by decide +kernel
theorem dX1_next_40 : decode cX1_next 40 = .ok (.getfield 36, 3) := by decide +kernel
theorem dX1_next_43 : decode cX1_next 43 = .ok (.invokestatic 107, 3) := by decide +kernel
theorem dX1_next_46 : decode cX1_next 46 = .ok (.ireturn, 1) := by decide +kernel
set_option maxRecDepth 20000 in
theorem ggX1_letter_X1_signsOf : GoodIn wsX1_letter wsX1_signsOf := goodIn_r _ [5, 6, 7, 4, 8, 9, 10, 11, 12] (by decide +kernel) (by decide +kernel)
set_option maxRecDepth 20000 in
theorem gX1_letter_X1_signsOf : GoodIn wsX1_letter (va_wsS RX1 107 yX1_signsOf wsX1_signsOf) := goodIn_app (goodIn_of _ (by decide +kernel)) ggX1_letter_X1_signsOf
set_option maxRecDepth 20000 in
theorem ggX1_letter_X1_signAt : GoodIn wsX1_letter wsX1_signAt := goodIn_r _ [8, 9, 10, 11, 4, 12] (by decide +kernel) (by decide +kernel)
set_option maxRecDepth 20000 in
theorem gX1_letter_X1_signAt : GoodIn wsX1_letter (va_wsS RX1 122 yX1_signAt wsX1_signAt) := goodIn_app (goodIn_of _ (by decide +kernel)) ggX1_letter_X1_signAt
theorem dX1_letter_0 : decode cX1_letter 0 = .ok (.iload_n 1, 1) := by decide +kernel
theorem dX1_letter_1 : decode cX1_letter 1 = .ok (.ifCond .lt 14, 3) := by decide +kernel
theorem dX1_letter_4 : decode cX1_letter 4 = .ok (.iload_n 1, 1) := by decide +kernel
theorem dX1_letter_5 : decode cX1_letter 5 = .ok (.aload_n 0, 1) := by decide +kernel
theorem dX1_letter_6 : decode cX1_letter 6 = .ok (.getfield 36, 3) := by decide +kernel
theorem dX1_letter_9 : decode cX1_letter 9 = .ok (.invokestatic 107, 3) := by decide +kernel
theorem dX1_letter_12 : decode cX1_letter 12 = .ok (.if_icmp .lt 5, 3) := by decide +kernel
theorem dX1_letter_15 : decode cX1_letter 15 = .ok (.iconst (-1), 1) := by decide +kernel
theorem dX1_letter_16 : decode cX1_letter 16 = .ok (.ireturn, 1) := by decide +kernel
theorem dX1_letter_17 : decode cX1_letter 17 = .ok (.bipush 96, 2) := by decide +kernel
theorem dX1_letter_19 : decode cX1_letter 19 = .ok (.aload_n 0, 1) := by decide +kernel
theorem dX1_letter_20 : decode cX1_letter 20 = .ok (.getfield 36, 3) := by decide +kernel
theorem dX1_letter_23 : decode cX1_letter 23 = .ok (.iload_n 1, 1) := by decide +kernel
theorem dX1_letter_24 : decode cX1_letter 24 = .ok (.invokestatic 122, 3) := by decide +kernel
theorem dX1_letter_27 : decode cX1_letter 27 = .ok (.iadd, 1) := by decide +kernel
theorem dX1_letter_28 : decode cX1_letter 28 = .ok (.ireturn, 1) := by decide +kernel
set_option maxRecDepth 20000 in
theorem ggX1_forget_X1_takeTape : GoodIn wsX1_forget wsX1_takeTape := goodIn_r _ [6, 7, 30, 31, 32, 33, 34, 35, 36, 37, 38] (by decide +kernel) (by decide +kernel)
set_option maxRecDepth 20000 in
theorem gX1_forget_X1_takeTape : GoodIn wsX1_forget (wsV RX1 114 RX1 yX1_takeTape wsX1_takeTape) := goodIn_app (goodIn_of _ (by decide +kernel)) ggX1_forget_X1_takeTape
set_option maxRecDepth 20000 in
theorem ggX1_forget_X0_below : GoodIn wsX1_forget wsX0_below := goodIn_r _ [12, 13, 14, 39, 40, 41] (by decide +kernel) (by decide +kernel)
set_option maxRecDepth 20000 in
theorem gX1_forget_X0_below : GoodIn wsX1_forget (wsV RX1 102 RX0 yX0_below wsX0_below) := goodIn_app (goodIn_of _ (by decide +kernel)) ggX1_forget_X0_below
set_option maxRecDepth 20000 in
theorem ggX1_forget_X0_upTo : GoodIn wsX1_forget wsX0_upTo := goodIn_r _ [18, 19, 13, 20, 9, 10, 11, 12, 14, 39, 40, 41] (by decide +kernel) (by decide +kernel)
set_option maxRecDepth 20000 in
theorem gX1_forget_X0_upTo : GoodIn wsX1_forget (wsV RX1 99 RX0 yX0_upTo wsX0_upTo) := goodIn_app (goodIn_of _ (by decide +kernel)) ggX1_forget_X0_upTo
set_option maxRecDepth 20000 in
theorem ggX1_forget_X0_takeOut : GoodIn wsX1_forget wsX0_takeOut := goodIn_r _ [24, 13, 14, 25, 26, 27, 28, 29, 39, 40, 41] (by decide +kernel) (by decide +kernel)
set_option maxRecDepth 20000 in
theorem gX1_forget_X0_takeOut : GoodIn wsX1_forget (wsV RX1 126 RX0 yX0_takeOut wsX0_takeOut) := goodIn_app (goodIn_of _ (by decide +kernel)) ggX1_forget_X0_takeOut
theorem dX1_forget_0 : decode cX1_forget 0 = .ok (.aload_n 0, 1) := by decide +kernel
theorem dX1_forget_1 : decode cX1_forget 1 = .ok (.invokevirtual 114, 3) := by decide +kernel
theorem dX1_forget_4 : decode cX1_forget 4 = .ok (.lstore_n 1, 1) := by decide +kernel
theorem dX1_forget_5 : decode cX1_forget 5 = .ok (.aload_n 0, 1) := by decide +kernel
theorem dX1_forget_6 : decode cX1_forget 6 = .ok (.getfield 24, 3) := by decide +kernel
theorem dX1_forget_9 : decode cX1_forget 9 = .ok (.lload_n 1, 1) := by decide +kernel
theorem dX1_forget_10 : decode cX1_forget 10 = .ok (.invokevirtual 102, 3) := by decide +kernel
theorem dX1_forget_13 : decode cX1_forget 13 = .ok (.istore_n 3, 1) := by decide +kernel
theorem dX1_forget_14 : decode cX1_forget 14 = .ok (.aload_n 0, 1) := by decide +kernel
theorem dX1_forget_15 : decode cX1_forget 15 = .ok (.getfield 24, 3) := by decide +kernel
theorem dX1_forget_18 : decode cX1_forget 18 = .ok (.lload_n 1, 1) := by decide +kernel
theorem dX1_forget_19 : decode cX1_forget 19 = .ok (.invokevirtual 99, 3) := by decide +kernel
theorem dX1_forget_22 : decode cX1_forget 22 = .ok (.istore 4, 2) := by decide +kernel
theorem dX1_forget_24 : decode cX1_forget 24 = .ok (.iload_n 3, 1) := by decide +kernel
theorem dX1_forget_25 : decode cX1_forget 25 = .ok (.iload 4, 2) := by decide +kernel
theorem dX1_forget_27 : decode cX1_forget 27 = .ok (.if_icmp .lt 5, 3) := by decide +kernel
theorem dX1_forget_30 : decode cX1_forget 30 = .ok (.iconst (-1), 1) := by decide +kernel
theorem dX1_forget_31 : decode cX1_forget 31 = .ok (.ireturn, 1) := by decide +kernel
theorem dX1_forget_32 : decode cX1_forget 32 = .ok (.aload_n 0, 1) := by decide +kernel
theorem dX1_forget_33 : decode cX1_forget 33 = .ok (.getfield 24, 3) := by decide +kernel
theorem dX1_forget_36 : decode cX1_forget 36 = .ok (.iload_n 3, 1) := by decide +kernel
theorem dX1_forget_37 : decode cX1_forget 37 = .ok (.iload 4, 2) := by decide +kernel
theorem dX1_forget_39 : decode cX1_forget 39 = .ok (.invokevirtual 126, 3) := by decide +kernel
theorem dX1_forget_42 : decode cX1_forget 42 = .ok (.iload 4, 2) := by decide +kernel
theorem dX1_forget_44 : decode cX1_forget 44 = .ok (.iload_n 3, 1) := by decide +kernel
theorem dX1_forget_45 : decode cX1_forget 45 = .ok (.isub, 1) := by decide +kernel
theorem dX1_forget_46 : decode cX1_forget 46 = .ok (.ireturn, 1) := by decide +kernel
set_option maxRecDepth 20000 in
theorem ggX1_mark_X1_pairKey : GoodIn wsX1_mark wsX1_pairKey := goodIn_r _ [5, 6] (by decide +kernel) (by decide +kernel)
set_option maxRecDepth 20000 in
theorem gX1_mark_X1_pairKey : GoodIn wsX1_mark (va_wsS RX1 43 yX1_pairKey wsX1_pairKey) := goodIn_app (goodIn_of _ (by decide +kernel)) ggX1_mark_X1_pairKey
set_option maxRecDepth 20000 in
theorem ggX1_mark_X0_find : GoodIn wsX1_mark wsX0_find := goodIn_r _ [11, 12, 13, 14, 10, 15, 16, 17, 18, 19, 20, 21, 22, 23, 24, 25, 65, 66, 67] (by decide +kernel) (by decide +kernel)
set_option maxRecDepth 20000 in
theorem gX1_mark_X0_find : GoodIn wsX1_mark (wsV RX1 51 RX0 yX0_find wsX0_find) := goodIn_app (goodIn_of _ (by decide +kernel)) ggX1_mark_X0_find
set_option maxRecDepth 20000 in
theorem ggX1_mark_X0_store : GoodIn wsX1_mark wsX0_store := goodIn_r _ [29, 30, 31, 12, 13, 14, 10, 15, 16, 17, 18, 19, 20, 21, 22, 23, 24, 25, 32, 33, 34, 35, 36, 37, 38, 39, 65, 66, 67] (by decide +kernel) (by decide +kernel)
set_option maxRecDepth 20000 in
theorem gX1_mark_X0_store : GoodIn wsX1_mark (wsV RX1 91 RX0 yX0_store wsX0_store) := goodIn_app (goodIn_of _ (by decide +kernel)) ggX1_mark_X0_store
set_option maxRecDepth 20000 in
theorem ggX1_mark_X0_takeAt : GoodIn wsX1_mark wsX0_takeAt := goodIn_r _ [43, 44, 45, 46, 10, 47, 31, 30, 22, 23, 24, 25, 16, 48, 49, 50, 51, 17, 36, 37, 38, 39, 65, 66, 67] (by decide +kernel) (by decide +kernel)
set_option maxRecDepth 20000 in
theorem gX1_mark_X0_takeAt : GoodIn wsX1_mark (wsV RX1 59 RX0 yX0_takeAt wsX0_takeAt) := goodIn_app (goodIn_of _ (by decide +kernel)) ggX1_mark_X0_takeAt
set_option maxRecDepth 20000 in
theorem ggX1_mark_X0_held : GoodIn wsX1_mark wsX0_held := goodIn_r _ [55, 16, 65, 66, 67] (by decide +kernel) (by decide +kernel)
set_option maxRecDepth 20000 in
theorem gX1_mark_X0_held : GoodIn wsX1_mark (wsV RX1 62 RX0 yX0_held wsX0_held) := goodIn_app (goodIn_of _ (by decide +kernel)) ggX1_mark_X0_held
theorem dX1_mark_0 : decode cX1_mark 0 = .ok (.iload_n 1, 1) := by decide +kernel
theorem dX1_mark_1 : decode cX1_mark 1 = .ok (.iload_n 2, 1) := by decide +kernel
theorem dX1_mark_2 : decode cX1_mark 2 = .ok (.invokestatic 43, 3) := by decide +kernel
theorem dX1_mark_5 : decode cX1_mark 5 = .ok (.lstore_n 3, 1) := by decide +kernel
theorem dX1_mark_6 : decode cX1_mark 6 = .ok (.aload_n 0, 1) := by decide +kernel
theorem dX1_mark_7 : decode cX1_mark 7 = .ok (.getfield 30, 3) := by decide +kernel
theorem dX1_mark_10 : decode cX1_mark 10 = .ok (.lload_n 3, 1) := by decide +kernel
theorem dX1_mark_11 : decode cX1_mark 11 = .ok (.invokevirtual 51, 3) := by decide +kernel
theorem dX1_mark_14 : decode cX1_mark 14 = .ok (.istore 5, 2) := by decide +kernel
theorem dX1_mark_16 : decode cX1_mark 16 = .ok (.iload 5, 2) := by decide +kernel
theorem dX1_mark_18 : decode cX1_mark 18 = .ok (.ifCond .ge 16, 3) := by decide +kernel
theorem dX1_mark_21 : decode cX1_mark 21 = .ok (.aload_n 0, 1) := by decide +kernel
theorem dX1_mark_22 : decode cX1_mark 22 = .ok (.getfield 30, 3) := by decide +kernel
theorem dX1_mark_25 : decode cX1_mark 25 = .ok (.lload_n 3, 1) := by decide +kernel
theorem dX1_mark_26 : decode cX1_mark 26 = .ok (.lconst 0, 1) := by decide +kernel
theorem dX1_mark_27 : decode cX1_mark 27 = .ok (.invokevirtual 91, 3) := by decide +kernel
theorem dX1_mark_30 : decode cX1_mark 30 = .ok (.pop2, 1) := by decide +kernel
theorem dX1_mark_31 : decode cX1_mark 31 = .ok (.goto 13, 3) := by decide +kernel
theorem dX1_mark_34 : decode cX1_mark 34 = .ok (.aload_n 0, 1) := by decide +kernel
theorem dX1_mark_35 : decode cX1_mark 35 = .ok (.getfield 30, 3) := by decide +kernel
theorem dX1_mark_38 : decode cX1_mark 38 = .ok (.iload 5, 2) := by decide +kernel
theorem dX1_mark_40 : decode cX1_mark 40 = .ok (.invokevirtual 59, 3) := by decide +kernel
theorem dX1_mark_43 : decode cX1_mark 43 = .ok (.pop2, 1) := by decide +kernel
theorem dX1_mark_44 : decode cX1_mark 44 = .ok (.aload_n 0, 1) := by decide +kernel
theorem dX1_mark_45 : decode cX1_mark 45 = .ok (.getfield 30, 3) := by decide +kernel
theorem dX1_mark_48 : decode cX1_mark 48 = .ok (.invokevirtual 62, 3) := by decide +kernel
theorem dX1_mark_51 : decode cX1_mark 51 = .ok (.ireturn, 1) := by decide +kernel
set_option maxRecDepth 20000 in
theorem ggX1_around_X1_pairKey : GoodIn wsX1_around wsX1_pairKey := goodIn_r _ [5, 6] (by decide +kernel) (by decide +kernel)
set_option maxRecDepth 20000 in
theorem gX1_around_X1_pairKey : GoodIn wsX1_around (va_wsS RX1 43 yX1_pairKey wsX1_pairKey) := goodIn_app (goodIn_of _ (by decide +kernel)) ggX1_around_X1_pairKey
set_option maxRecDepth 20000 in
theorem ggX1_around_X0_holds : GoodIn wsX1_around wsX0_holds := goodIn_r _ [11, 12, 13, 14, 10, 15, 16, 17, 18, 19, 20, 21, 22, 23, 24, 25, 26, 27, 28, 29, 39, 40, 41] (by decide +kernel) (by decide +kernel)
set_option maxRecDepth 20000 in
theorem gX1_around_X0_holds : GoodIn wsX1_around (wsV RX1 96 RX0 yX0_holds wsX0_holds) := goodIn_app (goodIn_of _ (by decide +kernel)) ggX1_around_X0_holds
theorem dX1_around_0 : decode cX1_around 0 = .ok (.iconst 0, 1) := by decide +kernel
theorem dX1_around_1 : decode cX1_around 1 = .ok (.istore_n 3, 1) := by decide +kernel
theorem dX1_around_2 : decode cX1_around 2 = .ok (.iconst (-1), 1) := by decide +kernel
theorem dX1_around_3 : decode cX1_around 3 = .ok (.istore 4, 2) := by decide +kernel
theorem dX1_around_5 : decode cX1_around 5 = .ok (.iload 4, 2) := by decide +kernel
theorem dX1_around_7 : decode cX1_around 7 = .ok (.iconst 1, 1) := by decide +kernel
theorem dX1_around_8 : decode cX1_around 8 = .ok (.if_icmp .gt 58, 3) := by decide +kernel
theorem dX1_around_11 : decode cX1_around 11 = .ok (.iconst (-1), 1) := by decide +kernel
theorem dX1_around_12 : decode cX1_around 12 = .ok (.istore 5, 2) := by decide +kernel
theorem dX1_around_14 : decode cX1_around 14 = .ok (.iload 5, 2) := by decide +kernel
theorem dX1_around_16 : decode cX1_around 16 = .ok (.iconst 1, 1) := by decide +kernel
theorem dX1_around_17 : decode cX1_around 17 = .ok (.if_icmp .gt 43, 3) := by decide +kernel
theorem dX1_around_20 : decode cX1_around 20 = .ok (.iload 4, 2) := by decide +kernel
theorem dX1_around_22 : decode cX1_around 22 = .ok (.ifCond .ne 8, 3) := by decide +kernel
theorem dX1_around_25 : decode cX1_around 25 = .ok (.iload 5, 2) := by decide +kernel
theorem dX1_around_27 : decode cX1_around 27 = .ok (.ifCond .eq 27, 3) := by decide +kernel
theorem dX1_around_30 : decode cX1_around 30 = .ok (.aload_n 0, 1) := by decide +kernel
theorem dX1_around_31 : decode cX1_around 31 = .ok (.getfield 30, 3) := by decide +kernel
theorem dX1_around_34 : decode cX1_around 34 = .ok (.iload_n 1, 1) := by decide +kernel
theorem dX1_around_35 : decode cX1_around 35 = .ok (.iload 4, 2) := by decide +kernel
theorem dX1_around_37 : decode cX1_around 37 = .ok (.iadd, 1) := by decide +kernel
theorem dX1_around_38 : decode cX1_around 38 = .ok (.iload_n 2, 1) := by decide +kernel
theorem dX1_around_39 : decode cX1_around 39 = .ok (.iload 5, 2) := by decide +kernel
theorem dX1_around_41 : decode cX1_around 41 = .ok (.iadd, 1) := by decide +kernel
theorem dX1_around_42 : decode cX1_around 42 = .ok (.invokestatic 43, 3) := by decide +kernel
theorem dX1_around_45 : decode cX1_around 45 = .ok (.invokevirtual 96, 3) := by decide +kernel
theorem dX1_around_48 : decode cX1_around 48 = .ok (.ifCond .eq 6, 3) := by decide +kernel
theorem dX1_around_51 : decode cX1_around 51 = .ok (.iinc 3 1, 3) := by decide +kernel
theorem dX1_around_54 : decode cX1_around 54 = .ok (.iinc 5 1, 3) := by decide +kernel
theorem dX1_around_57 : decode cX1_around 57 = .ok (.goto (-43), 3) := by decide +kernel
theorem dX1_around_60 : decode cX1_around 60 = .ok (.iinc 4 1, 3) := by decide +kernel
theorem dX1_around_63 : decode cX1_around 63 = .ok (.goto (-58), 3) := by decide +kernel
theorem dX1_around_66 : decode cX1_around 66 = .ok (.iload_n 3, 1) := by decide +kernel
theorem dX1_around_67 : decode cX1_around 67 = .ok (.ireturn, 1) := by decide +kernel
set_option maxRecDepth 20000 in
theorem ggX1_step_X0_held : GoodIn wsX1_step wsX0_held := goodIn_r _ [7, 8, 95, 96, 97] (by decide +kernel) (by decide +kernel)
set_option maxRecDepth 20000 in
theorem gX1_step_X0_held : GoodIn wsX1_step (wsV RX1 62 RX0 yX0_held wsX0_held) := goodIn_app (goodIn_of _ (by decide +kernel)) ggX1_step_X0_held
set_option maxRecDepth 20000 in
theorem ggX1_step_X1_tallyAllAround : GoodIn wsX1_step wsX1_tallyAllAround := goodIn_r _ [13, 2, 1, 14, 15, 16, 6, 17, 8, 3, 4, 5, 7, 18, 19, 20, 21, 22, 23, 24, 25, 26, 27, 28, 29, 12, 30, 31, 32, 33, 34, 35, 36, 37, 38, 39, 40, 41, 42, 43, 44, 45, 46, 47, 48, 49, 50, 51, 52, 53, 54, 55, 56, 57, 58, 59, 60, 61, 62, 63, 86, 87, 88, 89, 90, 91, 92, 93, 94, 95, 96, 97] (by decide +kernel) (by decide +kernel)
set_option maxRecDepth 20000 in
theorem gX1_step_X1_tallyAllAround : GoodIn wsX1_step (wsV RX1 129 RX1 yX1_tallyAllAround wsX1_tallyAllAround) := goodIn_app (goodIn_of _ (by decide +kernel)) ggX1_step_X1_tallyAllAround
set_option maxRecDepth 20000 in
theorem ggX1_step_X0_keyAt : GoodIn wsX1_step wsX0_keyAt := goodIn_r _ [21, 22, 23, 24, 25, 26, 6, 27, 8, 95, 96, 97] (by decide +kernel) (by decide +kernel)
set_option maxRecDepth 20000 in
theorem gX1_step_X0_keyAt : GoodIn wsX1_step (wsV RX1 66 RX0 yX0_keyAt wsX0_keyAt) := goodIn_app (goodIn_of _ (by decide +kernel)) ggX1_step_X0_keyAt
set_option maxRecDepth 20000 in
theorem ggX1_step_X0_valueAt : GoodIn wsX1_step wsX0_valueAt := goodIn_r _ [67, 47, 23, 24, 25, 26, 6, 27, 8, 95, 96, 97] (by decide +kernel) (by decide +kernel)
set_option maxRecDepth 20000 in
theorem gX1_step_X0_valueAt : GoodIn wsX1_step (wsV RX1 55 RX0 yX0_valueAt wsX0_valueAt) := goodIn_app (goodIn_of _ (by decide +kernel)) ggX1_step_X0_valueAt
set_option maxRecDepth 20000 in
theorem ggX1_step_X1_isMarkedThen : GoodIn wsX1_step wsX1_isMarkedThen := goodIn_r _ [71, 72, 73, 1, 74, 75, 76, 6, 77, 78, 79, 80, 81, 48, 49, 50, 51, 8, 22, 52, 53, 54, 55, 24, 25, 26, 27, 86, 87, 88, 89, 90, 91, 92, 93, 94, 95, 96, 97] (by decide +kernel) (by decide +kernel)
set_option maxRecDepth 20000 in
theorem gX1_step_X1_isMarkedThen : GoodIn wsX1_step (wsV RX1 132 RX1 yX1_isMarkedThen wsX1_isMarkedThen) := goodIn_app (goodIn_of _ (by decide +kernel)) ggX1_step_X1_isMarkedThen
set_option maxRecDepth 20000 in
theorem ggX1_step_X0_move : GoodIn wsX1_step wsX0_move := goodIn_r _ [85, 22, 47, 24, 25, 26, 6, 27, 8, 95, 96, 97] (by decide +kernel) (by decide +kernel)
set_option maxRecDepth 20000 in
theorem gX1_step_X0_move : GoodIn wsX1_step (wsV RX1 81 RX0 yX0_move wsX0_move) := goodIn_app (goodIn_of _ (by decide +kernel)) ggX1_step_X0_move
set_option maxRecDepth 20000 in
theorem ggX1_step_X0_shorten : GoodIn wsX1_step wsX0_shorten := goodIn_r _ [17, 8, 95, 96, 97] (by decide +kernel) (by decide +kernel)
set_option maxRecDepth 20000 in
theorem gX1_step_X0_shorten : GoodIn wsX1_step (wsV RX1 85 RX0 yX0_shorten wsX0_shorten) := goodIn_app (goodIn_of _ (by decide +kernel)) ggX1_step_X0_shorten
theorem dX1_step_0 : decode cX1_step 0 = .ok (.aload_n 0, 1) := by decide +kernel
theorem dX1_step_1 : decode cX1_step 1 = .ok (.getfield 30, 3) := by decide +kernel
theorem dX1_step_4 : decode cX1_step 4 = .ok (.invokevirtual 62, 3) := by decide +kernel
theorem dX1_step_7 : decode cX1_step 7 = .ok (.bipush 60, 2) := by decide +kernel
theorem dX1_step_9 : decode cX1_step 9 = .ok (.if_icmp .le 5, 3) := by decide +kernel
theorem dX1_step_12 : decode cX1_step 12 = .ok (.iconst (-1), 1) := by decide +kernel
theorem dX1_step_13 : decode cX1_step 13 = .ok (.ireturn, 1) := by decide +kernel
theorem dX1_step_14 : decode cX1_step 14 = .ok (.aload_n 0, 1) := by decide +kernel
theorem dX1_step_15 : decode cX1_step 15 = .ok (.invokevirtual 129, 3) := by decide +kernel
theorem dX1_step_18 : decode cX1_step 18 = .ok (.iconst 0, 1) := by decide +kernel
theorem dX1_step_19 : decode cX1_step 19 = .ok (.istore_n 1, 1) := by decide +kernel
theorem dX1_step_20 : decode cX1_step 20 = .ok (.iconst 0, 1) := by decide +kernel
theorem dX1_step_21 : decode cX1_step 21 = .ok (.istore_n 2, 1) := by decide +kernel
theorem dX1_step_22 : decode cX1_step 22 = .ok (.iload_n 2, 1) := by decide +kernel
theorem dX1_step_23 : decode cX1_step 23 = .ok (.aload_n 0, 1) := by decide +kernel
theorem dX1_step_24 : decode cX1_step 24 = .ok (.getfield 33, 3) := by decide +kernel
theorem dX1_step_27 : decode cX1_step 27 = .ok (.invokevirtual 62, 3) := by decide +kernel
theorem dX1_step_30 : decode cX1_step 30 = .ok (.if_icmp .ge 44, 3) := by decide +kernel
theorem dX1_step_33 : decode cX1_step 33 = .ok (.aload_n 0, 1) := by decide +kernel
theorem dX1_step_34 : decode cX1_step 34 = .ok (.aload_n 0, 1) := by decide +kernel
theorem dX1_step_35 : decode cX1_step 35 = .ok (.getfield 33, 3) := by decide +kernel
theorem dX1_step_38 : decode cX1_step 38 = .ok (.iload_n 2, 1) := by decide +kernel
theorem dX1_step_39 : decode cX1_step 39 = .ok (.invokevirtual 66, 3) := by decide +kernel
theorem dX1_step_42 : decode cX1_step 42 = .ok (.aload_n 0, 1) := by decide +kernel
theorem dX1_step_43 : decode cX1_step 43 = .ok (.getfield 33, 3) := by decide +kernel
theorem dX1_step_46 : decode cX1_step 46 = .ok (.iload_n 2, 1) := by decide +kernel
theorem dX1_step_47 : decode cX1_step 47 = .ok (.invokevirtual 55, 3) := by decide +kernel
theorem dX1_step_50 : decode cX1_step 50 = .ok (.invokevirtual 132, 3) := by decide +kernel
theorem dX1_step_53 : decode cX1_step 53 = .ok (.ifCond .eq 15, 3) := by decide +kernel
theorem dX1_step_56 : decode cX1_step 56 = .ok (.aload_n 0, 1) := by decide +kernel
theorem dX1_step_57 : decode cX1_step 57 = .ok (.getfield 33, 3) := by decide +kernel
theorem dX1_step_60 : decode cX1_step 60 = .ok (.iload_n 2, 1) := by decide +kernel
theorem dX1_step_61 : decode cX1_step 61 = .ok (.iload_n 1, 1) := by decide +kernel
theorem dX1_step_62 : decode cX1_step 62 = .ok (.invokevirtual 81, 3) := by decide +kernel
theorem dX1_step_65 : decode cX1_step 65 = .ok (.iinc 1 1, 3) := by decide +kernel
theorem dX1_step_68 : decode cX1_step 68 = .ok (.iinc 2 1, 3) := by decide +kernel
theorem dX1_step_71 : decode cX1_step 71 = .ok (.goto (-49), 3) := by decide +kernel
theorem dX1_step_74 : decode cX1_step 74 = .ok (.aload_n 0, 1) := by decide +kernel
theorem dX1_step_75 : decode cX1_step 75 = .ok (.getfield 33, 3) := by decide +kernel
theorem dX1_step_78 : decode cX1_step 78 = .ok (.iload_n 1, 1) := by decide +kernel
theorem dX1_step_79 : decode cX1_step 79 = .ok (.invokevirtual 85, 3) := by decide +kernel
theorem dX1_step_82 : decode cX1_step 82 = .ok (.aload_n 0, 1) := by decide +kernel
theorem dX1_step_83 : decode cX1_step 83 = .ok (.getfield 30, 3) := by decide +kernel
theorem dX1_step_86 : decode cX1_step 86 = .ok (.astore_n 2, 1) := by decide +kernel
theorem dX1_step_87 : decode cX1_step 87 = .ok (.aload_n 0, 1) := by decide +kernel
theorem dX1_step_88 : decode cX1_step 88 = .ok (.aload_n 0, 1) := by decide +kernel
theorem dX1_step_89 : decode cX1_step 89 = .ok (.getfield 33, 3) := by decide +kernel
theorem dX1_step_92 : decode cX1_step 92 = .ok (.putfield 30, 3) := by decide +kernel
theorem dX1_step_95 : decode cX1_step 95 = .ok (.aload_n 0, 1) := by decide +kernel
theorem dX1_step_96 : decode cX1_step 96 = .ok (.aload_n 2, 1) := by decide +kernel
theorem dX1_step_97 : decode cX1_step 97 = .ok (.putfield 33, 3) := by decide +kernel
theorem dX1_step_100 : decode cX1_step 100 = .ok (.aload_n 0, 1) := by decide +kernel
theorem dX1_step_101 : decode cX1_step 101 = .ok (.getfield 30, 3) := by decide +kernel
theorem dX1_step_104 : decode cX1_step 104 = .ok (.invokevirtual 62, 3) := by decide +kernel
theorem dX1_step_107 : decode cX1_step 107 = .ok (.ireturn, 1) := by decide +kernel
set_option maxRecDepth 20000 in
theorem ggX1_put_X1_pairKey : GoodIn wsX1_put wsX1_pairKey := goodIn_r _ [5, 6] (by decide +kernel) (by decide +kernel)
set_option maxRecDepth 20000 in
theorem gX1_put_X1_pairKey : GoodIn wsX1_put (va_wsS RX1 43 yX1_pairKey wsX1_pairKey) := goodIn_app (goodIn_of _ (by decide +kernel)) ggX1_put_X1_pairKey
set_option maxRecDepth 20000 in
theorem ggX1_put_X0_store : GoodIn wsX1_put wsX0_store := goodIn_r _ [11, 12, 13, 14, 15, 16, 10, 17, 18, 19, 20, 21, 22, 23, 24, 25, 26, 27, 28, 29, 30, 31, 32, 33, 34, 35, 45, 46, 47] (by decide +kernel) (by decide +kernel)
set_option maxRecDepth 20000 in
theorem gX1_put_X0_store : GoodIn wsX1_put (wsV RX1 91 RX0 yX0_store wsX0_store) := goodIn_app (goodIn_of _ (by decide +kernel)) ggX1_put_X0_store
theorem dX1_put_0 : decode cX1_put 0 = .ok (.aload_n 0, 1) := by decide +kernel
theorem dX1_put_1 : decode cX1_put 1 = .ok (.getfield 27, 3) := by decide +kernel
theorem dX1_put_4 : decode cX1_put 4 = .ok (.iload_n 1, 1) := by decide +kernel
theorem dX1_put_5 : decode cX1_put 5 = .ok (.iload_n 2, 1) := by decide +kernel
theorem dX1_put_6 : decode cX1_put 6 = .ok (.invokestatic 43, 3) := by decide +kernel
theorem dX1_put_9 : decode cX1_put 9 = .ok (.iload_n 3, 1) := by decide +kernel
theorem dX1_put_10 : decode cX1_put 10 = .ok (.i2l, 1) := by decide +kernel
theorem dX1_put_11 : decode cX1_put 11 = .ok (.invokevirtual 91, 3) := by decide +kernel
theorem dX1_put_14 : decode cX1_put 14 = .ok (.lreturn, 1) := by decide +kernel
set_option maxRecDepth 20000 in
theorem ggX1_get_X1_pairKey : GoodIn wsX1_get wsX1_pairKey := goodIn_r _ [5, 6] (by decide +kernel) (by decide +kernel)
set_option maxRecDepth 20000 in
theorem gX1_get_X1_pairKey : GoodIn wsX1_get (va_wsS RX1 43 yX1_pairKey wsX1_pairKey) := goodIn_app (goodIn_of _ (by decide +kernel)) ggX1_get_X1_pairKey
set_option maxRecDepth 20000 in
theorem ggX1_get_X0_find : GoodIn wsX1_get wsX0_find := goodIn_r _ [11, 12, 13, 14, 10, 15, 16, 17, 18, 19, 20, 21, 22, 23, 24, 25, 41, 42, 43] (by decide +kernel) (by decide +kernel)
set_option maxRecDepth 20000 in
theorem gX1_get_X0_find : GoodIn wsX1_get (wsV RX1 51 RX0 yX0_find wsX0_find) := goodIn_app (goodIn_of _ (by decide +kernel)) ggX1_get_X0_find
set_option maxRecDepth 20000 in
theorem ggX1_get_X0_valueAt : GoodIn wsX1_get wsX0_valueAt := goodIn_r _ [29, 30, 31, 22, 23, 24, 10, 25, 16, 41, 42, 43] (by decide +kernel) (by decide +kernel)
set_option maxRecDepth 20000 in
theorem gX1_get_X0_valueAt : GoodIn wsX1_get (wsV RX1 55 RX0 yX0_valueAt wsX0_valueAt) := goodIn_app (goodIn_of _ (by decide +kernel)) ggX1_get_X0_valueAt
theorem dX1_get_0 : decode cX1_get 0 = .ok (.aload_n 0, 1) := by decide +kernel
theorem dX1_get_1 : decode cX1_get 1 = .ok (.getfield 27, 3) := by decide +kernel
theorem dX1_get_4 : decode cX1_get 4 = .ok (.aload_n 0, 1) := by decide +kernel
theorem dX1_get_5 : decode cX1_get 5 = .ok (.getfield 27, 3) := by decide +kernel
theorem dX1_get_8 : decode cX1_get 8 = .ok (.iload_n 1, 1) := by decide +kernel
theorem dX1_get_9 : decode cX1_get 9 = .ok (.iload_n 2, 1) := by decide +kernel
theorem dX1_get_10 : decode cX1_get 10 = .ok (.invokestatic 43, 3) := by decide +kernel
theorem dX1_get_13 : decode cX1_get 13 = .ok (.invokevirtual 51, 3) := by decide +kernel
theorem dX1_get_16 : decode cX1_get 16 = .ok (.invokevirtual 55, 3) := by decide +kernel
theorem dX1_get_19 : decode cX1_get 19 = .ok (.lreturn, 1) := by decide +kernel
set_option maxRecDepth 20000 in
theorem ggX1_end_X1_pairKey : GoodIn wsX1_end wsX1_pairKey := goodIn_r _ [7, 8] (by decide +kernel) (by decide +kernel)
set_option maxRecDepth 20000 in
theorem gX1_end_X1_pairKey : GoodIn wsX1_end (va_wsS RX1 43 yX1_pairKey wsX1_pairKey) := goodIn_app (goodIn_of _ (by decide +kernel)) ggX1_end_X1_pairKey
set_option maxRecDepth 20000 in
theorem ggX1_end_X0_upTo : GoodIn wsX1_end wsX0_upTo := goodIn_r _ [13, 14, 15, 16, 17, 18, 12, 19, 20, 46, 47, 48] (by decide +kernel) (by decide +kernel)
set_option maxRecDepth 20000 in
theorem gX1_end_X0_upTo : GoodIn wsX1_end (wsV RX1 99 RX0 yX0_upTo wsX0_upTo) := goodIn_app (goodIn_of _ (by decide +kernel)) ggX1_end_X0_upTo
set_option maxRecDepth 20000 in
theorem ggX1_end_X0_keyAt : GoodIn wsX1_end wsX0_keyAt := goodIn_r _ [24, 20, 25, 26, 27, 28, 12, 29, 15, 46, 47, 48] (by decide +kernel) (by decide +kernel)
set_option maxRecDepth 20000 in
theorem gX1_end_X0_keyAt : GoodIn wsX1_end (wsV RX1 66 RX0 yX0_keyAt wsX0_keyAt) := goodIn_app (goodIn_of _ (by decide +kernel)) ggX1_end_X0_keyAt
set_option maxRecDepth 20000 in
theorem ggX1_end_X1_firstOf : GoodIn wsX1_end wsX1_firstOf := goodIn_r _ [32] (by decide +kernel) (by decide +kernel)
set_option maxRecDepth 20000 in
theorem gX1_end_X1_firstOf : GoodIn wsX1_end (va_wsS RX1 71 yX1_firstOf wsX1_firstOf) := goodIn_app (goodIn_of _ (by decide +kernel)) ggX1_end_X1_firstOf
set_option maxRecDepth 20000 in
theorem ggX1_end_X1_secondOf : GoodIn wsX1_end wsX1_secondOf := goodIn_r _ [35, 36] (by decide +kernel) (by decide +kernel)
set_option maxRecDepth 20000 in
theorem gX1_end_X1_secondOf : GoodIn wsX1_end (va_wsS RX1 74 yX1_secondOf wsX1_secondOf) := goodIn_app (goodIn_of _ (by decide +kernel)) ggX1_end_X1_secondOf
theorem dX1_end_0 : decode cX1_end 0 = .ok (.aload_n 0, 1) := by decide +kernel
theorem dX1_end_1 : decode cX1_end 1 = .ok (.getfield 27, 3) := by decide +kernel
theorem dX1_end_4 : decode cX1_end 4 = .ok (.iload_n 1, 1) := by decide +kernel
theorem dX1_end_5 : decode cX1_end 5 = .ok (.ldc 136, 2) := by decide +kernel
theorem dX1_end_7 : decode cX1_end 7 = .ok (.invokestatic 43, 3) := by decide +kernel
theorem dX1_end_10 : decode cX1_end 10 = .ok (.invokevirtual 99, 3) := by decide +kernel
theorem dX1_end_13 : decode cX1_end 13 = .ok (.iconst 1, 1) := by decide +kernel
theorem dX1_end_14 : decode cX1_end 14 = .ok (.isub, 1) := by decide +kernel
theorem dX1_end_15 : decode cX1_end 15 = .ok (.istore_n 2, 1) := by decide +kernel
theorem dX1_end_16 : decode cX1_end 16 = .ok (.iload_n 2, 1) := by decide +kernel
theorem dX1_end_17 : decode cX1_end 17 = .ok (.ifCond .lt 18, 3) := by decide +kernel
theorem dX1_end_20 : decode cX1_end 20 = .ok (.aload_n 0, 1) := by decide +kernel
theorem dX1_end_21 : decode cX1_end 21 = .ok (.getfield 27, 3) := by decide +kernel
theorem dX1_end_24 : decode cX1_end 24 = .ok (.iload_n 2, 1) := by decide +kernel
theorem dX1_end_25 : decode cX1_end 25 = .ok (.invokevirtual 66, 3) := by decide +kernel
theorem dX1_end_28 : decode cX1_end 28 = .ok (.invokestatic 71, 3) := by decide +kernel
theorem dX1_end_31 : decode cX1_end 31 = .ok (.iload_n 1, 1) := by decide +kernel
theorem dX1_end_32 : decode cX1_end 32 = .ok (.if_icmp .eq 7, 3) := by decide +kernel
theorem dX1_end_35 : decode cX1_end 35 = .ok (.ldc2_w 94, 3) := by decide +kernel
theorem dX1_end_38 : decode cX1_end 38 = .ok (.lreturn, 1) := by decide +kernel
theorem dX1_end_39 : decode cX1_end 39 = .ok (.aload_n 0, 1) := by decide +kernel
theorem dX1_end_40 : decode cX1_end 40 = .ok (.getfield 27, 3) := by decide +kernel
theorem dX1_end_43 : decode cX1_end 43 = .ok (.iload_n 2, 1) := by decide +kernel
theorem dX1_end_44 : decode cX1_end 44 = .ok (.invokevirtual 66, 3) := by decide +kernel
theorem dX1_end_47 : decode cX1_end 47 = .ok (.invokestatic 74, 3) := by decide +kernel
theorem dX1_end_50 : decode cX1_end 50 = .ok (.i2l, 1) := by decide +kernel
theorem dX1_end_51 : decode cX1_end 51 = .ok (.lreturn, 1) := by decide +kernel
set_option maxRecDepth 20000 in
theorem ggX1_cut_X1_pairKey : GoodIn wsX1_cut wsX1_pairKey := goodIn_r _ [5, 6] (by decide +kernel) (by decide +kernel)
set_option maxRecDepth 20000 in
theorem gX1_cut_X1_pairKey : GoodIn wsX1_cut (va_wsS RX1 43 yX1_pairKey wsX1_pairKey) := goodIn_app (goodIn_of _ (by decide +kernel)) ggX1_cut_X1_pairKey
set_option maxRecDepth 20000 in
theorem ggX1_cut_X0_find : GoodIn wsX1_cut wsX0_find := goodIn_r _ [11, 12, 13, 14, 10, 15, 16, 17, 18, 19, 20, 21, 22, 23, 24, 25, 57, 58, 59] (by decide +kernel) (by decide +kernel)
set_option maxRecDepth 20000 in
theorem gX1_cut_X0_find : GoodIn wsX1_cut (wsV RX1 51 RX0 yX0_find wsX0_find) := goodIn_app (goodIn_of _ (by decide +kernel)) ggX1_cut_X0_find
set_option maxRecDepth 20000 in
theorem ggX1_cut_X0_takeAt : GoodIn wsX1_cut wsX0_takeAt := goodIn_r _ [29, 30, 31, 32, 10, 33, 34, 35, 22, 23, 24, 25, 16, 36, 37, 38, 39, 17, 40, 41, 42, 43, 57, 58, 59] (by decide +kernel) (by decide +kernel)
set_option maxRecDepth 20000 in
theorem gX1_cut_X0_takeAt : GoodIn wsX1_cut (wsV RX1 59 RX0 yX0_takeAt wsX0_takeAt) := goodIn_app (goodIn_of _ (by decide +kernel)) ggX1_cut_X0_takeAt
set_option maxRecDepth 20000 in
theorem ggX1_cut_X0_groups : GoodIn wsX1_cut wsX0_groups := goodIn_r _ [47, 16, 17, 57, 58, 59] (by decide +kernel) (by decide +kernel)
set_option maxRecDepth 20000 in
theorem gX1_cut_X0_groups : GoodIn wsX1_cut (wsV RX1 137 RX0 yX0_groups wsX0_groups) := goodIn_app (goodIn_of _ (by decide +kernel)) ggX1_cut_X0_groups
theorem dX1_cut_0 : decode cX1_cut 0 = .ok (.aload_n 0, 1) := by decide +kernel
theorem dX1_cut_1 : decode cX1_cut 1 = .ok (.getfield 27, 3) := by decide +kernel
theorem dX1_cut_4 : decode cX1_cut 4 = .ok (.aload_n 0, 1) := by decide +kernel
theorem dX1_cut_5 : decode cX1_cut 5 = .ok (.getfield 27, 3) := by decide +kernel
theorem dX1_cut_8 : decode cX1_cut 8 = .ok (.iload_n 1, 1) := by decide +kernel
theorem dX1_cut_9 : decode cX1_cut 9 = .ok (.iload_n 2, 1) := by decide +kernel
theorem dX1_cut_10 : decode cX1_cut 10 = .ok (.invokestatic 43, 3) := by decide +kernel
theorem dX1_cut_13 : decode cX1_cut 13 = .ok (.invokevirtual 51, 3) := by decide +kernel
theorem dX1_cut_16 : decode cX1_cut 16 = .ok (.invokevirtual 59, 3) := by decide +kernel
theorem dX1_cut_19 : decode cX1_cut 19 = .ok (.pop2, 1) := by decide +kernel
theorem dX1_cut_20 : decode cX1_cut 20 = .ok (.aload_n 0, 1) := by decide +kernel
theorem dX1_cut_21 : decode cX1_cut 21 = .ok (.getfield 27, 3) := by decide +kernel
theorem dX1_cut_24 : decode cX1_cut 24 = .ok (.bipush 32, 2) := by decide +kernel
theorem dX1_cut_26 : decode cX1_cut 26 = .ok (.invokevirtual 137, 3) := by decide +kernel
theorem dX1_cut_29 : decode cX1_cut 29 = .ok (.ireturn, 1) := by decide +kernel
set_option maxRecDepth 20000 in
theorem ggX1_size_X0_held : GoodIn wsX1_size wsX0_held := goodIn_r _ [11, 12, 27, 28, 29] (by decide +kernel) (by decide +kernel)
set_option maxRecDepth 20000 in
theorem gX1_size_X0_held : GoodIn wsX1_size (wsV RX1 62 RX0 yX0_held wsX0_held) := goodIn_app (goodIn_of _ (by decide +kernel)) ggX1_size_X0_held
set_option maxRecDepth 20000 in
theorem ggX1_size_X0_groups : GoodIn wsX1_size wsX0_groups := goodIn_r _ [16, 12, 17, 27, 28, 29] (by decide +kernel) (by decide +kernel)
set_option maxRecDepth 20000 in
theorem gX1_size_X0_groups : GoodIn wsX1_size (wsV RX1 137 RX0 yX0_groups wsX0_groups) := goodIn_app (goodIn_of _ (by decide +kernel)) ggX1_size_X0_groups
theorem dX1_size_0 : decode cX1_size 0 = .ok (.iload_n 1, 1) := by decide +kernel
theorem dX1_size_1 : decode cX1_size 1 = .ok (.tableswitch 102 0 6 #[43, 51, 59, 67, 76, 84, 94], 43) := by decide +kernel
theorem dX1_size_44 : decode cX1_size 44 = .ok (.aload_n 0, 1) := by decide +kernel
theorem dX1_size_45 : decode cX1_size 45 = .ok (.getfield 14, 3) := by decide +kernel
theorem dX1_size_48 : decode cX1_size 48 = .ok (.invokevirtual 62, 3) := by decide +kernel
theorem dX1_size_51 : decode cX1_size 51 = .ok (.ireturn, 1) := by decide +kernel
theorem dX1_size_52 : decode cX1_size 52 = .ok (.aload_n 0, 1) := by decide +kernel
theorem dX1_size_53 : decode cX1_size 53 = .ok (.getfield 18, 3) := by decide +kernel
theorem dX1_size_56 : decode cX1_size 56 = .ok (.invokevirtual 62, 3) := by decide +kernel
theorem dX1_size_59 : decode cX1_size 59 = .ok (.ireturn, 1) := by decide +kernel
theorem dX1_size_60 : decode cX1_size 60 = .ok (.aload_n 0, 1) := by decide +kernel
theorem dX1_size_61 : decode cX1_size 61 = .ok (.getfield 21, 3) := by decide +kernel
theorem dX1_size_64 : decode cX1_size 64 = .ok (.invokevirtual 62, 3) := by decide +kernel
theorem dX1_size_67 : decode cX1_size 67 = .ok (.ireturn, 1) := by decide +kernel
theorem dX1_size_68 : decode cX1_size 68 = .ok (.aload_n 0, 1) := by decide +kernel
theorem dX1_size_69 : decode cX1_size 69 = .ok (.getfield 24, 3) := by decide +kernel
theorem dX1_size_72 : decode cX1_size 72 = .ok (.iconst 0, 1) := by decide +kernel
theorem dX1_size_73 : decode cX1_size 73 = .ok (.invokevirtual 137, 3) := by decide +kernel
theorem dX1_size_76 : decode cX1_size 76 = .ok (.ireturn, 1) := by decide +kernel
theorem dX1_size_77 : decode cX1_size 77 = .ok (.aload_n 0, 1) := by decide +kernel
theorem dX1_size_78 : decode cX1_size 78 = .ok (.getfield 30, 3) := by decide +kernel
theorem dX1_size_81 : decode cX1_size 81 = .ok (.invokevirtual 62, 3) := by decide +kernel
theorem dX1_size_84 : decode cX1_size 84 = .ok (.ireturn, 1) := by decide +kernel
theorem dX1_size_85 : decode cX1_size 85 = .ok (.aload_n 0, 1) := by decide +kernel
theorem dX1_size_86 : decode cX1_size 86 = .ok (.getfield 27, 3) := by decide +kernel
theorem dX1_size_89 : decode cX1_size 89 = .ok (.bipush 32, 2) := by decide +kernel
theorem dX1_size_91 : decode cX1_size 91 = .ok (.invokevirtual 137, 3) := by decide +kernel
theorem dX1_size_94 : decode cX1_size 94 = .ok (.ireturn, 1) := by decide +kernel
theorem dX1_size_95 : decode cX1_size 95 = .ok (.aload_n 0, 1) := by decide +kernel
theorem dX1_size_96 : decode cX1_size 96 = .ok (.getfield 27, 3) := by decide +kernel
theorem dX1_size_99 : decode cX1_size 99 = .ok (.invokevirtual 62, 3) := by decide +kernel
theorem dX1_size_102 : decode cX1_size 102 = .ok (.ireturn, 1) := by decide +kernel
theorem dX1_size_103 : decode cX1_size 103 = .ok (.iconst (-1), 1) := by decide +kernel
theorem dX1_size_104 : decode cX1_size 104 = .ok (.ireturn, 1) := by decide +kernel
theorem dX1_pairKey_0 : decode cX1_pairKey 0 = .ok (.iload_n 0, 1) := by decide +kernel
theorem dX1_pairKey_1 : decode cX1_pairKey 1 = .ok (.i2l, 1) := by decide +kernel
theorem dX1_pairKey_2 : decode cX1_pairKey 2 = .ok (.bipush 32, 2) := by decide +kernel
theorem dX1_pairKey_4 : decode cX1_pairKey 4 = .ok (.lshl, 1) := by decide +kernel
theorem dX1_pairKey_5 : decode cX1_pairKey 5 = .ok (.iload_n 1, 1) := by decide +kernel
theorem dX1_pairKey_6 : decode cX1_pairKey 6 = .ok (.i2l, 1) := by decide +kernel
theorem dX1_pairKey_7 : decode cX1_pairKey 7 = .ok (.ldc2_w 140, 3) := by decide +kernel
theorem dX1_pairKey_10 : decode cX1_pairKey 10 = .ok (.lsub, 1) := by decide +kernel
theorem dX1_pairKey_11 : decode cX1_pairKey 11 = .ok (.ladd, 1) := by decide +kernel
theorem dX1_pairKey_12 : decode cX1_pairKey 12 = .ok (.lreturn, 1) := by decide +kernel
theorem dX1_firstOf_0 : decode cX1_firstOf 0 = .ok (.lload_n 0, 1) := by decide +kernel
theorem dX1_firstOf_1 : decode cX1_firstOf 1 = .ok (.bipush 32, 2) := by decide +kernel
theorem dX1_firstOf_3 : decode cX1_firstOf 3 = .ok (.lshr, 1) := by decide +kernel
theorem dX1_firstOf_4 : decode cX1_firstOf 4 = .ok (.l2i, 1) := by decide +kernel
theorem dX1_firstOf_5 : decode cX1_firstOf 5 = .ok (.ireturn, 1) := by decide +kernel
theorem dX1_secondOf_0 : decode cX1_secondOf 0 = .ok (.lload_n 0, 1) := by decide +kernel
theorem dX1_secondOf_1 : decode cX1_secondOf 1 = .ok (.l2i, 1) := by decide +kernel
theorem dX1_secondOf_2 : decode cX1_secondOf 2 = .ok (.ldc 142, 2) := by decide +kernel
theorem dX1_secondOf_4 : decode cX1_secondOf 4 = .ok (.iadd, 1) := by decide +kernel
theorem dX1_secondOf_5 : decode cX1_secondOf 5 = .ok (.ireturn, 1) := by decide +kernel
set_option maxRecDepth 20000 in
theorem ggX1_hasEvenSum_X1_firstOf : GoodIn wsX1_hasEvenSum wsX1_firstOf := goodIn_r _ [4] (by decide +kernel) (by decide +kernel)
set_option maxRecDepth 20000 in
theorem gX1_hasEvenSum_X1_firstOf : GoodIn wsX1_hasEvenSum (va_wsS RX1 71 yX1_firstOf wsX1_firstOf) := goodIn_app (goodIn_of _ (by decide +kernel)) ggX1_hasEvenSum_X1_firstOf
set_option maxRecDepth 20000 in
theorem ggX1_hasEvenSum_X1_secondOf : GoodIn wsX1_hasEvenSum wsX1_secondOf := goodIn_r _ [7, 8] (by decide +kernel) (by decide +kernel)
set_option maxRecDepth 20000 in
theorem gX1_hasEvenSum_X1_secondOf : GoodIn wsX1_hasEvenSum (va_wsS RX1 74 yX1_secondOf wsX1_secondOf) := goodIn_app (goodIn_of _ (by decide +kernel)) ggX1_hasEvenSum_X1_secondOf
theorem dX1_hasEvenSum_0 : decode cX1_hasEvenSum 0 = .ok (.lload_n 0, 1) := by decide +kernel
theorem dX1_hasEvenSum_1 : decode cX1_hasEvenSum 1 = .ok (.invokestatic 71, 3) := by decide +kernel
theorem dX1_hasEvenSum_4 : decode cX1_hasEvenSum 4 = .ok (.lload_n 0, 1) := by decide +kernel
theorem dX1_hasEvenSum_5 : decode cX1_hasEvenSum 5 = .ok (.invokestatic 74, 3) := by decide +kernel
theorem dX1_hasEvenSum_8 : decode cX1_hasEvenSum 8 = .ok (.iadd, 1) := by decide +kernel
theorem dX1_hasEvenSum_9 : decode cX1_hasEvenSum 9 = .ok (.iconst 1, 1) := by decide +kernel
theorem dX1_hasEvenSum_10 : decode cX1_hasEvenSum 10 = .ok (.iand, 1) := by decide +kernel
theorem dX1_hasEvenSum_11 : decode cX1_hasEvenSum 11 = .ok (.ifCond .ne 7, 3) := by decide +kernel
theorem dX1_hasEvenSum_14 : decode cX1_hasEvenSum 14 = .ok (.iconst 1, 1) := by decide +kernel
theorem dX1_hasEvenSum_15 : decode cX1_hasEvenSum 15 = .ok (.goto 4, 3) := by decide +kernel
theorem dX1_hasEvenSum_18 : decode cX1_hasEvenSum 18 = .ok (.iconst 0, 1) := by decide +kernel
theorem dX1_hasEvenSum_19 : decode cX1_hasEvenSum 19 = .ok (.ireturn, 1) := by decide +kernel
theorem dX1_placeOf_0 : decode cX1_placeOf 0 = .ok (.iconst 5, 1) := by decide +kernel
theorem dX1_placeOf_1 : decode cX1_placeOf 1 = .ok (.bipush 11, 2) := by decide +kernel
theorem dX1_placeOf_3 : decode cX1_placeOf 3 = .ok (.iload_n 0, 1) := by decide +kernel
theorem dX1_placeOf_4 : decode cX1_placeOf 4 = .ok (.isub, 1) := by decide +kernel
theorem dX1_placeOf_5 : decode cX1_placeOf 5 = .ok (.imul, 1) := by decide +kernel
theorem dX1_placeOf_6 : decode cX1_placeOf 6 = .ok (.ireturn, 1) := by decide +kernel
set_option maxRecDepth 20000 in
theorem ggX1_signAt_X1_placeOf : GoodIn wsX1_signAt wsX1_placeOf := goodIn_r _ [5] (by decide +kernel) (by decide +kernel)
set_option maxRecDepth 20000 in
theorem gX1_signAt_X1_placeOf : GoodIn wsX1_signAt (va_wsS RX1 110 yX1_placeOf wsX1_placeOf) := goodIn_app (goodIn_of _ (by decide +kernel)) ggX1_signAt_X1_placeOf
theorem dX1_signAt_0 : decode cX1_signAt 0 = .ok (.lload_n 0, 1) := by decide +kernel
theorem dX1_signAt_1 : decode cX1_signAt 1 = .ok (.iload_n 2, 1) := by decide +kernel
theorem dX1_signAt_2 : decode cX1_signAt 2 = .ok (.invokestatic 110, 3) := by decide +kernel
theorem dX1_signAt_5 : decode cX1_signAt 5 = .ok (.lshr, 1) := by decide +kernel
theorem dX1_signAt_6 : decode cX1_signAt 6 = .ok (.ldc2_w 69, 3) := by decide +kernel
theorem dX1_signAt_9 : decode cX1_signAt 9 = .ok (.land, 1) := by decide +kernel
theorem dX1_signAt_10 : decode cX1_signAt 10 = .ok (.l2i, 1) := by decide +kernel
theorem dX1_signAt_11 : decode cX1_signAt 11 = .ok (.ireturn, 1) := by decide +kernel
set_option maxRecDepth 20000 in
theorem ggX1_signsOf_X1_signAt : GoodIn wsX1_signsOf wsX1_signAt := goodIn_r _ [4, 5, 6, 7, 3, 8] (by decide +kernel) (by decide +kernel)
set_option maxRecDepth 20000 in
theorem gX1_signsOf_X1_signAt : GoodIn wsX1_signsOf (va_wsS RX1 122 yX1_signAt wsX1_signAt) := goodIn_app (goodIn_of _ (by decide +kernel)) ggX1_signsOf_X1_signAt
theorem dX1_signsOf_0 : decode cX1_signsOf 0 = .ok (.iconst 0, 1) := by decide +kernel
theorem dX1_signsOf_1 : decode cX1_signsOf 1 = .ok (.istore_n 2, 1) := by decide +kernel
theorem dX1_signsOf_2 : decode cX1_signsOf 2 = .ok (.iload_n 2, 1) := by decide +kernel
theorem dX1_signsOf_3 : decode cX1_signsOf 3 = .ok (.bipush 12, 2) := by decide +kernel
theorem dX1_signsOf_5 : decode cX1_signsOf 5 = .ok (.if_icmp .ge 17, 3) := by decide +kernel
theorem dX1_signsOf_8 : decode cX1_signsOf 8 = .ok (.lload_n 0, 1) := by decide +kernel
theorem dX1_signsOf_9 : decode cX1_signsOf 9 = .ok (.iload_n 2, 1) := by decide +kernel
theorem dX1_signsOf_10 : decode cX1_signsOf 10 = .ok (.invokestatic 122, 3) := by decide +kernel
theorem dX1_signsOf_13 : decode cX1_signsOf 13 = .ok (.ifCond .eq 9, 3) := by decide +kernel
theorem dX1_signsOf_16 : decode cX1_signsOf 16 = .ok (.iinc 2 1, 3) := by decide +kernel
theorem dX1_signsOf_19 : decode cX1_signsOf 19 = .ok (.goto (-17), 3) := by decide +kernel
theorem dX1_signsOf_22 : decode cX1_signsOf 22 = .ok (.iload_n 2, 1) := by decide +kernel
theorem dX1_signsOf_23 : decode cX1_signsOf 23 = .ok (.ireturn, 1) := by decide +kernel
theorem dX1_takeTape_0 : decode cX1_takeTape 0 = .ok (.aload_n 0, 1) := by decide +kernel
theorem dX1_takeTape_1 : decode cX1_takeTape 1 = .ok (.getfield 36, 3) := by decide +kernel
theorem dX1_takeTape_4 : decode cX1_takeTape 4 = .ok (.lstore_n 1, 1) := by decide +kernel
theorem dX1_takeTape_5 : decode cX1_takeTape 5 = .ok (.aload_n 0, 1) := by decide +kernel
theorem dX1_takeTape_6 : decode cX1_takeTape 6 = .ok (.lconst 0, 1) := by decide +kernel
theorem dX1_takeTape_7 : decode cX1_takeTape 7 = .ok (.putfield 36, 3) := by decide +kernel
theorem dX1_takeTape_10 : decode cX1_takeTape 10 = .ok (.lload_n 1, 1) := by decide +kernel
theorem dX1_takeTape_11 : decode cX1_takeTape 11 = .ok (.lreturn, 1) := by decide +kernel
set_option maxRecDepth 20000 in
theorem ggX1_tallyAllAround_X0_shorten : GoodIn wsX1_tallyAllAround wsX0_shorten := goodIn_r _ [7, 8, 69, 70, 71] (by decide +kernel) (by decide +kernel)
set_option maxRecDepth 20000 in
theorem gX1_tallyAllAround_X0_shorten : GoodIn wsX1_tallyAllAround (wsV RX1 85 RX0 yX0_shorten wsX0_shorten) := goodIn_app (goodIn_of _ (by decide +kernel)) ggX1_tallyAllAround_X0_shorten
set_option maxRecDepth 20000 in
theorem ggX1_tallyAllAround_X0_held : GoodIn wsX1_tallyAllAround wsX0_held := goodIn_r _ [12, 8, 69, 70, 71] (by decide +kernel) (by decide +kernel)
set_option maxRecDepth 20000 in
theorem gX1_tallyAllAround_X0_held : GoodIn wsX1_tallyAllAround (wsV RX1 62 RX0 yX0_held wsX0_held) := goodIn_app (goodIn_of _ (by decide +kernel)) ggX1_tallyAllAround_X0_held
set_option maxRecDepth 20000 in
theorem ggX1_tallyAllAround_X0_keyAt : GoodIn wsX1_tallyAllAround wsX0_keyAt := goodIn_r _ [16, 17, 18, 19, 20, 21, 6, 22, 8, 69, 70, 71] (by decide +kernel) (by decide +kernel)
set_option maxRecDepth 20000 in
theorem gX1_tallyAllAround_X0_keyAt : GoodIn wsX1_tallyAllAround (wsV RX1 66 RX0 yX0_keyAt wsX0_keyAt) := goodIn_app (goodIn_of _ (by decide +kernel)) ggX1_tallyAllAround_X0_keyAt
set_option maxRecDepth 20000 in
theorem ggX1_tallyAllAround_X1_firstOf : GoodIn wsX1_tallyAllAround wsX1_firstOf := goodIn_r _ [26] (by decide +kernel) (by decide +kernel)
set_option maxRecDepth 20000 in
theorem gX1_tallyAllAround_X1_firstOf : GoodIn wsX1_tallyAllAround (va_wsS RX1 71 yX1_firstOf wsX1_firstOf) := goodIn_app (goodIn_of _ (by decide +kernel)) ggX1_tallyAllAround_X1_firstOf
set_option maxRecDepth 20000 in
theorem ggX1_tallyAllAround_X1_secondOf : GoodIn wsX1_tallyAllAround wsX1_secondOf := goodIn_r _ [29, 30] (by decide +kernel) (by decide +kernel)
set_option maxRecDepth 20000 in
theorem gX1_tallyAllAround_X1_secondOf : GoodIn wsX1_tallyAllAround (va_wsS RX1 74 yX1_secondOf wsX1_secondOf) := goodIn_app (goodIn_of _ (by decide +kernel)) ggX1_tallyAllAround_X1_secondOf
set_option maxRecDepth 20000 in
theorem ggX1_tallyAllAround_X1_tallyAround : GoodIn wsX1_tallyAllAround wsX1_tallyAround := goodIn_r _ [34, 1, 35, 36, 25, 37, 38, 39, 40, 41, 6, 42, 43, 44, 45, 46, 47, 8, 17, 48, 49, 50, 51, 19, 20, 21, 22, 52, 53, 54, 55, 56, 57, 58, 59, 60, 61, 62, 63, 64, 65, 66, 67, 68, 69, 70, 71] (by decide +kernel) (by decide +kernel)
set_option maxRecDepth 20000 in
theorem gX1_tallyAllAround_X1_tallyAround : GoodIn wsX1_tallyAllAround (wsV RX1 143 RX1 yX1_tallyAround wsX1_tallyAround) := goodIn_app (goodIn_of _ (by decide +kernel)) ggX1_tallyAllAround_X1_tallyAround
theorem dX1_tallyAllAround_0 : decode cX1_tallyAllAround 0 = .ok (.aload_n 0, 1) := by decide +kernel
theorem dX1_tallyAllAround_1 : decode cX1_tallyAllAround 1 = .ok (.getfield 33, 3) := by decide +kernel
theorem dX1_tallyAllAround_4 : decode cX1_tallyAllAround 4 = .ok (.iconst 0, 1) := by decide +kernel
theorem dX1_tallyAllAround_5 : decode cX1_tallyAllAround 5 = .ok (.invokevirtual 85, 3) := by decide +kernel
theorem dX1_tallyAllAround_8 : decode cX1_tallyAllAround 8 = .ok (.iconst 0, 1) := by decide +kernel
theorem dX1_tallyAllAround_9 : decode cX1_tallyAllAround 9 = .ok (.istore_n 1, 1) := by decide +kernel
theorem dX1_tallyAllAround_10 : decode cX1_tallyAllAround 10 = .ok (.iload_n 1, 1) := by decide +kernel
theorem dX1_tallyAllAround_11 : decode cX1_tallyAllAround 11 = .ok (.aload_n 0, 1) := by decide +kernel
theorem dX1_tallyAllAround_12 : decode cX1_tallyAllAround 12 = .ok (.getfield 30, 3) := by decide +kernel
theorem dX1_tallyAllAround_15 : decode cX1_tallyAllAround 15 = .ok (.invokevirtual 62, 3) := by decide +kernel
theorem dX1_tallyAllAround_18 : decode cX1_tallyAllAround 18 = .ok (.if_icmp .ge 30, 3) := by decide +kernel
theorem dX1_tallyAllAround_21 : decode cX1_tallyAllAround 21 = .ok (.aload_n 0, 1) := by decide +kernel
theorem dX1_tallyAllAround_22 : decode cX1_tallyAllAround 22 = .ok (.getfield 30, 3) := by decide +kernel
theorem dX1_tallyAllAround_25 : decode cX1_tallyAllAround 25 = .ok (.iload_n 1, 1) := by decide +kernel
theorem dX1_tallyAllAround_26 : decode cX1_tallyAllAround 26 = .ok (.invokevirtual 66, 3) := by decide +kernel
theorem dX1_tallyAllAround_29 : decode cX1_tallyAllAround 29 = .ok (.lstore_n 2, 1) := by decide +kernel
theorem dX1_tallyAllAround_30 : decode cX1_tallyAllAround 30 = .ok (.aload_n 0, 1) := by decide +kernel
theorem dX1_tallyAllAround_31 : decode cX1_tallyAllAround 31 = .ok (.lload_n 2, 1) := by decide +kernel
theorem dX1_tallyAllAround_32 : decode cX1_tallyAllAround 32 = .ok (.invokestatic 71, 3) := by decide +kernel
theorem dX1_tallyAllAround_35 : decode cX1_tallyAllAround 35 = .ok (.lload_n 2, 1) := by decide +kernel
theorem dX1_tallyAllAround_36 : decode cX1_tallyAllAround 36 = .ok (.invokestatic 74, 3) := by decide +kernel
theorem dX1_tallyAllAround_39 : decode cX1_tallyAllAround 39 = .ok (.invokevirtual 143, 3) := by decide +kernel
theorem dX1_tallyAllAround_42 : decode cX1_tallyAllAround 42 = .ok (.iinc 1 1, 3) := by decide +kernel
theorem dX1_tallyAllAround_45 : decode cX1_tallyAllAround 45 = .ok (.goto (-35), 3) := by decide +kernel
theorem dX1_tallyAllAround_48 : decode cX1_tallyAllAround 48 = .ok (.return_, 1) := by decide +kernel
set_option maxRecDepth 20000 in
theorem ggX1_tallyAround_X1_pairKey : GoodIn wsX1_tallyAround wsX1_pairKey := goodIn_r _ [5, 6] (by decide +kernel) (by decide +kernel)
set_option maxRecDepth 20000 in
theorem gX1_tallyAround_X1_pairKey : GoodIn wsX1_tallyAround (va_wsS RX1 43 yX1_pairKey wsX1_pairKey) := goodIn_app (goodIn_of _ (by decide +kernel)) ggX1_tallyAround_X1_pairKey
set_option maxRecDepth 20000 in
theorem ggX1_tallyAround_X0_raise : GoodIn wsX1_tallyAround wsX0_raise := goodIn_r _ [11, 12, 13, 14, 15, 10, 16, 17, 18, 19, 20, 21, 22, 23, 24, 25, 26, 27, 28, 29, 30, 31, 32, 33, 34, 44, 45, 46] (by decide +kernel) (by decide +kernel)
set_option maxRecDepth 20000 in
theorem gX1_tallyAround_X0_raise : GoodIn wsX1_tallyAround (wsV RX1 47 RX0 yX0_raise wsX0_raise) := goodIn_app (goodIn_of _ (by decide +kernel)) ggX1_tallyAround_X0_raise
theorem dX1_tallyAround_0 : decode cX1_tallyAround 0 = .ok (.iconst (-1), 1) := by decide +kernel
theorem dX1_tallyAround_1 : decode cX1_tallyAround 1 = .ok (.istore_n 3, 1) := by decide +kernel
theorem dX1_tallyAround_2 : decode cX1_tallyAround 2 = .ok (.iload_n 3, 1) := by decide +kernel
theorem dX1_tallyAround_3 : decode cX1_tallyAround 3 = .ok (.iconst 1, 1) := by decide +kernel
theorem dX1_tallyAround_4 : decode cX1_tallyAround 4 = .ok (.if_icmp .gt 52, 3) := by decide +kernel
theorem dX1_tallyAround_7 : decode cX1_tallyAround 7 = .ok (.iconst (-1), 1) := by decide +kernel
theorem dX1_tallyAround_8 : decode cX1_tallyAround 8 = .ok (.istore 4, 2) := by decide +kernel
theorem dX1_tallyAround_10 : decode cX1_tallyAround 10 = .ok (.iload 4, 2) := by decide +kernel
theorem dX1_tallyAround_12 : decode cX1_tallyAround 12 = .ok (.iconst 1, 1) := by decide +kernel
theorem dX1_tallyAround_13 : decode cX1_tallyAround 13 = .ok (.if_icmp .gt 37, 3) := by decide +kernel
theorem dX1_tallyAround_16 : decode cX1_tallyAround 16 = .ok (.iload_n 3, 1) := by decide +kernel
theorem dX1_tallyAround_17 : decode cX1_tallyAround 17 = .ok (.ifCond .ne 8, 3) := by decide +kernel
theorem dX1_tallyAround_20 : decode cX1_tallyAround 20 = .ok (.iload 4, 2) := by decide +kernel
theorem dX1_tallyAround_22 : decode cX1_tallyAround 22 = .ok (.ifCond .eq 22, 3) := by decide +kernel
theorem dX1_tallyAround_25 : decode cX1_tallyAround 25 = .ok (.aload_n 0, 1) := by decide +kernel
theorem dX1_tallyAround_26 : decode cX1_tallyAround 26 = .ok (.getfield 33, 3) := by decide +kernel
theorem dX1_tallyAround_29 : decode cX1_tallyAround 29 = .ok (.iload_n 1, 1) := by decide +kernel
theorem dX1_tallyAround_30 : decode cX1_tallyAround 30 = .ok (.iload_n 3, 1) := by decide +kernel
theorem dX1_tallyAround_31 : decode cX1_tallyAround 31 = .ok (.iadd, 1) := by decide +kernel
theorem dX1_tallyAround_32 : decode cX1_tallyAround 32 = .ok (.iload_n 2, 1) := by decide +kernel
theorem dX1_tallyAround_33 : decode cX1_tallyAround 33 = .ok (.iload 4, 2) := by decide +kernel
theorem dX1_tallyAround_35 : decode cX1_tallyAround 35 = .ok (.iadd, 1) := by decide +kernel
theorem dX1_tallyAround_36 : decode cX1_tallyAround 36 = .ok (.invokestatic 43, 3) := by decide +kernel
theorem dX1_tallyAround_39 : decode cX1_tallyAround 39 = .ok (.lconst 1, 1) := by decide +kernel
theorem dX1_tallyAround_40 : decode cX1_tallyAround 40 = .ok (.invokevirtual 47, 3) := by decide +kernel
theorem dX1_tallyAround_43 : decode cX1_tallyAround 43 = .ok (.pop2, 1) := by decide +kernel
theorem dX1_tallyAround_44 : decode cX1_tallyAround 44 = .ok (.iinc 4 1, 3) := by decide +kernel
theorem dX1_tallyAround_47 : decode cX1_tallyAround 47 = .ok (.goto (-37), 3) := by decide +kernel
theorem dX1_tallyAround_50 : decode cX1_tallyAround 50 = .ok (.iinc 3 1, 3) := by decide +kernel
theorem dX1_tallyAround_53 : decode cX1_tallyAround 53 = .ok (.goto (-51), 3) := by decide +kernel
theorem dX1_tallyAround_56 : decode cX1_tallyAround 56 = .ok (.return_, 1) := by decide +kernel
set_option maxRecDepth 20000 in
theorem ggX1_isMarkedThen_X0_holds : GoodIn wsX1_isMarkedThen wsX0_holds := goodIn_r _ [8, 9, 10, 11, 7, 12, 13, 14, 15, 16, 17, 18, 19, 20, 21, 22, 23, 24, 25, 26, 36, 37, 38] (by decide +kernel) (by decide +kernel)
set_option maxRecDepth 20000 in
theorem gX1_isMarkedThen_X0_holds : GoodIn wsX1_isMarkedThen (wsV RX1 96 RX0 yX0_holds wsX0_holds) := goodIn_app (goodIn_of _ (by decide +kernel)) ggX1_isMarkedThen_X0_holds
theorem dX1_isMarkedThen_0 : decode cX1_isMarkedThen 0 = .ok (.lload_n 3, 1) := by decide +kernel
theorem dX1_isMarkedThen_1 : decode cX1_isMarkedThen 1 = .ok (.ldc2_w 146, 3) := by decide +kernel
theorem dX1_isMarkedThen_4 : decode cX1_isMarkedThen 4 = .ok (.lcmp, 1) := by decide +kernel
theorem dX1_isMarkedThen_5 : decode cX1_isMarkedThen 5 = .ok (.ifCond .eq 22, 3) := by decide +kernel
theorem dX1_isMarkedThen_8 : decode cX1_isMarkedThen 8 = .ok (.lload_n 3, 1) := by decide +kernel
theorem dX1_isMarkedThen_9 : decode cX1_isMarkedThen 9 = .ok (.ldc2_w 148, 3) := by decide +kernel
theorem dX1_isMarkedThen_12 : decode cX1_isMarkedThen 12 = .ok (.lcmp, 1) := by decide +kernel
theorem dX1_isMarkedThen_13 : decode cX1_isMarkedThen 13 = .ok (.ifCond .ne 18, 3) := by decide +kernel
theorem dX1_isMarkedThen_16 : decode cX1_isMarkedThen 16 = .ok (.aload_n 0, 1) := by decide +kernel
theorem dX1_isMarkedThen_17 : decode cX1_isMarkedThen 17 = .ok (.getfield 30, 3) := by decide +kernel
theorem dX1_isMarkedThen_20 : decode cX1_isMarkedThen 20 = .ok (.lload_n 1, 1) := by decide +kernel
theorem dX1_isMarkedThen_21 : decode cX1_isMarkedThen 21 = .ok (.invokevirtual 96, 3) := by decide +kernel
theorem dX1_isMarkedThen_24 : decode cX1_isMarkedThen 24 = .ok (.ifCond .eq 7, 3) := by decide +kernel
theorem dX1_isMarkedThen_27 : decode cX1_isMarkedThen 27 = .ok (.iconst 1, 1) := by decide +kernel
theorem dX1_isMarkedThen_28 : decode cX1_isMarkedThen 28 = .ok (.goto 4, 3) := by decide +kernel
theorem dX1_isMarkedThen_31 : decode cX1_isMarkedThen 31 = .ok (.iconst 0, 1) := by decide +kernel
theorem dX1_isMarkedThen_32 : decode cX1_isMarkedThen 32 = .ok (.ireturn, 1) := by decide +kernel
