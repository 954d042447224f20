theorem dX0_init_0 : decode cX0_init 0 = .ok (.aload_n 0, 1) := by decide +kernel
theorem dX0_init_1 : decode cX0_init 1 = .ok (.invokespecial 1, 3) := by decide +kernel
theorem dX0_init_4 : decode cX0_init 4 = .ok (.aload_n 0, 1) := by decide +kernel
theorem dX0_init_5 : decode cX0_init 5 = .ok (.iload_n 1, 1) := by decide +kernel
theorem dX0_init_6 : decode cX0_init 6 = .ok (.iconst 1, 1) := by decide +kernel
theorem dX0_init_7 : decode cX0_init 7 = .ok (.if_icmp .ge 7, 3) := by decide +kernel
theorem dX0_init_10 : decode cX0_init 10 = .ok (.iconst 0, 1) := by decide +kernel
theorem dX0_init_11 : decode cX0_init 11 = .ok (.goto 11, 3) := by decide +kernel
theorem dX0_init_14 : decode cX0_init 14 = .ok (.iload_n 1, 1) := by decide +kernel
theorem dX0_init_15 : decode cX0_init 15 = .ok (.iconst 1, 1) := by decide +kernel
theorem dX0_init_16 : decode cX0_init 16 = .ok (.isub, 1) := by decide +kernel
theorem dX0_init_17 : decode cX0_init 17 = .ok (.bipush 64, 2) := by decide +kernel
theorem dX0_init_19 : decode cX0_init 19 = .ok (.idiv, 1) := by decide +kernel
theorem dX0_init_20 : decode cX0_init 20 = .ok (.iconst 1, 1) := by decide +kernel
theorem dX0_init_21 : decode cX0_init 21 = .ok (.iadd, 1) := by decide +kernel
theorem dX0_init_22 : decode cX0_init 22 = .ok (.newarray .long, 2) := by decide +kernel
theorem dX0_init_24 : decode cX0_init 24 = .ok (.putfield 7, 3) := by decide +kernel
theorem dX0_init_27 : decode cX0_init 27 = .ok (.return_, 1) := by decide +kernel
set_option maxRecDepth 20000 in
theorem ggX0_wipe_J7_fill_d0a16 : GoodIn wsX0_wipe wsJ7_fill_d0a16 := goodIn_r _ [5] (by decide +kernel) (by decide +kernel)
set_option maxRecDepth 20000 in
theorem gX0_wipe_J7_fill_d0a16 : GoodIn wsX0_wipe (va_wsS RX0 13 yJ7_fill_d0a16 wsJ7_fill_d0a16) := goodIn_app (goodIn_of _ (by decide +kernel)) ggX0_wipe_J7_fill_d0a16
theorem dX0_wipe_0 : decode cX0_wipe 0 = .ok (.aload_n 0, 1) := by decide +kernel
theorem dX0_wipe_1 : decode cX0_wipe 1 = .ok (.getfield 7, 3) := by decide +kernel
theorem dX0_wipe_4 : decode cX0_wipe 4 = .ok (.lconst 0, 1) := by decide +kernel
theorem dX0_wipe_5 : decode cX0_wipe 5 = .ok (.invokestatic 13, 3) := by decide +kernel
theorem dX0_wipe_8 : decode cX0_wipe 8 = .ok (.return_, 1) := by decide +kernel
theorem dX0_mark_0 : decode cX0_mark 0 = .ok (.iload_n 1, 1) := by decide +kernel
theorem dX0_mark_1 : decode cX0_mark 1 = .ok (.bipush 6, 2) := by decide +kernel
theorem dX0_mark_3 : decode cX0_mark 3 = .ok (.ishr, 1) := by decide +kernel
theorem dX0_mark_4 : decode cX0_mark 4 = .ok (.istore_n 2, 1) := by decide +kernel
theorem dX0_mark_5 : decode cX0_mark 5 = .ok (.iload_n 2, 1) := by decide +kernel
theorem dX0_mark_6 : decode cX0_mark 6 = .ok (.ifCond .lt 27, 3) := by decide +kernel
theorem dX0_mark_9 : decode cX0_mark 9 = .ok (.iload_n 2, 1) := by decide +kernel
theorem dX0_mark_10 : decode cX0_mark 10 = .ok (.aload_n 0, 1) := by decide +kernel
theorem dX0_mark_11 : decode cX0_mark 11 = .ok (.getfield 7, 3) := by decide +kernel
theorem dX0_mark_14 : decode cX0_mark 14 = .ok (.arraylength, 1) := by decide +kernel
theorem dX0_mark_15 : decode cX0_mark 15 = .ok (.if_icmp .ge 18, 3) := by decide +kernel
theorem dX0_mark_18 : decode cX0_mark 18 = .ok (.aload_n 0, 1) := by decide +kernel
theorem dX0_mark_19 : decode cX0_mark 19 = .ok (.getfield 7, 3) := by decide +kernel
theorem dX0_mark_22 : decode cX0_mark 22 = .ok (.iload_n 2, 1) := by decide +kernel
theorem dX0_mark_23 : decode cX0_mark 23 = .ok (.dup2, 1) := by decide +kernel
theorem dX0_mark_24 : decode cX0_mark 24 = .ok (.laload, 1) := by decide +kernel
theorem dX0_mark_25 : decode cX0_mark 25 = .ok (.lconst 1, 1) := by decide +kernel
theorem dX0_mark_26 : decode cX0_mark 26 = .ok (.iload_n 1, 1) := by decide +kernel
theorem dX0_mark_27 : decode cX0_mark 27 = .ok (.bipush 63, 2) := by decide +kernel
theorem dX0_mark_29 : decode cX0_mark 29 = .ok (.iand, 1) := by decide +kernel
theorem dX0_mark_30 : decode cX0_mark 30 = .ok (.lshl, 1) := by decide +kernel
theorem dX0_mark_31 : decode cX0_mark 31 = .ok (.lor, 1) := by decide +kernel
theorem dX0_mark_32 : decode cX0_mark 32 = .ok (.lastore, 1) := by decide +kernel
theorem dX0_mark_33 : decode cX0_mark 33 = .ok (.return_, 1) := by decide +kernel
theorem dX0_markEvery_0 : decode cX0_markEvery 0 = .ok (.iload_n 1, 1) := by decide +kernel
theorem dX0_markEvery_1 : decode cX0_markEvery 1 = .ok (.ifCond .lt 8, 3) := by decide +kernel
theorem dX0_markEvery_4 : decode cX0_markEvery 4 = .ok (.iload_n 2, 1) := by decide +kernel
theorem dX0_markEvery_5 : decode cX0_markEvery 5 = .ok (.iconst 1, 1) := by decide +kernel
theorem dX0_markEvery_6 : decode cX0_markEvery 6 = .ok (.if_icmp .ge 4, 3) := by decide +kernel
theorem dX0_markEvery_9 : decode cX0_markEvery 9 = .ok (.return_, 1) := by decide +kernel
theorem dX0_markEvery_10 : decode cX0_markEvery 10 = .ok (.iload_n 3, 1) := by decide +kernel
theorem dX0_markEvery_11 : decode cX0_markEvery 11 = .ok (.aload_n 0, 1) := by decide +kernel
theorem dX0_markEvery_12 : decode cX0_markEvery 12 = .ok (.getfield 7, 3) := by decide +kernel
theorem dX0_markEvery_15 : decode cX0_markEvery 15 = .ok (.arraylength, 1) := by decide +kernel
theorem dX0_markEvery_16 : decode cX0_markEvery 16 = .ok (.bipush 64, 2) := by decide +kernel
theorem dX0_markEvery_18 : decode cX0_markEvery 18 = .ok (.imul, 1) := by decide +kernel
theorem dX0_markEvery_19 : decode cX0_markEvery 19 = .ok (.invokestatic 19, 3) := by decide +kernel
theorem dX0_markEvery_22 : decode cX0_markEvery 22 = .ok (.istore 4, 2) := by decide +kernel
theorem dX0_markEvery_24 : decode cX0_markEvery 24 = .ok (.iload_n 1, 1) := by decide +kernel
theorem dX0_markEvery_25 : decode cX0_markEvery 25 = .ok (.istore 5, 2) := by decide +kernel
theorem dX0_markEvery_27 : decode cX0_markEvery 27 = .ok (.iload 5, 2) := by decide +kernel
theorem dX0_markEvery_29 : decode cX0_markEvery 29 = .ok (.iload 4, 2) := by decide +kernel
theorem dX0_markEvery_31 : decode cX0_markEvery 31 = .ok (.if_icmp .ge 32, 3) := by decide +kernel
theorem dX0_markEvery_34 : decode cX0_markEvery 34 = .ok (.aload_n 0, 1) := by decide +kernel
theorem dX0_markEvery_35 : decode cX0_markEvery 35 = .ok (.getfield 7, 3) := by decide +kernel
theorem dX0_markEvery_38 : decode cX0_markEvery 38 = .ok (.iload 5, 2) := by decide +kernel
theorem dX0_markEvery_40 : decode cX0_markEvery 40 = .ok (.bipush 6, 2) := by decide +kernel
theorem dX0_markEvery_42 : decode cX0_markEvery 42 = .ok (.ishr, 1) := by decide +kernel
theorem dX0_markEvery_43 : decode cX0_markEvery 43 = .ok (.dup2, 1) := by decide +kernel
theorem dX0_markEvery_44 : decode cX0_markEvery 44 = .ok (.laload, 1) := by decide +kernel
theorem dX0_markEvery_45 : decode cX0_markEvery 45 = .ok (.lconst 1, 1) := by decide +kernel
theorem dX0_markEvery_46 : decode cX0_markEvery 46 = .ok (.iload 5, 2) := by decide +kernel
theorem dX0_markEvery_48 : decode cX0_markEvery 48 = .ok (.bipush 63, 2) := by decide +kernel
theorem dX0_markEvery_50 : decode cX0_markEvery 50 = .ok (.iand, 1) := by decide +kernel
theorem dX0_markEvery_51 : decode cX0_markEvery 51 = .ok (.lshl, 1) := by decide +kernel
theorem dX0_markEvery_52 : decode cX0_markEvery 52 = .ok (.lor, 1) := by decide +kernel
theorem dX0_markEvery_53 : decode cX0_markEvery 53 = .ok (.lastore, 1) := by decide +kernel
theorem dX0_markEvery_54 : decode cX0_markEvery 54 = .ok (.iload 5, 2) := by decide +kernel
theorem dX0_markEvery_56 : decode cX0_markEvery 56 = .ok (.iload_n 2, 1) := by decide +kernel
theorem dX0_markEvery_57 : decode cX0_markEvery 57 = .ok (.iadd, 1) := by decide +kernel
theorem dX0_markEvery_58 : decode cX0_markEvery 58 = .ok (.istore 5, 2) := by decide +kernel
theorem dX0_markEvery_60 : decode cX0_markEvery 60 = .ok (.goto (-33), 3) := by decide +kernel
theorem dX0_markEvery_63 : decode cX0_markEvery 63 = .ok (.return_, 1) := by decide +kernel
theorem dX0_isMarked_0 : decode cX0_isMarked 0 = .ok (.iload_n 1, 1) := by decide +kernel
theorem dX0_isMarked_1 : decode cX0_isMarked 1 = .ok (.bipush 6, 2) := by decide +kernel
theorem dX0_isMarked_3 : decode cX0_isMarked 3 = .ok (.ishr, 1) := by decide +kernel
theorem dX0_isMarked_4 : decode cX0_isMarked 4 = .ok (.istore_n 2, 1) := by decide +kernel
theorem dX0_isMarked_5 : decode cX0_isMarked 5 = .ok (.iload_n 2, 1) := by decide +kernel
theorem dX0_isMarked_6 : decode cX0_isMarked 6 = .ok (.ifCond .lt 34, 3) := by decide +kernel
theorem dX0_isMarked_9 : decode cX0_isMarked 9 = .ok (.iload_n 2, 1) := by decide +kernel
theorem dX0_isMarked_10 : decode cX0_isMarked 10 = .ok (.aload_n 0, 1) := by decide +kernel
theorem dX0_isMarked_11 : decode cX0_isMarked 11 = .ok (.getfield 7, 3) := by decide +kernel
theorem dX0_isMarked_14 : decode cX0_isMarked 14 = .ok (.arraylength, 1) := by decide +kernel
theorem dX0_isMarked_15 : decode cX0_isMarked 15 = .ok (.if_icmp .ge 25, 3) := by decide +kernel
theorem dX0_isMarked_18 : decode cX0_isMarked 18 = .ok (.aload_n 0, 1) := by decide +kernel
theorem dX0_isMarked_19 : decode cX0_isMarked 19 = .ok (.getfield 7, 3) := by decide +kernel
theorem dX0_isMarked_22 : decode cX0_isMarked 22 = .ok (.iload_n 2, 1) := by decide +kernel
theorem dX0_isMarked_23 : decode cX0_isMarked 23 = .ok (.laload, 1) := by decide +kernel
theorem dX0_isMarked_24 : decode cX0_isMarked 24 = .ok (.iload_n 1, 1) := by decide +kernel
theorem dX0_isMarked_25 : decode cX0_isMarked 25 = .ok (.bipush 63, 2) := by decide +kernel
theorem dX0_isMarked_27 : decode cX0_isMarked 27 = .ok (.iand, 1) := by decide +kernel
theorem dX0_isMarked_28 : decode cX0_isMarked 28 = .ok (.lushr, 1) := by decide +kernel
theorem dX0_isMarked_29 : decode cX0_isMarked 29 = .ok (.lconst 1, 1) := by decide +kernel
theorem dX0_isMarked_30 : decode cX0_isMarked 30 = .ok (.land, 1) := by decide +kernel
theorem dX0_isMarked_31 : decode cX0_isMarked 31 = .ok (.lconst 0, 1) := by decide +kernel
theorem dX0_isMarked_32 : decode cX0_isMarked 32 = .ok (.lcmp, 1) := by decide +kernel
theorem dX0_isMarked_33 : decode cX0_isMarked 33 = .ok (.ifCond .eq 7, 3) := by decide +kernel
theorem dX0_isMarked_36 : decode cX0_isMarked 36 = .ok (.iconst 1, 1) := by decide +kernel
theorem dX0_isMarked_37 : decode cX0_isMarked 37 = .ok (.goto 4, 3) := by decide +kernel
theorem dX0_isMarked_40 : decode cX0_isMarked 40 = .ok (.iconst 0, 1) := by decide +kernel
theorem dX0_isMarked_41 : decode cX0_isMarked 41 = .ok (.ireturn, 1) := by decide +kernel
set_option maxRecDepth 20000 in
theorem ggX0_tally_J13_bitCount_95d88 : GoodIn wsX0_tally wsJ13_bitCount_95d88 := goodIn_r _ [5, 6, 7, 8] (by decide +kernel) (by decide +kernel)
set_option maxRecDepth 20000 in
theorem gX0_tally_J13_bitCount_95d88 : GoodIn wsX0_tally (va_wsS RX0 25 yJ13_bitCount_95d88 wsJ13_bitCount_95d88) := goodIn_app (goodIn_of _ (by decide +kernel)) ggX0_tally_J13_bitCount_95d88
theorem dX0_tally_0 : decode cX0_tally 0 = .ok (.iconst 0, 1) := by decide +kernel
theorem dX0_tally_1 : decode cX0_tally 1 = .ok (.istore_n 1, 1) := by decide +kernel
theorem dX0_tally_2 : decode cX0_tally 2 = .ok (.iconst 0, 1) := by decide +kernel
theorem dX0_tally_3 : decode cX0_tally 3 = .ok (.istore_n 2, 1) := by decide +kernel
theorem dX0_tally_4 : decode cX0_tally 4 = .ok (.iload_n 2, 1) := by decide +kernel
theorem dX0_tally_5 : decode cX0_tally 5 = .ok (.aload_n 0, 1) := by decide +kernel
theorem dX0_tally_6 : decode cX0_tally 6 = .ok (.getfield 7, 3) := by decide +kernel
theorem dX0_tally_9 : decode cX0_tally 9 = .ok (.arraylength, 1) := by decide +kernel
theorem dX0_tally_10 : decode cX0_tally 10 = .ok (.if_icmp .ge 21, 3) := by decide +kernel
theorem dX0_tally_13 : decode cX0_tally 13 = .ok (.iload_n 1, 1) := by decide +kernel
theorem dX0_tally_14 : decode cX0_tally 14 = .ok (.aload_n 0, 1) := by decide +kernel
theorem dX0_tally_15 : decode cX0_tally 15 = .ok (.getfield 7, 3) := by decide +kernel
theorem dX0_tally_18 : decode cX0_tally 18 = .ok (.iload_n 2, 1) := by decide +kernel
theorem dX0_tally_19 : decode cX0_tally 19 = .ok (.laload, 1) := by decide +kernel
theorem dX0_tally_20 : decode cX0_tally 20 = .ok (.invokestatic 25, 3) := by decide +kernel
theorem dX0_tally_23 : decode cX0_tally 23 = .ok (.iadd, 1) := by decide +kernel
theorem dX0_tally_24 : decode cX0_tally 24 = .ok (.istore_n 1, 1) := by decide +kernel
theorem dX0_tally_25 : decode cX0_tally 25 = .ok (.iinc 2 1, 3) := by decide +kernel
theorem dX0_tally_28 : decode cX0_tally 28 = .ok (.goto (-24), 3) := by decide +kernel
theorem dX0_tally_31 : decode cX0_tally 31 = .ok (.iload_n 1, 1) := by decide +kernel
theorem dX0_tally_32 : decode cX0_tally 32 = .ok (.ireturn, 1) := by decide +kernel
theorem dX1_init_0 : decode cX1_init 0 = .ok (.aload_n 0, 1) := by decide +kernel
theorem dX1_init_1 : decode cX1_init 1 = .ok (.invokespecial 1, 3) := by decide +kernel
theorem dX1_init_4 : decode cX1_init 4 = .ok (.aload_n 0, 1) := by decide +kernel
theorem dX1_init_5 : decode cX1_init 5 = .ok (.bipush 10, 2) := by decide +kernel
theorem dX1_init_7 : decode cX1_init 7 = .ok (.newarray .long, 2) := by decide +kernel
theorem dX1_init_9 : decode cX1_init 9 = .ok (.putfield 9, 3) := by decide +kernel
theorem dX1_init_12 : decode cX1_init 12 = .ok (.aload_n 0, 1) := by decide +kernel
theorem dX1_init_13 : decode cX1_init 13 = .ok (.bipush 10, 2) := by decide +kernel
theorem dX1_init_15 : decode cX1_init 15 = .ok (.newarray .int, 2) := by decide +kernel
theorem dX1_init_17 : decode cX1_init 17 = .ok (.putfield 13, 3) := by decide +kernel
theorem dX1_init_20 : decode cX1_init 20 = .ok (.aload_n 0, 1) := by decide +kernel
theorem dX1_init_21 : decode cX1_init 21 = .ok (.lconst 1, 1) := by decide +kernel
theorem dX1_init_22 : decode cX1_init 22 = .ok (.putfield 17, 3) := by decide +kernel
theorem dX1_init_25 : decode cX1_init 25 = .ok (.aload_n 0, 1) := by decide +kernel
theorem dX1_init_26 : decode cX1_init 26 = .ok (.iconst 0, 1) := by decide +kernel
theorem dX1_init_27 : decode cX1_init 27 = .ok (.putfield 21, 3) := by decide +kernel
theorem dX1_init_30 : decode cX1_init 30 = .ok (.return_, 1) := by decide +kernel
set_option maxRecDepth 20000 in
theorem ggX1_take_X3_nth : GoodIn wsX1_take wsX3_nth := goodIn_r _ [8, 9, 10, 22, 23] (by decide +kernel) (by decide +kernel)
set_option maxRecDepth 20000 in
theorem gX1_take_X3_nth : GoodIn wsX1_take (wsV RX1 28 RX3 yX3_nth wsX3_nth) := goodIn_app (goodIn_of _ (by decide +kernel)) ggX1_take_X3_nth
set_option maxRecDepth 20000 in
theorem ggX1_take_X1_keep : GoodIn wsX1_take wsX1_keep := goodIn_r _ [15, 2, 16, 17, 18, 19, 20, 21] (by decide +kernel) (by decide +kernel)
set_option maxRecDepth 20000 in
theorem gX1_take_X1_keep : GoodIn wsX1_take (wsV RX1 34 RX1 yX1_keep wsX1_keep) := goodIn_app (goodIn_of _ (by decide +kernel)) ggX1_take_X1_keep
theorem dX1_take_0 : decode cX1_take 0 = .ok (.aload_n 0, 1) := by decide +kernel
theorem dX1_take_1 : decode cX1_take 1 = .ok (.lload_n 1, 1) := by decide +kernel
theorem dX1_take_2 : decode cX1_take 2 = .ok (.putfield 17, 3) := by decide +kernel
theorem dX1_take_5 : decode cX1_take 5 = .ok (.aload_n 0, 1) := by decide +kernel
theorem dX1_take_6 : decode cX1_take 6 = .ok (.iconst 0, 1) := by decide +kernel
theorem dX1_take_7 : decode cX1_take 7 = .ok (.putfield 21, 3) := by decide +kernel
theorem dX1_take_10 : decode cX1_take 10 = .ok (.lload_n 1, 1) := by decide +kernel
theorem dX1_take_11 : decode cX1_take 11 = .ok (.lstore 4, 2) := by decide +kernel
theorem dX1_take_13 : decode cX1_take 13 = .ok (.iconst 0, 1) := by decide +kernel
theorem dX1_take_14 : decode cX1_take 14 = .ok (.istore 6, 2) := by decide +kernel
theorem dX1_take_16 : decode cX1_take 16 = .ok (.iload 6, 2) := by decide +kernel
theorem dX1_take_18 : decode cX1_take 18 = .ok (.aload_n 3, 1) := by decide +kernel
theorem dX1_take_19 : decode cX1_take 19 = .ok (.getfield 25, 3) := by decide +kernel
theorem dX1_take_22 : decode cX1_take 22 = .ok (.if_icmp .ge 93, 3) := by decide +kernel
theorem dX1_take_25 : decode cX1_take 25 = .ok (.aload_n 3, 1) := by decide +kernel
theorem dX1_take_26 : decode cX1_take 26 = .ok (.iload 6, 2) := by decide +kernel
theorem dX1_take_28 : decode cX1_take 28 = .ok (.invokevirtual 28, 3) := by decide +kernel
theorem dX1_take_31 : decode cX1_take 31 = .ok (.i2l, 1) := by decide +kernel
theorem dX1_take_32 : decode cX1_take 32 = .ok (.lstore 7, 2) := by decide +kernel
theorem dX1_take_34 : decode cX1_take 34 = .ok (.lload 7, 2) := by decide +kernel
theorem dX1_take_36 : decode cX1_take 36 = .ok (.ldc2_w 32, 3) := by decide +kernel
theorem dX1_take_39 : decode cX1_take 39 = .ok (.lcmp, 1) := by decide +kernel
theorem dX1_take_40 : decode cX1_take 40 = .ok (.ifCond .lt 75, 3) := by decide +kernel
theorem dX1_take_43 : decode cX1_take 43 = .ok (.lload 7, 2) := by decide +kernel
theorem dX1_take_45 : decode cX1_take 45 = .ok (.lload 7, 2) := by decide +kernel
theorem dX1_take_47 : decode cX1_take 47 = .ok (.lmul, 1) := by decide +kernel
theorem dX1_take_48 : decode cX1_take 48 = .ok (.lload 4, 2) := by decide +kernel
theorem dX1_take_50 : decode cX1_take 50 = .ok (.lcmp, 1) := by decide +kernel
theorem dX1_take_51 : decode cX1_take 51 = .ok (.ifCond .le 6, 3) := by decide +kernel
theorem dX1_take_54 : decode cX1_take 54 = .ok (.goto 61, 3) := by decide +kernel
theorem dX1_take_57 : decode cX1_take 57 = .ok (.iconst 0, 1) := by decide +kernel
theorem dX1_take_58 : decode cX1_take 58 = .ok (.istore 9, 2) := by decide +kernel
theorem dX1_take_60 : decode cX1_take 60 = .ok (.iconst 0, 1) := by decide +kernel
theorem dX1_take_61 : decode cX1_take 61 = .ok (.istore 10, 2) := by decide +kernel
theorem dX1_take_63 : decode cX1_take 63 = .ok (.iload 10, 2) := by decide +kernel
theorem dX1_take_65 : decode cX1_take 65 = .ok (.bipush 34, 2) := by decide +kernel
theorem dX1_take_67 : decode cX1_take 67 = .ok (.if_icmp .ge 29, 3) := by decide +kernel
theorem dX1_take_70 : decode cX1_take 70 = .ok (.lload 4, 2) := by decide +kernel
theorem dX1_take_72 : decode cX1_take 72 = .ok (.lload 7, 2) := by decide +kernel
theorem dX1_take_74 : decode cX1_take 74 = .ok (.lrem, 1) := by decide +kernel
theorem dX1_take_75 : decode cX1_take 75 = .ok (.lconst 0, 1) := by decide +kernel
theorem dX1_take_76 : decode cX1_take 76 = .ok (.lcmp, 1) := by decide +kernel
theorem dX1_take_77 : decode cX1_take 77 = .ok (.ifCond .ne 19, 3) := by decide +kernel
theorem dX1_take_80 : decode cX1_take 80 = .ok (.lload 4, 2) := by decide +kernel
theorem dX1_take_82 : decode cX1_take 82 = .ok (.lload 7, 2) := by decide +kernel
theorem dX1_take_84 : decode cX1_take 84 = .ok (.ldiv, 1) := by decide +kernel
theorem dX1_take_85 : decode cX1_take 85 = .ok (.lstore 4, 2) := by decide +kernel
theorem dX1_take_87 : decode cX1_take 87 = .ok (.iinc 9 1, 3) := by decide +kernel
theorem dX1_take_90 : decode cX1_take 90 = .ok (.iinc 10 1, 3) := by decide +kernel
theorem dX1_take_93 : decode cX1_take 93 = .ok (.goto (-30), 3) := by decide +kernel
theorem dX1_take_96 : decode cX1_take 96 = .ok (.iload 9, 2) := by decide +kernel
theorem dX1_take_98 : decode cX1_take 98 = .ok (.ifCond .le 11, 3) := by decide +kernel
theorem dX1_take_101 : decode cX1_take 101 = .ok (.aload_n 0, 1) := by decide +kernel
theorem dX1_take_102 : decode cX1_take 102 = .ok (.lload 7, 2) := by decide +kernel
theorem dX1_take_104 : decode cX1_take 104 = .ok (.iload 9, 2) := by decide +kernel
theorem dX1_take_106 : decode cX1_take 106 = .ok (.invokevirtual 34, 3) := by decide +kernel
theorem dX1_take_109 : decode cX1_take 109 = .ok (.iinc 6 1, 3) := by decide +kernel
theorem dX1_take_112 : decode cX1_take 112 = .ok (.goto (-96), 3) := by decide +kernel
theorem dX1_take_115 : decode cX1_take 115 = .ok (.lload 4, 2) := by decide +kernel
theorem dX1_take_117 : decode cX1_take 117 = .ok (.lconst 1, 1) := by decide +kernel
theorem dX1_take_118 : decode cX1_take 118 = .ok (.lcmp, 1) := by decide +kernel
theorem dX1_take_119 : decode cX1_take 119 = .ok (.ifCond .le 10, 3) := by decide +kernel
theorem dX1_take_122 : decode cX1_take 122 = .ok (.aload_n 0, 1) := by decide +kernel
theorem dX1_take_123 : decode cX1_take 123 = .ok (.lload 4, 2) := by decide +kernel
theorem dX1_take_125 : decode cX1_take 125 = .ok (.iconst 1, 1) := by decide +kernel
theorem dX1_take_126 : decode cX1_take 126 = .ok (.invokevirtual 34, 3) := by decide +kernel
theorem dX1_take_129 : decode cX1_take 129 = .ok (.return_, 1) := by decide +kernel
theorem dX1_keep_0 : decode cX1_keep 0 = .ok (.aload_n 0, 1) := by decide +kernel
theorem dX1_keep_1 : decode cX1_keep 1 = .ok (.getfield 21, 3) := by decide +kernel
theorem dX1_keep_4 : decode cX1_keep 4 = .ok (.ifCond .lt 42, 3) := by decide +kernel
theorem dX1_keep_7 : decode cX1_keep 7 = .ok (.aload_n 0, 1) := by decide +kernel
theorem dX1_keep_8 : decode cX1_keep 8 = .ok (.getfield 21, 3) := by decide +kernel
theorem dX1_keep_11 : decode cX1_keep 11 = .ok (.bipush 10, 2) := by decide +kernel
theorem dX1_keep_13 : decode cX1_keep 13 = .ok (.if_icmp .ge 33, 3) := by decide +kernel
theorem dX1_keep_16 : decode cX1_keep 16 = .ok (.aload_n 0, 1) := by decide +kernel
theorem dX1_keep_17 : decode cX1_keep 17 = .ok (.getfield 9, 3) := by decide +kernel
theorem dX1_keep_20 : decode cX1_keep 20 = .ok (.aload_n 0, 1) := by decide +kernel
theorem dX1_keep_21 : decode cX1_keep 21 = .ok (.getfield 21, 3) := by decide +kernel
theorem dX1_keep_24 : decode cX1_keep 24 = .ok (.lload_n 1, 1) := by decide +kernel
theorem dX1_keep_25 : decode cX1_keep 25 = .ok (.lastore, 1) := by decide +kernel
theorem dX1_keep_26 : decode cX1_keep 26 = .ok (.aload_n 0, 1) := by decide +kernel
theorem dX1_keep_27 : decode cX1_keep 27 = .ok (.getfield 13, 3) := by decide +kernel
theorem dX1_keep_30 : decode cX1_keep 30 = .ok (.aload_n 0, 1) := by decide +kernel
theorem dX1_keep_31 : decode cX1_keep 31 = .ok (.getfield 21, 3) := by decide +kernel
theorem dX1_keep_34 : decode cX1_keep 34 = .ok (.iload_n 3, 1) := by decide +kernel
theorem dX1_keep_35 : decode cX1_keep 35 = .ok (.iastore, 1) := by decide +kernel
theorem dX1_keep_36 : decode cX1_keep 36 = .ok (.aload_n 0, 1) := by decide +kernel
theorem dX1_keep_37 : decode cX1_keep 37 = .ok (.dup, 1) := by decide +kernel
theorem dX1_keep_38 : decode cX1_keep 38 = .ok (.getfield 21, 3) := by decide +kernel
theorem dX1_keep_41 : decode cX1_keep 41 = .ok (.iconst 1, 1) := by decide +kernel
theorem dX1_keep_42 : decode cX1_keep 42 = .ok (.iadd, 1) := by decide +kernel
theorem dX1_keep_43 : decode cX1_keep 43 = .ok (.putfield 21, 3) := by decide +kernel
theorem dX1_keep_46 : decode cX1_keep 46 = .ok (.return_, 1) := by decide +kernel
theorem dX1_primeOf_0 : decode cX1_primeOf 0 = .ok (.iload_n 1, 1) := by decide +kernel
theorem dX1_primeOf_1 : decode cX1_primeOf 1 = .ok (.ifCond .lt 20, 3) := by decide +kernel
theorem dX1_primeOf_4 : decode cX1_primeOf 4 = .ok (.iload_n 1, 1) := by decide +kernel
theorem dX1_primeOf_5 : decode cX1_primeOf 5 = .ok (.aload_n 0, 1) := by decide +kernel
theorem dX1_primeOf_6 : decode cX1_primeOf 6 = .ok (.getfield 21, 3) := by decide +kernel
theorem dX1_primeOf_9 : decode cX1_primeOf 9 = .ok (.if_icmp .ge 12, 3) := by decide +kernel
theorem dX1_primeOf_12 : decode cX1_primeOf 12 = .ok (.aload_n 0, 1) := by decide +kernel
theorem dX1_primeOf_13 : decode cX1_primeOf 13 = .ok (.getfield 9, 3) := by decide +kernel
theorem dX1_primeOf_16 : decode cX1_primeOf 16 = .ok (.iload_n 1, 1) := by decide +kernel
theorem dX1_primeOf_17 : decode cX1_primeOf 17 = .ok (.laload, 1) := by decide +kernel
theorem dX1_primeOf_18 : decode cX1_primeOf 18 = .ok (.goto 4, 3) := by decide +kernel
theorem dX1_primeOf_21 : decode cX1_primeOf 21 = .ok (.lconst 0, 1) := by decide +kernel
theorem dX1_primeOf_22 : decode cX1_primeOf 22 = .ok (.lreturn, 1) := by decide +kernel
theorem dX1_powerOf_0 : decode cX1_powerOf 0 = .ok (.iload_n 1, 1) := by decide +kernel
theorem dX1_powerOf_1 : decode cX1_powerOf 1 = .ok (.ifCond .lt 20, 3) := by decide +kernel
theorem dX1_powerOf_4 : decode cX1_powerOf 4 = .ok (.iload_n 1, 1) := by decide +kernel
theorem dX1_powerOf_5 : decode cX1_powerOf 5 = .ok (.aload_n 0, 1) := by decide +kernel
theorem dX1_powerOf_6 : decode cX1_powerOf 6 = .ok (.getfield 21, 3) := by decide +kernel
theorem dX1_powerOf_9 : decode cX1_powerOf 9 = .ok (.if_icmp .ge 12, 3) := by decide +kernel
theorem dX1_powerOf_12 : decode cX1_powerOf 12 = .ok (.aload_n 0, 1) := by decide +kernel
theorem dX1_powerOf_13 : decode cX1_powerOf 13 = .ok (.getfield 13, 3) := by decide +kernel
theorem dX1_powerOf_16 : decode cX1_powerOf 16 = .ok (.iload_n 1, 1) := by decide +kernel
theorem dX1_powerOf_17 : decode cX1_powerOf 17 = .ok (.iaload, 1) := by decide +kernel
theorem dX1_powerOf_18 : decode cX1_powerOf 18 = .ok (.goto 4, 3) := by decide +kernel
theorem dX1_powerOf_21 : decode cX1_powerOf 21 = .ok (.iconst 0, 1) := by decide +kernel
theorem dX1_powerOf_22 : decode cX1_powerOf 22 = .ok (.ireturn, 1) := by decide +kernel
theorem dX1_divisorCount_0 : decode cX1_divisorCount 0 = .ok (.lconst 1, 1) := by decide +kernel
theorem dX1_divisorCount_1 : decode cX1_divisorCount 1 = .ok (.lstore_n 1, 1) := by decide +kernel
theorem dX1_divisorCount_2 : decode cX1_divisorCount 2 = .ok (.iconst 0, 1) := by decide +kernel
theorem dX1_divisorCount_3 : decode cX1_divisorCount 3 = .ok (.istore_n 3, 1) := by decide +kernel
theorem dX1_divisorCount_4 : decode cX1_divisorCount 4 = .ok (.iload_n 3, 1) := by decide +kernel
theorem dX1_divisorCount_5 : decode cX1_divisorCount 5 = .ok (.aload_n 0, 1) := by decide +kernel
theorem dX1_divisorCount_6 : decode cX1_divisorCount 6 = .ok (.getfield 21, 3) := by decide +kernel
theorem dX1_divisorCount_9 : decode cX1_divisorCount 9 = .ok (.if_icmp .ge 21, 3) := by decide +kernel
theorem dX1_divisorCount_12 : decode cX1_divisorCount 12 = .ok (.lload_n 1, 1) := by decide +kernel
theorem dX1_divisorCount_13 : decode cX1_divisorCount 13 = .ok (.aload_n 0, 1) := by decide +kernel
theorem dX1_divisorCount_14 : decode cX1_divisorCount 14 = .ok (.getfield 13, 3) := by decide +kernel
theorem dX1_divisorCount_17 : decode cX1_divisorCount 17 = .ok (.iload_n 3, 1) := by decide +kernel
theorem dX1_divisorCount_18 : decode cX1_divisorCount 18 = .ok (.iaload, 1) := by decide +kernel
theorem dX1_divisorCount_19 : decode cX1_divisorCount 19 = .ok (.iconst 1, 1) := by decide +kernel
theorem dX1_divisorCount_20 : decode cX1_divisorCount 20 = .ok (.iadd, 1) := by decide +kernel
theorem dX1_divisorCount_21 : decode cX1_divisorCount 21 = .ok (.i2l, 1) := by decide +kernel
theorem dX1_divisorCount_22 : decode cX1_divisorCount 22 = .ok (.lmul, 1) := by decide +kernel
theorem dX1_divisorCount_23 : decode cX1_divisorCount 23 = .ok (.lstore_n 1, 1) := by decide +kernel
theorem dX1_divisorCount_24 : decode cX1_divisorCount 24 = .ok (.iinc 3 1, 3) := by decide +kernel
theorem dX1_divisorCount_27 : decode cX1_divisorCount 27 = .ok (.goto (-23), 3) := by decide +kernel
theorem dX1_divisorCount_30 : decode cX1_divisorCount 30 = .ok (.lload_n 1, 1) := by decide +kernel
theorem dX1_divisorCount_31 : decode cX1_divisorCount 31 = .ok (.lreturn, 1) := by decide +kernel
theorem dX1_divisorSum_0 : decode cX1_divisorSum 0 = .ok (.lconst 1, 1) := by decide +kernel
theorem dX1_divisorSum_1 : decode cX1_divisorSum 1 = .ok (.lstore_n 1, 1) := by decide +kernel
theorem dX1_divisorSum_2 : decode cX1_divisorSum 2 = .ok (.iconst 0, 1) := by decide +kernel
theorem dX1_divisorSum_3 : decode cX1_divisorSum 3 = .ok (.istore_n 3, 1) := by decide +kernel
theorem dX1_divisorSum_4 : decode cX1_divisorSum 4 = .ok (.iload_n 3, 1) := by decide +kernel
theorem dX1_divisorSum_5 : decode cX1_divisorSum 5 = .ok (.aload_n 0, 1) := by decide +kernel
theorem dX1_divisorSum_6 : decode cX1_divisorSum 6 = .ok (.getfield 21, 3) := by decide +kernel
theorem dX1_divisorSum_9 : decode cX1_divisorSum 9 = .ok (.if_icmp .ge 50, 3) := by decide +kernel
theorem dX1_divisorSum_12 : decode cX1_divisorSum 12 = .ok (.lconst 1, 1) := by decide +kernel
theorem dX1_divisorSum_13 : decode cX1_divisorSum 13 = .ok (.lstore 4, 2) := by decide +kernel
theorem dX1_divisorSum_15 : decode cX1_divisorSum 15 = .ok (.iconst 0, 1) := by decide +kernel
theorem dX1_divisorSum_16 : decode cX1_divisorSum 16 = .ok (.istore 6, 2) := by decide +kernel
theorem dX1_divisorSum_18 : decode cX1_divisorSum 18 = .ok (.iload 6, 2) := by decide +kernel
theorem dX1_divisorSum_20 : decode cX1_divisorSum 20 = .ok (.aload_n 0, 1) := by decide +kernel
theorem dX1_divisorSum_21 : decode cX1_divisorSum 21 = .ok (.getfield 13, 3) := by decide +kernel
theorem dX1_divisorSum_24 : decode cX1_divisorSum 24 = .ok (.iload_n 3, 1) := by decide +kernel
theorem dX1_divisorSum_25 : decode cX1_divisorSum 25 = .ok (.iaload, 1) := by decide +kernel
theorem dX1_divisorSum_26 : decode cX1_divisorSum 26 = .ok (.if_icmp .ge 22, 3) := by decide +kernel
theorem dX1_divisorSum_29 : decode cX1_divisorSum 29 = .ok (.lload 4, 2) := by decide +kernel
theorem dX1_divisorSum_31 : decode cX1_divisorSum 31 = .ok (.aload_n 0, 1) := by decide +kernel
theorem dX1_divisorSum_32 : decode cX1_divisorSum 32 = .ok (.getfield 9, 3) := by decide +kernel
theorem dX1_divisorSum_35 : decode cX1_divisorSum 35 = .ok (.iload_n 3, 1) := by decide +kernel
theorem dX1_divisorSum_36 : decode cX1_divisorSum 36 = .ok (.laload, 1) := by decide +kernel
theorem dX1_divisorSum_37 : decode cX1_divisorSum 37 = .ok (.lmul, 1) := by decide +kernel
theorem dX1_divisorSum_38 : decode cX1_divisorSum 38 = .ok (.lconst 1, 1) := by decide +kernel
theorem dX1_divisorSum_39 : decode cX1_divisorSum 39 = .ok (.ladd, 1) := by decide +kernel
theorem dX1_divisorSum_40 : decode cX1_divisorSum 40 = .ok (.lstore 4, 2) := by decide +kernel
theorem dX1_divisorSum_42 : decode cX1_divisorSum 42 = .ok (.iinc 6 1, 3) := by decide +kernel
theorem dX1_divisorSum_45 : decode cX1_divisorSum 45 = .ok (.goto (-27), 3) := by decide +kernel
theorem dX1_divisorSum_48 : decode cX1_divisorSum 48 = .ok (.lload_n 1, 1) := by decide +kernel
theorem dX1_divisorSum_49 : decode cX1_divisorSum 49 = .ok (.lload 4, 2) := by decide +kernel
theorem dX1_divisorSum_51 : decode cX1_divisorSum 51 = .ok (.lmul, 1) := by decide +kernel
theorem dX1_divisorSum_52 : decode cX1_divisorSum 52 = .ok (.lstore_n 1, 1) := by decide +kernel
theorem dX1_divisorSum_53 : decode cX1_divisorSum 53 = .ok (.iinc 3 1, 3) := by decide +kernel
theorem dX1_divisorSum_56 : decode cX1_divisorSum 56 = .ok (.goto (-52), 3) := by decide +kernel
theorem dX1_divisorSum_59 : decode cX1_divisorSum 59 = .ok (.lload_n 1, 1) := by decide +kernel
theorem dX1_divisorSum_60 : decode cX1_divisorSum 60 = .ok (.lreturn, 1) := by decide +kernel
theorem dX1_euler_0 : decode cX1_euler 0 = .ok (.aload_n 0, 1) := by decide +kernel
theorem dX1_euler_1 : decode cX1_euler 1 = .ok (.getfield 17, 3) := by decide +kernel
theorem dX1_euler_4 : decode cX1_euler 4 = .ok (.lstore_n 1, 1) := by decide +kernel
theorem dX1_euler_5 : decode cX1_euler 5 = .ok (.iconst 0, 1) := by decide +kernel
theorem dX1_euler_6 : decode cX1_euler 6 = .ok (.istore_n 3, 1) := by decide +kernel
theorem dX1_euler_7 : decode cX1_euler 7 = .ok (.iload_n 3, 1) := by decide +kernel
theorem dX1_euler_8 : decode cX1_euler 8 = .ok (.aload_n 0, 1) := by decide +kernel
theorem dX1_euler_9 : decode cX1_euler 9 = .ok (.getfield 21, 3) := by decide +kernel
theorem dX1_euler_12 : decode cX1_euler 12 = .ok (.if_icmp .ge 34, 3) := by decide +kernel
theorem dX1_euler_15 : decode cX1_euler 15 = .ok (.aload_n 0, 1) := by decide +kernel
theorem dX1_euler_16 : decode cX1_euler 16 = .ok (.getfield 9, 3) := by decide +kernel
theorem dX1_euler_19 : decode cX1_euler 19 = .ok (.iload_n 3, 1) := by decide +kernel
theorem dX1_euler_20 : decode cX1_euler 20 = .ok (.laload, 1) := by decide +kernel
theorem dX1_euler_21 : decode cX1_euler 21 = .ok (.lstore 4, 2) := by decide +kernel
theorem dX1_euler_23 : decode cX1_euler 23 = .ok (.lload 4, 2) := by decide +kernel
theorem dX1_euler_25 : decode cX1_euler 25 = .ok (.lconst 1, 1) := by decide +kernel
theorem dX1_euler_26 : decode cX1_euler 26 = .ok (.lcmp, 1) := by decide +kernel
theorem dX1_euler_27 : decode cX1_euler 27 = .ok (.ifCond .le 13, 3) := by decide +kernel
theorem dX1_euler_30 : decode cX1_euler 30 = .ok (.lload_n 1, 1) := by decide +kernel
theorem dX1_euler_31 : decode cX1_euler 31 = .ok (.lload 4, 2) := by decide +kernel
theorem dX1_euler_33 : decode cX1_euler 33 = .ok (.ldiv, 1) := by decide +kernel
theorem dX1_euler_34 : decode cX1_euler 34 = .ok (.lload 4, 2) := by decide +kernel
theorem dX1_euler_36 : decode cX1_euler 36 = .ok (.lconst 1, 1) := by decide +kernel
theorem dX1_euler_37 : decode cX1_euler 37 = .ok (.lsub, 1) := by decide +kernel
theorem dX1_euler_38 : decode cX1_euler 38 = .ok (.lmul, 1) := by decide +kernel
theorem dX1_euler_39 : decode cX1_euler 39 = .ok (.lstore_n 1, 1) := by decide +kernel
theorem dX1_euler_40 : decode cX1_euler 40 = .ok (.iinc 3 1, 3) := by decide +kernel
theorem dX1_euler_43 : decode cX1_euler 43 = .ok (.goto (-36), 3) := by decide +kernel
theorem dX1_euler_46 : decode cX1_euler 46 = .ok (.lload_n 1, 1) := by decide +kernel
theorem dX1_euler_47 : decode cX1_euler 47 = .ok (.lreturn, 1) := by decide +kernel
theorem dX1_moebius_0 : decode cX1_moebius 0 = .ok (.iconst 1, 1) := by decide +kernel
theorem dX1_moebius_1 : decode cX1_moebius 1 = .ok (.istore_n 1, 1) := by decide +kernel
theorem dX1_moebius_2 : decode cX1_moebius 2 = .ok (.iconst 0, 1) := by decide +kernel
theorem dX1_moebius_3 : decode cX1_moebius 3 = .ok (.istore_n 2, 1) := by decide +kernel
theorem dX1_moebius_4 : decode cX1_moebius 4 = .ok (.iload_n 2, 1) := by decide +kernel
theorem dX1_moebius_5 : decode cX1_moebius 5 = .ok (.aload_n 0, 1) := by decide +kernel
theorem dX1_moebius_6 : decode cX1_moebius 6 = .ok (.getfield 21, 3) := by decide +kernel
theorem dX1_moebius_9 : decode cX1_moebius 9 = .ok (.if_icmp .ge 26, 3) := by decide +kernel
theorem dX1_moebius_12 : decode cX1_moebius 12 = .ok (.aload_n 0, 1) := by decide +kernel
theorem dX1_moebius_13 : decode cX1_moebius 13 = .ok (.getfield 13, 3) := by decide +kernel
theorem dX1_moebius_16 : decode cX1_moebius 16 = .ok (.iload_n 2, 1) := by decide +kernel
theorem dX1_moebius_17 : decode cX1_moebius 17 = .ok (.iaload, 1) := by decide +kernel
theorem dX1_moebius_18 : decode cX1_moebius 18 = .ok (.iconst 1, 1) := by decide +kernel
theorem dX1_moebius_19 : decode cX1_moebius 19 = .ok (.if_icmp .ne 8, 3) := by decide +kernel
theorem dX1_moebius_22 : decode cX1_moebius 22 = .ok (.iload_n 1, 1) := by decide +kernel
theorem dX1_moebius_23 : decode cX1_moebius 23 = .ok (.ineg, 1) := by decide +kernel
theorem dX1_moebius_24 : decode cX1_moebius 24 = .ok (.goto 4, 3) := by decide +kernel
theorem dX1_moebius_27 : decode cX1_moebius 27 = .ok (.iconst 0, 1) := by decide +kernel
theorem dX1_moebius_28 : decode cX1_moebius 28 = .ok (.istore_n 1, 1) := by decide +kernel
theorem dX1_moebius_29 : decode cX1_moebius 29 = .ok (.iinc 2 1, 3) := by decide +kernel
theorem dX1_moebius_32 : decode cX1_moebius 32 = .ok (.goto (-28), 3) := by decide +kernel
theorem dX1_moebius_35 : decode cX1_moebius 35 = .ok (.iload_n 1, 1) := by decide +kernel
theorem dX1_moebius_36 : decode cX1_moebius 36 = .ok (.ireturn, 1) := by decide +kernel
theorem dX1_primeProduct_0 : decode cX1_primeProduct 0 = .ok (.lconst 1, 1) := by decide +kernel
theorem dX1_primeProduct_1 : decode cX1_primeProduct 1 = .ok (.lstore_n 1, 1) := by decide +kernel
theorem dX1_primeProduct_2 : decode cX1_primeProduct 2 = .ok (.iconst 0, 1) := by decide +kernel
theorem dX1_primeProduct_3 : decode cX1_primeProduct 3 = .ok (.istore_n 3, 1) := by decide +kernel
theorem dX1_primeProduct_4 : decode cX1_primeProduct 4 = .ok (.iload_n 3, 1) := by decide +kernel
theorem dX1_primeProduct_5 : decode cX1_primeProduct 5 = .ok (.aload_n 0, 1) := by decide +kernel
theorem dX1_primeProduct_6 : decode cX1_primeProduct 6 = .ok (.getfield 21, 3) := by decide +kernel
theorem dX1_primeProduct_9 : decode cX1_primeProduct 9 = .ok (.if_icmp .ge 18, 3) := by decide +kernel
theorem dX1_primeProduct_12 : decode cX1_primeProduct 12 = .ok (.lload_n 1, 1) := by decide +kernel
theorem dX1_primeProduct_13 : decode cX1_primeProduct 13 = .ok (.aload_n 0, 1) := by decide +kernel
theorem dX1_primeProduct_14 : decode cX1_primeProduct 14 = .ok (.getfield 9, 3) := by decide +kernel
theorem dX1_primeProduct_17 : decode cX1_primeProduct 17 = .ok (.iload_n 3, 1) := by decide +kernel
theorem dX1_primeProduct_18 : decode cX1_primeProduct 18 = .ok (.laload, 1) := by decide +kernel
theorem dX1_primeProduct_19 : decode cX1_primeProduct 19 = .ok (.lmul, 1) := by decide +kernel
theorem dX1_primeProduct_20 : decode cX1_primeProduct 20 = .ok (.lstore_n 1, 1) := by decide +kernel
theorem dX1_primeProduct_21 : decode cX1_primeProduct 21 = .ok (.iinc 3 1, 3) := by decide +kernel
theorem dX1_primeProduct_24 : decode cX1_primeProduct 24 = .ok (.goto (-20), 3) := by decide +kernel
theorem dX1_primeProduct_27 : decode cX1_primeProduct 27 = .ok (.lload_n 1, 1) := by decide +kernel
theorem dX1_primeProduct_28 : decode cX1_primeProduct 28 = .ok (.lreturn, 1) := by decide +kernel
set_option maxRecDepth 20000 in
theorem ggX1_strangersUpTo_J6_bitCount_0f7a4 : GoodIn wsX1_strangersUpTo wsJ6_bitCount_0f7a4 := goodIn_r _ [6, 7, 8, 9] (by decide +kernel) (by decide +kernel)
set_option maxRecDepth 20000 in
theorem gX1_strangersUpTo_J6_bitCount_0f7a4 : GoodIn wsX1_strangersUpTo (va_wsS RX1 38 yJ6_bitCount_0f7a4 wsJ6_bitCount_0f7a4) := goodIn_app (goodIn_of _ (by decide +kernel)) ggX1_strangersUpTo_J6_bitCount_0f7a4
theorem dX1_strangersUpTo_0 : decode cX1_strangersUpTo 0 = .ok (.lconst 0, 1) := by decide +kernel
theorem dX1_strangersUpTo_1 : decode cX1_strangersUpTo 1 = .ok (.lstore_n 3, 1) := by decide +kernel
theorem dX1_strangersUpTo_2 : decode cX1_strangersUpTo 2 = .ok (.iconst 1, 1) := by decide +kernel
theorem dX1_strangersUpTo_3 : decode cX1_strangersUpTo 3 = .ok (.aload_n 0, 1) := by decide +kernel
theorem dX1_strangersUpTo_4 : decode cX1_strangersUpTo 4 = .ok (.getfield 21, 3) := by decide +kernel
theorem dX1_strangersUpTo_7 : decode cX1_strangersUpTo 7 = .ok (.ishl, 1) := by decide +kernel
theorem dX1_strangersUpTo_8 : decode cX1_strangersUpTo 8 = .ok (.istore 5, 2) := by decide +kernel
theorem dX1_strangersUpTo_10 : decode cX1_strangersUpTo 10 = .ok (.iconst 0, 1) := by decide +kernel
theorem dX1_strangersUpTo_11 : decode cX1_strangersUpTo 11 = .ok (.istore 6, 2) := by decide +kernel
theorem dX1_strangersUpTo_13 : decode cX1_strangersUpTo 13 = .ok (.iload 6, 2) := by decide +kernel
theorem dX1_strangersUpTo_15 : decode cX1_strangersUpTo 15 = .ok (.iload 5, 2) := by decide +kernel
theorem dX1_strangersUpTo_17 : decode cX1_strangersUpTo 17 = .ok (.if_icmp .ge 91, 3) := by decide +kernel
theorem dX1_strangersUpTo_20 : decode cX1_strangersUpTo 20 = .ok (.lconst 1, 1) := by decide +kernel
theorem dX1_strangersUpTo_21 : decode cX1_strangersUpTo 21 = .ok (.lstore 7, 2) := by decide +kernel
theorem dX1_strangersUpTo_23 : decode cX1_strangersUpTo 23 = .ok (.iconst 0, 1) := by decide +kernel
theorem dX1_strangersUpTo_24 : decode cX1_strangersUpTo 24 = .ok (.istore 9, 2) := by decide +kernel
theorem dX1_strangersUpTo_26 : decode cX1_strangersUpTo 26 = .ok (.iload 9, 2) := by decide +kernel
theorem dX1_strangersUpTo_28 : decode cX1_strangersUpTo 28 = .ok (.aload_n 0, 1) := by decide +kernel
theorem dX1_strangersUpTo_29 : decode cX1_strangersUpTo 29 = .ok (.getfield 21, 3) := by decide +kernel
theorem dX1_strangersUpTo_32 : decode cX1_strangersUpTo 32 = .ok (.if_icmp .ge 36, 3) := by decide +kernel
theorem dX1_strangersUpTo_35 : decode cX1_strangersUpTo 35 = .ok (.lload 7, 2) := by decide +kernel
theorem dX1_strangersUpTo_37 : decode cX1_strangersUpTo 37 = .ok (.iload 6, 2) := by decide +kernel
theorem dX1_strangersUpTo_39 : decode cX1_strangersUpTo 39 = .ok (.iload 9, 2) := by decide +kernel
theorem dX1_strangersUpTo_41 : decode cX1_strangersUpTo 41 = .ok (.ishr, 1) := by decide +kernel
theorem dX1_strangersUpTo_42 : decode cX1_strangersUpTo 42 = .ok (.iconst 1, 1) := by decide +kernel
theorem dX1_strangersUpTo_43 : decode cX1_strangersUpTo 43 = .ok (.iand, 1) := by decide +kernel
theorem dX1_strangersUpTo_44 : decode cX1_strangersUpTo 44 = .ok (.iconst 1, 1) := by decide +kernel
theorem dX1_strangersUpTo_45 : decode cX1_strangersUpTo 45 = .ok (.if_icmp .ne 13, 3) := by decide +kernel
theorem dX1_strangersUpTo_48 : decode cX1_strangersUpTo 48 = .ok (.aload_n 0, 1) := by decide +kernel
theorem dX1_strangersUpTo_49 : decode cX1_strangersUpTo 49 = .ok (.getfield 9, 3) := by decide +kernel
theorem dX1_strangersUpTo_52 : decode cX1_strangersUpTo 52 = .ok (.iload 9, 2) := by decide +kernel
theorem dX1_strangersUpTo_54 : decode cX1_strangersUpTo 54 = .ok (.laload, 1) := by decide +kernel
theorem dX1_strangersUpTo_55 : decode cX1_strangersUpTo 55 = .ok (.goto 4, 3) := by decide +kernel
theorem dX1_strangersUpTo_58 : decode cX1_strangersUpTo 58 = .ok (.lconst 1, 1) := by decide +kernel
theorem dX1_strangersUpTo_59 : decode cX1_strangersUpTo 59 = .ok (.lmul, 1) := by decide +kernel
theorem dX1_strangersUpTo_60 : decode cX1_strangersUpTo 60 = .ok (.lstore 7, 2) := by decide +kernel
theorem dX1_strangersUpTo_62 : decode cX1_strangersUpTo 62 = .ok (.iinc 9 1, 3) := by decide +kernel
theorem dX1_strangersUpTo_65 : decode cX1_strangersUpTo 65 = .ok (.goto (-39), 3) := by decide +kernel
theorem dX1_strangersUpTo_68 : decode cX1_strangersUpTo 68 = .ok (.lload 7, 2) := by decide +kernel
theorem dX1_strangersUpTo_70 : decode cX1_strangersUpTo 70 = .ok (.lconst 0, 1) := by decide +kernel
theorem dX1_strangersUpTo_71 : decode cX1_strangersUpTo 71 = .ok (.lcmp, 1) := by decide +kernel
theorem dX1_strangersUpTo_72 : decode cX1_strangersUpTo 72 = .ok (.ifCond .le 30, 3) := by decide +kernel
theorem dX1_strangersUpTo_75 : decode cX1_strangersUpTo 75 = .ok (.lload_n 1, 1) := by decide +kernel
theorem dX1_strangersUpTo_76 : decode cX1_strangersUpTo 76 = .ok (.lload 7, 2) := by decide +kernel
theorem dX1_strangersUpTo_78 : decode cX1_strangersUpTo 78 = .ok (.ldiv, 1) := by decide +kernel
theorem dX1_strangersUpTo_79 : decode cX1_strangersUpTo 79 = .ok (.lstore 9, 2) := by decide +kernel
theorem dX1_strangersUpTo_81 : decode cX1_strangersUpTo 81 = .ok (.lload_n 3, 1) := by decide +kernel
theorem dX1_strangersUpTo_82 : decode cX1_strangersUpTo 82 = .ok (.iload 6, 2) := by decide +kernel
theorem dX1_strangersUpTo_84 : decode cX1_strangersUpTo 84 = .ok (.invokestatic 38, 3) := by decide +kernel
theorem dX1_strangersUpTo_87 : decode cX1_strangersUpTo 87 = .ok (.iconst 2, 1) := by decide +kernel
theorem dX1_strangersUpTo_88 : decode cX1_strangersUpTo 88 = .ok (.irem, 1) := by decide +kernel
theorem dX1_strangersUpTo_89 : decode cX1_strangersUpTo 89 = .ok (.ifCond .ne 8, 3) := by decide +kernel
theorem dX1_strangersUpTo_92 : decode cX1_strangersUpTo 92 = .ok (.lload 9, 2) := by decide +kernel
theorem dX1_strangersUpTo_94 : decode cX1_strangersUpTo 94 = .ok (.goto 6, 3) := by decide +kernel
theorem dX1_strangersUpTo_97 : decode cX1_strangersUpTo 97 = .ok (.lload 9, 2) := by decide +kernel
theorem dX1_strangersUpTo_99 : decode cX1_strangersUpTo 99 = .ok (.lneg, 1) := by decide +kernel
theorem dX1_strangersUpTo_100 : decode cX1_strangersUpTo 100 = .ok (.ladd, 1) := by decide +kernel
theorem dX1_strangersUpTo_101 : decode cX1_strangersUpTo 101 = .ok (.lstore_n 3, 1) := by decide +kernel
theorem dX1_strangersUpTo_102 : decode cX1_strangersUpTo 102 = .ok (.iinc 6 1, 3) := by decide +kernel
theorem dX1_strangersUpTo_105 : decode cX1_strangersUpTo 105 = .ok (.goto (-92), 3) := by decide +kernel
theorem dX1_strangersUpTo_108 : decode cX1_strangersUpTo 108 = .ok (.lload_n 3, 1) := by decide +kernel
theorem dX1_strangersUpTo_109 : decode cX1_strangersUpTo 109 = .ok (.lreturn, 1) := by decide +kernel
theorem dX2_init_0 : decode cX2_init 0 = .ok (.aload_n 0, 1) := by decide +kernel
theorem dX2_init_1 : decode cX2_init 1 = .ok (.invokespecial 1, 3) := by decide +kernel
theorem dX2_init_4 : decode cX2_init 4 = .ok (.aload_n 0, 1) := by decide +kernel
theorem dX2_init_5 : decode cX2_init 5 = .ok (.sipush 1415, 3) := by decide +kernel
theorem dX2_init_8 : decode cX2_init 8 = .ok (.newarray .long, 2) := by decide +kernel
theorem dX2_init_10 : decode cX2_init 10 = .ok (.putfield 9, 3) := by decide +kernel
theorem dX2_init_13 : decode cX2_init 13 = .ok (.aload_n 0, 1) := by decide +kernel
theorem dX2_init_14 : decode cX2_init 14 = .ok (.sipush 1415, 3) := by decide +kernel
theorem dX2_init_17 : decode cX2_init 17 = .ok (.newarray .long, 2) := by decide +kernel
theorem dX2_init_19 : decode cX2_init 19 = .ok (.putfield 13, 3) := by decide +kernel
theorem dX2_init_22 : decode cX2_init 22 = .ok (.return_, 1) := by decide +kernel
set_option maxRecDepth 20000 in
theorem ggX2_total_X7_root : GoodIn wsX2_total wsX7_root := goodIn_r _ [11] (by decide +kernel) (by decide +kernel)
set_option maxRecDepth 20000 in
theorem gX2_total_X7_root : GoodIn wsX2_total (va_wsS RX2 16 yX7_root wsX7_root) := goodIn_app (goodIn_of _ (by decide +kernel)) ggX2_total_X7_root
set_option maxRecDepth 20000 in
theorem ggX2_total_X2_allAboveOne : GoodIn wsX2_total wsX2_allAboveOne := goodIn_r _ [15, 16] (by decide +kernel) (by decide +kernel)
set_option maxRecDepth 20000 in
theorem gX2_total_X2_allAboveOne : GoodIn wsX2_total (va_wsS RX2 30 yX2_allAboveOne wsX2_allAboveOne) := goodIn_app (goodIn_of _ (by decide +kernel)) ggX2_total_X2_allAboveOne
set_option maxRecDepth 20000 in
theorem ggX2_total_X2_takeOff : GoodIn wsX2_total wsX2_takeOff := goodIn_r _ [20, 6, 21, 22, 4, 23, 7, 24, 25, 26, 14, 27, 28, 29] (by decide +kernel) (by decide +kernel)
set_option maxRecDepth 20000 in
theorem gX2_total_X2_takeOff : GoodIn wsX2_total (wsV RX2 34 RX2 yX2_takeOff wsX2_takeOff) := goodIn_app (goodIn_of _ (by decide +kernel)) ggX2_total_X2_takeOff
theorem dX2_total_0 : decode cX2_total 0 = .ok (.iload_n 1, 1) := by decide +kernel
theorem dX2_total_1 : decode cX2_total 1 = .ok (.iconst 2, 1) := by decide +kernel
theorem dX2_total_2 : decode cX2_total 2 = .ok (.if_icmp .ge 5, 3) := by decide +kernel
theorem dX2_total_5 : decode cX2_total 5 = .ok (.lconst 0, 1) := by decide +kernel
theorem dX2_total_6 : decode cX2_total 6 = .ok (.lreturn, 1) := by decide +kernel
theorem dX2_total_7 : decode cX2_total 7 = .ok (.iload_n 1, 1) := by decide +kernel
theorem dX2_total_8 : decode cX2_total 8 = .ok (.i2l, 1) := by decide +kernel
theorem dX2_total_9 : decode cX2_total 9 = .ok (.invokestatic 16, 3) := by decide +kernel
theorem dX2_total_12 : decode cX2_total 12 = .ok (.ldc2_w 22, 3) := by decide +kernel
theorem dX2_total_15 : decode cX2_total 15 = .ok (.invokestatic 24, 3) := by decide +kernel
theorem dX2_total_18 : decode cX2_total 18 = .ok (.l2i, 1) := by decide +kernel
theorem dX2_total_19 : decode cX2_total 19 = .ok (.istore_n 3, 1) := by decide +kernel
theorem dX2_total_20 : decode cX2_total 20 = .ok (.aload_n 0, 1) := by decide +kernel
theorem dX2_total_21 : decode cX2_total 21 = .ok (.getfield 9, 3) := by decide +kernel
theorem dX2_total_24 : decode cX2_total 24 = .ok (.iconst 0, 1) := by decide +kernel
theorem dX2_total_25 : decode cX2_total 25 = .ok (.lconst 0, 1) := by decide +kernel
theorem dX2_total_26 : decode cX2_total 26 = .ok (.lastore, 1) := by decide +kernel
theorem dX2_total_27 : decode cX2_total 27 = .ok (.iconst 1, 1) := by decide +kernel
theorem dX2_total_28 : decode cX2_total 28 = .ok (.istore 4, 2) := by decide +kernel
theorem dX2_total_30 : decode cX2_total 30 = .ok (.iload 4, 2) := by decide +kernel
theorem dX2_total_32 : decode cX2_total 32 = .ok (.iload_n 3, 1) := by decide +kernel
theorem dX2_total_33 : decode cX2_total 33 = .ok (.if_icmp .gt 39, 3) := by decide +kernel
theorem dX2_total_36 : decode cX2_total 36 = .ok (.aload_n 0, 1) := by decide +kernel
theorem dX2_total_37 : decode cX2_total 37 = .ok (.getfield 9, 3) := by decide +kernel
theorem dX2_total_40 : decode cX2_total 40 = .ok (.iload 4, 2) := by decide +kernel
theorem dX2_total_42 : decode cX2_total 42 = .ok (.iload 4, 2) := by decide +kernel
theorem dX2_total_44 : decode cX2_total 44 = .ok (.i2l, 1) := by decide +kernel
theorem dX2_total_45 : decode cX2_total 45 = .ok (.iload_n 2, 1) := by decide +kernel
theorem dX2_total_46 : decode cX2_total 46 = .ok (.invokestatic 30, 3) := by decide +kernel
theorem dX2_total_49 : decode cX2_total 49 = .ok (.lastore, 1) := by decide +kernel
theorem dX2_total_50 : decode cX2_total 50 = .ok (.aload_n 0, 1) := by decide +kernel
theorem dX2_total_51 : decode cX2_total 51 = .ok (.getfield 13, 3) := by decide +kernel
theorem dX2_total_54 : decode cX2_total 54 = .ok (.iload 4, 2) := by decide +kernel
theorem dX2_total_56 : decode cX2_total 56 = .ok (.iload_n 1, 1) := by decide +kernel
theorem dX2_total_57 : decode cX2_total 57 = .ok (.iload 4, 2) := by decide +kernel
theorem dX2_total_59 : decode cX2_total 59 = .ok (.idiv, 1) := by decide +kernel
theorem dX2_total_60 : decode cX2_total 60 = .ok (.i2l, 1) := by decide +kernel
theorem dX2_total_61 : decode cX2_total 61 = .ok (.iload_n 2, 1) := by decide +kernel
theorem dX2_total_62 : decode cX2_total 62 = .ok (.invokestatic 30, 3) := by decide +kernel
theorem dX2_total_65 : decode cX2_total 65 = .ok (.lastore, 1) := by decide +kernel
theorem dX2_total_66 : decode cX2_total 66 = .ok (.iinc 4 1, 3) := by decide +kernel
theorem dX2_total_69 : decode cX2_total 69 = .ok (.goto (-39), 3) := by decide +kernel
theorem dX2_total_72 : decode cX2_total 72 = .ok (.iconst 2, 1) := by decide +kernel
theorem dX2_total_73 : decode cX2_total 73 = .ok (.istore 4, 2) := by decide +kernel
theorem dX2_total_75 : decode cX2_total 75 = .ok (.iload 4, 2) := by decide +kernel
theorem dX2_total_77 : decode cX2_total 77 = .ok (.iload_n 3, 1) := by decide +kernel
theorem dX2_total_78 : decode cX2_total 78 = .ok (.if_icmp .gt 48, 3) := by decide +kernel
theorem dX2_total_81 : decode cX2_total 81 = .ok (.aload_n 0, 1) := by decide +kernel
theorem dX2_total_82 : decode cX2_total 82 = .ok (.getfield 9, 3) := by decide +kernel
theorem dX2_total_85 : decode cX2_total 85 = .ok (.iload 4, 2) := by decide +kernel
theorem dX2_total_87 : decode cX2_total 87 = .ok (.laload, 1) := by decide +kernel
theorem dX2_total_88 : decode cX2_total 88 = .ok (.aload_n 0, 1) := by decide +kernel
theorem dX2_total_89 : decode cX2_total 89 = .ok (.getfield 9, 3) := by decide +kernel
theorem dX2_total_92 : decode cX2_total 92 = .ok (.iload 4, 2) := by decide +kernel
theorem dX2_total_94 : decode cX2_total 94 = .ok (.iconst 1, 1) := by decide +kernel
theorem dX2_total_95 : decode cX2_total 95 = .ok (.isub, 1) := by decide +kernel
theorem dX2_total_96 : decode cX2_total 96 = .ok (.laload, 1) := by decide +kernel
theorem dX2_total_97 : decode cX2_total 97 = .ok (.lcmp, 1) := by decide +kernel
theorem dX2_total_98 : decode cX2_total 98 = .ok (.ifCond .eq 22, 3) := by decide +kernel
theorem dX2_total_101 : decode cX2_total 101 = .ok (.aload_n 0, 1) := by decide +kernel
theorem dX2_total_102 : decode cX2_total 102 = .ok (.iload_n 1, 1) := by decide +kernel
theorem dX2_total_103 : decode cX2_total 103 = .ok (.iload_n 3, 1) := by decide +kernel
theorem dX2_total_104 : decode cX2_total 104 = .ok (.iload 4, 2) := by decide +kernel
theorem dX2_total_106 : decode cX2_total 106 = .ok (.iload_n 2, 1) := by decide +kernel
theorem dX2_total_107 : decode cX2_total 107 = .ok (.ifCond .eq 9, 3) := by decide +kernel
theorem dX2_total_110 : decode cX2_total 110 = .ok (.iload 4, 2) := by decide +kernel
theorem dX2_total_112 : decode cX2_total 112 = .ok (.i2l, 1) := by decide +kernel
theorem dX2_total_113 : decode cX2_total 113 = .ok (.goto 4, 3) := by decide +kernel
theorem dX2_total_116 : decode cX2_total 116 = .ok (.lconst 1, 1) := by decide +kernel
theorem dX2_total_117 : decode cX2_total 117 = .ok (.invokevirtual 34, 3) := by decide +kernel
theorem dX2_total_120 : decode cX2_total 120 = .ok (.iinc 4 1, 3) := by decide +kernel
theorem dX2_total_123 : decode cX2_total 123 = .ok (.goto (-48), 3) := by decide +kernel
theorem dX2_total_126 : decode cX2_total 126 = .ok (.aload_n 0, 1) := by decide +kernel
theorem dX2_total_127 : decode cX2_total 127 = .ok (.getfield 13, 3) := by decide +kernel
theorem dX2_total_130 : decode cX2_total 130 = .ok (.iconst 1, 1) := by decide +kernel
theorem dX2_total_131 : decode cX2_total 131 = .ok (.laload, 1) := by decide +kernel
theorem dX2_total_132 : decode cX2_total 132 = .ok (.lreturn, 1) := by decide +kernel
theorem dX2_allAboveOne_0 : decode cX2_allAboveOne 0 = .ok (.iload_n 2, 1) := by decide +kernel
theorem dX2_allAboveOne_1 : decode cX2_allAboveOne 1 = .ok (.ifCond .eq 17, 3) := by decide +kernel
theorem dX2_allAboveOne_4 : decode cX2_allAboveOne 4 = .ok (.lload_n 0, 1) := by decide +kernel
theorem dX2_allAboveOne_5 : decode cX2_allAboveOne 5 = .ok (.lload_n 0, 1) := by decide +kernel
theorem dX2_allAboveOne_6 : decode cX2_allAboveOne 6 = .ok (.lconst 1, 1) := by decide +kernel
theorem dX2_allAboveOne_7 : decode cX2_allAboveOne 7 = .ok (.ladd, 1) := by decide +kernel
theorem dX2_allAboveOne_8 : decode cX2_allAboveOne 8 = .ok (.lmul, 1) := by decide +kernel
theorem dX2_allAboveOne_9 : decode cX2_allAboveOne 9 = .ok (.ldc2_w 38, 3) := by decide +kernel
theorem dX2_allAboveOne_12 : decode cX2_allAboveOne 12 = .ok (.ldiv, 1) := by decide +kernel
theorem dX2_allAboveOne_13 : decode cX2_allAboveOne 13 = .ok (.lconst 1, 1) := by decide +kernel
theorem dX2_allAboveOne_14 : decode cX2_allAboveOne 14 = .ok (.lsub, 1) := by decide +kernel
theorem dX2_allAboveOne_15 : decode cX2_allAboveOne 15 = .ok (.goto 6, 3) := by decide +kernel
theorem dX2_allAboveOne_18 : decode cX2_allAboveOne 18 = .ok (.lload_n 0, 1) := by decide +kernel
theorem dX2_allAboveOne_19 : decode cX2_allAboveOne 19 = .ok (.lconst 1, 1) := by decide +kernel
theorem dX2_allAboveOne_20 : decode cX2_allAboveOne 20 = .ok (.lsub, 1) := by decide +kernel
theorem dX2_allAboveOne_21 : decode cX2_allAboveOne 21 = .ok (.lreturn, 1) := by decide +kernel
set_option maxRecDepth 20000 in
theorem ggX2_takeOff_X2_totalUnder : GoodIn wsX2_takeOff wsX2_totalUnder := goodIn_r _ [11, 6, 1, 12, 13] (by decide +kernel) (by decide +kernel)
set_option maxRecDepth 20000 in
theorem gX2_takeOff_X2_totalUnder : GoodIn wsX2_takeOff (wsV RX2 43 RX2 yX2_totalUnder wsX2_totalUnder) := goodIn_app (goodIn_of _ (by decide +kernel)) ggX2_takeOff_X2_totalUnder
theorem dX2_takeOff_0 : decode cX2_takeOff 0 = .ok (.iload_n 3, 1) := by decide +kernel
theorem dX2_takeOff_1 : decode cX2_takeOff 1 = .ok (.iconst 2, 1) := by decide +kernel
theorem dX2_takeOff_2 : decode cX2_takeOff 2 = .ok (.if_icmp .lt 15, 3) := by decide +kernel
theorem dX2_takeOff_5 : decode cX2_takeOff 5 = .ok (.iload_n 3, 1) := by decide +kernel
theorem dX2_takeOff_6 : decode cX2_takeOff 6 = .ok (.iload_n 2, 1) := by decide +kernel
theorem dX2_takeOff_7 : decode cX2_takeOff 7 = .ok (.if_icmp .gt 10, 3) := by decide +kernel
theorem dX2_takeOff_10 : decode cX2_takeOff 10 = .ok (.iload_n 2, 1) := by decide +kernel
theorem dX2_takeOff_11 : decode cX2_takeOff 11 = .ok (.sipush 1414, 3) := by decide +kernel
theorem dX2_takeOff_14 : decode cX2_takeOff 14 = .ok (.if_icmp .le 4, 3) := by decide +kernel
theorem dX2_takeOff_17 : decode cX2_takeOff 17 = .ok (.return_, 1) := by decide +kernel
theorem dX2_takeOff_18 : decode cX2_takeOff 18 = .ok (.aload_n 0, 1) := by decide +kernel
theorem dX2_takeOff_19 : decode cX2_takeOff 19 = .ok (.getfield 9, 3) := by decide +kernel
theorem dX2_takeOff_22 : decode cX2_takeOff 22 = .ok (.iload_n 3, 1) := by decide +kernel
theorem dX2_takeOff_23 : decode cX2_takeOff 23 = .ok (.iconst 1, 1) := by decide +kernel
theorem dX2_takeOff_24 : decode cX2_takeOff 24 = .ok (.isub, 1) := by decide +kernel
theorem dX2_takeOff_25 : decode cX2_takeOff 25 = .ok (.laload, 1) := by decide +kernel
theorem dX2_takeOff_26 : decode cX2_takeOff 26 = .ok (.lstore 6, 2) := by decide +kernel
theorem dX2_takeOff_28 : decode cX2_takeOff 28 = .ok (.iload_n 3, 1) := by decide +kernel
theorem dX2_takeOff_29 : decode cX2_takeOff 29 = .ok (.iload_n 3, 1) := by decide +kernel
theorem dX2_takeOff_30 : decode cX2_takeOff 30 = .ok (.imul, 1) := by decide +kernel
theorem dX2_takeOff_31 : decode cX2_takeOff 31 = .ok (.istore 8, 2) := by decide +kernel
theorem dX2_takeOff_33 : decode cX2_takeOff 33 = .ok (.iload_n 2, 1) := by decide +kernel
theorem dX2_takeOff_34 : decode cX2_takeOff 34 = .ok (.iload_n 1, 1) := by decide +kernel
theorem dX2_takeOff_35 : decode cX2_takeOff 35 = .ok (.iload 8, 2) := by decide +kernel
theorem dX2_takeOff_37 : decode cX2_takeOff 37 = .ok (.idiv, 1) := by decide +kernel
theorem dX2_takeOff_38 : decode cX2_takeOff 38 = .ok (.invokestatic 40, 3) := by decide +kernel
theorem dX2_takeOff_41 : decode cX2_takeOff 41 = .ok (.istore 9, 2) := by decide +kernel
theorem dX2_takeOff_43 : decode cX2_takeOff 43 = .ok (.iconst 1, 1) := by decide +kernel
theorem dX2_takeOff_44 : decode cX2_takeOff 44 = .ok (.istore 10, 2) := by decide +kernel
theorem dX2_takeOff_46 : decode cX2_takeOff 46 = .ok (.iload 10, 2) := by decide +kernel
theorem dX2_takeOff_48 : decode cX2_takeOff 48 = .ok (.iload 9, 2) := by decide +kernel
theorem dX2_takeOff_50 : decode cX2_takeOff 50 = .ok (.if_icmp .gt 35, 3) := by decide +kernel
theorem dX2_takeOff_53 : decode cX2_takeOff 53 = .ok (.aload_n 0, 1) := by decide +kernel
theorem dX2_takeOff_54 : decode cX2_takeOff 54 = .ok (.getfield 13, 3) := by decide +kernel
theorem dX2_takeOff_57 : decode cX2_takeOff 57 = .ok (.iload 10, 2) := by decide +kernel
theorem dX2_takeOff_59 : decode cX2_takeOff 59 = .ok (.dup2, 1) := by decide +kernel
theorem dX2_takeOff_60 : decode cX2_takeOff 60 = .ok (.laload, 1) := by decide +kernel
theorem dX2_takeOff_61 : decode cX2_takeOff 61 = .ok (.aload_n 0, 1) := by decide +kernel
theorem dX2_takeOff_62 : decode cX2_takeOff 62 = .ok (.iload_n 1, 1) := by decide +kernel
theorem dX2_takeOff_63 : decode cX2_takeOff 63 = .ok (.iload_n 2, 1) := by decide +kernel
theorem dX2_takeOff_64 : decode cX2_takeOff 64 = .ok (.iload 10, 2) := by decide +kernel
theorem dX2_takeOff_66 : decode cX2_takeOff 66 = .ok (.iload_n 3, 1) := by decide +kernel
theorem dX2_takeOff_67 : decode cX2_takeOff 67 = .ok (.imul, 1) := by decide +kernel
theorem dX2_takeOff_68 : decode cX2_takeOff 68 = .ok (.invokevirtual 43, 3) := by decide +kernel
theorem dX2_takeOff_71 : decode cX2_takeOff 71 = .ok (.lload 6, 2) := by decide +kernel
theorem dX2_takeOff_73 : decode cX2_takeOff 73 = .ok (.lsub, 1) := by decide +kernel
theorem dX2_takeOff_74 : decode cX2_takeOff 74 = .ok (.lload 4, 2) := by decide +kernel
theorem dX2_takeOff_76 : decode cX2_takeOff 76 = .ok (.lmul, 1) := by decide +kernel
theorem dX2_takeOff_77 : decode cX2_takeOff 77 = .ok (.lsub, 1) := by decide +kernel
theorem dX2_takeOff_78 : decode cX2_takeOff 78 = .ok (.lastore, 1) := by decide +kernel
theorem dX2_takeOff_79 : decode cX2_takeOff 79 = .ok (.iinc 10 1, 3) := by decide +kernel
theorem dX2_takeOff_82 : decode cX2_takeOff 82 = .ok (.goto (-36), 3) := by decide +kernel
theorem dX2_takeOff_85 : decode cX2_takeOff 85 = .ok (.iload_n 2, 1) := by decide +kernel
theorem dX2_takeOff_86 : decode cX2_takeOff 86 = .ok (.istore 10, 2) := by decide +kernel
theorem dX2_takeOff_88 : decode cX2_takeOff 88 = .ok (.iload 10, 2) := by decide +kernel
theorem dX2_takeOff_90 : decode cX2_takeOff 90 = .ok (.iload 8, 2) := by decide +kernel
theorem dX2_takeOff_92 : decode cX2_takeOff 92 = .ok (.if_icmp .lt 34, 3) := by decide +kernel
theorem dX2_takeOff_95 : decode cX2_takeOff 95 = .ok (.aload_n 0, 1) := by decide +kernel
theorem dX2_takeOff_96 : decode cX2_takeOff 96 = .ok (.getfield 9, 3) := by decide +kernel
theorem dX2_takeOff_99 : decode cX2_takeOff 99 = .ok (.iload 10, 2) := by decide +kernel
theorem dX2_takeOff_101 : decode cX2_takeOff 101 = .ok (.dup2, 1) := by decide +kernel
theorem dX2_takeOff_102 : decode cX2_takeOff 102 = .ok (.laload, 1) := by decide +kernel
theorem dX2_takeOff_103 : decode cX2_takeOff 103 = .ok (.aload_n 0, 1) := by decide +kernel
theorem dX2_takeOff_104 : decode cX2_takeOff 104 = .ok (.getfield 9, 3) := by decide +kernel
theorem dX2_takeOff_107 : decode cX2_takeOff 107 = .ok (.iload 10, 2) := by decide +kernel
theorem dX2_takeOff_109 : decode cX2_takeOff 109 = .ok (.iload_n 3, 1) := by decide +kernel
theorem dX2_takeOff_110 : decode cX2_takeOff 110 = .ok (.idiv, 1) := by decide +kernel
theorem dX2_takeOff_111 : decode cX2_takeOff 111 = .ok (.laload, 1) := by decide +kernel
theorem dX2_takeOff_112 : decode cX2_takeOff 112 = .ok (.lload 6, 2) := by decide +kernel
theorem dX2_takeOff_114 : decode cX2_takeOff 114 = .ok (.lsub, 1) := by decide +kernel
theorem dX2_takeOff_115 : decode cX2_takeOff 115 = .ok (.lload 4, 2) := by decide +kernel
theorem dX2_takeOff_117 : decode cX2_takeOff 117 = .ok (.lmul, 1) := by decide +kernel
theorem dX2_takeOff_118 : decode cX2_takeOff 118 = .ok (.lsub, 1) := by decide +kernel
theorem dX2_takeOff_119 : decode cX2_takeOff 119 = .ok (.lastore, 1) := by decide +kernel
theorem dX2_takeOff_120 : decode cX2_takeOff 120 = .ok (.iinc 10 (-1), 3) := by decide +kernel
theorem dX2_takeOff_123 : decode cX2_takeOff 123 = .ok (.goto (-35), 3) := by decide +kernel
theorem dX2_takeOff_126 : decode cX2_takeOff 126 = .ok (.return_, 1) := by decide +kernel
theorem dX2_totalUnder_0 : decode cX2_totalUnder 0 = .ok (.iload_n 3, 1) := by decide +kernel
theorem dX2_totalUnder_1 : decode cX2_totalUnder 1 = .ok (.iconst 1, 1) := by decide +kernel
theorem dX2_totalUnder_2 : decode cX2_totalUnder 2 = .ok (.if_icmp .ge 5, 3) := by decide +kernel
theorem dX2_totalUnder_5 : decode cX2_totalUnder 5 = .ok (.lconst 0, 1) := by decide +kernel
theorem dX2_totalUnder_6 : decode cX2_totalUnder 6 = .ok (.lreturn, 1) := by decide +kernel
theorem dX2_totalUnder_7 : decode cX2_totalUnder 7 = .ok (.iload_n 3, 1) := by decide +kernel
theorem dX2_totalUnder_8 : decode cX2_totalUnder 8 = .ok (.iload_n 2, 1) := by decide +kernel
theorem dX2_totalUnder_9 : decode cX2_totalUnder 9 = .ok (.if_icmp .gt 10, 3) := by decide +kernel
theorem dX2_totalUnder_12 : decode cX2_totalUnder 12 = .ok (.aload_n 0, 1) := by decide +kernel
theorem dX2_totalUnder_13 : decode cX2_totalUnder 13 = .ok (.getfield 13, 3) := by decide +kernel
theorem dX2_totalUnder_16 : decode cX2_totalUnder 16 = .ok (.iload_n 3, 1) := by decide +kernel
theorem dX2_totalUnder_17 : decode cX2_totalUnder 17 = .ok (.laload, 1) := by decide +kernel
theorem dX2_totalUnder_18 : decode cX2_totalUnder 18 = .ok (.lreturn, 1) := by decide +kernel
theorem dX2_totalUnder_19 : decode cX2_totalUnder 19 = .ok (.iload_n 1, 1) := by decide +kernel
theorem dX2_totalUnder_20 : decode cX2_totalUnder 20 = .ok (.iload_n 3, 1) := by decide +kernel
theorem dX2_totalUnder_21 : decode cX2_totalUnder 21 = .ok (.idiv, 1) := by decide +kernel
theorem dX2_totalUnder_22 : decode cX2_totalUnder 22 = .ok (.istore 4, 2) := by decide +kernel
theorem dX2_totalUnder_24 : decode cX2_totalUnder 24 = .ok (.iload 4, 2) := by decide +kernel
theorem dX2_totalUnder_26 : decode cX2_totalUnder 26 = .ok (.ifCond .lt 19, 3) := by decide +kernel
theorem dX2_totalUnder_29 : decode cX2_totalUnder 29 = .ok (.iload 4, 2) := by decide +kernel
theorem dX2_totalUnder_31 : decode cX2_totalUnder 31 = .ok (.iload_n 2, 1) := by decide +kernel
theorem dX2_totalUnder_32 : decode cX2_totalUnder 32 = .ok (.if_icmp .gt 13, 3) := by decide +kernel
theorem dX2_totalUnder_35 : decode cX2_totalUnder 35 = .ok (.aload_n 0, 1) := by decide +kernel
theorem dX2_totalUnder_36 : decode cX2_totalUnder 36 = .ok (.getfield 9, 3) := by decide +kernel
theorem dX2_totalUnder_39 : decode cX2_totalUnder 39 = .ok (.iload 4, 2) := by decide +kernel
theorem dX2_totalUnder_41 : decode cX2_totalUnder 41 = .ok (.laload, 1) := by decide +kernel
theorem dX2_totalUnder_42 : decode cX2_totalUnder 42 = .ok (.goto 4, 3) := by decide +kernel
theorem dX2_totalUnder_45 : decode cX2_totalUnder 45 = .ok (.lconst 0, 1) := by decide +kernel
theorem dX2_totalUnder_46 : decode cX2_totalUnder 46 = .ok (.lreturn, 1) := by decide +kernel
set_option maxRecDepth 20000 in
theorem ggX3_init_X0_init : GoodIn wsX3_init wsX0_init := goodIn_r _ [14, 15, 2, 3, 16, 17, 40] (by decide +kernel) (by decide +kernel)
set_option maxRecDepth 20000 in
theorem gX3_init_X0_init : GoodIn wsX3_init (wsX0_init) := ggX3_init_X0_init
set_option maxRecDepth 20000 in
theorem ggX3_init_X3_keep : GoodIn wsX3_init wsX3_keep := goodIn_r _ [22, 6, 5, 38, 39] (by decide +kernel) (by decide +kernel)
set_option maxRecDepth 20000 in
theorem gX3_init_X3_keep : GoodIn wsX3_init (wsV RX3 25 RX3 yX3_keep wsX3_keep) := goodIn_app (goodIn_of _ (by decide +kernel)) ggX3_init_X3_keep
set_option maxRecDepth 20000 in
theorem ggX3_init_X0_isMarked : GoodIn wsX3_init wsX0_isMarked := goodIn_r _ [26, 17, 40] (by decide +kernel) (by decide +kernel)
set_option maxRecDepth 20000 in
theorem gX3_init_X0_isMarked : GoodIn wsX3_init (wsV RX3 29 RX0 yX0_isMarked wsX0_isMarked) := goodIn_app (goodIn_of _ (by decide +kernel)) ggX3_init_X0_isMarked
set_option maxRecDepth 20000 in
theorem ggX3_init_X3_strikeOddMultiples : GoodIn wsX3_init wsX3_strikeOddMultiples := goodIn_r _ [29, 11, 10, 30, 31, 32, 9, 33, 17, 34, 35, 36, 37, 40] (by decide +kernel) (by decide +kernel)
set_option maxRecDepth 20000 in
theorem gX3_init_X3_strikeOddMultiples : GoodIn wsX3_init (va_wsS RX3 33 yX3_strikeOddMultiples wsX3_strikeOddMultiples) := goodIn_app (goodIn_of _ (by decide +kernel)) ggX3_init_X3_strikeOddMultiples
theorem dX3_init_0 : decode cX3_init 0 = .ok (.aload_n 0, 1) := by decide +kernel
theorem dX3_init_1 : decode cX3_init 1 = .ok (.invokespecial 3, 3) := by decide +kernel
theorem dX3_init_4 : decode cX3_init 4 = .ok (.aload_n 0, 1) := by decide +kernel
theorem dX3_init_5 : decode cX3_init 5 = .ok (.sipush 9592, 3) := by decide +kernel
theorem dX3_init_8 : decode cX3_init 8 = .ok (.newarray .int, 2) := by decide +kernel
theorem dX3_init_10 : decode cX3_init 10 = .ok (.putfield 11, 3) := by decide +kernel
theorem dX3_init_13 : decode cX3_init 13 = .ok (.aload_n 0, 1) := by decide +kernel
theorem dX3_init_14 : decode cX3_init 14 = .ok (.iconst 0, 1) := by decide +kernel
theorem dX3_init_15 : decode cX3_init 15 = .ok (.putfield 15, 3) := by decide +kernel
theorem dX3_init_18 : decode cX3_init 18 = .ok (.new 19, 3) := by decide +kernel
theorem dX3_init_21 : decode cX3_init 21 = .ok (.dup, 1) := by decide +kernel
theorem dX3_init_22 : decode cX3_init 22 = .ok (.ldc 21, 2) := by decide +kernel
theorem dX3_init_24 : decode cX3_init 24 = .ok (.invokespecial 22, 3) := by decide +kernel
theorem dX3_init_27 : decode cX3_init 27 = .ok (.astore_n 1, 1) := by decide +kernel
theorem dX3_init_28 : decode cX3_init 28 = .ok (.aload_n 0, 1) := by decide +kernel
theorem dX3_init_29 : decode cX3_init 29 = .ok (.iconst 2, 1) := by decide +kernel
theorem dX3_init_30 : decode cX3_init 30 = .ok (.invokevirtual 25, 3) := by decide +kernel
theorem dX3_init_33 : decode cX3_init 33 = .ok (.iconst 3, 1) := by decide +kernel
theorem dX3_init_34 : decode cX3_init 34 = .ok (.istore_n 2, 1) := by decide +kernel
theorem dX3_init_35 : decode cX3_init 35 = .ok (.iload_n 2, 1) := by decide +kernel
theorem dX3_init_36 : decode cX3_init 36 = .ok (.ldc 28, 2) := by decide +kernel
theorem dX3_init_38 : decode cX3_init 38 = .ok (.if_icmp .gt 27, 3) := by decide +kernel
theorem dX3_init_41 : decode cX3_init 41 = .ok (.aload_n 1, 1) := by decide +kernel
theorem dX3_init_42 : decode cX3_init 42 = .ok (.iload_n 2, 1) := by decide +kernel
theorem dX3_init_43 : decode cX3_init 43 = .ok (.invokevirtual 29, 3) := by decide +kernel
theorem dX3_init_46 : decode cX3_init 46 = .ok (.ifCond .ne 13, 3) := by decide +kernel
theorem dX3_init_49 : decode cX3_init 49 = .ok (.aload_n 0, 1) := by decide +kernel
theorem dX3_init_50 : decode cX3_init 50 = .ok (.iload_n 2, 1) := by decide +kernel
theorem dX3_init_51 : decode cX3_init 51 = .ok (.invokevirtual 25, 3) := by decide +kernel
theorem dX3_init_54 : decode cX3_init 54 = .ok (.aload_n 1, 1) := by decide +kernel
theorem dX3_init_55 : decode cX3_init 55 = .ok (.iload_n 2, 1) := by decide +kernel
theorem dX3_init_56 : decode cX3_init 56 = .ok (.invokestatic 33, 3) := by decide +kernel
theorem dX3_init_59 : decode cX3_init 59 = .ok (.iinc 2 2, 3) := by decide +kernel
theorem dX3_init_62 : decode cX3_init 62 = .ok (.goto (-27), 3) := by decide +kernel
theorem dX3_init_65 : decode cX3_init 65 = .ok (.return_, 1) := by decide +kernel
theorem dX3_keep_0 : decode cX3_keep 0 = .ok (.aload_n 0, 1) := by decide +kernel
theorem dX3_keep_1 : decode cX3_keep 1 = .ok (.getfield 15, 3) := by decide +kernel
theorem dX3_keep_4 : decode cX3_keep 4 = .ok (.ifCond .lt 35, 3) := by decide +kernel
theorem dX3_keep_7 : decode cX3_keep 7 = .ok (.aload_n 0, 1) := by decide +kernel
theorem dX3_keep_8 : decode cX3_keep 8 = .ok (.getfield 15, 3) := by decide +kernel
theorem dX3_keep_11 : decode cX3_keep 11 = .ok (.aload_n 0, 1) := by decide +kernel
theorem dX3_keep_12 : decode cX3_keep 12 = .ok (.getfield 11, 3) := by decide +kernel
theorem dX3_keep_15 : decode cX3_keep 15 = .ok (.arraylength, 1) := by decide +kernel
theorem dX3_keep_16 : decode cX3_keep 16 = .ok (.if_icmp .ge 23, 3) := by decide +kernel
theorem dX3_keep_19 : decode cX3_keep 19 = .ok (.aload_n 0, 1) := by decide +kernel
theorem dX3_keep_20 : decode cX3_keep 20 = .ok (.getfield 11, 3) := by decide +kernel
theorem dX3_keep_23 : decode cX3_keep 23 = .ok (.aload_n 0, 1) := by decide +kernel
theorem dX3_keep_24 : decode cX3_keep 24 = .ok (.getfield 15, 3) := by decide +kernel
theorem dX3_keep_27 : decode cX3_keep 27 = .ok (.iload_n 1, 1) := by decide +kernel
theorem dX3_keep_28 : decode cX3_keep 28 = .ok (.iastore, 1) := by decide +kernel
theorem dX3_keep_29 : decode cX3_keep 29 = .ok (.aload_n 0, 1) := by decide +kernel
theorem dX3_keep_30 : decode cX3_keep 30 = .ok (.dup, 1) := by decide +kernel
theorem dX3_keep_31 : decode cX3_keep 31 = .ok (.getfield 15, 3) := by decide +kernel
theorem dX3_keep_34 : decode cX3_keep 34 = .ok (.iconst 1, 1) := by decide +kernel
theorem dX3_keep_35 : decode cX3_keep 35 = .ok (.iadd, 1) := by decide +kernel
theorem dX3_keep_36 : decode cX3_keep 36 = .ok (.putfield 15, 3) := by decide +kernel
theorem dX3_keep_39 : decode cX3_keep 39 = .ok (.return_, 1) := by decide +kernel
set_option maxRecDepth 20000 in
theorem ggX3_strikeOddMultiples_X0_markEvery : GoodIn wsX3_strikeOddMultiples wsX0_markEvery := goodIn_r _ [7, 8, 9, 10, 11, 12, 13] (by decide +kernel) (by decide +kernel)
set_option maxRecDepth 20000 in
theorem gX3_strikeOddMultiples_X0_markEvery : GoodIn wsX3_strikeOddMultiples (wsV RX3 37 RX0 yX0_markEvery wsX0_markEvery) := goodIn_app (goodIn_of _ (by decide +kernel)) ggX3_strikeOddMultiples_X0_markEvery
theorem dX3_strikeOddMultiples_0 : decode cX3_strikeOddMultiples 0 = .ok (.iload_n 1, 1) := by decide +kernel
theorem dX3_strikeOddMultiples_1 : decode cX3_strikeOddMultiples 1 = .ok (.iconst 2, 1) := by decide +kernel
theorem dX3_strikeOddMultiples_2 : decode cX3_strikeOddMultiples 2 = .ok (.if_icmp .lt 11, 3) := by decide +kernel
theorem dX3_strikeOddMultiples_5 : decode cX3_strikeOddMultiples 5 = .ok (.iload_n 1, 1) := by decide +kernel
theorem dX3_strikeOddMultiples_6 : decode cX3_strikeOddMultiples 6 = .ok (.ldc 28, 2) := by decide +kernel
theorem dX3_strikeOddMultiples_8 : decode cX3_strikeOddMultiples 8 = .ok (.iload_n 1, 1) := by decide +kernel
theorem dX3_strikeOddMultiples_9 : decode cX3_strikeOddMultiples 9 = .ok (.idiv, 1) := by decide +kernel
theorem dX3_strikeOddMultiples_10 : decode cX3_strikeOddMultiples 10 = .ok (.if_icmp .le 4, 3) := by decide +kernel
theorem dX3_strikeOddMultiples_13 : decode cX3_strikeOddMultiples 13 = .ok (.return_, 1) := by decide +kernel
theorem dX3_strikeOddMultiples_14 : decode cX3_strikeOddMultiples 14 = .ok (.aload_n 0, 1) := by decide +kernel
theorem dX3_strikeOddMultiples_15 : decode cX3_strikeOddMultiples 15 = .ok (.iload_n 1, 1) := by decide +kernel
theorem dX3_strikeOddMultiples_16 : decode cX3_strikeOddMultiples 16 = .ok (.iload_n 1, 1) := by decide +kernel
theorem dX3_strikeOddMultiples_17 : decode cX3_strikeOddMultiples 17 = .ok (.imul, 1) := by decide +kernel
theorem dX3_strikeOddMultiples_18 : decode cX3_strikeOddMultiples 18 = .ok (.iconst 2, 1) := by decide +kernel
theorem dX3_strikeOddMultiples_19 : decode cX3_strikeOddMultiples 19 = .ok (.iload_n 1, 1) := by decide +kernel
theorem dX3_strikeOddMultiples_20 : decode cX3_strikeOddMultiples 20 = .ok (.imul, 1) := by decide +kernel
theorem dX3_strikeOddMultiples_21 : decode cX3_strikeOddMultiples 21 = .ok (.ldc 21, 2) := by decide +kernel
theorem dX3_strikeOddMultiples_23 : decode cX3_strikeOddMultiples 23 = .ok (.invokevirtual 37, 3) := by decide +kernel
theorem dX3_strikeOddMultiples_26 : decode cX3_strikeOddMultiples 26 = .ok (.return_, 1) := by decide +kernel
theorem dX3_nth_0 : decode cX3_nth 0 = .ok (.iload_n 1, 1) := by decide +kernel
theorem dX3_nth_1 : decode cX3_nth 1 = .ok (.ifCond .lt 29, 3) := by decide +kernel
theorem dX3_nth_4 : decode cX3_nth 4 = .ok (.iload_n 1, 1) := by decide +kernel
theorem dX3_nth_5 : decode cX3_nth 5 = .ok (.aload_n 0, 1) := by decide +kernel
theorem dX3_nth_6 : decode cX3_nth 6 = .ok (.getfield 15, 3) := by decide +kernel
theorem dX3_nth_9 : decode cX3_nth 9 = .ok (.if_icmp .ge 21, 3) := by decide +kernel
theorem dX3_nth_12 : decode cX3_nth 12 = .ok (.iload_n 1, 1) := by decide +kernel
theorem dX3_nth_13 : decode cX3_nth 13 = .ok (.aload_n 0, 1) := by decide +kernel
theorem dX3_nth_14 : decode cX3_nth 14 = .ok (.getfield 11, 3) := by decide +kernel
theorem dX3_nth_17 : decode cX3_nth 17 = .ok (.arraylength, 1) := by decide +kernel
theorem dX3_nth_18 : decode cX3_nth 18 = .ok (.if_icmp .ge 12, 3) := by decide +kernel
theorem dX3_nth_21 : decode cX3_nth 21 = .ok (.aload_n 0, 1) := by decide +kernel
theorem dX3_nth_22 : decode cX3_nth 22 = .ok (.getfield 11, 3) := by decide +kernel
theorem dX3_nth_25 : decode cX3_nth 25 = .ok (.iload_n 1, 1) := by decide +kernel
theorem dX3_nth_26 : decode cX3_nth 26 = .ok (.iaload, 1) := by decide +kernel
theorem dX3_nth_27 : decode cX3_nth 27 = .ok (.goto 4, 3) := by decide +kernel
theorem dX3_nth_30 : decode cX3_nth 30 = .ok (.iconst 0, 1) := by decide +kernel
theorem dX3_nth_31 : decode cX3_nth 31 = .ok (.ireturn, 1) := by decide +kernel
set_option maxRecDepth 20000 in
theorem ggX3_isPrime_X3_nth : GoodIn wsX3_isPrime wsX3_nth := goodIn_r _ [7, 2, 8, 9, 10] (by decide +kernel) (by decide +kernel)
set_option maxRecDepth 20000 in
theorem gX3_isPrime_X3_nth : GoodIn wsX3_isPrime (wsV RX3 43 RX3 yX3_nth wsX3_nth) := goodIn_app (goodIn_of _ (by decide +kernel)) ggX3_isPrime_X3_nth
theorem dX3_isPrime_0 : decode cX3_isPrime 0 = .ok (.lload_n 1, 1) := by decide +kernel
theorem dX3_isPrime_1 : decode cX3_isPrime 1 = .ok (.ldc2_w 41, 3) := by decide +kernel
theorem dX3_isPrime_4 : decode cX3_isPrime 4 = .ok (.lcmp, 1) := by decide +kernel
theorem dX3_isPrime_5 : decode cX3_isPrime 5 = .ok (.ifCond .ge 5, 3) := by decide +kernel
theorem dX3_isPrime_8 : decode cX3_isPrime 8 = .ok (.iconst 0, 1) := by decide +kernel
theorem dX3_isPrime_9 : decode cX3_isPrime 9 = .ok (.ireturn, 1) := by decide +kernel
theorem dX3_isPrime_10 : decode cX3_isPrime 10 = .ok (.iconst 0, 1) := by decide +kernel
theorem dX3_isPrime_11 : decode cX3_isPrime 11 = .ok (.istore_n 3, 1) := by decide +kernel
theorem dX3_isPrime_12 : decode cX3_isPrime 12 = .ok (.iload_n 3, 1) := by decide +kernel
theorem dX3_isPrime_13 : decode cX3_isPrime 13 = .ok (.aload_n 0, 1) := by decide +kernel
theorem dX3_isPrime_14 : decode cX3_isPrime 14 = .ok (.getfield 15, 3) := by decide +kernel
theorem dX3_isPrime_17 : decode cX3_isPrime 17 = .ok (.if_icmp .ge 49, 3) := by decide +kernel
theorem dX3_isPrime_20 : decode cX3_isPrime 20 = .ok (.aload_n 0, 1) := by decide +kernel
theorem dX3_isPrime_21 : decode cX3_isPrime 21 = .ok (.iload_n 3, 1) := by decide +kernel
theorem dX3_isPrime_22 : decode cX3_isPrime 22 = .ok (.invokevirtual 43, 3) := by decide +kernel
theorem dX3_isPrime_25 : decode cX3_isPrime 25 = .ok (.i2l, 1) := by decide +kernel
theorem dX3_isPrime_26 : decode cX3_isPrime 26 = .ok (.lstore 4, 2) := by decide +kernel
theorem dX3_isPrime_28 : decode cX3_isPrime 28 = .ok (.lload 4, 2) := by decide +kernel
theorem dX3_isPrime_30 : decode cX3_isPrime 30 = .ok (.ldc2_w 41, 3) := by decide +kernel
theorem dX3_isPrime_33 : decode cX3_isPrime 33 = .ok (.lcmp, 1) := by decide +kernel
theorem dX3_isPrime_34 : decode cX3_isPrime 34 = .ok (.ifCond .lt 13, 3) := by decide +kernel
theorem dX3_isPrime_37 : decode cX3_isPrime 37 = .ok (.lload 4, 2) := by decide +kernel
theorem dX3_isPrime_39 : decode cX3_isPrime 39 = .ok (.lload 4, 2) := by decide +kernel
theorem dX3_isPrime_41 : decode cX3_isPrime 41 = .ok (.lmul, 1) := by decide +kernel
theorem dX3_isPrime_42 : decode cX3_isPrime 42 = .ok (.lload_n 1, 1) := by decide +kernel
theorem dX3_isPrime_43 : decode cX3_isPrime 43 = .ok (.lcmp, 1) := by decide +kernel
theorem dX3_isPrime_44 : decode cX3_isPrime 44 = .ok (.ifCond .le 5, 3) := by decide +kernel
theorem dX3_isPrime_47 : decode cX3_isPrime 47 = .ok (.iconst 1, 1) := by decide +kernel
theorem dX3_isPrime_48 : decode cX3_isPrime 48 = .ok (.ireturn, 1) := by decide +kernel
theorem dX3_isPrime_49 : decode cX3_isPrime 49 = .ok (.lload_n 1, 1) := by decide +kernel
theorem dX3_isPrime_50 : decode cX3_isPrime 50 = .ok (.lload 4, 2) := by decide +kernel
theorem dX3_isPrime_52 : decode cX3_isPrime 52 = .ok (.lrem, 1) := by decide +kernel
theorem dX3_isPrime_53 : decode cX3_isPrime 53 = .ok (.lconst 0, 1) := by decide +kernel
theorem dX3_isPrime_54 : decode cX3_isPrime 54 = .ok (.lcmp, 1) := by decide +kernel
theorem dX3_isPrime_55 : decode cX3_isPrime 55 = .ok (.ifCond .ne 5, 3) := by decide +kernel
theorem dX3_isPrime_58 : decode cX3_isPrime 58 = .ok (.iconst 0, 1) := by decide +kernel
theorem dX3_isPrime_59 : decode cX3_isPrime 59 = .ok (.ireturn, 1) := by decide +kernel
theorem dX3_isPrime_60 : decode cX3_isPrime 60 = .ok (.iinc 3 1, 3) := by decide +kernel
theorem dX3_isPrime_63 : decode cX3_isPrime 63 = .ok (.goto (-51), 3) := by decide +kernel
theorem dX3_isPrime_66 : decode cX3_isPrime 66 = .ok (.iconst 1, 1) := by decide +kernel
theorem dX3_isPrime_67 : decode cX3_isPrime 67 = .ok (.ireturn, 1) := by decide +kernel
set_option maxRecDepth 20000 in
theorem ggX3_primeAbove_X3_isPrime : GoodIn wsX3_primeAbove wsX3_isPrime := goodIn_r _ [6, 7, 8, 9, 10, 11, 5, 12, 13, 14, 15] (by decide +kernel) (by decide +kernel)
set_option maxRecDepth 20000 in
theorem gX3_primeAbove_X3_isPrime : GoodIn wsX3_primeAbove (wsV RX3 49 RX3 yX3_isPrime wsX3_isPrime) := goodIn_app (goodIn_of _ (by decide +kernel)) ggX3_primeAbove_X3_isPrime
theorem dX3_primeAbove_0 : decode cX3_primeAbove 0 = .ok (.lload_n 1, 1) := by decide +kernel
theorem dX3_primeAbove_1 : decode cX3_primeAbove 1 = .ok (.lconst 1, 1) := by decide +kernel
theorem dX3_primeAbove_2 : decode cX3_primeAbove 2 = .ok (.ladd, 1) := by decide +kernel
theorem dX3_primeAbove_3 : decode cX3_primeAbove 3 = .ok (.lstore_n 3, 1) := by decide +kernel
theorem dX3_primeAbove_4 : decode cX3_primeAbove 4 = .ok (.lload_n 3, 1) := by decide +kernel
theorem dX3_primeAbove_5 : decode cX3_primeAbove 5 = .ok (.ldc2_w 47, 3) := by decide +kernel
theorem dX3_primeAbove_8 : decode cX3_primeAbove 8 = .ok (.lcmp, 1) := by decide +kernel
theorem dX3_primeAbove_9 : decode cX3_primeAbove 9 = .ok (.ifCond .gt 20, 3) := by decide +kernel
theorem dX3_primeAbove_12 : decode cX3_primeAbove 12 = .ok (.aload_n 0, 1) := by decide +kernel
theorem dX3_primeAbove_13 : decode cX3_primeAbove 13 = .ok (.lload_n 3, 1) := by decide +kernel
theorem dX3_primeAbove_14 : decode cX3_primeAbove 14 = .ok (.invokevirtual 49, 3) := by decide +kernel
theorem dX3_primeAbove_17 : decode cX3_primeAbove 17 = .ok (.ifCond .eq 5, 3) := by decide +kernel
theorem dX3_primeAbove_20 : decode cX3_primeAbove 20 = .ok (.lload_n 3, 1) := by decide +kernel
theorem dX3_primeAbove_21 : decode cX3_primeAbove 21 = .ok (.lreturn, 1) := by decide +kernel
theorem dX3_primeAbove_22 : decode cX3_primeAbove 22 = .ok (.lload_n 3, 1) := by decide +kernel
theorem dX3_primeAbove_23 : decode cX3_primeAbove 23 = .ok (.lconst 1, 1) := by decide +kernel
theorem dX3_primeAbove_24 : decode cX3_primeAbove 24 = .ok (.ladd, 1) := by decide +kernel
theorem dX3_primeAbove_25 : decode cX3_primeAbove 25 = .ok (.lstore_n 3, 1) := by decide +kernel
theorem dX3_primeAbove_26 : decode cX3_primeAbove 26 = .ok (.goto (-22), 3) := by decide +kernel
theorem dX3_primeAbove_29 : decode cX3_primeAbove 29 = .ok (.lconst 0, 1) := by decide +kernel
theorem dX3_primeAbove_30 : decode cX3_primeAbove 30 = .ok (.lreturn, 1) := by decide +kernel
set_option maxRecDepth 20000 in
theorem ggX3_primeBelow_X3_isPrime : GoodIn wsX3_primeBelow wsX3_isPrime := goodIn_r _ [6, 1, 7, 8, 9, 10, 5, 11, 12, 13, 14] (by decide +kernel) (by decide +kernel)
set_option maxRecDepth 20000 in
theorem gX3_primeBelow_X3_isPrime : GoodIn wsX3_primeBelow (wsV RX3 49 RX3 yX3_isPrime wsX3_isPrime) := goodIn_app (goodIn_of _ (by decide +kernel)) ggX3_primeBelow_X3_isPrime
theorem dX3_primeBelow_0 : decode cX3_primeBelow 0 = .ok (.lload_n 1, 1) := by decide +kernel
theorem dX3_primeBelow_1 : decode cX3_primeBelow 1 = .ok (.lconst 1, 1) := by decide +kernel
theorem dX3_primeBelow_2 : decode cX3_primeBelow 2 = .ok (.lsub, 1) := by decide +kernel
theorem dX3_primeBelow_3 : decode cX3_primeBelow 3 = .ok (.lstore_n 3, 1) := by decide +kernel
theorem dX3_primeBelow_4 : decode cX3_primeBelow 4 = .ok (.lload_n 3, 1) := by decide +kernel
theorem dX3_primeBelow_5 : decode cX3_primeBelow 5 = .ok (.ldc2_w 41, 3) := by decide +kernel
theorem dX3_primeBelow_8 : decode cX3_primeBelow 8 = .ok (.lcmp, 1) := by decide +kernel
theorem dX3_primeBelow_9 : decode cX3_primeBelow 9 = .ok (.ifCond .lt 20, 3) := by decide +kernel
theorem dX3_primeBelow_12 : decode cX3_primeBelow 12 = .ok (.aload_n 0, 1) := by decide +kernel
theorem dX3_primeBelow_13 : decode cX3_primeBelow 13 = .ok (.lload_n 3, 1) := by decide +kernel
theorem dX3_primeBelow_14 : decode cX3_primeBelow 14 = .ok (.invokevirtual 49, 3) := by decide +kernel
theorem dX3_primeBelow_17 : decode cX3_primeBelow 17 = .ok (.ifCond .eq 5, 3) := by decide +kernel
theorem dX3_primeBelow_20 : decode cX3_primeBelow 20 = .ok (.lload_n 3, 1) := by decide +kernel
theorem dX3_primeBelow_21 : decode cX3_primeBelow 21 = .ok (.lreturn, 1) := by decide +kernel
theorem dX3_primeBelow_22 : decode cX3_primeBelow 22 = .ok (.lload_n 3, 1) := by decide +kernel
theorem dX3_primeBelow_23 : decode cX3_primeBelow 23 = .ok (.lconst 1, 1) := by decide +kernel
theorem dX3_primeBelow_24 : decode cX3_primeBelow 24 = .ok (.lsub, 1) := by decide +kernel
theorem dX3_primeBelow_25 : decode cX3_primeBelow 25 = .ok (.lstore_n 3, 1) := by decide +kernel
theorem dX3_primeBelow_26 : decode cX3_primeBelow 26 = .ok (.goto (-22), 3) := by decide +kernel
theorem dX3_primeBelow_29 : decode cX3_primeBelow 29 = .ok (.lconst 0, 1) := by decide +kernel
theorem dX3_primeBelow_30 : decode cX3_primeBelow 30 = .ok (.lreturn, 1) := by decide +kernel
set_option maxRecDepth 20000 in
theorem ggX4_init_X0_init : GoodIn wsX4_init wsX0_init := goodIn_r _ [11, 12, 2, 3, 13, 14, 15] (by decide +kernel) (by decide +kernel)
set_option maxRecDepth 20000 in
theorem gX4_init_X0_init : GoodIn wsX4_init (wsX0_init) := ggX4_init_X0_init
theorem dX4_init_0 : decode cX4_init 0 = .ok (.aload_n 0, 1) := by decide +kernel
theorem dX4_init_1 : decode cX4_init 1 = .ok (.invokespecial 3, 3) := by decide +kernel
theorem dX4_init_4 : decode cX4_init 4 = .ok (.aload_n 0, 1) := by decide +kernel
theorem dX4_init_5 : decode cX4_init 5 = .ok (.new 9, 3) := by decide +kernel
theorem dX4_init_8 : decode cX4_init 8 = .ok (.dup, 1) := by decide +kernel
theorem dX4_init_9 : decode cX4_init 9 = .ok (.ldc 13, 2) := by decide +kernel
theorem dX4_init_11 : decode cX4_init 11 = .ok (.invokespecial 14, 3) := by decide +kernel
theorem dX4_init_14 : decode cX4_init 14 = .ok (.putfield 17, 3) := by decide +kernel
theorem dX4_init_17 : decode cX4_init 17 = .ok (.return_, 1) := by decide +kernel
set_option maxRecDepth 20000 in
theorem ggX4_primesOf_X0_wipe : GoodIn wsX4_primesOf wsX0_wipe := goodIn_r _ [11, 12, 13, 14, 15, 16, 52] (by decide +kernel) (by decide +kernel)
set_option maxRecDepth 20000 in
theorem gX4_primesOf_X0_wipe : GoodIn wsX4_primesOf (wsV RX4 27 RX0 yX0_wipe wsX0_wipe) := goodIn_app (goodIn_of _ (by decide +kernel)) ggX4_primesOf_X0_wipe
set_option maxRecDepth 20000 in
theorem ggX4_primesOf_X0_mark : GoodIn wsX4_primesOf wsX0_mark := goodIn_r _ [20, 12, 52] (by decide +kernel) (by decide +kernel)
set_option maxRecDepth 20000 in
theorem gX4_primesOf_X0_mark : GoodIn wsX4_primesOf (wsV RX4 30 RX0 yX0_mark wsX0_mark) := goodIn_app (goodIn_of _ (by decide +kernel)) ggX4_primesOf_X0_mark
set_option maxRecDepth 20000 in
theorem ggX4_primesOf_X3_nth : GoodIn wsX4_primesOf wsX3_nth := goodIn_r _ [25, 26, 27, 50, 51] (by decide +kernel) (by decide +kernel)
set_option maxRecDepth 20000 in
theorem gX4_primesOf_X3_nth : GoodIn wsX4_primesOf (wsV RX4 39 RX3 yX3_nth wsX3_nth) := goodIn_app (goodIn_of _ (by decide +kernel)) ggX4_primesOf_X3_nth
set_option maxRecDepth 20000 in
theorem ggX4_primesOf_X4_strike : GoodIn wsX4_primesOf wsX4_strike := goodIn_r _ [32, 6, 33, 34, 35, 10, 36, 12, 37, 3, 4, 5, 49, 52] (by decide +kernel) (by decide +kernel)
set_option maxRecDepth 20000 in
theorem gX4_primesOf_X4_strike : GoodIn wsX4_primesOf (wsV RX4 43 RX4 yX4_strike wsX4_strike) := goodIn_app (goodIn_of _ (by decide +kernel)) ggX4_primesOf_X4_strike
set_option maxRecDepth 20000 in
theorem ggX4_primesOf_X0_tally : GoodIn wsX4_primesOf wsX0_tally := goodIn_r _ [41, 12, 42, 43, 44, 45, 46, 47, 48, 52] (by decide +kernel) (by decide +kernel)
set_option maxRecDepth 20000 in
theorem gX4_primesOf_X0_tally : GoodIn wsX4_primesOf (wsV RX4 47 RX0 yX0_tally wsX0_tally) := goodIn_app (goodIn_of _ (by decide +kernel)) ggX4_primesOf_X0_tally
theorem dX4_primesOf_0 : decode cX4_primesOf 0 = .ok (.iload_n 2, 1) := by decide +kernel
theorem dX4_primesOf_1 : decode cX4_primesOf 1 = .ok (.iconst 4, 1) := by decide +kernel
theorem dX4_primesOf_2 : decode cX4_primesOf 2 = .ok (.if_icmp .lt 13, 3) := by decide +kernel
theorem dX4_primesOf_5 : decode cX4_primesOf 5 = .ok (.iload_n 1, 1) := by decide +kernel
theorem dX4_primesOf_6 : decode cX4_primesOf 6 = .ok (.iconst 1, 1) := by decide +kernel
theorem dX4_primesOf_7 : decode cX4_primesOf 7 = .ok (.if_icmp .lt 8, 3) := by decide +kernel
theorem dX4_primesOf_10 : decode cX4_primesOf 10 = .ok (.iload_n 1, 1) := by decide +kernel
theorem dX4_primesOf_11 : decode cX4_primesOf 11 = .ok (.iload_n 3, 1) := by decide +kernel
theorem dX4_primesOf_12 : decode cX4_primesOf 12 = .ok (.if_icmp .le 5, 3) := by decide +kernel
theorem dX4_primesOf_15 : decode cX4_primesOf 15 = .ok (.iconst 0, 1) := by decide +kernel
theorem dX4_primesOf_16 : decode cX4_primesOf 16 = .ok (.ireturn, 1) := by decide +kernel
theorem dX4_primesOf_17 : decode cX4_primesOf 17 = .ok (.iload_n 3, 1) := by decide +kernel
theorem dX4_primesOf_18 : decode cX4_primesOf 18 = .ok (.iload_n 1, 1) := by decide +kernel
theorem dX4_primesOf_19 : decode cX4_primesOf 19 = .ok (.isub, 1) := by decide +kernel
theorem dX4_primesOf_20 : decode cX4_primesOf 20 = .ok (.iload_n 2, 1) := by decide +kernel
theorem dX4_primesOf_21 : decode cX4_primesOf 21 = .ok (.idiv, 1) := by decide +kernel
theorem dX4_primesOf_22 : decode cX4_primesOf 22 = .ok (.iconst 1, 1) := by decide +kernel
theorem dX4_primesOf_23 : decode cX4_primesOf 23 = .ok (.iadd, 1) := by decide +kernel
theorem dX4_primesOf_24 : decode cX4_primesOf 24 = .ok (.ldc 13, 2) := by decide +kernel
theorem dX4_primesOf_26 : decode cX4_primesOf 26 = .ok (.invokestatic 21, 3) := by decide +kernel
theorem dX4_primesOf_29 : decode cX4_primesOf 29 = .ok (.istore 5, 2) := by decide +kernel
theorem dX4_primesOf_31 : decode cX4_primesOf 31 = .ok (.aload_n 0, 1) := by decide +kernel
theorem dX4_primesOf_32 : decode cX4_primesOf 32 = .ok (.getfield 17, 3) := by decide +kernel
theorem dX4_primesOf_35 : decode cX4_primesOf 35 = .ok (.invokevirtual 27, 3) := by decide +kernel
theorem dX4_primesOf_38 : decode cX4_primesOf 38 = .ok (.iload_n 1, 1) := by decide +kernel
theorem dX4_primesOf_39 : decode cX4_primesOf 39 = .ok (.iconst 1, 1) := by decide +kernel
theorem dX4_primesOf_40 : decode cX4_primesOf 40 = .ok (.if_icmp .ne 11, 3) := by decide +kernel
theorem dX4_primesOf_43 : decode cX4_primesOf 43 = .ok (.aload_n 0, 1) := by decide +kernel
theorem dX4_primesOf_44 : decode cX4_primesOf 44 = .ok (.getfield 17, 3) := by decide +kernel
theorem dX4_primesOf_47 : decode cX4_primesOf 47 = .ok (.iconst 0, 1) := by decide +kernel
theorem dX4_primesOf_48 : decode cX4_primesOf 48 = .ok (.invokevirtual 30, 3) := by decide +kernel
theorem dX4_primesOf_51 : decode cX4_primesOf 51 = .ok (.iconst 1, 1) := by decide +kernel
theorem dX4_primesOf_52 : decode cX4_primesOf 52 = .ok (.istore 6, 2) := by decide +kernel
theorem dX4_primesOf_54 : decode cX4_primesOf 54 = .ok (.iload 6, 2) := by decide +kernel
theorem dX4_primesOf_56 : decode cX4_primesOf 56 = .ok (.aload 4, 2) := by decide +kernel
theorem dX4_primesOf_58 : decode cX4_primesOf 58 = .ok (.getfield 33, 3) := by decide +kernel
theorem dX4_primesOf_61 : decode cX4_primesOf 61 = .ok (.if_icmp .ge 53, 3) := by decide +kernel
theorem dX4_primesOf_64 : decode cX4_primesOf 64 = .ok (.aload 4, 2) := by decide +kernel
theorem dX4_primesOf_66 : decode cX4_primesOf 66 = .ok (.iload 6, 2) := by decide +kernel
theorem dX4_primesOf_68 : decode cX4_primesOf 68 = .ok (.invokevirtual 39, 3) := by decide +kernel
theorem dX4_primesOf_71 : decode cX4_primesOf 71 = .ok (.istore 7, 2) := by decide +kernel
theorem dX4_primesOf_73 : decode cX4_primesOf 73 = .ok (.iload 7, 2) := by decide +kernel
theorem dX4_primesOf_75 : decode cX4_primesOf 75 = .ok (.iconst 3, 1) := by decide +kernel
theorem dX4_primesOf_76 : decode cX4_primesOf 76 = .ok (.if_icmp .lt 38, 3) := by decide +kernel
theorem dX4_primesOf_79 : decode cX4_primesOf 79 = .ok (.iload 7, 2) := by decide +kernel
theorem dX4_primesOf_81 : decode cX4_primesOf 81 = .ok (.iload_n 3, 1) := by decide +kernel
theorem dX4_primesOf_82 : decode cX4_primesOf 82 = .ok (.iload 7, 2) := by decide +kernel
theorem dX4_primesOf_84 : decode cX4_primesOf 84 = .ok (.idiv, 1) := by decide +kernel
theorem dX4_primesOf_85 : decode cX4_primesOf 85 = .ok (.if_icmp .le 6, 3) := by decide +kernel
theorem dX4_primesOf_88 : decode cX4_primesOf 88 = .ok (.goto 26, 3) := by decide +kernel
theorem dX4_primesOf_91 : decode cX4_primesOf 91 = .ok (.iload_n 2, 1) := by decide +kernel
theorem dX4_primesOf_92 : decode cX4_primesOf 92 = .ok (.iload 7, 2) := by decide +kernel
theorem dX4_primesOf_94 : decode cX4_primesOf 94 = .ok (.irem, 1) := by decide +kernel
theorem dX4_primesOf_95 : decode cX4_primesOf 95 = .ok (.ifCond .eq 13, 3) := by decide +kernel
theorem dX4_primesOf_98 : decode cX4_primesOf 98 = .ok (.aload_n 0, 1) := by decide +kernel
theorem dX4_primesOf_99 : decode cX4_primesOf 99 = .ok (.iload 7, 2) := by decide +kernel
theorem dX4_primesOf_101 : decode cX4_primesOf 101 = .ok (.iload_n 1, 1) := by decide +kernel
theorem dX4_primesOf_102 : decode cX4_primesOf 102 = .ok (.iload_n 2, 1) := by decide +kernel
theorem dX4_primesOf_103 : decode cX4_primesOf 103 = .ok (.iload 5, 2) := by decide +kernel
theorem dX4_primesOf_105 : decode cX4_primesOf 105 = .ok (.invokevirtual 43, 3) := by decide +kernel
theorem dX4_primesOf_108 : decode cX4_primesOf 108 = .ok (.iinc 6 1, 3) := by decide +kernel
theorem dX4_primesOf_111 : decode cX4_primesOf 111 = .ok (.goto (-57), 3) := by decide +kernel
theorem dX4_primesOf_114 : decode cX4_primesOf 114 = .ok (.iload 5, 2) := by decide +kernel
theorem dX4_primesOf_116 : decode cX4_primesOf 116 = .ok (.aload_n 0, 1) := by decide +kernel
theorem dX4_primesOf_117 : decode cX4_primesOf 117 = .ok (.getfield 17, 3) := by decide +kernel
theorem dX4_primesOf_120 : decode cX4_primesOf 120 = .ok (.invokevirtual 47, 3) := by decide +kernel
theorem dX4_primesOf_123 : decode cX4_primesOf 123 = .ok (.isub, 1) := by decide +kernel
theorem dX4_primesOf_124 : decode cX4_primesOf 124 = .ok (.ireturn, 1) := by decide +kernel
set_option maxRecDepth 20000 in
theorem ggX4_strike_X0_markEvery : GoodIn wsX4_strike wsX0_markEvery := goodIn_r _ [6, 7, 8, 9, 10, 11, 13] (by decide +kernel) (by decide +kernel)
set_option maxRecDepth 20000 in
theorem gX4_strike_X0_markEvery : GoodIn wsX4_strike (wsV RX4 51 RX0 yX0_markEvery wsX0_markEvery) := goodIn_app (goodIn_of _ (by decide +kernel)) ggX4_strike_X0_markEvery
theorem dX4_strike_0 : decode cX4_strike 0 = .ok (.iload_n 3, 1) := by decide +kernel
theorem dX4_strike_1 : decode cX4_strike 1 = .ok (.iconst 1, 1) := by decide +kernel
theorem dX4_strike_2 : decode cX4_strike 2 = .ok (.if_icmp .lt 8, 3) := by decide +kernel
theorem dX4_strike_5 : decode cX4_strike 5 = .ok (.iload_n 1, 1) := by decide +kernel
theorem dX4_strike_6 : decode cX4_strike 6 = .ok (.iconst 1, 1) := by decide +kernel
theorem dX4_strike_7 : decode cX4_strike 7 = .ok (.if_icmp .ge 4, 3) := by decide +kernel
theorem dX4_strike_10 : decode cX4_strike 10 = .ok (.return_, 1) := by decide +kernel
theorem dX4_strike_11 : decode cX4_strike 11 = .ok (.iload_n 1, 1) := by decide +kernel
theorem dX4_strike_12 : decode cX4_strike 12 = .ok (.iload_n 1, 1) := by decide +kernel
theorem dX4_strike_13 : decode cX4_strike 13 = .ok (.imul, 1) := by decide +kernel
theorem dX4_strike_14 : decode cX4_strike 14 = .ok (.istore 5, 2) := by decide +kernel
theorem dX4_strike_16 : decode cX4_strike 16 = .ok (.iconst 0, 1) := by decide +kernel
theorem dX4_strike_17 : decode cX4_strike 17 = .ok (.istore 6, 2) := by decide +kernel
theorem dX4_strike_19 : decode cX4_strike 19 = .ok (.iload 6, 2) := by decide +kernel
theorem dX4_strike_21 : decode cX4_strike 21 = .ok (.iload_n 3, 1) := by decide +kernel
theorem dX4_strike_22 : decode cX4_strike 22 = .ok (.if_icmp .ge 25, 3) := by decide +kernel
theorem dX4_strike_25 : decode cX4_strike 25 = .ok (.iload 5, 2) := by decide +kernel
theorem dX4_strike_27 : decode cX4_strike 27 = .ok (.iload_n 3, 1) := by decide +kernel
theorem dX4_strike_28 : decode cX4_strike 28 = .ok (.irem, 1) := by decide +kernel
theorem dX4_strike_29 : decode cX4_strike 29 = .ok (.iload_n 2, 1) := by decide +kernel
theorem dX4_strike_30 : decode cX4_strike 30 = .ok (.if_icmp .eq 17, 3) := by decide +kernel
theorem dX4_strike_33 : decode cX4_strike 33 = .ok (.iload 5, 2) := by decide +kernel
theorem dX4_strike_35 : decode cX4_strike 35 = .ok (.iconst 2, 1) := by decide +kernel
theorem dX4_strike_36 : decode cX4_strike 36 = .ok (.iload_n 1, 1) := by decide +kernel
theorem dX4_strike_37 : decode cX4_strike 37 = .ok (.imul, 1) := by decide +kernel
theorem dX4_strike_38 : decode cX4_strike 38 = .ok (.iadd, 1) := by decide +kernel
theorem dX4_strike_39 : decode cX4_strike 39 = .ok (.istore 5, 2) := by decide +kernel
theorem dX4_strike_41 : decode cX4_strike 41 = .ok (.iinc 6 1, 3) := by decide +kernel
theorem dX4_strike_44 : decode cX4_strike 44 = .ok (.goto (-25), 3) := by decide +kernel
theorem dX4_strike_47 : decode cX4_strike 47 = .ok (.aload_n 0, 1) := by decide +kernel
theorem dX4_strike_48 : decode cX4_strike 48 = .ok (.getfield 17, 3) := by decide +kernel
theorem dX4_strike_51 : decode cX4_strike 51 = .ok (.iload 5, 2) := by decide +kernel
theorem dX4_strike_53 : decode cX4_strike 53 = .ok (.iload_n 2, 1) := by decide +kernel
theorem dX4_strike_54 : decode cX4_strike 54 = .ok (.isub, 1) := by decide +kernel
theorem dX4_strike_55 : decode cX4_strike 55 = .ok (.iload_n 3, 1) := by decide +kernel
theorem dX4_strike_56 : decode cX4_strike 56 = .ok (.idiv, 1) := by decide +kernel
theorem dX4_strike_57 : decode cX4_strike 57 = .ok (.iload_n 1, 1) := by decide +kernel
theorem dX4_strike_58 : decode cX4_strike 58 = .ok (.iload 4, 2) := by decide +kernel
theorem dX4_strike_60 : decode cX4_strike 60 = .ok (.invokevirtual 51, 3) := by decide +kernel
theorem dX4_strike_63 : decode cX4_strike 63 = .ok (.return_, 1) := by decide +kernel
theorem dX5_init_0 : decode cX5_init 0 = .ok (.aload_n 0, 1) := by decide +kernel
theorem dX5_init_1 : decode cX5_init 1 = .ok (.invokespecial 3, 3) := by decide +kernel
theorem dX5_init_4 : decode cX5_init 4 = .ok (.aload_n 0, 1) := by decide +kernel
theorem dX5_init_5 : decode cX5_init 5 = .ok (.sipush 9600, 3) := by decide +kernel
theorem dX5_init_8 : decode cX5_init 8 = .ok (.newarray .long, 2) := by decide +kernel
theorem dX5_init_10 : decode cX5_init 10 = .ok (.putfield 9, 3) := by decide +kernel
theorem dX5_init_13 : decode cX5_init 13 = .ok (.aload_n 0, 1) := by decide +kernel
theorem dX5_init_14 : decode cX5_init 14 = .ok (.iconst 0, 1) := by decide +kernel
theorem dX5_init_15 : decode cX5_init 15 = .ok (.putfield 15, 3) := by decide +kernel
theorem dX5_init_18 : decode cX5_init 18 = .ok (.return_, 1) := by decide +kernel
set_option maxRecDepth 20000 in
theorem ggX5_addZeros_X5_put : GoodIn wsX5_addZeros wsX5_put := goodIn_r _ [6, 7, 8, 9, 5, 10, 11, 12] (by decide +kernel) (by decide +kernel)
set_option maxRecDepth 20000 in
theorem gX5_addZeros_X5_put : GoodIn wsX5_addZeros (wsV RX5 19 RX5 yX5_put wsX5_put) := goodIn_app (goodIn_of _ (by decide +kernel)) ggX5_addZeros_X5_put
theorem dX5_addZeros_0 : decode cX5_addZeros 0 = .ok (.aload_n 0, 1) := by decide +kernel
theorem dX5_addZeros_1 : decode cX5_addZeros 1 = .ok (.getfield 15, 3) := by decide +kernel
theorem dX5_addZeros_4 : decode cX5_addZeros 4 = .ok (.ifCond .lt 12, 3) := by decide +kernel
theorem dX5_addZeros_7 : decode cX5_addZeros 7 = .ok (.aload_n 0, 1) := by decide +kernel
theorem dX5_addZeros_8 : decode cX5_addZeros 8 = .ok (.getfield 15, 3) := by decide +kernel
theorem dX5_addZeros_11 : decode cX5_addZeros 11 = .ok (.bipush 16, 2) := by decide +kernel
theorem dX5_addZeros_13 : decode cX5_addZeros 13 = .ok (.if_icmp .lt 5, 3) := by decide +kernel
theorem dX5_addZeros_16 : decode cX5_addZeros 16 = .ok (.iconst (-1), 1) := by decide +kernel
theorem dX5_addZeros_17 : decode cX5_addZeros 17 = .ok (.ireturn, 1) := by decide +kernel
theorem dX5_addZeros_18 : decode cX5_addZeros 18 = .ok (.aload_n 0, 1) := by decide +kernel
theorem dX5_addZeros_19 : decode cX5_addZeros 19 = .ok (.getfield 15, 3) := by decide +kernel
theorem dX5_addZeros_22 : decode cX5_addZeros 22 = .ok (.istore_n 1, 1) := by decide +kernel
theorem dX5_addZeros_23 : decode cX5_addZeros 23 = .ok (.aload_n 0, 1) := by decide +kernel
theorem dX5_addZeros_24 : decode cX5_addZeros 24 = .ok (.dup, 1) := by decide +kernel
theorem dX5_addZeros_25 : decode cX5_addZeros 25 = .ok (.getfield 15, 3) := by decide +kernel
theorem dX5_addZeros_28 : decode cX5_addZeros 28 = .ok (.iconst 1, 1) := by decide +kernel
theorem dX5_addZeros_29 : decode cX5_addZeros 29 = .ok (.iadd, 1) := by decide +kernel
theorem dX5_addZeros_30 : decode cX5_addZeros 30 = .ok (.putfield 15, 3) := by decide +kernel
theorem dX5_addZeros_33 : decode cX5_addZeros 33 = .ok (.iconst 1, 1) := by decide +kernel
theorem dX5_addZeros_34 : decode cX5_addZeros 34 = .ok (.istore_n 2, 1) := by decide +kernel
theorem dX5_addZeros_35 : decode cX5_addZeros 35 = .ok (.iload_n 2, 1) := by decide +kernel
theorem dX5_addZeros_36 : decode cX5_addZeros 36 = .ok (.sipush 600, 3) := by decide +kernel
theorem dX5_addZeros_39 : decode cX5_addZeros 39 = .ok (.if_icmp .gt 16, 3) := by decide +kernel
theorem dX5_addZeros_42 : decode cX5_addZeros 42 = .ok (.aload_n 0, 1) := by decide +kernel
theorem dX5_addZeros_43 : decode cX5_addZeros 43 = .ok (.iload_n 1, 1) := by decide +kernel
theorem dX5_addZeros_44 : decode cX5_addZeros 44 = .ok (.iload_n 2, 1) := by decide +kernel
theorem dX5_addZeros_45 : decode cX5_addZeros 45 = .ok (.lconst 0, 1) := by decide +kernel
theorem dX5_addZeros_46 : decode cX5_addZeros 46 = .ok (.invokevirtual 19, 3) := by decide +kernel
theorem dX5_addZeros_49 : decode cX5_addZeros 49 = .ok (.iinc 2 1, 3) := by decide +kernel
theorem dX5_addZeros_52 : decode cX5_addZeros 52 = .ok (.goto (-17), 3) := by decide +kernel
theorem dX5_addZeros_55 : decode cX5_addZeros 55 = .ok (.iload_n 1, 1) := by decide +kernel
theorem dX5_addZeros_56 : decode cX5_addZeros 56 = .ok (.ireturn, 1) := by decide +kernel
theorem dX5_isPlace_0 : decode cX5_isPlace 0 = .ok (.iload_n 0, 1) := by decide +kernel
theorem dX5_isPlace_1 : decode cX5_isPlace 1 = .ok (.ifCond .lt 25, 3) := by decide +kernel
theorem dX5_isPlace_4 : decode cX5_isPlace 4 = .ok (.iload_n 0, 1) := by decide +kernel
theorem dX5_isPlace_5 : decode cX5_isPlace 5 = .ok (.bipush 16, 2) := by decide +kernel
theorem dX5_isPlace_7 : decode cX5_isPlace 7 = .ok (.if_icmp .ge 19, 3) := by decide +kernel
theorem dX5_isPlace_10 : decode cX5_isPlace 10 = .ok (.iload_n 1, 1) := by decide +kernel
theorem dX5_isPlace_11 : decode cX5_isPlace 11 = .ok (.iconst 1, 1) := by decide +kernel
theorem dX5_isPlace_12 : decode cX5_isPlace 12 = .ok (.if_icmp .lt 14, 3) := by decide +kernel
theorem dX5_isPlace_15 : decode cX5_isPlace 15 = .ok (.iload_n 1, 1) := by decide +kernel
theorem dX5_isPlace_16 : decode cX5_isPlace 16 = .ok (.sipush 600, 3) := by decide +kernel
theorem dX5_isPlace_19 : decode cX5_isPlace 19 = .ok (.if_icmp .gt 7, 3) := by decide +kernel
theorem dX5_isPlace_22 : decode cX5_isPlace 22 = .ok (.iconst 1, 1) := by decide +kernel
theorem dX5_isPlace_23 : decode cX5_isPlace 23 = .ok (.goto 4, 3) := by decide +kernel
theorem dX5_isPlace_26 : decode cX5_isPlace 26 = .ok (.iconst 0, 1) := by decide +kernel
theorem dX5_isPlace_27 : decode cX5_isPlace 27 = .ok (.ireturn, 1) := by decide +kernel
set_option maxRecDepth 20000 in
theorem ggX5_look_X5_isPlace : GoodIn wsX5_look wsX5_isPlace := goodIn_r _ [5] (by decide +kernel) (by decide +kernel)
set_option maxRecDepth 20000 in
theorem gX5_look_X5_isPlace : GoodIn wsX5_look (va_wsS RX5 23 yX5_isPlace wsX5_isPlace) := goodIn_app (goodIn_of _ (by decide +kernel)) ggX5_look_X5_isPlace
theorem dX5_look_0 : decode cX5_look 0 = .ok (.iload_n 1, 1) := by decide +kernel
theorem dX5_look_1 : decode cX5_look 1 = .ok (.iload_n 2, 1) := by decide +kernel
theorem dX5_look_2 : decode cX5_look 2 = .ok (.invokestatic 23, 3) := by decide +kernel
theorem dX5_look_5 : decode cX5_look 5 = .ok (.ifCond .eq 20, 3) := by decide +kernel
theorem dX5_look_8 : decode cX5_look 8 = .ok (.aload_n 0, 1) := by decide +kernel
theorem dX5_look_9 : decode cX5_look 9 = .ok (.getfield 9, 3) := by decide +kernel
theorem dX5_look_12 : decode cX5_look 12 = .ok (.iload_n 1, 1) := by decide +kernel
theorem dX5_look_13 : decode cX5_look 13 = .ok (.sipush 600, 3) := by decide +kernel
theorem dX5_look_16 : decode cX5_look 16 = .ok (.imul, 1) := by decide +kernel
theorem dX5_look_17 : decode cX5_look 17 = .ok (.iload_n 2, 1) := by decide +kernel
theorem dX5_look_18 : decode cX5_look 18 = .ok (.iadd, 1) := by decide +kernel
theorem dX5_look_19 : decode cX5_look 19 = .ok (.iconst 1, 1) := by decide +kernel
theorem dX5_look_20 : decode cX5_look 20 = .ok (.isub, 1) := by decide +kernel
theorem dX5_look_21 : decode cX5_look 21 = .ok (.laload, 1) := by decide +kernel
theorem dX5_look_22 : decode cX5_look 22 = .ok (.goto 4, 3) := by decide +kernel
theorem dX5_look_25 : decode cX5_look 25 = .ok (.lconst 0, 1) := by decide +kernel
theorem dX5_look_26 : decode cX5_look 26 = .ok (.lreturn, 1) := by decide +kernel
set_option maxRecDepth 20000 in
theorem ggX5_put_X5_isPlace : GoodIn wsX5_put wsX5_isPlace := goodIn_r _ [5] (by decide +kernel) (by decide +kernel)
set_option maxRecDepth 20000 in
theorem gX5_put_X5_isPlace : GoodIn wsX5_put (va_wsS RX5 23 yX5_isPlace wsX5_isPlace) := goodIn_app (goodIn_of _ (by decide +kernel)) ggX5_put_X5_isPlace
theorem dX5_put_0 : decode cX5_put 0 = .ok (.iload_n 1, 1) := by decide +kernel
theorem dX5_put_1 : decode cX5_put 1 = .ok (.iload_n 2, 1) := by decide +kernel
theorem dX5_put_2 : decode cX5_put 2 = .ok (.invokestatic 23, 3) := by decide +kernel
theorem dX5_put_5 : decode cX5_put 5 = .ok (.ifCond .eq 18, 3) := by decide +kernel
theorem dX5_put_8 : decode cX5_put 8 = .ok (.aload_n 0, 1) := by decide +kernel
theorem dX5_put_9 : decode cX5_put 9 = .ok (.getfield 9, 3) := by decide +kernel
theorem dX5_put_12 : decode cX5_put 12 = .ok (.iload_n 1, 1) := by decide +kernel
theorem dX5_put_13 : decode cX5_put 13 = .ok (.sipush 600, 3) := by decide +kernel
theorem dX5_put_16 : decode cX5_put 16 = .ok (.imul, 1) := by decide +kernel
theorem dX5_put_17 : decode cX5_put 17 = .ok (.iload_n 2, 1) := by decide +kernel
theorem dX5_put_18 : decode cX5_put 18 = .ok (.iadd, 1) := by decide +kernel
theorem dX5_put_19 : decode cX5_put 19 = .ok (.iconst 1, 1) := by decide +kernel
theorem dX5_put_20 : decode cX5_put 20 = .ok (.isub, 1) := by decide +kernel
theorem dX5_put_21 : decode cX5_put 21 = .ok (.lload_n 3, 1) := by decide +kernel
theorem dX5_put_22 : decode cX5_put 22 = .ok (.lastore, 1) := by decide +kernel
theorem dX5_put_23 : decode cX5_put 23 = .ok (.return_, 1) := by decide +kernel
set_option maxRecDepth 20000 in
theorem ggX5_increase_X5_look : GoodIn wsX5_increase wsX5_look := goodIn_r _ [5, 6, 7, 8, 4, 9, 14, 15] (by decide +kernel) (by decide +kernel)
set_option maxRecDepth 20000 in
theorem gX5_increase_X5_look : GoodIn wsX5_increase (wsV RX5 27 RX5 yX5_look wsX5_look) := goodIn_app (goodIn_of _ (by decide +kernel)) ggX5_increase_X5_look
set_option maxRecDepth 20000 in
theorem ggX5_increase_X5_put : GoodIn wsX5_increase wsX5_put := goodIn_r _ [13, 6, 7, 8, 4, 9, 14, 15] (by decide +kernel) (by decide +kernel)
set_option maxRecDepth 20000 in
theorem gX5_increase_X5_put : GoodIn wsX5_increase (wsV RX5 19 RX5 yX5_put wsX5_put) := goodIn_app (goodIn_of _ (by decide +kernel)) ggX5_increase_X5_put
theorem dX5_increase_0 : decode cX5_increase 0 = .ok (.aload_n 0, 1) := by decide +kernel
theorem dX5_increase_1 : decode cX5_increase 1 = .ok (.iload_n 1, 1) := by decide +kernel
theorem dX5_increase_2 : decode cX5_increase 2 = .ok (.iload_n 2, 1) := by decide +kernel
theorem dX5_increase_3 : decode cX5_increase 3 = .ok (.aload_n 0, 1) := by decide +kernel
theorem dX5_increase_4 : decode cX5_increase 4 = .ok (.iload_n 1, 1) := by decide +kernel
theorem dX5_increase_5 : decode cX5_increase 5 = .ok (.iload_n 2, 1) := by decide +kernel
theorem dX5_increase_6 : decode cX5_increase 6 = .ok (.invokevirtual 27, 3) := by decide +kernel
theorem dX5_increase_9 : decode cX5_increase 9 = .ok (.lload_n 3, 1) := by decide +kernel
theorem dX5_increase_10 : decode cX5_increase 10 = .ok (.ladd, 1) := by decide +kernel
theorem dX5_increase_11 : decode cX5_increase 11 = .ok (.invokevirtual 19, 3) := by decide +kernel
theorem dX5_increase_14 : decode cX5_increase 14 = .ok (.return_, 1) := by decide +kernel
set_option maxRecDepth 20000 in
theorem ggX5_fillByRule_X5_put : GoodIn wsX5_fillByRule wsX5_put := goodIn_r _ [5, 6, 7, 8, 4, 9, 27, 28] (by decide +kernel) (by decide +kernel)
set_option maxRecDepth 20000 in
theorem gX5_fillByRule_X5_put : GoodIn wsX5_fillByRule (wsV RX5 19 RX5 yX5_put wsX5_put) := goodIn_app (goodIn_of _ (by decide +kernel)) ggX5_fillByRule_X5_put
set_option maxRecDepth 20000 in
theorem ggX5_fillByRule_X5_leastDivisor : GoodIn wsX5_fillByRule wsX5_leastDivisor := goodIn_r _ [12] (by decide +kernel) (by decide +kernel)
set_option maxRecDepth 20000 in
theorem gX5_fillByRule_X5_leastDivisor : GoodIn wsX5_fillByRule (va_wsS RX5 31 yX5_leastDivisor wsX5_leastDivisor) := goodIn_app (goodIn_of _ (by decide +kernel)) ggX5_fillByRule_X5_leastDivisor
set_option maxRecDepth 20000 in
theorem ggX5_fillByRule_X5_atPower : GoodIn wsX5_fillByRule wsX5_atPower := goodIn_r _ [15, 16, 17, 18, 4, 19, 20, 21, 22] (by decide +kernel) (by decide +kernel)
set_option maxRecDepth 20000 in
theorem gX5_fillByRule_X5_atPower : GoodIn wsX5_fillByRule (va_wsS RX5 35 yX5_atPower wsX5_atPower) := goodIn_app (goodIn_of _ (by decide +kernel)) ggX5_fillByRule_X5_atPower
set_option maxRecDepth 20000 in
theorem ggX5_fillByRule_X5_look : GoodIn wsX5_fillByRule wsX5_look := goodIn_r _ [26, 6, 7, 8, 4, 9, 27, 28] (by decide +kernel) (by decide +kernel)
set_option maxRecDepth 20000 in
theorem gX5_fillByRule_X5_look : GoodIn wsX5_fillByRule (wsV RX5 27 RX5 yX5_look wsX5_look) := goodIn_app (goodIn_of _ (by decide +kernel)) ggX5_fillByRule_X5_look
theorem dX5_fillByRule_0 : decode cX5_fillByRule 0 = .ok (.aload_n 0, 1) := by decide +kernel
theorem dX5_fillByRule_1 : decode cX5_fillByRule 1 = .ok (.iload_n 1, 1) := by decide +kernel
theorem dX5_fillByRule_2 : decode cX5_fillByRule 2 = .ok (.iconst 1, 1) := by decide +kernel
theorem dX5_fillByRule_3 : decode cX5_fillByRule 3 = .ok (.lconst 1, 1) := by decide +kernel
theorem dX5_fillByRule_4 : decode cX5_fillByRule 4 = .ok (.invokevirtual 19, 3) := by decide +kernel
theorem dX5_fillByRule_7 : decode cX5_fillByRule 7 = .ok (.iconst 2, 1) := by decide +kernel
theorem dX5_fillByRule_8 : decode cX5_fillByRule 8 = .ok (.istore_n 3, 1) := by decide +kernel
theorem dX5_fillByRule_9 : decode cX5_fillByRule 9 = .ok (.iload_n 3, 1) := by decide +kernel
theorem dX5_fillByRule_10 : decode cX5_fillByRule 10 = .ok (.sipush 600, 3) := by decide +kernel
theorem dX5_fillByRule_13 : decode cX5_fillByRule 13 = .ok (.if_icmp .gt 84, 3) := by decide +kernel
theorem dX5_fillByRule_16 : decode cX5_fillByRule 16 = .ok (.iload_n 3, 1) := by decide +kernel
theorem dX5_fillByRule_17 : decode cX5_fillByRule 17 = .ok (.invokestatic 31, 3) := by decide +kernel
theorem dX5_fillByRule_20 : decode cX5_fillByRule 20 = .ok (.istore 4, 2) := by decide +kernel
theorem dX5_fillByRule_22 : decode cX5_fillByRule 22 = .ok (.iload_n 3, 1) := by decide +kernel
theorem dX5_fillByRule_23 : decode cX5_fillByRule 23 = .ok (.istore 5, 2) := by decide +kernel
theorem dX5_fillByRule_25 : decode cX5_fillByRule 25 = .ok (.iconst 0, 1) := by decide +kernel
theorem dX5_fillByRule_26 : decode cX5_fillByRule 26 = .ok (.istore 6, 2) := by decide +kernel
theorem dX5_fillByRule_28 : decode cX5_fillByRule 28 = .ok (.iconst 0, 1) := by decide +kernel
theorem dX5_fillByRule_29 : decode cX5_fillByRule 29 = .ok (.istore 7, 2) := by decide +kernel
theorem dX5_fillByRule_31 : decode cX5_fillByRule 31 = .ok (.iload 7, 2) := by decide +kernel
theorem dX5_fillByRule_33 : decode cX5_fillByRule 33 = .ok (.bipush 10, 2) := by decide +kernel
theorem dX5_fillByRule_35 : decode cX5_fillByRule 35 = .ok (.if_icmp .ge 33, 3) := by decide +kernel
theorem dX5_fillByRule_38 : decode cX5_fillByRule 38 = .ok (.iload 4, 2) := by decide +kernel
theorem dX5_fillByRule_40 : decode cX5_fillByRule 40 = .ok (.iconst 1, 1) := by decide +kernel
theorem dX5_fillByRule_41 : decode cX5_fillByRule 41 = .ok (.if_icmp .le 27, 3) := by decide +kernel
theorem dX5_fillByRule_44 : decode cX5_fillByRule 44 = .ok (.iload 5, 2) := by decide +kernel
theorem dX5_fillByRule_46 : decode cX5_fillByRule 46 = .ok (.iload 4, 2) := by decide +kernel
theorem dX5_fillByRule_48 : decode cX5_fillByRule 48 = .ok (.irem, 1) := by decide +kernel
theorem dX5_fillByRule_49 : decode cX5_fillByRule 49 = .ok (.ifCond .ne 19, 3) := by decide +kernel
theorem dX5_fillByRule_52 : decode cX5_fillByRule 52 = .ok (.iload 5, 2) := by decide +kernel
theorem dX5_fillByRule_54 : decode cX5_fillByRule 54 = .ok (.iload 4, 2) := by decide +kernel
theorem dX5_fillByRule_56 : decode cX5_fillByRule 56 = .ok (.idiv, 1) := by decide +kernel
theorem dX5_fillByRule_57 : decode cX5_fillByRule 57 = .ok (.istore 5, 2) := by decide +kernel
theorem dX5_fillByRule_59 : decode cX5_fillByRule 59 = .ok (.iinc 6 1, 3) := by decide +kernel
theorem dX5_fillByRule_62 : decode cX5_fillByRule 62 = .ok (.iinc 7 1, 3) := by decide +kernel
theorem dX5_fillByRule_65 : decode cX5_fillByRule 65 = .ok (.goto (-34), 3) := by decide +kernel
theorem dX5_fillByRule_68 : decode cX5_fillByRule 68 = .ok (.aload_n 0, 1) := by decide +kernel
theorem dX5_fillByRule_69 : decode cX5_fillByRule 69 = .ok (.iload_n 1, 1) := by decide +kernel
theorem dX5_fillByRule_70 : decode cX5_fillByRule 70 = .ok (.iload_n 3, 1) := by decide +kernel
theorem dX5_fillByRule_71 : decode cX5_fillByRule 71 = .ok (.iload_n 2, 1) := by decide +kernel
theorem dX5_fillByRule_72 : decode cX5_fillByRule 72 = .ok (.iload 4, 2) := by decide +kernel
theorem dX5_fillByRule_74 : decode cX5_fillByRule 74 = .ok (.i2l, 1) := by decide +kernel
theorem dX5_fillByRule_75 : decode cX5_fillByRule 75 = .ok (.iload 6, 2) := by decide +kernel
theorem dX5_fillByRule_77 : decode cX5_fillByRule 77 = .ok (.invokestatic 35, 3) := by decide +kernel
theorem dX5_fillByRule_80 : decode cX5_fillByRule 80 = .ok (.aload_n 0, 1) := by decide +kernel
theorem dX5_fillByRule_81 : decode cX5_fillByRule 81 = .ok (.iload_n 1, 1) := by decide +kernel
theorem dX5_fillByRule_82 : decode cX5_fillByRule 82 = .ok (.iload 5, 2) := by decide +kernel
theorem dX5_fillByRule_84 : decode cX5_fillByRule 84 = .ok (.invokevirtual 27, 3) := by decide +kernel
theorem dX5_fillByRule_87 : decode cX5_fillByRule 87 = .ok (.lmul, 1) := by decide +kernel
theorem dX5_fillByRule_88 : decode cX5_fillByRule 88 = .ok (.invokevirtual 19, 3) := by decide +kernel
theorem dX5_fillByRule_91 : decode cX5_fillByRule 91 = .ok (.iinc 3 1, 3) := by decide +kernel
theorem dX5_fillByRule_94 : decode cX5_fillByRule 94 = .ok (.goto (-85), 3) := by decide +kernel
theorem dX5_fillByRule_97 : decode cX5_fillByRule 97 = .ok (.return_, 1) := by decide +kernel
theorem dX5_leastDivisor_0 : decode cX5_leastDivisor 0 = .ok (.iconst 2, 1) := by decide +kernel
theorem dX5_leastDivisor_1 : decode cX5_leastDivisor 1 = .ok (.istore_n 1, 1) := by decide +kernel
theorem dX5_leastDivisor_2 : decode cX5_leastDivisor 2 = .ok (.iload_n 1, 1) := by decide +kernel
theorem dX5_leastDivisor_3 : decode cX5_leastDivisor 3 = .ok (.iload_n 1, 1) := by decide +kernel
theorem dX5_leastDivisor_4 : decode cX5_leastDivisor 4 = .ok (.imul, 1) := by decide +kernel
theorem dX5_leastDivisor_5 : decode cX5_leastDivisor 5 = .ok (.iload_n 0, 1) := by decide +kernel
theorem dX5_leastDivisor_6 : decode cX5_leastDivisor 6 = .ok (.if_icmp .gt 24, 3) := by decide +kernel
theorem dX5_leastDivisor_9 : decode cX5_leastDivisor 9 = .ok (.iload_n 1, 1) := by decide +kernel
theorem dX5_leastDivisor_10 : decode cX5_leastDivisor 10 = .ok (.sipush 600, 3) := by decide +kernel
theorem dX5_leastDivisor_13 : decode cX5_leastDivisor 13 = .ok (.if_icmp .gt 17, 3) := by decide +kernel
theorem dX5_leastDivisor_16 : decode cX5_leastDivisor 16 = .ok (.iload_n 0, 1) := by decide +kernel
theorem dX5_leastDivisor_17 : decode cX5_leastDivisor 17 = .ok (.iload_n 1, 1) := by decide +kernel
theorem dX5_leastDivisor_18 : decode cX5_leastDivisor 18 = .ok (.irem, 1) := by decide +kernel
theorem dX5_leastDivisor_19 : decode cX5_leastDivisor 19 = .ok (.ifCond .ne 5, 3) := by decide +kernel
theorem dX5_leastDivisor_22 : decode cX5_leastDivisor 22 = .ok (.iload_n 1, 1) := by decide +kernel
theorem dX5_leastDivisor_23 : decode cX5_leastDivisor 23 = .ok (.ireturn, 1) := by decide +kernel
theorem dX5_leastDivisor_24 : decode cX5_leastDivisor 24 = .ok (.iinc 1 1, 3) := by decide +kernel
theorem dX5_leastDivisor_27 : decode cX5_leastDivisor 27 = .ok (.goto (-25), 3) := by decide +kernel
theorem dX5_leastDivisor_30 : decode cX5_leastDivisor 30 = .ok (.iload_n 0, 1) := by decide +kernel
theorem dX5_leastDivisor_31 : decode cX5_leastDivisor 31 = .ok (.ireturn, 1) := by decide +kernel
set_option maxRecDepth 20000 in
theorem ggX5_atPower_X5_power : GoodIn wsX5_atPower wsX5_power := goodIn_r _ [5] (by decide +kernel) (by decide +kernel)
set_option maxRecDepth 20000 in
theorem gX5_atPower_X5_power : GoodIn wsX5_atPower (va_wsS RX5 39 yX5_power wsX5_power) := goodIn_app (goodIn_of _ (by decide +kernel)) ggX5_atPower_X5_power
set_option maxRecDepth 20000 in
theorem ggX5_atPower_X5_powersUpTo : GoodIn wsX5_atPower wsX5_powersUpTo := goodIn_r _ [8] (by decide +kernel) (by decide +kernel)
set_option maxRecDepth 20000 in
theorem gX5_atPower_X5_powersUpTo : GoodIn wsX5_atPower (va_wsS RX5 45 yX5_powersUpTo wsX5_powersUpTo) := goodIn_app (goodIn_of _ (by decide +kernel)) ggX5_atPower_X5_powersUpTo
theorem dX5_atPower_0 : decode cX5_atPower 0 = .ok (.iload_n 0, 1) := by decide +kernel
theorem dX5_atPower_1 : decode cX5_atPower 1 = .ok (.tableswitch 130 1 9 #[51, 53, 59, 72, 86, 91, 97, 111, 122], 51) := by decide +kernel
theorem dX5_atPower_52 : decode cX5_atPower 52 = .ok (.lconst 1, 1) := by decide +kernel
theorem dX5_atPower_53 : decode cX5_atPower 53 = .ok (.lreturn, 1) := by decide +kernel
theorem dX5_atPower_54 : decode cX5_atPower 54 = .ok (.lload_n 1, 1) := by decide +kernel
theorem dX5_atPower_55 : decode cX5_atPower 55 = .ok (.iload_n 3, 1) := by decide +kernel
theorem dX5_atPower_56 : decode cX5_atPower 56 = .ok (.invokestatic 39, 3) := by decide +kernel
theorem dX5_atPower_59 : decode cX5_atPower 59 = .ok (.lreturn, 1) := by decide +kernel
theorem dX5_atPower_60 : decode cX5_atPower 60 = .ok (.iload_n 3, 1) := by decide +kernel
theorem dX5_atPower_61 : decode cX5_atPower 61 = .ok (.iconst 1, 1) := by decide +kernel
theorem dX5_atPower_62 : decode cX5_atPower 62 = .ok (.if_icmp .ne 9, 3) := by decide +kernel
theorem dX5_atPower_65 : decode cX5_atPower 65 = .ok (.ldc2_w 43, 3) := by decide +kernel
theorem dX5_atPower_68 : decode cX5_atPower 68 = .ok (.goto 4, 3) := by decide +kernel
theorem dX5_atPower_71 : decode cX5_atPower 71 = .ok (.lconst 0, 1) := by decide +kernel
theorem dX5_atPower_72 : decode cX5_atPower 72 = .ok (.lreturn, 1) := by decide +kernel
theorem dX5_atPower_73 : decode cX5_atPower 73 = .ok (.lload_n 1, 1) := by decide +kernel
theorem dX5_atPower_74 : decode cX5_atPower 74 = .ok (.iload_n 3, 1) := by decide +kernel
theorem dX5_atPower_75 : decode cX5_atPower 75 = .ok (.invokestatic 39, 3) := by decide +kernel
theorem dX5_atPower_78 : decode cX5_atPower 78 = .ok (.lload_n 1, 1) := by decide +kernel
theorem dX5_atPower_79 : decode cX5_atPower 79 = .ok (.iload_n 3, 1) := by decide +kernel
theorem dX5_atPower_80 : decode cX5_atPower 80 = .ok (.iconst 1, 1) := by decide +kernel
theorem dX5_atPower_81 : decode cX5_atPower 81 = .ok (.isub, 1) := by decide +kernel
theorem dX5_atPower_82 : decode cX5_atPower 82 = .ok (.invokestatic 39, 3) := by decide +kernel
theorem dX5_atPower_85 : decode cX5_atPower 85 = .ok (.lsub, 1) := by decide +kernel
theorem dX5_atPower_86 : decode cX5_atPower 86 = .ok (.lreturn, 1) := by decide +kernel
theorem dX5_atPower_87 : decode cX5_atPower 87 = .ok (.iload_n 3, 1) := by decide +kernel
theorem dX5_atPower_88 : decode cX5_atPower 88 = .ok (.iconst 1, 1) := by decide +kernel
theorem dX5_atPower_89 : decode cX5_atPower 89 = .ok (.iadd, 1) := by decide +kernel
theorem dX5_atPower_90 : decode cX5_atPower 90 = .ok (.i2l, 1) := by decide +kernel
theorem dX5_atPower_91 : decode cX5_atPower 91 = .ok (.lreturn, 1) := by decide +kernel
theorem dX5_atPower_92 : decode cX5_atPower 92 = .ok (.lload_n 1, 1) := by decide +kernel
theorem dX5_atPower_93 : decode cX5_atPower 93 = .ok (.iload_n 3, 1) := by decide +kernel
theorem dX5_atPower_94 : decode cX5_atPower 94 = .ok (.invokestatic 45, 3) := by decide +kernel
theorem dX5_atPower_97 : decode cX5_atPower 97 = .ok (.lreturn, 1) := by decide +kernel
theorem dX5_atPower_98 : decode cX5_atPower 98 = .ok (.iload_n 3, 1) := by decide +kernel
theorem dX5_atPower_99 : decode cX5_atPower 99 = .ok (.iconst 2, 1) := by decide +kernel
theorem dX5_atPower_100 : decode cX5_atPower 100 = .ok (.irem, 1) := by decide +kernel
theorem dX5_atPower_101 : decode cX5_atPower 101 = .ok (.ifCond .ne 7, 3) := by decide +kernel
theorem dX5_atPower_104 : decode cX5_atPower 104 = .ok (.lconst 1, 1) := by decide +kernel
theorem dX5_atPower_105 : decode cX5_atPower 105 = .ok (.goto 6, 3) := by decide +kernel
theorem dX5_atPower_108 : decode cX5_atPower 108 = .ok (.ldc2_w 43, 3) := by decide +kernel
theorem dX5_atPower_111 : decode cX5_atPower 111 = .ok (.lreturn, 1) := by decide +kernel
theorem dX5_atPower_112 : decode cX5_atPower 112 = .ok (.iload_n 3, 1) := by decide +kernel
theorem dX5_atPower_113 : decode cX5_atPower 113 = .ok (.iconst 1, 1) := by decide +kernel
theorem dX5_atPower_114 : decode cX5_atPower 114 = .ok (.if_icmp .ne 7, 3) := by decide +kernel
theorem dX5_atPower_117 : decode cX5_atPower 117 = .ok (.lconst 1, 1) := by decide +kernel
theorem dX5_atPower_118 : decode cX5_atPower 118 = .ok (.goto 4, 3) := by decide +kernel
theorem dX5_atPower_121 : decode cX5_atPower 121 = .ok (.lconst 0, 1) := by decide +kernel
theorem dX5_atPower_122 : decode cX5_atPower 122 = .ok (.lreturn, 1) := by decide +kernel
theorem dX5_atPower_123 : decode cX5_atPower 123 = .ok (.lload_n 1, 1) := by decide +kernel
theorem dX5_atPower_124 : decode cX5_atPower 124 = .ok (.iconst 2, 1) := by decide +kernel
theorem dX5_atPower_125 : decode cX5_atPower 125 = .ok (.iload_n 3, 1) := by decide +kernel
theorem dX5_atPower_126 : decode cX5_atPower 126 = .ok (.imul, 1) := by decide +kernel
theorem dX5_atPower_127 : decode cX5_atPower 127 = .ok (.invokestatic 39, 3) := by decide +kernel
theorem dX5_atPower_130 : decode cX5_atPower 130 = .ok (.lreturn, 1) := by decide +kernel
theorem dX5_atPower_131 : decode cX5_atPower 131 = .ok (.lconst 0, 1) := by decide +kernel
theorem dX5_atPower_132 : decode cX5_atPower 132 = .ok (.lreturn, 1) := by decide +kernel
theorem dX5_power_0 : decode cX5_power 0 = .ok (.lconst 1, 1) := by decide +kernel
theorem dX5_power_1 : decode cX5_power 1 = .ok (.lstore_n 3, 1) := by decide +kernel
theorem dX5_power_2 : decode cX5_power 2 = .ok (.iconst 0, 1) := by decide +kernel
theorem dX5_power_3 : decode cX5_power 3 = .ok (.istore 5, 2) := by decide +kernel
theorem dX5_power_5 : decode cX5_power 5 = .ok (.iload 5, 2) := by decide +kernel
theorem dX5_power_7 : decode cX5_power 7 = .ok (.iload_n 2, 1) := by decide +kernel
theorem dX5_power_8 : decode cX5_power 8 = .ok (.if_icmp .ge 13, 3) := by decide +kernel
theorem dX5_power_11 : decode cX5_power 11 = .ok (.lload_n 3, 1) := by decide +kernel
theorem dX5_power_12 : decode cX5_power 12 = .ok (.lload_n 0, 1) := by decide +kernel
theorem dX5_power_13 : decode cX5_power 13 = .ok (.lmul, 1) := by decide +kernel
theorem dX5_power_14 : decode cX5_power 14 = .ok (.lstore_n 3, 1) := by decide +kernel
theorem dX5_power_15 : decode cX5_power 15 = .ok (.iinc 5 1, 3) := by decide +kernel
theorem dX5_power_18 : decode cX5_power 18 = .ok (.goto (-13), 3) := by decide +kernel
theorem dX5_power_21 : decode cX5_power 21 = .ok (.lload_n 3, 1) := by decide +kernel
theorem dX5_power_22 : decode cX5_power 22 = .ok (.lreturn, 1) := by decide +kernel
theorem dX5_powersUpTo_0 : decode cX5_powersUpTo 0 = .ok (.lconst 1, 1) := by decide +kernel
theorem dX5_powersUpTo_1 : decode cX5_powersUpTo 1 = .ok (.lstore_n 3, 1) := by decide +kernel
theorem dX5_powersUpTo_2 : decode cX5_powersUpTo 2 = .ok (.iconst 0, 1) := by decide +kernel
theorem dX5_powersUpTo_3 : decode cX5_powersUpTo 3 = .ok (.istore 5, 2) := by decide +kernel
theorem dX5_powersUpTo_5 : decode cX5_powersUpTo 5 = .ok (.iload 5, 2) := by decide +kernel
theorem dX5_powersUpTo_7 : decode cX5_powersUpTo 7 = .ok (.iload_n 2, 1) := by decide +kernel
theorem dX5_powersUpTo_8 : decode cX5_powersUpTo 8 = .ok (.if_icmp .ge 15, 3) := by decide +kernel
theorem dX5_powersUpTo_11 : decode cX5_powersUpTo 11 = .ok (.lload_n 3, 1) := by decide +kernel
theorem dX5_powersUpTo_12 : decode cX5_powersUpTo 12 = .ok (.lload_n 0, 1) := by decide +kernel
theorem dX5_powersUpTo_13 : decode cX5_powersUpTo 13 = .ok (.lmul, 1) := by decide +kernel
theorem dX5_powersUpTo_14 : decode cX5_powersUpTo 14 = .ok (.lconst 1, 1) := by decide +kernel
theorem dX5_powersUpTo_15 : decode cX5_powersUpTo 15 = .ok (.ladd, 1) := by decide +kernel
theorem dX5_powersUpTo_16 : decode cX5_powersUpTo 16 = .ok (.lstore_n 3, 1) := by decide +kernel
theorem dX5_powersUpTo_17 : decode cX5_powersUpTo 17 = .ok (.iinc 5 1, 3) := by decide +kernel
theorem dX5_powersUpTo_20 : decode cX5_powersUpTo 20 = .ok (.goto (-15), 3) := by decide +kernel
theorem dX5_powersUpTo_23 : decode cX5_powersUpTo 23 = .ok (.lload_n 3, 1) := by decide +kernel
theorem dX5_powersUpTo_24 : decode cX5_powersUpTo 24 = .ok (.lreturn, 1) := by decide +kernel
set_option maxRecDepth 20000 in
theorem ggX5_fillByProduct_X5_look : GoodIn wsX5_fillByProduct wsX5_look := goodIn_r _ [5, 6, 7, 8, 4, 9, 18, 19] (by decide +kernel) (by decide +kernel)
set_option maxRecDepth 20000 in
theorem gX5_fillByProduct_X5_look : GoodIn wsX5_fillByProduct (wsV RX5 27 RX5 yX5_look wsX5_look) := goodIn_app (goodIn_of _ (by decide +kernel)) ggX5_fillByProduct_X5_look
set_option maxRecDepth 20000 in
theorem ggX5_fillByProduct_X5_increase : GoodIn wsX5_fillByProduct wsX5_increase := goodIn_r _ [13, 1, 2, 3, 4, 5, 6, 7, 8, 9, 14, 15, 16, 17, 18, 19] (by decide +kernel) (by decide +kernel)
set_option maxRecDepth 20000 in
theorem gX5_fillByProduct_X5_increase : GoodIn wsX5_fillByProduct (wsV RX5 48 RX5 yX5_increase wsX5_increase) := goodIn_app (goodIn_of _ (by decide +kernel)) ggX5_fillByProduct_X5_increase
theorem dX5_fillByProduct_0 : decode cX5_fillByProduct 0 = .ok (.iconst 1, 1) := by decide +kernel
theorem dX5_fillByProduct_1 : decode cX5_fillByProduct 1 = .ok (.istore 4, 2) := by decide +kernel
theorem dX5_fillByProduct_3 : decode cX5_fillByProduct 3 = .ok (.iload 4, 2) := by decide +kernel
theorem dX5_fillByProduct_5 : decode cX5_fillByProduct 5 = .ok (.sipush 600, 3) := by decide +kernel
theorem dX5_fillByProduct_8 : decode cX5_fillByProduct 8 = .ok (.if_icmp .gt 58, 3) := by decide +kernel
theorem dX5_fillByProduct_11 : decode cX5_fillByProduct 11 = .ok (.aload_n 0, 1) := by decide +kernel
theorem dX5_fillByProduct_12 : decode cX5_fillByProduct 12 = .ok (.iload_n 2, 1) := by decide +kernel
theorem dX5_fillByProduct_13 : decode cX5_fillByProduct 13 = .ok (.iload 4, 2) := by decide +kernel
theorem dX5_fillByProduct_15 : decode cX5_fillByProduct 15 = .ok (.invokevirtual 27, 3) := by decide +kernel
theorem dX5_fillByProduct_18 : decode cX5_fillByProduct 18 = .ok (.lstore 5, 2) := by decide +kernel
theorem dX5_fillByProduct_20 : decode cX5_fillByProduct 20 = .ok (.iconst 1, 1) := by decide +kernel
theorem dX5_fillByProduct_21 : decode cX5_fillByProduct 21 = .ok (.istore 7, 2) := by decide +kernel
theorem dX5_fillByProduct_23 : decode cX5_fillByProduct 23 = .ok (.iload 7, 2) := by decide +kernel
theorem dX5_fillByProduct_25 : decode cX5_fillByProduct 25 = .ok (.sipush 600, 3) := by decide +kernel
theorem dX5_fillByProduct_28 : decode cX5_fillByProduct 28 = .ok (.iload 4, 2) := by decide +kernel
theorem dX5_fillByProduct_30 : decode cX5_fillByProduct 30 = .ok (.idiv, 1) := by decide +kernel
theorem dX5_fillByProduct_31 : decode cX5_fillByProduct 31 = .ok (.if_icmp .gt 29, 3) := by decide +kernel
theorem dX5_fillByProduct_34 : decode cX5_fillByProduct 34 = .ok (.aload_n 0, 1) := by decide +kernel
theorem dX5_fillByProduct_35 : decode cX5_fillByProduct 35 = .ok (.iload_n 1, 1) := by decide +kernel
theorem dX5_fillByProduct_36 : decode cX5_fillByProduct 36 = .ok (.iload 4, 2) := by decide +kernel
theorem dX5_fillByProduct_38 : decode cX5_fillByProduct 38 = .ok (.iload 7, 2) := by decide +kernel
theorem dX5_fillByProduct_40 : decode cX5_fillByProduct 40 = .ok (.imul, 1) := by decide +kernel
theorem dX5_fillByProduct_41 : decode cX5_fillByProduct 41 = .ok (.lload 5, 2) := by decide +kernel
theorem dX5_fillByProduct_43 : decode cX5_fillByProduct 43 = .ok (.aload_n 0, 1) := by decide +kernel
theorem dX5_fillByProduct_44 : decode cX5_fillByProduct 44 = .ok (.iload_n 3, 1) := by decide +kernel
theorem dX5_fillByProduct_45 : decode cX5_fillByProduct 45 = .ok (.iload 7, 2) := by decide +kernel
theorem dX5_fillByProduct_47 : decode cX5_fillByProduct 47 = .ok (.invokevirtual 27, 3) := by decide +kernel
theorem dX5_fillByProduct_50 : decode cX5_fillByProduct 50 = .ok (.lmul, 1) := by decide +kernel
theorem dX5_fillByProduct_51 : decode cX5_fillByProduct 51 = .ok (.invokevirtual 48, 3) := by decide +kernel
theorem dX5_fillByProduct_54 : decode cX5_fillByProduct 54 = .ok (.iinc 7 1, 3) := by decide +kernel
theorem dX5_fillByProduct_57 : decode cX5_fillByProduct 57 = .ok (.goto (-34), 3) := by decide +kernel
theorem dX5_fillByProduct_60 : decode cX5_fillByProduct 60 = .ok (.iinc 4 1, 3) := by decide +kernel
theorem dX5_fillByProduct_63 : decode cX5_fillByProduct 63 = .ok (.goto (-60), 3) := by decide +kernel
theorem dX5_fillByProduct_66 : decode cX5_fillByProduct 66 = .ok (.return_, 1) := by decide +kernel
set_option maxRecDepth 20000 in
theorem ggX5_canTurn_X5_look : GoodIn wsX5_canTurn wsX5_look := goodIn_r _ [6, 7, 8, 9, 5, 10, 11, 12] (by decide +kernel) (by decide +kernel)
set_option maxRecDepth 20000 in
theorem gX5_canTurn_X5_look : GoodIn wsX5_canTurn (wsV RX5 27 RX5 yX5_look wsX5_look) := goodIn_app (goodIn_of _ (by decide +kernel)) ggX5_canTurn_X5_look
theorem dX5_canTurn_0 : decode cX5_canTurn 0 = .ok (.aload_n 0, 1) := by decide +kernel
theorem dX5_canTurn_1 : decode cX5_canTurn 1 = .ok (.iload_n 1, 1) := by decide +kernel
theorem dX5_canTurn_2 : decode cX5_canTurn 2 = .ok (.iconst 1, 1) := by decide +kernel
theorem dX5_canTurn_3 : decode cX5_canTurn 3 = .ok (.invokevirtual 27, 3) := by decide +kernel
theorem dX5_canTurn_6 : decode cX5_canTurn 6 = .ok (.lstore_n 2, 1) := by decide +kernel
theorem dX5_canTurn_7 : decode cX5_canTurn 7 = .ok (.lload_n 2, 1) := by decide +kernel
theorem dX5_canTurn_8 : decode cX5_canTurn 8 = .ok (.lconst 1, 1) := by decide +kernel
theorem dX5_canTurn_9 : decode cX5_canTurn 9 = .ok (.lcmp, 1) := by decide +kernel
theorem dX5_canTurn_10 : decode cX5_canTurn 10 = .ok (.ifCond .eq 11, 3) := by decide +kernel
theorem dX5_canTurn_13 : decode cX5_canTurn 13 = .ok (.lload_n 2, 1) := by decide +kernel
theorem dX5_canTurn_14 : decode cX5_canTurn 14 = .ok (.ldc2_w 43, 3) := by decide +kernel
theorem dX5_canTurn_17 : decode cX5_canTurn 17 = .ok (.lcmp, 1) := by decide +kernel
theorem dX5_canTurn_18 : decode cX5_canTurn 18 = .ok (.ifCond .ne 7, 3) := by decide +kernel
theorem dX5_canTurn_21 : decode cX5_canTurn 21 = .ok (.iconst 1, 1) := by decide +kernel
theorem dX5_canTurn_22 : decode cX5_canTurn 22 = .ok (.goto 4, 3) := by decide +kernel
theorem dX5_canTurn_25 : decode cX5_canTurn 25 = .ok (.iconst 0, 1) := by decide +kernel
theorem dX5_canTurn_26 : decode cX5_canTurn 26 = .ok (.ireturn, 1) := by decide +kernel
set_option maxRecDepth 20000 in
theorem ggX5_fillTurned_X5_look : GoodIn wsX5_fillTurned wsX5_look := goodIn_r _ [6, 7, 8, 9, 5, 10, 19, 20] (by decide +kernel) (by decide +kernel)
set_option maxRecDepth 20000 in
theorem gX5_fillTurned_X5_look : GoodIn wsX5_fillTurned (wsV RX5 27 RX5 yX5_look wsX5_look) := goodIn_app (goodIn_of _ (by decide +kernel)) ggX5_fillTurned_X5_look
set_option maxRecDepth 20000 in
theorem ggX5_fillTurned_X5_put : GoodIn wsX5_fillTurned wsX5_put := goodIn_r _ [14, 7, 8, 9, 5, 10, 19, 20] (by decide +kernel) (by decide +kernel)
set_option maxRecDepth 20000 in
theorem gX5_fillTurned_X5_put : GoodIn wsX5_fillTurned (wsV RX5 19 RX5 yX5_put wsX5_put) := goodIn_app (goodIn_of _ (by decide +kernel)) ggX5_fillTurned_X5_put
set_option maxRecDepth 20000 in
theorem ggX5_fillTurned_X5_increase : GoodIn wsX5_fillTurned wsX5_increase := goodIn_r _ [18, 2, 3, 4, 5, 6, 7, 8, 9, 10, 11, 12, 13, 14, 19, 20] (by decide +kernel) (by decide +kernel)
set_option maxRecDepth 20000 in
theorem gX5_fillTurned_X5_increase : GoodIn wsX5_fillTurned (wsV RX5 48 RX5 yX5_increase wsX5_increase) := goodIn_app (goodIn_of _ (by decide +kernel)) ggX5_fillTurned_X5_increase
theorem dX5_fillTurned_0 : decode cX5_fillTurned 0 = .ok (.aload_n 0, 1) := by decide +kernel
theorem dX5_fillTurned_1 : decode cX5_fillTurned 1 = .ok (.iload_n 2, 1) := by decide +kernel
theorem dX5_fillTurned_2 : decode cX5_fillTurned 2 = .ok (.iconst 1, 1) := by decide +kernel
theorem dX5_fillTurned_3 : decode cX5_fillTurned 3 = .ok (.invokevirtual 27, 3) := by decide +kernel
theorem dX5_fillTurned_6 : decode cX5_fillTurned 6 = .ok (.lstore_n 3, 1) := by decide +kernel
theorem dX5_fillTurned_7 : decode cX5_fillTurned 7 = .ok (.aload_n 0, 1) := by decide +kernel
theorem dX5_fillTurned_8 : decode cX5_fillTurned 8 = .ok (.iload_n 1, 1) := by decide +kernel
theorem dX5_fillTurned_9 : decode cX5_fillTurned 9 = .ok (.iconst 1, 1) := by decide +kernel
theorem dX5_fillTurned_10 : decode cX5_fillTurned 10 = .ok (.ldc2_w 43, 3) := by decide +kernel
theorem dX5_fillTurned_13 : decode cX5_fillTurned 13 = .ok (.invokevirtual 19, 3) := by decide +kernel
theorem dX5_fillTurned_16 : decode cX5_fillTurned 16 = .ok (.iconst 1, 1) := by decide +kernel
theorem dX5_fillTurned_17 : decode cX5_fillTurned 17 = .ok (.istore 5, 2) := by decide +kernel
theorem dX5_fillTurned_19 : decode cX5_fillTurned 19 = .ok (.iload 5, 2) := by decide +kernel
theorem dX5_fillTurned_21 : decode cX5_fillTurned 21 = .ok (.sipush 600, 3) := by decide +kernel
theorem dX5_fillTurned_24 : decode cX5_fillTurned 24 = .ok (.if_icmp .gt 70, 3) := by decide +kernel
theorem dX5_fillTurned_27 : decode cX5_fillTurned 27 = .ok (.lload_n 3, 1) := by decide +kernel
theorem dX5_fillTurned_28 : decode cX5_fillTurned 28 = .ok (.lneg, 1) := by decide +kernel
theorem dX5_fillTurned_29 : decode cX5_fillTurned 29 = .ok (.aload_n 0, 1) := by decide +kernel
theorem dX5_fillTurned_30 : decode cX5_fillTurned 30 = .ok (.iload_n 1, 1) := by decide +kernel
theorem dX5_fillTurned_31 : decode cX5_fillTurned 31 = .ok (.iload 5, 2) := by decide +kernel
theorem dX5_fillTurned_33 : decode cX5_fillTurned 33 = .ok (.invokevirtual 27, 3) := by decide +kernel
theorem dX5_fillTurned_36 : decode cX5_fillTurned 36 = .ok (.lmul, 1) := by decide +kernel
theorem dX5_fillTurned_37 : decode cX5_fillTurned 37 = .ok (.lstore 6, 2) := by decide +kernel
theorem dX5_fillTurned_39 : decode cX5_fillTurned 39 = .ok (.aload_n 0, 1) := by decide +kernel
theorem dX5_fillTurned_40 : decode cX5_fillTurned 40 = .ok (.iload_n 1, 1) := by decide +kernel
theorem dX5_fillTurned_41 : decode cX5_fillTurned 41 = .ok (.iload 5, 2) := by decide +kernel
theorem dX5_fillTurned_43 : decode cX5_fillTurned 43 = .ok (.lload 6, 2) := by decide +kernel
theorem dX5_fillTurned_45 : decode cX5_fillTurned 45 = .ok (.invokevirtual 19, 3) := by decide +kernel
theorem dX5_fillTurned_48 : decode cX5_fillTurned 48 = .ok (.iconst 2, 1) := by decide +kernel
theorem dX5_fillTurned_49 : decode cX5_fillTurned 49 = .ok (.istore 8, 2) := by decide +kernel
theorem dX5_fillTurned_51 : decode cX5_fillTurned 51 = .ok (.iload 8, 2) := by decide +kernel
theorem dX5_fillTurned_53 : decode cX5_fillTurned 53 = .ok (.sipush 600, 3) := by decide +kernel
theorem dX5_fillTurned_56 : decode cX5_fillTurned 56 = .ok (.iload 5, 2) := by decide +kernel
theorem dX5_fillTurned_58 : decode cX5_fillTurned 58 = .ok (.idiv, 1) := by decide +kernel
theorem dX5_fillTurned_59 : decode cX5_fillTurned 59 = .ok (.if_icmp .gt 29, 3) := by decide +kernel
theorem dX5_fillTurned_62 : decode cX5_fillTurned 62 = .ok (.aload_n 0, 1) := by decide +kernel
theorem dX5_fillTurned_63 : decode cX5_fillTurned 63 = .ok (.iload_n 1, 1) := by decide +kernel
theorem dX5_fillTurned_64 : decode cX5_fillTurned 64 = .ok (.iload 5, 2) := by decide +kernel
theorem dX5_fillTurned_66 : decode cX5_fillTurned 66 = .ok (.iload 8, 2) := by decide +kernel
theorem dX5_fillTurned_68 : decode cX5_fillTurned 68 = .ok (.imul, 1) := by decide +kernel
theorem dX5_fillTurned_69 : decode cX5_fillTurned 69 = .ok (.lload 6, 2) := by decide +kernel
theorem dX5_fillTurned_71 : decode cX5_fillTurned 71 = .ok (.aload_n 0, 1) := by decide +kernel
theorem dX5_fillTurned_72 : decode cX5_fillTurned 72 = .ok (.iload_n 2, 1) := by decide +kernel
theorem dX5_fillTurned_73 : decode cX5_fillTurned 73 = .ok (.iload 8, 2) := by decide +kernel
theorem dX5_fillTurned_75 : decode cX5_fillTurned 75 = .ok (.invokevirtual 27, 3) := by decide +kernel
theorem dX5_fillTurned_78 : decode cX5_fillTurned 78 = .ok (.lmul, 1) := by decide +kernel
theorem dX5_fillTurned_79 : decode cX5_fillTurned 79 = .ok (.invokevirtual 48, 3) := by decide +kernel
theorem dX5_fillTurned_82 : decode cX5_fillTurned 82 = .ok (.iinc 8 1, 3) := by decide +kernel
theorem dX5_fillTurned_85 : decode cX5_fillTurned 85 = .ok (.goto (-34), 3) := by decide +kernel
theorem dX5_fillTurned_88 : decode cX5_fillTurned 88 = .ok (.iinc 5 1, 3) := by decide +kernel
theorem dX5_fillTurned_91 : decode cX5_fillTurned 91 = .ok (.goto (-72), 3) := by decide +kernel
theorem dX5_fillTurned_94 : decode cX5_fillTurned 94 = .ok (.return_, 1) := by decide +kernel
set_option maxRecDepth 20000 in
theorem ggX5_sumTo_X5_look : GoodIn wsX5_sumTo wsX5_look := goodIn_r _ [5, 6, 7, 8, 4, 9, 10, 11] (by decide +kernel) (by decide +kernel)
set_option maxRecDepth 20000 in
theorem gX5_sumTo_X5_look : GoodIn wsX5_sumTo (wsV RX5 27 RX5 yX5_look wsX5_look) := goodIn_app (goodIn_of _ (by decide +kernel)) ggX5_sumTo_X5_look
theorem dX5_sumTo_0 : decode cX5_sumTo 0 = .ok (.lconst 0, 1) := by decide +kernel
theorem dX5_sumTo_1 : decode cX5_sumTo 1 = .ok (.lstore_n 3, 1) := by decide +kernel
theorem dX5_sumTo_2 : decode cX5_sumTo 2 = .ok (.iconst 1, 1) := by decide +kernel
theorem dX5_sumTo_3 : decode cX5_sumTo 3 = .ok (.istore 5, 2) := by decide +kernel
theorem dX5_sumTo_5 : decode cX5_sumTo 5 = .ok (.iload 5, 2) := by decide +kernel
theorem dX5_sumTo_7 : decode cX5_sumTo 7 = .ok (.iload_n 2, 1) := by decide +kernel
theorem dX5_sumTo_8 : decode cX5_sumTo 8 = .ok (.if_icmp .gt 27, 3) := by decide +kernel
theorem dX5_sumTo_11 : decode cX5_sumTo 11 = .ok (.iload 5, 2) := by decide +kernel
theorem dX5_sumTo_13 : decode cX5_sumTo 13 = .ok (.sipush 600, 3) := by decide +kernel
theorem dX5_sumTo_16 : decode cX5_sumTo 16 = .ok (.if_icmp .gt 19, 3) := by decide +kernel
theorem dX5_sumTo_19 : decode cX5_sumTo 19 = .ok (.lload_n 3, 1) := by decide +kernel
theorem dX5_sumTo_20 : decode cX5_sumTo 20 = .ok (.aload_n 0, 1) := by decide +kernel
theorem dX5_sumTo_21 : decode cX5_sumTo 21 = .ok (.iload_n 1, 1) := by decide +kernel
theorem dX5_sumTo_22 : decode cX5_sumTo 22 = .ok (.iload 5, 2) := by decide +kernel
theorem dX5_sumTo_24 : decode cX5_sumTo 24 = .ok (.invokevirtual 27, 3) := by decide +kernel
theorem dX5_sumTo_27 : decode cX5_sumTo 27 = .ok (.ladd, 1) := by decide +kernel
theorem dX5_sumTo_28 : decode cX5_sumTo 28 = .ok (.lstore_n 3, 1) := by decide +kernel
theorem dX5_sumTo_29 : decode cX5_sumTo 29 = .ok (.iinc 5 1, 3) := by decide +kernel
theorem dX5_sumTo_32 : decode cX5_sumTo 32 = .ok (.goto (-27), 3) := by decide +kernel
theorem dX5_sumTo_35 : decode cX5_sumTo 35 = .ok (.lload_n 3, 1) := by decide +kernel
theorem dX5_sumTo_36 : decode cX5_sumTo 36 = .ok (.lreturn, 1) := by decide +kernel
set_option maxRecDepth 20000 in
theorem ggX5_firstDifference_X5_look : GoodIn wsX5_firstDifference wsX5_look := goodIn_r _ [5, 6, 7, 8, 4, 9, 10, 11] (by decide +kernel) (by decide +kernel)
set_option maxRecDepth 20000 in
theorem gX5_firstDifference_X5_look : GoodIn wsX5_firstDifference (wsV RX5 27 RX5 yX5_look wsX5_look) := goodIn_app (goodIn_of _ (by decide +kernel)) ggX5_firstDifference_X5_look
theorem dX5_firstDifference_0 : decode cX5_firstDifference 0 = .ok (.iconst 1, 1) := by decide +kernel
theorem dX5_firstDifference_1 : decode cX5_firstDifference 1 = .ok (.istore_n 3, 1) := by decide +kernel
theorem dX5_firstDifference_2 : decode cX5_firstDifference 2 = .ok (.iload_n 3, 1) := by decide +kernel
theorem dX5_firstDifference_3 : decode cX5_firstDifference 3 = .ok (.sipush 600, 3) := by decide +kernel
theorem dX5_firstDifference_6 : decode cX5_firstDifference 6 = .ok (.if_icmp .gt 27, 3) := by decide +kernel
theorem dX5_firstDifference_9 : decode cX5_firstDifference 9 = .ok (.aload_n 0, 1) := by decide +kernel
theorem dX5_firstDifference_10 : decode cX5_firstDifference 10 = .ok (.iload_n 1, 1) := by decide +kernel
theorem dX5_firstDifference_11 : decode cX5_firstDifference 11 = .ok (.iload_n 3, 1) := by decide +kernel
theorem dX5_firstDifference_12 : decode cX5_firstDifference 12 = .ok (.invokevirtual 27, 3) := by decide +kernel
theorem dX5_firstDifference_15 : decode cX5_firstDifference 15 = .ok (.aload_n 0, 1) := by decide +kernel
theorem dX5_firstDifference_16 : decode cX5_firstDifference 16 = .ok (.iload_n 2, 1) := by decide +kernel
theorem dX5_firstDifference_17 : decode cX5_firstDifference 17 = .ok (.iload_n 3, 1) := by decide +kernel
theorem dX5_firstDifference_18 : decode cX5_firstDifference 18 = .ok (.invokevirtual 27, 3) := by decide +kernel
theorem dX5_firstDifference_21 : decode cX5_firstDifference 21 = .ok (.lcmp, 1) := by decide +kernel
theorem dX5_firstDifference_22 : decode cX5_firstDifference 22 = .ok (.ifCond .eq 5, 3) := by decide +kernel
theorem dX5_firstDifference_25 : decode cX5_firstDifference 25 = .ok (.iload_n 3, 1) := by decide +kernel
theorem dX5_firstDifference_26 : decode cX5_firstDifference 26 = .ok (.ireturn, 1) := by decide +kernel
theorem dX5_firstDifference_27 : decode cX5_firstDifference 27 = .ok (.iinc 3 1, 3) := by decide +kernel
theorem dX5_firstDifference_30 : decode cX5_firstDifference 30 = .ok (.goto (-28), 3) := by decide +kernel
theorem dX5_firstDifference_33 : decode cX5_firstDifference 33 = .ok (.iconst 0, 1) := by decide +kernel
theorem dX5_firstDifference_34 : decode cX5_firstDifference 34 = .ok (.ireturn, 1) := by decide +kernel
set_option maxRecDepth 20000 in
theorem ggX6_init_X0_init : GoodIn wsX6_init wsX0_init := goodIn_r _ [16, 17, 2, 3, 4, 18, 29] (by decide +kernel) (by decide +kernel)
set_option maxRecDepth 20000 in
theorem gX6_init_X0_init : GoodIn wsX6_init (wsX0_init) := ggX6_init_X0_init
theorem dX6_init_0 : decode cX6_init 0 = .ok (.aload_n 0, 1) := by decide +kernel
theorem dX6_init_1 : decode cX6_init 1 = .ok (.invokespecial 3, 3) := by decide +kernel
theorem dX6_init_4 : decode cX6_init 4 = .ok (.aload_n 0, 1) := by decide +kernel
theorem dX6_init_5 : decode cX6_init 5 = .ok (.sipush 5000, 3) := by decide +kernel
theorem dX6_init_8 : decode cX6_init 8 = .ok (.newarray .long, 2) := by decide +kernel
theorem dX6_init_10 : decode cX6_init 10 = .ok (.putfield 9, 3) := by decide +kernel
theorem dX6_init_13 : decode cX6_init 13 = .ok (.aload_n 0, 1) := by decide +kernel
theorem dX6_init_14 : decode cX6_init 14 = .ok (.sipush 5000, 3) := by decide +kernel
theorem dX6_init_17 : decode cX6_init 17 = .ok (.newarray .long, 2) := by decide +kernel
theorem dX6_init_19 : decode cX6_init 19 = .ok (.putfield 15, 3) := by decide +kernel
theorem dX6_init_22 : decode cX6_init 22 = .ok (.aload_n 0, 1) := by decide +kernel
theorem dX6_init_23 : decode cX6_init 23 = .ok (.sipush 5000, 3) := by decide +kernel
theorem dX6_init_26 : decode cX6_init 26 = .ok (.newarray .long, 2) := by decide +kernel
theorem dX6_init_28 : decode cX6_init 28 = .ok (.putfield 18, 3) := by decide +kernel
theorem dX6_init_31 : decode cX6_init 31 = .ok (.aload_n 0, 1) := by decide +kernel
theorem dX6_init_32 : decode cX6_init 32 = .ok (.new 21, 3) := by decide +kernel
theorem dX6_init_35 : decode cX6_init 35 = .ok (.dup, 1) := by decide +kernel
theorem dX6_init_36 : decode cX6_init 36 = .ok (.sipush 5000, 3) := by decide +kernel
theorem dX6_init_39 : decode cX6_init 39 = .ok (.invokespecial 23, 3) := by decide +kernel
theorem dX6_init_42 : decode cX6_init 42 = .ok (.putfield 26, 3) := by decide +kernel
theorem dX6_init_45 : decode cX6_init 45 = .ok (.aload_n 0, 1) := by decide +kernel
theorem dX6_init_46 : decode cX6_init 46 = .ok (.lconst 1, 1) := by decide +kernel
theorem dX6_init_47 : decode cX6_init 47 = .ok (.putfield 30, 3) := by decide +kernel
theorem dX6_init_50 : decode cX6_init 50 = .ok (.aload_n 0, 1) := by decide +kernel
theorem dX6_init_51 : decode cX6_init 51 = .ok (.iconst 0, 1) := by decide +kernel
theorem dX6_init_52 : decode cX6_init 52 = .ok (.putfield 34, 3) := by decide +kernel
theorem dX6_init_55 : decode cX6_init 55 = .ok (.return_, 1) := by decide +kernel
set_option maxRecDepth 20000 in
theorem ggX6_sieve_X0_wipe : GoodIn wsX6_sieve wsX0_wipe := goodIn_r _ [19, 20, 21, 22, 23, 24, 80] (by decide +kernel) (by decide +kernel)
set_option maxRecDepth 20000 in
theorem gX6_sieve_X0_wipe : GoodIn wsX6_sieve (wsV RX6 47 RX0 yX0_wipe wsX0_wipe) := goodIn_app (goodIn_of _ (by decide +kernel)) ggX6_sieve_X0_wipe
set_option maxRecDepth 20000 in
theorem ggX6_sieve_X3_nth : GoodIn wsX6_sieve wsX3_nth := goodIn_r _ [29, 30, 31, 78, 79] (by decide +kernel) (by decide +kernel)
set_option maxRecDepth 20000 in
theorem gX6_sieve_X3_nth : GoodIn wsX6_sieve (wsV RX6 53 RX3 yX3_nth wsX3_nth) := goodIn_app (goodIn_of _ (by decide +kernel)) ggX6_sieve_X3_nth
set_option maxRecDepth 20000 in
theorem ggX6_sieve_X6_divideAll : GoodIn wsX6_sieve wsX6_divideAll := goodIn_r _ [36, 14, 1, 9, 37, 38, 39, 35, 40, 11, 12, 13, 10, 41, 42, 43, 18, 44, 20, 68, 69, 70, 71, 72, 73, 74, 75, 76, 77, 80] (by decide +kernel) (by decide +kernel)
set_option maxRecDepth 20000 in
theorem gX6_sieve_X6_divideAll : GoodIn wsX6_sieve (wsV RX6 59 RX6 yX6_divideAll wsX6_divideAll) := goodIn_app (goodIn_of _ (by decide +kernel)) ggX6_sieve_X6_divideAll
set_option maxRecDepth 20000 in
theorem ggX6_sieve_X6_takeRests : GoodIn wsX6_sieve wsX6_takeRests := goodIn_r _ [48, 9, 11, 13, 12, 68, 69, 70, 71, 72, 73, 74, 75, 76, 77] (by decide +kernel) (by decide +kernel)
set_option maxRecDepth 20000 in
theorem gX6_sieve_X6_takeRests : GoodIn wsX6_sieve (wsV RX6 63 RX6 yX6_takeRests wsX6_takeRests) := goodIn_app (goodIn_of _ (by decide +kernel)) ggX6_sieve_X6_takeRests
set_option maxRecDepth 20000 in
theorem ggX6_sieve_X6_measure : GoodIn wsX6_sieve wsX6_measure := goodIn_r _ [52, 53, 54, 55, 9, 10, 56, 1, 11, 6, 7, 4, 8, 57, 58, 59, 18, 60, 20, 61, 62, 63, 64, 65, 66, 67, 68, 69, 70, 71, 72, 73, 74, 75, 76, 77, 80] (by decide +kernel) (by decide +kernel)
set_option maxRecDepth 20000 in
theorem gX6_sieve_X6_measure : GoodIn wsX6_sieve (wsV RX6 66 RX6 yX6_measure wsX6_measure) := goodIn_app (goodIn_of _ (by decide +kernel)) ggX6_sieve_X6_measure
theorem dX6_sieve_0 : decode cX6_sieve 0 = .ok (.aload_n 0, 1) := by decide +kernel
theorem dX6_sieve_1 : decode cX6_sieve 1 = .ok (.lload_n 1, 1) := by decide +kernel
theorem dX6_sieve_2 : decode cX6_sieve 2 = .ok (.putfield 30, 3) := by decide +kernel
theorem dX6_sieve_5 : decode cX6_sieve 5 = .ok (.aload_n 0, 1) := by decide +kernel
theorem dX6_sieve_6 : decode cX6_sieve 6 = .ok (.iconst 0, 1) := by decide +kernel
theorem dX6_sieve_7 : decode cX6_sieve 7 = .ok (.iload_n 3, 1) := by decide +kernel
theorem dX6_sieve_8 : decode cX6_sieve 8 = .ok (.sipush 5000, 3) := by decide +kernel
theorem dX6_sieve_11 : decode cX6_sieve 11 = .ok (.invokestatic 38, 3) := by decide +kernel
theorem dX6_sieve_14 : decode cX6_sieve 14 = .ok (.invokestatic 44, 3) := by decide +kernel
theorem dX6_sieve_17 : decode cX6_sieve 17 = .ok (.putfield 34, 3) := by decide +kernel
theorem dX6_sieve_20 : decode cX6_sieve 20 = .ok (.aload_n 0, 1) := by decide +kernel
theorem dX6_sieve_21 : decode cX6_sieve 21 = .ok (.getfield 26, 3) := by decide +kernel
theorem dX6_sieve_24 : decode cX6_sieve 24 = .ok (.invokevirtual 47, 3) := by decide +kernel
theorem dX6_sieve_27 : decode cX6_sieve 27 = .ok (.iconst 0, 1) := by decide +kernel
theorem dX6_sieve_28 : decode cX6_sieve 28 = .ok (.istore 5, 2) := by decide +kernel
theorem dX6_sieve_30 : decode cX6_sieve 30 = .ok (.iload 5, 2) := by decide +kernel
theorem dX6_sieve_32 : decode cX6_sieve 32 = .ok (.aload_n 0, 1) := by decide +kernel
theorem dX6_sieve_33 : decode cX6_sieve 33 = .ok (.getfield 34, 3) := by decide +kernel
theorem dX6_sieve_36 : decode cX6_sieve 36 = .ok (.if_icmp .ge 40, 3) := by decide +kernel
theorem dX6_sieve_39 : decode cX6_sieve 39 = .ok (.aload_n 0, 1) := by decide +kernel
theorem dX6_sieve_40 : decode cX6_sieve 40 = .ok (.getfield 9, 3) := by decide +kernel
theorem dX6_sieve_43 : decode cX6_sieve 43 = .ok (.iload 5, 2) := by decide +kernel
theorem dX6_sieve_45 : decode cX6_sieve 45 = .ok (.lconst 0, 1) := by decide +kernel
theorem dX6_sieve_46 : decode cX6_sieve 46 = .ok (.lastore, 1) := by decide +kernel
theorem dX6_sieve_47 : decode cX6_sieve 47 = .ok (.aload_n 0, 1) := by decide +kernel
theorem dX6_sieve_48 : decode cX6_sieve 48 = .ok (.getfield 15, 3) := by decide +kernel
theorem dX6_sieve_51 : decode cX6_sieve 51 = .ok (.iload 5, 2) := by decide +kernel
theorem dX6_sieve_53 : decode cX6_sieve 53 = .ok (.lconst 0, 1) := by decide +kernel
theorem dX6_sieve_54 : decode cX6_sieve 54 = .ok (.lastore, 1) := by decide +kernel
theorem dX6_sieve_55 : decode cX6_sieve 55 = .ok (.aload_n 0, 1) := by decide +kernel
theorem dX6_sieve_56 : decode cX6_sieve 56 = .ok (.getfield 18, 3) := by decide +kernel
theorem dX6_sieve_59 : decode cX6_sieve 59 = .ok (.iload 5, 2) := by decide +kernel
theorem dX6_sieve_61 : decode cX6_sieve 61 = .ok (.aload_n 0, 1) := by decide +kernel
theorem dX6_sieve_62 : decode cX6_sieve 62 = .ok (.getfield 30, 3) := by decide +kernel
theorem dX6_sieve_65 : decode cX6_sieve 65 = .ok (.iload 5, 2) := by decide +kernel
theorem dX6_sieve_67 : decode cX6_sieve 67 = .ok (.i2l, 1) := by decide +kernel
theorem dX6_sieve_68 : decode cX6_sieve 68 = .ok (.ladd, 1) := by decide +kernel
theorem dX6_sieve_69 : decode cX6_sieve 69 = .ok (.lastore, 1) := by decide +kernel
theorem dX6_sieve_70 : decode cX6_sieve 70 = .ok (.iinc 5 1, 3) := by decide +kernel
theorem dX6_sieve_73 : decode cX6_sieve 73 = .ok (.goto (-43), 3) := by decide +kernel
theorem dX6_sieve_76 : decode cX6_sieve 76 = .ok (.aload_n 0, 1) := by decide +kernel
theorem dX6_sieve_77 : decode cX6_sieve 77 = .ok (.getfield 30, 3) := by decide +kernel
theorem dX6_sieve_80 : decode cX6_sieve 80 = .ok (.aload_n 0, 1) := by decide +kernel
theorem dX6_sieve_81 : decode cX6_sieve 81 = .ok (.getfield 34, 3) := by decide +kernel
theorem dX6_sieve_84 : decode cX6_sieve 84 = .ok (.i2l, 1) := by decide +kernel
theorem dX6_sieve_85 : decode cX6_sieve 85 = .ok (.ladd, 1) := by decide +kernel
theorem dX6_sieve_86 : decode cX6_sieve 86 = .ok (.lconst 1, 1) := by decide +kernel
theorem dX6_sieve_87 : decode cX6_sieve 87 = .ok (.lsub, 1) := by decide +kernel
theorem dX6_sieve_88 : decode cX6_sieve 88 = .ok (.lstore 5, 2) := by decide +kernel
theorem dX6_sieve_90 : decode cX6_sieve 90 = .ok (.iconst 0, 1) := by decide +kernel
theorem dX6_sieve_91 : decode cX6_sieve 91 = .ok (.istore 7, 2) := by decide +kernel
theorem dX6_sieve_93 : decode cX6_sieve 93 = .ok (.iload 7, 2) := by decide +kernel
theorem dX6_sieve_95 : decode cX6_sieve 95 = .ok (.aload 4, 2) := by decide +kernel
theorem dX6_sieve_97 : decode cX6_sieve 97 = .ok (.getfield 50, 3) := by decide +kernel
theorem dX6_sieve_100 : decode cX6_sieve 100 = .ok (.if_icmp .ge 48, 3) := by decide +kernel
theorem dX6_sieve_103 : decode cX6_sieve 103 = .ok (.aload 4, 2) := by decide +kernel
theorem dX6_sieve_105 : decode cX6_sieve 105 = .ok (.iload 7, 2) := by decide +kernel
theorem dX6_sieve_107 : decode cX6_sieve 107 = .ok (.invokevirtual 53, 3) := by decide +kernel
theorem dX6_sieve_110 : decode cX6_sieve 110 = .ok (.i2l, 1) := by decide +kernel
theorem dX6_sieve_111 : decode cX6_sieve 111 = .ok (.lstore 8, 2) := by decide +kernel
theorem dX6_sieve_113 : decode cX6_sieve 113 = .ok (.lload 8, 2) := by decide +kernel
theorem dX6_sieve_115 : decode cX6_sieve 115 = .ok (.ldc2_w 57, 3) := by decide +kernel
theorem dX6_sieve_118 : decode cX6_sieve 118 = .ok (.lcmp, 1) := by decide +kernel
theorem dX6_sieve_119 : decode cX6_sieve 119 = .ok (.ifCond .lt 29, 3) := by decide +kernel
theorem dX6_sieve_122 : decode cX6_sieve 122 = .ok (.lload 8, 2) := by decide +kernel
theorem dX6_sieve_124 : decode cX6_sieve 124 = .ok (.lload 8, 2) := by decide +kernel
theorem dX6_sieve_126 : decode cX6_sieve 126 = .ok (.lmul, 1) := by decide +kernel
theorem dX6_sieve_127 : decode cX6_sieve 127 = .ok (.lload 5, 2) := by decide +kernel
theorem dX6_sieve_129 : decode cX6_sieve 129 = .ok (.lcmp, 1) := by decide +kernel
theorem dX6_sieve_130 : decode cX6_sieve 130 = .ok (.ifCond .le 6, 3) := by decide +kernel
theorem dX6_sieve_133 : decode cX6_sieve 133 = .ok (.goto 15, 3) := by decide +kernel
theorem dX6_sieve_136 : decode cX6_sieve 136 = .ok (.aload_n 0, 1) := by decide +kernel
theorem dX6_sieve_137 : decode cX6_sieve 137 = .ok (.lload 8, 2) := by decide +kernel
theorem dX6_sieve_139 : decode cX6_sieve 139 = .ok (.invokevirtual 59, 3) := by decide +kernel
theorem dX6_sieve_142 : decode cX6_sieve 142 = .ok (.iinc 7 1, 3) := by decide +kernel
theorem dX6_sieve_145 : decode cX6_sieve 145 = .ok (.goto (-52), 3) := by decide +kernel
theorem dX6_sieve_148 : decode cX6_sieve 148 = .ok (.aload_n 0, 1) := by decide +kernel
theorem dX6_sieve_149 : decode cX6_sieve 149 = .ok (.invokevirtual 63, 3) := by decide +kernel
theorem dX6_sieve_152 : decode cX6_sieve 152 = .ok (.aload_n 0, 1) := by decide +kernel
theorem dX6_sieve_153 : decode cX6_sieve 153 = .ok (.invokevirtual 66, 3) := by decide +kernel
theorem dX6_sieve_156 : decode cX6_sieve 156 = .ok (.return_, 1) := by decide +kernel
set_option maxRecDepth 20000 in
theorem ggX6_divideAll_X6_divideOne : GoodIn wsX6_divideAll wsX6_divideOne := goodIn_r _ [8, 3, 1, 9, 10, 11, 12, 13, 14, 15, 16, 17, 18, 19, 20, 21, 22, 23, 24, 25, 26, 27, 28, 29] (by decide +kernel) (by decide +kernel)
set_option maxRecDepth 20000 in
theorem gX6_divideAll_X6_divideOne : GoodIn wsX6_divideAll (wsV RX6 69 RX6 yX6_divideOne wsX6_divideOne) := goodIn_app (goodIn_of _ (by decide +kernel)) ggX6_divideAll_X6_divideOne
theorem dX6_divideAll_0 : decode cX6_divideAll 0 = .ok (.lload_n 1, 1) := by decide +kernel
theorem dX6_divideAll_1 : decode cX6_divideAll 1 = .ok (.ldc2_w 57, 3) := by decide +kernel
theorem dX6_divideAll_4 : decode cX6_divideAll 4 = .ok (.lcmp, 1) := by decide +kernel
theorem dX6_divideAll_5 : decode cX6_divideAll 5 = .ok (.ifCond .ge 4, 3) := by decide +kernel
theorem dX6_divideAll_8 : decode cX6_divideAll 8 = .ok (.return_, 1) := by decide +kernel
theorem dX6_divideAll_9 : decode cX6_divideAll 9 = .ok (.aload_n 0, 1) := by decide +kernel
theorem dX6_divideAll_10 : decode cX6_divideAll 10 = .ok (.getfield 30, 3) := by decide +kernel
theorem dX6_divideAll_13 : decode cX6_divideAll 13 = .ok (.lload_n 1, 1) := by decide +kernel
theorem dX6_divideAll_14 : decode cX6_divideAll 14 = .ok (.lrem, 1) := by decide +kernel
theorem dX6_divideAll_15 : decode cX6_divideAll 15 = .ok (.lstore_n 3, 1) := by decide +kernel
theorem dX6_divideAll_16 : decode cX6_divideAll 16 = .ok (.lload_n 3, 1) := by decide +kernel
theorem dX6_divideAll_17 : decode cX6_divideAll 17 = .ok (.lconst 0, 1) := by decide +kernel
theorem dX6_divideAll_18 : decode cX6_divideAll 18 = .ok (.lcmp, 1) := by decide +kernel
theorem dX6_divideAll_19 : decode cX6_divideAll 19 = .ok (.ifCond .ne 7, 3) := by decide +kernel
theorem dX6_divideAll_22 : decode cX6_divideAll 22 = .ok (.lconst 0, 1) := by decide +kernel
theorem dX6_divideAll_23 : decode cX6_divideAll 23 = .ok (.goto 6, 3) := by decide +kernel
theorem dX6_divideAll_26 : decode cX6_divideAll 26 = .ok (.lload_n 1, 1) := by decide +kernel
theorem dX6_divideAll_27 : decode cX6_divideAll 27 = .ok (.lload_n 3, 1) := by decide +kernel
theorem dX6_divideAll_28 : decode cX6_divideAll 28 = .ok (.lsub, 1) := by decide +kernel
theorem dX6_divideAll_29 : decode cX6_divideAll 29 = .ok (.lstore 5, 2) := by decide +kernel
theorem dX6_divideAll_31 : decode cX6_divideAll 31 = .ok (.lload 5, 2) := by decide +kernel
theorem dX6_divideAll_33 : decode cX6_divideAll 33 = .ok (.aload_n 0, 1) := by decide +kernel
theorem dX6_divideAll_34 : decode cX6_divideAll 34 = .ok (.getfield 34, 3) := by decide +kernel
theorem dX6_divideAll_37 : decode cX6_divideAll 37 = .ok (.i2l, 1) := by decide +kernel
theorem dX6_divideAll_38 : decode cX6_divideAll 38 = .ok (.lcmp, 1) := by decide +kernel
theorem dX6_divideAll_39 : decode cX6_divideAll 39 = .ok (.ifCond .ge 20, 3) := by decide +kernel
theorem dX6_divideAll_42 : decode cX6_divideAll 42 = .ok (.aload_n 0, 1) := by decide +kernel
theorem dX6_divideAll_43 : decode cX6_divideAll 43 = .ok (.lload 5, 2) := by decide +kernel
theorem dX6_divideAll_45 : decode cX6_divideAll 45 = .ok (.l2i, 1) := by decide +kernel
theorem dX6_divideAll_46 : decode cX6_divideAll 46 = .ok (.lload_n 1, 1) := by decide +kernel
theorem dX6_divideAll_47 : decode cX6_divideAll 47 = .ok (.invokevirtual 69, 3) := by decide +kernel
theorem dX6_divideAll_50 : decode cX6_divideAll 50 = .ok (.lload 5, 2) := by decide +kernel
theorem dX6_divideAll_52 : decode cX6_divideAll 52 = .ok (.lload_n 1, 1) := by decide +kernel
theorem dX6_divideAll_53 : decode cX6_divideAll 53 = .ok (.ladd, 1) := by decide +kernel
theorem dX6_divideAll_54 : decode cX6_divideAll 54 = .ok (.lstore 5, 2) := by decide +kernel
theorem dX6_divideAll_56 : decode cX6_divideAll 56 = .ok (.goto (-25), 3) := by decide +kernel
theorem dX6_divideAll_59 : decode cX6_divideAll 59 = .ok (.return_, 1) := by decide +kernel
set_option maxRecDepth 20000 in
theorem ggX6_divideOne_X0_mark : GoodIn wsX6_divideOne wsX0_mark := goodIn_r _ [11, 12, 23] (by decide +kernel) (by decide +kernel)
set_option maxRecDepth 20000 in
theorem gX6_divideOne_X0_mark : GoodIn wsX6_divideOne (wsV RX6 73 RX0 yX0_mark wsX0_mark) := goodIn_app (goodIn_of _ (by decide +kernel)) ggX6_divideOne_X0_mark
theorem dX6_divideOne_0 : decode cX6_divideOne 0 = .ok (.iload_n 1, 1) := by decide +kernel
theorem dX6_divideOne_1 : decode cX6_divideOne 1 = .ok (.ifCond .lt 19, 3) := by decide +kernel
theorem dX6_divideOne_4 : decode cX6_divideOne 4 = .ok (.iload_n 1, 1) := by decide +kernel
theorem dX6_divideOne_5 : decode cX6_divideOne 5 = .ok (.aload_n 0, 1) := by decide +kernel
theorem dX6_divideOne_6 : decode cX6_divideOne 6 = .ok (.getfield 34, 3) := by decide +kernel
theorem dX6_divideOne_9 : decode cX6_divideOne 9 = .ok (.if_icmp .ge 11, 3) := by decide +kernel
theorem dX6_divideOne_12 : decode cX6_divideOne 12 = .ok (.lload_n 2, 1) := by decide +kernel
theorem dX6_divideOne_13 : decode cX6_divideOne 13 = .ok (.ldc2_w 57, 3) := by decide +kernel
theorem dX6_divideOne_16 : decode cX6_divideOne 16 = .ok (.lcmp, 1) := by decide +kernel
theorem dX6_divideOne_17 : decode cX6_divideOne 17 = .ok (.ifCond .ge 4, 3) := by decide +kernel
theorem dX6_divideOne_20 : decode cX6_divideOne 20 = .ok (.return_, 1) := by decide +kernel
theorem dX6_divideOne_21 : decode cX6_divideOne 21 = .ok (.aload_n 0, 1) := by decide +kernel
theorem dX6_divideOne_22 : decode cX6_divideOne 22 = .ok (.getfield 9, 3) := by decide +kernel
theorem dX6_divideOne_25 : decode cX6_divideOne 25 = .ok (.iload_n 1, 1) := by decide +kernel
theorem dX6_divideOne_26 : decode cX6_divideOne 26 = .ok (.laload, 1) := by decide +kernel
theorem dX6_divideOne_27 : decode cX6_divideOne 27 = .ok (.lconst 0, 1) := by decide +kernel
theorem dX6_divideOne_28 : decode cX6_divideOne 28 = .ok (.lcmp, 1) := by decide +kernel
theorem dX6_divideOne_29 : decode cX6_divideOne 29 = .ok (.ifCond .ne 10, 3) := by decide +kernel
theorem dX6_divideOne_32 : decode cX6_divideOne 32 = .ok (.aload_n 0, 1) := by decide +kernel
theorem dX6_divideOne_33 : decode cX6_divideOne 33 = .ok (.getfield 9, 3) := by decide +kernel
theorem dX6_divideOne_36 : decode cX6_divideOne 36 = .ok (.iload_n 1, 1) := by decide +kernel
theorem dX6_divideOne_37 : decode cX6_divideOne 37 = .ok (.lload_n 2, 1) := by decide +kernel
theorem dX6_divideOne_38 : decode cX6_divideOne 38 = .ok (.lastore, 1) := by decide +kernel
theorem dX6_divideOne_39 : decode cX6_divideOne 39 = .ok (.aload_n 0, 1) := by decide +kernel
theorem dX6_divideOne_40 : decode cX6_divideOne 40 = .ok (.getfield 15, 3) := by decide +kernel
theorem dX6_divideOne_43 : decode cX6_divideOne 43 = .ok (.iload_n 1, 1) := by decide +kernel
theorem dX6_divideOne_44 : decode cX6_divideOne 44 = .ok (.lload_n 2, 1) := by decide +kernel
theorem dX6_divideOne_45 : decode cX6_divideOne 45 = .ok (.lastore, 1) := by decide +kernel
theorem dX6_divideOne_46 : decode cX6_divideOne 46 = .ok (.aload_n 0, 1) := by decide +kernel
theorem dX6_divideOne_47 : decode cX6_divideOne 47 = .ok (.getfield 18, 3) := by decide +kernel
theorem dX6_divideOne_50 : decode cX6_divideOne 50 = .ok (.iload_n 1, 1) := by decide +kernel
theorem dX6_divideOne_51 : decode cX6_divideOne 51 = .ok (.laload, 1) := by decide +kernel
theorem dX6_divideOne_52 : decode cX6_divideOne 52 = .ok (.lload_n 2, 1) := by decide +kernel
theorem dX6_divideOne_53 : decode cX6_divideOne 53 = .ok (.ldiv, 1) := by decide +kernel
theorem dX6_divideOne_54 : decode cX6_divideOne 54 = .ok (.lstore 4, 2) := by decide +kernel
theorem dX6_divideOne_56 : decode cX6_divideOne 56 = .ok (.iconst 0, 1) := by decide +kernel
theorem dX6_divideOne_57 : decode cX6_divideOne 57 = .ok (.istore 6, 2) := by decide +kernel
theorem dX6_divideOne_59 : decode cX6_divideOne 59 = .ok (.iload 6, 2) := by decide +kernel
theorem dX6_divideOne_61 : decode cX6_divideOne 61 = .ok (.bipush 34, 2) := by decide +kernel
theorem dX6_divideOne_63 : decode cX6_divideOne 63 = .ok (.if_icmp .ge 32, 3) := by decide +kernel
theorem dX6_divideOne_66 : decode cX6_divideOne 66 = .ok (.lload 4, 2) := by decide +kernel
theorem dX6_divideOne_68 : decode cX6_divideOne 68 = .ok (.lload_n 2, 1) := by decide +kernel
theorem dX6_divideOne_69 : decode cX6_divideOne 69 = .ok (.lrem, 1) := by decide +kernel
theorem dX6_divideOne_70 : decode cX6_divideOne 70 = .ok (.lconst 0, 1) := by decide +kernel
theorem dX6_divideOne_71 : decode cX6_divideOne 71 = .ok (.lcmp, 1) := by decide +kernel
theorem dX6_divideOne_72 : decode cX6_divideOne 72 = .ok (.ifCond .ne 23, 3) := by decide +kernel
theorem dX6_divideOne_75 : decode cX6_divideOne 75 = .ok (.aload_n 0, 1) := by decide +kernel
theorem dX6_divideOne_76 : decode cX6_divideOne 76 = .ok (.getfield 26, 3) := by decide +kernel
theorem dX6_divideOne_79 : decode cX6_divideOne 79 = .ok (.iload_n 1, 1) := by decide +kernel
theorem dX6_divideOne_80 : decode cX6_divideOne 80 = .ok (.invokevirtual 73, 3) := by decide +kernel
theorem dX6_divideOne_83 : decode cX6_divideOne 83 = .ok (.lload 4, 2) := by decide +kernel
theorem dX6_divideOne_85 : decode cX6_divideOne 85 = .ok (.lload_n 2, 1) := by decide +kernel
theorem dX6_divideOne_86 : decode cX6_divideOne 86 = .ok (.ldiv, 1) := by decide +kernel
theorem dX6_divideOne_87 : decode cX6_divideOne 87 = .ok (.lstore 4, 2) := by decide +kernel
theorem dX6_divideOne_89 : decode cX6_divideOne 89 = .ok (.iinc 6 1, 3) := by decide +kernel
theorem dX6_divideOne_92 : decode cX6_divideOne 92 = .ok (.goto (-33), 3) := by decide +kernel
theorem dX6_divideOne_95 : decode cX6_divideOne 95 = .ok (.aload_n 0, 1) := by decide +kernel
theorem dX6_divideOne_96 : decode cX6_divideOne 96 = .ok (.getfield 18, 3) := by decide +kernel
theorem dX6_divideOne_99 : decode cX6_divideOne 99 = .ok (.iload_n 1, 1) := by decide +kernel
theorem dX6_divideOne_100 : decode cX6_divideOne 100 = .ok (.lload 4, 2) := by decide +kernel
theorem dX6_divideOne_102 : decode cX6_divideOne 102 = .ok (.lastore, 1) := by decide +kernel
theorem dX6_divideOne_103 : decode cX6_divideOne 103 = .ok (.return_, 1) := by decide +kernel
theorem dX6_takeRests_0 : decode cX6_takeRests 0 = .ok (.iconst 0, 1) := by decide +kernel
theorem dX6_takeRests_1 : decode cX6_takeRests 1 = .ok (.istore_n 1, 1) := by decide +kernel
theorem dX6_takeRests_2 : decode cX6_takeRests 2 = .ok (.iload_n 1, 1) := by decide +kernel
theorem dX6_takeRests_3 : decode cX6_takeRests 3 = .ok (.aload_n 0, 1) := by decide +kernel
theorem dX6_takeRests_4 : decode cX6_takeRests 4 = .ok (.getfield 34, 3) := by decide +kernel
theorem dX6_takeRests_7 : decode cX6_takeRests 7 = .ok (.if_icmp .ge 66, 3) := by decide +kernel
theorem dX6_takeRests_10 : decode cX6_takeRests 10 = .ok (.aload_n 0, 1) := by decide +kernel
theorem dX6_takeRests_11 : decode cX6_takeRests 11 = .ok (.getfield 9, 3) := by decide +kernel
theorem dX6_takeRests_14 : decode cX6_takeRests 14 = .ok (.iload_n 1, 1) := by decide +kernel
theorem dX6_takeRests_15 : decode cX6_takeRests 15 = .ok (.laload, 1) := by decide +kernel
theorem dX6_takeRests_16 : decode cX6_takeRests 16 = .ok (.lconst 0, 1) := by decide +kernel
theorem dX6_takeRests_17 : decode cX6_takeRests 17 = .ok (.lcmp, 1) := by decide +kernel
theorem dX6_takeRests_18 : decode cX6_takeRests 18 = .ok (.ifCond .ne 15, 3) := by decide +kernel
theorem dX6_takeRests_21 : decode cX6_takeRests 21 = .ok (.aload_n 0, 1) := by decide +kernel
theorem dX6_takeRests_22 : decode cX6_takeRests 22 = .ok (.getfield 9, 3) := by decide +kernel
theorem dX6_takeRests_25 : decode cX6_takeRests 25 = .ok (.iload_n 1, 1) := by decide +kernel
theorem dX6_takeRests_26 : decode cX6_takeRests 26 = .ok (.aload_n 0, 1) := by decide +kernel
theorem dX6_takeRests_27 : decode cX6_takeRests 27 = .ok (.getfield 18, 3) := by decide +kernel
theorem dX6_takeRests_30 : decode cX6_takeRests 30 = .ok (.iload_n 1, 1) := by decide +kernel
theorem dX6_takeRests_31 : decode cX6_takeRests 31 = .ok (.laload, 1) := by decide +kernel
theorem dX6_takeRests_32 : decode cX6_takeRests 32 = .ok (.lastore, 1) := by decide +kernel
theorem dX6_takeRests_33 : decode cX6_takeRests 33 = .ok (.aload_n 0, 1) := by decide +kernel
theorem dX6_takeRests_34 : decode cX6_takeRests 34 = .ok (.getfield 18, 3) := by decide +kernel
theorem dX6_takeRests_37 : decode cX6_takeRests 37 = .ok (.iload_n 1, 1) := by decide +kernel
theorem dX6_takeRests_38 : decode cX6_takeRests 38 = .ok (.laload, 1) := by decide +kernel
theorem dX6_takeRests_39 : decode cX6_takeRests 39 = .ok (.lconst 1, 1) := by decide +kernel
theorem dX6_takeRests_40 : decode cX6_takeRests 40 = .ok (.lcmp, 1) := by decide +kernel
theorem dX6_takeRests_41 : decode cX6_takeRests 41 = .ok (.ifCond .gt 14, 3) := by decide +kernel
theorem dX6_takeRests_44 : decode cX6_takeRests 44 = .ok (.aload_n 0, 1) := by decide +kernel
theorem dX6_takeRests_45 : decode cX6_takeRests 45 = .ok (.getfield 15, 3) := by decide +kernel
theorem dX6_takeRests_48 : decode cX6_takeRests 48 = .ok (.iload_n 1, 1) := by decide +kernel
theorem dX6_takeRests_49 : decode cX6_takeRests 49 = .ok (.laload, 1) := by decide +kernel
theorem dX6_takeRests_50 : decode cX6_takeRests 50 = .ok (.lconst 0, 1) := by decide +kernel
theorem dX6_takeRests_51 : decode cX6_takeRests 51 = .ok (.lcmp, 1) := by decide +kernel
theorem dX6_takeRests_52 : decode cX6_takeRests 52 = .ok (.ifCond .ne 15, 3) := by decide +kernel
theorem dX6_takeRests_55 : decode cX6_takeRests 55 = .ok (.aload_n 0, 1) := by decide +kernel
theorem dX6_takeRests_56 : decode cX6_takeRests 56 = .ok (.getfield 15, 3) := by decide +kernel
theorem dX6_takeRests_59 : decode cX6_takeRests 59 = .ok (.iload_n 1, 1) := by decide +kernel
theorem dX6_takeRests_60 : decode cX6_takeRests 60 = .ok (.aload_n 0, 1) := by decide +kernel
theorem dX6_takeRests_61 : decode cX6_takeRests 61 = .ok (.getfield 18, 3) := by decide +kernel
theorem dX6_takeRests_64 : decode cX6_takeRests 64 = .ok (.iload_n 1, 1) := by decide +kernel
theorem dX6_takeRests_65 : decode cX6_takeRests 65 = .ok (.laload, 1) := by decide +kernel
theorem dX6_takeRests_66 : decode cX6_takeRests 66 = .ok (.lastore, 1) := by decide +kernel
theorem dX6_takeRests_67 : decode cX6_takeRests 67 = .ok (.iinc 1 1, 3) := by decide +kernel
theorem dX6_takeRests_70 : decode cX6_takeRests 70 = .ok (.goto (-68), 3) := by decide +kernel
theorem dX6_takeRests_73 : decode cX6_takeRests 73 = .ok (.return_, 1) := by decide +kernel
set_option maxRecDepth 20000 in
theorem ggX6_measure_X0_tally : GoodIn wsX6_measure wsX0_tally := goodIn_r _ [17, 18, 19, 20, 21, 22, 23, 24, 25, 36] (by decide +kernel) (by decide +kernel)
set_option maxRecDepth 20000 in
theorem gX6_measure_X0_tally : GoodIn wsX6_measure (wsV RX6 85 RX0 yX0_tally wsX0_tally) := goodIn_app (goodIn_of _ (by decide +kernel)) ggX6_measure_X0_tally
theorem dX6_measure_0 : decode cX6_measure 0 = .ok (.aload_n 0, 1) := by decide +kernel
theorem dX6_measure_1 : decode cX6_measure 1 = .ok (.iconst 0, 1) := by decide +kernel
theorem dX6_measure_2 : decode cX6_measure 2 = .ok (.putfield 76, 3) := by decide +kernel
theorem dX6_measure_5 : decode cX6_measure 5 = .ok (.aload_n 0, 1) := by decide +kernel
theorem dX6_measure_6 : decode cX6_measure 6 = .ok (.iconst 0, 1) := by decide +kernel
theorem dX6_measure_7 : decode cX6_measure 7 = .ok (.putfield 79, 3) := by decide +kernel
theorem dX6_measure_10 : decode cX6_measure 10 = .ok (.aload_n 0, 1) := by decide +kernel
theorem dX6_measure_11 : decode cX6_measure 11 = .ok (.iconst 0, 1) := by decide +kernel
theorem dX6_measure_12 : decode cX6_measure 12 = .ok (.putfield 82, 3) := by decide +kernel
theorem dX6_measure_15 : decode cX6_measure 15 = .ok (.aload_n 0, 1) := by decide +kernel
theorem dX6_measure_16 : decode cX6_measure 16 = .ok (.aload_n 0, 1) := by decide +kernel
theorem dX6_measure_17 : decode cX6_measure 17 = .ok (.getfield 34, 3) := by decide +kernel
theorem dX6_measure_20 : decode cX6_measure 20 = .ok (.aload_n 0, 1) := by decide +kernel
theorem dX6_measure_21 : decode cX6_measure 21 = .ok (.getfield 26, 3) := by decide +kernel
theorem dX6_measure_24 : decode cX6_measure 24 = .ok (.invokevirtual 85, 3) := by decide +kernel
theorem dX6_measure_27 : decode cX6_measure 27 = .ok (.isub, 1) := by decide +kernel
theorem dX6_measure_28 : decode cX6_measure 28 = .ok (.putfield 89, 3) := by decide +kernel
theorem dX6_measure_31 : decode cX6_measure 31 = .ok (.iconst (-1), 1) := by decide +kernel
theorem dX6_measure_32 : decode cX6_measure 32 = .ok (.istore_n 1, 1) := by decide +kernel
theorem dX6_measure_33 : decode cX6_measure 33 = .ok (.iconst 0, 1) := by decide +kernel
theorem dX6_measure_34 : decode cX6_measure 34 = .ok (.istore_n 2, 1) := by decide +kernel
theorem dX6_measure_35 : decode cX6_measure 35 = .ok (.iload_n 2, 1) := by decide +kernel
theorem dX6_measure_36 : decode cX6_measure 36 = .ok (.aload_n 0, 1) := by decide +kernel
theorem dX6_measure_37 : decode cX6_measure 37 = .ok (.getfield 34, 3) := by decide +kernel
theorem dX6_measure_40 : decode cX6_measure 40 = .ok (.if_icmp .ge 92, 3) := by decide +kernel
theorem dX6_measure_43 : decode cX6_measure 43 = .ok (.aload_n 0, 1) := by decide +kernel
theorem dX6_measure_44 : decode cX6_measure 44 = .ok (.getfield 30, 3) := by decide +kernel
theorem dX6_measure_47 : decode cX6_measure 47 = .ok (.iload_n 2, 1) := by decide +kernel
theorem dX6_measure_48 : decode cX6_measure 48 = .ok (.i2l, 1) := by decide +kernel
theorem dX6_measure_49 : decode cX6_measure 49 = .ok (.ladd, 1) := by decide +kernel
theorem dX6_measure_50 : decode cX6_measure 50 = .ok (.lconst 1, 1) := by decide +kernel
theorem dX6_measure_51 : decode cX6_measure 51 = .ok (.lcmp, 1) := by decide +kernel
theorem dX6_measure_52 : decode cX6_measure 52 = .ok (.ifCond .eq 74, 3) := by decide +kernel
theorem dX6_measure_55 : decode cX6_measure 55 = .ok (.aload_n 0, 1) := by decide +kernel
theorem dX6_measure_56 : decode cX6_measure 56 = .ok (.getfield 9, 3) := by decide +kernel
theorem dX6_measure_59 : decode cX6_measure 59 = .ok (.iload_n 2, 1) := by decide +kernel
theorem dX6_measure_60 : decode cX6_measure 60 = .ok (.laload, 1) := by decide +kernel
theorem dX6_measure_61 : decode cX6_measure 61 = .ok (.aload_n 0, 1) := by decide +kernel
theorem dX6_measure_62 : decode cX6_measure 62 = .ok (.getfield 30, 3) := by decide +kernel
theorem dX6_measure_65 : decode cX6_measure 65 = .ok (.iload_n 2, 1) := by decide +kernel
theorem dX6_measure_66 : decode cX6_measure 66 = .ok (.i2l, 1) := by decide +kernel
theorem dX6_measure_67 : decode cX6_measure 67 = .ok (.ladd, 1) := by decide +kernel
theorem dX6_measure_68 : decode cX6_measure 68 = .ok (.lcmp, 1) := by decide +kernel
theorem dX6_measure_69 : decode cX6_measure 69 = .ok (.ifCond .eq 6, 3) := by decide +kernel
theorem dX6_measure_72 : decode cX6_measure 72 = .ok (.goto 54, 3) := by decide +kernel
theorem dX6_measure_75 : decode cX6_measure 75 = .ok (.aload_n 0, 1) := by decide +kernel
theorem dX6_measure_76 : decode cX6_measure 76 = .ok (.dup, 1) := by decide +kernel
theorem dX6_measure_77 : decode cX6_measure 77 = .ok (.getfield 76, 3) := by decide +kernel
theorem dX6_measure_80 : decode cX6_measure 80 = .ok (.iconst 1, 1) := by decide +kernel
theorem dX6_measure_81 : decode cX6_measure 81 = .ok (.iadd, 1) := by decide +kernel
theorem dX6_measure_82 : decode cX6_measure 82 = .ok (.putfield 76, 3) := by decide +kernel
theorem dX6_measure_85 : decode cX6_measure 85 = .ok (.iload_n 1, 1) := by decide +kernel
theorem dX6_measure_86 : decode cX6_measure 86 = .ok (.ifCond .lt 38, 3) := by decide +kernel
theorem dX6_measure_89 : decode cX6_measure 89 = .ok (.aload_n 0, 1) := by decide +kernel
theorem dX6_measure_90 : decode cX6_measure 90 = .ok (.aload_n 0, 1) := by decide +kernel
theorem dX6_measure_91 : decode cX6_measure 91 = .ok (.getfield 79, 3) := by decide +kernel
theorem dX6_measure_94 : decode cX6_measure 94 = .ok (.iload_n 2, 1) := by decide +kernel
theorem dX6_measure_95 : decode cX6_measure 95 = .ok (.iload_n 1, 1) := by decide +kernel
theorem dX6_measure_96 : decode cX6_measure 96 = .ok (.isub, 1) := by decide +kernel
theorem dX6_measure_97 : decode cX6_measure 97 = .ok (.invokestatic 44, 3) := by decide +kernel
theorem dX6_measure_100 : decode cX6_measure 100 = .ok (.putfield 79, 3) := by decide +kernel
theorem dX6_measure_103 : decode cX6_measure 103 = .ok (.aload_n 0, 1) := by decide +kernel
theorem dX6_measure_104 : decode cX6_measure 104 = .ok (.dup, 1) := by decide +kernel
theorem dX6_measure_105 : decode cX6_measure 105 = .ok (.getfield 82, 3) := by decide +kernel
theorem dX6_measure_108 : decode cX6_measure 108 = .ok (.iload_n 2, 1) := by decide +kernel
theorem dX6_measure_109 : decode cX6_measure 109 = .ok (.iload_n 1, 1) := by decide +kernel
theorem dX6_measure_110 : decode cX6_measure 110 = .ok (.isub, 1) := by decide +kernel
theorem dX6_measure_111 : decode cX6_measure 111 = .ok (.iconst 2, 1) := by decide +kernel
theorem dX6_measure_112 : decode cX6_measure 112 = .ok (.if_icmp .ne 7, 3) := by decide +kernel
theorem dX6_measure_115 : decode cX6_measure 115 = .ok (.iconst 1, 1) := by decide +kernel
theorem dX6_measure_116 : decode cX6_measure 116 = .ok (.goto 4, 3) := by decide +kernel
theorem dX6_measure_119 : decode cX6_measure 119 = .ok (.iconst 0, 1) := by decide +kernel
theorem dX6_measure_120 : decode cX6_measure 120 = .ok (.iadd, 1) := by decide +kernel
theorem dX6_measure_121 : decode cX6_measure 121 = .ok (.putfield 82, 3) := by decide +kernel
theorem dX6_measure_124 : decode cX6_measure 124 = .ok (.iload_n 2, 1) := by decide +kernel
theorem dX6_measure_125 : decode cX6_measure 125 = .ok (.istore_n 1, 1) := by decide +kernel
theorem dX6_measure_126 : decode cX6_measure 126 = .ok (.iinc 2 1, 3) := by decide +kernel
theorem dX6_measure_129 : decode cX6_measure 129 = .ok (.goto (-94), 3) := by decide +kernel
theorem dX6_measure_132 : decode cX6_measure 132 = .ok (.return_, 1) := by decide +kernel
theorem dX6_leastOf_0 : decode cX6_leastOf 0 = .ok (.iload_n 1, 1) := by decide +kernel
theorem dX6_leastOf_1 : decode cX6_leastOf 1 = .ok (.ifCond .lt 20, 3) := by decide +kernel
theorem dX6_leastOf_4 : decode cX6_leastOf 4 = .ok (.iload_n 1, 1) := by decide +kernel
theorem dX6_leastOf_5 : decode cX6_leastOf 5 = .ok (.aload_n 0, 1) := by decide +kernel
theorem dX6_leastOf_6 : decode cX6_leastOf 6 = .ok (.getfield 34, 3) := by decide +kernel
theorem dX6_leastOf_9 : decode cX6_leastOf 9 = .ok (.if_icmp .ge 12, 3) := by decide +kernel
theorem dX6_leastOf_12 : decode cX6_leastOf 12 = .ok (.aload_n 0, 1) := by decide +kernel
theorem dX6_leastOf_13 : decode cX6_leastOf 13 = .ok (.getfield 9, 3) := by decide +kernel
theorem dX6_leastOf_16 : decode cX6_leastOf 16 = .ok (.iload_n 1, 1) := by decide +kernel
theorem dX6_leastOf_17 : decode cX6_leastOf 17 = .ok (.laload, 1) := by decide +kernel
theorem dX6_leastOf_18 : decode cX6_leastOf 18 = .ok (.goto 4, 3) := by decide +kernel
theorem dX6_leastOf_21 : decode cX6_leastOf 21 = .ok (.lconst 0, 1) := by decide +kernel
theorem dX6_leastOf_22 : decode cX6_leastOf 22 = .ok (.lreturn, 1) := by decide +kernel
theorem dX6_smoothBy_0 : decode cX6_smoothBy 0 = .ok (.iconst 0, 1) := by decide +kernel
theorem dX6_smoothBy_1 : decode cX6_smoothBy 1 = .ok (.istore_n 3, 1) := by decide +kernel
theorem dX6_smoothBy_2 : decode cX6_smoothBy 2 = .ok (.iconst 0, 1) := by decide +kernel
theorem dX6_smoothBy_3 : decode cX6_smoothBy 3 = .ok (.istore 4, 2) := by decide +kernel
theorem dX6_smoothBy_5 : decode cX6_smoothBy 5 = .ok (.iload 4, 2) := by decide +kernel
theorem dX6_smoothBy_7 : decode cX6_smoothBy 7 = .ok (.aload_n 0, 1) := by decide +kernel
theorem dX6_smoothBy_8 : decode cX6_smoothBy 8 = .ok (.getfield 34, 3) := by decide +kernel
theorem dX6_smoothBy_11 : decode cX6_smoothBy 11 = .ok (.if_icmp .ge 29, 3) := by decide +kernel
theorem dX6_smoothBy_14 : decode cX6_smoothBy 14 = .ok (.iload_n 3, 1) := by decide +kernel
theorem dX6_smoothBy_15 : decode cX6_smoothBy 15 = .ok (.aload_n 0, 1) := by decide +kernel
theorem dX6_smoothBy_16 : decode cX6_smoothBy 16 = .ok (.getfield 15, 3) := by decide +kernel
theorem dX6_smoothBy_19 : decode cX6_smoothBy 19 = .ok (.iload 4, 2) := by decide +kernel
theorem dX6_smoothBy_21 : decode cX6_smoothBy 21 = .ok (.laload, 1) := by decide +kernel
theorem dX6_smoothBy_22 : decode cX6_smoothBy 22 = .ok (.lload_n 1, 1) := by decide +kernel
theorem dX6_smoothBy_23 : decode cX6_smoothBy 23 = .ok (.lcmp, 1) := by decide +kernel
theorem dX6_smoothBy_24 : decode cX6_smoothBy 24 = .ok (.ifCond .gt 7, 3) := by decide +kernel
theorem dX6_smoothBy_27 : decode cX6_smoothBy 27 = .ok (.iconst 1, 1) := by decide +kernel
theorem dX6_smoothBy_28 : decode cX6_smoothBy 28 = .ok (.goto 4, 3) := by decide +kernel
theorem dX6_smoothBy_31 : decode cX6_smoothBy 31 = .ok (.iconst 0, 1) := by decide +kernel
theorem dX6_smoothBy_32 : decode cX6_smoothBy 32 = .ok (.iadd, 1) := by decide +kernel
theorem dX6_smoothBy_33 : decode cX6_smoothBy 33 = .ok (.istore_n 3, 1) := by decide +kernel
theorem dX6_smoothBy_34 : decode cX6_smoothBy 34 = .ok (.iinc 4 1, 3) := by decide +kernel
theorem dX6_smoothBy_37 : decode cX6_smoothBy 37 = .ok (.goto (-32), 3) := by decide +kernel
theorem dX6_smoothBy_40 : decode cX6_smoothBy 40 = .ok (.iload_n 3, 1) := by decide +kernel
theorem dX6_smoothBy_41 : decode cX6_smoothBy 41 = .ok (.ireturn, 1) := by decide +kernel
theorem dX6_roughBy_0 : decode cX6_roughBy 0 = .ok (.iconst 0, 1) := by decide +kernel
theorem dX6_roughBy_1 : decode cX6_roughBy 1 = .ok (.istore_n 3, 1) := by decide +kernel
theorem dX6_roughBy_2 : decode cX6_roughBy 2 = .ok (.iconst 0, 1) := by decide +kernel
theorem dX6_roughBy_3 : decode cX6_roughBy 3 = .ok (.istore 4, 2) := by decide +kernel
theorem dX6_roughBy_5 : decode cX6_roughBy 5 = .ok (.iload 4, 2) := by decide +kernel
theorem dX6_roughBy_7 : decode cX6_roughBy 7 = .ok (.aload_n 0, 1) := by decide +kernel
theorem dX6_roughBy_8 : decode cX6_roughBy 8 = .ok (.getfield 34, 3) := by decide +kernel
theorem dX6_roughBy_11 : decode cX6_roughBy 11 = .ok (.if_icmp .ge 42, 3) := by decide +kernel
theorem dX6_roughBy_14 : decode cX6_roughBy 14 = .ok (.iload_n 3, 1) := by decide +kernel
theorem dX6_roughBy_15 : decode cX6_roughBy 15 = .ok (.aload_n 0, 1) := by decide +kernel
theorem dX6_roughBy_16 : decode cX6_roughBy 16 = .ok (.getfield 30, 3) := by decide +kernel
theorem dX6_roughBy_19 : decode cX6_roughBy 19 = .ok (.iload 4, 2) := by decide +kernel
theorem dX6_roughBy_21 : decode cX6_roughBy 21 = .ok (.i2l, 1) := by decide +kernel
theorem dX6_roughBy_22 : decode cX6_roughBy 22 = .ok (.ladd, 1) := by decide +kernel
theorem dX6_roughBy_23 : decode cX6_roughBy 23 = .ok (.lconst 1, 1) := by decide +kernel
theorem dX6_roughBy_24 : decode cX6_roughBy 24 = .ok (.lcmp, 1) := by decide +kernel
theorem dX6_roughBy_25 : decode cX6_roughBy 25 = .ok (.ifCond .eq 15, 3) := by decide +kernel
theorem dX6_roughBy_28 : decode cX6_roughBy 28 = .ok (.aload_n 0, 1) := by decide +kernel
theorem dX6_roughBy_29 : decode cX6_roughBy 29 = .ok (.getfield 9, 3) := by decide +kernel
theorem dX6_roughBy_32 : decode cX6_roughBy 32 = .ok (.iload 4, 2) := by decide +kernel
theorem dX6_roughBy_34 : decode cX6_roughBy 34 = .ok (.laload, 1) := by decide +kernel
theorem dX6_roughBy_35 : decode cX6_roughBy 35 = .ok (.lload_n 1, 1) := by decide +kernel
theorem dX6_roughBy_36 : decode cX6_roughBy 36 = .ok (.lcmp, 1) := by decide +kernel
theorem dX6_roughBy_37 : decode cX6_roughBy 37 = .ok (.ifCond .le 7, 3) := by decide +kernel
theorem dX6_roughBy_40 : decode cX6_roughBy 40 = .ok (.iconst 1, 1) := by decide +kernel
theorem dX6_roughBy_41 : decode cX6_roughBy 41 = .ok (.goto 4, 3) := by decide +kernel
theorem dX6_roughBy_44 : decode cX6_roughBy 44 = .ok (.iconst 0, 1) := by decide +kernel
theorem dX6_roughBy_45 : decode cX6_roughBy 45 = .ok (.iadd, 1) := by decide +kernel
theorem dX6_roughBy_46 : decode cX6_roughBy 46 = .ok (.istore_n 3, 1) := by decide +kernel
theorem dX6_roughBy_47 : decode cX6_roughBy 47 = .ok (.iinc 4 1, 3) := by decide +kernel
theorem dX6_roughBy_50 : decode cX6_roughBy 50 = .ok (.goto (-45), 3) := by decide +kernel
theorem dX6_roughBy_53 : decode cX6_roughBy 53 = .ok (.iload_n 3, 1) := by decide +kernel
theorem dX6_roughBy_54 : decode cX6_roughBy 54 = .ok (.ireturn, 1) := by decide +kernel
theorem dX7_root_0 : decode cX7_root 0 = .ok (.lconst 0, 1) := by decide +kernel
theorem dX7_root_1 : decode cX7_root 1 = .ok (.lstore_n 2, 1) := by decide +kernel
theorem dX7_root_2 : decode cX7_root 2 = .ok (.bipush 16, 2) := by decide +kernel
theorem dX7_root_4 : decode cX7_root 4 = .ok (.istore 4, 2) := by decide +kernel
theorem dX7_root_6 : decode cX7_root 6 = .ok (.iload 4, 2) := by decide +kernel
theorem dX7_root_8 : decode cX7_root 8 = .ok (.ifCond .lt 30, 3) := by decide +kernel
theorem dX7_root_11 : decode cX7_root 11 = .ok (.lload_n 2, 1) := by decide +kernel
theorem dX7_root_12 : decode cX7_root 12 = .ok (.lconst 1, 1) := by decide +kernel
theorem dX7_root_13 : decode cX7_root 13 = .ok (.iload 4, 2) := by decide +kernel
theorem dX7_root_15 : decode cX7_root 15 = .ok (.lshl, 1) := by decide +kernel
theorem dX7_root_16 : decode cX7_root 16 = .ok (.lor, 1) := by decide +kernel
theorem dX7_root_17 : decode cX7_root 17 = .ok (.lstore 5, 2) := by decide +kernel
theorem dX7_root_19 : decode cX7_root 19 = .ok (.lload 5, 2) := by decide +kernel
theorem dX7_root_21 : decode cX7_root 21 = .ok (.lload 5, 2) := by decide +kernel
theorem dX7_root_23 : decode cX7_root 23 = .ok (.lmul, 1) := by decide +kernel
theorem dX7_root_24 : decode cX7_root 24 = .ok (.lload_n 0, 1) := by decide +kernel
theorem dX7_root_25 : decode cX7_root 25 = .ok (.lcmp, 1) := by decide +kernel
theorem dX7_root_26 : decode cX7_root 26 = .ok (.ifCond .gt 6, 3) := by decide +kernel
theorem dX7_root_29 : decode cX7_root 29 = .ok (.lload 5, 2) := by decide +kernel
theorem dX7_root_31 : decode cX7_root 31 = .ok (.lstore_n 2, 1) := by decide +kernel
theorem dX7_root_32 : decode cX7_root 32 = .ok (.iinc 4 (-1), 3) := by decide +kernel
theorem dX7_root_35 : decode cX7_root 35 = .ok (.goto (-29), 3) := by decide +kernel
theorem dX7_root_38 : decode cX7_root 38 = .ok (.lload_n 2, 1) := by decide +kernel
theorem dX7_root_39 : decode cX7_root 39 = .ok (.lreturn, 1) := by decide +kernel
theorem dX7_commonDivisor_0 : decode cX7_commonDivisor 0 = .ok (.iload_n 0, 1) := by decide +kernel
theorem dX7_commonDivisor_1 : decode cX7_commonDivisor 1 = .ok (.istore_n 2, 1) := by decide +kernel
theorem dX7_commonDivisor_2 : decode cX7_commonDivisor 2 = .ok (.iload_n 1, 1) := by decide +kernel
theorem dX7_commonDivisor_3 : decode cX7_commonDivisor 3 = .ok (.istore_n 3, 1) := by decide +kernel
theorem dX7_commonDivisor_4 : decode cX7_commonDivisor 4 = .ok (.iconst 0, 1) := by decide +kernel
theorem dX7_commonDivisor_5 : decode cX7_commonDivisor 5 = .ok (.istore 4, 2) := by decide +kernel
theorem dX7_commonDivisor_7 : decode cX7_commonDivisor 7 = .ok (.iload 4, 2) := by decide +kernel
theorem dX7_commonDivisor_9 : decode cX7_commonDivisor 9 = .ok (.bipush 64, 2) := by decide +kernel
theorem dX7_commonDivisor_11 : decode cX7_commonDivisor 11 = .ok (.if_icmp .ge 23, 3) := by decide +kernel
theorem dX7_commonDivisor_14 : decode cX7_commonDivisor 14 = .ok (.iload_n 3, 1) := by decide +kernel
theorem dX7_commonDivisor_15 : decode cX7_commonDivisor 15 = .ok (.ifCond .eq 19, 3) := by decide +kernel
theorem dX7_commonDivisor_18 : decode cX7_commonDivisor 18 = .ok (.iload_n 2, 1) := by decide +kernel
theorem dX7_commonDivisor_19 : decode cX7_commonDivisor 19 = .ok (.iload_n 3, 1) := by decide +kernel
theorem dX7_commonDivisor_20 : decode cX7_commonDivisor 20 = .ok (.irem, 1) := by decide +kernel
theorem dX7_commonDivisor_21 : decode cX7_commonDivisor 21 = .ok (.istore 5, 2) := by decide +kernel
theorem dX7_commonDivisor_23 : decode cX7_commonDivisor 23 = .ok (.iload_n 3, 1) := by decide +kernel
theorem dX7_commonDivisor_24 : decode cX7_commonDivisor 24 = .ok (.istore_n 2, 1) := by decide +kernel
theorem dX7_commonDivisor_25 : decode cX7_commonDivisor 25 = .ok (.iload 5, 2) := by decide +kernel
theorem dX7_commonDivisor_27 : decode cX7_commonDivisor 27 = .ok (.istore_n 3, 1) := by decide +kernel
theorem dX7_commonDivisor_28 : decode cX7_commonDivisor 28 = .ok (.iinc 4 1, 3) := by decide +kernel
theorem dX7_commonDivisor_31 : decode cX7_commonDivisor 31 = .ok (.goto (-24), 3) := by decide +kernel
theorem dX7_commonDivisor_34 : decode cX7_commonDivisor 34 = .ok (.iload_n 2, 1) := by decide +kernel
theorem dX7_commonDivisor_35 : decode cX7_commonDivisor 35 = .ok (.ireturn, 1) := by decide +kernel
theorem dX7_floorSum_0 : decode cX7_floorSum 0 = .ok (.lconst 0, 1) := by decide +kernel
theorem dX7_floorSum_1 : decode cX7_floorSum 1 = .ok (.lstore 8, 2) := by decide +kernel
theorem dX7_floorSum_3 : decode cX7_floorSum 3 = .ok (.iconst 0, 1) := by decide +kernel
theorem dX7_floorSum_4 : decode cX7_floorSum 4 = .ok (.istore 10, 2) := by decide +kernel
theorem dX7_floorSum_6 : decode cX7_floorSum 6 = .ok (.iload 10, 2) := by decide +kernel
theorem dX7_floorSum_8 : decode cX7_floorSum 8 = .ok (.bipush 64, 2) := by decide +kernel
theorem dX7_floorSum_10 : decode cX7_floorSum 10 = .ok (.if_icmp .ge 97, 3) := by decide +kernel
theorem dX7_floorSum_13 : decode cX7_floorSum 13 = .ok (.lload 6, 2) := by decide +kernel
theorem dX7_floorSum_15 : decode cX7_floorSum 15 = .ok (.lconst 0, 1) := by decide +kernel
theorem dX7_floorSum_16 : decode cX7_floorSum 16 = .ok (.lcmp, 1) := by decide +kernel
theorem dX7_floorSum_17 : decode cX7_floorSum 17 = .ok (.ifCond .le 90, 3) := by decide +kernel
theorem dX7_floorSum_20 : decode cX7_floorSum 20 = .ok (.lload 8, 2) := by decide +kernel
theorem dX7_floorSum_22 : decode cX7_floorSum 22 = .ok (.lload_n 0, 1) := by decide +kernel
theorem dX7_floorSum_23 : decode cX7_floorSum 23 = .ok (.lload_n 0, 1) := by decide +kernel
theorem dX7_floorSum_24 : decode cX7_floorSum 24 = .ok (.lconst 1, 1) := by decide +kernel
theorem dX7_floorSum_25 : decode cX7_floorSum 25 = .ok (.lsub, 1) := by decide +kernel
theorem dX7_floorSum_26 : decode cX7_floorSum 26 = .ok (.lmul, 1) := by decide +kernel
theorem dX7_floorSum_27 : decode cX7_floorSum 27 = .ok (.ldc2_w 7, 3) := by decide +kernel
theorem dX7_floorSum_30 : decode cX7_floorSum 30 = .ok (.ldiv, 1) := by decide +kernel
theorem dX7_floorSum_31 : decode cX7_floorSum 31 = .ok (.lload_n 2, 1) := by decide +kernel
theorem dX7_floorSum_32 : decode cX7_floorSum 32 = .ok (.lload 6, 2) := by decide +kernel
theorem dX7_floorSum_34 : decode cX7_floorSum 34 = .ok (.ldiv, 1) := by decide +kernel
theorem dX7_floorSum_35 : decode cX7_floorSum 35 = .ok (.lmul, 1) := by decide +kernel
theorem dX7_floorSum_36 : decode cX7_floorSum 36 = .ok (.lload_n 0, 1) := by decide +kernel
theorem dX7_floorSum_37 : decode cX7_floorSum 37 = .ok (.lload 4, 2) := by decide +kernel
theorem dX7_floorSum_39 : decode cX7_floorSum 39 = .ok (.lload 6, 2) := by decide +kernel
theorem dX7_floorSum_41 : decode cX7_floorSum 41 = .ok (.ldiv, 1) := by decide +kernel
theorem dX7_floorSum_42 : decode cX7_floorSum 42 = .ok (.lmul, 1) := by decide +kernel
theorem dX7_floorSum_43 : decode cX7_floorSum 43 = .ok (.ladd, 1) := by decide +kernel
theorem dX7_floorSum_44 : decode cX7_floorSum 44 = .ok (.ladd, 1) := by decide +kernel
theorem dX7_floorSum_45 : decode cX7_floorSum 45 = .ok (.lstore 8, 2) := by decide +kernel
theorem dX7_floorSum_47 : decode cX7_floorSum 47 = .ok (.lload_n 2, 1) := by decide +kernel
theorem dX7_floorSum_48 : decode cX7_floorSum 48 = .ok (.lload 6, 2) := by decide +kernel
theorem dX7_floorSum_50 : decode cX7_floorSum 50 = .ok (.lrem, 1) := by decide +kernel
theorem dX7_floorSum_51 : decode cX7_floorSum 51 = .ok (.lstore_n 2, 1) := by decide +kernel
theorem dX7_floorSum_52 : decode cX7_floorSum 52 = .ok (.lload 4, 2) := by decide +kernel
theorem dX7_floorSum_54 : decode cX7_floorSum 54 = .ok (.lload 6, 2) := by decide +kernel
theorem dX7_floorSum_56 : decode cX7_floorSum 56 = .ok (.lrem, 1) := by decide +kernel
theorem dX7_floorSum_57 : decode cX7_floorSum 57 = .ok (.lstore 4, 2) := by decide +kernel
theorem dX7_floorSum_59 : decode cX7_floorSum 59 = .ok (.lload_n 2, 1) := by decide +kernel
theorem dX7_floorSum_60 : decode cX7_floorSum 60 = .ok (.lload_n 0, 1) := by decide +kernel
theorem dX7_floorSum_61 : decode cX7_floorSum 61 = .ok (.lmul, 1) := by decide +kernel
theorem dX7_floorSum_62 : decode cX7_floorSum 62 = .ok (.lload 4, 2) := by decide +kernel
theorem dX7_floorSum_64 : decode cX7_floorSum 64 = .ok (.ladd, 1) := by decide +kernel
theorem dX7_floorSum_65 : decode cX7_floorSum 65 = .ok (.lstore 11, 2) := by decide +kernel
theorem dX7_floorSum_67 : decode cX7_floorSum 67 = .ok (.lload 11, 2) := by decide +kernel
theorem dX7_floorSum_69 : decode cX7_floorSum 69 = .ok (.lload 6, 2) := by decide +kernel
theorem dX7_floorSum_71 : decode cX7_floorSum 71 = .ok (.lcmp, 1) := by decide +kernel
theorem dX7_floorSum_72 : decode cX7_floorSum 72 = .ok (.ifCond .ge 6, 3) := by decide +kernel
theorem dX7_floorSum_75 : decode cX7_floorSum 75 = .ok (.goto 32, 3) := by decide +kernel
theorem dX7_floorSum_78 : decode cX7_floorSum 78 = .ok (.lload 11, 2) := by decide +kernel
theorem dX7_floorSum_80 : decode cX7_floorSum 80 = .ok (.lload 6, 2) := by decide +kernel
theorem dX7_floorSum_82 : decode cX7_floorSum 82 = .ok (.ldiv, 1) := by decide +kernel
theorem dX7_floorSum_83 : decode cX7_floorSum 83 = .ok (.lstore_n 0, 1) := by decide +kernel
theorem dX7_floorSum_84 : decode cX7_floorSum 84 = .ok (.lload 11, 2) := by decide +kernel
theorem dX7_floorSum_86 : decode cX7_floorSum 86 = .ok (.lload 6, 2) := by decide +kernel
theorem dX7_floorSum_88 : decode cX7_floorSum 88 = .ok (.lrem, 1) := by decide +kernel
theorem dX7_floorSum_89 : decode cX7_floorSum 89 = .ok (.lstore 4, 2) := by decide +kernel
theorem dX7_floorSum_91 : decode cX7_floorSum 91 = .ok (.lload 6, 2) := by decide +kernel
theorem dX7_floorSum_93 : decode cX7_floorSum 93 = .ok (.lstore 13, 2) := by decide +kernel
theorem dX7_floorSum_95 : decode cX7_floorSum 95 = .ok (.lload_n 2, 1) := by decide +kernel
theorem dX7_floorSum_96 : decode cX7_floorSum 96 = .ok (.lstore 6, 2) := by decide +kernel
theorem dX7_floorSum_98 : decode cX7_floorSum 98 = .ok (.lload 13, 2) := by decide +kernel
theorem dX7_floorSum_100 : decode cX7_floorSum 100 = .ok (.lstore_n 2, 1) := by decide +kernel
theorem dX7_floorSum_101 : decode cX7_floorSum 101 = .ok (.iinc 10 1, 3) := by decide +kernel
theorem dX7_floorSum_104 : decode cX7_floorSum 104 = .ok (.goto (-98), 3) := by decide +kernel
theorem dX7_floorSum_107 : decode cX7_floorSum 107 = .ok (.lload 8, 2) := by decide +kernel
theorem dX7_floorSum_109 : decode cX7_floorSum 109 = .ok (.lreturn, 1) := by decide +kernel
set_option maxRecDepth 20000 in
theorem ggX7_pointsUnder_X7_root : GoodIn wsX7_pointsUnder wsX7_root := goodIn_r _ [5] (by decide +kernel) (by decide +kernel)
set_option maxRecDepth 20000 in
theorem gX7_pointsUnder_X7_root : GoodIn wsX7_pointsUnder (va_wsS RX7 9 yX7_root wsX7_root) := goodIn_app (goodIn_of _ (by decide +kernel)) ggX7_pointsUnder_X7_root
theorem dX7_pointsUnder_0 : decode cX7_pointsUnder 0 = .ok (.lload_n 0, 1) := by decide +kernel
theorem dX7_pointsUnder_1 : decode cX7_pointsUnder 1 = .ok (.invokestatic 9, 3) := by decide +kernel
theorem dX7_pointsUnder_4 : decode cX7_pointsUnder 4 = .ok (.lstore_n 2, 1) := by decide +kernel
theorem dX7_pointsUnder_5 : decode cX7_pointsUnder 5 = .ok (.lconst 0, 1) := by decide +kernel
theorem dX7_pointsUnder_6 : decode cX7_pointsUnder 6 = .ok (.lstore 4, 2) := by decide +kernel
theorem dX7_pointsUnder_8 : decode cX7_pointsUnder 8 = .ok (.lconst 1, 1) := by decide +kernel
theorem dX7_pointsUnder_9 : decode cX7_pointsUnder 9 = .ok (.lstore 6, 2) := by decide +kernel
theorem dX7_pointsUnder_11 : decode cX7_pointsUnder 11 = .ok (.lload 6, 2) := by decide +kernel
theorem dX7_pointsUnder_13 : decode cX7_pointsUnder 13 = .ok (.lload_n 2, 1) := by decide +kernel
theorem dX7_pointsUnder_14 : decode cX7_pointsUnder 14 = .ok (.lcmp, 1) := by decide +kernel
theorem dX7_pointsUnder_15 : decode cX7_pointsUnder 15 = .ok (.ifCond .gt 21, 3) := by decide +kernel
theorem dX7_pointsUnder_18 : decode cX7_pointsUnder 18 = .ok (.lload 4, 2) := by decide +kernel
theorem dX7_pointsUnder_20 : decode cX7_pointsUnder 20 = .ok (.lload_n 0, 1) := by decide +kernel
theorem dX7_pointsUnder_21 : decode cX7_pointsUnder 21 = .ok (.lload 6, 2) := by decide +kernel
theorem dX7_pointsUnder_23 : decode cX7_pointsUnder 23 = .ok (.ldiv, 1) := by decide +kernel
theorem dX7_pointsUnder_24 : decode cX7_pointsUnder 24 = .ok (.ladd, 1) := by decide +kernel
theorem dX7_pointsUnder_25 : decode cX7_pointsUnder 25 = .ok (.lstore 4, 2) := by decide +kernel
theorem dX7_pointsUnder_27 : decode cX7_pointsUnder 27 = .ok (.lload 6, 2) := by decide +kernel
theorem dX7_pointsUnder_29 : decode cX7_pointsUnder 29 = .ok (.lconst 1, 1) := by decide +kernel
theorem dX7_pointsUnder_30 : decode cX7_pointsUnder 30 = .ok (.ladd, 1) := by decide +kernel
theorem dX7_pointsUnder_31 : decode cX7_pointsUnder 31 = .ok (.lstore 6, 2) := by decide +kernel
theorem dX7_pointsUnder_33 : decode cX7_pointsUnder 33 = .ok (.goto (-22), 3) := by decide +kernel
theorem dX7_pointsUnder_36 : decode cX7_pointsUnder 36 = .ok (.ldc2_w 7, 3) := by decide +kernel
theorem dX7_pointsUnder_39 : decode cX7_pointsUnder 39 = .ok (.lload 4, 2) := by decide +kernel
theorem dX7_pointsUnder_41 : decode cX7_pointsUnder 41 = .ok (.lmul, 1) := by decide +kernel
theorem dX7_pointsUnder_42 : decode cX7_pointsUnder 42 = .ok (.lload_n 2, 1) := by decide +kernel
theorem dX7_pointsUnder_43 : decode cX7_pointsUnder 43 = .ok (.lload_n 2, 1) := by decide +kernel
theorem dX7_pointsUnder_44 : decode cX7_pointsUnder 44 = .ok (.lmul, 1) := by decide +kernel
theorem dX7_pointsUnder_45 : decode cX7_pointsUnder 45 = .ok (.lsub, 1) := by decide +kernel
theorem dX7_pointsUnder_46 : decode cX7_pointsUnder 46 = .ok (.lreturn, 1) := by decide +kernel
theorem dX7_isFarRule_0 : decode cX7_isFarRule 0 = .ok (.iload_n 0, 1) := by decide +kernel
theorem dX7_isFarRule_1 : decode cX7_isFarRule 1 = .ok (.ifCond .eq 19, 3) := by decide +kernel
theorem dX7_isFarRule_4 : decode cX7_isFarRule 4 = .ok (.iload_n 0, 1) := by decide +kernel
theorem dX7_isFarRule_5 : decode cX7_isFarRule 5 = .ok (.iconst 1, 1) := by decide +kernel
theorem dX7_isFarRule_6 : decode cX7_isFarRule 6 = .ok (.if_icmp .eq 14, 3) := by decide +kernel
theorem dX7_isFarRule_9 : decode cX7_isFarRule 9 = .ok (.iload_n 0, 1) := by decide +kernel
theorem dX7_isFarRule_10 : decode cX7_isFarRule 10 = .ok (.iconst 2, 1) := by decide +kernel
theorem dX7_isFarRule_11 : decode cX7_isFarRule 11 = .ok (.if_icmp .eq 9, 3) := by decide +kernel
theorem dX7_isFarRule_14 : decode cX7_isFarRule 14 = .ok (.iload_n 0, 1) := by decide +kernel
theorem dX7_isFarRule_15 : decode cX7_isFarRule 15 = .ok (.bipush 9, 2) := by decide +kernel
theorem dX7_isFarRule_17 : decode cX7_isFarRule 17 = .ok (.if_icmp .ne 7, 3) := by decide +kernel
theorem dX7_isFarRule_20 : decode cX7_isFarRule 20 = .ok (.iconst 1, 1) := by decide +kernel
theorem dX7_isFarRule_21 : decode cX7_isFarRule 21 = .ok (.goto 4, 3) := by decide +kernel
theorem dX7_isFarRule_24 : decode cX7_isFarRule 24 = .ok (.iconst 0, 1) := by decide +kernel
theorem dX7_isFarRule_25 : decode cX7_isFarRule 25 = .ok (.ireturn, 1) := by decide +kernel
set_option maxRecDepth 20000 in
theorem ggX7_farSum_X7_root : GoodIn wsX7_farSum wsX7_root := goodIn_r _ [4] (by decide +kernel) (by decide +kernel)
set_option maxRecDepth 20000 in
theorem gX7_farSum_X7_root : GoodIn wsX7_farSum (va_wsS RX7 9 yX7_root wsX7_root) := goodIn_app (goodIn_of _ (by decide +kernel)) ggX7_farSum_X7_root
set_option maxRecDepth 20000 in
theorem ggX7_farSum_X7_ruleAt : GoodIn wsX7_farSum wsX7_ruleAt := goodIn_r _ [7] (by decide +kernel) (by decide +kernel)
set_option maxRecDepth 20000 in
theorem gX7_farSum_X7_ruleAt : GoodIn wsX7_farSum (va_wsS RX7 15 yX7_ruleAt wsX7_ruleAt) := goodIn_app (goodIn_of _ (by decide +kernel)) ggX7_farSum_X7_ruleAt
set_option maxRecDepth 20000 in
theorem ggX7_farSum_X7_ruleUpTo : GoodIn wsX7_farSum wsX7_ruleUpTo := goodIn_r _ [10, 11, 12, 13, 3, 14, 15] (by decide +kernel) (by decide +kernel)
set_option maxRecDepth 20000 in
theorem gX7_farSum_X7_ruleUpTo : GoodIn wsX7_farSum (va_wsS RX7 19 yX7_ruleUpTo wsX7_ruleUpTo) := goodIn_app (goodIn_of _ (by decide +kernel)) ggX7_farSum_X7_ruleUpTo
theorem dX7_farSum_0 : decode cX7_farSum 0 = .ok (.iload_n 2, 1) := by decide +kernel
theorem dX7_farSum_1 : decode cX7_farSum 1 = .ok (.i2l, 1) := by decide +kernel
theorem dX7_farSum_2 : decode cX7_farSum 2 = .ok (.invokestatic 9, 3) := by decide +kernel
theorem dX7_farSum_5 : decode cX7_farSum 5 = .ok (.lstore_n 3, 1) := by decide +kernel
theorem dX7_farSum_6 : decode cX7_farSum 6 = .ok (.lconst 0, 1) := by decide +kernel
theorem dX7_farSum_7 : decode cX7_farSum 7 = .ok (.lstore 5, 2) := by decide +kernel
theorem dX7_farSum_9 : decode cX7_farSum 9 = .ok (.lconst 1, 1) := by decide +kernel
theorem dX7_farSum_10 : decode cX7_farSum 10 = .ok (.lstore 7, 2) := by decide +kernel
theorem dX7_farSum_12 : decode cX7_farSum 12 = .ok (.lload 7, 2) := by decide +kernel
theorem dX7_farSum_14 : decode cX7_farSum 14 = .ok (.lload_n 3, 1) := by decide +kernel
theorem dX7_farSum_15 : decode cX7_farSum 15 = .ok (.lcmp, 1) := by decide +kernel
theorem dX7_farSum_16 : decode cX7_farSum 16 = .ok (.ifCond .gt 51, 3) := by decide +kernel
theorem dX7_farSum_19 : decode cX7_farSum 19 = .ok (.iload_n 2, 1) := by decide +kernel
theorem dX7_farSum_20 : decode cX7_farSum 20 = .ok (.i2l, 1) := by decide +kernel
theorem dX7_farSum_21 : decode cX7_farSum 21 = .ok (.lload 7, 2) := by decide +kernel
theorem dX7_farSum_23 : decode cX7_farSum 23 = .ok (.ldiv, 1) := by decide +kernel
theorem dX7_farSum_24 : decode cX7_farSum 24 = .ok (.lstore 9, 2) := by decide +kernel
theorem dX7_farSum_26 : decode cX7_farSum 26 = .ok (.lload 5, 2) := by decide +kernel
theorem dX7_farSum_28 : decode cX7_farSum 28 = .ok (.iload_n 0, 1) := by decide +kernel
theorem dX7_farSum_29 : decode cX7_farSum 29 = .ok (.lload 7, 2) := by decide +kernel
theorem dX7_farSum_31 : decode cX7_farSum 31 = .ok (.invokestatic 15, 3) := by decide +kernel
theorem dX7_farSum_34 : decode cX7_farSum 34 = .ok (.iload_n 1, 1) := by decide +kernel
theorem dX7_farSum_35 : decode cX7_farSum 35 = .ok (.lload 9, 2) := by decide +kernel
theorem dX7_farSum_37 : decode cX7_farSum 37 = .ok (.invokestatic 19, 3) := by decide +kernel
theorem dX7_farSum_40 : decode cX7_farSum 40 = .ok (.lmul, 1) := by decide +kernel
theorem dX7_farSum_41 : decode cX7_farSum 41 = .ok (.iload_n 1, 1) := by decide +kernel
theorem dX7_farSum_42 : decode cX7_farSum 42 = .ok (.lload 7, 2) := by decide +kernel
theorem dX7_farSum_44 : decode cX7_farSum 44 = .ok (.invokestatic 15, 3) := by decide +kernel
theorem dX7_farSum_47 : decode cX7_farSum 47 = .ok (.iload_n 0, 1) := by decide +kernel
theorem dX7_farSum_48 : decode cX7_farSum 48 = .ok (.lload 9, 2) := by decide +kernel
theorem dX7_farSum_50 : decode cX7_farSum 50 = .ok (.invokestatic 19, 3) := by decide +kernel
theorem dX7_farSum_53 : decode cX7_farSum 53 = .ok (.lmul, 1) := by decide +kernel
theorem dX7_farSum_54 : decode cX7_farSum 54 = .ok (.ladd, 1) := by decide +kernel
theorem dX7_farSum_55 : decode cX7_farSum 55 = .ok (.ladd, 1) := by decide +kernel
theorem dX7_farSum_56 : decode cX7_farSum 56 = .ok (.lstore 5, 2) := by decide +kernel
theorem dX7_farSum_58 : decode cX7_farSum 58 = .ok (.lload 7, 2) := by decide +kernel
theorem dX7_farSum_60 : decode cX7_farSum 60 = .ok (.lconst 1, 1) := by decide +kernel
theorem dX7_farSum_61 : decode cX7_farSum 61 = .ok (.ladd, 1) := by decide +kernel
theorem dX7_farSum_62 : decode cX7_farSum 62 = .ok (.lstore 7, 2) := by decide +kernel
theorem dX7_farSum_64 : decode cX7_farSum 64 = .ok (.goto (-52), 3) := by decide +kernel
theorem dX7_farSum_67 : decode cX7_farSum 67 = .ok (.lload 5, 2) := by decide +kernel
theorem dX7_farSum_69 : decode cX7_farSum 69 = .ok (.iload_n 0, 1) := by decide +kernel
theorem dX7_farSum_70 : decode cX7_farSum 70 = .ok (.lload_n 3, 1) := by decide +kernel
theorem dX7_farSum_71 : decode cX7_farSum 71 = .ok (.invokestatic 19, 3) := by decide +kernel
theorem dX7_farSum_74 : decode cX7_farSum 74 = .ok (.iload_n 1, 1) := by decide +kernel
theorem dX7_farSum_75 : decode cX7_farSum 75 = .ok (.lload_n 3, 1) := by decide +kernel
theorem dX7_farSum_76 : decode cX7_farSum 76 = .ok (.invokestatic 19, 3) := by decide +kernel
theorem dX7_farSum_79 : decode cX7_farSum 79 = .ok (.lmul, 1) := by decide +kernel
theorem dX7_farSum_80 : decode cX7_farSum 80 = .ok (.lsub, 1) := by decide +kernel
theorem dX7_farSum_81 : decode cX7_farSum 81 = .ok (.lreturn, 1) := by decide +kernel
theorem dX7_ruleAt_0 : decode cX7_ruleAt 0 = .ok (.iload_n 0, 1) := by decide +kernel
theorem dX7_ruleAt_1 : decode cX7_ruleAt 1 = .ok (.tableswitch 43 0 2 #[27, 39, 41], 27) := by decide +kernel
theorem dX7_ruleAt_28 : decode cX7_ruleAt 28 = .ok (.lload_n 1, 1) := by decide +kernel
theorem dX7_ruleAt_29 : decode cX7_ruleAt 29 = .ok (.lconst 1, 1) := by decide +kernel
theorem dX7_ruleAt_30 : decode cX7_ruleAt 30 = .ok (.lcmp, 1) := by decide +kernel
theorem dX7_ruleAt_31 : decode cX7_ruleAt 31 = .ok (.ifCond .ne 7, 3) := by decide +kernel
theorem dX7_ruleAt_34 : decode cX7_ruleAt 34 = .ok (.lconst 1, 1) := by decide +kernel
theorem dX7_ruleAt_35 : decode cX7_ruleAt 35 = .ok (.goto 4, 3) := by decide +kernel
theorem dX7_ruleAt_38 : decode cX7_ruleAt 38 = .ok (.lconst 0, 1) := by decide +kernel
theorem dX7_ruleAt_39 : decode cX7_ruleAt 39 = .ok (.lreturn, 1) := by decide +kernel
theorem dX7_ruleAt_40 : decode cX7_ruleAt 40 = .ok (.lconst 1, 1) := by decide +kernel
theorem dX7_ruleAt_41 : decode cX7_ruleAt 41 = .ok (.lreturn, 1) := by decide +kernel
theorem dX7_ruleAt_42 : decode cX7_ruleAt 42 = .ok (.lload_n 1, 1) := by decide +kernel
theorem dX7_ruleAt_43 : decode cX7_ruleAt 43 = .ok (.lreturn, 1) := by decide +kernel
theorem dX7_ruleAt_44 : decode cX7_ruleAt 44 = .ok (.lload_n 1, 1) := by decide +kernel
theorem dX7_ruleAt_45 : decode cX7_ruleAt 45 = .ok (.lload_n 1, 1) := by decide +kernel
theorem dX7_ruleAt_46 : decode cX7_ruleAt 46 = .ok (.lmul, 1) := by decide +kernel
theorem dX7_ruleAt_47 : decode cX7_ruleAt 47 = .ok (.lreturn, 1) := by decide +kernel
set_option maxRecDepth 20000 in
theorem ggX7_ruleUpTo_X7_squaresUpTo : GoodIn wsX7_ruleUpTo wsX7_squaresUpTo := goodIn_r _ [5, 1, 6] (by decide +kernel) (by decide +kernel)
set_option maxRecDepth 20000 in
theorem gX7_ruleUpTo_X7_squaresUpTo : GoodIn wsX7_ruleUpTo (va_wsS RX7 22 yX7_squaresUpTo wsX7_squaresUpTo) := goodIn_app (goodIn_of _ (by decide +kernel)) ggX7_ruleUpTo_X7_squaresUpTo
theorem dX7_ruleUpTo_0 : decode cX7_ruleUpTo 0 = .ok (.iload_n 0, 1) := by decide +kernel
theorem dX7_ruleUpTo_1 : decode cX7_ruleUpTo 1 = .ok (.tableswitch 51 0 2 #[27, 39, 41], 27) := by decide +kernel
theorem dX7_ruleUpTo_28 : decode cX7_ruleUpTo 28 = .ok (.lload_n 1, 1) := by decide +kernel
theorem dX7_ruleUpTo_29 : decode cX7_ruleUpTo 29 = .ok (.lconst 1, 1) := by decide +kernel
theorem dX7_ruleUpTo_30 : decode cX7_ruleUpTo 30 = .ok (.lcmp, 1) := by decide +kernel
theorem dX7_ruleUpTo_31 : decode cX7_ruleUpTo 31 = .ok (.ifCond .lt 7, 3) := by decide +kernel
theorem dX7_ruleUpTo_34 : decode cX7_ruleUpTo 34 = .ok (.lconst 1, 1) := by decide +kernel
theorem dX7_ruleUpTo_35 : decode cX7_ruleUpTo 35 = .ok (.goto 4, 3) := by decide +kernel
theorem dX7_ruleUpTo_38 : decode cX7_ruleUpTo 38 = .ok (.lconst 0, 1) := by decide +kernel
theorem dX7_ruleUpTo_39 : decode cX7_ruleUpTo 39 = .ok (.lreturn, 1) := by decide +kernel
theorem dX7_ruleUpTo_40 : decode cX7_ruleUpTo 40 = .ok (.lload_n 1, 1) := by decide +kernel
theorem dX7_ruleUpTo_41 : decode cX7_ruleUpTo 41 = .ok (.lreturn, 1) := by decide +kernel
theorem dX7_ruleUpTo_42 : decode cX7_ruleUpTo 42 = .ok (.lload_n 1, 1) := by decide +kernel
theorem dX7_ruleUpTo_43 : decode cX7_ruleUpTo 43 = .ok (.lload_n 1, 1) := by decide +kernel
theorem dX7_ruleUpTo_44 : decode cX7_ruleUpTo 44 = .ok (.lconst 1, 1) := by decide +kernel
theorem dX7_ruleUpTo_45 : decode cX7_ruleUpTo 45 = .ok (.ladd, 1) := by decide +kernel
theorem dX7_ruleUpTo_46 : decode cX7_ruleUpTo 46 = .ok (.lmul, 1) := by decide +kernel
theorem dX7_ruleUpTo_47 : decode cX7_ruleUpTo 47 = .ok (.ldc2_w 7, 3) := by decide +kernel
theorem dX7_ruleUpTo_50 : decode cX7_ruleUpTo 50 = .ok (.ldiv, 1) := by decide +kernel
theorem dX7_ruleUpTo_51 : decode cX7_ruleUpTo 51 = .ok (.lreturn, 1) := by decide +kernel
theorem dX7_ruleUpTo_52 : decode cX7_ruleUpTo 52 = .ok (.lload_n 1, 1) := by decide +kernel
theorem dX7_ruleUpTo_53 : decode cX7_ruleUpTo 53 = .ok (.invokestatic 22, 3) := by decide +kernel
theorem dX7_ruleUpTo_56 : decode cX7_ruleUpTo 56 = .ok (.lreturn, 1) := by decide +kernel
theorem dX7_squaresUpTo_0 : decode cX7_squaresUpTo 0 = .ok (.lload_n 0, 1) := by decide +kernel
theorem dX7_squaresUpTo_1 : decode cX7_squaresUpTo 1 = .ok (.lload_n 0, 1) := by decide +kernel
theorem dX7_squaresUpTo_2 : decode cX7_squaresUpTo 2 = .ok (.lconst 1, 1) := by decide +kernel
theorem dX7_squaresUpTo_3 : decode cX7_squaresUpTo 3 = .ok (.ladd, 1) := by decide +kernel
theorem dX7_squaresUpTo_4 : decode cX7_squaresUpTo 4 = .ok (.lmul, 1) := by decide +kernel
theorem dX7_squaresUpTo_5 : decode cX7_squaresUpTo 5 = .ok (.ldc2_w 7, 3) := by decide +kernel
theorem dX7_squaresUpTo_8 : decode cX7_squaresUpTo 8 = .ok (.ldiv, 1) := by decide +kernel
theorem dX7_squaresUpTo_9 : decode cX7_squaresUpTo 9 = .ok (.lstore_n 2, 1) := by decide +kernel
theorem dX7_squaresUpTo_10 : decode cX7_squaresUpTo 10 = .ok (.ldc2_w 7, 3) := by decide +kernel
theorem dX7_squaresUpTo_13 : decode cX7_squaresUpTo 13 = .ok (.lload_n 0, 1) := by decide +kernel
theorem dX7_squaresUpTo_14 : decode cX7_squaresUpTo 14 = .ok (.lmul, 1) := by decide +kernel
theorem dX7_squaresUpTo_15 : decode cX7_squaresUpTo 15 = .ok (.lconst 1, 1) := by decide +kernel
theorem dX7_squaresUpTo_16 : decode cX7_squaresUpTo 16 = .ok (.ladd, 1) := by decide +kernel
theorem dX7_squaresUpTo_17 : decode cX7_squaresUpTo 17 = .ok (.lstore 4, 2) := by decide +kernel
theorem dX7_squaresUpTo_19 : decode cX7_squaresUpTo 19 = .ok (.lload_n 2, 1) := by decide +kernel
theorem dX7_squaresUpTo_20 : decode cX7_squaresUpTo 20 = .ok (.ldc2_w 25, 3) := by decide +kernel
theorem dX7_squaresUpTo_23 : decode cX7_squaresUpTo 23 = .ok (.lrem, 1) := by decide +kernel
theorem dX7_squaresUpTo_24 : decode cX7_squaresUpTo 24 = .ok (.lconst 0, 1) := by decide +kernel
theorem dX7_squaresUpTo_25 : decode cX7_squaresUpTo 25 = .ok (.lcmp, 1) := by decide +kernel
theorem dX7_squaresUpTo_26 : decode cX7_squaresUpTo 26 = .ok (.ifCond .ne 14, 3) := by decide +kernel
theorem dX7_squaresUpTo_29 : decode cX7_squaresUpTo 29 = .ok (.lload_n 2, 1) := by decide +kernel
theorem dX7_squaresUpTo_30 : decode cX7_squaresUpTo 30 = .ok (.ldc2_w 25, 3) := by decide +kernel
theorem dX7_squaresUpTo_33 : decode cX7_squaresUpTo 33 = .ok (.ldiv, 1) := by decide +kernel
theorem dX7_squaresUpTo_34 : decode cX7_squaresUpTo 34 = .ok (.lload 4, 2) := by decide +kernel
theorem dX7_squaresUpTo_36 : decode cX7_squaresUpTo 36 = .ok (.lmul, 1) := by decide +kernel
theorem dX7_squaresUpTo_37 : decode cX7_squaresUpTo 37 = .ok (.goto 11, 3) := by decide +kernel
theorem dX7_squaresUpTo_40 : decode cX7_squaresUpTo 40 = .ok (.lload_n 2, 1) := by decide +kernel
theorem dX7_squaresUpTo_41 : decode cX7_squaresUpTo 41 = .ok (.lload 4, 2) := by decide +kernel
theorem dX7_squaresUpTo_43 : decode cX7_squaresUpTo 43 = .ok (.ldc2_w 25, 3) := by decide +kernel
theorem dX7_squaresUpTo_46 : decode cX7_squaresUpTo 46 = .ok (.ldiv, 1) := by decide +kernel
theorem dX7_squaresUpTo_47 : decode cX7_squaresUpTo 47 = .ok (.lmul, 1) := by decide +kernel
theorem dX7_squaresUpTo_48 : decode cX7_squaresUpTo 48 = .ok (.lreturn, 1) := by decide +kernel
theorem dX8_init_0 : decode cX8_init 0 = .ok (.aload_n 0, 1) := by decide +kernel
theorem dX8_init_1 : decode cX8_init 1 = .ok (.invokespecial 1, 3) := by decide +kernel
theorem dX8_init_4 : decode cX8_init 4 = .ok (.return_, 1) := by decide +kernel
