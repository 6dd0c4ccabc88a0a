theorem dX0_init_0 : decode cX0_init 0 = .ok (.aload_n 0, 1) := by decide +kernel
theorem dX0_init_1 : decode cX0_init 1 = .ok (.invokespecial 3, 3) := by decide +kernel
theorem dX0_init_4 : decode cX0_init 4 = .ok (.aload_n 0, 1) := by decide +kernel
theorem dX0_init_5 : decode cX0_init 5 = .ok (.sipush 504, 3) := by decide +kernel
theorem dX0_init_8 : decode cX0_init 8 = .ok (.newarray .long, 2) := by decide +kernel
theorem dX0_init_10 : decode cX0_init 10 = .ok (.putfield 9, 3) := by decide +kernel
theorem dX0_init_13 : decode cX0_init 13 = .ok (.aload_n 0, 1) := by decide +kernel
theorem dX0_init_14 : decode cX0_init 14 = .ok (.iconst 0, 1) := by decide +kernel
theorem dX0_init_15 : decode cX0_init 15 = .ok (.putfield 15, 3) := by decide +kernel
theorem dX0_init_18 : decode cX0_init 18 = .ok (.return_, 1) := by decide +kernel
theorem dX0_forget_0 : decode cX0_forget 0 = .ok (.aload_n 0, 1) := by decide +kernel
theorem dX0_forget_1 : decode cX0_forget 1 = .ok (.iconst 0, 1) := by decide +kernel
theorem dX0_forget_2 : decode cX0_forget 2 = .ok (.putfield 15, 3) := by decide +kernel
theorem dX0_forget_5 : decode cX0_forget 5 = .ok (.return_, 1) := by decide +kernel
set_option maxRecDepth 20000 in
theorem ggX0_enter_X0_isKnown : GoodIn wsX0_enter wsX0_isKnown := goodIn_r _ [8, 2, 3, 9, 10] (by decide +kernel) (by decide +kernel)
set_option maxRecDepth 20000 in
theorem gX0_enter_X0_isKnown : GoodIn wsX0_enter (wsV RX0 21 RX0 yX0_isKnown wsX0_isKnown) := goodIn_app (goodIn_of _ (by decide +kernel)) ggX0_enter_X0_isKnown
theorem dX0_enter_0 : decode cX0_enter 0 = .ok (.lload_n 1, 1) := by decide +kernel
theorem dX0_enter_1 : decode cX0_enter 1 = .ok (.ldc2_w 19, 3) := by decide +kernel
theorem dX0_enter_4 : decode cX0_enter 4 = .ok (.land, 1) := by decide +kernel
theorem dX0_enter_5 : decode cX0_enter 5 = .ok (.lconst 0, 1) := by decide +kernel
theorem dX0_enter_6 : decode cX0_enter 6 = .ok (.lcmp, 1) := by decide +kernel
theorem dX0_enter_7 : decode cX0_enter 7 = .ok (.ifCond .ne 7, 3) := by decide +kernel
theorem dX0_enter_10 : decode cX0_enter 10 = .ok (.iconst 1, 1) := by decide +kernel
theorem dX0_enter_11 : decode cX0_enter 11 = .ok (.goto 4, 3) := by decide +kernel
theorem dX0_enter_14 : decode cX0_enter 14 = .ok (.iconst 0, 1) := by decide +kernel
theorem dX0_enter_15 : decode cX0_enter 15 = .ok (.istore_n 3, 1) := by decide +kernel
theorem dX0_enter_16 : decode cX0_enter 16 = .ok (.iload_n 3, 1) := by decide +kernel
theorem dX0_enter_17 : decode cX0_enter 17 = .ok (.ifCond .ne 43, 3) := by decide +kernel
theorem dX0_enter_20 : decode cX0_enter 20 = .ok (.aload_n 0, 1) := by decide +kernel
theorem dX0_enter_21 : decode cX0_enter 21 = .ok (.lload_n 1, 1) := by decide +kernel
theorem dX0_enter_22 : decode cX0_enter 22 = .ok (.invokevirtual 21, 3) := by decide +kernel
theorem dX0_enter_25 : decode cX0_enter 25 = .ok (.ifCond .ne 35, 3) := by decide +kernel
theorem dX0_enter_28 : decode cX0_enter 28 = .ok (.aload_n 0, 1) := by decide +kernel
theorem dX0_enter_29 : decode cX0_enter 29 = .ok (.getfield 15, 3) := by decide +kernel
theorem dX0_enter_32 : decode cX0_enter 32 = .ok (.aload_n 0, 1) := by decide +kernel
theorem dX0_enter_33 : decode cX0_enter 33 = .ok (.getfield 9, 3) := by decide +kernel
theorem dX0_enter_36 : decode cX0_enter 36 = .ok (.arraylength, 1) := by decide +kernel
theorem dX0_enter_37 : decode cX0_enter 37 = .ok (.if_icmp .ge 23, 3) := by decide +kernel
theorem dX0_enter_40 : decode cX0_enter 40 = .ok (.aload_n 0, 1) := by decide +kernel
theorem dX0_enter_41 : decode cX0_enter 41 = .ok (.getfield 9, 3) := by decide +kernel
theorem dX0_enter_44 : decode cX0_enter 44 = .ok (.aload_n 0, 1) := by decide +kernel
theorem dX0_enter_45 : decode cX0_enter 45 = .ok (.getfield 15, 3) := by decide +kernel
theorem dX0_enter_48 : decode cX0_enter 48 = .ok (.lload_n 1, 1) := by decide +kernel
theorem dX0_enter_49 : decode cX0_enter 49 = .ok (.lastore, 1) := by decide +kernel
theorem dX0_enter_50 : decode cX0_enter 50 = .ok (.aload_n 0, 1) := by decide +kernel
theorem dX0_enter_51 : decode cX0_enter 51 = .ok (.dup, 1) := by decide +kernel
theorem dX0_enter_52 : decode cX0_enter 52 = .ok (.getfield 15, 3) := by decide +kernel
theorem dX0_enter_55 : decode cX0_enter 55 = .ok (.iconst 1, 1) := by decide +kernel
theorem dX0_enter_56 : decode cX0_enter 56 = .ok (.iadd, 1) := by decide +kernel
theorem dX0_enter_57 : decode cX0_enter 57 = .ok (.putfield 15, 3) := by decide +kernel
theorem dX0_enter_60 : decode cX0_enter 60 = .ok (.return_, 1) := by decide +kernel
theorem dX0_isKnown_0 : decode cX0_isKnown 0 = .ok (.iconst 0, 1) := by decide +kernel
theorem dX0_isKnown_1 : decode cX0_isKnown 1 = .ok (.istore_n 3, 1) := by decide +kernel
theorem dX0_isKnown_2 : decode cX0_isKnown 2 = .ok (.iload_n 3, 1) := by decide +kernel
theorem dX0_isKnown_3 : decode cX0_isKnown 3 = .ok (.aload_n 0, 1) := by decide +kernel
theorem dX0_isKnown_4 : decode cX0_isKnown 4 = .ok (.getfield 15, 3) := by decide +kernel
theorem dX0_isKnown_7 : decode cX0_isKnown 7 = .ok (.if_icmp .ge 31, 3) := by decide +kernel
theorem dX0_isKnown_10 : decode cX0_isKnown 10 = .ok (.iload_n 3, 1) := by decide +kernel
theorem dX0_isKnown_11 : decode cX0_isKnown 11 = .ok (.aload_n 0, 1) := by decide +kernel
theorem dX0_isKnown_12 : decode cX0_isKnown 12 = .ok (.getfield 9, 3) := by decide +kernel
theorem dX0_isKnown_15 : decode cX0_isKnown 15 = .ok (.arraylength, 1) := by decide +kernel
theorem dX0_isKnown_16 : decode cX0_isKnown 16 = .ok (.if_icmp .ge 22, 3) := by decide +kernel
theorem dX0_isKnown_19 : decode cX0_isKnown 19 = .ok (.aload_n 0, 1) := by decide +kernel
theorem dX0_isKnown_20 : decode cX0_isKnown 20 = .ok (.getfield 9, 3) := by decide +kernel
theorem dX0_isKnown_23 : decode cX0_isKnown 23 = .ok (.iload_n 3, 1) := by decide +kernel
theorem dX0_isKnown_24 : decode cX0_isKnown 24 = .ok (.laload, 1) := by decide +kernel
theorem dX0_isKnown_25 : decode cX0_isKnown 25 = .ok (.lload_n 1, 1) := by decide +kernel
theorem dX0_isKnown_26 : decode cX0_isKnown 26 = .ok (.lcmp, 1) := by decide +kernel
theorem dX0_isKnown_27 : decode cX0_isKnown 27 = .ok (.ifCond .ne 5, 3) := by decide +kernel
theorem dX0_isKnown_30 : decode cX0_isKnown 30 = .ok (.iconst 1, 1) := by decide +kernel
theorem dX0_isKnown_31 : decode cX0_isKnown 31 = .ok (.ireturn, 1) := by decide +kernel
theorem dX0_isKnown_32 : decode cX0_isKnown 32 = .ok (.iinc 3 1, 3) := by decide +kernel
theorem dX0_isKnown_35 : decode cX0_isKnown 35 = .ok (.goto (-33), 3) := by decide +kernel
theorem dX0_isKnown_38 : decode cX0_isKnown 38 = .ok (.iconst 0, 1) := by decide +kernel
theorem dX0_isKnown_39 : decode cX0_isKnown 39 = .ok (.ireturn, 1) := by decide +kernel
set_option maxRecDepth 20000 in
theorem ggX0_closedCount_X3_lowestVariable : GoodIn wsX0_closedCount wsX3_lowestVariable := goodIn_r _ [6, 7, 8, 5, 9, 10, 11, 12, 13] (by decide +kernel) (by decide +kernel)
set_option maxRecDepth 20000 in
theorem gX0_closedCount_X3_lowestVariable : GoodIn wsX0_closedCount (va_wsS RX0 25 yX3_lowestVariable wsX3_lowestVariable) := goodIn_app (goodIn_of _ (by decide +kernel)) ggX0_closedCount_X3_lowestVariable
set_option maxRecDepth 20000 in
theorem ggX0_closedCount_X3_upperHalf : GoodIn wsX0_closedCount wsX3_upperHalf := goodIn_r _ [9, 10, 11, 5, 12, 13] (by decide +kernel) (by decide +kernel)
set_option maxRecDepth 20000 in
theorem gX0_closedCount_X3_upperHalf : GoodIn wsX0_closedCount (va_wsS RX0 31 yX3_upperHalf wsX3_upperHalf) := goodIn_app (goodIn_of _ (by decide +kernel)) ggX0_closedCount_X3_upperHalf
set_option maxRecDepth 20000 in
theorem ggX0_closedCount_X0_enter : GoodIn wsX0_closedCount wsX0_enter := goodIn_r _ [19, 20, 1, 2, 21, 22, 23, 18, 24, 28, 29] (by decide +kernel) (by decide +kernel)
set_option maxRecDepth 20000 in
theorem gX0_closedCount_X0_enter : GoodIn wsX0_closedCount (wsV RX0 35 RX0 yX0_enter wsX0_enter) := goodIn_app (goodIn_of _ (by decide +kernel)) ggX0_closedCount_X0_enter
set_option maxRecDepth 20000 in
theorem ggX0_closedCount_X3_lowerHalf : GoodIn wsX0_closedCount wsX3_lowerHalf := goodIn_r _ [27, 10, 11, 5, 12, 13] (by decide +kernel) (by decide +kernel)
set_option maxRecDepth 20000 in
theorem gX0_closedCount_X3_lowerHalf : GoodIn wsX0_closedCount (va_wsS RX0 39 yX3_lowerHalf wsX3_lowerHalf) := goodIn_app (goodIn_of _ (by decide +kernel)) ggX0_closedCount_X3_lowerHalf
theorem dX0_closedCount_0 : decode cX0_closedCount 0 = .ok (.iconst 0, 1) := by decide +kernel
theorem dX0_closedCount_1 : decode cX0_closedCount 1 = .ok (.istore_n 1, 1) := by decide +kernel
theorem dX0_closedCount_2 : decode cX0_closedCount 2 = .ok (.iload_n 1, 1) := by decide +kernel
theorem dX0_closedCount_3 : decode cX0_closedCount 3 = .ok (.aload_n 0, 1) := by decide +kernel
theorem dX0_closedCount_4 : decode cX0_closedCount 4 = .ok (.getfield 15, 3) := by decide +kernel
theorem dX0_closedCount_7 : decode cX0_closedCount 7 = .ok (.if_icmp .ge 56, 3) := by decide +kernel
theorem dX0_closedCount_10 : decode cX0_closedCount 10 = .ok (.iload_n 1, 1) := by decide +kernel
theorem dX0_closedCount_11 : decode cX0_closedCount 11 = .ok (.aload_n 0, 1) := by decide +kernel
theorem dX0_closedCount_12 : decode cX0_closedCount 12 = .ok (.getfield 9, 3) := by decide +kernel
theorem dX0_closedCount_15 : decode cX0_closedCount 15 = .ok (.arraylength, 1) := by decide +kernel
theorem dX0_closedCount_16 : decode cX0_closedCount 16 = .ok (.if_icmp .ge 47, 3) := by decide +kernel
theorem dX0_closedCount_19 : decode cX0_closedCount 19 = .ok (.aload_n 0, 1) := by decide +kernel
theorem dX0_closedCount_20 : decode cX0_closedCount 20 = .ok (.getfield 9, 3) := by decide +kernel
theorem dX0_closedCount_23 : decode cX0_closedCount 23 = .ok (.iload_n 1, 1) := by decide +kernel
theorem dX0_closedCount_24 : decode cX0_closedCount 24 = .ok (.laload, 1) := by decide +kernel
theorem dX0_closedCount_25 : decode cX0_closedCount 25 = .ok (.invokestatic 25, 3) := by decide +kernel
theorem dX0_closedCount_28 : decode cX0_closedCount 28 = .ok (.istore_n 2, 1) := by decide +kernel
theorem dX0_closedCount_29 : decode cX0_closedCount 29 = .ok (.aload_n 0, 1) := by decide +kernel
theorem dX0_closedCount_30 : decode cX0_closedCount 30 = .ok (.aload_n 0, 1) := by decide +kernel
theorem dX0_closedCount_31 : decode cX0_closedCount 31 = .ok (.getfield 9, 3) := by decide +kernel
theorem dX0_closedCount_34 : decode cX0_closedCount 34 = .ok (.iload_n 1, 1) := by decide +kernel
theorem dX0_closedCount_35 : decode cX0_closedCount 35 = .ok (.laload, 1) := by decide +kernel
theorem dX0_closedCount_36 : decode cX0_closedCount 36 = .ok (.iload_n 2, 1) := by decide +kernel
theorem dX0_closedCount_37 : decode cX0_closedCount 37 = .ok (.invokestatic 31, 3) := by decide +kernel
theorem dX0_closedCount_40 : decode cX0_closedCount 40 = .ok (.invokevirtual 35, 3) := by decide +kernel
theorem dX0_closedCount_43 : decode cX0_closedCount 43 = .ok (.aload_n 0, 1) := by decide +kernel
theorem dX0_closedCount_44 : decode cX0_closedCount 44 = .ok (.aload_n 0, 1) := by decide +kernel
theorem dX0_closedCount_45 : decode cX0_closedCount 45 = .ok (.getfield 9, 3) := by decide +kernel
theorem dX0_closedCount_48 : decode cX0_closedCount 48 = .ok (.iload_n 1, 1) := by decide +kernel
theorem dX0_closedCount_49 : decode cX0_closedCount 49 = .ok (.laload, 1) := by decide +kernel
theorem dX0_closedCount_50 : decode cX0_closedCount 50 = .ok (.iload_n 2, 1) := by decide +kernel
theorem dX0_closedCount_51 : decode cX0_closedCount 51 = .ok (.invokestatic 39, 3) := by decide +kernel
theorem dX0_closedCount_54 : decode cX0_closedCount 54 = .ok (.invokevirtual 35, 3) := by decide +kernel
theorem dX0_closedCount_57 : decode cX0_closedCount 57 = .ok (.iinc 1 1, 3) := by decide +kernel
theorem dX0_closedCount_60 : decode cX0_closedCount 60 = .ok (.goto (-58), 3) := by decide +kernel
theorem dX0_closedCount_63 : decode cX0_closedCount 63 = .ok (.aload_n 0, 1) := by decide +kernel
theorem dX0_closedCount_64 : decode cX0_closedCount 64 = .ok (.getfield 15, 3) := by decide +kernel
theorem dX0_closedCount_67 : decode cX0_closedCount 67 = .ok (.ireturn, 1) := by decide +kernel
theorem dX1_init_0 : decode cX1_init 0 = .ok (.aload_n 0, 1) := by decide +kernel
theorem dX1_init_1 : decode cX1_init 1 = .ok (.invokespecial 3, 3) := by decide +kernel
theorem dX1_init_4 : decode cX1_init 4 = .ok (.aload_n 0, 1) := by decide +kernel
theorem dX1_init_5 : decode cX1_init 5 = .ok (.bipush 48, 2) := by decide +kernel
theorem dX1_init_7 : decode cX1_init 7 = .ok (.newarray .long, 2) := by decide +kernel
theorem dX1_init_9 : decode cX1_init 9 = .ok (.putfield 11, 3) := by decide +kernel
theorem dX1_init_12 : decode cX1_init 12 = .ok (.aload_n 0, 1) := by decide +kernel
theorem dX1_init_13 : decode cX1_init 13 = .ok (.iconst 0, 1) := by decide +kernel
theorem dX1_init_14 : decode cX1_init 14 = .ok (.putfield 15, 3) := by decide +kernel
theorem dX1_init_17 : decode cX1_init 17 = .ok (.return_, 1) := by decide +kernel
theorem dX1_forget_0 : decode cX1_forget 0 = .ok (.aload_n 0, 1) := by decide +kernel
theorem dX1_forget_1 : decode cX1_forget 1 = .ok (.iconst 0, 1) := by decide +kernel
theorem dX1_forget_2 : decode cX1_forget 2 = .ok (.putfield 15, 3) := by decide +kernel
theorem dX1_forget_5 : decode cX1_forget 5 = .ok (.return_, 1) := by decide +kernel
theorem dX1_isEmpty_0 : decode cX1_isEmpty 0 = .ok (.aload_n 0, 1) := by decide +kernel
theorem dX1_isEmpty_1 : decode cX1_isEmpty 1 = .ok (.getfield 15, 3) := by decide +kernel
theorem dX1_isEmpty_4 : decode cX1_isEmpty 4 = .ok (.ifCond .gt 7, 3) := by decide +kernel
theorem dX1_isEmpty_7 : decode cX1_isEmpty 7 = .ok (.iconst 1, 1) := by decide +kernel
theorem dX1_isEmpty_8 : decode cX1_isEmpty 8 = .ok (.goto 4, 3) := by decide +kernel
theorem dX1_isEmpty_11 : decode cX1_isEmpty 11 = .ok (.iconst 0, 1) := by decide +kernel
theorem dX1_isEmpty_12 : decode cX1_isEmpty 12 = .ok (.ireturn, 1) := by decide +kernel
theorem dX1_keep_0 : decode cX1_keep 0 = .ok (.aload_n 1, 1) := by decide +kernel
theorem dX1_keep_1 : decode cX1_keep 1 = .ok (.arraylength, 1) := by decide +kernel
theorem dX1_keep_2 : decode cX1_keep 2 = .ok (.bipush 8, 2) := by decide +kernel
theorem dX1_keep_4 : decode cX1_keep 4 = .ok (.if_icmp .eq 4, 3) := by decide +kernel
theorem dX1_keep_7 : decode cX1_keep 7 = .ok (.return_, 1) := by decide +kernel
theorem dX1_keep_8 : decode cX1_keep 8 = .ok (.aload_n 0, 1) := by decide +kernel
theorem dX1_keep_9 : decode cX1_keep 9 = .ok (.getfield 15, 3) := by decide +kernel
theorem dX1_keep_12 : decode cX1_keep 12 = .ok (.bipush 6, 2) := by decide +kernel
theorem dX1_keep_14 : decode cX1_keep 14 = .ok (.if_icmp .lt 24, 3) := by decide +kernel
theorem dX1_keep_17 : decode cX1_keep 17 = .ok (.aload_n 0, 1) := by decide +kernel
theorem dX1_keep_18 : decode cX1_keep 18 = .ok (.getfield 11, 3) := by decide +kernel
theorem dX1_keep_21 : decode cX1_keep 21 = .ok (.bipush 8, 2) := by decide +kernel
theorem dX1_keep_23 : decode cX1_keep 23 = .ok (.aload_n 0, 1) := by decide +kernel
theorem dX1_keep_24 : decode cX1_keep 24 = .ok (.getfield 11, 3) := by decide +kernel
theorem dX1_keep_27 : decode cX1_keep 27 = .ok (.iconst 0, 1) := by decide +kernel
theorem dX1_keep_28 : decode cX1_keep 28 = .ok (.bipush 40, 2) := by decide +kernel
theorem dX1_keep_30 : decode cX1_keep 30 = .ok (.invokestatic 19, 3) := by decide +kernel
theorem dX1_keep_33 : decode cX1_keep 33 = .ok (.aload_n 0, 1) := by decide +kernel
theorem dX1_keep_34 : decode cX1_keep 34 = .ok (.iconst 5, 1) := by decide +kernel
theorem dX1_keep_35 : decode cX1_keep 35 = .ok (.putfield 15, 3) := by decide +kernel
theorem dX1_keep_38 : decode cX1_keep 38 = .ok (.aload_n 1, 1) := by decide +kernel
theorem dX1_keep_39 : decode cX1_keep 39 = .ok (.iconst 0, 1) := by decide +kernel
theorem dX1_keep_40 : decode cX1_keep 40 = .ok (.aload_n 0, 1) := by decide +kernel
theorem dX1_keep_41 : decode cX1_keep 41 = .ok (.getfield 11, 3) := by decide +kernel
theorem dX1_keep_44 : decode cX1_keep 44 = .ok (.aload_n 0, 1) := by decide +kernel
theorem dX1_keep_45 : decode cX1_keep 45 = .ok (.getfield 15, 3) := by decide +kernel
theorem dX1_keep_48 : decode cX1_keep 48 = .ok (.bipush 8, 2) := by decide +kernel
theorem dX1_keep_50 : decode cX1_keep 50 = .ok (.imul, 1) := by decide +kernel
theorem dX1_keep_51 : decode cX1_keep 51 = .ok (.bipush 8, 2) := by decide +kernel
theorem dX1_keep_53 : decode cX1_keep 53 = .ok (.invokestatic 19, 3) := by decide +kernel
theorem dX1_keep_56 : decode cX1_keep 56 = .ok (.aload_n 0, 1) := by decide +kernel
theorem dX1_keep_57 : decode cX1_keep 57 = .ok (.dup, 1) := by decide +kernel
theorem dX1_keep_58 : decode cX1_keep 58 = .ok (.getfield 15, 3) := by decide +kernel
theorem dX1_keep_61 : decode cX1_keep 61 = .ok (.iconst 1, 1) := by decide +kernel
theorem dX1_keep_62 : decode cX1_keep 62 = .ok (.iadd, 1) := by decide +kernel
theorem dX1_keep_63 : decode cX1_keep 63 = .ok (.putfield 15, 3) := by decide +kernel
theorem dX1_keep_66 : decode cX1_keep 66 = .ok (.return_, 1) := by decide +kernel
theorem dX1_restore_0 : decode cX1_restore 0 = .ok (.aload_n 0, 1) := by decide +kernel
theorem dX1_restore_1 : decode cX1_restore 1 = .ok (.getfield 15, 3) := by decide +kernel
theorem dX1_restore_4 : decode cX1_restore 4 = .ok (.ifCond .le 47, 3) := by decide +kernel
theorem dX1_restore_7 : decode cX1_restore 7 = .ok (.aload_n 0, 1) := by decide +kernel
theorem dX1_restore_8 : decode cX1_restore 8 = .ok (.getfield 15, 3) := by decide +kernel
theorem dX1_restore_11 : decode cX1_restore 11 = .ok (.bipush 6, 2) := by decide +kernel
theorem dX1_restore_13 : decode cX1_restore 13 = .ok (.if_icmp .gt 38, 3) := by decide +kernel
theorem dX1_restore_16 : decode cX1_restore 16 = .ok (.aload_n 1, 1) := by decide +kernel
theorem dX1_restore_17 : decode cX1_restore 17 = .ok (.arraylength, 1) := by decide +kernel
theorem dX1_restore_18 : decode cX1_restore 18 = .ok (.bipush 8, 2) := by decide +kernel
theorem dX1_restore_20 : decode cX1_restore 20 = .ok (.if_icmp .ne 31, 3) := by decide +kernel
theorem dX1_restore_23 : decode cX1_restore 23 = .ok (.aload_n 0, 1) := by decide +kernel
theorem dX1_restore_24 : decode cX1_restore 24 = .ok (.dup, 1) := by decide +kernel
theorem dX1_restore_25 : decode cX1_restore 25 = .ok (.getfield 15, 3) := by decide +kernel
theorem dX1_restore_28 : decode cX1_restore 28 = .ok (.iconst 1, 1) := by decide +kernel
theorem dX1_restore_29 : decode cX1_restore 29 = .ok (.isub, 1) := by decide +kernel
theorem dX1_restore_30 : decode cX1_restore 30 = .ok (.putfield 15, 3) := by decide +kernel
theorem dX1_restore_33 : decode cX1_restore 33 = .ok (.aload_n 0, 1) := by decide +kernel
theorem dX1_restore_34 : decode cX1_restore 34 = .ok (.getfield 11, 3) := by decide +kernel
theorem dX1_restore_37 : decode cX1_restore 37 = .ok (.aload_n 0, 1) := by decide +kernel
theorem dX1_restore_38 : decode cX1_restore 38 = .ok (.getfield 15, 3) := by decide +kernel
theorem dX1_restore_41 : decode cX1_restore 41 = .ok (.bipush 8, 2) := by decide +kernel
theorem dX1_restore_43 : decode cX1_restore 43 = .ok (.imul, 1) := by decide +kernel
theorem dX1_restore_44 : decode cX1_restore 44 = .ok (.aload_n 1, 1) := by decide +kernel
theorem dX1_restore_45 : decode cX1_restore 45 = .ok (.iconst 0, 1) := by decide +kernel
theorem dX1_restore_46 : decode cX1_restore 46 = .ok (.bipush 8, 2) := by decide +kernel
theorem dX1_restore_48 : decode cX1_restore 48 = .ok (.invokestatic 19, 3) := by decide +kernel
theorem dX1_restore_51 : decode cX1_restore 51 = .ok (.aload_n 0, 1) := by decide +kernel
theorem dX1_restore_52 : decode cX1_restore 52 = .ok (.getfield 15, 3) := by decide +kernel
theorem dX1_restore_55 : decode cX1_restore 55 = .ok (.ireturn, 1) := by decide +kernel
theorem dX2_tableOf_0 : decode cX2_tableOf 0 = .ok (.iload_n 0, 1) := by decide +kernel
theorem dX2_tableOf_1 : decode cX2_tableOf 1 = .ok (.ifCond .ne 7, 3) := by decide +kernel
theorem dX2_tableOf_4 : decode cX2_tableOf 4 = .ok (.getstatic 9, 3) := by decide +kernel
theorem dX2_tableOf_7 : decode cX2_tableOf 7 = .ok (.areturn, 1) := by decide +kernel
theorem dX2_tableOf_8 : decode cX2_tableOf 8 = .ok (.iload_n 0, 1) := by decide +kernel
theorem dX2_tableOf_9 : decode cX2_tableOf 9 = .ok (.iconst 1, 1) := by decide +kernel
theorem dX2_tableOf_10 : decode cX2_tableOf 10 = .ok (.if_icmp .ne 9, 3) := by decide +kernel
theorem dX2_tableOf_13 : decode cX2_tableOf 13 = .ok (.getstatic 15, 3) := by decide +kernel
theorem dX2_tableOf_16 : decode cX2_tableOf 16 = .ok (.goto 6, 3) := by decide +kernel
theorem dX2_tableOf_19 : decode cX2_tableOf 19 = .ok (.getstatic 18, 3) := by decide +kernel
theorem dX2_tableOf_22 : decode cX2_tableOf 22 = .ok (.areturn, 1) := by decide +kernel
set_option maxRecDepth 20000 in
theorem ggX2_monomialAt_X2_tableOf : GoodIn wsX2_monomialAt wsX2_tableOf := goodIn_r _ [4, 5, 6, 7] (by decide +kernel) (by decide +kernel)
set_option maxRecDepth 20000 in
theorem gX2_monomialAt_X2_tableOf : GoodIn wsX2_monomialAt (va_wsS RX2 21 yX2_tableOf wsX2_tableOf) := goodIn_app (goodIn_of _ (by decide +kernel)) ggX2_monomialAt_X2_tableOf
theorem dX2_monomialAt_0 : decode cX2_monomialAt 0 = .ok (.iload_n 0, 1) := by decide +kernel
theorem dX2_monomialAt_1 : decode cX2_monomialAt 1 = .ok (.invokestatic 21, 3) := by decide +kernel
theorem dX2_monomialAt_4 : decode cX2_monomialAt 4 = .ok (.astore_n 2, 1) := by decide +kernel
theorem dX2_monomialAt_5 : decode cX2_monomialAt 5 = .ok (.iload_n 1, 1) := by decide +kernel
theorem dX2_monomialAt_6 : decode cX2_monomialAt 6 = .ok (.ifCond .lt 15, 3) := by decide +kernel
theorem dX2_monomialAt_9 : decode cX2_monomialAt 9 = .ok (.iload_n 1, 1) := by decide +kernel
theorem dX2_monomialAt_10 : decode cX2_monomialAt 10 = .ok (.aload_n 2, 1) := by decide +kernel
theorem dX2_monomialAt_11 : decode cX2_monomialAt 11 = .ok (.arraylength, 1) := by decide +kernel
theorem dX2_monomialAt_12 : decode cX2_monomialAt 12 = .ok (.if_icmp .ge 9, 3) := by decide +kernel
theorem dX2_monomialAt_15 : decode cX2_monomialAt 15 = .ok (.aload_n 2, 1) := by decide +kernel
theorem dX2_monomialAt_16 : decode cX2_monomialAt 16 = .ok (.iload_n 1, 1) := by decide +kernel
theorem dX2_monomialAt_17 : decode cX2_monomialAt 17 = .ok (.iaload, 1) := by decide +kernel
theorem dX2_monomialAt_18 : decode cX2_monomialAt 18 = .ok (.goto 4, 3) := by decide +kernel
theorem dX2_monomialAt_21 : decode cX2_monomialAt 21 = .ok (.iconst 0, 1) := by decide +kernel
theorem dX2_monomialAt_22 : decode cX2_monomialAt 22 = .ok (.ireturn, 1) := by decide +kernel
set_option maxRecDepth 20000 in
theorem ggX2_termOf_J13_bitCount_95d88 : GoodIn wsX2_termOf wsJ13_bitCount_95d88 := goodIn_r _ [4, 5, 6, 7] (by decide +kernel) (by decide +kernel)
set_option maxRecDepth 20000 in
theorem gX2_termOf_J13_bitCount_95d88 : GoodIn wsX2_termOf (va_wsS RX2 25 yJ13_bitCount_95d88 wsJ13_bitCount_95d88) := goodIn_app (goodIn_of _ (by decide +kernel)) ggX2_termOf_J13_bitCount_95d88
set_option maxRecDepth 20000 in
theorem ggX2_termOf_X2_monomialAt : GoodIn wsX2_termOf wsX2_monomialAt := goodIn_r _ [11, 12, 13, 10, 14, 15, 16, 17] (by decide +kernel) (by decide +kernel)
set_option maxRecDepth 20000 in
theorem gX2_termOf_X2_monomialAt : GoodIn wsX2_termOf (va_wsS RX2 31 yX2_monomialAt wsX2_monomialAt) := goodIn_app (goodIn_of _ (by decide +kernel)) ggX2_termOf_X2_monomialAt
set_option maxRecDepth 20000 in
theorem ggX2_termOf_X3_bit : GoodIn wsX2_termOf wsX3_bit := goodIn_r _ [21] (by decide +kernel) (by decide +kernel)
set_option maxRecDepth 20000 in
theorem gX2_termOf_X3_bit : GoodIn wsX2_termOf (va_wsS RX2 35 yX3_bit wsX3_bit) := goodIn_app (goodIn_of _ (by decide +kernel)) ggX2_termOf_X3_bit
theorem dX2_termOf_0 : decode cX2_termOf 0 = .ok (.iload_n 3, 1) := by decide +kernel
theorem dX2_termOf_1 : decode cX2_termOf 1 = .ok (.lload_n 0, 1) := by decide +kernel
theorem dX2_termOf_2 : decode cX2_termOf 2 = .ok (.invokestatic 25, 3) := by decide +kernel
theorem dX2_termOf_5 : decode cX2_termOf 5 = .ok (.if_icmp .lt 6, 3) := by decide +kernel
theorem dX2_termOf_8 : decode cX2_termOf 8 = .ok (.bipush (-4), 2) := by decide +kernel
theorem dX2_termOf_10 : decode cX2_termOf 10 = .ok (.ireturn, 1) := by decide +kernel
theorem dX2_termOf_11 : decode cX2_termOf 11 = .ok (.iload_n 3, 1) := by decide +kernel
theorem dX2_termOf_12 : decode cX2_termOf 12 = .ok (.istore 4, 2) := by decide +kernel
theorem dX2_termOf_14 : decode cX2_termOf 14 = .ok (.iconst 0, 1) := by decide +kernel
theorem dX2_termOf_15 : decode cX2_termOf 15 = .ok (.istore 5, 2) := by decide +kernel
theorem dX2_termOf_17 : decode cX2_termOf 17 = .ok (.iload 5, 2) := by decide +kernel
theorem dX2_termOf_19 : decode cX2_termOf 19 = .ok (.bipush 64, 2) := by decide +kernel
theorem dX2_termOf_21 : decode cX2_termOf 21 = .ok (.if_icmp .ge 38, 3) := by decide +kernel
theorem dX2_termOf_24 : decode cX2_termOf 24 = .ok (.iload_n 2, 1) := by decide +kernel
theorem dX2_termOf_25 : decode cX2_termOf 25 = .ok (.iload 5, 2) := by decide +kernel
theorem dX2_termOf_27 : decode cX2_termOf 27 = .ok (.invokestatic 31, 3) := by decide +kernel
theorem dX2_termOf_30 : decode cX2_termOf 30 = .ok (.istore 6, 2) := by decide +kernel
theorem dX2_termOf_32 : decode cX2_termOf 32 = .ok (.lload_n 0, 1) := by decide +kernel
theorem dX2_termOf_33 : decode cX2_termOf 33 = .ok (.iload 6, 2) := by decide +kernel
theorem dX2_termOf_35 : decode cX2_termOf 35 = .ok (.invokestatic 35, 3) := by decide +kernel
theorem dX2_termOf_38 : decode cX2_termOf 38 = .ok (.iconst 1, 1) := by decide +kernel
theorem dX2_termOf_39 : decode cX2_termOf 39 = .ok (.if_icmp .ne 14, 3) := by decide +kernel
theorem dX2_termOf_42 : decode cX2_termOf 42 = .ok (.iload 4, 2) := by decide +kernel
theorem dX2_termOf_44 : decode cX2_termOf 44 = .ok (.ifCond .ne 6, 3) := by decide +kernel
theorem dX2_termOf_47 : decode cX2_termOf 47 = .ok (.iload 6, 2) := by decide +kernel
theorem dX2_termOf_49 : decode cX2_termOf 49 = .ok (.ireturn, 1) := by decide +kernel
theorem dX2_termOf_50 : decode cX2_termOf 50 = .ok (.iinc 4 (-1), 3) := by decide +kernel
theorem dX2_termOf_53 : decode cX2_termOf 53 = .ok (.iinc 5 1, 3) := by decide +kernel
theorem dX2_termOf_56 : decode cX2_termOf 56 = .ok (.goto (-39), 3) := by decide +kernel
theorem dX2_termOf_59 : decode cX2_termOf 59 = .ok (.bipush (-4), 2) := by decide +kernel
theorem dX2_termOf_61 : decode cX2_termOf 61 = .ok (.ireturn, 1) := by decide +kernel
theorem dX3_without_0 : decode cX3_without 0 = .ok (.iload_n 0, 1) := by decide +kernel
theorem dX3_without_1 : decode cX3_without 1 = .ok (.ifCond .lt 19, 3) := by decide +kernel
theorem dX3_without_4 : decode cX3_without 4 = .ok (.iload_n 0, 1) := by decide +kernel
theorem dX3_without_5 : decode cX3_without 5 = .ok (.getstatic 9, 3) := by decide +kernel
theorem dX3_without_8 : decode cX3_without 8 = .ok (.arraylength, 1) := by decide +kernel
theorem dX3_without_9 : decode cX3_without 9 = .ok (.if_icmp .ge 11, 3) := by decide +kernel
theorem dX3_without_12 : decode cX3_without 12 = .ok (.getstatic 9, 3) := by decide +kernel
theorem dX3_without_15 : decode cX3_without 15 = .ok (.iload_n 0, 1) := by decide +kernel
theorem dX3_without_16 : decode cX3_without 16 = .ok (.laload, 1) := by decide +kernel
theorem dX3_without_17 : decode cX3_without 17 = .ok (.goto 4, 3) := by decide +kernel
theorem dX3_without_20 : decode cX3_without 20 = .ok (.lconst 0, 1) := by decide +kernel
theorem dX3_without_21 : decode cX3_without 21 = .ok (.lreturn, 1) := by decide +kernel
theorem dX3_ofMonomial_0 : decode cX3_ofMonomial 0 = .ok (.lconst 1, 1) := by decide +kernel
theorem dX3_ofMonomial_1 : decode cX3_ofMonomial 1 = .ok (.iload_n 0, 1) := by decide +kernel
theorem dX3_ofMonomial_2 : decode cX3_ofMonomial 2 = .ok (.lshl, 1) := by decide +kernel
theorem dX3_ofMonomial_3 : decode cX3_ofMonomial 3 = .ok (.lreturn, 1) := by decide +kernel
theorem dX3_bit_0 : decode cX3_bit 0 = .ok (.lload_n 0, 1) := by decide +kernel
theorem dX3_bit_1 : decode cX3_bit 1 = .ok (.iload_n 2, 1) := by decide +kernel
theorem dX3_bit_2 : decode cX3_bit 2 = .ok (.lushr, 1) := by decide +kernel
theorem dX3_bit_3 : decode cX3_bit 3 = .ok (.lconst 1, 1) := by decide +kernel
theorem dX3_bit_4 : decode cX3_bit 4 = .ok (.land, 1) := by decide +kernel
theorem dX3_bit_5 : decode cX3_bit 5 = .ok (.l2i, 1) := by decide +kernel
theorem dX3_bit_6 : decode cX3_bit 6 = .ok (.ireturn, 1) := by decide +kernel
set_option maxRecDepth 20000 in
theorem ggX3_upperHalf_X3_without : GoodIn wsX3_upperHalf wsX3_without := goodIn_r _ [4, 5] (by decide +kernel) (by decide +kernel)
set_option maxRecDepth 20000 in
theorem gX3_upperHalf_X3_without : GoodIn wsX3_upperHalf (va_wsS RX3 15 yX3_without wsX3_without) := goodIn_app (goodIn_of _ (by decide +kernel)) ggX3_upperHalf_X3_without
theorem dX3_upperHalf_0 : decode cX3_upperHalf 0 = .ok (.lload_n 0, 1) := by decide +kernel
theorem dX3_upperHalf_1 : decode cX3_upperHalf 1 = .ok (.iconst 1, 1) := by decide +kernel
theorem dX3_upperHalf_2 : decode cX3_upperHalf 2 = .ok (.iload_n 2, 1) := by decide +kernel
theorem dX3_upperHalf_3 : decode cX3_upperHalf 3 = .ok (.ishl, 1) := by decide +kernel
theorem dX3_upperHalf_4 : decode cX3_upperHalf 4 = .ok (.lushr, 1) := by decide +kernel
theorem dX3_upperHalf_5 : decode cX3_upperHalf 5 = .ok (.iload_n 2, 1) := by decide +kernel
theorem dX3_upperHalf_6 : decode cX3_upperHalf 6 = .ok (.invokestatic 15, 3) := by decide +kernel
theorem dX3_upperHalf_9 : decode cX3_upperHalf 9 = .ok (.land, 1) := by decide +kernel
theorem dX3_upperHalf_10 : decode cX3_upperHalf 10 = .ok (.lreturn, 1) := by decide +kernel
set_option maxRecDepth 20000 in
theorem ggX3_lowerHalf_X3_without : GoodIn wsX3_lowerHalf wsX3_without := goodIn_r _ [4, 5] (by decide +kernel) (by decide +kernel)
set_option maxRecDepth 20000 in
theorem gX3_lowerHalf_X3_without : GoodIn wsX3_lowerHalf (va_wsS RX3 15 yX3_without wsX3_without) := goodIn_app (goodIn_of _ (by decide +kernel)) ggX3_lowerHalf_X3_without
theorem dX3_lowerHalf_0 : decode cX3_lowerHalf 0 = .ok (.lload_n 0, 1) := by decide +kernel
theorem dX3_lowerHalf_1 : decode cX3_lowerHalf 1 = .ok (.iload_n 2, 1) := by decide +kernel
theorem dX3_lowerHalf_2 : decode cX3_lowerHalf 2 = .ok (.invokestatic 15, 3) := by decide +kernel
theorem dX3_lowerHalf_5 : decode cX3_lowerHalf 5 = .ok (.land, 1) := by decide +kernel
theorem dX3_lowerHalf_6 : decode cX3_lowerHalf 6 = .ok (.lreturn, 1) := by decide +kernel
set_option maxRecDepth 20000 in
theorem ggX3_raised_X3_without : GoodIn wsX3_raised wsX3_without := goodIn_r _ [4, 5] (by decide +kernel) (by decide +kernel)
set_option maxRecDepth 20000 in
theorem gX3_raised_X3_without : GoodIn wsX3_raised (va_wsS RX3 15 yX3_without wsX3_without) := goodIn_app (goodIn_of _ (by decide +kernel)) ggX3_raised_X3_without
theorem dX3_raised_0 : decode cX3_raised 0 = .ok (.lload_n 0, 1) := by decide +kernel
theorem dX3_raised_1 : decode cX3_raised 1 = .ok (.iload_n 2, 1) := by decide +kernel
theorem dX3_raised_2 : decode cX3_raised 2 = .ok (.invokestatic 15, 3) := by decide +kernel
theorem dX3_raised_5 : decode cX3_raised 5 = .ok (.land, 1) := by decide +kernel
theorem dX3_raised_6 : decode cX3_raised 6 = .ok (.iconst 1, 1) := by decide +kernel
theorem dX3_raised_7 : decode cX3_raised 7 = .ok (.iload_n 2, 1) := by decide +kernel
theorem dX3_raised_8 : decode cX3_raised 8 = .ok (.ishl, 1) := by decide +kernel
theorem dX3_raised_9 : decode cX3_raised 9 = .ok (.lshl, 1) := by decide +kernel
theorem dX3_raised_10 : decode cX3_raised 10 = .ok (.lreturn, 1) := by decide +kernel
set_option maxRecDepth 20000 in
theorem ggX3_transformed_X3_raised : GoodIn wsX3_transformed wsX3_raised := goodIn_r _ [4, 5, 6, 3, 7, 8] (by decide +kernel) (by decide +kernel)
set_option maxRecDepth 20000 in
theorem gX3_transformed_X3_raised : GoodIn wsX3_transformed (va_wsS RX3 19 yX3_raised wsX3_raised) := goodIn_app (goodIn_of _ (by decide +kernel)) ggX3_transformed_X3_raised
theorem dX3_transformed_0 : decode cX3_transformed 0 = .ok (.lload_n 0, 1) := by decide +kernel
theorem dX3_transformed_1 : decode cX3_transformed 1 = .ok (.lstore_n 3, 1) := by decide +kernel
theorem dX3_transformed_2 : decode cX3_transformed 2 = .ok (.iconst 0, 1) := by decide +kernel
theorem dX3_transformed_3 : decode cX3_transformed 3 = .ok (.istore 5, 2) := by decide +kernel
theorem dX3_transformed_5 : decode cX3_transformed 5 = .ok (.iload 5, 2) := by decide +kernel
theorem dX3_transformed_7 : decode cX3_transformed 7 = .ok (.iload_n 2, 1) := by decide +kernel
theorem dX3_transformed_8 : decode cX3_transformed 8 = .ok (.if_icmp .ge 18, 3) := by decide +kernel
theorem dX3_transformed_11 : decode cX3_transformed 11 = .ok (.lload_n 3, 1) := by decide +kernel
theorem dX3_transformed_12 : decode cX3_transformed 12 = .ok (.lload_n 3, 1) := by decide +kernel
theorem dX3_transformed_13 : decode cX3_transformed 13 = .ok (.iload 5, 2) := by decide +kernel
theorem dX3_transformed_15 : decode cX3_transformed 15 = .ok (.invokestatic 19, 3) := by decide +kernel
theorem dX3_transformed_18 : decode cX3_transformed 18 = .ok (.lxor, 1) := by decide +kernel
theorem dX3_transformed_19 : decode cX3_transformed 19 = .ok (.lstore_n 3, 1) := by decide +kernel
theorem dX3_transformed_20 : decode cX3_transformed 20 = .ok (.iinc 5 1, 3) := by decide +kernel
theorem dX3_transformed_23 : decode cX3_transformed 23 = .ok (.goto (-18), 3) := by decide +kernel
theorem dX3_transformed_26 : decode cX3_transformed 26 = .ok (.lload_n 3, 1) := by decide +kernel
theorem dX3_transformed_27 : decode cX3_transformed 27 = .ok (.lreturn, 1) := by decide +kernel
set_option maxRecDepth 20000 in
theorem ggX3_multiplied_X3_transformed : GoodIn wsX3_multiplied wsX3_transformed := goodIn_r _ [4, 5, 6, 3, 7, 8, 9, 10, 11] (by decide +kernel) (by decide +kernel)
set_option maxRecDepth 20000 in
theorem gX3_multiplied_X3_transformed : GoodIn wsX3_multiplied (va_wsS RX3 23 yX3_transformed wsX3_transformed) := goodIn_app (goodIn_of _ (by decide +kernel)) ggX3_multiplied_X3_transformed
theorem dX3_multiplied_0 : decode cX3_multiplied 0 = .ok (.lload_n 0, 1) := by decide +kernel
theorem dX3_multiplied_1 : decode cX3_multiplied 1 = .ok (.iload 4, 2) := by decide +kernel
theorem dX3_multiplied_3 : decode cX3_multiplied 3 = .ok (.invokestatic 23, 3) := by decide +kernel
theorem dX3_multiplied_6 : decode cX3_multiplied 6 = .ok (.lload_n 2, 1) := by decide +kernel
theorem dX3_multiplied_7 : decode cX3_multiplied 7 = .ok (.iload 4, 2) := by decide +kernel
theorem dX3_multiplied_9 : decode cX3_multiplied 9 = .ok (.invokestatic 23, 3) := by decide +kernel
theorem dX3_multiplied_12 : decode cX3_multiplied 12 = .ok (.land, 1) := by decide +kernel
theorem dX3_multiplied_13 : decode cX3_multiplied 13 = .ok (.iload 4, 2) := by decide +kernel
theorem dX3_multiplied_15 : decode cX3_multiplied 15 = .ok (.invokestatic 23, 3) := by decide +kernel
theorem dX3_multiplied_18 : decode cX3_multiplied 18 = .ok (.lreturn, 1) := by decide +kernel
set_option maxRecDepth 20000 in
theorem ggX3_exchanged_X3_without : GoodIn wsX3_exchanged wsX3_without := goodIn_r _ [5, 6] (by decide +kernel) (by decide +kernel)
set_option maxRecDepth 20000 in
theorem gX3_exchanged_X3_without : GoodIn wsX3_exchanged (va_wsS RX3 15 yX3_without wsX3_without) := goodIn_app (goodIn_of _ (by decide +kernel)) ggX3_exchanged_X3_without
theorem dX3_exchanged_0 : decode cX3_exchanged 0 = .ok (.lload_n 0, 1) := by decide +kernel
theorem dX3_exchanged_1 : decode cX3_exchanged 1 = .ok (.iload_n 2, 1) := by decide +kernel
theorem dX3_exchanged_2 : decode cX3_exchanged 2 = .ok (.invokestatic 15, 3) := by decide +kernel
theorem dX3_exchanged_5 : decode cX3_exchanged 5 = .ok (.ldc2_w 26, 3) := by decide +kernel
theorem dX3_exchanged_8 : decode cX3_exchanged 8 = .ok (.lxor, 1) := by decide +kernel
theorem dX3_exchanged_9 : decode cX3_exchanged 9 = .ok (.land, 1) := by decide +kernel
theorem dX3_exchanged_10 : decode cX3_exchanged 10 = .ok (.iload_n 3, 1) := by decide +kernel
theorem dX3_exchanged_11 : decode cX3_exchanged 11 = .ok (.invokestatic 15, 3) := by decide +kernel
theorem dX3_exchanged_14 : decode cX3_exchanged 14 = .ok (.land, 1) := by decide +kernel
theorem dX3_exchanged_15 : decode cX3_exchanged 15 = .ok (.lstore 4, 2) := by decide +kernel
theorem dX3_exchanged_17 : decode cX3_exchanged 17 = .ok (.lload_n 0, 1) := by decide +kernel
theorem dX3_exchanged_18 : decode cX3_exchanged 18 = .ok (.iload_n 2, 1) := by decide +kernel
theorem dX3_exchanged_19 : decode cX3_exchanged 19 = .ok (.invokestatic 15, 3) := by decide +kernel
theorem dX3_exchanged_22 : decode cX3_exchanged 22 = .ok (.land, 1) := by decide +kernel
theorem dX3_exchanged_23 : decode cX3_exchanged 23 = .ok (.iload_n 3, 1) := by decide +kernel
theorem dX3_exchanged_24 : decode cX3_exchanged 24 = .ok (.invokestatic 15, 3) := by decide +kernel
theorem dX3_exchanged_27 : decode cX3_exchanged 27 = .ok (.ldc2_w 26, 3) := by decide +kernel
theorem dX3_exchanged_30 : decode cX3_exchanged 30 = .ok (.lxor, 1) := by decide +kernel
theorem dX3_exchanged_31 : decode cX3_exchanged 31 = .ok (.land, 1) := by decide +kernel
theorem dX3_exchanged_32 : decode cX3_exchanged 32 = .ok (.lstore 6, 2) := by decide +kernel
theorem dX3_exchanged_34 : decode cX3_exchanged 34 = .ok (.iconst 1, 1) := by decide +kernel
theorem dX3_exchanged_35 : decode cX3_exchanged 35 = .ok (.iload_n 3, 1) := by decide +kernel
theorem dX3_exchanged_36 : decode cX3_exchanged 36 = .ok (.ishl, 1) := by decide +kernel
theorem dX3_exchanged_37 : decode cX3_exchanged 37 = .ok (.iconst 1, 1) := by decide +kernel
theorem dX3_exchanged_38 : decode cX3_exchanged 38 = .ok (.iload_n 2, 1) := by decide +kernel
theorem dX3_exchanged_39 : decode cX3_exchanged 39 = .ok (.ishl, 1) := by decide +kernel
theorem dX3_exchanged_40 : decode cX3_exchanged 40 = .ok (.isub, 1) := by decide +kernel
theorem dX3_exchanged_41 : decode cX3_exchanged 41 = .ok (.istore 8, 2) := by decide +kernel
theorem dX3_exchanged_43 : decode cX3_exchanged 43 = .ok (.lload_n 0, 1) := by decide +kernel
theorem dX3_exchanged_44 : decode cX3_exchanged 44 = .ok (.lload 4, 2) := by decide +kernel
theorem dX3_exchanged_46 : decode cX3_exchanged 46 = .ok (.lxor, 1) := by decide +kernel
theorem dX3_exchanged_47 : decode cX3_exchanged 47 = .ok (.lload 6, 2) := by decide +kernel
theorem dX3_exchanged_49 : decode cX3_exchanged 49 = .ok (.lxor, 1) := by decide +kernel
theorem dX3_exchanged_50 : decode cX3_exchanged 50 = .ok (.lstore 9, 2) := by decide +kernel
theorem dX3_exchanged_52 : decode cX3_exchanged 52 = .ok (.lload 9, 2) := by decide +kernel
theorem dX3_exchanged_54 : decode cX3_exchanged 54 = .ok (.lload 4, 2) := by decide +kernel
theorem dX3_exchanged_56 : decode cX3_exchanged 56 = .ok (.iload 8, 2) := by decide +kernel
theorem dX3_exchanged_58 : decode cX3_exchanged 58 = .ok (.lshl, 1) := by decide +kernel
theorem dX3_exchanged_59 : decode cX3_exchanged 59 = .ok (.lor, 1) := by decide +kernel
theorem dX3_exchanged_60 : decode cX3_exchanged 60 = .ok (.lload 6, 2) := by decide +kernel
theorem dX3_exchanged_62 : decode cX3_exchanged 62 = .ok (.iload 8, 2) := by decide +kernel
theorem dX3_exchanged_64 : decode cX3_exchanged 64 = .ok (.lushr, 1) := by decide +kernel
theorem dX3_exchanged_65 : decode cX3_exchanged 65 = .ok (.lor, 1) := by decide +kernel
theorem dX3_exchanged_66 : decode cX3_exchanged 66 = .ok (.lreturn, 1) := by decide +kernel
set_option maxRecDepth 20000 in
theorem ggX3_lowestVariable_X3_upperHalf : GoodIn wsX3_lowestVariable wsX3_upperHalf := goodIn_r _ [4, 5, 6, 3, 7, 8] (by decide +kernel) (by decide +kernel)
set_option maxRecDepth 20000 in
theorem gX3_lowestVariable_X3_upperHalf : GoodIn wsX3_lowestVariable (va_wsS RX3 28 yX3_upperHalf wsX3_upperHalf) := goodIn_app (goodIn_of _ (by decide +kernel)) ggX3_lowestVariable_X3_upperHalf
theorem dX3_lowestVariable_0 : decode cX3_lowestVariable 0 = .ok (.iconst 0, 1) := by decide +kernel
theorem dX3_lowestVariable_1 : decode cX3_lowestVariable 1 = .ok (.istore_n 2, 1) := by decide +kernel
theorem dX3_lowestVariable_2 : decode cX3_lowestVariable 2 = .ok (.iload_n 2, 1) := by decide +kernel
theorem dX3_lowestVariable_3 : decode cX3_lowestVariable 3 = .ok (.bipush 6, 2) := by decide +kernel
theorem dX3_lowestVariable_5 : decode cX3_lowestVariable 5 = .ok (.if_icmp .ge 19, 3) := by decide +kernel
theorem dX3_lowestVariable_8 : decode cX3_lowestVariable 8 = .ok (.lload_n 0, 1) := by decide +kernel
theorem dX3_lowestVariable_9 : decode cX3_lowestVariable 9 = .ok (.iload_n 2, 1) := by decide +kernel
theorem dX3_lowestVariable_10 : decode cX3_lowestVariable 10 = .ok (.invokestatic 28, 3) := by decide +kernel
theorem dX3_lowestVariable_13 : decode cX3_lowestVariable 13 = .ok (.lconst 0, 1) := by decide +kernel
theorem dX3_lowestVariable_14 : decode cX3_lowestVariable 14 = .ok (.lcmp, 1) := by decide +kernel
theorem dX3_lowestVariable_15 : decode cX3_lowestVariable 15 = .ok (.ifCond .ne 9, 3) := by decide +kernel
theorem dX3_lowestVariable_18 : decode cX3_lowestVariable 18 = .ok (.iinc 2 1, 3) := by decide +kernel
theorem dX3_lowestVariable_21 : decode cX3_lowestVariable 21 = .ok (.goto (-19), 3) := by decide +kernel
theorem dX3_lowestVariable_24 : decode cX3_lowestVariable 24 = .ok (.iload_n 2, 1) := by decide +kernel
theorem dX3_lowestVariable_25 : decode cX3_lowestVariable 25 = .ok (.ireturn, 1) := by decide +kernel
set_option maxRecDepth 20000 in
theorem ggX4_lengthOf_X3_bit : GoodIn wsX4_lengthOf wsX3_bit := goodIn_r _ [4] (by decide +kernel) (by decide +kernel)
set_option maxRecDepth 20000 in
theorem gX4_lengthOf_X3_bit : GoodIn wsX4_lengthOf (va_wsS RX4 9 yX3_bit wsX3_bit) := goodIn_app (goodIn_of _ (by decide +kernel)) ggX4_lengthOf_X3_bit
set_option maxRecDepth 20000 in
theorem ggX4_lengthOf_X4_widthOf : GoodIn wsX4_lengthOf wsX4_widthOf := goodIn_r _ [8, 9, 10, 11, 12, 13, 14, 15] (by decide +kernel) (by decide +kernel)
set_option maxRecDepth 20000 in
theorem gX4_lengthOf_X4_widthOf : GoodIn wsX4_lengthOf (va_wsS RX4 15 yX4_widthOf wsX4_widthOf) := goodIn_app (goodIn_of _ (by decide +kernel)) ggX4_lengthOf_X4_widthOf
set_option maxRecDepth 20000 in
theorem ggX4_lengthOf_J13_bitCount_95d88 : GoodIn wsX4_lengthOf wsJ13_bitCount_95d88 := goodIn_r _ [19, 20, 21, 22] (by decide +kernel) (by decide +kernel)
set_option maxRecDepth 20000 in
theorem gX4_lengthOf_J13_bitCount_95d88 : GoodIn wsX4_lengthOf (va_wsS RX4 21 yJ13_bitCount_95d88 wsJ13_bitCount_95d88) := goodIn_app (goodIn_of _ (by decide +kernel)) ggX4_lengthOf_J13_bitCount_95d88
theorem dX4_lengthOf_0 : decode cX4_lengthOf 0 = .ok (.lload_n 0, 1) := by decide +kernel
theorem dX4_lengthOf_1 : decode cX4_lengthOf 1 = .ok (.lconst 0, 1) := by decide +kernel
theorem dX4_lengthOf_2 : decode cX4_lengthOf 2 = .ok (.lcmp, 1) := by decide +kernel
theorem dX4_lengthOf_3 : decode cX4_lengthOf 3 = .ok (.ifCond .ne 5, 3) := by decide +kernel
theorem dX4_lengthOf_6 : decode cX4_lengthOf 6 = .ok (.iconst 1, 1) := by decide +kernel
theorem dX4_lengthOf_7 : decode cX4_lengthOf 7 = .ok (.ireturn, 1) := by decide +kernel
theorem dX4_lengthOf_8 : decode cX4_lengthOf 8 = .ok (.iconst 0, 1) := by decide +kernel
theorem dX4_lengthOf_9 : decode cX4_lengthOf 9 = .ok (.istore_n 2, 1) := by decide +kernel
theorem dX4_lengthOf_10 : decode cX4_lengthOf 10 = .ok (.iconst 0, 1) := by decide +kernel
theorem dX4_lengthOf_11 : decode cX4_lengthOf 11 = .ok (.istore_n 3, 1) := by decide +kernel
theorem dX4_lengthOf_12 : decode cX4_lengthOf 12 = .ok (.iload_n 3, 1) := by decide +kernel
theorem dX4_lengthOf_13 : decode cX4_lengthOf 13 = .ok (.bipush 64, 2) := by decide +kernel
theorem dX4_lengthOf_15 : decode cX4_lengthOf 15 = .ok (.if_icmp .ge 25, 3) := by decide +kernel
theorem dX4_lengthOf_18 : decode cX4_lengthOf 18 = .ok (.lload_n 0, 1) := by decide +kernel
theorem dX4_lengthOf_19 : decode cX4_lengthOf 19 = .ok (.iload_n 3, 1) := by decide +kernel
theorem dX4_lengthOf_20 : decode cX4_lengthOf 20 = .ok (.invokestatic 9, 3) := by decide +kernel
theorem dX4_lengthOf_23 : decode cX4_lengthOf 23 = .ok (.iconst 1, 1) := by decide +kernel
theorem dX4_lengthOf_24 : decode cX4_lengthOf 24 = .ok (.if_icmp .ne 10, 3) := by decide +kernel
theorem dX4_lengthOf_27 : decode cX4_lengthOf 27 = .ok (.iload_n 2, 1) := by decide +kernel
theorem dX4_lengthOf_28 : decode cX4_lengthOf 28 = .ok (.iload_n 3, 1) := by decide +kernel
theorem dX4_lengthOf_29 : decode cX4_lengthOf 29 = .ok (.invokestatic 15, 3) := by decide +kernel
theorem dX4_lengthOf_32 : decode cX4_lengthOf 32 = .ok (.iadd, 1) := by decide +kernel
theorem dX4_lengthOf_33 : decode cX4_lengthOf 33 = .ok (.istore_n 2, 1) := by decide +kernel
theorem dX4_lengthOf_34 : decode cX4_lengthOf 34 = .ok (.iinc 3 1, 3) := by decide +kernel
theorem dX4_lengthOf_37 : decode cX4_lengthOf 37 = .ok (.goto (-25), 3) := by decide +kernel
theorem dX4_lengthOf_40 : decode cX4_lengthOf 40 = .ok (.iload_n 2, 1) := by decide +kernel
theorem dX4_lengthOf_41 : decode cX4_lengthOf 41 = .ok (.lload_n 0, 1) := by decide +kernel
theorem dX4_lengthOf_42 : decode cX4_lengthOf 42 = .ok (.invokestatic 21, 3) := by decide +kernel
theorem dX4_lengthOf_45 : decode cX4_lengthOf 45 = .ok (.iadd, 1) := by decide +kernel
theorem dX4_lengthOf_46 : decode cX4_lengthOf 46 = .ok (.iconst 1, 1) := by decide +kernel
theorem dX4_lengthOf_47 : decode cX4_lengthOf 47 = .ok (.isub, 1) := by decide +kernel
theorem dX4_lengthOf_48 : decode cX4_lengthOf 48 = .ok (.ireturn, 1) := by decide +kernel
set_option maxRecDepth 20000 in
theorem ggX4_characterOf_X4_lengthOf : GoodIn wsX4_characterOf wsX4_lengthOf := goodIn_r _ [4, 5, 6, 7, 8, 9, 10, 3, 11, 12, 13, 14, 15, 16, 17, 18, 19, 20, 21, 22, 23, 24, 25] (by decide +kernel) (by decide +kernel)
set_option maxRecDepth 20000 in
theorem gX4_characterOf_X4_lengthOf : GoodIn wsX4_characterOf (va_wsS RX4 27 yX4_lengthOf wsX4_lengthOf) := goodIn_app (goodIn_of _ (by decide +kernel)) ggX4_characterOf_X4_lengthOf
set_option maxRecDepth 20000 in
theorem ggX4_characterOf_X2_monomialAt : GoodIn wsX4_characterOf wsX2_monomialAt := goodIn_r _ [29, 30, 31, 28, 32, 33, 34, 35] (by decide +kernel) (by decide +kernel)
set_option maxRecDepth 20000 in
theorem gX4_characterOf_X2_monomialAt : GoodIn wsX4_characterOf (va_wsS RX4 32 yX2_monomialAt wsX2_monomialAt) := goodIn_app (goodIn_of _ (by decide +kernel)) ggX4_characterOf_X2_monomialAt
set_option maxRecDepth 20000 in
theorem ggX4_characterOf_X3_bit : GoodIn wsX4_characterOf wsX3_bit := goodIn_r _ [8] (by decide +kernel) (by decide +kernel)
set_option maxRecDepth 20000 in
theorem gX4_characterOf_X3_bit : GoodIn wsX4_characterOf (va_wsS RX4 9 yX3_bit wsX3_bit) := goodIn_app (goodIn_of _ (by decide +kernel)) ggX4_characterOf_X3_bit
set_option maxRecDepth 20000 in
theorem ggX4_characterOf_X4_widthOf : GoodIn wsX4_characterOf wsX4_widthOf := goodIn_r _ [11, 12, 13, 14, 15, 16, 17, 18] (by decide +kernel) (by decide +kernel)
set_option maxRecDepth 20000 in
theorem gX4_characterOf_X4_widthOf : GoodIn wsX4_characterOf (va_wsS RX4 15 yX4_widthOf wsX4_widthOf) := goodIn_app (goodIn_of _ (by decide +kernel)) ggX4_characterOf_X4_widthOf
set_option maxRecDepth 20000 in
theorem ggX4_characterOf_X4_signOf : GoodIn wsX4_characterOf wsX4_signOf := goodIn_r _ [38] (by decide +kernel) (by decide +kernel)
set_option maxRecDepth 20000 in
theorem gX4_characterOf_X4_signOf : GoodIn wsX4_characterOf (va_wsS RX4 36 yX4_signOf wsX4_signOf) := goodIn_app (goodIn_of _ (by decide +kernel)) ggX4_characterOf_X4_signOf
theorem dX4_characterOf_0 : decode cX4_characterOf 0 = .ok (.iload_n 2, 1) := by decide +kernel
theorem dX4_characterOf_1 : decode cX4_characterOf 1 = .ok (.lload_n 0, 1) := by decide +kernel
theorem dX4_characterOf_2 : decode cX4_characterOf 2 = .ok (.invokestatic 27, 3) := by decide +kernel
theorem dX4_characterOf_5 : decode cX4_characterOf 5 = .ok (.if_icmp .lt 6, 3) := by decide +kernel
theorem dX4_characterOf_8 : decode cX4_characterOf 8 = .ok (.bipush (-4), 2) := by decide +kernel
theorem dX4_characterOf_10 : decode cX4_characterOf 10 = .ok (.ireturn, 1) := by decide +kernel
theorem dX4_characterOf_11 : decode cX4_characterOf 11 = .ok (.lload_n 0, 1) := by decide +kernel
theorem dX4_characterOf_12 : decode cX4_characterOf 12 = .ok (.lconst 0, 1) := by decide +kernel
theorem dX4_characterOf_13 : decode cX4_characterOf 13 = .ok (.lcmp, 1) := by decide +kernel
theorem dX4_characterOf_14 : decode cX4_characterOf 14 = .ok (.ifCond .ne 6, 3) := by decide +kernel
theorem dX4_characterOf_17 : decode cX4_characterOf 17 = .ok (.bipush 48, 2) := by decide +kernel
theorem dX4_characterOf_19 : decode cX4_characterOf 19 = .ok (.ireturn, 1) := by decide +kernel
theorem dX4_characterOf_20 : decode cX4_characterOf 20 = .ok (.iload_n 2, 1) := by decide +kernel
theorem dX4_characterOf_21 : decode cX4_characterOf 21 = .ok (.istore_n 3, 1) := by decide +kernel
theorem dX4_characterOf_22 : decode cX4_characterOf 22 = .ok (.iconst 0, 1) := by decide +kernel
theorem dX4_characterOf_23 : decode cX4_characterOf 23 = .ok (.istore 4, 2) := by decide +kernel
theorem dX4_characterOf_25 : decode cX4_characterOf 25 = .ok (.iload 4, 2) := by decide +kernel
theorem dX4_characterOf_27 : decode cX4_characterOf 27 = .ok (.bipush 64, 2) := by decide +kernel
theorem dX4_characterOf_29 : decode cX4_characterOf 29 = .ok (.if_icmp .ge 65, 3) := by decide +kernel
theorem dX4_characterOf_32 : decode cX4_characterOf 32 = .ok (.iconst 0, 1) := by decide +kernel
theorem dX4_characterOf_33 : decode cX4_characterOf 33 = .ok (.iload 4, 2) := by decide +kernel
theorem dX4_characterOf_35 : decode cX4_characterOf 35 = .ok (.invokestatic 32, 3) := by decide +kernel
theorem dX4_characterOf_38 : decode cX4_characterOf 38 = .ok (.istore 5, 2) := by decide +kernel
theorem dX4_characterOf_40 : decode cX4_characterOf 40 = .ok (.lload_n 0, 1) := by decide +kernel
theorem dX4_characterOf_41 : decode cX4_characterOf 41 = .ok (.iload 5, 2) := by decide +kernel
theorem dX4_characterOf_43 : decode cX4_characterOf 43 = .ok (.invokestatic 9, 3) := by decide +kernel
theorem dX4_characterOf_46 : decode cX4_characterOf 46 = .ok (.iconst 1, 1) := by decide +kernel
theorem dX4_characterOf_47 : decode cX4_characterOf 47 = .ok (.if_icmp .ne 41, 3) := by decide +kernel
theorem dX4_characterOf_50 : decode cX4_characterOf 50 = .ok (.iload 5, 2) := by decide +kernel
theorem dX4_characterOf_52 : decode cX4_characterOf 52 = .ok (.invokestatic 15, 3) := by decide +kernel
theorem dX4_characterOf_55 : decode cX4_characterOf 55 = .ok (.istore 6, 2) := by decide +kernel
theorem dX4_characterOf_57 : decode cX4_characterOf 57 = .ok (.iload_n 3, 1) := by decide +kernel
theorem dX4_characterOf_58 : decode cX4_characterOf 58 = .ok (.iload 6, 2) := by decide +kernel
theorem dX4_characterOf_60 : decode cX4_characterOf 60 = .ok (.if_icmp .gt 21, 3) := by decide +kernel
theorem dX4_characterOf_63 : decode cX4_characterOf 63 = .ok (.iload_n 3, 1) := by decide +kernel
theorem dX4_characterOf_64 : decode cX4_characterOf 64 = .ok (.iload 6, 2) := by decide +kernel
theorem dX4_characterOf_66 : decode cX4_characterOf 66 = .ok (.if_icmp .ne 8, 3) := by decide +kernel
theorem dX4_characterOf_69 : decode cX4_characterOf 69 = .ok (.bipush 43, 2) := by decide +kernel
theorem dX4_characterOf_71 : decode cX4_characterOf 71 = .ok (.goto 9, 3) := by decide +kernel
theorem dX4_characterOf_74 : decode cX4_characterOf 74 = .ok (.iload 5, 2) := by decide +kernel
theorem dX4_characterOf_76 : decode cX4_characterOf 76 = .ok (.iload_n 3, 1) := by decide +kernel
theorem dX4_characterOf_77 : decode cX4_characterOf 77 = .ok (.invokestatic 36, 3) := by decide +kernel
theorem dX4_characterOf_80 : decode cX4_characterOf 80 = .ok (.ireturn, 1) := by decide +kernel
theorem dX4_characterOf_81 : decode cX4_characterOf 81 = .ok (.iload_n 3, 1) := by decide +kernel
theorem dX4_characterOf_82 : decode cX4_characterOf 82 = .ok (.iload 6, 2) := by decide +kernel
theorem dX4_characterOf_84 : decode cX4_characterOf 84 = .ok (.iconst 1, 1) := by decide +kernel
theorem dX4_characterOf_85 : decode cX4_characterOf 85 = .ok (.iadd, 1) := by decide +kernel
theorem dX4_characterOf_86 : decode cX4_characterOf 86 = .ok (.isub, 1) := by decide +kernel
theorem dX4_characterOf_87 : decode cX4_characterOf 87 = .ok (.istore_n 3, 1) := by decide +kernel
theorem dX4_characterOf_88 : decode cX4_characterOf 88 = .ok (.iinc 4 1, 3) := by decide +kernel
theorem dX4_characterOf_91 : decode cX4_characterOf 91 = .ok (.goto (-66), 3) := by decide +kernel
theorem dX4_characterOf_94 : decode cX4_characterOf 94 = .ok (.bipush (-4), 2) := by decide +kernel
theorem dX4_characterOf_96 : decode cX4_characterOf 96 = .ok (.ireturn, 1) := by decide +kernel
set_option maxRecDepth 20000 in
theorem ggX4_widthOf_J6_bitCount_0f7a4 : GoodIn wsX4_widthOf wsJ6_bitCount_0f7a4 := goodIn_r _ [4, 5, 6, 7] (by decide +kernel) (by decide +kernel)
set_option maxRecDepth 20000 in
theorem gX4_widthOf_J6_bitCount_0f7a4 : GoodIn wsX4_widthOf (va_wsS RX4 39 yJ6_bitCount_0f7a4 wsJ6_bitCount_0f7a4) := goodIn_app (goodIn_of _ (by decide +kernel)) ggX4_widthOf_J6_bitCount_0f7a4
theorem dX4_widthOf_0 : decode cX4_widthOf 0 = .ok (.iload_n 0, 1) := by decide +kernel
theorem dX4_widthOf_1 : decode cX4_widthOf 1 = .ok (.ifCond .ne 7, 3) := by decide +kernel
theorem dX4_widthOf_4 : decode cX4_widthOf 4 = .ok (.iconst 1, 1) := by decide +kernel
theorem dX4_widthOf_5 : decode cX4_widthOf 5 = .ok (.goto 7, 3) := by decide +kernel
theorem dX4_widthOf_8 : decode cX4_widthOf 8 = .ok (.iload_n 0, 1) := by decide +kernel
theorem dX4_widthOf_9 : decode cX4_widthOf 9 = .ok (.invokestatic 39, 3) := by decide +kernel
theorem dX4_widthOf_12 : decode cX4_widthOf 12 = .ok (.ireturn, 1) := by decide +kernel
theorem dX4_signOf_0 : decode cX4_signOf 0 = .ok (.iload_n 1, 1) := by decide +kernel
theorem dX4_signOf_1 : decode cX4_signOf 1 = .ok (.istore_n 2, 1) := by decide +kernel
theorem dX4_signOf_2 : decode cX4_signOf 2 = .ok (.iconst 0, 1) := by decide +kernel
theorem dX4_signOf_3 : decode cX4_signOf 3 = .ok (.istore_n 3, 1) := by decide +kernel
theorem dX4_signOf_4 : decode cX4_signOf 4 = .ok (.iload_n 3, 1) := by decide +kernel
theorem dX4_signOf_5 : decode cX4_signOf 5 = .ok (.bipush 6, 2) := by decide +kernel
theorem dX4_signOf_7 : decode cX4_signOf 7 = .ok (.if_icmp .ge 30, 3) := by decide +kernel
theorem dX4_signOf_10 : decode cX4_signOf 10 = .ok (.iload_n 0, 1) := by decide +kernel
theorem dX4_signOf_11 : decode cX4_signOf 11 = .ok (.iload_n 3, 1) := by decide +kernel
theorem dX4_signOf_12 : decode cX4_signOf 12 = .ok (.ishr, 1) := by decide +kernel
theorem dX4_signOf_13 : decode cX4_signOf 13 = .ok (.iconst 1, 1) := by decide +kernel
theorem dX4_signOf_14 : decode cX4_signOf 14 = .ok (.iand, 1) := by decide +kernel
theorem dX4_signOf_15 : decode cX4_signOf 15 = .ok (.iconst 1, 1) := by decide +kernel
theorem dX4_signOf_16 : decode cX4_signOf 16 = .ok (.if_icmp .ne 15, 3) := by decide +kernel
theorem dX4_signOf_19 : decode cX4_signOf 19 = .ok (.iload_n 2, 1) := by decide +kernel
theorem dX4_signOf_20 : decode cX4_signOf 20 = .ok (.ifCond .ne 8, 3) := by decide +kernel
theorem dX4_signOf_23 : decode cX4_signOf 23 = .ok (.bipush 97, 2) := by decide +kernel
theorem dX4_signOf_25 : decode cX4_signOf 25 = .ok (.iload_n 3, 1) := by decide +kernel
theorem dX4_signOf_26 : decode cX4_signOf 26 = .ok (.iadd, 1) := by decide +kernel
theorem dX4_signOf_27 : decode cX4_signOf 27 = .ok (.ireturn, 1) := by decide +kernel
theorem dX4_signOf_28 : decode cX4_signOf 28 = .ok (.iinc 2 (-1), 3) := by decide +kernel
theorem dX4_signOf_31 : decode cX4_signOf 31 = .ok (.iinc 3 1, 3) := by decide +kernel
theorem dX4_signOf_34 : decode cX4_signOf 34 = .ok (.goto (-30), 3) := by decide +kernel
theorem dX4_signOf_37 : decode cX4_signOf 37 = .ok (.bipush 49, 2) := by decide +kernel
theorem dX4_signOf_39 : decode cX4_signOf 39 = .ok (.ireturn, 1) := by decide +kernel
theorem dX5_init_0 : decode cX5_init 0 = .ok (.aload_n 0, 1) := by decide +kernel
theorem dX5_init_1 : decode cX5_init 1 = .ok (.invokespecial 3, 3) := by decide +kernel
theorem dX5_init_4 : decode cX5_init 4 = .ok (.aload_n 0, 1) := by decide +kernel
theorem dX5_init_5 : decode cX5_init 5 = .ok (.bipush 60, 2) := by decide +kernel
theorem dX5_init_7 : decode cX5_init 7 = .ok (.newarray .char, 2) := by decide +kernel
theorem dX5_init_9 : decode cX5_init 9 = .ok (.putfield 11, 3) := by decide +kernel
theorem dX5_init_12 : decode cX5_init 12 = .ok (.aload_n 0, 1) := by decide +kernel
theorem dX5_init_13 : decode cX5_init 13 = .ok (.iconst 0, 1) := by decide +kernel
theorem dX5_init_14 : decode cX5_init 14 = .ok (.putfield 15, 3) := by decide +kernel
theorem dX5_init_17 : decode cX5_init 17 = .ok (.return_, 1) := by decide +kernel
theorem dX5_append_0 : decode cX5_append 0 = .ok (.aload_n 0, 1) := by decide +kernel
theorem dX5_append_1 : decode cX5_append 1 = .ok (.getfield 15, 3) := by decide +kernel
theorem dX5_append_4 : decode cX5_append 4 = .ok (.ifCond .lt 12, 3) := by decide +kernel
theorem dX5_append_7 : decode cX5_append 7 = .ok (.aload_n 0, 1) := by decide +kernel
theorem dX5_append_8 : decode cX5_append 8 = .ok (.getfield 15, 3) := by decide +kernel
theorem dX5_append_11 : decode cX5_append 11 = .ok (.bipush 60, 2) := by decide +kernel
theorem dX5_append_13 : decode cX5_append 13 = .ok (.if_icmp .lt 6, 3) := by decide +kernel
theorem dX5_append_16 : decode cX5_append 16 = .ok (.bipush (-3), 2) := by decide +kernel
theorem dX5_append_18 : decode cX5_append 18 = .ok (.ireturn, 1) := by decide +kernel
theorem dX5_append_19 : decode cX5_append 19 = .ok (.aload_n 0, 1) := by decide +kernel
theorem dX5_append_20 : decode cX5_append 20 = .ok (.getfield 11, 3) := by decide +kernel
theorem dX5_append_23 : decode cX5_append 23 = .ok (.aload_n 0, 1) := by decide +kernel
theorem dX5_append_24 : decode cX5_append 24 = .ok (.getfield 15, 3) := by decide +kernel
theorem dX5_append_27 : decode cX5_append 27 = .ok (.iload_n 1, 1) := by decide +kernel
theorem dX5_append_28 : decode cX5_append 28 = .ok (.castore, 1) := by decide +kernel
theorem dX5_append_29 : decode cX5_append 29 = .ok (.aload_n 0, 1) := by decide +kernel
theorem dX5_append_30 : decode cX5_append 30 = .ok (.dup, 1) := by decide +kernel
theorem dX5_append_31 : decode cX5_append 31 = .ok (.getfield 15, 3) := by decide +kernel
theorem dX5_append_34 : decode cX5_append 34 = .ok (.iconst 1, 1) := by decide +kernel
theorem dX5_append_35 : decode cX5_append 35 = .ok (.iadd, 1) := by decide +kernel
theorem dX5_append_36 : decode cX5_append 36 = .ok (.putfield 15, 3) := by decide +kernel
theorem dX5_append_39 : decode cX5_append 39 = .ok (.aload_n 0, 1) := by decide +kernel
theorem dX5_append_40 : decode cX5_append 40 = .ok (.getfield 15, 3) := by decide +kernel
theorem dX5_append_43 : decode cX5_append 43 = .ok (.ireturn, 1) := by decide +kernel
theorem dX5_empty_0 : decode cX5_empty 0 = .ok (.aload_n 0, 1) := by decide +kernel
theorem dX5_empty_1 : decode cX5_empty 1 = .ok (.getfield 15, 3) := by decide +kernel
theorem dX5_empty_4 : decode cX5_empty 4 = .ok (.istore_n 1, 1) := by decide +kernel
theorem dX5_empty_5 : decode cX5_empty 5 = .ok (.aload_n 0, 1) := by decide +kernel
theorem dX5_empty_6 : decode cX5_empty 6 = .ok (.iconst 0, 1) := by decide +kernel
theorem dX5_empty_7 : decode cX5_empty 7 = .ok (.putfield 15, 3) := by decide +kernel
theorem dX5_empty_10 : decode cX5_empty 10 = .ok (.iload_n 1, 1) := by decide +kernel
theorem dX5_empty_11 : decode cX5_empty 11 = .ok (.ireturn, 1) := by decide +kernel
set_option maxRecDepth 20000 in
theorem ggX5_firstFault_X5_seenAfter : GoodIn wsX5_firstFault wsX5_seenAfter := goodIn_r _ [6] (by decide +kernel) (by decide +kernel)
set_option maxRecDepth 20000 in
theorem gX5_firstFault_X5_seenAfter : GoodIn wsX5_firstFault (va_wsS RX5 19 yX5_seenAfter wsX5_seenAfter) := goodIn_app (goodIn_of _ (by decide +kernel)) ggX5_firstFault_X5_seenAfter
theorem dX5_firstFault_0 : decode cX5_firstFault 0 = .ok (.iconst (-1), 1) := by decide +kernel
theorem dX5_firstFault_1 : decode cX5_firstFault 1 = .ok (.istore_n 2, 1) := by decide +kernel
theorem dX5_firstFault_2 : decode cX5_firstFault 2 = .ok (.iconst 0, 1) := by decide +kernel
theorem dX5_firstFault_3 : decode cX5_firstFault 3 = .ok (.istore_n 3, 1) := by decide +kernel
theorem dX5_firstFault_4 : decode cX5_firstFault 4 = .ok (.iload_n 3, 1) := by decide +kernel
theorem dX5_firstFault_5 : decode cX5_firstFault 5 = .ok (.aload_n 0, 1) := by decide +kernel
theorem dX5_firstFault_6 : decode cX5_firstFault 6 = .ok (.getfield 15, 3) := by decide +kernel
theorem dX5_firstFault_9 : decode cX5_firstFault 9 = .ok (.if_icmp .ge 35, 3) := by decide +kernel
theorem dX5_firstFault_12 : decode cX5_firstFault 12 = .ok (.iload_n 3, 1) := by decide +kernel
theorem dX5_firstFault_13 : decode cX5_firstFault 13 = .ok (.bipush 60, 2) := by decide +kernel
theorem dX5_firstFault_15 : decode cX5_firstFault 15 = .ok (.if_icmp .ge 29, 3) := by decide +kernel
theorem dX5_firstFault_18 : decode cX5_firstFault 18 = .ok (.iload_n 2, 1) := by decide +kernel
theorem dX5_firstFault_19 : decode cX5_firstFault 19 = .ok (.aload_n 0, 1) := by decide +kernel
theorem dX5_firstFault_20 : decode cX5_firstFault 20 = .ok (.getfield 11, 3) := by decide +kernel
theorem dX5_firstFault_23 : decode cX5_firstFault 23 = .ok (.iload_n 3, 1) := by decide +kernel
theorem dX5_firstFault_24 : decode cX5_firstFault 24 = .ok (.caload, 1) := by decide +kernel
theorem dX5_firstFault_25 : decode cX5_firstFault 25 = .ok (.iload_n 1, 1) := by decide +kernel
theorem dX5_firstFault_26 : decode cX5_firstFault 26 = .ok (.invokestatic 19, 3) := by decide +kernel
theorem dX5_firstFault_29 : decode cX5_firstFault 29 = .ok (.istore_n 2, 1) := by decide +kernel
theorem dX5_firstFault_30 : decode cX5_firstFault 30 = .ok (.iload_n 2, 1) := by decide +kernel
theorem dX5_firstFault_31 : decode cX5_firstFault 31 = .ok (.bipush 7, 2) := by decide +kernel
theorem dX5_firstFault_33 : decode cX5_firstFault 33 = .ok (.if_icmp .ne 5, 3) := by decide +kernel
theorem dX5_firstFault_36 : decode cX5_firstFault 36 = .ok (.iload_n 3, 1) := by decide +kernel
theorem dX5_firstFault_37 : decode cX5_firstFault 37 = .ok (.ireturn, 1) := by decide +kernel
theorem dX5_firstFault_38 : decode cX5_firstFault 38 = .ok (.iinc 3 1, 3) := by decide +kernel
theorem dX5_firstFault_41 : decode cX5_firstFault 41 = .ok (.goto (-37), 3) := by decide +kernel
theorem dX5_firstFault_44 : decode cX5_firstFault 44 = .ok (.iload_n 2, 1) := by decide +kernel
theorem dX5_firstFault_45 : decode cX5_firstFault 45 = .ok (.iconst (-1), 1) := by decide +kernel
theorem dX5_firstFault_46 : decode cX5_firstFault 46 = .ok (.if_icmp .ne 10, 3) := by decide +kernel
theorem dX5_firstFault_49 : decode cX5_firstFault 49 = .ok (.aload_n 0, 1) := by decide +kernel
theorem dX5_firstFault_50 : decode cX5_firstFault 50 = .ok (.getfield 15, 3) := by decide +kernel
theorem dX5_firstFault_53 : decode cX5_firstFault 53 = .ok (.goto 5, 3) := by decide +kernel
theorem dX5_firstFault_56 : decode cX5_firstFault 56 = .ok (.bipush (-4), 2) := by decide +kernel
theorem dX5_firstFault_58 : decode cX5_firstFault 58 = .ok (.ireturn, 1) := by decide +kernel
theorem dX5_seenAfter_0 : decode cX5_seenAfter 0 = .ok (.iload_n 1, 1) := by decide +kernel
theorem dX5_seenAfter_1 : decode cX5_seenAfter 1 = .ok (.bipush 43, 2) := by decide +kernel
theorem dX5_seenAfter_3 : decode cX5_seenAfter 3 = .ok (.if_icmp .ne 15, 3) := by decide +kernel
theorem dX5_seenAfter_6 : decode cX5_seenAfter 6 = .ok (.iload_n 0, 1) := by decide +kernel
theorem dX5_seenAfter_7 : decode cX5_seenAfter 7 = .ok (.iconst (-1), 1) := by decide +kernel
theorem dX5_seenAfter_8 : decode cX5_seenAfter 8 = .ok (.if_icmp .ne 8, 3) := by decide +kernel
theorem dX5_seenAfter_11 : decode cX5_seenAfter 11 = .ok (.bipush 7, 2) := by decide +kernel
theorem dX5_seenAfter_13 : decode cX5_seenAfter 13 = .ok (.goto 4, 3) := by decide +kernel
theorem dX5_seenAfter_16 : decode cX5_seenAfter 16 = .ok (.iconst (-1), 1) := by decide +kernel
theorem dX5_seenAfter_17 : decode cX5_seenAfter 17 = .ok (.ireturn, 1) := by decide +kernel
theorem dX5_seenAfter_18 : decode cX5_seenAfter 18 = .ok (.iload_n 1, 1) := by decide +kernel
theorem dX5_seenAfter_19 : decode cX5_seenAfter 19 = .ok (.bipush 48, 2) := by decide +kernel
theorem dX5_seenAfter_21 : decode cX5_seenAfter 21 = .ok (.if_icmp .eq 9, 3) := by decide +kernel
theorem dX5_seenAfter_24 : decode cX5_seenAfter 24 = .ok (.iload_n 1, 1) := by decide +kernel
theorem dX5_seenAfter_25 : decode cX5_seenAfter 25 = .ok (.bipush 49, 2) := by decide +kernel
theorem dX5_seenAfter_27 : decode cX5_seenAfter 27 = .ok (.if_icmp .ne 16, 3) := by decide +kernel
theorem dX5_seenAfter_30 : decode cX5_seenAfter 30 = .ok (.iload_n 0, 1) := by decide +kernel
theorem dX5_seenAfter_31 : decode cX5_seenAfter 31 = .ok (.iconst (-1), 1) := by decide +kernel
theorem dX5_seenAfter_32 : decode cX5_seenAfter 32 = .ok (.if_icmp .ne 8, 3) := by decide +kernel
theorem dX5_seenAfter_35 : decode cX5_seenAfter 35 = .ok (.bipush 6, 2) := by decide +kernel
theorem dX5_seenAfter_37 : decode cX5_seenAfter 37 = .ok (.goto 5, 3) := by decide +kernel
theorem dX5_seenAfter_40 : decode cX5_seenAfter 40 = .ok (.bipush 7, 2) := by decide +kernel
theorem dX5_seenAfter_42 : decode cX5_seenAfter 42 = .ok (.ireturn, 1) := by decide +kernel
theorem dX5_seenAfter_43 : decode cX5_seenAfter 43 = .ok (.iload_n 1, 1) := by decide +kernel
theorem dX5_seenAfter_44 : decode cX5_seenAfter 44 = .ok (.bipush 97, 2) := by decide +kernel
theorem dX5_seenAfter_46 : decode cX5_seenAfter 46 = .ok (.isub, 1) := by decide +kernel
theorem dX5_seenAfter_47 : decode cX5_seenAfter 47 = .ok (.istore_n 3, 1) := by decide +kernel
theorem dX5_seenAfter_48 : decode cX5_seenAfter 48 = .ok (.iload_n 3, 1) := by decide +kernel
theorem dX5_seenAfter_49 : decode cX5_seenAfter 49 = .ok (.iload_n 0, 1) := by decide +kernel
theorem dX5_seenAfter_50 : decode cX5_seenAfter 50 = .ok (.if_icmp .le 12, 3) := by decide +kernel
theorem dX5_seenAfter_53 : decode cX5_seenAfter 53 = .ok (.iload_n 3, 1) := by decide +kernel
theorem dX5_seenAfter_54 : decode cX5_seenAfter 54 = .ok (.iload_n 2, 1) := by decide +kernel
theorem dX5_seenAfter_55 : decode cX5_seenAfter 55 = .ok (.if_icmp .ge 7, 3) := by decide +kernel
theorem dX5_seenAfter_58 : decode cX5_seenAfter 58 = .ok (.iload_n 3, 1) := by decide +kernel
theorem dX5_seenAfter_59 : decode cX5_seenAfter 59 = .ok (.goto 5, 3) := by decide +kernel
theorem dX5_seenAfter_62 : decode cX5_seenAfter 62 = .ok (.bipush 7, 2) := by decide +kernel
theorem dX5_seenAfter_64 : decode cX5_seenAfter 64 = .ok (.ireturn, 1) := by decide +kernel
set_option maxRecDepth 20000 in
theorem ggX5_polynomial_X3_ofMonomial : GoodIn wsX5_polynomial wsX3_ofMonomial := goodIn_r _ [6] (by decide +kernel) (by decide +kernel)
set_option maxRecDepth 20000 in
theorem gX5_polynomial_X3_ofMonomial : GoodIn wsX5_polynomial (va_wsS RX5 23 yX3_ofMonomial wsX3_ofMonomial) := goodIn_app (goodIn_of _ (by decide +kernel)) ggX5_polynomial_X3_ofMonomial
theorem dX5_polynomial_0 : decode cX5_polynomial 0 = .ok (.lconst 0, 1) := by decide +kernel
theorem dX5_polynomial_1 : decode cX5_polynomial 1 = .ok (.lstore_n 1, 1) := by decide +kernel
theorem dX5_polynomial_2 : decode cX5_polynomial 2 = .ok (.iconst 0, 1) := by decide +kernel
theorem dX5_polynomial_3 : decode cX5_polynomial 3 = .ok (.istore_n 3, 1) := by decide +kernel
theorem dX5_polynomial_4 : decode cX5_polynomial 4 = .ok (.iconst 0, 1) := by decide +kernel
theorem dX5_polynomial_5 : decode cX5_polynomial 5 = .ok (.istore 4, 2) := by decide +kernel
theorem dX5_polynomial_7 : decode cX5_polynomial 7 = .ok (.iconst 0, 1) := by decide +kernel
theorem dX5_polynomial_8 : decode cX5_polynomial 8 = .ok (.istore 5, 2) := by decide +kernel
theorem dX5_polynomial_10 : decode cX5_polynomial 10 = .ok (.iload 5, 2) := by decide +kernel
theorem dX5_polynomial_12 : decode cX5_polynomial 12 = .ok (.aload_n 0, 1) := by decide +kernel
theorem dX5_polynomial_13 : decode cX5_polynomial 13 = .ok (.getfield 15, 3) := by decide +kernel
theorem dX5_polynomial_16 : decode cX5_polynomial 16 = .ok (.if_icmp .ge 86, 3) := by decide +kernel
theorem dX5_polynomial_19 : decode cX5_polynomial 19 = .ok (.iload 5, 2) := by decide +kernel
theorem dX5_polynomial_21 : decode cX5_polynomial 21 = .ok (.bipush 60, 2) := by decide +kernel
theorem dX5_polynomial_23 : decode cX5_polynomial 23 = .ok (.if_icmp .ge 79, 3) := by decide +kernel
theorem dX5_polynomial_26 : decode cX5_polynomial 26 = .ok (.aload_n 0, 1) := by decide +kernel
theorem dX5_polynomial_27 : decode cX5_polynomial 27 = .ok (.getfield 11, 3) := by decide +kernel
theorem dX5_polynomial_30 : decode cX5_polynomial 30 = .ok (.iload 5, 2) := by decide +kernel
theorem dX5_polynomial_32 : decode cX5_polynomial 32 = .ok (.caload, 1) := by decide +kernel
theorem dX5_polynomial_33 : decode cX5_polynomial 33 = .ok (.istore 6, 2) := by decide +kernel
theorem dX5_polynomial_35 : decode cX5_polynomial 35 = .ok (.iload 6, 2) := by decide +kernel
theorem dX5_polynomial_37 : decode cX5_polynomial 37 = .ok (.bipush 43, 2) := by decide +kernel
theorem dX5_polynomial_39 : decode cX5_polynomial 39 = .ok (.if_icmp .ne 27, 3) := by decide +kernel
theorem dX5_polynomial_42 : decode cX5_polynomial 42 = .ok (.lload_n 1, 1) := by decide +kernel
theorem dX5_polynomial_43 : decode cX5_polynomial 43 = .ok (.iload 4, 2) := by decide +kernel
theorem dX5_polynomial_45 : decode cX5_polynomial 45 = .ok (.ifCond .eq 7, 3) := by decide +kernel
theorem dX5_polynomial_48 : decode cX5_polynomial 48 = .ok (.lconst 0, 1) := by decide +kernel
theorem dX5_polynomial_49 : decode cX5_polynomial 49 = .ok (.goto 7, 3) := by decide +kernel
theorem dX5_polynomial_52 : decode cX5_polynomial 52 = .ok (.iload_n 3, 1) := by decide +kernel
theorem dX5_polynomial_53 : decode cX5_polynomial 53 = .ok (.invokestatic 23, 3) := by decide +kernel
theorem dX5_polynomial_56 : decode cX5_polynomial 56 = .ok (.lxor, 1) := by decide +kernel
theorem dX5_polynomial_57 : decode cX5_polynomial 57 = .ok (.lstore_n 1, 1) := by decide +kernel
theorem dX5_polynomial_58 : decode cX5_polynomial 58 = .ok (.iconst 0, 1) := by decide +kernel
theorem dX5_polynomial_59 : decode cX5_polynomial 59 = .ok (.istore_n 3, 1) := by decide +kernel
theorem dX5_polynomial_60 : decode cX5_polynomial 60 = .ok (.iconst 0, 1) := by decide +kernel
theorem dX5_polynomial_61 : decode cX5_polynomial 61 = .ok (.istore 4, 2) := by decide +kernel
theorem dX5_polynomial_63 : decode cX5_polynomial 63 = .ok (.goto 33, 3) := by decide +kernel
theorem dX5_polynomial_66 : decode cX5_polynomial 66 = .ok (.iload 6, 2) := by decide +kernel
theorem dX5_polynomial_68 : decode cX5_polynomial 68 = .ok (.bipush 48, 2) := by decide +kernel
theorem dX5_polynomial_70 : decode cX5_polynomial 70 = .ok (.if_icmp .ne 9, 3) := by decide +kernel
theorem dX5_polynomial_73 : decode cX5_polynomial 73 = .ok (.iconst 1, 1) := by decide +kernel
theorem dX5_polynomial_74 : decode cX5_polynomial 74 = .ok (.istore 4, 2) := by decide +kernel
theorem dX5_polynomial_76 : decode cX5_polynomial 76 = .ok (.goto 20, 3) := by decide +kernel
theorem dX5_polynomial_79 : decode cX5_polynomial 79 = .ok (.iload 6, 2) := by decide +kernel
theorem dX5_polynomial_81 : decode cX5_polynomial 81 = .ok (.bipush 49, 2) := by decide +kernel
theorem dX5_polynomial_83 : decode cX5_polynomial 83 = .ok (.if_icmp .eq 13, 3) := by decide +kernel
theorem dX5_polynomial_86 : decode cX5_polynomial 86 = .ok (.iload_n 3, 1) := by decide +kernel
theorem dX5_polynomial_87 : decode cX5_polynomial 87 = .ok (.iconst 1, 1) := by decide +kernel
theorem dX5_polynomial_88 : decode cX5_polynomial 88 = .ok (.iload 6, 2) := by decide +kernel
theorem dX5_polynomial_90 : decode cX5_polynomial 90 = .ok (.bipush 97, 2) := by decide +kernel
theorem dX5_polynomial_92 : decode cX5_polynomial 92 = .ok (.isub, 1) := by decide +kernel
theorem dX5_polynomial_93 : decode cX5_polynomial 93 = .ok (.ishl, 1) := by decide +kernel
theorem dX5_polynomial_94 : decode cX5_polynomial 94 = .ok (.ior, 1) := by decide +kernel
theorem dX5_polynomial_95 : decode cX5_polynomial 95 = .ok (.istore_n 3, 1) := by decide +kernel
theorem dX5_polynomial_96 : decode cX5_polynomial 96 = .ok (.iinc 5 1, 3) := by decide +kernel
theorem dX5_polynomial_99 : decode cX5_polynomial 99 = .ok (.goto (-89), 3) := by decide +kernel
theorem dX5_polynomial_102 : decode cX5_polynomial 102 = .ok (.lload_n 1, 1) := by decide +kernel
theorem dX5_polynomial_103 : decode cX5_polynomial 103 = .ok (.iload 4, 2) := by decide +kernel
theorem dX5_polynomial_105 : decode cX5_polynomial 105 = .ok (.ifCond .eq 7, 3) := by decide +kernel
theorem dX5_polynomial_108 : decode cX5_polynomial 108 = .ok (.lconst 0, 1) := by decide +kernel
theorem dX5_polynomial_109 : decode cX5_polynomial 109 = .ok (.goto 7, 3) := by decide +kernel
theorem dX5_polynomial_112 : decode cX5_polynomial 112 = .ok (.iload_n 3, 1) := by decide +kernel
theorem dX5_polynomial_113 : decode cX5_polynomial 113 = .ok (.invokestatic 23, 3) := by decide +kernel
theorem dX5_polynomial_116 : decode cX5_polynomial 116 = .ok (.lxor, 1) := by decide +kernel
theorem dX5_polynomial_117 : decode cX5_polynomial 117 = .ok (.lreturn, 1) := by decide +kernel
set_option maxRecDepth 20000 in
theorem ggX6_init_X1_init : GoodIn wsX6_init wsX1_init := goodIn_r _ [22, 23, 2, 3, 4, 24, 25, 43, 44] (by decide +kernel) (by decide +kernel)
set_option maxRecDepth 20000 in
theorem gX6_init_X1_init_n19 : GoodIn wsX6_init (wsX1_init) := ggX6_init_X1_init
set_option maxRecDepth 20000 in
theorem ggX6_init_X0_init : GoodIn wsX6_init wsX0_init := goodIn_r _ [27, 28, 2, 3, 4, 29, 30, 45, 46] (by decide +kernel) (by decide +kernel)
set_option maxRecDepth 20000 in
theorem gX6_init_X0_init_n26 : GoodIn wsX6_init (wsX0_init) := ggX6_init_X0_init
set_option maxRecDepth 20000 in
theorem ggX6_init_X5_init : GoodIn wsX6_init wsX5_init := goodIn_r _ [32, 33, 2, 3, 34, 35, 36, 47, 48] (by decide +kernel) (by decide +kernel)
set_option maxRecDepth 20000 in
theorem gX6_init_X5_init_n33 : GoodIn wsX6_init (wsX5_init) := ggX6_init_X5_init
theorem dX6_init_0 : decode cX6_init 0 = .ok (.aload_n 0, 1) := by decide +kernel
theorem dX6_init_1 : decode cX6_init 1 = .ok (.invokespecial 3, 3) := by decide +kernel
theorem dX6_init_4 : decode cX6_init 4 = .ok (.aload_n 0, 1) := by decide +kernel
theorem dX6_init_5 : decode cX6_init 5 = .ok (.bipush 8, 2) := by decide +kernel
theorem dX6_init_7 : decode cX6_init 7 = .ok (.newarray .long, 2) := by decide +kernel
theorem dX6_init_9 : decode cX6_init 9 = .ok (.putfield 9, 3) := by decide +kernel
theorem dX6_init_12 : decode cX6_init 12 = .ok (.aload_n 0, 1) := by decide +kernel
theorem dX6_init_13 : decode cX6_init 13 = .ok (.bipush 8, 2) := by decide +kernel
theorem dX6_init_15 : decode cX6_init 15 = .ok (.newarray .int, 2) := by decide +kernel
theorem dX6_init_17 : decode cX6_init 17 = .ok (.putfield 13, 3) := by decide +kernel
theorem dX6_init_20 : decode cX6_init 20 = .ok (.aload_n 0, 1) := by decide +kernel
theorem dX6_init_21 : decode cX6_init 21 = .ok (.new 17, 3) := by decide +kernel
theorem dX6_init_24 : decode cX6_init 24 = .ok (.dup, 1) := by decide +kernel
theorem dX6_init_25 : decode cX6_init 25 = .ok (.invokespecial 19, 3) := by decide +kernel
theorem dX6_init_28 : decode cX6_init 28 = .ok (.putfield 20, 3) := by decide +kernel
theorem dX6_init_31 : decode cX6_init 31 = .ok (.aload_n 0, 1) := by decide +kernel
theorem dX6_init_32 : decode cX6_init 32 = .ok (.new 24, 3) := by decide +kernel
theorem dX6_init_35 : decode cX6_init 35 = .ok (.dup, 1) := by decide +kernel
theorem dX6_init_36 : decode cX6_init 36 = .ok (.invokespecial 26, 3) := by decide +kernel
theorem dX6_init_39 : decode cX6_init 39 = .ok (.putfield 27, 3) := by decide +kernel
theorem dX6_init_42 : decode cX6_init 42 = .ok (.aload_n 0, 1) := by decide +kernel
theorem dX6_init_43 : decode cX6_init 43 = .ok (.new 31, 3) := by decide +kernel
theorem dX6_init_46 : decode cX6_init 46 = .ok (.dup, 1) := by decide +kernel
theorem dX6_init_47 : decode cX6_init 47 = .ok (.invokespecial 33, 3) := by decide +kernel
theorem dX6_init_50 : decode cX6_init 50 = .ok (.putfield 34, 3) := by decide +kernel
theorem dX6_init_53 : decode cX6_init 53 = .ok (.aload_n 0, 1) := by decide +kernel
theorem dX6_init_54 : decode cX6_init 54 = .ok (.iconst 4, 1) := by decide +kernel
theorem dX6_init_55 : decode cX6_init 55 = .ok (.putfield 38, 3) := by decide +kernel
theorem dX6_init_58 : decode cX6_init 58 = .ok (.return_, 1) := by decide +kernel
set_option maxRecDepth 20000 in
theorem ggX6_reset_J7_fill_d0a16 : GoodIn wsX6_reset wsJ7_fill_d0a16 := goodIn_r _ [7] (by decide +kernel) (by decide +kernel)
set_option maxRecDepth 20000 in
theorem gX6_reset_J7_fill_d0a16 : GoodIn wsX6_reset (va_wsS RX6 42 yJ7_fill_d0a16 wsJ7_fill_d0a16) := goodIn_app (goodIn_of _ (by decide +kernel)) ggX6_reset_J7_fill_d0a16
set_option maxRecDepth 20000 in
theorem ggX6_reset_X1_forget : GoodIn wsX6_reset wsX1_forget := goodIn_r _ [12, 13, 20, 21] (by decide +kernel) (by decide +kernel)
set_option maxRecDepth 20000 in
theorem gX6_reset_X1_forget : GoodIn wsX6_reset (wsV RX6 48 RX1 yX1_forget wsX1_forget) := goodIn_app (goodIn_of _ (by decide +kernel)) ggX6_reset_X1_forget
theorem dX6_reset_0 : decode cX6_reset 0 = .ok (.iload_n 1, 1) := by decide +kernel
theorem dX6_reset_1 : decode cX6_reset 1 = .ok (.iconst 1, 1) := by decide +kernel
theorem dX6_reset_2 : decode cX6_reset 2 = .ok (.if_icmp .lt 9, 3) := by decide +kernel
theorem dX6_reset_5 : decode cX6_reset 5 = .ok (.iload_n 1, 1) := by decide +kernel
theorem dX6_reset_6 : decode cX6_reset 6 = .ok (.bipush 6, 2) := by decide +kernel
theorem dX6_reset_8 : decode cX6_reset 8 = .ok (.if_icmp .le 5, 3) := by decide +kernel
theorem dX6_reset_11 : decode cX6_reset 11 = .ok (.iconst (-1), 1) := by decide +kernel
theorem dX6_reset_12 : decode cX6_reset 12 = .ok (.ireturn, 1) := by decide +kernel
theorem dX6_reset_13 : decode cX6_reset 13 = .ok (.aload_n 0, 1) := by decide +kernel
theorem dX6_reset_14 : decode cX6_reset 14 = .ok (.getfield 38, 3) := by decide +kernel
theorem dX6_reset_17 : decode cX6_reset 17 = .ok (.istore_n 2, 1) := by decide +kernel
theorem dX6_reset_18 : decode cX6_reset 18 = .ok (.aload_n 0, 1) := by decide +kernel
theorem dX6_reset_19 : decode cX6_reset 19 = .ok (.iload_n 1, 1) := by decide +kernel
theorem dX6_reset_20 : decode cX6_reset 20 = .ok (.putfield 38, 3) := by decide +kernel
theorem dX6_reset_23 : decode cX6_reset 23 = .ok (.aload_n 0, 1) := by decide +kernel
theorem dX6_reset_24 : decode cX6_reset 24 = .ok (.getfield 9, 3) := by decide +kernel
theorem dX6_reset_27 : decode cX6_reset 27 = .ok (.lconst 0, 1) := by decide +kernel
theorem dX6_reset_28 : decode cX6_reset 28 = .ok (.invokestatic 42, 3) := by decide +kernel
theorem dX6_reset_31 : decode cX6_reset 31 = .ok (.aload_n 0, 1) := by decide +kernel
theorem dX6_reset_32 : decode cX6_reset 32 = .ok (.getfield 20, 3) := by decide +kernel
theorem dX6_reset_35 : decode cX6_reset 35 = .ok (.invokevirtual 48, 3) := by decide +kernel
theorem dX6_reset_38 : decode cX6_reset 38 = .ok (.iload_n 2, 1) := by decide +kernel
theorem dX6_reset_39 : decode cX6_reset 39 = .ok (.ireturn, 1) := by decide +kernel
theorem dX6_variables_0 : decode cX6_variables 0 = .ok (.aload_n 0, 1) := by decide +kernel
theorem dX6_variables_1 : decode cX6_variables 1 = .ok (.getfield 38, 3) := by decide +kernel
theorem dX6_variables_4 : decode cX6_variables 4 = .ok (.ireturn, 1) := by decide +kernel
set_option maxRecDepth 20000 in
theorem ggX6_toggle_X6_isRegister : GoodIn wsX6_toggle wsX6_isRegister := goodIn_r _ [5] (by decide +kernel) (by decide +kernel)
set_option maxRecDepth 20000 in
theorem gX6_toggle_X6_isRegister : GoodIn wsX6_toggle (va_wsS RX6 51 yX6_isRegister wsX6_isRegister) := goodIn_app (goodIn_of _ (by decide +kernel)) ggX6_toggle_X6_isRegister
set_option maxRecDepth 20000 in
theorem ggX6_toggle_X6_isMask : GoodIn wsX6_toggle wsX6_isMask := goodIn_r _ [9, 10, 38, 39, 40, 41, 42, 43] (by decide +kernel) (by decide +kernel)
set_option maxRecDepth 20000 in
theorem gX6_toggle_X6_isMask : GoodIn wsX6_toggle (wsV RX6 55 RX6 yX6_isMask wsX6_isMask) := goodIn_app (goodIn_of _ (by decide +kernel)) ggX6_toggle_X6_isMask
set_option maxRecDepth 20000 in
theorem ggX6_toggle_X3_ofMonomial : GoodIn wsX6_toggle wsX3_ofMonomial := goodIn_r _ [14] (by decide +kernel) (by decide +kernel)
set_option maxRecDepth 20000 in
theorem gX6_toggle_X3_ofMonomial : GoodIn wsX6_toggle (va_wsS RX6 58 yX3_ofMonomial wsX3_ofMonomial) := goodIn_app (goodIn_of _ (by decide +kernel)) ggX6_toggle_X3_ofMonomial
set_option maxRecDepth 20000 in
theorem ggX6_toggle_X6_put : GoodIn wsX6_toggle wsX6_put := goodIn_r _ [18, 19, 1, 20, 21, 22, 23, 24, 25, 26, 27, 28, 29, 30, 2, 3, 4, 5, 31, 32, 33, 34, 35, 36, 37, 38, 39, 40, 41, 42, 43, 44, 45] (by decide +kernel) (by decide +kernel)
set_option maxRecDepth 20000 in
theorem gX6_toggle_X6_put : GoodIn wsX6_toggle (wsV RX6 64 RX6 yX6_put wsX6_put) := goodIn_app (goodIn_of _ (by decide +kernel)) ggX6_toggle_X6_put
theorem dX6_toggle_0 : decode cX6_toggle 0 = .ok (.iload_n 1, 1) := by decide +kernel
theorem dX6_toggle_1 : decode cX6_toggle 1 = .ok (.invokestatic 51, 3) := by decide +kernel
theorem dX6_toggle_4 : decode cX6_toggle 4 = .ok (.ifCond .eq 11, 3) := by decide +kernel
theorem dX6_toggle_7 : decode cX6_toggle 7 = .ok (.aload_n 0, 1) := by decide +kernel
theorem dX6_toggle_8 : decode cX6_toggle 8 = .ok (.iload_n 2, 1) := by decide +kernel
theorem dX6_toggle_9 : decode cX6_toggle 9 = .ok (.invokevirtual 55, 3) := by decide +kernel
theorem dX6_toggle_12 : decode cX6_toggle 12 = .ok (.ifCond .ne 5, 3) := by decide +kernel
theorem dX6_toggle_15 : decode cX6_toggle 15 = .ok (.iconst (-1), 1) := by decide +kernel
theorem dX6_toggle_16 : decode cX6_toggle 16 = .ok (.ireturn, 1) := by decide +kernel
theorem dX6_toggle_17 : decode cX6_toggle 17 = .ok (.aload_n 0, 1) := by decide +kernel
theorem dX6_toggle_18 : decode cX6_toggle 18 = .ok (.iload_n 1, 1) := by decide +kernel
theorem dX6_toggle_19 : decode cX6_toggle 19 = .ok (.aload_n 0, 1) := by decide +kernel
theorem dX6_toggle_20 : decode cX6_toggle 20 = .ok (.getfield 9, 3) := by decide +kernel
theorem dX6_toggle_23 : decode cX6_toggle 23 = .ok (.iload_n 1, 1) := by decide +kernel
theorem dX6_toggle_24 : decode cX6_toggle 24 = .ok (.laload, 1) := by decide +kernel
theorem dX6_toggle_25 : decode cX6_toggle 25 = .ok (.iload_n 2, 1) := by decide +kernel
theorem dX6_toggle_26 : decode cX6_toggle 26 = .ok (.invokestatic 58, 3) := by decide +kernel
theorem dX6_toggle_29 : decode cX6_toggle 29 = .ok (.lxor, 1) := by decide +kernel
theorem dX6_toggle_30 : decode cX6_toggle 30 = .ok (.invokevirtual 64, 3) := by decide +kernel
theorem dX6_toggle_33 : decode cX6_toggle 33 = .ok (.ireturn, 1) := by decide +kernel
set_option maxRecDepth 20000 in
theorem ggX6_copy_X6_isRegister : GoodIn wsX6_copy wsX6_isRegister := goodIn_r _ [5] (by decide +kernel) (by decide +kernel)
set_option maxRecDepth 20000 in
theorem gX6_copy_X6_isRegister : GoodIn wsX6_copy (va_wsS RX6 51 yX6_isRegister wsX6_isRegister) := goodIn_app (goodIn_of _ (by decide +kernel)) ggX6_copy_X6_isRegister
set_option maxRecDepth 20000 in
theorem ggX6_copy_X6_put : GoodIn wsX6_copy wsX6_put := goodIn_r _ [9, 10, 1, 11, 12, 13, 14, 15, 16, 17, 18, 19, 20, 21, 2, 3, 4, 5, 22, 23, 24, 25, 26, 27, 28, 29, 30, 31, 32, 33, 34, 35, 36] (by decide +kernel) (by decide +kernel)
set_option maxRecDepth 20000 in
theorem gX6_copy_X6_put : GoodIn wsX6_copy (wsV RX6 64 RX6 yX6_put wsX6_put) := goodIn_app (goodIn_of _ (by decide +kernel)) ggX6_copy_X6_put
theorem dX6_copy_0 : decode cX6_copy 0 = .ok (.iload_n 1, 1) := by decide +kernel
theorem dX6_copy_1 : decode cX6_copy 1 = .ok (.invokestatic 51, 3) := by decide +kernel
theorem dX6_copy_4 : decode cX6_copy 4 = .ok (.ifCond .eq 10, 3) := by decide +kernel
theorem dX6_copy_7 : decode cX6_copy 7 = .ok (.iload_n 2, 1) := by decide +kernel
theorem dX6_copy_8 : decode cX6_copy 8 = .ok (.invokestatic 51, 3) := by decide +kernel
theorem dX6_copy_11 : decode cX6_copy 11 = .ok (.ifCond .ne 5, 3) := by decide +kernel
theorem dX6_copy_14 : decode cX6_copy 14 = .ok (.iconst (-1), 1) := by decide +kernel
theorem dX6_copy_15 : decode cX6_copy 15 = .ok (.ireturn, 1) := by decide +kernel
theorem dX6_copy_16 : decode cX6_copy 16 = .ok (.aload_n 0, 1) := by decide +kernel
theorem dX6_copy_17 : decode cX6_copy 17 = .ok (.iload_n 2, 1) := by decide +kernel
theorem dX6_copy_18 : decode cX6_copy 18 = .ok (.aload_n 0, 1) := by decide +kernel
theorem dX6_copy_19 : decode cX6_copy 19 = .ok (.getfield 9, 3) := by decide +kernel
theorem dX6_copy_22 : decode cX6_copy 22 = .ok (.iload_n 1, 1) := by decide +kernel
theorem dX6_copy_23 : decode cX6_copy 23 = .ok (.laload, 1) := by decide +kernel
theorem dX6_copy_24 : decode cX6_copy 24 = .ok (.invokevirtual 64, 3) := by decide +kernel
theorem dX6_copy_27 : decode cX6_copy 27 = .ok (.ireturn, 1) := by decide +kernel
set_option maxRecDepth 20000 in
theorem ggX6_sum_X6_isRegister : GoodIn wsX6_sum wsX6_isRegister := goodIn_r _ [5] (by decide +kernel) (by decide +kernel)
set_option maxRecDepth 20000 in
theorem gX6_sum_X6_isRegister : GoodIn wsX6_sum (va_wsS RX6 51 yX6_isRegister wsX6_isRegister) := goodIn_app (goodIn_of _ (by decide +kernel)) ggX6_sum_X6_isRegister
set_option maxRecDepth 20000 in
theorem ggX6_sum_X6_put : GoodIn wsX6_sum wsX6_put := goodIn_r _ [9, 10, 1, 11, 12, 13, 14, 15, 16, 17, 18, 19, 20, 21, 2, 3, 4, 5, 22, 23, 24, 25, 26, 27, 28, 29, 30, 31, 32, 33, 34, 35, 36] (by decide +kernel) (by decide +kernel)
set_option maxRecDepth 20000 in
theorem gX6_sum_X6_put : GoodIn wsX6_sum (wsV RX6 64 RX6 yX6_put wsX6_put) := goodIn_app (goodIn_of _ (by decide +kernel)) ggX6_sum_X6_put
theorem dX6_sum_0 : decode cX6_sum 0 = .ok (.iload_n 1, 1) := by decide +kernel
theorem dX6_sum_1 : decode cX6_sum 1 = .ok (.invokestatic 51, 3) := by decide +kernel
theorem dX6_sum_4 : decode cX6_sum 4 = .ok (.ifCond .eq 17, 3) := by decide +kernel
theorem dX6_sum_7 : decode cX6_sum 7 = .ok (.iload_n 2, 1) := by decide +kernel
theorem dX6_sum_8 : decode cX6_sum 8 = .ok (.invokestatic 51, 3) := by decide +kernel
theorem dX6_sum_11 : decode cX6_sum 11 = .ok (.ifCond .eq 10, 3) := by decide +kernel
theorem dX6_sum_14 : decode cX6_sum 14 = .ok (.iload_n 3, 1) := by decide +kernel
theorem dX6_sum_15 : decode cX6_sum 15 = .ok (.invokestatic 51, 3) := by decide +kernel
theorem dX6_sum_18 : decode cX6_sum 18 = .ok (.ifCond .ne 5, 3) := by decide +kernel
theorem dX6_sum_21 : decode cX6_sum 21 = .ok (.iconst (-1), 1) := by decide +kernel
theorem dX6_sum_22 : decode cX6_sum 22 = .ok (.ireturn, 1) := by decide +kernel
theorem dX6_sum_23 : decode cX6_sum 23 = .ok (.aload_n 0, 1) := by decide +kernel
theorem dX6_sum_24 : decode cX6_sum 24 = .ok (.iload_n 3, 1) := by decide +kernel
theorem dX6_sum_25 : decode cX6_sum 25 = .ok (.aload_n 0, 1) := by decide +kernel
theorem dX6_sum_26 : decode cX6_sum 26 = .ok (.getfield 9, 3) := by decide +kernel
theorem dX6_sum_29 : decode cX6_sum 29 = .ok (.iload_n 1, 1) := by decide +kernel
theorem dX6_sum_30 : decode cX6_sum 30 = .ok (.laload, 1) := by decide +kernel
theorem dX6_sum_31 : decode cX6_sum 31 = .ok (.aload_n 0, 1) := by decide +kernel
theorem dX6_sum_32 : decode cX6_sum 32 = .ok (.getfield 9, 3) := by decide +kernel
theorem dX6_sum_35 : decode cX6_sum 35 = .ok (.iload_n 2, 1) := by decide +kernel
theorem dX6_sum_36 : decode cX6_sum 36 = .ok (.laload, 1) := by decide +kernel
theorem dX6_sum_37 : decode cX6_sum 37 = .ok (.lxor, 1) := by decide +kernel
theorem dX6_sum_38 : decode cX6_sum 38 = .ok (.invokevirtual 64, 3) := by decide +kernel
theorem dX6_sum_41 : decode cX6_sum 41 = .ok (.ireturn, 1) := by decide +kernel
set_option maxRecDepth 20000 in
theorem ggX6_product_X6_isRegister : GoodIn wsX6_product wsX6_isRegister := goodIn_r _ [6] (by decide +kernel) (by decide +kernel)
set_option maxRecDepth 20000 in
theorem gX6_product_X6_isRegister : GoodIn wsX6_product (va_wsS RX6 51 yX6_isRegister wsX6_isRegister) := goodIn_app (goodIn_of _ (by decide +kernel)) ggX6_product_X6_isRegister
set_option maxRecDepth 20000 in
theorem ggX6_product_X3_multiplied : GoodIn wsX6_product wsX3_multiplied := goodIn_r _ [10, 11, 12, 9, 13, 14, 15, 16, 17, 18, 19, 20] (by decide +kernel) (by decide +kernel)
set_option maxRecDepth 20000 in
theorem gX6_product_X3_multiplied : GoodIn wsX6_product (va_wsS RX6 68 yX3_multiplied wsX3_multiplied) := goodIn_app (goodIn_of _ (by decide +kernel)) ggX6_product_X3_multiplied
set_option maxRecDepth 20000 in
theorem ggX6_product_X6_put : GoodIn wsX6_product wsX6_put := goodIn_r _ [24, 25, 1, 26, 27, 28, 29, 30, 31, 32, 33, 34, 35, 36, 3, 4, 5, 6, 37, 38, 39, 40, 41, 42, 43, 44, 45, 46, 47, 48, 49, 50, 51] (by decide +kernel) (by decide +kernel)
set_option maxRecDepth 20000 in
theorem gX6_product_X6_put : GoodIn wsX6_product (wsV RX6 64 RX6 yX6_put wsX6_put) := goodIn_app (goodIn_of _ (by decide +kernel)) ggX6_product_X6_put
theorem dX6_product_0 : decode cX6_product 0 = .ok (.iload_n 1, 1) := by decide +kernel
theorem dX6_product_1 : decode cX6_product 1 = .ok (.invokestatic 51, 3) := by decide +kernel
theorem dX6_product_4 : decode cX6_product 4 = .ok (.ifCond .eq 17, 3) := by decide +kernel
theorem dX6_product_7 : decode cX6_product 7 = .ok (.iload_n 2, 1) := by decide +kernel
theorem dX6_product_8 : decode cX6_product 8 = .ok (.invokestatic 51, 3) := by decide +kernel
theorem dX6_product_11 : decode cX6_product 11 = .ok (.ifCond .eq 10, 3) := by decide +kernel
theorem dX6_product_14 : decode cX6_product 14 = .ok (.iload_n 3, 1) := by decide +kernel
theorem dX6_product_15 : decode cX6_product 15 = .ok (.invokestatic 51, 3) := by decide +kernel
theorem dX6_product_18 : decode cX6_product 18 = .ok (.ifCond .ne 5, 3) := by decide +kernel
theorem dX6_product_21 : decode cX6_product 21 = .ok (.iconst (-1), 1) := by decide +kernel
theorem dX6_product_22 : decode cX6_product 22 = .ok (.ireturn, 1) := by decide +kernel
theorem dX6_product_23 : decode cX6_product 23 = .ok (.aload_n 0, 1) := by decide +kernel
theorem dX6_product_24 : decode cX6_product 24 = .ok (.iload_n 3, 1) := by decide +kernel
theorem dX6_product_25 : decode cX6_product 25 = .ok (.aload_n 0, 1) := by decide +kernel
theorem dX6_product_26 : decode cX6_product 26 = .ok (.getfield 9, 3) := by decide +kernel
theorem dX6_product_29 : decode cX6_product 29 = .ok (.iload_n 1, 1) := by decide +kernel
theorem dX6_product_30 : decode cX6_product 30 = .ok (.laload, 1) := by decide +kernel
theorem dX6_product_31 : decode cX6_product 31 = .ok (.aload_n 0, 1) := by decide +kernel
theorem dX6_product_32 : decode cX6_product 32 = .ok (.getfield 9, 3) := by decide +kernel
theorem dX6_product_35 : decode cX6_product 35 = .ok (.iload_n 2, 1) := by decide +kernel
theorem dX6_product_36 : decode cX6_product 36 = .ok (.laload, 1) := by decide +kernel
theorem dX6_product_37 : decode cX6_product 37 = .ok (.aload_n 0, 1) := by decide +kernel
theorem dX6_product_38 : decode cX6_product 38 = .ok (.getfield 38, 3) := by decide +kernel
theorem dX6_product_41 : decode cX6_product 41 = .ok (.invokestatic 68, 3) := by decide +kernel
theorem dX6_product_44 : decode cX6_product 44 = .ok (.invokevirtual 64, 3) := by decide +kernel
theorem dX6_product_47 : decode cX6_product 47 = .ok (.ireturn, 1) := by decide +kernel
set_option maxRecDepth 20000 in
theorem ggX6_times_X6_isRegister : GoodIn wsX6_times wsX6_isRegister := goodIn_r _ [6] (by decide +kernel) (by decide +kernel)
set_option maxRecDepth 20000 in
theorem gX6_times_X6_isRegister : GoodIn wsX6_times (va_wsS RX6 51 yX6_isRegister wsX6_isRegister) := goodIn_app (goodIn_of _ (by decide +kernel)) ggX6_times_X6_isRegister
set_option maxRecDepth 20000 in
theorem ggX6_times_X6_isMask : GoodIn wsX6_times wsX6_isMask := goodIn_r _ [10, 2, 51, 52, 53, 54, 55, 56] (by decide +kernel) (by decide +kernel)
set_option maxRecDepth 20000 in
theorem gX6_times_X6_isMask : GoodIn wsX6_times (wsV RX6 55 RX6 yX6_isMask wsX6_isMask) := goodIn_app (goodIn_of _ (by decide +kernel)) ggX6_times_X6_isMask
set_option maxRecDepth 20000 in
theorem ggX6_times_X3_ofMonomial : GoodIn wsX6_times wsX3_ofMonomial := goodIn_r _ [14] (by decide +kernel) (by decide +kernel)
set_option maxRecDepth 20000 in
theorem gX6_times_X3_ofMonomial : GoodIn wsX6_times (va_wsS RX6 58 yX3_ofMonomial wsX3_ofMonomial) := goodIn_app (goodIn_of _ (by decide +kernel)) ggX6_times_X3_ofMonomial
set_option maxRecDepth 20000 in
theorem ggX6_times_X3_multiplied : GoodIn wsX6_times wsX3_multiplied := goodIn_r _ [17, 18, 19, 13, 20, 21, 22, 23, 24, 25, 26, 27] (by decide +kernel) (by decide +kernel)
set_option maxRecDepth 20000 in
theorem gX6_times_X3_multiplied : GoodIn wsX6_times (va_wsS RX6 68 yX3_multiplied wsX3_multiplied) := goodIn_app (goodIn_of _ (by decide +kernel)) ggX6_times_X3_multiplied
set_option maxRecDepth 20000 in
theorem ggX6_times_X6_put : GoodIn wsX6_times wsX6_put := goodIn_r _ [31, 32, 1, 33, 34, 35, 36, 37, 38, 39, 40, 41, 42, 43, 3, 4, 5, 6, 44, 45, 46, 47, 48, 49, 50, 51, 52, 53, 54, 55, 56, 57, 58] (by decide +kernel) (by decide +kernel)
set_option maxRecDepth 20000 in
theorem gX6_times_X6_put : GoodIn wsX6_times (wsV RX6 64 RX6 yX6_put wsX6_put) := goodIn_app (goodIn_of _ (by decide +kernel)) ggX6_times_X6_put
theorem dX6_times_0 : decode cX6_times 0 = .ok (.iload_n 1, 1) := by decide +kernel
theorem dX6_times_1 : decode cX6_times 1 = .ok (.invokestatic 51, 3) := by decide +kernel
theorem dX6_times_4 : decode cX6_times 4 = .ok (.ifCond .eq 18, 3) := by decide +kernel
theorem dX6_times_7 : decode cX6_times 7 = .ok (.aload_n 0, 1) := by decide +kernel
theorem dX6_times_8 : decode cX6_times 8 = .ok (.iload_n 2, 1) := by decide +kernel
theorem dX6_times_9 : decode cX6_times 9 = .ok (.invokevirtual 55, 3) := by decide +kernel
theorem dX6_times_12 : decode cX6_times 12 = .ok (.ifCond .eq 10, 3) := by decide +kernel
theorem dX6_times_15 : decode cX6_times 15 = .ok (.iload_n 3, 1) := by decide +kernel
theorem dX6_times_16 : decode cX6_times 16 = .ok (.invokestatic 51, 3) := by decide +kernel
theorem dX6_times_19 : decode cX6_times 19 = .ok (.ifCond .ne 5, 3) := by decide +kernel
theorem dX6_times_22 : decode cX6_times 22 = .ok (.iconst (-1), 1) := by decide +kernel
theorem dX6_times_23 : decode cX6_times 23 = .ok (.ireturn, 1) := by decide +kernel
theorem dX6_times_24 : decode cX6_times 24 = .ok (.aload_n 0, 1) := by decide +kernel
theorem dX6_times_25 : decode cX6_times 25 = .ok (.iload_n 3, 1) := by decide +kernel
theorem dX6_times_26 : decode cX6_times 26 = .ok (.aload_n 0, 1) := by decide +kernel
theorem dX6_times_27 : decode cX6_times 27 = .ok (.getfield 9, 3) := by decide +kernel
theorem dX6_times_30 : decode cX6_times 30 = .ok (.iload_n 1, 1) := by decide +kernel
theorem dX6_times_31 : decode cX6_times 31 = .ok (.laload, 1) := by decide +kernel
theorem dX6_times_32 : decode cX6_times 32 = .ok (.iload_n 2, 1) := by decide +kernel
theorem dX6_times_33 : decode cX6_times 33 = .ok (.invokestatic 58, 3) := by decide +kernel
theorem dX6_times_36 : decode cX6_times 36 = .ok (.aload_n 0, 1) := by decide +kernel
theorem dX6_times_37 : decode cX6_times 37 = .ok (.getfield 38, 3) := by decide +kernel
theorem dX6_times_40 : decode cX6_times 40 = .ok (.invokestatic 68, 3) := by decide +kernel
theorem dX6_times_43 : decode cX6_times 43 = .ok (.invokevirtual 64, 3) := by decide +kernel
theorem dX6_times_46 : decode cX6_times 46 = .ok (.ireturn, 1) := by decide +kernel
set_option maxRecDepth 20000 in
theorem ggX6_restrict_X6_isRegister : GoodIn wsX6_restrict wsX6_isRegister := goodIn_r _ [5] (by decide +kernel) (by decide +kernel)
set_option maxRecDepth 20000 in
theorem gX6_restrict_X6_isRegister : GoodIn wsX6_restrict (va_wsS RX6 51 yX6_isRegister wsX6_isRegister) := goodIn_app (goodIn_of _ (by decide +kernel)) ggX6_restrict_X6_isRegister
set_option maxRecDepth 20000 in
theorem ggX6_restrict_X6_isVariable : GoodIn wsX6_restrict wsX6_isVariable := goodIn_r _ [9, 10, 45, 46, 47, 48, 49, 50] (by decide +kernel) (by decide +kernel)
set_option maxRecDepth 20000 in
theorem gX6_restrict_X6_isVariable : GoodIn wsX6_restrict (wsV RX6 72 RX6 yX6_isVariable wsX6_isVariable) := goodIn_app (goodIn_of _ (by decide +kernel)) ggX6_restrict_X6_isVariable
set_option maxRecDepth 20000 in
theorem ggX6_restrict_X3_lowerHalf : GoodIn wsX6_restrict wsX3_lowerHalf := goodIn_r _ [14, 15, 16, 13, 17, 18] (by decide +kernel) (by decide +kernel)
set_option maxRecDepth 20000 in
theorem gX6_restrict_X3_lowerHalf : GoodIn wsX6_restrict (va_wsS RX6 75 yX3_lowerHalf wsX3_lowerHalf) := goodIn_app (goodIn_of _ (by decide +kernel)) ggX6_restrict_X3_lowerHalf
set_option maxRecDepth 20000 in
theorem ggX6_restrict_X3_upperHalf : GoodIn wsX6_restrict wsX3_upperHalf := goodIn_r _ [21, 15, 16, 13, 17, 18] (by decide +kernel) (by decide +kernel)
set_option maxRecDepth 20000 in
theorem gX6_restrict_X3_upperHalf : GoodIn wsX6_restrict (va_wsS RX6 79 yX3_upperHalf wsX3_upperHalf) := goodIn_app (goodIn_of _ (by decide +kernel)) ggX6_restrict_X3_upperHalf
set_option maxRecDepth 20000 in
theorem ggX6_restrict_X6_put : GoodIn wsX6_restrict wsX6_put := goodIn_r _ [25, 26, 1, 27, 28, 29, 30, 31, 32, 33, 34, 35, 36, 37, 2, 3, 4, 5, 38, 39, 40, 41, 42, 43, 44, 45, 46, 47, 48, 49, 50, 51, 52] (by decide +kernel) (by decide +kernel)
set_option maxRecDepth 20000 in
theorem gX6_restrict_X6_put : GoodIn wsX6_restrict (wsV RX6 64 RX6 yX6_put wsX6_put) := goodIn_app (goodIn_of _ (by decide +kernel)) ggX6_restrict_X6_put
theorem dX6_restrict_0 : decode cX6_restrict 0 = .ok (.iload_n 1, 1) := by decide +kernel
theorem dX6_restrict_1 : decode cX6_restrict 1 = .ok (.invokestatic 51, 3) := by decide +kernel
theorem dX6_restrict_4 : decode cX6_restrict 4 = .ok (.ifCond .eq 19, 3) := by decide +kernel
theorem dX6_restrict_7 : decode cX6_restrict 7 = .ok (.aload_n 0, 1) := by decide +kernel
theorem dX6_restrict_8 : decode cX6_restrict 8 = .ok (.iload_n 2, 1) := by decide +kernel
theorem dX6_restrict_9 : decode cX6_restrict 9 = .ok (.invokevirtual 72, 3) := by decide +kernel
theorem dX6_restrict_12 : decode cX6_restrict 12 = .ok (.ifCond .eq 11, 3) := by decide +kernel
theorem dX6_restrict_15 : decode cX6_restrict 15 = .ok (.iload 4, 2) := by decide +kernel
theorem dX6_restrict_17 : decode cX6_restrict 17 = .ok (.invokestatic 51, 3) := by decide +kernel
theorem dX6_restrict_20 : decode cX6_restrict 20 = .ok (.ifCond .ne 5, 3) := by decide +kernel
theorem dX6_restrict_23 : decode cX6_restrict 23 = .ok (.iconst (-1), 1) := by decide +kernel
theorem dX6_restrict_24 : decode cX6_restrict 24 = .ok (.ireturn, 1) := by decide +kernel
theorem dX6_restrict_25 : decode cX6_restrict 25 = .ok (.iload_n 3, 1) := by decide +kernel
theorem dX6_restrict_26 : decode cX6_restrict 26 = .ok (.ifCond .eq 10, 3) := by decide +kernel
theorem dX6_restrict_29 : decode cX6_restrict 29 = .ok (.iload_n 3, 1) := by decide +kernel
theorem dX6_restrict_30 : decode cX6_restrict 30 = .ok (.iconst 1, 1) := by decide +kernel
theorem dX6_restrict_31 : decode cX6_restrict 31 = .ok (.if_icmp .eq 5, 3) := by decide +kernel
theorem dX6_restrict_34 : decode cX6_restrict 34 = .ok (.iconst (-1), 1) := by decide +kernel
theorem dX6_restrict_35 : decode cX6_restrict 35 = .ok (.ireturn, 1) := by decide +kernel
theorem dX6_restrict_36 : decode cX6_restrict 36 = .ok (.aload_n 0, 1) := by decide +kernel
theorem dX6_restrict_37 : decode cX6_restrict 37 = .ok (.getfield 9, 3) := by decide +kernel
theorem dX6_restrict_40 : decode cX6_restrict 40 = .ok (.iload_n 1, 1) := by decide +kernel
theorem dX6_restrict_41 : decode cX6_restrict 41 = .ok (.laload, 1) := by decide +kernel
theorem dX6_restrict_42 : decode cX6_restrict 42 = .ok (.iload_n 2, 1) := by decide +kernel
theorem dX6_restrict_43 : decode cX6_restrict 43 = .ok (.invokestatic 75, 3) := by decide +kernel
theorem dX6_restrict_46 : decode cX6_restrict 46 = .ok (.lstore 5, 2) := by decide +kernel
theorem dX6_restrict_48 : decode cX6_restrict 48 = .ok (.iload_n 3, 1) := by decide +kernel
theorem dX6_restrict_49 : decode cX6_restrict 49 = .ok (.iconst 1, 1) := by decide +kernel
theorem dX6_restrict_50 : decode cX6_restrict 50 = .ok (.if_icmp .ne 18, 3) := by decide +kernel
theorem dX6_restrict_53 : decode cX6_restrict 53 = .ok (.lload 5, 2) := by decide +kernel
theorem dX6_restrict_55 : decode cX6_restrict 55 = .ok (.aload_n 0, 1) := by decide +kernel
theorem dX6_restrict_56 : decode cX6_restrict 56 = .ok (.getfield 9, 3) := by decide +kernel
theorem dX6_restrict_59 : decode cX6_restrict 59 = .ok (.iload_n 1, 1) := by decide +kernel
theorem dX6_restrict_60 : decode cX6_restrict 60 = .ok (.laload, 1) := by decide +kernel
theorem dX6_restrict_61 : decode cX6_restrict 61 = .ok (.iload_n 2, 1) := by decide +kernel
theorem dX6_restrict_62 : decode cX6_restrict 62 = .ok (.invokestatic 79, 3) := by decide +kernel
theorem dX6_restrict_65 : decode cX6_restrict 65 = .ok (.lxor, 1) := by decide +kernel
theorem dX6_restrict_66 : decode cX6_restrict 66 = .ok (.lstore 5, 2) := by decide +kernel
theorem dX6_restrict_68 : decode cX6_restrict 68 = .ok (.aload_n 0, 1) := by decide +kernel
theorem dX6_restrict_69 : decode cX6_restrict 69 = .ok (.iload 4, 2) := by decide +kernel
theorem dX6_restrict_71 : decode cX6_restrict 71 = .ok (.lload 5, 2) := by decide +kernel
theorem dX6_restrict_73 : decode cX6_restrict 73 = .ok (.invokevirtual 64, 3) := by decide +kernel
theorem dX6_restrict_76 : decode cX6_restrict 76 = .ok (.ireturn, 1) := by decide +kernel
set_option maxRecDepth 20000 in
theorem ggX6_substitute_X6_isRegister : GoodIn wsX6_substitute wsX6_isRegister := goodIn_r _ [6] (by decide +kernel) (by decide +kernel)
set_option maxRecDepth 20000 in
theorem gX6_substitute_X6_isRegister : GoodIn wsX6_substitute (va_wsS RX6 51 yX6_isRegister wsX6_isRegister) := goodIn_app (goodIn_of _ (by decide +kernel)) ggX6_substitute_X6_isRegister
set_option maxRecDepth 20000 in
theorem ggX6_substitute_X6_isVariable : GoodIn wsX6_substitute wsX6_isVariable := goodIn_r _ [10, 2, 54, 55, 56, 57, 58, 59] (by decide +kernel) (by decide +kernel)
set_option maxRecDepth 20000 in
theorem gX6_substitute_X6_isVariable : GoodIn wsX6_substitute (wsV RX6 72 RX6 yX6_isVariable wsX6_isVariable) := goodIn_app (goodIn_of _ (by decide +kernel)) ggX6_substitute_X6_isVariable
set_option maxRecDepth 20000 in
theorem ggX6_substitute_X3_upperHalf : GoodIn wsX6_substitute wsX3_upperHalf := goodIn_r _ [14, 15, 16, 13, 17, 18] (by decide +kernel) (by decide +kernel)
set_option maxRecDepth 20000 in
theorem gX6_substitute_X3_upperHalf : GoodIn wsX6_substitute (va_wsS RX6 79 yX3_upperHalf wsX3_upperHalf) := goodIn_app (goodIn_of _ (by decide +kernel)) ggX6_substitute_X3_upperHalf
set_option maxRecDepth 20000 in
theorem ggX6_substitute_X3_lowerHalf : GoodIn wsX6_substitute wsX3_lowerHalf := goodIn_r _ [21, 15, 16, 13, 17, 18] (by decide +kernel) (by decide +kernel)
set_option maxRecDepth 20000 in
theorem gX6_substitute_X3_lowerHalf : GoodIn wsX6_substitute (va_wsS RX6 75 yX3_lowerHalf wsX3_lowerHalf) := goodIn_app (goodIn_of _ (by decide +kernel)) ggX6_substitute_X3_lowerHalf
set_option maxRecDepth 20000 in
theorem ggX6_substitute_X3_multiplied : GoodIn wsX6_substitute wsX3_multiplied := goodIn_r _ [24, 25, 26, 13, 27, 28, 29, 30, 15, 16, 17, 18] (by decide +kernel) (by decide +kernel)
set_option maxRecDepth 20000 in
theorem gX6_substitute_X3_multiplied : GoodIn wsX6_substitute (va_wsS RX6 68 yX3_multiplied wsX3_multiplied) := goodIn_app (goodIn_of _ (by decide +kernel)) ggX6_substitute_X3_multiplied
set_option maxRecDepth 20000 in
theorem ggX6_substitute_X6_put : GoodIn wsX6_substitute wsX6_put := goodIn_r _ [34, 35, 1, 36, 37, 38, 39, 40, 41, 42, 43, 44, 45, 46, 3, 4, 5, 6, 47, 48, 49, 50, 51, 52, 53, 54, 55, 56, 57, 58, 59, 60, 61] (by decide +kernel) (by decide +kernel)
set_option maxRecDepth 20000 in
theorem gX6_substitute_X6_put : GoodIn wsX6_substitute (wsV RX6 64 RX6 yX6_put wsX6_put) := goodIn_app (goodIn_of _ (by decide +kernel)) ggX6_substitute_X6_put
theorem dX6_substitute_0 : decode cX6_substitute 0 = .ok (.iload_n 1, 1) := by decide +kernel
theorem dX6_substitute_1 : decode cX6_substitute 1 = .ok (.invokestatic 51, 3) := by decide +kernel
theorem dX6_substitute_4 : decode cX6_substitute 4 = .ok (.ifCond .eq 26, 3) := by decide +kernel
theorem dX6_substitute_7 : decode cX6_substitute 7 = .ok (.aload_n 0, 1) := by decide +kernel
theorem dX6_substitute_8 : decode cX6_substitute 8 = .ok (.iload_n 2, 1) := by decide +kernel
theorem dX6_substitute_9 : decode cX6_substitute 9 = .ok (.invokevirtual 72, 3) := by decide +kernel
theorem dX6_substitute_12 : decode cX6_substitute 12 = .ok (.ifCond .eq 18, 3) := by decide +kernel
theorem dX6_substitute_15 : decode cX6_substitute 15 = .ok (.iload_n 3, 1) := by decide +kernel
theorem dX6_substitute_16 : decode cX6_substitute 16 = .ok (.invokestatic 51, 3) := by decide +kernel
theorem dX6_substitute_19 : decode cX6_substitute 19 = .ok (.ifCond .eq 11, 3) := by decide +kernel
theorem dX6_substitute_22 : decode cX6_substitute 22 = .ok (.iload 4, 2) := by decide +kernel
theorem dX6_substitute_24 : decode cX6_substitute 24 = .ok (.invokestatic 51, 3) := by decide +kernel
theorem dX6_substitute_27 : decode cX6_substitute 27 = .ok (.ifCond .ne 5, 3) := by decide +kernel
theorem dX6_substitute_30 : decode cX6_substitute 30 = .ok (.iconst (-1), 1) := by decide +kernel
theorem dX6_substitute_31 : decode cX6_substitute 31 = .ok (.ireturn, 1) := by decide +kernel
theorem dX6_substitute_32 : decode cX6_substitute 32 = .ok (.aload_n 0, 1) := by decide +kernel
theorem dX6_substitute_33 : decode cX6_substitute 33 = .ok (.getfield 9, 3) := by decide +kernel
theorem dX6_substitute_36 : decode cX6_substitute 36 = .ok (.iload_n 1, 1) := by decide +kernel
theorem dX6_substitute_37 : decode cX6_substitute 37 = .ok (.laload, 1) := by decide +kernel
theorem dX6_substitute_38 : decode cX6_substitute 38 = .ok (.iload_n 2, 1) := by decide +kernel
theorem dX6_substitute_39 : decode cX6_substitute 39 = .ok (.invokestatic 79, 3) := by decide +kernel
theorem dX6_substitute_42 : decode cX6_substitute 42 = .ok (.lstore 5, 2) := by decide +kernel
theorem dX6_substitute_44 : decode cX6_substitute 44 = .ok (.aload_n 0, 1) := by decide +kernel
theorem dX6_substitute_45 : decode cX6_substitute 45 = .ok (.getfield 9, 3) := by decide +kernel
theorem dX6_substitute_48 : decode cX6_substitute 48 = .ok (.iload_n 1, 1) := by decide +kernel
theorem dX6_substitute_49 : decode cX6_substitute 49 = .ok (.laload, 1) := by decide +kernel
theorem dX6_substitute_50 : decode cX6_substitute 50 = .ok (.iload_n 2, 1) := by decide +kernel
theorem dX6_substitute_51 : decode cX6_substitute 51 = .ok (.invokestatic 75, 3) := by decide +kernel
theorem dX6_substitute_54 : decode cX6_substitute 54 = .ok (.lstore 7, 2) := by decide +kernel
theorem dX6_substitute_56 : decode cX6_substitute 56 = .ok (.aload_n 0, 1) := by decide +kernel
theorem dX6_substitute_57 : decode cX6_substitute 57 = .ok (.iload 4, 2) := by decide +kernel
theorem dX6_substitute_59 : decode cX6_substitute 59 = .ok (.lload 7, 2) := by decide +kernel
theorem dX6_substitute_61 : decode cX6_substitute 61 = .ok (.lload 5, 2) := by decide +kernel
theorem dX6_substitute_63 : decode cX6_substitute 63 = .ok (.aload_n 0, 1) := by decide +kernel
theorem dX6_substitute_64 : decode cX6_substitute 64 = .ok (.getfield 9, 3) := by decide +kernel
theorem dX6_substitute_67 : decode cX6_substitute 67 = .ok (.iload_n 3, 1) := by decide +kernel
theorem dX6_substitute_68 : decode cX6_substitute 68 = .ok (.laload, 1) := by decide +kernel
theorem dX6_substitute_69 : decode cX6_substitute 69 = .ok (.aload_n 0, 1) := by decide +kernel
theorem dX6_substitute_70 : decode cX6_substitute 70 = .ok (.getfield 38, 3) := by decide +kernel
theorem dX6_substitute_73 : decode cX6_substitute 73 = .ok (.invokestatic 68, 3) := by decide +kernel
theorem dX6_substitute_76 : decode cX6_substitute 76 = .ok (.lxor, 1) := by decide +kernel
theorem dX6_substitute_77 : decode cX6_substitute 77 = .ok (.invokevirtual 64, 3) := by decide +kernel
theorem dX6_substitute_80 : decode cX6_substitute 80 = .ok (.ireturn, 1) := by decide +kernel
set_option maxRecDepth 20000 in
theorem ggX6_derivative_X6_isRegister : GoodIn wsX6_derivative wsX6_isRegister := goodIn_r _ [5] (by decide +kernel) (by decide +kernel)
set_option maxRecDepth 20000 in
theorem gX6_derivative_X6_isRegister : GoodIn wsX6_derivative (va_wsS RX6 51 yX6_isRegister wsX6_isRegister) := goodIn_app (goodIn_of _ (by decide +kernel)) ggX6_derivative_X6_isRegister
set_option maxRecDepth 20000 in
theorem ggX6_derivative_X6_isVariable : GoodIn wsX6_derivative wsX6_isVariable := goodIn_r _ [9, 10, 42, 43, 44, 45, 46, 47] (by decide +kernel) (by decide +kernel)
set_option maxRecDepth 20000 in
theorem gX6_derivative_X6_isVariable : GoodIn wsX6_derivative (wsV RX6 72 RX6 yX6_isVariable wsX6_isVariable) := goodIn_app (goodIn_of _ (by decide +kernel)) ggX6_derivative_X6_isVariable
set_option maxRecDepth 20000 in
theorem ggX6_derivative_X3_upperHalf : GoodIn wsX6_derivative wsX3_upperHalf := goodIn_r _ [14, 15, 16, 13, 17, 18] (by decide +kernel) (by decide +kernel)
set_option maxRecDepth 20000 in
theorem gX6_derivative_X3_upperHalf : GoodIn wsX6_derivative (va_wsS RX6 79 yX3_upperHalf wsX3_upperHalf) := goodIn_app (goodIn_of _ (by decide +kernel)) ggX6_derivative_X3_upperHalf
set_option maxRecDepth 20000 in
theorem ggX6_derivative_X6_put : GoodIn wsX6_derivative wsX6_put := goodIn_r _ [22, 23, 1, 24, 25, 26, 27, 28, 29, 30, 31, 32, 33, 34, 2, 3, 4, 5, 35, 36, 37, 38, 39, 40, 41, 42, 43, 44, 45, 46, 47, 48, 49] (by decide +kernel) (by decide +kernel)
set_option maxRecDepth 20000 in
theorem gX6_derivative_X6_put : GoodIn wsX6_derivative (wsV RX6 64 RX6 yX6_put wsX6_put) := goodIn_app (goodIn_of _ (by decide +kernel)) ggX6_derivative_X6_put
theorem dX6_derivative_0 : decode cX6_derivative 0 = .ok (.iload_n 1, 1) := by decide +kernel
theorem dX6_derivative_1 : decode cX6_derivative 1 = .ok (.invokestatic 51, 3) := by decide +kernel
theorem dX6_derivative_4 : decode cX6_derivative 4 = .ok (.ifCond .eq 18, 3) := by decide +kernel
theorem dX6_derivative_7 : decode cX6_derivative 7 = .ok (.aload_n 0, 1) := by decide +kernel
theorem dX6_derivative_8 : decode cX6_derivative 8 = .ok (.iload_n 2, 1) := by decide +kernel
theorem dX6_derivative_9 : decode cX6_derivative 9 = .ok (.invokevirtual 72, 3) := by decide +kernel
theorem dX6_derivative_12 : decode cX6_derivative 12 = .ok (.ifCond .eq 10, 3) := by decide +kernel
theorem dX6_derivative_15 : decode cX6_derivative 15 = .ok (.iload_n 3, 1) := by decide +kernel
theorem dX6_derivative_16 : decode cX6_derivative 16 = .ok (.invokestatic 51, 3) := by decide +kernel
theorem dX6_derivative_19 : decode cX6_derivative 19 = .ok (.ifCond .ne 5, 3) := by decide +kernel
theorem dX6_derivative_22 : decode cX6_derivative 22 = .ok (.iconst (-1), 1) := by decide +kernel
theorem dX6_derivative_23 : decode cX6_derivative 23 = .ok (.ireturn, 1) := by decide +kernel
theorem dX6_derivative_24 : decode cX6_derivative 24 = .ok (.aload_n 0, 1) := by decide +kernel
theorem dX6_derivative_25 : decode cX6_derivative 25 = .ok (.iload_n 3, 1) := by decide +kernel
theorem dX6_derivative_26 : decode cX6_derivative 26 = .ok (.aload_n 0, 1) := by decide +kernel
theorem dX6_derivative_27 : decode cX6_derivative 27 = .ok (.getfield 9, 3) := by decide +kernel
theorem dX6_derivative_30 : decode cX6_derivative 30 = .ok (.iload_n 1, 1) := by decide +kernel
theorem dX6_derivative_31 : decode cX6_derivative 31 = .ok (.laload, 1) := by decide +kernel
theorem dX6_derivative_32 : decode cX6_derivative 32 = .ok (.iload_n 2, 1) := by decide +kernel
theorem dX6_derivative_33 : decode cX6_derivative 33 = .ok (.invokestatic 79, 3) := by decide +kernel
theorem dX6_derivative_36 : decode cX6_derivative 36 = .ok (.invokevirtual 64, 3) := by decide +kernel
theorem dX6_derivative_39 : decode cX6_derivative 39 = .ok (.ireturn, 1) := by decide +kernel
set_option maxRecDepth 20000 in
theorem ggX6_flip_X6_isRegister : GoodIn wsX6_flip wsX6_isRegister := goodIn_r _ [6] (by decide +kernel) (by decide +kernel)
set_option maxRecDepth 20000 in
theorem gX6_flip_X6_isRegister : GoodIn wsX6_flip (va_wsS RX6 51 yX6_isRegister wsX6_isRegister) := goodIn_app (goodIn_of _ (by decide +kernel)) ggX6_flip_X6_isRegister
set_option maxRecDepth 20000 in
theorem ggX6_flip_X6_isMask : GoodIn wsX6_flip wsX6_isMask := goodIn_r _ [10, 1, 45, 46, 47, 48, 49, 50] (by decide +kernel) (by decide +kernel)
set_option maxRecDepth 20000 in
theorem gX6_flip_X6_isMask : GoodIn wsX6_flip (wsV RX6 55 RX6 yX6_isMask wsX6_isMask) := goodIn_app (goodIn_of _ (by decide +kernel)) ggX6_flip_X6_isMask
set_option maxRecDepth 20000 in
theorem ggX6_flip_X3_transformed : GoodIn wsX6_flip wsX3_transformed := goodIn_r _ [14, 15, 16, 13, 17, 18, 19, 20, 21] (by decide +kernel) (by decide +kernel)
set_option maxRecDepth 20000 in
theorem gX6_flip_X3_transformed : GoodIn wsX6_flip (va_wsS RX6 82 yX3_transformed wsX3_transformed) := goodIn_app (goodIn_of _ (by decide +kernel)) ggX6_flip_X3_transformed
set_option maxRecDepth 20000 in
theorem ggX6_flip_X6_put : GoodIn wsX6_flip wsX6_put := goodIn_r _ [25, 26, 2, 27, 28, 29, 30, 31, 32, 33, 34, 35, 36, 37, 3, 4, 5, 6, 38, 39, 40, 41, 42, 43, 44, 45, 46, 47, 48, 49, 50, 51, 52] (by decide +kernel) (by decide +kernel)
set_option maxRecDepth 20000 in
theorem gX6_flip_X6_put : GoodIn wsX6_flip (wsV RX6 64 RX6 yX6_put wsX6_put) := goodIn_app (goodIn_of _ (by decide +kernel)) ggX6_flip_X6_put
theorem dX6_flip_0 : decode cX6_flip 0 = .ok (.iload_n 1, 1) := by decide +kernel
theorem dX6_flip_1 : decode cX6_flip 1 = .ok (.invokestatic 51, 3) := by decide +kernel
theorem dX6_flip_4 : decode cX6_flip 4 = .ok (.ifCond .eq 11, 3) := by decide +kernel
theorem dX6_flip_7 : decode cX6_flip 7 = .ok (.aload_n 0, 1) := by decide +kernel
theorem dX6_flip_8 : decode cX6_flip 8 = .ok (.iload_n 2, 1) := by decide +kernel
theorem dX6_flip_9 : decode cX6_flip 9 = .ok (.invokevirtual 55, 3) := by decide +kernel
theorem dX6_flip_12 : decode cX6_flip 12 = .ok (.ifCond .ne 5, 3) := by decide +kernel
theorem dX6_flip_15 : decode cX6_flip 15 = .ok (.iconst (-1), 1) := by decide +kernel
theorem dX6_flip_16 : decode cX6_flip 16 = .ok (.ireturn, 1) := by decide +kernel
theorem dX6_flip_17 : decode cX6_flip 17 = .ok (.lconst 1, 1) := by decide +kernel
theorem dX6_flip_18 : decode cX6_flip 18 = .ok (.iload_n 2, 1) := by decide +kernel
theorem dX6_flip_19 : decode cX6_flip 19 = .ok (.lshl, 1) := by decide +kernel
theorem dX6_flip_20 : decode cX6_flip 20 = .ok (.aload_n 0, 1) := by decide +kernel
theorem dX6_flip_21 : decode cX6_flip 21 = .ok (.getfield 38, 3) := by decide +kernel
theorem dX6_flip_24 : decode cX6_flip 24 = .ok (.invokestatic 82, 3) := by decide +kernel
theorem dX6_flip_27 : decode cX6_flip 27 = .ok (.lstore_n 3, 1) := by decide +kernel
theorem dX6_flip_28 : decode cX6_flip 28 = .ok (.aload_n 0, 1) := by decide +kernel
theorem dX6_flip_29 : decode cX6_flip 29 = .ok (.iload_n 1, 1) := by decide +kernel
theorem dX6_flip_30 : decode cX6_flip 30 = .ok (.aload_n 0, 1) := by decide +kernel
theorem dX6_flip_31 : decode cX6_flip 31 = .ok (.getfield 9, 3) := by decide +kernel
theorem dX6_flip_34 : decode cX6_flip 34 = .ok (.iload_n 1, 1) := by decide +kernel
theorem dX6_flip_35 : decode cX6_flip 35 = .ok (.laload, 1) := by decide +kernel
theorem dX6_flip_36 : decode cX6_flip 36 = .ok (.lload_n 3, 1) := by decide +kernel
theorem dX6_flip_37 : decode cX6_flip 37 = .ok (.lxor, 1) := by decide +kernel
theorem dX6_flip_38 : decode cX6_flip 38 = .ok (.invokevirtual 64, 3) := by decide +kernel
theorem dX6_flip_41 : decode cX6_flip 41 = .ok (.ireturn, 1) := by decide +kernel
set_option maxRecDepth 20000 in
theorem ggX6_exchange_X6_isRegister : GoodIn wsX6_exchange wsX6_isRegister := goodIn_r _ [12] (by decide +kernel) (by decide +kernel)
set_option maxRecDepth 20000 in
theorem gX6_exchange_X6_isRegister : GoodIn wsX6_exchange (va_wsS RX6 51 yX6_isRegister wsX6_isRegister) := goodIn_app (goodIn_of _ (by decide +kernel)) ggX6_exchange_X6_isRegister
set_option maxRecDepth 20000 in
theorem ggX6_exchange_X6_isVariable : GoodIn wsX6_exchange wsX6_isVariable := goodIn_r _ [16, 17, 50, 51, 52, 53, 54, 55] (by decide +kernel) (by decide +kernel)
set_option maxRecDepth 20000 in
theorem gX6_exchange_X6_isVariable : GoodIn wsX6_exchange (wsV RX6 72 RX6 yX6_isVariable wsX6_isVariable) := goodIn_app (goodIn_of _ (by decide +kernel)) ggX6_exchange_X6_isVariable
set_option maxRecDepth 20000 in
theorem ggX6_exchange_X3_exchanged : GoodIn wsX6_exchange wsX3_exchanged := goodIn_r _ [21, 22, 23, 24, 20, 25, 26] (by decide +kernel) (by decide +kernel)
set_option maxRecDepth 20000 in
theorem gX6_exchange_X3_exchanged : GoodIn wsX6_exchange (va_wsS RX6 94 yX3_exchanged wsX3_exchanged) := goodIn_app (goodIn_of _ (by decide +kernel)) ggX6_exchange_X3_exchanged
set_option maxRecDepth 20000 in
theorem ggX6_exchange_X6_put : GoodIn wsX6_exchange wsX6_put := goodIn_r _ [30, 31, 1, 32, 33, 34, 35, 36, 37, 38, 39, 40, 41, 42, 9, 10, 11, 12, 43, 44, 45, 46, 47, 48, 49, 50, 51, 52, 53, 54, 55, 56, 57] (by decide +kernel) (by decide +kernel)
set_option maxRecDepth 20000 in
theorem gX6_exchange_X6_put : GoodIn wsX6_exchange (wsV RX6 64 RX6 yX6_put wsX6_put) := goodIn_app (goodIn_of _ (by decide +kernel)) ggX6_exchange_X6_put
theorem dX6_exchange_0 : decode cX6_exchange 0 = .ok (.iload_n 1, 1) := by decide +kernel
theorem dX6_exchange_1 : decode cX6_exchange 1 = .ok (.invokestatic 51, 3) := by decide +kernel
theorem dX6_exchange_4 : decode cX6_exchange 4 = .ok (.ifCond .eq 19, 3) := by decide +kernel
theorem dX6_exchange_7 : decode cX6_exchange 7 = .ok (.aload_n 0, 1) := by decide +kernel
theorem dX6_exchange_8 : decode cX6_exchange 8 = .ok (.iload_n 2, 1) := by decide +kernel
theorem dX6_exchange_9 : decode cX6_exchange 9 = .ok (.invokevirtual 72, 3) := by decide +kernel
theorem dX6_exchange_12 : decode cX6_exchange 12 = .ok (.ifCond .eq 11, 3) := by decide +kernel
theorem dX6_exchange_15 : decode cX6_exchange 15 = .ok (.aload_n 0, 1) := by decide +kernel
theorem dX6_exchange_16 : decode cX6_exchange 16 = .ok (.iload_n 3, 1) := by decide +kernel
theorem dX6_exchange_17 : decode cX6_exchange 17 = .ok (.invokevirtual 72, 3) := by decide +kernel
theorem dX6_exchange_20 : decode cX6_exchange 20 = .ok (.ifCond .ne 5, 3) := by decide +kernel
theorem dX6_exchange_23 : decode cX6_exchange 23 = .ok (.iconst (-1), 1) := by decide +kernel
theorem dX6_exchange_24 : decode cX6_exchange 24 = .ok (.ireturn, 1) := by decide +kernel
theorem dX6_exchange_25 : decode cX6_exchange 25 = .ok (.aload_n 0, 1) := by decide +kernel
theorem dX6_exchange_26 : decode cX6_exchange 26 = .ok (.iload_n 1, 1) := by decide +kernel
theorem dX6_exchange_27 : decode cX6_exchange 27 = .ok (.aload_n 0, 1) := by decide +kernel
theorem dX6_exchange_28 : decode cX6_exchange 28 = .ok (.getfield 9, 3) := by decide +kernel
theorem dX6_exchange_31 : decode cX6_exchange 31 = .ok (.iload_n 1, 1) := by decide +kernel
theorem dX6_exchange_32 : decode cX6_exchange 32 = .ok (.laload, 1) := by decide +kernel
theorem dX6_exchange_33 : decode cX6_exchange 33 = .ok (.iload_n 2, 1) := by decide +kernel
theorem dX6_exchange_34 : decode cX6_exchange 34 = .ok (.iload_n 3, 1) := by decide +kernel
theorem dX6_exchange_35 : decode cX6_exchange 35 = .ok (.invokestatic 85, 3) := by decide +kernel
theorem dX6_exchange_38 : decode cX6_exchange 38 = .ok (.iload_n 2, 1) := by decide +kernel
theorem dX6_exchange_39 : decode cX6_exchange 39 = .ok (.iload_n 3, 1) := by decide +kernel
theorem dX6_exchange_40 : decode cX6_exchange 40 = .ok (.invokestatic 91, 3) := by decide +kernel
theorem dX6_exchange_43 : decode cX6_exchange 43 = .ok (.invokestatic 94, 3) := by decide +kernel
theorem dX6_exchange_46 : decode cX6_exchange 46 = .ok (.invokevirtual 64, 3) := by decide +kernel
theorem dX6_exchange_49 : decode cX6_exchange 49 = .ok (.ireturn, 1) := by decide +kernel
set_option maxRecDepth 20000 in
theorem ggX6_undo_X1_isEmpty : GoodIn wsX6_undo wsX1_isEmpty := goodIn_r _ [7, 8, 24, 25] (by decide +kernel) (by decide +kernel)
set_option maxRecDepth 20000 in
theorem gX6_undo_X1_isEmpty : GoodIn wsX6_undo (wsV RX6 98 RX1 yX1_isEmpty wsX1_isEmpty) := goodIn_app (goodIn_of _ (by decide +kernel)) ggX6_undo_X1_isEmpty
set_option maxRecDepth 20000 in
theorem ggX6_undo_X1_restore : GoodIn wsX6_undo wsX1_restore := goodIn_r _ [12, 8, 13, 14, 15, 16, 17, 24, 25] (by decide +kernel) (by decide +kernel)
set_option maxRecDepth 20000 in
theorem gX6_undo_X1_restore : GoodIn wsX6_undo (wsV RX6 102 RX1 yX1_restore wsX1_restore) := goodIn_app (goodIn_of _ (by decide +kernel)) ggX6_undo_X1_restore
theorem dX6_undo_0 : decode cX6_undo 0 = .ok (.aload_n 0, 1) := by decide +kernel
theorem dX6_undo_1 : decode cX6_undo 1 = .ok (.getfield 20, 3) := by decide +kernel
theorem dX6_undo_4 : decode cX6_undo 4 = .ok (.invokevirtual 98, 3) := by decide +kernel
theorem dX6_undo_7 : decode cX6_undo 7 = .ok (.ifCond .eq 6, 3) := by decide +kernel
theorem dX6_undo_10 : decode cX6_undo 10 = .ok (.bipush (-2), 2) := by decide +kernel
theorem dX6_undo_12 : decode cX6_undo 12 = .ok (.ireturn, 1) := by decide +kernel
theorem dX6_undo_13 : decode cX6_undo 13 = .ok (.aload_n 0, 1) := by decide +kernel
theorem dX6_undo_14 : decode cX6_undo 14 = .ok (.getfield 20, 3) := by decide +kernel
theorem dX6_undo_17 : decode cX6_undo 17 = .ok (.aload_n 0, 1) := by decide +kernel
theorem dX6_undo_18 : decode cX6_undo 18 = .ok (.getfield 9, 3) := by decide +kernel
theorem dX6_undo_21 : decode cX6_undo 21 = .ok (.invokevirtual 102, 3) := by decide +kernel
theorem dX6_undo_24 : decode cX6_undo 24 = .ok (.ireturn, 1) := by decide +kernel
set_option maxRecDepth 20000 in
theorem ggX6_has_X6_isRegister : GoodIn wsX6_has wsX6_isRegister := goodIn_r _ [5] (by decide +kernel) (by decide +kernel)
set_option maxRecDepth 20000 in
theorem gX6_has_X6_isRegister : GoodIn wsX6_has (va_wsS RX6 51 yX6_isRegister wsX6_isRegister) := goodIn_app (goodIn_of _ (by decide +kernel)) ggX6_has_X6_isRegister
set_option maxRecDepth 20000 in
theorem ggX6_has_X6_isMask : GoodIn wsX6_has wsX6_isMask := goodIn_r _ [9, 10, 15, 16, 17, 18, 19, 20] (by decide +kernel) (by decide +kernel)
set_option maxRecDepth 20000 in
theorem gX6_has_X6_isMask : GoodIn wsX6_has (wsV RX6 55 RX6 yX6_isMask wsX6_isMask) := goodIn_app (goodIn_of _ (by decide +kernel)) ggX6_has_X6_isMask
set_option maxRecDepth 20000 in
theorem ggX6_has_X3_bit : GoodIn wsX6_has wsX3_bit := goodIn_r _ [14] (by decide +kernel) (by decide +kernel)
set_option maxRecDepth 20000 in
theorem gX6_has_X3_bit : GoodIn wsX6_has (va_wsS RX6 106 yX3_bit wsX3_bit) := goodIn_app (goodIn_of _ (by decide +kernel)) ggX6_has_X3_bit
theorem dX6_has_0 : decode cX6_has 0 = .ok (.iload_n 1, 1) := by decide +kernel
theorem dX6_has_1 : decode cX6_has 1 = .ok (.invokestatic 51, 3) := by decide +kernel
theorem dX6_has_4 : decode cX6_has 4 = .ok (.ifCond .eq 11, 3) := by decide +kernel
theorem dX6_has_7 : decode cX6_has 7 = .ok (.aload_n 0, 1) := by decide +kernel
theorem dX6_has_8 : decode cX6_has 8 = .ok (.iload_n 2, 1) := by decide +kernel
theorem dX6_has_9 : decode cX6_has 9 = .ok (.invokevirtual 55, 3) := by decide +kernel
theorem dX6_has_12 : decode cX6_has 12 = .ok (.ifCond .ne 5, 3) := by decide +kernel
theorem dX6_has_15 : decode cX6_has 15 = .ok (.iconst (-1), 1) := by decide +kernel
theorem dX6_has_16 : decode cX6_has 16 = .ok (.ireturn, 1) := by decide +kernel
theorem dX6_has_17 : decode cX6_has 17 = .ok (.aload_n 0, 1) := by decide +kernel
theorem dX6_has_18 : decode cX6_has 18 = .ok (.getfield 9, 3) := by decide +kernel
theorem dX6_has_21 : decode cX6_has 21 = .ok (.iload_n 1, 1) := by decide +kernel
theorem dX6_has_22 : decode cX6_has 22 = .ok (.laload, 1) := by decide +kernel
theorem dX6_has_23 : decode cX6_has 23 = .ok (.iload_n 2, 1) := by decide +kernel
theorem dX6_has_24 : decode cX6_has 24 = .ok (.invokestatic 106, 3) := by decide +kernel
theorem dX6_has_27 : decode cX6_has 27 = .ok (.ireturn, 1) := by decide +kernel
set_option maxRecDepth 20000 in
theorem ggX6_terms_X6_isRegister : GoodIn wsX6_terms wsX6_isRegister := goodIn_r _ [5] (by decide +kernel) (by decide +kernel)
set_option maxRecDepth 20000 in
theorem gX6_terms_X6_isRegister : GoodIn wsX6_terms (va_wsS RX6 51 yX6_isRegister wsX6_isRegister) := goodIn_app (goodIn_of _ (by decide +kernel)) ggX6_terms_X6_isRegister
set_option maxRecDepth 20000 in
theorem ggX6_terms_J13_bitCount_95d88 : GoodIn wsX6_terms wsJ13_bitCount_95d88 := goodIn_r _ [9, 10, 11, 12] (by decide +kernel) (by decide +kernel)
set_option maxRecDepth 20000 in
theorem gX6_terms_J13_bitCount_95d88 : GoodIn wsX6_terms (va_wsS RX6 110 yJ13_bitCount_95d88 wsJ13_bitCount_95d88) := goodIn_app (goodIn_of _ (by decide +kernel)) ggX6_terms_J13_bitCount_95d88
theorem dX6_terms_0 : decode cX6_terms 0 = .ok (.iload_n 1, 1) := by decide +kernel
theorem dX6_terms_1 : decode cX6_terms 1 = .ok (.invokestatic 51, 3) := by decide +kernel
theorem dX6_terms_4 : decode cX6_terms 4 = .ok (.ifCond .ne 5, 3) := by decide +kernel
theorem dX6_terms_7 : decode cX6_terms 7 = .ok (.iconst (-1), 1) := by decide +kernel
theorem dX6_terms_8 : decode cX6_terms 8 = .ok (.ireturn, 1) := by decide +kernel
theorem dX6_terms_9 : decode cX6_terms 9 = .ok (.aload_n 0, 1) := by decide +kernel
theorem dX6_terms_10 : decode cX6_terms 10 = .ok (.getfield 9, 3) := by decide +kernel
theorem dX6_terms_13 : decode cX6_terms 13 = .ok (.iload_n 1, 1) := by decide +kernel
theorem dX6_terms_14 : decode cX6_terms 14 = .ok (.laload, 1) := by decide +kernel
theorem dX6_terms_15 : decode cX6_terms 15 = .ok (.invokestatic 110, 3) := by decide +kernel
theorem dX6_terms_18 : decode cX6_terms 18 = .ok (.ireturn, 1) := by decide +kernel
set_option maxRecDepth 20000 in
theorem ggX6_degree_X6_isRegister : GoodIn wsX6_degree wsX6_isRegister := goodIn_r _ [5] (by decide +kernel) (by decide +kernel)
set_option maxRecDepth 20000 in
theorem gX6_degree_X6_isRegister : GoodIn wsX6_degree (va_wsS RX6 51 yX6_isRegister wsX6_isRegister) := goodIn_app (goodIn_of _ (by decide +kernel)) ggX6_degree_X6_isRegister
set_option maxRecDepth 20000 in
theorem ggX6_degree_X2_termOf : GoodIn wsX6_degree wsX2_termOf := goodIn_r _ [9, 10, 11, 12, 13, 14, 15, 16, 17, 18, 8, 19, 20, 21, 22, 23, 24, 25, 26, 27, 28, 29] (by decide +kernel) (by decide +kernel)
set_option maxRecDepth 20000 in
theorem gX6_degree_X2_termOf : GoodIn wsX6_degree (va_wsS RX6 118 yX2_termOf wsX2_termOf) := goodIn_app (goodIn_of _ (by decide +kernel)) ggX6_degree_X2_termOf
set_option maxRecDepth 20000 in
theorem ggX6_degree_J6_bitCount_0f7a4 : GoodIn wsX6_degree wsJ6_bitCount_0f7a4 := goodIn_r _ [33, 34, 35, 36] (by decide +kernel) (by decide +kernel)
set_option maxRecDepth 20000 in
theorem gX6_degree_J6_bitCount_0f7a4 : GoodIn wsX6_degree (va_wsS RX6 122 yJ6_bitCount_0f7a4 wsJ6_bitCount_0f7a4) := goodIn_app (goodIn_of _ (by decide +kernel)) ggX6_degree_J6_bitCount_0f7a4
theorem dX6_degree_0 : decode cX6_degree 0 = .ok (.iload_n 1, 1) := by decide +kernel
theorem dX6_degree_1 : decode cX6_degree 1 = .ok (.invokestatic 51, 3) := by decide +kernel
theorem dX6_degree_4 : decode cX6_degree 4 = .ok (.ifCond .ne 5, 3) := by decide +kernel
theorem dX6_degree_7 : decode cX6_degree 7 = .ok (.iconst (-1), 1) := by decide +kernel
theorem dX6_degree_8 : decode cX6_degree 8 = .ok (.ireturn, 1) := by decide +kernel
theorem dX6_degree_9 : decode cX6_degree 9 = .ok (.aload_n 0, 1) := by decide +kernel
theorem dX6_degree_10 : decode cX6_degree 10 = .ok (.getfield 9, 3) := by decide +kernel
theorem dX6_degree_13 : decode cX6_degree 13 = .ok (.iload_n 1, 1) := by decide +kernel
theorem dX6_degree_14 : decode cX6_degree 14 = .ok (.laload, 1) := by decide +kernel
theorem dX6_degree_15 : decode cX6_degree 15 = .ok (.iconst 1, 1) := by decide +kernel
theorem dX6_degree_16 : decode cX6_degree 16 = .ok (.iconst 0, 1) := by decide +kernel
theorem dX6_degree_17 : decode cX6_degree 17 = .ok (.invokestatic 118, 3) := by decide +kernel
theorem dX6_degree_20 : decode cX6_degree 20 = .ok (.istore_n 2, 1) := by decide +kernel
theorem dX6_degree_21 : decode cX6_degree 21 = .ok (.iload_n 2, 1) := by decide +kernel
theorem dX6_degree_22 : decode cX6_degree 22 = .ok (.ifCond .ge 8, 3) := by decide +kernel
theorem dX6_degree_25 : decode cX6_degree 25 = .ok (.bipush (-4), 2) := by decide +kernel
theorem dX6_degree_27 : decode cX6_degree 27 = .ok (.goto 7, 3) := by decide +kernel
theorem dX6_degree_30 : decode cX6_degree 30 = .ok (.iload_n 2, 1) := by decide +kernel
theorem dX6_degree_31 : decode cX6_degree 31 = .ok (.invokestatic 122, 3) := by decide +kernel
theorem dX6_degree_34 : decode cX6_degree 34 = .ok (.ireturn, 1) := by decide +kernel
set_option maxRecDepth 20000 in
theorem ggX6_occurring_X6_isRegister : GoodIn wsX6_occurring wsX6_isRegister := goodIn_r _ [6] (by decide +kernel) (by decide +kernel)
set_option maxRecDepth 20000 in
theorem gX6_occurring_X6_isRegister : GoodIn wsX6_occurring (va_wsS RX6 51 yX6_isRegister wsX6_isRegister) := goodIn_app (goodIn_of _ (by decide +kernel)) ggX6_occurring_X6_isRegister
set_option maxRecDepth 20000 in
theorem ggX6_occurring_X3_upperHalf : GoodIn wsX6_occurring wsX3_upperHalf := goodIn_r _ [10, 11, 12, 9, 13, 14] (by decide +kernel) (by decide +kernel)
set_option maxRecDepth 20000 in
theorem gX6_occurring_X3_upperHalf : GoodIn wsX6_occurring (va_wsS RX6 79 yX3_upperHalf wsX3_upperHalf) := goodIn_app (goodIn_of _ (by decide +kernel)) ggX6_occurring_X3_upperHalf
theorem dX6_occurring_0 : decode cX6_occurring 0 = .ok (.iload_n 1, 1) := by decide +kernel
theorem dX6_occurring_1 : decode cX6_occurring 1 = .ok (.invokestatic 51, 3) := by decide +kernel
theorem dX6_occurring_4 : decode cX6_occurring 4 = .ok (.ifCond .ne 5, 3) := by decide +kernel
theorem dX6_occurring_7 : decode cX6_occurring 7 = .ok (.iconst (-1), 1) := by decide +kernel
theorem dX6_occurring_8 : decode cX6_occurring 8 = .ok (.ireturn, 1) := by decide +kernel
theorem dX6_occurring_9 : decode cX6_occurring 9 = .ok (.iconst 0, 1) := by decide +kernel
theorem dX6_occurring_10 : decode cX6_occurring 10 = .ok (.istore_n 2, 1) := by decide +kernel
theorem dX6_occurring_11 : decode cX6_occurring 11 = .ok (.iconst 0, 1) := by decide +kernel
theorem dX6_occurring_12 : decode cX6_occurring 12 = .ok (.istore_n 3, 1) := by decide +kernel
theorem dX6_occurring_13 : decode cX6_occurring 13 = .ok (.iload_n 3, 1) := by decide +kernel
theorem dX6_occurring_14 : decode cX6_occurring 14 = .ok (.aload_n 0, 1) := by decide +kernel
theorem dX6_occurring_15 : decode cX6_occurring 15 = .ok (.getfield 38, 3) := by decide +kernel
theorem dX6_occurring_18 : decode cX6_occurring 18 = .ok (.if_icmp .ge 30, 3) := by decide +kernel
theorem dX6_occurring_21 : decode cX6_occurring 21 = .ok (.aload_n 0, 1) := by decide +kernel
theorem dX6_occurring_22 : decode cX6_occurring 22 = .ok (.getfield 9, 3) := by decide +kernel
theorem dX6_occurring_25 : decode cX6_occurring 25 = .ok (.iload_n 1, 1) := by decide +kernel
theorem dX6_occurring_26 : decode cX6_occurring 26 = .ok (.laload, 1) := by decide +kernel
theorem dX6_occurring_27 : decode cX6_occurring 27 = .ok (.iload_n 3, 1) := by decide +kernel
theorem dX6_occurring_28 : decode cX6_occurring 28 = .ok (.invokestatic 79, 3) := by decide +kernel
theorem dX6_occurring_31 : decode cX6_occurring 31 = .ok (.lconst 0, 1) := by decide +kernel
theorem dX6_occurring_32 : decode cX6_occurring 32 = .ok (.lcmp, 1) := by decide +kernel
theorem dX6_occurring_33 : decode cX6_occurring 33 = .ok (.ifCond .eq 9, 3) := by decide +kernel
theorem dX6_occurring_36 : decode cX6_occurring 36 = .ok (.iload_n 2, 1) := by decide +kernel
theorem dX6_occurring_37 : decode cX6_occurring 37 = .ok (.iconst 1, 1) := by decide +kernel
theorem dX6_occurring_38 : decode cX6_occurring 38 = .ok (.iload_n 3, 1) := by decide +kernel
theorem dX6_occurring_39 : decode cX6_occurring 39 = .ok (.ishl, 1) := by decide +kernel
theorem dX6_occurring_40 : decode cX6_occurring 40 = .ok (.ior, 1) := by decide +kernel
theorem dX6_occurring_41 : decode cX6_occurring 41 = .ok (.istore_n 2, 1) := by decide +kernel
theorem dX6_occurring_42 : decode cX6_occurring 42 = .ok (.iinc 3 1, 3) := by decide +kernel
theorem dX6_occurring_45 : decode cX6_occurring 45 = .ok (.goto (-32), 3) := by decide +kernel
theorem dX6_occurring_48 : decode cX6_occurring 48 = .ok (.iload_n 2, 1) := by decide +kernel
theorem dX6_occurring_49 : decode cX6_occurring 49 = .ok (.ireturn, 1) := by decide +kernel
set_option maxRecDepth 20000 in
theorem ggX6_size_X6_isRegister : GoodIn wsX6_size wsX6_isRegister := goodIn_r _ [6] (by decide +kernel) (by decide +kernel)
set_option maxRecDepth 20000 in
theorem gX6_size_X6_isRegister : GoodIn wsX6_size (va_wsS RX6 51 yX6_isRegister wsX6_isRegister) := goodIn_app (goodIn_of _ (by decide +kernel)) ggX6_size_X6_isRegister
set_option maxRecDepth 20000 in
theorem ggX6_size_X0_forget : GoodIn wsX6_size wsX0_forget := goodIn_r _ [11, 12, 49, 50] (by decide +kernel) (by decide +kernel)
set_option maxRecDepth 20000 in
theorem gX6_size_X0_forget : GoodIn wsX6_size (wsV RX6 127 RX0 yX0_forget wsX0_forget) := goodIn_app (goodIn_of _ (by decide +kernel)) ggX6_size_X0_forget
set_option maxRecDepth 20000 in
theorem ggX6_size_X0_enter : GoodIn wsX6_size wsX0_enter := goodIn_r _ [16, 17, 12, 18, 19, 20, 21, 10, 22, 49, 50] (by decide +kernel) (by decide +kernel)
set_option maxRecDepth 20000 in
theorem gX6_size_X0_enter : GoodIn wsX6_size (wsV RX6 128 RX0 yX0_enter wsX0_enter) := goodIn_app (goodIn_of _ (by decide +kernel)) ggX6_size_X0_enter
set_option maxRecDepth 20000 in
theorem ggX6_size_X0_closedCount : GoodIn wsX6_size wsX0_closedCount := goodIn_r _ [26, 12, 18, 27, 28, 29, 30, 31, 32, 33, 34, 35, 36, 37, 38, 39, 14, 15, 10, 16, 17, 19, 20, 21, 22, 40, 41, 42, 49, 50] (by decide +kernel) (by decide +kernel)
set_option maxRecDepth 20000 in
theorem gX6_size_X0_closedCount : GoodIn wsX6_size (wsV RX6 132 RX0 yX0_closedCount wsX0_closedCount) := goodIn_app (goodIn_of _ (by decide +kernel)) ggX6_size_X0_closedCount
theorem dX6_size_0 : decode cX6_size 0 = .ok (.iload_n 1, 1) := by decide +kernel
theorem dX6_size_1 : decode cX6_size 1 = .ok (.invokestatic 51, 3) := by decide +kernel
theorem dX6_size_4 : decode cX6_size 4 = .ok (.ifCond .ne 5, 3) := by decide +kernel
theorem dX6_size_7 : decode cX6_size 7 = .ok (.iconst (-1), 1) := by decide +kernel
theorem dX6_size_8 : decode cX6_size 8 = .ok (.ireturn, 1) := by decide +kernel
theorem dX6_size_9 : decode cX6_size 9 = .ok (.aload_n 0, 1) := by decide +kernel
theorem dX6_size_10 : decode cX6_size 10 = .ok (.getfield 27, 3) := by decide +kernel
theorem dX6_size_13 : decode cX6_size 13 = .ok (.invokevirtual 127, 3) := by decide +kernel
theorem dX6_size_16 : decode cX6_size 16 = .ok (.aload_n 0, 1) := by decide +kernel
theorem dX6_size_17 : decode cX6_size 17 = .ok (.getfield 27, 3) := by decide +kernel
theorem dX6_size_20 : decode cX6_size 20 = .ok (.aload_n 0, 1) := by decide +kernel
theorem dX6_size_21 : decode cX6_size 21 = .ok (.getfield 9, 3) := by decide +kernel
theorem dX6_size_24 : decode cX6_size 24 = .ok (.iload_n 1, 1) := by decide +kernel
theorem dX6_size_25 : decode cX6_size 25 = .ok (.laload, 1) := by decide +kernel
theorem dX6_size_26 : decode cX6_size 26 = .ok (.invokevirtual 128, 3) := by decide +kernel
theorem dX6_size_29 : decode cX6_size 29 = .ok (.aload_n 0, 1) := by decide +kernel
theorem dX6_size_30 : decode cX6_size 30 = .ok (.getfield 27, 3) := by decide +kernel
theorem dX6_size_33 : decode cX6_size 33 = .ok (.invokevirtual 132, 3) := by decide +kernel
theorem dX6_size_36 : decode cX6_size 36 = .ok (.ireturn, 1) := by decide +kernel
set_option maxRecDepth 20000 in
theorem ggX6_sharedSize_X0_forget : GoodIn wsX6_sharedSize wsX0_forget := goodIn_r _ [7, 8, 45, 46] (by decide +kernel) (by decide +kernel)
set_option maxRecDepth 20000 in
theorem gX6_sharedSize_X0_forget : GoodIn wsX6_sharedSize (wsV RX6 127 RX0 yX0_forget wsX0_forget) := goodIn_app (goodIn_of _ (by decide +kernel)) ggX6_sharedSize_X0_forget
set_option maxRecDepth 20000 in
theorem ggX6_sharedSize_X0_enter : GoodIn wsX6_sharedSize wsX0_enter := goodIn_r _ [12, 13, 8, 14, 15, 16, 17, 6, 18, 45, 46] (by decide +kernel) (by decide +kernel)
set_option maxRecDepth 20000 in
theorem gX6_sharedSize_X0_enter : GoodIn wsX6_sharedSize (wsV RX6 128 RX0 yX0_enter wsX0_enter) := goodIn_app (goodIn_of _ (by decide +kernel)) ggX6_sharedSize_X0_enter
set_option maxRecDepth 20000 in
theorem ggX6_sharedSize_X0_closedCount : GoodIn wsX6_sharedSize wsX0_closedCount := goodIn_r _ [22, 8, 14, 23, 24, 25, 26, 27, 28, 29, 30, 31, 32, 33, 34, 35, 10, 11, 6, 12, 13, 15, 16, 17, 18, 36, 37, 38, 45, 46] (by decide +kernel) (by decide +kernel)
set_option maxRecDepth 20000 in
theorem gX6_sharedSize_X0_closedCount : GoodIn wsX6_sharedSize (wsV RX6 132 RX0 yX0_closedCount wsX0_closedCount) := goodIn_app (goodIn_of _ (by decide +kernel)) ggX6_sharedSize_X0_closedCount
theorem dX6_sharedSize_0 : decode cX6_sharedSize 0 = .ok (.aload_n 0, 1) := by decide +kernel
theorem dX6_sharedSize_1 : decode cX6_sharedSize 1 = .ok (.getfield 27, 3) := by decide +kernel
theorem dX6_sharedSize_4 : decode cX6_sharedSize 4 = .ok (.invokevirtual 127, 3) := by decide +kernel
theorem dX6_sharedSize_7 : decode cX6_sharedSize 7 = .ok (.iconst 0, 1) := by decide +kernel
theorem dX6_sharedSize_8 : decode cX6_sharedSize 8 = .ok (.istore_n 1, 1) := by decide +kernel
theorem dX6_sharedSize_9 : decode cX6_sharedSize 9 = .ok (.iload_n 1, 1) := by decide +kernel
theorem dX6_sharedSize_10 : decode cX6_sharedSize 10 = .ok (.bipush 8, 2) := by decide +kernel
theorem dX6_sharedSize_12 : decode cX6_sharedSize 12 = .ok (.if_icmp .ge 22, 3) := by decide +kernel
theorem dX6_sharedSize_15 : decode cX6_sharedSize 15 = .ok (.aload_n 0, 1) := by decide +kernel
theorem dX6_sharedSize_16 : decode cX6_sharedSize 16 = .ok (.getfield 27, 3) := by decide +kernel
theorem dX6_sharedSize_19 : decode cX6_sharedSize 19 = .ok (.aload_n 0, 1) := by decide +kernel
theorem dX6_sharedSize_20 : decode cX6_sharedSize 20 = .ok (.getfield 9, 3) := by decide +kernel
theorem dX6_sharedSize_23 : decode cX6_sharedSize 23 = .ok (.iload_n 1, 1) := by decide +kernel
theorem dX6_sharedSize_24 : decode cX6_sharedSize 24 = .ok (.laload, 1) := by decide +kernel
theorem dX6_sharedSize_25 : decode cX6_sharedSize 25 = .ok (.invokevirtual 128, 3) := by decide +kernel
theorem dX6_sharedSize_28 : decode cX6_sharedSize 28 = .ok (.iinc 1 1, 3) := by decide +kernel
theorem dX6_sharedSize_31 : decode cX6_sharedSize 31 = .ok (.goto (-22), 3) := by decide +kernel
theorem dX6_sharedSize_34 : decode cX6_sharedSize 34 = .ok (.aload_n 0, 1) := by decide +kernel
theorem dX6_sharedSize_35 : decode cX6_sharedSize 35 = .ok (.getfield 27, 3) := by decide +kernel
theorem dX6_sharedSize_38 : decode cX6_sharedSize 38 = .ok (.invokevirtual 132, 3) := by decide +kernel
theorem dX6_sharedSize_41 : decode cX6_sharedSize 41 = .ok (.ireturn, 1) := by decide +kernel
set_option maxRecDepth 20000 in
theorem ggX6_termAt_X6_isRegister : GoodIn wsX6_termAt wsX6_isRegister := goodIn_r _ [5] (by decide +kernel) (by decide +kernel)
set_option maxRecDepth 20000 in
theorem gX6_termAt_X6_isRegister : GoodIn wsX6_termAt (va_wsS RX6 51 yX6_isRegister wsX6_isRegister) := goodIn_app (goodIn_of _ (by decide +kernel)) ggX6_termAt_X6_isRegister
set_option maxRecDepth 20000 in
theorem ggX6_termAt_X6_isOrder : GoodIn wsX6_termAt wsX6_isOrder := goodIn_r _ [8] (by decide +kernel) (by decide +kernel)
set_option maxRecDepth 20000 in
theorem gX6_termAt_X6_isOrder : GoodIn wsX6_termAt (va_wsS RX6 136 yX6_isOrder wsX6_isOrder) := goodIn_app (goodIn_of _ (by decide +kernel)) ggX6_termAt_X6_isOrder
set_option maxRecDepth 20000 in
theorem ggX6_termAt_X2_termOf : GoodIn wsX6_termAt wsX2_termOf := goodIn_r _ [12, 13, 14, 15, 16, 17, 18, 19, 20, 21, 11, 22, 23, 24, 25, 26, 27, 28, 29, 30, 31, 32] (by decide +kernel) (by decide +kernel)
set_option maxRecDepth 20000 in
theorem gX6_termAt_X2_termOf : GoodIn wsX6_termAt (va_wsS RX6 118 yX2_termOf wsX2_termOf) := goodIn_app (goodIn_of _ (by decide +kernel)) ggX6_termAt_X2_termOf
theorem dX6_termAt_0 : decode cX6_termAt 0 = .ok (.iload_n 1, 1) := by decide +kernel
theorem dX6_termAt_1 : decode cX6_termAt 1 = .ok (.invokestatic 51, 3) := by decide +kernel
theorem dX6_termAt_4 : decode cX6_termAt 4 = .ok (.ifCond .eq 14, 3) := by decide +kernel
theorem dX6_termAt_7 : decode cX6_termAt 7 = .ok (.iload_n 2, 1) := by decide +kernel
theorem dX6_termAt_8 : decode cX6_termAt 8 = .ok (.invokestatic 136, 3) := by decide +kernel
theorem dX6_termAt_11 : decode cX6_termAt 11 = .ok (.ifCond .eq 7, 3) := by decide +kernel
theorem dX6_termAt_14 : decode cX6_termAt 14 = .ok (.iload_n 3, 1) := by decide +kernel
theorem dX6_termAt_15 : decode cX6_termAt 15 = .ok (.ifCond .ge 5, 3) := by decide +kernel
theorem dX6_termAt_18 : decode cX6_termAt 18 = .ok (.iconst (-1), 1) := by decide +kernel
theorem dX6_termAt_19 : decode cX6_termAt 19 = .ok (.ireturn, 1) := by decide +kernel
theorem dX6_termAt_20 : decode cX6_termAt 20 = .ok (.aload_n 0, 1) := by decide +kernel
theorem dX6_termAt_21 : decode cX6_termAt 21 = .ok (.getfield 9, 3) := by decide +kernel
theorem dX6_termAt_24 : decode cX6_termAt 24 = .ok (.iload_n 1, 1) := by decide +kernel
theorem dX6_termAt_25 : decode cX6_termAt 25 = .ok (.laload, 1) := by decide +kernel
theorem dX6_termAt_26 : decode cX6_termAt 26 = .ok (.iload_n 2, 1) := by decide +kernel
theorem dX6_termAt_27 : decode cX6_termAt 27 = .ok (.iload_n 3, 1) := by decide +kernel
theorem dX6_termAt_28 : decode cX6_termAt 28 = .ok (.invokestatic 118, 3) := by decide +kernel
theorem dX6_termAt_31 : decode cX6_termAt 31 = .ok (.ireturn, 1) := by decide +kernel
set_option maxRecDepth 20000 in
theorem ggX6_value_X6_isRegister : GoodIn wsX6_value wsX6_isRegister := goodIn_r _ [6] (by decide +kernel) (by decide +kernel)
set_option maxRecDepth 20000 in
theorem gX6_value_X6_isRegister : GoodIn wsX6_value (va_wsS RX6 51 yX6_isRegister wsX6_isRegister) := goodIn_app (goodIn_of _ (by decide +kernel)) ggX6_value_X6_isRegister
set_option maxRecDepth 20000 in
theorem ggX6_value_X6_isMask : GoodIn wsX6_value wsX6_isMask := goodIn_r _ [10, 2, 25, 26, 27, 28, 29, 30] (by decide +kernel) (by decide +kernel)
set_option maxRecDepth 20000 in
theorem gX6_value_X6_isMask : GoodIn wsX6_value (wsV RX6 55 RX6 yX6_isMask wsX6_isMask) := goodIn_app (goodIn_of _ (by decide +kernel)) ggX6_value_X6_isMask
set_option maxRecDepth 20000 in
theorem ggX6_value_X3_transformed : GoodIn wsX6_value wsX3_transformed := goodIn_r _ [14, 15, 16, 13, 17, 18, 19, 20, 21] (by decide +kernel) (by decide +kernel)
set_option maxRecDepth 20000 in
theorem gX6_value_X3_transformed : GoodIn wsX6_value (va_wsS RX6 82 yX3_transformed wsX3_transformed) := goodIn_app (goodIn_of _ (by decide +kernel)) ggX6_value_X3_transformed
set_option maxRecDepth 20000 in
theorem ggX6_value_X3_bit : GoodIn wsX6_value wsX3_bit := goodIn_r _ [24] (by decide +kernel) (by decide +kernel)
set_option maxRecDepth 20000 in
theorem gX6_value_X3_bit : GoodIn wsX6_value (va_wsS RX6 106 yX3_bit wsX3_bit) := goodIn_app (goodIn_of _ (by decide +kernel)) ggX6_value_X3_bit
theorem dX6_value_0 : decode cX6_value 0 = .ok (.iload_n 1, 1) := by decide +kernel
theorem dX6_value_1 : decode cX6_value 1 = .ok (.invokestatic 51, 3) := by decide +kernel
theorem dX6_value_4 : decode cX6_value 4 = .ok (.ifCond .eq 11, 3) := by decide +kernel
theorem dX6_value_7 : decode cX6_value 7 = .ok (.aload_n 0, 1) := by decide +kernel
theorem dX6_value_8 : decode cX6_value 8 = .ok (.iload_n 2, 1) := by decide +kernel
theorem dX6_value_9 : decode cX6_value 9 = .ok (.invokevirtual 55, 3) := by decide +kernel
theorem dX6_value_12 : decode cX6_value 12 = .ok (.ifCond .ne 5, 3) := by decide +kernel
theorem dX6_value_15 : decode cX6_value 15 = .ok (.iconst (-1), 1) := by decide +kernel
theorem dX6_value_16 : decode cX6_value 16 = .ok (.ireturn, 1) := by decide +kernel
theorem dX6_value_17 : decode cX6_value 17 = .ok (.aload_n 0, 1) := by decide +kernel
theorem dX6_value_18 : decode cX6_value 18 = .ok (.getfield 9, 3) := by decide +kernel
theorem dX6_value_21 : decode cX6_value 21 = .ok (.iload_n 1, 1) := by decide +kernel
theorem dX6_value_22 : decode cX6_value 22 = .ok (.laload, 1) := by decide +kernel
theorem dX6_value_23 : decode cX6_value 23 = .ok (.aload_n 0, 1) := by decide +kernel
theorem dX6_value_24 : decode cX6_value 24 = .ok (.getfield 38, 3) := by decide +kernel
theorem dX6_value_27 : decode cX6_value 27 = .ok (.invokestatic 82, 3) := by decide +kernel
theorem dX6_value_30 : decode cX6_value 30 = .ok (.iload_n 2, 1) := by decide +kernel
theorem dX6_value_31 : decode cX6_value 31 = .ok (.invokestatic 106, 3) := by decide +kernel
theorem dX6_value_34 : decode cX6_value 34 = .ok (.ireturn, 1) := by decide +kernel
set_option maxRecDepth 20000 in
theorem ggX6_isSame_X6_isRegister : GoodIn wsX6_isSame wsX6_isRegister := goodIn_r _ [5] (by decide +kernel) (by decide +kernel)
set_option maxRecDepth 20000 in
theorem gX6_isSame_X6_isRegister : GoodIn wsX6_isSame (va_wsS RX6 51 yX6_isRegister wsX6_isRegister) := goodIn_app (goodIn_of _ (by decide +kernel)) ggX6_isSame_X6_isRegister
theorem dX6_isSame_0 : decode cX6_isSame 0 = .ok (.iload_n 1, 1) := by decide +kernel
theorem dX6_isSame_1 : decode cX6_isSame 1 = .ok (.invokestatic 51, 3) := by decide +kernel
theorem dX6_isSame_4 : decode cX6_isSame 4 = .ok (.ifCond .eq 10, 3) := by decide +kernel
theorem dX6_isSame_7 : decode cX6_isSame 7 = .ok (.iload_n 2, 1) := by decide +kernel
theorem dX6_isSame_8 : decode cX6_isSame 8 = .ok (.invokestatic 51, 3) := by decide +kernel
theorem dX6_isSame_11 : decode cX6_isSame 11 = .ok (.ifCond .ne 5, 3) := by decide +kernel
theorem dX6_isSame_14 : decode cX6_isSame 14 = .ok (.iconst (-1), 1) := by decide +kernel
theorem dX6_isSame_15 : decode cX6_isSame 15 = .ok (.ireturn, 1) := by decide +kernel
theorem dX6_isSame_16 : decode cX6_isSame 16 = .ok (.aload_n 0, 1) := by decide +kernel
theorem dX6_isSame_17 : decode cX6_isSame 17 = .ok (.getfield 9, 3) := by decide +kernel
theorem dX6_isSame_20 : decode cX6_isSame 20 = .ok (.iload_n 1, 1) := by decide +kernel
theorem dX6_isSame_21 : decode cX6_isSame 21 = .ok (.laload, 1) := by decide +kernel
theorem dX6_isSame_22 : decode cX6_isSame 22 = .ok (.aload_n 0, 1) := by decide +kernel
theorem dX6_isSame_23 : decode cX6_isSame 23 = .ok (.getfield 9, 3) := by decide +kernel
theorem dX6_isSame_26 : decode cX6_isSame 26 = .ok (.iload_n 2, 1) := by decide +kernel
theorem dX6_isSame_27 : decode cX6_isSame 27 = .ok (.laload, 1) := by decide +kernel
theorem dX6_isSame_28 : decode cX6_isSame 28 = .ok (.lcmp, 1) := by decide +kernel
theorem dX6_isSame_29 : decode cX6_isSame 29 = .ok (.ifCond .ne 7, 3) := by decide +kernel
theorem dX6_isSame_32 : decode cX6_isSame 32 = .ok (.iconst 1, 1) := by decide +kernel
theorem dX6_isSame_33 : decode cX6_isSame 33 = .ok (.goto 4, 3) := by decide +kernel
theorem dX6_isSame_36 : decode cX6_isSame 36 = .ok (.iconst 0, 1) := by decide +kernel
theorem dX6_isSame_37 : decode cX6_isSame 37 = .ok (.ireturn, 1) := by decide +kernel
set_option maxRecDepth 20000 in
theorem ggX6_reduce_X6_isRegister : GoodIn wsX6_reduce wsX6_isRegister := goodIn_r _ [7] (by decide +kernel) (by decide +kernel)
set_option maxRecDepth 20000 in
theorem gX6_reduce_X6_isRegister : GoodIn wsX6_reduce (va_wsS RX6 51 yX6_isRegister wsX6_isRegister) := goodIn_app (goodIn_of _ (by decide +kernel)) ggX6_reduce_X6_isRegister
set_option maxRecDepth 20000 in
theorem ggX6_reduce_X6_isSet : GoodIn wsX6_reduce wsX6_isSet := goodIn_r _ [10] (by decide +kernel) (by decide +kernel)
set_option maxRecDepth 20000 in
theorem gX6_reduce_X6_isSet : GoodIn wsX6_reduce (va_wsS RX6 139 yX6_isSet wsX6_isSet) := goodIn_app (goodIn_of _ (by decide +kernel)) ggX6_reduce_X6_isSet
set_option maxRecDepth 20000 in
theorem ggX6_reduce_X6_isOrder : GoodIn wsX6_reduce wsX6_isOrder := goodIn_r _ [13] (by decide +kernel) (by decide +kernel)
set_option maxRecDepth 20000 in
theorem gX6_reduce_X6_isOrder : GoodIn wsX6_reduce (va_wsS RX6 136 yX6_isOrder wsX6_isOrder) := goodIn_app (goodIn_of _ (by decide +kernel)) ggX6_reduce_X6_isOrder
set_option maxRecDepth 20000 in
theorem ggX6_reduce_X6_findLeading : GoodIn wsX6_reduce wsX6_findLeading := goodIn_r _ [17, 2, 1, 18, 19, 20, 21, 22, 23, 24, 25, 26, 27, 28, 29, 30, 31, 32, 33, 34, 35, 36, 37, 38, 39, 40, 41, 84, 85, 86, 87, 88, 89] (by decide +kernel) (by decide +kernel)
set_option maxRecDepth 20000 in
theorem gX6_reduce_X6_findLeading : GoodIn wsX6_reduce (wsV RX6 142 RX6 yX6_findLeading wsX6_findLeading) := goodIn_app (goodIn_of _ (by decide +kernel)) ggX6_reduce_X6_findLeading
set_option maxRecDepth 20000 in
theorem ggX6_reduce_X2_monomialAt : GoodIn wsX6_reduce wsX2_monomialAt := goodIn_r _ [31, 32, 33, 20, 34, 35, 36, 37] (by decide +kernel) (by decide +kernel)
set_option maxRecDepth 20000 in
theorem gX6_reduce_X2_monomialAt : GoodIn wsX6_reduce (va_wsS RX6 146 yX2_monomialAt wsX2_monomialAt) := goodIn_app (goodIn_of _ (by decide +kernel)) ggX6_reduce_X2_monomialAt
set_option maxRecDepth 20000 in
theorem ggX6_reduce_X3_bit : GoodIn wsX6_reduce wsX3_bit := goodIn_r _ [41] (by decide +kernel) (by decide +kernel)
set_option maxRecDepth 20000 in
theorem gX6_reduce_X3_bit : GoodIn wsX6_reduce (va_wsS RX6 106 yX3_bit wsX3_bit) := goodIn_app (goodIn_of _ (by decide +kernel)) ggX6_reduce_X3_bit
set_option maxRecDepth 20000 in
theorem ggX6_reduce_X6_reducerOf : GoodIn wsX6_reduce wsX6_reducerOf := goodIn_r _ [47, 2, 48, 49, 6, 50, 84, 85, 86, 87, 88, 89] (by decide +kernel) (by decide +kernel)
set_option maxRecDepth 20000 in
theorem gX6_reduce_X6_reducerOf : GoodIn wsX6_reduce (wsV RX6 149 RX6 yX6_reducerOf wsX6_reducerOf) := goodIn_app (goodIn_of _ (by decide +kernel)) ggX6_reduce_X6_reducerOf
set_option maxRecDepth 20000 in
theorem ggX6_reduce_X3_ofMonomial : GoodIn wsX6_reduce wsX3_ofMonomial := goodIn_r _ [53] (by decide +kernel) (by decide +kernel)
set_option maxRecDepth 20000 in
theorem gX6_reduce_X3_ofMonomial : GoodIn wsX6_reduce (va_wsS RX6 58 yX3_ofMonomial wsX3_ofMonomial) := goodIn_app (goodIn_of _ (by decide +kernel)) ggX6_reduce_X3_ofMonomial
set_option maxRecDepth 20000 in
theorem ggX6_reduce_X3_multiplied : GoodIn wsX6_reduce wsX3_multiplied := goodIn_r _ [56, 57, 58, 40, 59, 60, 61, 62, 63, 64, 65, 66] (by decide +kernel) (by decide +kernel)
set_option maxRecDepth 20000 in
theorem gX6_reduce_X3_multiplied : GoodIn wsX6_reduce (va_wsS RX6 68 yX3_multiplied wsX3_multiplied) := goodIn_app (goodIn_of _ (by decide +kernel)) ggX6_reduce_X3_multiplied
set_option maxRecDepth 20000 in
theorem ggX6_reduce_X6_put : GoodIn wsX6_reduce wsX6_put := goodIn_r _ [70, 71, 1, 72, 73, 74, 75, 76, 77, 78, 79, 80, 81, 82, 4, 5, 6, 7, 83, 23, 24, 25, 26, 27, 28, 84, 85, 86, 87, 88, 89, 90, 91] (by decide +kernel) (by decide +kernel)
set_option maxRecDepth 20000 in
theorem gX6_reduce_X6_put : GoodIn wsX6_reduce (wsV RX6 64 RX6 yX6_put wsX6_put) := goodIn_app (goodIn_of _ (by decide +kernel)) ggX6_reduce_X6_put
theorem dX6_reduce_0 : decode cX6_reduce 0 = .ok (.iload_n 1, 1) := by decide +kernel
theorem dX6_reduce_1 : decode cX6_reduce 1 = .ok (.invokestatic 51, 3) := by decide +kernel
theorem dX6_reduce_4 : decode cX6_reduce 4 = .ok (.ifCond .eq 25, 3) := by decide +kernel
theorem dX6_reduce_7 : decode cX6_reduce 7 = .ok (.iload_n 2, 1) := by decide +kernel
theorem dX6_reduce_8 : decode cX6_reduce 8 = .ok (.invokestatic 139, 3) := by decide +kernel
theorem dX6_reduce_11 : decode cX6_reduce 11 = .ok (.ifCond .eq 18, 3) := by decide +kernel
theorem dX6_reduce_14 : decode cX6_reduce 14 = .ok (.iload_n 3, 1) := by decide +kernel
theorem dX6_reduce_15 : decode cX6_reduce 15 = .ok (.invokestatic 136, 3) := by decide +kernel
theorem dX6_reduce_18 : decode cX6_reduce 18 = .ok (.ifCond .eq 11, 3) := by decide +kernel
theorem dX6_reduce_21 : decode cX6_reduce 21 = .ok (.iload 4, 2) := by decide +kernel
theorem dX6_reduce_23 : decode cX6_reduce 23 = .ok (.invokestatic 51, 3) := by decide +kernel
theorem dX6_reduce_26 : decode cX6_reduce 26 = .ok (.ifCond .ne 5, 3) := by decide +kernel
theorem dX6_reduce_29 : decode cX6_reduce 29 = .ok (.iconst (-1), 1) := by decide +kernel
theorem dX6_reduce_30 : decode cX6_reduce 30 = .ok (.ireturn, 1) := by decide +kernel
theorem dX6_reduce_31 : decode cX6_reduce 31 = .ok (.aload_n 0, 1) := by decide +kernel
theorem dX6_reduce_32 : decode cX6_reduce 32 = .ok (.iload_n 3, 1) := by decide +kernel
theorem dX6_reduce_33 : decode cX6_reduce 33 = .ok (.invokevirtual 142, 3) := by decide +kernel
theorem dX6_reduce_36 : decode cX6_reduce 36 = .ok (.aload_n 0, 1) := by decide +kernel
theorem dX6_reduce_37 : decode cX6_reduce 37 = .ok (.getfield 9, 3) := by decide +kernel
theorem dX6_reduce_40 : decode cX6_reduce 40 = .ok (.iload_n 1, 1) := by decide +kernel
theorem dX6_reduce_41 : decode cX6_reduce 41 = .ok (.laload, 1) := by decide +kernel
theorem dX6_reduce_42 : decode cX6_reduce 42 = .ok (.lstore 5, 2) := by decide +kernel
theorem dX6_reduce_44 : decode cX6_reduce 44 = .ok (.iconst 0, 1) := by decide +kernel
theorem dX6_reduce_45 : decode cX6_reduce 45 = .ok (.istore 7, 2) := by decide +kernel
theorem dX6_reduce_47 : decode cX6_reduce 47 = .ok (.iconst 0, 1) := by decide +kernel
theorem dX6_reduce_48 : decode cX6_reduce 48 = .ok (.istore 8, 2) := by decide +kernel
theorem dX6_reduce_50 : decode cX6_reduce 50 = .ok (.iload 8, 2) := by decide +kernel
theorem dX6_reduce_52 : decode cX6_reduce 52 = .ok (.bipush 64, 2) := by decide +kernel
theorem dX6_reduce_54 : decode cX6_reduce 54 = .ok (.if_icmp .ge 91, 3) := by decide +kernel
theorem dX6_reduce_57 : decode cX6_reduce 57 = .ok (.iload_n 3, 1) := by decide +kernel
theorem dX6_reduce_58 : decode cX6_reduce 58 = .ok (.iload 8, 2) := by decide +kernel
theorem dX6_reduce_60 : decode cX6_reduce 60 = .ok (.invokestatic 146, 3) := by decide +kernel
theorem dX6_reduce_63 : decode cX6_reduce 63 = .ok (.istore 9, 2) := by decide +kernel
theorem dX6_reduce_65 : decode cX6_reduce 65 = .ok (.lload 5, 2) := by decide +kernel
theorem dX6_reduce_67 : decode cX6_reduce 67 = .ok (.iload 9, 2) := by decide +kernel
theorem dX6_reduce_69 : decode cX6_reduce 69 = .ok (.invokestatic 106, 3) := by decide +kernel
theorem dX6_reduce_72 : decode cX6_reduce 72 = .ok (.iconst 1, 1) := by decide +kernel
theorem dX6_reduce_73 : decode cX6_reduce 73 = .ok (.if_icmp .ne 13, 3) := by decide +kernel
theorem dX6_reduce_76 : decode cX6_reduce 76 = .ok (.aload_n 0, 1) := by decide +kernel
theorem dX6_reduce_77 : decode cX6_reduce 77 = .ok (.iload 9, 2) := by decide +kernel
theorem dX6_reduce_79 : decode cX6_reduce 79 = .ok (.iload_n 2, 1) := by decide +kernel
theorem dX6_reduce_80 : decode cX6_reduce 80 = .ok (.invokevirtual 149, 3) := by decide +kernel
theorem dX6_reduce_83 : decode cX6_reduce 83 = .ok (.goto 5, 3) := by decide +kernel
theorem dX6_reduce_86 : decode cX6_reduce 86 = .ok (.bipush (-4), 2) := by decide +kernel
theorem dX6_reduce_88 : decode cX6_reduce 88 = .ok (.istore 10, 2) := by decide +kernel
theorem dX6_reduce_90 : decode cX6_reduce 90 = .ok (.iload 10, 2) := by decide +kernel
theorem dX6_reduce_92 : decode cX6_reduce 92 = .ok (.invokestatic 51, 3) := by decide +kernel
theorem dX6_reduce_95 : decode cX6_reduce 95 = .ok (.ifCond .eq 44, 3) := by decide +kernel
theorem dX6_reduce_98 : decode cX6_reduce 98 = .ok (.iload 9, 2) := by decide +kernel
theorem dX6_reduce_100 : decode cX6_reduce 100 = .ok (.aload_n 0, 1) := by decide +kernel
theorem dX6_reduce_101 : decode cX6_reduce 101 = .ok (.getfield 13, 3) := by decide +kernel
theorem dX6_reduce_104 : decode cX6_reduce 104 = .ok (.iload 10, 2) := by decide +kernel
theorem dX6_reduce_106 : decode cX6_reduce 106 = .ok (.iaload, 1) := by decide +kernel
theorem dX6_reduce_107 : decode cX6_reduce 107 = .ok (.iconst (-1), 1) := by decide +kernel
theorem dX6_reduce_108 : decode cX6_reduce 108 = .ok (.ixor, 1) := by decide +kernel
theorem dX6_reduce_109 : decode cX6_reduce 109 = .ok (.iand, 1) := by decide +kernel
theorem dX6_reduce_110 : decode cX6_reduce 110 = .ok (.istore 11, 2) := by decide +kernel
theorem dX6_reduce_112 : decode cX6_reduce 112 = .ok (.lload 5, 2) := by decide +kernel
theorem dX6_reduce_114 : decode cX6_reduce 114 = .ok (.aload_n 0, 1) := by decide +kernel
theorem dX6_reduce_115 : decode cX6_reduce 115 = .ok (.getfield 9, 3) := by decide +kernel
theorem dX6_reduce_118 : decode cX6_reduce 118 = .ok (.iload 10, 2) := by decide +kernel
theorem dX6_reduce_120 : decode cX6_reduce 120 = .ok (.laload, 1) := by decide +kernel
theorem dX6_reduce_121 : decode cX6_reduce 121 = .ok (.iload 11, 2) := by decide +kernel
theorem dX6_reduce_123 : decode cX6_reduce 123 = .ok (.invokestatic 58, 3) := by decide +kernel
theorem dX6_reduce_126 : decode cX6_reduce 126 = .ok (.aload_n 0, 1) := by decide +kernel
theorem dX6_reduce_127 : decode cX6_reduce 127 = .ok (.getfield 38, 3) := by decide +kernel
theorem dX6_reduce_130 : decode cX6_reduce 130 = .ok (.invokestatic 68, 3) := by decide +kernel
theorem dX6_reduce_133 : decode cX6_reduce 133 = .ok (.lxor, 1) := by decide +kernel
theorem dX6_reduce_134 : decode cX6_reduce 134 = .ok (.lstore 5, 2) := by decide +kernel
theorem dX6_reduce_136 : decode cX6_reduce 136 = .ok (.iinc 7 1, 3) := by decide +kernel
theorem dX6_reduce_139 : decode cX6_reduce 139 = .ok (.iinc 8 1, 3) := by decide +kernel
theorem dX6_reduce_142 : decode cX6_reduce 142 = .ok (.goto (-92), 3) := by decide +kernel
theorem dX6_reduce_145 : decode cX6_reduce 145 = .ok (.aload_n 0, 1) := by decide +kernel
theorem dX6_reduce_146 : decode cX6_reduce 146 = .ok (.iload 4, 2) := by decide +kernel
theorem dX6_reduce_148 : decode cX6_reduce 148 = .ok (.lload 5, 2) := by decide +kernel
theorem dX6_reduce_150 : decode cX6_reduce 150 = .ok (.invokevirtual 64, 3) := by decide +kernel
theorem dX6_reduce_153 : decode cX6_reduce 153 = .ok (.pop, 1) := by decide +kernel
theorem dX6_reduce_154 : decode cX6_reduce 154 = .ok (.iload 7, 2) := by decide +kernel
theorem dX6_reduce_156 : decode cX6_reduce 156 = .ok (.ireturn, 1) := by decide +kernel
set_option maxRecDepth 20000 in
theorem ggX6_echelon_X6_isSet : GoodIn wsX6_echelon wsX6_isSet := goodIn_r _ [6] (by decide +kernel) (by decide +kernel)
set_option maxRecDepth 20000 in
theorem gX6_echelon_X6_isSet : GoodIn wsX6_echelon (va_wsS RX6 139 yX6_isSet wsX6_isSet) := goodIn_app (goodIn_of _ (by decide +kernel)) ggX6_echelon_X6_isSet
set_option maxRecDepth 20000 in
theorem ggX6_echelon_X6_isOrder : GoodIn wsX6_echelon wsX6_isOrder := goodIn_r _ [9] (by decide +kernel) (by decide +kernel)
set_option maxRecDepth 20000 in
theorem gX6_echelon_X6_isOrder : GoodIn wsX6_echelon (va_wsS RX6 136 yX6_isOrder wsX6_isOrder) := goodIn_app (goodIn_of _ (by decide +kernel)) ggX6_echelon_X6_isOrder
set_option maxRecDepth 20000 in
theorem ggX6_echelon_X1_keep : GoodIn wsX6_echelon wsX1_keep := goodIn_r _ [14, 15, 16, 17, 18, 19, 20, 58, 59] (by decide +kernel) (by decide +kernel)
set_option maxRecDepth 20000 in
theorem gX6_echelon_X1_keep : GoodIn wsX6_echelon (wsV RX6 152 RX1 yX1_keep wsX1_keep) := goodIn_app (goodIn_of _ (by decide +kernel)) ggX6_echelon_X1_keep
set_option maxRecDepth 20000 in
theorem ggX6_echelon_X6_nextOf : GoodIn wsX6_echelon wsX6_nextOf := goodIn_r _ [23, 24, 25, 5, 26] (by decide +kernel) (by decide +kernel)
set_option maxRecDepth 20000 in
theorem gX6_echelon_X6_nextOf : GoodIn wsX6_echelon (va_wsS RX6 156 yX6_nextOf wsX6_nextOf) := goodIn_app (goodIn_of _ (by decide +kernel)) ggX6_echelon_X6_nextOf
set_option maxRecDepth 20000 in
theorem ggX6_echelon_X2_monomialAt : GoodIn wsX6_echelon wsX2_monomialAt := goodIn_r _ [30, 31, 32, 29, 33, 34, 35, 36] (by decide +kernel) (by decide +kernel)
set_option maxRecDepth 20000 in
theorem gX6_echelon_X2_monomialAt : GoodIn wsX6_echelon (va_wsS RX6 146 yX2_monomialAt wsX2_monomialAt) := goodIn_app (goodIn_of _ (by decide +kernel)) ggX6_echelon_X2_monomialAt
set_option maxRecDepth 20000 in
theorem ggX6_echelon_X6_bringUp : GoodIn wsX6_echelon wsX6_bringUp := goodIn_r _ [40, 2, 41, 42, 5, 43, 24, 25, 26, 44, 45, 46, 47, 52, 53, 54, 55, 56, 57] (by decide +kernel) (by decide +kernel)
set_option maxRecDepth 20000 in
theorem gX6_echelon_X6_bringUp : GoodIn wsX6_echelon (wsV RX6 159 RX6 yX6_bringUp wsX6_bringUp) := goodIn_app (goodIn_of _ (by decide +kernel)) ggX6_echelon_X6_bringUp
set_option maxRecDepth 20000 in
theorem ggX6_echelon_X6_clearElsewhere : GoodIn wsX6_echelon wsX6_clearElsewhere := goodIn_r _ [51, 2, 41, 42, 5, 43, 24, 25, 26, 44, 45, 46, 47, 52, 53, 54, 55, 56, 57] (by decide +kernel) (by decide +kernel)
set_option maxRecDepth 20000 in
theorem gX6_echelon_X6_clearElsewhere : GoodIn wsX6_echelon (wsV RX6 163 RX6 yX6_clearElsewhere wsX6_clearElsewhere) := goodIn_app (goodIn_of _ (by decide +kernel)) ggX6_echelon_X6_clearElsewhere
theorem dX6_echelon_0 : decode cX6_echelon 0 = .ok (.iload_n 1, 1) := by decide +kernel
theorem dX6_echelon_1 : decode cX6_echelon 1 = .ok (.invokestatic 139, 3) := by decide +kernel
theorem dX6_echelon_4 : decode cX6_echelon 4 = .ok (.ifCond .eq 10, 3) := by decide +kernel
theorem dX6_echelon_7 : decode cX6_echelon 7 = .ok (.iload_n 2, 1) := by decide +kernel
theorem dX6_echelon_8 : decode cX6_echelon 8 = .ok (.invokestatic 136, 3) := by decide +kernel
theorem dX6_echelon_11 : decode cX6_echelon 11 = .ok (.ifCond .ne 5, 3) := by decide +kernel
theorem dX6_echelon_14 : decode cX6_echelon 14 = .ok (.iconst (-1), 1) := by decide +kernel
theorem dX6_echelon_15 : decode cX6_echelon 15 = .ok (.ireturn, 1) := by decide +kernel
theorem dX6_echelon_16 : decode cX6_echelon 16 = .ok (.aload_n 0, 1) := by decide +kernel
theorem dX6_echelon_17 : decode cX6_echelon 17 = .ok (.getfield 20, 3) := by decide +kernel
theorem dX6_echelon_20 : decode cX6_echelon 20 = .ok (.aload_n 0, 1) := by decide +kernel
theorem dX6_echelon_21 : decode cX6_echelon 21 = .ok (.getfield 9, 3) := by decide +kernel
theorem dX6_echelon_24 : decode cX6_echelon 24 = .ok (.invokevirtual 152, 3) := by decide +kernel
theorem dX6_echelon_27 : decode cX6_echelon 27 = .ok (.iload_n 1, 1) := by decide +kernel
theorem dX6_echelon_28 : decode cX6_echelon 28 = .ok (.iconst 0, 1) := by decide +kernel
theorem dX6_echelon_29 : decode cX6_echelon 29 = .ok (.invokestatic 156, 3) := by decide +kernel
theorem dX6_echelon_32 : decode cX6_echelon 32 = .ok (.istore_n 3, 1) := by decide +kernel
theorem dX6_echelon_33 : decode cX6_echelon 33 = .ok (.iconst 0, 1) := by decide +kernel
theorem dX6_echelon_34 : decode cX6_echelon 34 = .ok (.istore 4, 2) := by decide +kernel
theorem dX6_echelon_36 : decode cX6_echelon 36 = .ok (.iconst 0, 1) := by decide +kernel
theorem dX6_echelon_37 : decode cX6_echelon 37 = .ok (.istore 5, 2) := by decide +kernel
theorem dX6_echelon_39 : decode cX6_echelon 39 = .ok (.iload 5, 2) := by decide +kernel
theorem dX6_echelon_41 : decode cX6_echelon 41 = .ok (.bipush 64, 2) := by decide +kernel
theorem dX6_echelon_43 : decode cX6_echelon 43 = .ok (.if_icmp .ge 53, 3) := by decide +kernel
theorem dX6_echelon_46 : decode cX6_echelon 46 = .ok (.iload_n 3, 1) := by decide +kernel
theorem dX6_echelon_47 : decode cX6_echelon 47 = .ok (.bipush 8, 2) := by decide +kernel
theorem dX6_echelon_49 : decode cX6_echelon 49 = .ok (.if_icmp .ge 47, 3) := by decide +kernel
theorem dX6_echelon_52 : decode cX6_echelon 52 = .ok (.iload_n 2, 1) := by decide +kernel
theorem dX6_echelon_53 : decode cX6_echelon 53 = .ok (.iload 5, 2) := by decide +kernel
theorem dX6_echelon_55 : decode cX6_echelon 55 = .ok (.invokestatic 146, 3) := by decide +kernel
theorem dX6_echelon_58 : decode cX6_echelon 58 = .ok (.istore 6, 2) := by decide +kernel
theorem dX6_echelon_60 : decode cX6_echelon 60 = .ok (.aload_n 0, 1) := by decide +kernel
theorem dX6_echelon_61 : decode cX6_echelon 61 = .ok (.iload_n 1, 1) := by decide +kernel
theorem dX6_echelon_62 : decode cX6_echelon 62 = .ok (.iload_n 3, 1) := by decide +kernel
theorem dX6_echelon_63 : decode cX6_echelon 63 = .ok (.iload 6, 2) := by decide +kernel
theorem dX6_echelon_65 : decode cX6_echelon 65 = .ok (.invokevirtual 159, 3) := by decide +kernel
theorem dX6_echelon_68 : decode cX6_echelon 68 = .ok (.ifCond .eq 22, 3) := by decide +kernel
theorem dX6_echelon_71 : decode cX6_echelon 71 = .ok (.aload_n 0, 1) := by decide +kernel
theorem dX6_echelon_72 : decode cX6_echelon 72 = .ok (.iload_n 1, 1) := by decide +kernel
theorem dX6_echelon_73 : decode cX6_echelon 73 = .ok (.iload_n 3, 1) := by decide +kernel
theorem dX6_echelon_74 : decode cX6_echelon 74 = .ok (.iload 6, 2) := by decide +kernel
theorem dX6_echelon_76 : decode cX6_echelon 76 = .ok (.invokevirtual 163, 3) := by decide +kernel
theorem dX6_echelon_79 : decode cX6_echelon 79 = .ok (.iload_n 1, 1) := by decide +kernel
theorem dX6_echelon_80 : decode cX6_echelon 80 = .ok (.iload_n 3, 1) := by decide +kernel
theorem dX6_echelon_81 : decode cX6_echelon 81 = .ok (.iconst 1, 1) := by decide +kernel
theorem dX6_echelon_82 : decode cX6_echelon 82 = .ok (.iadd, 1) := by decide +kernel
theorem dX6_echelon_83 : decode cX6_echelon 83 = .ok (.invokestatic 156, 3) := by decide +kernel
theorem dX6_echelon_86 : decode cX6_echelon 86 = .ok (.istore_n 3, 1) := by decide +kernel
theorem dX6_echelon_87 : decode cX6_echelon 87 = .ok (.iinc 4 1, 3) := by decide +kernel
theorem dX6_echelon_90 : decode cX6_echelon 90 = .ok (.iinc 5 1, 3) := by decide +kernel
theorem dX6_echelon_93 : decode cX6_echelon 93 = .ok (.goto (-54), 3) := by decide +kernel
theorem dX6_echelon_96 : decode cX6_echelon 96 = .ok (.iload 4, 2) := by decide +kernel
theorem dX6_echelon_98 : decode cX6_echelon 98 = .ok (.ireturn, 1) := by decide +kernel
set_option maxRecDepth 20000 in
theorem ggX6_zeros_X6_isSet : GoodIn wsX6_zeros wsX6_isSet := goodIn_r _ [4] (by decide +kernel) (by decide +kernel)
set_option maxRecDepth 20000 in
theorem gX6_zeros_X6_isSet : GoodIn wsX6_zeros (va_wsS RX6 139 yX6_isSet wsX6_isSet) := goodIn_app (goodIn_of _ (by decide +kernel)) ggX6_zeros_X6_isSet
set_option maxRecDepth 20000 in
theorem ggX6_zeros_X6_commonZeros : GoodIn wsX6_zeros wsX6_commonZeros := goodIn_r _ [8, 9, 10, 11, 12, 3, 13, 14, 15, 16, 17, 18, 19, 20, 21, 22, 23, 24, 25, 26, 27, 28, 29, 30, 31, 32, 33, 41, 42, 43, 44, 45, 46] (by decide +kernel) (by decide +kernel)
set_option maxRecDepth 20000 in
theorem gX6_zeros_X6_commonZeros : GoodIn wsX6_zeros (wsV RX6 167 RX6 yX6_commonZeros wsX6_commonZeros) := goodIn_app (goodIn_of _ (by decide +kernel)) ggX6_zeros_X6_commonZeros
set_option maxRecDepth 20000 in
theorem ggX6_zeros_J13_bitCount_95d88 : GoodIn wsX6_zeros wsJ13_bitCount_95d88 := goodIn_r _ [37, 38, 39, 40] (by decide +kernel) (by decide +kernel)
set_option maxRecDepth 20000 in
theorem gX6_zeros_J13_bitCount_95d88 : GoodIn wsX6_zeros (va_wsS RX6 110 yJ13_bitCount_95d88 wsJ13_bitCount_95d88) := goodIn_app (goodIn_of _ (by decide +kernel)) ggX6_zeros_J13_bitCount_95d88
theorem dX6_zeros_0 : decode cX6_zeros 0 = .ok (.iload_n 1, 1) := by decide +kernel
theorem dX6_zeros_1 : decode cX6_zeros 1 = .ok (.invokestatic 139, 3) := by decide +kernel
theorem dX6_zeros_4 : decode cX6_zeros 4 = .ok (.ifCond .ne 5, 3) := by decide +kernel
theorem dX6_zeros_7 : decode cX6_zeros 7 = .ok (.iconst (-1), 1) := by decide +kernel
theorem dX6_zeros_8 : decode cX6_zeros 8 = .ok (.ireturn, 1) := by decide +kernel
theorem dX6_zeros_9 : decode cX6_zeros 9 = .ok (.aload_n 0, 1) := by decide +kernel
theorem dX6_zeros_10 : decode cX6_zeros 10 = .ok (.iload_n 1, 1) := by decide +kernel
theorem dX6_zeros_11 : decode cX6_zeros 11 = .ok (.invokevirtual 167, 3) := by decide +kernel
theorem dX6_zeros_14 : decode cX6_zeros 14 = .ok (.invokestatic 110, 3) := by decide +kernel
theorem dX6_zeros_17 : decode cX6_zeros 17 = .ok (.ireturn, 1) := by decide +kernel
set_option maxRecDepth 20000 in
theorem ggX6_zeroAt_X6_isSet : GoodIn wsX6_zeroAt wsX6_isSet := goodIn_r _ [4] (by decide +kernel) (by decide +kernel)
set_option maxRecDepth 20000 in
theorem gX6_zeroAt_X6_isSet : GoodIn wsX6_zeroAt (va_wsS RX6 139 yX6_isSet wsX6_isSet) := goodIn_app (goodIn_of _ (by decide +kernel)) ggX6_zeroAt_X6_isSet
set_option maxRecDepth 20000 in
theorem ggX6_zeroAt_X6_commonZeros : GoodIn wsX6_zeroAt wsX6_commonZeros := goodIn_r _ [8, 9, 10, 11, 12, 3, 13, 14, 15, 16, 17, 18, 19, 20, 21, 22, 23, 24, 25, 26, 27, 28, 29, 30, 31, 32, 33, 37, 38, 39, 40, 41, 42] (by decide +kernel) (by decide +kernel)
set_option maxRecDepth 20000 in
theorem gX6_zeroAt_X6_commonZeros : GoodIn wsX6_zeroAt (wsV RX6 167 RX6 yX6_commonZeros wsX6_commonZeros) := goodIn_app (goodIn_of _ (by decide +kernel)) ggX6_zeroAt_X6_commonZeros
set_option maxRecDepth 20000 in
theorem ggX6_zeroAt_X3_bit : GoodIn wsX6_zeroAt wsX3_bit := goodIn_r _ [36] (by decide +kernel) (by decide +kernel)
set_option maxRecDepth 20000 in
theorem gX6_zeroAt_X3_bit : GoodIn wsX6_zeroAt (va_wsS RX6 106 yX3_bit wsX3_bit) := goodIn_app (goodIn_of _ (by decide +kernel)) ggX6_zeroAt_X3_bit
theorem dX6_zeroAt_0 : decode cX6_zeroAt 0 = .ok (.iload_n 1, 1) := by decide +kernel
theorem dX6_zeroAt_1 : decode cX6_zeroAt 1 = .ok (.invokestatic 139, 3) := by decide +kernel
theorem dX6_zeroAt_4 : decode cX6_zeroAt 4 = .ok (.ifCond .eq 7, 3) := by decide +kernel
theorem dX6_zeroAt_7 : decode cX6_zeroAt 7 = .ok (.iload_n 2, 1) := by decide +kernel
theorem dX6_zeroAt_8 : decode cX6_zeroAt 8 = .ok (.ifCond .ge 5, 3) := by decide +kernel
theorem dX6_zeroAt_11 : decode cX6_zeroAt 11 = .ok (.iconst (-1), 1) := by decide +kernel
theorem dX6_zeroAt_12 : decode cX6_zeroAt 12 = .ok (.ireturn, 1) := by decide +kernel
theorem dX6_zeroAt_13 : decode cX6_zeroAt 13 = .ok (.aload_n 0, 1) := by decide +kernel
theorem dX6_zeroAt_14 : decode cX6_zeroAt 14 = .ok (.iload_n 1, 1) := by decide +kernel
theorem dX6_zeroAt_15 : decode cX6_zeroAt 15 = .ok (.invokevirtual 167, 3) := by decide +kernel
theorem dX6_zeroAt_18 : decode cX6_zeroAt 18 = .ok (.lstore_n 3, 1) := by decide +kernel
theorem dX6_zeroAt_19 : decode cX6_zeroAt 19 = .ok (.iload_n 2, 1) := by decide +kernel
theorem dX6_zeroAt_20 : decode cX6_zeroAt 20 = .ok (.istore 5, 2) := by decide +kernel
theorem dX6_zeroAt_22 : decode cX6_zeroAt 22 = .ok (.iconst 0, 1) := by decide +kernel
theorem dX6_zeroAt_23 : decode cX6_zeroAt 23 = .ok (.istore 6, 2) := by decide +kernel
theorem dX6_zeroAt_25 : decode cX6_zeroAt 25 = .ok (.iload 6, 2) := by decide +kernel
theorem dX6_zeroAt_27 : decode cX6_zeroAt 27 = .ok (.bipush 64, 2) := by decide +kernel
theorem dX6_zeroAt_29 : decode cX6_zeroAt 29 = .ok (.if_icmp .ge 30, 3) := by decide +kernel
theorem dX6_zeroAt_32 : decode cX6_zeroAt 32 = .ok (.lload_n 3, 1) := by decide +kernel
theorem dX6_zeroAt_33 : decode cX6_zeroAt 33 = .ok (.iload 6, 2) := by decide +kernel
theorem dX6_zeroAt_35 : decode cX6_zeroAt 35 = .ok (.invokestatic 106, 3) := by decide +kernel
theorem dX6_zeroAt_38 : decode cX6_zeroAt 38 = .ok (.iconst 1, 1) := by decide +kernel
theorem dX6_zeroAt_39 : decode cX6_zeroAt 39 = .ok (.if_icmp .ne 14, 3) := by decide +kernel
theorem dX6_zeroAt_42 : decode cX6_zeroAt 42 = .ok (.iload 5, 2) := by decide +kernel
theorem dX6_zeroAt_44 : decode cX6_zeroAt 44 = .ok (.ifCond .ne 6, 3) := by decide +kernel
theorem dX6_zeroAt_47 : decode cX6_zeroAt 47 = .ok (.iload 6, 2) := by decide +kernel
theorem dX6_zeroAt_49 : decode cX6_zeroAt 49 = .ok (.ireturn, 1) := by decide +kernel
theorem dX6_zeroAt_50 : decode cX6_zeroAt 50 = .ok (.iinc 5 (-1), 3) := by decide +kernel
theorem dX6_zeroAt_53 : decode cX6_zeroAt 53 = .ok (.iinc 6 1, 3) := by decide +kernel
theorem dX6_zeroAt_56 : decode cX6_zeroAt 56 = .ok (.goto (-31), 3) := by decide +kernel
theorem dX6_zeroAt_59 : decode cX6_zeroAt 59 = .ok (.bipush (-4), 2) := by decide +kernel
theorem dX6_zeroAt_61 : decode cX6_zeroAt 61 = .ok (.ireturn, 1) := by decide +kernel
set_option maxRecDepth 20000 in
theorem ggX6_combine_X6_isSet : GoodIn wsX6_combine wsX6_isSet := goodIn_r _ [5] (by decide +kernel) (by decide +kernel)
set_option maxRecDepth 20000 in
theorem gX6_combine_X6_isSet : GoodIn wsX6_combine (va_wsS RX6 139 yX6_isSet wsX6_isSet) := goodIn_app (goodIn_of _ (by decide +kernel)) ggX6_combine_X6_isSet
set_option maxRecDepth 20000 in
theorem ggX6_combine_X6_isRegister : GoodIn wsX6_combine wsX6_isRegister := goodIn_r _ [8] (by decide +kernel) (by decide +kernel)
set_option maxRecDepth 20000 in
theorem gX6_combine_X6_isRegister : GoodIn wsX6_combine (va_wsS RX6 51 yX6_isRegister wsX6_isRegister) := goodIn_app (goodIn_of _ (by decide +kernel)) ggX6_combine_X6_isRegister
set_option maxRecDepth 20000 in
theorem ggX6_combine_X6_nonZeros : GoodIn wsX6_combine wsX6_nonZeros := goodIn_r _ [12, 13, 1, 14, 15, 4, 16, 17, 18, 19, 20, 21, 22, 23, 24, 25, 26, 27, 51, 52, 53, 54, 55, 56] (by decide +kernel) (by decide +kernel)
set_option maxRecDepth 20000 in
theorem gX6_combine_X6_nonZeros : GoodIn wsX6_combine (wsV RX6 170 RX6 yX6_nonZeros wsX6_nonZeros) := goodIn_app (goodIn_of _ (by decide +kernel)) ggX6_combine_X6_nonZeros
set_option maxRecDepth 20000 in
theorem ggX6_combine_X3_transformed : GoodIn wsX6_combine wsX3_transformed := goodIn_r _ [20, 21, 22, 19, 23, 24, 25, 26, 27] (by decide +kernel) (by decide +kernel)
set_option maxRecDepth 20000 in
theorem gX6_combine_X3_transformed : GoodIn wsX6_combine (va_wsS RX6 82 yX3_transformed wsX3_transformed) := goodIn_app (goodIn_of _ (by decide +kernel)) ggX6_combine_X3_transformed
set_option maxRecDepth 20000 in
theorem ggX6_combine_X6_put : GoodIn wsX6_combine wsX6_put := goodIn_r _ [31, 32, 13, 33, 34, 35, 36, 37, 38, 39, 40, 41, 42, 43, 6, 7, 4, 8, 44, 45, 46, 47, 48, 49, 50, 51, 52, 53, 54, 55, 56, 57, 58] (by decide +kernel) (by decide +kernel)
set_option maxRecDepth 20000 in
theorem gX6_combine_X6_put : GoodIn wsX6_combine (wsV RX6 64 RX6 yX6_put wsX6_put) := goodIn_app (goodIn_of _ (by decide +kernel)) ggX6_combine_X6_put
theorem dX6_combine_0 : decode cX6_combine 0 = .ok (.iload_n 1, 1) := by decide +kernel
theorem dX6_combine_1 : decode cX6_combine 1 = .ok (.invokestatic 139, 3) := by decide +kernel
theorem dX6_combine_4 : decode cX6_combine 4 = .ok (.ifCond .eq 10, 3) := by decide +kernel
theorem dX6_combine_7 : decode cX6_combine 7 = .ok (.iload_n 2, 1) := by decide +kernel
theorem dX6_combine_8 : decode cX6_combine 8 = .ok (.invokestatic 51, 3) := by decide +kernel
theorem dX6_combine_11 : decode cX6_combine 11 = .ok (.ifCond .ne 5, 3) := by decide +kernel
theorem dX6_combine_14 : decode cX6_combine 14 = .ok (.iconst (-1), 1) := by decide +kernel
theorem dX6_combine_15 : decode cX6_combine 15 = .ok (.ireturn, 1) := by decide +kernel
theorem dX6_combine_16 : decode cX6_combine 16 = .ok (.aload_n 0, 1) := by decide +kernel
theorem dX6_combine_17 : decode cX6_combine 17 = .ok (.iload_n 2, 1) := by decide +kernel
theorem dX6_combine_18 : decode cX6_combine 18 = .ok (.aload_n 0, 1) := by decide +kernel
theorem dX6_combine_19 : decode cX6_combine 19 = .ok (.iload_n 1, 1) := by decide +kernel
theorem dX6_combine_20 : decode cX6_combine 20 = .ok (.invokevirtual 170, 3) := by decide +kernel
theorem dX6_combine_23 : decode cX6_combine 23 = .ok (.aload_n 0, 1) := by decide +kernel
theorem dX6_combine_24 : decode cX6_combine 24 = .ok (.getfield 38, 3) := by decide +kernel
theorem dX6_combine_27 : decode cX6_combine 27 = .ok (.invokestatic 82, 3) := by decide +kernel
theorem dX6_combine_30 : decode cX6_combine 30 = .ok (.invokevirtual 64, 3) := by decide +kernel
theorem dX6_combine_33 : decode cX6_combine 33 = .ok (.ireturn, 1) := by decide +kernel
set_option maxRecDepth 20000 in
theorem ggX6_eliminate_X6_isSet : GoodIn wsX6_eliminate wsX6_isSet := goodIn_r _ [5] (by decide +kernel) (by decide +kernel)
set_option maxRecDepth 20000 in
theorem gX6_eliminate_X6_isSet : GoodIn wsX6_eliminate (va_wsS RX6 139 yX6_isSet wsX6_isSet) := goodIn_app (goodIn_of _ (by decide +kernel)) ggX6_eliminate_X6_isSet
set_option maxRecDepth 20000 in
theorem ggX6_eliminate_X6_isVariable : GoodIn wsX6_eliminate wsX6_isVariable := goodIn_r _ [9, 1, 62, 63, 64, 65, 66, 67] (by decide +kernel) (by decide +kernel)
set_option maxRecDepth 20000 in
theorem gX6_eliminate_X6_isVariable : GoodIn wsX6_eliminate (wsV RX6 72 RX6 yX6_isVariable wsX6_isVariable) := goodIn_app (goodIn_of _ (by decide +kernel)) ggX6_eliminate_X6_isVariable
set_option maxRecDepth 20000 in
theorem ggX6_eliminate_X6_isRegister : GoodIn wsX6_eliminate wsX6_isRegister := goodIn_r _ [12] (by decide +kernel) (by decide +kernel)
set_option maxRecDepth 20000 in
theorem gX6_eliminate_X6_isRegister : GoodIn wsX6_eliminate (va_wsS RX6 51 yX6_isRegister wsX6_isRegister) := goodIn_app (goodIn_of _ (by decide +kernel)) ggX6_eliminate_X6_isRegister
set_option maxRecDepth 20000 in
theorem ggX6_eliminate_X6_nonZeros : GoodIn wsX6_eliminate wsX6_nonZeros := goodIn_r _ [16, 17, 1, 18, 19, 4, 20, 21, 22, 23, 24, 25, 26, 27, 28, 29, 30, 31, 62, 63, 64, 65, 66, 67] (by decide +kernel) (by decide +kernel)
set_option maxRecDepth 20000 in
theorem gX6_eliminate_X6_nonZeros : GoodIn wsX6_eliminate (wsV RX6 170 RX6 yX6_nonZeros wsX6_nonZeros) := goodIn_app (goodIn_of _ (by decide +kernel)) ggX6_eliminate_X6_nonZeros
set_option maxRecDepth 20000 in
theorem ggX6_eliminate_X3_lowerHalf : GoodIn wsX6_eliminate wsX3_lowerHalf := goodIn_r _ [34, 28, 29, 23, 30, 31] (by decide +kernel) (by decide +kernel)
set_option maxRecDepth 20000 in
theorem gX6_eliminate_X3_lowerHalf : GoodIn wsX6_eliminate (va_wsS RX6 75 yX3_lowerHalf wsX3_lowerHalf) := goodIn_app (goodIn_of _ (by decide +kernel)) ggX6_eliminate_X3_lowerHalf
set_option maxRecDepth 20000 in
theorem ggX6_eliminate_X3_upperHalf : GoodIn wsX6_eliminate wsX3_upperHalf := goodIn_r _ [37, 28, 29, 23, 30, 31] (by decide +kernel) (by decide +kernel)
set_option maxRecDepth 20000 in
theorem gX6_eliminate_X3_upperHalf : GoodIn wsX6_eliminate (va_wsS RX6 79 yX3_upperHalf wsX3_upperHalf) := goodIn_app (goodIn_of _ (by decide +kernel)) ggX6_eliminate_X3_upperHalf
set_option maxRecDepth 20000 in
theorem ggX6_eliminate_X3_raised : GoodIn wsX6_eliminate wsX3_raised := goodIn_r _ [27, 28, 29, 23, 30, 31] (by decide +kernel) (by decide +kernel)
set_option maxRecDepth 20000 in
theorem gX6_eliminate_X3_raised : GoodIn wsX6_eliminate (va_wsS RX6 173 yX3_raised wsX3_raised) := goodIn_app (goodIn_of _ (by decide +kernel)) ggX6_eliminate_X3_raised
set_option maxRecDepth 20000 in
theorem ggX6_eliminate_X3_transformed : GoodIn wsX6_eliminate wsX3_transformed := goodIn_r _ [24, 25, 26, 23, 27, 28, 29, 30, 31] (by decide +kernel) (by decide +kernel)
set_option maxRecDepth 20000 in
theorem gX6_eliminate_X3_transformed : GoodIn wsX6_eliminate (va_wsS RX6 82 yX3_transformed wsX3_transformed) := goodIn_app (goodIn_of _ (by decide +kernel)) ggX6_eliminate_X3_transformed
set_option maxRecDepth 20000 in
theorem ggX6_eliminate_X6_put : GoodIn wsX6_eliminate wsX6_put := goodIn_r _ [42, 43, 17, 44, 45, 46, 47, 48, 49, 50, 51, 52, 53, 54, 10, 11, 4, 12, 55, 56, 57, 58, 59, 60, 61, 62, 63, 64, 65, 66, 67, 68, 69] (by decide +kernel) (by decide +kernel)
set_option maxRecDepth 20000 in
theorem gX6_eliminate_X6_put : GoodIn wsX6_eliminate (wsV RX6 64 RX6 yX6_put wsX6_put) := goodIn_app (goodIn_of _ (by decide +kernel)) ggX6_eliminate_X6_put
