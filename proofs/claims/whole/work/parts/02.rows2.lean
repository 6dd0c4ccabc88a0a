theorem dX6_eliminate_0 : decode cX6_eliminate 0 = .ok (.iload_n 1, 1) := by decide +kernel
theorem dX6_eliminate_1 : decode cX6_eliminate 1 = .ok (.invokestatic 139, 3) := by decide +kernel
theorem dX6_eliminate_4 : decode cX6_eliminate 4 = .ok (.ifCond .eq 18, 3) := by decide +kernel
theorem dX6_eliminate_7 : decode cX6_eliminate 7 = .ok (.aload_n 0, 1) := by decide +kernel
theorem dX6_eliminate_8 : decode cX6_eliminate 8 = .ok (.iload_n 2, 1) := by decide +kernel
theorem dX6_eliminate_9 : decode cX6_eliminate 9 = .ok (.invokevirtual 72, 3) := by decide +kernel
theorem dX6_eliminate_12 : decode cX6_eliminate 12 = .ok (.ifCond .eq 10, 3) := by decide +kernel
theorem dX6_eliminate_15 : decode cX6_eliminate 15 = .ok (.iload_n 3, 1) := by decide +kernel
theorem dX6_eliminate_16 : decode cX6_eliminate 16 = .ok (.invokestatic 51, 3) := by decide +kernel
theorem dX6_eliminate_19 : decode cX6_eliminate 19 = .ok (.ifCond .ne 5, 3) := by decide +kernel
theorem dX6_eliminate_22 : decode cX6_eliminate 22 = .ok (.iconst (-1), 1) := by decide +kernel
theorem dX6_eliminate_23 : decode cX6_eliminate 23 = .ok (.ireturn, 1) := by decide +kernel
theorem dX6_eliminate_24 : decode cX6_eliminate 24 = .ok (.aload_n 0, 1) := by decide +kernel
theorem dX6_eliminate_25 : decode cX6_eliminate 25 = .ok (.iload_n 1, 1) := by decide +kernel
theorem dX6_eliminate_26 : decode cX6_eliminate 26 = .ok (.invokevirtual 170, 3) := by decide +kernel
theorem dX6_eliminate_29 : decode cX6_eliminate 29 = .ok (.lstore 4, 2) := by decide +kernel
theorem dX6_eliminate_31 : decode cX6_eliminate 31 = .ok (.lload 4, 2) := by decide +kernel
theorem dX6_eliminate_33 : decode cX6_eliminate 33 = .ok (.iload_n 2, 1) := by decide +kernel
theorem dX6_eliminate_34 : decode cX6_eliminate 34 = .ok (.invokestatic 75, 3) := by decide +kernel
theorem dX6_eliminate_37 : decode cX6_eliminate 37 = .ok (.lload 4, 2) := by decide +kernel
theorem dX6_eliminate_39 : decode cX6_eliminate 39 = .ok (.iload_n 2, 1) := by decide +kernel
theorem dX6_eliminate_40 : decode cX6_eliminate 40 = .ok (.invokestatic 79, 3) := by decide +kernel
theorem dX6_eliminate_43 : decode cX6_eliminate 43 = .ok (.land, 1) := by decide +kernel
theorem dX6_eliminate_44 : decode cX6_eliminate 44 = .ok (.lstore 6, 2) := by decide +kernel
theorem dX6_eliminate_46 : decode cX6_eliminate 46 = .ok (.lload 6, 2) := by decide +kernel
theorem dX6_eliminate_48 : decode cX6_eliminate 48 = .ok (.lload 6, 2) := by decide +kernel
theorem dX6_eliminate_50 : decode cX6_eliminate 50 = .ok (.iload_n 2, 1) := by decide +kernel
theorem dX6_eliminate_51 : decode cX6_eliminate 51 = .ok (.invokestatic 173, 3) := by decide +kernel
theorem dX6_eliminate_54 : decode cX6_eliminate 54 = .ok (.lor, 1) := by decide +kernel
theorem dX6_eliminate_55 : decode cX6_eliminate 55 = .ok (.lstore 8, 2) := by decide +kernel
theorem dX6_eliminate_57 : decode cX6_eliminate 57 = .ok (.aload_n 0, 1) := by decide +kernel
theorem dX6_eliminate_58 : decode cX6_eliminate 58 = .ok (.iload_n 3, 1) := by decide +kernel
theorem dX6_eliminate_59 : decode cX6_eliminate 59 = .ok (.lload 8, 2) := by decide +kernel
theorem dX6_eliminate_61 : decode cX6_eliminate 61 = .ok (.aload_n 0, 1) := by decide +kernel
theorem dX6_eliminate_62 : decode cX6_eliminate 62 = .ok (.getfield 38, 3) := by decide +kernel
theorem dX6_eliminate_65 : decode cX6_eliminate 65 = .ok (.invokestatic 82, 3) := by decide +kernel
theorem dX6_eliminate_68 : decode cX6_eliminate 68 = .ok (.invokevirtual 64, 3) := by decide +kernel
theorem dX6_eliminate_71 : decode cX6_eliminate 71 = .ok (.ireturn, 1) := by decide +kernel
set_option maxRecDepth 20000 in
theorem ggX6_fibres_X6_isSet : GoodIn wsX6_fibres wsX6_isSet := goodIn_r _ [5] (by decide +kernel) (by decide +kernel)
set_option maxRecDepth 20000 in
theorem gX6_fibres_X6_isSet : GoodIn wsX6_fibres (va_wsS RX6 139 yX6_isSet wsX6_isSet) := goodIn_app (goodIn_of _ (by decide +kernel)) ggX6_fibres_X6_isSet
set_option maxRecDepth 20000 in
theorem ggX6_fibres_X6_isVariable : GoodIn wsX6_fibres wsX6_isVariable := goodIn_r _ [9, 10, 51, 52, 53, 54, 55, 56] (by decide +kernel) (by decide +kernel)
set_option maxRecDepth 20000 in
theorem gX6_fibres_X6_isVariable : GoodIn wsX6_fibres (wsV RX6 72 RX6 yX6_isVariable wsX6_isVariable) := goodIn_app (goodIn_of _ (by decide +kernel)) ggX6_fibres_X6_isVariable
set_option maxRecDepth 20000 in
theorem ggX6_fibres_X6_commonZeros : GoodIn wsX6_fibres wsX6_commonZeros := goodIn_r _ [14, 1, 15, 16, 17, 4, 18, 10, 19, 20, 21, 22, 23, 24, 25, 26, 27, 28, 29, 30, 31, 32, 33, 34, 35, 36, 37, 51, 52, 53, 54, 55, 56] (by decide +kernel) (by decide +kernel)
set_option maxRecDepth 20000 in
theorem gX6_fibres_X6_commonZeros : GoodIn wsX6_fibres (wsV RX6 167 RX6 yX6_commonZeros wsX6_commonZeros) := goodIn_app (goodIn_of _ (by decide +kernel)) ggX6_fibres_X6_commonZeros
set_option maxRecDepth 20000 in
theorem ggX6_fibres_X3_lowerHalf : GoodIn wsX6_fibres wsX3_lowerHalf := goodIn_r _ [40, 34, 35, 29, 36, 37] (by decide +kernel) (by decide +kernel)
set_option maxRecDepth 20000 in
theorem gX6_fibres_X3_lowerHalf : GoodIn wsX6_fibres (va_wsS RX6 75 yX3_lowerHalf wsX3_lowerHalf) := goodIn_app (goodIn_of _ (by decide +kernel)) ggX6_fibres_X3_lowerHalf
set_option maxRecDepth 20000 in
theorem ggX6_fibres_X3_upperHalf : GoodIn wsX6_fibres wsX3_upperHalf := goodIn_r _ [43, 34, 35, 29, 36, 37] (by decide +kernel) (by decide +kernel)
set_option maxRecDepth 20000 in
theorem gX6_fibres_X3_upperHalf : GoodIn wsX6_fibres (va_wsS RX6 79 yX3_upperHalf wsX3_upperHalf) := goodIn_app (goodIn_of _ (by decide +kernel)) ggX6_fibres_X3_upperHalf
set_option maxRecDepth 20000 in
theorem ggX6_fibres_J13_bitCount_95d88 : GoodIn wsX6_fibres wsJ13_bitCount_95d88 := goodIn_r _ [47, 48, 49, 50] (by decide +kernel) (by decide +kernel)
set_option maxRecDepth 20000 in
theorem gX6_fibres_J13_bitCount_95d88 : GoodIn wsX6_fibres (va_wsS RX6 110 yJ13_bitCount_95d88 wsJ13_bitCount_95d88) := goodIn_app (goodIn_of _ (by decide +kernel)) ggX6_fibres_J13_bitCount_95d88
set_option maxRecDepth 20000 in
theorem ggX6_fibres_X6_allPoints : GoodIn wsX6_fibres wsX6_allPoints := goodIn_r _ [18, 10, 1, 51, 52, 53, 54, 55, 56] (by decide +kernel) (by decide +kernel)
set_option maxRecDepth 20000 in
theorem gX6_fibres_X6_allPoints : GoodIn wsX6_fibres (wsV RX6 176 RX6 yX6_allPoints wsX6_allPoints) := goodIn_app (goodIn_of _ (by decide +kernel)) ggX6_fibres_X6_allPoints
theorem dX6_fibres_0 : decode cX6_fibres 0 = .ok (.iload_n 1, 1) := by decide +kernel
theorem dX6_fibres_1 : decode cX6_fibres 1 = .ok (.invokestatic 139, 3) := by decide +kernel
theorem dX6_fibres_4 : decode cX6_fibres 4 = .ok (.ifCond .eq 20, 3) := by decide +kernel
theorem dX6_fibres_7 : decode cX6_fibres 7 = .ok (.aload_n 0, 1) := by decide +kernel
theorem dX6_fibres_8 : decode cX6_fibres 8 = .ok (.iload_n 2, 1) := by decide +kernel
theorem dX6_fibres_9 : decode cX6_fibres 9 = .ok (.invokevirtual 72, 3) := by decide +kernel
theorem dX6_fibres_12 : decode cX6_fibres 12 = .ok (.ifCond .eq 12, 3) := by decide +kernel
theorem dX6_fibres_15 : decode cX6_fibres 15 = .ok (.iload_n 3, 1) := by decide +kernel
theorem dX6_fibres_16 : decode cX6_fibres 16 = .ok (.ifCond .lt 8, 3) := by decide +kernel
theorem dX6_fibres_19 : decode cX6_fibres 19 = .ok (.iload_n 3, 1) := by decide +kernel
theorem dX6_fibres_20 : decode cX6_fibres 20 = .ok (.iconst 2, 1) := by decide +kernel
theorem dX6_fibres_21 : decode cX6_fibres 21 = .ok (.if_icmp .le 5, 3) := by decide +kernel
theorem dX6_fibres_24 : decode cX6_fibres 24 = .ok (.iconst (-1), 1) := by decide +kernel
theorem dX6_fibres_25 : decode cX6_fibres 25 = .ok (.ireturn, 1) := by decide +kernel
theorem dX6_fibres_26 : decode cX6_fibres 26 = .ok (.aload_n 0, 1) := by decide +kernel
theorem dX6_fibres_27 : decode cX6_fibres 27 = .ok (.iload_n 1, 1) := by decide +kernel
theorem dX6_fibres_28 : decode cX6_fibres 28 = .ok (.invokevirtual 167, 3) := by decide +kernel
theorem dX6_fibres_31 : decode cX6_fibres 31 = .ok (.lstore 4, 2) := by decide +kernel
theorem dX6_fibres_33 : decode cX6_fibres 33 = .ok (.lload 4, 2) := by decide +kernel
theorem dX6_fibres_35 : decode cX6_fibres 35 = .ok (.iload_n 2, 1) := by decide +kernel
theorem dX6_fibres_36 : decode cX6_fibres 36 = .ok (.invokestatic 75, 3) := by decide +kernel
theorem dX6_fibres_39 : decode cX6_fibres 39 = .ok (.lstore 6, 2) := by decide +kernel
theorem dX6_fibres_41 : decode cX6_fibres 41 = .ok (.lload 4, 2) := by decide +kernel
theorem dX6_fibres_43 : decode cX6_fibres 43 = .ok (.iload_n 2, 1) := by decide +kernel
theorem dX6_fibres_44 : decode cX6_fibres 44 = .ok (.invokestatic 79, 3) := by decide +kernel
theorem dX6_fibres_47 : decode cX6_fibres 47 = .ok (.lstore 8, 2) := by decide +kernel
theorem dX6_fibres_49 : decode cX6_fibres 49 = .ok (.iload_n 3, 1) := by decide +kernel
theorem dX6_fibres_50 : decode cX6_fibres 50 = .ok (.iconst 2, 1) := by decide +kernel
theorem dX6_fibres_51 : decode cX6_fibres 51 = .ok (.if_icmp .ne 12, 3) := by decide +kernel
theorem dX6_fibres_54 : decode cX6_fibres 54 = .ok (.lload 6, 2) := by decide +kernel
theorem dX6_fibres_56 : decode cX6_fibres 56 = .ok (.lload 8, 2) := by decide +kernel
theorem dX6_fibres_58 : decode cX6_fibres 58 = .ok (.land, 1) := by decide +kernel
theorem dX6_fibres_59 : decode cX6_fibres 59 = .ok (.invokestatic 110, 3) := by decide +kernel
theorem dX6_fibres_62 : decode cX6_fibres 62 = .ok (.ireturn, 1) := by decide +kernel
theorem dX6_fibres_63 : decode cX6_fibres 63 = .ok (.iload_n 3, 1) := by decide +kernel
theorem dX6_fibres_64 : decode cX6_fibres 64 = .ok (.iconst 1, 1) := by decide +kernel
theorem dX6_fibres_65 : decode cX6_fibres 65 = .ok (.if_icmp .ne 12, 3) := by decide +kernel
theorem dX6_fibres_68 : decode cX6_fibres 68 = .ok (.lload 6, 2) := by decide +kernel
theorem dX6_fibres_70 : decode cX6_fibres 70 = .ok (.lload 8, 2) := by decide +kernel
theorem dX6_fibres_72 : decode cX6_fibres 72 = .ok (.lxor, 1) := by decide +kernel
theorem dX6_fibres_73 : decode cX6_fibres 73 = .ok (.invokestatic 110, 3) := by decide +kernel
theorem dX6_fibres_76 : decode cX6_fibres 76 = .ok (.ireturn, 1) := by decide +kernel
theorem dX6_fibres_77 : decode cX6_fibres 77 = .ok (.aload_n 0, 1) := by decide +kernel
theorem dX6_fibres_78 : decode cX6_fibres 78 = .ok (.invokevirtual 176, 3) := by decide +kernel
theorem dX6_fibres_81 : decode cX6_fibres 81 = .ok (.iload_n 2, 1) := by decide +kernel
theorem dX6_fibres_82 : decode cX6_fibres 82 = .ok (.invokestatic 75, 3) := by decide +kernel
theorem dX6_fibres_85 : decode cX6_fibres 85 = .ok (.lload 6, 2) := by decide +kernel
theorem dX6_fibres_87 : decode cX6_fibres 87 = .ok (.lload 8, 2) := by decide +kernel
theorem dX6_fibres_89 : decode cX6_fibres 89 = .ok (.lor, 1) := by decide +kernel
theorem dX6_fibres_90 : decode cX6_fibres 90 = .ok (.ldc2_w 180, 3) := by decide +kernel
theorem dX6_fibres_93 : decode cX6_fibres 93 = .ok (.lxor, 1) := by decide +kernel
theorem dX6_fibres_94 : decode cX6_fibres 94 = .ok (.land, 1) := by decide +kernel
theorem dX6_fibres_95 : decode cX6_fibres 95 = .ok (.invokestatic 110, 3) := by decide +kernel
theorem dX6_fibres_98 : decode cX6_fibres 98 = .ok (.ireturn, 1) := by decide +kernel
set_option maxRecDepth 20000 in
theorem ggX6_isMember_X6_isRegister : GoodIn wsX6_isMember wsX6_isRegister := goodIn_r _ [6] (by decide +kernel) (by decide +kernel)
set_option maxRecDepth 20000 in
theorem gX6_isMember_X6_isRegister : GoodIn wsX6_isMember (va_wsS RX6 51 yX6_isRegister wsX6_isRegister) := goodIn_app (goodIn_of _ (by decide +kernel)) ggX6_isMember_X6_isRegister
set_option maxRecDepth 20000 in
theorem ggX6_isMember_X6_isSet : GoodIn wsX6_isMember wsX6_isSet := goodIn_r _ [9] (by decide +kernel) (by decide +kernel)
set_option maxRecDepth 20000 in
theorem gX6_isMember_X6_isSet : GoodIn wsX6_isMember (va_wsS RX6 139 yX6_isSet wsX6_isSet) := goodIn_app (goodIn_of _ (by decide +kernel)) ggX6_isMember_X6_isSet
set_option maxRecDepth 20000 in
theorem ggX6_isMember_X3_transformed : GoodIn wsX6_isMember wsX3_transformed := goodIn_r _ [13, 14, 15, 12, 16, 17, 18, 19, 20] (by decide +kernel) (by decide +kernel)
set_option maxRecDepth 20000 in
theorem gX6_isMember_X3_transformed : GoodIn wsX6_isMember (va_wsS RX6 82 yX3_transformed wsX3_transformed) := goodIn_app (goodIn_of _ (by decide +kernel)) ggX6_isMember_X3_transformed
set_option maxRecDepth 20000 in
theorem ggX6_isMember_X6_commonZeros : GoodIn wsX6_isMember wsX6_commonZeros := goodIn_r _ [24, 25, 26, 27, 28, 5, 29, 2, 30, 31, 32, 33, 1, 34, 35, 36, 10, 11, 12, 13, 14, 15, 16, 17, 18, 19, 20, 37, 38, 39, 40, 41, 42] (by decide +kernel) (by decide +kernel)
set_option maxRecDepth 20000 in
theorem gX6_isMember_X6_commonZeros : GoodIn wsX6_isMember (wsV RX6 167 RX6 yX6_commonZeros wsX6_commonZeros) := goodIn_app (goodIn_of _ (by decide +kernel)) ggX6_isMember_X6_commonZeros
theorem dX6_isMember_0 : decode cX6_isMember 0 = .ok (.iload_n 1, 1) := by decide +kernel
theorem dX6_isMember_1 : decode cX6_isMember 1 = .ok (.invokestatic 51, 3) := by decide +kernel
theorem dX6_isMember_4 : decode cX6_isMember 4 = .ok (.ifCond .eq 10, 3) := by decide +kernel
theorem dX6_isMember_7 : decode cX6_isMember 7 = .ok (.iload_n 2, 1) := by decide +kernel
theorem dX6_isMember_8 : decode cX6_isMember 8 = .ok (.invokestatic 139, 3) := by decide +kernel
theorem dX6_isMember_11 : decode cX6_isMember 11 = .ok (.ifCond .ne 5, 3) := by decide +kernel
theorem dX6_isMember_14 : decode cX6_isMember 14 = .ok (.iconst (-1), 1) := by decide +kernel
theorem dX6_isMember_15 : decode cX6_isMember 15 = .ok (.ireturn, 1) := by decide +kernel
theorem dX6_isMember_16 : decode cX6_isMember 16 = .ok (.aload_n 0, 1) := by decide +kernel
theorem dX6_isMember_17 : decode cX6_isMember 17 = .ok (.getfield 9, 3) := by decide +kernel
theorem dX6_isMember_20 : decode cX6_isMember 20 = .ok (.iload_n 1, 1) := by decide +kernel
theorem dX6_isMember_21 : decode cX6_isMember 21 = .ok (.laload, 1) := by decide +kernel
theorem dX6_isMember_22 : decode cX6_isMember 22 = .ok (.aload_n 0, 1) := by decide +kernel
theorem dX6_isMember_23 : decode cX6_isMember 23 = .ok (.getfield 38, 3) := by decide +kernel
theorem dX6_isMember_26 : decode cX6_isMember 26 = .ok (.invokestatic 82, 3) := by decide +kernel
theorem dX6_isMember_29 : decode cX6_isMember 29 = .ok (.lstore_n 3, 1) := by decide +kernel
theorem dX6_isMember_30 : decode cX6_isMember 30 = .ok (.lload_n 3, 1) := by decide +kernel
theorem dX6_isMember_31 : decode cX6_isMember 31 = .ok (.aload_n 0, 1) := by decide +kernel
theorem dX6_isMember_32 : decode cX6_isMember 32 = .ok (.iload_n 2, 1) := by decide +kernel
theorem dX6_isMember_33 : decode cX6_isMember 33 = .ok (.invokevirtual 167, 3) := by decide +kernel
theorem dX6_isMember_36 : decode cX6_isMember 36 = .ok (.land, 1) := by decide +kernel
theorem dX6_isMember_37 : decode cX6_isMember 37 = .ok (.lconst 0, 1) := by decide +kernel
theorem dX6_isMember_38 : decode cX6_isMember 38 = .ok (.lcmp, 1) := by decide +kernel
theorem dX6_isMember_39 : decode cX6_isMember 39 = .ok (.ifCond .ne 7, 3) := by decide +kernel
theorem dX6_isMember_42 : decode cX6_isMember 42 = .ok (.iconst 1, 1) := by decide +kernel
theorem dX6_isMember_43 : decode cX6_isMember 43 = .ok (.goto 4, 3) := by decide +kernel
theorem dX6_isMember_46 : decode cX6_isMember 46 = .ok (.iconst 0, 1) := by decide +kernel
theorem dX6_isMember_47 : decode cX6_isMember 47 = .ok (.ireturn, 1) := by decide +kernel
set_option maxRecDepth 20000 in
theorem ggX6_isSameIdeal_X6_isSet : GoodIn wsX6_isSameIdeal wsX6_isSet := goodIn_r _ [4] (by decide +kernel) (by decide +kernel)
set_option maxRecDepth 20000 in
theorem gX6_isSameIdeal_X6_isSet : GoodIn wsX6_isSameIdeal (va_wsS RX6 139 yX6_isSet wsX6_isSet) := goodIn_app (goodIn_of _ (by decide +kernel)) ggX6_isSameIdeal_X6_isSet
set_option maxRecDepth 20000 in
theorem ggX6_isSameIdeal_X6_nonZeros : GoodIn wsX6_isSameIdeal wsX6_nonZeros := goodIn_r _ [8, 9, 10, 11, 12, 3, 13, 14, 15, 16, 17, 18, 19, 20, 21, 22, 23, 24, 25, 26, 27, 28, 29, 30] (by decide +kernel) (by decide +kernel)
set_option maxRecDepth 20000 in
theorem gX6_isSameIdeal_X6_nonZeros : GoodIn wsX6_isSameIdeal (wsV RX6 170 RX6 yX6_nonZeros wsX6_nonZeros) := goodIn_app (goodIn_of _ (by decide +kernel)) ggX6_isSameIdeal_X6_nonZeros
theorem dX6_isSameIdeal_0 : decode cX6_isSameIdeal 0 = .ok (.iload_n 1, 1) := by decide +kernel
theorem dX6_isSameIdeal_1 : decode cX6_isSameIdeal 1 = .ok (.invokestatic 139, 3) := by decide +kernel
theorem dX6_isSameIdeal_4 : decode cX6_isSameIdeal 4 = .ok (.ifCond .eq 10, 3) := by decide +kernel
theorem dX6_isSameIdeal_7 : decode cX6_isSameIdeal 7 = .ok (.iload_n 2, 1) := by decide +kernel
theorem dX6_isSameIdeal_8 : decode cX6_isSameIdeal 8 = .ok (.invokestatic 139, 3) := by decide +kernel
theorem dX6_isSameIdeal_11 : decode cX6_isSameIdeal 11 = .ok (.ifCond .ne 5, 3) := by decide +kernel
theorem dX6_isSameIdeal_14 : decode cX6_isSameIdeal 14 = .ok (.iconst (-1), 1) := by decide +kernel
theorem dX6_isSameIdeal_15 : decode cX6_isSameIdeal 15 = .ok (.ireturn, 1) := by decide +kernel
theorem dX6_isSameIdeal_16 : decode cX6_isSameIdeal 16 = .ok (.aload_n 0, 1) := by decide +kernel
theorem dX6_isSameIdeal_17 : decode cX6_isSameIdeal 17 = .ok (.iload_n 1, 1) := by decide +kernel
theorem dX6_isSameIdeal_18 : decode cX6_isSameIdeal 18 = .ok (.invokevirtual 170, 3) := by decide +kernel
theorem dX6_isSameIdeal_21 : decode cX6_isSameIdeal 21 = .ok (.aload_n 0, 1) := by decide +kernel
theorem dX6_isSameIdeal_22 : decode cX6_isSameIdeal 22 = .ok (.iload_n 2, 1) := by decide +kernel
theorem dX6_isSameIdeal_23 : decode cX6_isSameIdeal 23 = .ok (.invokevirtual 170, 3) := by decide +kernel
theorem dX6_isSameIdeal_26 : decode cX6_isSameIdeal 26 = .ok (.lcmp, 1) := by decide +kernel
theorem dX6_isSameIdeal_27 : decode cX6_isSameIdeal 27 = .ok (.ifCond .ne 7, 3) := by decide +kernel
theorem dX6_isSameIdeal_30 : decode cX6_isSameIdeal 30 = .ok (.iconst 1, 1) := by decide +kernel
theorem dX6_isSameIdeal_31 : decode cX6_isSameIdeal 31 = .ok (.goto 4, 3) := by decide +kernel
theorem dX6_isSameIdeal_34 : decode cX6_isSameIdeal 34 = .ok (.iconst 0, 1) := by decide +kernel
theorem dX6_isSameIdeal_35 : decode cX6_isSameIdeal 35 = .ok (.ireturn, 1) := by decide +kernel
set_option maxRecDepth 20000 in
theorem ggX6_fixedVariables_X6_isSet : GoodIn wsX6_fixedVariables wsX6_isSet := goodIn_r _ [5] (by decide +kernel) (by decide +kernel)
set_option maxRecDepth 20000 in
theorem gX6_fixedVariables_X6_isSet : GoodIn wsX6_fixedVariables (va_wsS RX6 139 yX6_isSet wsX6_isSet) := goodIn_app (goodIn_of _ (by decide +kernel)) ggX6_fixedVariables_X6_isSet
set_option maxRecDepth 20000 in
theorem ggX6_fixedVariables_X6_commonZeros : GoodIn wsX6_fixedVariables wsX6_commonZeros := goodIn_r _ [9, 10, 11, 12, 13, 4, 14, 1, 15, 16, 17, 18, 19, 20, 21, 22, 23, 24, 25, 26, 27, 28, 29, 30, 31, 32, 33, 40, 41, 42, 43, 44, 45] (by decide +kernel) (by decide +kernel)
set_option maxRecDepth 20000 in
theorem gX6_fixedVariables_X6_commonZeros : GoodIn wsX6_fixedVariables (wsV RX6 167 RX6 yX6_commonZeros wsX6_commonZeros) := goodIn_app (goodIn_of _ (by decide +kernel)) ggX6_fixedVariables_X6_commonZeros
set_option maxRecDepth 20000 in
theorem ggX6_fixedVariables_X3_lowerHalf : GoodIn wsX6_fixedVariables wsX3_lowerHalf := goodIn_r _ [36, 30, 31, 25, 32, 33] (by decide +kernel) (by decide +kernel)
set_option maxRecDepth 20000 in
theorem gX6_fixedVariables_X3_lowerHalf : GoodIn wsX6_fixedVariables (va_wsS RX6 75 yX3_lowerHalf wsX3_lowerHalf) := goodIn_app (goodIn_of _ (by decide +kernel)) ggX6_fixedVariables_X3_lowerHalf
set_option maxRecDepth 20000 in
theorem ggX6_fixedVariables_X3_upperHalf : GoodIn wsX6_fixedVariables wsX3_upperHalf := goodIn_r _ [39, 30, 31, 25, 32, 33] (by decide +kernel) (by decide +kernel)
set_option maxRecDepth 20000 in
theorem gX6_fixedVariables_X3_upperHalf : GoodIn wsX6_fixedVariables (va_wsS RX6 79 yX3_upperHalf wsX3_upperHalf) := goodIn_app (goodIn_of _ (by decide +kernel)) ggX6_fixedVariables_X3_upperHalf
theorem dX6_fixedVariables_0 : decode cX6_fixedVariables 0 = .ok (.iload_n 1, 1) := by decide +kernel
theorem dX6_fixedVariables_1 : decode cX6_fixedVariables 1 = .ok (.invokestatic 139, 3) := by decide +kernel
theorem dX6_fixedVariables_4 : decode cX6_fixedVariables 4 = .ok (.ifCond .ne 5, 3) := by decide +kernel
theorem dX6_fixedVariables_7 : decode cX6_fixedVariables 7 = .ok (.iconst (-1), 1) := by decide +kernel
theorem dX6_fixedVariables_8 : decode cX6_fixedVariables 8 = .ok (.ireturn, 1) := by decide +kernel
theorem dX6_fixedVariables_9 : decode cX6_fixedVariables 9 = .ok (.aload_n 0, 1) := by decide +kernel
theorem dX6_fixedVariables_10 : decode cX6_fixedVariables 10 = .ok (.iload_n 1, 1) := by decide +kernel
theorem dX6_fixedVariables_11 : decode cX6_fixedVariables 11 = .ok (.invokevirtual 167, 3) := by decide +kernel
theorem dX6_fixedVariables_14 : decode cX6_fixedVariables 14 = .ok (.lstore_n 2, 1) := by decide +kernel
theorem dX6_fixedVariables_15 : decode cX6_fixedVariables 15 = .ok (.lload_n 2, 1) := by decide +kernel
theorem dX6_fixedVariables_16 : decode cX6_fixedVariables 16 = .ok (.lconst 0, 1) := by decide +kernel
theorem dX6_fixedVariables_17 : decode cX6_fixedVariables 17 = .ok (.lcmp, 1) := by decide +kernel
theorem dX6_fixedVariables_18 : decode cX6_fixedVariables 18 = .ok (.ifCond .ne 6, 3) := by decide +kernel
theorem dX6_fixedVariables_21 : decode cX6_fixedVariables 21 = .ok (.bipush (-4), 2) := by decide +kernel
theorem dX6_fixedVariables_23 : decode cX6_fixedVariables 23 = .ok (.ireturn, 1) := by decide +kernel
theorem dX6_fixedVariables_24 : decode cX6_fixedVariables 24 = .ok (.iconst 0, 1) := by decide +kernel
theorem dX6_fixedVariables_25 : decode cX6_fixedVariables 25 = .ok (.istore 4, 2) := by decide +kernel
theorem dX6_fixedVariables_27 : decode cX6_fixedVariables 27 = .ok (.iconst 0, 1) := by decide +kernel
theorem dX6_fixedVariables_28 : decode cX6_fixedVariables 28 = .ok (.istore 5, 2) := by decide +kernel
theorem dX6_fixedVariables_30 : decode cX6_fixedVariables 30 = .ok (.iload 5, 2) := by decide +kernel
theorem dX6_fixedVariables_32 : decode cX6_fixedVariables 32 = .ok (.aload_n 0, 1) := by decide +kernel
theorem dX6_fixedVariables_33 : decode cX6_fixedVariables 33 = .ok (.getfield 38, 3) := by decide +kernel
theorem dX6_fixedVariables_36 : decode cX6_fixedVariables 36 = .ok (.if_icmp .ge 34, 3) := by decide +kernel
theorem dX6_fixedVariables_39 : decode cX6_fixedVariables 39 = .ok (.lload_n 2, 1) := by decide +kernel
theorem dX6_fixedVariables_40 : decode cX6_fixedVariables 40 = .ok (.iload 5, 2) := by decide +kernel
theorem dX6_fixedVariables_42 : decode cX6_fixedVariables 42 = .ok (.invokestatic 75, 3) := by decide +kernel
theorem dX6_fixedVariables_45 : decode cX6_fixedVariables 45 = .ok (.lconst 0, 1) := by decide +kernel
theorem dX6_fixedVariables_46 : decode cX6_fixedVariables 46 = .ok (.lcmp, 1) := by decide +kernel
theorem dX6_fixedVariables_47 : decode cX6_fixedVariables 47 = .ok (.ifCond .eq 14, 3) := by decide +kernel
theorem dX6_fixedVariables_50 : decode cX6_fixedVariables 50 = .ok (.lload_n 2, 1) := by decide +kernel
theorem dX6_fixedVariables_51 : decode cX6_fixedVariables 51 = .ok (.iload 5, 2) := by decide +kernel
theorem dX6_fixedVariables_53 : decode cX6_fixedVariables 53 = .ok (.invokestatic 79, 3) := by decide +kernel
theorem dX6_fixedVariables_56 : decode cX6_fixedVariables 56 = .ok (.lconst 0, 1) := by decide +kernel
theorem dX6_fixedVariables_57 : decode cX6_fixedVariables 57 = .ok (.lcmp, 1) := by decide +kernel
theorem dX6_fixedVariables_58 : decode cX6_fixedVariables 58 = .ok (.ifCond .ne 6, 3) := by decide +kernel
theorem dX6_fixedVariables_61 : decode cX6_fixedVariables 61 = .ok (.iinc 4 1, 3) := by decide +kernel
theorem dX6_fixedVariables_64 : decode cX6_fixedVariables 64 = .ok (.iinc 5 1, 3) := by decide +kernel
theorem dX6_fixedVariables_67 : decode cX6_fixedVariables 67 = .ok (.goto (-37), 3) := by decide +kernel
theorem dX6_fixedVariables_70 : decode cX6_fixedVariables 70 = .ok (.iload 4, 2) := by decide +kernel
theorem dX6_fixedVariables_72 : decode cX6_fixedVariables 72 = .ok (.ireturn, 1) := by decide +kernel
set_option maxRecDepth 20000 in
theorem ggX6_type_X5_append : GoodIn wsX6_type wsX5_append := goodIn_r _ [6, 7, 8, 15, 16] (by decide +kernel) (by decide +kernel)
set_option maxRecDepth 20000 in
theorem gX6_type_X5_append : GoodIn wsX6_type (wsV RX6 182 RX5 yX5_append wsX5_append) := goodIn_app (goodIn_of _ (by decide +kernel)) ggX6_type_X5_append
theorem dX6_type_0 : decode cX6_type 0 = .ok (.iload_n 1, 1) := by decide +kernel
theorem dX6_type_1 : decode cX6_type 1 = .ok (.bipush 32, 2) := by decide +kernel
theorem dX6_type_3 : decode cX6_type 3 = .ok (.if_icmp .lt 9, 3) := by decide +kernel
theorem dX6_type_6 : decode cX6_type 6 = .ok (.iload_n 1, 1) := by decide +kernel
theorem dX6_type_7 : decode cX6_type 7 = .ok (.bipush 126, 2) := by decide +kernel
theorem dX6_type_9 : decode cX6_type 9 = .ok (.if_icmp .le 5, 3) := by decide +kernel
theorem dX6_type_12 : decode cX6_type 12 = .ok (.iconst (-1), 1) := by decide +kernel
theorem dX6_type_13 : decode cX6_type 13 = .ok (.ireturn, 1) := by decide +kernel
theorem dX6_type_14 : decode cX6_type 14 = .ok (.aload_n 0, 1) := by decide +kernel
theorem dX6_type_15 : decode cX6_type 15 = .ok (.getfield 34, 3) := by decide +kernel
theorem dX6_type_18 : decode cX6_type 18 = .ok (.iload_n 1, 1) := by decide +kernel
theorem dX6_type_19 : decode cX6_type 19 = .ok (.i2c, 1) := by decide +kernel
theorem dX6_type_20 : decode cX6_type 20 = .ok (.invokevirtual 182, 3) := by decide +kernel
theorem dX6_type_23 : decode cX6_type 23 = .ok (.ireturn, 1) := by decide +kernel
set_option maxRecDepth 20000 in
theorem ggX6_clearText_X5_empty : GoodIn wsX6_clearText wsX5_empty := goodIn_r _ [6, 7, 14, 15] (by decide +kernel) (by decide +kernel)
set_option maxRecDepth 20000 in
theorem gX6_clearText_X5_empty : GoodIn wsX6_clearText (wsV RX6 186 RX5 yX5_empty wsX5_empty) := goodIn_app (goodIn_of _ (by decide +kernel)) ggX6_clearText_X5_empty
theorem dX6_clearText_0 : decode cX6_clearText 0 = .ok (.aload_n 0, 1) := by decide +kernel
theorem dX6_clearText_1 : decode cX6_clearText 1 = .ok (.getfield 34, 3) := by decide +kernel
theorem dX6_clearText_4 : decode cX6_clearText 4 = .ok (.invokevirtual 186, 3) := by decide +kernel
theorem dX6_clearText_7 : decode cX6_clearText 7 = .ok (.ireturn, 1) := by decide +kernel
set_option maxRecDepth 20000 in
theorem ggX6_fault_X5_firstFault : GoodIn wsX6_fault wsX5_firstFault := goodIn_r _ [7, 8, 9, 10, 11, 6, 12, 19, 20] (by decide +kernel) (by decide +kernel)
set_option maxRecDepth 20000 in
theorem gX6_fault_X5_firstFault : GoodIn wsX6_fault (wsV RX6 189 RX5 yX5_firstFault wsX5_firstFault) := goodIn_app (goodIn_of _ (by decide +kernel)) ggX6_fault_X5_firstFault
theorem dX6_fault_0 : decode cX6_fault 0 = .ok (.aload_n 0, 1) := by decide +kernel
theorem dX6_fault_1 : decode cX6_fault 1 = .ok (.getfield 34, 3) := by decide +kernel
theorem dX6_fault_4 : decode cX6_fault 4 = .ok (.aload_n 0, 1) := by decide +kernel
theorem dX6_fault_5 : decode cX6_fault 5 = .ok (.getfield 38, 3) := by decide +kernel
theorem dX6_fault_8 : decode cX6_fault 8 = .ok (.invokevirtual 189, 3) := by decide +kernel
theorem dX6_fault_11 : decode cX6_fault 11 = .ok (.ireturn, 1) := by decide +kernel
set_option maxRecDepth 20000 in
theorem ggX6_read_X6_isRegister : GoodIn wsX6_read wsX6_isRegister := goodIn_r _ [6] (by decide +kernel) (by decide +kernel)
set_option maxRecDepth 20000 in
theorem gX6_read_X6_isRegister : GoodIn wsX6_read (va_wsS RX6 51 yX6_isRegister wsX6_isRegister) := goodIn_app (goodIn_of _ (by decide +kernel)) ggX6_read_X6_isRegister
set_option maxRecDepth 20000 in
theorem ggX6_read_X5_firstFault : GoodIn wsX6_read wsX5_firstFault := goodIn_r _ [11, 12, 13, 14, 15, 10, 16, 55, 56] (by decide +kernel) (by decide +kernel)
set_option maxRecDepth 20000 in
theorem gX6_read_X5_firstFault : GoodIn wsX6_read (wsV RX6 189 RX5 yX5_firstFault wsX5_firstFault) := goodIn_app (goodIn_of _ (by decide +kernel)) ggX6_read_X5_firstFault
set_option maxRecDepth 20000 in
theorem ggX6_read_X5_polynomial : GoodIn wsX6_read wsX5_polynomial := goodIn_r _ [20, 12, 13, 21, 22, 23, 24, 55, 56] (by decide +kernel) (by decide +kernel)
set_option maxRecDepth 20000 in
theorem gX6_read_X5_polynomial : GoodIn wsX6_read (wsV RX6 192 RX5 yX5_polynomial wsX5_polynomial) := goodIn_app (goodIn_of _ (by decide +kernel)) ggX6_read_X5_polynomial
set_option maxRecDepth 20000 in
theorem ggX6_read_X6_put : GoodIn wsX6_read wsX6_put := goodIn_r _ [28, 29, 30, 31, 32, 33, 34, 35, 36, 37, 38, 39, 40, 41, 3, 4, 5, 6, 42, 43, 44, 45, 46, 47, 48, 49, 50, 51, 52, 53, 54, 57, 58] (by decide +kernel) (by decide +kernel)
set_option maxRecDepth 20000 in
theorem gX6_read_X6_put : GoodIn wsX6_read (wsV RX6 64 RX6 yX6_put wsX6_put) := goodIn_app (goodIn_of _ (by decide +kernel)) ggX6_read_X6_put
theorem dX6_read_0 : decode cX6_read 0 = .ok (.iload_n 1, 1) := by decide +kernel
theorem dX6_read_1 : decode cX6_read 1 = .ok (.invokestatic 51, 3) := by decide +kernel
theorem dX6_read_4 : decode cX6_read 4 = .ok (.ifCond .ne 5, 3) := by decide +kernel
theorem dX6_read_7 : decode cX6_read 7 = .ok (.iconst (-1), 1) := by decide +kernel
theorem dX6_read_8 : decode cX6_read 8 = .ok (.ireturn, 1) := by decide +kernel
theorem dX6_read_9 : decode cX6_read 9 = .ok (.aload_n 0, 1) := by decide +kernel
theorem dX6_read_10 : decode cX6_read 10 = .ok (.getfield 34, 3) := by decide +kernel
theorem dX6_read_13 : decode cX6_read 13 = .ok (.aload_n 0, 1) := by decide +kernel
theorem dX6_read_14 : decode cX6_read 14 = .ok (.getfield 38, 3) := by decide +kernel
theorem dX6_read_17 : decode cX6_read 17 = .ok (.invokevirtual 189, 3) := by decide +kernel
theorem dX6_read_20 : decode cX6_read 20 = .ok (.bipush (-4), 2) := by decide +kernel
theorem dX6_read_22 : decode cX6_read 22 = .ok (.if_icmp .eq 6, 3) := by decide +kernel
theorem dX6_read_25 : decode cX6_read 25 = .ok (.bipush (-2), 2) := by decide +kernel
theorem dX6_read_27 : decode cX6_read 27 = .ok (.ireturn, 1) := by decide +kernel
theorem dX6_read_28 : decode cX6_read 28 = .ok (.aload_n 0, 1) := by decide +kernel
theorem dX6_read_29 : decode cX6_read 29 = .ok (.iload_n 1, 1) := by decide +kernel
theorem dX6_read_30 : decode cX6_read 30 = .ok (.aload_n 0, 1) := by decide +kernel
theorem dX6_read_31 : decode cX6_read 31 = .ok (.getfield 34, 3) := by decide +kernel
theorem dX6_read_34 : decode cX6_read 34 = .ok (.invokevirtual 192, 3) := by decide +kernel
theorem dX6_read_37 : decode cX6_read 37 = .ok (.invokevirtual 64, 3) := by decide +kernel
theorem dX6_read_40 : decode cX6_read 40 = .ok (.ireturn, 1) := by decide +kernel
set_option maxRecDepth 20000 in
theorem ggX6_textLength_X6_isRegister : GoodIn wsX6_textLength wsX6_isRegister := goodIn_r _ [5] (by decide +kernel) (by decide +kernel)
set_option maxRecDepth 20000 in
theorem gX6_textLength_X6_isRegister : GoodIn wsX6_textLength (va_wsS RX6 51 yX6_isRegister wsX6_isRegister) := goodIn_app (goodIn_of _ (by decide +kernel)) ggX6_textLength_X6_isRegister
set_option maxRecDepth 20000 in
theorem ggX6_textLength_X4_lengthOf : GoodIn wsX6_textLength wsX4_lengthOf := goodIn_r _ [9, 10, 11, 12, 13, 14, 15, 8, 16, 17, 18, 19, 20, 21, 22, 23, 24, 25, 26, 27, 28, 29, 30] (by decide +kernel) (by decide +kernel)
set_option maxRecDepth 20000 in
theorem gX6_textLength_X4_lengthOf : GoodIn wsX6_textLength (va_wsS RX6 195 yX4_lengthOf wsX4_lengthOf) := goodIn_app (goodIn_of _ (by decide +kernel)) ggX6_textLength_X4_lengthOf
theorem dX6_textLength_0 : decode cX6_textLength 0 = .ok (.iload_n 1, 1) := by decide +kernel
theorem dX6_textLength_1 : decode cX6_textLength 1 = .ok (.invokestatic 51, 3) := by decide +kernel
theorem dX6_textLength_4 : decode cX6_textLength 4 = .ok (.ifCond .ne 5, 3) := by decide +kernel
theorem dX6_textLength_7 : decode cX6_textLength 7 = .ok (.iconst (-1), 1) := by decide +kernel
theorem dX6_textLength_8 : decode cX6_textLength 8 = .ok (.ireturn, 1) := by decide +kernel
theorem dX6_textLength_9 : decode cX6_textLength 9 = .ok (.aload_n 0, 1) := by decide +kernel
theorem dX6_textLength_10 : decode cX6_textLength 10 = .ok (.getfield 9, 3) := by decide +kernel
theorem dX6_textLength_13 : decode cX6_textLength 13 = .ok (.iload_n 1, 1) := by decide +kernel
theorem dX6_textLength_14 : decode cX6_textLength 14 = .ok (.laload, 1) := by decide +kernel
theorem dX6_textLength_15 : decode cX6_textLength 15 = .ok (.invokestatic 195, 3) := by decide +kernel
theorem dX6_textLength_18 : decode cX6_textLength 18 = .ok (.ireturn, 1) := by decide +kernel
set_option maxRecDepth 20000 in
theorem ggX6_textAt_X6_isRegister : GoodIn wsX6_textAt wsX6_isRegister := goodIn_r _ [5] (by decide +kernel) (by decide +kernel)
set_option maxRecDepth 20000 in
theorem gX6_textAt_X6_isRegister : GoodIn wsX6_textAt (va_wsS RX6 51 yX6_isRegister wsX6_isRegister) := goodIn_app (goodIn_of _ (by decide +kernel)) ggX6_textAt_X6_isRegister
set_option maxRecDepth 20000 in
theorem ggX6_textAt_X4_characterOf : GoodIn wsX6_textAt wsX4_characterOf := goodIn_r _ [9, 10, 11, 8, 12, 13, 14, 15, 16, 17, 18, 19, 20, 21, 22, 23, 24, 25, 26, 27, 28, 29, 30, 31, 32, 33, 34, 35, 36, 37, 38, 39, 40, 41, 42, 43, 44, 45, 46] (by decide +kernel) (by decide +kernel)
set_option maxRecDepth 20000 in
theorem gX6_textAt_X4_characterOf : GoodIn wsX6_textAt (va_wsS RX6 200 yX4_characterOf wsX4_characterOf) := goodIn_app (goodIn_of _ (by decide +kernel)) ggX6_textAt_X4_characterOf
theorem dX6_textAt_0 : decode cX6_textAt 0 = .ok (.iload_n 1, 1) := by decide +kernel
theorem dX6_textAt_1 : decode cX6_textAt 1 = .ok (.invokestatic 51, 3) := by decide +kernel
theorem dX6_textAt_4 : decode cX6_textAt 4 = .ok (.ifCond .eq 7, 3) := by decide +kernel
theorem dX6_textAt_7 : decode cX6_textAt 7 = .ok (.iload_n 2, 1) := by decide +kernel
theorem dX6_textAt_8 : decode cX6_textAt 8 = .ok (.ifCond .ge 5, 3) := by decide +kernel
theorem dX6_textAt_11 : decode cX6_textAt 11 = .ok (.iconst (-1), 1) := by decide +kernel
theorem dX6_textAt_12 : decode cX6_textAt 12 = .ok (.ireturn, 1) := by decide +kernel
theorem dX6_textAt_13 : decode cX6_textAt 13 = .ok (.aload_n 0, 1) := by decide +kernel
theorem dX6_textAt_14 : decode cX6_textAt 14 = .ok (.getfield 9, 3) := by decide +kernel
theorem dX6_textAt_17 : decode cX6_textAt 17 = .ok (.iload_n 1, 1) := by decide +kernel
theorem dX6_textAt_18 : decode cX6_textAt 18 = .ok (.laload, 1) := by decide +kernel
theorem dX6_textAt_19 : decode cX6_textAt 19 = .ok (.iload_n 2, 1) := by decide +kernel
theorem dX6_textAt_20 : decode cX6_textAt 20 = .ok (.invokestatic 200, 3) := by decide +kernel
theorem dX6_textAt_23 : decode cX6_textAt 23 = .ok (.ireturn, 1) := by decide +kernel
theorem dX6_isRegister_0 : decode cX6_isRegister 0 = .ok (.iload_n 0, 1) := by decide +kernel
theorem dX6_isRegister_1 : decode cX6_isRegister 1 = .ok (.ifCond .lt 13, 3) := by decide +kernel
theorem dX6_isRegister_4 : decode cX6_isRegister 4 = .ok (.iload_n 0, 1) := by decide +kernel
theorem dX6_isRegister_5 : decode cX6_isRegister 5 = .ok (.bipush 8, 2) := by decide +kernel
theorem dX6_isRegister_7 : decode cX6_isRegister 7 = .ok (.if_icmp .ge 7, 3) := by decide +kernel
theorem dX6_isRegister_10 : decode cX6_isRegister 10 = .ok (.iconst 1, 1) := by decide +kernel
theorem dX6_isRegister_11 : decode cX6_isRegister 11 = .ok (.goto 4, 3) := by decide +kernel
theorem dX6_isRegister_14 : decode cX6_isRegister 14 = .ok (.iconst 0, 1) := by decide +kernel
theorem dX6_isRegister_15 : decode cX6_isRegister 15 = .ok (.ireturn, 1) := by decide +kernel
theorem dX6_isSet_0 : decode cX6_isSet 0 = .ok (.iload_n 0, 1) := by decide +kernel
theorem dX6_isSet_1 : decode cX6_isSet 1 = .ok (.ifCond .lt 14, 3) := by decide +kernel
theorem dX6_isSet_4 : decode cX6_isSet 4 = .ok (.iload_n 0, 1) := by decide +kernel
theorem dX6_isSet_5 : decode cX6_isSet 5 = .ok (.sipush 256, 3) := by decide +kernel
theorem dX6_isSet_8 : decode cX6_isSet 8 = .ok (.if_icmp .ge 7, 3) := by decide +kernel
theorem dX6_isSet_11 : decode cX6_isSet 11 = .ok (.iconst 1, 1) := by decide +kernel
theorem dX6_isSet_12 : decode cX6_isSet 12 = .ok (.goto 4, 3) := by decide +kernel
theorem dX6_isSet_15 : decode cX6_isSet 15 = .ok (.iconst 0, 1) := by decide +kernel
theorem dX6_isSet_16 : decode cX6_isSet 16 = .ok (.ireturn, 1) := by decide +kernel
theorem dX6_isOrder_0 : decode cX6_isOrder 0 = .ok (.iload_n 0, 1) := by decide +kernel
theorem dX6_isOrder_1 : decode cX6_isOrder 1 = .ok (.ifCond .lt 12, 3) := by decide +kernel
theorem dX6_isOrder_4 : decode cX6_isOrder 4 = .ok (.iload_n 0, 1) := by decide +kernel
theorem dX6_isOrder_5 : decode cX6_isOrder 5 = .ok (.iconst 3, 1) := by decide +kernel
theorem dX6_isOrder_6 : decode cX6_isOrder 6 = .ok (.if_icmp .ge 7, 3) := by decide +kernel
theorem dX6_isOrder_9 : decode cX6_isOrder 9 = .ok (.iconst 1, 1) := by decide +kernel
theorem dX6_isOrder_10 : decode cX6_isOrder 10 = .ok (.goto 4, 3) := by decide +kernel
theorem dX6_isOrder_13 : decode cX6_isOrder 13 = .ok (.iconst 0, 1) := by decide +kernel
theorem dX6_isOrder_14 : decode cX6_isOrder 14 = .ok (.ireturn, 1) := by decide +kernel
theorem dX6_isVariable_0 : decode cX6_isVariable 0 = .ok (.iload_n 1, 1) := by decide +kernel
theorem dX6_isVariable_1 : decode cX6_isVariable 1 = .ok (.ifCond .lt 15, 3) := by decide +kernel
theorem dX6_isVariable_4 : decode cX6_isVariable 4 = .ok (.iload_n 1, 1) := by decide +kernel
theorem dX6_isVariable_5 : decode cX6_isVariable 5 = .ok (.aload_n 0, 1) := by decide +kernel
theorem dX6_isVariable_6 : decode cX6_isVariable 6 = .ok (.getfield 38, 3) := by decide +kernel
theorem dX6_isVariable_9 : decode cX6_isVariable 9 = .ok (.if_icmp .ge 7, 3) := by decide +kernel
theorem dX6_isVariable_12 : decode cX6_isVariable 12 = .ok (.iconst 1, 1) := by decide +kernel
theorem dX6_isVariable_13 : decode cX6_isVariable 13 = .ok (.goto 4, 3) := by decide +kernel
theorem dX6_isVariable_16 : decode cX6_isVariable 16 = .ok (.iconst 0, 1) := by decide +kernel
theorem dX6_isVariable_17 : decode cX6_isVariable 17 = .ok (.ireturn, 1) := by decide +kernel
theorem dX6_isMask_0 : decode cX6_isMask 0 = .ok (.iload_n 1, 1) := by decide +kernel
theorem dX6_isMask_1 : decode cX6_isMask 1 = .ok (.ifCond .lt 17, 3) := by decide +kernel
theorem dX6_isMask_4 : decode cX6_isMask 4 = .ok (.iload_n 1, 1) := by decide +kernel
theorem dX6_isMask_5 : decode cX6_isMask 5 = .ok (.iconst 1, 1) := by decide +kernel
theorem dX6_isMask_6 : decode cX6_isMask 6 = .ok (.aload_n 0, 1) := by decide +kernel
theorem dX6_isMask_7 : decode cX6_isMask 7 = .ok (.getfield 38, 3) := by decide +kernel
theorem dX6_isMask_10 : decode cX6_isMask 10 = .ok (.ishl, 1) := by decide +kernel
theorem dX6_isMask_11 : decode cX6_isMask 11 = .ok (.if_icmp .ge 7, 3) := by decide +kernel
theorem dX6_isMask_14 : decode cX6_isMask 14 = .ok (.iconst 1, 1) := by decide +kernel
theorem dX6_isMask_15 : decode cX6_isMask 15 = .ok (.goto 4, 3) := by decide +kernel
theorem dX6_isMask_18 : decode cX6_isMask 18 = .ok (.iconst 0, 1) := by decide +kernel
theorem dX6_isMask_19 : decode cX6_isMask 19 = .ok (.ireturn, 1) := by decide +kernel
set_option maxRecDepth 20000 in
theorem ggX6_put_X1_keep : GoodIn wsX6_put wsX1_keep := goodIn_r _ [7, 8, 9, 10, 11, 12, 13, 31, 32] (by decide +kernel) (by decide +kernel)
set_option maxRecDepth 20000 in
theorem gX6_put_X1_keep : GoodIn wsX6_put (wsV RX6 152 RX1 yX1_keep wsX1_keep) := goodIn_app (goodIn_of _ (by decide +kernel)) ggX6_put_X1_keep
set_option maxRecDepth 20000 in
theorem ggX6_put_X6_isRegister : GoodIn wsX6_put wsX6_isRegister := goodIn_r _ [17] (by decide +kernel) (by decide +kernel)
set_option maxRecDepth 20000 in
theorem gX6_put_X6_isRegister : GoodIn wsX6_put (va_wsS RX6 51 yX6_isRegister wsX6_isRegister) := goodIn_app (goodIn_of _ (by decide +kernel)) ggX6_put_X6_isRegister
set_option maxRecDepth 20000 in
theorem ggX6_put_J13_bitCount_95d88 : GoodIn wsX6_put wsJ13_bitCount_95d88 := goodIn_r _ [21, 22, 23, 24] (by decide +kernel) (by decide +kernel)
set_option maxRecDepth 20000 in
theorem gX6_put_J13_bitCount_95d88 : GoodIn wsX6_put (va_wsS RX6 110 yJ13_bitCount_95d88 wsJ13_bitCount_95d88) := goodIn_app (goodIn_of _ (by decide +kernel)) ggX6_put_J13_bitCount_95d88
theorem dX6_put_0 : decode cX6_put 0 = .ok (.aload_n 0, 1) := by decide +kernel
theorem dX6_put_1 : decode cX6_put 1 = .ok (.getfield 20, 3) := by decide +kernel
theorem dX6_put_4 : decode cX6_put 4 = .ok (.aload_n 0, 1) := by decide +kernel
theorem dX6_put_5 : decode cX6_put 5 = .ok (.getfield 9, 3) := by decide +kernel
theorem dX6_put_8 : decode cX6_put 8 = .ok (.invokevirtual 152, 3) := by decide +kernel
theorem dX6_put_11 : decode cX6_put 11 = .ok (.iload_n 1, 1) := by decide +kernel
theorem dX6_put_12 : decode cX6_put 12 = .ok (.invokestatic 51, 3) := by decide +kernel
theorem dX6_put_15 : decode cX6_put 15 = .ok (.ifCond .eq 10, 3) := by decide +kernel
theorem dX6_put_18 : decode cX6_put 18 = .ok (.aload_n 0, 1) := by decide +kernel
theorem dX6_put_19 : decode cX6_put 19 = .ok (.getfield 9, 3) := by decide +kernel
theorem dX6_put_22 : decode cX6_put 22 = .ok (.iload_n 1, 1) := by decide +kernel
theorem dX6_put_23 : decode cX6_put 23 = .ok (.lload_n 2, 1) := by decide +kernel
theorem dX6_put_24 : decode cX6_put 24 = .ok (.lastore, 1) := by decide +kernel
theorem dX6_put_25 : decode cX6_put 25 = .ok (.lload_n 2, 1) := by decide +kernel
theorem dX6_put_26 : decode cX6_put 26 = .ok (.invokestatic 110, 3) := by decide +kernel
theorem dX6_put_29 : decode cX6_put 29 = .ok (.ireturn, 1) := by decide +kernel
theorem dX6_isIn_0 : decode cX6_isIn 0 = .ok (.iload_n 0, 1) := by decide +kernel
theorem dX6_isIn_1 : decode cX6_isIn 1 = .ok (.iload_n 1, 1) := by decide +kernel
theorem dX6_isIn_2 : decode cX6_isIn 2 = .ok (.ishr, 1) := by decide +kernel
theorem dX6_isIn_3 : decode cX6_isIn 3 = .ok (.iconst 1, 1) := by decide +kernel
theorem dX6_isIn_4 : decode cX6_isIn 4 = .ok (.iand, 1) := by decide +kernel
theorem dX6_isIn_5 : decode cX6_isIn 5 = .ok (.iconst 1, 1) := by decide +kernel
theorem dX6_isIn_6 : decode cX6_isIn 6 = .ok (.if_icmp .ne 7, 3) := by decide +kernel
theorem dX6_isIn_9 : decode cX6_isIn 9 = .ok (.iconst 1, 1) := by decide +kernel
theorem dX6_isIn_10 : decode cX6_isIn 10 = .ok (.goto 4, 3) := by decide +kernel
theorem dX6_isIn_13 : decode cX6_isIn 13 = .ok (.iconst 0, 1) := by decide +kernel
theorem dX6_isIn_14 : decode cX6_isIn 14 = .ok (.ireturn, 1) := by decide +kernel
set_option maxRecDepth 20000 in
theorem ggX6_nextOf_X6_isIn : GoodIn wsX6_nextOf wsX6_isIn := goodIn_r _ [4] (by decide +kernel) (by decide +kernel)
set_option maxRecDepth 20000 in
theorem gX6_nextOf_X6_isIn : GoodIn wsX6_nextOf (va_wsS RX6 203 yX6_isIn wsX6_isIn) := goodIn_app (goodIn_of _ (by decide +kernel)) ggX6_nextOf_X6_isIn
theorem dX6_nextOf_0 : decode cX6_nextOf 0 = .ok (.iload_n 1, 1) := by decide +kernel
theorem dX6_nextOf_1 : decode cX6_nextOf 1 = .ok (.istore_n 2, 1) := by decide +kernel
theorem dX6_nextOf_2 : decode cX6_nextOf 2 = .ok (.iload_n 2, 1) := by decide +kernel
theorem dX6_nextOf_3 : decode cX6_nextOf 3 = .ok (.bipush 8, 2) := by decide +kernel
theorem dX6_nextOf_5 : decode cX6_nextOf 5 = .ok (.if_icmp .ge 17, 3) := by decide +kernel
theorem dX6_nextOf_8 : decode cX6_nextOf 8 = .ok (.iload_n 0, 1) := by decide +kernel
theorem dX6_nextOf_9 : decode cX6_nextOf 9 = .ok (.iload_n 2, 1) := by decide +kernel
theorem dX6_nextOf_10 : decode cX6_nextOf 10 = .ok (.invokestatic 203, 3) := by decide +kernel
theorem dX6_nextOf_13 : decode cX6_nextOf 13 = .ok (.ifCond .ne 9, 3) := by decide +kernel
theorem dX6_nextOf_16 : decode cX6_nextOf 16 = .ok (.iinc 2 1, 3) := by decide +kernel
theorem dX6_nextOf_19 : decode cX6_nextOf 19 = .ok (.goto (-17), 3) := by decide +kernel
theorem dX6_nextOf_22 : decode cX6_nextOf 22 = .ok (.iload_n 2, 1) := by decide +kernel
theorem dX6_nextOf_23 : decode cX6_nextOf 23 = .ok (.ireturn, 1) := by decide +kernel
set_option maxRecDepth 20000 in
theorem ggX6_findLeading_X2_termOf : GoodIn wsX6_findLeading wsX2_termOf := goodIn_r _ [6, 7, 8, 9, 10, 11, 12, 13, 14, 15, 5, 16, 17, 18, 19, 20, 21, 22, 23, 24, 25, 26] (by decide +kernel) (by decide +kernel)
set_option maxRecDepth 20000 in
theorem gX6_findLeading_X2_termOf : GoodIn wsX6_findLeading (va_wsS RX6 118 yX2_termOf wsX2_termOf) := goodIn_app (goodIn_of _ (by decide +kernel)) ggX6_findLeading_X2_termOf
theorem dX6_findLeading_0 : decode cX6_findLeading 0 = .ok (.iconst 0, 1) := by decide +kernel
theorem dX6_findLeading_1 : decode cX6_findLeading 1 = .ok (.istore_n 2, 1) := by decide +kernel
theorem dX6_findLeading_2 : decode cX6_findLeading 2 = .ok (.iload_n 2, 1) := by decide +kernel
theorem dX6_findLeading_3 : decode cX6_findLeading 3 = .ok (.bipush 8, 2) := by decide +kernel
theorem dX6_findLeading_5 : decode cX6_findLeading 5 = .ok (.if_icmp .ge 26, 3) := by decide +kernel
theorem dX6_findLeading_8 : decode cX6_findLeading 8 = .ok (.aload_n 0, 1) := by decide +kernel
theorem dX6_findLeading_9 : decode cX6_findLeading 9 = .ok (.getfield 13, 3) := by decide +kernel
theorem dX6_findLeading_12 : decode cX6_findLeading 12 = .ok (.iload_n 2, 1) := by decide +kernel
theorem dX6_findLeading_13 : decode cX6_findLeading 13 = .ok (.aload_n 0, 1) := by decide +kernel
theorem dX6_findLeading_14 : decode cX6_findLeading 14 = .ok (.getfield 9, 3) := by decide +kernel
theorem dX6_findLeading_17 : decode cX6_findLeading 17 = .ok (.iload_n 2, 1) := by decide +kernel
theorem dX6_findLeading_18 : decode cX6_findLeading 18 = .ok (.laload, 1) := by decide +kernel
theorem dX6_findLeading_19 : decode cX6_findLeading 19 = .ok (.iload_n 1, 1) := by decide +kernel
theorem dX6_findLeading_20 : decode cX6_findLeading 20 = .ok (.iconst 0, 1) := by decide +kernel
theorem dX6_findLeading_21 : decode cX6_findLeading 21 = .ok (.invokestatic 118, 3) := by decide +kernel
theorem dX6_findLeading_24 : decode cX6_findLeading 24 = .ok (.iastore, 1) := by decide +kernel
theorem dX6_findLeading_25 : decode cX6_findLeading 25 = .ok (.iinc 2 1, 3) := by decide +kernel
theorem dX6_findLeading_28 : decode cX6_findLeading 28 = .ok (.goto (-26), 3) := by decide +kernel
theorem dX6_findLeading_31 : decode cX6_findLeading 31 = .ok (.return_, 1) := by decide +kernel
set_option maxRecDepth 20000 in
theorem ggX6_reducerOf_X6_isIn : GoodIn wsX6_reducerOf wsX6_isIn := goodIn_r _ [5] (by decide +kernel) (by decide +kernel)
set_option maxRecDepth 20000 in
theorem gX6_reducerOf_X6_isIn : GoodIn wsX6_reducerOf (va_wsS RX6 203 yX6_isIn wsX6_isIn) := goodIn_app (goodIn_of _ (by decide +kernel)) ggX6_reducerOf_X6_isIn
theorem dX6_reducerOf_0 : decode cX6_reducerOf 0 = .ok (.iconst 0, 1) := by decide +kernel
theorem dX6_reducerOf_1 : decode cX6_reducerOf 1 = .ok (.istore_n 3, 1) := by decide +kernel
theorem dX6_reducerOf_2 : decode cX6_reducerOf 2 = .ok (.iload_n 3, 1) := by decide +kernel
theorem dX6_reducerOf_3 : decode cX6_reducerOf 3 = .ok (.bipush 8, 2) := by decide +kernel
theorem dX6_reducerOf_5 : decode cX6_reducerOf 5 = .ok (.if_icmp .ge 41, 3) := by decide +kernel
theorem dX6_reducerOf_8 : decode cX6_reducerOf 8 = .ok (.iload_n 2, 1) := by decide +kernel
theorem dX6_reducerOf_9 : decode cX6_reducerOf 9 = .ok (.iload_n 3, 1) := by decide +kernel
theorem dX6_reducerOf_10 : decode cX6_reducerOf 10 = .ok (.invokestatic 203, 3) := by decide +kernel
theorem dX6_reducerOf_13 : decode cX6_reducerOf 13 = .ok (.ifCond .eq 27, 3) := by decide +kernel
theorem dX6_reducerOf_16 : decode cX6_reducerOf 16 = .ok (.aload_n 0, 1) := by decide +kernel
theorem dX6_reducerOf_17 : decode cX6_reducerOf 17 = .ok (.getfield 13, 3) := by decide +kernel
theorem dX6_reducerOf_20 : decode cX6_reducerOf 20 = .ok (.iload_n 3, 1) := by decide +kernel
theorem dX6_reducerOf_21 : decode cX6_reducerOf 21 = .ok (.iaload, 1) := by decide +kernel
theorem dX6_reducerOf_22 : decode cX6_reducerOf 22 = .ok (.ifCond .lt 18, 3) := by decide +kernel
theorem dX6_reducerOf_25 : decode cX6_reducerOf 25 = .ok (.aload_n 0, 1) := by decide +kernel
theorem dX6_reducerOf_26 : decode cX6_reducerOf 26 = .ok (.getfield 13, 3) := by decide +kernel
theorem dX6_reducerOf_29 : decode cX6_reducerOf 29 = .ok (.iload_n 3, 1) := by decide +kernel
theorem dX6_reducerOf_30 : decode cX6_reducerOf 30 = .ok (.iaload, 1) := by decide +kernel
theorem dX6_reducerOf_31 : decode cX6_reducerOf 31 = .ok (.iload_n 1, 1) := by decide +kernel
theorem dX6_reducerOf_32 : decode cX6_reducerOf 32 = .ok (.iconst (-1), 1) := by decide +kernel
theorem dX6_reducerOf_33 : decode cX6_reducerOf 33 = .ok (.ixor, 1) := by decide +kernel
theorem dX6_reducerOf_34 : decode cX6_reducerOf 34 = .ok (.iand, 1) := by decide +kernel
theorem dX6_reducerOf_35 : decode cX6_reducerOf 35 = .ok (.ifCond .ne 5, 3) := by decide +kernel
theorem dX6_reducerOf_38 : decode cX6_reducerOf 38 = .ok (.iload_n 3, 1) := by decide +kernel
theorem dX6_reducerOf_39 : decode cX6_reducerOf 39 = .ok (.ireturn, 1) := by decide +kernel
theorem dX6_reducerOf_40 : decode cX6_reducerOf 40 = .ok (.iinc 3 1, 3) := by decide +kernel
theorem dX6_reducerOf_43 : decode cX6_reducerOf 43 = .ok (.goto (-41), 3) := by decide +kernel
theorem dX6_reducerOf_46 : decode cX6_reducerOf 46 = .ok (.bipush (-4), 2) := by decide +kernel
theorem dX6_reducerOf_48 : decode cX6_reducerOf 48 = .ok (.ireturn, 1) := by decide +kernel
set_option maxRecDepth 20000 in
theorem ggX6_bringUp_X6_isRegister : GoodIn wsX6_bringUp wsX6_isRegister := goodIn_r _ [5] (by decide +kernel) (by decide +kernel)
set_option maxRecDepth 20000 in
theorem gX6_bringUp_X6_isRegister : GoodIn wsX6_bringUp (va_wsS RX6 51 yX6_isRegister wsX6_isRegister) := goodIn_app (goodIn_of _ (by decide +kernel)) ggX6_bringUp_X6_isRegister
set_option maxRecDepth 20000 in
theorem ggX6_bringUp_X6_isIn : GoodIn wsX6_bringUp wsX6_isIn := goodIn_r _ [8] (by decide +kernel) (by decide +kernel)
set_option maxRecDepth 20000 in
theorem gX6_bringUp_X6_isIn : GoodIn wsX6_bringUp (va_wsS RX6 203 yX6_isIn wsX6_isIn) := goodIn_app (goodIn_of _ (by decide +kernel)) ggX6_bringUp_X6_isIn
set_option maxRecDepth 20000 in
theorem ggX6_bringUp_X3_bit : GoodIn wsX6_bringUp wsX3_bit := goodIn_r _ [12] (by decide +kernel) (by decide +kernel)
set_option maxRecDepth 20000 in
theorem gX6_bringUp_X3_bit : GoodIn wsX6_bringUp (va_wsS RX6 106 yX3_bit wsX3_bit) := goodIn_app (goodIn_of _ (by decide +kernel)) ggX6_bringUp_X3_bit
theorem dX6_bringUp_0 : decode cX6_bringUp 0 = .ok (.iload_n 2, 1) := by decide +kernel
theorem dX6_bringUp_1 : decode cX6_bringUp 1 = .ok (.invokestatic 51, 3) := by decide +kernel
theorem dX6_bringUp_4 : decode cX6_bringUp 4 = .ok (.ifCond .ne 5, 3) := by decide +kernel
theorem dX6_bringUp_7 : decode cX6_bringUp 7 = .ok (.iconst 0, 1) := by decide +kernel
theorem dX6_bringUp_8 : decode cX6_bringUp 8 = .ok (.ireturn, 1) := by decide +kernel
theorem dX6_bringUp_9 : decode cX6_bringUp 9 = .ok (.iload_n 2, 1) := by decide +kernel
theorem dX6_bringUp_10 : decode cX6_bringUp 10 = .ok (.istore 4, 2) := by decide +kernel
theorem dX6_bringUp_12 : decode cX6_bringUp 12 = .ok (.iload 4, 2) := by decide +kernel
theorem dX6_bringUp_14 : decode cX6_bringUp 14 = .ok (.bipush 8, 2) := by decide +kernel
theorem dX6_bringUp_16 : decode cX6_bringUp 16 = .ok (.if_icmp .ge 65, 3) := by decide +kernel
theorem dX6_bringUp_19 : decode cX6_bringUp 19 = .ok (.iload_n 1, 1) := by decide +kernel
theorem dX6_bringUp_20 : decode cX6_bringUp 20 = .ok (.iload 4, 2) := by decide +kernel
theorem dX6_bringUp_22 : decode cX6_bringUp 22 = .ok (.invokestatic 203, 3) := by decide +kernel
theorem dX6_bringUp_25 : decode cX6_bringUp 25 = .ok (.ifCond .eq 50, 3) := by decide +kernel
theorem dX6_bringUp_28 : decode cX6_bringUp 28 = .ok (.aload_n 0, 1) := by decide +kernel
theorem dX6_bringUp_29 : decode cX6_bringUp 29 = .ok (.getfield 9, 3) := by decide +kernel
theorem dX6_bringUp_32 : decode cX6_bringUp 32 = .ok (.iload 4, 2) := by decide +kernel
theorem dX6_bringUp_34 : decode cX6_bringUp 34 = .ok (.laload, 1) := by decide +kernel
theorem dX6_bringUp_35 : decode cX6_bringUp 35 = .ok (.iload_n 3, 1) := by decide +kernel
theorem dX6_bringUp_36 : decode cX6_bringUp 36 = .ok (.invokestatic 106, 3) := by decide +kernel
theorem dX6_bringUp_39 : decode cX6_bringUp 39 = .ok (.iconst 1, 1) := by decide +kernel
theorem dX6_bringUp_40 : decode cX6_bringUp 40 = .ok (.if_icmp .ne 35, 3) := by decide +kernel
theorem dX6_bringUp_43 : decode cX6_bringUp 43 = .ok (.aload_n 0, 1) := by decide +kernel
theorem dX6_bringUp_44 : decode cX6_bringUp 44 = .ok (.getfield 9, 3) := by decide +kernel
theorem dX6_bringUp_47 : decode cX6_bringUp 47 = .ok (.iload 4, 2) := by decide +kernel
theorem dX6_bringUp_49 : decode cX6_bringUp 49 = .ok (.laload, 1) := by decide +kernel
theorem dX6_bringUp_50 : decode cX6_bringUp 50 = .ok (.lstore 5, 2) := by decide +kernel
theorem dX6_bringUp_52 : decode cX6_bringUp 52 = .ok (.aload_n 0, 1) := by decide +kernel
theorem dX6_bringUp_53 : decode cX6_bringUp 53 = .ok (.getfield 9, 3) := by decide +kernel
theorem dX6_bringUp_56 : decode cX6_bringUp 56 = .ok (.iload 4, 2) := by decide +kernel
theorem dX6_bringUp_58 : decode cX6_bringUp 58 = .ok (.aload_n 0, 1) := by decide +kernel
theorem dX6_bringUp_59 : decode cX6_bringUp 59 = .ok (.getfield 9, 3) := by decide +kernel
theorem dX6_bringUp_62 : decode cX6_bringUp 62 = .ok (.iload_n 2, 1) := by decide +kernel
theorem dX6_bringUp_63 : decode cX6_bringUp 63 = .ok (.laload, 1) := by decide +kernel
theorem dX6_bringUp_64 : decode cX6_bringUp 64 = .ok (.lastore, 1) := by decide +kernel
theorem dX6_bringUp_65 : decode cX6_bringUp 65 = .ok (.aload_n 0, 1) := by decide +kernel
theorem dX6_bringUp_66 : decode cX6_bringUp 66 = .ok (.getfield 9, 3) := by decide +kernel
theorem dX6_bringUp_69 : decode cX6_bringUp 69 = .ok (.iload_n 2, 1) := by decide +kernel
theorem dX6_bringUp_70 : decode cX6_bringUp 70 = .ok (.lload 5, 2) := by decide +kernel
theorem dX6_bringUp_72 : decode cX6_bringUp 72 = .ok (.lastore, 1) := by decide +kernel
theorem dX6_bringUp_73 : decode cX6_bringUp 73 = .ok (.iconst 1, 1) := by decide +kernel
theorem dX6_bringUp_74 : decode cX6_bringUp 74 = .ok (.ireturn, 1) := by decide +kernel
theorem dX6_bringUp_75 : decode cX6_bringUp 75 = .ok (.iinc 4 1, 3) := by decide +kernel
theorem dX6_bringUp_78 : decode cX6_bringUp 78 = .ok (.goto (-66), 3) := by decide +kernel
theorem dX6_bringUp_81 : decode cX6_bringUp 81 = .ok (.iconst 0, 1) := by decide +kernel
theorem dX6_bringUp_82 : decode cX6_bringUp 82 = .ok (.ireturn, 1) := by decide +kernel
set_option maxRecDepth 20000 in
theorem ggX6_clearElsewhere_X6_isRegister : GoodIn wsX6_clearElsewhere wsX6_isRegister := goodIn_r _ [5] (by decide +kernel) (by decide +kernel)
set_option maxRecDepth 20000 in
theorem gX6_clearElsewhere_X6_isRegister : GoodIn wsX6_clearElsewhere (va_wsS RX6 51 yX6_isRegister wsX6_isRegister) := goodIn_app (goodIn_of _ (by decide +kernel)) ggX6_clearElsewhere_X6_isRegister
set_option maxRecDepth 20000 in
theorem ggX6_clearElsewhere_X6_isIn : GoodIn wsX6_clearElsewhere wsX6_isIn := goodIn_r _ [8] (by decide +kernel) (by decide +kernel)
set_option maxRecDepth 20000 in
theorem gX6_clearElsewhere_X6_isIn : GoodIn wsX6_clearElsewhere (va_wsS RX6 203 yX6_isIn wsX6_isIn) := goodIn_app (goodIn_of _ (by decide +kernel)) ggX6_clearElsewhere_X6_isIn
set_option maxRecDepth 20000 in
theorem ggX6_clearElsewhere_X3_bit : GoodIn wsX6_clearElsewhere wsX3_bit := goodIn_r _ [12] (by decide +kernel) (by decide +kernel)
set_option maxRecDepth 20000 in
theorem gX6_clearElsewhere_X3_bit : GoodIn wsX6_clearElsewhere (va_wsS RX6 106 yX3_bit wsX3_bit) := goodIn_app (goodIn_of _ (by decide +kernel)) ggX6_clearElsewhere_X3_bit
theorem dX6_clearElsewhere_0 : decode cX6_clearElsewhere 0 = .ok (.iload_n 2, 1) := by decide +kernel
theorem dX6_clearElsewhere_1 : decode cX6_clearElsewhere 1 = .ok (.invokestatic 51, 3) := by decide +kernel
theorem dX6_clearElsewhere_4 : decode cX6_clearElsewhere 4 = .ok (.ifCond .ne 4, 3) := by decide +kernel
theorem dX6_clearElsewhere_7 : decode cX6_clearElsewhere 7 = .ok (.return_, 1) := by decide +kernel
theorem dX6_clearElsewhere_8 : decode cX6_clearElsewhere 8 = .ok (.iconst 0, 1) := by decide +kernel
theorem dX6_clearElsewhere_9 : decode cX6_clearElsewhere 9 = .ok (.istore 4, 2) := by decide +kernel
theorem dX6_clearElsewhere_11 : decode cX6_clearElsewhere 11 = .ok (.iload 4, 2) := by decide +kernel
theorem dX6_clearElsewhere_13 : decode cX6_clearElsewhere 13 = .ok (.bipush 8, 2) := by decide +kernel
theorem dX6_clearElsewhere_15 : decode cX6_clearElsewhere 15 = .ok (.if_icmp .ge 55, 3) := by decide +kernel
theorem dX6_clearElsewhere_18 : decode cX6_clearElsewhere 18 = .ok (.iload 4, 2) := by decide +kernel
theorem dX6_clearElsewhere_20 : decode cX6_clearElsewhere 20 = .ok (.iload_n 2, 1) := by decide +kernel
theorem dX6_clearElsewhere_21 : decode cX6_clearElsewhere 21 = .ok (.if_icmp .eq 43, 3) := by decide +kernel
theorem dX6_clearElsewhere_24 : decode cX6_clearElsewhere 24 = .ok (.iload_n 1, 1) := by decide +kernel
theorem dX6_clearElsewhere_25 : decode cX6_clearElsewhere 25 = .ok (.iload 4, 2) := by decide +kernel
theorem dX6_clearElsewhere_27 : decode cX6_clearElsewhere 27 = .ok (.invokestatic 203, 3) := by decide +kernel
theorem dX6_clearElsewhere_30 : decode cX6_clearElsewhere 30 = .ok (.ifCond .eq 34, 3) := by decide +kernel
theorem dX6_clearElsewhere_33 : decode cX6_clearElsewhere 33 = .ok (.aload_n 0, 1) := by decide +kernel
theorem dX6_clearElsewhere_34 : decode cX6_clearElsewhere 34 = .ok (.getfield 9, 3) := by decide +kernel
theorem dX6_clearElsewhere_37 : decode cX6_clearElsewhere 37 = .ok (.iload 4, 2) := by decide +kernel
theorem dX6_clearElsewhere_39 : decode cX6_clearElsewhere 39 = .ok (.laload, 1) := by decide +kernel
theorem dX6_clearElsewhere_40 : decode cX6_clearElsewhere 40 = .ok (.iload_n 3, 1) := by decide +kernel
theorem dX6_clearElsewhere_41 : decode cX6_clearElsewhere 41 = .ok (.invokestatic 106, 3) := by decide +kernel
theorem dX6_clearElsewhere_44 : decode cX6_clearElsewhere 44 = .ok (.iconst 1, 1) := by decide +kernel
theorem dX6_clearElsewhere_45 : decode cX6_clearElsewhere 45 = .ok (.if_icmp .ne 19, 3) := by decide +kernel
theorem dX6_clearElsewhere_48 : decode cX6_clearElsewhere 48 = .ok (.aload_n 0, 1) := by decide +kernel
theorem dX6_clearElsewhere_49 : decode cX6_clearElsewhere 49 = .ok (.getfield 9, 3) := by decide +kernel
theorem dX6_clearElsewhere_52 : decode cX6_clearElsewhere 52 = .ok (.iload 4, 2) := by decide +kernel
theorem dX6_clearElsewhere_54 : decode cX6_clearElsewhere 54 = .ok (.dup2, 1) := by decide +kernel
theorem dX6_clearElsewhere_55 : decode cX6_clearElsewhere 55 = .ok (.laload, 1) := by decide +kernel
theorem dX6_clearElsewhere_56 : decode cX6_clearElsewhere 56 = .ok (.aload_n 0, 1) := by decide +kernel
theorem dX6_clearElsewhere_57 : decode cX6_clearElsewhere 57 = .ok (.getfield 9, 3) := by decide +kernel
theorem dX6_clearElsewhere_60 : decode cX6_clearElsewhere 60 = .ok (.iload_n 2, 1) := by decide +kernel
theorem dX6_clearElsewhere_61 : decode cX6_clearElsewhere 61 = .ok (.laload, 1) := by decide +kernel
theorem dX6_clearElsewhere_62 : decode cX6_clearElsewhere 62 = .ok (.lxor, 1) := by decide +kernel
theorem dX6_clearElsewhere_63 : decode cX6_clearElsewhere 63 = .ok (.lastore, 1) := by decide +kernel
theorem dX6_clearElsewhere_64 : decode cX6_clearElsewhere 64 = .ok (.iinc 4 1, 3) := by decide +kernel
theorem dX6_clearElsewhere_67 : decode cX6_clearElsewhere 67 = .ok (.goto (-56), 3) := by decide +kernel
theorem dX6_clearElsewhere_70 : decode cX6_clearElsewhere 70 = .ok (.return_, 1) := by decide +kernel
theorem dX6_allPoints_0 : decode cX6_allPoints 0 = .ok (.aload_n 0, 1) := by decide +kernel
theorem dX6_allPoints_1 : decode cX6_allPoints 1 = .ok (.getfield 38, 3) := by decide +kernel
theorem dX6_allPoints_4 : decode cX6_allPoints 4 = .ok (.bipush 6, 2) := by decide +kernel
theorem dX6_allPoints_6 : decode cX6_allPoints 6 = .ok (.if_icmp .lt 9, 3) := by decide +kernel
theorem dX6_allPoints_9 : decode cX6_allPoints 9 = .ok (.ldc2_w 180, 3) := by decide +kernel
theorem dX6_allPoints_12 : decode cX6_allPoints 12 = .ok (.goto 13, 3) := by decide +kernel
theorem dX6_allPoints_15 : decode cX6_allPoints 15 = .ok (.lconst 1, 1) := by decide +kernel
theorem dX6_allPoints_16 : decode cX6_allPoints 16 = .ok (.iconst 1, 1) := by decide +kernel
theorem dX6_allPoints_17 : decode cX6_allPoints 17 = .ok (.aload_n 0, 1) := by decide +kernel
theorem dX6_allPoints_18 : decode cX6_allPoints 18 = .ok (.getfield 38, 3) := by decide +kernel
theorem dX6_allPoints_21 : decode cX6_allPoints 21 = .ok (.ishl, 1) := by decide +kernel
theorem dX6_allPoints_22 : decode cX6_allPoints 22 = .ok (.lshl, 1) := by decide +kernel
theorem dX6_allPoints_23 : decode cX6_allPoints 23 = .ok (.lconst 1, 1) := by decide +kernel
theorem dX6_allPoints_24 : decode cX6_allPoints 24 = .ok (.lsub, 1) := by decide +kernel
theorem dX6_allPoints_25 : decode cX6_allPoints 25 = .ok (.lreturn, 1) := by decide +kernel
set_option maxRecDepth 20000 in
theorem ggX6_nonZeros_X6_isIn : GoodIn wsX6_nonZeros wsX6_isIn := goodIn_r _ [6] (by decide +kernel) (by decide +kernel)
set_option maxRecDepth 20000 in
theorem gX6_nonZeros_X6_isIn : GoodIn wsX6_nonZeros (va_wsS RX6 203 yX6_isIn wsX6_isIn) := goodIn_app (goodIn_of _ (by decide +kernel)) ggX6_nonZeros_X6_isIn
set_option maxRecDepth 20000 in
theorem ggX6_nonZeros_X3_transformed : GoodIn wsX6_nonZeros wsX3_transformed := goodIn_r _ [10, 11, 12, 9, 13, 14, 15, 16, 17] (by decide +kernel) (by decide +kernel)
set_option maxRecDepth 20000 in
theorem gX6_nonZeros_X3_transformed : GoodIn wsX6_nonZeros (va_wsS RX6 82 yX3_transformed wsX3_transformed) := goodIn_app (goodIn_of _ (by decide +kernel)) ggX6_nonZeros_X3_transformed
theorem dX6_nonZeros_0 : decode cX6_nonZeros 0 = .ok (.lconst 0, 1) := by decide +kernel
theorem dX6_nonZeros_1 : decode cX6_nonZeros 1 = .ok (.lstore_n 2, 1) := by decide +kernel
theorem dX6_nonZeros_2 : decode cX6_nonZeros 2 = .ok (.iconst 0, 1) := by decide +kernel
theorem dX6_nonZeros_3 : decode cX6_nonZeros 3 = .ok (.istore 4, 2) := by decide +kernel
theorem dX6_nonZeros_5 : decode cX6_nonZeros 5 = .ok (.iload 4, 2) := by decide +kernel
theorem dX6_nonZeros_7 : decode cX6_nonZeros 7 = .ok (.bipush 8, 2) := by decide +kernel
theorem dX6_nonZeros_9 : decode cX6_nonZeros 9 = .ok (.if_icmp .ge 35, 3) := by decide +kernel
theorem dX6_nonZeros_12 : decode cX6_nonZeros 12 = .ok (.iload_n 1, 1) := by decide +kernel
theorem dX6_nonZeros_13 : decode cX6_nonZeros 13 = .ok (.iload 4, 2) := by decide +kernel
theorem dX6_nonZeros_15 : decode cX6_nonZeros 15 = .ok (.invokestatic 203, 3) := by decide +kernel
theorem dX6_nonZeros_18 : decode cX6_nonZeros 18 = .ok (.ifCond .eq 20, 3) := by decide +kernel
theorem dX6_nonZeros_21 : decode cX6_nonZeros 21 = .ok (.lload_n 2, 1) := by decide +kernel
theorem dX6_nonZeros_22 : decode cX6_nonZeros 22 = .ok (.aload_n 0, 1) := by decide +kernel
theorem dX6_nonZeros_23 : decode cX6_nonZeros 23 = .ok (.getfield 9, 3) := by decide +kernel
theorem dX6_nonZeros_26 : decode cX6_nonZeros 26 = .ok (.iload 4, 2) := by decide +kernel
theorem dX6_nonZeros_28 : decode cX6_nonZeros 28 = .ok (.laload, 1) := by decide +kernel
theorem dX6_nonZeros_29 : decode cX6_nonZeros 29 = .ok (.aload_n 0, 1) := by decide +kernel
theorem dX6_nonZeros_30 : decode cX6_nonZeros 30 = .ok (.getfield 38, 3) := by decide +kernel
theorem dX6_nonZeros_33 : decode cX6_nonZeros 33 = .ok (.invokestatic 82, 3) := by decide +kernel
theorem dX6_nonZeros_36 : decode cX6_nonZeros 36 = .ok (.lor, 1) := by decide +kernel
theorem dX6_nonZeros_37 : decode cX6_nonZeros 37 = .ok (.lstore_n 2, 1) := by decide +kernel
theorem dX6_nonZeros_38 : decode cX6_nonZeros 38 = .ok (.iinc 4 1, 3) := by decide +kernel
theorem dX6_nonZeros_41 : decode cX6_nonZeros 41 = .ok (.goto (-36), 3) := by decide +kernel
theorem dX6_nonZeros_44 : decode cX6_nonZeros 44 = .ok (.lload_n 2, 1) := by decide +kernel
theorem dX6_nonZeros_45 : decode cX6_nonZeros 45 = .ok (.lreturn, 1) := by decide +kernel
set_option maxRecDepth 20000 in
theorem ggX6_commonZeros_X6_allPoints : GoodIn wsX6_commonZeros wsX6_allPoints := goodIn_r _ [6, 7, 1, 27, 28, 29, 30, 31, 32] (by decide +kernel) (by decide +kernel)
set_option maxRecDepth 20000 in
theorem gX6_commonZeros_X6_allPoints : GoodIn wsX6_commonZeros (wsV RX6 176 RX6 yX6_allPoints wsX6_allPoints) := goodIn_app (goodIn_of _ (by decide +kernel)) ggX6_commonZeros_X6_allPoints
set_option maxRecDepth 20000 in
theorem ggX6_commonZeros_X6_nonZeros : GoodIn wsX6_commonZeros wsX6_nonZeros := goodIn_r _ [11, 12, 7, 13, 14, 5, 15, 16, 17, 18, 19, 20, 21, 22, 23, 24, 25, 26, 27, 28, 29, 30, 31, 32] (by decide +kernel) (by decide +kernel)
set_option maxRecDepth 20000 in
theorem gX6_commonZeros_X6_nonZeros : GoodIn wsX6_commonZeros (wsV RX6 170 RX6 yX6_nonZeros wsX6_nonZeros) := goodIn_app (goodIn_of _ (by decide +kernel)) ggX6_commonZeros_X6_nonZeros
theorem dX6_commonZeros_0 : decode cX6_commonZeros 0 = .ok (.aload_n 0, 1) := by decide +kernel
theorem dX6_commonZeros_1 : decode cX6_commonZeros 1 = .ok (.invokevirtual 176, 3) := by decide +kernel
theorem dX6_commonZeros_4 : decode cX6_commonZeros 4 = .ok (.aload_n 0, 1) := by decide +kernel
theorem dX6_commonZeros_5 : decode cX6_commonZeros 5 = .ok (.iload_n 1, 1) := by decide +kernel
theorem dX6_commonZeros_6 : decode cX6_commonZeros 6 = .ok (.invokevirtual 170, 3) := by decide +kernel
theorem dX6_commonZeros_9 : decode cX6_commonZeros 9 = .ok (.ldc2_w 180, 3) := by decide +kernel
theorem dX6_commonZeros_12 : decode cX6_commonZeros 12 = .ok (.lxor, 1) := by decide +kernel
theorem dX6_commonZeros_13 : decode cX6_commonZeros 13 = .ok (.land, 1) := by decide +kernel
theorem dX6_commonZeros_14 : decode cX6_commonZeros 14 = .ok (.lreturn, 1) := by decide +kernel
theorem dX7_init_0 : decode cX7_init 0 = .ok (.aload_n 0, 1) := by decide +kernel
theorem dX7_init_1 : decode cX7_init 1 = .ok (.invokespecial 1, 3) := by decide +kernel
theorem dX7_init_4 : decode cX7_init 4 = .ok (.aload_n 0, 1) := by decide +kernel
theorem dX7_init_5 : decode cX7_init 5 = .ok (.iconst 4, 1) := by decide +kernel
theorem dX7_init_6 : decode cX7_init 6 = .ok (.putfield 7, 3) := by decide +kernel
theorem dX7_init_9 : decode cX7_init 9 = .ok (.aload_n 0, 1) := by decide +kernel
theorem dX7_init_10 : decode cX7_init 10 = .ok (.bipush 8, 2) := by decide +kernel
theorem dX7_init_12 : decode cX7_init 12 = .ok (.newarray .long, 2) := by decide +kernel
theorem dX7_init_14 : decode cX7_init 14 = .ok (.putfield 13, 3) := by decide +kernel
theorem dX7_init_17 : decode cX7_init 17 = .ok (.aload_n 0, 1) := by decide +kernel
theorem dX7_init_18 : decode cX7_init 18 = .ok (.bipush 48, 2) := by decide +kernel
theorem dX7_init_20 : decode cX7_init 20 = .ok (.newarray .long, 2) := by decide +kernel
theorem dX7_init_22 : decode cX7_init 22 = .ok (.putfield 17, 3) := by decide +kernel
theorem dX7_init_25 : decode cX7_init 25 = .ok (.aload_n 0, 1) := by decide +kernel
theorem dX7_init_26 : decode cX7_init 26 = .ok (.bipush 60, 2) := by decide +kernel
theorem dX7_init_28 : decode cX7_init 28 = .ok (.newarray .char, 2) := by decide +kernel
theorem dX7_init_30 : decode cX7_init 30 = .ok (.putfield 20, 3) := by decide +kernel
theorem dX7_init_33 : decode cX7_init 33 = .ok (.aload_n 0, 1) := by decide +kernel
theorem dX7_init_34 : decode cX7_init 34 = .ok (.sipush 1024, 3) := by decide +kernel
theorem dX7_init_37 : decode cX7_init 37 = .ok (.newarray .long, 2) := by decide +kernel
theorem dX7_init_39 : decode cX7_init 39 = .ok (.putfield 24, 3) := by decide +kernel
theorem dX7_init_42 : decode cX7_init 42 = .ok (.aload_n 0, 1) := by decide +kernel
theorem dX7_init_43 : decode cX7_init 43 = .ok (.bipush 8, 2) := by decide +kernel
theorem dX7_init_45 : decode cX7_init 45 = .ok (.newarray .long, 2) := by decide +kernel
theorem dX7_init_47 : decode cX7_init 47 = .ok (.putfield 27, 3) := by decide +kernel
theorem dX7_init_50 : decode cX7_init 50 = .ok (.return_, 1) := by decide +kernel
theorem dX7_in_0 : decode cX7_in 0 = .ok (.iload_n 0, 1) := by decide +kernel
theorem dX7_in_1 : decode cX7_in 1 = .ok (.iload_n 1, 1) := by decide +kernel
theorem dX7_in_2 : decode cX7_in 2 = .ok (.if_icmp .lt 12, 3) := by decide +kernel
theorem dX7_in_5 : decode cX7_in 5 = .ok (.iload_n 0, 1) := by decide +kernel
theorem dX7_in_6 : decode cX7_in 6 = .ok (.iload_n 2, 1) := by decide +kernel
theorem dX7_in_7 : decode cX7_in 7 = .ok (.if_icmp .gt 7, 3) := by decide +kernel
theorem dX7_in_10 : decode cX7_in 10 = .ok (.iconst 1, 1) := by decide +kernel
theorem dX7_in_11 : decode cX7_in 11 = .ok (.goto 4, 3) := by decide +kernel
theorem dX7_in_14 : decode cX7_in 14 = .ok (.iconst 0, 1) := by decide +kernel
theorem dX7_in_15 : decode cX7_in 15 = .ok (.ireturn, 1) := by decide +kernel
set_option maxRecDepth 20000 in
theorem ggX7_isRegister_X7_in : GoodIn wsX7_isRegister wsX7_in := goodIn_r _ [4] (by decide +kernel) (by decide +kernel)
set_option maxRecDepth 20000 in
theorem gX7_isRegister_X7_in : GoodIn wsX7_isRegister (va_wsS RX7 30 yX7_in wsX7_in) := goodIn_app (goodIn_of _ (by decide +kernel)) ggX7_isRegister_X7_in
theorem dX7_isRegister_0 : decode cX7_isRegister 0 = .ok (.iload_n 0, 1) := by decide +kernel
theorem dX7_isRegister_1 : decode cX7_isRegister 1 = .ok (.iconst 0, 1) := by decide +kernel
theorem dX7_isRegister_2 : decode cX7_isRegister 2 = .ok (.bipush 7, 2) := by decide +kernel
theorem dX7_isRegister_4 : decode cX7_isRegister 4 = .ok (.invokestatic 30, 3) := by decide +kernel
theorem dX7_isRegister_7 : decode cX7_isRegister 7 = .ok (.ireturn, 1) := by decide +kernel
set_option maxRecDepth 20000 in
theorem ggX7_isVariable_X7_in : GoodIn wsX7_isVariable wsX7_in := goodIn_r _ [5] (by decide +kernel) (by decide +kernel)
set_option maxRecDepth 20000 in
theorem gX7_isVariable_X7_in : GoodIn wsX7_isVariable (va_wsS RX7 30 yX7_in wsX7_in) := goodIn_app (goodIn_of _ (by decide +kernel)) ggX7_isVariable_X7_in
theorem dX7_isVariable_0 : decode cX7_isVariable 0 = .ok (.iload_n 1, 1) := by decide +kernel
theorem dX7_isVariable_1 : decode cX7_isVariable 1 = .ok (.iconst 0, 1) := by decide +kernel
theorem dX7_isVariable_2 : decode cX7_isVariable 2 = .ok (.aload_n 0, 1) := by decide +kernel
theorem dX7_isVariable_3 : decode cX7_isVariable 3 = .ok (.getfield 7, 3) := by decide +kernel
theorem dX7_isVariable_6 : decode cX7_isVariable 6 = .ok (.iconst 1, 1) := by decide +kernel
theorem dX7_isVariable_7 : decode cX7_isVariable 7 = .ok (.isub, 1) := by decide +kernel
theorem dX7_isVariable_8 : decode cX7_isVariable 8 = .ok (.invokestatic 30, 3) := by decide +kernel
theorem dX7_isVariable_11 : decode cX7_isVariable 11 = .ok (.ireturn, 1) := by decide +kernel
set_option maxRecDepth 20000 in
theorem ggX7_isMask_X7_in : GoodIn wsX7_isMask wsX7_in := goodIn_r _ [5] (by decide +kernel) (by decide +kernel)
set_option maxRecDepth 20000 in
theorem gX7_isMask_X7_in : GoodIn wsX7_isMask (va_wsS RX7 30 yX7_in wsX7_in) := goodIn_app (goodIn_of _ (by decide +kernel)) ggX7_isMask_X7_in
theorem dX7_isMask_0 : decode cX7_isMask 0 = .ok (.iload_n 1, 1) := by decide +kernel
theorem dX7_isMask_1 : decode cX7_isMask 1 = .ok (.iconst 0, 1) := by decide +kernel
theorem dX7_isMask_2 : decode cX7_isMask 2 = .ok (.iconst 1, 1) := by decide +kernel
theorem dX7_isMask_3 : decode cX7_isMask 3 = .ok (.aload_n 0, 1) := by decide +kernel
theorem dX7_isMask_4 : decode cX7_isMask 4 = .ok (.getfield 7, 3) := by decide +kernel
theorem dX7_isMask_7 : decode cX7_isMask 7 = .ok (.ishl, 1) := by decide +kernel
theorem dX7_isMask_8 : decode cX7_isMask 8 = .ok (.iconst 1, 1) := by decide +kernel
theorem dX7_isMask_9 : decode cX7_isMask 9 = .ok (.isub, 1) := by decide +kernel
theorem dX7_isMask_10 : decode cX7_isMask 10 = .ok (.invokestatic 30, 3) := by decide +kernel
theorem dX7_isMask_13 : decode cX7_isMask 13 = .ok (.ireturn, 1) := by decide +kernel
set_option maxRecDepth 20000 in
theorem ggX7_isOrder_X7_in : GoodIn wsX7_isOrder wsX7_in := goodIn_r _ [4] (by decide +kernel) (by decide +kernel)
set_option maxRecDepth 20000 in
theorem gX7_isOrder_X7_in : GoodIn wsX7_isOrder (va_wsS RX7 30 yX7_in wsX7_in) := goodIn_app (goodIn_of _ (by decide +kernel)) ggX7_isOrder_X7_in
theorem dX7_isOrder_0 : decode cX7_isOrder 0 = .ok (.iload_n 0, 1) := by decide +kernel
theorem dX7_isOrder_1 : decode cX7_isOrder 1 = .ok (.iconst 0, 1) := by decide +kernel
theorem dX7_isOrder_2 : decode cX7_isOrder 2 = .ok (.iconst 2, 1) := by decide +kernel
theorem dX7_isOrder_3 : decode cX7_isOrder 3 = .ok (.invokestatic 30, 3) := by decide +kernel
theorem dX7_isOrder_6 : decode cX7_isOrder 6 = .ok (.ireturn, 1) := by decide +kernel
set_option maxRecDepth 20000 in
theorem ggX7_isSet_X7_in : GoodIn wsX7_isSet wsX7_in := goodIn_r _ [4] (by decide +kernel) (by decide +kernel)
set_option maxRecDepth 20000 in
theorem gX7_isSet_X7_in : GoodIn wsX7_isSet (va_wsS RX7 30 yX7_in wsX7_in) := goodIn_app (goodIn_of _ (by decide +kernel)) ggX7_isSet_X7_in
theorem dX7_isSet_0 : decode cX7_isSet 0 = .ok (.iload_n 0, 1) := by decide +kernel
theorem dX7_isSet_1 : decode cX7_isSet 1 = .ok (.iconst 0, 1) := by decide +kernel
theorem dX7_isSet_2 : decode cX7_isSet 2 = .ok (.sipush 255, 3) := by decide +kernel
theorem dX7_isSet_5 : decode cX7_isSet 5 = .ok (.invokestatic 30, 3) := by decide +kernel
theorem dX7_isSet_8 : decode cX7_isSet 8 = .ok (.ireturn, 1) := by decide +kernel
theorem dX7_has1_0 : decode cX7_has1 0 = .ok (.lload_n 0, 1) := by decide +kernel
theorem dX7_has1_1 : decode cX7_has1 1 = .ok (.iload_n 2, 1) := by decide +kernel
theorem dX7_has1_2 : decode cX7_has1 2 = .ok (.lshr, 1) := by decide +kernel
theorem dX7_has1_3 : decode cX7_has1 3 = .ok (.lconst 1, 1) := by decide +kernel
theorem dX7_has1_4 : decode cX7_has1 4 = .ok (.land, 1) := by decide +kernel
theorem dX7_has1_5 : decode cX7_has1 5 = .ok (.lconst 1, 1) := by decide +kernel
theorem dX7_has1_6 : decode cX7_has1 6 = .ok (.lcmp, 1) := by decide +kernel
theorem dX7_has1_7 : decode cX7_has1 7 = .ok (.ifCond .ne 7, 3) := by decide +kernel
theorem dX7_has1_10 : decode cX7_has1 10 = .ok (.iconst 1, 1) := by decide +kernel
theorem dX7_has1_11 : decode cX7_has1 11 = .ok (.goto 4, 3) := by decide +kernel
theorem dX7_has1_14 : decode cX7_has1 14 = .ok (.iconst 0, 1) := by decide +kernel
theorem dX7_has1_15 : decode cX7_has1 15 = .ok (.ireturn, 1) := by decide +kernel
theorem dX7_many_0 : decode cX7_many 0 = .ok (.iconst 0, 1) := by decide +kernel
theorem dX7_many_1 : decode cX7_many 1 = .ok (.istore_n 2, 1) := by decide +kernel
theorem dX7_many_2 : decode cX7_many 2 = .ok (.lload_n 0, 1) := by decide +kernel
theorem dX7_many_3 : decode cX7_many 3 = .ok (.lstore_n 3, 1) := by decide +kernel
theorem dX7_many_4 : decode cX7_many 4 = .ok (.lload_n 3, 1) := by decide +kernel
theorem dX7_many_5 : decode cX7_many 5 = .ok (.lconst 0, 1) := by decide +kernel
theorem dX7_many_6 : decode cX7_many 6 = .ok (.lcmp, 1) := by decide +kernel
theorem dX7_many_7 : decode cX7_many 7 = .ok (.ifCond .eq 15, 3) := by decide +kernel
theorem dX7_many_10 : decode cX7_many 10 = .ok (.iinc 2 1, 3) := by decide +kernel
theorem dX7_many_13 : decode cX7_many 13 = .ok (.lload_n 3, 1) := by decide +kernel
theorem dX7_many_14 : decode cX7_many 14 = .ok (.lload_n 3, 1) := by decide +kernel
theorem dX7_many_15 : decode cX7_many 15 = .ok (.lconst 1, 1) := by decide +kernel
theorem dX7_many_16 : decode cX7_many 16 = .ok (.lsub, 1) := by decide +kernel
theorem dX7_many_17 : decode cX7_many 17 = .ok (.land, 1) := by decide +kernel
theorem dX7_many_18 : decode cX7_many 18 = .ok (.lstore_n 3, 1) := by decide +kernel
theorem dX7_many_19 : decode cX7_many 19 = .ok (.goto (-15), 3) := by decide +kernel
theorem dX7_many_22 : decode cX7_many 22 = .ok (.iload_n 2, 1) := by decide +kernel
theorem dX7_many_23 : decode cX7_many 23 = .ok (.ireturn, 1) := by decide +kernel
theorem dX7_records_0 : decode cX7_records 0 = .ok (.aload_n 0, 1) := by decide +kernel
theorem dX7_records_1 : decode cX7_records 1 = .ok (.getfield 34, 3) := by decide +kernel
theorem dX7_records_4 : decode cX7_records 4 = .ok (.bipush 6, 2) := by decide +kernel
theorem dX7_records_6 : decode cX7_records 6 = .ok (.if_icmp .ne 42, 3) := by decide +kernel
theorem dX7_records_9 : decode cX7_records 9 = .ok (.iconst 0, 1) := by decide +kernel
theorem dX7_records_10 : decode cX7_records 10 = .ok (.istore_n 1, 1) := by decide +kernel
theorem dX7_records_11 : decode cX7_records 11 = .ok (.iload_n 1, 1) := by decide +kernel
theorem dX7_records_12 : decode cX7_records 12 = .ok (.bipush 40, 2) := by decide +kernel
theorem dX7_records_14 : decode cX7_records 14 = .ok (.if_icmp .ge 24, 3) := by decide +kernel
theorem dX7_records_17 : decode cX7_records 17 = .ok (.aload_n 0, 1) := by decide +kernel
theorem dX7_records_18 : decode cX7_records 18 = .ok (.getfield 17, 3) := by decide +kernel
theorem dX7_records_21 : decode cX7_records 21 = .ok (.iload_n 1, 1) := by decide +kernel
theorem dX7_records_22 : decode cX7_records 22 = .ok (.aload_n 0, 1) := by decide +kernel
theorem dX7_records_23 : decode cX7_records 23 = .ok (.getfield 17, 3) := by decide +kernel
theorem dX7_records_26 : decode cX7_records 26 = .ok (.iload_n 1, 1) := by decide +kernel
theorem dX7_records_27 : decode cX7_records 27 = .ok (.bipush 8, 2) := by decide +kernel
theorem dX7_records_29 : decode cX7_records 29 = .ok (.iadd, 1) := by decide +kernel
theorem dX7_records_30 : decode cX7_records 30 = .ok (.laload, 1) := by decide +kernel
theorem dX7_records_31 : decode cX7_records 31 = .ok (.lastore, 1) := by decide +kernel
theorem dX7_records_32 : decode cX7_records 32 = .ok (.iinc 1 1, 3) := by decide +kernel
theorem dX7_records_35 : decode cX7_records 35 = .ok (.goto (-24), 3) := by decide +kernel
theorem dX7_records_38 : decode cX7_records 38 = .ok (.aload_n 0, 1) := by decide +kernel
theorem dX7_records_39 : decode cX7_records 39 = .ok (.dup, 1) := by decide +kernel
theorem dX7_records_40 : decode cX7_records 40 = .ok (.getfield 34, 3) := by decide +kernel
theorem dX7_records_43 : decode cX7_records 43 = .ok (.iconst 1, 1) := by decide +kernel
theorem dX7_records_44 : decode cX7_records 44 = .ok (.isub, 1) := by decide +kernel
theorem dX7_records_45 : decode cX7_records 45 = .ok (.putfield 34, 3) := by decide +kernel
theorem dX7_records_48 : decode cX7_records 48 = .ok (.iconst 0, 1) := by decide +kernel
theorem dX7_records_49 : decode cX7_records 49 = .ok (.istore_n 1, 1) := by decide +kernel
theorem dX7_records_50 : decode cX7_records 50 = .ok (.iload_n 1, 1) := by decide +kernel
theorem dX7_records_51 : decode cX7_records 51 = .ok (.bipush 8, 2) := by decide +kernel
theorem dX7_records_53 : decode cX7_records 53 = .ok (.if_icmp .ge 29, 3) := by decide +kernel
theorem dX7_records_56 : decode cX7_records 56 = .ok (.aload_n 0, 1) := by decide +kernel
theorem dX7_records_57 : decode cX7_records 57 = .ok (.getfield 17, 3) := by decide +kernel
theorem dX7_records_60 : decode cX7_records 60 = .ok (.bipush 8, 2) := by decide +kernel
theorem dX7_records_62 : decode cX7_records 62 = .ok (.aload_n 0, 1) := by decide +kernel
theorem dX7_records_63 : decode cX7_records 63 = .ok (.getfield 34, 3) := by decide +kernel
theorem dX7_records_66 : decode cX7_records 66 = .ok (.imul, 1) := by decide +kernel
theorem dX7_records_67 : decode cX7_records 67 = .ok (.iload_n 1, 1) := by decide +kernel
theorem dX7_records_68 : decode cX7_records 68 = .ok (.iadd, 1) := by decide +kernel
theorem dX7_records_69 : decode cX7_records 69 = .ok (.aload_n 0, 1) := by decide +kernel
theorem dX7_records_70 : decode cX7_records 70 = .ok (.getfield 13, 3) := by decide +kernel
theorem dX7_records_73 : decode cX7_records 73 = .ok (.iload_n 1, 1) := by decide +kernel
theorem dX7_records_74 : decode cX7_records 74 = .ok (.laload, 1) := by decide +kernel
theorem dX7_records_75 : decode cX7_records 75 = .ok (.lastore, 1) := by decide +kernel
theorem dX7_records_76 : decode cX7_records 76 = .ok (.iinc 1 1, 3) := by decide +kernel
theorem dX7_records_79 : decode cX7_records 79 = .ok (.goto (-29), 3) := by decide +kernel
theorem dX7_records_82 : decode cX7_records 82 = .ok (.aload_n 0, 1) := by decide +kernel
theorem dX7_records_83 : decode cX7_records 83 = .ok (.dup, 1) := by decide +kernel
theorem dX7_records_84 : decode cX7_records 84 = .ok (.getfield 34, 3) := by decide +kernel
theorem dX7_records_87 : decode cX7_records 87 = .ok (.iconst 1, 1) := by decide +kernel
theorem dX7_records_88 : decode cX7_records 88 = .ok (.iadd, 1) := by decide +kernel
theorem dX7_records_89 : decode cX7_records 89 = .ok (.putfield 34, 3) := by decide +kernel
theorem dX7_records_92 : decode cX7_records 92 = .ok (.return_, 1) := by decide +kernel
set_option maxRecDepth 20000 in
theorem ggX7_gets_X7_records : GoodIn wsX7_gets wsX7_records := goodIn_r _ [6, 7, 8, 1, 12, 13, 14, 15, 16, 17, 18, 19, 20] (by decide +kernel) (by decide +kernel)
set_option maxRecDepth 20000 in
theorem gX7_gets_X7_records : GoodIn wsX7_gets (wsV RX7 37 RX7 yX7_records wsX7_records) := goodIn_app (goodIn_of _ (by decide +kernel)) ggX7_gets_X7_records
set_option maxRecDepth 20000 in
theorem ggX7_gets_X7_many : GoodIn wsX7_gets wsX7_many := goodIn_r _ [11] (by decide +kernel) (by decide +kernel)
set_option maxRecDepth 20000 in
theorem gX7_gets_X7_many : GoodIn wsX7_gets (va_wsS RX7 40 yX7_many wsX7_many) := goodIn_app (goodIn_of _ (by decide +kernel)) ggX7_gets_X7_many
theorem dX7_gets_0 : decode cX7_gets 0 = .ok (.aload_n 0, 1) := by decide +kernel
theorem dX7_gets_1 : decode cX7_gets 1 = .ok (.invokevirtual 37, 3) := by decide +kernel
theorem dX7_gets_4 : decode cX7_gets 4 = .ok (.aload_n 0, 1) := by decide +kernel
theorem dX7_gets_5 : decode cX7_gets 5 = .ok (.getfield 13, 3) := by decide +kernel
theorem dX7_gets_8 : decode cX7_gets 8 = .ok (.iload_n 1, 1) := by decide +kernel
theorem dX7_gets_9 : decode cX7_gets 9 = .ok (.lload_n 2, 1) := by decide +kernel
theorem dX7_gets_10 : decode cX7_gets 10 = .ok (.lastore, 1) := by decide +kernel
theorem dX7_gets_11 : decode cX7_gets 11 = .ok (.lload_n 2, 1) := by decide +kernel
theorem dX7_gets_12 : decode cX7_gets 12 = .ok (.invokestatic 40, 3) := by decide +kernel
theorem dX7_gets_15 : decode cX7_gets 15 = .ok (.ireturn, 1) := by decide +kernel
set_option maxRecDepth 20000 in
theorem ggX7_product1_X7_has1 : GoodIn wsX7_product1 wsX7_has1 := goodIn_r _ [5] (by decide +kernel) (by decide +kernel)
set_option maxRecDepth 20000 in
theorem gX7_product1_X7_has1 : GoodIn wsX7_product1 (va_wsS RX7 44 yX7_has1 wsX7_has1) := goodIn_app (goodIn_of _ (by decide +kernel)) ggX7_product1_X7_has1
theorem dX7_product1_0 : decode cX7_product1 0 = .ok (.lconst 0, 1) := by decide +kernel
theorem dX7_product1_1 : decode cX7_product1 1 = .ok (.lstore 5, 2) := by decide +kernel
theorem dX7_product1_3 : decode cX7_product1 3 = .ok (.iconst 0, 1) := by decide +kernel
theorem dX7_product1_4 : decode cX7_product1 4 = .ok (.istore 7, 2) := by decide +kernel
theorem dX7_product1_6 : decode cX7_product1 6 = .ok (.iload 7, 2) := by decide +kernel
theorem dX7_product1_8 : decode cX7_product1 8 = .ok (.iconst 1, 1) := by decide +kernel
theorem dX7_product1_9 : decode cX7_product1 9 = .ok (.aload_n 0, 1) := by decide +kernel
theorem dX7_product1_10 : decode cX7_product1 10 = .ok (.getfield 7, 3) := by decide +kernel
theorem dX7_product1_13 : decode cX7_product1 13 = .ok (.ishl, 1) := by decide +kernel
theorem dX7_product1_14 : decode cX7_product1 14 = .ok (.if_icmp .ge 63, 3) := by decide +kernel
theorem dX7_product1_17 : decode cX7_product1 17 = .ok (.iconst 0, 1) := by decide +kernel
theorem dX7_product1_18 : decode cX7_product1 18 = .ok (.istore 8, 2) := by decide +kernel
theorem dX7_product1_20 : decode cX7_product1 20 = .ok (.iload 8, 2) := by decide +kernel
theorem dX7_product1_22 : decode cX7_product1 22 = .ok (.iconst 1, 1) := by decide +kernel
theorem dX7_product1_23 : decode cX7_product1 23 = .ok (.aload_n 0, 1) := by decide +kernel
theorem dX7_product1_24 : decode cX7_product1 24 = .ok (.getfield 7, 3) := by decide +kernel
theorem dX7_product1_27 : decode cX7_product1 27 = .ok (.ishl, 1) := by decide +kernel
theorem dX7_product1_28 : decode cX7_product1 28 = .ok (.if_icmp .ge 43, 3) := by decide +kernel
theorem dX7_product1_31 : decode cX7_product1 31 = .ok (.lload_n 1, 1) := by decide +kernel
theorem dX7_product1_32 : decode cX7_product1 32 = .ok (.iload 7, 2) := by decide +kernel
theorem dX7_product1_34 : decode cX7_product1 34 = .ok (.invokestatic 44, 3) := by decide +kernel
theorem dX7_product1_37 : decode cX7_product1 37 = .ok (.ifCond .eq 34, 3) := by decide +kernel
theorem dX7_product1_40 : decode cX7_product1 40 = .ok (.lload 5, 2) := by decide +kernel
theorem dX7_product1_42 : decode cX7_product1 42 = .ok (.lload_n 3, 1) := by decide +kernel
theorem dX7_product1_43 : decode cX7_product1 43 = .ok (.iload 8, 2) := by decide +kernel
theorem dX7_product1_45 : decode cX7_product1 45 = .ok (.invokestatic 44, 3) := by decide +kernel
theorem dX7_product1_48 : decode cX7_product1 48 = .ok (.ifCond .eq 13, 3) := by decide +kernel
theorem dX7_product1_51 : decode cX7_product1 51 = .ok (.lconst 1, 1) := by decide +kernel
theorem dX7_product1_52 : decode cX7_product1 52 = .ok (.iload 7, 2) := by decide +kernel
theorem dX7_product1_54 : decode cX7_product1 54 = .ok (.iload 8, 2) := by decide +kernel
theorem dX7_product1_56 : decode cX7_product1 56 = .ok (.ior, 1) := by decide +kernel
theorem dX7_product1_57 : decode cX7_product1 57 = .ok (.lshl, 1) := by decide +kernel
theorem dX7_product1_58 : decode cX7_product1 58 = .ok (.goto 4, 3) := by decide +kernel
theorem dX7_product1_61 : decode cX7_product1 61 = .ok (.lconst 0, 1) := by decide +kernel
theorem dX7_product1_62 : decode cX7_product1 62 = .ok (.lxor, 1) := by decide +kernel
theorem dX7_product1_63 : decode cX7_product1 63 = .ok (.lstore 5, 2) := by decide +kernel
theorem dX7_product1_65 : decode cX7_product1 65 = .ok (.iinc 8 1, 3) := by decide +kernel
theorem dX7_product1_68 : decode cX7_product1 68 = .ok (.goto (-48), 3) := by decide +kernel
theorem dX7_product1_71 : decode cX7_product1 71 = .ok (.iinc 7 1, 3) := by decide +kernel
theorem dX7_product1_74 : decode cX7_product1 74 = .ok (.goto (-68), 3) := by decide +kernel
theorem dX7_product1_77 : decode cX7_product1 77 = .ok (.lload 5, 2) := by decide +kernel
theorem dX7_product1_79 : decode cX7_product1 79 = .ok (.lreturn, 1) := by decide +kernel
set_option maxRecDepth 20000 in
theorem ggX7_upper_X7_has1 : GoodIn wsX7_upper wsX7_has1 := goodIn_r _ [5] (by decide +kernel) (by decide +kernel)
set_option maxRecDepth 20000 in
theorem gX7_upper_X7_has1 : GoodIn wsX7_upper (va_wsS RX7 44 yX7_has1 wsX7_has1) := goodIn_app (goodIn_of _ (by decide +kernel)) ggX7_upper_X7_has1
theorem dX7_upper_0 : decode cX7_upper 0 = .ok (.lconst 0, 1) := by decide +kernel
theorem dX7_upper_1 : decode cX7_upper 1 = .ok (.lstore 4, 2) := by decide +kernel
theorem dX7_upper_3 : decode cX7_upper 3 = .ok (.iconst 0, 1) := by decide +kernel
theorem dX7_upper_4 : decode cX7_upper 4 = .ok (.istore 6, 2) := by decide +kernel
theorem dX7_upper_6 : decode cX7_upper 6 = .ok (.iload 6, 2) := by decide +kernel
theorem dX7_upper_8 : decode cX7_upper 8 = .ok (.iconst 1, 1) := by decide +kernel
theorem dX7_upper_9 : decode cX7_upper 9 = .ok (.aload_n 0, 1) := by decide +kernel
theorem dX7_upper_10 : decode cX7_upper 10 = .ok (.getfield 7, 3) := by decide +kernel
theorem dX7_upper_13 : decode cX7_upper 13 = .ok (.ishl, 1) := by decide +kernel
theorem dX7_upper_14 : decode cX7_upper 14 = .ok (.if_icmp .ge 45, 3) := by decide +kernel
theorem dX7_upper_17 : decode cX7_upper 17 = .ok (.lload 4, 2) := by decide +kernel
theorem dX7_upper_19 : decode cX7_upper 19 = .ok (.lload_n 1, 1) := by decide +kernel
theorem dX7_upper_20 : decode cX7_upper 20 = .ok (.iload 6, 2) := by decide +kernel
theorem dX7_upper_22 : decode cX7_upper 22 = .ok (.invokestatic 44, 3) := by decide +kernel
theorem dX7_upper_25 : decode cX7_upper 25 = .ok (.ifCond .eq 24, 3) := by decide +kernel
theorem dX7_upper_28 : decode cX7_upper 28 = .ok (.iload 6, 2) := by decide +kernel
theorem dX7_upper_30 : decode cX7_upper 30 = .ok (.iload_n 3, 1) := by decide +kernel
theorem dX7_upper_31 : decode cX7_upper 31 = .ok (.ishr, 1) := by decide +kernel
theorem dX7_upper_32 : decode cX7_upper 32 = .ok (.iconst 1, 1) := by decide +kernel
theorem dX7_upper_33 : decode cX7_upper 33 = .ok (.iand, 1) := by decide +kernel
theorem dX7_upper_34 : decode cX7_upper 34 = .ok (.iconst 1, 1) := by decide +kernel
theorem dX7_upper_35 : decode cX7_upper 35 = .ok (.if_icmp .ne 14, 3) := by decide +kernel
theorem dX7_upper_38 : decode cX7_upper 38 = .ok (.lconst 1, 1) := by decide +kernel
theorem dX7_upper_39 : decode cX7_upper 39 = .ok (.iload 6, 2) := by decide +kernel
theorem dX7_upper_41 : decode cX7_upper 41 = .ok (.iconst 1, 1) := by decide +kernel
theorem dX7_upper_42 : decode cX7_upper 42 = .ok (.iload_n 3, 1) := by decide +kernel
theorem dX7_upper_43 : decode cX7_upper 43 = .ok (.ishl, 1) := by decide +kernel
theorem dX7_upper_44 : decode cX7_upper 44 = .ok (.isub, 1) := by decide +kernel
theorem dX7_upper_45 : decode cX7_upper 45 = .ok (.lshl, 1) := by decide +kernel
theorem dX7_upper_46 : decode cX7_upper 46 = .ok (.goto 4, 3) := by decide +kernel
theorem dX7_upper_49 : decode cX7_upper 49 = .ok (.lconst 0, 1) := by decide +kernel
theorem dX7_upper_50 : decode cX7_upper 50 = .ok (.lor, 1) := by decide +kernel
theorem dX7_upper_51 : decode cX7_upper 51 = .ok (.lstore 4, 2) := by decide +kernel
theorem dX7_upper_53 : decode cX7_upper 53 = .ok (.iinc 6 1, 3) := by decide +kernel
theorem dX7_upper_56 : decode cX7_upper 56 = .ok (.goto (-50), 3) := by decide +kernel
theorem dX7_upper_59 : decode cX7_upper 59 = .ok (.lload 4, 2) := by decide +kernel
theorem dX7_upper_61 : decode cX7_upper 61 = .ok (.lreturn, 1) := by decide +kernel
set_option maxRecDepth 20000 in
theorem ggX7_lower_X7_has1 : GoodIn wsX7_lower wsX7_has1 := goodIn_r _ [5] (by decide +kernel) (by decide +kernel)
set_option maxRecDepth 20000 in
theorem gX7_lower_X7_has1 : GoodIn wsX7_lower (va_wsS RX7 44 yX7_has1 wsX7_has1) := goodIn_app (goodIn_of _ (by decide +kernel)) ggX7_lower_X7_has1
theorem dX7_lower_0 : decode cX7_lower 0 = .ok (.lconst 0, 1) := by decide +kernel
theorem dX7_lower_1 : decode cX7_lower 1 = .ok (.lstore 4, 2) := by decide +kernel
theorem dX7_lower_3 : decode cX7_lower 3 = .ok (.iconst 0, 1) := by decide +kernel
theorem dX7_lower_4 : decode cX7_lower 4 = .ok (.istore 6, 2) := by decide +kernel
theorem dX7_lower_6 : decode cX7_lower 6 = .ok (.iload 6, 2) := by decide +kernel
theorem dX7_lower_8 : decode cX7_lower 8 = .ok (.iconst 1, 1) := by decide +kernel
theorem dX7_lower_9 : decode cX7_lower 9 = .ok (.aload_n 0, 1) := by decide +kernel
theorem dX7_lower_10 : decode cX7_lower 10 = .ok (.getfield 7, 3) := by decide +kernel
theorem dX7_lower_13 : decode cX7_lower 13 = .ok (.ishl, 1) := by decide +kernel
theorem dX7_lower_14 : decode cX7_lower 14 = .ok (.if_icmp .ge 40, 3) := by decide +kernel
theorem dX7_lower_17 : decode cX7_lower 17 = .ok (.lload 4, 2) := by decide +kernel
theorem dX7_lower_19 : decode cX7_lower 19 = .ok (.lload_n 1, 1) := by decide +kernel
theorem dX7_lower_20 : decode cX7_lower 20 = .ok (.iload 6, 2) := by decide +kernel
theorem dX7_lower_22 : decode cX7_lower 22 = .ok (.invokestatic 44, 3) := by decide +kernel
theorem dX7_lower_25 : decode cX7_lower 25 = .ok (.ifCond .eq 19, 3) := by decide +kernel
theorem dX7_lower_28 : decode cX7_lower 28 = .ok (.iload 6, 2) := by decide +kernel
theorem dX7_lower_30 : decode cX7_lower 30 = .ok (.iload_n 3, 1) := by decide +kernel
theorem dX7_lower_31 : decode cX7_lower 31 = .ok (.ishr, 1) := by decide +kernel
theorem dX7_lower_32 : decode cX7_lower 32 = .ok (.iconst 1, 1) := by decide +kernel
theorem dX7_lower_33 : decode cX7_lower 33 = .ok (.iand, 1) := by decide +kernel
theorem dX7_lower_34 : decode cX7_lower 34 = .ok (.ifCond .ne 10, 3) := by decide +kernel
theorem dX7_lower_37 : decode cX7_lower 37 = .ok (.lconst 1, 1) := by decide +kernel
theorem dX7_lower_38 : decode cX7_lower 38 = .ok (.iload 6, 2) := by decide +kernel
theorem dX7_lower_40 : decode cX7_lower 40 = .ok (.lshl, 1) := by decide +kernel
theorem dX7_lower_41 : decode cX7_lower 41 = .ok (.goto 4, 3) := by decide +kernel
theorem dX7_lower_44 : decode cX7_lower 44 = .ok (.lconst 0, 1) := by decide +kernel
theorem dX7_lower_45 : decode cX7_lower 45 = .ok (.lor, 1) := by decide +kernel
theorem dX7_lower_46 : decode cX7_lower 46 = .ok (.lstore 4, 2) := by decide +kernel
theorem dX7_lower_48 : decode cX7_lower 48 = .ok (.iinc 6 1, 3) := by decide +kernel
theorem dX7_lower_51 : decode cX7_lower 51 = .ok (.goto (-45), 3) := by decide +kernel
theorem dX7_lower_54 : decode cX7_lower 54 = .ok (.lload 4, 2) := by decide +kernel
theorem dX7_lower_56 : decode cX7_lower 56 = .ok (.lreturn, 1) := by decide +kernel
set_option maxRecDepth 20000 in
theorem ggX7_values_X7_has1 : GoodIn wsX7_values wsX7_has1 := goodIn_r _ [5] (by decide +kernel) (by decide +kernel)
set_option maxRecDepth 20000 in
theorem gX7_values_X7_has1 : GoodIn wsX7_values (va_wsS RX7 44 yX7_has1 wsX7_has1) := goodIn_app (goodIn_of _ (by decide +kernel)) ggX7_values_X7_has1
theorem dX7_values_0 : decode cX7_values 0 = .ok (.lload_n 1, 1) := by decide +kernel
theorem dX7_values_1 : decode cX7_values 1 = .ok (.lstore_n 3, 1) := by decide +kernel
theorem dX7_values_2 : decode cX7_values 2 = .ok (.iconst 0, 1) := by decide +kernel
theorem dX7_values_3 : decode cX7_values 3 = .ok (.istore 5, 2) := by decide +kernel
theorem dX7_values_5 : decode cX7_values 5 = .ok (.iload 5, 2) := by decide +kernel
theorem dX7_values_7 : decode cX7_values 7 = .ok (.aload_n 0, 1) := by decide +kernel
theorem dX7_values_8 : decode cX7_values 8 = .ok (.getfield 7, 3) := by decide +kernel
theorem dX7_values_11 : decode cX7_values 11 = .ok (.if_icmp .ge 61, 3) := by decide +kernel
theorem dX7_values_14 : decode cX7_values 14 = .ok (.iconst 0, 1) := by decide +kernel
theorem dX7_values_15 : decode cX7_values 15 = .ok (.istore 6, 2) := by decide +kernel
theorem dX7_values_17 : decode cX7_values 17 = .ok (.iload 6, 2) := by decide +kernel
theorem dX7_values_19 : decode cX7_values 19 = .ok (.iconst 1, 1) := by decide +kernel
theorem dX7_values_20 : decode cX7_values 20 = .ok (.aload_n 0, 1) := by decide +kernel
theorem dX7_values_21 : decode cX7_values 21 = .ok (.getfield 7, 3) := by decide +kernel
theorem dX7_values_24 : decode cX7_values 24 = .ok (.ishl, 1) := by decide +kernel
theorem dX7_values_25 : decode cX7_values 25 = .ok (.if_icmp .ge 41, 3) := by decide +kernel
theorem dX7_values_28 : decode cX7_values 28 = .ok (.iload 6, 2) := by decide +kernel
theorem dX7_values_30 : decode cX7_values 30 = .ok (.iload 5, 2) := by decide +kernel
theorem dX7_values_32 : decode cX7_values 32 = .ok (.ishr, 1) := by decide +kernel
theorem dX7_values_33 : decode cX7_values 33 = .ok (.iconst 1, 1) := by decide +kernel
theorem dX7_values_34 : decode cX7_values 34 = .ok (.iand, 1) := by decide +kernel
theorem dX7_values_35 : decode cX7_values 35 = .ok (.iconst 1, 1) := by decide +kernel
theorem dX7_values_36 : decode cX7_values 36 = .ok (.if_icmp .ne 24, 3) := by decide +kernel
theorem dX7_values_39 : decode cX7_values 39 = .ok (.lload_n 3, 1) := by decide +kernel
theorem dX7_values_40 : decode cX7_values 40 = .ok (.iload 6, 2) := by decide +kernel
theorem dX7_values_42 : decode cX7_values 42 = .ok (.iconst 1, 1) := by decide +kernel
theorem dX7_values_43 : decode cX7_values 43 = .ok (.iload 5, 2) := by decide +kernel
theorem dX7_values_45 : decode cX7_values 45 = .ok (.ishl, 1) := by decide +kernel
theorem dX7_values_46 : decode cX7_values 46 = .ok (.isub, 1) := by decide +kernel
theorem dX7_values_47 : decode cX7_values 47 = .ok (.invokestatic 44, 3) := by decide +kernel
theorem dX7_values_50 : decode cX7_values 50 = .ok (.ifCond .eq 10, 3) := by decide +kernel
theorem dX7_values_53 : decode cX7_values 53 = .ok (.lload_n 3, 1) := by decide +kernel
theorem dX7_values_54 : decode cX7_values 54 = .ok (.lconst 1, 1) := by decide +kernel
theorem dX7_values_55 : decode cX7_values 55 = .ok (.iload 6, 2) := by decide +kernel
theorem dX7_values_57 : decode cX7_values 57 = .ok (.lshl, 1) := by decide +kernel
theorem dX7_values_58 : decode cX7_values 58 = .ok (.lxor, 1) := by decide +kernel
theorem dX7_values_59 : decode cX7_values 59 = .ok (.lstore_n 3, 1) := by decide +kernel
theorem dX7_values_60 : decode cX7_values 60 = .ok (.iinc 6 1, 3) := by decide +kernel
theorem dX7_values_63 : decode cX7_values 63 = .ok (.goto (-46), 3) := by decide +kernel
theorem dX7_values_66 : decode cX7_values 66 = .ok (.iinc 5 1, 3) := by decide +kernel
theorem dX7_values_69 : decode cX7_values 69 = .ok (.goto (-64), 3) := by decide +kernel
theorem dX7_values_72 : decode cX7_values 72 = .ok (.lload_n 3, 1) := by decide +kernel
theorem dX7_values_73 : decode cX7_values 73 = .ok (.lreturn, 1) := by decide +kernel
set_option maxRecDepth 20000 in
theorem ggX7_occurs_X7_has1 : GoodIn wsX7_occurs wsX7_has1 := goodIn_r _ [5] (by decide +kernel) (by decide +kernel)
set_option maxRecDepth 20000 in
theorem gX7_occurs_X7_has1 : GoodIn wsX7_occurs (va_wsS RX7 44 yX7_has1 wsX7_has1) := goodIn_app (goodIn_of _ (by decide +kernel)) ggX7_occurs_X7_has1
theorem dX7_occurs_0 : decode cX7_occurs 0 = .ok (.iconst 0, 1) := by decide +kernel
theorem dX7_occurs_1 : decode cX7_occurs 1 = .ok (.istore_n 3, 1) := by decide +kernel
theorem dX7_occurs_2 : decode cX7_occurs 2 = .ok (.iconst 0, 1) := by decide +kernel
theorem dX7_occurs_3 : decode cX7_occurs 3 = .ok (.istore 4, 2) := by decide +kernel
theorem dX7_occurs_5 : decode cX7_occurs 5 = .ok (.iload 4, 2) := by decide +kernel
theorem dX7_occurs_7 : decode cX7_occurs 7 = .ok (.iconst 1, 1) := by decide +kernel
theorem dX7_occurs_8 : decode cX7_occurs 8 = .ok (.aload_n 0, 1) := by decide +kernel
theorem dX7_occurs_9 : decode cX7_occurs 9 = .ok (.getfield 7, 3) := by decide +kernel
theorem dX7_occurs_12 : decode cX7_occurs 12 = .ok (.ishl, 1) := by decide +kernel
theorem dX7_occurs_13 : decode cX7_occurs 13 = .ok (.if_icmp .ge 27, 3) := by decide +kernel
theorem dX7_occurs_16 : decode cX7_occurs 16 = .ok (.iload_n 3, 1) := by decide +kernel
theorem dX7_occurs_17 : decode cX7_occurs 17 = .ok (.lload_n 1, 1) := by decide +kernel
theorem dX7_occurs_18 : decode cX7_occurs 18 = .ok (.iload 4, 2) := by decide +kernel
theorem dX7_occurs_20 : decode cX7_occurs 20 = .ok (.invokestatic 44, 3) := by decide +kernel
theorem dX7_occurs_23 : decode cX7_occurs 23 = .ok (.ifCond .eq 8, 3) := by decide +kernel
theorem dX7_occurs_26 : decode cX7_occurs 26 = .ok (.iload 4, 2) := by decide +kernel
theorem dX7_occurs_28 : decode cX7_occurs 28 = .ok (.goto 4, 3) := by decide +kernel
theorem dX7_occurs_31 : decode cX7_occurs 31 = .ok (.iconst 0, 1) := by decide +kernel
theorem dX7_occurs_32 : decode cX7_occurs 32 = .ok (.ior, 1) := by decide +kernel
theorem dX7_occurs_33 : decode cX7_occurs 33 = .ok (.istore_n 3, 1) := by decide +kernel
theorem dX7_occurs_34 : decode cX7_occurs 34 = .ok (.iinc 4 1, 3) := by decide +kernel
theorem dX7_occurs_37 : decode cX7_occurs 37 = .ok (.goto (-32), 3) := by decide +kernel
theorem dX7_occurs_40 : decode cX7_occurs 40 = .ok (.iload_n 3, 1) := by decide +kernel
theorem dX7_occurs_41 : decode cX7_occurs 41 = .ok (.ireturn, 1) := by decide +kernel
set_option maxRecDepth 20000 in
theorem ggX7_reset_X7_in : GoodIn wsX7_reset wsX7_in := goodIn_r _ [7] (by decide +kernel) (by decide +kernel)
set_option maxRecDepth 20000 in
theorem gX7_reset_X7_in : GoodIn wsX7_reset (va_wsS RX7 30 yX7_in wsX7_in) := goodIn_app (goodIn_of _ (by decide +kernel)) ggX7_reset_X7_in
theorem dX7_reset_0 : decode cX7_reset 0 = .ok (.iload_n 1, 1) := by decide +kernel
theorem dX7_reset_1 : decode cX7_reset 1 = .ok (.iconst 1, 1) := by decide +kernel
theorem dX7_reset_2 : decode cX7_reset 2 = .ok (.bipush 6, 2) := by decide +kernel
theorem dX7_reset_4 : decode cX7_reset 4 = .ok (.invokestatic 30, 3) := by decide +kernel
theorem dX7_reset_7 : decode cX7_reset 7 = .ok (.ifCond .ne 5, 3) := by decide +kernel
theorem dX7_reset_10 : decode cX7_reset 10 = .ok (.iconst (-1), 1) := by decide +kernel
theorem dX7_reset_11 : decode cX7_reset 11 = .ok (.ireturn, 1) := by decide +kernel
theorem dX7_reset_12 : decode cX7_reset 12 = .ok (.aload_n 0, 1) := by decide +kernel
theorem dX7_reset_13 : decode cX7_reset 13 = .ok (.getfield 7, 3) := by decide +kernel
theorem dX7_reset_16 : decode cX7_reset 16 = .ok (.istore_n 2, 1) := by decide +kernel
theorem dX7_reset_17 : decode cX7_reset 17 = .ok (.aload_n 0, 1) := by decide +kernel
theorem dX7_reset_18 : decode cX7_reset 18 = .ok (.iload_n 1, 1) := by decide +kernel
theorem dX7_reset_19 : decode cX7_reset 19 = .ok (.putfield 7, 3) := by decide +kernel
theorem dX7_reset_22 : decode cX7_reset 22 = .ok (.aload_n 0, 1) := by decide +kernel
theorem dX7_reset_23 : decode cX7_reset 23 = .ok (.iconst 0, 1) := by decide +kernel
theorem dX7_reset_24 : decode cX7_reset 24 = .ok (.putfield 34, 3) := by decide +kernel
theorem dX7_reset_27 : decode cX7_reset 27 = .ok (.iconst 0, 1) := by decide +kernel
theorem dX7_reset_28 : decode cX7_reset 28 = .ok (.istore_n 3, 1) := by decide +kernel
theorem dX7_reset_29 : decode cX7_reset 29 = .ok (.iload_n 3, 1) := by decide +kernel
theorem dX7_reset_30 : decode cX7_reset 30 = .ok (.bipush 8, 2) := by decide +kernel
theorem dX7_reset_32 : decode cX7_reset 32 = .ok (.if_icmp .ge 16, 3) := by decide +kernel
theorem dX7_reset_35 : decode cX7_reset 35 = .ok (.aload_n 0, 1) := by decide +kernel
theorem dX7_reset_36 : decode cX7_reset 36 = .ok (.getfield 13, 3) := by decide +kernel
theorem dX7_reset_39 : decode cX7_reset 39 = .ok (.iload_n 3, 1) := by decide +kernel
theorem dX7_reset_40 : decode cX7_reset 40 = .ok (.lconst 0, 1) := by decide +kernel
theorem dX7_reset_41 : decode cX7_reset 41 = .ok (.lastore, 1) := by decide +kernel
theorem dX7_reset_42 : decode cX7_reset 42 = .ok (.iinc 3 1, 3) := by decide +kernel
theorem dX7_reset_45 : decode cX7_reset 45 = .ok (.goto (-16), 3) := by decide +kernel
theorem dX7_reset_48 : decode cX7_reset 48 = .ok (.iload_n 2, 1) := by decide +kernel
theorem dX7_reset_49 : decode cX7_reset 49 = .ok (.ireturn, 1) := by decide +kernel
theorem dX7_variables_0 : decode cX7_variables 0 = .ok (.aload_n 0, 1) := by decide +kernel
theorem dX7_variables_1 : decode cX7_variables 1 = .ok (.getfield 7, 3) := by decide +kernel
theorem dX7_variables_4 : decode cX7_variables 4 = .ok (.ireturn, 1) := by decide +kernel
set_option maxRecDepth 20000 in
theorem ggX7_toggle_X7_isRegister : GoodIn wsX7_toggle wsX7_isRegister := goodIn_r _ [5, 6, 7, 4, 8] (by decide +kernel) (by decide +kernel)
set_option maxRecDepth 20000 in
theorem gX7_toggle_X7_isRegister : GoodIn wsX7_toggle (va_wsS RX7 48 yX7_isRegister wsX7_isRegister) := goodIn_app (goodIn_of _ (by decide +kernel)) ggX7_toggle_X7_isRegister
set_option maxRecDepth 20000 in
theorem ggX7_toggle_X7_isMask : GoodIn wsX7_toggle wsX7_isMask := goodIn_r _ [12, 13, 6, 7, 4, 8, 27, 28, 29, 30, 31, 32, 33, 34, 35] (by decide +kernel) (by decide +kernel)
set_option maxRecDepth 20000 in
theorem gX7_toggle_X7_isMask : GoodIn wsX7_toggle (wsV RX7 52 RX7 yX7_isMask wsX7_isMask) := goodIn_app (goodIn_of _ (by decide +kernel)) ggX7_toggle_X7_isMask
set_option maxRecDepth 20000 in
theorem ggX7_toggle_X7_gets : GoodIn wsX7_toggle wsX7_gets := goodIn_r _ [17, 1, 18, 19, 20, 4, 21, 22, 23, 24, 25, 26, 27, 28, 29, 30, 31, 32, 33, 34, 35] (by decide +kernel) (by decide +kernel)
set_option maxRecDepth 20000 in
theorem gX7_toggle_X7_gets : GoodIn wsX7_toggle (wsV RX7 55 RX7 yX7_gets wsX7_gets) := goodIn_app (goodIn_of _ (by decide +kernel)) ggX7_toggle_X7_gets
theorem dX7_toggle_0 : decode cX7_toggle 0 = .ok (.iload_n 1, 1) := by decide +kernel
theorem dX7_toggle_1 : decode cX7_toggle 1 = .ok (.invokestatic 48, 3) := by decide +kernel
theorem dX7_toggle_4 : decode cX7_toggle 4 = .ok (.ifCond .eq 29, 3) := by decide +kernel
theorem dX7_toggle_7 : decode cX7_toggle 7 = .ok (.aload_n 0, 1) := by decide +kernel
theorem dX7_toggle_8 : decode cX7_toggle 8 = .ok (.iload_n 2, 1) := by decide +kernel
theorem dX7_toggle_9 : decode cX7_toggle 9 = .ok (.invokevirtual 52, 3) := by decide +kernel
theorem dX7_toggle_12 : decode cX7_toggle 12 = .ok (.ifCond .eq 21, 3) := by decide +kernel
theorem dX7_toggle_15 : decode cX7_toggle 15 = .ok (.aload_n 0, 1) := by decide +kernel
theorem dX7_toggle_16 : decode cX7_toggle 16 = .ok (.iload_n 1, 1) := by decide +kernel
theorem dX7_toggle_17 : decode cX7_toggle 17 = .ok (.aload_n 0, 1) := by decide +kernel
theorem dX7_toggle_18 : decode cX7_toggle 18 = .ok (.getfield 13, 3) := by decide +kernel
theorem dX7_toggle_21 : decode cX7_toggle 21 = .ok (.iload_n 1, 1) := by decide +kernel
theorem dX7_toggle_22 : decode cX7_toggle 22 = .ok (.laload, 1) := by decide +kernel
theorem dX7_toggle_23 : decode cX7_toggle 23 = .ok (.lconst 1, 1) := by decide +kernel
theorem dX7_toggle_24 : decode cX7_toggle 24 = .ok (.iload_n 2, 1) := by decide +kernel
theorem dX7_toggle_25 : decode cX7_toggle 25 = .ok (.lshl, 1) := by decide +kernel
theorem dX7_toggle_26 : decode cX7_toggle 26 = .ok (.lxor, 1) := by decide +kernel
theorem dX7_toggle_27 : decode cX7_toggle 27 = .ok (.invokevirtual 55, 3) := by decide +kernel
theorem dX7_toggle_30 : decode cX7_toggle 30 = .ok (.goto 4, 3) := by decide +kernel
theorem dX7_toggle_33 : decode cX7_toggle 33 = .ok (.iconst (-1), 1) := by decide +kernel
theorem dX7_toggle_34 : decode cX7_toggle 34 = .ok (.ireturn, 1) := by decide +kernel
set_option maxRecDepth 20000 in
theorem ggX7_copy_X7_isRegister : GoodIn wsX7_copy wsX7_isRegister := goodIn_r _ [5, 6, 7, 4, 8] (by decide +kernel) (by decide +kernel)
set_option maxRecDepth 20000 in
theorem gX7_copy_X7_isRegister : GoodIn wsX7_copy (va_wsS RX7 48 yX7_isRegister wsX7_isRegister) := goodIn_app (goodIn_of _ (by decide +kernel)) ggX7_copy_X7_isRegister
set_option maxRecDepth 20000 in
theorem ggX7_copy_X7_gets : GoodIn wsX7_copy wsX7_gets := goodIn_r _ [12, 1, 13, 14, 15, 4, 16, 17, 18, 19, 20, 21, 22, 23, 24, 25, 26, 27, 28, 29, 30] (by decide +kernel) (by decide +kernel)
set_option maxRecDepth 20000 in
theorem gX7_copy_X7_gets : GoodIn wsX7_copy (wsV RX7 55 RX7 yX7_gets wsX7_gets) := goodIn_app (goodIn_of _ (by decide +kernel)) ggX7_copy_X7_gets
theorem dX7_copy_0 : decode cX7_copy 0 = .ok (.iload_n 1, 1) := by decide +kernel
theorem dX7_copy_1 : decode cX7_copy 1 = .ok (.invokestatic 48, 3) := by decide +kernel
theorem dX7_copy_4 : decode cX7_copy 4 = .ok (.ifCond .eq 24, 3) := by decide +kernel
theorem dX7_copy_7 : decode cX7_copy 7 = .ok (.iload_n 2, 1) := by decide +kernel
theorem dX7_copy_8 : decode cX7_copy 8 = .ok (.invokestatic 48, 3) := by decide +kernel
theorem dX7_copy_11 : decode cX7_copy 11 = .ok (.ifCond .eq 17, 3) := by decide +kernel
theorem dX7_copy_14 : decode cX7_copy 14 = .ok (.aload_n 0, 1) := by decide +kernel
theorem dX7_copy_15 : decode cX7_copy 15 = .ok (.iload_n 2, 1) := by decide +kernel
theorem dX7_copy_16 : decode cX7_copy 16 = .ok (.aload_n 0, 1) := by decide +kernel
theorem dX7_copy_17 : decode cX7_copy 17 = .ok (.getfield 13, 3) := by decide +kernel
theorem dX7_copy_20 : decode cX7_copy 20 = .ok (.iload_n 1, 1) := by decide +kernel
theorem dX7_copy_21 : decode cX7_copy 21 = .ok (.laload, 1) := by decide +kernel
theorem dX7_copy_22 : decode cX7_copy 22 = .ok (.invokevirtual 55, 3) := by decide +kernel
theorem dX7_copy_25 : decode cX7_copy 25 = .ok (.goto 4, 3) := by decide +kernel
theorem dX7_copy_28 : decode cX7_copy 28 = .ok (.iconst (-1), 1) := by decide +kernel
theorem dX7_copy_29 : decode cX7_copy 29 = .ok (.ireturn, 1) := by decide +kernel
set_option maxRecDepth 20000 in
theorem ggX7_sum_X7_isRegister : GoodIn wsX7_sum wsX7_isRegister := goodIn_r _ [5, 6, 7, 4, 8] (by decide +kernel) (by decide +kernel)
set_option maxRecDepth 20000 in
theorem gX7_sum_X7_isRegister : GoodIn wsX7_sum (va_wsS RX7 48 yX7_isRegister wsX7_isRegister) := goodIn_app (goodIn_of _ (by decide +kernel)) ggX7_sum_X7_isRegister
set_option maxRecDepth 20000 in
theorem ggX7_sum_X7_gets : GoodIn wsX7_sum wsX7_gets := goodIn_r _ [12, 1, 13, 14, 15, 4, 16, 17, 18, 19, 20, 21, 22, 23, 24, 25, 26, 27, 28, 29, 30] (by decide +kernel) (by decide +kernel)
set_option maxRecDepth 20000 in
theorem gX7_sum_X7_gets : GoodIn wsX7_sum (wsV RX7 55 RX7 yX7_gets wsX7_gets) := goodIn_app (goodIn_of _ (by decide +kernel)) ggX7_sum_X7_gets
theorem dX7_sum_0 : decode cX7_sum 0 = .ok (.iload_n 1, 1) := by decide +kernel
theorem dX7_sum_1 : decode cX7_sum 1 = .ok (.invokestatic 48, 3) := by decide +kernel
theorem dX7_sum_4 : decode cX7_sum 4 = .ok (.ifCond .eq 38, 3) := by decide +kernel
theorem dX7_sum_7 : decode cX7_sum 7 = .ok (.iload_n 2, 1) := by decide +kernel
theorem dX7_sum_8 : decode cX7_sum 8 = .ok (.invokestatic 48, 3) := by decide +kernel
theorem dX7_sum_11 : decode cX7_sum 11 = .ok (.ifCond .eq 31, 3) := by decide +kernel
theorem dX7_sum_14 : decode cX7_sum 14 = .ok (.iload_n 3, 1) := by decide +kernel
theorem dX7_sum_15 : decode cX7_sum 15 = .ok (.invokestatic 48, 3) := by decide +kernel
theorem dX7_sum_18 : decode cX7_sum 18 = .ok (.ifCond .eq 24, 3) := by decide +kernel
theorem dX7_sum_21 : decode cX7_sum 21 = .ok (.aload_n 0, 1) := by decide +kernel
theorem dX7_sum_22 : decode cX7_sum 22 = .ok (.iload_n 3, 1) := by decide +kernel
theorem dX7_sum_23 : decode cX7_sum 23 = .ok (.aload_n 0, 1) := by decide +kernel
theorem dX7_sum_24 : decode cX7_sum 24 = .ok (.getfield 13, 3) := by decide +kernel
theorem dX7_sum_27 : decode cX7_sum 27 = .ok (.iload_n 1, 1) := by decide +kernel
theorem dX7_sum_28 : decode cX7_sum 28 = .ok (.laload, 1) := by decide +kernel
theorem dX7_sum_29 : decode cX7_sum 29 = .ok (.aload_n 0, 1) := by decide +kernel
theorem dX7_sum_30 : decode cX7_sum 30 = .ok (.getfield 13, 3) := by decide +kernel
theorem dX7_sum_33 : decode cX7_sum 33 = .ok (.iload_n 2, 1) := by decide +kernel
theorem dX7_sum_34 : decode cX7_sum 34 = .ok (.laload, 1) := by decide +kernel
theorem dX7_sum_35 : decode cX7_sum 35 = .ok (.lxor, 1) := by decide +kernel
theorem dX7_sum_36 : decode cX7_sum 36 = .ok (.invokevirtual 55, 3) := by decide +kernel
theorem dX7_sum_39 : decode cX7_sum 39 = .ok (.goto 4, 3) := by decide +kernel
theorem dX7_sum_42 : decode cX7_sum 42 = .ok (.iconst (-1), 1) := by decide +kernel
theorem dX7_sum_43 : decode cX7_sum 43 = .ok (.ireturn, 1) := by decide +kernel
set_option maxRecDepth 20000 in
theorem ggX7_product_X7_isRegister : GoodIn wsX7_product wsX7_isRegister := goodIn_r _ [5, 6, 7, 4, 8] (by decide +kernel) (by decide +kernel)
set_option maxRecDepth 20000 in
theorem gX7_product_X7_isRegister : GoodIn wsX7_product (va_wsS RX7 48 yX7_isRegister wsX7_isRegister) := goodIn_app (goodIn_of _ (by decide +kernel)) ggX7_product_X7_isRegister
set_option maxRecDepth 20000 in
theorem ggX7_product_X7_product1 : GoodIn wsX7_product wsX7_product1 := goodIn_r _ [12, 13, 14, 15, 4, 16, 30, 31, 32, 33, 34, 35, 36, 37, 38] (by decide +kernel) (by decide +kernel)
set_option maxRecDepth 20000 in
theorem gX7_product_X7_product1 : GoodIn wsX7_product (wsV RX7 59 RX7 yX7_product1 wsX7_product1) := goodIn_app (goodIn_of _ (by decide +kernel)) ggX7_product_X7_product1
set_option maxRecDepth 20000 in
theorem ggX7_product_X7_gets : GoodIn wsX7_product wsX7_gets := goodIn_r _ [20, 1, 21, 22, 23, 4, 24, 25, 26, 27, 28, 29, 30, 31, 32, 33, 34, 35, 36, 37, 38] (by decide +kernel) (by decide +kernel)
set_option maxRecDepth 20000 in
theorem gX7_product_X7_gets : GoodIn wsX7_product (wsV RX7 55 RX7 yX7_gets wsX7_gets) := goodIn_app (goodIn_of _ (by decide +kernel)) ggX7_product_X7_gets
theorem dX7_product_0 : decode cX7_product 0 = .ok (.iload_n 1, 1) := by decide +kernel
theorem dX7_product_1 : decode cX7_product 1 = .ok (.invokestatic 48, 3) := by decide +kernel
theorem dX7_product_4 : decode cX7_product 4 = .ok (.ifCond .eq 41, 3) := by decide +kernel
theorem dX7_product_7 : decode cX7_product 7 = .ok (.iload_n 2, 1) := by decide +kernel
theorem dX7_product_8 : decode cX7_product 8 = .ok (.invokestatic 48, 3) := by decide +kernel
theorem dX7_product_11 : decode cX7_product 11 = .ok (.ifCond .eq 34, 3) := by decide +kernel
theorem dX7_product_14 : decode cX7_product 14 = .ok (.iload_n 3, 1) := by decide +kernel
theorem dX7_product_15 : decode cX7_product 15 = .ok (.invokestatic 48, 3) := by decide +kernel
theorem dX7_product_18 : decode cX7_product 18 = .ok (.ifCond .eq 27, 3) := by decide +kernel
theorem dX7_product_21 : decode cX7_product 21 = .ok (.aload_n 0, 1) := by decide +kernel
theorem dX7_product_22 : decode cX7_product 22 = .ok (.iload_n 3, 1) := by decide +kernel
theorem dX7_product_23 : decode cX7_product 23 = .ok (.aload_n 0, 1) := by decide +kernel
theorem dX7_product_24 : decode cX7_product 24 = .ok (.aload_n 0, 1) := by decide +kernel
theorem dX7_product_25 : decode cX7_product 25 = .ok (.getfield 13, 3) := by decide +kernel
theorem dX7_product_28 : decode cX7_product 28 = .ok (.iload_n 1, 1) := by decide +kernel
theorem dX7_product_29 : decode cX7_product 29 = .ok (.laload, 1) := by decide +kernel
theorem dX7_product_30 : decode cX7_product 30 = .ok (.aload_n 0, 1) := by decide +kernel
theorem dX7_product_31 : decode cX7_product 31 = .ok (.getfield 13, 3) := by decide +kernel
theorem dX7_product_34 : decode cX7_product 34 = .ok (.iload_n 2, 1) := by decide +kernel
theorem dX7_product_35 : decode cX7_product 35 = .ok (.laload, 1) := by decide +kernel
theorem dX7_product_36 : decode cX7_product 36 = .ok (.invokevirtual 59, 3) := by decide +kernel
theorem dX7_product_39 : decode cX7_product 39 = .ok (.invokevirtual 55, 3) := by decide +kernel
theorem dX7_product_42 : decode cX7_product 42 = .ok (.goto 4, 3) := by decide +kernel
theorem dX7_product_45 : decode cX7_product 45 = .ok (.iconst (-1), 1) := by decide +kernel
theorem dX7_product_46 : decode cX7_product 46 = .ok (.ireturn, 1) := by decide +kernel
set_option maxRecDepth 20000 in
theorem ggX7_times_X7_isRegister : GoodIn wsX7_times wsX7_isRegister := goodIn_r _ [5, 6, 7, 4, 8] (by decide +kernel) (by decide +kernel)
set_option maxRecDepth 20000 in
theorem gX7_times_X7_isRegister : GoodIn wsX7_times (va_wsS RX7 48 yX7_isRegister wsX7_isRegister) := goodIn_app (goodIn_of _ (by decide +kernel)) ggX7_times_X7_isRegister
set_option maxRecDepth 20000 in
theorem ggX7_times_X7_isMask : GoodIn wsX7_times wsX7_isMask := goodIn_r _ [12, 13, 6, 7, 4, 8, 34, 35, 36, 37, 38, 39, 40, 41, 42] (by decide +kernel) (by decide +kernel)
set_option maxRecDepth 20000 in
theorem gX7_times_X7_isMask : GoodIn wsX7_times (wsV RX7 52 RX7 yX7_isMask wsX7_isMask) := goodIn_app (goodIn_of _ (by decide +kernel)) ggX7_times_X7_isMask
set_option maxRecDepth 20000 in
theorem ggX7_times_X7_product1 : GoodIn wsX7_times wsX7_product1 := goodIn_r _ [17, 13, 18, 19, 4, 20, 34, 35, 36, 37, 38, 39, 40, 41, 42] (by decide +kernel) (by decide +kernel)
set_option maxRecDepth 20000 in
theorem gX7_times_X7_product1 : GoodIn wsX7_times (wsV RX7 59 RX7 yX7_product1 wsX7_product1) := goodIn_app (goodIn_of _ (by decide +kernel)) ggX7_times_X7_product1
set_option maxRecDepth 20000 in
theorem ggX7_times_X7_gets : GoodIn wsX7_times wsX7_gets := goodIn_r _ [24, 1, 25, 26, 27, 4, 28, 29, 30, 31, 32, 33, 34, 35, 36, 37, 38, 39, 40, 41, 42] (by decide +kernel) (by decide +kernel)
set_option maxRecDepth 20000 in
theorem gX7_times_X7_gets : GoodIn wsX7_times (wsV RX7 55 RX7 yX7_gets wsX7_gets) := goodIn_app (goodIn_of _ (by decide +kernel)) ggX7_times_X7_gets
theorem dX7_times_0 : decode cX7_times 0 = .ok (.iload_n 1, 1) := by decide +kernel
theorem dX7_times_1 : decode cX7_times 1 = .ok (.invokestatic 48, 3) := by decide +kernel
theorem dX7_times_4 : decode cX7_times 4 = .ok (.ifCond .eq 39, 3) := by decide +kernel
theorem dX7_times_7 : decode cX7_times 7 = .ok (.aload_n 0, 1) := by decide +kernel
theorem dX7_times_8 : decode cX7_times 8 = .ok (.iload_n 2, 1) := by decide +kernel
theorem dX7_times_9 : decode cX7_times 9 = .ok (.invokevirtual 52, 3) := by decide +kernel
theorem dX7_times_12 : decode cX7_times 12 = .ok (.ifCond .eq 31, 3) := by decide +kernel
theorem dX7_times_15 : decode cX7_times 15 = .ok (.iload_n 3, 1) := by decide +kernel
theorem dX7_times_16 : decode cX7_times 16 = .ok (.invokestatic 48, 3) := by decide +kernel
theorem dX7_times_19 : decode cX7_times 19 = .ok (.ifCond .eq 24, 3) := by decide +kernel
theorem dX7_times_22 : decode cX7_times 22 = .ok (.aload_n 0, 1) := by decide +kernel
theorem dX7_times_23 : decode cX7_times 23 = .ok (.iload_n 3, 1) := by decide +kernel
theorem dX7_times_24 : decode cX7_times 24 = .ok (.aload_n 0, 1) := by decide +kernel
theorem dX7_times_25 : decode cX7_times 25 = .ok (.aload_n 0, 1) := by decide +kernel
theorem dX7_times_26 : decode cX7_times 26 = .ok (.getfield 13, 3) := by decide +kernel
theorem dX7_times_29 : decode cX7_times 29 = .ok (.iload_n 1, 1) := by decide +kernel
theorem dX7_times_30 : decode cX7_times 30 = .ok (.laload, 1) := by decide +kernel
theorem dX7_times_31 : decode cX7_times 31 = .ok (.lconst 1, 1) := by decide +kernel
theorem dX7_times_32 : decode cX7_times 32 = .ok (.iload_n 2, 1) := by decide +kernel
theorem dX7_times_33 : decode cX7_times 33 = .ok (.lshl, 1) := by decide +kernel
theorem dX7_times_34 : decode cX7_times 34 = .ok (.invokevirtual 59, 3) := by decide +kernel
theorem dX7_times_37 : decode cX7_times 37 = .ok (.invokevirtual 55, 3) := by decide +kernel
theorem dX7_times_40 : decode cX7_times 40 = .ok (.goto 4, 3) := by decide +kernel
theorem dX7_times_43 : decode cX7_times 43 = .ok (.iconst (-1), 1) := by decide +kernel
theorem dX7_times_44 : decode cX7_times 44 = .ok (.ireturn, 1) := by decide +kernel
set_option maxRecDepth 20000 in
theorem ggX7_restrict_X7_isRegister : GoodIn wsX7_restrict wsX7_isRegister := goodIn_r _ [5, 6, 7, 4, 8] (by decide +kernel) (by decide +kernel)
set_option maxRecDepth 20000 in
theorem gX7_restrict_X7_isRegister : GoodIn wsX7_restrict (va_wsS RX7 48 yX7_isRegister wsX7_isRegister) := goodIn_app (goodIn_of _ (by decide +kernel)) ggX7_restrict_X7_isRegister
set_option maxRecDepth 20000 in
theorem ggX7_restrict_X7_isVariable : GoodIn wsX7_restrict wsX7_isVariable := goodIn_r _ [12, 13, 6, 7, 4, 8, 38, 39, 40, 41, 42, 43, 44, 45, 46] (by decide +kernel) (by decide +kernel)
set_option maxRecDepth 20000 in
theorem gX7_restrict_X7_isVariable : GoodIn wsX7_restrict (wsV RX7 63 RX7 yX7_isVariable wsX7_isVariable) := goodIn_app (goodIn_of _ (by decide +kernel)) ggX7_restrict_X7_isVariable
set_option maxRecDepth 20000 in
theorem ggX7_restrict_X7_in : GoodIn wsX7_restrict wsX7_in := goodIn_r _ [8] (by decide +kernel) (by decide +kernel)
set_option maxRecDepth 20000 in
theorem gX7_restrict_X7_in : GoodIn wsX7_restrict (va_wsS RX7 30 yX7_in wsX7_in) := goodIn_app (goodIn_of _ (by decide +kernel)) ggX7_restrict_X7_in
set_option maxRecDepth 20000 in
theorem ggX7_restrict_X7_lower : GoodIn wsX7_restrict wsX7_lower := goodIn_r _ [17, 13, 18, 19, 4, 20, 38, 39, 40, 41, 42, 43, 44, 45, 46] (by decide +kernel) (by decide +kernel)
set_option maxRecDepth 20000 in
theorem gX7_restrict_X7_lower : GoodIn wsX7_restrict (wsV RX7 66 RX7 yX7_lower wsX7_lower) := goodIn_app (goodIn_of _ (by decide +kernel)) ggX7_restrict_X7_lower
set_option maxRecDepth 20000 in
theorem ggX7_restrict_X7_upper : GoodIn wsX7_restrict wsX7_upper := goodIn_r _ [24, 13, 18, 19, 4, 20, 38, 39, 40, 41, 42, 43, 44, 45, 46] (by decide +kernel) (by decide +kernel)
set_option maxRecDepth 20000 in
theorem gX7_restrict_X7_upper : GoodIn wsX7_restrict (wsV RX7 70 RX7 yX7_upper wsX7_upper) := goodIn_app (goodIn_of _ (by decide +kernel)) ggX7_restrict_X7_upper
set_option maxRecDepth 20000 in
theorem ggX7_restrict_X7_gets : GoodIn wsX7_restrict wsX7_gets := goodIn_r _ [28, 1, 29, 30, 31, 4, 32, 33, 34, 35, 36, 37, 38, 39, 40, 41, 42, 43, 44, 45, 46] (by decide +kernel) (by decide +kernel)
set_option maxRecDepth 20000 in
theorem gX7_restrict_X7_gets : GoodIn wsX7_restrict (wsV RX7 55 RX7 yX7_gets wsX7_gets) := goodIn_app (goodIn_of _ (by decide +kernel)) ggX7_restrict_X7_gets
theorem dX7_restrict_0 : decode cX7_restrict 0 = .ok (.iload_n 1, 1) := by decide +kernel
theorem dX7_restrict_1 : decode cX7_restrict 1 = .ok (.invokestatic 48, 3) := by decide +kernel
theorem dX7_restrict_4 : decode cX7_restrict 4 = .ok (.ifCond .eq 28, 3) := by decide +kernel
theorem dX7_restrict_7 : decode cX7_restrict 7 = .ok (.aload_n 0, 1) := by decide +kernel
theorem dX7_restrict_8 : decode cX7_restrict 8 = .ok (.iload_n 2, 1) := by decide +kernel
theorem dX7_restrict_9 : decode cX7_restrict 9 = .ok (.invokevirtual 63, 3) := by decide +kernel
theorem dX7_restrict_12 : decode cX7_restrict 12 = .ok (.ifCond .eq 20, 3) := by decide +kernel
theorem dX7_restrict_15 : decode cX7_restrict 15 = .ok (.iload_n 3, 1) := by decide +kernel
theorem dX7_restrict_16 : decode cX7_restrict 16 = .ok (.iconst 0, 1) := by decide +kernel
theorem dX7_restrict_17 : decode cX7_restrict 17 = .ok (.iconst 1, 1) := by decide +kernel
theorem dX7_restrict_18 : decode cX7_restrict 18 = .ok (.invokestatic 30, 3) := by decide +kernel
theorem dX7_restrict_21 : decode cX7_restrict 21 = .ok (.ifCond .eq 11, 3) := by decide +kernel
theorem dX7_restrict_24 : decode cX7_restrict 24 = .ok (.iload 4, 2) := by decide +kernel
theorem dX7_restrict_26 : decode cX7_restrict 26 = .ok (.invokestatic 48, 3) := by decide +kernel
theorem dX7_restrict_29 : decode cX7_restrict 29 = .ok (.ifCond .ne 5, 3) := by decide +kernel
theorem dX7_restrict_32 : decode cX7_restrict 32 = .ok (.iconst (-1), 1) := by decide +kernel
theorem dX7_restrict_33 : decode cX7_restrict 33 = .ok (.ireturn, 1) := by decide +kernel
theorem dX7_restrict_34 : decode cX7_restrict 34 = .ok (.aload_n 0, 1) := by decide +kernel
theorem dX7_restrict_35 : decode cX7_restrict 35 = .ok (.iload 4, 2) := by decide +kernel
theorem dX7_restrict_37 : decode cX7_restrict 37 = .ok (.aload_n 0, 1) := by decide +kernel
theorem dX7_restrict_38 : decode cX7_restrict 38 = .ok (.aload_n 0, 1) := by decide +kernel
theorem dX7_restrict_39 : decode cX7_restrict 39 = .ok (.getfield 13, 3) := by decide +kernel
theorem dX7_restrict_42 : decode cX7_restrict 42 = .ok (.iload_n 1, 1) := by decide +kernel
theorem dX7_restrict_43 : decode cX7_restrict 43 = .ok (.laload, 1) := by decide +kernel
theorem dX7_restrict_44 : decode cX7_restrict 44 = .ok (.iload_n 2, 1) := by decide +kernel
theorem dX7_restrict_45 : decode cX7_restrict 45 = .ok (.invokevirtual 66, 3) := by decide +kernel
theorem dX7_restrict_48 : decode cX7_restrict 48 = .ok (.iload_n 3, 1) := by decide +kernel
theorem dX7_restrict_49 : decode cX7_restrict 49 = .ok (.iconst 1, 1) := by decide +kernel
theorem dX7_restrict_50 : decode cX7_restrict 50 = .ok (.if_icmp .ne 17, 3) := by decide +kernel
theorem dX7_restrict_53 : decode cX7_restrict 53 = .ok (.aload_n 0, 1) := by decide +kernel
theorem dX7_restrict_54 : decode cX7_restrict 54 = .ok (.aload_n 0, 1) := by decide +kernel
theorem dX7_restrict_55 : decode cX7_restrict 55 = .ok (.getfield 13, 3) := by decide +kernel
theorem dX7_restrict_58 : decode cX7_restrict 58 = .ok (.iload_n 1, 1) := by decide +kernel
theorem dX7_restrict_59 : decode cX7_restrict 59 = .ok (.laload, 1) := by decide +kernel
theorem dX7_restrict_60 : decode cX7_restrict 60 = .ok (.iload_n 2, 1) := by decide +kernel
theorem dX7_restrict_61 : decode cX7_restrict 61 = .ok (.invokevirtual 70, 3) := by decide +kernel
theorem dX7_restrict_64 : decode cX7_restrict 64 = .ok (.goto 4, 3) := by decide +kernel
theorem dX7_restrict_67 : decode cX7_restrict 67 = .ok (.lconst 0, 1) := by decide +kernel
theorem dX7_restrict_68 : decode cX7_restrict 68 = .ok (.lxor, 1) := by decide +kernel
theorem dX7_restrict_69 : decode cX7_restrict 69 = .ok (.invokevirtual 55, 3) := by decide +kernel
theorem dX7_restrict_72 : decode cX7_restrict 72 = .ok (.ireturn, 1) := by decide +kernel
set_option maxRecDepth 20000 in
theorem ggX7_substitute_X7_isRegister : GoodIn wsX7_substitute wsX7_isRegister := goodIn_r _ [5, 6, 7, 4, 8] (by decide +kernel) (by decide +kernel)
set_option maxRecDepth 20000 in
theorem gX7_substitute_X7_isRegister : GoodIn wsX7_substitute (va_wsS RX7 48 yX7_isRegister wsX7_isRegister) := goodIn_app (goodIn_of _ (by decide +kernel)) ggX7_substitute_X7_isRegister
set_option maxRecDepth 20000 in
theorem ggX7_substitute_X7_isVariable : GoodIn wsX7_substitute wsX7_isVariable := goodIn_r _ [12, 13, 6, 7, 4, 8, 42, 43, 44, 45, 46, 47, 48, 49, 50] (by decide +kernel) (by decide +kernel)
set_option maxRecDepth 20000 in
theorem gX7_substitute_X7_isVariable : GoodIn wsX7_substitute (wsV RX7 63 RX7 yX7_isVariable wsX7_isVariable) := goodIn_app (goodIn_of _ (by decide +kernel)) ggX7_substitute_X7_isVariable
set_option maxRecDepth 20000 in
theorem ggX7_substitute_X7_lower : GoodIn wsX7_substitute wsX7_lower := goodIn_r _ [17, 13, 18, 19, 4, 20, 42, 43, 44, 45, 46, 47, 48, 49, 50] (by decide +kernel) (by decide +kernel)
set_option maxRecDepth 20000 in
theorem gX7_substitute_X7_lower : GoodIn wsX7_substitute (wsV RX7 66 RX7 yX7_lower wsX7_lower) := goodIn_app (goodIn_of _ (by decide +kernel)) ggX7_substitute_X7_lower
set_option maxRecDepth 20000 in
theorem ggX7_substitute_X7_upper : GoodIn wsX7_substitute wsX7_upper := goodIn_r _ [24, 13, 18, 19, 4, 20, 42, 43, 44, 45, 46, 47, 48, 49, 50] (by decide +kernel) (by decide +kernel)
set_option maxRecDepth 20000 in
theorem gX7_substitute_X7_upper : GoodIn wsX7_substitute (wsV RX7 70 RX7 yX7_upper wsX7_upper) := goodIn_app (goodIn_of _ (by decide +kernel)) ggX7_substitute_X7_upper
set_option maxRecDepth 20000 in
theorem ggX7_substitute_X7_product1 : GoodIn wsX7_substitute wsX7_product1 := goodIn_r _ [28, 13, 18, 19, 4, 20, 42, 43, 44, 45, 46, 47, 48, 49, 50] (by decide +kernel) (by decide +kernel)
set_option maxRecDepth 20000 in
theorem gX7_substitute_X7_product1 : GoodIn wsX7_substitute (wsV RX7 59 RX7 yX7_product1 wsX7_product1) := goodIn_app (goodIn_of _ (by decide +kernel)) ggX7_substitute_X7_product1
set_option maxRecDepth 20000 in
theorem ggX7_substitute_X7_gets : GoodIn wsX7_substitute wsX7_gets := goodIn_r _ [32, 1, 33, 34, 35, 4, 36, 37, 38, 39, 40, 41, 42, 43, 44, 45, 46, 47, 48, 49, 50] (by decide +kernel) (by decide +kernel)
set_option maxRecDepth 20000 in
theorem gX7_substitute_X7_gets : GoodIn wsX7_substitute (wsV RX7 55 RX7 yX7_gets wsX7_gets) := goodIn_app (goodIn_of _ (by decide +kernel)) ggX7_substitute_X7_gets
theorem dX7_substitute_0 : decode cX7_substitute 0 = .ok (.iload_n 1, 1) := by decide +kernel
theorem dX7_substitute_1 : decode cX7_substitute 1 = .ok (.invokestatic 48, 3) := by decide +kernel
theorem dX7_substitute_4 : decode cX7_substitute 4 = .ok (.ifCond .eq 26, 3) := by decide +kernel
theorem dX7_substitute_7 : decode cX7_substitute 7 = .ok (.aload_n 0, 1) := by decide +kernel
theorem dX7_substitute_8 : decode cX7_substitute 8 = .ok (.iload_n 2, 1) := by decide +kernel
theorem dX7_substitute_9 : decode cX7_substitute 9 = .ok (.invokevirtual 63, 3) := by decide +kernel
theorem dX7_substitute_12 : decode cX7_substitute 12 = .ok (.ifCond .eq 18, 3) := by decide +kernel
theorem dX7_substitute_15 : decode cX7_substitute 15 = .ok (.iload_n 3, 1) := by decide +kernel
theorem dX7_substitute_16 : decode cX7_substitute 16 = .ok (.invokestatic 48, 3) := by decide +kernel
theorem dX7_substitute_19 : decode cX7_substitute 19 = .ok (.ifCond .eq 11, 3) := by decide +kernel
theorem dX7_substitute_22 : decode cX7_substitute 22 = .ok (.iload 4, 2) := by decide +kernel
theorem dX7_substitute_24 : decode cX7_substitute 24 = .ok (.invokestatic 48, 3) := by decide +kernel
theorem dX7_substitute_27 : decode cX7_substitute 27 = .ok (.ifCond .ne 5, 3) := by decide +kernel
theorem dX7_substitute_30 : decode cX7_substitute 30 = .ok (.iconst (-1), 1) := by decide +kernel
theorem dX7_substitute_31 : decode cX7_substitute 31 = .ok (.ireturn, 1) := by decide +kernel
theorem dX7_substitute_32 : decode cX7_substitute 32 = .ok (.aload_n 0, 1) := by decide +kernel
theorem dX7_substitute_33 : decode cX7_substitute 33 = .ok (.iload 4, 2) := by decide +kernel
theorem dX7_substitute_35 : decode cX7_substitute 35 = .ok (.aload_n 0, 1) := by decide +kernel
theorem dX7_substitute_36 : decode cX7_substitute 36 = .ok (.aload_n 0, 1) := by decide +kernel
theorem dX7_substitute_37 : decode cX7_substitute 37 = .ok (.getfield 13, 3) := by decide +kernel
theorem dX7_substitute_40 : decode cX7_substitute 40 = .ok (.iload_n 1, 1) := by decide +kernel
theorem dX7_substitute_41 : decode cX7_substitute 41 = .ok (.laload, 1) := by decide +kernel
theorem dX7_substitute_42 : decode cX7_substitute 42 = .ok (.iload_n 2, 1) := by decide +kernel
theorem dX7_substitute_43 : decode cX7_substitute 43 = .ok (.invokevirtual 66, 3) := by decide +kernel
theorem dX7_substitute_46 : decode cX7_substitute 46 = .ok (.aload_n 0, 1) := by decide +kernel
theorem dX7_substitute_47 : decode cX7_substitute 47 = .ok (.aload_n 0, 1) := by decide +kernel
theorem dX7_substitute_48 : decode cX7_substitute 48 = .ok (.aload_n 0, 1) := by decide +kernel
theorem dX7_substitute_49 : decode cX7_substitute 49 = .ok (.getfield 13, 3) := by decide +kernel
theorem dX7_substitute_52 : decode cX7_substitute 52 = .ok (.iload_n 1, 1) := by decide +kernel
theorem dX7_substitute_53 : decode cX7_substitute 53 = .ok (.laload, 1) := by decide +kernel
theorem dX7_substitute_54 : decode cX7_substitute 54 = .ok (.iload_n 2, 1) := by decide +kernel
theorem dX7_substitute_55 : decode cX7_substitute 55 = .ok (.invokevirtual 70, 3) := by decide +kernel
theorem dX7_substitute_58 : decode cX7_substitute 58 = .ok (.aload_n 0, 1) := by decide +kernel
theorem dX7_substitute_59 : decode cX7_substitute 59 = .ok (.getfield 13, 3) := by decide +kernel
theorem dX7_substitute_62 : decode cX7_substitute 62 = .ok (.iload_n 3, 1) := by decide +kernel
theorem dX7_substitute_63 : decode cX7_substitute 63 = .ok (.laload, 1) := by decide +kernel
theorem dX7_substitute_64 : decode cX7_substitute 64 = .ok (.invokevirtual 59, 3) := by decide +kernel
theorem dX7_substitute_67 : decode cX7_substitute 67 = .ok (.lxor, 1) := by decide +kernel
theorem dX7_substitute_68 : decode cX7_substitute 68 = .ok (.invokevirtual 55, 3) := by decide +kernel
theorem dX7_substitute_71 : decode cX7_substitute 71 = .ok (.ireturn, 1) := by decide +kernel
set_option maxRecDepth 20000 in
theorem ggX7_derivative_X7_isRegister : GoodIn wsX7_derivative wsX7_isRegister := goodIn_r _ [5, 6, 7, 4, 8] (by decide +kernel) (by decide +kernel)
set_option maxRecDepth 20000 in
theorem gX7_derivative_X7_isRegister : GoodIn wsX7_derivative (va_wsS RX7 48 yX7_isRegister wsX7_isRegister) := goodIn_app (goodIn_of _ (by decide +kernel)) ggX7_derivative_X7_isRegister
set_option maxRecDepth 20000 in
theorem ggX7_derivative_X7_isVariable : GoodIn wsX7_derivative wsX7_isVariable := goodIn_r _ [12, 13, 6, 7, 4, 8, 34, 35, 36, 37, 38, 39, 40, 41, 42] (by decide +kernel) (by decide +kernel)
set_option maxRecDepth 20000 in
theorem gX7_derivative_X7_isVariable : GoodIn wsX7_derivative (wsV RX7 63 RX7 yX7_isVariable wsX7_isVariable) := goodIn_app (goodIn_of _ (by decide +kernel)) ggX7_derivative_X7_isVariable
set_option maxRecDepth 20000 in
theorem ggX7_derivative_X7_upper : GoodIn wsX7_derivative wsX7_upper := goodIn_r _ [17, 13, 18, 19, 4, 20, 34, 35, 36, 37, 38, 39, 40, 41, 42] (by decide +kernel) (by decide +kernel)
set_option maxRecDepth 20000 in
theorem gX7_derivative_X7_upper : GoodIn wsX7_derivative (wsV RX7 70 RX7 yX7_upper wsX7_upper) := goodIn_app (goodIn_of _ (by decide +kernel)) ggX7_derivative_X7_upper
set_option maxRecDepth 20000 in
theorem ggX7_derivative_X7_gets : GoodIn wsX7_derivative wsX7_gets := goodIn_r _ [24, 1, 25, 26, 27, 4, 28, 29, 30, 31, 32, 33, 34, 35, 36, 37, 38, 39, 40, 41, 42] (by decide +kernel) (by decide +kernel)
set_option maxRecDepth 20000 in
theorem gX7_derivative_X7_gets : GoodIn wsX7_derivative (wsV RX7 55 RX7 yX7_gets wsX7_gets) := goodIn_app (goodIn_of _ (by decide +kernel)) ggX7_derivative_X7_gets
theorem dX7_derivative_0 : decode cX7_derivative 0 = .ok (.iload_n 1, 1) := by decide +kernel
theorem dX7_derivative_1 : decode cX7_derivative 1 = .ok (.invokestatic 48, 3) := by decide +kernel
theorem dX7_derivative_4 : decode cX7_derivative 4 = .ok (.ifCond .eq 37, 3) := by decide +kernel
theorem dX7_derivative_7 : decode cX7_derivative 7 = .ok (.aload_n 0, 1) := by decide +kernel
theorem dX7_derivative_8 : decode cX7_derivative 8 = .ok (.iload_n 2, 1) := by decide +kernel
theorem dX7_derivative_9 : decode cX7_derivative 9 = .ok (.invokevirtual 63, 3) := by decide +kernel
theorem dX7_derivative_12 : decode cX7_derivative 12 = .ok (.ifCond .eq 29, 3) := by decide +kernel
theorem dX7_derivative_15 : decode cX7_derivative 15 = .ok (.iload_n 3, 1) := by decide +kernel
theorem dX7_derivative_16 : decode cX7_derivative 16 = .ok (.invokestatic 48, 3) := by decide +kernel
theorem dX7_derivative_19 : decode cX7_derivative 19 = .ok (.ifCond .eq 22, 3) := by decide +kernel
theorem dX7_derivative_22 : decode cX7_derivative 22 = .ok (.aload_n 0, 1) := by decide +kernel
theorem dX7_derivative_23 : decode cX7_derivative 23 = .ok (.iload_n 3, 1) := by decide +kernel
theorem dX7_derivative_24 : decode cX7_derivative 24 = .ok (.aload_n 0, 1) := by decide +kernel
theorem dX7_derivative_25 : decode cX7_derivative 25 = .ok (.aload_n 0, 1) := by decide +kernel
theorem dX7_derivative_26 : decode cX7_derivative 26 = .ok (.getfield 13, 3) := by decide +kernel
theorem dX7_derivative_29 : decode cX7_derivative 29 = .ok (.iload_n 1, 1) := by decide +kernel
theorem dX7_derivative_30 : decode cX7_derivative 30 = .ok (.laload, 1) := by decide +kernel
theorem dX7_derivative_31 : decode cX7_derivative 31 = .ok (.iload_n 2, 1) := by decide +kernel
theorem dX7_derivative_32 : decode cX7_derivative 32 = .ok (.invokevirtual 70, 3) := by decide +kernel
theorem dX7_derivative_35 : decode cX7_derivative 35 = .ok (.invokevirtual 55, 3) := by decide +kernel
theorem dX7_derivative_38 : decode cX7_derivative 38 = .ok (.goto 4, 3) := by decide +kernel
theorem dX7_derivative_41 : decode cX7_derivative 41 = .ok (.iconst (-1), 1) := by decide +kernel
theorem dX7_derivative_42 : decode cX7_derivative 42 = .ok (.ireturn, 1) := by decide +kernel
set_option maxRecDepth 20000 in
theorem ggX7_flip_X7_isRegister : GoodIn wsX7_flip wsX7_isRegister := goodIn_r _ [5, 6, 7, 4, 8] (by decide +kernel) (by decide +kernel)
set_option maxRecDepth 20000 in
theorem gX7_flip_X7_isRegister : GoodIn wsX7_flip (va_wsS RX7 48 yX7_isRegister wsX7_isRegister) := goodIn_app (goodIn_of _ (by decide +kernel)) ggX7_flip_X7_isRegister
set_option maxRecDepth 20000 in
theorem ggX7_flip_X7_isMask : GoodIn wsX7_flip wsX7_isMask := goodIn_r _ [12, 13, 6, 7, 4, 8, 34, 35, 36, 37, 38, 39, 40, 41, 42] (by decide +kernel) (by decide +kernel)
set_option maxRecDepth 20000 in
theorem gX7_flip_X7_isMask : GoodIn wsX7_flip (wsV RX7 52 RX7 yX7_isMask wsX7_isMask) := goodIn_app (goodIn_of _ (by decide +kernel)) ggX7_flip_X7_isMask
set_option maxRecDepth 20000 in
theorem ggX7_flip_X7_values : GoodIn wsX7_flip wsX7_values := goodIn_r _ [17, 13, 18, 19, 4, 20, 34, 35, 36, 37, 38, 39, 40, 41, 42] (by decide +kernel) (by decide +kernel)
set_option maxRecDepth 20000 in
theorem gX7_flip_X7_values : GoodIn wsX7_flip (wsV RX7 73 RX7 yX7_values wsX7_values) := goodIn_app (goodIn_of _ (by decide +kernel)) ggX7_flip_X7_values
set_option maxRecDepth 20000 in
theorem ggX7_flip_X7_gets : GoodIn wsX7_flip wsX7_gets := goodIn_r _ [24, 1, 25, 26, 27, 4, 28, 29, 30, 31, 32, 33, 34, 35, 36, 37, 38, 39, 40, 41, 42] (by decide +kernel) (by decide +kernel)
set_option maxRecDepth 20000 in
theorem gX7_flip_X7_gets : GoodIn wsX7_flip (wsV RX7 55 RX7 yX7_gets wsX7_gets) := goodIn_app (goodIn_of _ (by decide +kernel)) ggX7_flip_X7_gets
theorem dX7_flip_0 : decode cX7_flip 0 = .ok (.iload_n 1, 1) := by decide +kernel
theorem dX7_flip_1 : decode cX7_flip 1 = .ok (.invokestatic 48, 3) := by decide +kernel
theorem dX7_flip_4 : decode cX7_flip 4 = .ok (.ifCond .eq 11, 3) := by decide +kernel
theorem dX7_flip_7 : decode cX7_flip 7 = .ok (.aload_n 0, 1) := by decide +kernel
theorem dX7_flip_8 : decode cX7_flip 8 = .ok (.iload_n 2, 1) := by decide +kernel
theorem dX7_flip_9 : decode cX7_flip 9 = .ok (.invokevirtual 52, 3) := by decide +kernel
theorem dX7_flip_12 : decode cX7_flip 12 = .ok (.ifCond .ne 5, 3) := by decide +kernel
theorem dX7_flip_15 : decode cX7_flip 15 = .ok (.iconst (-1), 1) := by decide +kernel
theorem dX7_flip_16 : decode cX7_flip 16 = .ok (.ireturn, 1) := by decide +kernel
theorem dX7_flip_17 : decode cX7_flip 17 = .ok (.aload_n 0, 1) := by decide +kernel
theorem dX7_flip_18 : decode cX7_flip 18 = .ok (.iload_n 1, 1) := by decide +kernel
theorem dX7_flip_19 : decode cX7_flip 19 = .ok (.aload_n 0, 1) := by decide +kernel
theorem dX7_flip_20 : decode cX7_flip 20 = .ok (.getfield 13, 3) := by decide +kernel
theorem dX7_flip_23 : decode cX7_flip 23 = .ok (.iload_n 1, 1) := by decide +kernel
theorem dX7_flip_24 : decode cX7_flip 24 = .ok (.laload, 1) := by decide +kernel
theorem dX7_flip_25 : decode cX7_flip 25 = .ok (.aload_n 0, 1) := by decide +kernel
theorem dX7_flip_26 : decode cX7_flip 26 = .ok (.lconst 1, 1) := by decide +kernel
theorem dX7_flip_27 : decode cX7_flip 27 = .ok (.iload_n 2, 1) := by decide +kernel
theorem dX7_flip_28 : decode cX7_flip 28 = .ok (.lshl, 1) := by decide +kernel
theorem dX7_flip_29 : decode cX7_flip 29 = .ok (.invokevirtual 73, 3) := by decide +kernel
theorem dX7_flip_32 : decode cX7_flip 32 = .ok (.lxor, 1) := by decide +kernel
theorem dX7_flip_33 : decode cX7_flip 33 = .ok (.invokevirtual 55, 3) := by decide +kernel
theorem dX7_flip_36 : decode cX7_flip 36 = .ok (.ireturn, 1) := by decide +kernel
set_option maxRecDepth 20000 in
theorem ggX7_exchange_X7_isRegister : GoodIn wsX7_exchange wsX7_isRegister := goodIn_r _ [6, 7, 8, 5, 9] (by decide +kernel) (by decide +kernel)
set_option maxRecDepth 20000 in
theorem gX7_exchange_X7_isRegister : GoodIn wsX7_exchange (va_wsS RX7 48 yX7_isRegister wsX7_isRegister) := goodIn_app (goodIn_of _ (by decide +kernel)) ggX7_exchange_X7_isRegister
set_option maxRecDepth 20000 in
theorem ggX7_exchange_X7_isVariable : GoodIn wsX7_exchange wsX7_isVariable := goodIn_r _ [13, 1, 7, 8, 5, 9, 30, 31, 32, 33, 34, 35, 36, 37, 38] (by decide +kernel) (by decide +kernel)
set_option maxRecDepth 20000 in
theorem gX7_exchange_X7_isVariable : GoodIn wsX7_exchange (wsV RX7 63 RX7 yX7_isVariable wsX7_isVariable) := goodIn_app (goodIn_of _ (by decide +kernel)) ggX7_exchange_X7_isVariable
set_option maxRecDepth 20000 in
theorem ggX7_exchange_X7_has1 : GoodIn wsX7_exchange wsX7_has1 := goodIn_r _ [16] (by decide +kernel) (by decide +kernel)
set_option maxRecDepth 20000 in
theorem gX7_exchange_X7_has1 : GoodIn wsX7_exchange (va_wsS RX7 44 yX7_has1 wsX7_has1) := goodIn_app (goodIn_of _ (by decide +kernel)) ggX7_exchange_X7_has1
set_option maxRecDepth 20000 in
theorem ggX7_exchange_X7_gets : GoodIn wsX7_exchange wsX7_gets := goodIn_r _ [20, 2, 21, 22, 23, 5, 24, 25, 26, 27, 28, 29, 30, 31, 32, 33, 34, 35, 36, 37, 38] (by decide +kernel) (by decide +kernel)
set_option maxRecDepth 20000 in
theorem gX7_exchange_X7_gets : GoodIn wsX7_exchange (wsV RX7 55 RX7 yX7_gets wsX7_gets) := goodIn_app (goodIn_of _ (by decide +kernel)) ggX7_exchange_X7_gets
theorem dX7_exchange_0 : decode cX7_exchange 0 = .ok (.iload_n 1, 1) := by decide +kernel
theorem dX7_exchange_1 : decode cX7_exchange 1 = .ok (.invokestatic 48, 3) := by decide +kernel
theorem dX7_exchange_4 : decode cX7_exchange 4 = .ok (.ifCond .eq 19, 3) := by decide +kernel
theorem dX7_exchange_7 : decode cX7_exchange 7 = .ok (.aload_n 0, 1) := by decide +kernel
theorem dX7_exchange_8 : decode cX7_exchange 8 = .ok (.iload_n 2, 1) := by decide +kernel
theorem dX7_exchange_9 : decode cX7_exchange 9 = .ok (.invokevirtual 63, 3) := by decide +kernel
theorem dX7_exchange_12 : decode cX7_exchange 12 = .ok (.ifCond .eq 11, 3) := by decide +kernel
theorem dX7_exchange_15 : decode cX7_exchange 15 = .ok (.aload_n 0, 1) := by decide +kernel
theorem dX7_exchange_16 : decode cX7_exchange 16 = .ok (.iload_n 3, 1) := by decide +kernel
theorem dX7_exchange_17 : decode cX7_exchange 17 = .ok (.invokevirtual 63, 3) := by decide +kernel
theorem dX7_exchange_20 : decode cX7_exchange 20 = .ok (.ifCond .ne 5, 3) := by decide +kernel
theorem dX7_exchange_23 : decode cX7_exchange 23 = .ok (.iconst (-1), 1) := by decide +kernel
theorem dX7_exchange_24 : decode cX7_exchange 24 = .ok (.ireturn, 1) := by decide +kernel
theorem dX7_exchange_25 : decode cX7_exchange 25 = .ok (.lconst 0, 1) := by decide +kernel
theorem dX7_exchange_26 : decode cX7_exchange 26 = .ok (.lstore 4, 2) := by decide +kernel
theorem dX7_exchange_28 : decode cX7_exchange 28 = .ok (.iconst 0, 1) := by decide +kernel
theorem dX7_exchange_29 : decode cX7_exchange 29 = .ok (.istore 6, 2) := by decide +kernel
theorem dX7_exchange_31 : decode cX7_exchange 31 = .ok (.iload 6, 2) := by decide +kernel
theorem dX7_exchange_33 : decode cX7_exchange 33 = .ok (.iconst 1, 1) := by decide +kernel
theorem dX7_exchange_34 : decode cX7_exchange 34 = .ok (.aload_n 0, 1) := by decide +kernel
theorem dX7_exchange_35 : decode cX7_exchange 35 = .ok (.getfield 7, 3) := by decide +kernel
theorem dX7_exchange_38 : decode cX7_exchange 38 = .ok (.ishl, 1) := by decide +kernel
theorem dX7_exchange_39 : decode cX7_exchange 39 = .ok (.if_icmp .ge 76, 3) := by decide +kernel
theorem dX7_exchange_42 : decode cX7_exchange 42 = .ok (.iload 6, 2) := by decide +kernel
theorem dX7_exchange_44 : decode cX7_exchange 44 = .ok (.iload_n 2, 1) := by decide +kernel
theorem dX7_exchange_45 : decode cX7_exchange 45 = .ok (.ishr, 1) := by decide +kernel
theorem dX7_exchange_46 : decode cX7_exchange 46 = .ok (.iconst 1, 1) := by decide +kernel
theorem dX7_exchange_47 : decode cX7_exchange 47 = .ok (.iand, 1) := by decide +kernel
theorem dX7_exchange_48 : decode cX7_exchange 48 = .ok (.iload 6, 2) := by decide +kernel
theorem dX7_exchange_50 : decode cX7_exchange 50 = .ok (.iload_n 3, 1) := by decide +kernel
theorem dX7_exchange_51 : decode cX7_exchange 51 = .ok (.ishr, 1) := by decide +kernel
theorem dX7_exchange_52 : decode cX7_exchange 52 = .ok (.iconst 1, 1) := by decide +kernel
theorem dX7_exchange_53 : decode cX7_exchange 53 = .ok (.iand, 1) := by decide +kernel
theorem dX7_exchange_54 : decode cX7_exchange 54 = .ok (.if_icmp .eq 7, 3) := by decide +kernel
theorem dX7_exchange_57 : decode cX7_exchange 57 = .ok (.iconst 1, 1) := by decide +kernel
theorem dX7_exchange_58 : decode cX7_exchange 58 = .ok (.goto 4, 3) := by decide +kernel
theorem dX7_exchange_61 : decode cX7_exchange 61 = .ok (.iconst 0, 1) := by decide +kernel
theorem dX7_exchange_62 : decode cX7_exchange 62 = .ok (.istore 7, 2) := by decide +kernel
theorem dX7_exchange_64 : decode cX7_exchange 64 = .ok (.lload 4, 2) := by decide +kernel
theorem dX7_exchange_66 : decode cX7_exchange 66 = .ok (.aload_n 0, 1) := by decide +kernel
theorem dX7_exchange_67 : decode cX7_exchange 67 = .ok (.getfield 13, 3) := by decide +kernel
theorem dX7_exchange_70 : decode cX7_exchange 70 = .ok (.iload_n 1, 1) := by decide +kernel
theorem dX7_exchange_71 : decode cX7_exchange 71 = .ok (.laload, 1) := by decide +kernel
theorem dX7_exchange_72 : decode cX7_exchange 72 = .ok (.iload 6, 2) := by decide +kernel
theorem dX7_exchange_74 : decode cX7_exchange 74 = .ok (.invokestatic 44, 3) := by decide +kernel
theorem dX7_exchange_77 : decode cX7_exchange 77 = .ok (.ifCond .eq 28, 3) := by decide +kernel
theorem dX7_exchange_80 : decode cX7_exchange 80 = .ok (.lconst 1, 1) := by decide +kernel
theorem dX7_exchange_81 : decode cX7_exchange 81 = .ok (.iload 7, 2) := by decide +kernel
theorem dX7_exchange_83 : decode cX7_exchange 83 = .ok (.ifCond .eq 16, 3) := by decide +kernel
theorem dX7_exchange_86 : decode cX7_exchange 86 = .ok (.iload 6, 2) := by decide +kernel
theorem dX7_exchange_88 : decode cX7_exchange 88 = .ok (.iconst 1, 1) := by decide +kernel
theorem dX7_exchange_89 : decode cX7_exchange 89 = .ok (.iload_n 2, 1) := by decide +kernel
theorem dX7_exchange_90 : decode cX7_exchange 90 = .ok (.ishl, 1) := by decide +kernel
theorem dX7_exchange_91 : decode cX7_exchange 91 = .ok (.ixor, 1) := by decide +kernel
theorem dX7_exchange_92 : decode cX7_exchange 92 = .ok (.iconst 1, 1) := by decide +kernel
theorem dX7_exchange_93 : decode cX7_exchange 93 = .ok (.iload_n 3, 1) := by decide +kernel
theorem dX7_exchange_94 : decode cX7_exchange 94 = .ok (.ishl, 1) := by decide +kernel
theorem dX7_exchange_95 : decode cX7_exchange 95 = .ok (.ixor, 1) := by decide +kernel
theorem dX7_exchange_96 : decode cX7_exchange 96 = .ok (.goto 5, 3) := by decide +kernel
theorem dX7_exchange_99 : decode cX7_exchange 99 = .ok (.iload 6, 2) := by decide +kernel
theorem dX7_exchange_101 : decode cX7_exchange 101 = .ok (.lshl, 1) := by decide +kernel
theorem dX7_exchange_102 : decode cX7_exchange 102 = .ok (.goto 4, 3) := by decide +kernel
theorem dX7_exchange_105 : decode cX7_exchange 105 = .ok (.lconst 0, 1) := by decide +kernel
theorem dX7_exchange_106 : decode cX7_exchange 106 = .ok (.lor, 1) := by decide +kernel
theorem dX7_exchange_107 : decode cX7_exchange 107 = .ok (.lstore 4, 2) := by decide +kernel
theorem dX7_exchange_109 : decode cX7_exchange 109 = .ok (.iinc 6 1, 3) := by decide +kernel
theorem dX7_exchange_112 : decode cX7_exchange 112 = .ok (.goto (-81), 3) := by decide +kernel
theorem dX7_exchange_115 : decode cX7_exchange 115 = .ok (.aload_n 0, 1) := by decide +kernel
theorem dX7_exchange_116 : decode cX7_exchange 116 = .ok (.iload_n 1, 1) := by decide +kernel
theorem dX7_exchange_117 : decode cX7_exchange 117 = .ok (.lload 4, 2) := by decide +kernel
theorem dX7_exchange_119 : decode cX7_exchange 119 = .ok (.invokevirtual 55, 3) := by decide +kernel
theorem dX7_exchange_122 : decode cX7_exchange 122 = .ok (.ireturn, 1) := by decide +kernel
theorem dX7_undo_0 : decode cX7_undo 0 = .ok (.aload_n 0, 1) := by decide +kernel
theorem dX7_undo_1 : decode cX7_undo 1 = .ok (.getfield 34, 3) := by decide +kernel
theorem dX7_undo_4 : decode cX7_undo 4 = .ok (.ifCond .ne 6, 3) := by decide +kernel
theorem dX7_undo_7 : decode cX7_undo 7 = .ok (.bipush (-2), 2) := by decide +kernel
theorem dX7_undo_9 : decode cX7_undo 9 = .ok (.ireturn, 1) := by decide +kernel
theorem dX7_undo_10 : decode cX7_undo 10 = .ok (.aload_n 0, 1) := by decide +kernel
theorem dX7_undo_11 : decode cX7_undo 11 = .ok (.dup, 1) := by decide +kernel
theorem dX7_undo_12 : decode cX7_undo 12 = .ok (.getfield 34, 3) := by decide +kernel
theorem dX7_undo_15 : decode cX7_undo 15 = .ok (.iconst 1, 1) := by decide +kernel
theorem dX7_undo_16 : decode cX7_undo 16 = .ok (.isub, 1) := by decide +kernel
theorem dX7_undo_17 : decode cX7_undo 17 = .ok (.putfield 34, 3) := by decide +kernel
theorem dX7_undo_20 : decode cX7_undo 20 = .ok (.iconst 0, 1) := by decide +kernel
theorem dX7_undo_21 : decode cX7_undo 21 = .ok (.istore_n 1, 1) := by decide +kernel
theorem dX7_undo_22 : decode cX7_undo 22 = .ok (.iload_n 1, 1) := by decide +kernel
theorem dX7_undo_23 : decode cX7_undo 23 = .ok (.bipush 8, 2) := by decide +kernel
theorem dX7_undo_25 : decode cX7_undo 25 = .ok (.if_icmp .ge 29, 3) := by decide +kernel
theorem dX7_undo_28 : decode cX7_undo 28 = .ok (.aload_n 0, 1) := by decide +kernel
theorem dX7_undo_29 : decode cX7_undo 29 = .ok (.getfield 13, 3) := by decide +kernel
theorem dX7_undo_32 : decode cX7_undo 32 = .ok (.iload_n 1, 1) := by decide +kernel
theorem dX7_undo_33 : decode cX7_undo 33 = .ok (.aload_n 0, 1) := by decide +kernel
theorem dX7_undo_34 : decode cX7_undo 34 = .ok (.getfield 17, 3) := by decide +kernel
theorem dX7_undo_37 : decode cX7_undo 37 = .ok (.bipush 8, 2) := by decide +kernel
theorem dX7_undo_39 : decode cX7_undo 39 = .ok (.aload_n 0, 1) := by decide +kernel
theorem dX7_undo_40 : decode cX7_undo 40 = .ok (.getfield 34, 3) := by decide +kernel
theorem dX7_undo_43 : decode cX7_undo 43 = .ok (.imul, 1) := by decide +kernel
theorem dX7_undo_44 : decode cX7_undo 44 = .ok (.iload_n 1, 1) := by decide +kernel
theorem dX7_undo_45 : decode cX7_undo 45 = .ok (.iadd, 1) := by decide +kernel
theorem dX7_undo_46 : decode cX7_undo 46 = .ok (.laload, 1) := by decide +kernel
theorem dX7_undo_47 : decode cX7_undo 47 = .ok (.lastore, 1) := by decide +kernel
theorem dX7_undo_48 : decode cX7_undo 48 = .ok (.iinc 1 1, 3) := by decide +kernel
theorem dX7_undo_51 : decode cX7_undo 51 = .ok (.goto (-29), 3) := by decide +kernel
theorem dX7_undo_54 : decode cX7_undo 54 = .ok (.aload_n 0, 1) := by decide +kernel
theorem dX7_undo_55 : decode cX7_undo 55 = .ok (.getfield 34, 3) := by decide +kernel
theorem dX7_undo_58 : decode cX7_undo 58 = .ok (.ireturn, 1) := by decide +kernel
set_option maxRecDepth 20000 in
theorem ggX7_has_X7_isRegister : GoodIn wsX7_has wsX7_isRegister := goodIn_r _ [5, 6, 7, 4, 8] (by decide +kernel) (by decide +kernel)
set_option maxRecDepth 20000 in
theorem gX7_has_X7_isRegister : GoodIn wsX7_has (va_wsS RX7 48 yX7_isRegister wsX7_isRegister) := goodIn_app (goodIn_of _ (by decide +kernel)) ggX7_has_X7_isRegister
set_option maxRecDepth 20000 in
theorem ggX7_has_X7_isMask : GoodIn wsX7_has wsX7_isMask := goodIn_r _ [12, 13, 6, 7, 4, 8, 17, 18, 19, 20, 21, 22, 23, 24, 25] (by decide +kernel) (by decide +kernel)
set_option maxRecDepth 20000 in
theorem gX7_has_X7_isMask : GoodIn wsX7_has (wsV RX7 52 RX7 yX7_isMask wsX7_isMask) := goodIn_app (goodIn_of _ (by decide +kernel)) ggX7_has_X7_isMask
set_option maxRecDepth 20000 in
theorem ggX7_has_X7_has1 : GoodIn wsX7_has wsX7_has1 := goodIn_r _ [16] (by decide +kernel) (by decide +kernel)
set_option maxRecDepth 20000 in
theorem gX7_has_X7_has1 : GoodIn wsX7_has (va_wsS RX7 44 yX7_has1 wsX7_has1) := goodIn_app (goodIn_of _ (by decide +kernel)) ggX7_has_X7_has1
theorem dX7_has_0 : decode cX7_has 0 = .ok (.iload_n 1, 1) := by decide +kernel
theorem dX7_has_1 : decode cX7_has 1 = .ok (.invokestatic 48, 3) := by decide +kernel
theorem dX7_has_4 : decode cX7_has 4 = .ok (.ifCond .eq 11, 3) := by decide +kernel
theorem dX7_has_7 : decode cX7_has 7 = .ok (.aload_n 0, 1) := by decide +kernel
theorem dX7_has_8 : decode cX7_has 8 = .ok (.iload_n 2, 1) := by decide +kernel
theorem dX7_has_9 : decode cX7_has 9 = .ok (.invokevirtual 52, 3) := by decide +kernel
theorem dX7_has_12 : decode cX7_has 12 = .ok (.ifCond .ne 7, 3) := by decide +kernel
theorem dX7_has_15 : decode cX7_has 15 = .ok (.iconst (-1), 1) := by decide +kernel
theorem dX7_has_16 : decode cX7_has 16 = .ok (.goto 21, 3) := by decide +kernel
theorem dX7_has_19 : decode cX7_has 19 = .ok (.aload_n 0, 1) := by decide +kernel
theorem dX7_has_20 : decode cX7_has 20 = .ok (.getfield 13, 3) := by decide +kernel
theorem dX7_has_23 : decode cX7_has 23 = .ok (.iload_n 1, 1) := by decide +kernel
theorem dX7_has_24 : decode cX7_has 24 = .ok (.laload, 1) := by decide +kernel
theorem dX7_has_25 : decode cX7_has 25 = .ok (.iload_n 2, 1) := by decide +kernel
theorem dX7_has_26 : decode cX7_has 26 = .ok (.invokestatic 44, 3) := by decide +kernel
theorem dX7_has_29 : decode cX7_has 29 = .ok (.ifCond .eq 7, 3) := by decide +kernel
theorem dX7_has_32 : decode cX7_has 32 = .ok (.iconst 1, 1) := by decide +kernel
theorem dX7_has_33 : decode cX7_has 33 = .ok (.goto 4, 3) := by decide +kernel
theorem dX7_has_36 : decode cX7_has 36 = .ok (.iconst 0, 1) := by decide +kernel
theorem dX7_has_37 : decode cX7_has 37 = .ok (.ireturn, 1) := by decide +kernel
set_option maxRecDepth 20000 in
theorem ggX7_terms_X7_isRegister : GoodIn wsX7_terms wsX7_isRegister := goodIn_r _ [5, 6, 7, 4, 8] (by decide +kernel) (by decide +kernel)
set_option maxRecDepth 20000 in
theorem gX7_terms_X7_isRegister : GoodIn wsX7_terms (va_wsS RX7 48 yX7_isRegister wsX7_isRegister) := goodIn_app (goodIn_of _ (by decide +kernel)) ggX7_terms_X7_isRegister
set_option maxRecDepth 20000 in
theorem ggX7_terms_X7_many : GoodIn wsX7_terms wsX7_many := goodIn_r _ [11] (by decide +kernel) (by decide +kernel)
set_option maxRecDepth 20000 in
theorem gX7_terms_X7_many : GoodIn wsX7_terms (va_wsS RX7 40 yX7_many wsX7_many) := goodIn_app (goodIn_of _ (by decide +kernel)) ggX7_terms_X7_many
theorem dX7_terms_0 : decode cX7_terms 0 = .ok (.iload_n 1, 1) := by decide +kernel
theorem dX7_terms_1 : decode cX7_terms 1 = .ok (.invokestatic 48, 3) := by decide +kernel
theorem dX7_terms_4 : decode cX7_terms 4 = .ok (.ifCond .eq 15, 3) := by decide +kernel
theorem dX7_terms_7 : decode cX7_terms 7 = .ok (.aload_n 0, 1) := by decide +kernel
theorem dX7_terms_8 : decode cX7_terms 8 = .ok (.getfield 13, 3) := by decide +kernel
theorem dX7_terms_11 : decode cX7_terms 11 = .ok (.iload_n 1, 1) := by decide +kernel
theorem dX7_terms_12 : decode cX7_terms 12 = .ok (.laload, 1) := by decide +kernel
theorem dX7_terms_13 : decode cX7_terms 13 = .ok (.invokestatic 40, 3) := by decide +kernel
theorem dX7_terms_16 : decode cX7_terms 16 = .ok (.goto 4, 3) := by decide +kernel
theorem dX7_terms_19 : decode cX7_terms 19 = .ok (.iconst (-1), 1) := by decide +kernel
theorem dX7_terms_20 : decode cX7_terms 20 = .ok (.ireturn, 1) := by decide +kernel
set_option maxRecDepth 20000 in
theorem ggX7_degree_X7_isRegister : GoodIn wsX7_degree wsX7_isRegister := goodIn_r _ [6, 7, 8, 5, 9] (by decide +kernel) (by decide +kernel)
set_option maxRecDepth 20000 in
theorem gX7_degree_X7_isRegister : GoodIn wsX7_degree (va_wsS RX7 48 yX7_isRegister wsX7_isRegister) := goodIn_app (goodIn_of _ (by decide +kernel)) ggX7_degree_X7_isRegister
set_option maxRecDepth 20000 in
theorem ggX7_degree_X7_many : GoodIn wsX7_degree wsX7_many := goodIn_r _ [12] (by decide +kernel) (by decide +kernel)
set_option maxRecDepth 20000 in
theorem gX7_degree_X7_many : GoodIn wsX7_degree (va_wsS RX7 40 yX7_many wsX7_many) := goodIn_app (goodIn_of _ (by decide +kernel)) ggX7_degree_X7_many
set_option maxRecDepth 20000 in
theorem ggX7_degree_X7_has1 : GoodIn wsX7_degree wsX7_has1 := goodIn_r _ [15] (by decide +kernel) (by decide +kernel)
set_option maxRecDepth 20000 in
theorem gX7_degree_X7_has1 : GoodIn wsX7_degree (va_wsS RX7 44 yX7_has1 wsX7_has1) := goodIn_app (goodIn_of _ (by decide +kernel)) ggX7_degree_X7_has1
theorem dX7_degree_0 : decode cX7_degree 0 = .ok (.iload_n 1, 1) := by decide +kernel
theorem dX7_degree_1 : decode cX7_degree 1 = .ok (.invokestatic 48, 3) := by decide +kernel
theorem dX7_degree_4 : decode cX7_degree 4 = .ok (.ifCond .ne 5, 3) := by decide +kernel
theorem dX7_degree_7 : decode cX7_degree 7 = .ok (.iconst (-1), 1) := by decide +kernel
theorem dX7_degree_8 : decode cX7_degree 8 = .ok (.ireturn, 1) := by decide +kernel
theorem dX7_degree_9 : decode cX7_degree 9 = .ok (.bipush (-4), 2) := by decide +kernel
theorem dX7_degree_11 : decode cX7_degree 11 = .ok (.istore_n 2, 1) := by decide +kernel
theorem dX7_degree_12 : decode cX7_degree 12 = .ok (.iconst 0, 1) := by decide +kernel
theorem dX7_degree_13 : decode cX7_degree 13 = .ok (.istore_n 3, 1) := by decide +kernel
theorem dX7_degree_14 : decode cX7_degree 14 = .ok (.iload_n 3, 1) := by decide +kernel
theorem dX7_degree_15 : decode cX7_degree 15 = .ok (.iconst 1, 1) := by decide +kernel
theorem dX7_degree_16 : decode cX7_degree 16 = .ok (.aload_n 0, 1) := by decide +kernel
theorem dX7_degree_17 : decode cX7_degree 17 = .ok (.getfield 7, 3) := by decide +kernel
theorem dX7_degree_20 : decode cX7_degree 20 = .ok (.ishl, 1) := by decide +kernel
theorem dX7_degree_21 : decode cX7_degree 21 = .ok (.if_icmp .ge 42, 3) := by decide +kernel
theorem dX7_degree_24 : decode cX7_degree 24 = .ok (.iload_n 3, 1) := by decide +kernel
theorem dX7_degree_25 : decode cX7_degree 25 = .ok (.i2l, 1) := by decide +kernel
theorem dX7_degree_26 : decode cX7_degree 26 = .ok (.invokestatic 40, 3) := by decide +kernel
theorem dX7_degree_29 : decode cX7_degree 29 = .ok (.istore 4, 2) := by decide +kernel
theorem dX7_degree_31 : decode cX7_degree 31 = .ok (.aload_n 0, 1) := by decide +kernel
theorem dX7_degree_32 : decode cX7_degree 32 = .ok (.getfield 13, 3) := by decide +kernel
theorem dX7_degree_35 : decode cX7_degree 35 = .ok (.iload_n 1, 1) := by decide +kernel
theorem dX7_degree_36 : decode cX7_degree 36 = .ok (.laload, 1) := by decide +kernel
theorem dX7_degree_37 : decode cX7_degree 37 = .ok (.iload_n 3, 1) := by decide +kernel
theorem dX7_degree_38 : decode cX7_degree 38 = .ok (.invokestatic 44, 3) := by decide +kernel
theorem dX7_degree_41 : decode cX7_degree 41 = .ok (.ifCond .eq 14, 3) := by decide +kernel
theorem dX7_degree_44 : decode cX7_degree 44 = .ok (.iload 4, 2) := by decide +kernel
theorem dX7_degree_46 : decode cX7_degree 46 = .ok (.iload_n 2, 1) := by decide +kernel
theorem dX7_degree_47 : decode cX7_degree 47 = .ok (.if_icmp .le 8, 3) := by decide +kernel
theorem dX7_degree_50 : decode cX7_degree 50 = .ok (.iload 4, 2) := by decide +kernel
theorem dX7_degree_52 : decode cX7_degree 52 = .ok (.goto 4, 3) := by decide +kernel
theorem dX7_degree_55 : decode cX7_degree 55 = .ok (.iload_n 2, 1) := by decide +kernel
theorem dX7_degree_56 : decode cX7_degree 56 = .ok (.istore_n 2, 1) := by decide +kernel
theorem dX7_degree_57 : decode cX7_degree 57 = .ok (.iinc 3 1, 3) := by decide +kernel
theorem dX7_degree_60 : decode cX7_degree 60 = .ok (.goto (-46), 3) := by decide +kernel
theorem dX7_degree_63 : decode cX7_degree 63 = .ok (.iload_n 2, 1) := by decide +kernel
theorem dX7_degree_64 : decode cX7_degree 64 = .ok (.ireturn, 1) := by decide +kernel
set_option maxRecDepth 20000 in
theorem ggX7_occurring_X7_isRegister : GoodIn wsX7_occurring wsX7_isRegister := goodIn_r _ [5, 6, 7, 4, 8] (by decide +kernel) (by decide +kernel)
set_option maxRecDepth 20000 in
theorem gX7_occurring_X7_isRegister : GoodIn wsX7_occurring (va_wsS RX7 48 yX7_isRegister wsX7_isRegister) := goodIn_app (goodIn_of _ (by decide +kernel)) ggX7_occurring_X7_isRegister
set_option maxRecDepth 20000 in
theorem ggX7_occurring_X7_occurs : GoodIn wsX7_occurring wsX7_occurs := goodIn_r _ [12, 13, 14, 15, 4, 16, 17, 18, 19, 20, 21, 22, 23, 24, 25] (by decide +kernel) (by decide +kernel)
set_option maxRecDepth 20000 in
theorem gX7_occurring_X7_occurs : GoodIn wsX7_occurring (wsV RX7 77 RX7 yX7_occurs wsX7_occurs) := goodIn_app (goodIn_of _ (by decide +kernel)) ggX7_occurring_X7_occurs
theorem dX7_occurring_0 : decode cX7_occurring 0 = .ok (.iload_n 1, 1) := by decide +kernel
theorem dX7_occurring_1 : decode cX7_occurring 1 = .ok (.invokestatic 48, 3) := by decide +kernel
theorem dX7_occurring_4 : decode cX7_occurring 4 = .ok (.ifCond .eq 16, 3) := by decide +kernel
theorem dX7_occurring_7 : decode cX7_occurring 7 = .ok (.aload_n 0, 1) := by decide +kernel
theorem dX7_occurring_8 : decode cX7_occurring 8 = .ok (.aload_n 0, 1) := by decide +kernel
theorem dX7_occurring_9 : decode cX7_occurring 9 = .ok (.getfield 13, 3) := by decide +kernel
theorem dX7_occurring_12 : decode cX7_occurring 12 = .ok (.iload_n 1, 1) := by decide +kernel
theorem dX7_occurring_13 : decode cX7_occurring 13 = .ok (.laload, 1) := by decide +kernel
theorem dX7_occurring_14 : decode cX7_occurring 14 = .ok (.invokevirtual 77, 3) := by decide +kernel
theorem dX7_occurring_17 : decode cX7_occurring 17 = .ok (.goto 4, 3) := by decide +kernel
theorem dX7_occurring_20 : decode cX7_occurring 20 = .ok (.iconst (-1), 1) := by decide +kernel
theorem dX7_occurring_21 : decode cX7_occurring 21 = .ok (.ireturn, 1) := by decide +kernel
set_option maxRecDepth 20000 in
theorem ggX7_notes_X7_occurs : GoodIn wsX7_notes wsX7_occurs := goodIn_r _ [7, 8, 9, 10, 6, 11, 12, 13, 14, 15, 16, 17, 18, 19, 20] (by decide +kernel) (by decide +kernel)
set_option maxRecDepth 20000 in
theorem gX7_notes_X7_occurs : GoodIn wsX7_notes (wsV RX7 77 RX7 yX7_occurs wsX7_occurs) := goodIn_app (goodIn_of _ (by decide +kernel)) ggX7_notes_X7_occurs
theorem dX7_notes_0 : decode cX7_notes 0 = .ok (.aload_n 0, 1) := by decide +kernel
theorem dX7_notes_1 : decode cX7_notes 1 = .ok (.lload_n 1, 1) := by decide +kernel
theorem dX7_notes_2 : decode cX7_notes 2 = .ok (.invokevirtual 77, 3) := by decide +kernel
theorem dX7_notes_5 : decode cX7_notes 5 = .ok (.ifCond .eq 7, 3) := by decide +kernel
theorem dX7_notes_8 : decode cX7_notes 8 = .ok (.iconst 1, 1) := by decide +kernel
theorem dX7_notes_9 : decode cX7_notes 9 = .ok (.goto 4, 3) := by decide +kernel
theorem dX7_notes_12 : decode cX7_notes 12 = .ok (.iconst 0, 1) := by decide +kernel
theorem dX7_notes_13 : decode cX7_notes 13 = .ok (.istore_n 3, 1) := by decide +kernel
theorem dX7_notes_14 : decode cX7_notes 14 = .ok (.iconst 0, 1) := by decide +kernel
theorem dX7_notes_15 : decode cX7_notes 15 = .ok (.istore 4, 2) := by decide +kernel
theorem dX7_notes_17 : decode cX7_notes 17 = .ok (.iload 4, 2) := by decide +kernel
theorem dX7_notes_19 : decode cX7_notes 19 = .ok (.aload_n 0, 1) := by decide +kernel
theorem dX7_notes_20 : decode cX7_notes 20 = .ok (.getfield 80, 3) := by decide +kernel
theorem dX7_notes_23 : decode cX7_notes 23 = .ok (.if_icmp .ge 31, 3) := by decide +kernel
theorem dX7_notes_26 : decode cX7_notes 26 = .ok (.iload_n 3, 1) := by decide +kernel
theorem dX7_notes_27 : decode cX7_notes 27 = .ok (.ifCond .eq 27, 3) := by decide +kernel
theorem dX7_notes_30 : decode cX7_notes 30 = .ok (.aload_n 0, 1) := by decide +kernel
theorem dX7_notes_31 : decode cX7_notes 31 = .ok (.getfield 24, 3) := by decide +kernel
theorem dX7_notes_34 : decode cX7_notes 34 = .ok (.iload 4, 2) := by decide +kernel
theorem dX7_notes_36 : decode cX7_notes 36 = .ok (.laload, 1) := by decide +kernel
theorem dX7_notes_37 : decode cX7_notes 37 = .ok (.lload_n 1, 1) := by decide +kernel
theorem dX7_notes_38 : decode cX7_notes 38 = .ok (.lcmp, 1) := by decide +kernel
theorem dX7_notes_39 : decode cX7_notes 39 = .ok (.ifCond .eq 7, 3) := by decide +kernel
theorem dX7_notes_42 : decode cX7_notes 42 = .ok (.iconst 1, 1) := by decide +kernel
theorem dX7_notes_43 : decode cX7_notes 43 = .ok (.goto 4, 3) := by decide +kernel
theorem dX7_notes_46 : decode cX7_notes 46 = .ok (.iconst 0, 1) := by decide +kernel
theorem dX7_notes_47 : decode cX7_notes 47 = .ok (.istore_n 3, 1) := by decide +kernel
theorem dX7_notes_48 : decode cX7_notes 48 = .ok (.iinc 4 1, 3) := by decide +kernel
theorem dX7_notes_51 : decode cX7_notes 51 = .ok (.goto (-34), 3) := by decide +kernel
theorem dX7_notes_54 : decode cX7_notes 54 = .ok (.iload_n 3, 1) := by decide +kernel
theorem dX7_notes_55 : decode cX7_notes 55 = .ok (.ifCond .eq 23, 3) := by decide +kernel
theorem dX7_notes_58 : decode cX7_notes 58 = .ok (.aload_n 0, 1) := by decide +kernel
theorem dX7_notes_59 : decode cX7_notes 59 = .ok (.getfield 24, 3) := by decide +kernel
theorem dX7_notes_62 : decode cX7_notes 62 = .ok (.aload_n 0, 1) := by decide +kernel
theorem dX7_notes_63 : decode cX7_notes 63 = .ok (.getfield 80, 3) := by decide +kernel
theorem dX7_notes_66 : decode cX7_notes 66 = .ok (.lload_n 1, 1) := by decide +kernel
theorem dX7_notes_67 : decode cX7_notes 67 = .ok (.lastore, 1) := by decide +kernel
theorem dX7_notes_68 : decode cX7_notes 68 = .ok (.aload_n 0, 1) := by decide +kernel
theorem dX7_notes_69 : decode cX7_notes 69 = .ok (.dup, 1) := by decide +kernel
theorem dX7_notes_70 : decode cX7_notes 70 = .ok (.getfield 80, 3) := by decide +kernel
theorem dX7_notes_73 : decode cX7_notes 73 = .ok (.iconst 1, 1) := by decide +kernel
theorem dX7_notes_74 : decode cX7_notes 74 = .ok (.iadd, 1) := by decide +kernel
theorem dX7_notes_75 : decode cX7_notes 75 = .ok (.putfield 80, 3) := by decide +kernel
theorem dX7_notes_78 : decode cX7_notes 78 = .ok (.return_, 1) := by decide +kernel
set_option maxRecDepth 20000 in
theorem ggX7_spreads_X7_occurs : GoodIn wsX7_spreads wsX7_occurs := goodIn_r _ [7, 8, 9, 10, 6, 11, 24, 25, 26, 27, 28, 29, 30, 31, 32] (by decide +kernel) (by decide +kernel)
set_option maxRecDepth 20000 in
theorem gX7_spreads_X7_occurs : GoodIn wsX7_spreads (wsV RX7 77 RX7 yX7_occurs wsX7_occurs) := goodIn_app (goodIn_of _ (by decide +kernel)) ggX7_spreads_X7_occurs
set_option maxRecDepth 20000 in
theorem ggX7_spreads_X7_upper : GoodIn wsX7_spreads wsX7_upper := goodIn_r _ [15, 8, 9, 10, 6, 11, 24, 25, 26, 27, 28, 29, 30, 31, 32] (by decide +kernel) (by decide +kernel)
set_option maxRecDepth 20000 in
theorem gX7_spreads_X7_upper : GoodIn wsX7_spreads (wsV RX7 70 RX7 yX7_upper wsX7_upper) := goodIn_app (goodIn_of _ (by decide +kernel)) ggX7_spreads_X7_upper
set_option maxRecDepth 20000 in
theorem ggX7_spreads_X7_notes : GoodIn wsX7_spreads wsX7_notes := goodIn_r _ [19, 1, 2, 3, 4, 5, 6, 7, 8, 9, 10, 11, 24, 25, 26, 27, 28, 29, 30, 31, 32] (by decide +kernel) (by decide +kernel)
set_option maxRecDepth 20000 in
theorem gX7_spreads_X7_notes : GoodIn wsX7_spreads (wsV RX7 83 RX7 yX7_notes wsX7_notes) := goodIn_app (goodIn_of _ (by decide +kernel)) ggX7_spreads_X7_notes
set_option maxRecDepth 20000 in
theorem ggX7_spreads_X7_lower : GoodIn wsX7_spreads wsX7_lower := goodIn_r _ [23, 8, 9, 10, 6, 11, 24, 25, 26, 27, 28, 29, 30, 31, 32] (by decide +kernel) (by decide +kernel)
set_option maxRecDepth 20000 in
theorem gX7_spreads_X7_lower : GoodIn wsX7_spreads (wsV RX7 66 RX7 yX7_lower wsX7_lower) := goodIn_app (goodIn_of _ (by decide +kernel)) ggX7_spreads_X7_lower
theorem dX7_spreads_0 : decode cX7_spreads 0 = .ok (.iconst 0, 1) := by decide +kernel
theorem dX7_spreads_1 : decode cX7_spreads 1 = .ok (.istore_n 1, 1) := by decide +kernel
theorem dX7_spreads_2 : decode cX7_spreads 2 = .ok (.iload_n 1, 1) := by decide +kernel
theorem dX7_spreads_3 : decode cX7_spreads 3 = .ok (.aload_n 0, 1) := by decide +kernel
theorem dX7_spreads_4 : decode cX7_spreads 4 = .ok (.getfield 80, 3) := by decide +kernel
theorem dX7_spreads_7 : decode cX7_spreads 7 = .ok (.if_icmp .ge 64, 3) := by decide +kernel
theorem dX7_spreads_10 : decode cX7_spreads 10 = .ok (.iconst 0, 1) := by decide +kernel
theorem dX7_spreads_11 : decode cX7_spreads 11 = .ok (.istore_n 2, 1) := by decide +kernel
theorem dX7_spreads_12 : decode cX7_spreads 12 = .ok (.aload_n 0, 1) := by decide +kernel
theorem dX7_spreads_13 : decode cX7_spreads 13 = .ok (.aload_n 0, 1) := by decide +kernel
theorem dX7_spreads_14 : decode cX7_spreads 14 = .ok (.getfield 24, 3) := by decide +kernel
theorem dX7_spreads_17 : decode cX7_spreads 17 = .ok (.iload_n 1, 1) := by decide +kernel
theorem dX7_spreads_18 : decode cX7_spreads 18 = .ok (.laload, 1) := by decide +kernel
theorem dX7_spreads_19 : decode cX7_spreads 19 = .ok (.invokevirtual 77, 3) := by decide +kernel
theorem dX7_spreads_22 : decode cX7_spreads 22 = .ok (.iload_n 2, 1) := by decide +kernel
theorem dX7_spreads_23 : decode cX7_spreads 23 = .ok (.ishr, 1) := by decide +kernel
theorem dX7_spreads_24 : decode cX7_spreads 24 = .ok (.iconst 1, 1) := by decide +kernel
theorem dX7_spreads_25 : decode cX7_spreads 25 = .ok (.iand, 1) := by decide +kernel
theorem dX7_spreads_26 : decode cX7_spreads 26 = .ok (.ifCond .ne 9, 3) := by decide +kernel
theorem dX7_spreads_29 : decode cX7_spreads 29 = .ok (.iinc 2 1, 3) := by decide +kernel
theorem dX7_spreads_32 : decode cX7_spreads 32 = .ok (.goto (-20), 3) := by decide +kernel
theorem dX7_spreads_35 : decode cX7_spreads 35 = .ok (.aload_n 0, 1) := by decide +kernel
theorem dX7_spreads_36 : decode cX7_spreads 36 = .ok (.aload_n 0, 1) := by decide +kernel
theorem dX7_spreads_37 : decode cX7_spreads 37 = .ok (.aload_n 0, 1) := by decide +kernel
theorem dX7_spreads_38 : decode cX7_spreads 38 = .ok (.getfield 24, 3) := by decide +kernel
theorem dX7_spreads_41 : decode cX7_spreads 41 = .ok (.iload_n 1, 1) := by decide +kernel
theorem dX7_spreads_42 : decode cX7_spreads 42 = .ok (.laload, 1) := by decide +kernel
theorem dX7_spreads_43 : decode cX7_spreads 43 = .ok (.iload_n 2, 1) := by decide +kernel
theorem dX7_spreads_44 : decode cX7_spreads 44 = .ok (.invokevirtual 70, 3) := by decide +kernel
theorem dX7_spreads_47 : decode cX7_spreads 47 = .ok (.invokevirtual 83, 3) := by decide +kernel
theorem dX7_spreads_50 : decode cX7_spreads 50 = .ok (.aload_n 0, 1) := by decide +kernel
theorem dX7_spreads_51 : decode cX7_spreads 51 = .ok (.aload_n 0, 1) := by decide +kernel
theorem dX7_spreads_52 : decode cX7_spreads 52 = .ok (.aload_n 0, 1) := by decide +kernel
theorem dX7_spreads_53 : decode cX7_spreads 53 = .ok (.getfield 24, 3) := by decide +kernel
theorem dX7_spreads_56 : decode cX7_spreads 56 = .ok (.iload_n 1, 1) := by decide +kernel
theorem dX7_spreads_57 : decode cX7_spreads 57 = .ok (.laload, 1) := by decide +kernel
theorem dX7_spreads_58 : decode cX7_spreads 58 = .ok (.iload_n 2, 1) := by decide +kernel
theorem dX7_spreads_59 : decode cX7_spreads 59 = .ok (.invokevirtual 66, 3) := by decide +kernel
theorem dX7_spreads_62 : decode cX7_spreads 62 = .ok (.invokevirtual 83, 3) := by decide +kernel
theorem dX7_spreads_65 : decode cX7_spreads 65 = .ok (.iinc 1 1, 3) := by decide +kernel
theorem dX7_spreads_68 : decode cX7_spreads 68 = .ok (.goto (-66), 3) := by decide +kernel
theorem dX7_spreads_71 : decode cX7_spreads 71 = .ok (.aload_n 0, 1) := by decide +kernel
theorem dX7_spreads_72 : decode cX7_spreads 72 = .ok (.getfield 80, 3) := by decide +kernel
theorem dX7_spreads_75 : decode cX7_spreads 75 = .ok (.ireturn, 1) := by decide +kernel
set_option maxRecDepth 20000 in
theorem ggX7_size_X7_isRegister : GoodIn wsX7_size wsX7_isRegister := goodIn_r _ [6, 7, 8, 5, 9] (by decide +kernel) (by decide +kernel)
set_option maxRecDepth 20000 in
theorem gX7_size_X7_isRegister : GoodIn wsX7_size (va_wsS RX7 48 yX7_isRegister wsX7_isRegister) := goodIn_app (goodIn_of _ (by decide +kernel)) ggX7_size_X7_isRegister
set_option maxRecDepth 20000 in
theorem ggX7_size_X7_notes : GoodIn wsX7_size wsX7_notes := goodIn_r _ [13, 1, 14, 15, 16, 17, 5, 18, 19, 20, 21, 22, 35, 36, 37, 38, 39, 40, 41, 42, 43] (by decide +kernel) (by decide +kernel)
set_option maxRecDepth 20000 in
theorem gX7_size_X7_notes : GoodIn wsX7_size (wsV RX7 83 RX7 yX7_notes wsX7_notes) := goodIn_app (goodIn_of _ (by decide +kernel)) ggX7_size_X7_notes
set_option maxRecDepth 20000 in
theorem ggX7_size_X7_spreads : GoodIn wsX7_size wsX7_spreads := goodIn_r _ [26, 1, 14, 15, 16, 17, 5, 18, 19, 20, 21, 22, 27, 28, 29, 30, 10, 11, 12, 13, 31, 32, 33, 34, 35, 36, 37, 38, 39, 40, 41, 42, 43] (by decide +kernel) (by decide +kernel)
set_option maxRecDepth 20000 in
theorem gX7_size_X7_spreads : GoodIn wsX7_size (wsV RX7 87 RX7 yX7_spreads wsX7_spreads) := goodIn_app (goodIn_of _ (by decide +kernel)) ggX7_size_X7_spreads
theorem dX7_size_0 : decode cX7_size 0 = .ok (.iload_n 1, 1) := by decide +kernel
theorem dX7_size_1 : decode cX7_size 1 = .ok (.invokestatic 48, 3) := by decide +kernel
theorem dX7_size_4 : decode cX7_size 4 = .ok (.ifCond .ne 5, 3) := by decide +kernel
theorem dX7_size_7 : decode cX7_size 7 = .ok (.iconst (-1), 1) := by decide +kernel
theorem dX7_size_8 : decode cX7_size 8 = .ok (.ireturn, 1) := by decide +kernel
theorem dX7_size_9 : decode cX7_size 9 = .ok (.aload_n 0, 1) := by decide +kernel
theorem dX7_size_10 : decode cX7_size 10 = .ok (.iconst 0, 1) := by decide +kernel
theorem dX7_size_11 : decode cX7_size 11 = .ok (.putfield 80, 3) := by decide +kernel
theorem dX7_size_14 : decode cX7_size 14 = .ok (.aload_n 0, 1) := by decide +kernel
theorem dX7_size_15 : decode cX7_size 15 = .ok (.aload_n 0, 1) := by decide +kernel
theorem dX7_size_16 : decode cX7_size 16 = .ok (.getfield 13, 3) := by decide +kernel
theorem dX7_size_19 : decode cX7_size 19 = .ok (.iload_n 1, 1) := by decide +kernel
theorem dX7_size_20 : decode cX7_size 20 = .ok (.laload, 1) := by decide +kernel
theorem dX7_size_21 : decode cX7_size 21 = .ok (.invokevirtual 83, 3) := by decide +kernel
theorem dX7_size_24 : decode cX7_size 24 = .ok (.aload_n 0, 1) := by decide +kernel
theorem dX7_size_25 : decode cX7_size 25 = .ok (.invokevirtual 87, 3) := by decide +kernel
theorem dX7_size_28 : decode cX7_size 28 = .ok (.ireturn, 1) := by decide +kernel
set_option maxRecDepth 20000 in
theorem ggX7_sharedSize_X7_notes : GoodIn wsX7_sharedSize wsX7_notes := goodIn_r _ [7, 1, 8, 9, 10, 11, 6, 12, 13, 14, 15, 16, 29, 30, 31, 32, 33, 34, 35, 36, 37] (by decide +kernel) (by decide +kernel)
set_option maxRecDepth 20000 in
theorem gX7_sharedSize_X7_notes : GoodIn wsX7_sharedSize (wsV RX7 83 RX7 yX7_notes wsX7_notes) := goodIn_app (goodIn_of _ (by decide +kernel)) ggX7_sharedSize_X7_notes
set_option maxRecDepth 20000 in
theorem ggX7_sharedSize_X7_spreads : GoodIn wsX7_sharedSize wsX7_spreads := goodIn_r _ [20, 1, 8, 9, 10, 11, 6, 12, 13, 14, 15, 16, 21, 22, 23, 24, 3, 4, 5, 7, 25, 26, 27, 28, 29, 30, 31, 32, 33, 34, 35, 36, 37] (by decide +kernel) (by decide +kernel)
set_option maxRecDepth 20000 in
theorem gX7_sharedSize_X7_spreads : GoodIn wsX7_sharedSize (wsV RX7 87 RX7 yX7_spreads wsX7_spreads) := goodIn_app (goodIn_of _ (by decide +kernel)) ggX7_sharedSize_X7_spreads
