theorem dX7_sharedSize_0 : decode cX7_sharedSize 0 = .ok (.aload_n 0, 1) := by decide +kernel
theorem dX7_sharedSize_1 : decode cX7_sharedSize 1 = .ok (.iconst 0, 1) := by decide +kernel
theorem dX7_sharedSize_2 : decode cX7_sharedSize 2 = .ok (.putfield 80, 3) := by decide +kernel
theorem dX7_sharedSize_5 : decode cX7_sharedSize 5 = .ok (.iconst 0, 1) := by decide +kernel
theorem dX7_sharedSize_6 : decode cX7_sharedSize 6 = .ok (.istore_n 1, 1) := by decide +kernel
theorem dX7_sharedSize_7 : decode cX7_sharedSize 7 = .ok (.iload_n 1, 1) := by decide +kernel
theorem dX7_sharedSize_8 : decode cX7_sharedSize 8 = .ok (.bipush 8, 2) := by decide +kernel
theorem dX7_sharedSize_10 : decode cX7_sharedSize 10 = .ok (.if_icmp .ge 19, 3) := by decide +kernel
theorem dX7_sharedSize_13 : decode cX7_sharedSize 13 = .ok (.aload_n 0, 1) := by decide +kernel
theorem dX7_sharedSize_14 : decode cX7_sharedSize 14 = .ok (.aload_n 0, 1) := by decide +kernel
theorem dX7_sharedSize_15 : decode cX7_sharedSize 15 = .ok (.getfield 13, 3) := by decide +kernel
theorem dX7_sharedSize_18 : decode cX7_sharedSize 18 = .ok (.iload_n 1, 1) := by decide +kernel
theorem dX7_sharedSize_19 : decode cX7_sharedSize 19 = .ok (.laload, 1) := by decide +kernel
theorem dX7_sharedSize_20 : decode cX7_sharedSize 20 = .ok (.invokevirtual 83, 3) := by decide +kernel
theorem dX7_sharedSize_23 : decode cX7_sharedSize 23 = .ok (.iinc 1 1, 3) := by decide +kernel
theorem dX7_sharedSize_26 : decode cX7_sharedSize 26 = .ok (.goto (-19), 3) := by decide +kernel
theorem dX7_sharedSize_29 : decode cX7_sharedSize 29 = .ok (.aload_n 0, 1) := by decide +kernel
theorem dX7_sharedSize_30 : decode cX7_sharedSize 30 = .ok (.invokevirtual 87, 3) := by decide +kernel
theorem dX7_sharedSize_33 : decode cX7_sharedSize 33 = .ok (.ireturn, 1) := by decide +kernel
set_option maxRecDepth 20000 in
theorem ggX7_isGreater_X7_many : GoodIn wsX7_isGreater wsX7_many := goodIn_r _ [5] (by decide +kernel) (by decide +kernel)
set_option maxRecDepth 20000 in
theorem gX7_isGreater_X7_many : GoodIn wsX7_isGreater (va_wsS RX7 40 yX7_many wsX7_many) := goodIn_app (goodIn_of _ (by decide +kernel)) ggX7_isGreater_X7_many
theorem dX7_isGreater_0 : decode cX7_isGreater 0 = .ok (.iload_n 2, 1) := by decide +kernel
theorem dX7_isGreater_1 : decode cX7_isGreater 1 = .ok (.iload_n 3, 1) := by decide +kernel
theorem dX7_isGreater_2 : decode cX7_isGreater 2 = .ok (.ixor, 1) := by decide +kernel
theorem dX7_isGreater_3 : decode cX7_isGreater 3 = .ok (.istore 4, 2) := by decide +kernel
theorem dX7_isGreater_5 : decode cX7_isGreater 5 = .ok (.iload 4, 2) := by decide +kernel
theorem dX7_isGreater_7 : decode cX7_isGreater 7 = .ok (.ifCond .ne 5, 3) := by decide +kernel
theorem dX7_isGreater_10 : decode cX7_isGreater 10 = .ok (.iconst 0, 1) := by decide +kernel
theorem dX7_isGreater_11 : decode cX7_isGreater 11 = .ok (.ireturn, 1) := by decide +kernel
theorem dX7_isGreater_12 : decode cX7_isGreater 12 = .ok (.iload_n 2, 1) := by decide +kernel
theorem dX7_isGreater_13 : decode cX7_isGreater 13 = .ok (.i2l, 1) := by decide +kernel
theorem dX7_isGreater_14 : decode cX7_isGreater 14 = .ok (.invokestatic 40, 3) := by decide +kernel
theorem dX7_isGreater_17 : decode cX7_isGreater 17 = .ok (.iload_n 3, 1) := by decide +kernel
theorem dX7_isGreater_18 : decode cX7_isGreater 18 = .ok (.i2l, 1) := by decide +kernel
theorem dX7_isGreater_19 : decode cX7_isGreater 19 = .ok (.invokestatic 40, 3) := by decide +kernel
theorem dX7_isGreater_22 : decode cX7_isGreater 22 = .ok (.isub, 1) := by decide +kernel
theorem dX7_isGreater_23 : decode cX7_isGreater 23 = .ok (.istore 5, 2) := by decide +kernel
theorem dX7_isGreater_25 : decode cX7_isGreater 25 = .ok (.iload_n 1, 1) := by decide +kernel
theorem dX7_isGreater_26 : decode cX7_isGreater 26 = .ok (.ifCond .le 19, 3) := by decide +kernel
theorem dX7_isGreater_29 : decode cX7_isGreater 29 = .ok (.iload 5, 2) := by decide +kernel
theorem dX7_isGreater_31 : decode cX7_isGreater 31 = .ok (.ifCond .eq 14, 3) := by decide +kernel
theorem dX7_isGreater_34 : decode cX7_isGreater 34 = .ok (.iload 5, 2) := by decide +kernel
theorem dX7_isGreater_36 : decode cX7_isGreater 36 = .ok (.ifCond .le 7, 3) := by decide +kernel
theorem dX7_isGreater_39 : decode cX7_isGreater 39 = .ok (.iconst 1, 1) := by decide +kernel
theorem dX7_isGreater_40 : decode cX7_isGreater 40 = .ok (.goto 4, 3) := by decide +kernel
theorem dX7_isGreater_43 : decode cX7_isGreater 43 = .ok (.iconst 0, 1) := by decide +kernel
theorem dX7_isGreater_44 : decode cX7_isGreater 44 = .ok (.ireturn, 1) := by decide +kernel
theorem dX7_isGreater_45 : decode cX7_isGreater 45 = .ok (.iload_n 1, 1) := by decide +kernel
theorem dX7_isGreater_46 : decode cX7_isGreater 46 = .ok (.iconst 2, 1) := by decide +kernel
theorem dX7_isGreater_47 : decode cX7_isGreater 47 = .ok (.if_icmp .ne 12, 3) := by decide +kernel
theorem dX7_isGreater_50 : decode cX7_isGreater 50 = .ok (.aload_n 0, 1) := by decide +kernel
theorem dX7_isGreater_51 : decode cX7_isGreater 51 = .ok (.getfield 7, 3) := by decide +kernel
theorem dX7_isGreater_54 : decode cX7_isGreater 54 = .ok (.iconst 1, 1) := by decide +kernel
theorem dX7_isGreater_55 : decode cX7_isGreater 55 = .ok (.isub, 1) := by decide +kernel
theorem dX7_isGreater_56 : decode cX7_isGreater 56 = .ok (.goto 4, 3) := by decide +kernel
theorem dX7_isGreater_59 : decode cX7_isGreater 59 = .ok (.iconst 0, 1) := by decide +kernel
theorem dX7_isGreater_60 : decode cX7_isGreater 60 = .ok (.istore 6, 2) := by decide +kernel
theorem dX7_isGreater_62 : decode cX7_isGreater 62 = .ok (.iload 4, 2) := by decide +kernel
theorem dX7_isGreater_64 : decode cX7_isGreater 64 = .ok (.iload 6, 2) := by decide +kernel
theorem dX7_isGreater_66 : decode cX7_isGreater 66 = .ok (.ishr, 1) := by decide +kernel
theorem dX7_isGreater_67 : decode cX7_isGreater 67 = .ok (.iconst 1, 1) := by decide +kernel
theorem dX7_isGreater_68 : decode cX7_isGreater 68 = .ok (.iand, 1) := by decide +kernel
theorem dX7_isGreater_69 : decode cX7_isGreater 69 = .ok (.ifCond .ne 21, 3) := by decide +kernel
theorem dX7_isGreater_72 : decode cX7_isGreater 72 = .ok (.iload 6, 2) := by decide +kernel
theorem dX7_isGreater_74 : decode cX7_isGreater 74 = .ok (.iload_n 1, 1) := by decide +kernel
theorem dX7_isGreater_75 : decode cX7_isGreater 75 = .ok (.iconst 2, 1) := by decide +kernel
theorem dX7_isGreater_76 : decode cX7_isGreater 76 = .ok (.if_icmp .ne 7, 3) := by decide +kernel
theorem dX7_isGreater_79 : decode cX7_isGreater 79 = .ok (.iconst (-1), 1) := by decide +kernel
theorem dX7_isGreater_80 : decode cX7_isGreater 80 = .ok (.goto 4, 3) := by decide +kernel
theorem dX7_isGreater_83 : decode cX7_isGreater 83 = .ok (.iconst 1, 1) := by decide +kernel
theorem dX7_isGreater_84 : decode cX7_isGreater 84 = .ok (.iadd, 1) := by decide +kernel
theorem dX7_isGreater_85 : decode cX7_isGreater 85 = .ok (.istore 6, 2) := by decide +kernel
theorem dX7_isGreater_87 : decode cX7_isGreater 87 = .ok (.goto (-25), 3) := by decide +kernel
theorem dX7_isGreater_90 : decode cX7_isGreater 90 = .ok (.iload_n 2, 1) := by decide +kernel
theorem dX7_isGreater_91 : decode cX7_isGreater 91 = .ok (.iload 6, 2) := by decide +kernel
theorem dX7_isGreater_93 : decode cX7_isGreater 93 = .ok (.ishr, 1) := by decide +kernel
theorem dX7_isGreater_94 : decode cX7_isGreater 94 = .ok (.iconst 1, 1) := by decide +kernel
theorem dX7_isGreater_95 : decode cX7_isGreater 95 = .ok (.iand, 1) := by decide +kernel
theorem dX7_isGreater_96 : decode cX7_isGreater 96 = .ok (.iload_n 1, 1) := by decide +kernel
theorem dX7_isGreater_97 : decode cX7_isGreater 97 = .ok (.iconst 2, 1) := by decide +kernel
theorem dX7_isGreater_98 : decode cX7_isGreater 98 = .ok (.if_icmp .ne 7, 3) := by decide +kernel
theorem dX7_isGreater_101 : decode cX7_isGreater 101 = .ok (.iconst 0, 1) := by decide +kernel
theorem dX7_isGreater_102 : decode cX7_isGreater 102 = .ok (.goto 4, 3) := by decide +kernel
theorem dX7_isGreater_105 : decode cX7_isGreater 105 = .ok (.iconst 1, 1) := by decide +kernel
theorem dX7_isGreater_106 : decode cX7_isGreater 106 = .ok (.if_icmp .ne 7, 3) := by decide +kernel
theorem dX7_isGreater_109 : decode cX7_isGreater 109 = .ok (.iconst 1, 1) := by decide +kernel
theorem dX7_isGreater_110 : decode cX7_isGreater 110 = .ok (.goto 4, 3) := by decide +kernel
theorem dX7_isGreater_113 : decode cX7_isGreater 113 = .ok (.iconst 0, 1) := by decide +kernel
theorem dX7_isGreater_114 : decode cX7_isGreater 114 = .ok (.ireturn, 1) := by decide +kernel
set_option maxRecDepth 20000 in
theorem ggX7_leads_X7_has1 : GoodIn wsX7_leads wsX7_has1 := goodIn_r _ [5] (by decide +kernel) (by decide +kernel)
set_option maxRecDepth 20000 in
theorem gX7_leads_X7_has1 : GoodIn wsX7_leads (va_wsS RX7 44 yX7_has1 wsX7_has1) := goodIn_app (goodIn_of _ (by decide +kernel)) ggX7_leads_X7_has1
set_option maxRecDepth 20000 in
theorem ggX7_leads_X7_isGreater : GoodIn wsX7_leads wsX7_isGreater := goodIn_r _ [9, 1, 10, 11, 4, 12, 13, 14, 15, 16, 17, 18, 19, 20, 21] (by decide +kernel) (by decide +kernel)
set_option maxRecDepth 20000 in
theorem gX7_leads_X7_isGreater : GoodIn wsX7_leads (wsV RX7 91 RX7 yX7_isGreater wsX7_isGreater) := goodIn_app (goodIn_of _ (by decide +kernel)) ggX7_leads_X7_isGreater
theorem dX7_leads_0 : decode cX7_leads 0 = .ok (.iconst (-1), 1) := by decide +kernel
theorem dX7_leads_1 : decode cX7_leads 1 = .ok (.istore 4, 2) := by decide +kernel
theorem dX7_leads_3 : decode cX7_leads 3 = .ok (.iconst 0, 1) := by decide +kernel
theorem dX7_leads_4 : decode cX7_leads 4 = .ok (.istore 5, 2) := by decide +kernel
theorem dX7_leads_6 : decode cX7_leads 6 = .ok (.iload 5, 2) := by decide +kernel
theorem dX7_leads_8 : decode cX7_leads 8 = .ok (.iconst 1, 1) := by decide +kernel
theorem dX7_leads_9 : decode cX7_leads 9 = .ok (.aload_n 0, 1) := by decide +kernel
theorem dX7_leads_10 : decode cX7_leads 10 = .ok (.getfield 7, 3) := by decide +kernel
theorem dX7_leads_13 : decode cX7_leads 13 = .ok (.ishl, 1) := by decide +kernel
theorem dX7_leads_14 : decode cX7_leads 14 = .ok (.if_icmp .ge 44, 3) := by decide +kernel
theorem dX7_leads_17 : decode cX7_leads 17 = .ok (.lload_n 1, 1) := by decide +kernel
theorem dX7_leads_18 : decode cX7_leads 18 = .ok (.iload 5, 2) := by decide +kernel
theorem dX7_leads_20 : decode cX7_leads 20 = .ok (.invokestatic 44, 3) := by decide +kernel
theorem dX7_leads_23 : decode cX7_leads 23 = .ok (.ifCond .eq 25, 3) := by decide +kernel
theorem dX7_leads_26 : decode cX7_leads 26 = .ok (.iload 4, 2) := by decide +kernel
theorem dX7_leads_28 : decode cX7_leads 28 = .ok (.ifCond .lt 15, 3) := by decide +kernel
theorem dX7_leads_31 : decode cX7_leads 31 = .ok (.aload_n 0, 1) := by decide +kernel
theorem dX7_leads_32 : decode cX7_leads 32 = .ok (.iload_n 3, 1) := by decide +kernel
theorem dX7_leads_33 : decode cX7_leads 33 = .ok (.iload 5, 2) := by decide +kernel
theorem dX7_leads_35 : decode cX7_leads 35 = .ok (.iload 4, 2) := by decide +kernel
theorem dX7_leads_37 : decode cX7_leads 37 = .ok (.invokevirtual 91, 3) := by decide +kernel
theorem dX7_leads_40 : decode cX7_leads 40 = .ok (.ifCond .eq 8, 3) := by decide +kernel
theorem dX7_leads_43 : decode cX7_leads 43 = .ok (.iload 5, 2) := by decide +kernel
theorem dX7_leads_45 : decode cX7_leads 45 = .ok (.goto 5, 3) := by decide +kernel
theorem dX7_leads_48 : decode cX7_leads 48 = .ok (.iload 4, 2) := by decide +kernel
theorem dX7_leads_50 : decode cX7_leads 50 = .ok (.istore 4, 2) := by decide +kernel
theorem dX7_leads_52 : decode cX7_leads 52 = .ok (.iinc 5 1, 3) := by decide +kernel
theorem dX7_leads_55 : decode cX7_leads 55 = .ok (.goto (-49), 3) := by decide +kernel
theorem dX7_leads_58 : decode cX7_leads 58 = .ok (.iload 4, 2) := by decide +kernel
theorem dX7_leads_60 : decode cX7_leads 60 = .ok (.ireturn, 1) := by decide +kernel
set_option maxRecDepth 20000 in
theorem ggX7_termAt_X7_isRegister : GoodIn wsX7_termAt wsX7_isRegister := goodIn_r _ [5, 6, 7, 4, 8] (by decide +kernel) (by decide +kernel)
set_option maxRecDepth 20000 in
theorem gX7_termAt_X7_isRegister : GoodIn wsX7_termAt (va_wsS RX7 48 yX7_isRegister wsX7_isRegister) := goodIn_app (goodIn_of _ (by decide +kernel)) ggX7_termAt_X7_isRegister
set_option maxRecDepth 20000 in
theorem ggX7_termAt_X7_isOrder : GoodIn wsX7_termAt wsX7_isOrder := goodIn_r _ [11, 6, 7, 4, 8] (by decide +kernel) (by decide +kernel)
set_option maxRecDepth 20000 in
theorem gX7_termAt_X7_isOrder : GoodIn wsX7_termAt (va_wsS RX7 94 yX7_isOrder wsX7_isOrder) := goodIn_app (goodIn_of _ (by decide +kernel)) ggX7_termAt_X7_isOrder
set_option maxRecDepth 20000 in
theorem ggX7_termAt_X7_leads : GoodIn wsX7_termAt wsX7_leads := goodIn_r _ [15, 16, 17, 18, 4, 19, 20, 21, 22, 23, 24, 25, 26, 27, 28, 29, 30, 31, 32, 33, 34, 35] (by decide +kernel) (by decide +kernel)
set_option maxRecDepth 20000 in
theorem gX7_termAt_X7_leads : GoodIn wsX7_termAt (wsV RX7 97 RX7 yX7_leads wsX7_leads) := goodIn_app (goodIn_of _ (by decide +kernel)) ggX7_termAt_X7_leads
theorem dX7_termAt_0 : decode cX7_termAt 0 = .ok (.iload_n 1, 1) := by decide +kernel
theorem dX7_termAt_1 : decode cX7_termAt 1 = .ok (.invokestatic 48, 3) := by decide +kernel
theorem dX7_termAt_4 : decode cX7_termAt 4 = .ok (.ifCond .eq 14, 3) := by decide +kernel
theorem dX7_termAt_7 : decode cX7_termAt 7 = .ok (.iload_n 2, 1) := by decide +kernel
theorem dX7_termAt_8 : decode cX7_termAt 8 = .ok (.invokestatic 94, 3) := by decide +kernel
theorem dX7_termAt_11 : decode cX7_termAt 11 = .ok (.ifCond .eq 7, 3) := by decide +kernel
theorem dX7_termAt_14 : decode cX7_termAt 14 = .ok (.iload_n 3, 1) := by decide +kernel
theorem dX7_termAt_15 : decode cX7_termAt 15 = .ok (.ifCond .ge 5, 3) := by decide +kernel
theorem dX7_termAt_18 : decode cX7_termAt 18 = .ok (.iconst (-1), 1) := by decide +kernel
theorem dX7_termAt_19 : decode cX7_termAt 19 = .ok (.ireturn, 1) := by decide +kernel
theorem dX7_termAt_20 : decode cX7_termAt 20 = .ok (.aload_n 0, 1) := by decide +kernel
theorem dX7_termAt_21 : decode cX7_termAt 21 = .ok (.getfield 13, 3) := by decide +kernel
theorem dX7_termAt_24 : decode cX7_termAt 24 = .ok (.iload_n 1, 1) := by decide +kernel
theorem dX7_termAt_25 : decode cX7_termAt 25 = .ok (.laload, 1) := by decide +kernel
theorem dX7_termAt_26 : decode cX7_termAt 26 = .ok (.lstore 4, 2) := by decide +kernel
theorem dX7_termAt_28 : decode cX7_termAt 28 = .ok (.iconst 0, 1) := by decide +kernel
theorem dX7_termAt_29 : decode cX7_termAt 29 = .ok (.istore 6, 2) := by decide +kernel
theorem dX7_termAt_31 : decode cX7_termAt 31 = .ok (.iload 6, 2) := by decide +kernel
theorem dX7_termAt_33 : decode cX7_termAt 33 = .ok (.iload_n 3, 1) := by decide +kernel
theorem dX7_termAt_34 : decode cX7_termAt 34 = .ok (.if_icmp .ge 30, 3) := by decide +kernel
theorem dX7_termAt_37 : decode cX7_termAt 37 = .ok (.lload 4, 2) := by decide +kernel
theorem dX7_termAt_39 : decode cX7_termAt 39 = .ok (.lconst 0, 1) := by decide +kernel
theorem dX7_termAt_40 : decode cX7_termAt 40 = .ok (.lcmp, 1) := by decide +kernel
theorem dX7_termAt_41 : decode cX7_termAt 41 = .ok (.ifCond .eq 23, 3) := by decide +kernel
theorem dX7_termAt_44 : decode cX7_termAt 44 = .ok (.lload 4, 2) := by decide +kernel
theorem dX7_termAt_46 : decode cX7_termAt 46 = .ok (.lconst 1, 1) := by decide +kernel
theorem dX7_termAt_47 : decode cX7_termAt 47 = .ok (.aload_n 0, 1) := by decide +kernel
theorem dX7_termAt_48 : decode cX7_termAt 48 = .ok (.lload 4, 2) := by decide +kernel
theorem dX7_termAt_50 : decode cX7_termAt 50 = .ok (.iload_n 2, 1) := by decide +kernel
theorem dX7_termAt_51 : decode cX7_termAt 51 = .ok (.invokevirtual 97, 3) := by decide +kernel
theorem dX7_termAt_54 : decode cX7_termAt 54 = .ok (.lshl, 1) := by decide +kernel
theorem dX7_termAt_55 : decode cX7_termAt 55 = .ok (.lxor, 1) := by decide +kernel
theorem dX7_termAt_56 : decode cX7_termAt 56 = .ok (.lstore 4, 2) := by decide +kernel
theorem dX7_termAt_58 : decode cX7_termAt 58 = .ok (.iinc 6 1, 3) := by decide +kernel
theorem dX7_termAt_61 : decode cX7_termAt 61 = .ok (.goto (-30), 3) := by decide +kernel
theorem dX7_termAt_64 : decode cX7_termAt 64 = .ok (.lload 4, 2) := by decide +kernel
theorem dX7_termAt_66 : decode cX7_termAt 66 = .ok (.lconst 0, 1) := by decide +kernel
theorem dX7_termAt_67 : decode cX7_termAt 67 = .ok (.lcmp, 1) := by decide +kernel
theorem dX7_termAt_68 : decode cX7_termAt 68 = .ok (.ifCond .ne 8, 3) := by decide +kernel
theorem dX7_termAt_71 : decode cX7_termAt 71 = .ok (.bipush (-4), 2) := by decide +kernel
theorem dX7_termAt_73 : decode cX7_termAt 73 = .ok (.goto 10, 3) := by decide +kernel
theorem dX7_termAt_76 : decode cX7_termAt 76 = .ok (.aload_n 0, 1) := by decide +kernel
theorem dX7_termAt_77 : decode cX7_termAt 77 = .ok (.lload 4, 2) := by decide +kernel
theorem dX7_termAt_79 : decode cX7_termAt 79 = .ok (.iload_n 2, 1) := by decide +kernel
theorem dX7_termAt_80 : decode cX7_termAt 80 = .ok (.invokevirtual 97, 3) := by decide +kernel
theorem dX7_termAt_83 : decode cX7_termAt 83 = .ok (.ireturn, 1) := by decide +kernel
set_option maxRecDepth 20000 in
theorem ggX7_value_X7_isRegister : GoodIn wsX7_value wsX7_isRegister := goodIn_r _ [5, 6, 7, 4, 8] (by decide +kernel) (by decide +kernel)
set_option maxRecDepth 20000 in
theorem gX7_value_X7_isRegister : GoodIn wsX7_value (va_wsS RX7 48 yX7_isRegister wsX7_isRegister) := goodIn_app (goodIn_of _ (by decide +kernel)) ggX7_value_X7_isRegister
set_option maxRecDepth 20000 in
theorem ggX7_value_X7_isMask : GoodIn wsX7_value wsX7_isMask := goodIn_r _ [12, 13, 6, 7, 4, 8, 21, 22, 23, 24, 25, 26, 27, 28, 29] (by decide +kernel) (by decide +kernel)
set_option maxRecDepth 20000 in
theorem gX7_value_X7_isMask : GoodIn wsX7_value (wsV RX7 52 RX7 yX7_isMask wsX7_isMask) := goodIn_app (goodIn_of _ (by decide +kernel)) ggX7_value_X7_isMask
set_option maxRecDepth 20000 in
theorem ggX7_value_X7_values : GoodIn wsX7_value wsX7_values := goodIn_r _ [17, 13, 18, 19, 4, 20, 21, 22, 23, 24, 25, 26, 27, 28, 29] (by decide +kernel) (by decide +kernel)
set_option maxRecDepth 20000 in
theorem gX7_value_X7_values : GoodIn wsX7_value (wsV RX7 73 RX7 yX7_values wsX7_values) := goodIn_app (goodIn_of _ (by decide +kernel)) ggX7_value_X7_values
theorem dX7_value_0 : decode cX7_value 0 = .ok (.iload_n 1, 1) := by decide +kernel
theorem dX7_value_1 : decode cX7_value 1 = .ok (.invokestatic 48, 3) := by decide +kernel
theorem dX7_value_4 : decode cX7_value 4 = .ok (.ifCond .eq 29, 3) := by decide +kernel
theorem dX7_value_7 : decode cX7_value 7 = .ok (.aload_n 0, 1) := by decide +kernel
theorem dX7_value_8 : decode cX7_value 8 = .ok (.iload_n 2, 1) := by decide +kernel
theorem dX7_value_9 : decode cX7_value 9 = .ok (.invokevirtual 52, 3) := by decide +kernel
theorem dX7_value_12 : decode cX7_value 12 = .ok (.ifCond .eq 21, 3) := by decide +kernel
theorem dX7_value_15 : decode cX7_value 15 = .ok (.aload_n 0, 1) := by decide +kernel
theorem dX7_value_16 : decode cX7_value 16 = .ok (.aload_n 0, 1) := by decide +kernel
theorem dX7_value_17 : decode cX7_value 17 = .ok (.getfield 13, 3) := by decide +kernel
theorem dX7_value_20 : decode cX7_value 20 = .ok (.iload_n 1, 1) := by decide +kernel
theorem dX7_value_21 : decode cX7_value 21 = .ok (.laload, 1) := by decide +kernel
theorem dX7_value_22 : decode cX7_value 22 = .ok (.invokevirtual 73, 3) := by decide +kernel
theorem dX7_value_25 : decode cX7_value 25 = .ok (.iload_n 2, 1) := by decide +kernel
theorem dX7_value_26 : decode cX7_value 26 = .ok (.lshr, 1) := by decide +kernel
theorem dX7_value_27 : decode cX7_value 27 = .ok (.lconst 1, 1) := by decide +kernel
theorem dX7_value_28 : decode cX7_value 28 = .ok (.land, 1) := by decide +kernel
theorem dX7_value_29 : decode cX7_value 29 = .ok (.l2i, 1) := by decide +kernel
theorem dX7_value_30 : decode cX7_value 30 = .ok (.goto 4, 3) := by decide +kernel
theorem dX7_value_33 : decode cX7_value 33 = .ok (.iconst (-1), 1) := by decide +kernel
theorem dX7_value_34 : decode cX7_value 34 = .ok (.ireturn, 1) := by decide +kernel
set_option maxRecDepth 20000 in
theorem ggX7_isSame_X7_isRegister : GoodIn wsX7_isSame wsX7_isRegister := goodIn_r _ [5, 6, 7, 4, 8] (by decide +kernel) (by decide +kernel)
set_option maxRecDepth 20000 in
theorem gX7_isSame_X7_isRegister : GoodIn wsX7_isSame (va_wsS RX7 48 yX7_isRegister wsX7_isRegister) := goodIn_app (goodIn_of _ (by decide +kernel)) ggX7_isSame_X7_isRegister
theorem dX7_isSame_0 : decode cX7_isSame 0 = .ok (.iload_n 1, 1) := by decide +kernel
theorem dX7_isSame_1 : decode cX7_isSame 1 = .ok (.invokestatic 48, 3) := by decide +kernel
theorem dX7_isSame_4 : decode cX7_isSame 4 = .ok (.ifCond .eq 10, 3) := by decide +kernel
theorem dX7_isSame_7 : decode cX7_isSame 7 = .ok (.iload_n 2, 1) := by decide +kernel
theorem dX7_isSame_8 : decode cX7_isSame 8 = .ok (.invokestatic 48, 3) := by decide +kernel
theorem dX7_isSame_11 : decode cX7_isSame 11 = .ok (.ifCond .ne 7, 3) := by decide +kernel
theorem dX7_isSame_14 : decode cX7_isSame 14 = .ok (.iconst (-1), 1) := by decide +kernel
theorem dX7_isSame_15 : decode cX7_isSame 15 = .ok (.goto 24, 3) := by decide +kernel
theorem dX7_isSame_18 : decode cX7_isSame 18 = .ok (.aload_n 0, 1) := by decide +kernel
theorem dX7_isSame_19 : decode cX7_isSame 19 = .ok (.getfield 13, 3) := by decide +kernel
theorem dX7_isSame_22 : decode cX7_isSame 22 = .ok (.iload_n 1, 1) := by decide +kernel
theorem dX7_isSame_23 : decode cX7_isSame 23 = .ok (.laload, 1) := by decide +kernel
theorem dX7_isSame_24 : decode cX7_isSame 24 = .ok (.aload_n 0, 1) := by decide +kernel
theorem dX7_isSame_25 : decode cX7_isSame 25 = .ok (.getfield 13, 3) := by decide +kernel
theorem dX7_isSame_28 : decode cX7_isSame 28 = .ok (.iload_n 2, 1) := by decide +kernel
theorem dX7_isSame_29 : decode cX7_isSame 29 = .ok (.laload, 1) := by decide +kernel
theorem dX7_isSame_30 : decode cX7_isSame 30 = .ok (.lcmp, 1) := by decide +kernel
theorem dX7_isSame_31 : decode cX7_isSame 31 = .ok (.ifCond .ne 7, 3) := by decide +kernel
theorem dX7_isSame_34 : decode cX7_isSame 34 = .ok (.iconst 1, 1) := by decide +kernel
theorem dX7_isSame_35 : decode cX7_isSame 35 = .ok (.goto 4, 3) := by decide +kernel
theorem dX7_isSame_38 : decode cX7_isSame 38 = .ok (.iconst 0, 1) := by decide +kernel
theorem dX7_isSame_39 : decode cX7_isSame 39 = .ok (.ireturn, 1) := by decide +kernel
set_option maxRecDepth 20000 in
theorem ggX7_taker_X7_leads : GoodIn wsX7_taker wsX7_leads := goodIn_r _ [6, 7, 8, 9, 5, 10, 11, 12, 13, 14, 15, 16, 17, 18, 19, 20, 21, 22, 23, 24, 25, 26] (by decide +kernel) (by decide +kernel)
set_option maxRecDepth 20000 in
theorem gX7_taker_X7_leads : GoodIn wsX7_taker (wsV RX7 97 RX7 yX7_leads wsX7_leads) := goodIn_app (goodIn_of _ (by decide +kernel)) ggX7_taker_X7_leads
theorem dX7_taker_0 : decode cX7_taker 0 = .ok (.iconst 0, 1) := by decide +kernel
theorem dX7_taker_1 : decode cX7_taker 1 = .ok (.istore 4, 2) := by decide +kernel
theorem dX7_taker_3 : decode cX7_taker 3 = .ok (.iload 4, 2) := by decide +kernel
theorem dX7_taker_5 : decode cX7_taker 5 = .ok (.bipush 8, 2) := by decide +kernel
theorem dX7_taker_7 : decode cX7_taker 7 = .ok (.if_icmp .ge 57, 3) := by decide +kernel
theorem dX7_taker_10 : decode cX7_taker 10 = .ok (.iload_n 1, 1) := by decide +kernel
theorem dX7_taker_11 : decode cX7_taker 11 = .ok (.iload 4, 2) := by decide +kernel
theorem dX7_taker_13 : decode cX7_taker 13 = .ok (.ishr, 1) := by decide +kernel
theorem dX7_taker_14 : decode cX7_taker 14 = .ok (.iconst 1, 1) := by decide +kernel
theorem dX7_taker_15 : decode cX7_taker 15 = .ok (.iand, 1) := by decide +kernel
theorem dX7_taker_16 : decode cX7_taker 16 = .ok (.iconst 1, 1) := by decide +kernel
theorem dX7_taker_17 : decode cX7_taker 17 = .ok (.if_icmp .ne 41, 3) := by decide +kernel
theorem dX7_taker_20 : decode cX7_taker 20 = .ok (.aload_n 0, 1) := by decide +kernel
theorem dX7_taker_21 : decode cX7_taker 21 = .ok (.getfield 27, 3) := by decide +kernel
theorem dX7_taker_24 : decode cX7_taker 24 = .ok (.iload 4, 2) := by decide +kernel
theorem dX7_taker_26 : decode cX7_taker 26 = .ok (.laload, 1) := by decide +kernel
theorem dX7_taker_27 : decode cX7_taker 27 = .ok (.lconst 0, 1) := by decide +kernel
theorem dX7_taker_28 : decode cX7_taker 28 = .ok (.lcmp, 1) := by decide +kernel
theorem dX7_taker_29 : decode cX7_taker 29 = .ok (.ifCond .eq 29, 3) := by decide +kernel
theorem dX7_taker_32 : decode cX7_taker 32 = .ok (.aload_n 0, 1) := by decide +kernel
theorem dX7_taker_33 : decode cX7_taker 33 = .ok (.aload_n 0, 1) := by decide +kernel
theorem dX7_taker_34 : decode cX7_taker 34 = .ok (.getfield 27, 3) := by decide +kernel
theorem dX7_taker_37 : decode cX7_taker 37 = .ok (.iload 4, 2) := by decide +kernel
theorem dX7_taker_39 : decode cX7_taker 39 = .ok (.laload, 1) := by decide +kernel
theorem dX7_taker_40 : decode cX7_taker 40 = .ok (.iload_n 2, 1) := by decide +kernel
theorem dX7_taker_41 : decode cX7_taker 41 = .ok (.invokevirtual 97, 3) := by decide +kernel
theorem dX7_taker_44 : decode cX7_taker 44 = .ok (.istore 5, 2) := by decide +kernel
theorem dX7_taker_46 : decode cX7_taker 46 = .ok (.iload 5, 2) := by decide +kernel
theorem dX7_taker_48 : decode cX7_taker 48 = .ok (.iload_n 3, 1) := by decide +kernel
theorem dX7_taker_49 : decode cX7_taker 49 = .ok (.iconst (-1), 1) := by decide +kernel
theorem dX7_taker_50 : decode cX7_taker 50 = .ok (.ixor, 1) := by decide +kernel
theorem dX7_taker_51 : decode cX7_taker 51 = .ok (.iand, 1) := by decide +kernel
theorem dX7_taker_52 : decode cX7_taker 52 = .ok (.ifCond .ne 6, 3) := by decide +kernel
theorem dX7_taker_55 : decode cX7_taker 55 = .ok (.iload 4, 2) := by decide +kernel
theorem dX7_taker_57 : decode cX7_taker 57 = .ok (.ireturn, 1) := by decide +kernel
theorem dX7_taker_58 : decode cX7_taker 58 = .ok (.iinc 4 1, 3) := by decide +kernel
theorem dX7_taker_61 : decode cX7_taker 61 = .ok (.goto (-58), 3) := by decide +kernel
theorem dX7_taker_64 : decode cX7_taker 64 = .ok (.iconst (-1), 1) := by decide +kernel
theorem dX7_taker_65 : decode cX7_taker 65 = .ok (.ireturn, 1) := by decide +kernel
set_option maxRecDepth 20000 in
theorem ggX7_reduce_X7_isRegister : GoodIn wsX7_reduce wsX7_isRegister := goodIn_r _ [7, 8, 9, 6, 10] (by decide +kernel) (by decide +kernel)
set_option maxRecDepth 20000 in
theorem gX7_reduce_X7_isRegister : GoodIn wsX7_reduce (va_wsS RX7 48 yX7_isRegister wsX7_isRegister) := goodIn_app (goodIn_of _ (by decide +kernel)) ggX7_reduce_X7_isRegister
set_option maxRecDepth 20000 in
theorem ggX7_reduce_X7_isSet : GoodIn wsX7_reduce wsX7_isSet := goodIn_r _ [13, 8, 9, 6, 10] (by decide +kernel) (by decide +kernel)
set_option maxRecDepth 20000 in
theorem gX7_reduce_X7_isSet : GoodIn wsX7_reduce (va_wsS RX7 101 yX7_isSet wsX7_isSet) := goodIn_app (goodIn_of _ (by decide +kernel)) ggX7_reduce_X7_isSet
set_option maxRecDepth 20000 in
theorem ggX7_reduce_X7_isOrder : GoodIn wsX7_reduce wsX7_isOrder := goodIn_r _ [16, 8, 9, 6, 10] (by decide +kernel) (by decide +kernel)
set_option maxRecDepth 20000 in
theorem gX7_reduce_X7_isOrder : GoodIn wsX7_reduce (va_wsS RX7 94 yX7_isOrder wsX7_isOrder) := goodIn_app (goodIn_of _ (by decide +kernel)) ggX7_reduce_X7_isOrder
set_option maxRecDepth 20000 in
theorem ggX7_reduce_X7_leads : GoodIn wsX7_reduce wsX7_leads := goodIn_r _ [20, 21, 22, 23, 6, 24, 25, 26, 27, 28, 29, 30, 31, 50, 51, 52, 53, 54, 55, 56, 57, 58] (by decide +kernel) (by decide +kernel)
set_option maxRecDepth 20000 in
theorem gX7_reduce_X7_leads : GoodIn wsX7_reduce (wsV RX7 97 RX7 yX7_leads wsX7_leads) := goodIn_app (goodIn_of _ (by decide +kernel)) ggX7_reduce_X7_leads
set_option maxRecDepth 20000 in
theorem ggX7_reduce_X7_taker : GoodIn wsX7_reduce wsX7_taker := goodIn_r _ [35, 1, 17, 18, 19, 6, 20, 21, 22, 23, 24, 25, 26, 27, 28, 29, 30, 31, 50, 51, 52, 53, 54, 55, 56, 57, 58] (by decide +kernel) (by decide +kernel)
set_option maxRecDepth 20000 in
theorem gX7_reduce_X7_taker : GoodIn wsX7_reduce (wsV RX7 106 RX7 yX7_taker wsX7_taker) := goodIn_app (goodIn_of _ (by decide +kernel)) ggX7_reduce_X7_taker
set_option maxRecDepth 20000 in
theorem ggX7_reduce_X7_product1 : GoodIn wsX7_reduce wsX7_product1 := goodIn_r _ [39, 21, 22, 23, 6, 24, 50, 51, 52, 53, 54, 55, 56, 57, 58] (by decide +kernel) (by decide +kernel)
set_option maxRecDepth 20000 in
theorem gX7_reduce_X7_product1 : GoodIn wsX7_reduce (wsV RX7 59 RX7 yX7_product1 wsX7_product1) := goodIn_app (goodIn_of _ (by decide +kernel)) ggX7_reduce_X7_product1
set_option maxRecDepth 20000 in
theorem ggX7_reduce_X7_gets : GoodIn wsX7_reduce wsX7_gets := goodIn_r _ [43, 2, 44, 45, 46, 6, 47, 48, 49, 29, 30, 31, 50, 51, 52, 53, 54, 55, 56, 57, 58] (by decide +kernel) (by decide +kernel)
set_option maxRecDepth 20000 in
theorem gX7_reduce_X7_gets : GoodIn wsX7_reduce (wsV RX7 55 RX7 yX7_gets wsX7_gets) := goodIn_app (goodIn_of _ (by decide +kernel)) ggX7_reduce_X7_gets
theorem dX7_reduce_0 : decode cX7_reduce 0 = .ok (.iload_n 1, 1) := by decide +kernel
theorem dX7_reduce_1 : decode cX7_reduce 1 = .ok (.invokestatic 48, 3) := by decide +kernel
theorem dX7_reduce_4 : decode cX7_reduce 4 = .ok (.ifCond .eq 25, 3) := by decide +kernel
theorem dX7_reduce_7 : decode cX7_reduce 7 = .ok (.iload_n 2, 1) := by decide +kernel
theorem dX7_reduce_8 : decode cX7_reduce 8 = .ok (.invokestatic 101, 3) := by decide +kernel
theorem dX7_reduce_11 : decode cX7_reduce 11 = .ok (.ifCond .eq 18, 3) := by decide +kernel
theorem dX7_reduce_14 : decode cX7_reduce 14 = .ok (.iload_n 3, 1) := by decide +kernel
theorem dX7_reduce_15 : decode cX7_reduce 15 = .ok (.invokestatic 94, 3) := by decide +kernel
theorem dX7_reduce_18 : decode cX7_reduce 18 = .ok (.ifCond .eq 11, 3) := by decide +kernel
theorem dX7_reduce_21 : decode cX7_reduce 21 = .ok (.iload 4, 2) := by decide +kernel
theorem dX7_reduce_23 : decode cX7_reduce 23 = .ok (.invokestatic 48, 3) := by decide +kernel
theorem dX7_reduce_26 : decode cX7_reduce 26 = .ok (.ifCond .ne 5, 3) := by decide +kernel
theorem dX7_reduce_29 : decode cX7_reduce 29 = .ok (.iconst (-1), 1) := by decide +kernel
theorem dX7_reduce_30 : decode cX7_reduce 30 = .ok (.ireturn, 1) := by decide +kernel
theorem dX7_reduce_31 : decode cX7_reduce 31 = .ok (.iconst 0, 1) := by decide +kernel
theorem dX7_reduce_32 : decode cX7_reduce 32 = .ok (.istore 5, 2) := by decide +kernel
theorem dX7_reduce_34 : decode cX7_reduce 34 = .ok (.iload 5, 2) := by decide +kernel
theorem dX7_reduce_36 : decode cX7_reduce 36 = .ok (.bipush 8, 2) := by decide +kernel
theorem dX7_reduce_38 : decode cX7_reduce 38 = .ok (.if_icmp .ge 23, 3) := by decide +kernel
theorem dX7_reduce_41 : decode cX7_reduce 41 = .ok (.aload_n 0, 1) := by decide +kernel
theorem dX7_reduce_42 : decode cX7_reduce 42 = .ok (.getfield 27, 3) := by decide +kernel
theorem dX7_reduce_45 : decode cX7_reduce 45 = .ok (.iload 5, 2) := by decide +kernel
theorem dX7_reduce_47 : decode cX7_reduce 47 = .ok (.aload_n 0, 1) := by decide +kernel
theorem dX7_reduce_48 : decode cX7_reduce 48 = .ok (.getfield 13, 3) := by decide +kernel
theorem dX7_reduce_51 : decode cX7_reduce 51 = .ok (.iload 5, 2) := by decide +kernel
theorem dX7_reduce_53 : decode cX7_reduce 53 = .ok (.laload, 1) := by decide +kernel
theorem dX7_reduce_54 : decode cX7_reduce 54 = .ok (.lastore, 1) := by decide +kernel
theorem dX7_reduce_55 : decode cX7_reduce 55 = .ok (.iinc 5 1, 3) := by decide +kernel
theorem dX7_reduce_58 : decode cX7_reduce 58 = .ok (.goto (-24), 3) := by decide +kernel
theorem dX7_reduce_61 : decode cX7_reduce 61 = .ok (.aload_n 0, 1) := by decide +kernel
theorem dX7_reduce_62 : decode cX7_reduce 62 = .ok (.getfield 13, 3) := by decide +kernel
theorem dX7_reduce_65 : decode cX7_reduce 65 = .ok (.iload_n 1, 1) := by decide +kernel
theorem dX7_reduce_66 : decode cX7_reduce 66 = .ok (.laload, 1) := by decide +kernel
theorem dX7_reduce_67 : decode cX7_reduce 67 = .ok (.lstore 5, 2) := by decide +kernel
theorem dX7_reduce_69 : decode cX7_reduce 69 = .ok (.lconst 0, 1) := by decide +kernel
theorem dX7_reduce_70 : decode cX7_reduce 70 = .ok (.lstore 7, 2) := by decide +kernel
theorem dX7_reduce_72 : decode cX7_reduce 72 = .ok (.iconst 0, 1) := by decide +kernel
theorem dX7_reduce_73 : decode cX7_reduce 73 = .ok (.istore 9, 2) := by decide +kernel
theorem dX7_reduce_75 : decode cX7_reduce 75 = .ok (.lload 5, 2) := by decide +kernel
theorem dX7_reduce_77 : decode cX7_reduce 77 = .ok (.lload 7, 2) := by decide +kernel
theorem dX7_reduce_79 : decode cX7_reduce 79 = .ok (.ldc2_w 104, 3) := by decide +kernel
theorem dX7_reduce_82 : decode cX7_reduce 82 = .ok (.lxor, 1) := by decide +kernel
theorem dX7_reduce_83 : decode cX7_reduce 83 = .ok (.land, 1) := by decide +kernel
theorem dX7_reduce_84 : decode cX7_reduce 84 = .ok (.lconst 0, 1) := by decide +kernel
theorem dX7_reduce_85 : decode cX7_reduce 85 = .ok (.lcmp, 1) := by decide +kernel
theorem dX7_reduce_86 : decode cX7_reduce 86 = .ok (.ifCond .eq 87, 3) := by decide +kernel
theorem dX7_reduce_89 : decode cX7_reduce 89 = .ok (.aload_n 0, 1) := by decide +kernel
theorem dX7_reduce_90 : decode cX7_reduce 90 = .ok (.lload 5, 2) := by decide +kernel
theorem dX7_reduce_92 : decode cX7_reduce 92 = .ok (.lload 7, 2) := by decide +kernel
theorem dX7_reduce_94 : decode cX7_reduce 94 = .ok (.ldc2_w 104, 3) := by decide +kernel
theorem dX7_reduce_97 : decode cX7_reduce 97 = .ok (.lxor, 1) := by decide +kernel
theorem dX7_reduce_98 : decode cX7_reduce 98 = .ok (.land, 1) := by decide +kernel
theorem dX7_reduce_99 : decode cX7_reduce 99 = .ok (.iload_n 3, 1) := by decide +kernel
theorem dX7_reduce_100 : decode cX7_reduce 100 = .ok (.invokevirtual 97, 3) := by decide +kernel
theorem dX7_reduce_103 : decode cX7_reduce 103 = .ok (.istore 10, 2) := by decide +kernel
theorem dX7_reduce_105 : decode cX7_reduce 105 = .ok (.aload_n 0, 1) := by decide +kernel
theorem dX7_reduce_106 : decode cX7_reduce 106 = .ok (.iload_n 2, 1) := by decide +kernel
theorem dX7_reduce_107 : decode cX7_reduce 107 = .ok (.iload_n 3, 1) := by decide +kernel
theorem dX7_reduce_108 : decode cX7_reduce 108 = .ok (.iload 10, 2) := by decide +kernel
theorem dX7_reduce_110 : decode cX7_reduce 110 = .ok (.invokevirtual 106, 3) := by decide +kernel
theorem dX7_reduce_113 : decode cX7_reduce 113 = .ok (.istore 11, 2) := by decide +kernel
theorem dX7_reduce_115 : decode cX7_reduce 115 = .ok (.iload 11, 2) := by decide +kernel
theorem dX7_reduce_117 : decode cX7_reduce 117 = .ok (.ifCond .ge 15, 3) := by decide +kernel
theorem dX7_reduce_120 : decode cX7_reduce 120 = .ok (.lload 7, 2) := by decide +kernel
theorem dX7_reduce_122 : decode cX7_reduce 122 = .ok (.lconst 1, 1) := by decide +kernel
theorem dX7_reduce_123 : decode cX7_reduce 123 = .ok (.iload 10, 2) := by decide +kernel
theorem dX7_reduce_125 : decode cX7_reduce 125 = .ok (.lshl, 1) := by decide +kernel
theorem dX7_reduce_126 : decode cX7_reduce 126 = .ok (.lor, 1) := by decide +kernel
theorem dX7_reduce_127 : decode cX7_reduce 127 = .ok (.lstore 7, 2) := by decide +kernel
theorem dX7_reduce_129 : decode cX7_reduce 129 = .ok (.goto 41, 3) := by decide +kernel
theorem dX7_reduce_132 : decode cX7_reduce 132 = .ok (.lload 5, 2) := by decide +kernel
theorem dX7_reduce_134 : decode cX7_reduce 134 = .ok (.aload_n 0, 1) := by decide +kernel
theorem dX7_reduce_135 : decode cX7_reduce 135 = .ok (.lconst 1, 1) := by decide +kernel
theorem dX7_reduce_136 : decode cX7_reduce 136 = .ok (.iload 10, 2) := by decide +kernel
theorem dX7_reduce_138 : decode cX7_reduce 138 = .ok (.aload_n 0, 1) := by decide +kernel
theorem dX7_reduce_139 : decode cX7_reduce 139 = .ok (.aload_n 0, 1) := by decide +kernel
theorem dX7_reduce_140 : decode cX7_reduce 140 = .ok (.getfield 27, 3) := by decide +kernel
theorem dX7_reduce_143 : decode cX7_reduce 143 = .ok (.iload 11, 2) := by decide +kernel
theorem dX7_reduce_145 : decode cX7_reduce 145 = .ok (.laload, 1) := by decide +kernel
theorem dX7_reduce_146 : decode cX7_reduce 146 = .ok (.iload_n 3, 1) := by decide +kernel
theorem dX7_reduce_147 : decode cX7_reduce 147 = .ok (.invokevirtual 97, 3) := by decide +kernel
theorem dX7_reduce_150 : decode cX7_reduce 150 = .ok (.iconst (-1), 1) := by decide +kernel
theorem dX7_reduce_151 : decode cX7_reduce 151 = .ok (.ixor, 1) := by decide +kernel
theorem dX7_reduce_152 : decode cX7_reduce 152 = .ok (.iand, 1) := by decide +kernel
theorem dX7_reduce_153 : decode cX7_reduce 153 = .ok (.lshl, 1) := by decide +kernel
theorem dX7_reduce_154 : decode cX7_reduce 154 = .ok (.aload_n 0, 1) := by decide +kernel
theorem dX7_reduce_155 : decode cX7_reduce 155 = .ok (.getfield 27, 3) := by decide +kernel
theorem dX7_reduce_158 : decode cX7_reduce 158 = .ok (.iload 11, 2) := by decide +kernel
theorem dX7_reduce_160 : decode cX7_reduce 160 = .ok (.laload, 1) := by decide +kernel
theorem dX7_reduce_161 : decode cX7_reduce 161 = .ok (.invokevirtual 59, 3) := by decide +kernel
theorem dX7_reduce_164 : decode cX7_reduce 164 = .ok (.lxor, 1) := by decide +kernel
theorem dX7_reduce_165 : decode cX7_reduce 165 = .ok (.lstore 5, 2) := by decide +kernel
theorem dX7_reduce_167 : decode cX7_reduce 167 = .ok (.iinc 9 1, 3) := by decide +kernel
theorem dX7_reduce_170 : decode cX7_reduce 170 = .ok (.goto (-95), 3) := by decide +kernel
theorem dX7_reduce_173 : decode cX7_reduce 173 = .ok (.aload_n 0, 1) := by decide +kernel
theorem dX7_reduce_174 : decode cX7_reduce 174 = .ok (.iload 4, 2) := by decide +kernel
theorem dX7_reduce_176 : decode cX7_reduce 176 = .ok (.lload 5, 2) := by decide +kernel
theorem dX7_reduce_178 : decode cX7_reduce 178 = .ok (.invokevirtual 55, 3) := by decide +kernel
theorem dX7_reduce_181 : decode cX7_reduce 181 = .ok (.pop, 1) := by decide +kernel
theorem dX7_reduce_182 : decode cX7_reduce 182 = .ok (.iload 9, 2) := by decide +kernel
theorem dX7_reduce_184 : decode cX7_reduce 184 = .ok (.ireturn, 1) := by decide +kernel
set_option maxRecDepth 20000 in
theorem ggX7_echelon_X7_isSet : GoodIn wsX7_echelon wsX7_isSet := goodIn_r _ [6, 7, 8, 5, 9] (by decide +kernel) (by decide +kernel)
set_option maxRecDepth 20000 in
theorem gX7_echelon_X7_isSet : GoodIn wsX7_echelon (va_wsS RX7 101 yX7_isSet wsX7_isSet) := goodIn_app (goodIn_of _ (by decide +kernel)) ggX7_echelon_X7_isSet
set_option maxRecDepth 20000 in
theorem ggX7_echelon_X7_isOrder : GoodIn wsX7_echelon wsX7_isOrder := goodIn_r _ [12, 7, 8, 5, 9] (by decide +kernel) (by decide +kernel)
set_option maxRecDepth 20000 in
theorem gX7_echelon_X7_isOrder : GoodIn wsX7_echelon (va_wsS RX7 94 yX7_isOrder wsX7_isOrder) := goodIn_app (goodIn_of _ (by decide +kernel)) ggX7_echelon_X7_isOrder
set_option maxRecDepth 20000 in
theorem ggX7_echelon_X7_records : GoodIn wsX7_echelon wsX7_records := goodIn_r _ [16, 17, 18, 2, 34, 35, 36, 37, 38, 39, 40, 41, 42] (by decide +kernel) (by decide +kernel)
set_option maxRecDepth 20000 in
theorem gX7_echelon_X7_records : GoodIn wsX7_echelon (wsV RX7 37 RX7 yX7_records wsX7_records) := goodIn_app (goodIn_of _ (by decide +kernel)) ggX7_echelon_X7_records
set_option maxRecDepth 20000 in
theorem ggX7_echelon_X7_leads : GoodIn wsX7_echelon wsX7_leads := goodIn_r _ [22, 23, 24, 25, 5, 26, 27, 28, 29, 30, 31, 32, 33, 34, 35, 36, 37, 38, 39, 40, 41, 42] (by decide +kernel) (by decide +kernel)
set_option maxRecDepth 20000 in
theorem gX7_echelon_X7_leads : GoodIn wsX7_echelon (wsV RX7 97 RX7 yX7_leads wsX7_leads) := goodIn_app (goodIn_of _ (by decide +kernel)) ggX7_echelon_X7_leads
set_option maxRecDepth 20000 in
theorem ggX7_echelon_X7_isGreater : GoodIn wsX7_echelon wsX7_isGreater := goodIn_r _ [30, 23, 31, 32, 5, 33, 34, 35, 36, 37, 38, 39, 40, 41, 42] (by decide +kernel) (by decide +kernel)
set_option maxRecDepth 20000 in
theorem gX7_echelon_X7_isGreater : GoodIn wsX7_echelon (wsV RX7 91 RX7 yX7_isGreater wsX7_isGreater) := goodIn_app (goodIn_of _ (by decide +kernel)) ggX7_echelon_X7_isGreater
set_option maxRecDepth 20000 in
theorem ggX7_echelon_X7_has1 : GoodIn wsX7_echelon wsX7_has1 := goodIn_r _ [26] (by decide +kernel) (by decide +kernel)
set_option maxRecDepth 20000 in
theorem gX7_echelon_X7_has1 : GoodIn wsX7_echelon (va_wsS RX7 44 yX7_has1 wsX7_has1) := goodIn_app (goodIn_of _ (by decide +kernel)) ggX7_echelon_X7_has1
theorem dX7_echelon_0 : decode cX7_echelon 0 = .ok (.iload_n 1, 1) := by decide +kernel
theorem dX7_echelon_1 : decode cX7_echelon 1 = .ok (.invokestatic 101, 3) := by decide +kernel
theorem dX7_echelon_4 : decode cX7_echelon 4 = .ok (.ifCond .eq 10, 3) := by decide +kernel
theorem dX7_echelon_7 : decode cX7_echelon 7 = .ok (.iload_n 2, 1) := by decide +kernel
theorem dX7_echelon_8 : decode cX7_echelon 8 = .ok (.invokestatic 94, 3) := by decide +kernel
theorem dX7_echelon_11 : decode cX7_echelon 11 = .ok (.ifCond .ne 5, 3) := by decide +kernel
theorem dX7_echelon_14 : decode cX7_echelon 14 = .ok (.iconst (-1), 1) := by decide +kernel
theorem dX7_echelon_15 : decode cX7_echelon 15 = .ok (.ireturn, 1) := by decide +kernel
theorem dX7_echelon_16 : decode cX7_echelon 16 = .ok (.aload_n 0, 1) := by decide +kernel
theorem dX7_echelon_17 : decode cX7_echelon 17 = .ok (.invokevirtual 37, 3) := by decide +kernel
theorem dX7_echelon_20 : decode cX7_echelon 20 = .ok (.iconst 0, 1) := by decide +kernel
theorem dX7_echelon_21 : decode cX7_echelon 21 = .ok (.istore_n 3, 1) := by decide +kernel
theorem dX7_echelon_22 : decode cX7_echelon 22 = .ok (.iconst 0, 1) := by decide +kernel
theorem dX7_echelon_23 : decode cX7_echelon 23 = .ok (.istore 4, 2) := by decide +kernel
theorem dX7_echelon_25 : decode cX7_echelon 25 = .ok (.iload 4, 2) := by decide +kernel
theorem dX7_echelon_27 : decode cX7_echelon 27 = .ok (.bipush 8, 2) := by decide +kernel
theorem dX7_echelon_29 : decode cX7_echelon 29 = .ok (.if_icmp .ge 35, 3) := by decide +kernel
theorem dX7_echelon_32 : decode cX7_echelon 32 = .ok (.iload_n 1, 1) := by decide +kernel
theorem dX7_echelon_33 : decode cX7_echelon 33 = .ok (.iload 4, 2) := by decide +kernel
theorem dX7_echelon_35 : decode cX7_echelon 35 = .ok (.ishr, 1) := by decide +kernel
theorem dX7_echelon_36 : decode cX7_echelon 36 = .ok (.iconst 1, 1) := by decide +kernel
theorem dX7_echelon_37 : decode cX7_echelon 37 = .ok (.iand, 1) := by decide +kernel
theorem dX7_echelon_38 : decode cX7_echelon 38 = .ok (.iconst 1, 1) := by decide +kernel
theorem dX7_echelon_39 : decode cX7_echelon 39 = .ok (.if_icmp .ne 19, 3) := by decide +kernel
theorem dX7_echelon_42 : decode cX7_echelon 42 = .ok (.aload_n 0, 1) := by decide +kernel
theorem dX7_echelon_43 : decode cX7_echelon 43 = .ok (.getfield 27, 3) := by decide +kernel
theorem dX7_echelon_46 : decode cX7_echelon 46 = .ok (.iload_n 3, 1) := by decide +kernel
theorem dX7_echelon_47 : decode cX7_echelon 47 = .ok (.aload_n 0, 1) := by decide +kernel
theorem dX7_echelon_48 : decode cX7_echelon 48 = .ok (.getfield 13, 3) := by decide +kernel
theorem dX7_echelon_51 : decode cX7_echelon 51 = .ok (.iload 4, 2) := by decide +kernel
theorem dX7_echelon_53 : decode cX7_echelon 53 = .ok (.laload, 1) := by decide +kernel
theorem dX7_echelon_54 : decode cX7_echelon 54 = .ok (.lastore, 1) := by decide +kernel
theorem dX7_echelon_55 : decode cX7_echelon 55 = .ok (.iinc 3 1, 3) := by decide +kernel
theorem dX7_echelon_58 : decode cX7_echelon 58 = .ok (.iinc 4 1, 3) := by decide +kernel
theorem dX7_echelon_61 : decode cX7_echelon 61 = .ok (.goto (-36), 3) := by decide +kernel
theorem dX7_echelon_64 : decode cX7_echelon 64 = .ok (.iconst 0, 1) := by decide +kernel
theorem dX7_echelon_65 : decode cX7_echelon 65 = .ok (.istore 4, 2) := by decide +kernel
theorem dX7_echelon_67 : decode cX7_echelon 67 = .ok (.iconst 1, 1) := by decide +kernel
theorem dX7_echelon_68 : decode cX7_echelon 68 = .ok (.istore 5, 2) := by decide +kernel
theorem dX7_echelon_70 : decode cX7_echelon 70 = .ok (.iload 5, 2) := by decide +kernel
theorem dX7_echelon_72 : decode cX7_echelon 72 = .ok (.ifCond .eq 194, 3) := by decide +kernel
theorem dX7_echelon_75 : decode cX7_echelon 75 = .ok (.iconst (-1), 1) := by decide +kernel
theorem dX7_echelon_76 : decode cX7_echelon 76 = .ok (.istore 6, 2) := by decide +kernel
theorem dX7_echelon_78 : decode cX7_echelon 78 = .ok (.iload 4, 2) := by decide +kernel
theorem dX7_echelon_80 : decode cX7_echelon 80 = .ok (.istore 7, 2) := by decide +kernel
theorem dX7_echelon_82 : decode cX7_echelon 82 = .ok (.iload 7, 2) := by decide +kernel
theorem dX7_echelon_84 : decode cX7_echelon 84 = .ok (.iload_n 3, 1) := by decide +kernel
theorem dX7_echelon_85 : decode cX7_echelon 85 = .ok (.if_icmp .ge 64, 3) := by decide +kernel
theorem dX7_echelon_88 : decode cX7_echelon 88 = .ok (.aload_n 0, 1) := by decide +kernel
theorem dX7_echelon_89 : decode cX7_echelon 89 = .ok (.aload_n 0, 1) := by decide +kernel
theorem dX7_echelon_90 : decode cX7_echelon 90 = .ok (.getfield 27, 3) := by decide +kernel
theorem dX7_echelon_93 : decode cX7_echelon 93 = .ok (.iload 7, 2) := by decide +kernel
theorem dX7_echelon_95 : decode cX7_echelon 95 = .ok (.laload, 1) := by decide +kernel
theorem dX7_echelon_96 : decode cX7_echelon 96 = .ok (.iload_n 2, 1) := by decide +kernel
theorem dX7_echelon_97 : decode cX7_echelon 97 = .ok (.invokevirtual 97, 3) := by decide +kernel
theorem dX7_echelon_100 : decode cX7_echelon 100 = .ok (.istore 8, 2) := by decide +kernel
theorem dX7_echelon_102 : decode cX7_echelon 102 = .ok (.iload 8, 2) := by decide +kernel
theorem dX7_echelon_104 : decode cX7_echelon 104 = .ok (.ifCond .lt 35, 3) := by decide +kernel
theorem dX7_echelon_107 : decode cX7_echelon 107 = .ok (.iload 6, 2) := by decide +kernel
theorem dX7_echelon_109 : decode cX7_echelon 109 = .ok (.ifCond .lt 25, 3) := by decide +kernel
theorem dX7_echelon_112 : decode cX7_echelon 112 = .ok (.aload_n 0, 1) := by decide +kernel
theorem dX7_echelon_113 : decode cX7_echelon 113 = .ok (.iload_n 2, 1) := by decide +kernel
theorem dX7_echelon_114 : decode cX7_echelon 114 = .ok (.iload 8, 2) := by decide +kernel
theorem dX7_echelon_116 : decode cX7_echelon 116 = .ok (.aload_n 0, 1) := by decide +kernel
theorem dX7_echelon_117 : decode cX7_echelon 117 = .ok (.aload_n 0, 1) := by decide +kernel
theorem dX7_echelon_118 : decode cX7_echelon 118 = .ok (.getfield 27, 3) := by decide +kernel
theorem dX7_echelon_121 : decode cX7_echelon 121 = .ok (.iload 6, 2) := by decide +kernel
theorem dX7_echelon_123 : decode cX7_echelon 123 = .ok (.laload, 1) := by decide +kernel
theorem dX7_echelon_124 : decode cX7_echelon 124 = .ok (.iload_n 2, 1) := by decide +kernel
theorem dX7_echelon_125 : decode cX7_echelon 125 = .ok (.invokevirtual 97, 3) := by decide +kernel
theorem dX7_echelon_128 : decode cX7_echelon 128 = .ok (.invokevirtual 91, 3) := by decide +kernel
theorem dX7_echelon_131 : decode cX7_echelon 131 = .ok (.ifCond .eq 8, 3) := by decide +kernel
theorem dX7_echelon_134 : decode cX7_echelon 134 = .ok (.iload 7, 2) := by decide +kernel
theorem dX7_echelon_136 : decode cX7_echelon 136 = .ok (.goto 5, 3) := by decide +kernel
theorem dX7_echelon_139 : decode cX7_echelon 139 = .ok (.iload 6, 2) := by decide +kernel
theorem dX7_echelon_141 : decode cX7_echelon 141 = .ok (.istore 6, 2) := by decide +kernel
theorem dX7_echelon_143 : decode cX7_echelon 143 = .ok (.iinc 7 1, 3) := by decide +kernel
theorem dX7_echelon_146 : decode cX7_echelon 146 = .ok (.goto (-64), 3) := by decide +kernel
theorem dX7_echelon_149 : decode cX7_echelon 149 = .ok (.iload 6, 2) := by decide +kernel
theorem dX7_echelon_151 : decode cX7_echelon 151 = .ok (.ifCond .lt 7, 3) := by decide +kernel
theorem dX7_echelon_154 : decode cX7_echelon 154 = .ok (.iconst 1, 1) := by decide +kernel
theorem dX7_echelon_155 : decode cX7_echelon 155 = .ok (.goto 4, 3) := by decide +kernel
theorem dX7_echelon_158 : decode cX7_echelon 158 = .ok (.iconst 0, 1) := by decide +kernel
theorem dX7_echelon_159 : decode cX7_echelon 159 = .ok (.istore 5, 2) := by decide +kernel
theorem dX7_echelon_161 : decode cX7_echelon 161 = .ok (.iload 5, 2) := by decide +kernel
theorem dX7_echelon_163 : decode cX7_echelon 163 = .ok (.ifCond .eq 100, 3) := by decide +kernel
theorem dX7_echelon_166 : decode cX7_echelon 166 = .ok (.aload_n 0, 1) := by decide +kernel
theorem dX7_echelon_167 : decode cX7_echelon 167 = .ok (.getfield 27, 3) := by decide +kernel
theorem dX7_echelon_170 : decode cX7_echelon 170 = .ok (.iload 6, 2) := by decide +kernel
theorem dX7_echelon_172 : decode cX7_echelon 172 = .ok (.laload, 1) := by decide +kernel
theorem dX7_echelon_173 : decode cX7_echelon 173 = .ok (.lstore 7, 2) := by decide +kernel
theorem dX7_echelon_175 : decode cX7_echelon 175 = .ok (.aload_n 0, 1) := by decide +kernel
theorem dX7_echelon_176 : decode cX7_echelon 176 = .ok (.getfield 27, 3) := by decide +kernel
theorem dX7_echelon_179 : decode cX7_echelon 179 = .ok (.iload 6, 2) := by decide +kernel
theorem dX7_echelon_181 : decode cX7_echelon 181 = .ok (.aload_n 0, 1) := by decide +kernel
theorem dX7_echelon_182 : decode cX7_echelon 182 = .ok (.getfield 27, 3) := by decide +kernel
theorem dX7_echelon_185 : decode cX7_echelon 185 = .ok (.iload 4, 2) := by decide +kernel
theorem dX7_echelon_187 : decode cX7_echelon 187 = .ok (.laload, 1) := by decide +kernel
theorem dX7_echelon_188 : decode cX7_echelon 188 = .ok (.lastore, 1) := by decide +kernel
theorem dX7_echelon_189 : decode cX7_echelon 189 = .ok (.aload_n 0, 1) := by decide +kernel
theorem dX7_echelon_190 : decode cX7_echelon 190 = .ok (.getfield 27, 3) := by decide +kernel
theorem dX7_echelon_193 : decode cX7_echelon 193 = .ok (.iload 4, 2) := by decide +kernel
theorem dX7_echelon_195 : decode cX7_echelon 195 = .ok (.lload 7, 2) := by decide +kernel
theorem dX7_echelon_197 : decode cX7_echelon 197 = .ok (.lastore, 1) := by decide +kernel
theorem dX7_echelon_198 : decode cX7_echelon 198 = .ok (.aload_n 0, 1) := by decide +kernel
theorem dX7_echelon_199 : decode cX7_echelon 199 = .ok (.lload 7, 2) := by decide +kernel
theorem dX7_echelon_201 : decode cX7_echelon 201 = .ok (.iload_n 2, 1) := by decide +kernel
theorem dX7_echelon_202 : decode cX7_echelon 202 = .ok (.invokevirtual 97, 3) := by decide +kernel
theorem dX7_echelon_205 : decode cX7_echelon 205 = .ok (.istore 9, 2) := by decide +kernel
theorem dX7_echelon_207 : decode cX7_echelon 207 = .ok (.iconst 0, 1) := by decide +kernel
theorem dX7_echelon_208 : decode cX7_echelon 208 = .ok (.istore 10, 2) := by decide +kernel
theorem dX7_echelon_210 : decode cX7_echelon 210 = .ok (.iload 10, 2) := by decide +kernel
theorem dX7_echelon_212 : decode cX7_echelon 212 = .ok (.iload_n 3, 1) := by decide +kernel
theorem dX7_echelon_213 : decode cX7_echelon 213 = .ok (.if_icmp .ge 47, 3) := by decide +kernel
theorem dX7_echelon_216 : decode cX7_echelon 216 = .ok (.aload_n 0, 1) := by decide +kernel
theorem dX7_echelon_217 : decode cX7_echelon 217 = .ok (.getfield 27, 3) := by decide +kernel
theorem dX7_echelon_220 : decode cX7_echelon 220 = .ok (.iload 10, 2) := by decide +kernel
theorem dX7_echelon_222 : decode cX7_echelon 222 = .ok (.dup2, 1) := by decide +kernel
theorem dX7_echelon_223 : decode cX7_echelon 223 = .ok (.laload, 1) := by decide +kernel
theorem dX7_echelon_224 : decode cX7_echelon 224 = .ok (.iload 10, 2) := by decide +kernel
theorem dX7_echelon_226 : decode cX7_echelon 226 = .ok (.iload 4, 2) := by decide +kernel
theorem dX7_echelon_228 : decode cX7_echelon 228 = .ok (.if_icmp .eq 23, 3) := by decide +kernel
theorem dX7_echelon_231 : decode cX7_echelon 231 = .ok (.aload_n 0, 1) := by decide +kernel
theorem dX7_echelon_232 : decode cX7_echelon 232 = .ok (.getfield 27, 3) := by decide +kernel
theorem dX7_echelon_235 : decode cX7_echelon 235 = .ok (.iload 10, 2) := by decide +kernel
theorem dX7_echelon_237 : decode cX7_echelon 237 = .ok (.laload, 1) := by decide +kernel
theorem dX7_echelon_238 : decode cX7_echelon 238 = .ok (.iload 9, 2) := by decide +kernel
theorem dX7_echelon_240 : decode cX7_echelon 240 = .ok (.invokestatic 44, 3) := by decide +kernel
theorem dX7_echelon_243 : decode cX7_echelon 243 = .ok (.ifCond .eq 8, 3) := by decide +kernel
theorem dX7_echelon_246 : decode cX7_echelon 246 = .ok (.lload 7, 2) := by decide +kernel
theorem dX7_echelon_248 : decode cX7_echelon 248 = .ok (.goto 4, 3) := by decide +kernel
theorem dX7_echelon_251 : decode cX7_echelon 251 = .ok (.lconst 0, 1) := by decide +kernel
theorem dX7_echelon_252 : decode cX7_echelon 252 = .ok (.lxor, 1) := by decide +kernel
theorem dX7_echelon_253 : decode cX7_echelon 253 = .ok (.lastore, 1) := by decide +kernel
theorem dX7_echelon_254 : decode cX7_echelon 254 = .ok (.iinc 10 1, 3) := by decide +kernel
theorem dX7_echelon_257 : decode cX7_echelon 257 = .ok (.goto (-47), 3) := by decide +kernel
theorem dX7_echelon_260 : decode cX7_echelon 260 = .ok (.iinc 4 1, 3) := by decide +kernel
theorem dX7_echelon_263 : decode cX7_echelon 263 = .ok (.goto (-193), 3) := by decide +kernel
theorem dX7_echelon_266 : decode cX7_echelon 266 = .ok (.iconst 0, 1) := by decide +kernel
theorem dX7_echelon_267 : decode cX7_echelon 267 = .ok (.istore 6, 2) := by decide +kernel
theorem dX7_echelon_269 : decode cX7_echelon 269 = .ok (.iconst 0, 1) := by decide +kernel
theorem dX7_echelon_270 : decode cX7_echelon 270 = .ok (.istore 7, 2) := by decide +kernel
theorem dX7_echelon_272 : decode cX7_echelon 272 = .ok (.iload 7, 2) := by decide +kernel
theorem dX7_echelon_274 : decode cX7_echelon 274 = .ok (.bipush 8, 2) := by decide +kernel
theorem dX7_echelon_276 : decode cX7_echelon 276 = .ok (.if_icmp .ge 47, 3) := by decide +kernel
theorem dX7_echelon_279 : decode cX7_echelon 279 = .ok (.iload_n 1, 1) := by decide +kernel
theorem dX7_echelon_280 : decode cX7_echelon 280 = .ok (.iload 7, 2) := by decide +kernel
theorem dX7_echelon_282 : decode cX7_echelon 282 = .ok (.ishr, 1) := by decide +kernel
theorem dX7_echelon_283 : decode cX7_echelon 283 = .ok (.iconst 1, 1) := by decide +kernel
theorem dX7_echelon_284 : decode cX7_echelon 284 = .ok (.iand, 1) := by decide +kernel
theorem dX7_echelon_285 : decode cX7_echelon 285 = .ok (.iconst 1, 1) := by decide +kernel
theorem dX7_echelon_286 : decode cX7_echelon 286 = .ok (.if_icmp .ne 31, 3) := by decide +kernel
theorem dX7_echelon_289 : decode cX7_echelon 289 = .ok (.aload_n 0, 1) := by decide +kernel
theorem dX7_echelon_290 : decode cX7_echelon 290 = .ok (.getfield 13, 3) := by decide +kernel
theorem dX7_echelon_293 : decode cX7_echelon 293 = .ok (.iload 7, 2) := by decide +kernel
theorem dX7_echelon_295 : decode cX7_echelon 295 = .ok (.iload 6, 2) := by decide +kernel
theorem dX7_echelon_297 : decode cX7_echelon 297 = .ok (.iload 4, 2) := by decide +kernel
theorem dX7_echelon_299 : decode cX7_echelon 299 = .ok (.if_icmp .ge 13, 3) := by decide +kernel
theorem dX7_echelon_302 : decode cX7_echelon 302 = .ok (.aload_n 0, 1) := by decide +kernel
theorem dX7_echelon_303 : decode cX7_echelon 303 = .ok (.getfield 27, 3) := by decide +kernel
theorem dX7_echelon_306 : decode cX7_echelon 306 = .ok (.iload 6, 2) := by decide +kernel
theorem dX7_echelon_308 : decode cX7_echelon 308 = .ok (.laload, 1) := by decide +kernel
theorem dX7_echelon_309 : decode cX7_echelon 309 = .ok (.goto 4, 3) := by decide +kernel
theorem dX7_echelon_312 : decode cX7_echelon 312 = .ok (.lconst 0, 1) := by decide +kernel
theorem dX7_echelon_313 : decode cX7_echelon 313 = .ok (.lastore, 1) := by decide +kernel
theorem dX7_echelon_314 : decode cX7_echelon 314 = .ok (.iinc 6 1, 3) := by decide +kernel
theorem dX7_echelon_317 : decode cX7_echelon 317 = .ok (.iinc 7 1, 3) := by decide +kernel
theorem dX7_echelon_320 : decode cX7_echelon 320 = .ok (.goto (-48), 3) := by decide +kernel
theorem dX7_echelon_323 : decode cX7_echelon 323 = .ok (.iload 4, 2) := by decide +kernel
theorem dX7_echelon_325 : decode cX7_echelon 325 = .ok (.ireturn, 1) := by decide +kernel
set_option maxRecDepth 20000 in
theorem ggX7_barred_X7_values : GoodIn wsX7_barred wsX7_values := goodIn_r _ [6, 7, 8, 9, 5, 10, 11, 12, 13, 14, 15, 16, 17, 18, 19] (by decide +kernel) (by decide +kernel)
set_option maxRecDepth 20000 in
theorem gX7_barred_X7_values : GoodIn wsX7_barred (wsV RX7 73 RX7 yX7_values wsX7_values) := goodIn_app (goodIn_of _ (by decide +kernel)) ggX7_barred_X7_values
theorem dX7_barred_0 : decode cX7_barred 0 = .ok (.lconst 0, 1) := by decide +kernel
theorem dX7_barred_1 : decode cX7_barred 1 = .ok (.lstore_n 2, 1) := by decide +kernel
theorem dX7_barred_2 : decode cX7_barred 2 = .ok (.iconst 0, 1) := by decide +kernel
theorem dX7_barred_3 : decode cX7_barred 3 = .ok (.istore 4, 2) := by decide +kernel
theorem dX7_barred_5 : decode cX7_barred 5 = .ok (.iload 4, 2) := by decide +kernel
theorem dX7_barred_7 : decode cX7_barred 7 = .ok (.bipush 8, 2) := by decide +kernel
theorem dX7_barred_9 : decode cX7_barred 9 = .ok (.if_icmp .ge 37, 3) := by decide +kernel
theorem dX7_barred_12 : decode cX7_barred 12 = .ok (.lload_n 2, 1) := by decide +kernel
theorem dX7_barred_13 : decode cX7_barred 13 = .ok (.iload_n 1, 1) := by decide +kernel
theorem dX7_barred_14 : decode cX7_barred 14 = .ok (.iload 4, 2) := by decide +kernel
theorem dX7_barred_16 : decode cX7_barred 16 = .ok (.ishr, 1) := by decide +kernel
theorem dX7_barred_17 : decode cX7_barred 17 = .ok (.iconst 1, 1) := by decide +kernel
theorem dX7_barred_18 : decode cX7_barred 18 = .ok (.iand, 1) := by decide +kernel
theorem dX7_barred_19 : decode cX7_barred 19 = .ok (.iconst 1, 1) := by decide +kernel
theorem dX7_barred_20 : decode cX7_barred 20 = .ok (.if_icmp .ne 17, 3) := by decide +kernel
theorem dX7_barred_23 : decode cX7_barred 23 = .ok (.aload_n 0, 1) := by decide +kernel
theorem dX7_barred_24 : decode cX7_barred 24 = .ok (.aload_n 0, 1) := by decide +kernel
theorem dX7_barred_25 : decode cX7_barred 25 = .ok (.getfield 13, 3) := by decide +kernel
theorem dX7_barred_28 : decode cX7_barred 28 = .ok (.iload 4, 2) := by decide +kernel
theorem dX7_barred_30 : decode cX7_barred 30 = .ok (.laload, 1) := by decide +kernel
theorem dX7_barred_31 : decode cX7_barred 31 = .ok (.invokevirtual 73, 3) := by decide +kernel
theorem dX7_barred_34 : decode cX7_barred 34 = .ok (.goto 4, 3) := by decide +kernel
theorem dX7_barred_37 : decode cX7_barred 37 = .ok (.lconst 0, 1) := by decide +kernel
theorem dX7_barred_38 : decode cX7_barred 38 = .ok (.lor, 1) := by decide +kernel
theorem dX7_barred_39 : decode cX7_barred 39 = .ok (.lstore_n 2, 1) := by decide +kernel
theorem dX7_barred_40 : decode cX7_barred 40 = .ok (.iinc 4 1, 3) := by decide +kernel
theorem dX7_barred_43 : decode cX7_barred 43 = .ok (.goto (-38), 3) := by decide +kernel
theorem dX7_barred_46 : decode cX7_barred 46 = .ok (.lload_n 2, 1) := by decide +kernel
theorem dX7_barred_47 : decode cX7_barred 47 = .ok (.lreturn, 1) := by decide +kernel
set_option maxRecDepth 20000 in
theorem ggX7_zeros_X7_isSet : GoodIn wsX7_zeros wsX7_isSet := goodIn_r _ [5, 6, 7, 4, 8] (by decide +kernel) (by decide +kernel)
set_option maxRecDepth 20000 in
theorem gX7_zeros_X7_isSet : GoodIn wsX7_zeros (va_wsS RX7 101 yX7_isSet wsX7_isSet) := goodIn_app (goodIn_of _ (by decide +kernel)) ggX7_zeros_X7_isSet
set_option maxRecDepth 20000 in
theorem ggX7_zeros_X7_barred : GoodIn wsX7_zeros wsX7_barred := goodIn_r _ [12, 13, 14, 15, 16, 4, 17, 1, 18, 19, 20, 24, 25, 26, 27, 28, 29, 30, 31, 32] (by decide +kernel) (by decide +kernel)
set_option maxRecDepth 20000 in
theorem gX7_zeros_X7_barred : GoodIn wsX7_zeros (wsV RX7 110 RX7 yX7_barred wsX7_barred) := goodIn_app (goodIn_of _ (by decide +kernel)) ggX7_zeros_X7_barred
set_option maxRecDepth 20000 in
theorem ggX7_zeros_X7_many : GoodIn wsX7_zeros wsX7_many := goodIn_r _ [23] (by decide +kernel) (by decide +kernel)
set_option maxRecDepth 20000 in
theorem gX7_zeros_X7_many : GoodIn wsX7_zeros (va_wsS RX7 40 yX7_many wsX7_many) := goodIn_app (goodIn_of _ (by decide +kernel)) ggX7_zeros_X7_many
theorem dX7_zeros_0 : decode cX7_zeros 0 = .ok (.iload_n 1, 1) := by decide +kernel
theorem dX7_zeros_1 : decode cX7_zeros 1 = .ok (.invokestatic 101, 3) := by decide +kernel
theorem dX7_zeros_4 : decode cX7_zeros 4 = .ok (.ifCond .eq 21, 3) := by decide +kernel
theorem dX7_zeros_7 : decode cX7_zeros 7 = .ok (.iconst 1, 1) := by decide +kernel
theorem dX7_zeros_8 : decode cX7_zeros 8 = .ok (.aload_n 0, 1) := by decide +kernel
theorem dX7_zeros_9 : decode cX7_zeros 9 = .ok (.getfield 7, 3) := by decide +kernel
theorem dX7_zeros_12 : decode cX7_zeros 12 = .ok (.ishl, 1) := by decide +kernel
theorem dX7_zeros_13 : decode cX7_zeros 13 = .ok (.aload_n 0, 1) := by decide +kernel
theorem dX7_zeros_14 : decode cX7_zeros 14 = .ok (.iload_n 1, 1) := by decide +kernel
theorem dX7_zeros_15 : decode cX7_zeros 15 = .ok (.invokevirtual 110, 3) := by decide +kernel
theorem dX7_zeros_18 : decode cX7_zeros 18 = .ok (.invokestatic 40, 3) := by decide +kernel
theorem dX7_zeros_21 : decode cX7_zeros 21 = .ok (.isub, 1) := by decide +kernel
theorem dX7_zeros_22 : decode cX7_zeros 22 = .ok (.goto 4, 3) := by decide +kernel
theorem dX7_zeros_25 : decode cX7_zeros 25 = .ok (.iconst (-1), 1) := by decide +kernel
theorem dX7_zeros_26 : decode cX7_zeros 26 = .ok (.ireturn, 1) := by decide +kernel
set_option maxRecDepth 20000 in
theorem ggX7_zeroAt_X7_isSet : GoodIn wsX7_zeroAt wsX7_isSet := goodIn_r _ [5, 6, 7, 4, 8] (by decide +kernel) (by decide +kernel)
set_option maxRecDepth 20000 in
theorem gX7_zeroAt_X7_isSet : GoodIn wsX7_zeroAt (va_wsS RX7 101 yX7_isSet wsX7_isSet) := goodIn_app (goodIn_of _ (by decide +kernel)) ggX7_zeroAt_X7_isSet
set_option maxRecDepth 20000 in
theorem ggX7_zeroAt_X7_barred : GoodIn wsX7_zeroAt wsX7_barred := goodIn_r _ [12, 13, 14, 15, 16, 4, 17, 1, 18, 19, 20, 21, 22, 23, 24, 25, 26, 27, 28, 29] (by decide +kernel) (by decide +kernel)
set_option maxRecDepth 20000 in
theorem gX7_zeroAt_X7_barred : GoodIn wsX7_zeroAt (wsV RX7 110 RX7 yX7_barred wsX7_barred) := goodIn_app (goodIn_of _ (by decide +kernel)) ggX7_zeroAt_X7_barred
set_option maxRecDepth 20000 in
theorem ggX7_zeroAt_X7_has1 : GoodIn wsX7_zeroAt wsX7_has1 := goodIn_r _ [20] (by decide +kernel) (by decide +kernel)
set_option maxRecDepth 20000 in
theorem gX7_zeroAt_X7_has1 : GoodIn wsX7_zeroAt (va_wsS RX7 44 yX7_has1 wsX7_has1) := goodIn_app (goodIn_of _ (by decide +kernel)) ggX7_zeroAt_X7_has1
theorem dX7_zeroAt_0 : decode cX7_zeroAt 0 = .ok (.iload_n 1, 1) := by decide +kernel
theorem dX7_zeroAt_1 : decode cX7_zeroAt 1 = .ok (.invokestatic 101, 3) := by decide +kernel
theorem dX7_zeroAt_4 : decode cX7_zeroAt 4 = .ok (.ifCond .eq 7, 3) := by decide +kernel
theorem dX7_zeroAt_7 : decode cX7_zeroAt 7 = .ok (.iload_n 2, 1) := by decide +kernel
theorem dX7_zeroAt_8 : decode cX7_zeroAt 8 = .ok (.ifCond .ge 5, 3) := by decide +kernel
theorem dX7_zeroAt_11 : decode cX7_zeroAt 11 = .ok (.iconst (-1), 1) := by decide +kernel
theorem dX7_zeroAt_12 : decode cX7_zeroAt 12 = .ok (.ireturn, 1) := by decide +kernel
theorem dX7_zeroAt_13 : decode cX7_zeroAt 13 = .ok (.aload_n 0, 1) := by decide +kernel
theorem dX7_zeroAt_14 : decode cX7_zeroAt 14 = .ok (.iload_n 1, 1) := by decide +kernel
theorem dX7_zeroAt_15 : decode cX7_zeroAt 15 = .ok (.invokevirtual 110, 3) := by decide +kernel
theorem dX7_zeroAt_18 : decode cX7_zeroAt 18 = .ok (.lstore_n 3, 1) := by decide +kernel
theorem dX7_zeroAt_19 : decode cX7_zeroAt 19 = .ok (.iload_n 2, 1) := by decide +kernel
theorem dX7_zeroAt_20 : decode cX7_zeroAt 20 = .ok (.istore 5, 2) := by decide +kernel
theorem dX7_zeroAt_22 : decode cX7_zeroAt 22 = .ok (.iconst 0, 1) := by decide +kernel
theorem dX7_zeroAt_23 : decode cX7_zeroAt 23 = .ok (.istore 6, 2) := by decide +kernel
theorem dX7_zeroAt_25 : decode cX7_zeroAt 25 = .ok (.iload 6, 2) := by decide +kernel
theorem dX7_zeroAt_27 : decode cX7_zeroAt 27 = .ok (.iconst 1, 1) := by decide +kernel
theorem dX7_zeroAt_28 : decode cX7_zeroAt 28 = .ok (.aload_n 0, 1) := by decide +kernel
theorem dX7_zeroAt_29 : decode cX7_zeroAt 29 = .ok (.getfield 7, 3) := by decide +kernel
theorem dX7_zeroAt_32 : decode cX7_zeroAt 32 = .ok (.ishl, 1) := by decide +kernel
theorem dX7_zeroAt_33 : decode cX7_zeroAt 33 = .ok (.if_icmp .ge 29, 3) := by decide +kernel
theorem dX7_zeroAt_36 : decode cX7_zeroAt 36 = .ok (.lload_n 3, 1) := by decide +kernel
theorem dX7_zeroAt_37 : decode cX7_zeroAt 37 = .ok (.iload 6, 2) := by decide +kernel
theorem dX7_zeroAt_39 : decode cX7_zeroAt 39 = .ok (.invokestatic 44, 3) := by decide +kernel
theorem dX7_zeroAt_42 : decode cX7_zeroAt 42 = .ok (.ifCond .ne 14, 3) := by decide +kernel
theorem dX7_zeroAt_45 : decode cX7_zeroAt 45 = .ok (.iload 5, 2) := by decide +kernel
theorem dX7_zeroAt_47 : decode cX7_zeroAt 47 = .ok (.ifCond .ne 6, 3) := by decide +kernel
theorem dX7_zeroAt_50 : decode cX7_zeroAt 50 = .ok (.iload 6, 2) := by decide +kernel
theorem dX7_zeroAt_52 : decode cX7_zeroAt 52 = .ok (.ireturn, 1) := by decide +kernel
theorem dX7_zeroAt_53 : decode cX7_zeroAt 53 = .ok (.iinc 5 (-1), 3) := by decide +kernel
theorem dX7_zeroAt_56 : decode cX7_zeroAt 56 = .ok (.iinc 6 1, 3) := by decide +kernel
theorem dX7_zeroAt_59 : decode cX7_zeroAt 59 = .ok (.goto (-34), 3) := by decide +kernel
theorem dX7_zeroAt_62 : decode cX7_zeroAt 62 = .ok (.bipush (-4), 2) := by decide +kernel
theorem dX7_zeroAt_64 : decode cX7_zeroAt 64 = .ok (.ireturn, 1) := by decide +kernel
set_option maxRecDepth 20000 in
theorem ggX7_combine_X7_isSet : GoodIn wsX7_combine wsX7_isSet := goodIn_r _ [4, 5, 6, 3, 7] (by decide +kernel) (by decide +kernel)
set_option maxRecDepth 20000 in
theorem gX7_combine_X7_isSet : GoodIn wsX7_combine (va_wsS RX7 101 yX7_isSet wsX7_isSet) := goodIn_app (goodIn_of _ (by decide +kernel)) ggX7_combine_X7_isSet
set_option maxRecDepth 20000 in
theorem ggX7_combine_X7_isRegister : GoodIn wsX7_combine wsX7_isRegister := goodIn_r _ [10, 5, 6, 3, 7] (by decide +kernel) (by decide +kernel)
set_option maxRecDepth 20000 in
theorem gX7_combine_X7_isRegister : GoodIn wsX7_combine (va_wsS RX7 48 yX7_isRegister wsX7_isRegister) := goodIn_app (goodIn_of _ (by decide +kernel)) ggX7_combine_X7_isRegister
set_option maxRecDepth 20000 in
theorem ggX7_combine_X7_barred : GoodIn wsX7_combine wsX7_barred := goodIn_r _ [14, 15, 16, 17, 18, 3, 19, 20, 21, 22, 23, 37, 38, 39, 40, 41, 42, 43, 44, 45] (by decide +kernel) (by decide +kernel)
set_option maxRecDepth 20000 in
theorem gX7_combine_X7_barred : GoodIn wsX7_combine (wsV RX7 110 RX7 yX7_barred wsX7_barred) := goodIn_app (goodIn_of _ (by decide +kernel)) ggX7_combine_X7_barred
set_option maxRecDepth 20000 in
theorem ggX7_combine_X7_values : GoodIn wsX7_combine wsX7_values := goodIn_r _ [19, 20, 21, 22, 3, 23, 37, 38, 39, 40, 41, 42, 43, 44, 45] (by decide +kernel) (by decide +kernel)
set_option maxRecDepth 20000 in
theorem gX7_combine_X7_values : GoodIn wsX7_combine (wsV RX7 73 RX7 yX7_values wsX7_values) := goodIn_app (goodIn_of _ (by decide +kernel)) ggX7_combine_X7_values
set_option maxRecDepth 20000 in
theorem ggX7_combine_X7_gets : GoodIn wsX7_combine wsX7_gets := goodIn_r _ [27, 15, 28, 29, 30, 3, 31, 32, 33, 34, 35, 36, 37, 38, 39, 40, 41, 42, 43, 44, 45] (by decide +kernel) (by decide +kernel)
set_option maxRecDepth 20000 in
theorem gX7_combine_X7_gets : GoodIn wsX7_combine (wsV RX7 55 RX7 yX7_gets wsX7_gets) := goodIn_app (goodIn_of _ (by decide +kernel)) ggX7_combine_X7_gets
theorem dX7_combine_0 : decode cX7_combine 0 = .ok (.iload_n 1, 1) := by decide +kernel
theorem dX7_combine_1 : decode cX7_combine 1 = .ok (.invokestatic 101, 3) := by decide +kernel
theorem dX7_combine_4 : decode cX7_combine 4 = .ok (.ifCond .eq 27, 3) := by decide +kernel
theorem dX7_combine_7 : decode cX7_combine 7 = .ok (.iload_n 2, 1) := by decide +kernel
theorem dX7_combine_8 : decode cX7_combine 8 = .ok (.invokestatic 48, 3) := by decide +kernel
theorem dX7_combine_11 : decode cX7_combine 11 = .ok (.ifCond .eq 20, 3) := by decide +kernel
theorem dX7_combine_14 : decode cX7_combine 14 = .ok (.aload_n 0, 1) := by decide +kernel
theorem dX7_combine_15 : decode cX7_combine 15 = .ok (.iload_n 2, 1) := by decide +kernel
theorem dX7_combine_16 : decode cX7_combine 16 = .ok (.aload_n 0, 1) := by decide +kernel
theorem dX7_combine_17 : decode cX7_combine 17 = .ok (.aload_n 0, 1) := by decide +kernel
theorem dX7_combine_18 : decode cX7_combine 18 = .ok (.iload_n 1, 1) := by decide +kernel
theorem dX7_combine_19 : decode cX7_combine 19 = .ok (.invokevirtual 110, 3) := by decide +kernel
theorem dX7_combine_22 : decode cX7_combine 22 = .ok (.invokevirtual 73, 3) := by decide +kernel
theorem dX7_combine_25 : decode cX7_combine 25 = .ok (.invokevirtual 55, 3) := by decide +kernel
theorem dX7_combine_28 : decode cX7_combine 28 = .ok (.goto 4, 3) := by decide +kernel
theorem dX7_combine_31 : decode cX7_combine 31 = .ok (.iconst (-1), 1) := by decide +kernel
theorem dX7_combine_32 : decode cX7_combine 32 = .ok (.ireturn, 1) := by decide +kernel
set_option maxRecDepth 20000 in
theorem ggX7_eliminate_X7_isSet : GoodIn wsX7_eliminate wsX7_isSet := goodIn_r _ [5, 6, 7, 4, 8] (by decide +kernel) (by decide +kernel)
set_option maxRecDepth 20000 in
theorem gX7_eliminate_X7_isSet : GoodIn wsX7_eliminate (va_wsS RX7 101 yX7_isSet wsX7_isSet) := goodIn_app (goodIn_of _ (by decide +kernel)) ggX7_eliminate_X7_isSet
set_option maxRecDepth 20000 in
theorem ggX7_eliminate_X7_isVariable : GoodIn wsX7_eliminate wsX7_isVariable := goodIn_r _ [12, 1, 6, 7, 4, 8, 41, 42, 43, 44, 45, 46, 47, 48, 49] (by decide +kernel) (by decide +kernel)
set_option maxRecDepth 20000 in
theorem gX7_eliminate_X7_isVariable : GoodIn wsX7_eliminate (wsV RX7 63 RX7 yX7_isVariable wsX7_isVariable) := goodIn_app (goodIn_of _ (by decide +kernel)) ggX7_eliminate_X7_isVariable
set_option maxRecDepth 20000 in
theorem ggX7_eliminate_X7_isRegister : GoodIn wsX7_eliminate wsX7_isRegister := goodIn_r _ [15, 6, 7, 4, 8] (by decide +kernel) (by decide +kernel)
set_option maxRecDepth 20000 in
theorem gX7_eliminate_X7_isRegister : GoodIn wsX7_eliminate (va_wsS RX7 48 yX7_isRegister wsX7_isRegister) := goodIn_app (goodIn_of _ (by decide +kernel)) ggX7_eliminate_X7_isRegister
set_option maxRecDepth 20000 in
theorem ggX7_eliminate_X7_barred : GoodIn wsX7_eliminate wsX7_barred := goodIn_r _ [19, 20, 21, 22, 23, 4, 24, 1, 25, 26, 27, 41, 42, 43, 44, 45, 46, 47, 48, 49] (by decide +kernel) (by decide +kernel)
set_option maxRecDepth 20000 in
theorem gX7_eliminate_X7_barred : GoodIn wsX7_eliminate (wsV RX7 110 RX7 yX7_barred wsX7_barred) := goodIn_app (goodIn_of _ (by decide +kernel)) ggX7_eliminate_X7_barred
set_option maxRecDepth 20000 in
theorem ggX7_eliminate_X7_has1 : GoodIn wsX7_eliminate wsX7_has1 := goodIn_r _ [27] (by decide +kernel) (by decide +kernel)
set_option maxRecDepth 20000 in
theorem gX7_eliminate_X7_has1 : GoodIn wsX7_eliminate (va_wsS RX7 44 yX7_has1 wsX7_has1) := goodIn_app (goodIn_of _ (by decide +kernel)) ggX7_eliminate_X7_has1
set_option maxRecDepth 20000 in
theorem ggX7_eliminate_X7_values : GoodIn wsX7_eliminate wsX7_values := goodIn_r _ [24, 1, 25, 26, 4, 27, 41, 42, 43, 44, 45, 46, 47, 48, 49] (by decide +kernel) (by decide +kernel)
set_option maxRecDepth 20000 in
theorem gX7_eliminate_X7_values : GoodIn wsX7_eliminate (wsV RX7 73 RX7 yX7_values wsX7_values) := goodIn_app (goodIn_of _ (by decide +kernel)) ggX7_eliminate_X7_values
set_option maxRecDepth 20000 in
theorem ggX7_eliminate_X7_gets : GoodIn wsX7_eliminate wsX7_gets := goodIn_r _ [31, 20, 32, 33, 34, 4, 35, 36, 37, 38, 39, 40, 41, 42, 43, 44, 45, 46, 47, 48, 49] (by decide +kernel) (by decide +kernel)
set_option maxRecDepth 20000 in
theorem gX7_eliminate_X7_gets : GoodIn wsX7_eliminate (wsV RX7 55 RX7 yX7_gets wsX7_gets) := goodIn_app (goodIn_of _ (by decide +kernel)) ggX7_eliminate_X7_gets
theorem dX7_eliminate_0 : decode cX7_eliminate 0 = .ok (.iload_n 1, 1) := by decide +kernel
theorem dX7_eliminate_1 : decode cX7_eliminate 1 = .ok (.invokestatic 101, 3) := by decide +kernel
theorem dX7_eliminate_4 : decode cX7_eliminate 4 = .ok (.ifCond .eq 18, 3) := by decide +kernel
theorem dX7_eliminate_7 : decode cX7_eliminate 7 = .ok (.aload_n 0, 1) := by decide +kernel
theorem dX7_eliminate_8 : decode cX7_eliminate 8 = .ok (.iload_n 2, 1) := by decide +kernel
theorem dX7_eliminate_9 : decode cX7_eliminate 9 = .ok (.invokevirtual 63, 3) := by decide +kernel
theorem dX7_eliminate_12 : decode cX7_eliminate 12 = .ok (.ifCond .eq 10, 3) := by decide +kernel
theorem dX7_eliminate_15 : decode cX7_eliminate 15 = .ok (.iload_n 3, 1) := by decide +kernel
theorem dX7_eliminate_16 : decode cX7_eliminate 16 = .ok (.invokestatic 48, 3) := by decide +kernel
theorem dX7_eliminate_19 : decode cX7_eliminate 19 = .ok (.ifCond .ne 5, 3) := by decide +kernel
theorem dX7_eliminate_22 : decode cX7_eliminate 22 = .ok (.iconst (-1), 1) := by decide +kernel
theorem dX7_eliminate_23 : decode cX7_eliminate 23 = .ok (.ireturn, 1) := by decide +kernel
theorem dX7_eliminate_24 : decode cX7_eliminate 24 = .ok (.aload_n 0, 1) := by decide +kernel
theorem dX7_eliminate_25 : decode cX7_eliminate 25 = .ok (.iload_n 1, 1) := by decide +kernel
theorem dX7_eliminate_26 : decode cX7_eliminate 26 = .ok (.invokevirtual 110, 3) := by decide +kernel
theorem dX7_eliminate_29 : decode cX7_eliminate 29 = .ok (.lstore 4, 2) := by decide +kernel
theorem dX7_eliminate_31 : decode cX7_eliminate 31 = .ok (.lconst 0, 1) := by decide +kernel
theorem dX7_eliminate_32 : decode cX7_eliminate 32 = .ok (.lstore 6, 2) := by decide +kernel
theorem dX7_eliminate_34 : decode cX7_eliminate 34 = .ok (.iconst 0, 1) := by decide +kernel
theorem dX7_eliminate_35 : decode cX7_eliminate 35 = .ok (.istore 8, 2) := by decide +kernel
theorem dX7_eliminate_37 : decode cX7_eliminate 37 = .ok (.iload 8, 2) := by decide +kernel
theorem dX7_eliminate_39 : decode cX7_eliminate 39 = .ok (.iconst 1, 1) := by decide +kernel
theorem dX7_eliminate_40 : decode cX7_eliminate 40 = .ok (.aload_n 0, 1) := by decide +kernel
theorem dX7_eliminate_41 : decode cX7_eliminate 41 = .ok (.getfield 7, 3) := by decide +kernel
theorem dX7_eliminate_44 : decode cX7_eliminate 44 = .ok (.ishl, 1) := by decide +kernel
theorem dX7_eliminate_45 : decode cX7_eliminate 45 = .ok (.if_icmp .ge 46, 3) := by decide +kernel
theorem dX7_eliminate_48 : decode cX7_eliminate 48 = .ok (.lload 6, 2) := by decide +kernel
theorem dX7_eliminate_50 : decode cX7_eliminate 50 = .ok (.lload 4, 2) := by decide +kernel
theorem dX7_eliminate_52 : decode cX7_eliminate 52 = .ok (.iload 8, 2) := by decide +kernel
theorem dX7_eliminate_54 : decode cX7_eliminate 54 = .ok (.invokestatic 44, 3) := by decide +kernel
theorem dX7_eliminate_57 : decode cX7_eliminate 57 = .ok (.ifCond .eq 24, 3) := by decide +kernel
theorem dX7_eliminate_60 : decode cX7_eliminate 60 = .ok (.lload 4, 2) := by decide +kernel
theorem dX7_eliminate_62 : decode cX7_eliminate 62 = .ok (.iload 8, 2) := by decide +kernel
theorem dX7_eliminate_64 : decode cX7_eliminate 64 = .ok (.iconst 1, 1) := by decide +kernel
theorem dX7_eliminate_65 : decode cX7_eliminate 65 = .ok (.iload_n 2, 1) := by decide +kernel
theorem dX7_eliminate_66 : decode cX7_eliminate 66 = .ok (.ishl, 1) := by decide +kernel
theorem dX7_eliminate_67 : decode cX7_eliminate 67 = .ok (.ixor, 1) := by decide +kernel
theorem dX7_eliminate_68 : decode cX7_eliminate 68 = .ok (.invokestatic 44, 3) := by decide +kernel
theorem dX7_eliminate_71 : decode cX7_eliminate 71 = .ok (.ifCond .eq 10, 3) := by decide +kernel
theorem dX7_eliminate_74 : decode cX7_eliminate 74 = .ok (.lconst 1, 1) := by decide +kernel
theorem dX7_eliminate_75 : decode cX7_eliminate 75 = .ok (.iload 8, 2) := by decide +kernel
theorem dX7_eliminate_77 : decode cX7_eliminate 77 = .ok (.lshl, 1) := by decide +kernel
theorem dX7_eliminate_78 : decode cX7_eliminate 78 = .ok (.goto 4, 3) := by decide +kernel
theorem dX7_eliminate_81 : decode cX7_eliminate 81 = .ok (.lconst 0, 1) := by decide +kernel
theorem dX7_eliminate_82 : decode cX7_eliminate 82 = .ok (.lor, 1) := by decide +kernel
theorem dX7_eliminate_83 : decode cX7_eliminate 83 = .ok (.lstore 6, 2) := by decide +kernel
theorem dX7_eliminate_85 : decode cX7_eliminate 85 = .ok (.iinc 8 1, 3) := by decide +kernel
theorem dX7_eliminate_88 : decode cX7_eliminate 88 = .ok (.goto (-51), 3) := by decide +kernel
theorem dX7_eliminate_91 : decode cX7_eliminate 91 = .ok (.aload_n 0, 1) := by decide +kernel
theorem dX7_eliminate_92 : decode cX7_eliminate 92 = .ok (.iload_n 3, 1) := by decide +kernel
theorem dX7_eliminate_93 : decode cX7_eliminate 93 = .ok (.aload_n 0, 1) := by decide +kernel
theorem dX7_eliminate_94 : decode cX7_eliminate 94 = .ok (.lload 6, 2) := by decide +kernel
theorem dX7_eliminate_96 : decode cX7_eliminate 96 = .ok (.invokevirtual 73, 3) := by decide +kernel
theorem dX7_eliminate_99 : decode cX7_eliminate 99 = .ok (.invokevirtual 55, 3) := by decide +kernel
theorem dX7_eliminate_102 : decode cX7_eliminate 102 = .ok (.ireturn, 1) := by decide +kernel
set_option maxRecDepth 20000 in
theorem ggX7_fibres_X7_isSet : GoodIn wsX7_fibres wsX7_isSet := goodIn_r _ [5, 6, 7, 4, 8] (by decide +kernel) (by decide +kernel)
set_option maxRecDepth 20000 in
theorem gX7_fibres_X7_isSet : GoodIn wsX7_fibres (va_wsS RX7 101 yX7_isSet wsX7_isSet) := goodIn_app (goodIn_of _ (by decide +kernel)) ggX7_fibres_X7_isSet
set_option maxRecDepth 20000 in
theorem ggX7_fibres_X7_isVariable : GoodIn wsX7_fibres wsX7_isVariable := goodIn_r _ [12, 1, 6, 7, 4, 8, 25, 26, 27, 28, 29, 30, 31, 32, 33] (by decide +kernel) (by decide +kernel)
set_option maxRecDepth 20000 in
theorem gX7_fibres_X7_isVariable : GoodIn wsX7_fibres (wsV RX7 63 RX7 yX7_isVariable wsX7_isVariable) := goodIn_app (goodIn_of _ (by decide +kernel)) ggX7_fibres_X7_isVariable
set_option maxRecDepth 20000 in
theorem ggX7_fibres_X7_in : GoodIn wsX7_fibres wsX7_in := goodIn_r _ [8] (by decide +kernel) (by decide +kernel)
set_option maxRecDepth 20000 in
theorem gX7_fibres_X7_in : GoodIn wsX7_fibres (va_wsS RX7 30 yX7_in wsX7_in) := goodIn_app (goodIn_of _ (by decide +kernel)) ggX7_fibres_X7_in
set_option maxRecDepth 20000 in
theorem ggX7_fibres_X7_barred : GoodIn wsX7_fibres wsX7_barred := goodIn_r _ [16, 17, 18, 19, 20, 4, 21, 1, 22, 23, 24, 25, 26, 27, 28, 29, 30, 31, 32, 33] (by decide +kernel) (by decide +kernel)
set_option maxRecDepth 20000 in
theorem gX7_fibres_X7_barred : GoodIn wsX7_fibres (wsV RX7 110 RX7 yX7_barred wsX7_barred) := goodIn_app (goodIn_of _ (by decide +kernel)) ggX7_fibres_X7_barred
set_option maxRecDepth 20000 in
theorem ggX7_fibres_X7_has1 : GoodIn wsX7_fibres wsX7_has1 := goodIn_r _ [24] (by decide +kernel) (by decide +kernel)
set_option maxRecDepth 20000 in
theorem gX7_fibres_X7_has1 : GoodIn wsX7_fibres (va_wsS RX7 44 yX7_has1 wsX7_has1) := goodIn_app (goodIn_of _ (by decide +kernel)) ggX7_fibres_X7_has1
theorem dX7_fibres_0 : decode cX7_fibres 0 = .ok (.iload_n 1, 1) := by decide +kernel
theorem dX7_fibres_1 : decode cX7_fibres 1 = .ok (.invokestatic 101, 3) := by decide +kernel
theorem dX7_fibres_4 : decode cX7_fibres 4 = .ok (.ifCond .eq 20, 3) := by decide +kernel
theorem dX7_fibres_7 : decode cX7_fibres 7 = .ok (.aload_n 0, 1) := by decide +kernel
theorem dX7_fibres_8 : decode cX7_fibres 8 = .ok (.iload_n 2, 1) := by decide +kernel
theorem dX7_fibres_9 : decode cX7_fibres 9 = .ok (.invokevirtual 63, 3) := by decide +kernel
theorem dX7_fibres_12 : decode cX7_fibres 12 = .ok (.ifCond .eq 12, 3) := by decide +kernel
theorem dX7_fibres_15 : decode cX7_fibres 15 = .ok (.iload_n 3, 1) := by decide +kernel
theorem dX7_fibres_16 : decode cX7_fibres 16 = .ok (.iconst 0, 1) := by decide +kernel
theorem dX7_fibres_17 : decode cX7_fibres 17 = .ok (.iconst 2, 1) := by decide +kernel
theorem dX7_fibres_18 : decode cX7_fibres 18 = .ok (.invokestatic 30, 3) := by decide +kernel
theorem dX7_fibres_21 : decode cX7_fibres 21 = .ok (.ifCond .ne 5, 3) := by decide +kernel
theorem dX7_fibres_24 : decode cX7_fibres 24 = .ok (.iconst (-1), 1) := by decide +kernel
theorem dX7_fibres_25 : decode cX7_fibres 25 = .ok (.ireturn, 1) := by decide +kernel
theorem dX7_fibres_26 : decode cX7_fibres 26 = .ok (.aload_n 0, 1) := by decide +kernel
theorem dX7_fibres_27 : decode cX7_fibres 27 = .ok (.iload_n 1, 1) := by decide +kernel
theorem dX7_fibres_28 : decode cX7_fibres 28 = .ok (.invokevirtual 110, 3) := by decide +kernel
theorem dX7_fibres_31 : decode cX7_fibres 31 = .ok (.lstore 4, 2) := by decide +kernel
theorem dX7_fibres_33 : decode cX7_fibres 33 = .ok (.iconst 0, 1) := by decide +kernel
theorem dX7_fibres_34 : decode cX7_fibres 34 = .ok (.istore 6, 2) := by decide +kernel
theorem dX7_fibres_36 : decode cX7_fibres 36 = .ok (.iconst 0, 1) := by decide +kernel
theorem dX7_fibres_37 : decode cX7_fibres 37 = .ok (.istore 7, 2) := by decide +kernel
theorem dX7_fibres_39 : decode cX7_fibres 39 = .ok (.iload 7, 2) := by decide +kernel
theorem dX7_fibres_41 : decode cX7_fibres 41 = .ok (.iconst 1, 1) := by decide +kernel
theorem dX7_fibres_42 : decode cX7_fibres 42 = .ok (.aload_n 0, 1) := by decide +kernel
theorem dX7_fibres_43 : decode cX7_fibres 43 = .ok (.getfield 7, 3) := by decide +kernel
theorem dX7_fibres_46 : decode cX7_fibres 46 = .ok (.ishl, 1) := by decide +kernel
theorem dX7_fibres_47 : decode cX7_fibres 47 = .ok (.if_icmp .ge 71, 3) := by decide +kernel
theorem dX7_fibres_50 : decode cX7_fibres 50 = .ok (.lload 4, 2) := by decide +kernel
theorem dX7_fibres_52 : decode cX7_fibres 52 = .ok (.iload 7, 2) := by decide +kernel
theorem dX7_fibres_54 : decode cX7_fibres 54 = .ok (.invokestatic 44, 3) := by decide +kernel
theorem dX7_fibres_57 : decode cX7_fibres 57 = .ok (.ifCond .eq 7, 3) := by decide +kernel
theorem dX7_fibres_60 : decode cX7_fibres 60 = .ok (.iconst 0, 1) := by decide +kernel
theorem dX7_fibres_61 : decode cX7_fibres 61 = .ok (.goto 4, 3) := by decide +kernel
theorem dX7_fibres_64 : decode cX7_fibres 64 = .ok (.iconst 1, 1) := by decide +kernel
theorem dX7_fibres_65 : decode cX7_fibres 65 = .ok (.lload 4, 2) := by decide +kernel
theorem dX7_fibres_67 : decode cX7_fibres 67 = .ok (.iload 7, 2) := by decide +kernel
theorem dX7_fibres_69 : decode cX7_fibres 69 = .ok (.iconst 1, 1) := by decide +kernel
theorem dX7_fibres_70 : decode cX7_fibres 70 = .ok (.iload_n 2, 1) := by decide +kernel
theorem dX7_fibres_71 : decode cX7_fibres 71 = .ok (.ishl, 1) := by decide +kernel
theorem dX7_fibres_72 : decode cX7_fibres 72 = .ok (.ixor, 1) := by decide +kernel
theorem dX7_fibres_73 : decode cX7_fibres 73 = .ok (.invokestatic 44, 3) := by decide +kernel
theorem dX7_fibres_76 : decode cX7_fibres 76 = .ok (.ifCond .eq 7, 3) := by decide +kernel
theorem dX7_fibres_79 : decode cX7_fibres 79 = .ok (.iconst 0, 1) := by decide +kernel
theorem dX7_fibres_80 : decode cX7_fibres 80 = .ok (.goto 4, 3) := by decide +kernel
theorem dX7_fibres_83 : decode cX7_fibres 83 = .ok (.iconst 1, 1) := by decide +kernel
theorem dX7_fibres_84 : decode cX7_fibres 84 = .ok (.iadd, 1) := by decide +kernel
theorem dX7_fibres_85 : decode cX7_fibres 85 = .ok (.istore 8, 2) := by decide +kernel
theorem dX7_fibres_87 : decode cX7_fibres 87 = .ok (.iload 6, 2) := by decide +kernel
theorem dX7_fibres_89 : decode cX7_fibres 89 = .ok (.iload 7, 2) := by decide +kernel
theorem dX7_fibres_91 : decode cX7_fibres 91 = .ok (.iload_n 2, 1) := by decide +kernel
theorem dX7_fibres_92 : decode cX7_fibres 92 = .ok (.ishr, 1) := by decide +kernel
theorem dX7_fibres_93 : decode cX7_fibres 93 = .ok (.iconst 1, 1) := by decide +kernel
theorem dX7_fibres_94 : decode cX7_fibres 94 = .ok (.iand, 1) := by decide +kernel
theorem dX7_fibres_95 : decode cX7_fibres 95 = .ok (.ifCond .ne 13, 3) := by decide +kernel
theorem dX7_fibres_98 : decode cX7_fibres 98 = .ok (.iload 8, 2) := by decide +kernel
theorem dX7_fibres_100 : decode cX7_fibres 100 = .ok (.iload_n 3, 1) := by decide +kernel
theorem dX7_fibres_101 : decode cX7_fibres 101 = .ok (.if_icmp .ne 7, 3) := by decide +kernel
theorem dX7_fibres_104 : decode cX7_fibres 104 = .ok (.iconst 1, 1) := by decide +kernel
theorem dX7_fibres_105 : decode cX7_fibres 105 = .ok (.goto 4, 3) := by decide +kernel
theorem dX7_fibres_108 : decode cX7_fibres 108 = .ok (.iconst 0, 1) := by decide +kernel
theorem dX7_fibres_109 : decode cX7_fibres 109 = .ok (.iadd, 1) := by decide +kernel
theorem dX7_fibres_110 : decode cX7_fibres 110 = .ok (.istore 6, 2) := by decide +kernel
theorem dX7_fibres_112 : decode cX7_fibres 112 = .ok (.iinc 7 1, 3) := by decide +kernel
theorem dX7_fibres_115 : decode cX7_fibres 115 = .ok (.goto (-76), 3) := by decide +kernel
theorem dX7_fibres_118 : decode cX7_fibres 118 = .ok (.iload 6, 2) := by decide +kernel
theorem dX7_fibres_120 : decode cX7_fibres 120 = .ok (.ireturn, 1) := by decide +kernel
set_option maxRecDepth 20000 in
theorem ggX7_isMember_X7_isRegister : GoodIn wsX7_isMember wsX7_isRegister := goodIn_r _ [6, 7, 8, 5, 9] (by decide +kernel) (by decide +kernel)
set_option maxRecDepth 20000 in
theorem gX7_isMember_X7_isRegister : GoodIn wsX7_isMember (va_wsS RX7 48 yX7_isRegister wsX7_isRegister) := goodIn_app (goodIn_of _ (by decide +kernel)) ggX7_isMember_X7_isRegister
set_option maxRecDepth 20000 in
theorem ggX7_isMember_X7_isSet : GoodIn wsX7_isMember wsX7_isSet := goodIn_r _ [12, 7, 8, 5, 9] (by decide +kernel) (by decide +kernel)
set_option maxRecDepth 20000 in
theorem gX7_isMember_X7_isSet : GoodIn wsX7_isMember (va_wsS RX7 101 yX7_isSet wsX7_isSet) := goodIn_app (goodIn_of _ (by decide +kernel)) ggX7_isMember_X7_isSet
set_option maxRecDepth 20000 in
theorem ggX7_isMember_X7_values : GoodIn wsX7_isMember wsX7_values := goodIn_r _ [16, 17, 18, 19, 5, 20, 25, 26, 27, 28, 29, 30, 31, 32, 33] (by decide +kernel) (by decide +kernel)
set_option maxRecDepth 20000 in
theorem gX7_isMember_X7_values : GoodIn wsX7_isMember (wsV RX7 73 RX7 yX7_values wsX7_values) := goodIn_app (goodIn_of _ (by decide +kernel)) ggX7_isMember_X7_values
set_option maxRecDepth 20000 in
theorem ggX7_isMember_X7_barred : GoodIn wsX7_isMember wsX7_barred := goodIn_r _ [24, 1, 13, 14, 15, 5, 16, 17, 18, 19, 20, 25, 26, 27, 28, 29, 30, 31, 32, 33] (by decide +kernel) (by decide +kernel)
set_option maxRecDepth 20000 in
theorem gX7_isMember_X7_barred : GoodIn wsX7_isMember (wsV RX7 110 RX7 yX7_barred wsX7_barred) := goodIn_app (goodIn_of _ (by decide +kernel)) ggX7_isMember_X7_barred
theorem dX7_isMember_0 : decode cX7_isMember 0 = .ok (.iload_n 1, 1) := by decide +kernel
theorem dX7_isMember_1 : decode cX7_isMember 1 = .ok (.invokestatic 48, 3) := by decide +kernel
theorem dX7_isMember_4 : decode cX7_isMember 4 = .ok (.ifCond .eq 10, 3) := by decide +kernel
theorem dX7_isMember_7 : decode cX7_isMember 7 = .ok (.iload_n 2, 1) := by decide +kernel
theorem dX7_isMember_8 : decode cX7_isMember 8 = .ok (.invokestatic 101, 3) := by decide +kernel
theorem dX7_isMember_11 : decode cX7_isMember 11 = .ok (.ifCond .ne 5, 3) := by decide +kernel
theorem dX7_isMember_14 : decode cX7_isMember 14 = .ok (.iconst (-1), 1) := by decide +kernel
theorem dX7_isMember_15 : decode cX7_isMember 15 = .ok (.ireturn, 1) := by decide +kernel
theorem dX7_isMember_16 : decode cX7_isMember 16 = .ok (.aload_n 0, 1) := by decide +kernel
theorem dX7_isMember_17 : decode cX7_isMember 17 = .ok (.aload_n 0, 1) := by decide +kernel
theorem dX7_isMember_18 : decode cX7_isMember 18 = .ok (.getfield 13, 3) := by decide +kernel
theorem dX7_isMember_21 : decode cX7_isMember 21 = .ok (.iload_n 1, 1) := by decide +kernel
theorem dX7_isMember_22 : decode cX7_isMember 22 = .ok (.laload, 1) := by decide +kernel
theorem dX7_isMember_23 : decode cX7_isMember 23 = .ok (.invokevirtual 73, 3) := by decide +kernel
theorem dX7_isMember_26 : decode cX7_isMember 26 = .ok (.aload_n 0, 1) := by decide +kernel
theorem dX7_isMember_27 : decode cX7_isMember 27 = .ok (.iload_n 2, 1) := by decide +kernel
theorem dX7_isMember_28 : decode cX7_isMember 28 = .ok (.invokevirtual 110, 3) := by decide +kernel
theorem dX7_isMember_31 : decode cX7_isMember 31 = .ok (.ldc2_w 104, 3) := by decide +kernel
theorem dX7_isMember_34 : decode cX7_isMember 34 = .ok (.lxor, 1) := by decide +kernel
theorem dX7_isMember_35 : decode cX7_isMember 35 = .ok (.land, 1) := by decide +kernel
theorem dX7_isMember_36 : decode cX7_isMember 36 = .ok (.lconst 0, 1) := by decide +kernel
theorem dX7_isMember_37 : decode cX7_isMember 37 = .ok (.lcmp, 1) := by decide +kernel
theorem dX7_isMember_38 : decode cX7_isMember 38 = .ok (.ifCond .ne 7, 3) := by decide +kernel
theorem dX7_isMember_41 : decode cX7_isMember 41 = .ok (.iconst 1, 1) := by decide +kernel
theorem dX7_isMember_42 : decode cX7_isMember 42 = .ok (.goto 4, 3) := by decide +kernel
theorem dX7_isMember_45 : decode cX7_isMember 45 = .ok (.iconst 0, 1) := by decide +kernel
theorem dX7_isMember_46 : decode cX7_isMember 46 = .ok (.ireturn, 1) := by decide +kernel
set_option maxRecDepth 20000 in
theorem ggX7_isSameIdeal_X7_isSet : GoodIn wsX7_isSameIdeal wsX7_isSet := goodIn_r _ [4, 5, 6, 3, 7] (by decide +kernel) (by decide +kernel)
set_option maxRecDepth 20000 in
theorem gX7_isSameIdeal_X7_isSet : GoodIn wsX7_isSameIdeal (va_wsS RX7 101 yX7_isSet wsX7_isSet) := goodIn_app (goodIn_of _ (by decide +kernel)) ggX7_isSameIdeal_X7_isSet
set_option maxRecDepth 20000 in
theorem ggX7_isSameIdeal_X7_barred : GoodIn wsX7_isSameIdeal wsX7_barred := goodIn_r _ [11, 12, 13, 14, 15, 3, 16, 17, 18, 19, 20, 21, 22, 23, 24, 25, 26, 27, 28, 29] (by decide +kernel) (by decide +kernel)
set_option maxRecDepth 20000 in
theorem gX7_isSameIdeal_X7_barred : GoodIn wsX7_isSameIdeal (wsV RX7 110 RX7 yX7_barred wsX7_barred) := goodIn_app (goodIn_of _ (by decide +kernel)) ggX7_isSameIdeal_X7_barred
theorem dX7_isSameIdeal_0 : decode cX7_isSameIdeal 0 = .ok (.iload_n 1, 1) := by decide +kernel
theorem dX7_isSameIdeal_1 : decode cX7_isSameIdeal 1 = .ok (.invokestatic 101, 3) := by decide +kernel
theorem dX7_isSameIdeal_4 : decode cX7_isSameIdeal 4 = .ok (.ifCond .eq 10, 3) := by decide +kernel
theorem dX7_isSameIdeal_7 : decode cX7_isSameIdeal 7 = .ok (.iload_n 2, 1) := by decide +kernel
theorem dX7_isSameIdeal_8 : decode cX7_isSameIdeal 8 = .ok (.invokestatic 101, 3) := by decide +kernel
theorem dX7_isSameIdeal_11 : decode cX7_isSameIdeal 11 = .ok (.ifCond .ne 7, 3) := by decide +kernel
theorem dX7_isSameIdeal_14 : decode cX7_isSameIdeal 14 = .ok (.iconst (-1), 1) := by decide +kernel
theorem dX7_isSameIdeal_15 : decode cX7_isSameIdeal 15 = .ok (.goto 22, 3) := by decide +kernel
theorem dX7_isSameIdeal_18 : decode cX7_isSameIdeal 18 = .ok (.aload_n 0, 1) := by decide +kernel
theorem dX7_isSameIdeal_19 : decode cX7_isSameIdeal 19 = .ok (.iload_n 1, 1) := by decide +kernel
theorem dX7_isSameIdeal_20 : decode cX7_isSameIdeal 20 = .ok (.invokevirtual 110, 3) := by decide +kernel
theorem dX7_isSameIdeal_23 : decode cX7_isSameIdeal 23 = .ok (.aload_n 0, 1) := by decide +kernel
theorem dX7_isSameIdeal_24 : decode cX7_isSameIdeal 24 = .ok (.iload_n 2, 1) := by decide +kernel
theorem dX7_isSameIdeal_25 : decode cX7_isSameIdeal 25 = .ok (.invokevirtual 110, 3) := by decide +kernel
theorem dX7_isSameIdeal_28 : decode cX7_isSameIdeal 28 = .ok (.lcmp, 1) := by decide +kernel
theorem dX7_isSameIdeal_29 : decode cX7_isSameIdeal 29 = .ok (.ifCond .ne 7, 3) := by decide +kernel
theorem dX7_isSameIdeal_32 : decode cX7_isSameIdeal 32 = .ok (.iconst 1, 1) := by decide +kernel
theorem dX7_isSameIdeal_33 : decode cX7_isSameIdeal 33 = .ok (.goto 4, 3) := by decide +kernel
theorem dX7_isSameIdeal_36 : decode cX7_isSameIdeal 36 = .ok (.iconst 0, 1) := by decide +kernel
theorem dX7_isSameIdeal_37 : decode cX7_isSameIdeal 37 = .ok (.ireturn, 1) := by decide +kernel
set_option maxRecDepth 20000 in
theorem ggX7_fixedVariables_X7_isSet : GoodIn wsX7_fixedVariables wsX7_isSet := goodIn_r _ [5, 6, 7, 4, 8] (by decide +kernel) (by decide +kernel)
set_option maxRecDepth 20000 in
theorem gX7_fixedVariables_X7_isSet : GoodIn wsX7_fixedVariables (va_wsS RX7 101 yX7_isSet wsX7_isSet) := goodIn_app (goodIn_of _ (by decide +kernel)) ggX7_fixedVariables_X7_isSet
set_option maxRecDepth 20000 in
theorem ggX7_fixedVariables_X7_barred : GoodIn wsX7_fixedVariables wsX7_barred := goodIn_r _ [12, 13, 14, 15, 16, 4, 17, 1, 18, 19, 20, 24, 25, 26, 27, 28, 29, 30, 31, 32] (by decide +kernel) (by decide +kernel)
set_option maxRecDepth 20000 in
theorem gX7_fixedVariables_X7_barred : GoodIn wsX7_fixedVariables (wsV RX7 110 RX7 yX7_barred wsX7_barred) := goodIn_app (goodIn_of _ (by decide +kernel)) ggX7_fixedVariables_X7_barred
set_option maxRecDepth 20000 in
theorem ggX7_fixedVariables_X7_has1 : GoodIn wsX7_fixedVariables wsX7_has1 := goodIn_r _ [20] (by decide +kernel) (by decide +kernel)
set_option maxRecDepth 20000 in
theorem gX7_fixedVariables_X7_has1 : GoodIn wsX7_fixedVariables (va_wsS RX7 44 yX7_has1 wsX7_has1) := goodIn_app (goodIn_of _ (by decide +kernel)) ggX7_fixedVariables_X7_has1
set_option maxRecDepth 20000 in
theorem ggX7_fixedVariables_X7_many : GoodIn wsX7_fixedVariables wsX7_many := goodIn_r _ [23] (by decide +kernel) (by decide +kernel)
set_option maxRecDepth 20000 in
theorem gX7_fixedVariables_X7_many : GoodIn wsX7_fixedVariables (va_wsS RX7 40 yX7_many wsX7_many) := goodIn_app (goodIn_of _ (by decide +kernel)) ggX7_fixedVariables_X7_many
theorem dX7_fixedVariables_0 : decode cX7_fixedVariables 0 = .ok (.iload_n 1, 1) := by decide +kernel
theorem dX7_fixedVariables_1 : decode cX7_fixedVariables 1 = .ok (.invokestatic 101, 3) := by decide +kernel
theorem dX7_fixedVariables_4 : decode cX7_fixedVariables 4 = .ok (.ifCond .ne 5, 3) := by decide +kernel
theorem dX7_fixedVariables_7 : decode cX7_fixedVariables 7 = .ok (.iconst (-1), 1) := by decide +kernel
theorem dX7_fixedVariables_8 : decode cX7_fixedVariables 8 = .ok (.ireturn, 1) := by decide +kernel
theorem dX7_fixedVariables_9 : decode cX7_fixedVariables 9 = .ok (.aload_n 0, 1) := by decide +kernel
theorem dX7_fixedVariables_10 : decode cX7_fixedVariables 10 = .ok (.iload_n 1, 1) := by decide +kernel
theorem dX7_fixedVariables_11 : decode cX7_fixedVariables 11 = .ok (.invokevirtual 110, 3) := by decide +kernel
theorem dX7_fixedVariables_14 : decode cX7_fixedVariables 14 = .ok (.lstore_n 2, 1) := by decide +kernel
theorem dX7_fixedVariables_15 : decode cX7_fixedVariables 15 = .ok (.iconst 0, 1) := by decide +kernel
theorem dX7_fixedVariables_16 : decode cX7_fixedVariables 16 = .ok (.istore 4, 2) := by decide +kernel
theorem dX7_fixedVariables_18 : decode cX7_fixedVariables 18 = .ok (.iconst 0, 1) := by decide +kernel
theorem dX7_fixedVariables_19 : decode cX7_fixedVariables 19 = .ok (.istore 5, 2) := by decide +kernel
theorem dX7_fixedVariables_21 : decode cX7_fixedVariables 21 = .ok (.iconst 0, 1) := by decide +kernel
theorem dX7_fixedVariables_22 : decode cX7_fixedVariables 22 = .ok (.istore 6, 2) := by decide +kernel
theorem dX7_fixedVariables_24 : decode cX7_fixedVariables 24 = .ok (.iload 6, 2) := by decide +kernel
theorem dX7_fixedVariables_26 : decode cX7_fixedVariables 26 = .ok (.iconst 1, 1) := by decide +kernel
theorem dX7_fixedVariables_27 : decode cX7_fixedVariables 27 = .ok (.aload_n 0, 1) := by decide +kernel
theorem dX7_fixedVariables_28 : decode cX7_fixedVariables 28 = .ok (.getfield 7, 3) := by decide +kernel
theorem dX7_fixedVariables_31 : decode cX7_fixedVariables 31 = .ok (.ishl, 1) := by decide +kernel
theorem dX7_fixedVariables_32 : decode cX7_fixedVariables 32 = .ok (.if_icmp .ge 43, 3) := by decide +kernel
theorem dX7_fixedVariables_35 : decode cX7_fixedVariables 35 = .ok (.lload_n 2, 1) := by decide +kernel
theorem dX7_fixedVariables_36 : decode cX7_fixedVariables 36 = .ok (.iload 6, 2) := by decide +kernel
theorem dX7_fixedVariables_38 : decode cX7_fixedVariables 38 = .ok (.invokestatic 44, 3) := by decide +kernel
theorem dX7_fixedVariables_41 : decode cX7_fixedVariables 41 = .ok (.ifCond .ne 28, 3) := by decide +kernel
theorem dX7_fixedVariables_44 : decode cX7_fixedVariables 44 = .ok (.iload 4, 2) := by decide +kernel
theorem dX7_fixedVariables_46 : decode cX7_fixedVariables 46 = .ok (.iload 6, 2) := by decide +kernel
theorem dX7_fixedVariables_48 : decode cX7_fixedVariables 48 = .ok (.ior, 1) := by decide +kernel
theorem dX7_fixedVariables_49 : decode cX7_fixedVariables 49 = .ok (.istore 4, 2) := by decide +kernel
theorem dX7_fixedVariables_51 : decode cX7_fixedVariables 51 = .ok (.iload 5, 2) := by decide +kernel
theorem dX7_fixedVariables_53 : decode cX7_fixedVariables 53 = .ok (.iload 6, 2) := by decide +kernel
theorem dX7_fixedVariables_55 : decode cX7_fixedVariables 55 = .ok (.iconst (-1), 1) := by decide +kernel
theorem dX7_fixedVariables_56 : decode cX7_fixedVariables 56 = .ok (.ixor, 1) := by decide +kernel
theorem dX7_fixedVariables_57 : decode cX7_fixedVariables 57 = .ok (.iconst 1, 1) := by decide +kernel
theorem dX7_fixedVariables_58 : decode cX7_fixedVariables 58 = .ok (.aload_n 0, 1) := by decide +kernel
theorem dX7_fixedVariables_59 : decode cX7_fixedVariables 59 = .ok (.getfield 7, 3) := by decide +kernel
theorem dX7_fixedVariables_62 : decode cX7_fixedVariables 62 = .ok (.ishl, 1) := by decide +kernel
theorem dX7_fixedVariables_63 : decode cX7_fixedVariables 63 = .ok (.iconst 1, 1) := by decide +kernel
theorem dX7_fixedVariables_64 : decode cX7_fixedVariables 64 = .ok (.isub, 1) := by decide +kernel
theorem dX7_fixedVariables_65 : decode cX7_fixedVariables 65 = .ok (.iand, 1) := by decide +kernel
theorem dX7_fixedVariables_66 : decode cX7_fixedVariables 66 = .ok (.ior, 1) := by decide +kernel
theorem dX7_fixedVariables_67 : decode cX7_fixedVariables 67 = .ok (.istore 5, 2) := by decide +kernel
theorem dX7_fixedVariables_69 : decode cX7_fixedVariables 69 = .ok (.iinc 6 1, 3) := by decide +kernel
theorem dX7_fixedVariables_72 : decode cX7_fixedVariables 72 = .ok (.goto (-48), 3) := by decide +kernel
theorem dX7_fixedVariables_75 : decode cX7_fixedVariables 75 = .ok (.iload 4, 2) := by decide +kernel
theorem dX7_fixedVariables_77 : decode cX7_fixedVariables 77 = .ok (.ifCond .ne 13, 3) := by decide +kernel
theorem dX7_fixedVariables_80 : decode cX7_fixedVariables 80 = .ok (.iload 5, 2) := by decide +kernel
theorem dX7_fixedVariables_82 : decode cX7_fixedVariables 82 = .ok (.ifCond .ne 8, 3) := by decide +kernel
theorem dX7_fixedVariables_85 : decode cX7_fixedVariables 85 = .ok (.bipush (-4), 2) := by decide +kernel
theorem dX7_fixedVariables_87 : decode cX7_fixedVariables 87 = .ok (.goto 17, 3) := by decide +kernel
theorem dX7_fixedVariables_90 : decode cX7_fixedVariables 90 = .ok (.aload_n 0, 1) := by decide +kernel
theorem dX7_fixedVariables_91 : decode cX7_fixedVariables 91 = .ok (.getfield 7, 3) := by decide +kernel
theorem dX7_fixedVariables_94 : decode cX7_fixedVariables 94 = .ok (.iload 4, 2) := by decide +kernel
theorem dX7_fixedVariables_96 : decode cX7_fixedVariables 96 = .ok (.iload 5, 2) := by decide +kernel
theorem dX7_fixedVariables_98 : decode cX7_fixedVariables 98 = .ok (.iand, 1) := by decide +kernel
theorem dX7_fixedVariables_99 : decode cX7_fixedVariables 99 = .ok (.i2l, 1) := by decide +kernel
theorem dX7_fixedVariables_100 : decode cX7_fixedVariables 100 = .ok (.invokestatic 40, 3) := by decide +kernel
theorem dX7_fixedVariables_103 : decode cX7_fixedVariables 103 = .ok (.isub, 1) := by decide +kernel
theorem dX7_fixedVariables_104 : decode cX7_fixedVariables 104 = .ok (.ireturn, 1) := by decide +kernel
set_option maxRecDepth 20000 in
theorem ggX7_type_X7_in : GoodIn wsX7_type wsX7_in := goodIn_r _ [6] (by decide +kernel) (by decide +kernel)
set_option maxRecDepth 20000 in
theorem gX7_type_X7_in : GoodIn wsX7_type (va_wsS RX7 30 yX7_in wsX7_in) := goodIn_app (goodIn_of _ (by decide +kernel)) ggX7_type_X7_in
theorem dX7_type_0 : decode cX7_type 0 = .ok (.iload_n 1, 1) := by decide +kernel
theorem dX7_type_1 : decode cX7_type 1 = .ok (.bipush 32, 2) := by decide +kernel
theorem dX7_type_3 : decode cX7_type 3 = .ok (.bipush 126, 2) := by decide +kernel
theorem dX7_type_5 : decode cX7_type 5 = .ok (.invokestatic 30, 3) := by decide +kernel
theorem dX7_type_8 : decode cX7_type 8 = .ok (.ifCond .ne 5, 3) := by decide +kernel
theorem dX7_type_11 : decode cX7_type 11 = .ok (.iconst (-1), 1) := by decide +kernel
theorem dX7_type_12 : decode cX7_type 12 = .ok (.ireturn, 1) := by decide +kernel
theorem dX7_type_13 : decode cX7_type 13 = .ok (.aload_n 0, 1) := by decide +kernel
theorem dX7_type_14 : decode cX7_type 14 = .ok (.getfield 114, 3) := by decide +kernel
theorem dX7_type_17 : decode cX7_type 17 = .ok (.bipush 60, 2) := by decide +kernel
theorem dX7_type_19 : decode cX7_type 19 = .ok (.if_icmp .ne 6, 3) := by decide +kernel
theorem dX7_type_22 : decode cX7_type 22 = .ok (.bipush (-3), 2) := by decide +kernel
theorem dX7_type_24 : decode cX7_type 24 = .ok (.ireturn, 1) := by decide +kernel
theorem dX7_type_25 : decode cX7_type 25 = .ok (.aload_n 0, 1) := by decide +kernel
theorem dX7_type_26 : decode cX7_type 26 = .ok (.getfield 20, 3) := by decide +kernel
theorem dX7_type_29 : decode cX7_type 29 = .ok (.aload_n 0, 1) := by decide +kernel
theorem dX7_type_30 : decode cX7_type 30 = .ok (.getfield 114, 3) := by decide +kernel
theorem dX7_type_33 : decode cX7_type 33 = .ok (.iload_n 1, 1) := by decide +kernel
theorem dX7_type_34 : decode cX7_type 34 = .ok (.i2c, 1) := by decide +kernel
theorem dX7_type_35 : decode cX7_type 35 = .ok (.castore, 1) := by decide +kernel
theorem dX7_type_36 : decode cX7_type 36 = .ok (.aload_n 0, 1) := by decide +kernel
theorem dX7_type_37 : decode cX7_type 37 = .ok (.dup, 1) := by decide +kernel
theorem dX7_type_38 : decode cX7_type 38 = .ok (.getfield 114, 3) := by decide +kernel
theorem dX7_type_41 : decode cX7_type 41 = .ok (.iconst 1, 1) := by decide +kernel
theorem dX7_type_42 : decode cX7_type 42 = .ok (.iadd, 1) := by decide +kernel
theorem dX7_type_43 : decode cX7_type 43 = .ok (.putfield 114, 3) := by decide +kernel
theorem dX7_type_46 : decode cX7_type 46 = .ok (.aload_n 0, 1) := by decide +kernel
theorem dX7_type_47 : decode cX7_type 47 = .ok (.getfield 114, 3) := by decide +kernel
theorem dX7_type_50 : decode cX7_type 50 = .ok (.ireturn, 1) := by decide +kernel
theorem dX7_clearText_0 : decode cX7_clearText 0 = .ok (.aload_n 0, 1) := by decide +kernel
theorem dX7_clearText_1 : decode cX7_clearText 1 = .ok (.getfield 114, 3) := by decide +kernel
theorem dX7_clearText_4 : decode cX7_clearText 4 = .ok (.istore_n 1, 1) := by decide +kernel
theorem dX7_clearText_5 : decode cX7_clearText 5 = .ok (.aload_n 0, 1) := by decide +kernel
theorem dX7_clearText_6 : decode cX7_clearText 6 = .ok (.iconst 0, 1) := by decide +kernel
theorem dX7_clearText_7 : decode cX7_clearText 7 = .ok (.putfield 114, 3) := by decide +kernel
theorem dX7_clearText_10 : decode cX7_clearText 10 = .ok (.iload_n 1, 1) := by decide +kernel
theorem dX7_clearText_11 : decode cX7_clearText 11 = .ok (.ireturn, 1) := by decide +kernel
set_option maxRecDepth 20000 in
theorem ggX7_behind_X7_in : GoodIn wsX7_behind wsX7_in := goodIn_r _ [5] (by decide +kernel) (by decide +kernel)
set_option maxRecDepth 20000 in
theorem gX7_behind_X7_in : GoodIn wsX7_behind (va_wsS RX7 30 yX7_in wsX7_in) := goodIn_app (goodIn_of _ (by decide +kernel)) ggX7_behind_X7_in
theorem dX7_behind_0 : decode cX7_behind 0 = .ok (.iload_n 2, 1) := by decide +kernel
theorem dX7_behind_1 : decode cX7_behind 1 = .ok (.bipush 43, 2) := by decide +kernel
theorem dX7_behind_3 : decode cX7_behind 3 = .ok (.if_icmp .ne 14, 3) := by decide +kernel
theorem dX7_behind_6 : decode cX7_behind 6 = .ok (.iload_n 1, 1) := by decide +kernel
theorem dX7_behind_7 : decode cX7_behind 7 = .ok (.ifCond .lt 7, 3) := by decide +kernel
theorem dX7_behind_10 : decode cX7_behind 10 = .ok (.iconst (-1), 1) := by decide +kernel
theorem dX7_behind_11 : decode cX7_behind 11 = .ok (.goto 5, 3) := by decide +kernel
theorem dX7_behind_14 : decode cX7_behind 14 = .ok (.bipush (-2), 2) := by decide +kernel
theorem dX7_behind_16 : decode cX7_behind 16 = .ok (.ireturn, 1) := by decide +kernel
theorem dX7_behind_17 : decode cX7_behind 17 = .ok (.iload_n 2, 1) := by decide +kernel
theorem dX7_behind_18 : decode cX7_behind 18 = .ok (.bipush 97, 2) := by decide +kernel
theorem dX7_behind_20 : decode cX7_behind 20 = .ok (.isub, 1) := by decide +kernel
theorem dX7_behind_21 : decode cX7_behind 21 = .ok (.istore_n 3, 1) := by decide +kernel
theorem dX7_behind_22 : decode cX7_behind 22 = .ok (.iload_n 1, 1) := by decide +kernel
theorem dX7_behind_23 : decode cX7_behind 23 = .ok (.ifCond .ge 18, 3) := by decide +kernel
theorem dX7_behind_26 : decode cX7_behind 26 = .ok (.iload_n 2, 1) := by decide +kernel
theorem dX7_behind_27 : decode cX7_behind 27 = .ok (.bipush 48, 2) := by decide +kernel
theorem dX7_behind_29 : decode cX7_behind 29 = .ok (.if_icmp .eq 9, 3) := by decide +kernel
theorem dX7_behind_32 : decode cX7_behind 32 = .ok (.iload_n 2, 1) := by decide +kernel
theorem dX7_behind_33 : decode cX7_behind 33 = .ok (.bipush 49, 2) := by decide +kernel
theorem dX7_behind_35 : decode cX7_behind 35 = .ok (.if_icmp .ne 6, 3) := by decide +kernel
theorem dX7_behind_38 : decode cX7_behind 38 = .ok (.bipush 6, 2) := by decide +kernel
theorem dX7_behind_40 : decode cX7_behind 40 = .ok (.ireturn, 1) := by decide +kernel
theorem dX7_behind_41 : decode cX7_behind 41 = .ok (.iload_n 1, 1) := by decide +kernel
theorem dX7_behind_42 : decode cX7_behind 42 = .ok (.bipush 6, 2) := by decide +kernel
theorem dX7_behind_44 : decode cX7_behind 44 = .ok (.if_icmp .ge 31, 3) := by decide +kernel
theorem dX7_behind_47 : decode cX7_behind 47 = .ok (.iload_n 3, 1) := by decide +kernel
theorem dX7_behind_48 : decode cX7_behind 48 = .ok (.iload_n 1, 1) := by decide +kernel
theorem dX7_behind_49 : decode cX7_behind 49 = .ok (.ifCond .ge 7, 3) := by decide +kernel
theorem dX7_behind_52 : decode cX7_behind 52 = .ok (.iconst 0, 1) := by decide +kernel
theorem dX7_behind_53 : decode cX7_behind 53 = .ok (.goto 6, 3) := by decide +kernel
theorem dX7_behind_56 : decode cX7_behind 56 = .ok (.iload_n 1, 1) := by decide +kernel
theorem dX7_behind_57 : decode cX7_behind 57 = .ok (.iconst 1, 1) := by decide +kernel
theorem dX7_behind_58 : decode cX7_behind 58 = .ok (.iadd, 1) := by decide +kernel
theorem dX7_behind_59 : decode cX7_behind 59 = .ok (.aload_n 0, 1) := by decide +kernel
theorem dX7_behind_60 : decode cX7_behind 60 = .ok (.getfield 7, 3) := by decide +kernel
theorem dX7_behind_63 : decode cX7_behind 63 = .ok (.iconst 1, 1) := by decide +kernel
theorem dX7_behind_64 : decode cX7_behind 64 = .ok (.isub, 1) := by decide +kernel
theorem dX7_behind_65 : decode cX7_behind 65 = .ok (.invokestatic 30, 3) := by decide +kernel
theorem dX7_behind_68 : decode cX7_behind 68 = .ok (.ifCond .eq 7, 3) := by decide +kernel
theorem dX7_behind_71 : decode cX7_behind 71 = .ok (.iload_n 3, 1) := by decide +kernel
theorem dX7_behind_72 : decode cX7_behind 72 = .ok (.goto 5, 3) := by decide +kernel
theorem dX7_behind_75 : decode cX7_behind 75 = .ok (.bipush (-2), 2) := by decide +kernel
theorem dX7_behind_77 : decode cX7_behind 77 = .ok (.ireturn, 1) := by decide +kernel
set_option maxRecDepth 20000 in
theorem ggX7_fault_X7_behind : GoodIn wsX7_fault wsX7_behind := goodIn_r _ [7, 8, 9, 10, 6, 11, 12, 13, 14, 15, 16, 17, 18, 19, 20] (by decide +kernel) (by decide +kernel)
set_option maxRecDepth 20000 in
theorem gX7_fault_X7_behind : GoodIn wsX7_fault (wsV RX7 117 RX7 yX7_behind wsX7_behind) := goodIn_app (goodIn_of _ (by decide +kernel)) ggX7_fault_X7_behind
theorem dX7_fault_0 : decode cX7_fault 0 = .ok (.iconst (-1), 1) := by decide +kernel
theorem dX7_fault_1 : decode cX7_fault 1 = .ok (.istore_n 1, 1) := by decide +kernel
theorem dX7_fault_2 : decode cX7_fault 2 = .ok (.iconst 0, 1) := by decide +kernel
theorem dX7_fault_3 : decode cX7_fault 3 = .ok (.istore_n 2, 1) := by decide +kernel
theorem dX7_fault_4 : decode cX7_fault 4 = .ok (.iload_n 2, 1) := by decide +kernel
theorem dX7_fault_5 : decode cX7_fault 5 = .ok (.aload_n 0, 1) := by decide +kernel
theorem dX7_fault_6 : decode cX7_fault 6 = .ok (.getfield 114, 3) := by decide +kernel
theorem dX7_fault_9 : decode cX7_fault 9 = .ok (.if_icmp .ge 29, 3) := by decide +kernel
theorem dX7_fault_12 : decode cX7_fault 12 = .ok (.aload_n 0, 1) := by decide +kernel
theorem dX7_fault_13 : decode cX7_fault 13 = .ok (.iload_n 1, 1) := by decide +kernel
theorem dX7_fault_14 : decode cX7_fault 14 = .ok (.aload_n 0, 1) := by decide +kernel
theorem dX7_fault_15 : decode cX7_fault 15 = .ok (.getfield 20, 3) := by decide +kernel
theorem dX7_fault_18 : decode cX7_fault 18 = .ok (.iload_n 2, 1) := by decide +kernel
theorem dX7_fault_19 : decode cX7_fault 19 = .ok (.caload, 1) := by decide +kernel
theorem dX7_fault_20 : decode cX7_fault 20 = .ok (.invokevirtual 117, 3) := by decide +kernel
theorem dX7_fault_23 : decode cX7_fault 23 = .ok (.istore_n 1, 1) := by decide +kernel
theorem dX7_fault_24 : decode cX7_fault 24 = .ok (.iload_n 1, 1) := by decide +kernel
theorem dX7_fault_25 : decode cX7_fault 25 = .ok (.bipush (-2), 2) := by decide +kernel
theorem dX7_fault_27 : decode cX7_fault 27 = .ok (.if_icmp .ne 5, 3) := by decide +kernel
theorem dX7_fault_30 : decode cX7_fault 30 = .ok (.iload_n 2, 1) := by decide +kernel
theorem dX7_fault_31 : decode cX7_fault 31 = .ok (.ireturn, 1) := by decide +kernel
theorem dX7_fault_32 : decode cX7_fault 32 = .ok (.iinc 2 1, 3) := by decide +kernel
theorem dX7_fault_35 : decode cX7_fault 35 = .ok (.goto (-31), 3) := by decide +kernel
theorem dX7_fault_38 : decode cX7_fault 38 = .ok (.iload_n 1, 1) := by decide +kernel
theorem dX7_fault_39 : decode cX7_fault 39 = .ok (.ifCond .ge 10, 3) := by decide +kernel
theorem dX7_fault_42 : decode cX7_fault 42 = .ok (.aload_n 0, 1) := by decide +kernel
theorem dX7_fault_43 : decode cX7_fault 43 = .ok (.getfield 114, 3) := by decide +kernel
theorem dX7_fault_46 : decode cX7_fault 46 = .ok (.goto 5, 3) := by decide +kernel
theorem dX7_fault_49 : decode cX7_fault 49 = .ok (.bipush (-4), 2) := by decide +kernel
theorem dX7_fault_51 : decode cX7_fault 51 = .ok (.ireturn, 1) := by decide +kernel
set_option maxRecDepth 20000 in
theorem ggX7_read_X7_isRegister : GoodIn wsX7_read wsX7_isRegister := goodIn_r _ [6, 7, 8, 5, 9] (by decide +kernel) (by decide +kernel)
set_option maxRecDepth 20000 in
theorem gX7_read_X7_isRegister : GoodIn wsX7_read (va_wsS RX7 48 yX7_isRegister wsX7_isRegister) := goodIn_app (goodIn_of _ (by decide +kernel)) ggX7_read_X7_isRegister
set_option maxRecDepth 20000 in
theorem ggX7_read_X7_fault : GoodIn wsX7_read wsX7_fault := goodIn_r _ [13, 1, 2, 14, 15, 16, 5, 17, 18, 7, 8, 9, 33, 34, 35, 36, 37, 38, 39, 40, 41] (by decide +kernel) (by decide +kernel)
set_option maxRecDepth 20000 in
theorem gX7_read_X7_fault : GoodIn wsX7_read (wsV RX7 121 RX7 yX7_fault wsX7_fault) := goodIn_app (goodIn_of _ (by decide +kernel)) ggX7_read_X7_fault
set_option maxRecDepth 20000 in
theorem ggX7_read_X7_gets : GoodIn wsX7_read wsX7_gets := goodIn_r _ [22, 23, 24, 25, 26, 5, 27, 28, 29, 30, 31, 32, 33, 34, 35, 36, 37, 38, 39, 40, 41] (by decide +kernel) (by decide +kernel)
set_option maxRecDepth 20000 in
theorem gX7_read_X7_gets : GoodIn wsX7_read (wsV RX7 55 RX7 yX7_gets wsX7_gets) := goodIn_app (goodIn_of _ (by decide +kernel)) ggX7_read_X7_gets
theorem dX7_read_0 : decode cX7_read 0 = .ok (.iload_n 1, 1) := by decide +kernel
theorem dX7_read_1 : decode cX7_read 1 = .ok (.invokestatic 48, 3) := by decide +kernel
theorem dX7_read_4 : decode cX7_read 4 = .ok (.ifCond .ne 5, 3) := by decide +kernel
theorem dX7_read_7 : decode cX7_read 7 = .ok (.iconst (-1), 1) := by decide +kernel
theorem dX7_read_8 : decode cX7_read 8 = .ok (.ireturn, 1) := by decide +kernel
theorem dX7_read_9 : decode cX7_read 9 = .ok (.aload_n 0, 1) := by decide +kernel
theorem dX7_read_10 : decode cX7_read 10 = .ok (.invokevirtual 121, 3) := by decide +kernel
theorem dX7_read_13 : decode cX7_read 13 = .ok (.bipush (-4), 2) := by decide +kernel
theorem dX7_read_15 : decode cX7_read 15 = .ok (.if_icmp .eq 6, 3) := by decide +kernel
theorem dX7_read_18 : decode cX7_read 18 = .ok (.bipush (-2), 2) := by decide +kernel
theorem dX7_read_20 : decode cX7_read 20 = .ok (.ireturn, 1) := by decide +kernel
theorem dX7_read_21 : decode cX7_read 21 = .ok (.lconst 0, 1) := by decide +kernel
theorem dX7_read_22 : decode cX7_read 22 = .ok (.lstore_n 2, 1) := by decide +kernel
theorem dX7_read_23 : decode cX7_read 23 = .ok (.iconst 0, 1) := by decide +kernel
theorem dX7_read_24 : decode cX7_read 24 = .ok (.istore 4, 2) := by decide +kernel
theorem dX7_read_26 : decode cX7_read 26 = .ok (.iconst 0, 1) := by decide +kernel
theorem dX7_read_27 : decode cX7_read 27 = .ok (.istore 5, 2) := by decide +kernel
theorem dX7_read_29 : decode cX7_read 29 = .ok (.iconst 0, 1) := by decide +kernel
theorem dX7_read_30 : decode cX7_read 30 = .ok (.istore 6, 2) := by decide +kernel
theorem dX7_read_32 : decode cX7_read 32 = .ok (.iload 6, 2) := by decide +kernel
theorem dX7_read_34 : decode cX7_read 34 = .ok (.aload_n 0, 1) := by decide +kernel
theorem dX7_read_35 : decode cX7_read 35 = .ok (.getfield 114, 3) := by decide +kernel
theorem dX7_read_38 : decode cX7_read 38 = .ok (.if_icmp .gt 100, 3) := by decide +kernel
theorem dX7_read_41 : decode cX7_read 41 = .ok (.iload 6, 2) := by decide +kernel
theorem dX7_read_43 : decode cX7_read 43 = .ok (.aload_n 0, 1) := by decide +kernel
theorem dX7_read_44 : decode cX7_read 44 = .ok (.getfield 114, 3) := by decide +kernel
theorem dX7_read_47 : decode cX7_read 47 = .ok (.if_icmp .ge 13, 3) := by decide +kernel
theorem dX7_read_50 : decode cX7_read 50 = .ok (.aload_n 0, 1) := by decide +kernel
theorem dX7_read_51 : decode cX7_read 51 = .ok (.getfield 20, 3) := by decide +kernel
theorem dX7_read_54 : decode cX7_read 54 = .ok (.iload 6, 2) := by decide +kernel
theorem dX7_read_56 : decode cX7_read 56 = .ok (.caload, 1) := by decide +kernel
theorem dX7_read_57 : decode cX7_read 57 = .ok (.goto 5, 3) := by decide +kernel
theorem dX7_read_60 : decode cX7_read 60 = .ok (.bipush 43, 2) := by decide +kernel
theorem dX7_read_62 : decode cX7_read 62 = .ok (.istore 7, 2) := by decide +kernel
theorem dX7_read_64 : decode cX7_read 64 = .ok (.iload 7, 2) := by decide +kernel
theorem dX7_read_66 : decode cX7_read 66 = .ok (.bipush 43, 2) := by decide +kernel
theorem dX7_read_68 : decode cX7_read 68 = .ok (.if_icmp .ne 28, 3) := by decide +kernel
theorem dX7_read_71 : decode cX7_read 71 = .ok (.lload_n 2, 1) := by decide +kernel
theorem dX7_read_72 : decode cX7_read 72 = .ok (.iload 5, 2) := by decide +kernel
theorem dX7_read_74 : decode cX7_read 74 = .ok (.ifCond .eq 7, 3) := by decide +kernel
theorem dX7_read_77 : decode cX7_read 77 = .ok (.lconst 0, 1) := by decide +kernel
theorem dX7_read_78 : decode cX7_read 78 = .ok (.goto 7, 3) := by decide +kernel
theorem dX7_read_81 : decode cX7_read 81 = .ok (.lconst 1, 1) := by decide +kernel
theorem dX7_read_82 : decode cX7_read 82 = .ok (.iload 4, 2) := by decide +kernel
theorem dX7_read_84 : decode cX7_read 84 = .ok (.lshl, 1) := by decide +kernel
theorem dX7_read_85 : decode cX7_read 85 = .ok (.lxor, 1) := by decide +kernel
theorem dX7_read_86 : decode cX7_read 86 = .ok (.lstore_n 2, 1) := by decide +kernel
theorem dX7_read_87 : decode cX7_read 87 = .ok (.iconst 0, 1) := by decide +kernel
theorem dX7_read_88 : decode cX7_read 88 = .ok (.istore 4, 2) := by decide +kernel
theorem dX7_read_90 : decode cX7_read 90 = .ok (.iconst 0, 1) := by decide +kernel
theorem dX7_read_91 : decode cX7_read 91 = .ok (.istore 5, 2) := by decide +kernel
theorem dX7_read_93 : decode cX7_read 93 = .ok (.goto 39, 3) := by decide +kernel
theorem dX7_read_96 : decode cX7_read 96 = .ok (.iload 7, 2) := by decide +kernel
theorem dX7_read_98 : decode cX7_read 98 = .ok (.bipush 97, 2) := by decide +kernel
theorem dX7_read_100 : decode cX7_read 100 = .ok (.if_icmp .lt 18, 3) := by decide +kernel
theorem dX7_read_103 : decode cX7_read 103 = .ok (.iload 4, 2) := by decide +kernel
theorem dX7_read_105 : decode cX7_read 105 = .ok (.iconst 1, 1) := by decide +kernel
theorem dX7_read_106 : decode cX7_read 106 = .ok (.iload 7, 2) := by decide +kernel
theorem dX7_read_108 : decode cX7_read 108 = .ok (.bipush 97, 2) := by decide +kernel
theorem dX7_read_110 : decode cX7_read 110 = .ok (.isub, 1) := by decide +kernel
theorem dX7_read_111 : decode cX7_read 111 = .ok (.ishl, 1) := by decide +kernel
theorem dX7_read_112 : decode cX7_read 112 = .ok (.ior, 1) := by decide +kernel
theorem dX7_read_113 : decode cX7_read 113 = .ok (.istore 4, 2) := by decide +kernel
theorem dX7_read_115 : decode cX7_read 115 = .ok (.goto 17, 3) := by decide +kernel
theorem dX7_read_118 : decode cX7_read 118 = .ok (.iload 7, 2) := by decide +kernel
theorem dX7_read_120 : decode cX7_read 120 = .ok (.bipush 48, 2) := by decide +kernel
theorem dX7_read_122 : decode cX7_read 122 = .ok (.if_icmp .ne 7, 3) := by decide +kernel
theorem dX7_read_125 : decode cX7_read 125 = .ok (.iconst 1, 1) := by decide +kernel
theorem dX7_read_126 : decode cX7_read 126 = .ok (.goto 4, 3) := by decide +kernel
theorem dX7_read_129 : decode cX7_read 129 = .ok (.iconst 0, 1) := by decide +kernel
theorem dX7_read_130 : decode cX7_read 130 = .ok (.istore 5, 2) := by decide +kernel
theorem dX7_read_132 : decode cX7_read 132 = .ok (.iinc 6 1, 3) := by decide +kernel
theorem dX7_read_135 : decode cX7_read 135 = .ok (.goto (-103), 3) := by decide +kernel
theorem dX7_read_138 : decode cX7_read 138 = .ok (.aload_n 0, 1) := by decide +kernel
theorem dX7_read_139 : decode cX7_read 139 = .ok (.iload_n 1, 1) := by decide +kernel
theorem dX7_read_140 : decode cX7_read 140 = .ok (.lload_n 2, 1) := by decide +kernel
theorem dX7_read_141 : decode cX7_read 141 = .ok (.invokevirtual 55, 3) := by decide +kernel
theorem dX7_read_144 : decode cX7_read 144 = .ok (.ireturn, 1) := by decide +kernel
set_option maxRecDepth 20000 in
theorem ggX7_longOf_X7_many : GoodIn wsX7_longOf wsX7_many := goodIn_r _ [4] (by decide +kernel) (by decide +kernel)
set_option maxRecDepth 20000 in
theorem gX7_longOf_X7_many : GoodIn wsX7_longOf (va_wsS RX7 40 yX7_many wsX7_many) := goodIn_app (goodIn_of _ (by decide +kernel)) ggX7_longOf_X7_many
theorem dX7_longOf_0 : decode cX7_longOf 0 = .ok (.iload_n 0, 1) := by decide +kernel
theorem dX7_longOf_1 : decode cX7_longOf 1 = .ok (.ifCond .ne 7, 3) := by decide +kernel
theorem dX7_longOf_4 : decode cX7_longOf 4 = .ok (.iconst 1, 1) := by decide +kernel
theorem dX7_longOf_5 : decode cX7_longOf 5 = .ok (.goto 8, 3) := by decide +kernel
theorem dX7_longOf_8 : decode cX7_longOf 8 = .ok (.iload_n 0, 1) := by decide +kernel
theorem dX7_longOf_9 : decode cX7_longOf 9 = .ok (.i2l, 1) := by decide +kernel
theorem dX7_longOf_10 : decode cX7_longOf 10 = .ok (.invokestatic 40, 3) := by decide +kernel
theorem dX7_longOf_13 : decode cX7_longOf 13 = .ok (.ireturn, 1) := by decide +kernel
set_option maxRecDepth 20000 in
theorem ggX7_textLength_X7_isRegister : GoodIn wsX7_textLength wsX7_isRegister := goodIn_r _ [6, 7, 8, 5, 9] (by decide +kernel) (by decide +kernel)
set_option maxRecDepth 20000 in
theorem gX7_textLength_X7_isRegister : GoodIn wsX7_textLength (va_wsS RX7 48 yX7_isRegister wsX7_isRegister) := goodIn_app (goodIn_of _ (by decide +kernel)) ggX7_textLength_X7_isRegister
set_option maxRecDepth 20000 in
theorem ggX7_textLength_X7_has1 : GoodIn wsX7_textLength wsX7_has1 := goodIn_r _ [12] (by decide +kernel) (by decide +kernel)
set_option maxRecDepth 20000 in
theorem gX7_textLength_X7_has1 : GoodIn wsX7_textLength (va_wsS RX7 44 yX7_has1 wsX7_has1) := goodIn_app (goodIn_of _ (by decide +kernel)) ggX7_textLength_X7_has1
set_option maxRecDepth 20000 in
theorem ggX7_textLength_X7_longOf : GoodIn wsX7_textLength wsX7_longOf := goodIn_r _ [15, 16, 17, 5, 18] (by decide +kernel) (by decide +kernel)
set_option maxRecDepth 20000 in
theorem gX7_textLength_X7_longOf : GoodIn wsX7_textLength (va_wsS RX7 124 yX7_longOf wsX7_longOf) := goodIn_app (goodIn_of _ (by decide +kernel)) ggX7_textLength_X7_longOf
theorem dX7_textLength_0 : decode cX7_textLength 0 = .ok (.iload_n 1, 1) := by decide +kernel
theorem dX7_textLength_1 : decode cX7_textLength 1 = .ok (.invokestatic 48, 3) := by decide +kernel
theorem dX7_textLength_4 : decode cX7_textLength 4 = .ok (.ifCond .ne 5, 3) := by decide +kernel
theorem dX7_textLength_7 : decode cX7_textLength 7 = .ok (.iconst (-1), 1) := by decide +kernel
theorem dX7_textLength_8 : decode cX7_textLength 8 = .ok (.ireturn, 1) := by decide +kernel
theorem dX7_textLength_9 : decode cX7_textLength 9 = .ok (.aload_n 0, 1) := by decide +kernel
theorem dX7_textLength_10 : decode cX7_textLength 10 = .ok (.getfield 13, 3) := by decide +kernel
theorem dX7_textLength_13 : decode cX7_textLength 13 = .ok (.iload_n 1, 1) := by decide +kernel
theorem dX7_textLength_14 : decode cX7_textLength 14 = .ok (.laload, 1) := by decide +kernel
theorem dX7_textLength_15 : decode cX7_textLength 15 = .ok (.lconst 0, 1) := by decide +kernel
theorem dX7_textLength_16 : decode cX7_textLength 16 = .ok (.lcmp, 1) := by decide +kernel
theorem dX7_textLength_17 : decode cX7_textLength 17 = .ok (.ifCond .ne 7, 3) := by decide +kernel
theorem dX7_textLength_20 : decode cX7_textLength 20 = .ok (.iconst 1, 1) := by decide +kernel
theorem dX7_textLength_21 : decode cX7_textLength 21 = .ok (.goto 4, 3) := by decide +kernel
theorem dX7_textLength_24 : decode cX7_textLength 24 = .ok (.iconst (-1), 1) := by decide +kernel
theorem dX7_textLength_25 : decode cX7_textLength 25 = .ok (.istore_n 2, 1) := by decide +kernel
theorem dX7_textLength_26 : decode cX7_textLength 26 = .ok (.iconst 0, 1) := by decide +kernel
theorem dX7_textLength_27 : decode cX7_textLength 27 = .ok (.istore_n 3, 1) := by decide +kernel
theorem dX7_textLength_28 : decode cX7_textLength 28 = .ok (.iload_n 3, 1) := by decide +kernel
theorem dX7_textLength_29 : decode cX7_textLength 29 = .ok (.iconst 1, 1) := by decide +kernel
theorem dX7_textLength_30 : decode cX7_textLength 30 = .ok (.aload_n 0, 1) := by decide +kernel
theorem dX7_textLength_31 : decode cX7_textLength 31 = .ok (.getfield 7, 3) := by decide +kernel
theorem dX7_textLength_34 : decode cX7_textLength 34 = .ok (.ishl, 1) := by decide +kernel
theorem dX7_textLength_35 : decode cX7_textLength 35 = .ok (.if_icmp .ge 35, 3) := by decide +kernel
theorem dX7_textLength_38 : decode cX7_textLength 38 = .ok (.iload_n 2, 1) := by decide +kernel
theorem dX7_textLength_39 : decode cX7_textLength 39 = .ok (.aload_n 0, 1) := by decide +kernel
theorem dX7_textLength_40 : decode cX7_textLength 40 = .ok (.getfield 13, 3) := by decide +kernel
theorem dX7_textLength_43 : decode cX7_textLength 43 = .ok (.iload_n 1, 1) := by decide +kernel
theorem dX7_textLength_44 : decode cX7_textLength 44 = .ok (.laload, 1) := by decide +kernel
theorem dX7_textLength_45 : decode cX7_textLength 45 = .ok (.iload_n 3, 1) := by decide +kernel
theorem dX7_textLength_46 : decode cX7_textLength 46 = .ok (.invokestatic 44, 3) := by decide +kernel
theorem dX7_textLength_49 : decode cX7_textLength 49 = .ok (.ifCond .eq 12, 3) := by decide +kernel
theorem dX7_textLength_52 : decode cX7_textLength 52 = .ok (.iconst 1, 1) := by decide +kernel
theorem dX7_textLength_53 : decode cX7_textLength 53 = .ok (.iload_n 3, 1) := by decide +kernel
theorem dX7_textLength_54 : decode cX7_textLength 54 = .ok (.invokestatic 124, 3) := by decide +kernel
theorem dX7_textLength_57 : decode cX7_textLength 57 = .ok (.iadd, 1) := by decide +kernel
theorem dX7_textLength_58 : decode cX7_textLength 58 = .ok (.goto 4, 3) := by decide +kernel
theorem dX7_textLength_61 : decode cX7_textLength 61 = .ok (.iconst 0, 1) := by decide +kernel
theorem dX7_textLength_62 : decode cX7_textLength 62 = .ok (.iadd, 1) := by decide +kernel
theorem dX7_textLength_63 : decode cX7_textLength 63 = .ok (.istore_n 2, 1) := by decide +kernel
theorem dX7_textLength_64 : decode cX7_textLength 64 = .ok (.iinc 3 1, 3) := by decide +kernel
theorem dX7_textLength_67 : decode cX7_textLength 67 = .ok (.goto (-39), 3) := by decide +kernel
theorem dX7_textLength_70 : decode cX7_textLength 70 = .ok (.iload_n 2, 1) := by decide +kernel
theorem dX7_textLength_71 : decode cX7_textLength 71 = .ok (.ireturn, 1) := by decide +kernel
theorem dX7_letter_0 : decode cX7_letter 0 = .ok (.iload_n 0, 1) := by decide +kernel
theorem dX7_letter_1 : decode cX7_letter 1 = .ok (.ifCond .ne 6, 3) := by decide +kernel
theorem dX7_letter_4 : decode cX7_letter 4 = .ok (.bipush 49, 2) := by decide +kernel
theorem dX7_letter_6 : decode cX7_letter 6 = .ok (.ireturn, 1) := by decide +kernel
theorem dX7_letter_7 : decode cX7_letter 7 = .ok (.iload_n 1, 1) := by decide +kernel
theorem dX7_letter_8 : decode cX7_letter 8 = .ok (.istore_n 2, 1) := by decide +kernel
theorem dX7_letter_9 : decode cX7_letter 9 = .ok (.iconst 0, 1) := by decide +kernel
theorem dX7_letter_10 : decode cX7_letter 10 = .ok (.istore_n 3, 1) := by decide +kernel
theorem dX7_letter_11 : decode cX7_letter 11 = .ok (.iload_n 2, 1) := by decide +kernel
theorem dX7_letter_12 : decode cX7_letter 12 = .ok (.ifCond .gt 11, 3) := by decide +kernel
theorem dX7_letter_15 : decode cX7_letter 15 = .ok (.iload_n 0, 1) := by decide +kernel
theorem dX7_letter_16 : decode cX7_letter 16 = .ok (.iload_n 3, 1) := by decide +kernel
theorem dX7_letter_17 : decode cX7_letter 17 = .ok (.ishr, 1) := by decide +kernel
theorem dX7_letter_18 : decode cX7_letter 18 = .ok (.iconst 1, 1) := by decide +kernel
theorem dX7_letter_19 : decode cX7_letter 19 = .ok (.iand, 1) := by decide +kernel
theorem dX7_letter_20 : decode cX7_letter 20 = .ok (.ifCond .ne 17, 3) := by decide +kernel
theorem dX7_letter_23 : decode cX7_letter 23 = .ok (.iload_n 2, 1) := by decide +kernel
theorem dX7_letter_24 : decode cX7_letter 24 = .ok (.iload_n 0, 1) := by decide +kernel
theorem dX7_letter_25 : decode cX7_letter 25 = .ok (.iload_n 3, 1) := by decide +kernel
theorem dX7_letter_26 : decode cX7_letter 26 = .ok (.ishr, 1) := by decide +kernel
theorem dX7_letter_27 : decode cX7_letter 27 = .ok (.iconst 1, 1) := by decide +kernel
theorem dX7_letter_28 : decode cX7_letter 28 = .ok (.iand, 1) := by decide +kernel
theorem dX7_letter_29 : decode cX7_letter 29 = .ok (.isub, 1) := by decide +kernel
theorem dX7_letter_30 : decode cX7_letter 30 = .ok (.istore_n 2, 1) := by decide +kernel
theorem dX7_letter_31 : decode cX7_letter 31 = .ok (.iinc 3 1, 3) := by decide +kernel
theorem dX7_letter_34 : decode cX7_letter 34 = .ok (.goto (-23), 3) := by decide +kernel
theorem dX7_letter_37 : decode cX7_letter 37 = .ok (.bipush 97, 2) := by decide +kernel
theorem dX7_letter_39 : decode cX7_letter 39 = .ok (.iload_n 3, 1) := by decide +kernel
theorem dX7_letter_40 : decode cX7_letter 40 = .ok (.iadd, 1) := by decide +kernel
theorem dX7_letter_41 : decode cX7_letter 41 = .ok (.ireturn, 1) := by decide +kernel
set_option maxRecDepth 20000 in
theorem ggX7_textAt_X7_isRegister : GoodIn wsX7_textAt wsX7_isRegister := goodIn_r _ [5, 6, 7, 4, 8] (by decide +kernel) (by decide +kernel)
set_option maxRecDepth 20000 in
theorem gX7_textAt_X7_isRegister : GoodIn wsX7_textAt (va_wsS RX7 48 yX7_isRegister wsX7_isRegister) := goodIn_app (goodIn_of _ (by decide +kernel)) ggX7_textAt_X7_isRegister
set_option maxRecDepth 20000 in
theorem ggX7_textAt_X7_leads : GoodIn wsX7_textAt wsX7_leads := goodIn_r _ [12, 13, 14, 15, 4, 16, 17, 18, 19, 20, 21, 22, 23, 30, 31, 32, 33, 34, 35, 36, 37, 38] (by decide +kernel) (by decide +kernel)
set_option maxRecDepth 20000 in
theorem gX7_textAt_X7_leads : GoodIn wsX7_textAt (wsV RX7 97 RX7 yX7_leads wsX7_leads) := goodIn_app (goodIn_of _ (by decide +kernel)) ggX7_textAt_X7_leads
set_option maxRecDepth 20000 in
theorem ggX7_textAt_X7_longOf : GoodIn wsX7_textAt wsX7_longOf := goodIn_r _ [26, 21, 22, 4, 23] (by decide +kernel) (by decide +kernel)
set_option maxRecDepth 20000 in
theorem gX7_textAt_X7_longOf : GoodIn wsX7_textAt (va_wsS RX7 124 yX7_longOf wsX7_longOf) := goodIn_app (goodIn_of _ (by decide +kernel)) ggX7_textAt_X7_longOf
set_option maxRecDepth 20000 in
theorem ggX7_textAt_X7_letter : GoodIn wsX7_textAt wsX7_letter := goodIn_r _ [29] (by decide +kernel) (by decide +kernel)
set_option maxRecDepth 20000 in
theorem gX7_textAt_X7_letter : GoodIn wsX7_textAt (va_wsS RX7 128 yX7_letter wsX7_letter) := goodIn_app (goodIn_of _ (by decide +kernel)) ggX7_textAt_X7_letter
set_option maxRecDepth 20000 in
theorem ggX7_textAt_X7_many : GoodIn wsX7_textAt wsX7_many := goodIn_r _ [23] (by decide +kernel) (by decide +kernel)
set_option maxRecDepth 20000 in
theorem gX7_textAt_X7_many : GoodIn wsX7_textAt (va_wsS RX7 40 yX7_many wsX7_many) := goodIn_app (goodIn_of _ (by decide +kernel)) ggX7_textAt_X7_many
theorem dX7_textAt_0 : decode cX7_textAt 0 = .ok (.iload_n 1, 1) := by decide +kernel
theorem dX7_textAt_1 : decode cX7_textAt 1 = .ok (.invokestatic 48, 3) := by decide +kernel
theorem dX7_textAt_4 : decode cX7_textAt 4 = .ok (.ifCond .eq 7, 3) := by decide +kernel
theorem dX7_textAt_7 : decode cX7_textAt 7 = .ok (.iload_n 2, 1) := by decide +kernel
theorem dX7_textAt_8 : decode cX7_textAt 8 = .ok (.ifCond .ge 5, 3) := by decide +kernel
theorem dX7_textAt_11 : decode cX7_textAt 11 = .ok (.iconst (-1), 1) := by decide +kernel
theorem dX7_textAt_12 : decode cX7_textAt 12 = .ok (.ireturn, 1) := by decide +kernel
theorem dX7_textAt_13 : decode cX7_textAt 13 = .ok (.aload_n 0, 1) := by decide +kernel
theorem dX7_textAt_14 : decode cX7_textAt 14 = .ok (.getfield 13, 3) := by decide +kernel
theorem dX7_textAt_17 : decode cX7_textAt 17 = .ok (.iload_n 1, 1) := by decide +kernel
theorem dX7_textAt_18 : decode cX7_textAt 18 = .ok (.laload, 1) := by decide +kernel
theorem dX7_textAt_19 : decode cX7_textAt 19 = .ok (.lconst 0, 1) := by decide +kernel
theorem dX7_textAt_20 : decode cX7_textAt 20 = .ok (.lcmp, 1) := by decide +kernel
theorem dX7_textAt_21 : decode cX7_textAt 21 = .ok (.ifCond .ne 15, 3) := by decide +kernel
theorem dX7_textAt_24 : decode cX7_textAt 24 = .ok (.iload_n 2, 1) := by decide +kernel
theorem dX7_textAt_25 : decode cX7_textAt 25 = .ok (.ifCond .ne 8, 3) := by decide +kernel
theorem dX7_textAt_28 : decode cX7_textAt 28 = .ok (.bipush 48, 2) := by decide +kernel
theorem dX7_textAt_30 : decode cX7_textAt 30 = .ok (.goto 5, 3) := by decide +kernel
theorem dX7_textAt_33 : decode cX7_textAt 33 = .ok (.bipush (-4), 2) := by decide +kernel
theorem dX7_textAt_35 : decode cX7_textAt 35 = .ok (.ireturn, 1) := by decide +kernel
theorem dX7_textAt_36 : decode cX7_textAt 36 = .ok (.iload_n 2, 1) := by decide +kernel
theorem dX7_textAt_37 : decode cX7_textAt 37 = .ok (.istore_n 3, 1) := by decide +kernel
theorem dX7_textAt_38 : decode cX7_textAt 38 = .ok (.aload_n 0, 1) := by decide +kernel
theorem dX7_textAt_39 : decode cX7_textAt 39 = .ok (.getfield 13, 3) := by decide +kernel
theorem dX7_textAt_42 : decode cX7_textAt 42 = .ok (.iload_n 1, 1) := by decide +kernel
theorem dX7_textAt_43 : decode cX7_textAt 43 = .ok (.laload, 1) := by decide +kernel
theorem dX7_textAt_44 : decode cX7_textAt 44 = .ok (.lstore 4, 2) := by decide +kernel
theorem dX7_textAt_46 : decode cX7_textAt 46 = .ok (.lload 4, 2) := by decide +kernel
theorem dX7_textAt_48 : decode cX7_textAt 48 = .ok (.lconst 0, 1) := by decide +kernel
theorem dX7_textAt_49 : decode cX7_textAt 49 = .ok (.lcmp, 1) := by decide +kernel
theorem dX7_textAt_50 : decode cX7_textAt 50 = .ok (.ifCond .eq 72, 3) := by decide +kernel
theorem dX7_textAt_53 : decode cX7_textAt 53 = .ok (.aload_n 0, 1) := by decide +kernel
theorem dX7_textAt_54 : decode cX7_textAt 54 = .ok (.lload 4, 2) := by decide +kernel
theorem dX7_textAt_56 : decode cX7_textAt 56 = .ok (.iconst 0, 1) := by decide +kernel
theorem dX7_textAt_57 : decode cX7_textAt 57 = .ok (.invokevirtual 97, 3) := by decide +kernel
theorem dX7_textAt_60 : decode cX7_textAt 60 = .ok (.istore 6, 2) := by decide +kernel
theorem dX7_textAt_62 : decode cX7_textAt 62 = .ok (.iload_n 3, 1) := by decide +kernel
theorem dX7_textAt_63 : decode cX7_textAt 63 = .ok (.iload 6, 2) := by decide +kernel
theorem dX7_textAt_65 : decode cX7_textAt 65 = .ok (.invokestatic 124, 3) := by decide +kernel
theorem dX7_textAt_68 : decode cX7_textAt 68 = .ok (.if_icmp .ge 10, 3) := by decide +kernel
theorem dX7_textAt_71 : decode cX7_textAt 71 = .ok (.iload 6, 2) := by decide +kernel
theorem dX7_textAt_73 : decode cX7_textAt 73 = .ok (.iload_n 3, 1) := by decide +kernel
theorem dX7_textAt_74 : decode cX7_textAt 74 = .ok (.invokestatic 128, 3) := by decide +kernel
theorem dX7_textAt_77 : decode cX7_textAt 77 = .ok (.ireturn, 1) := by decide +kernel
theorem dX7_textAt_78 : decode cX7_textAt 78 = .ok (.iload_n 3, 1) := by decide +kernel
theorem dX7_textAt_79 : decode cX7_textAt 79 = .ok (.iload 6, 2) := by decide +kernel
theorem dX7_textAt_81 : decode cX7_textAt 81 = .ok (.invokestatic 124, 3) := by decide +kernel
theorem dX7_textAt_84 : decode cX7_textAt 84 = .ok (.isub, 1) := by decide +kernel
theorem dX7_textAt_85 : decode cX7_textAt 85 = .ok (.istore_n 3, 1) := by decide +kernel
theorem dX7_textAt_86 : decode cX7_textAt 86 = .ok (.iload_n 3, 1) := by decide +kernel
theorem dX7_textAt_87 : decode cX7_textAt 87 = .ok (.ifCond .ne 15, 3) := by decide +kernel
theorem dX7_textAt_90 : decode cX7_textAt 90 = .ok (.lload 4, 2) := by decide +kernel
theorem dX7_textAt_92 : decode cX7_textAt 92 = .ok (.invokestatic 40, 3) := by decide +kernel
theorem dX7_textAt_95 : decode cX7_textAt 95 = .ok (.iconst 1, 1) := by decide +kernel
theorem dX7_textAt_96 : decode cX7_textAt 96 = .ok (.if_icmp .le 6, 3) := by decide +kernel
theorem dX7_textAt_99 : decode cX7_textAt 99 = .ok (.bipush 43, 2) := by decide +kernel
theorem dX7_textAt_101 : decode cX7_textAt 101 = .ok (.ireturn, 1) := by decide +kernel
theorem dX7_textAt_102 : decode cX7_textAt 102 = .ok (.iinc 3 (-1), 3) := by decide +kernel
theorem dX7_textAt_105 : decode cX7_textAt 105 = .ok (.lload 4, 2) := by decide +kernel
theorem dX7_textAt_107 : decode cX7_textAt 107 = .ok (.lconst 1, 1) := by decide +kernel
theorem dX7_textAt_108 : decode cX7_textAt 108 = .ok (.aload_n 0, 1) := by decide +kernel
theorem dX7_textAt_109 : decode cX7_textAt 109 = .ok (.lload 4, 2) := by decide +kernel
theorem dX7_textAt_111 : decode cX7_textAt 111 = .ok (.iconst 0, 1) := by decide +kernel
theorem dX7_textAt_112 : decode cX7_textAt 112 = .ok (.invokevirtual 97, 3) := by decide +kernel
theorem dX7_textAt_115 : decode cX7_textAt 115 = .ok (.lshl, 1) := by decide +kernel
theorem dX7_textAt_116 : decode cX7_textAt 116 = .ok (.lxor, 1) := by decide +kernel
theorem dX7_textAt_117 : decode cX7_textAt 117 = .ok (.lstore 4, 2) := by decide +kernel
theorem dX7_textAt_119 : decode cX7_textAt 119 = .ok (.goto (-73), 3) := by decide +kernel
theorem dX7_textAt_122 : decode cX7_textAt 122 = .ok (.bipush (-4), 2) := by decide +kernel
theorem dX7_textAt_124 : decode cX7_textAt 124 = .ok (.ireturn, 1) := by decide +kernel
theorem dJ6_bitCount_0f7a4_0 : decode cJ6_bitCount_0f7a4 0 = .ok (.iload_n 0, 1) := by decide +kernel
theorem dJ6_bitCount_0f7a4_1 : decode cJ6_bitCount_0f7a4 1 = .ok (.iload_n 0, 1) := by decide +kernel
theorem dJ6_bitCount_0f7a4_2 : decode cJ6_bitCount_0f7a4 2 = .ok (.iconst 1, 1) := by decide +kernel
theorem dJ6_bitCount_0f7a4_3 : decode cJ6_bitCount_0f7a4 3 = .ok (.iushr, 1) := by decide +kernel
theorem dJ6_bitCount_0f7a4_4 : decode cJ6_bitCount_0f7a4 4 = .ok (.ldc_w 265, 3) := by decide +kernel
theorem dJ6_bitCount_0f7a4_7 : decode cJ6_bitCount_0f7a4 7 = .ok (.iand, 1) := by decide +kernel
theorem dJ6_bitCount_0f7a4_8 : decode cJ6_bitCount_0f7a4 8 = .ok (.isub, 1) := by decide +kernel
theorem dJ6_bitCount_0f7a4_9 : decode cJ6_bitCount_0f7a4 9 = .ok (.istore_n 0, 1) := by decide +kernel
theorem dJ6_bitCount_0f7a4_10 : decode cJ6_bitCount_0f7a4 10 = .ok (.iload_n 0, 1) := by decide +kernel
theorem dJ6_bitCount_0f7a4_11 : decode cJ6_bitCount_0f7a4 11 = .ok (.ldc_w 266, 3) := by decide +kernel
theorem dJ6_bitCount_0f7a4_14 : decode cJ6_bitCount_0f7a4 14 = .ok (.iand, 1) := by decide +kernel
theorem dJ6_bitCount_0f7a4_15 : decode cJ6_bitCount_0f7a4 15 = .ok (.iload_n 0, 1) := by decide +kernel
theorem dJ6_bitCount_0f7a4_16 : decode cJ6_bitCount_0f7a4 16 = .ok (.iconst 2, 1) := by decide +kernel
theorem dJ6_bitCount_0f7a4_17 : decode cJ6_bitCount_0f7a4 17 = .ok (.iushr, 1) := by decide +kernel
theorem dJ6_bitCount_0f7a4_18 : decode cJ6_bitCount_0f7a4 18 = .ok (.ldc_w 266, 3) := by decide +kernel
theorem dJ6_bitCount_0f7a4_21 : decode cJ6_bitCount_0f7a4 21 = .ok (.iand, 1) := by decide +kernel
theorem dJ6_bitCount_0f7a4_22 : decode cJ6_bitCount_0f7a4 22 = .ok (.iadd, 1) := by decide +kernel
theorem dJ6_bitCount_0f7a4_23 : decode cJ6_bitCount_0f7a4 23 = .ok (.istore_n 0, 1) := by decide +kernel
theorem dJ6_bitCount_0f7a4_24 : decode cJ6_bitCount_0f7a4 24 = .ok (.iload_n 0, 1) := by decide +kernel
theorem dJ6_bitCount_0f7a4_25 : decode cJ6_bitCount_0f7a4 25 = .ok (.iload_n 0, 1) := by decide +kernel
theorem dJ6_bitCount_0f7a4_26 : decode cJ6_bitCount_0f7a4 26 = .ok (.iconst 4, 1) := by decide +kernel
theorem dJ6_bitCount_0f7a4_27 : decode cJ6_bitCount_0f7a4 27 = .ok (.iushr, 1) := by decide +kernel
theorem dJ6_bitCount_0f7a4_28 : decode cJ6_bitCount_0f7a4 28 = .ok (.iadd, 1) := by decide +kernel
theorem dJ6_bitCount_0f7a4_29 : decode cJ6_bitCount_0f7a4 29 = .ok (.ldc_w 267, 3) := by decide +kernel
theorem dJ6_bitCount_0f7a4_32 : decode cJ6_bitCount_0f7a4 32 = .ok (.iand, 1) := by decide +kernel
theorem dJ6_bitCount_0f7a4_33 : decode cJ6_bitCount_0f7a4 33 = .ok (.istore_n 0, 1) := by decide +kernel
theorem dJ6_bitCount_0f7a4_34 : decode cJ6_bitCount_0f7a4 34 = .ok (.iload_n 0, 1) := by decide +kernel
theorem dJ6_bitCount_0f7a4_35 : decode cJ6_bitCount_0f7a4 35 = .ok (.iload_n 0, 1) := by decide +kernel
theorem dJ6_bitCount_0f7a4_36 : decode cJ6_bitCount_0f7a4 36 = .ok (.bipush 8, 2) := by decide +kernel
theorem dJ6_bitCount_0f7a4_38 : decode cJ6_bitCount_0f7a4 38 = .ok (.iushr, 1) := by decide +kernel
theorem dJ6_bitCount_0f7a4_39 : decode cJ6_bitCount_0f7a4 39 = .ok (.iadd, 1) := by decide +kernel
theorem dJ6_bitCount_0f7a4_40 : decode cJ6_bitCount_0f7a4 40 = .ok (.istore_n 0, 1) := by decide +kernel
theorem dJ6_bitCount_0f7a4_41 : decode cJ6_bitCount_0f7a4 41 = .ok (.iload_n 0, 1) := by decide +kernel
theorem dJ6_bitCount_0f7a4_42 : decode cJ6_bitCount_0f7a4 42 = .ok (.iload_n 0, 1) := by decide +kernel
theorem dJ6_bitCount_0f7a4_43 : decode cJ6_bitCount_0f7a4 43 = .ok (.bipush 16, 2) := by decide +kernel
theorem dJ6_bitCount_0f7a4_45 : decode cJ6_bitCount_0f7a4 45 = .ok (.iushr, 1) := by decide +kernel
theorem dJ6_bitCount_0f7a4_46 : decode cJ6_bitCount_0f7a4 46 = .ok (.iadd, 1) := by decide +kernel
theorem dJ6_bitCount_0f7a4_47 : decode cJ6_bitCount_0f7a4 47 = .ok (.istore_n 0, 1) := by decide +kernel
theorem dJ6_bitCount_0f7a4_48 : decode cJ6_bitCount_0f7a4 48 = .ok (.iload_n 0, 1) := by decide +kernel
theorem dJ6_bitCount_0f7a4_49 : decode cJ6_bitCount_0f7a4 49 = .ok (.bipush 63, 2) := by decide +kernel
theorem dJ6_bitCount_0f7a4_51 : decode cJ6_bitCount_0f7a4 51 = .ok (.iand, 1) := by decide +kernel
theorem dJ6_bitCount_0f7a4_52 : decode cJ6_bitCount_0f7a4 52 = .ok (.ireturn, 1) := by decide +kernel
theorem dJ13_bitCount_95d88_0 : decode cJ13_bitCount_95d88 0 = .ok (.lload_n 0, 1) := by decide +kernel
theorem dJ13_bitCount_95d88_1 : decode cJ13_bitCount_95d88 1 = .ok (.lload_n 0, 1) := by decide +kernel
theorem dJ13_bitCount_95d88_2 : decode cJ13_bitCount_95d88 2 = .ok (.iconst 1, 1) := by decide +kernel
theorem dJ13_bitCount_95d88_3 : decode cJ13_bitCount_95d88 3 = .ok (.lushr, 1) := by decide +kernel
theorem dJ13_bitCount_95d88_4 : decode cJ13_bitCount_95d88 4 = .ok (.ldc2_w 314, 3) := by decide +kernel
theorem dJ13_bitCount_95d88_7 : decode cJ13_bitCount_95d88 7 = .ok (.land, 1) := by decide +kernel
theorem dJ13_bitCount_95d88_8 : decode cJ13_bitCount_95d88 8 = .ok (.lsub, 1) := by decide +kernel
theorem dJ13_bitCount_95d88_9 : decode cJ13_bitCount_95d88 9 = .ok (.lstore_n 0, 1) := by decide +kernel
theorem dJ13_bitCount_95d88_10 : decode cJ13_bitCount_95d88 10 = .ok (.lload_n 0, 1) := by decide +kernel
theorem dJ13_bitCount_95d88_11 : decode cJ13_bitCount_95d88 11 = .ok (.ldc2_w 316, 3) := by decide +kernel
theorem dJ13_bitCount_95d88_14 : decode cJ13_bitCount_95d88 14 = .ok (.land, 1) := by decide +kernel
theorem dJ13_bitCount_95d88_15 : decode cJ13_bitCount_95d88 15 = .ok (.lload_n 0, 1) := by decide +kernel
theorem dJ13_bitCount_95d88_16 : decode cJ13_bitCount_95d88 16 = .ok (.iconst 2, 1) := by decide +kernel
theorem dJ13_bitCount_95d88_17 : decode cJ13_bitCount_95d88 17 = .ok (.lushr, 1) := by decide +kernel
theorem dJ13_bitCount_95d88_18 : decode cJ13_bitCount_95d88 18 = .ok (.ldc2_w 316, 3) := by decide +kernel
theorem dJ13_bitCount_95d88_21 : decode cJ13_bitCount_95d88 21 = .ok (.land, 1) := by decide +kernel
theorem dJ13_bitCount_95d88_22 : decode cJ13_bitCount_95d88 22 = .ok (.ladd, 1) := by decide +kernel
theorem dJ13_bitCount_95d88_23 : decode cJ13_bitCount_95d88 23 = .ok (.lstore_n 0, 1) := by decide +kernel
theorem dJ13_bitCount_95d88_24 : decode cJ13_bitCount_95d88 24 = .ok (.lload_n 0, 1) := by decide +kernel
theorem dJ13_bitCount_95d88_25 : decode cJ13_bitCount_95d88 25 = .ok (.lload_n 0, 1) := by decide +kernel
theorem dJ13_bitCount_95d88_26 : decode cJ13_bitCount_95d88 26 = .ok (.iconst 4, 1) := by decide +kernel
theorem dJ13_bitCount_95d88_27 : decode cJ13_bitCount_95d88 27 = .ok (.lushr, 1) := by decide +kernel
theorem dJ13_bitCount_95d88_28 : decode cJ13_bitCount_95d88 28 = .ok (.ladd, 1) := by decide +kernel
theorem dJ13_bitCount_95d88_29 : decode cJ13_bitCount_95d88 29 = .ok (.ldc2_w 318, 3) := by decide +kernel
theorem dJ13_bitCount_95d88_32 : decode cJ13_bitCount_95d88 32 = .ok (.land, 1) := by decide +kernel
theorem dJ13_bitCount_95d88_33 : decode cJ13_bitCount_95d88 33 = .ok (.lstore_n 0, 1) := by decide +kernel
theorem dJ13_bitCount_95d88_34 : decode cJ13_bitCount_95d88 34 = .ok (.lload_n 0, 1) := by decide +kernel
theorem dJ13_bitCount_95d88_35 : decode cJ13_bitCount_95d88 35 = .ok (.lload_n 0, 1) := by decide +kernel
theorem dJ13_bitCount_95d88_36 : decode cJ13_bitCount_95d88 36 = .ok (.bipush 8, 2) := by decide +kernel
theorem dJ13_bitCount_95d88_38 : decode cJ13_bitCount_95d88 38 = .ok (.lushr, 1) := by decide +kernel
theorem dJ13_bitCount_95d88_39 : decode cJ13_bitCount_95d88 39 = .ok (.ladd, 1) := by decide +kernel
theorem dJ13_bitCount_95d88_40 : decode cJ13_bitCount_95d88 40 = .ok (.lstore_n 0, 1) := by decide +kernel
theorem dJ13_bitCount_95d88_41 : decode cJ13_bitCount_95d88 41 = .ok (.lload_n 0, 1) := by decide +kernel
theorem dJ13_bitCount_95d88_42 : decode cJ13_bitCount_95d88 42 = .ok (.lload_n 0, 1) := by decide +kernel
theorem dJ13_bitCount_95d88_43 : decode cJ13_bitCount_95d88 43 = .ok (.bipush 16, 2) := by decide +kernel
theorem dJ13_bitCount_95d88_45 : decode cJ13_bitCount_95d88 45 = .ok (.lushr, 1) := by decide +kernel
theorem dJ13_bitCount_95d88_46 : decode cJ13_bitCount_95d88 46 = .ok (.ladd, 1) := by decide +kernel
theorem dJ13_bitCount_95d88_47 : decode cJ13_bitCount_95d88 47 = .ok (.lstore_n 0, 1) := by decide +kernel
theorem dJ13_bitCount_95d88_48 : decode cJ13_bitCount_95d88 48 = .ok (.lload_n 0, 1) := by decide +kernel
theorem dJ13_bitCount_95d88_49 : decode cJ13_bitCount_95d88 49 = .ok (.lload_n 0, 1) := by decide +kernel
theorem dJ13_bitCount_95d88_50 : decode cJ13_bitCount_95d88 50 = .ok (.bipush 32, 2) := by decide +kernel
theorem dJ13_bitCount_95d88_52 : decode cJ13_bitCount_95d88 52 = .ok (.lushr, 1) := by decide +kernel
theorem dJ13_bitCount_95d88_53 : decode cJ13_bitCount_95d88 53 = .ok (.ladd, 1) := by decide +kernel
theorem dJ13_bitCount_95d88_54 : decode cJ13_bitCount_95d88 54 = .ok (.lstore_n 0, 1) := by decide +kernel
theorem dJ13_bitCount_95d88_55 : decode cJ13_bitCount_95d88 55 = .ok (.lload_n 0, 1) := by decide +kernel
theorem dJ13_bitCount_95d88_56 : decode cJ13_bitCount_95d88 56 = .ok (.l2i, 1) := by decide +kernel
theorem dJ13_bitCount_95d88_57 : decode cJ13_bitCount_95d88 57 = .ok (.bipush 127, 2) := by decide +kernel
theorem dJ13_bitCount_95d88_59 : decode cJ13_bitCount_95d88 59 = .ok (.iand, 1) := by decide +kernel
theorem dJ13_bitCount_95d88_60 : decode cJ13_bitCount_95d88 60 = .ok (.ireturn, 1) := by decide +kernel
theorem dJ9_max_7cf53_0 : decode cJ9_max_7cf53 0 = .ok (.iload_n 0, 1) := by decide +kernel
theorem dJ9_max_7cf53_1 : decode cJ9_max_7cf53 1 = .ok (.iload_n 1, 1) := by decide +kernel
theorem dJ9_max_7cf53_2 : decode cJ9_max_7cf53 2 = .ok (.if_icmp .lt 7, 3) := by decide +kernel
theorem dJ9_max_7cf53_5 : decode cJ9_max_7cf53 5 = .ok (.iload_n 0, 1) := by decide +kernel
theorem dJ9_max_7cf53_6 : decode cJ9_max_7cf53 6 = .ok (.goto 4, 3) := by decide +kernel
theorem dJ9_max_7cf53_9 : decode cJ9_max_7cf53 9 = .ok (.iload_n 1, 1) := by decide +kernel
theorem dJ9_max_7cf53_10 : decode cJ9_max_7cf53 10 = .ok (.ireturn, 1) := by decide +kernel
theorem dJ9_min_7cf53_0 : decode cJ9_min_7cf53 0 = .ok (.iload_n 0, 1) := by decide +kernel
theorem dJ9_min_7cf53_1 : decode cJ9_min_7cf53 1 = .ok (.iload_n 1, 1) := by decide +kernel
theorem dJ9_min_7cf53_2 : decode cJ9_min_7cf53 2 = .ok (.if_icmp .gt 7, 3) := by decide +kernel
theorem dJ9_min_7cf53_5 : decode cJ9_min_7cf53 5 = .ok (.iload_n 0, 1) := by decide +kernel
theorem dJ9_min_7cf53_6 : decode cJ9_min_7cf53 6 = .ok (.goto 4, 3) := by decide +kernel
theorem dJ9_min_7cf53_9 : decode cJ9_min_7cf53 9 = .ok (.iload_n 1, 1) := by decide +kernel
theorem dJ9_min_7cf53_10 : decode cJ9_min_7cf53 10 = .ok (.ireturn, 1) := by decide +kernel
theorem dJ7_fill_d0a16_0 : decode cJ7_fill_d0a16 0 = .ok (.iconst 0, 1) := by decide +kernel
theorem dJ7_fill_d0a16_1 : decode cJ7_fill_d0a16 1 = .ok (.istore_n 3, 1) := by decide +kernel
theorem dJ7_fill_d0a16_2 : decode cJ7_fill_d0a16 2 = .ok (.aload_n 0, 1) := by decide +kernel
theorem dJ7_fill_d0a16_3 : decode cJ7_fill_d0a16 3 = .ok (.arraylength, 1) := by decide +kernel
theorem dJ7_fill_d0a16_4 : decode cJ7_fill_d0a16 4 = .ok (.istore 4, 2) := by decide +kernel
theorem dJ7_fill_d0a16_6 : decode cJ7_fill_d0a16 6 = .ok (.iload_n 3, 1) := by decide +kernel
theorem dJ7_fill_d0a16_7 : decode cJ7_fill_d0a16 7 = .ok (.iload 4, 2) := by decide +kernel
theorem dJ7_fill_d0a16_9 : decode cJ7_fill_d0a16 9 = .ok (.if_icmp .ge 13, 3) := by decide +kernel
theorem dJ7_fill_d0a16_12 : decode cJ7_fill_d0a16 12 = .ok (.aload_n 0, 1) := by decide +kernel
theorem dJ7_fill_d0a16_13 : decode cJ7_fill_d0a16 13 = .ok (.iload_n 3, 1) := by decide +kernel
theorem dJ7_fill_d0a16_14 : decode cJ7_fill_d0a16 14 = .ok (.lload_n 1, 1) := by decide +kernel
theorem dJ7_fill_d0a16_15 : decode cJ7_fill_d0a16 15 = .ok (.lastore, 1) := by decide +kernel
theorem dJ7_fill_d0a16_16 : decode cJ7_fill_d0a16 16 = .ok (.iinc 3 1, 3) := by decide +kernel
theorem dJ7_fill_d0a16_19 : decode cJ7_fill_d0a16 19 = .ok (.goto (-13), 3) := by decide +kernel
theorem dJ7_fill_d0a16_22 : decode cJ7_fill_d0a16 22 = .ok (.return_, 1) := by decide +kernel
set_option maxRecDepth 20000 in
theorem ggL_law_X6_init : GoodIn wsL_law wsX6_init := goodIn_r _ [8, 9, 10, 11, 12, 13, 14, 15, 16, 17, 18, 19, 20, 21, 22, 23, 24, 25, 26, 27, 28, 29, 30, 31, 32, 33, 34, 35, 36, 37, 38, 39, 40, 41, 42, 43, 44, 663, 664, 665, 666, 667, 668, 678, 679, 680, 681, 682, 683] (by decide +kernel) (by decide +kernel)
set_option maxRecDepth 20000 in
theorem gL_law_X6_init : GoodIn wsL_law (wsX6_init) := ggL_law_X6_init
set_option maxRecDepth 20000 in
theorem ggL_law_X7_init : GoodIn wsL_law wsX7_init := goodIn_r _ [47, 48, 10, 11, 49, 12, 50, 51, 42, 52, 53, 54, 669, 670, 671, 672, 673, 674, 675, 676, 677] (by decide +kernel) (by decide +kernel)
set_option maxRecDepth 20000 in
theorem gL_law_X7_init : GoodIn wsL_law (wsX7_init) := ggL_law_X7_init
set_option maxRecDepth 20000 in
theorem ggL_law_X6_reset : GoodIn wsL_law wsX6_reset := goodIn_r _ [58, 28, 13, 19, 59, 60, 61, 62, 63, 64, 65, 18, 66, 33, 663, 664, 665, 666, 667, 668, 678, 679] (by decide +kernel) (by decide +kernel)
set_option maxRecDepth 20000 in
theorem gL_law_X6_reset : GoodIn wsL_law (wsV RL 13 RX6 yX6_reset wsX6_reset) := goodIn_app (goodIn_of _ (by decide +kernel)) ggL_law_X6_reset
set_option maxRecDepth 20000 in
theorem ggL_law_X7_reset : GoodIn wsL_law wsX7_reset := goodIn_r _ [70, 49, 71, 50, 72, 73, 5, 74, 669, 670, 671, 672, 673, 674, 675, 676, 677] (by decide +kernel) (by decide +kernel)
set_option maxRecDepth 20000 in
theorem gL_law_X7_reset : GoodIn wsL_law (wsV RL 17 RX7 yX7_reset wsX7_reset) := goodIn_app (goodIn_of _ (by decide +kernel)) ggL_law_X7_reset
set_option maxRecDepth 20000 in
theorem ggL_law_X6_variables : GoodIn wsL_law wsX6_variables := goodIn_r _ [78, 28, 663, 664, 665, 666, 667, 668] (by decide +kernel) (by decide +kernel)
set_option maxRecDepth 20000 in
theorem gL_law_X6_variables : GoodIn wsL_law (wsV RL 18 RX6 yX6_variables wsX6_variables) := goodIn_app (goodIn_of _ (by decide +kernel)) ggL_law_X6_variables
set_option maxRecDepth 20000 in
theorem ggL_law_X7_variables : GoodIn wsL_law wsX7_variables := goodIn_r _ [82, 49, 669, 670, 671, 672, 673, 674, 675, 676, 677] (by decide +kernel) (by decide +kernel)
set_option maxRecDepth 20000 in
theorem gL_law_X7_variables : GoodIn wsL_law (wsV RL 22 RX7 yX7_variables wsX7_variables) := goodIn_app (goodIn_of _ (by decide +kernel)) ggL_law_X7_variables
set_option maxRecDepth 20000 in
theorem ggL_law_X6_toggle : GoodIn wsL_law wsX6_toggle := goodIn_r _ [86, 13, 87, 88, 2, 89, 90, 91, 92, 93, 28, 94, 95, 96, 97, 98, 99, 100, 101, 19, 102, 103, 104, 18, 105, 33, 32, 106, 107, 108, 109, 110, 111, 112, 113, 114, 115, 116, 663, 664, 665, 666, 667, 668, 678, 679] (by decide +kernel) (by decide +kernel)
set_option maxRecDepth 20000 in
theorem gL_law_X6_toggle : GoodIn wsL_law (wsV RL 23 RX6 yX6_toggle wsX6_toggle) := goodIn_app (goodIn_of _ (by decide +kernel)) ggL_law_X6_toggle
set_option maxRecDepth 20000 in
theorem ggL_law_X7_toggle : GoodIn wsL_law wsX7_toggle := goodIn_r _ [120, 50, 121, 122, 5, 123, 72, 73, 74, 124, 125, 126, 127, 49, 128, 129, 130, 131, 132, 133, 134, 135, 71, 51, 136, 137, 138, 669, 670, 671, 672, 673, 674, 675, 676, 677] (by decide +kernel) (by decide +kernel)
set_option maxRecDepth 20000 in
theorem gL_law_X7_toggle : GoodIn wsL_law (wsV RL 27 RX7 yX7_toggle wsX7_toggle) := goodIn_app (goodIn_of _ (by decide +kernel)) ggL_law_X7_toggle
set_option maxRecDepth 20000 in
theorem ggL_law_X6_copy : GoodIn wsL_law wsX6_copy := goodIn_r _ [142, 13, 87, 88, 2, 89, 98, 99, 100, 101, 19, 102, 103, 104, 18, 105, 33, 32, 106, 107, 108, 109, 110, 111, 112, 113, 114, 115, 116, 663, 664, 665, 666, 667, 668, 678, 679] (by decide +kernel) (by decide +kernel)
set_option maxRecDepth 20000 in
theorem gL_law_X6_copy : GoodIn wsL_law (wsV RL 28 RX6 yX6_copy wsX6_copy) := goodIn_app (goodIn_of _ (by decide +kernel)) ggL_law_X6_copy
set_option maxRecDepth 20000 in
theorem ggL_law_X7_copy : GoodIn wsL_law wsX7_copy := goodIn_r _ [146, 50, 121, 122, 5, 123, 72, 73, 74, 128, 129, 130, 131, 132, 133, 134, 135, 71, 51, 136, 137, 138, 669, 670, 671, 672, 673, 674, 675, 676, 677] (by decide +kernel) (by decide +kernel)
set_option maxRecDepth 20000 in
theorem gL_law_X7_copy : GoodIn wsL_law (wsV RL 31 RX7 yX7_copy wsX7_copy) := goodIn_app (goodIn_of _ (by decide +kernel)) ggL_law_X7_copy
set_option maxRecDepth 20000 in
theorem ggL_law_X6_sum : GoodIn wsL_law wsX6_sum := goodIn_r _ [150, 13, 87, 88, 2, 89, 98, 99, 100, 101, 19, 102, 103, 104, 18, 105, 33, 32, 106, 107, 108, 109, 110, 111, 112, 113, 114, 115, 116, 663, 664, 665, 666, 667, 668, 678, 679] (by decide +kernel) (by decide +kernel)
set_option maxRecDepth 20000 in
theorem gL_law_X6_sum : GoodIn wsL_law (wsV RL 32 RX6 yX6_sum wsX6_sum) := goodIn_app (goodIn_of _ (by decide +kernel)) ggL_law_X6_sum
set_option maxRecDepth 20000 in
theorem ggL_law_X7_sum : GoodIn wsL_law wsX7_sum := goodIn_r _ [154, 50, 121, 122, 5, 123, 72, 73, 74, 128, 129, 130, 131, 132, 133, 134, 135, 71, 51, 136, 137, 138, 669, 670, 671, 672, 673, 674, 675, 676, 677] (by decide +kernel) (by decide +kernel)
set_option maxRecDepth 20000 in
theorem gL_law_X7_sum : GoodIn wsL_law (wsV RL 36 RX7 yX7_sum wsX7_sum) := goodIn_app (goodIn_of _ (by decide +kernel)) ggL_law_X7_sum
set_option maxRecDepth 20000 in
theorem ggL_law_X6_product : GoodIn wsL_law wsX6_product := goodIn_r _ [158, 13, 28, 87, 88, 2, 89, 159, 160, 96, 161, 162, 163, 164, 165, 166, 167, 168, 169, 170, 171, 98, 99, 100, 101, 19, 102, 103, 104, 18, 105, 33, 32, 106, 107, 108, 109, 110, 111, 112, 113, 114, 115, 116, 663, 664, 665, 666, 667, 668, 678, 679] (by decide +kernel) (by decide +kernel)
set_option maxRecDepth 20000 in
theorem gL_law_X6_product : GoodIn wsL_law (wsV RL 37 RX6 yX6_product wsX6_product) := goodIn_app (goodIn_of _ (by decide +kernel)) ggL_law_X6_product
set_option maxRecDepth 20000 in
theorem ggL_law_X7_product : GoodIn wsL_law wsX7_product := goodIn_r _ [175, 50, 121, 122, 5, 123, 72, 73, 74, 176, 177, 178, 179, 49, 180, 181, 182, 128, 129, 130, 131, 132, 133, 134, 135, 71, 51, 136, 137, 138, 669, 670, 671, 672, 673, 674, 675, 676, 677] (by decide +kernel) (by decide +kernel)
set_option maxRecDepth 20000 in
theorem gL_law_X7_product : GoodIn wsL_law (wsV RL 40 RX7 yX7_product wsX7_product) := goodIn_app (goodIn_of _ (by decide +kernel)) ggL_law_X7_product
set_option maxRecDepth 20000 in
theorem ggL_law_X6_times : GoodIn wsL_law wsX6_times := goodIn_r _ [186, 13, 28, 87, 88, 2, 89, 90, 91, 92, 93, 94, 95, 96, 97, 159, 160, 161, 162, 163, 164, 165, 166, 167, 168, 169, 170, 171, 98, 99, 100, 101, 19, 102, 103, 104, 18, 105, 33, 32, 106, 107, 108, 109, 110, 111, 112, 113, 114, 115, 116, 663, 664, 665, 666, 667, 668, 678, 679] (by decide +kernel) (by decide +kernel)
set_option maxRecDepth 20000 in
theorem gL_law_X6_times : GoodIn wsL_law (wsV RL 41 RX6 yX6_times wsX6_times) := goodIn_app (goodIn_of _ (by decide +kernel)) ggL_law_X6_times
set_option maxRecDepth 20000 in
theorem ggL_law_X7_times : GoodIn wsL_law wsX7_times := goodIn_r _ [190, 50, 121, 122, 5, 123, 72, 73, 74, 124, 125, 126, 127, 49, 176, 177, 178, 179, 180, 181, 182, 128, 129, 130, 131, 132, 133, 134, 135, 71, 51, 136, 137, 138, 669, 670, 671, 672, 673, 674, 675, 676, 677] (by decide +kernel) (by decide +kernel)
set_option maxRecDepth 20000 in
theorem gL_law_X7_times : GoodIn wsL_law (wsV RL 44 RX7 yX7_times wsX7_times) := goodIn_app (goodIn_of _ (by decide +kernel)) ggL_law_X7_times
set_option maxRecDepth 20000 in
theorem ggL_law_X6_restrict : GoodIn wsL_law wsX6_restrict := goodIn_r _ [194, 13, 87, 88, 2, 89, 195, 196, 197, 198, 28, 199, 200, 96, 201, 168, 169, 170, 171, 202, 203, 204, 98, 99, 100, 101, 19, 102, 103, 104, 18, 105, 33, 32, 106, 107, 108, 109, 110, 111, 112, 113, 114, 115, 116, 663, 664, 665, 666, 667, 668, 678, 679] (by decide +kernel) (by decide +kernel)
set_option maxRecDepth 20000 in
theorem gL_law_X6_restrict : GoodIn wsL_law (wsV RL 45 RX6 yX6_restrict wsX6_restrict) := goodIn_app (goodIn_of _ (by decide +kernel)) ggL_law_X6_restrict
set_option maxRecDepth 20000 in
theorem ggL_law_X7_restrict : GoodIn wsL_law wsX7_restrict := goodIn_r _ [208, 50, 121, 122, 5, 123, 72, 73, 74, 209, 210, 211, 212, 49, 213, 214, 215, 216, 180, 181, 182, 217, 218, 219, 220, 128, 129, 130, 131, 132, 133, 134, 135, 71, 51, 136, 137, 138, 669, 670, 671, 672, 673, 674, 675, 676, 677] (by decide +kernel) (by decide +kernel)
set_option maxRecDepth 20000 in
theorem gL_law_X7_restrict : GoodIn wsL_law (wsV RL 49 RX7 yX7_restrict wsX7_restrict) := goodIn_app (goodIn_of _ (by decide +kernel)) ggL_law_X7_restrict
set_option maxRecDepth 20000 in
theorem ggL_law_X6_substitute : GoodIn wsL_law wsX6_substitute := goodIn_r _ [224, 13, 28, 87, 88, 2, 89, 195, 196, 197, 198, 202, 203, 96, 204, 168, 169, 170, 171, 199, 200, 201, 159, 160, 161, 162, 163, 164, 165, 166, 167, 98, 99, 100, 101, 19, 102, 103, 104, 18, 105, 33, 32, 106, 107, 108, 109, 110, 111, 112, 113, 114, 115, 116, 663, 664, 665, 666, 667, 668, 678, 679] (by decide +kernel) (by decide +kernel)
set_option maxRecDepth 20000 in
theorem gL_law_X6_substitute : GoodIn wsL_law (wsV RL 50 RX6 yX6_substitute wsX6_substitute) := goodIn_app (goodIn_of _ (by decide +kernel)) ggL_law_X6_substitute
set_option maxRecDepth 20000 in
theorem ggL_law_X7_substitute : GoodIn wsL_law wsX7_substitute := goodIn_r _ [228, 50, 121, 122, 5, 123, 72, 73, 74, 209, 210, 211, 212, 49, 213, 214, 215, 216, 180, 181, 182, 217, 218, 219, 220, 176, 177, 178, 179, 128, 129, 130, 131, 132, 133, 134, 135, 71, 51, 136, 137, 138, 669, 670, 671, 672, 673, 674, 675, 676, 677] (by decide +kernel) (by decide +kernel)
set_option maxRecDepth 20000 in
theorem gL_law_X7_substitute : GoodIn wsL_law (wsV RL 53 RX7 yX7_substitute wsX7_substitute) := goodIn_app (goodIn_of _ (by decide +kernel)) ggL_law_X7_substitute
set_option maxRecDepth 20000 in
theorem ggL_law_X6_derivative : GoodIn wsL_law wsX6_derivative := goodIn_r _ [232, 13, 87, 88, 2, 89, 195, 196, 197, 198, 28, 202, 203, 96, 204, 168, 169, 170, 171, 98, 99, 100, 101, 19, 102, 103, 104, 18, 105, 33, 32, 106, 107, 108, 109, 110, 111, 112, 113, 114, 115, 116, 663, 664, 665, 666, 667, 668, 678, 679] (by decide +kernel) (by decide +kernel)
set_option maxRecDepth 20000 in
theorem gL_law_X6_derivative : GoodIn wsL_law (wsV RL 54 RX6 yX6_derivative wsX6_derivative) := goodIn_app (goodIn_of _ (by decide +kernel)) ggL_law_X6_derivative
set_option maxRecDepth 20000 in
theorem ggL_law_X7_derivative : GoodIn wsL_law wsX7_derivative := goodIn_r _ [236, 50, 121, 122, 5, 123, 72, 73, 74, 209, 210, 211, 212, 49, 217, 218, 219, 220, 180, 181, 182, 128, 129, 130, 131, 132, 133, 134, 135, 71, 51, 136, 137, 138, 669, 670, 671, 672, 673, 674, 675, 676, 677] (by decide +kernel) (by decide +kernel)
set_option maxRecDepth 20000 in
theorem gL_law_X7_derivative : GoodIn wsL_law (wsV RL 57 RX7 yX7_derivative wsX7_derivative) := goodIn_app (goodIn_of _ (by decide +kernel)) ggL_law_X7_derivative
set_option maxRecDepth 20000 in
theorem ggL_law_X6_flip : GoodIn wsL_law wsX6_flip := goodIn_r _ [240, 28, 13, 87, 88, 2, 89, 90, 91, 92, 93, 241, 163, 96, 164, 165, 166, 167, 168, 169, 170, 171, 98, 99, 100, 101, 19, 102, 103, 104, 18, 105, 33, 32, 106, 107, 108, 109, 110, 111, 112, 113, 114, 115, 116, 663, 664, 665, 666, 667, 668, 678, 679] (by decide +kernel) (by decide +kernel)
set_option maxRecDepth 20000 in
theorem gL_law_X6_flip : GoodIn wsL_law (wsV RL 58 RX6 yX6_flip wsX6_flip) := goodIn_app (goodIn_of _ (by decide +kernel)) ggL_law_X6_flip
set_option maxRecDepth 20000 in
theorem ggL_law_X7_flip : GoodIn wsL_law wsX7_flip := goodIn_r _ [245, 50, 121, 122, 5, 123, 72, 73, 74, 124, 125, 126, 127, 49, 246, 247, 248, 249, 180, 181, 182, 128, 129, 130, 131, 132, 133, 134, 135, 71, 51, 136, 137, 138, 669, 670, 671, 672, 673, 674, 675, 676, 677] (by decide +kernel) (by decide +kernel)
set_option maxRecDepth 20000 in
theorem gL_law_X7_flip : GoodIn wsL_law (wsV RL 61 RX7 yX7_flip wsX7_flip) := goodIn_app (goodIn_of _ (by decide +kernel)) ggL_law_X7_flip
set_option maxRecDepth 20000 in
theorem ggL_law_X6_exchange : GoodIn wsL_law wsX6_exchange := goodIn_r _ [253, 13, 254, 255, 256, 257, 258, 259, 260, 87, 88, 2, 89, 195, 196, 197, 198, 28, 261, 262, 96, 263, 264, 168, 169, 170, 171, 98, 99, 100, 101, 19, 102, 103, 104, 18, 105, 33, 32, 106, 107, 108, 109, 110, 111, 112, 113, 114, 115, 116, 663, 664, 665, 666, 667, 668, 678, 679] (by decide +kernel) (by decide +kernel)
set_option maxRecDepth 20000 in
theorem gL_law_X6_exchange : GoodIn wsL_law (wsV RL 62 RX6 yX6_exchange wsX6_exchange) := goodIn_app (goodIn_of _ (by decide +kernel)) ggL_law_X6_exchange
set_option maxRecDepth 20000 in
theorem ggL_law_X7_exchange : GoodIn wsL_law wsX7_exchange := goodIn_r _ [268, 49, 50, 121, 122, 5, 123, 72, 73, 74, 209, 210, 211, 212, 180, 181, 182, 128, 129, 130, 131, 132, 133, 134, 135, 71, 51, 136, 137, 138, 669, 670, 671, 672, 673, 674, 675, 676, 677] (by decide +kernel) (by decide +kernel)
set_option maxRecDepth 20000 in
theorem gL_law_X7_exchange : GoodIn wsL_law (wsV RL 65 RX7 yX7_exchange wsX7_exchange) := goodIn_app (goodIn_of _ (by decide +kernel)) ggL_law_X7_exchange
set_option maxRecDepth 20000 in
theorem ggL_law_X6_undo : GoodIn wsL_law wsX6_undo := goodIn_r _ [272, 19, 13, 273, 274, 275, 18, 276, 33, 277, 278, 279, 280, 32, 106, 107, 108, 109, 663, 664, 665, 666, 667, 668, 678, 679] (by decide +kernel) (by decide +kernel)
set_option maxRecDepth 20000 in
theorem gL_law_X6_undo : GoodIn wsL_law (wsV RL 66 RX6 yX6_undo wsX6_undo) := goodIn_app (goodIn_of _ (by decide +kernel)) ggL_law_X6_undo
set_option maxRecDepth 20000 in
theorem ggL_law_X7_undo : GoodIn wsL_law wsX7_undo := goodIn_r _ [284, 71, 50, 51, 669, 670, 671, 672, 673, 674, 675, 676, 677] (by decide +kernel) (by decide +kernel)
set_option maxRecDepth 20000 in
theorem gL_law_X7_undo : GoodIn wsL_law (wsV RL 69 RX7 yX7_undo wsX7_undo) := goodIn_app (goodIn_of _ (by decide +kernel)) ggL_law_X7_undo
set_option maxRecDepth 20000 in
theorem ggL_law_X6_has : GoodIn wsL_law wsX6_has := goodIn_r _ [288, 13, 87, 88, 2, 89, 90, 91, 92, 93, 28, 289, 290, 96, 291, 663, 664, 665, 666, 667, 668] (by decide +kernel) (by decide +kernel)
set_option maxRecDepth 20000 in
theorem gL_law_X6_has : GoodIn wsL_law (wsV RL 70 RX6 yX6_has wsX6_has) := goodIn_app (goodIn_of _ (by decide +kernel)) ggL_law_X6_has
set_option maxRecDepth 20000 in
theorem ggL_law_X7_has : GoodIn wsL_law wsX7_has := goodIn_r _ [295, 50, 121, 122, 5, 123, 72, 73, 74, 124, 125, 126, 127, 49, 180, 181, 182, 669, 670, 671, 672, 673, 674, 675, 676, 677] (by decide +kernel) (by decide +kernel)
set_option maxRecDepth 20000 in
theorem gL_law_X7_has : GoodIn wsL_law (wsV RL 73 RX7 yX7_has wsX7_has) := goodIn_app (goodIn_of _ (by decide +kernel)) ggL_law_X7_has
set_option maxRecDepth 20000 in
theorem ggL_law_X6_terms : GoodIn wsL_law wsX6_terms := goodIn_r _ [299, 13, 87, 88, 2, 89, 110, 111, 112, 113, 114, 115, 116, 663, 664, 665, 666, 667, 668] (by decide +kernel) (by decide +kernel)
set_option maxRecDepth 20000 in
theorem gL_law_X6_terms : GoodIn wsL_law (wsV RL 74 RX6 yX6_terms wsX6_terms) := goodIn_app (goodIn_of _ (by decide +kernel)) ggL_law_X6_terms
set_option maxRecDepth 20000 in
theorem ggL_law_X7_terms : GoodIn wsL_law wsX7_terms := goodIn_r _ [303, 50, 121, 122, 5, 123, 72, 73, 74, 136, 137, 138, 669, 670, 671, 672, 673, 674, 675, 676, 677] (by decide +kernel) (by decide +kernel)
set_option maxRecDepth 20000 in
theorem gL_law_X7_terms : GoodIn wsL_law (wsV RL 77 RX7 yX7_terms wsX7_terms) := goodIn_app (goodIn_of _ (by decide +kernel)) ggL_law_X7_terms
set_option maxRecDepth 20000 in
theorem ggL_law_X6_degree : GoodIn wsL_law wsX6_degree := goodIn_r _ [307, 13, 87, 88, 2, 89, 308, 309, 310, 311, 312, 111, 112, 113, 114, 115, 116, 313, 314, 315, 316, 317, 318, 319, 320, 321, 322, 290, 96, 291, 323, 324, 325, 326, 327, 328, 329, 663, 664, 665, 666, 667, 668] (by decide +kernel) (by decide +kernel)
set_option maxRecDepth 20000 in
theorem gL_law_X6_degree : GoodIn wsL_law (wsV RL 78 RX6 yX6_degree wsX6_degree) := goodIn_app (goodIn_of _ (by decide +kernel)) ggL_law_X6_degree
set_option maxRecDepth 20000 in
theorem ggL_law_X7_degree : GoodIn wsL_law wsX7_degree := goodIn_r _ [333, 49, 50, 121, 122, 5, 123, 72, 73, 74, 136, 137, 138, 180, 181, 182, 669, 670, 671, 672, 673, 674, 675, 676, 677] (by decide +kernel) (by decide +kernel)
set_option maxRecDepth 20000 in
theorem gL_law_X7_degree : GoodIn wsL_law (wsV RL 81 RX7 yX7_degree wsX7_degree) := goodIn_app (goodIn_of _ (by decide +kernel)) ggL_law_X7_degree
set_option maxRecDepth 20000 in
theorem ggL_law_X6_occurring : GoodIn wsL_law wsX6_occurring := goodIn_r _ [337, 28, 13, 87, 88, 2, 89, 202, 203, 96, 204, 168, 169, 170, 171, 663, 664, 665, 666, 667, 668] (by decide +kernel) (by decide +kernel)
set_option maxRecDepth 20000 in
theorem gL_law_X6_occurring : GoodIn wsL_law (wsV RL 82 RX6 yX6_occurring wsX6_occurring) := goodIn_app (goodIn_of _ (by decide +kernel)) ggL_law_X6_occurring
set_option maxRecDepth 20000 in
theorem ggL_law_X7_occurring : GoodIn wsL_law wsX7_occurring := goodIn_r _ [341, 50, 121, 122, 5, 123, 72, 73, 74, 342, 343, 344, 345, 49, 180, 181, 182, 669, 670, 671, 672, 673, 674, 675, 676, 677] (by decide +kernel) (by decide +kernel)
set_option maxRecDepth 20000 in
theorem gL_law_X7_occurring : GoodIn wsL_law (wsV RL 85 RX7 yX7_occurring wsX7_occurring) := goodIn_app (goodIn_of _ (by decide +kernel)) ggL_law_X7_occurring
set_option maxRecDepth 20000 in
theorem ggL_law_X6_size : GoodIn wsL_law wsX6_size := goodIn_r _ [349, 23, 13, 87, 88, 2, 89, 350, 351, 352, 22, 353, 38, 354, 355, 356, 357, 358, 37, 359, 360, 361, 362, 363, 364, 365, 366, 367, 368, 96, 369, 370, 203, 204, 168, 169, 170, 171, 371, 372, 373, 200, 201, 663, 664, 665, 666, 667, 668, 680, 681] (by decide +kernel) (by decide +kernel)
set_option maxRecDepth 20000 in
theorem gL_law_X6_size : GoodIn wsL_law (wsV RL 86 RX6 yX6_size wsX6_size) := goodIn_app (goodIn_of _ (by decide +kernel)) ggL_law_X6_size
set_option maxRecDepth 20000 in
theorem ggL_law_X7_size : GoodIn wsL_law wsX7_size := goodIn_r _ [377, 378, 50, 121, 122, 5, 123, 72, 73, 74, 379, 380, 381, 382, 53, 342, 343, 344, 345, 49, 180, 181, 182, 383, 384, 385, 386, 217, 218, 219, 220, 213, 214, 215, 216, 669, 670, 671, 672, 673, 674, 675, 676, 677] (by decide +kernel) (by decide +kernel)
set_option maxRecDepth 20000 in
theorem gL_law_X7_size : GoodIn wsL_law (wsV RL 89 RX7 yX7_size wsX7_size) := goodIn_app (goodIn_of _ (by decide +kernel)) ggL_law_X7_size
set_option maxRecDepth 20000 in
theorem ggL_law_X6_sharedSize : GoodIn wsL_law wsX6_sharedSize := goodIn_r _ [390, 23, 13, 350, 351, 352, 22, 353, 38, 354, 355, 356, 357, 358, 37, 359, 360, 361, 362, 363, 364, 365, 366, 367, 368, 96, 369, 370, 203, 204, 168, 169, 170, 171, 371, 372, 373, 200, 201, 663, 664, 665, 666, 667, 668, 680, 681] (by decide +kernel) (by decide +kernel)
set_option maxRecDepth 20000 in
theorem gL_law_X6_sharedSize : GoodIn wsL_law (wsV RL 90 RX6 yX6_sharedSize wsX6_sharedSize) := goodIn_app (goodIn_of _ (by decide +kernel)) ggL_law_X6_sharedSize
set_option maxRecDepth 20000 in
theorem ggL_law_X7_sharedSize : GoodIn wsL_law wsX7_sharedSize := goodIn_r _ [394, 378, 50, 379, 380, 381, 5, 382, 53, 342, 343, 344, 345, 49, 180, 181, 182, 383, 384, 385, 386, 217, 218, 219, 220, 213, 214, 215, 216, 669, 670, 671, 672, 673, 674, 675, 676, 677] (by decide +kernel) (by decide +kernel)
set_option maxRecDepth 20000 in
theorem gL_law_X7_sharedSize : GoodIn wsL_law (wsV RL 93 RX7 yX7_sharedSize wsX7_sharedSize) := goodIn_app (goodIn_of _ (by decide +kernel)) ggL_law_X7_sharedSize
set_option maxRecDepth 20000 in
theorem ggL_law_X6_termAt : GoodIn wsL_law wsX6_termAt := goodIn_r _ [398, 13, 87, 88, 2, 89, 399, 400, 401, 308, 309, 310, 311, 312, 111, 112, 113, 114, 115, 116, 313, 314, 315, 316, 317, 318, 319, 320, 321, 322, 290, 96, 291, 663, 664, 665, 666, 667, 668] (by decide +kernel) (by decide +kernel)
set_option maxRecDepth 20000 in
theorem gL_law_X6_termAt : GoodIn wsL_law (wsV RL 94 RX6 yX6_termAt wsX6_termAt) := goodIn_app (goodIn_of _ (by decide +kernel)) ggL_law_X6_termAt
set_option maxRecDepth 20000 in
theorem ggL_law_X7_termAt : GoodIn wsL_law wsX7_termAt := goodIn_r _ [405, 50, 121, 122, 5, 123, 72, 73, 74, 406, 407, 408, 409, 410, 411, 412, 49, 180, 181, 182, 413, 414, 415, 416, 136, 137, 138, 669, 670, 671, 672, 673, 674, 675, 676, 677] (by decide +kernel) (by decide +kernel)
set_option maxRecDepth 20000 in
theorem gL_law_X7_termAt : GoodIn wsL_law (wsV RL 97 RX7 yX7_termAt wsX7_termAt) := goodIn_app (goodIn_of _ (by decide +kernel)) ggL_law_X7_termAt
set_option maxRecDepth 20000 in
theorem ggL_law_X6_value : GoodIn wsL_law wsX6_value := goodIn_r _ [420, 13, 28, 87, 88, 2, 89, 90, 91, 92, 93, 241, 163, 96, 164, 165, 166, 167, 168, 169, 170, 171, 289, 290, 291, 663, 664, 665, 666, 667, 668] (by decide +kernel) (by decide +kernel)
set_option maxRecDepth 20000 in
theorem gL_law_X6_value : GoodIn wsL_law (wsV RL 98 RX6 yX6_value wsX6_value) := goodIn_app (goodIn_of _ (by decide +kernel)) ggL_law_X6_value
set_option maxRecDepth 20000 in
theorem ggL_law_X7_value : GoodIn wsL_law wsX7_value := goodIn_r _ [424, 50, 121, 122, 5, 123, 72, 73, 74, 124, 125, 126, 127, 49, 246, 247, 248, 249, 180, 181, 182, 669, 670, 671, 672, 673, 674, 675, 676, 677] (by decide +kernel) (by decide +kernel)
set_option maxRecDepth 20000 in
theorem gL_law_X7_value : GoodIn wsL_law (wsV RL 101 RX7 yX7_value wsX7_value) := goodIn_app (goodIn_of _ (by decide +kernel)) ggL_law_X7_value
set_option maxRecDepth 20000 in
theorem ggL_law_X6_isSame : GoodIn wsL_law wsX6_isSame := goodIn_r _ [428, 13, 87, 88, 2, 89, 663, 664, 665, 666, 667, 668] (by decide +kernel) (by decide +kernel)
set_option maxRecDepth 20000 in
theorem gL_law_X6_isSame : GoodIn wsL_law (wsV RL 102 RX6 yX6_isSame wsX6_isSame) := goodIn_app (goodIn_of _ (by decide +kernel)) ggL_law_X6_isSame
set_option maxRecDepth 20000 in
theorem ggL_law_X7_isSame : GoodIn wsL_law wsX7_isSame := goodIn_r _ [432, 50, 121, 122, 5, 123, 72, 73, 74, 669, 670, 671, 672, 673, 674, 675, 676, 677] (by decide +kernel) (by decide +kernel)
set_option maxRecDepth 20000 in
theorem gL_law_X7_isSame : GoodIn wsL_law (wsV RL 105 RX7 yX7_isSame wsX7_isSame) := goodIn_app (goodIn_of _ (by decide +kernel)) ggL_law_X7_isSame
set_option maxRecDepth 20000 in
theorem ggL_law_X6_reduce : GoodIn wsL_law wsX6_reduce := goodIn_r _ [436, 13, 15, 28, 87, 88, 2, 89, 437, 438, 439, 399, 400, 401, 440, 441, 442, 443, 308, 309, 310, 311, 312, 111, 112, 113, 114, 115, 116, 313, 314, 315, 316, 317, 318, 319, 320, 321, 322, 290, 96, 291, 444, 289, 445, 446, 447, 448, 449, 450, 451, 94, 95, 97, 159, 160, 161, 162, 163, 164, 165, 166, 167, 168, 169, 170, 171, 98, 99, 100, 101, 19, 102, 103, 104, 18, 105, 33, 32, 106, 107, 108, 109, 110, 663, 664, 665, 666, 667, 668, 678, 679] (by decide +kernel) (by decide +kernel)
set_option maxRecDepth 20000 in
theorem gL_law_X6_reduce : GoodIn wsL_law (wsV RL 106 RX6 yX6_reduce wsX6_reduce) := goodIn_app (goodIn_of _ (by decide +kernel)) ggL_law_X6_reduce
set_option maxRecDepth 20000 in
theorem ggL_law_X7_reduce : GoodIn wsL_law wsX7_reduce := goodIn_r _ [455, 54, 50, 456, 121, 122, 5, 123, 72, 73, 74, 457, 458, 459, 406, 407, 408, 409, 410, 411, 412, 49, 180, 181, 182, 413, 414, 415, 416, 136, 137, 138, 460, 461, 462, 463, 176, 177, 178, 179, 128, 129, 130, 131, 132, 133, 134, 135, 71, 51, 669, 670, 671, 672, 673, 674, 675, 676, 677] (by decide +kernel) (by decide +kernel)
set_option maxRecDepth 20000 in
theorem gL_law_X7_reduce : GoodIn wsL_law (wsV RL 109 RX7 yX7_reduce wsX7_reduce) := goodIn_app (goodIn_of _ (by decide +kernel)) ggL_law_X7_reduce
set_option maxRecDepth 20000 in
theorem ggL_law_X6_echelon : GoodIn wsL_law wsX6_echelon := goodIn_r _ [467, 19, 13, 437, 438, 2, 439, 399, 400, 401, 102, 103, 104, 18, 105, 33, 32, 106, 107, 108, 109, 468, 469, 470, 449, 450, 451, 444, 314, 310, 315, 316, 317, 318, 319, 320, 321, 471, 472, 473, 474, 87, 88, 89, 289, 290, 96, 291, 475, 476, 477, 478, 663, 664, 665, 666, 667, 668, 678, 679] (by decide +kernel) (by decide +kernel)
set_option maxRecDepth 20000 in
theorem gL_law_X6_echelon : GoodIn wsL_law (wsV RL 110 RX6 yX6_echelon wsX6_echelon) := goodIn_app (goodIn_of _ (by decide +kernel)) ggL_law_X6_echelon
set_option maxRecDepth 20000 in
theorem ggL_law_X7_echelon : GoodIn wsL_law wsX7_echelon := goodIn_r _ [482, 54, 50, 457, 458, 5, 459, 72, 73, 74, 406, 407, 408, 132, 133, 134, 135, 71, 51, 409, 410, 411, 412, 49, 180, 181, 182, 413, 414, 415, 416, 136, 137, 138, 669, 670, 671, 672, 673, 674, 675, 676, 677] (by decide +kernel) (by decide +kernel)
set_option maxRecDepth 20000 in
theorem gL_law_X7_echelon : GoodIn wsL_law (wsV RL 113 RX7 yX7_echelon wsX7_echelon) := goodIn_app (goodIn_of _ (by decide +kernel)) ggL_law_X7_echelon
set_option maxRecDepth 20000 in
theorem ggL_law_X6_zeros : GoodIn wsL_law wsX6_zeros := goodIn_r _ [486, 437, 438, 2, 439, 487, 488, 489, 490, 491, 492, 493, 494, 495, 28, 496, 497, 498, 499, 13, 449, 450, 451, 241, 163, 96, 164, 165, 166, 167, 168, 169, 170, 171, 110, 111, 112, 113, 114, 115, 116, 663, 664, 665, 666, 667, 668] (by decide +kernel) (by decide +kernel)
set_option maxRecDepth 20000 in
theorem gL_law_X6_zeros : GoodIn wsL_law (wsV RL 114 RX6 yX6_zeros wsX6_zeros) := goodIn_app (goodIn_of _ (by decide +kernel)) ggL_law_X6_zeros
set_option maxRecDepth 20000 in
theorem ggL_law_X7_zeros : GoodIn wsL_law wsX7_zeros := goodIn_r _ [503, 49, 457, 458, 5, 459, 72, 73, 74, 504, 505, 506, 507, 50, 246, 247, 248, 249, 180, 181, 182, 136, 137, 138, 669, 670, 671, 672, 673, 674, 675, 676, 677] (by decide +kernel) (by decide +kernel)
set_option maxRecDepth 20000 in
theorem gL_law_X7_zeros : GoodIn wsL_law (wsV RL 117 RX7 yX7_zeros wsX7_zeros) := goodIn_app (goodIn_of _ (by decide +kernel)) ggL_law_X7_zeros
set_option maxRecDepth 20000 in
theorem ggL_law_X6_zeroAt : GoodIn wsL_law wsX6_zeroAt := goodIn_r _ [511, 437, 438, 2, 439, 487, 488, 489, 490, 491, 492, 493, 494, 495, 28, 496, 497, 498, 499, 13, 449, 450, 451, 241, 163, 96, 164, 165, 166, 167, 168, 169, 170, 171, 289, 290, 291, 663, 664, 665, 666, 667, 668] (by decide +kernel) (by decide +kernel)
set_option maxRecDepth 20000 in
theorem gL_law_X6_zeroAt : GoodIn wsL_law (wsV RL 118 RX6 yX6_zeroAt wsX6_zeroAt) := goodIn_app (goodIn_of _ (by decide +kernel)) ggL_law_X6_zeroAt
set_option maxRecDepth 20000 in
theorem ggL_law_X7_zeroAt : GoodIn wsL_law wsX7_zeroAt := goodIn_r _ [515, 49, 457, 458, 5, 459, 72, 73, 74, 504, 505, 506, 507, 50, 246, 247, 248, 249, 180, 181, 182, 669, 670, 671, 672, 673, 674, 675, 676, 677] (by decide +kernel) (by decide +kernel)
set_option maxRecDepth 20000 in
theorem gL_law_X7_zeroAt : GoodIn wsL_law (wsV RL 121 RX7 yX7_zeroAt wsX7_zeroAt) := goodIn_app (goodIn_of _ (by decide +kernel)) ggL_law_X7_zeroAt
set_option maxRecDepth 20000 in
theorem ggL_law_X6_combine : GoodIn wsL_law wsX6_combine := goodIn_r _ [519, 28, 437, 438, 2, 439, 87, 88, 89, 496, 497, 498, 499, 13, 449, 450, 451, 241, 163, 96, 164, 165, 166, 167, 168, 169, 170, 171, 98, 99, 100, 101, 19, 102, 103, 104, 18, 105, 33, 32, 106, 107, 108, 109, 110, 111, 112, 113, 114, 115, 116, 663, 664, 665, 666, 667, 668, 678, 679] (by decide +kernel) (by decide +kernel)
set_option maxRecDepth 20000 in
theorem gL_law_X6_combine : GoodIn wsL_law (wsV RL 122 RX6 yX6_combine wsX6_combine) := goodIn_app (goodIn_of _ (by decide +kernel)) ggL_law_X6_combine
set_option maxRecDepth 20000 in
theorem ggL_law_X7_combine : GoodIn wsL_law wsX7_combine := goodIn_r _ [523, 457, 458, 5, 459, 72, 73, 74, 121, 122, 123, 504, 505, 506, 507, 50, 246, 247, 248, 249, 49, 180, 181, 182, 128, 129, 130, 131, 132, 133, 134, 135, 71, 51, 136, 137, 138, 669, 670, 671, 672, 673, 674, 675, 676, 677] (by decide +kernel) (by decide +kernel)
set_option maxRecDepth 20000 in
theorem gL_law_X7_combine : GoodIn wsL_law (wsV RL 125 RX7 yX7_combine wsX7_combine) := goodIn_app (goodIn_of _ (by decide +kernel)) ggL_law_X7_combine
set_option maxRecDepth 20000 in
theorem ggL_law_X6_eliminate : GoodIn wsL_law wsX6_eliminate := goodIn_r _ [527, 28, 437, 438, 2, 439, 195, 196, 197, 198, 87, 88, 89, 496, 497, 498, 499, 13, 449, 450, 451, 241, 163, 96, 164, 165, 166, 167, 168, 169, 170, 171, 199, 200, 201, 202, 203, 204, 528, 98, 99, 100, 101, 19, 102, 103, 104, 18, 105, 33, 32, 106, 107, 108, 109, 110, 111, 112, 113, 114, 115, 116, 663, 664, 665, 666, 667, 668, 678, 679] (by decide +kernel) (by decide +kernel)
set_option maxRecDepth 20000 in
theorem gL_law_X6_eliminate : GoodIn wsL_law (wsV RL 126 RX6 yX6_eliminate wsX6_eliminate) := goodIn_app (goodIn_of _ (by decide +kernel)) ggL_law_X6_eliminate
set_option maxRecDepth 20000 in
theorem ggL_law_X7_eliminate : GoodIn wsL_law wsX7_eliminate := goodIn_r _ [532, 49, 457, 458, 5, 459, 72, 73, 74, 209, 210, 211, 212, 121, 122, 123, 504, 505, 506, 507, 50, 246, 247, 248, 249, 180, 181, 182, 128, 129, 130, 131, 132, 133, 134, 135, 71, 51, 136, 137, 138, 669, 670, 671, 672, 673, 674, 675, 676, 677] (by decide +kernel) (by decide +kernel)
set_option maxRecDepth 20000 in
theorem gL_law_X7_eliminate : GoodIn wsL_law (wsV RL 129 RX7 yX7_eliminate wsX7_eliminate) := goodIn_app (goodIn_of _ (by decide +kernel)) ggL_law_X7_eliminate
set_option maxRecDepth 20000 in
theorem ggL_law_X6_fibres : GoodIn wsL_law wsX6_fibres := goodIn_r _ [536, 491, 437, 438, 2, 439, 195, 196, 197, 198, 28, 487, 488, 489, 490, 492, 493, 494, 495, 496, 497, 498, 499, 13, 449, 450, 451, 241, 163, 96, 164, 165, 166, 167, 168, 169, 170, 171, 199, 200, 201, 202, 203, 204, 110, 111, 112, 113, 114, 115, 116, 663, 664, 665, 666, 667, 668] (by decide +kernel) (by decide +kernel)
set_option maxRecDepth 20000 in
theorem gL_law_X6_fibres : GoodIn wsL_law (wsV RL 130 RX6 yX6_fibres wsX6_fibres) := goodIn_app (goodIn_of _ (by decide +kernel)) ggL_law_X6_fibres
set_option maxRecDepth 20000 in
theorem ggL_law_X7_fibres : GoodIn wsL_law wsX7_fibres := goodIn_r _ [540, 49, 457, 458, 5, 459, 72, 73, 74, 209, 210, 211, 212, 504, 505, 506, 507, 50, 246, 247, 248, 249, 180, 181, 182, 669, 670, 671, 672, 673, 674, 675, 676, 677] (by decide +kernel) (by decide +kernel)
set_option maxRecDepth 20000 in
theorem gL_law_X7_fibres : GoodIn wsL_law (wsV RL 133 RX7 yX7_fibres wsX7_fibres) := goodIn_app (goodIn_of _ (by decide +kernel)) ggL_law_X7_fibres
set_option maxRecDepth 20000 in
theorem ggL_law_X6_isMember : GoodIn wsL_law wsX6_isMember := goodIn_r _ [544, 13, 28, 87, 88, 2, 89, 437, 438, 439, 241, 163, 96, 164, 165, 166, 167, 168, 169, 170, 171, 487, 488, 489, 490, 491, 492, 493, 494, 495, 496, 497, 498, 499, 449, 450, 451, 663, 664, 665, 666, 667, 668] (by decide +kernel) (by decide +kernel)
set_option maxRecDepth 20000 in
theorem gL_law_X6_isMember : GoodIn wsL_law (wsV RL 134 RX6 yX6_isMember wsX6_isMember) := goodIn_app (goodIn_of _ (by decide +kernel)) ggL_law_X6_isMember
set_option maxRecDepth 20000 in
theorem ggL_law_X7_isMember : GoodIn wsL_law wsX7_isMember := goodIn_r _ [548, 50, 456, 121, 122, 5, 123, 72, 73, 74, 457, 458, 459, 246, 247, 248, 249, 49, 180, 181, 182, 504, 505, 506, 507, 669, 670, 671, 672, 673, 674, 675, 676, 677] (by decide +kernel) (by decide +kernel)
set_option maxRecDepth 20000 in
theorem gL_law_X7_isMember : GoodIn wsL_law (wsV RL 137 RX7 yX7_isMember wsX7_isMember) := goodIn_app (goodIn_of _ (by decide +kernel)) ggL_law_X7_isMember
set_option maxRecDepth 20000 in
theorem ggL_law_X6_isSameIdeal : GoodIn wsL_law wsX6_isSameIdeal := goodIn_r _ [552, 437, 438, 2, 439, 496, 497, 498, 499, 13, 28, 449, 450, 451, 241, 163, 96, 164, 165, 166, 167, 168, 169, 170, 171, 663, 664, 665, 666, 667, 668] (by decide +kernel) (by decide +kernel)
set_option maxRecDepth 20000 in
theorem gL_law_X6_isSameIdeal : GoodIn wsL_law (wsV RL 138 RX6 yX6_isSameIdeal wsX6_isSameIdeal) := goodIn_app (goodIn_of _ (by decide +kernel)) ggL_law_X6_isSameIdeal
set_option maxRecDepth 20000 in
theorem ggL_law_X7_isSameIdeal : GoodIn wsL_law wsX7_isSameIdeal := goodIn_r _ [556, 457, 458, 5, 459, 72, 73, 74, 504, 505, 506, 507, 50, 246, 247, 248, 249, 49, 180, 181, 182, 669, 670, 671, 672, 673, 674, 675, 676, 677] (by decide +kernel) (by decide +kernel)
set_option maxRecDepth 20000 in
theorem gL_law_X7_isSameIdeal : GoodIn wsL_law (wsV RL 141 RX7 yX7_isSameIdeal wsX7_isSameIdeal) := goodIn_app (goodIn_of _ (by decide +kernel)) ggL_law_X7_isSameIdeal
set_option maxRecDepth 20000 in
theorem ggL_law_X6_fixedVariables : GoodIn wsL_law wsX6_fixedVariables := goodIn_r _ [560, 28, 437, 438, 2, 439, 487, 488, 489, 490, 491, 492, 493, 494, 495, 496, 497, 498, 499, 13, 449, 450, 451, 241, 163, 96, 164, 165, 166, 167, 168, 169, 170, 171, 199, 200, 201, 202, 203, 204, 663, 664, 665, 666, 667, 668] (by decide +kernel) (by decide +kernel)
set_option maxRecDepth 20000 in
theorem gL_law_X6_fixedVariables : GoodIn wsL_law (wsV RL 142 RX6 yX6_fixedVariables wsX6_fixedVariables) := goodIn_app (goodIn_of _ (by decide +kernel)) ggL_law_X6_fixedVariables
set_option maxRecDepth 20000 in
theorem ggL_law_X7_fixedVariables : GoodIn wsL_law wsX7_fixedVariables := goodIn_r _ [564, 49, 457, 458, 5, 459, 72, 73, 74, 504, 505, 506, 507, 50, 246, 247, 248, 249, 180, 181, 182, 136, 137, 138, 669, 670, 671, 672, 673, 674, 675, 676, 677] (by decide +kernel) (by decide +kernel)
set_option maxRecDepth 20000 in
theorem gL_law_X7_fixedVariables : GoodIn wsL_law (wsV RL 145 RX7 yX7_fixedVariables wsX7_fixedVariables) := goodIn_app (goodIn_of _ (by decide +kernel)) ggL_law_X7_fixedVariables
set_option maxRecDepth 20000 in
theorem ggL_law_X6_type : GoodIn wsL_law wsX6_type := goodIn_r _ [568, 27, 569, 570, 571, 26, 572, 44, 43, 663, 664, 665, 666, 667, 668, 682, 683] (by decide +kernel) (by decide +kernel)
set_option maxRecDepth 20000 in
theorem gL_law_X6_type : GoodIn wsL_law (wsV RL 146 RX6 yX6_type wsX6_type) := goodIn_app (goodIn_of _ (by decide +kernel)) ggL_law_X6_type
set_option maxRecDepth 20000 in
theorem ggL_law_X7_type : GoodIn wsL_law wsX7_type := goodIn_r _ [576, 577, 52, 72, 73, 5, 74, 669, 670, 671, 672, 673, 674, 675, 676, 677] (by decide +kernel) (by decide +kernel)
set_option maxRecDepth 20000 in
theorem gL_law_X7_type : GoodIn wsL_law (wsV RL 149 RX7 yX7_type wsX7_type) := goodIn_app (goodIn_of _ (by decide +kernel)) ggL_law_X7_type
set_option maxRecDepth 20000 in
theorem ggL_law_X6_clearText : GoodIn wsL_law wsX6_clearText := goodIn_r _ [581, 27, 582, 583, 584, 26, 585, 44, 663, 664, 665, 666, 667, 668, 682, 683] (by decide +kernel) (by decide +kernel)
set_option maxRecDepth 20000 in
theorem gL_law_X6_clearText : GoodIn wsL_law (wsV RL 150 RX6 yX6_clearText wsX6_clearText) := goodIn_app (goodIn_of _ (by decide +kernel)) ggL_law_X6_clearText
set_option maxRecDepth 20000 in
theorem ggL_law_X7_clearText : GoodIn wsL_law wsX7_clearText := goodIn_r _ [589, 577, 669, 670, 671, 672, 673, 674, 675, 676, 677] (by decide +kernel) (by decide +kernel)
set_option maxRecDepth 20000 in
theorem gL_law_X7_clearText : GoodIn wsL_law (wsV RL 153 RX7 yX7_clearText wsX7_clearText) := goodIn_app (goodIn_of _ (by decide +kernel)) ggL_law_X7_clearText
set_option maxRecDepth 20000 in
theorem ggL_law_X6_fault : GoodIn wsL_law wsX6_fault := goodIn_r _ [593, 27, 28, 594, 595, 596, 26, 597, 44, 43, 598, 599, 600, 663, 664, 665, 666, 667, 668, 682, 683] (by decide +kernel) (by decide +kernel)
set_option maxRecDepth 20000 in
theorem gL_law_X6_fault : GoodIn wsL_law (wsV RL 154 RX6 yX6_fault wsX6_fault) := goodIn_app (goodIn_of _ (by decide +kernel)) ggL_law_X6_fault
set_option maxRecDepth 20000 in
theorem ggL_law_X7_fault : GoodIn wsL_law wsX7_fault := goodIn_r _ [604, 577, 52, 605, 606, 607, 5, 608, 49, 72, 73, 74, 669, 670, 671, 672, 673, 674, 675, 676, 677] (by decide +kernel) (by decide +kernel)
set_option maxRecDepth 20000 in
theorem gL_law_X7_fault : GoodIn wsL_law (wsV RL 157 RX7 yX7_fault wsX7_fault) := goodIn_app (goodIn_of _ (by decide +kernel)) ggL_law_X7_fault
set_option maxRecDepth 20000 in
theorem ggL_law_X6_read : GoodIn wsL_law wsX6_read := goodIn_r _ [612, 27, 28, 87, 88, 2, 89, 594, 595, 596, 26, 597, 44, 43, 598, 599, 600, 613, 614, 615, 616, 617, 95, 96, 97, 98, 99, 100, 101, 19, 13, 102, 103, 104, 18, 105, 33, 32, 106, 107, 108, 109, 110, 111, 112, 113, 114, 115, 116, 663, 664, 665, 666, 667, 668, 682, 683, 678, 679] (by decide +kernel) (by decide +kernel)
set_option maxRecDepth 20000 in
theorem gL_law_X6_read : GoodIn wsL_law (wsV RL 158 RX6 yX6_read wsX6_read) := goodIn_app (goodIn_of _ (by decide +kernel)) ggL_law_X6_read
set_option maxRecDepth 20000 in
theorem ggL_law_X7_read : GoodIn wsL_law wsX7_read := goodIn_r _ [621, 577, 52, 121, 122, 5, 123, 72, 73, 74, 622, 602, 603, 604, 605, 606, 607, 608, 49, 128, 129, 130, 131, 50, 132, 133, 134, 135, 71, 51, 136, 137, 138, 669, 670, 671, 672, 673, 674, 675, 676, 677] (by decide +kernel) (by decide +kernel)
set_option maxRecDepth 20000 in
theorem gL_law_X7_read : GoodIn wsL_law (wsV RL 161 RX7 yX7_read wsX7_read) := goodIn_app (goodIn_of _ (by decide +kernel)) ggL_law_X7_read
set_option maxRecDepth 20000 in
theorem ggL_law_X6_textLength : GoodIn wsL_law wsX6_textLength := goodIn_r _ [626, 13, 87, 88, 2, 89, 627, 628, 629, 630, 631, 290, 96, 291, 632, 633, 634, 635, 324, 325, 326, 327, 328, 329, 636, 111, 112, 113, 114, 115, 116, 663, 664, 665, 666, 667, 668] (by decide +kernel) (by decide +kernel)
set_option maxRecDepth 20000 in
theorem gL_law_X6_textLength : GoodIn wsL_law (wsV RL 162 RX6 yX6_textLength wsX6_textLength) := goodIn_app (goodIn_of _ (by decide +kernel)) ggL_law_X6_textLength
set_option maxRecDepth 20000 in
theorem ggL_law_X7_textLength : GoodIn wsL_law wsX7_textLength := goodIn_r _ [640, 50, 49, 121, 122, 5, 123, 72, 73, 74, 180, 181, 182, 641, 642, 643, 136, 137, 138, 669, 670, 671, 672, 673, 674, 675, 676, 677] (by decide +kernel) (by decide +kernel)
set_option maxRecDepth 20000 in
theorem gL_law_X7_textLength : GoodIn wsL_law (wsV RL 165 RX7 yX7_textLength wsX7_textLength) := goodIn_app (goodIn_of _ (by decide +kernel)) ggL_law_X7_textLength
set_option maxRecDepth 20000 in
theorem ggL_law_X6_textAt : GoodIn wsL_law wsX6_textAt := goodIn_r _ [647, 13, 87, 88, 2, 89, 648, 649, 629, 650, 651, 628, 630, 631, 290, 96, 291, 632, 633, 634, 635, 324, 325, 326, 327, 328, 329, 636, 111, 112, 113, 114, 115, 116, 652, 314, 310, 315, 316, 317, 318, 319, 320, 321, 653, 654, 655, 663, 664, 665, 666, 667, 668] (by decide +kernel) (by decide +kernel)
set_option maxRecDepth 20000 in
theorem gL_law_X6_textAt : GoodIn wsL_law (wsV RL 166 RX6 yX6_textAt wsX6_textAt) := goodIn_app (goodIn_of _ (by decide +kernel)) ggL_law_X6_textAt
set_option maxRecDepth 20000 in
theorem ggL_law_X7_textAt : GoodIn wsL_law wsX7_textAt := goodIn_r _ [659, 50, 121, 122, 5, 123, 72, 73, 74, 409, 410, 411, 412, 49, 180, 181, 182, 413, 414, 415, 416, 136, 137, 138, 641, 642, 643, 660, 661, 662, 669, 670, 671, 672, 673, 674, 675, 676, 677] (by decide +kernel) (by decide +kernel)
set_option maxRecDepth 20000 in
theorem gL_law_X7_textAt : GoodIn wsL_law (wsV RL 169 RX7 yX7_textAt wsX7_textAt) := goodIn_app (goodIn_of _ (by decide +kernel)) ggL_law_X7_textAt
