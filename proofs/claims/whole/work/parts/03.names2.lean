theorem dX8_put_16 : decode cX8_put 16 = .ok (.astore 4, 2) := by decide +kernel
theorem dX8_put_18 : decode cX8_put 18 = .ok (.aload 4, 2) := by decide +kernel
theorem dX8_put_20 : decode cX8_put 20 = .ok (.invokevirtual 245, 3) := by decide +kernel
theorem dX8_put_23 : decode cX8_put 23 = .ok (.ifCond .eq 6, 3) := by decide +kernel
theorem dX8_put_26 : decode cX8_put 26 = .ok (.bipush (-11), 2) := by decide +kernel
theorem dX8_put_28 : decode cX8_put 28 = .ok (.ireturn, 1) := by decide +kernel
theorem dX8_put_29 : decode cX8_put 29 = .ok (.aload 4, 2) := by decide +kernel
theorem dX8_put_31 : decode cX8_put 31 = .ok (.iload_n 2, 1) := by decide +kernel
theorem dX8_put_32 : decode cX8_put 32 = .ok (.invokevirtual 303, 3) := by decide +kernel
theorem dX8_put_35 : decode cX8_put 35 = .ok (.ifCond .ne 6, 3) := by decide +kernel
theorem dX8_put_38 : decode cX8_put 38 = .ok (.bipush (-12), 2) := by decide +kernel
theorem dX8_put_40 : decode cX8_put 40 = .ok (.ireturn, 1) := by decide +kernel
theorem dX8_put_41 : decode cX8_put 41 = .ok (.aload 4, 2) := by decide +kernel
theorem dX8_put_43 : decode cX8_put 43 = .ok (.iload_n 2, 1) := by decide +kernel
theorem dX8_put_44 : decode cX8_put 44 = .ok (.iload_n 3, 1) := by decide +kernel
theorem dX8_put_45 : decode cX8_put 45 = .ok (.invokevirtual 269, 3) := by decide +kernel
theorem dX8_put_48 : decode cX8_put 48 = .ok (.iconst 1, 1) := by decide +kernel
theorem dX8_put_49 : decode cX8_put 49 = .ok (.ireturn, 1) := by decide +kernel
set_option maxRecDepth 20000 in
theorem ggX8_copy_X8_isSheet : GoodIn wsX8_copy wsX8_isSheet := goodIn_r _ [11, 12, 13, 10, 14] (by decide +kernel) (by decide +kernel)
set_option maxRecDepth 20000 in
theorem gX8_copy_X8_isSheet : GoodIn wsX8_copy (va_wsS RX8 239 yX8_isSheet wsX8_isSheet) := goodIn_app (goodIn_of _ (by decide +kernel)) ggX8_copy_X8_isSheet
set_option maxRecDepth 20000 in
theorem ggX8_copy_X5_isMissing : GoodIn wsX8_copy wsX5_isMissing := goodIn_r _ [19, 20, 38, 39, 40] (by decide +kernel) (by decide +kernel)
set_option maxRecDepth 20000 in
theorem gX8_copy_X5_isMissing : GoodIn wsX8_copy (wsV RX8 245 RX5 yX5_isMissing wsX5_isMissing) := goodIn_app (goodIn_of _ (by decide +kernel)) ggX8_copy_X5_isMissing
set_option maxRecDepth 20000 in
theorem ggX8_copy_X5_hasRun : GoodIn wsX8_copy wsX5_hasRun := goodIn_r _ [24, 25, 38, 39, 40] (by decide +kernel) (by decide +kernel)
set_option maxRecDepth 20000 in
theorem gX8_copy_X5_hasRun : GoodIn wsX8_copy (wsV RX8 307 RX5 yX5_hasRun wsX5_hasRun) := goodIn_app (goodIn_of _ (by decide +kernel)) ggX8_copy_X5_hasRun
theorem dX8_copy_0 : decode cX8_copy 0 = .ok (.iload_n 1, 1) := by decide +kernel
theorem dX8_copy_1 : decode cX8_copy 1 = .ok (.invokestatic 239, 3) := by decide +kernel
theorem dX8_copy_4 : decode cX8_copy 4 = .ok (.ifCond .eq 10, 3) := by decide +kernel
theorem dX8_copy_7 : decode cX8_copy 7 = .ok (.iload_n 3, 1) := by decide +kernel
theorem dX8_copy_8 : decode cX8_copy 8 = .ok (.invokestatic 239, 3) := by decide +kernel
theorem dX8_copy_11 : decode cX8_copy 11 = .ok (.ifCond .ne 6, 3) := by decide +kernel
theorem dX8_copy_14 : decode cX8_copy 14 = .ok (.bipush (-2), 2) := by decide +kernel
theorem dX8_copy_16 : decode cX8_copy 16 = .ok (.ireturn, 1) := by decide +kernel
theorem dX8_copy_17 : decode cX8_copy 17 = .ok (.aload_n 0, 1) := by decide +kernel
theorem dX8_copy_18 : decode cX8_copy 18 = .ok (.getfield 69, 3) := by decide +kernel
theorem dX8_copy_21 : decode cX8_copy 21 = .ok (.iload_n 1, 1) := by decide +kernel
theorem dX8_copy_22 : decode cX8_copy 22 = .ok (.aaload, 1) := by decide +kernel
theorem dX8_copy_23 : decode cX8_copy 23 = .ok (.astore 6, 2) := by decide +kernel
theorem dX8_copy_25 : decode cX8_copy 25 = .ok (.aload_n 0, 1) := by decide +kernel
theorem dX8_copy_26 : decode cX8_copy 26 = .ok (.getfield 69, 3) := by decide +kernel
theorem dX8_copy_29 : decode cX8_copy 29 = .ok (.iload_n 3, 1) := by decide +kernel
theorem dX8_copy_30 : decode cX8_copy 30 = .ok (.aaload, 1) := by decide +kernel
theorem dX8_copy_31 : decode cX8_copy 31 = .ok (.astore 7, 2) := by decide +kernel
theorem dX8_copy_33 : decode cX8_copy 33 = .ok (.aload 6, 2) := by decide +kernel
theorem dX8_copy_35 : decode cX8_copy 35 = .ok (.invokevirtual 245, 3) := by decide +kernel
theorem dX8_copy_38 : decode cX8_copy 38 = .ok (.ifCond .ne 11, 3) := by decide +kernel
theorem dX8_copy_41 : decode cX8_copy 41 = .ok (.aload 7, 2) := by decide +kernel
theorem dX8_copy_43 : decode cX8_copy 43 = .ok (.invokevirtual 245, 3) := by decide +kernel
theorem dX8_copy_46 : decode cX8_copy 46 = .ok (.ifCond .eq 6, 3) := by decide +kernel
theorem dX8_copy_49 : decode cX8_copy 49 = .ok (.bipush (-11), 2) := by decide +kernel
theorem dX8_copy_51 : decode cX8_copy 51 = .ok (.ireturn, 1) := by decide +kernel
theorem dX8_copy_52 : decode cX8_copy 52 = .ok (.aload 6, 2) := by decide +kernel
theorem dX8_copy_54 : decode cX8_copy 54 = .ok (.getfield 304, 3) := by decide +kernel
theorem dX8_copy_57 : decode cX8_copy 57 = .ok (.aload 7, 2) := by decide +kernel
theorem dX8_copy_59 : decode cX8_copy 59 = .ok (.getfield 304, 3) := by decide +kernel
theorem dX8_copy_62 : decode cX8_copy 62 = .ok (.if_icmp .eq 6, 3) := by decide +kernel
theorem dX8_copy_65 : decode cX8_copy 65 = .ok (.bipush (-13), 2) := by decide +kernel
theorem dX8_copy_67 : decode cX8_copy 67 = .ok (.ireturn, 1) := by decide +kernel
theorem dX8_copy_68 : decode cX8_copy 68 = .ok (.aload 6, 2) := by decide +kernel
theorem dX8_copy_70 : decode cX8_copy 70 = .ok (.iload_n 2, 1) := by decide +kernel
theorem dX8_copy_71 : decode cX8_copy 71 = .ok (.iload 5, 2) := by decide +kernel
theorem dX8_copy_73 : decode cX8_copy 73 = .ok (.invokevirtual 307, 3) := by decide +kernel
theorem dX8_copy_76 : decode cX8_copy 76 = .ok (.ifCond .eq 15, 3) := by decide +kernel
theorem dX8_copy_79 : decode cX8_copy 79 = .ok (.aload 7, 2) := by decide +kernel
theorem dX8_copy_81 : decode cX8_copy 81 = .ok (.iload 4, 2) := by decide +kernel
theorem dX8_copy_83 : decode cX8_copy 83 = .ok (.iload 5, 2) := by decide +kernel
theorem dX8_copy_85 : decode cX8_copy 85 = .ok (.invokevirtual 307, 3) := by decide +kernel
theorem dX8_copy_88 : decode cX8_copy 88 = .ok (.ifCond .ne 6, 3) := by decide +kernel
theorem dX8_copy_91 : decode cX8_copy 91 = .ok (.bipush (-12), 2) := by decide +kernel
theorem dX8_copy_93 : decode cX8_copy 93 = .ok (.ireturn, 1) := by decide +kernel
theorem dX8_copy_94 : decode cX8_copy 94 = .ok (.aload 6, 2) := by decide +kernel
theorem dX8_copy_96 : decode cX8_copy 96 = .ok (.getfield 310, 3) := by decide +kernel
theorem dX8_copy_99 : decode cX8_copy 99 = .ok (.iload_n 2, 1) := by decide +kernel
theorem dX8_copy_100 : decode cX8_copy 100 = .ok (.aload 7, 2) := by decide +kernel
theorem dX8_copy_102 : decode cX8_copy 102 = .ok (.getfield 310, 3) := by decide +kernel
theorem dX8_copy_105 : decode cX8_copy 105 = .ok (.iload 4, 2) := by decide +kernel
theorem dX8_copy_107 : decode cX8_copy 107 = .ok (.iload 5, 2) := by decide +kernel
theorem dX8_copy_109 : decode cX8_copy 109 = .ok (.invokestatic 313, 3) := by decide +kernel
theorem dX8_copy_112 : decode cX8_copy 112 = .ok (.iload 5, 2) := by decide +kernel
theorem dX8_copy_114 : decode cX8_copy 114 = .ok (.ireturn, 1) := by decide +kernel
set_option maxRecDepth 20000 in
theorem ggX8_load_X8_isSheet : GoodIn wsX8_load wsX8_isSheet := goodIn_r _ [7, 8, 9, 6, 10] (by decide +kernel) (by decide +kernel)
set_option maxRecDepth 20000 in
theorem gX8_load_X8_isSheet : GoodIn wsX8_load (va_wsS RX8 239 yX8_isSheet wsX8_isSheet) := goodIn_app (goodIn_of _ (by decide +kernel)) ggX8_load_X8_isSheet
set_option maxRecDepth 20000 in
theorem ggX8_load_X8_isSort : GoodIn wsX8_load wsX8_isSort := goodIn_r _ [13] (by decide +kernel) (by decide +kernel)
set_option maxRecDepth 20000 in
theorem gX8_load_X8_isSort : GoodIn wsX8_load (va_wsS RX8 300 yX8_isSort wsX8_isSort) := goodIn_app (goodIn_of _ (by decide +kernel)) ggX8_load_X8_isSort
set_option maxRecDepth 20000 in
theorem ggX8_load_X8_isWithin : GoodIn wsX8_load wsX8_isWithin := goodIn_r _ [10] (by decide +kernel) (by decide +kernel)
set_option maxRecDepth 20000 in
theorem gX8_load_X8_isWithin : GoodIn wsX8_load (va_wsS RX8 74 yX8_isWithin wsX8_isWithin) := goodIn_app (goodIn_of _ (by decide +kernel)) ggX8_load_X8_isWithin
set_option maxRecDepth 20000 in
theorem ggX8_load_X5_isMissing : GoodIn wsX8_load wsX5_isMissing := goodIn_r _ [18, 19, 74, 75, 76] (by decide +kernel) (by decide +kernel)
set_option maxRecDepth 20000 in
theorem gX8_load_X5_isMissing : GoodIn wsX8_load (wsV RX8 245 RX5 yX5_isMissing wsX5_isMissing) := goodIn_app (goodIn_of _ (by decide +kernel)) ggX8_load_X5_isMissing
set_option maxRecDepth 20000 in
theorem ggX8_load_X5_hasRun : GoodIn wsX8_load wsX5_hasRun := goodIn_r _ [23, 24, 74, 75, 76] (by decide +kernel) (by decide +kernel)
set_option maxRecDepth 20000 in
theorem gX8_load_X5_hasRun : GoodIn wsX8_load (wsV RX8 307 RX5 yX5_hasRun wsX5_hasRun) := goodIn_app (goodIn_of _ (by decide +kernel)) ggX8_load_X5_hasRun
set_option maxRecDepth 20000 in
theorem ggX8_load_X8_addTerm : GoodIn wsX8_load wsX8_addTerm := goodIn_r _ [28, 29, 30, 31, 32, 33, 6, 34, 8, 9, 10, 35, 36, 37, 38, 39, 40, 41, 42, 43, 44, 45, 46, 47, 48, 49, 50, 51, 52, 53, 54, 55, 56, 57, 58, 59, 60, 61, 62, 63, 64, 65, 66, 67, 68, 69, 70, 71, 72, 73, 77, 78, 79, 80, 81, 82, 83, 84] (by decide +kernel) (by decide +kernel)
set_option maxRecDepth 20000 in
theorem gX8_load_X8_addTerm : GoodIn wsX8_load (wsV RX8 192 RX8 yX8_addTerm wsX8_addTerm) := goodIn_app (goodIn_of _ (by decide +kernel)) ggX8_load_X8_addTerm
theorem dX8_load_0 : decode cX8_load 0 = .ok (.iload_n 1, 1) := by decide +kernel
theorem dX8_load_1 : decode cX8_load 1 = .ok (.invokestatic 239, 3) := by decide +kernel
theorem dX8_load_4 : decode cX8_load 4 = .ok (.ifCond .eq 21, 3) := by decide +kernel
theorem dX8_load_7 : decode cX8_load 7 = .ok (.iload_n 2, 1) := by decide +kernel
theorem dX8_load_8 : decode cX8_load 8 = .ok (.invokestatic 300, 3) := by decide +kernel
theorem dX8_load_11 : decode cX8_load 11 = .ok (.ifCond .eq 14, 3) := by decide +kernel
theorem dX8_load_14 : decode cX8_load 14 = .ok (.iload 4, 2) := by decide +kernel
theorem dX8_load_16 : decode cX8_load 16 = .ok (.iconst 0, 1) := by decide +kernel
theorem dX8_load_17 : decode cX8_load 17 = .ok (.bipush 8, 2) := by decide +kernel
theorem dX8_load_19 : decode cX8_load 19 = .ok (.invokestatic 74, 3) := by decide +kernel
theorem dX8_load_22 : decode cX8_load 22 = .ok (.ifCond .ne 6, 3) := by decide +kernel
theorem dX8_load_25 : decode cX8_load 25 = .ok (.bipush (-2), 2) := by decide +kernel
theorem dX8_load_27 : decode cX8_load 27 = .ok (.ireturn, 1) := by decide +kernel
theorem dX8_load_28 : decode cX8_load 28 = .ok (.aload_n 0, 1) := by decide +kernel
theorem dX8_load_29 : decode cX8_load 29 = .ok (.getfield 69, 3) := by decide +kernel
theorem dX8_load_32 : decode cX8_load 32 = .ok (.iload_n 1, 1) := by decide +kernel
theorem dX8_load_33 : decode cX8_load 33 = .ok (.aaload, 1) := by decide +kernel
theorem dX8_load_34 : decode cX8_load 34 = .ok (.astore 5, 2) := by decide +kernel
theorem dX8_load_36 : decode cX8_load 36 = .ok (.aload 5, 2) := by decide +kernel
theorem dX8_load_38 : decode cX8_load 38 = .ok (.invokevirtual 245, 3) := by decide +kernel
theorem dX8_load_41 : decode cX8_load 41 = .ok (.ifCond .eq 6, 3) := by decide +kernel
theorem dX8_load_44 : decode cX8_load 44 = .ok (.bipush (-11), 2) := by decide +kernel
theorem dX8_load_46 : decode cX8_load 46 = .ok (.ireturn, 1) := by decide +kernel
theorem dX8_load_47 : decode cX8_load 47 = .ok (.aload 5, 2) := by decide +kernel
theorem dX8_load_49 : decode cX8_load 49 = .ok (.getfield 304, 3) := by decide +kernel
theorem dX8_load_52 : decode cX8_load 52 = .ok (.iload_n 2, 1) := by decide +kernel
theorem dX8_load_53 : decode cX8_load 53 = .ok (.if_icmp .eq 6, 3) := by decide +kernel
theorem dX8_load_56 : decode cX8_load 56 = .ok (.bipush (-13), 2) := by decide +kernel
theorem dX8_load_58 : decode cX8_load 58 = .ok (.ireturn, 1) := by decide +kernel
theorem dX8_load_59 : decode cX8_load 59 = .ok (.iconst 0, 1) := by decide +kernel
theorem dX8_load_60 : decode cX8_load 60 = .ok (.istore 6, 2) := by decide +kernel
theorem dX8_load_62 : decode cX8_load 62 = .ok (.iconst 0, 1) := by decide +kernel
theorem dX8_load_63 : decode cX8_load 63 = .ok (.istore 7, 2) := by decide +kernel
theorem dX8_load_65 : decode cX8_load 65 = .ok (.iload 7, 2) := by decide +kernel
theorem dX8_load_67 : decode cX8_load 67 = .ok (.iload 4, 2) := by decide +kernel
theorem dX8_load_69 : decode cX8_load 69 = .ok (.if_icmp .ge 59, 3) := by decide +kernel
theorem dX8_load_72 : decode cX8_load 72 = .ok (.iload_n 3, 1) := by decide +kernel
theorem dX8_load_73 : decode cX8_load 73 = .ok (.iconst 2, 1) := by decide +kernel
theorem dX8_load_74 : decode cX8_load 74 = .ok (.iload 7, 2) := by decide +kernel
theorem dX8_load_76 : decode cX8_load 76 = .ok (.imul, 1) := by decide +kernel
theorem dX8_load_77 : decode cX8_load 77 = .ok (.iadd, 1) := by decide +kernel
theorem dX8_load_78 : decode cX8_load 78 = .ok (.istore 8, 2) := by decide +kernel
theorem dX8_load_80 : decode cX8_load 80 = .ok (.aload 5, 2) := by decide +kernel
theorem dX8_load_82 : decode cX8_load 82 = .ok (.iload 8, 2) := by decide +kernel
theorem dX8_load_84 : decode cX8_load 84 = .ok (.iconst 2, 1) := by decide +kernel
theorem dX8_load_85 : decode cX8_load 85 = .ok (.invokevirtual 307, 3) := by decide +kernel
theorem dX8_load_88 : decode cX8_load 88 = .ok (.ifCond .ne 6, 3) := by decide +kernel
theorem dX8_load_91 : decode cX8_load 91 = .ok (.bipush (-12), 2) := by decide +kernel
theorem dX8_load_93 : decode cX8_load 93 = .ok (.ireturn, 1) := by decide +kernel
theorem dX8_load_94 : decode cX8_load 94 = .ok (.aload_n 0, 1) := by decide +kernel
theorem dX8_load_95 : decode cX8_load 95 = .ok (.aload 5, 2) := by decide +kernel
theorem dX8_load_97 : decode cX8_load 97 = .ok (.getfield 310, 3) := by decide +kernel
theorem dX8_load_100 : decode cX8_load 100 = .ok (.iload 8, 2) := by decide +kernel
theorem dX8_load_102 : decode cX8_load 102 = .ok (.iaload, 1) := by decide +kernel
theorem dX8_load_103 : decode cX8_load 103 = .ok (.aload 5, 2) := by decide +kernel
theorem dX8_load_105 : decode cX8_load 105 = .ok (.getfield 310, 3) := by decide +kernel
theorem dX8_load_108 : decode cX8_load 108 = .ok (.iload 8, 2) := by decide +kernel
theorem dX8_load_110 : decode cX8_load 110 = .ok (.iconst 1, 1) := by decide +kernel
theorem dX8_load_111 : decode cX8_load 111 = .ok (.iadd, 1) := by decide +kernel
theorem dX8_load_112 : decode cX8_load 112 = .ok (.iaload, 1) := by decide +kernel
theorem dX8_load_113 : decode cX8_load 113 = .ok (.invokevirtual 192, 3) := by decide +kernel
theorem dX8_load_116 : decode cX8_load 116 = .ok (.ifCond .lt 6, 3) := by decide +kernel
theorem dX8_load_119 : decode cX8_load 119 = .ok (.iinc 6 1, 3) := by decide +kernel
theorem dX8_load_122 : decode cX8_load 122 = .ok (.iinc 7 1, 3) := by decide +kernel
theorem dX8_load_125 : decode cX8_load 125 = .ok (.goto (-60), 3) := by decide +kernel
theorem dX8_load_128 : decode cX8_load 128 = .ok (.iload 6, 2) := by decide +kernel
theorem dX8_load_130 : decode cX8_load 130 = .ok (.ireturn, 1) := by decide +kernel
set_option maxRecDepth 20000 in
theorem ggX8_addTerm_X8_isStand : GoodIn wsX8_addTerm wsX8_isStand := goodIn_r _ [7, 8, 9, 6, 10] (by decide +kernel) (by decide +kernel)
set_option maxRecDepth 20000 in
theorem gX8_addTerm_X8_isStand : GoodIn wsX8_addTerm (va_wsS RX8 158 yX8_isStand wsX8_isStand) := goodIn_app (goodIn_of _ (by decide +kernel)) ggX8_addTerm_X8_isStand
set_option maxRecDepth 20000 in
theorem ggX8_addTerm_X0_isFull : GoodIn wsX8_addTerm wsX0_isFull := goodIn_r _ [15, 16, 50, 51, 52] (by decide +kernel) (by decide +kernel)
set_option maxRecDepth 20000 in
theorem gX8_addTerm_X0_isFull : GoodIn wsX8_addTerm (wsV RX8 319 RX0 yX0_isFull wsX0_isFull) := goodIn_app (goodIn_of _ (by decide +kernel)) ggX8_addTerm_X0_isFull
set_option maxRecDepth 20000 in
theorem ggX8_addTerm_X0_insert : GoodIn wsX8_addTerm wsX0_insert := goodIn_r _ [20, 16, 21, 22, 23, 12, 13, 14, 15, 50, 51, 52] (by decide +kernel) (by decide +kernel)
set_option maxRecDepth 20000 in
theorem gX8_addTerm_X0_insert : GoodIn wsX8_addTerm (wsV RX8 286 RX0 yX0_insert wsX0_insert) := goodIn_app (goodIn_of _ (by decide +kernel)) ggX8_addTerm_X0_insert
set_option maxRecDepth 20000 in
theorem ggX8_addTerm_X1_note : GoodIn wsX8_addTerm wsX1_note := goodIn_r _ [28, 29, 30, 31, 32, 33, 34, 35, 36, 27, 37, 53, 54, 55, 56, 57] (by decide +kernel) (by decide +kernel)
set_option maxRecDepth 20000 in
theorem gX8_addTerm_X1_note : GoodIn wsX8_addTerm (wsV RX8 121 RX1 yX1_note wsX1_note) := goodIn_app (goodIn_of _ (by decide +kernel)) ggX8_addTerm_X1_note
theorem dX8_addTerm_0 : decode cX8_addTerm 0 = .ok (.iload_n 1, 1) := by decide +kernel
theorem dX8_addTerm_1 : decode cX8_addTerm 1 = .ok (.invokestatic 158, 3) := by decide +kernel
theorem dX8_addTerm_4 : decode cX8_addTerm 4 = .ok (.ifCond .eq 11, 3) := by decide +kernel
theorem dX8_addTerm_7 : decode cX8_addTerm 7 = .ok (.iload_n 2, 1) := by decide +kernel
theorem dX8_addTerm_8 : decode cX8_addTerm 8 = .ok (.iload_n 1, 1) := by decide +kernel
theorem dX8_addTerm_9 : decode cX8_addTerm 9 = .ok (.iconst (-1), 1) := by decide +kernel
theorem dX8_addTerm_10 : decode cX8_addTerm 10 = .ok (.ixor, 1) := by decide +kernel
theorem dX8_addTerm_11 : decode cX8_addTerm 11 = .ok (.iand, 1) := by decide +kernel
theorem dX8_addTerm_12 : decode cX8_addTerm 12 = .ok (.ifCond .eq 6, 3) := by decide +kernel
theorem dX8_addTerm_15 : decode cX8_addTerm 15 = .ok (.bipush (-2), 2) := by decide +kernel
theorem dX8_addTerm_17 : decode cX8_addTerm 17 = .ok (.ireturn, 1) := by decide +kernel
theorem dX8_addTerm_18 : decode cX8_addTerm 18 = .ok (.aload_n 0, 1) := by decide +kernel
theorem dX8_addTerm_19 : decode cX8_addTerm 19 = .ok (.getfield 43, 3) := by decide +kernel
theorem dX8_addTerm_22 : decode cX8_addTerm 22 = .ok (.invokevirtual 319, 3) := by decide +kernel
theorem dX8_addTerm_25 : decode cX8_addTerm 25 = .ok (.ifCond .eq 6, 3) := by decide +kernel
theorem dX8_addTerm_28 : decode cX8_addTerm 28 = .ok (.bipush (-4), 2) := by decide +kernel
theorem dX8_addTerm_30 : decode cX8_addTerm 30 = .ok (.ireturn, 1) := by decide +kernel
theorem dX8_addTerm_31 : decode cX8_addTerm 31 = .ok (.aload_n 0, 1) := by decide +kernel
theorem dX8_addTerm_32 : decode cX8_addTerm 32 = .ok (.getfield 43, 3) := by decide +kernel
theorem dX8_addTerm_35 : decode cX8_addTerm 35 = .ok (.getfield 206, 3) := by decide +kernel
theorem dX8_addTerm_38 : decode cX8_addTerm 38 = .ok (.istore_n 3, 1) := by decide +kernel
theorem dX8_addTerm_39 : decode cX8_addTerm 39 = .ok (.aload_n 0, 1) := by decide +kernel
theorem dX8_addTerm_40 : decode cX8_addTerm 40 = .ok (.getfield 43, 3) := by decide +kernel
theorem dX8_addTerm_43 : decode cX8_addTerm 43 = .ok (.iload_n 3, 1) := by decide +kernel
theorem dX8_addTerm_44 : decode cX8_addTerm 44 = .ok (.iload_n 1, 1) := by decide +kernel
theorem dX8_addTerm_45 : decode cX8_addTerm 45 = .ok (.iload_n 2, 1) := by decide +kernel
theorem dX8_addTerm_46 : decode cX8_addTerm 46 = .ok (.invokevirtual 286, 3) := by decide +kernel
theorem dX8_addTerm_49 : decode cX8_addTerm 49 = .ok (.aload_n 0, 1) := by decide +kernel
theorem dX8_addTerm_50 : decode cX8_addTerm 50 = .ok (.getfield 57, 3) := by decide +kernel
theorem dX8_addTerm_53 : decode cX8_addTerm 53 = .ok (.iconst 2, 1) := by decide +kernel
theorem dX8_addTerm_54 : decode cX8_addTerm 54 = .ok (.iload_n 3, 1) := by decide +kernel
theorem dX8_addTerm_55 : decode cX8_addTerm 55 = .ok (.iconst 0, 1) := by decide +kernel
theorem dX8_addTerm_56 : decode cX8_addTerm 56 = .ok (.iconst 0, 1) := by decide +kernel
theorem dX8_addTerm_57 : decode cX8_addTerm 57 = .ok (.invokevirtual 121, 3) := by decide +kernel
theorem dX8_addTerm_60 : decode cX8_addTerm 60 = .ok (.iload_n 3, 1) := by decide +kernel
theorem dX8_addTerm_61 : decode cX8_addTerm 61 = .ok (.ireturn, 1) := by decide +kernel
set_option maxRecDepth 20000 in
theorem ggX8_firstUnlike_X8_xFrom : GoodIn wsX8_firstUnlike wsX8_xFrom := goodIn_r _ [7] (by decide +kernel) (by decide +kernel)
set_option maxRecDepth 20000 in
theorem gX8_firstUnlike_X8_xFrom : GoodIn wsX8_firstUnlike (va_wsS RX8 263 yX8_xFrom wsX8_xFrom) := goodIn_app (goodIn_of _ (by decide +kernel)) ggX8_firstUnlike_X8_xFrom
set_option maxRecDepth 20000 in
theorem ggX8_firstUnlike_X8_yFrom : GoodIn wsX8_firstUnlike wsX8_yFrom := goodIn_r _ [10] (by decide +kernel) (by decide +kernel)
set_option maxRecDepth 20000 in
theorem gX8_firstUnlike_X8_yFrom : GoodIn wsX8_firstUnlike (va_wsS RX8 266 yX8_yFrom wsX8_yFrom) := goodIn_app (goodIn_of _ (by decide +kernel)) ggX8_firstUnlike_X8_yFrom
set_option maxRecDepth 20000 in
theorem ggX8_firstUnlike_X7_run : GoodIn wsX8_firstUnlike wsX7_run := goodIn_r _ [15, 16, 17, 18, 19, 20, 21, 22, 23, 24, 25, 26, 27, 28, 29, 30, 31, 32, 6, 33, 34, 35, 36, 37, 38, 39, 40, 41, 14, 42, 43, 44, 45, 46, 47, 48, 49, 50, 51, 52, 53, 54, 55, 56, 57, 58, 78, 79, 80, 81, 82, 83, 84, 85, 86, 87, 88] (by decide +kernel) (by decide +kernel)
set_option maxRecDepth 20000 in
theorem gX8_firstUnlike_X7_run : GoodIn wsX8_firstUnlike (wsV RX8 167 RX7 yX7_run wsX7_run) := goodIn_app (goodIn_of _ (by decide +kernel)) ggX8_firstUnlike_X7_run
set_option maxRecDepth 20000 in
theorem ggX8_firstUnlike_X7_at : GoodIn wsX8_firstUnlike wsX7_at := goodIn_r _ [62, 20, 16, 19, 17, 78, 79, 80, 81] (by decide +kernel) (by decide +kernel)
set_option maxRecDepth 20000 in
theorem gX8_firstUnlike_X7_at : GoodIn wsX8_firstUnlike (wsV RX8 171 RX7 yX7_at wsX7_at) := goodIn_app (goodIn_of _ (by decide +kernel)) ggX8_firstUnlike_X7_at
theorem dX8_firstUnlike_0 : decode cX8_firstUnlike 0 = .ok (.aload_n 0, 1) := by decide +kernel
theorem dX8_firstUnlike_1 : decode cX8_firstUnlike 1 = .ok (.getfield 36, 3) := by decide +kernel
theorem dX8_firstUnlike_4 : decode cX8_firstUnlike 4 = .ok (.aload_n 2, 1) := by decide +kernel
theorem dX8_firstUnlike_5 : decode cX8_firstUnlike 5 = .ok (.iload_n 3, 1) := by decide +kernel
theorem dX8_firstUnlike_6 : decode cX8_firstUnlike 6 = .ok (.invokestatic 263, 3) := by decide +kernel
theorem dX8_firstUnlike_9 : decode cX8_firstUnlike 9 = .ok (.iload_n 3, 1) := by decide +kernel
theorem dX8_firstUnlike_10 : decode cX8_firstUnlike 10 = .ok (.invokestatic 266, 3) := by decide +kernel
theorem dX8_firstUnlike_13 : decode cX8_firstUnlike 13 = .ok (.invokevirtual 167, 3) := by decide +kernel
theorem dX8_firstUnlike_16 : decode cX8_firstUnlike 16 = .ok (.iconst 0, 1) := by decide +kernel
theorem dX8_firstUnlike_17 : decode cX8_firstUnlike 17 = .ok (.istore 4, 2) := by decide +kernel
theorem dX8_firstUnlike_19 : decode cX8_firstUnlike 19 = .ok (.iload 4, 2) := by decide +kernel
theorem dX8_firstUnlike_21 : decode cX8_firstUnlike 21 = .ok (.aload_n 1, 1) := by decide +kernel
theorem dX8_firstUnlike_22 : decode cX8_firstUnlike 22 = .ok (.getfield 320, 3) := by decide +kernel
theorem dX8_firstUnlike_25 : decode cX8_firstUnlike 25 = .ok (.if_icmp .ge 31, 3) := by decide +kernel
theorem dX8_firstUnlike_28 : decode cX8_firstUnlike 28 = .ok (.aload_n 1, 1) := by decide +kernel
theorem dX8_firstUnlike_29 : decode cX8_firstUnlike 29 = .ok (.getfield 310, 3) := by decide +kernel
theorem dX8_firstUnlike_32 : decode cX8_firstUnlike 32 = .ok (.iload 4, 2) := by decide +kernel
theorem dX8_firstUnlike_34 : decode cX8_firstUnlike 34 = .ok (.iaload, 1) := by decide +kernel
theorem dX8_firstUnlike_35 : decode cX8_firstUnlike 35 = .ok (.aload_n 0, 1) := by decide +kernel
theorem dX8_firstUnlike_36 : decode cX8_firstUnlike 36 = .ok (.getfield 36, 3) := by decide +kernel
theorem dX8_firstUnlike_39 : decode cX8_firstUnlike 39 = .ok (.iload 4, 2) := by decide +kernel
theorem dX8_firstUnlike_41 : decode cX8_firstUnlike 41 = .ok (.invokevirtual 171, 3) := by decide +kernel
theorem dX8_firstUnlike_44 : decode cX8_firstUnlike 44 = .ok (.if_icmp .eq 6, 3) := by decide +kernel
theorem dX8_firstUnlike_47 : decode cX8_firstUnlike 47 = .ok (.iload 4, 2) := by decide +kernel
theorem dX8_firstUnlike_49 : decode cX8_firstUnlike 49 = .ok (.ireturn, 1) := by decide +kernel
theorem dX8_firstUnlike_50 : decode cX8_firstUnlike 50 = .ok (.iinc 4 1, 3) := by decide +kernel
theorem dX8_firstUnlike_53 : decode cX8_firstUnlike 53 = .ok (.goto (-34), 3) := by decide +kernel
theorem dX8_firstUnlike_56 : decode cX8_firstUnlike 56 = .ok (.iconst (-1), 1) := by decide +kernel
theorem dX8_firstUnlike_57 : decode cX8_firstUnlike 57 = .ok (.ireturn, 1) := by decide +kernel
set_option maxRecDepth 20000 in
theorem ggX8_fittingDelays_X3_become : GoodIn wsX8_fittingDelays wsX3_become := goodIn_r _ [7, 8, 9, 10, 11, 12, 13, 14, 15, 16, 98, 99, 100, 101, 102, 103, 104] (by decide +kernel) (by decide +kernel)
set_option maxRecDepth 20000 in
theorem gX8_fittingDelays_X3_become : GoodIn wsX8_fittingDelays (wsV RX8 290 RX3 yX3_become wsX3_become) := goodIn_app (goodIn_of _ (by decide +kernel)) ggX8_fittingDelays_X3_become
set_option maxRecDepth 20000 in
theorem ggX8_fittingDelays_X3_setDelay : GoodIn wsX8_fittingDelays wsX3_setDelay := goodIn_r _ [20, 15, 21, 22, 23, 6, 24, 16, 98, 99, 100, 101, 102, 103, 104] (by decide +kernel) (by decide +kernel)
set_option maxRecDepth 20000 in
theorem gX8_fittingDelays_X3_setDelay : GoodIn wsX8_fittingDelays (wsV RX8 282 RX3 yX3_setDelay wsX3_setDelay) := goodIn_app (goodIn_of _ (by decide +kernel)) ggX8_fittingDelays_X3_setDelay
set_option maxRecDepth 20000 in
theorem ggX8_fittingDelays_X8_firstUnlike : GoodIn wsX8_fittingDelays wsX8_firstUnlike := goodIn_r _ [29, 30, 31, 32, 33, 34, 28, 35, 36, 37, 38, 39, 40, 41, 42, 43, 44, 45, 46, 47, 48, 49, 50, 51, 6, 52, 16, 53, 13, 14, 8, 54, 55, 56, 57, 58, 59, 60, 61, 62, 63, 64, 65, 66, 67, 68, 69, 70, 71, 72, 73, 74, 75, 76, 77, 78, 79, 80, 81, 82, 83, 84, 85, 86, 87, 88, 89, 90, 91, 92, 93, 94, 95, 96, 97, 105, 106, 107, 108, 109, 110, 111, 98, 99, 100, 101, 102, 103, 104] (by decide +kernel) (by decide +kernel)
set_option maxRecDepth 20000 in
theorem gX8_fittingDelays_X8_firstUnlike : GoodIn wsX8_fittingDelays (wsV RX8 248 RX8 yX8_firstUnlike wsX8_firstUnlike) := goodIn_app (goodIn_of _ (by decide +kernel)) ggX8_fittingDelays_X8_firstUnlike
theorem dX8_fittingDelays_0 : decode cX8_fittingDelays 0 = .ok (.iconst 0, 1) := by decide +kernel
theorem dX8_fittingDelays_1 : decode cX8_fittingDelays 1 = .ok (.istore 4, 2) := by decide +kernel
theorem dX8_fittingDelays_3 : decode cX8_fittingDelays 3 = .ok (.aload_n 0, 1) := by decide +kernel
theorem dX8_fittingDelays_4 : decode cX8_fittingDelays 4 = .ok (.getfield 30, 3) := by decide +kernel
theorem dX8_fittingDelays_7 : decode cX8_fittingDelays 7 = .ok (.aload_n 0, 1) := by decide +kernel
theorem dX8_fittingDelays_8 : decode cX8_fittingDelays 8 = .ok (.getfield 26, 3) := by decide +kernel
theorem dX8_fittingDelays_11 : decode cX8_fittingDelays 11 = .ok (.invokevirtual 290, 3) := by decide +kernel
theorem dX8_fittingDelays_14 : decode cX8_fittingDelays 14 = .ok (.iconst 1, 1) := by decide +kernel
theorem dX8_fittingDelays_15 : decode cX8_fittingDelays 15 = .ok (.istore 5, 2) := by decide +kernel
theorem dX8_fittingDelays_17 : decode cX8_fittingDelays 17 = .ok (.iload 5, 2) := by decide +kernel
theorem dX8_fittingDelays_19 : decode cX8_fittingDelays 19 = .ok (.bipush 9, 2) := by decide +kernel
theorem dX8_fittingDelays_21 : decode cX8_fittingDelays 21 = .ok (.if_icmp .gt 42, 3) := by decide +kernel
theorem dX8_fittingDelays_24 : decode cX8_fittingDelays 24 = .ok (.aload_n 0, 1) := by decide +kernel
theorem dX8_fittingDelays_25 : decode cX8_fittingDelays 25 = .ok (.getfield 30, 3) := by decide +kernel
theorem dX8_fittingDelays_28 : decode cX8_fittingDelays 28 = .ok (.iload_n 3, 1) := by decide +kernel
theorem dX8_fittingDelays_29 : decode cX8_fittingDelays 29 = .ok (.iload 5, 2) := by decide +kernel
theorem dX8_fittingDelays_31 : decode cX8_fittingDelays 31 = .ok (.invokevirtual 282, 3) := by decide +kernel
theorem dX8_fittingDelays_34 : decode cX8_fittingDelays 34 = .ok (.aload_n 0, 1) := by decide +kernel
theorem dX8_fittingDelays_35 : decode cX8_fittingDelays 35 = .ok (.aload_n 1, 1) := by decide +kernel
theorem dX8_fittingDelays_36 : decode cX8_fittingDelays 36 = .ok (.aload_n 0, 1) := by decide +kernel
theorem dX8_fittingDelays_37 : decode cX8_fittingDelays 37 = .ok (.getfield 30, 3) := by decide +kernel
theorem dX8_fittingDelays_40 : decode cX8_fittingDelays 40 = .ok (.iload_n 2, 1) := by decide +kernel
theorem dX8_fittingDelays_41 : decode cX8_fittingDelays 41 = .ok (.invokevirtual 248, 3) := by decide +kernel
theorem dX8_fittingDelays_44 : decode cX8_fittingDelays 44 = .ok (.iconst (-1), 1) := by decide +kernel
theorem dX8_fittingDelays_45 : decode cX8_fittingDelays 45 = .ok (.if_icmp .ne 12, 3) := by decide +kernel
theorem dX8_fittingDelays_48 : decode cX8_fittingDelays 48 = .ok (.iload 4, 2) := by decide +kernel
theorem dX8_fittingDelays_50 : decode cX8_fittingDelays 50 = .ok (.iconst 1, 1) := by decide +kernel
theorem dX8_fittingDelays_51 : decode cX8_fittingDelays 51 = .ok (.iload 5, 2) := by decide +kernel
theorem dX8_fittingDelays_53 : decode cX8_fittingDelays 53 = .ok (.ishl, 1) := by decide +kernel
theorem dX8_fittingDelays_54 : decode cX8_fittingDelays 54 = .ok (.ior, 1) := by decide +kernel
theorem dX8_fittingDelays_55 : decode cX8_fittingDelays 55 = .ok (.istore 4, 2) := by decide +kernel
theorem dX8_fittingDelays_57 : decode cX8_fittingDelays 57 = .ok (.iinc 5 1, 3) := by decide +kernel
theorem dX8_fittingDelays_60 : decode cX8_fittingDelays 60 = .ok (.goto (-43), 3) := by decide +kernel
theorem dX8_fittingDelays_63 : decode cX8_fittingDelays 63 = .ok (.iload 4, 2) := by decide +kernel
theorem dX8_fittingDelays_65 : decode cX8_fittingDelays 65 = .ok (.ireturn, 1) := by decide +kernel
set_option maxRecDepth 20000 in
theorem ggX8_fittingKinds_X3_become : GoodIn wsX8_fittingKinds wsX3_become := goodIn_r _ [7, 8, 9, 10, 11, 12, 13, 14, 15, 16, 98, 99, 100, 101, 102, 103, 104] (by decide +kernel) (by decide +kernel)
set_option maxRecDepth 20000 in
theorem gX8_fittingKinds_X3_become : GoodIn wsX8_fittingKinds (wsV RX8 290 RX3 yX3_become wsX3_become) := goodIn_app (goodIn_of _ (by decide +kernel)) ggX8_fittingKinds_X3_become
set_option maxRecDepth 20000 in
theorem ggX8_fittingKinds_X3_setKind : GoodIn wsX8_fittingKinds wsX3_setKind := goodIn_r _ [20, 8, 21, 22, 23, 6, 24, 16, 98, 99, 100, 101, 102, 103, 104] (by decide +kernel) (by decide +kernel)
set_option maxRecDepth 20000 in
theorem gX8_fittingKinds_X3_setKind : GoodIn wsX8_fittingKinds (wsV RX8 321 RX3 yX3_setKind wsX3_setKind) := goodIn_app (goodIn_of _ (by decide +kernel)) ggX8_fittingKinds_X3_setKind
set_option maxRecDepth 20000 in
theorem ggX8_fittingKinds_X8_firstUnlike : GoodIn wsX8_fittingKinds wsX8_firstUnlike := goodIn_r _ [29, 30, 31, 32, 33, 34, 28, 35, 36, 37, 38, 39, 40, 41, 42, 43, 44, 45, 46, 47, 48, 49, 50, 51, 6, 52, 16, 53, 13, 14, 8, 54, 55, 56, 57, 58, 59, 60, 61, 62, 63, 64, 65, 66, 67, 68, 69, 70, 71, 72, 73, 74, 75, 76, 77, 78, 79, 80, 81, 82, 83, 84, 85, 86, 87, 88, 89, 90, 91, 92, 93, 94, 95, 96, 97, 105, 106, 107, 108, 109, 110, 111, 98, 99, 100, 101, 102, 103, 104] (by decide +kernel) (by decide +kernel)
set_option maxRecDepth 20000 in
theorem gX8_fittingKinds_X8_firstUnlike : GoodIn wsX8_fittingKinds (wsV RX8 248 RX8 yX8_firstUnlike wsX8_firstUnlike) := goodIn_app (goodIn_of _ (by decide +kernel)) ggX8_fittingKinds_X8_firstUnlike
theorem dX8_fittingKinds_0 : decode cX8_fittingKinds 0 = .ok (.iconst 0, 1) := by decide +kernel
theorem dX8_fittingKinds_1 : decode cX8_fittingKinds 1 = .ok (.istore 4, 2) := by decide +kernel
theorem dX8_fittingKinds_3 : decode cX8_fittingKinds 3 = .ok (.aload_n 0, 1) := by decide +kernel
theorem dX8_fittingKinds_4 : decode cX8_fittingKinds 4 = .ok (.getfield 30, 3) := by decide +kernel
theorem dX8_fittingKinds_7 : decode cX8_fittingKinds 7 = .ok (.aload_n 0, 1) := by decide +kernel
theorem dX8_fittingKinds_8 : decode cX8_fittingKinds 8 = .ok (.getfield 26, 3) := by decide +kernel
theorem dX8_fittingKinds_11 : decode cX8_fittingKinds 11 = .ok (.invokevirtual 290, 3) := by decide +kernel
theorem dX8_fittingKinds_14 : decode cX8_fittingKinds 14 = .ok (.iconst 0, 1) := by decide +kernel
theorem dX8_fittingKinds_15 : decode cX8_fittingKinds 15 = .ok (.istore 5, 2) := by decide +kernel
theorem dX8_fittingKinds_17 : decode cX8_fittingKinds 17 = .ok (.iload 5, 2) := by decide +kernel
theorem dX8_fittingKinds_19 : decode cX8_fittingKinds 19 = .ok (.bipush 6, 2) := by decide +kernel
theorem dX8_fittingKinds_21 : decode cX8_fittingKinds 21 = .ok (.if_icmp .ge 42, 3) := by decide +kernel
theorem dX8_fittingKinds_24 : decode cX8_fittingKinds 24 = .ok (.aload_n 0, 1) := by decide +kernel
theorem dX8_fittingKinds_25 : decode cX8_fittingKinds 25 = .ok (.getfield 30, 3) := by decide +kernel
theorem dX8_fittingKinds_28 : decode cX8_fittingKinds 28 = .ok (.iload_n 3, 1) := by decide +kernel
theorem dX8_fittingKinds_29 : decode cX8_fittingKinds 29 = .ok (.iload 5, 2) := by decide +kernel
theorem dX8_fittingKinds_31 : decode cX8_fittingKinds 31 = .ok (.invokevirtual 321, 3) := by decide +kernel
theorem dX8_fittingKinds_34 : decode cX8_fittingKinds 34 = .ok (.aload_n 0, 1) := by decide +kernel
theorem dX8_fittingKinds_35 : decode cX8_fittingKinds 35 = .ok (.aload_n 1, 1) := by decide +kernel
theorem dX8_fittingKinds_36 : decode cX8_fittingKinds 36 = .ok (.aload_n 0, 1) := by decide +kernel
theorem dX8_fittingKinds_37 : decode cX8_fittingKinds 37 = .ok (.getfield 30, 3) := by decide +kernel
theorem dX8_fittingKinds_40 : decode cX8_fittingKinds 40 = .ok (.iload_n 2, 1) := by decide +kernel
theorem dX8_fittingKinds_41 : decode cX8_fittingKinds 41 = .ok (.invokevirtual 248, 3) := by decide +kernel
theorem dX8_fittingKinds_44 : decode cX8_fittingKinds 44 = .ok (.iconst (-1), 1) := by decide +kernel
theorem dX8_fittingKinds_45 : decode cX8_fittingKinds 45 = .ok (.if_icmp .ne 12, 3) := by decide +kernel
theorem dX8_fittingKinds_48 : decode cX8_fittingKinds 48 = .ok (.iload 4, 2) := by decide +kernel
theorem dX8_fittingKinds_50 : decode cX8_fittingKinds 50 = .ok (.iconst 1, 1) := by decide +kernel
theorem dX8_fittingKinds_51 : decode cX8_fittingKinds 51 = .ok (.iload 5, 2) := by decide +kernel
theorem dX8_fittingKinds_53 : decode cX8_fittingKinds 53 = .ok (.ishl, 1) := by decide +kernel
theorem dX8_fittingKinds_54 : decode cX8_fittingKinds 54 = .ok (.ior, 1) := by decide +kernel
theorem dX8_fittingKinds_55 : decode cX8_fittingKinds 55 = .ok (.istore 4, 2) := by decide +kernel
theorem dX8_fittingKinds_57 : decode cX8_fittingKinds 57 = .ok (.iinc 5 1, 3) := by decide +kernel
theorem dX8_fittingKinds_60 : decode cX8_fittingKinds 60 = .ok (.goto (-43), 3) := by decide +kernel
theorem dX8_fittingKinds_63 : decode cX8_fittingKinds 63 = .ok (.iload 4, 2) := by decide +kernel
theorem dX8_fittingKinds_65 : decode cX8_fittingKinds 65 = .ok (.ireturn, 1) := by decide +kernel
theorem dX8_isWithin_0 : decode cX8_isWithin 0 = .ok (.iload_n 0, 1) := by decide +kernel
theorem dX8_isWithin_1 : decode cX8_isWithin 1 = .ok (.iload_n 1, 1) := by decide +kernel
theorem dX8_isWithin_2 : decode cX8_isWithin 2 = .ok (.if_icmp .lt 12, 3) := by decide +kernel
theorem dX8_isWithin_5 : decode cX8_isWithin 5 = .ok (.iload_n 0, 1) := by decide +kernel
theorem dX8_isWithin_6 : decode cX8_isWithin 6 = .ok (.iload_n 2, 1) := by decide +kernel
theorem dX8_isWithin_7 : decode cX8_isWithin 7 = .ok (.if_icmp .gt 7, 3) := by decide +kernel
theorem dX8_isWithin_10 : decode cX8_isWithin 10 = .ok (.iconst 1, 1) := by decide +kernel
theorem dX8_isWithin_11 : decode cX8_isWithin 11 = .ok (.goto 4, 3) := by decide +kernel
theorem dX8_isWithin_14 : decode cX8_isWithin 14 = .ok (.iconst 0, 1) := by decide +kernel
theorem dX8_isWithin_15 : decode cX8_isWithin 15 = .ok (.ireturn, 1) := by decide +kernel
set_option maxRecDepth 20000 in
theorem ggX8_isByte_X8_isWithin : GoodIn wsX8_isByte wsX8_isWithin := goodIn_r _ [4] (by decide +kernel) (by decide +kernel)
set_option maxRecDepth 20000 in
theorem gX8_isByte_X8_isWithin : GoodIn wsX8_isByte (va_wsS RX8 74 yX8_isWithin wsX8_isWithin) := goodIn_app (goodIn_of _ (by decide +kernel)) ggX8_isByte_X8_isWithin
theorem dX8_isByte_0 : decode cX8_isByte 0 = .ok (.iload_n 0, 1) := by decide +kernel
theorem dX8_isByte_1 : decode cX8_isByte 1 = .ok (.iconst 0, 1) := by decide +kernel
theorem dX8_isByte_2 : decode cX8_isByte 2 = .ok (.sipush 255, 3) := by decide +kernel
theorem dX8_isByte_5 : decode cX8_isByte 5 = .ok (.invokestatic 74, 3) := by decide +kernel
theorem dX8_isByte_8 : decode cX8_isByte 8 = .ok (.ireturn, 1) := by decide +kernel
set_option maxRecDepth 20000 in
theorem ggX8_isStand_X8_isWithin : GoodIn wsX8_isStand wsX8_isWithin := goodIn_r _ [4] (by decide +kernel) (by decide +kernel)
set_option maxRecDepth 20000 in
theorem gX8_isStand_X8_isWithin : GoodIn wsX8_isStand (va_wsS RX8 74 yX8_isWithin wsX8_isWithin) := goodIn_app (goodIn_of _ (by decide +kernel)) ggX8_isStand_X8_isWithin
theorem dX8_isStand_0 : decode cX8_isStand 0 = .ok (.iload_n 0, 1) := by decide +kernel
theorem dX8_isStand_1 : decode cX8_isStand 1 = .ok (.iconst 0, 1) := by decide +kernel
theorem dX8_isStand_2 : decode cX8_isStand 2 = .ok (.bipush 15, 2) := by decide +kernel
theorem dX8_isStand_4 : decode cX8_isStand 4 = .ok (.invokestatic 74, 3) := by decide +kernel
theorem dX8_isStand_7 : decode cX8_isStand 7 = .ok (.ireturn, 1) := by decide +kernel
set_option maxRecDepth 20000 in
theorem ggX8_isChange_X8_isStand : GoodIn wsX8_isChange wsX8_isStand := goodIn_r _ [4, 5, 6, 3, 7] (by decide +kernel) (by decide +kernel)
set_option maxRecDepth 20000 in
theorem gX8_isChange_X8_isStand : GoodIn wsX8_isChange (va_wsS RX8 158 yX8_isStand wsX8_isStand) := goodIn_app (goodIn_of _ (by decide +kernel)) ggX8_isChange_X8_isStand
theorem dX8_isChange_0 : decode cX8_isChange 0 = .ok (.iload_n 0, 1) := by decide +kernel
theorem dX8_isChange_1 : decode cX8_isChange 1 = .ok (.invokestatic 158, 3) := by decide +kernel
theorem dX8_isChange_4 : decode cX8_isChange 4 = .ok (.ifCond .eq 19, 3) := by decide +kernel
theorem dX8_isChange_7 : decode cX8_isChange 7 = .ok (.iload_n 1, 1) := by decide +kernel
theorem dX8_isChange_8 : decode cX8_isChange 8 = .ok (.invokestatic 158, 3) := by decide +kernel
theorem dX8_isChange_11 : decode cX8_isChange 11 = .ok (.ifCond .eq 12, 3) := by decide +kernel
theorem dX8_isChange_14 : decode cX8_isChange 14 = .ok (.iload_n 0, 1) := by decide +kernel
theorem dX8_isChange_15 : decode cX8_isChange 15 = .ok (.iload_n 1, 1) := by decide +kernel
theorem dX8_isChange_16 : decode cX8_isChange 16 = .ok (.if_icmp .eq 7, 3) := by decide +kernel
theorem dX8_isChange_19 : decode cX8_isChange 19 = .ok (.iconst 1, 1) := by decide +kernel
theorem dX8_isChange_20 : decode cX8_isChange 20 = .ok (.goto 4, 3) := by decide +kernel
theorem dX8_isChange_23 : decode cX8_isChange 23 = .ok (.iconst 0, 1) := by decide +kernel
theorem dX8_isChange_24 : decode cX8_isChange 24 = .ok (.ireturn, 1) := by decide +kernel
set_option maxRecDepth 20000 in
theorem ggX8_isChangeCode_X8_isWithin : GoodIn wsX8_isChangeCode wsX8_isWithin := goodIn_r _ [4] (by decide +kernel) (by decide +kernel)
set_option maxRecDepth 20000 in
theorem gX8_isChangeCode_X8_isWithin : GoodIn wsX8_isChangeCode (va_wsS RX8 74 yX8_isWithin wsX8_isWithin) := goodIn_app (goodIn_of _ (by decide +kernel)) ggX8_isChangeCode_X8_isWithin
set_option maxRecDepth 20000 in
theorem ggX8_isChangeCode_X8_xFrom : GoodIn wsX8_isChangeCode wsX8_xFrom := goodIn_r _ [7] (by decide +kernel) (by decide +kernel)
set_option maxRecDepth 20000 in
theorem gX8_isChangeCode_X8_xFrom : GoodIn wsX8_isChangeCode (va_wsS RX8 263 yX8_xFrom wsX8_xFrom) := goodIn_app (goodIn_of _ (by decide +kernel)) ggX8_isChangeCode_X8_xFrom
set_option maxRecDepth 20000 in
theorem ggX8_isChangeCode_X8_yFrom : GoodIn wsX8_isChangeCode wsX8_yFrom := goodIn_r _ [10] (by decide +kernel) (by decide +kernel)
set_option maxRecDepth 20000 in
theorem gX8_isChangeCode_X8_yFrom : GoodIn wsX8_isChangeCode (va_wsS RX8 266 yX8_yFrom wsX8_yFrom) := goodIn_app (goodIn_of _ (by decide +kernel)) ggX8_isChangeCode_X8_yFrom
theorem dX8_isChangeCode_0 : decode cX8_isChangeCode 0 = .ok (.iload_n 0, 1) := by decide +kernel
theorem dX8_isChangeCode_1 : decode cX8_isChangeCode 1 = .ok (.iconst 0, 1) := by decide +kernel
theorem dX8_isChangeCode_2 : decode cX8_isChangeCode 2 = .ok (.sipush 255, 3) := by decide +kernel
theorem dX8_isChangeCode_5 : decode cX8_isChangeCode 5 = .ok (.invokestatic 74, 3) := by decide +kernel
theorem dX8_isChangeCode_8 : decode cX8_isChangeCode 8 = .ok (.ifCond .eq 18, 3) := by decide +kernel
theorem dX8_isChangeCode_11 : decode cX8_isChangeCode 11 = .ok (.iload_n 0, 1) := by decide +kernel
theorem dX8_isChangeCode_12 : decode cX8_isChangeCode 12 = .ok (.invokestatic 263, 3) := by decide +kernel
theorem dX8_isChangeCode_15 : decode cX8_isChangeCode 15 = .ok (.iload_n 0, 1) := by decide +kernel
theorem dX8_isChangeCode_16 : decode cX8_isChangeCode 16 = .ok (.invokestatic 266, 3) := by decide +kernel
theorem dX8_isChangeCode_19 : decode cX8_isChangeCode 19 = .ok (.if_icmp .eq 7, 3) := by decide +kernel
theorem dX8_isChangeCode_22 : decode cX8_isChangeCode 22 = .ok (.iconst 1, 1) := by decide +kernel
theorem dX8_isChangeCode_23 : decode cX8_isChangeCode 23 = .ok (.goto 4, 3) := by decide +kernel
theorem dX8_isChangeCode_26 : decode cX8_isChangeCode 26 = .ok (.iconst 0, 1) := by decide +kernel
theorem dX8_isChangeCode_27 : decode cX8_isChangeCode 27 = .ok (.ireturn, 1) := by decide +kernel
theorem dX8_xFrom_0 : decode cX8_xFrom 0 = .ok (.iload_n 0, 1) := by decide +kernel
theorem dX8_xFrom_1 : decode cX8_xFrom 1 = .ok (.iconst 4, 1) := by decide +kernel
theorem dX8_xFrom_2 : decode cX8_xFrom 2 = .ok (.ishr, 1) := by decide +kernel
theorem dX8_xFrom_3 : decode cX8_xFrom 3 = .ok (.ireturn, 1) := by decide +kernel
theorem dX8_yFrom_0 : decode cX8_yFrom 0 = .ok (.iload_n 0, 1) := by decide +kernel
theorem dX8_yFrom_1 : decode cX8_yFrom 1 = .ok (.bipush 15, 2) := by decide +kernel
theorem dX8_yFrom_3 : decode cX8_yFrom 3 = .ok (.iand, 1) := by decide +kernel
theorem dX8_yFrom_4 : decode cX8_yFrom 4 = .ok (.ireturn, 1) := by decide +kernel
set_option maxRecDepth 20000 in
theorem ggX8_isOneInputChange_J6_bitCount_0f7a4 : GoodIn wsX8_isOneInputChange wsJ6_bitCount_0f7a4 := goodIn_r _ [4, 5, 6, 7] (by decide +kernel) (by decide +kernel)
set_option maxRecDepth 20000 in
theorem gX8_isOneInputChange_J6_bitCount_0f7a4 : GoodIn wsX8_isOneInputChange (va_wsS RX8 324 yJ6_bitCount_0f7a4 wsJ6_bitCount_0f7a4) := goodIn_app (goodIn_of _ (by decide +kernel)) ggX8_isOneInputChange_J6_bitCount_0f7a4
theorem dX8_isOneInputChange_0 : decode cX8_isOneInputChange 0 = .ok (.iload_n 0, 1) := by decide +kernel
theorem dX8_isOneInputChange_1 : decode cX8_isOneInputChange 1 = .ok (.iload_n 1, 1) := by decide +kernel
theorem dX8_isOneInputChange_2 : decode cX8_isOneInputChange 2 = .ok (.ixor, 1) := by decide +kernel
theorem dX8_isOneInputChange_3 : decode cX8_isOneInputChange 3 = .ok (.invokestatic 324, 3) := by decide +kernel
theorem dX8_isOneInputChange_6 : decode cX8_isOneInputChange 6 = .ok (.iconst 1, 1) := by decide +kernel
theorem dX8_isOneInputChange_7 : decode cX8_isOneInputChange 7 = .ok (.if_icmp .ne 7, 3) := by decide +kernel
theorem dX8_isOneInputChange_10 : decode cX8_isOneInputChange 10 = .ok (.iconst 1, 1) := by decide +kernel
theorem dX8_isOneInputChange_11 : decode cX8_isOneInputChange 11 = .ok (.goto 4, 3) := by decide +kernel
theorem dX8_isOneInputChange_14 : decode cX8_isOneInputChange 14 = .ok (.iconst 0, 1) := by decide +kernel
theorem dX8_isOneInputChange_15 : decode cX8_isOneInputChange 15 = .ok (.ireturn, 1) := by decide +kernel
set_option maxRecDepth 20000 in
theorem ggX8_isSheet_X8_isWithin : GoodIn wsX8_isSheet wsX8_isWithin := goodIn_r _ [4] (by decide +kernel) (by decide +kernel)
set_option maxRecDepth 20000 in
theorem gX8_isSheet_X8_isWithin : GoodIn wsX8_isSheet (va_wsS RX8 74 yX8_isWithin wsX8_isWithin) := goodIn_app (goodIn_of _ (by decide +kernel)) ggX8_isSheet_X8_isWithin
theorem dX8_isSheet_0 : decode cX8_isSheet 0 = .ok (.iload_n 0, 1) := by decide +kernel
theorem dX8_isSheet_1 : decode cX8_isSheet 1 = .ok (.iconst 0, 1) := by decide +kernel
theorem dX8_isSheet_2 : decode cX8_isSheet 2 = .ok (.iconst 3, 1) := by decide +kernel
theorem dX8_isSheet_3 : decode cX8_isSheet 3 = .ok (.invokestatic 74, 3) := by decide +kernel
theorem dX8_isSheet_6 : decode cX8_isSheet 6 = .ok (.ireturn, 1) := by decide +kernel
theorem dX8_isSort_0 : decode cX8_isSort 0 = .ok (.iload_n 0, 1) := by decide +kernel
theorem dX8_isSort_1 : decode cX8_isSort 1 = .ok (.ifCond .eq 8, 3) := by decide +kernel
theorem dX8_isSort_4 : decode cX8_isSort 4 = .ok (.iload_n 0, 1) := by decide +kernel
theorem dX8_isSort_5 : decode cX8_isSort 5 = .ok (.iconst 1, 1) := by decide +kernel
theorem dX8_isSort_6 : decode cX8_isSort 6 = .ok (.if_icmp .ne 7, 3) := by decide +kernel
theorem dX8_isSort_9 : decode cX8_isSort 9 = .ok (.iconst 1, 1) := by decide +kernel
theorem dX8_isSort_10 : decode cX8_isSort 10 = .ok (.goto 4, 3) := by decide +kernel
theorem dX8_isSort_13 : decode cX8_isSort 13 = .ok (.iconst 0, 1) := by decide +kernel
theorem dX8_isSort_14 : decode cX8_isSort 14 = .ok (.ireturn, 1) := by decide +kernel
theorem dX8_isKindOrUnder_0 : decode cX8_isKindOrUnder 0 = .ok (.iload_n 0, 1) := by decide +kernel
theorem dX8_isKindOrUnder_1 : decode cX8_isKindOrUnder 1 = .ok (.iload_n 1, 1) := by decide +kernel
theorem dX8_isKindOrUnder_2 : decode cX8_isKindOrUnder 2 = .ok (.if_icmp .eq 22, 3) := by decide +kernel
theorem dX8_isKindOrUnder_5 : decode cX8_isKindOrUnder 5 = .ok (.iload_n 0, 1) := by decide +kernel
theorem dX8_isKindOrUnder_6 : decode cX8_isKindOrUnder 6 = .ok (.iconst 1, 1) := by decide +kernel
theorem dX8_isKindOrUnder_7 : decode cX8_isKindOrUnder 7 = .ok (.if_icmp .ne 7, 3) := by decide +kernel
theorem dX8_isKindOrUnder_10 : decode cX8_isKindOrUnder 10 = .ok (.iload_n 1, 1) := by decide +kernel
theorem dX8_isKindOrUnder_11 : decode cX8_isKindOrUnder 11 = .ok (.ifCond .eq 13, 3) := by decide +kernel
theorem dX8_isKindOrUnder_14 : decode cX8_isKindOrUnder 14 = .ok (.iload_n 0, 1) := by decide +kernel
theorem dX8_isKindOrUnder_15 : decode cX8_isKindOrUnder 15 = .ok (.iconst 3, 1) := by decide +kernel
theorem dX8_isKindOrUnder_16 : decode cX8_isKindOrUnder 16 = .ok (.if_icmp .ne 12, 3) := by decide +kernel
theorem dX8_isKindOrUnder_19 : decode cX8_isKindOrUnder 19 = .ok (.iload_n 1, 1) := by decide +kernel
theorem dX8_isKindOrUnder_20 : decode cX8_isKindOrUnder 20 = .ok (.iconst 2, 1) := by decide +kernel
theorem dX8_isKindOrUnder_21 : decode cX8_isKindOrUnder 21 = .ok (.if_icmp .ne 7, 3) := by decide +kernel
theorem dX8_isKindOrUnder_24 : decode cX8_isKindOrUnder 24 = .ok (.iconst 1, 1) := by decide +kernel
theorem dX8_isKindOrUnder_25 : decode cX8_isKindOrUnder 25 = .ok (.goto 4, 3) := by decide +kernel
theorem dX8_isKindOrUnder_28 : decode cX8_isKindOrUnder 28 = .ok (.iconst 0, 1) := by decide +kernel
theorem dX8_isKindOrUnder_29 : decode cX8_isKindOrUnder 29 = .ok (.ireturn, 1) := by decide +kernel
theorem dX8_wordOf_0 : decode cX8_wordOf 0 = .ok (.iload_n 0, 1) := by decide +kernel
theorem dX8_wordOf_1 : decode cX8_wordOf 1 = .ok (.tableswitch 55 0 4 #[35, 39, 43, 47, 51], 35) := by decide +kernel
theorem dX8_wordOf_36 : decode cX8_wordOf 36 = .ok (.ldc_w 328, 3) := by decide +kernel
theorem dX8_wordOf_39 : decode cX8_wordOf 39 = .ok (.areturn, 1) := by decide +kernel
theorem dX8_wordOf_40 : decode cX8_wordOf 40 = .ok (.ldc_w 330, 3) := by decide +kernel
theorem dX8_wordOf_43 : decode cX8_wordOf 43 = .ok (.areturn, 1) := by decide +kernel
theorem dX8_wordOf_44 : decode cX8_wordOf 44 = .ok (.ldc_w 332, 3) := by decide +kernel
theorem dX8_wordOf_47 : decode cX8_wordOf 47 = .ok (.areturn, 1) := by decide +kernel
theorem dX8_wordOf_48 : decode cX8_wordOf 48 = .ok (.ldc_w 334, 3) := by decide +kernel
theorem dX8_wordOf_51 : decode cX8_wordOf 51 = .ok (.areturn, 1) := by decide +kernel
theorem dX8_wordOf_52 : decode cX8_wordOf 52 = .ok (.ldc_w 336, 3) := by decide +kernel
theorem dX8_wordOf_55 : decode cX8_wordOf 55 = .ok (.areturn, 1) := by decide +kernel
theorem dX8_wordOf_56 : decode cX8_wordOf 56 = .ok (.ldc_w 338, 3) := by decide +kernel
theorem dX8_wordOf_59 : decode cX8_wordOf 59 = .ok (.areturn, 1) := by decide +kernel
theorem dX8_combined_0 : decode cX8_combined 0 = .ok (.iload_n 0, 1) := by decide +kernel
theorem dX8_combined_1 : decode cX8_combined 1 = .ok (.tableswitch 63 0 4 #[35, 39, 47, 51, 59], 35) := by decide +kernel
theorem dX8_combined_36 : decode cX8_combined 36 = .ok (.lload_n 1, 1) := by decide +kernel
theorem dX8_combined_37 : decode cX8_combined 37 = .ok (.lload_n 3, 1) := by decide +kernel
theorem dX8_combined_38 : decode cX8_combined 38 = .ok (.land, 1) := by decide +kernel
theorem dX8_combined_39 : decode cX8_combined 39 = .ok (.lreturn, 1) := by decide +kernel
theorem dX8_combined_40 : decode cX8_combined 40 = .ok (.lload_n 1, 1) := by decide +kernel
theorem dX8_combined_41 : decode cX8_combined 41 = .ok (.lload_n 3, 1) := by decide +kernel
theorem dX8_combined_42 : decode cX8_combined 42 = .ok (.land, 1) := by decide +kernel
theorem dX8_combined_43 : decode cX8_combined 43 = .ok (.ldc2_w 340, 3) := by decide +kernel
theorem dX8_combined_46 : decode cX8_combined 46 = .ok (.lxor, 1) := by decide +kernel
theorem dX8_combined_47 : decode cX8_combined 47 = .ok (.lreturn, 1) := by decide +kernel
theorem dX8_combined_48 : decode cX8_combined 48 = .ok (.lload_n 1, 1) := by decide +kernel
theorem dX8_combined_49 : decode cX8_combined 49 = .ok (.lload_n 3, 1) := by decide +kernel
theorem dX8_combined_50 : decode cX8_combined 50 = .ok (.lor, 1) := by decide +kernel
theorem dX8_combined_51 : decode cX8_combined 51 = .ok (.lreturn, 1) := by decide +kernel
theorem dX8_combined_52 : decode cX8_combined 52 = .ok (.lload_n 1, 1) := by decide +kernel
theorem dX8_combined_53 : decode cX8_combined 53 = .ok (.lload_n 3, 1) := by decide +kernel
theorem dX8_combined_54 : decode cX8_combined 54 = .ok (.lor, 1) := by decide +kernel
theorem dX8_combined_55 : decode cX8_combined 55 = .ok (.ldc2_w 340, 3) := by decide +kernel
theorem dX8_combined_58 : decode cX8_combined 58 = .ok (.lxor, 1) := by decide +kernel
theorem dX8_combined_59 : decode cX8_combined 59 = .ok (.lreturn, 1) := by decide +kernel
theorem dX8_combined_60 : decode cX8_combined 60 = .ok (.lload_n 1, 1) := by decide +kernel
theorem dX8_combined_61 : decode cX8_combined 61 = .ok (.lload_n 3, 1) := by decide +kernel
theorem dX8_combined_62 : decode cX8_combined 62 = .ok (.lxor, 1) := by decide +kernel
theorem dX8_combined_63 : decode cX8_combined 63 = .ok (.lreturn, 1) := by decide +kernel
theorem dX8_combined_64 : decode cX8_combined 64 = .ok (.lload_n 1, 1) := by decide +kernel
theorem dX8_combined_65 : decode cX8_combined 65 = .ok (.ldc2_w 340, 3) := by decide +kernel
theorem dX8_combined_68 : decode cX8_combined 68 = .ok (.lxor, 1) := by decide +kernel
theorem dX8_combined_69 : decode cX8_combined 69 = .ok (.lreturn, 1) := by decide +kernel
theorem dX8_held_0 : decode cX8_held 0 = .ok (.ldc_w 342, 3) := by decide +kernel
theorem dX8_held_3 : decode cX8_held 3 = .ok (.istore_n 2, 1) := by decide +kernel
theorem dX8_held_4 : decode cX8_held 4 = .ok (.iconst 0, 1) := by decide +kernel
theorem dX8_held_5 : decode cX8_held 5 = .ok (.istore_n 3, 1) := by decide +kernel
theorem dX8_held_6 : decode cX8_held 6 = .ok (.iload_n 3, 1) := by decide +kernel
theorem dX8_held_7 : decode cX8_held 7 = .ok (.iconst 4, 1) := by decide +kernel
theorem dX8_held_8 : decode cX8_held 8 = .ok (.if_icmp .ge 58, 3) := by decide +kernel
theorem dX8_held_11 : decode cX8_held 11 = .ok (.iload_n 0, 1) := by decide +kernel
theorem dX8_held_12 : decode cX8_held 12 = .ok (.iload_n 3, 1) := by decide +kernel
theorem dX8_held_13 : decode cX8_held 13 = .ok (.ishr, 1) := by decide +kernel
theorem dX8_held_14 : decode cX8_held 14 = .ok (.iconst 1, 1) := by decide +kernel
theorem dX8_held_15 : decode cX8_held 15 = .ok (.iand, 1) := by decide +kernel
theorem dX8_held_16 : decode cX8_held 16 = .ok (.ifCond .ne 6, 3) := by decide +kernel
theorem dX8_held_19 : decode cX8_held 19 = .ok (.goto 41, 3) := by decide +kernel
theorem dX8_held_22 : decode cX8_held 22 = .ok (.iload_n 1, 1) := by decide +kernel
theorem dX8_held_23 : decode cX8_held 23 = .ok (.iload_n 3, 1) := by decide +kernel
theorem dX8_held_24 : decode cX8_held 24 = .ok (.ishr, 1) := by decide +kernel
theorem dX8_held_25 : decode cX8_held 25 = .ok (.iconst 1, 1) := by decide +kernel
theorem dX8_held_26 : decode cX8_held 26 = .ok (.iand, 1) := by decide +kernel
theorem dX8_held_27 : decode cX8_held 27 = .ok (.ifCond .eq 7, 3) := by decide +kernel
theorem dX8_held_30 : decode cX8_held 30 = .ok (.iconst 1, 1) := by decide +kernel
theorem dX8_held_31 : decode cX8_held 31 = .ok (.goto 4, 3) := by decide +kernel
theorem dX8_held_34 : decode cX8_held 34 = .ok (.iconst 0, 1) := by decide +kernel
theorem dX8_held_35 : decode cX8_held 35 = .ok (.istore 4, 2) := by decide +kernel
theorem dX8_held_37 : decode cX8_held 37 = .ok (.iload_n 2, 1) := by decide +kernel
theorem dX8_held_38 : decode cX8_held 38 = .ok (.iload 4, 2) := by decide +kernel
theorem dX8_held_40 : decode cX8_held 40 = .ok (.ifCond .eq 11, 3) := by decide +kernel
theorem dX8_held_43 : decode cX8_held 43 = .ok (.getstatic 343, 3) := by decide +kernel
theorem dX8_held_46 : decode cX8_held 46 = .ok (.iload_n 3, 1) := by decide +kernel
theorem dX8_held_47 : decode cX8_held 47 = .ok (.iaload, 1) := by decide +kernel
theorem dX8_held_48 : decode cX8_held 48 = .ok (.goto 10, 3) := by decide +kernel
theorem dX8_held_51 : decode cX8_held 51 = .ok (.getstatic 343, 3) := by decide +kernel
theorem dX8_held_54 : decode cX8_held 54 = .ok (.iload_n 3, 1) := by decide +kernel
theorem dX8_held_55 : decode cX8_held 55 = .ok (.iaload, 1) := by decide +kernel
theorem dX8_held_56 : decode cX8_held 56 = .ok (.iconst (-1), 1) := by decide +kernel
theorem dX8_held_57 : decode cX8_held 57 = .ok (.ixor, 1) := by decide +kernel
theorem dX8_held_58 : decode cX8_held 58 = .ok (.iand, 1) := by decide +kernel
theorem dX8_held_59 : decode cX8_held 59 = .ok (.istore_n 2, 1) := by decide +kernel
theorem dX8_held_60 : decode cX8_held 60 = .ok (.iinc 3 1, 3) := by decide +kernel
theorem dX8_held_63 : decode cX8_held 63 = .ok (.goto (-57), 3) := by decide +kernel
theorem dX8_held_66 : decode cX8_held 66 = .ok (.iload_n 2, 1) := by decide +kernel
theorem dX8_held_67 : decode cX8_held 67 = .ok (.ireturn, 1) := by decide +kernel
theorem dX8_pairsAmong_0 : decode cX8_pairsAmong 0 = .ok (.lconst 0, 1) := by decide +kernel
theorem dX8_pairsAmong_1 : decode cX8_pairsAmong 1 = .ok (.lstore_n 1, 1) := by decide +kernel
theorem dX8_pairsAmong_2 : decode cX8_pairsAmong 2 = .ok (.iconst 0, 1) := by decide +kernel
theorem dX8_pairsAmong_3 : decode cX8_pairsAmong 3 = .ok (.istore_n 3, 1) := by decide +kernel
theorem dX8_pairsAmong_4 : decode cX8_pairsAmong 4 = .ok (.iload_n 3, 1) := by decide +kernel
theorem dX8_pairsAmong_5 : decode cX8_pairsAmong 5 = .ok (.iconst 4, 1) := by decide +kernel
theorem dX8_pairsAmong_6 : decode cX8_pairsAmong 6 = .ok (.if_icmp .ge 41, 3) := by decide +kernel
theorem dX8_pairsAmong_9 : decode cX8_pairsAmong 9 = .ok (.iload_n 0, 1) := by decide +kernel
theorem dX8_pairsAmong_10 : decode cX8_pairsAmong 10 = .ok (.iconst 1, 1) := by decide +kernel
theorem dX8_pairsAmong_11 : decode cX8_pairsAmong 11 = .ok (.iload_n 3, 1) := by decide +kernel
theorem dX8_pairsAmong_12 : decode cX8_pairsAmong 12 = .ok (.ishl, 1) := by decide +kernel
theorem dX8_pairsAmong_13 : decode cX8_pairsAmong 13 = .ok (.ishr, 1) := by decide +kernel
theorem dX8_pairsAmong_14 : decode cX8_pairsAmong 14 = .ok (.istore 4, 2) := by decide +kernel
theorem dX8_pairsAmong_16 : decode cX8_pairsAmong 16 = .ok (.iload_n 0, 1) := by decide +kernel
theorem dX8_pairsAmong_17 : decode cX8_pairsAmong 17 = .ok (.iload 4, 2) := by decide +kernel
theorem dX8_pairsAmong_19 : decode cX8_pairsAmong 19 = .ok (.iand, 1) := by decide +kernel
theorem dX8_pairsAmong_20 : decode cX8_pairsAmong 20 = .ok (.getstatic 343, 3) := by decide +kernel
theorem dX8_pairsAmong_23 : decode cX8_pairsAmong 23 = .ok (.iload_n 3, 1) := by decide +kernel
theorem dX8_pairsAmong_24 : decode cX8_pairsAmong 24 = .ok (.iaload, 1) := by decide +kernel
theorem dX8_pairsAmong_25 : decode cX8_pairsAmong 25 = .ok (.iconst (-1), 1) := by decide +kernel
theorem dX8_pairsAmong_26 : decode cX8_pairsAmong 26 = .ok (.ixor, 1) := by decide +kernel
theorem dX8_pairsAmong_27 : decode cX8_pairsAmong 27 = .ok (.iand, 1) := by decide +kernel
theorem dX8_pairsAmong_28 : decode cX8_pairsAmong 28 = .ok (.i2l, 1) := by decide +kernel
theorem dX8_pairsAmong_29 : decode cX8_pairsAmong 29 = .ok (.lstore 5, 2) := by decide +kernel
theorem dX8_pairsAmong_31 : decode cX8_pairsAmong 31 = .ok (.lload_n 1, 1) := by decide +kernel
theorem dX8_pairsAmong_32 : decode cX8_pairsAmong 32 = .ok (.lload 5, 2) := by decide +kernel
theorem dX8_pairsAmong_34 : decode cX8_pairsAmong 34 = .ok (.bipush 16, 2) := by decide +kernel
theorem dX8_pairsAmong_36 : decode cX8_pairsAmong 36 = .ok (.iload_n 3, 1) := by decide +kernel
theorem dX8_pairsAmong_37 : decode cX8_pairsAmong 37 = .ok (.imul, 1) := by decide +kernel
theorem dX8_pairsAmong_38 : decode cX8_pairsAmong 38 = .ok (.lshl, 1) := by decide +kernel
theorem dX8_pairsAmong_39 : decode cX8_pairsAmong 39 = .ok (.lor, 1) := by decide +kernel
theorem dX8_pairsAmong_40 : decode cX8_pairsAmong 40 = .ok (.lstore_n 1, 1) := by decide +kernel
theorem dX8_pairsAmong_41 : decode cX8_pairsAmong 41 = .ok (.iinc 3 1, 3) := by decide +kernel
theorem dX8_pairsAmong_44 : decode cX8_pairsAmong 44 = .ok (.goto (-40), 3) := by decide +kernel
theorem dX8_pairsAmong_47 : decode cX8_pairsAmong 47 = .ok (.lload_n 1, 1) := by decide +kernel
theorem dX8_pairsAmong_48 : decode cX8_pairsAmong 48 = .ok (.lreturn, 1) := by decide +kernel
theorem dX8_hasPair_0 : decode cX8_hasPair 0 = .ok (.lload_n 0, 1) := by decide +kernel
theorem dX8_hasPair_1 : decode cX8_hasPair 1 = .ok (.bipush 16, 2) := by decide +kernel
theorem dX8_hasPair_3 : decode cX8_hasPair 3 = .ok (.iload_n 3, 1) := by decide +kernel
theorem dX8_hasPair_4 : decode cX8_hasPair 4 = .ok (.imul, 1) := by decide +kernel
theorem dX8_hasPair_5 : decode cX8_hasPair 5 = .ok (.iload_n 2, 1) := by decide +kernel
theorem dX8_hasPair_6 : decode cX8_hasPair 6 = .ok (.iadd, 1) := by decide +kernel
theorem dX8_hasPair_7 : decode cX8_hasPair 7 = .ok (.lushr, 1) := by decide +kernel
theorem dX8_hasPair_8 : decode cX8_hasPair 8 = .ok (.lconst 1, 1) := by decide +kernel
theorem dX8_hasPair_9 : decode cX8_hasPair 9 = .ok (.land, 1) := by decide +kernel
theorem dX8_hasPair_10 : decode cX8_hasPair 10 = .ok (.lconst 0, 1) := by decide +kernel
theorem dX8_hasPair_11 : decode cX8_hasPair 11 = .ok (.lcmp, 1) := by decide +kernel
theorem dX8_hasPair_12 : decode cX8_hasPair 12 = .ok (.ifCond .eq 7, 3) := by decide +kernel
theorem dX8_hasPair_15 : decode cX8_hasPair 15 = .ok (.iconst 1, 1) := by decide +kernel
theorem dX8_hasPair_16 : decode cX8_hasPair 16 = .ok (.goto 4, 3) := by decide +kernel
theorem dX8_hasPair_19 : decode cX8_hasPair 19 = .ok (.iconst 0, 1) := by decide +kernel
theorem dX8_hasPair_20 : decode cX8_hasPair 20 = .ok (.ireturn, 1) := by decide +kernel
theorem dX9_init_0 : decode cX9_init 0 = .ok (.aload_n 0, 1) := by decide +kernel
theorem dX9_init_1 : decode cX9_init 1 = .ok (.invokespecial 1, 3) := by decide +kernel
theorem dX9_init_4 : decode cX9_init 4 = .ok (.aload_n 0, 1) := by decide +kernel
theorem dX9_init_5 : decode cX9_init 5 = .ok (.bipush 66, 2) := by decide +kernel
theorem dX9_init_7 : decode cX9_init 7 = .ok (.newarray .int, 2) := by decide +kernel
theorem dX9_init_9 : decode cX9_init 9 = .ok (.putfield 9, 3) := by decide +kernel
theorem dX9_init_12 : decode cX9_init 12 = .ok (.aload_n 0, 1) := by decide +kernel
theorem dX9_init_13 : decode cX9_init 13 = .ok (.bipush 66, 2) := by decide +kernel
theorem dX9_init_15 : decode cX9_init 15 = .ok (.newarray .int, 2) := by decide +kernel
theorem dX9_init_17 : decode cX9_init 17 = .ok (.putfield 13, 3) := by decide +kernel
theorem dX9_init_20 : decode cX9_init 20 = .ok (.aload_n 0, 1) := by decide +kernel
theorem dX9_init_21 : decode cX9_init 21 = .ok (.bipush 24, 2) := by decide +kernel
theorem dX9_init_23 : decode cX9_init 23 = .ok (.newarray .int, 2) := by decide +kernel
theorem dX9_init_25 : decode cX9_init 25 = .ok (.putfield 16, 3) := by decide +kernel
theorem dX9_init_28 : decode cX9_init 28 = .ok (.aload_n 0, 1) := by decide +kernel
theorem dX9_init_29 : decode cX9_init 29 = .ok (.bipush 30, 2) := by decide +kernel
theorem dX9_init_31 : decode cX9_init 31 = .ok (.newarray .int, 2) := by decide +kernel
theorem dX9_init_33 : decode cX9_init 33 = .ok (.putfield 19, 3) := by decide +kernel
theorem dX9_init_36 : decode cX9_init 36 = .ok (.aload_n 0, 1) := by decide +kernel
theorem dX9_init_37 : decode cX9_init 37 = .ok (.bipush 24, 2) := by decide +kernel
theorem dX9_init_39 : decode cX9_init 39 = .ok (.newarray .char, 2) := by decide +kernel
theorem dX9_init_41 : decode cX9_init 41 = .ok (.dup, 1) := by decide +kernel
theorem dX9_init_42 : decode cX9_init 42 = .ok (.iconst 0, 1) := by decide +kernel
theorem dX9_init_43 : decode cX9_init 43 = .ok (.bipush 97, 2) := by decide +kernel
theorem dX9_init_45 : decode cX9_init 45 = .ok (.castore, 1) := by decide +kernel
theorem dX9_init_46 : decode cX9_init 46 = .ok (.dup, 1) := by decide +kernel
theorem dX9_init_47 : decode cX9_init 47 = .ok (.iconst 1, 1) := by decide +kernel
theorem dX9_init_48 : decode cX9_init 48 = .ok (.bipush 110, 2) := by decide +kernel
theorem dX9_init_50 : decode cX9_init 50 = .ok (.castore, 1) := by decide +kernel
theorem dX9_init_51 : decode cX9_init 51 = .ok (.dup, 1) := by decide +kernel
theorem dX9_init_52 : decode cX9_init 52 = .ok (.iconst 2, 1) := by decide +kernel
theorem dX9_init_53 : decode cX9_init 53 = .ok (.bipush 100, 2) := by decide +kernel
theorem dX9_init_55 : decode cX9_init 55 = .ok (.castore, 1) := by decide +kernel
theorem dX9_init_56 : decode cX9_init 56 = .ok (.dup, 1) := by decide +kernel
theorem dX9_init_57 : decode cX9_init 57 = .ok (.iconst 3, 1) := by decide +kernel
theorem dX9_init_58 : decode cX9_init 58 = .ok (.bipush 32, 2) := by decide +kernel
theorem dX9_init_60 : decode cX9_init 60 = .ok (.castore, 1) := by decide +kernel
theorem dX9_init_61 : decode cX9_init 61 = .ok (.dup, 1) := by decide +kernel
theorem dX9_init_62 : decode cX9_init 62 = .ok (.iconst 4, 1) := by decide +kernel
theorem dX9_init_63 : decode cX9_init 63 = .ok (.bipush 110, 2) := by decide +kernel
theorem dX9_init_65 : decode cX9_init 65 = .ok (.castore, 1) := by decide +kernel
theorem dX9_init_66 : decode cX9_init 66 = .ok (.dup, 1) := by decide +kernel
theorem dX9_init_67 : decode cX9_init 67 = .ok (.iconst 5, 1) := by decide +kernel
theorem dX9_init_68 : decode cX9_init 68 = .ok (.bipush 97, 2) := by decide +kernel
theorem dX9_init_70 : decode cX9_init 70 = .ok (.castore, 1) := by decide +kernel
theorem dX9_init_71 : decode cX9_init 71 = .ok (.dup, 1) := by decide +kernel
theorem dX9_init_72 : decode cX9_init 72 = .ok (.bipush 6, 2) := by decide +kernel
theorem dX9_init_74 : decode cX9_init 74 = .ok (.bipush 110, 2) := by decide +kernel
theorem dX9_init_76 : decode cX9_init 76 = .ok (.castore, 1) := by decide +kernel
theorem dX9_init_77 : decode cX9_init 77 = .ok (.dup, 1) := by decide +kernel
theorem dX9_init_78 : decode cX9_init 78 = .ok (.bipush 7, 2) := by decide +kernel
theorem dX9_init_80 : decode cX9_init 80 = .ok (.bipush 100, 2) := by decide +kernel
theorem dX9_init_82 : decode cX9_init 82 = .ok (.castore, 1) := by decide +kernel
theorem dX9_init_83 : decode cX9_init 83 = .ok (.dup, 1) := by decide +kernel
theorem dX9_init_84 : decode cX9_init 84 = .ok (.bipush 8, 2) := by decide +kernel
theorem dX9_init_86 : decode cX9_init 86 = .ok (.bipush 111, 2) := by decide +kernel
theorem dX9_init_88 : decode cX9_init 88 = .ok (.castore, 1) := by decide +kernel
theorem dX9_init_89 : decode cX9_init 89 = .ok (.dup, 1) := by decide +kernel
theorem dX9_init_90 : decode cX9_init 90 = .ok (.bipush 9, 2) := by decide +kernel
theorem dX9_init_92 : decode cX9_init 92 = .ok (.bipush 114, 2) := by decide +kernel
theorem dX9_init_94 : decode cX9_init 94 = .ok (.castore, 1) := by decide +kernel
theorem dX9_init_95 : decode cX9_init 95 = .ok (.dup, 1) := by decide +kernel
theorem dX9_init_96 : decode cX9_init 96 = .ok (.bipush 10, 2) := by decide +kernel
theorem dX9_init_98 : decode cX9_init 98 = .ok (.bipush 32, 2) := by decide +kernel
theorem dX9_init_100 : decode cX9_init 100 = .ok (.castore, 1) := by decide +kernel
theorem dX9_init_101 : decode cX9_init 101 = .ok (.dup, 1) := by decide +kernel
theorem dX9_init_102 : decode cX9_init 102 = .ok (.bipush 11, 2) := by decide +kernel
theorem dX9_init_104 : decode cX9_init 104 = .ok (.bipush 32, 2) := by decide +kernel
theorem dX9_init_106 : decode cX9_init 106 = .ok (.castore, 1) := by decide +kernel
theorem dX9_init_107 : decode cX9_init 107 = .ok (.dup, 1) := by decide +kernel
theorem dX9_init_108 : decode cX9_init 108 = .ok (.bipush 12, 2) := by decide +kernel
theorem dX9_init_110 : decode cX9_init 110 = .ok (.bipush 110, 2) := by decide +kernel
theorem dX9_init_112 : decode cX9_init 112 = .ok (.castore, 1) := by decide +kernel
theorem dX9_init_113 : decode cX9_init 113 = .ok (.dup, 1) := by decide +kernel
theorem dX9_init_114 : decode cX9_init 114 = .ok (.bipush 13, 2) := by decide +kernel
theorem dX9_init_116 : decode cX9_init 116 = .ok (.bipush 111, 2) := by decide +kernel
theorem dX9_init_118 : decode cX9_init 118 = .ok (.castore, 1) := by decide +kernel
theorem dX9_init_119 : decode cX9_init 119 = .ok (.dup, 1) := by decide +kernel
theorem dX9_init_120 : decode cX9_init 120 = .ok (.bipush 14, 2) := by decide +kernel
theorem dX9_init_122 : decode cX9_init 122 = .ok (.bipush 114, 2) := by decide +kernel
theorem dX9_init_124 : decode cX9_init 124 = .ok (.castore, 1) := by decide +kernel
theorem dX9_init_125 : decode cX9_init 125 = .ok (.dup, 1) := by decide +kernel
theorem dX9_init_126 : decode cX9_init 126 = .ok (.bipush 15, 2) := by decide +kernel
theorem dX9_init_128 : decode cX9_init 128 = .ok (.bipush 32, 2) := by decide +kernel
theorem dX9_init_130 : decode cX9_init 130 = .ok (.castore, 1) := by decide +kernel
theorem dX9_init_131 : decode cX9_init 131 = .ok (.dup, 1) := by decide +kernel
theorem dX9_init_132 : decode cX9_init 132 = .ok (.bipush 16, 2) := by decide +kernel
theorem dX9_init_134 : decode cX9_init 134 = .ok (.bipush 120, 2) := by decide +kernel
theorem dX9_init_136 : decode cX9_init 136 = .ok (.castore, 1) := by decide +kernel
theorem dX9_init_137 : decode cX9_init 137 = .ok (.dup, 1) := by decide +kernel
theorem dX9_init_138 : decode cX9_init 138 = .ok (.bipush 17, 2) := by decide +kernel
theorem dX9_init_140 : decode cX9_init 140 = .ok (.bipush 111, 2) := by decide +kernel
theorem dX9_init_142 : decode cX9_init 142 = .ok (.castore, 1) := by decide +kernel
theorem dX9_init_143 : decode cX9_init 143 = .ok (.dup, 1) := by decide +kernel
theorem dX9_init_144 : decode cX9_init 144 = .ok (.bipush 18, 2) := by decide +kernel
theorem dX9_init_146 : decode cX9_init 146 = .ok (.bipush 114, 2) := by decide +kernel
theorem dX9_init_148 : decode cX9_init 148 = .ok (.castore, 1) := by decide +kernel
theorem dX9_init_149 : decode cX9_init 149 = .ok (.dup, 1) := by decide +kernel
theorem dX9_init_150 : decode cX9_init 150 = .ok (.bipush 19, 2) := by decide +kernel
theorem dX9_init_152 : decode cX9_init 152 = .ok (.bipush 32, 2) := by decide +kernel
theorem dX9_init_154 : decode cX9_init 154 = .ok (.castore, 1) := by decide +kernel
theorem dX9_init_155 : decode cX9_init 155 = .ok (.dup, 1) := by decide +kernel
theorem dX9_init_156 : decode cX9_init 156 = .ok (.bipush 20, 2) := by decide +kernel
theorem dX9_init_158 : decode cX9_init 158 = .ok (.bipush 110, 2) := by decide +kernel
theorem dX9_init_160 : decode cX9_init 160 = .ok (.castore, 1) := by decide +kernel
theorem dX9_init_161 : decode cX9_init 161 = .ok (.dup, 1) := by decide +kernel
theorem dX9_init_162 : decode cX9_init 162 = .ok (.bipush 21, 2) := by decide +kernel
theorem dX9_init_164 : decode cX9_init 164 = .ok (.bipush 111, 2) := by decide +kernel
theorem dX9_init_166 : decode cX9_init 166 = .ok (.castore, 1) := by decide +kernel
theorem dX9_init_167 : decode cX9_init 167 = .ok (.dup, 1) := by decide +kernel
theorem dX9_init_168 : decode cX9_init 168 = .ok (.bipush 22, 2) := by decide +kernel
theorem dX9_init_170 : decode cX9_init 170 = .ok (.bipush 116, 2) := by decide +kernel
theorem dX9_init_172 : decode cX9_init 172 = .ok (.castore, 1) := by decide +kernel
theorem dX9_init_173 : decode cX9_init 173 = .ok (.dup, 1) := by decide +kernel
theorem dX9_init_174 : decode cX9_init 174 = .ok (.bipush 23, 2) := by decide +kernel
theorem dX9_init_176 : decode cX9_init 176 = .ok (.bipush 32, 2) := by decide +kernel
theorem dX9_init_178 : decode cX9_init 178 = .ok (.castore, 1) := by decide +kernel
theorem dX9_init_179 : decode cX9_init 179 = .ok (.putfield 22, 3) := by decide +kernel
theorem dX9_init_182 : decode cX9_init 182 = .ok (.aload_n 0, 1) := by decide +kernel
theorem dX9_init_183 : decode cX9_init 183 = .ok (.iconst 4, 1) := by decide +kernel
theorem dX9_init_184 : decode cX9_init 184 = .ok (.newarray .int, 2) := by decide +kernel
theorem dX9_init_186 : decode cX9_init 186 = .ok (.putfield 26, 3) := by decide +kernel
theorem dX9_init_189 : decode cX9_init 189 = .ok (.aload_n 0, 1) := by decide +kernel
theorem dX9_init_190 : decode cX9_init 190 = .ok (.bipush 12, 2) := by decide +kernel
theorem dX9_init_192 : decode cX9_init 192 = .ok (.newarray .int, 2) := by decide +kernel
theorem dX9_init_194 : decode cX9_init 194 = .ok (.putfield 29, 3) := by decide +kernel
theorem dX9_init_197 : decode cX9_init 197 = .ok (.aload_n 0, 1) := by decide +kernel
theorem dX9_init_198 : decode cX9_init 198 = .ok (.sipush 1308, 3) := by decide +kernel
theorem dX9_init_201 : decode cX9_init 201 = .ok (.newarray .int, 2) := by decide +kernel
theorem dX9_init_203 : decode cX9_init 203 = .ok (.putfield 32, 3) := by decide +kernel
theorem dX9_init_206 : decode cX9_init 206 = .ok (.aload_n 0, 1) := by decide +kernel
theorem dX9_init_207 : decode cX9_init 207 = .ok (.bipush 32, 2) := by decide +kernel
theorem dX9_init_209 : decode cX9_init 209 = .ok (.newarray .int, 2) := by decide +kernel
theorem dX9_init_211 : decode cX9_init 211 = .ok (.putfield 35, 3) := by decide +kernel
theorem dX9_init_214 : decode cX9_init 214 = .ok (.aload_n 0, 1) := by decide +kernel
theorem dX9_init_215 : decode cX9_init 215 = .ok (.bipush 32, 2) := by decide +kernel
theorem dX9_init_217 : decode cX9_init 217 = .ok (.newarray .int, 2) := by decide +kernel
theorem dX9_init_219 : decode cX9_init 219 = .ok (.putfield 38, 3) := by decide +kernel
theorem dX9_init_222 : decode cX9_init 222 = .ok (.aload_n 0, 1) := by decide +kernel
theorem dX9_init_223 : decode cX9_init 223 = .ok (.bipush 32, 2) := by decide +kernel
theorem dX9_init_225 : decode cX9_init 225 = .ok (.newarray .int, 2) := by decide +kernel
theorem dX9_init_227 : decode cX9_init 227 = .ok (.putfield 41, 3) := by decide +kernel
theorem dX9_init_230 : decode cX9_init 230 = .ok (.aload_n 0, 1) := by decide +kernel
theorem dX9_init_231 : decode cX9_init 231 = .ok (.iconst 4, 1) := by decide +kernel
theorem dX9_init_232 : decode cX9_init 232 = .ok (.newarray .int, 2) := by decide +kernel
theorem dX9_init_234 : decode cX9_init 234 = .ok (.dup, 1) := by decide +kernel
theorem dX9_init_235 : decode cX9_init 235 = .ok (.iconst 0, 1) := by decide +kernel
theorem dX9_init_236 : decode cX9_init 236 = .ok (.iconst (-1), 1) := by decide +kernel
theorem dX9_init_237 : decode cX9_init 237 = .ok (.iastore, 1) := by decide +kernel
theorem dX9_init_238 : decode cX9_init 238 = .ok (.dup, 1) := by decide +kernel
theorem dX9_init_239 : decode cX9_init 239 = .ok (.iconst 1, 1) := by decide +kernel
theorem dX9_init_240 : decode cX9_init 240 = .ok (.iconst (-1), 1) := by decide +kernel
theorem dX9_init_241 : decode cX9_init 241 = .ok (.iastore, 1) := by decide +kernel
theorem dX9_init_242 : decode cX9_init 242 = .ok (.dup, 1) := by decide +kernel
theorem dX9_init_243 : decode cX9_init 243 = .ok (.iconst 2, 1) := by decide +kernel
theorem dX9_init_244 : decode cX9_init 244 = .ok (.iconst (-1), 1) := by decide +kernel
theorem dX9_init_245 : decode cX9_init 245 = .ok (.iastore, 1) := by decide +kernel
theorem dX9_init_246 : decode cX9_init 246 = .ok (.dup, 1) := by decide +kernel
theorem dX9_init_247 : decode cX9_init 247 = .ok (.iconst 3, 1) := by decide +kernel
theorem dX9_init_248 : decode cX9_init 248 = .ok (.iconst (-1), 1) := by decide +kernel
theorem dX9_init_249 : decode cX9_init 249 = .ok (.iastore, 1) := by decide +kernel
theorem dX9_init_250 : decode cX9_init 250 = .ok (.putfield 44, 3) := by decide +kernel
theorem dX9_init_253 : decode cX9_init 253 = .ok (.aload_n 0, 1) := by decide +kernel
theorem dX9_init_254 : decode cX9_init 254 = .ok (.iconst 4, 1) := by decide +kernel
theorem dX9_init_255 : decode cX9_init 255 = .ok (.newarray .int, 2) := by decide +kernel
theorem dX9_init_257 : decode cX9_init 257 = .ok (.putfield 47, 3) := by decide +kernel
theorem dX9_init_260 : decode cX9_init 260 = .ok (.aload_n 0, 1) := by decide +kernel
theorem dX9_init_261 : decode cX9_init 261 = .ok (.sipush 160, 3) := by decide +kernel
theorem dX9_init_264 : decode cX9_init 264 = .ok (.newarray .int, 2) := by decide +kernel
theorem dX9_init_266 : decode cX9_init 266 = .ok (.putfield 50, 3) := by decide +kernel
theorem dX9_init_269 : decode cX9_init 269 = .ok (.return_, 1) := by decide +kernel
theorem dX9_isIn_0 : decode cX9_isIn 0 = .ok (.iload_n 0, 1) := by decide +kernel
theorem dX9_isIn_1 : decode cX9_isIn 1 = .ok (.iload_n 1, 1) := by decide +kernel
theorem dX9_isIn_2 : decode cX9_isIn 2 = .ok (.if_icmp .lt 12, 3) := by decide +kernel
theorem dX9_isIn_5 : decode cX9_isIn 5 = .ok (.iload_n 0, 1) := by decide +kernel
theorem dX9_isIn_6 : decode cX9_isIn 6 = .ok (.iload_n 2, 1) := by decide +kernel
theorem dX9_isIn_7 : decode cX9_isIn 7 = .ok (.if_icmp .gt 7, 3) := by decide +kernel
theorem dX9_isIn_10 : decode cX9_isIn 10 = .ok (.iconst 1, 1) := by decide +kernel
theorem dX9_isIn_11 : decode cX9_isIn 11 = .ok (.goto 4, 3) := by decide +kernel
theorem dX9_isIn_14 : decode cX9_isIn 14 = .ok (.iconst 0, 1) := by decide +kernel
theorem dX9_isIn_15 : decode cX9_isIn 15 = .ok (.ireturn, 1) := by decide +kernel
theorem dX9_has_0 : decode cX9_has 0 = .ok (.iload_n 0, 1) := by decide +kernel
theorem dX9_has_1 : decode cX9_has 1 = .ok (.iload_n 1, 1) := by decide +kernel
theorem dX9_has_2 : decode cX9_has 2 = .ok (.ishr, 1) := by decide +kernel
theorem dX9_has_3 : decode cX9_has 3 = .ok (.iconst 1, 1) := by decide +kernel
theorem dX9_has_4 : decode cX9_has 4 = .ok (.iand, 1) := by decide +kernel
theorem dX9_has_5 : decode cX9_has 5 = .ok (.iconst 1, 1) := by decide +kernel
theorem dX9_has_6 : decode cX9_has 6 = .ok (.if_icmp .ne 7, 3) := by decide +kernel
theorem dX9_has_9 : decode cX9_has 9 = .ok (.iconst 1, 1) := by decide +kernel
theorem dX9_has_10 : decode cX9_has 10 = .ok (.goto 4, 3) := by decide +kernel
theorem dX9_has_13 : decode cX9_has 13 = .ok (.iconst 0, 1) := by decide +kernel
theorem dX9_has_14 : decode cX9_has 14 = .ok (.ireturn, 1) := by decide +kernel
theorem dX9_bits_0 : decode cX9_bits 0 = .ok (.iconst 0, 1) := by decide +kernel
theorem dX9_bits_1 : decode cX9_bits 1 = .ok (.istore_n 2, 1) := by decide +kernel
theorem dX9_bits_2 : decode cX9_bits 2 = .ok (.iconst 0, 1) := by decide +kernel
theorem dX9_bits_3 : decode cX9_bits 3 = .ok (.istore_n 3, 1) := by decide +kernel
theorem dX9_bits_4 : decode cX9_bits 4 = .ok (.iload_n 3, 1) := by decide +kernel
theorem dX9_bits_5 : decode cX9_bits 5 = .ok (.bipush 64, 2) := by decide +kernel
theorem dX9_bits_7 : decode cX9_bits 7 = .ok (.if_icmp .ge 18, 3) := by decide +kernel
theorem dX9_bits_10 : decode cX9_bits 10 = .ok (.iload_n 2, 1) := by decide +kernel
theorem dX9_bits_11 : decode cX9_bits 11 = .ok (.lload_n 0, 1) := by decide +kernel
theorem dX9_bits_12 : decode cX9_bits 12 = .ok (.iload_n 3, 1) := by decide +kernel
theorem dX9_bits_13 : decode cX9_bits 13 = .ok (.lshr, 1) := by decide +kernel
theorem dX9_bits_14 : decode cX9_bits 14 = .ok (.lconst 1, 1) := by decide +kernel
theorem dX9_bits_15 : decode cX9_bits 15 = .ok (.land, 1) := by decide +kernel
theorem dX9_bits_16 : decode cX9_bits 16 = .ok (.l2i, 1) := by decide +kernel
theorem dX9_bits_17 : decode cX9_bits 17 = .ok (.iadd, 1) := by decide +kernel
theorem dX9_bits_18 : decode cX9_bits 18 = .ok (.istore_n 2, 1) := by decide +kernel
theorem dX9_bits_19 : decode cX9_bits 19 = .ok (.iinc 3 1, 3) := by decide +kernel
theorem dX9_bits_22 : decode cX9_bits 22 = .ok (.goto (-18), 3) := by decide +kernel
theorem dX9_bits_25 : decode cX9_bits 25 = .ok (.iload_n 2, 1) := by decide +kernel
theorem dX9_bits_26 : decode cX9_bits 26 = .ok (.ireturn, 1) := by decide +kernel
theorem dX9_copies_0 : decode cX9_copies 0 = .ok (.iconst 0, 1) := by decide +kernel
theorem dX9_copies_1 : decode cX9_copies 1 = .ok (.istore_n 2, 1) := by decide +kernel
theorem dX9_copies_2 : decode cX9_copies 2 = .ok (.iload_n 2, 1) := by decide +kernel
theorem dX9_copies_3 : decode cX9_copies 3 = .ok (.bipush 66, 2) := by decide +kernel
theorem dX9_copies_5 : decode cX9_copies 5 = .ok (.if_icmp .ge 15, 3) := by decide +kernel
theorem dX9_copies_8 : decode cX9_copies 8 = .ok (.aload_n 1, 1) := by decide +kernel
theorem dX9_copies_9 : decode cX9_copies 9 = .ok (.iload_n 2, 1) := by decide +kernel
theorem dX9_copies_10 : decode cX9_copies 10 = .ok (.aload_n 0, 1) := by decide +kernel
theorem dX9_copies_11 : decode cX9_copies 11 = .ok (.iload_n 2, 1) := by decide +kernel
theorem dX9_copies_12 : decode cX9_copies 12 = .ok (.iaload, 1) := by decide +kernel
theorem dX9_copies_13 : decode cX9_copies 13 = .ok (.iastore, 1) := by decide +kernel
theorem dX9_copies_14 : decode cX9_copies 14 = .ok (.iinc 2 1, 3) := by decide +kernel
theorem dX9_copies_17 : decode cX9_copies 17 = .ok (.goto (-15), 3) := by decide +kernel
theorem dX9_copies_20 : decode cX9_copies 20 = .ok (.return_, 1) := by decide +kernel
theorem dX9_of_0 : decode cX9_of 0 = .ok (.aload_n 0, 1) := by decide +kernel
theorem dX9_of_1 : decode cX9_of 1 = .ok (.getfield 9, 3) := by decide +kernel
theorem dX9_of_4 : decode cX9_of 4 = .ok (.iconst 2, 1) := by decide +kernel
theorem dX9_of_5 : decode cX9_of 5 = .ok (.iconst 4, 1) := by decide +kernel
theorem dX9_of_6 : decode cX9_of 6 = .ok (.iload_n 1, 1) := by decide +kernel
theorem dX9_of_7 : decode cX9_of 7 = .ok (.imul, 1) := by decide +kernel
theorem dX9_of_8 : decode cX9_of 8 = .ok (.iadd, 1) := by decide +kernel
theorem dX9_of_9 : decode cX9_of 9 = .ok (.iload_n 2, 1) := by decide +kernel
theorem dX9_of_10 : decode cX9_of 10 = .ok (.iadd, 1) := by decide +kernel
theorem dX9_of_11 : decode cX9_of 11 = .ok (.iaload, 1) := by decide +kernel
theorem dX9_of_12 : decode cX9_of 12 = .ok (.ireturn, 1) := by decide +kernel
set_option maxRecDepth 20000 in
theorem ggX9_sets_X9_of : GoodIn wsX9_sets wsX9_of := goodIn_r _ [6, 1, 7, 8, 9, 10, 11, 12, 13, 14, 15, 16, 17, 18, 19, 20, 21, 22, 23, 24, 25, 26, 27, 28, 29, 30] (by decide +kernel) (by decide +kernel)
set_option maxRecDepth 20000 in
theorem gX9_sets_X9_of : GoodIn wsX9_sets (wsV RX9 53 RX9 yX9_of wsX9_of) := goodIn_app (goodIn_of _ (by decide +kernel)) ggX9_sets_X9_of
theorem dX9_sets_0 : decode cX9_sets 0 = .ok (.aload_n 0, 1) := by decide +kernel
theorem dX9_sets_1 : decode cX9_sets 1 = .ok (.iload_n 1, 1) := by decide +kernel
theorem dX9_sets_2 : decode cX9_sets 2 = .ok (.iload_n 2, 1) := by decide +kernel
theorem dX9_sets_3 : decode cX9_sets 3 = .ok (.invokevirtual 53, 3) := by decide +kernel
theorem dX9_sets_6 : decode cX9_sets 6 = .ok (.istore 4, 2) := by decide +kernel
theorem dX9_sets_8 : decode cX9_sets 8 = .ok (.aload_n 0, 1) := by decide +kernel
theorem dX9_sets_9 : decode cX9_sets 9 = .ok (.getfield 9, 3) := by decide +kernel
theorem dX9_sets_12 : decode cX9_sets 12 = .ok (.iconst 2, 1) := by decide +kernel
theorem dX9_sets_13 : decode cX9_sets 13 = .ok (.iconst 4, 1) := by decide +kernel
theorem dX9_sets_14 : decode cX9_sets 14 = .ok (.iload_n 1, 1) := by decide +kernel
theorem dX9_sets_15 : decode cX9_sets 15 = .ok (.imul, 1) := by decide +kernel
theorem dX9_sets_16 : decode cX9_sets 16 = .ok (.iadd, 1) := by decide +kernel
theorem dX9_sets_17 : decode cX9_sets 17 = .ok (.iload_n 2, 1) := by decide +kernel
theorem dX9_sets_18 : decode cX9_sets 18 = .ok (.iadd, 1) := by decide +kernel
theorem dX9_sets_19 : decode cX9_sets 19 = .ok (.iload_n 3, 1) := by decide +kernel
theorem dX9_sets_20 : decode cX9_sets 20 = .ok (.iastore, 1) := by decide +kernel
theorem dX9_sets_21 : decode cX9_sets 21 = .ok (.iload 4, 2) := by decide +kernel
theorem dX9_sets_23 : decode cX9_sets 23 = .ok (.ireturn, 1) := by decide +kernel
set_option maxRecDepth 20000 in
theorem ggX9_isGate_X9_isIn : GoodIn wsX9_isGate wsX9_isIn := goodIn_r _ [5] (by decide +kernel) (by decide +kernel)
set_option maxRecDepth 20000 in
theorem gX9_isGate_X9_isIn : GoodIn wsX9_isGate (va_wsS RX9 57 yX9_isIn wsX9_isIn) := goodIn_app (goodIn_of _ (by decide +kernel)) ggX9_isGate_X9_isIn
theorem dX9_isGate_0 : decode cX9_isGate 0 = .ok (.iload_n 1, 1) := by decide +kernel
theorem dX9_isGate_1 : decode cX9_isGate 1 = .ok (.iconst 0, 1) := by decide +kernel
theorem dX9_isGate_2 : decode cX9_isGate 2 = .ok (.aload_n 0, 1) := by decide +kernel
theorem dX9_isGate_3 : decode cX9_isGate 3 = .ok (.getfield 9, 3) := by decide +kernel
theorem dX9_isGate_6 : decode cX9_isGate 6 = .ok (.iconst 0, 1) := by decide +kernel
theorem dX9_isGate_7 : decode cX9_isGate 7 = .ok (.iaload, 1) := by decide +kernel
theorem dX9_isGate_8 : decode cX9_isGate 8 = .ok (.iconst 1, 1) := by decide +kernel
theorem dX9_isGate_9 : decode cX9_isGate 9 = .ok (.isub, 1) := by decide +kernel
theorem dX9_isGate_10 : decode cX9_isGate 10 = .ok (.invokestatic 57, 3) := by decide +kernel
theorem dX9_isGate_13 : decode cX9_isGate 13 = .ok (.ireturn, 1) := by decide +kernel
theorem dX9_output_0 : decode cX9_output 0 = .ok (.aload_n 0, 1) := by decide +kernel
theorem dX9_output_1 : decode cX9_output 1 = .ok (.getfield 9, 3) := by decide +kernel
theorem dX9_output_4 : decode cX9_output 4 = .ok (.iconst 0, 1) := by decide +kernel
theorem dX9_output_5 : decode cX9_output 5 = .ok (.iaload, 1) := by decide +kernel
theorem dX9_output_6 : decode cX9_output 6 = .ok (.iconst 1, 1) := by decide +kernel
theorem dX9_output_7 : decode cX9_output 7 = .ok (.isub, 1) := by decide +kernel
theorem dX9_output_8 : decode cX9_output 8 = .ok (.ireturn, 1) := by decide +kernel
set_option maxRecDepth 20000 in
theorem ggX9_isStand_X9_isIn : GoodIn wsX9_isStand wsX9_isIn := goodIn_r _ [4] (by decide +kernel) (by decide +kernel)
set_option maxRecDepth 20000 in
theorem gX9_isStand_X9_isIn : GoodIn wsX9_isStand (va_wsS RX9 57 yX9_isIn wsX9_isIn) := goodIn_app (goodIn_of _ (by decide +kernel)) ggX9_isStand_X9_isIn
theorem dX9_isStand_0 : decode cX9_isStand 0 = .ok (.iload_n 0, 1) := by decide +kernel
theorem dX9_isStand_1 : decode cX9_isStand 1 = .ok (.iconst 0, 1) := by decide +kernel
theorem dX9_isStand_2 : decode cX9_isStand 2 = .ok (.bipush 15, 2) := by decide +kernel
theorem dX9_isStand_4 : decode cX9_isStand 4 = .ok (.invokestatic 57, 3) := by decide +kernel
theorem dX9_isStand_7 : decode cX9_isStand 7 = .ok (.ireturn, 1) := by decide +kernel
theorem dX9_does_0 : decode cX9_does 0 = .ok (.aload_n 0, 1) := by decide +kernel
theorem dX9_does_1 : decode cX9_does 1 = .ok (.getfield 61, 3) := by decide +kernel
theorem dX9_does_4 : decode cX9_does 4 = .ok (.bipush 6, 2) := by decide +kernel
theorem dX9_does_6 : decode cX9_does 6 = .ok (.if_icmp .ne 45, 3) := by decide +kernel
theorem dX9_does_9 : decode cX9_does 9 = .ok (.iconst 0, 1) := by decide +kernel
theorem dX9_does_10 : decode cX9_does 10 = .ok (.istore 5, 2) := by decide +kernel
theorem dX9_does_12 : decode cX9_does 12 = .ok (.iload 5, 2) := by decide +kernel
theorem dX9_does_14 : decode cX9_does 14 = .ok (.bipush 20, 2) := by decide +kernel
theorem dX9_does_16 : decode cX9_does 16 = .ok (.if_icmp .ge 25, 3) := by decide +kernel
theorem dX9_does_19 : decode cX9_does 19 = .ok (.aload_n 0, 1) := by decide +kernel
theorem dX9_does_20 : decode cX9_does 20 = .ok (.getfield 16, 3) := by decide +kernel
theorem dX9_does_23 : decode cX9_does 23 = .ok (.iload 5, 2) := by decide +kernel
theorem dX9_does_25 : decode cX9_does 25 = .ok (.aload_n 0, 1) := by decide +kernel
theorem dX9_does_26 : decode cX9_does 26 = .ok (.getfield 16, 3) := by decide +kernel
theorem dX9_does_29 : decode cX9_does 29 = .ok (.iload 5, 2) := by decide +kernel
theorem dX9_does_31 : decode cX9_does 31 = .ok (.iconst 4, 1) := by decide +kernel
theorem dX9_does_32 : decode cX9_does 32 = .ok (.iadd, 1) := by decide +kernel
theorem dX9_does_33 : decode cX9_does 33 = .ok (.iaload, 1) := by decide +kernel
theorem dX9_does_34 : decode cX9_does 34 = .ok (.iastore, 1) := by decide +kernel
theorem dX9_does_35 : decode cX9_does 35 = .ok (.iinc 5 1, 3) := by decide +kernel
theorem dX9_does_38 : decode cX9_does 38 = .ok (.goto (-26), 3) := by decide +kernel
theorem dX9_does_41 : decode cX9_does 41 = .ok (.aload_n 0, 1) := by decide +kernel
theorem dX9_does_42 : decode cX9_does 42 = .ok (.dup, 1) := by decide +kernel
theorem dX9_does_43 : decode cX9_does 43 = .ok (.getfield 61, 3) := by decide +kernel
theorem dX9_does_46 : decode cX9_does 46 = .ok (.iconst 1, 1) := by decide +kernel
theorem dX9_does_47 : decode cX9_does 47 = .ok (.isub, 1) := by decide +kernel
theorem dX9_does_48 : decode cX9_does 48 = .ok (.putfield 61, 3) := by decide +kernel
theorem dX9_does_51 : decode cX9_does 51 = .ok (.aload_n 0, 1) := by decide +kernel
theorem dX9_does_52 : decode cX9_does 52 = .ok (.getfield 16, 3) := by decide +kernel
theorem dX9_does_55 : decode cX9_does 55 = .ok (.iconst 4, 1) := by decide +kernel
theorem dX9_does_56 : decode cX9_does 56 = .ok (.aload_n 0, 1) := by decide +kernel
theorem dX9_does_57 : decode cX9_does 57 = .ok (.getfield 61, 3) := by decide +kernel
theorem dX9_does_60 : decode cX9_does 60 = .ok (.imul, 1) := by decide +kernel
theorem dX9_does_61 : decode cX9_does 61 = .ok (.iload_n 1, 1) := by decide +kernel
theorem dX9_does_62 : decode cX9_does 62 = .ok (.iastore, 1) := by decide +kernel
theorem dX9_does_63 : decode cX9_does 63 = .ok (.aload_n 0, 1) := by decide +kernel
theorem dX9_does_64 : decode cX9_does 64 = .ok (.getfield 16, 3) := by decide +kernel
theorem dX9_does_67 : decode cX9_does 67 = .ok (.iconst 4, 1) := by decide +kernel
theorem dX9_does_68 : decode cX9_does 68 = .ok (.aload_n 0, 1) := by decide +kernel
theorem dX9_does_69 : decode cX9_does 69 = .ok (.getfield 61, 3) := by decide +kernel
theorem dX9_does_72 : decode cX9_does 72 = .ok (.imul, 1) := by decide +kernel
theorem dX9_does_73 : decode cX9_does 73 = .ok (.iconst 1, 1) := by decide +kernel
theorem dX9_does_74 : decode cX9_does 74 = .ok (.iadd, 1) := by decide +kernel
theorem dX9_does_75 : decode cX9_does 75 = .ok (.iload_n 2, 1) := by decide +kernel
theorem dX9_does_76 : decode cX9_does 76 = .ok (.iastore, 1) := by decide +kernel
theorem dX9_does_77 : decode cX9_does 77 = .ok (.aload_n 0, 1) := by decide +kernel
theorem dX9_does_78 : decode cX9_does 78 = .ok (.getfield 16, 3) := by decide +kernel
theorem dX9_does_81 : decode cX9_does 81 = .ok (.iconst 4, 1) := by decide +kernel
theorem dX9_does_82 : decode cX9_does 82 = .ok (.aload_n 0, 1) := by decide +kernel
theorem dX9_does_83 : decode cX9_does 83 = .ok (.getfield 61, 3) := by decide +kernel
theorem dX9_does_86 : decode cX9_does 86 = .ok (.imul, 1) := by decide +kernel
theorem dX9_does_87 : decode cX9_does 87 = .ok (.iconst 2, 1) := by decide +kernel
theorem dX9_does_88 : decode cX9_does 88 = .ok (.iadd, 1) := by decide +kernel
theorem dX9_does_89 : decode cX9_does 89 = .ok (.iload_n 3, 1) := by decide +kernel
theorem dX9_does_90 : decode cX9_does 90 = .ok (.iastore, 1) := by decide +kernel
theorem dX9_does_91 : decode cX9_does 91 = .ok (.aload_n 0, 1) := by decide +kernel
theorem dX9_does_92 : decode cX9_does 92 = .ok (.getfield 16, 3) := by decide +kernel
theorem dX9_does_95 : decode cX9_does 95 = .ok (.iconst 4, 1) := by decide +kernel
theorem dX9_does_96 : decode cX9_does 96 = .ok (.aload_n 0, 1) := by decide +kernel
theorem dX9_does_97 : decode cX9_does 97 = .ok (.getfield 61, 3) := by decide +kernel
theorem dX9_does_100 : decode cX9_does 100 = .ok (.imul, 1) := by decide +kernel
theorem dX9_does_101 : decode cX9_does 101 = .ok (.iconst 3, 1) := by decide +kernel
theorem dX9_does_102 : decode cX9_does 102 = .ok (.iadd, 1) := by decide +kernel
theorem dX9_does_103 : decode cX9_does 103 = .ok (.iload 4, 2) := by decide +kernel
theorem dX9_does_105 : decode cX9_does 105 = .ok (.iastore, 1) := by decide +kernel
theorem dX9_does_106 : decode cX9_does 106 = .ok (.aload_n 0, 1) := by decide +kernel
theorem dX9_does_107 : decode cX9_does 107 = .ok (.dup, 1) := by decide +kernel
theorem dX9_does_108 : decode cX9_does 108 = .ok (.getfield 61, 3) := by decide +kernel
theorem dX9_does_111 : decode cX9_does 111 = .ok (.iconst 1, 1) := by decide +kernel
theorem dX9_does_112 : decode cX9_does 112 = .ok (.iadd, 1) := by decide +kernel
theorem dX9_does_113 : decode cX9_does 113 = .ok (.putfield 61, 3) := by decide +kernel
theorem dX9_does_116 : decode cX9_does 116 = .ok (.return_, 1) := by decide +kernel
set_option maxRecDepth 20000 in
theorem ggX9_undo_X9_comesTo : GoodIn wsX9_undo wsX9_comesTo := goodIn_r _ [8, 3, 9, 10, 11, 12, 13, 14, 15, 16, 17, 18, 19, 20, 21, 22, 23, 24, 25, 26, 27, 28, 29, 30, 31, 32] (by decide +kernel) (by decide +kernel)
set_option maxRecDepth 20000 in
theorem gX9_undo_X9_comesTo : GoodIn wsX9_undo (wsV RX9 65 RX9 yX9_comesTo wsX9_comesTo) := goodIn_app (goodIn_of _ (by decide +kernel)) ggX9_undo_X9_comesTo
theorem dX9_undo_0 : decode cX9_undo 0 = .ok (.aload_n 0, 1) := by decide +kernel
theorem dX9_undo_1 : decode cX9_undo 1 = .ok (.getfield 61, 3) := by decide +kernel
theorem dX9_undo_4 : decode cX9_undo 4 = .ok (.ifCond .ne 6, 3) := by decide +kernel
theorem dX9_undo_7 : decode cX9_undo 7 = .ok (.bipush (-3), 2) := by decide +kernel
theorem dX9_undo_9 : decode cX9_undo 9 = .ok (.ireturn, 1) := by decide +kernel
theorem dX9_undo_10 : decode cX9_undo 10 = .ok (.aload_n 0, 1) := by decide +kernel
theorem dX9_undo_11 : decode cX9_undo 11 = .ok (.dup, 1) := by decide +kernel
theorem dX9_undo_12 : decode cX9_undo 12 = .ok (.getfield 61, 3) := by decide +kernel
theorem dX9_undo_15 : decode cX9_undo 15 = .ok (.iconst 1, 1) := by decide +kernel
theorem dX9_undo_16 : decode cX9_undo 16 = .ok (.isub, 1) := by decide +kernel
theorem dX9_undo_17 : decode cX9_undo 17 = .ok (.putfield 61, 3) := by decide +kernel
theorem dX9_undo_20 : decode cX9_undo 20 = .ok (.aload_n 0, 1) := by decide +kernel
theorem dX9_undo_21 : decode cX9_undo 21 = .ok (.getfield 16, 3) := by decide +kernel
theorem dX9_undo_24 : decode cX9_undo 24 = .ok (.iconst 4, 1) := by decide +kernel
theorem dX9_undo_25 : decode cX9_undo 25 = .ok (.aload_n 0, 1) := by decide +kernel
theorem dX9_undo_26 : decode cX9_undo 26 = .ok (.getfield 61, 3) := by decide +kernel
theorem dX9_undo_29 : decode cX9_undo 29 = .ok (.imul, 1) := by decide +kernel
theorem dX9_undo_30 : decode cX9_undo 30 = .ok (.iconst 1, 1) := by decide +kernel
theorem dX9_undo_31 : decode cX9_undo 31 = .ok (.iadd, 1) := by decide +kernel
theorem dX9_undo_32 : decode cX9_undo 32 = .ok (.iaload, 1) := by decide +kernel
theorem dX9_undo_33 : decode cX9_undo 33 = .ok (.istore_n 1, 1) := by decide +kernel
theorem dX9_undo_34 : decode cX9_undo 34 = .ok (.aload_n 0, 1) := by decide +kernel
theorem dX9_undo_35 : decode cX9_undo 35 = .ok (.getfield 16, 3) := by decide +kernel
theorem dX9_undo_38 : decode cX9_undo 38 = .ok (.iconst 4, 1) := by decide +kernel
theorem dX9_undo_39 : decode cX9_undo 39 = .ok (.aload_n 0, 1) := by decide +kernel
theorem dX9_undo_40 : decode cX9_undo 40 = .ok (.getfield 61, 3) := by decide +kernel
theorem dX9_undo_43 : decode cX9_undo 43 = .ok (.imul, 1) := by decide +kernel
theorem dX9_undo_44 : decode cX9_undo 44 = .ok (.iaload, 1) := by decide +kernel
theorem dX9_undo_45 : decode cX9_undo 45 = .ok (.tableswitch 81 0 2 #[27, 40, 68], 27) := by decide +kernel
theorem dX9_undo_72 : decode cX9_undo 72 = .ok (.aload_n 0, 1) := by decide +kernel
theorem dX9_undo_73 : decode cX9_undo 73 = .ok (.getfield 9, 3) := by decide +kernel
theorem dX9_undo_76 : decode cX9_undo 76 = .ok (.iconst 0, 1) := by decide +kernel
theorem dX9_undo_77 : decode cX9_undo 77 = .ok (.dup2, 1) := by decide +kernel
theorem dX9_undo_78 : decode cX9_undo 78 = .ok (.iaload, 1) := by decide +kernel
theorem dX9_undo_79 : decode cX9_undo 79 = .ok (.iconst 1, 1) := by decide +kernel
theorem dX9_undo_80 : decode cX9_undo 80 = .ok (.isub, 1) := by decide +kernel
theorem dX9_undo_81 : decode cX9_undo 81 = .ok (.iastore, 1) := by decide +kernel
theorem dX9_undo_82 : decode cX9_undo 82 = .ok (.goto 75, 3) := by decide +kernel
theorem dX9_undo_85 : decode cX9_undo 85 = .ok (.aload_n 0, 1) := by decide +kernel
theorem dX9_undo_86 : decode cX9_undo 86 = .ok (.getfield 9, 3) := by decide +kernel
theorem dX9_undo_89 : decode cX9_undo 89 = .ok (.iconst 2, 1) := by decide +kernel
theorem dX9_undo_90 : decode cX9_undo 90 = .ok (.iconst 4, 1) := by decide +kernel
theorem dX9_undo_91 : decode cX9_undo 91 = .ok (.iload_n 1, 1) := by decide +kernel
theorem dX9_undo_92 : decode cX9_undo 92 = .ok (.imul, 1) := by decide +kernel
theorem dX9_undo_93 : decode cX9_undo 93 = .ok (.iadd, 1) := by decide +kernel
theorem dX9_undo_94 : decode cX9_undo 94 = .ok (.iconst 3, 1) := by decide +kernel
theorem dX9_undo_95 : decode cX9_undo 95 = .ok (.iadd, 1) := by decide +kernel
theorem dX9_undo_96 : decode cX9_undo 96 = .ok (.aload_n 0, 1) := by decide +kernel
theorem dX9_undo_97 : decode cX9_undo 97 = .ok (.getfield 16, 3) := by decide +kernel
theorem dX9_undo_100 : decode cX9_undo 100 = .ok (.iconst 4, 1) := by decide +kernel
theorem dX9_undo_101 : decode cX9_undo 101 = .ok (.aload_n 0, 1) := by decide +kernel
theorem dX9_undo_102 : decode cX9_undo 102 = .ok (.getfield 61, 3) := by decide +kernel
theorem dX9_undo_105 : decode cX9_undo 105 = .ok (.imul, 1) := by decide +kernel
theorem dX9_undo_106 : decode cX9_undo 106 = .ok (.iconst 2, 1) := by decide +kernel
theorem dX9_undo_107 : decode cX9_undo 107 = .ok (.iadd, 1) := by decide +kernel
theorem dX9_undo_108 : decode cX9_undo 108 = .ok (.iaload, 1) := by decide +kernel
theorem dX9_undo_109 : decode cX9_undo 109 = .ok (.iastore, 1) := by decide +kernel
theorem dX9_undo_110 : decode cX9_undo 110 = .ok (.goto 47, 3) := by decide +kernel
theorem dX9_undo_113 : decode cX9_undo 113 = .ok (.aload_n 0, 1) := by decide +kernel
theorem dX9_undo_114 : decode cX9_undo 114 = .ok (.getfield 9, 3) := by decide +kernel
theorem dX9_undo_117 : decode cX9_undo 117 = .ok (.iconst 1, 1) := by decide +kernel
theorem dX9_undo_118 : decode cX9_undo 118 = .ok (.dup2, 1) := by decide +kernel
theorem dX9_undo_119 : decode cX9_undo 119 = .ok (.iaload, 1) := by decide +kernel
theorem dX9_undo_120 : decode cX9_undo 120 = .ok (.iconst 1, 1) := by decide +kernel
theorem dX9_undo_121 : decode cX9_undo 121 = .ok (.isub, 1) := by decide +kernel
theorem dX9_undo_122 : decode cX9_undo 122 = .ok (.iastore, 1) := by decide +kernel
theorem dX9_undo_123 : decode cX9_undo 123 = .ok (.goto 34, 3) := by decide +kernel
theorem dX9_undo_126 : decode cX9_undo 126 = .ok (.aload_n 0, 1) := by decide +kernel
theorem dX9_undo_127 : decode cX9_undo 127 = .ok (.iload_n 1, 1) := by decide +kernel
theorem dX9_undo_128 : decode cX9_undo 128 = .ok (.aload_n 0, 1) := by decide +kernel
theorem dX9_undo_129 : decode cX9_undo 129 = .ok (.getfield 16, 3) := by decide +kernel
theorem dX9_undo_132 : decode cX9_undo 132 = .ok (.iconst 4, 1) := by decide +kernel
theorem dX9_undo_133 : decode cX9_undo 133 = .ok (.aload_n 0, 1) := by decide +kernel
theorem dX9_undo_134 : decode cX9_undo 134 = .ok (.getfield 61, 3) := by decide +kernel
theorem dX9_undo_137 : decode cX9_undo 137 = .ok (.imul, 1) := by decide +kernel
theorem dX9_undo_138 : decode cX9_undo 138 = .ok (.iconst 2, 1) := by decide +kernel
theorem dX9_undo_139 : decode cX9_undo 139 = .ok (.iadd, 1) := by decide +kernel
theorem dX9_undo_140 : decode cX9_undo 140 = .ok (.iaload, 1) := by decide +kernel
theorem dX9_undo_141 : decode cX9_undo 141 = .ok (.aload_n 0, 1) := by decide +kernel
theorem dX9_undo_142 : decode cX9_undo 142 = .ok (.getfield 16, 3) := by decide +kernel
theorem dX9_undo_145 : decode cX9_undo 145 = .ok (.iconst 4, 1) := by decide +kernel
theorem dX9_undo_146 : decode cX9_undo 146 = .ok (.aload_n 0, 1) := by decide +kernel
theorem dX9_undo_147 : decode cX9_undo 147 = .ok (.getfield 61, 3) := by decide +kernel
theorem dX9_undo_150 : decode cX9_undo 150 = .ok (.imul, 1) := by decide +kernel
theorem dX9_undo_151 : decode cX9_undo 151 = .ok (.iconst 3, 1) := by decide +kernel
theorem dX9_undo_152 : decode cX9_undo 152 = .ok (.iadd, 1) := by decide +kernel
theorem dX9_undo_153 : decode cX9_undo 153 = .ok (.iaload, 1) := by decide +kernel
theorem dX9_undo_154 : decode cX9_undo 154 = .ok (.invokevirtual 65, 3) := by decide +kernel
theorem dX9_undo_157 : decode cX9_undo 157 = .ok (.aload_n 0, 1) := by decide +kernel
theorem dX9_undo_158 : decode cX9_undo 158 = .ok (.getfield 61, 3) := by decide +kernel
theorem dX9_undo_161 : decode cX9_undo 161 = .ok (.ireturn, 1) := by decide +kernel
set_option maxRecDepth 20000 in
theorem ggX9_isByte_X9_isIn : GoodIn wsX9_isByte wsX9_isIn := goodIn_r _ [4] (by decide +kernel) (by decide +kernel)
set_option maxRecDepth 20000 in
theorem gX9_isByte_X9_isIn : GoodIn wsX9_isByte (va_wsS RX9 57 yX9_isIn wsX9_isIn) := goodIn_app (goodIn_of _ (by decide +kernel)) ggX9_isByte_X9_isIn
theorem dX9_isByte_0 : decode cX9_isByte 0 = .ok (.iload_n 0, 1) := by decide +kernel
theorem dX9_isByte_1 : decode cX9_isByte 1 = .ok (.iconst 0, 1) := by decide +kernel
theorem dX9_isByte_2 : decode cX9_isByte 2 = .ok (.sipush 255, 3) := by decide +kernel
theorem dX9_isByte_5 : decode cX9_isByte 5 = .ok (.invokestatic 57, 3) := by decide +kernel
theorem dX9_isByte_8 : decode cX9_isByte 8 = .ok (.ireturn, 1) := by decide +kernel
set_option maxRecDepth 20000 in
theorem ggX9_feed_X9_isIn : GoodIn wsX9_feed wsX9_isIn := goodIn_r _ [6] (by decide +kernel) (by decide +kernel)
set_option maxRecDepth 20000 in
theorem gX9_feed_X9_isIn : GoodIn wsX9_feed (va_wsS RX9 57 yX9_isIn wsX9_isIn) := goodIn_app (goodIn_of _ (by decide +kernel)) ggX9_feed_X9_isIn
set_option maxRecDepth 20000 in
theorem ggX9_feed_X9_isByte : GoodIn wsX9_feed wsX9_isByte := goodIn_r _ [9, 3, 4, 5, 6] (by decide +kernel) (by decide +kernel)
set_option maxRecDepth 20000 in
theorem gX9_feed_X9_isByte : GoodIn wsX9_feed (va_wsS RX9 69 yX9_isByte wsX9_isByte) := goodIn_app (goodIn_of _ (by decide +kernel)) ggX9_feed_X9_isByte
theorem dX9_feed_0 : decode cX9_feed 0 = .ok (.iload_n 1, 1) := by decide +kernel
theorem dX9_feed_1 : decode cX9_feed 1 = .ok (.iconst 1, 1) := by decide +kernel
theorem dX9_feed_2 : decode cX9_feed 2 = .ok (.iconst 5, 1) := by decide +kernel
theorem dX9_feed_3 : decode cX9_feed 3 = .ok (.invokestatic 57, 3) := by decide +kernel
theorem dX9_feed_6 : decode cX9_feed 6 = .ok (.ifCond .eq 41, 3) := by decide +kernel
theorem dX9_feed_9 : decode cX9_feed 9 = .ok (.iload_n 2, 1) := by decide +kernel
theorem dX9_feed_10 : decode cX9_feed 10 = .ok (.invokestatic 69, 3) := by decide +kernel
theorem dX9_feed_13 : decode cX9_feed 13 = .ok (.ifCond .eq 34, 3) := by decide +kernel
theorem dX9_feed_16 : decode cX9_feed 16 = .ok (.iload_n 3, 1) := by decide +kernel
theorem dX9_feed_17 : decode cX9_feed 17 = .ok (.invokestatic 69, 3) := by decide +kernel
theorem dX9_feed_20 : decode cX9_feed 20 = .ok (.ifCond .eq 27, 3) := by decide +kernel
theorem dX9_feed_23 : decode cX9_feed 23 = .ok (.iload 4, 2) := by decide +kernel
theorem dX9_feed_25 : decode cX9_feed 25 = .ok (.invokestatic 69, 3) := by decide +kernel
theorem dX9_feed_28 : decode cX9_feed 28 = .ok (.ifCond .eq 19, 3) := by decide +kernel
theorem dX9_feed_31 : decode cX9_feed 31 = .ok (.iload 5, 2) := by decide +kernel
theorem dX9_feed_33 : decode cX9_feed 33 = .ok (.invokestatic 69, 3) := by decide +kernel
theorem dX9_feed_36 : decode cX9_feed 36 = .ok (.ifCond .eq 11, 3) := by decide +kernel
theorem dX9_feed_39 : decode cX9_feed 39 = .ok (.iload 6, 2) := by decide +kernel
theorem dX9_feed_41 : decode cX9_feed 41 = .ok (.invokestatic 69, 3) := by decide +kernel
theorem dX9_feed_44 : decode cX9_feed 44 = .ok (.ifCond .ne 6, 3) := by decide +kernel
theorem dX9_feed_47 : decode cX9_feed 47 = .ok (.bipush (-2), 2) := by decide +kernel
theorem dX9_feed_49 : decode cX9_feed 49 = .ok (.ireturn, 1) := by decide +kernel
theorem dX9_feed_50 : decode cX9_feed 50 = .ok (.aload_n 0, 1) := by decide +kernel
theorem dX9_feed_51 : decode cX9_feed 51 = .ok (.getfield 73, 3) := by decide +kernel
theorem dX9_feed_54 : decode cX9_feed 54 = .ok (.iload_n 1, 1) := by decide +kernel
theorem dX9_feed_55 : decode cX9_feed 55 = .ok (.iadd, 1) := by decide +kernel
theorem dX9_feed_56 : decode cX9_feed 56 = .ok (.bipush 30, 2) := by decide +kernel
theorem dX9_feed_58 : decode cX9_feed 58 = .ok (.if_icmp .le 6, 3) := by decide +kernel
theorem dX9_feed_61 : decode cX9_feed 61 = .ok (.bipush (-4), 2) := by decide +kernel
theorem dX9_feed_63 : decode cX9_feed 63 = .ok (.ireturn, 1) := by decide +kernel
theorem dX9_feed_64 : decode cX9_feed 64 = .ok (.iconst 0, 1) := by decide +kernel
theorem dX9_feed_65 : decode cX9_feed 65 = .ok (.istore 7, 2) := by decide +kernel
theorem dX9_feed_67 : decode cX9_feed 67 = .ok (.iload 7, 2) := by decide +kernel
theorem dX9_feed_69 : decode cX9_feed 69 = .ok (.iload_n 1, 1) := by decide +kernel
theorem dX9_feed_70 : decode cX9_feed 70 = .ok (.if_icmp .ge 64, 3) := by decide +kernel
theorem dX9_feed_73 : decode cX9_feed 73 = .ok (.aload_n 0, 1) := by decide +kernel
theorem dX9_feed_74 : decode cX9_feed 74 = .ok (.getfield 19, 3) := by decide +kernel
theorem dX9_feed_77 : decode cX9_feed 77 = .ok (.aload_n 0, 1) := by decide +kernel
theorem dX9_feed_78 : decode cX9_feed 78 = .ok (.getfield 73, 3) := by decide +kernel
theorem dX9_feed_81 : decode cX9_feed 81 = .ok (.iload 7, 2) := by decide +kernel
theorem dX9_feed_83 : decode cX9_feed 83 = .ok (.iadd, 1) := by decide +kernel
theorem dX9_feed_84 : decode cX9_feed 84 = .ok (.iload 7, 2) := by decide +kernel
theorem dX9_feed_86 : decode cX9_feed 86 = .ok (.ifCond .ne 7, 3) := by decide +kernel
theorem dX9_feed_89 : decode cX9_feed 89 = .ok (.iload_n 2, 1) := by decide +kernel
theorem dX9_feed_90 : decode cX9_feed 90 = .ok (.goto 37, 3) := by decide +kernel
theorem dX9_feed_93 : decode cX9_feed 93 = .ok (.iload 7, 2) := by decide +kernel
theorem dX9_feed_95 : decode cX9_feed 95 = .ok (.iconst 1, 1) := by decide +kernel
theorem dX9_feed_96 : decode cX9_feed 96 = .ok (.if_icmp .ne 7, 3) := by decide +kernel
theorem dX9_feed_99 : decode cX9_feed 99 = .ok (.iload_n 3, 1) := by decide +kernel
theorem dX9_feed_100 : decode cX9_feed 100 = .ok (.goto 27, 3) := by decide +kernel
theorem dX9_feed_103 : decode cX9_feed 103 = .ok (.iload 7, 2) := by decide +kernel
theorem dX9_feed_105 : decode cX9_feed 105 = .ok (.iconst 2, 1) := by decide +kernel
theorem dX9_feed_106 : decode cX9_feed 106 = .ok (.if_icmp .ne 8, 3) := by decide +kernel
theorem dX9_feed_109 : decode cX9_feed 109 = .ok (.iload 4, 2) := by decide +kernel
theorem dX9_feed_111 : decode cX9_feed 111 = .ok (.goto 16, 3) := by decide +kernel
theorem dX9_feed_114 : decode cX9_feed 114 = .ok (.iload 7, 2) := by decide +kernel
theorem dX9_feed_116 : decode cX9_feed 116 = .ok (.iconst 3, 1) := by decide +kernel
theorem dX9_feed_117 : decode cX9_feed 117 = .ok (.if_icmp .ne 8, 3) := by decide +kernel
theorem dX9_feed_120 : decode cX9_feed 120 = .ok (.iload 5, 2) := by decide +kernel
theorem dX9_feed_122 : decode cX9_feed 122 = .ok (.goto 5, 3) := by decide +kernel
theorem dX9_feed_125 : decode cX9_feed 125 = .ok (.iload 6, 2) := by decide +kernel
theorem dX9_feed_127 : decode cX9_feed 127 = .ok (.iastore, 1) := by decide +kernel
theorem dX9_feed_128 : decode cX9_feed 128 = .ok (.iinc 7 1, 3) := by decide +kernel
theorem dX9_feed_131 : decode cX9_feed 131 = .ok (.goto (-64), 3) := by decide +kernel
theorem dX9_feed_134 : decode cX9_feed 134 = .ok (.aload_n 0, 1) := by decide +kernel
theorem dX9_feed_135 : decode cX9_feed 135 = .ok (.dup, 1) := by decide +kernel
theorem dX9_feed_136 : decode cX9_feed 136 = .ok (.getfield 73, 3) := by decide +kernel
theorem dX9_feed_139 : decode cX9_feed 139 = .ok (.iload_n 1, 1) := by decide +kernel
theorem dX9_feed_140 : decode cX9_feed 140 = .ok (.iadd, 1) := by decide +kernel
theorem dX9_feed_141 : decode cX9_feed 141 = .ok (.putfield 73, 3) := by decide +kernel
theorem dX9_feed_144 : decode cX9_feed 144 = .ok (.aload_n 0, 1) := by decide +kernel
theorem dX9_feed_145 : decode cX9_feed 145 = .ok (.getfield 73, 3) := by decide +kernel
theorem dX9_feed_148 : decode cX9_feed 148 = .ok (.ireturn, 1) := by decide +kernel
set_option maxRecDepth 20000 in
theorem ggX9_isLetter_X9_isIn : GoodIn wsX9_isLetter wsX9_isIn := goodIn_r _ [6] (by decide +kernel) (by decide +kernel)
set_option maxRecDepth 20000 in
theorem gX9_isLetter_X9_isIn : GoodIn wsX9_isLetter (va_wsS RX9 57 yX9_isIn wsX9_isIn) := goodIn_app (goodIn_of _ (by decide +kernel)) ggX9_isLetter_X9_isIn
theorem dX9_isLetter_0 : decode cX9_isLetter 0 = .ok (.iload_n 1, 1) := by decide +kernel
theorem dX9_isLetter_1 : decode cX9_isLetter 1 = .ok (.aload_n 0, 1) := by decide +kernel
theorem dX9_isLetter_2 : decode cX9_isLetter 2 = .ok (.getfield 73, 3) := by decide +kernel
theorem dX9_isLetter_5 : decode cX9_isLetter 5 = .ok (.if_icmp .ge 23, 3) := by decide +kernel
theorem dX9_isLetter_8 : decode cX9_isLetter 8 = .ok (.aload_n 0, 1) := by decide +kernel
theorem dX9_isLetter_9 : decode cX9_isLetter 9 = .ok (.getfield 19, 3) := by decide +kernel
theorem dX9_isLetter_12 : decode cX9_isLetter 12 = .ok (.iload_n 1, 1) := by decide +kernel
theorem dX9_isLetter_13 : decode cX9_isLetter 13 = .ok (.iaload, 1) := by decide +kernel
theorem dX9_isLetter_14 : decode cX9_isLetter 14 = .ok (.bipush 97, 2) := by decide +kernel
theorem dX9_isLetter_16 : decode cX9_isLetter 16 = .ok (.bipush 122, 2) := by decide +kernel
theorem dX9_isLetter_18 : decode cX9_isLetter 18 = .ok (.invokestatic 57, 3) := by decide +kernel
theorem dX9_isLetter_21 : decode cX9_isLetter 21 = .ok (.ifCond .eq 7, 3) := by decide +kernel
theorem dX9_isLetter_24 : decode cX9_isLetter 24 = .ok (.iconst 1, 1) := by decide +kernel
theorem dX9_isLetter_25 : decode cX9_isLetter 25 = .ok (.goto 4, 3) := by decide +kernel
theorem dX9_isLetter_28 : decode cX9_isLetter 28 = .ok (.iconst 0, 1) := by decide +kernel
theorem dX9_isLetter_29 : decode cX9_isLetter 29 = .ok (.ireturn, 1) := by decide +kernel
set_option maxRecDepth 20000 in
theorem ggX9_isDigit_X9_isIn : GoodIn wsX9_isDigit wsX9_isIn := goodIn_r _ [6] (by decide +kernel) (by decide +kernel)
set_option maxRecDepth 20000 in
theorem gX9_isDigit_X9_isIn : GoodIn wsX9_isDigit (va_wsS RX9 57 yX9_isIn wsX9_isIn) := goodIn_app (goodIn_of _ (by decide +kernel)) ggX9_isDigit_X9_isIn
theorem dX9_isDigit_0 : decode cX9_isDigit 0 = .ok (.iload_n 1, 1) := by decide +kernel
theorem dX9_isDigit_1 : decode cX9_isDigit 1 = .ok (.aload_n 0, 1) := by decide +kernel
theorem dX9_isDigit_2 : decode cX9_isDigit 2 = .ok (.getfield 73, 3) := by decide +kernel
theorem dX9_isDigit_5 : decode cX9_isDigit 5 = .ok (.if_icmp .ge 23, 3) := by decide +kernel
theorem dX9_isDigit_8 : decode cX9_isDigit 8 = .ok (.aload_n 0, 1) := by decide +kernel
theorem dX9_isDigit_9 : decode cX9_isDigit 9 = .ok (.getfield 19, 3) := by decide +kernel
theorem dX9_isDigit_12 : decode cX9_isDigit 12 = .ok (.iload_n 1, 1) := by decide +kernel
theorem dX9_isDigit_13 : decode cX9_isDigit 13 = .ok (.iaload, 1) := by decide +kernel
theorem dX9_isDigit_14 : decode cX9_isDigit 14 = .ok (.bipush 48, 2) := by decide +kernel
theorem dX9_isDigit_16 : decode cX9_isDigit 16 = .ok (.bipush 57, 2) := by decide +kernel
theorem dX9_isDigit_18 : decode cX9_isDigit 18 = .ok (.invokestatic 57, 3) := by decide +kernel
theorem dX9_isDigit_21 : decode cX9_isDigit 21 = .ok (.ifCond .eq 7, 3) := by decide +kernel
theorem dX9_isDigit_24 : decode cX9_isDigit 24 = .ok (.iconst 1, 1) := by decide +kernel
theorem dX9_isDigit_25 : decode cX9_isDigit 25 = .ok (.goto 4, 3) := by decide +kernel
theorem dX9_isDigit_28 : decode cX9_isDigit 28 = .ok (.iconst 0, 1) := by decide +kernel
theorem dX9_isDigit_29 : decode cX9_isDigit 29 = .ok (.ireturn, 1) := by decide +kernel
set_option maxRecDepth 20000 in
theorem ggX9_next_X9_isLetter : GoodIn wsX9_next wsX9_isLetter := goodIn_r _ [10, 2, 3, 11, 12, 9, 13, 18, 19, 20, 21, 22, 23, 24, 25, 26, 27, 28, 29, 30, 31, 32, 33, 34, 35, 36, 37, 38, 39, 40, 41] (by decide +kernel) (by decide +kernel)
set_option maxRecDepth 20000 in
theorem gX9_next_X9_isLetter : GoodIn wsX9_next (wsV RX9 82 RX9 yX9_isLetter wsX9_isLetter) := goodIn_app (goodIn_of _ (by decide +kernel)) ggX9_next_X9_isLetter
set_option maxRecDepth 20000 in
theorem ggX9_next_X9_isDigit : GoodIn wsX9_next wsX9_isDigit := goodIn_r _ [17, 2, 3, 11, 12, 9, 13, 18, 19, 20, 21, 22, 23, 24, 25, 26, 27, 28, 29, 30, 31, 32, 33, 34, 35, 36, 37, 38, 39, 40, 41] (by decide +kernel) (by decide +kernel)
set_option maxRecDepth 20000 in
theorem gX9_next_X9_isDigit : GoodIn wsX9_next (wsV RX9 85 RX9 yX9_isDigit wsX9_isDigit) := goodIn_app (goodIn_of _ (by decide +kernel)) ggX9_next_X9_isDigit
theorem dX9_next_0 : decode cX9_next 0 = .ok (.aload_n 0, 1) := by decide +kernel
theorem dX9_next_1 : decode cX9_next 1 = .ok (.getfield 76, 3) := by decide +kernel
theorem dX9_next_4 : decode cX9_next 4 = .ok (.aload_n 0, 1) := by decide +kernel
theorem dX9_next_5 : decode cX9_next 5 = .ok (.getfield 73, 3) := by decide +kernel
theorem dX9_next_8 : decode cX9_next 8 = .ok (.if_icmp .ge 30, 3) := by decide +kernel
theorem dX9_next_11 : decode cX9_next 11 = .ok (.aload_n 0, 1) := by decide +kernel
theorem dX9_next_12 : decode cX9_next 12 = .ok (.getfield 19, 3) := by decide +kernel
theorem dX9_next_15 : decode cX9_next 15 = .ok (.aload_n 0, 1) := by decide +kernel
theorem dX9_next_16 : decode cX9_next 16 = .ok (.getfield 76, 3) := by decide +kernel
theorem dX9_next_19 : decode cX9_next 19 = .ok (.iaload, 1) := by decide +kernel
theorem dX9_next_20 : decode cX9_next 20 = .ok (.bipush 32, 2) := by decide +kernel
theorem dX9_next_22 : decode cX9_next 22 = .ok (.if_icmp .ne 16, 3) := by decide +kernel
theorem dX9_next_25 : decode cX9_next 25 = .ok (.aload_n 0, 1) := by decide +kernel
theorem dX9_next_26 : decode cX9_next 26 = .ok (.dup, 1) := by decide +kernel
theorem dX9_next_27 : decode cX9_next 27 = .ok (.getfield 76, 3) := by decide +kernel
theorem dX9_next_30 : decode cX9_next 30 = .ok (.iconst 1, 1) := by decide +kernel
theorem dX9_next_31 : decode cX9_next 31 = .ok (.iadd, 1) := by decide +kernel
theorem dX9_next_32 : decode cX9_next 32 = .ok (.putfield 76, 3) := by decide +kernel
theorem dX9_next_35 : decode cX9_next 35 = .ok (.goto (-35), 3) := by decide +kernel
theorem dX9_next_38 : decode cX9_next 38 = .ok (.aload_n 0, 1) := by decide +kernel
theorem dX9_next_39 : decode cX9_next 39 = .ok (.aload_n 0, 1) := by decide +kernel
theorem dX9_next_40 : decode cX9_next 40 = .ok (.getfield 76, 3) := by decide +kernel
theorem dX9_next_43 : decode cX9_next 43 = .ok (.putfield 79, 3) := by decide +kernel
theorem dX9_next_46 : decode cX9_next 46 = .ok (.aload_n 0, 1) := by decide +kernel
theorem dX9_next_47 : decode cX9_next 47 = .ok (.aload_n 0, 1) := by decide +kernel
theorem dX9_next_48 : decode cX9_next 48 = .ok (.getfield 76, 3) := by decide +kernel
theorem dX9_next_51 : decode cX9_next 51 = .ok (.aload_n 0, 1) := by decide +kernel
theorem dX9_next_52 : decode cX9_next 52 = .ok (.getfield 73, 3) := by decide +kernel
theorem dX9_next_55 : decode cX9_next 55 = .ok (.if_icmp .ne 7, 3) := by decide +kernel
theorem dX9_next_58 : decode cX9_next 58 = .ok (.iconst 0, 1) := by decide +kernel
theorem dX9_next_59 : decode cX9_next 59 = .ok (.goto 34, 3) := by decide +kernel
theorem dX9_next_62 : decode cX9_next 62 = .ok (.aload_n 0, 1) := by decide +kernel
theorem dX9_next_63 : decode cX9_next 63 = .ok (.aload_n 0, 1) := by decide +kernel
theorem dX9_next_64 : decode cX9_next 64 = .ok (.getfield 76, 3) := by decide +kernel
theorem dX9_next_67 : decode cX9_next 67 = .ok (.invokevirtual 82, 3) := by decide +kernel
theorem dX9_next_70 : decode cX9_next 70 = .ok (.ifCond .eq 7, 3) := by decide +kernel
theorem dX9_next_73 : decode cX9_next 73 = .ok (.iconst 1, 1) := by decide +kernel
theorem dX9_next_74 : decode cX9_next 74 = .ok (.goto 19, 3) := by decide +kernel
theorem dX9_next_77 : decode cX9_next 77 = .ok (.aload_n 0, 1) := by decide +kernel
theorem dX9_next_78 : decode cX9_next 78 = .ok (.aload_n 0, 1) := by decide +kernel
theorem dX9_next_79 : decode cX9_next 79 = .ok (.getfield 76, 3) := by decide +kernel
theorem dX9_next_82 : decode cX9_next 82 = .ok (.invokevirtual 85, 3) := by decide +kernel
theorem dX9_next_85 : decode cX9_next 85 = .ok (.ifCond .eq 7, 3) := by decide +kernel
theorem dX9_next_88 : decode cX9_next 88 = .ok (.iconst 2, 1) := by decide +kernel
theorem dX9_next_89 : decode cX9_next 89 = .ok (.goto 4, 3) := by decide +kernel
theorem dX9_next_92 : decode cX9_next 92 = .ok (.iconst 3, 1) := by decide +kernel
theorem dX9_next_93 : decode cX9_next 93 = .ok (.putfield 88, 3) := by decide +kernel
theorem dX9_next_96 : decode cX9_next 96 = .ok (.aload_n 0, 1) := by decide +kernel
theorem dX9_next_97 : decode cX9_next 97 = .ok (.getfield 88, 3) := by decide +kernel
theorem dX9_next_100 : decode cX9_next 100 = .ok (.iconst 1, 1) := by decide +kernel
theorem dX9_next_101 : decode cX9_next 101 = .ok (.if_icmp .ne 14, 3) := by decide +kernel
theorem dX9_next_104 : decode cX9_next 104 = .ok (.aload_n 0, 1) := by decide +kernel
theorem dX9_next_105 : decode cX9_next 105 = .ok (.aload_n 0, 1) := by decide +kernel
theorem dX9_next_106 : decode cX9_next 106 = .ok (.getfield 76, 3) := by decide +kernel
theorem dX9_next_109 : decode cX9_next 109 = .ok (.invokevirtual 82, 3) := by decide +kernel
theorem dX9_next_112 : decode cX9_next 112 = .ok (.ifCond .ne 22, 3) := by decide +kernel
theorem dX9_next_115 : decode cX9_next 115 = .ok (.aload_n 0, 1) := by decide +kernel
theorem dX9_next_116 : decode cX9_next 116 = .ok (.getfield 88, 3) := by decide +kernel
theorem dX9_next_119 : decode cX9_next 119 = .ok (.iconst 2, 1) := by decide +kernel
theorem dX9_next_120 : decode cX9_next 120 = .ok (.if_icmp .ne 27, 3) := by decide +kernel
theorem dX9_next_123 : decode cX9_next 123 = .ok (.aload_n 0, 1) := by decide +kernel
theorem dX9_next_124 : decode cX9_next 124 = .ok (.aload_n 0, 1) := by decide +kernel
theorem dX9_next_125 : decode cX9_next 125 = .ok (.getfield 76, 3) := by decide +kernel
theorem dX9_next_128 : decode cX9_next 128 = .ok (.invokevirtual 85, 3) := by decide +kernel
theorem dX9_next_131 : decode cX9_next 131 = .ok (.ifCond .eq 16, 3) := by decide +kernel
theorem dX9_next_134 : decode cX9_next 134 = .ok (.aload_n 0, 1) := by decide +kernel
theorem dX9_next_135 : decode cX9_next 135 = .ok (.dup, 1) := by decide +kernel
theorem dX9_next_136 : decode cX9_next 136 = .ok (.getfield 76, 3) := by decide +kernel
theorem dX9_next_139 : decode cX9_next 139 = .ok (.iconst 1, 1) := by decide +kernel
theorem dX9_next_140 : decode cX9_next 140 = .ok (.iadd, 1) := by decide +kernel
theorem dX9_next_141 : decode cX9_next 141 = .ok (.putfield 76, 3) := by decide +kernel
theorem dX9_next_144 : decode cX9_next 144 = .ok (.goto (-48), 3) := by decide +kernel
theorem dX9_next_147 : decode cX9_next 147 = .ok (.return_, 1) := by decide +kernel
theorem dX9_isWord_0 : decode cX9_isWord 0 = .ok (.aload_n 0, 1) := by decide +kernel
theorem dX9_isWord_1 : decode cX9_isWord 1 = .ok (.getfield 88, 3) := by decide +kernel
theorem dX9_isWord_4 : decode cX9_isWord 4 = .ok (.iconst 1, 1) := by decide +kernel
theorem dX9_isWord_5 : decode cX9_isWord 5 = .ok (.if_icmp .ne 16, 3) := by decide +kernel
theorem dX9_isWord_8 : decode cX9_isWord 8 = .ok (.aload_n 0, 1) := by decide +kernel
theorem dX9_isWord_9 : decode cX9_isWord 9 = .ok (.getfield 76, 3) := by decide +kernel
theorem dX9_isWord_12 : decode cX9_isWord 12 = .ok (.aload_n 0, 1) := by decide +kernel
theorem dX9_isWord_13 : decode cX9_isWord 13 = .ok (.getfield 79, 3) := by decide +kernel
theorem dX9_isWord_16 : decode cX9_isWord 16 = .ok (.isub, 1) := by decide +kernel
theorem dX9_isWord_17 : decode cX9_isWord 17 = .ok (.iconst 4, 1) := by decide +kernel
theorem dX9_isWord_18 : decode cX9_isWord 18 = .ok (.if_icmp .le 5, 3) := by decide +kernel
theorem dX9_isWord_21 : decode cX9_isWord 21 = .ok (.iconst 0, 1) := by decide +kernel
theorem dX9_isWord_22 : decode cX9_isWord 22 = .ok (.ireturn, 1) := by decide +kernel
theorem dX9_isWord_23 : decode cX9_isWord 23 = .ok (.iconst 0, 1) := by decide +kernel
theorem dX9_isWord_24 : decode cX9_isWord 24 = .ok (.istore_n 2, 1) := by decide +kernel
theorem dX9_isWord_25 : decode cX9_isWord 25 = .ok (.iload_n 2, 1) := by decide +kernel
theorem dX9_isWord_26 : decode cX9_isWord 26 = .ok (.iconst 4, 1) := by decide +kernel
theorem dX9_isWord_27 : decode cX9_isWord 27 = .ok (.if_icmp .ge 53, 3) := by decide +kernel
theorem dX9_isWord_30 : decode cX9_isWord 30 = .ok (.aload_n 0, 1) := by decide +kernel
theorem dX9_isWord_31 : decode cX9_isWord 31 = .ok (.getfield 22, 3) := by decide +kernel
theorem dX9_isWord_34 : decode cX9_isWord 34 = .ok (.iconst 4, 1) := by decide +kernel
theorem dX9_isWord_35 : decode cX9_isWord 35 = .ok (.iload_n 1, 1) := by decide +kernel
theorem dX9_isWord_36 : decode cX9_isWord 36 = .ok (.imul, 1) := by decide +kernel
theorem dX9_isWord_37 : decode cX9_isWord 37 = .ok (.iload_n 2, 1) := by decide +kernel
theorem dX9_isWord_38 : decode cX9_isWord 38 = .ok (.iadd, 1) := by decide +kernel
theorem dX9_isWord_39 : decode cX9_isWord 39 = .ok (.caload, 1) := by decide +kernel
theorem dX9_isWord_40 : decode cX9_isWord 40 = .ok (.aload_n 0, 1) := by decide +kernel
theorem dX9_isWord_41 : decode cX9_isWord 41 = .ok (.getfield 79, 3) := by decide +kernel
theorem dX9_isWord_44 : decode cX9_isWord 44 = .ok (.iload_n 2, 1) := by decide +kernel
theorem dX9_isWord_45 : decode cX9_isWord 45 = .ok (.iadd, 1) := by decide +kernel
theorem dX9_isWord_46 : decode cX9_isWord 46 = .ok (.aload_n 0, 1) := by decide +kernel
theorem dX9_isWord_47 : decode cX9_isWord 47 = .ok (.getfield 76, 3) := by decide +kernel
theorem dX9_isWord_50 : decode cX9_isWord 50 = .ok (.if_icmp .ge 17, 3) := by decide +kernel
theorem dX9_isWord_53 : decode cX9_isWord 53 = .ok (.aload_n 0, 1) := by decide +kernel
theorem dX9_isWord_54 : decode cX9_isWord 54 = .ok (.getfield 19, 3) := by decide +kernel
theorem dX9_isWord_57 : decode cX9_isWord 57 = .ok (.aload_n 0, 1) := by decide +kernel
theorem dX9_isWord_58 : decode cX9_isWord 58 = .ok (.getfield 79, 3) := by decide +kernel
theorem dX9_isWord_61 : decode cX9_isWord 61 = .ok (.iload_n 2, 1) := by decide +kernel
theorem dX9_isWord_62 : decode cX9_isWord 62 = .ok (.iadd, 1) := by decide +kernel
theorem dX9_isWord_63 : decode cX9_isWord 63 = .ok (.iaload, 1) := by decide +kernel
theorem dX9_isWord_64 : decode cX9_isWord 64 = .ok (.goto 5, 3) := by decide +kernel
theorem dX9_isWord_67 : decode cX9_isWord 67 = .ok (.bipush 32, 2) := by decide +kernel
theorem dX9_isWord_69 : decode cX9_isWord 69 = .ok (.if_icmp .eq 5, 3) := by decide +kernel
theorem dX9_isWord_72 : decode cX9_isWord 72 = .ok (.iconst 0, 1) := by decide +kernel
theorem dX9_isWord_73 : decode cX9_isWord 73 = .ok (.ireturn, 1) := by decide +kernel
theorem dX9_isWord_74 : decode cX9_isWord 74 = .ok (.iinc 2 1, 3) := by decide +kernel
theorem dX9_isWord_77 : decode cX9_isWord 77 = .ok (.goto (-52), 3) := by decide +kernel
theorem dX9_isWord_80 : decode cX9_isWord 80 = .ok (.iconst 1, 1) := by decide +kernel
theorem dX9_isWord_81 : decode cX9_isWord 81 = .ok (.ireturn, 1) := by decide +kernel
set_option maxRecDepth 20000 in
theorem ggX9_word_X9_isWord : GoodIn wsX9_word wsX9_isWord := goodIn_r _ [5, 6, 7, 8, 9, 10, 11, 12, 13, 14, 15, 16, 17, 18, 19, 20, 21, 22, 23, 24, 25, 26, 27, 28, 29, 30, 31, 32, 33, 34] (by decide +kernel) (by decide +kernel)
set_option maxRecDepth 20000 in
theorem gX9_word_X9_isWord : GoodIn wsX9_word (wsV RX9 91 RX9 yX9_isWord wsX9_isWord) := goodIn_app (goodIn_of _ (by decide +kernel)) ggX9_word_X9_isWord
theorem dX9_word_0 : decode cX9_word 0 = .ok (.iconst 0, 1) := by decide +kernel
theorem dX9_word_1 : decode cX9_word 1 = .ok (.istore_n 1, 1) := by decide +kernel
theorem dX9_word_2 : decode cX9_word 2 = .ok (.iload_n 1, 1) := by decide +kernel
theorem dX9_word_3 : decode cX9_word 3 = .ok (.bipush 6, 2) := by decide +kernel
theorem dX9_word_5 : decode cX9_word 5 = .ok (.if_icmp .ge 19, 3) := by decide +kernel
theorem dX9_word_8 : decode cX9_word 8 = .ok (.aload_n 0, 1) := by decide +kernel
theorem dX9_word_9 : decode cX9_word 9 = .ok (.iload_n 1, 1) := by decide +kernel
theorem dX9_word_10 : decode cX9_word 10 = .ok (.invokevirtual 91, 3) := by decide +kernel
theorem dX9_word_13 : decode cX9_word 13 = .ok (.ifCond .eq 5, 3) := by decide +kernel
theorem dX9_word_16 : decode cX9_word 16 = .ok (.iload_n 1, 1) := by decide +kernel
theorem dX9_word_17 : decode cX9_word 17 = .ok (.ireturn, 1) := by decide +kernel
theorem dX9_word_18 : decode cX9_word 18 = .ok (.iinc 1 1, 3) := by decide +kernel
theorem dX9_word_21 : decode cX9_word 21 = .ok (.goto (-19), 3) := by decide +kernel
theorem dX9_word_24 : decode cX9_word 24 = .ok (.iconst (-1), 1) := by decide +kernel
theorem dX9_word_25 : decode cX9_word 25 = .ok (.ireturn, 1) := by decide +kernel
theorem dX9_number_0 : decode cX9_number 0 = .ok (.aload_n 0, 1) := by decide +kernel
theorem dX9_number_1 : decode cX9_number 1 = .ok (.getfield 88, 3) := by decide +kernel
theorem dX9_number_4 : decode cX9_number 4 = .ok (.iconst 2, 1) := by decide +kernel
theorem dX9_number_5 : decode cX9_number 5 = .ok (.if_icmp .ne 16, 3) := by decide +kernel
theorem dX9_number_8 : decode cX9_number 8 = .ok (.aload_n 0, 1) := by decide +kernel
theorem dX9_number_9 : decode cX9_number 9 = .ok (.getfield 76, 3) := by decide +kernel
theorem dX9_number_12 : decode cX9_number 12 = .ok (.aload_n 0, 1) := by decide +kernel
theorem dX9_number_13 : decode cX9_number 13 = .ok (.getfield 79, 3) := by decide +kernel
theorem dX9_number_16 : decode cX9_number 16 = .ok (.isub, 1) := by decide +kernel
theorem dX9_number_17 : decode cX9_number 17 = .ok (.iconst 2, 1) := by decide +kernel
theorem dX9_number_18 : decode cX9_number 18 = .ok (.if_icmp .le 5, 3) := by decide +kernel
theorem dX9_number_21 : decode cX9_number 21 = .ok (.iconst (-1), 1) := by decide +kernel
theorem dX9_number_22 : decode cX9_number 22 = .ok (.ireturn, 1) := by decide +kernel
theorem dX9_number_23 : decode cX9_number 23 = .ok (.iconst 0, 1) := by decide +kernel
theorem dX9_number_24 : decode cX9_number 24 = .ok (.istore_n 1, 1) := by decide +kernel
theorem dX9_number_25 : decode cX9_number 25 = .ok (.aload_n 0, 1) := by decide +kernel
theorem dX9_number_26 : decode cX9_number 26 = .ok (.getfield 79, 3) := by decide +kernel
theorem dX9_number_29 : decode cX9_number 29 = .ok (.istore_n 2, 1) := by decide +kernel
theorem dX9_number_30 : decode cX9_number 30 = .ok (.iload_n 2, 1) := by decide +kernel
theorem dX9_number_31 : decode cX9_number 31 = .ok (.aload_n 0, 1) := by decide +kernel
theorem dX9_number_32 : decode cX9_number 32 = .ok (.getfield 76, 3) := by decide +kernel
theorem dX9_number_35 : decode cX9_number 35 = .ok (.if_icmp .ge 24, 3) := by decide +kernel
theorem dX9_number_38 : decode cX9_number 38 = .ok (.bipush 10, 2) := by decide +kernel
theorem dX9_number_40 : decode cX9_number 40 = .ok (.iload_n 1, 1) := by decide +kernel
theorem dX9_number_41 : decode cX9_number 41 = .ok (.imul, 1) := by decide +kernel
theorem dX9_number_42 : decode cX9_number 42 = .ok (.aload_n 0, 1) := by decide +kernel
theorem dX9_number_43 : decode cX9_number 43 = .ok (.getfield 19, 3) := by decide +kernel
theorem dX9_number_46 : decode cX9_number 46 = .ok (.iload_n 2, 1) := by decide +kernel
theorem dX9_number_47 : decode cX9_number 47 = .ok (.iaload, 1) := by decide +kernel
theorem dX9_number_48 : decode cX9_number 48 = .ok (.iadd, 1) := by decide +kernel
theorem dX9_number_49 : decode cX9_number 49 = .ok (.bipush 48, 2) := by decide +kernel
theorem dX9_number_51 : decode cX9_number 51 = .ok (.isub, 1) := by decide +kernel
theorem dX9_number_52 : decode cX9_number 52 = .ok (.istore_n 1, 1) := by decide +kernel
theorem dX9_number_53 : decode cX9_number 53 = .ok (.iinc 2 1, 3) := by decide +kernel
theorem dX9_number_56 : decode cX9_number 56 = .ok (.goto (-26), 3) := by decide +kernel
theorem dX9_number_59 : decode cX9_number 59 = .ok (.iload_n 1, 1) := by decide +kernel
theorem dX9_number_60 : decode cX9_number 60 = .ok (.ireturn, 1) := by decide +kernel
set_option maxRecDepth 20000 in
theorem ggX9_readsSource_X9_next : GoodIn wsX9_readsSource wsX9_next := goodIn_r _ [10, 2, 11, 4, 3, 1, 12, 13, 14, 9, 15, 16, 17, 18, 19, 20, 21, 22, 32, 33, 34, 35, 36, 37, 38, 39, 40, 41, 42, 43, 44, 45, 46, 47, 48, 49, 50, 51, 52, 53, 54, 55] (by decide +kernel) (by decide +kernel)
set_option maxRecDepth 20000 in
theorem gX9_readsSource_X9_next : GoodIn wsX9_readsSource (wsV RX9 94 RX9 yX9_next wsX9_next) := goodIn_app (goodIn_of _ (by decide +kernel)) ggX9_readsSource_X9_next
set_option maxRecDepth 20000 in
theorem ggX9_readsSource_X9_isIn : GoodIn wsX9_readsSource wsX9_isIn := goodIn_r _ [18] (by decide +kernel) (by decide +kernel)
set_option maxRecDepth 20000 in
theorem gX9_readsSource_X9_isIn : GoodIn wsX9_readsSource (va_wsS RX9 57 yX9_isIn wsX9_isIn) := goodIn_app (goodIn_of _ (by decide +kernel)) ggX9_readsSource_X9_isIn
set_option maxRecDepth 20000 in
theorem ggX9_readsSource_X9_number : GoodIn wsX9_readsSource wsX9_number := goodIn_r _ [26, 1, 2, 3, 4, 32, 33, 34, 35, 36, 37, 38, 39, 40, 41, 42, 43, 44, 45, 46, 47, 48, 49, 50, 51, 52, 53, 54, 55] (by decide +kernel) (by decide +kernel)
set_option maxRecDepth 20000 in
theorem gX9_readsSource_X9_number : GoodIn wsX9_readsSource (wsV RX9 97 RX9 yX9_number wsX9_number) := goodIn_app (goodIn_of _ (by decide +kernel)) ggX9_readsSource_X9_number
set_option maxRecDepth 20000 in
theorem ggX9_readsSource_X9_isGate : GoodIn wsX9_readsSource wsX9_isGate := goodIn_r _ [30, 31, 16, 17, 9, 18, 32, 33, 34, 35, 36, 37, 38, 39, 40, 41, 42, 43, 44, 45, 46, 47, 48, 49, 50, 51, 52, 53, 54, 55] (by decide +kernel) (by decide +kernel)
set_option maxRecDepth 20000 in
theorem gX9_readsSource_X9_isGate : GoodIn wsX9_readsSource (wsV RX9 101 RX9 yX9_isGate wsX9_isGate) := goodIn_app (goodIn_of _ (by decide +kernel)) ggX9_readsSource_X9_isGate
theorem dX9_readsSource_0 : decode cX9_readsSource 0 = .ok (.aload_n 0, 1) := by decide +kernel
theorem dX9_readsSource_1 : decode cX9_readsSource 1 = .ok (.invokevirtual 94, 3) := by decide +kernel
theorem dX9_readsSource_4 : decode cX9_readsSource 4 = .ok (.aload_n 0, 1) := by decide +kernel
theorem dX9_readsSource_5 : decode cX9_readsSource 5 = .ok (.getfield 88, 3) := by decide +kernel
theorem dX9_readsSource_8 : decode cX9_readsSource 8 = .ok (.iconst 1, 1) := by decide +kernel
theorem dX9_readsSource_9 : decode cX9_readsSource 9 = .ok (.if_icmp .ne 39, 3) := by decide +kernel
theorem dX9_readsSource_12 : decode cX9_readsSource 12 = .ok (.aload_n 0, 1) := by decide +kernel
theorem dX9_readsSource_13 : decode cX9_readsSource 13 = .ok (.getfield 76, 3) := by decide +kernel
theorem dX9_readsSource_16 : decode cX9_readsSource 16 = .ok (.aload_n 0, 1) := by decide +kernel
theorem dX9_readsSource_17 : decode cX9_readsSource 17 = .ok (.getfield 79, 3) := by decide +kernel
theorem dX9_readsSource_20 : decode cX9_readsSource 20 = .ok (.isub, 1) := by decide +kernel
theorem dX9_readsSource_21 : decode cX9_readsSource 21 = .ok (.iconst 1, 1) := by decide +kernel
theorem dX9_readsSource_22 : decode cX9_readsSource 22 = .ok (.if_icmp .ne 26, 3) := by decide +kernel
theorem dX9_readsSource_25 : decode cX9_readsSource 25 = .ok (.aload_n 0, 1) := by decide +kernel
theorem dX9_readsSource_26 : decode cX9_readsSource 26 = .ok (.getfield 19, 3) := by decide +kernel
theorem dX9_readsSource_29 : decode cX9_readsSource 29 = .ok (.aload_n 0, 1) := by decide +kernel
theorem dX9_readsSource_30 : decode cX9_readsSource 30 = .ok (.getfield 79, 3) := by decide +kernel
theorem dX9_readsSource_33 : decode cX9_readsSource 33 = .ok (.iaload, 1) := by decide +kernel
theorem dX9_readsSource_34 : decode cX9_readsSource 34 = .ok (.bipush 97, 2) := by decide +kernel
theorem dX9_readsSource_36 : decode cX9_readsSource 36 = .ok (.bipush 100, 2) := by decide +kernel
theorem dX9_readsSource_38 : decode cX9_readsSource 38 = .ok (.invokestatic 57, 3) := by decide +kernel
theorem dX9_readsSource_41 : decode cX9_readsSource 41 = .ok (.ifCond .eq 7, 3) := by decide +kernel
theorem dX9_readsSource_44 : decode cX9_readsSource 44 = .ok (.iconst 1, 1) := by decide +kernel
theorem dX9_readsSource_45 : decode cX9_readsSource 45 = .ok (.goto 4, 3) := by decide +kernel
theorem dX9_readsSource_48 : decode cX9_readsSource 48 = .ok (.iconst 0, 1) := by decide +kernel
theorem dX9_readsSource_49 : decode cX9_readsSource 49 = .ok (.istore_n 2, 1) := by decide +kernel
theorem dX9_readsSource_50 : decode cX9_readsSource 50 = .ok (.aload_n 0, 1) := by decide +kernel
theorem dX9_readsSource_51 : decode cX9_readsSource 51 = .ok (.getfield 26, 3) := by decide +kernel
theorem dX9_readsSource_54 : decode cX9_readsSource 54 = .ok (.iload_n 1, 1) := by decide +kernel
theorem dX9_readsSource_55 : decode cX9_readsSource 55 = .ok (.iload_n 2, 1) := by decide +kernel
theorem dX9_readsSource_56 : decode cX9_readsSource 56 = .ok (.ifCond .eq 20, 3) := by decide +kernel
theorem dX9_readsSource_59 : decode cX9_readsSource 59 = .ok (.iconst (-1), 1) := by decide +kernel
theorem dX9_readsSource_60 : decode cX9_readsSource 60 = .ok (.aload_n 0, 1) := by decide +kernel
theorem dX9_readsSource_61 : decode cX9_readsSource 61 = .ok (.getfield 19, 3) := by decide +kernel
theorem dX9_readsSource_64 : decode cX9_readsSource 64 = .ok (.aload_n 0, 1) := by decide +kernel
theorem dX9_readsSource_65 : decode cX9_readsSource 65 = .ok (.getfield 79, 3) := by decide +kernel
theorem dX9_readsSource_68 : decode cX9_readsSource 68 = .ok (.iaload, 1) := by decide +kernel
theorem dX9_readsSource_69 : decode cX9_readsSource 69 = .ok (.bipush 97, 2) := by decide +kernel
theorem dX9_readsSource_71 : decode cX9_readsSource 71 = .ok (.isub, 1) := by decide +kernel
theorem dX9_readsSource_72 : decode cX9_readsSource 72 = .ok (.isub, 1) := by decide +kernel
theorem dX9_readsSource_73 : decode cX9_readsSource 73 = .ok (.goto 7, 3) := by decide +kernel
theorem dX9_readsSource_76 : decode cX9_readsSource 76 = .ok (.aload_n 0, 1) := by decide +kernel
theorem dX9_readsSource_77 : decode cX9_readsSource 77 = .ok (.invokevirtual 97, 3) := by decide +kernel
theorem dX9_readsSource_80 : decode cX9_readsSource 80 = .ok (.iastore, 1) := by decide +kernel
theorem dX9_readsSource_81 : decode cX9_readsSource 81 = .ok (.iload_n 2, 1) := by decide +kernel
theorem dX9_readsSource_82 : decode cX9_readsSource 82 = .ok (.ifCond .ne 16, 3) := by decide +kernel
theorem dX9_readsSource_85 : decode cX9_readsSource 85 = .ok (.aload_n 0, 1) := by decide +kernel
theorem dX9_readsSource_86 : decode cX9_readsSource 86 = .ok (.aload_n 0, 1) := by decide +kernel
theorem dX9_readsSource_87 : decode cX9_readsSource 87 = .ok (.getfield 26, 3) := by decide +kernel
theorem dX9_readsSource_90 : decode cX9_readsSource 90 = .ok (.iload_n 1, 1) := by decide +kernel
theorem dX9_readsSource_91 : decode cX9_readsSource 91 = .ok (.iaload, 1) := by decide +kernel
theorem dX9_readsSource_92 : decode cX9_readsSource 92 = .ok (.invokevirtual 101, 3) := by decide +kernel
theorem dX9_readsSource_95 : decode cX9_readsSource 95 = .ok (.ifCond .eq 7, 3) := by decide +kernel
theorem dX9_readsSource_98 : decode cX9_readsSource 98 = .ok (.iconst 1, 1) := by decide +kernel
theorem dX9_readsSource_99 : decode cX9_readsSource 99 = .ok (.goto 4, 3) := by decide +kernel
theorem dX9_readsSource_102 : decode cX9_readsSource 102 = .ok (.iconst 0, 1) := by decide +kernel
theorem dX9_readsSource_103 : decode cX9_readsSource 103 = .ok (.ireturn, 1) := by decide +kernel
set_option maxRecDepth 20000 in
theorem ggX9_readsDelay_X9_next : GoodIn wsX9_readsDelay wsX9_next := goodIn_r _ [6, 7, 8, 9, 10, 11, 12, 13, 14, 5, 15, 16, 17, 18, 19, 20, 21, 22, 27, 28, 29, 30, 31, 32, 33, 34, 35, 36, 37, 38, 39, 40, 41, 42, 43, 44, 45, 46, 47, 48, 49, 50] (by decide +kernel) (by decide +kernel)
set_option maxRecDepth 20000 in
theorem gX9_readsDelay_X9_next : GoodIn wsX9_readsDelay (wsV RX9 94 RX9 yX9_next wsX9_next) := goodIn_app (goodIn_of _ (by decide +kernel)) ggX9_readsDelay_X9_next
set_option maxRecDepth 20000 in
theorem ggX9_readsDelay_X9_number : GoodIn wsX9_readsDelay wsX9_number := goodIn_r _ [26, 11, 7, 10, 9, 27, 28, 29, 30, 31, 32, 33, 34, 35, 36, 37, 38, 39, 40, 41, 42, 43, 44, 45, 46, 47, 48, 49, 50] (by decide +kernel) (by decide +kernel)
set_option maxRecDepth 20000 in
theorem gX9_readsDelay_X9_number : GoodIn wsX9_readsDelay (wsV RX9 97 RX9 yX9_number wsX9_number) := goodIn_app (goodIn_of _ (by decide +kernel)) ggX9_readsDelay_X9_number
set_option maxRecDepth 20000 in
theorem ggX9_readsDelay_X9_isIn : GoodIn wsX9_readsDelay wsX9_isIn := goodIn_r _ [18] (by decide +kernel) (by decide +kernel)
set_option maxRecDepth 20000 in
theorem gX9_readsDelay_X9_isIn : GoodIn wsX9_readsDelay (va_wsS RX9 57 yX9_isIn wsX9_isIn) := goodIn_app (goodIn_of _ (by decide +kernel)) ggX9_readsDelay_X9_isIn
theorem dX9_readsDelay_0 : decode cX9_readsDelay 0 = .ok (.aload_n 0, 1) := by decide +kernel
theorem dX9_readsDelay_1 : decode cX9_readsDelay 1 = .ok (.invokevirtual 94, 3) := by decide +kernel
theorem dX9_readsDelay_4 : decode cX9_readsDelay 4 = .ok (.aload_n 0, 1) := by decide +kernel
theorem dX9_readsDelay_5 : decode cX9_readsDelay 5 = .ok (.getfield 26, 3) := by decide +kernel
theorem dX9_readsDelay_8 : decode cX9_readsDelay 8 = .ok (.iconst 3, 1) := by decide +kernel
theorem dX9_readsDelay_9 : decode cX9_readsDelay 9 = .ok (.aload_n 0, 1) := by decide +kernel
theorem dX9_readsDelay_10 : decode cX9_readsDelay 10 = .ok (.invokevirtual 97, 3) := by decide +kernel
theorem dX9_readsDelay_13 : decode cX9_readsDelay 13 = .ok (.iastore, 1) := by decide +kernel
theorem dX9_readsDelay_14 : decode cX9_readsDelay 14 = .ok (.aload_n 0, 1) := by decide +kernel
theorem dX9_readsDelay_15 : decode cX9_readsDelay 15 = .ok (.getfield 26, 3) := by decide +kernel
theorem dX9_readsDelay_18 : decode cX9_readsDelay 18 = .ok (.iconst 3, 1) := by decide +kernel
theorem dX9_readsDelay_19 : decode cX9_readsDelay 19 = .ok (.iaload, 1) := by decide +kernel
theorem dX9_readsDelay_20 : decode cX9_readsDelay 20 = .ok (.iconst 1, 1) := by decide +kernel
theorem dX9_readsDelay_21 : decode cX9_readsDelay 21 = .ok (.bipush 9, 2) := by decide +kernel
theorem dX9_readsDelay_23 : decode cX9_readsDelay 23 = .ok (.invokestatic 57, 3) := by decide +kernel
theorem dX9_readsDelay_26 : decode cX9_readsDelay 26 = .ok (.ireturn, 1) := by decide +kernel
set_option maxRecDepth 20000 in
theorem ggX9_isText_X9_next : GoodIn wsX9_isText wsX9_next := goodIn_r _ [8, 1, 9, 10, 11, 3, 12, 13, 14, 7, 15, 16, 17, 18, 19, 20, 21, 22, 49, 50, 51, 52, 53, 54, 55, 56, 57, 58, 59, 60, 61, 62, 63, 64, 65, 66, 67, 68, 69, 70, 71, 72] (by decide +kernel) (by decide +kernel)
set_option maxRecDepth 20000 in
theorem gX9_isText_X9_next : GoodIn wsX9_isText (wsV RX9 94 RX9 yX9_next wsX9_next) := goodIn_app (goodIn_of _ (by decide +kernel)) ggX9_isText_X9_next
set_option maxRecDepth 20000 in
theorem ggX9_isText_X9_word : GoodIn wsX9_isText wsX9_word := goodIn_r _ [26, 27, 28, 29, 7, 30, 3, 1, 11, 31, 10, 49, 50, 51, 52, 53, 54, 55, 56, 57, 58, 59, 60, 61, 62, 63, 64, 65, 66, 67, 68, 69, 70, 71, 72] (by decide +kernel) (by decide +kernel)
set_option maxRecDepth 20000 in
theorem gX9_isText_X9_word : GoodIn wsX9_isText (wsV RX9 104 RX9 yX9_word wsX9_word) := goodIn_app (goodIn_of _ (by decide +kernel)) ggX9_isText_X9_word
set_option maxRecDepth 20000 in
theorem ggX9_isText_X9_readsSource : GoodIn wsX9_isText wsX9_readsSource := goodIn_r _ [35, 3, 1, 11, 10, 2, 4, 5, 6, 7, 8, 9, 12, 13, 14, 15, 16, 17, 18, 19, 20, 21, 22, 36, 37, 38, 39, 40, 41, 42, 43, 44, 49, 50, 51, 52, 53, 54, 55, 56, 57, 58, 59, 60, 61, 62, 63, 64, 65, 66, 67, 68, 69, 70, 71, 72] (by decide +kernel) (by decide +kernel)
set_option maxRecDepth 20000 in
theorem gX9_isText_X9_readsSource : GoodIn wsX9_isText (wsV RX9 107 RX9 yX9_readsSource wsX9_readsSource) := goodIn_app (goodIn_of _ (by decide +kernel)) ggX9_isText_X9_readsSource
set_option maxRecDepth 20000 in
theorem ggX9_isText_X9_readsDelay : GoodIn wsX9_isText wsX9_readsDelay := goodIn_r _ [48, 2, 4, 5, 6, 7, 8, 1, 9, 10, 11, 3, 12, 13, 14, 15, 16, 17, 18, 19, 20, 21, 22, 36, 37, 38, 39, 49, 50, 51, 52, 53, 54, 55, 56, 57, 58, 59, 60, 61, 62, 63, 64, 65, 66, 67, 68, 69, 70, 71, 72] (by decide +kernel) (by decide +kernel)
set_option maxRecDepth 20000 in
theorem gX9_isText_X9_readsDelay : GoodIn wsX9_isText (wsV RX9 110 RX9 yX9_readsDelay wsX9_readsDelay) := goodIn_app (goodIn_of _ (by decide +kernel)) ggX9_isText_X9_readsDelay
theorem dX9_isText_0 : decode cX9_isText 0 = .ok (.aload_n 0, 1) := by decide +kernel
theorem dX9_isText_1 : decode cX9_isText 1 = .ok (.iconst 0, 1) := by decide +kernel
theorem dX9_isText_2 : decode cX9_isText 2 = .ok (.putfield 76, 3) := by decide +kernel
theorem dX9_isText_5 : decode cX9_isText 5 = .ok (.aload_n 0, 1) := by decide +kernel
theorem dX9_isText_6 : decode cX9_isText 6 = .ok (.invokevirtual 94, 3) := by decide +kernel
theorem dX9_isText_9 : decode cX9_isText 9 = .ok (.aload_n 0, 1) := by decide +kernel
theorem dX9_isText_10 : decode cX9_isText 10 = .ok (.getfield 26, 3) := by decide +kernel
theorem dX9_isText_13 : decode cX9_isText 13 = .ok (.iconst 0, 1) := by decide +kernel
theorem dX9_isText_14 : decode cX9_isText 14 = .ok (.aload_n 0, 1) := by decide +kernel
theorem dX9_isText_15 : decode cX9_isText 15 = .ok (.invokevirtual 104, 3) := by decide +kernel
theorem dX9_isText_18 : decode cX9_isText 18 = .ok (.iastore, 1) := by decide +kernel
theorem dX9_isText_19 : decode cX9_isText 19 = .ok (.aload_n 0, 1) := by decide +kernel
theorem dX9_isText_20 : decode cX9_isText 20 = .ok (.getfield 26, 3) := by decide +kernel
theorem dX9_isText_23 : decode cX9_isText 23 = .ok (.iconst 0, 1) := by decide +kernel
theorem dX9_isText_24 : decode cX9_isText 24 = .ok (.iaload, 1) := by decide +kernel
theorem dX9_isText_25 : decode cX9_isText 25 = .ok (.iconst (-1), 1) := by decide +kernel
theorem dX9_isText_26 : decode cX9_isText 26 = .ok (.if_icmp .eq 11, 3) := by decide +kernel
theorem dX9_isText_29 : decode cX9_isText 29 = .ok (.aload_n 0, 1) := by decide +kernel
theorem dX9_isText_30 : decode cX9_isText 30 = .ok (.iconst 1, 1) := by decide +kernel
theorem dX9_isText_31 : decode cX9_isText 31 = .ok (.invokevirtual 107, 3) := by decide +kernel
theorem dX9_isText_34 : decode cX9_isText 34 = .ok (.ifCond .ne 5, 3) := by decide +kernel
theorem dX9_isText_37 : decode cX9_isText 37 = .ok (.iconst 0, 1) := by decide +kernel
theorem dX9_isText_38 : decode cX9_isText 38 = .ok (.ireturn, 1) := by decide +kernel
theorem dX9_isText_39 : decode cX9_isText 39 = .ok (.aload_n 0, 1) := by decide +kernel
theorem dX9_isText_40 : decode cX9_isText 40 = .ok (.getfield 26, 3) := by decide +kernel
theorem dX9_isText_43 : decode cX9_isText 43 = .ok (.iconst 2, 1) := by decide +kernel
theorem dX9_isText_44 : decode cX9_isText 44 = .ok (.aload_n 0, 1) := by decide +kernel
theorem dX9_isText_45 : decode cX9_isText 45 = .ok (.getfield 26, 3) := by decide +kernel
theorem dX9_isText_48 : decode cX9_isText 48 = .ok (.iconst 1, 1) := by decide +kernel
theorem dX9_isText_49 : decode cX9_isText 49 = .ok (.iaload, 1) := by decide +kernel
theorem dX9_isText_50 : decode cX9_isText 50 = .ok (.iastore, 1) := by decide +kernel
theorem dX9_isText_51 : decode cX9_isText 51 = .ok (.aload_n 0, 1) := by decide +kernel
theorem dX9_isText_52 : decode cX9_isText 52 = .ok (.getfield 26, 3) := by decide +kernel
theorem dX9_isText_55 : decode cX9_isText 55 = .ok (.iconst 0, 1) := by decide +kernel
theorem dX9_isText_56 : decode cX9_isText 56 = .ok (.iaload, 1) := by decide +kernel
theorem dX9_isText_57 : decode cX9_isText 57 = .ok (.iconst 5, 1) := by decide +kernel
theorem dX9_isText_58 : decode cX9_isText 58 = .ok (.if_icmp .eq 13, 3) := by decide +kernel
theorem dX9_isText_61 : decode cX9_isText 61 = .ok (.aload_n 0, 1) := by decide +kernel
theorem dX9_isText_62 : decode cX9_isText 62 = .ok (.iconst 2, 1) := by decide +kernel
theorem dX9_isText_63 : decode cX9_isText 63 = .ok (.invokevirtual 107, 3) := by decide +kernel
theorem dX9_isText_66 : decode cX9_isText 66 = .ok (.ifCond .ne 5, 3) := by decide +kernel
theorem dX9_isText_69 : decode cX9_isText 69 = .ok (.iconst 0, 1) := by decide +kernel
theorem dX9_isText_70 : decode cX9_isText 70 = .ok (.ireturn, 1) := by decide +kernel
theorem dX9_isText_71 : decode cX9_isText 71 = .ok (.aload_n 0, 1) := by decide +kernel
theorem dX9_isText_72 : decode cX9_isText 72 = .ok (.invokevirtual 110, 3) := by decide +kernel
theorem dX9_isText_75 : decode cX9_isText 75 = .ok (.ifCond .ne 5, 3) := by decide +kernel
theorem dX9_isText_78 : decode cX9_isText 78 = .ok (.iconst 0, 1) := by decide +kernel
theorem dX9_isText_79 : decode cX9_isText 79 = .ok (.ireturn, 1) := by decide +kernel
theorem dX9_isText_80 : decode cX9_isText 80 = .ok (.aload_n 0, 1) := by decide +kernel
theorem dX9_isText_81 : decode cX9_isText 81 = .ok (.invokevirtual 94, 3) := by decide +kernel
theorem dX9_isText_84 : decode cX9_isText 84 = .ok (.aload_n 0, 1) := by decide +kernel
theorem dX9_isText_85 : decode cX9_isText 85 = .ok (.getfield 88, 3) := by decide +kernel
theorem dX9_isText_88 : decode cX9_isText 88 = .ok (.ifCond .ne 7, 3) := by decide +kernel
theorem dX9_isText_91 : decode cX9_isText 91 = .ok (.iconst 1, 1) := by decide +kernel
theorem dX9_isText_92 : decode cX9_isText 92 = .ok (.goto 4, 3) := by decide +kernel
theorem dX9_isText_95 : decode cX9_isText 95 = .ok (.iconst 0, 1) := by decide +kernel
theorem dX9_isText_96 : decode cX9_isText 96 = .ok (.ireturn, 1) := by decide +kernel
set_option maxRecDepth 20000 in
theorem ggX9_text_X9_isText : GoodIn wsX9_text wsX9_isText := goodIn_r _ [9, 10, 4, 11, 12, 13, 14, 8, 15, 1, 16, 2, 17, 18, 19, 20, 21, 22, 23, 24, 25, 26, 27, 28, 29, 30, 31, 32, 33, 34, 35, 36, 37, 38, 39, 40, 41, 42, 43, 44, 45, 46, 47, 48, 3, 49, 50, 51, 52, 59, 60, 61, 62, 63, 64, 65, 66, 67, 68, 69, 70, 71, 72, 73, 74, 75, 76, 77, 78, 79, 80, 81, 82] (by decide +kernel) (by decide +kernel)
set_option maxRecDepth 20000 in
theorem gX9_text_X9_isText : GoodIn wsX9_text (wsV RX9 114 RX9 yX9_isText wsX9_isText) := goodIn_app (goodIn_of _ (by decide +kernel)) ggX9_text_X9_isText
set_option maxRecDepth 20000 in
theorem ggX9_text_X9_does : GoodIn wsX9_text wsX9_does := goodIn_r _ [56, 57, 58, 59, 60, 61, 62, 63, 64, 65, 66, 67, 68, 69, 70, 71, 72, 73, 74, 75, 76, 77, 78, 79, 80, 81, 82] (by decide +kernel) (by decide +kernel)
set_option maxRecDepth 20000 in
theorem gX9_text_X9_does : GoodIn wsX9_text (wsV RX9 117 RX9 yX9_does wsX9_does) := goodIn_app (goodIn_of _ (by decide +kernel)) ggX9_text_X9_does
theorem dX9_text_0 : decode cX9_text 0 = .ok (.aload_n 0, 1) := by decide +kernel
theorem dX9_text_1 : decode cX9_text 1 = .ok (.invokevirtual 114, 3) := by decide +kernel
theorem dX9_text_4 : decode cX9_text 4 = .ok (.istore_n 1, 1) := by decide +kernel
theorem dX9_text_5 : decode cX9_text 5 = .ok (.aload_n 0, 1) := by decide +kernel
theorem dX9_text_6 : decode cX9_text 6 = .ok (.iconst 0, 1) := by decide +kernel
theorem dX9_text_7 : decode cX9_text 7 = .ok (.putfield 73, 3) := by decide +kernel
theorem dX9_text_10 : decode cX9_text 10 = .ok (.iload_n 1, 1) := by decide +kernel
theorem dX9_text_11 : decode cX9_text 11 = .ok (.ifCond .ne 11, 3) := by decide +kernel
theorem dX9_text_14 : decode cX9_text 14 = .ok (.bipush (-100), 2) := by decide +kernel
theorem dX9_text_16 : decode cX9_text 16 = .ok (.aload_n 0, 1) := by decide +kernel
theorem dX9_text_17 : decode cX9_text 17 = .ok (.getfield 79, 3) := by decide +kernel
theorem dX9_text_20 : decode cX9_text 20 = .ok (.isub, 1) := by decide +kernel
theorem dX9_text_21 : decode cX9_text 21 = .ok (.ireturn, 1) := by decide +kernel
theorem dX9_text_22 : decode cX9_text 22 = .ok (.aload_n 0, 1) := by decide +kernel
theorem dX9_text_23 : decode cX9_text 23 = .ok (.getfield 9, 3) := by decide +kernel
theorem dX9_text_26 : decode cX9_text 26 = .ok (.iconst 0, 1) := by decide +kernel
theorem dX9_text_27 : decode cX9_text 27 = .ok (.iaload, 1) := by decide +kernel
theorem dX9_text_28 : decode cX9_text 28 = .ok (.bipush 12, 2) := by decide +kernel
theorem dX9_text_30 : decode cX9_text 30 = .ok (.if_icmp .ne 6, 3) := by decide +kernel
theorem dX9_text_33 : decode cX9_text 33 = .ok (.bipush (-4), 2) := by decide +kernel
theorem dX9_text_35 : decode cX9_text 35 = .ok (.ireturn, 1) := by decide +kernel
theorem dX9_text_36 : decode cX9_text 36 = .ok (.iconst 0, 1) := by decide +kernel
theorem dX9_text_37 : decode cX9_text 37 = .ok (.istore_n 2, 1) := by decide +kernel
theorem dX9_text_38 : decode cX9_text 38 = .ok (.iload_n 2, 1) := by decide +kernel
theorem dX9_text_39 : decode cX9_text 39 = .ok (.iconst 4, 1) := by decide +kernel
theorem dX9_text_40 : decode cX9_text 40 = .ok (.if_icmp .ge 32, 3) := by decide +kernel
theorem dX9_text_43 : decode cX9_text 43 = .ok (.aload_n 0, 1) := by decide +kernel
theorem dX9_text_44 : decode cX9_text 44 = .ok (.getfield 9, 3) := by decide +kernel
theorem dX9_text_47 : decode cX9_text 47 = .ok (.iconst 2, 1) := by decide +kernel
theorem dX9_text_48 : decode cX9_text 48 = .ok (.iconst 4, 1) := by decide +kernel
theorem dX9_text_49 : decode cX9_text 49 = .ok (.aload_n 0, 1) := by decide +kernel
theorem dX9_text_50 : decode cX9_text 50 = .ok (.getfield 9, 3) := by decide +kernel
theorem dX9_text_53 : decode cX9_text 53 = .ok (.iconst 0, 1) := by decide +kernel
theorem dX9_text_54 : decode cX9_text 54 = .ok (.iaload, 1) := by decide +kernel
theorem dX9_text_55 : decode cX9_text 55 = .ok (.imul, 1) := by decide +kernel
theorem dX9_text_56 : decode cX9_text 56 = .ok (.iadd, 1) := by decide +kernel
theorem dX9_text_57 : decode cX9_text 57 = .ok (.iload_n 2, 1) := by decide +kernel
theorem dX9_text_58 : decode cX9_text 58 = .ok (.iadd, 1) := by decide +kernel
theorem dX9_text_59 : decode cX9_text 59 = .ok (.aload_n 0, 1) := by decide +kernel
theorem dX9_text_60 : decode cX9_text 60 = .ok (.getfield 26, 3) := by decide +kernel
theorem dX9_text_63 : decode cX9_text 63 = .ok (.iload_n 2, 1) := by decide +kernel
theorem dX9_text_64 : decode cX9_text 64 = .ok (.iaload, 1) := by decide +kernel
theorem dX9_text_65 : decode cX9_text 65 = .ok (.iastore, 1) := by decide +kernel
theorem dX9_text_66 : decode cX9_text 66 = .ok (.iinc 2 1, 3) := by decide +kernel
theorem dX9_text_69 : decode cX9_text 69 = .ok (.goto (-31), 3) := by decide +kernel
theorem dX9_text_72 : decode cX9_text 72 = .ok (.aload_n 0, 1) := by decide +kernel
theorem dX9_text_73 : decode cX9_text 73 = .ok (.getfield 9, 3) := by decide +kernel
theorem dX9_text_76 : decode cX9_text 76 = .ok (.iconst 0, 1) := by decide +kernel
theorem dX9_text_77 : decode cX9_text 77 = .ok (.dup2, 1) := by decide +kernel
theorem dX9_text_78 : decode cX9_text 78 = .ok (.iaload, 1) := by decide +kernel
theorem dX9_text_79 : decode cX9_text 79 = .ok (.iconst 1, 1) := by decide +kernel
theorem dX9_text_80 : decode cX9_text 80 = .ok (.iadd, 1) := by decide +kernel
theorem dX9_text_81 : decode cX9_text 81 = .ok (.iastore, 1) := by decide +kernel
theorem dX9_text_82 : decode cX9_text 82 = .ok (.aload_n 0, 1) := by decide +kernel
theorem dX9_text_83 : decode cX9_text 83 = .ok (.iconst 0, 1) := by decide +kernel
theorem dX9_text_84 : decode cX9_text 84 = .ok (.iconst 0, 1) := by decide +kernel
theorem dX9_text_85 : decode cX9_text 85 = .ok (.iconst 0, 1) := by decide +kernel
theorem dX9_text_86 : decode cX9_text 86 = .ok (.iconst 0, 1) := by decide +kernel
theorem dX9_text_87 : decode cX9_text 87 = .ok (.invokevirtual 117, 3) := by decide +kernel
theorem dX9_text_90 : decode cX9_text 90 = .ok (.aload_n 0, 1) := by decide +kernel
theorem dX9_text_91 : decode cX9_text 91 = .ok (.getfield 9, 3) := by decide +kernel
theorem dX9_text_94 : decode cX9_text 94 = .ok (.iconst 0, 1) := by decide +kernel
theorem dX9_text_95 : decode cX9_text 95 = .ok (.iaload, 1) := by decide +kernel
theorem dX9_text_96 : decode cX9_text 96 = .ok (.iconst 1, 1) := by decide +kernel
theorem dX9_text_97 : decode cX9_text 97 = .ok (.isub, 1) := by decide +kernel
theorem dX9_text_98 : decode cX9_text 98 = .ok (.ireturn, 1) := by decide +kernel
set_option maxRecDepth 20000 in
theorem ggX9_delay_X9_isGate : GoodIn wsX9_delay wsX9_isGate := goodIn_r _ [5, 6, 7, 8, 4, 9, 24, 25, 26, 27, 28, 29, 30, 31, 32, 33, 34, 35, 36, 37, 38, 39, 40, 41, 42, 43, 44, 45, 46, 47] (by decide +kernel) (by decide +kernel)
set_option maxRecDepth 20000 in
theorem gX9_delay_X9_isGate : GoodIn wsX9_delay (wsV RX9 101 RX9 yX9_isGate wsX9_isGate) := goodIn_app (goodIn_of _ (by decide +kernel)) ggX9_delay_X9_isGate
set_option maxRecDepth 20000 in
theorem ggX9_delay_X9_isIn : GoodIn wsX9_delay wsX9_isIn := goodIn_r _ [9] (by decide +kernel) (by decide +kernel)
set_option maxRecDepth 20000 in
theorem gX9_delay_X9_isIn : GoodIn wsX9_delay (va_wsS RX9 57 yX9_isIn wsX9_isIn) := goodIn_app (goodIn_of _ (by decide +kernel)) ggX9_delay_X9_isIn
set_option maxRecDepth 20000 in
theorem ggX9_delay_X9_sets : GoodIn wsX9_delay wsX9_sets := goodIn_r _ [13, 6, 14, 15, 16, 4, 17, 24, 25, 26, 27, 28, 29, 30, 31, 32, 33, 34, 35, 36, 37, 38, 39, 40, 41, 42, 43, 44, 45, 46, 47] (by decide +kernel) (by decide +kernel)
set_option maxRecDepth 20000 in
theorem gX9_delay_X9_sets : GoodIn wsX9_delay (wsV RX9 121 RX9 yX9_sets wsX9_sets) := goodIn_app (goodIn_of _ (by decide +kernel)) ggX9_delay_X9_sets
set_option maxRecDepth 20000 in
theorem ggX9_delay_X9_does : GoodIn wsX9_delay wsX9_does := goodIn_r _ [21, 22, 23, 24, 25, 26, 27, 28, 29, 30, 31, 32, 33, 34, 35, 36, 37, 38, 39, 40, 41, 42, 43, 44, 45, 46, 47] (by decide +kernel) (by decide +kernel)
set_option maxRecDepth 20000 in
theorem gX9_delay_X9_does : GoodIn wsX9_delay (wsV RX9 117 RX9 yX9_does wsX9_does) := goodIn_app (goodIn_of _ (by decide +kernel)) ggX9_delay_X9_does
theorem dX9_delay_0 : decode cX9_delay 0 = .ok (.aload_n 0, 1) := by decide +kernel
theorem dX9_delay_1 : decode cX9_delay 1 = .ok (.iload_n 1, 1) := by decide +kernel
theorem dX9_delay_2 : decode cX9_delay 2 = .ok (.invokevirtual 101, 3) := by decide +kernel
theorem dX9_delay_5 : decode cX9_delay 5 = .ok (.ifCond .eq 13, 3) := by decide +kernel
theorem dX9_delay_8 : decode cX9_delay 8 = .ok (.iload_n 2, 1) := by decide +kernel
theorem dX9_delay_9 : decode cX9_delay 9 = .ok (.iconst 1, 1) := by decide +kernel
theorem dX9_delay_10 : decode cX9_delay 10 = .ok (.bipush 9, 2) := by decide +kernel
theorem dX9_delay_12 : decode cX9_delay 12 = .ok (.invokestatic 57, 3) := by decide +kernel
theorem dX9_delay_15 : decode cX9_delay 15 = .ok (.ifCond .ne 6, 3) := by decide +kernel
theorem dX9_delay_18 : decode cX9_delay 18 = .ok (.bipush (-2), 2) := by decide +kernel
theorem dX9_delay_20 : decode cX9_delay 20 = .ok (.ireturn, 1) := by decide +kernel
theorem dX9_delay_21 : decode cX9_delay 21 = .ok (.aload_n 0, 1) := by decide +kernel
theorem dX9_delay_22 : decode cX9_delay 22 = .ok (.iload_n 1, 1) := by decide +kernel
theorem dX9_delay_23 : decode cX9_delay 23 = .ok (.iconst 3, 1) := by decide +kernel
theorem dX9_delay_24 : decode cX9_delay 24 = .ok (.iload_n 2, 1) := by decide +kernel
theorem dX9_delay_25 : decode cX9_delay 25 = .ok (.invokevirtual 121, 3) := by decide +kernel
theorem dX9_delay_28 : decode cX9_delay 28 = .ok (.istore_n 3, 1) := by decide +kernel
theorem dX9_delay_29 : decode cX9_delay 29 = .ok (.aload_n 0, 1) := by decide +kernel
theorem dX9_delay_30 : decode cX9_delay 30 = .ok (.iconst 1, 1) := by decide +kernel
theorem dX9_delay_31 : decode cX9_delay 31 = .ok (.iload_n 1, 1) := by decide +kernel
theorem dX9_delay_32 : decode cX9_delay 32 = .ok (.iload_n 3, 1) := by decide +kernel
theorem dX9_delay_33 : decode cX9_delay 33 = .ok (.iconst 0, 1) := by decide +kernel
theorem dX9_delay_34 : decode cX9_delay 34 = .ok (.invokevirtual 117, 3) := by decide +kernel
theorem dX9_delay_37 : decode cX9_delay 37 = .ok (.iload_n 3, 1) := by decide +kernel
theorem dX9_delay_38 : decode cX9_delay 38 = .ok (.ireturn, 1) := by decide +kernel
theorem dX9_drop_0 : decode cX9_drop 0 = .ok (.aload_n 0, 1) := by decide +kernel
theorem dX9_drop_1 : decode cX9_drop 1 = .ok (.getfield 9, 3) := by decide +kernel
theorem dX9_drop_4 : decode cX9_drop 4 = .ok (.iconst 0, 1) := by decide +kernel
theorem dX9_drop_5 : decode cX9_drop 5 = .ok (.iaload, 1) := by decide +kernel
theorem dX9_drop_6 : decode cX9_drop 6 = .ok (.ifCond .ne 6, 3) := by decide +kernel
