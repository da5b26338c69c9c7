theorem dX9_drop_9 : decode cX9_drop 9 = .ok (.bipush (-3), 2) := by decide +kernel
theorem dX9_drop_11 : decode cX9_drop 11 = .ok (.ireturn, 1) := by decide +kernel
theorem dX9_drop_12 : decode cX9_drop 12 = .ok (.aload_n 0, 1) := by decide +kernel
theorem dX9_drop_13 : decode cX9_drop 13 = .ok (.getfield 9, 3) := by decide +kernel
theorem dX9_drop_16 : decode cX9_drop 16 = .ok (.iconst 0, 1) := by decide +kernel
theorem dX9_drop_17 : decode cX9_drop 17 = .ok (.dup2, 1) := by decide +kernel
theorem dX9_drop_18 : decode cX9_drop 18 = .ok (.iaload, 1) := by decide +kernel
theorem dX9_drop_19 : decode cX9_drop 19 = .ok (.iconst 1, 1) := by decide +kernel
theorem dX9_drop_20 : decode cX9_drop 20 = .ok (.isub, 1) := by decide +kernel
theorem dX9_drop_21 : decode cX9_drop 21 = .ok (.iastore, 1) := by decide +kernel
theorem dX9_drop_22 : decode cX9_drop 22 = .ok (.aload_n 0, 1) := by decide +kernel
theorem dX9_drop_23 : decode cX9_drop 23 = .ok (.iconst 0, 1) := by decide +kernel
theorem dX9_drop_24 : decode cX9_drop 24 = .ok (.putfield 61, 3) := by decide +kernel
theorem dX9_drop_27 : decode cX9_drop 27 = .ok (.aload_n 0, 1) := by decide +kernel
theorem dX9_drop_28 : decode cX9_drop 28 = .ok (.getfield 9, 3) := by decide +kernel
theorem dX9_drop_31 : decode cX9_drop 31 = .ok (.iconst 0, 1) := by decide +kernel
theorem dX9_drop_32 : decode cX9_drop 32 = .ok (.iaload, 1) := by decide +kernel
theorem dX9_drop_33 : decode cX9_drop 33 = .ok (.ireturn, 1) := by decide +kernel
set_option maxRecDepth 20000 in
theorem ggX9_pathOf_X9_of : GoodIn wsX9_pathOf wsX9_of := goodIn_r _ [5, 6, 10, 11, 12, 13, 14, 15, 16, 17, 18, 19, 20, 21, 22, 23, 24, 25, 26, 27, 28, 29, 30, 31, 32, 33] (by decide +kernel) (by decide +kernel)
set_option maxRecDepth 20000 in
theorem gX9_pathOf_X9_of : GoodIn wsX9_pathOf (wsV RX9 53 RX9 yX9_of wsX9_of) := goodIn_app (goodIn_of _ (by decide +kernel)) ggX9_pathOf_X9_of
set_option maxRecDepth 20000 in
theorem ggX9_pathOf_X9_pathOf : GoodIn wsX9_pathOf wsX9_pathOf := goodIn_r _ [0, 1, 2, 3, 4, 5, 6, 7, 8, 9, 10, 11, 12, 13, 14, 15, 16, 17, 18, 19, 20, 21, 22, 23, 24, 25, 26, 27, 28, 29, 30, 31, 32, 33] (by decide +kernel) (by decide +kernel)
set_option maxRecDepth 20000 in
theorem gX9_pathOf_X9_pathOf : GoodIn wsX9_pathOf (wsV RX9 125 RX9 yX9_pathOf wsX9_pathOf) := goodIn_app (goodIn_of _ (by decide +kernel)) ggX9_pathOf_X9_pathOf
theorem dX9_pathOf_0 : decode cX9_pathOf 0 = .ok (.iload_n 1, 1) := by decide +kernel
theorem dX9_pathOf_1 : decode cX9_pathOf 1 = .ok (.ifCond .ge 5, 3) := by decide +kernel
theorem dX9_pathOf_4 : decode cX9_pathOf 4 = .ok (.iconst 0, 1) := by decide +kernel
theorem dX9_pathOf_5 : decode cX9_pathOf 5 = .ok (.ireturn, 1) := by decide +kernel
theorem dX9_pathOf_6 : decode cX9_pathOf 6 = .ok (.aload_n 0, 1) := by decide +kernel
theorem dX9_pathOf_7 : decode cX9_pathOf 7 = .ok (.aload_n 0, 1) := by decide +kernel
theorem dX9_pathOf_8 : decode cX9_pathOf 8 = .ok (.iload_n 1, 1) := by decide +kernel
theorem dX9_pathOf_9 : decode cX9_pathOf 9 = .ok (.iconst 1, 1) := by decide +kernel
theorem dX9_pathOf_10 : decode cX9_pathOf 10 = .ok (.invokevirtual 53, 3) := by decide +kernel
theorem dX9_pathOf_13 : decode cX9_pathOf 13 = .ok (.invokevirtual 125, 3) := by decide +kernel
theorem dX9_pathOf_16 : decode cX9_pathOf 16 = .ok (.istore_n 2, 1) := by decide +kernel
theorem dX9_pathOf_17 : decode cX9_pathOf 17 = .ok (.aload_n 0, 1) := by decide +kernel
theorem dX9_pathOf_18 : decode cX9_pathOf 18 = .ok (.aload_n 0, 1) := by decide +kernel
theorem dX9_pathOf_19 : decode cX9_pathOf 19 = .ok (.iload_n 1, 1) := by decide +kernel
theorem dX9_pathOf_20 : decode cX9_pathOf 20 = .ok (.iconst 2, 1) := by decide +kernel
theorem dX9_pathOf_21 : decode cX9_pathOf 21 = .ok (.invokevirtual 53, 3) := by decide +kernel
theorem dX9_pathOf_24 : decode cX9_pathOf 24 = .ok (.invokevirtual 125, 3) := by decide +kernel
theorem dX9_pathOf_27 : decode cX9_pathOf 27 = .ok (.istore_n 3, 1) := by decide +kernel
theorem dX9_pathOf_28 : decode cX9_pathOf 28 = .ok (.aload_n 0, 1) := by decide +kernel
theorem dX9_pathOf_29 : decode cX9_pathOf 29 = .ok (.iload_n 1, 1) := by decide +kernel
theorem dX9_pathOf_30 : decode cX9_pathOf 30 = .ok (.iconst 3, 1) := by decide +kernel
theorem dX9_pathOf_31 : decode cX9_pathOf 31 = .ok (.invokevirtual 53, 3) := by decide +kernel
theorem dX9_pathOf_34 : decode cX9_pathOf 34 = .ok (.iload_n 2, 1) := by decide +kernel
theorem dX9_pathOf_35 : decode cX9_pathOf 35 = .ok (.iload_n 3, 1) := by decide +kernel
theorem dX9_pathOf_36 : decode cX9_pathOf 36 = .ok (.if_icmp .le 7, 3) := by decide +kernel
theorem dX9_pathOf_39 : decode cX9_pathOf 39 = .ok (.iload_n 2, 1) := by decide +kernel
theorem dX9_pathOf_40 : decode cX9_pathOf 40 = .ok (.goto 4, 3) := by decide +kernel
theorem dX9_pathOf_43 : decode cX9_pathOf 43 = .ok (.iload_n 3, 1) := by decide +kernel
theorem dX9_pathOf_44 : decode cX9_pathOf 44 = .ok (.iadd, 1) := by decide +kernel
theorem dX9_pathOf_45 : decode cX9_pathOf 45 = .ok (.ireturn, 1) := by decide +kernel
set_option maxRecDepth 20000 in
theorem ggX9_sourceOf_X9_of : GoodIn wsX9_sourceOf wsX9_of := goodIn_r _ [6, 1, 7, 8, 9, 10, 11, 12, 13, 14, 15, 16, 17, 18, 19, 20, 21, 22, 23, 24, 25, 26, 27, 28, 29, 30] (by decide +kernel) (by decide +kernel)
set_option maxRecDepth 20000 in
theorem gX9_sourceOf_X9_of : GoodIn wsX9_sourceOf (wsV RX9 53 RX9 yX9_of wsX9_of) := goodIn_app (goodIn_of _ (by decide +kernel)) ggX9_sourceOf_X9_of
theorem dX9_sourceOf_0 : decode cX9_sourceOf 0 = .ok (.iconst 0, 1) := by decide +kernel
theorem dX9_sourceOf_1 : decode cX9_sourceOf 1 = .ok (.istore_n 2, 1) := by decide +kernel
theorem dX9_sourceOf_2 : decode cX9_sourceOf 2 = .ok (.iconst 0, 1) := by decide +kernel
theorem dX9_sourceOf_3 : decode cX9_sourceOf 3 = .ok (.istore_n 3, 1) := by decide +kernel
theorem dX9_sourceOf_4 : decode cX9_sourceOf 4 = .ok (.iload_n 3, 1) := by decide +kernel
theorem dX9_sourceOf_5 : decode cX9_sourceOf 5 = .ok (.aload_n 0, 1) := by decide +kernel
theorem dX9_sourceOf_6 : decode cX9_sourceOf 6 = .ok (.getfield 9, 3) := by decide +kernel
theorem dX9_sourceOf_9 : decode cX9_sourceOf 9 = .ok (.iconst 0, 1) := by decide +kernel
theorem dX9_sourceOf_10 : decode cX9_sourceOf 10 = .ok (.iaload, 1) := by decide +kernel
theorem dX9_sourceOf_11 : decode cX9_sourceOf 11 = .ok (.if_icmp .ge 37, 3) := by decide +kernel
theorem dX9_sourceOf_14 : decode cX9_sourceOf 14 = .ok (.iload_n 2, 1) := by decide +kernel
theorem dX9_sourceOf_15 : decode cX9_sourceOf 15 = .ok (.aload_n 0, 1) := by decide +kernel
theorem dX9_sourceOf_16 : decode cX9_sourceOf 16 = .ok (.iload_n 3, 1) := by decide +kernel
theorem dX9_sourceOf_17 : decode cX9_sourceOf 17 = .ok (.iconst 1, 1) := by decide +kernel
theorem dX9_sourceOf_18 : decode cX9_sourceOf 18 = .ok (.invokevirtual 53, 3) := by decide +kernel
theorem dX9_sourceOf_21 : decode cX9_sourceOf 21 = .ok (.iload_n 1, 1) := by decide +kernel
theorem dX9_sourceOf_22 : decode cX9_sourceOf 22 = .ok (.if_icmp .eq 13, 3) := by decide +kernel
theorem dX9_sourceOf_25 : decode cX9_sourceOf 25 = .ok (.aload_n 0, 1) := by decide +kernel
theorem dX9_sourceOf_26 : decode cX9_sourceOf 26 = .ok (.iload_n 3, 1) := by decide +kernel
theorem dX9_sourceOf_27 : decode cX9_sourceOf 27 = .ok (.iconst 2, 1) := by decide +kernel
theorem dX9_sourceOf_28 : decode cX9_sourceOf 28 = .ok (.invokevirtual 53, 3) := by decide +kernel
theorem dX9_sourceOf_31 : decode cX9_sourceOf 31 = .ok (.iload_n 1, 1) := by decide +kernel
theorem dX9_sourceOf_32 : decode cX9_sourceOf 32 = .ok (.if_icmp .ne 7, 3) := by decide +kernel
theorem dX9_sourceOf_35 : decode cX9_sourceOf 35 = .ok (.iconst 1, 1) := by decide +kernel
theorem dX9_sourceOf_36 : decode cX9_sourceOf 36 = .ok (.goto 4, 3) := by decide +kernel
theorem dX9_sourceOf_39 : decode cX9_sourceOf 39 = .ok (.iconst 0, 1) := by decide +kernel
theorem dX9_sourceOf_40 : decode cX9_sourceOf 40 = .ok (.iadd, 1) := by decide +kernel
theorem dX9_sourceOf_41 : decode cX9_sourceOf 41 = .ok (.istore_n 2, 1) := by decide +kernel
theorem dX9_sourceOf_42 : decode cX9_sourceOf 42 = .ok (.iinc 3 1, 3) := by decide +kernel
theorem dX9_sourceOf_45 : decode cX9_sourceOf 45 = .ok (.goto (-41), 3) := by decide +kernel
theorem dX9_sourceOf_48 : decode cX9_sourceOf 48 = .ok (.iload_n 2, 1) := by decide +kernel
theorem dX9_sourceOf_49 : decode cX9_sourceOf 49 = .ok (.ireturn, 1) := by decide +kernel
set_option maxRecDepth 20000 in
theorem ggX9_gate_X9_isGate : GoodIn wsX9_gate wsX9_isGate := goodIn_r _ [5, 6, 7, 8, 4, 9, 22, 23, 24, 25, 26, 27, 28, 29, 30, 31, 32, 33, 34, 35, 36, 37, 38, 39, 40, 41, 42, 43, 44, 45] (by decide +kernel) (by decide +kernel)
set_option maxRecDepth 20000 in
theorem gX9_gate_X9_isGate : GoodIn wsX9_gate (wsV RX9 101 RX9 yX9_isGate wsX9_isGate) := goodIn_app (goodIn_of _ (by decide +kernel)) ggX9_gate_X9_isGate
set_option maxRecDepth 20000 in
theorem ggX9_gate_X9_isIn : GoodIn wsX9_gate wsX9_isIn := goodIn_r _ [9] (by decide +kernel) (by decide +kernel)
set_option maxRecDepth 20000 in
theorem gX9_gate_X9_isIn : GoodIn wsX9_gate (va_wsS RX9 57 yX9_isIn wsX9_isIn) := goodIn_app (goodIn_of _ (by decide +kernel)) ggX9_gate_X9_isIn
set_option maxRecDepth 20000 in
theorem ggX9_gate_X9_pathOf : GoodIn wsX9_gate wsX9_pathOf := goodIn_r _ [13, 14, 15, 16, 4, 17, 6, 10, 11, 12, 22, 23, 24, 25, 26, 27, 28, 29, 30, 31, 32, 33, 34, 35, 36, 37, 38, 39, 40, 41, 42, 43, 44, 45] (by decide +kernel) (by decide +kernel)
set_option maxRecDepth 20000 in
theorem gX9_gate_X9_pathOf : GoodIn wsX9_gate (wsV RX9 125 RX9 yX9_pathOf wsX9_pathOf) := goodIn_app (goodIn_of _ (by decide +kernel)) ggX9_gate_X9_pathOf
set_option maxRecDepth 20000 in
theorem ggX9_gate_X9_sourceOf : GoodIn wsX9_gate wsX9_sourceOf := goodIn_r _ [21, 6, 14, 15, 16, 4, 17, 22, 23, 24, 25, 26, 27, 28, 29, 30, 31, 32, 33, 34, 35, 36, 37, 38, 39, 40, 41, 42, 43, 44, 45] (by decide +kernel) (by decide +kernel)
set_option maxRecDepth 20000 in
theorem gX9_gate_X9_sourceOf : GoodIn wsX9_gate (wsV RX9 129 RX9 yX9_sourceOf wsX9_sourceOf) := goodIn_app (goodIn_of _ (by decide +kernel)) ggX9_gate_X9_sourceOf
set_option maxRecDepth 20000 in
theorem ggX9_gate_X9_of : GoodIn wsX9_gate wsX9_of := goodIn_r _ [17, 6, 22, 23, 24, 25, 26, 27, 28, 29, 30, 31, 32, 33, 34, 35, 36, 37, 38, 39, 40, 41, 42, 43, 44, 45] (by decide +kernel) (by decide +kernel)
set_option maxRecDepth 20000 in
theorem gX9_gate_X9_of : GoodIn wsX9_gate (wsV RX9 53 RX9 yX9_of wsX9_of) := goodIn_app (goodIn_of _ (by decide +kernel)) ggX9_gate_X9_of
theorem dX9_gate_0 : decode cX9_gate 0 = .ok (.aload_n 0, 1) := by decide +kernel
theorem dX9_gate_1 : decode cX9_gate 1 = .ok (.iload_n 1, 1) := by decide +kernel
theorem dX9_gate_2 : decode cX9_gate 2 = .ok (.invokevirtual 101, 3) := by decide +kernel
theorem dX9_gate_5 : decode cX9_gate 5 = .ok (.ifCond .eq 12, 3) := by decide +kernel
theorem dX9_gate_8 : decode cX9_gate 8 = .ok (.iload_n 2, 1) := by decide +kernel
theorem dX9_gate_9 : decode cX9_gate 9 = .ok (.iconst 0, 1) := by decide +kernel
theorem dX9_gate_10 : decode cX9_gate 10 = .ok (.iconst 5, 1) := by decide +kernel
theorem dX9_gate_11 : decode cX9_gate 11 = .ok (.invokestatic 57, 3) := by decide +kernel
theorem dX9_gate_14 : decode cX9_gate 14 = .ok (.ifCond .ne 6, 3) := by decide +kernel
theorem dX9_gate_17 : decode cX9_gate 17 = .ok (.bipush (-2), 2) := by decide +kernel
theorem dX9_gate_19 : decode cX9_gate 19 = .ok (.ireturn, 1) := by decide +kernel
theorem dX9_gate_20 : decode cX9_gate 20 = .ok (.iload_n 2, 1) := by decide +kernel
theorem dX9_gate_21 : decode cX9_gate 21 = .ok (.iconst 4, 1) := by decide +kernel
theorem dX9_gate_22 : decode cX9_gate 22 = .ok (.if_icmp .ne 11, 3) := by decide +kernel
theorem dX9_gate_25 : decode cX9_gate 25 = .ok (.aload_n 0, 1) := by decide +kernel
theorem dX9_gate_26 : decode cX9_gate 26 = .ok (.iload_n 1, 1) := by decide +kernel
theorem dX9_gate_27 : decode cX9_gate 27 = .ok (.invokevirtual 125, 3) := by decide +kernel
theorem dX9_gate_30 : decode cX9_gate 30 = .ok (.goto 22, 3) := by decide +kernel
theorem dX9_gate_33 : decode cX9_gate 33 = .ok (.iload_n 2, 1) := by decide +kernel
theorem dX9_gate_34 : decode cX9_gate 34 = .ok (.iconst 5, 1) := by decide +kernel
theorem dX9_gate_35 : decode cX9_gate 35 = .ok (.if_icmp .ne 11, 3) := by decide +kernel
theorem dX9_gate_38 : decode cX9_gate 38 = .ok (.aload_n 0, 1) := by decide +kernel
theorem dX9_gate_39 : decode cX9_gate 39 = .ok (.iload_n 1, 1) := by decide +kernel
theorem dX9_gate_40 : decode cX9_gate 40 = .ok (.invokevirtual 129, 3) := by decide +kernel
theorem dX9_gate_43 : decode cX9_gate 43 = .ok (.goto 9, 3) := by decide +kernel
theorem dX9_gate_46 : decode cX9_gate 46 = .ok (.aload_n 0, 1) := by decide +kernel
theorem dX9_gate_47 : decode cX9_gate 47 = .ok (.iload_n 1, 1) := by decide +kernel
theorem dX9_gate_48 : decode cX9_gate 48 = .ok (.iload_n 2, 1) := by decide +kernel
theorem dX9_gate_49 : decode cX9_gate 49 = .ok (.invokevirtual 53, 3) := by decide +kernel
theorem dX9_gate_52 : decode cX9_gate 52 = .ok (.ireturn, 1) := by decide +kernel
set_option maxRecDepth 20000 in
theorem ggX9_taken_X9_isGate : GoodIn wsX9_taken wsX9_isGate := goodIn_r _ [5, 6, 7, 8, 4, 9, 14, 15, 16, 17, 18, 19, 20, 21, 22, 23, 24, 25, 26, 27, 28, 29, 30, 31, 32, 33, 34, 35, 36, 37] (by decide +kernel) (by decide +kernel)
set_option maxRecDepth 20000 in
theorem gX9_taken_X9_isGate : GoodIn wsX9_taken (wsV RX9 101 RX9 yX9_isGate wsX9_isGate) := goodIn_app (goodIn_of _ (by decide +kernel)) ggX9_taken_X9_isGate
set_option maxRecDepth 20000 in
theorem ggX9_taken_X9_isIn : GoodIn wsX9_taken wsX9_isIn := goodIn_r _ [9] (by decide +kernel) (by decide +kernel)
set_option maxRecDepth 20000 in
theorem gX9_taken_X9_isIn : GoodIn wsX9_taken (va_wsS RX9 57 yX9_isIn wsX9_isIn) := goodIn_app (goodIn_of _ (by decide +kernel)) ggX9_taken_X9_isIn
set_option maxRecDepth 20000 in
theorem ggX9_taken_X9_of : GoodIn wsX9_taken wsX9_of := goodIn_r _ [13, 6, 14, 15, 16, 17, 18, 19, 20, 21, 22, 23, 24, 25, 26, 27, 28, 29, 30, 31, 32, 33, 34, 35, 36, 37] (by decide +kernel) (by decide +kernel)
set_option maxRecDepth 20000 in
theorem gX9_taken_X9_of : GoodIn wsX9_taken (wsV RX9 53 RX9 yX9_of wsX9_of) := goodIn_app (goodIn_of _ (by decide +kernel)) ggX9_taken_X9_of
theorem dX9_taken_0 : decode cX9_taken 0 = .ok (.aload_n 0, 1) := by decide +kernel
theorem dX9_taken_1 : decode cX9_taken 1 = .ok (.iload_n 1, 1) := by decide +kernel
theorem dX9_taken_2 : decode cX9_taken 2 = .ok (.invokevirtual 101, 3) := by decide +kernel
theorem dX9_taken_5 : decode cX9_taken 5 = .ok (.ifCond .eq 12, 3) := by decide +kernel
theorem dX9_taken_8 : decode cX9_taken 8 = .ok (.iload_n 2, 1) := by decide +kernel
theorem dX9_taken_9 : decode cX9_taken 9 = .ok (.iconst 0, 1) := by decide +kernel
theorem dX9_taken_10 : decode cX9_taken 10 = .ok (.iconst 5, 1) := by decide +kernel
theorem dX9_taken_11 : decode cX9_taken 11 = .ok (.invokestatic 57, 3) := by decide +kernel
theorem dX9_taken_14 : decode cX9_taken 14 = .ok (.ifCond .ne 6, 3) := by decide +kernel
theorem dX9_taken_17 : decode cX9_taken 17 = .ok (.bipush (-2), 2) := by decide +kernel
theorem dX9_taken_19 : decode cX9_taken 19 = .ok (.ireturn, 1) := by decide +kernel
theorem dX9_taken_20 : decode cX9_taken 20 = .ok (.aload_n 0, 1) := by decide +kernel
theorem dX9_taken_21 : decode cX9_taken 21 = .ok (.iload_n 1, 1) := by decide +kernel
theorem dX9_taken_22 : decode cX9_taken 22 = .ok (.iconst 0, 1) := by decide +kernel
theorem dX9_taken_23 : decode cX9_taken 23 = .ok (.invokevirtual 53, 3) := by decide +kernel
theorem dX9_taken_26 : decode cX9_taken 26 = .ok (.istore_n 3, 1) := by decide +kernel
theorem dX9_taken_27 : decode cX9_taken 27 = .ok (.iload_n 3, 1) := by decide +kernel
theorem dX9_taken_28 : decode cX9_taken 28 = .ok (.iload_n 2, 1) := by decide +kernel
theorem dX9_taken_29 : decode cX9_taken 29 = .ok (.if_icmp .eq 22, 3) := by decide +kernel
theorem dX9_taken_32 : decode cX9_taken 32 = .ok (.iload_n 3, 1) := by decide +kernel
theorem dX9_taken_33 : decode cX9_taken 33 = .ok (.iconst 1, 1) := by decide +kernel
theorem dX9_taken_34 : decode cX9_taken 34 = .ok (.if_icmp .ne 7, 3) := by decide +kernel
theorem dX9_taken_37 : decode cX9_taken 37 = .ok (.iload_n 2, 1) := by decide +kernel
theorem dX9_taken_38 : decode cX9_taken 38 = .ok (.ifCond .eq 13, 3) := by decide +kernel
theorem dX9_taken_41 : decode cX9_taken 41 = .ok (.iload_n 3, 1) := by decide +kernel
theorem dX9_taken_42 : decode cX9_taken 42 = .ok (.iconst 3, 1) := by decide +kernel
theorem dX9_taken_43 : decode cX9_taken 43 = .ok (.if_icmp .ne 12, 3) := by decide +kernel
theorem dX9_taken_46 : decode cX9_taken 46 = .ok (.iload_n 2, 1) := by decide +kernel
theorem dX9_taken_47 : decode cX9_taken 47 = .ok (.iconst 2, 1) := by decide +kernel
theorem dX9_taken_48 : decode cX9_taken 48 = .ok (.if_icmp .ne 7, 3) := by decide +kernel
theorem dX9_taken_51 : decode cX9_taken 51 = .ok (.iconst 1, 1) := by decide +kernel
theorem dX9_taken_52 : decode cX9_taken 52 = .ok (.goto 4, 3) := by decide +kernel
theorem dX9_taken_55 : decode cX9_taken 55 = .ok (.iconst 0, 1) := by decide +kernel
theorem dX9_taken_56 : decode cX9_taken 56 = .ok (.istore 4, 2) := by decide +kernel
theorem dX9_taken_58 : decode cX9_taken 58 = .ok (.iload 4, 2) := by decide +kernel
theorem dX9_taken_60 : decode cX9_taken 60 = .ok (.ifCond .eq 12, 3) := by decide +kernel
theorem dX9_taken_63 : decode cX9_taken 63 = .ok (.aload_n 0, 1) := by decide +kernel
theorem dX9_taken_64 : decode cX9_taken 64 = .ok (.iload_n 1, 1) := by decide +kernel
theorem dX9_taken_65 : decode cX9_taken 65 = .ok (.iconst 3, 1) := by decide +kernel
theorem dX9_taken_66 : decode cX9_taken 66 = .ok (.invokevirtual 53, 3) := by decide +kernel
theorem dX9_taken_69 : decode cX9_taken 69 = .ok (.goto 5, 3) := by decide +kernel
theorem dX9_taken_72 : decode cX9_taken 72 = .ok (.bipush (-13), 2) := by decide +kernel
theorem dX9_taken_74 : decode cX9_taken 74 = .ok (.ireturn, 1) := by decide +kernel
theorem dX9_told_0 : decode cX9_told 0 = .ok (.iload_n 0, 1) := by decide +kernel
theorem dX9_told_1 : decode cX9_told 1 = .ok (.tableswitch 59 0 4 #[35, 39, 45, 49, 55], 35) := by decide +kernel
theorem dX9_told_36 : decode cX9_told 36 = .ok (.iload_n 1, 1) := by decide +kernel
theorem dX9_told_37 : decode cX9_told 37 = .ok (.iload_n 2, 1) := by decide +kernel
theorem dX9_told_38 : decode cX9_told 38 = .ok (.iand, 1) := by decide +kernel
theorem dX9_told_39 : decode cX9_told 39 = .ok (.ireturn, 1) := by decide +kernel
theorem dX9_told_40 : decode cX9_told 40 = .ok (.iconst 1, 1) := by decide +kernel
theorem dX9_told_41 : decode cX9_told 41 = .ok (.iload_n 1, 1) := by decide +kernel
theorem dX9_told_42 : decode cX9_told 42 = .ok (.iload_n 2, 1) := by decide +kernel
theorem dX9_told_43 : decode cX9_told 43 = .ok (.iand, 1) := by decide +kernel
theorem dX9_told_44 : decode cX9_told 44 = .ok (.isub, 1) := by decide +kernel
theorem dX9_told_45 : decode cX9_told 45 = .ok (.ireturn, 1) := by decide +kernel
theorem dX9_told_46 : decode cX9_told 46 = .ok (.iload_n 1, 1) := by decide +kernel
theorem dX9_told_47 : decode cX9_told 47 = .ok (.iload_n 2, 1) := by decide +kernel
theorem dX9_told_48 : decode cX9_told 48 = .ok (.ior, 1) := by decide +kernel
theorem dX9_told_49 : decode cX9_told 49 = .ok (.ireturn, 1) := by decide +kernel
theorem dX9_told_50 : decode cX9_told 50 = .ok (.iconst 1, 1) := by decide +kernel
theorem dX9_told_51 : decode cX9_told 51 = .ok (.iload_n 1, 1) := by decide +kernel
theorem dX9_told_52 : decode cX9_told 52 = .ok (.iload_n 2, 1) := by decide +kernel
theorem dX9_told_53 : decode cX9_told 53 = .ok (.ior, 1) := by decide +kernel
theorem dX9_told_54 : decode cX9_told 54 = .ok (.isub, 1) := by decide +kernel
theorem dX9_told_55 : decode cX9_told 55 = .ok (.ireturn, 1) := by decide +kernel
theorem dX9_told_56 : decode cX9_told 56 = .ok (.iload_n 1, 1) := by decide +kernel
theorem dX9_told_57 : decode cX9_told 57 = .ok (.iload_n 2, 1) := by decide +kernel
theorem dX9_told_58 : decode cX9_told 58 = .ok (.ixor, 1) := by decide +kernel
theorem dX9_told_59 : decode cX9_told 59 = .ok (.ireturn, 1) := by decide +kernel
theorem dX9_told_60 : decode cX9_told 60 = .ok (.iconst 1, 1) := by decide +kernel
theorem dX9_told_61 : decode cX9_told 61 = .ok (.iload_n 1, 1) := by decide +kernel
theorem dX9_told_62 : decode cX9_told 62 = .ok (.isub, 1) := by decide +kernel
theorem dX9_told_63 : decode cX9_told 63 = .ok (.ireturn, 1) := by decide +kernel
theorem dX9_standsOf_0 : decode cX9_standsOf 0 = .ok (.iload_n 1, 1) := by decide +kernel
theorem dX9_standsOf_1 : decode cX9_standsOf 1 = .ok (.ifCond .ge 13, 3) := by decide +kernel
theorem dX9_standsOf_4 : decode cX9_standsOf 4 = .ok (.iload_n 2, 1) := by decide +kernel
theorem dX9_standsOf_5 : decode cX9_standsOf 5 = .ok (.iconst (-1), 1) := by decide +kernel
theorem dX9_standsOf_6 : decode cX9_standsOf 6 = .ok (.iload_n 1, 1) := by decide +kernel
theorem dX9_standsOf_7 : decode cX9_standsOf 7 = .ok (.isub, 1) := by decide +kernel
theorem dX9_standsOf_8 : decode cX9_standsOf 8 = .ok (.ishr, 1) := by decide +kernel
theorem dX9_standsOf_9 : decode cX9_standsOf 9 = .ok (.iconst 1, 1) := by decide +kernel
theorem dX9_standsOf_10 : decode cX9_standsOf 10 = .ok (.iand, 1) := by decide +kernel
theorem dX9_standsOf_11 : decode cX9_standsOf 11 = .ok (.goto 9, 3) := by decide +kernel
theorem dX9_standsOf_14 : decode cX9_standsOf 14 = .ok (.aload_n 0, 1) := by decide +kernel
theorem dX9_standsOf_15 : decode cX9_standsOf 15 = .ok (.getfield 29, 3) := by decide +kernel
theorem dX9_standsOf_18 : decode cX9_standsOf 18 = .ok (.iload_n 1, 1) := by decide +kernel
theorem dX9_standsOf_19 : decode cX9_standsOf 19 = .ok (.iaload, 1) := by decide +kernel
theorem dX9_standsOf_20 : decode cX9_standsOf 20 = .ok (.ireturn, 1) := by decide +kernel
set_option maxRecDepth 20000 in
theorem ggX9_standsAll_X9_of : GoodIn wsX9_standsAll wsX9_of := goodIn_r _ [7, 1, 15, 16, 17, 18, 19, 20, 21, 22, 23, 24, 25, 26, 27, 28, 29, 30, 31, 32, 33, 34, 35, 36, 37, 38] (by decide +kernel) (by decide +kernel)
set_option maxRecDepth 20000 in
theorem gX9_standsAll_X9_of : GoodIn wsX9_standsAll (wsV RX9 53 RX9 yX9_of wsX9_of) := goodIn_app (goodIn_of _ (by decide +kernel)) ggX9_standsAll_X9_of
set_option maxRecDepth 20000 in
theorem ggX9_standsAll_X9_standsOf : GoodIn wsX9_standsAll wsX9_standsOf := goodIn_r _ [11, 2, 15, 16, 17, 18, 19, 20, 21, 22, 23, 24, 25, 26, 27, 28, 29, 30, 31, 32, 33, 34, 35, 36, 37, 38] (by decide +kernel) (by decide +kernel)
set_option maxRecDepth 20000 in
theorem gX9_standsAll_X9_standsOf : GoodIn wsX9_standsAll (wsV RX9 132 RX9 yX9_standsOf wsX9_standsOf) := goodIn_app (goodIn_of _ (by decide +kernel)) ggX9_standsAll_X9_standsOf
set_option maxRecDepth 20000 in
theorem ggX9_standsAll_X9_told : GoodIn wsX9_standsAll wsX9_told := goodIn_r _ [14] (by decide +kernel) (by decide +kernel)
set_option maxRecDepth 20000 in
theorem gX9_standsAll_X9_told : GoodIn wsX9_standsAll (va_wsS RX9 135 yX9_told wsX9_told) := goodIn_app (goodIn_of _ (by decide +kernel)) ggX9_standsAll_X9_told
theorem dX9_standsAll_0 : decode cX9_standsAll 0 = .ok (.iconst 0, 1) := by decide +kernel
theorem dX9_standsAll_1 : decode cX9_standsAll 1 = .ok (.istore_n 2, 1) := by decide +kernel
theorem dX9_standsAll_2 : decode cX9_standsAll 2 = .ok (.iload_n 2, 1) := by decide +kernel
theorem dX9_standsAll_3 : decode cX9_standsAll 3 = .ok (.aload_n 0, 1) := by decide +kernel
theorem dX9_standsAll_4 : decode cX9_standsAll 4 = .ok (.getfield 9, 3) := by decide +kernel
theorem dX9_standsAll_7 : decode cX9_standsAll 7 = .ok (.iconst 0, 1) := by decide +kernel
theorem dX9_standsAll_8 : decode cX9_standsAll 8 = .ok (.iaload, 1) := by decide +kernel
theorem dX9_standsAll_9 : decode cX9_standsAll 9 = .ok (.if_icmp .ge 46, 3) := by decide +kernel
theorem dX9_standsAll_12 : decode cX9_standsAll 12 = .ok (.aload_n 0, 1) := by decide +kernel
theorem dX9_standsAll_13 : decode cX9_standsAll 13 = .ok (.getfield 29, 3) := by decide +kernel
theorem dX9_standsAll_16 : decode cX9_standsAll 16 = .ok (.iload_n 2, 1) := by decide +kernel
theorem dX9_standsAll_17 : decode cX9_standsAll 17 = .ok (.aload_n 0, 1) := by decide +kernel
theorem dX9_standsAll_18 : decode cX9_standsAll 18 = .ok (.iload_n 2, 1) := by decide +kernel
theorem dX9_standsAll_19 : decode cX9_standsAll 19 = .ok (.iconst 0, 1) := by decide +kernel
theorem dX9_standsAll_20 : decode cX9_standsAll 20 = .ok (.invokevirtual 53, 3) := by decide +kernel
theorem dX9_standsAll_23 : decode cX9_standsAll 23 = .ok (.aload_n 0, 1) := by decide +kernel
theorem dX9_standsAll_24 : decode cX9_standsAll 24 = .ok (.aload_n 0, 1) := by decide +kernel
theorem dX9_standsAll_25 : decode cX9_standsAll 25 = .ok (.iload_n 2, 1) := by decide +kernel
theorem dX9_standsAll_26 : decode cX9_standsAll 26 = .ok (.iconst 1, 1) := by decide +kernel
theorem dX9_standsAll_27 : decode cX9_standsAll 27 = .ok (.invokevirtual 53, 3) := by decide +kernel
theorem dX9_standsAll_30 : decode cX9_standsAll 30 = .ok (.iload_n 1, 1) := by decide +kernel
theorem dX9_standsAll_31 : decode cX9_standsAll 31 = .ok (.invokevirtual 132, 3) := by decide +kernel
theorem dX9_standsAll_34 : decode cX9_standsAll 34 = .ok (.aload_n 0, 1) := by decide +kernel
theorem dX9_standsAll_35 : decode cX9_standsAll 35 = .ok (.aload_n 0, 1) := by decide +kernel
theorem dX9_standsAll_36 : decode cX9_standsAll 36 = .ok (.iload_n 2, 1) := by decide +kernel
theorem dX9_standsAll_37 : decode cX9_standsAll 37 = .ok (.iconst 2, 1) := by decide +kernel
theorem dX9_standsAll_38 : decode cX9_standsAll 38 = .ok (.invokevirtual 53, 3) := by decide +kernel
theorem dX9_standsAll_41 : decode cX9_standsAll 41 = .ok (.iload_n 1, 1) := by decide +kernel
theorem dX9_standsAll_42 : decode cX9_standsAll 42 = .ok (.invokevirtual 132, 3) := by decide +kernel
theorem dX9_standsAll_45 : decode cX9_standsAll 45 = .ok (.invokestatic 135, 3) := by decide +kernel
theorem dX9_standsAll_48 : decode cX9_standsAll 48 = .ok (.iastore, 1) := by decide +kernel
theorem dX9_standsAll_49 : decode cX9_standsAll 49 = .ok (.iinc 2 1, 3) := by decide +kernel
theorem dX9_standsAll_52 : decode cX9_standsAll 52 = .ok (.goto (-50), 3) := by decide +kernel
theorem dX9_standsAll_55 : decode cX9_standsAll 55 = .ok (.return_, 1) := by decide +kernel
set_option maxRecDepth 20000 in
theorem ggX9_tells_X9_isGate : GoodIn wsX9_tells wsX9_isGate := goodIn_r _ [6, 7, 8, 9, 5, 10, 29, 30, 31, 32, 33, 34, 35, 36, 37, 38, 39, 40, 41, 42, 43, 44, 45, 46, 47, 48, 49, 50, 51, 52] (by decide +kernel) (by decide +kernel)
set_option maxRecDepth 20000 in
theorem gX9_tells_X9_isGate : GoodIn wsX9_tells (wsV RX9 101 RX9 yX9_isGate wsX9_isGate) := goodIn_app (goodIn_of _ (by decide +kernel)) ggX9_tells_X9_isGate
set_option maxRecDepth 20000 in
theorem ggX9_tells_X9_isStand : GoodIn wsX9_tells wsX9_isStand := goodIn_r _ [13, 8, 9, 5, 10] (by decide +kernel) (by decide +kernel)
set_option maxRecDepth 20000 in
theorem gX9_tells_X9_isStand : GoodIn wsX9_tells (va_wsS RX9 138 yX9_isStand wsX9_isStand) := goodIn_app (goodIn_of _ (by decide +kernel)) ggX9_tells_X9_isStand
set_option maxRecDepth 20000 in
theorem ggX9_tells_X9_standsAll : GoodIn wsX9_tells wsX9_standsAll := goodIn_r _ [17, 7, 1, 18, 19, 20, 5, 21, 22, 23, 24, 25, 26, 27, 28, 29, 30, 31, 32, 33, 34, 35, 36, 37, 38, 39, 40, 41, 42, 43, 44, 45, 46, 47, 48, 49, 50, 51, 52] (by decide +kernel) (by decide +kernel)
set_option maxRecDepth 20000 in
theorem gX9_tells_X9_standsAll : GoodIn wsX9_tells (wsV RX9 141 RX9 yX9_standsAll wsX9_standsAll) := goodIn_app (goodIn_of _ (by decide +kernel)) ggX9_tells_X9_standsAll
theorem dX9_tells_0 : decode cX9_tells 0 = .ok (.aload_n 0, 1) := by decide +kernel
theorem dX9_tells_1 : decode cX9_tells 1 = .ok (.iload_n 1, 1) := by decide +kernel
theorem dX9_tells_2 : decode cX9_tells 2 = .ok (.invokevirtual 101, 3) := by decide +kernel
theorem dX9_tells_5 : decode cX9_tells 5 = .ok (.ifCond .eq 10, 3) := by decide +kernel
theorem dX9_tells_8 : decode cX9_tells 8 = .ok (.iload_n 2, 1) := by decide +kernel
theorem dX9_tells_9 : decode cX9_tells 9 = .ok (.invokestatic 138, 3) := by decide +kernel
theorem dX9_tells_12 : decode cX9_tells 12 = .ok (.ifCond .ne 6, 3) := by decide +kernel
theorem dX9_tells_15 : decode cX9_tells 15 = .ok (.bipush (-2), 2) := by decide +kernel
theorem dX9_tells_17 : decode cX9_tells 17 = .ok (.ireturn, 1) := by decide +kernel
theorem dX9_tells_18 : decode cX9_tells 18 = .ok (.aload_n 0, 1) := by decide +kernel
theorem dX9_tells_19 : decode cX9_tells 19 = .ok (.iload_n 2, 1) := by decide +kernel
theorem dX9_tells_20 : decode cX9_tells 20 = .ok (.invokevirtual 141, 3) := by decide +kernel
theorem dX9_tells_23 : decode cX9_tells 23 = .ok (.aload_n 0, 1) := by decide +kernel
theorem dX9_tells_24 : decode cX9_tells 24 = .ok (.getfield 29, 3) := by decide +kernel
theorem dX9_tells_27 : decode cX9_tells 27 = .ok (.iload_n 1, 1) := by decide +kernel
theorem dX9_tells_28 : decode cX9_tells 28 = .ok (.iaload, 1) := by decide +kernel
theorem dX9_tells_29 : decode cX9_tells 29 = .ok (.ireturn, 1) := by decide +kernel
set_option maxRecDepth 20000 in
theorem ggX9_tableOf_X9_standsAll : GoodIn wsX9_tableOf wsX9_standsAll := goodIn_r _ [6, 7, 1, 8, 9, 10, 5, 11, 12, 13, 14, 15, 16, 17, 18, 23, 24, 25, 26, 27, 28, 29, 30, 31, 32, 33, 34, 35, 36, 37, 38, 39, 40, 41, 42, 43, 44, 45, 46] (by decide +kernel) (by decide +kernel)
set_option maxRecDepth 20000 in
theorem gX9_tableOf_X9_standsAll : GoodIn wsX9_tableOf (wsV RX9 141 RX9 yX9_standsAll wsX9_standsAll) := goodIn_app (goodIn_of _ (by decide +kernel)) ggX9_tableOf_X9_standsAll
set_option maxRecDepth 20000 in
theorem ggX9_tableOf_X9_output : GoodIn wsX9_tableOf wsX9_output := goodIn_r _ [22, 7, 23, 24, 25, 26, 27, 28, 29, 30, 31, 32, 33, 34, 35, 36, 37, 38, 39, 40, 41, 42, 43, 44, 45, 46] (by decide +kernel) (by decide +kernel)
set_option maxRecDepth 20000 in
theorem gX9_tableOf_X9_output : GoodIn wsX9_tableOf (wsV RX9 145 RX9 yX9_output wsX9_output) := goodIn_app (goodIn_of _ (by decide +kernel)) ggX9_tableOf_X9_output
theorem dX9_tableOf_0 : decode cX9_tableOf 0 = .ok (.iconst 0, 1) := by decide +kernel
theorem dX9_tableOf_1 : decode cX9_tableOf 1 = .ok (.istore_n 1, 1) := by decide +kernel
theorem dX9_tableOf_2 : decode cX9_tableOf 2 = .ok (.iconst 0, 1) := by decide +kernel
theorem dX9_tableOf_3 : decode cX9_tableOf 3 = .ok (.istore_n 2, 1) := by decide +kernel
theorem dX9_tableOf_4 : decode cX9_tableOf 4 = .ok (.iload_n 2, 1) := by decide +kernel
theorem dX9_tableOf_5 : decode cX9_tableOf 5 = .ok (.bipush 16, 2) := by decide +kernel
theorem dX9_tableOf_7 : decode cX9_tableOf 7 = .ok (.if_icmp .ge 28, 3) := by decide +kernel
theorem dX9_tableOf_10 : decode cX9_tableOf 10 = .ok (.aload_n 0, 1) := by decide +kernel
theorem dX9_tableOf_11 : decode cX9_tableOf 11 = .ok (.iload_n 2, 1) := by decide +kernel
theorem dX9_tableOf_12 : decode cX9_tableOf 12 = .ok (.invokevirtual 141, 3) := by decide +kernel
theorem dX9_tableOf_15 : decode cX9_tableOf 15 = .ok (.iload_n 1, 1) := by decide +kernel
theorem dX9_tableOf_16 : decode cX9_tableOf 16 = .ok (.aload_n 0, 1) := by decide +kernel
theorem dX9_tableOf_17 : decode cX9_tableOf 17 = .ok (.getfield 29, 3) := by decide +kernel
theorem dX9_tableOf_20 : decode cX9_tableOf 20 = .ok (.aload_n 0, 1) := by decide +kernel
theorem dX9_tableOf_21 : decode cX9_tableOf 21 = .ok (.invokevirtual 145, 3) := by decide +kernel
theorem dX9_tableOf_24 : decode cX9_tableOf 24 = .ok (.iaload, 1) := by decide +kernel
theorem dX9_tableOf_25 : decode cX9_tableOf 25 = .ok (.iload_n 2, 1) := by decide +kernel
theorem dX9_tableOf_26 : decode cX9_tableOf 26 = .ok (.ishl, 1) := by decide +kernel
theorem dX9_tableOf_27 : decode cX9_tableOf 27 = .ok (.ior, 1) := by decide +kernel
theorem dX9_tableOf_28 : decode cX9_tableOf 28 = .ok (.istore_n 1, 1) := by decide +kernel
theorem dX9_tableOf_29 : decode cX9_tableOf 29 = .ok (.iinc 2 1, 3) := by decide +kernel
theorem dX9_tableOf_32 : decode cX9_tableOf 32 = .ok (.goto (-28), 3) := by decide +kernel
theorem dX9_tableOf_35 : decode cX9_tableOf 35 = .ok (.iload_n 1, 1) := by decide +kernel
theorem dX9_tableOf_36 : decode cX9_tableOf 36 = .ok (.ireturn, 1) := by decide +kernel
set_option maxRecDepth 20000 in
theorem ggX9_table_X9_tableOf : GoodIn wsX9_table wsX9_tableOf := goodIn_r _ [6, 7, 8, 9, 10, 5, 11, 1, 12, 13, 14, 15, 16, 17, 18, 19, 20, 21, 22, 23, 24, 25, 26, 27, 28, 29, 30, 31, 32, 33, 34, 35, 36, 37, 38, 39, 40, 41, 42, 43, 44, 45, 46, 47, 48, 49, 50] (by decide +kernel) (by decide +kernel)
set_option maxRecDepth 20000 in
theorem gX9_table_X9_tableOf : GoodIn wsX9_table (wsV RX9 148 RX9 yX9_tableOf wsX9_tableOf) := goodIn_app (goodIn_of _ (by decide +kernel)) ggX9_table_X9_tableOf
theorem dX9_table_0 : decode cX9_table 0 = .ok (.aload_n 0, 1) := by decide +kernel
theorem dX9_table_1 : decode cX9_table 1 = .ok (.getfield 9, 3) := by decide +kernel
theorem dX9_table_4 : decode cX9_table 4 = .ok (.iconst 0, 1) := by decide +kernel
theorem dX9_table_5 : decode cX9_table 5 = .ok (.iaload, 1) := by decide +kernel
theorem dX9_table_6 : decode cX9_table 6 = .ok (.ifCond .ne 8, 3) := by decide +kernel
theorem dX9_table_9 : decode cX9_table 9 = .ok (.bipush (-3), 2) := by decide +kernel
theorem dX9_table_11 : decode cX9_table 11 = .ok (.goto 7, 3) := by decide +kernel
theorem dX9_table_14 : decode cX9_table 14 = .ok (.aload_n 0, 1) := by decide +kernel
theorem dX9_table_15 : decode cX9_table 15 = .ok (.invokevirtual 148, 3) := by decide +kernel
theorem dX9_table_18 : decode cX9_table 18 = .ok (.ireturn, 1) := by decide +kernel
theorem dX9_at_0 : decode cX9_at 0 = .ok (.iload_n 1, 1) := by decide +kernel
theorem dX9_at_1 : decode cX9_at 1 = .ok (.ifCond .ge 20, 3) := by decide +kernel
theorem dX9_at_4 : decode cX9_at 4 = .ok (.iload 4, 2) := by decide +kernel
theorem dX9_at_6 : decode cX9_at 6 = .ok (.ifCond .ge 7, 3) := by decide +kernel
theorem dX9_at_9 : decode cX9_at 9 = .ok (.iload_n 2, 1) := by decide +kernel
theorem dX9_at_10 : decode cX9_at 10 = .ok (.goto 4, 3) := by decide +kernel
theorem dX9_at_13 : decode cX9_at 13 = .ok (.iload_n 3, 1) := by decide +kernel
theorem dX9_at_14 : decode cX9_at 14 = .ok (.iconst (-1), 1) := by decide +kernel
theorem dX9_at_15 : decode cX9_at 15 = .ok (.iload_n 1, 1) := by decide +kernel
theorem dX9_at_16 : decode cX9_at 16 = .ok (.isub, 1) := by decide +kernel
theorem dX9_at_17 : decode cX9_at 17 = .ok (.ishr, 1) := by decide +kernel
theorem dX9_at_18 : decode cX9_at 18 = .ok (.iconst 1, 1) := by decide +kernel
theorem dX9_at_19 : decode cX9_at 19 = .ok (.iand, 1) := by decide +kernel
theorem dX9_at_20 : decode cX9_at 20 = .ok (.ireturn, 1) := by decide +kernel
theorem dX9_at_21 : decode cX9_at 21 = .ok (.iload 4, 2) := by decide +kernel
theorem dX9_at_23 : decode cX9_at 23 = .ok (.ifCond .ge 12, 3) := by decide +kernel
theorem dX9_at_26 : decode cX9_at 26 = .ok (.aload_n 0, 1) := by decide +kernel
theorem dX9_at_27 : decode cX9_at 27 = .ok (.getfield 29, 3) := by decide +kernel
theorem dX9_at_30 : decode cX9_at 30 = .ok (.iload_n 1, 1) := by decide +kernel
theorem dX9_at_31 : decode cX9_at 31 = .ok (.iaload, 1) := by decide +kernel
theorem dX9_at_32 : decode cX9_at 32 = .ok (.goto 15, 3) := by decide +kernel
theorem dX9_at_35 : decode cX9_at 35 = .ok (.aload_n 0, 1) := by decide +kernel
theorem dX9_at_36 : decode cX9_at 36 = .ok (.getfield 32, 3) := by decide +kernel
theorem dX9_at_39 : decode cX9_at 39 = .ok (.bipush 109, 2) := by decide +kernel
theorem dX9_at_41 : decode cX9_at 41 = .ok (.iload_n 1, 1) := by decide +kernel
theorem dX9_at_42 : decode cX9_at 42 = .ok (.imul, 1) := by decide +kernel
theorem dX9_at_43 : decode cX9_at 43 = .ok (.iload 4, 2) := by decide +kernel
theorem dX9_at_45 : decode cX9_at 45 = .ok (.iadd, 1) := by decide +kernel
theorem dX9_at_46 : decode cX9_at 46 = .ok (.iaload, 1) := by decide +kernel
theorem dX9_at_47 : decode cX9_at 47 = .ok (.ireturn, 1) := by decide +kernel
set_option maxRecDepth 20000 in
theorem ggX9_waves_X9_standsAll : GoodIn wsX9_waves wsX9_standsAll := goodIn_r _ [9, 1, 10, 11, 12, 13, 8, 14, 15, 16, 17, 18, 19, 20, 21, 34, 35, 36, 37, 38, 39, 40, 41, 42, 43, 44, 45, 46, 47, 48, 49, 50, 51, 52, 53, 54, 55, 56, 57] (by decide +kernel) (by decide +kernel)
set_option maxRecDepth 20000 in
theorem gX9_waves_X9_standsAll : GoodIn wsX9_waves (wsV RX9 141 RX9 yX9_standsAll wsX9_standsAll) := goodIn_app (goodIn_of _ (by decide +kernel)) ggX9_waves_X9_standsAll
set_option maxRecDepth 20000 in
theorem ggX9_waves_X9_of : GoodIn wsX9_waves wsX9_of := goodIn_r _ [14, 1, 34, 35, 36, 37, 38, 39, 40, 41, 42, 43, 44, 45, 46, 47, 48, 49, 50, 51, 52, 53, 54, 55, 56, 57] (by decide +kernel) (by decide +kernel)
set_option maxRecDepth 20000 in
theorem gX9_waves_X9_of : GoodIn wsX9_waves (wsV RX9 53 RX9 yX9_of wsX9_of) := goodIn_app (goodIn_of _ (by decide +kernel)) ggX9_waves_X9_of
set_option maxRecDepth 20000 in
theorem ggX9_waves_X9_at : GoodIn wsX9_waves wsX9_at := goodIn_r _ [25, 10, 2, 34, 35, 36, 37, 38, 39, 40, 41, 42, 43, 44, 45, 46, 47, 48, 49, 50, 51, 52, 53, 54, 55, 56, 57] (by decide +kernel) (by decide +kernel)
set_option maxRecDepth 20000 in
theorem gX9_waves_X9_at : GoodIn wsX9_waves (wsV RX9 151 RX9 yX9_at wsX9_at) := goodIn_app (goodIn_of _ (by decide +kernel)) ggX9_waves_X9_at
set_option maxRecDepth 20000 in
theorem ggX9_waves_X9_told : GoodIn wsX9_waves wsX9_told := goodIn_r _ [21] (by decide +kernel) (by decide +kernel)
set_option maxRecDepth 20000 in
theorem gX9_waves_X9_told : GoodIn wsX9_waves (va_wsS RX9 135 yX9_told wsX9_told) := goodIn_app (goodIn_of _ (by decide +kernel)) ggX9_waves_X9_told
set_option maxRecDepth 20000 in
theorem ggX9_waves_X9_outAt : GoodIn wsX9_waves wsX9_outAt := goodIn_r _ [29, 10, 2, 30, 31, 32, 8, 33, 1, 34, 35, 36, 37, 38, 39, 40, 41, 42, 43, 44, 45, 46, 47, 48, 49, 50, 51, 52, 53, 54, 55, 56, 57] (by decide +kernel) (by decide +kernel)
set_option maxRecDepth 20000 in
theorem gX9_waves_X9_outAt : GoodIn wsX9_waves (wsV RX9 160 RX9 yX9_outAt wsX9_outAt) := goodIn_app (goodIn_of _ (by decide +kernel)) ggX9_waves_X9_outAt
theorem dX9_waves_0 : decode cX9_waves 0 = .ok (.aload_n 0, 1) := by decide +kernel
theorem dX9_waves_1 : decode cX9_waves 1 = .ok (.iload_n 1, 1) := by decide +kernel
theorem dX9_waves_2 : decode cX9_waves 2 = .ok (.invokevirtual 141, 3) := by decide +kernel
theorem dX9_waves_5 : decode cX9_waves 5 = .ok (.iconst 0, 1) := by decide +kernel
theorem dX9_waves_6 : decode cX9_waves 6 = .ok (.istore_n 3, 1) := by decide +kernel
theorem dX9_waves_7 : decode cX9_waves 7 = .ok (.iload_n 3, 1) := by decide +kernel
theorem dX9_waves_8 : decode cX9_waves 8 = .ok (.aload_n 0, 1) := by decide +kernel
theorem dX9_waves_9 : decode cX9_waves 9 = .ok (.getfield 9, 3) := by decide +kernel
theorem dX9_waves_12 : decode cX9_waves 12 = .ok (.iconst 0, 1) := by decide +kernel
theorem dX9_waves_13 : decode cX9_waves 13 = .ok (.iaload, 1) := by decide +kernel
theorem dX9_waves_14 : decode cX9_waves 14 = .ok (.if_icmp .ge 88, 3) := by decide +kernel
theorem dX9_waves_17 : decode cX9_waves 17 = .ok (.aload_n 0, 1) := by decide +kernel
theorem dX9_waves_18 : decode cX9_waves 18 = .ok (.iload_n 3, 1) := by decide +kernel
theorem dX9_waves_19 : decode cX9_waves 19 = .ok (.iconst 3, 1) := by decide +kernel
theorem dX9_waves_20 : decode cX9_waves 20 = .ok (.invokevirtual 53, 3) := by decide +kernel
theorem dX9_waves_23 : decode cX9_waves 23 = .ok (.istore 4, 2) := by decide +kernel
theorem dX9_waves_25 : decode cX9_waves 25 = .ok (.iconst 0, 1) := by decide +kernel
theorem dX9_waves_26 : decode cX9_waves 26 = .ok (.istore 5, 2) := by decide +kernel
theorem dX9_waves_28 : decode cX9_waves 28 = .ok (.iload 5, 2) := by decide +kernel
theorem dX9_waves_30 : decode cX9_waves 30 = .ok (.bipush 109, 2) := by decide +kernel
theorem dX9_waves_32 : decode cX9_waves 32 = .ok (.if_icmp .ge 64, 3) := by decide +kernel
theorem dX9_waves_35 : decode cX9_waves 35 = .ok (.aload_n 0, 1) := by decide +kernel
theorem dX9_waves_36 : decode cX9_waves 36 = .ok (.getfield 32, 3) := by decide +kernel
theorem dX9_waves_39 : decode cX9_waves 39 = .ok (.bipush 109, 2) := by decide +kernel
theorem dX9_waves_41 : decode cX9_waves 41 = .ok (.iload_n 3, 1) := by decide +kernel
theorem dX9_waves_42 : decode cX9_waves 42 = .ok (.imul, 1) := by decide +kernel
theorem dX9_waves_43 : decode cX9_waves 43 = .ok (.iload 5, 2) := by decide +kernel
theorem dX9_waves_45 : decode cX9_waves 45 = .ok (.iadd, 1) := by decide +kernel
theorem dX9_waves_46 : decode cX9_waves 46 = .ok (.aload_n 0, 1) := by decide +kernel
theorem dX9_waves_47 : decode cX9_waves 47 = .ok (.iload_n 3, 1) := by decide +kernel
theorem dX9_waves_48 : decode cX9_waves 48 = .ok (.iconst 0, 1) := by decide +kernel
theorem dX9_waves_49 : decode cX9_waves 49 = .ok (.invokevirtual 53, 3) := by decide +kernel
theorem dX9_waves_52 : decode cX9_waves 52 = .ok (.aload_n 0, 1) := by decide +kernel
theorem dX9_waves_53 : decode cX9_waves 53 = .ok (.aload_n 0, 1) := by decide +kernel
theorem dX9_waves_54 : decode cX9_waves 54 = .ok (.iload_n 3, 1) := by decide +kernel
theorem dX9_waves_55 : decode cX9_waves 55 = .ok (.iconst 1, 1) := by decide +kernel
theorem dX9_waves_56 : decode cX9_waves 56 = .ok (.invokevirtual 53, 3) := by decide +kernel
theorem dX9_waves_59 : decode cX9_waves 59 = .ok (.iload_n 1, 1) := by decide +kernel
theorem dX9_waves_60 : decode cX9_waves 60 = .ok (.iload_n 2, 1) := by decide +kernel
theorem dX9_waves_61 : decode cX9_waves 61 = .ok (.iload 5, 2) := by decide +kernel
theorem dX9_waves_63 : decode cX9_waves 63 = .ok (.iload 4, 2) := by decide +kernel
theorem dX9_waves_65 : decode cX9_waves 65 = .ok (.isub, 1) := by decide +kernel
theorem dX9_waves_66 : decode cX9_waves 66 = .ok (.invokevirtual 151, 3) := by decide +kernel
theorem dX9_waves_69 : decode cX9_waves 69 = .ok (.aload_n 0, 1) := by decide +kernel
theorem dX9_waves_70 : decode cX9_waves 70 = .ok (.aload_n 0, 1) := by decide +kernel
theorem dX9_waves_71 : decode cX9_waves 71 = .ok (.iload_n 3, 1) := by decide +kernel
theorem dX9_waves_72 : decode cX9_waves 72 = .ok (.iconst 2, 1) := by decide +kernel
theorem dX9_waves_73 : decode cX9_waves 73 = .ok (.invokevirtual 53, 3) := by decide +kernel
theorem dX9_waves_76 : decode cX9_waves 76 = .ok (.iload_n 1, 1) := by decide +kernel
theorem dX9_waves_77 : decode cX9_waves 77 = .ok (.iload_n 2, 1) := by decide +kernel
theorem dX9_waves_78 : decode cX9_waves 78 = .ok (.iload 5, 2) := by decide +kernel
theorem dX9_waves_80 : decode cX9_waves 80 = .ok (.iload 4, 2) := by decide +kernel
theorem dX9_waves_82 : decode cX9_waves 82 = .ok (.isub, 1) := by decide +kernel
theorem dX9_waves_83 : decode cX9_waves 83 = .ok (.invokevirtual 151, 3) := by decide +kernel
theorem dX9_waves_86 : decode cX9_waves 86 = .ok (.invokestatic 135, 3) := by decide +kernel
theorem dX9_waves_89 : decode cX9_waves 89 = .ok (.iastore, 1) := by decide +kernel
theorem dX9_waves_90 : decode cX9_waves 90 = .ok (.iinc 5 1, 3) := by decide +kernel
theorem dX9_waves_93 : decode cX9_waves 93 = .ok (.goto (-65), 3) := by decide +kernel
theorem dX9_waves_96 : decode cX9_waves 96 = .ok (.iinc 3 1, 3) := by decide +kernel
theorem dX9_waves_99 : decode cX9_waves 99 = .ok (.goto (-92), 3) := by decide +kernel
theorem dX9_waves_102 : decode cX9_waves 102 = .ok (.aload_n 0, 1) := by decide +kernel
theorem dX9_waves_103 : decode cX9_waves 103 = .ok (.iconst 0, 1) := by decide +kernel
theorem dX9_waves_104 : decode cX9_waves 104 = .ok (.putfield 154, 3) := by decide +kernel
theorem dX9_waves_107 : decode cX9_waves 107 = .ok (.aload_n 0, 1) := by decide +kernel
theorem dX9_waves_108 : decode cX9_waves 108 = .ok (.iconst (-1), 1) := by decide +kernel
theorem dX9_waves_109 : decode cX9_waves 109 = .ok (.putfield 157, 3) := by decide +kernel
theorem dX9_waves_112 : decode cX9_waves 112 = .ok (.iconst 0, 1) := by decide +kernel
theorem dX9_waves_113 : decode cX9_waves 113 = .ok (.istore_n 3, 1) := by decide +kernel
theorem dX9_waves_114 : decode cX9_waves 114 = .ok (.iload_n 3, 1) := by decide +kernel
theorem dX9_waves_115 : decode cX9_waves 115 = .ok (.bipush 109, 2) := by decide +kernel
theorem dX9_waves_117 : decode cX9_waves 117 = .ok (.if_icmp .ge 42, 3) := by decide +kernel
theorem dX9_waves_120 : decode cX9_waves 120 = .ok (.aload_n 0, 1) := by decide +kernel
theorem dX9_waves_121 : decode cX9_waves 121 = .ok (.iload_n 3, 1) := by decide +kernel
theorem dX9_waves_122 : decode cX9_waves 122 = .ok (.invokevirtual 160, 3) := by decide +kernel
theorem dX9_waves_125 : decode cX9_waves 125 = .ok (.aload_n 0, 1) := by decide +kernel
theorem dX9_waves_126 : decode cX9_waves 126 = .ok (.iload_n 3, 1) := by decide +kernel
theorem dX9_waves_127 : decode cX9_waves 127 = .ok (.iconst 1, 1) := by decide +kernel
theorem dX9_waves_128 : decode cX9_waves 128 = .ok (.isub, 1) := by decide +kernel
theorem dX9_waves_129 : decode cX9_waves 129 = .ok (.invokevirtual 160, 3) := by decide +kernel
theorem dX9_waves_132 : decode cX9_waves 132 = .ok (.if_icmp .ne 6, 3) := by decide +kernel
theorem dX9_waves_135 : decode cX9_waves 135 = .ok (.goto 18, 3) := by decide +kernel
theorem dX9_waves_138 : decode cX9_waves 138 = .ok (.aload_n 0, 1) := by decide +kernel
theorem dX9_waves_139 : decode cX9_waves 139 = .ok (.dup, 1) := by decide +kernel
theorem dX9_waves_140 : decode cX9_waves 140 = .ok (.getfield 154, 3) := by decide +kernel
theorem dX9_waves_143 : decode cX9_waves 143 = .ok (.iconst 1, 1) := by decide +kernel
theorem dX9_waves_144 : decode cX9_waves 144 = .ok (.iadd, 1) := by decide +kernel
theorem dX9_waves_145 : decode cX9_waves 145 = .ok (.putfield 154, 3) := by decide +kernel
theorem dX9_waves_148 : decode cX9_waves 148 = .ok (.aload_n 0, 1) := by decide +kernel
theorem dX9_waves_149 : decode cX9_waves 149 = .ok (.iload_n 3, 1) := by decide +kernel
theorem dX9_waves_150 : decode cX9_waves 150 = .ok (.putfield 157, 3) := by decide +kernel
theorem dX9_waves_153 : decode cX9_waves 153 = .ok (.iinc 3 1, 3) := by decide +kernel
theorem dX9_waves_156 : decode cX9_waves 156 = .ok (.goto (-42), 3) := by decide +kernel
theorem dX9_waves_159 : decode cX9_waves 159 = .ok (.return_, 1) := by decide +kernel
set_option maxRecDepth 20000 in
theorem ggX9_outAt_X9_output : GoodIn wsX9_outAt wsX9_output := goodIn_r _ [7, 8, 9, 10, 11, 12, 13, 14, 15, 16, 17, 18, 19, 20, 21, 22, 23, 24, 25, 26, 27, 28, 29, 30, 31, 32] (by decide +kernel) (by decide +kernel)
set_option maxRecDepth 20000 in
theorem gX9_outAt_X9_output : GoodIn wsX9_outAt (wsV RX9 145 RX9 yX9_output wsX9_output) := goodIn_app (goodIn_of _ (by decide +kernel)) ggX9_outAt_X9_output
theorem dX9_outAt_0 : decode cX9_outAt 0 = .ok (.iload_n 1, 1) := by decide +kernel
theorem dX9_outAt_1 : decode cX9_outAt 1 = .ok (.ifCond .ge 15, 3) := by decide +kernel
theorem dX9_outAt_4 : decode cX9_outAt 4 = .ok (.aload_n 0, 1) := by decide +kernel
theorem dX9_outAt_5 : decode cX9_outAt 5 = .ok (.getfield 29, 3) := by decide +kernel
theorem dX9_outAt_8 : decode cX9_outAt 8 = .ok (.aload_n 0, 1) := by decide +kernel
theorem dX9_outAt_9 : decode cX9_outAt 9 = .ok (.invokevirtual 145, 3) := by decide +kernel
theorem dX9_outAt_12 : decode cX9_outAt 12 = .ok (.iaload, 1) := by decide +kernel
theorem dX9_outAt_13 : decode cX9_outAt 13 = .ok (.goto 17, 3) := by decide +kernel
theorem dX9_outAt_16 : decode cX9_outAt 16 = .ok (.aload_n 0, 1) := by decide +kernel
theorem dX9_outAt_17 : decode cX9_outAt 17 = .ok (.getfield 32, 3) := by decide +kernel
theorem dX9_outAt_20 : decode cX9_outAt 20 = .ok (.bipush 109, 2) := by decide +kernel
theorem dX9_outAt_22 : decode cX9_outAt 22 = .ok (.aload_n 0, 1) := by decide +kernel
theorem dX9_outAt_23 : decode cX9_outAt 23 = .ok (.invokevirtual 145, 3) := by decide +kernel
theorem dX9_outAt_26 : decode cX9_outAt 26 = .ok (.imul, 1) := by decide +kernel
theorem dX9_outAt_27 : decode cX9_outAt 27 = .ok (.iload_n 1, 1) := by decide +kernel
theorem dX9_outAt_28 : decode cX9_outAt 28 = .ok (.iadd, 1) := by decide +kernel
theorem dX9_outAt_29 : decode cX9_outAt 29 = .ok (.iaload, 1) := by decide +kernel
theorem dX9_outAt_30 : decode cX9_outAt 30 = .ok (.ireturn, 1) := by decide +kernel
set_option maxRecDepth 20000 in
theorem ggX9_glitch_X9_outAt : GoodIn wsX9_glitch wsX9_outAt := goodIn_r _ [6, 7, 8, 9, 10, 11, 5, 12, 13, 14, 15, 16, 17, 18, 19, 20, 21, 22, 23, 24, 25, 26, 27, 28, 29, 30, 31, 32, 33, 34, 35, 36, 37] (by decide +kernel) (by decide +kernel)
set_option maxRecDepth 20000 in
theorem gX9_glitch_X9_outAt : GoodIn wsX9_glitch (wsV RX9 160 RX9 yX9_outAt wsX9_outAt) := goodIn_app (goodIn_of _ (by decide +kernel)) ggX9_glitch_X9_outAt
theorem dX9_glitch_0 : decode cX9_glitch 0 = .ok (.aload_n 0, 1) := by decide +kernel
theorem dX9_glitch_1 : decode cX9_glitch 1 = .ok (.bipush 108, 2) := by decide +kernel
theorem dX9_glitch_3 : decode cX9_glitch 3 = .ok (.invokevirtual 160, 3) := by decide +kernel
theorem dX9_glitch_6 : decode cX9_glitch 6 = .ok (.aload_n 0, 1) := by decide +kernel
theorem dX9_glitch_7 : decode cX9_glitch 7 = .ok (.iconst (-1), 1) := by decide +kernel
theorem dX9_glitch_8 : decode cX9_glitch 8 = .ok (.invokevirtual 160, 3) := by decide +kernel
theorem dX9_glitch_11 : decode cX9_glitch 11 = .ok (.if_icmp .ne 7, 3) := by decide +kernel
theorem dX9_glitch_14 : decode cX9_glitch 14 = .ok (.iconst 1, 1) := by decide +kernel
theorem dX9_glitch_15 : decode cX9_glitch 15 = .ok (.goto 4, 3) := by decide +kernel
theorem dX9_glitch_18 : decode cX9_glitch 18 = .ok (.iconst 0, 1) := by decide +kernel
theorem dX9_glitch_19 : decode cX9_glitch 19 = .ok (.istore_n 1, 1) := by decide +kernel
theorem dX9_glitch_20 : decode cX9_glitch 20 = .ok (.iload_n 1, 1) := by decide +kernel
theorem dX9_glitch_21 : decode cX9_glitch 21 = .ok (.ifCond .eq 18, 3) := by decide +kernel
theorem dX9_glitch_24 : decode cX9_glitch 24 = .ok (.aload_n 0, 1) := by decide +kernel
theorem dX9_glitch_25 : decode cX9_glitch 25 = .ok (.getfield 154, 3) := by decide +kernel
theorem dX9_glitch_28 : decode cX9_glitch 28 = .ok (.ifCond .le 7, 3) := by decide +kernel
theorem dX9_glitch_31 : decode cX9_glitch 31 = .ok (.iconst 1, 1) := by decide +kernel
theorem dX9_glitch_32 : decode cX9_glitch 32 = .ok (.goto 20, 3) := by decide +kernel
theorem dX9_glitch_35 : decode cX9_glitch 35 = .ok (.iconst 0, 1) := by decide +kernel
theorem dX9_glitch_36 : decode cX9_glitch 36 = .ok (.goto 16, 3) := by decide +kernel
theorem dX9_glitch_39 : decode cX9_glitch 39 = .ok (.aload_n 0, 1) := by decide +kernel
theorem dX9_glitch_40 : decode cX9_glitch 40 = .ok (.getfield 154, 3) := by decide +kernel
theorem dX9_glitch_43 : decode cX9_glitch 43 = .ok (.iconst 1, 1) := by decide +kernel
theorem dX9_glitch_44 : decode cX9_glitch 44 = .ok (.if_icmp .le 7, 3) := by decide +kernel
theorem dX9_glitch_47 : decode cX9_glitch 47 = .ok (.iconst 2, 1) := by decide +kernel
theorem dX9_glitch_48 : decode cX9_glitch 48 = .ok (.goto 4, 3) := by decide +kernel
theorem dX9_glitch_51 : decode cX9_glitch 51 = .ok (.iconst 0, 1) := by decide +kernel
theorem dX9_glitch_52 : decode cX9_glitch 52 = .ok (.ireturn, 1) := by decide +kernel
set_option maxRecDepth 20000 in
theorem ggX9_isChange_X9_isStand : GoodIn wsX9_isChange wsX9_isStand := goodIn_r _ [4, 5, 6, 3, 7] (by decide +kernel) (by decide +kernel)
set_option maxRecDepth 20000 in
theorem gX9_isChange_X9_isStand : GoodIn wsX9_isChange (va_wsS RX9 138 yX9_isStand wsX9_isStand) := goodIn_app (goodIn_of _ (by decide +kernel)) ggX9_isChange_X9_isStand
theorem dX9_isChange_0 : decode cX9_isChange 0 = .ok (.iload_n 0, 1) := by decide +kernel
theorem dX9_isChange_1 : decode cX9_isChange 1 = .ok (.invokestatic 138, 3) := by decide +kernel
theorem dX9_isChange_4 : decode cX9_isChange 4 = .ok (.ifCond .eq 19, 3) := by decide +kernel
theorem dX9_isChange_7 : decode cX9_isChange 7 = .ok (.iload_n 1, 1) := by decide +kernel
theorem dX9_isChange_8 : decode cX9_isChange 8 = .ok (.invokestatic 138, 3) := by decide +kernel
theorem dX9_isChange_11 : decode cX9_isChange 11 = .ok (.ifCond .eq 12, 3) := by decide +kernel
theorem dX9_isChange_14 : decode cX9_isChange 14 = .ok (.iload_n 0, 1) := by decide +kernel
theorem dX9_isChange_15 : decode cX9_isChange 15 = .ok (.iload_n 1, 1) := by decide +kernel
theorem dX9_isChange_16 : decode cX9_isChange 16 = .ok (.if_icmp .eq 7, 3) := by decide +kernel
theorem dX9_isChange_19 : decode cX9_isChange 19 = .ok (.iconst 1, 1) := by decide +kernel
theorem dX9_isChange_20 : decode cX9_isChange 20 = .ok (.goto 4, 3) := by decide +kernel
theorem dX9_isChange_23 : decode cX9_isChange 23 = .ok (.iconst 0, 1) := by decide +kernel
theorem dX9_isChange_24 : decode cX9_isChange 24 = .ok (.ireturn, 1) := by decide +kernel
set_option maxRecDepth 20000 in
theorem ggX9_wave_X9_isChange : GoodIn wsX9_wave wsX9_isChange := goodIn_r _ [5, 6, 7, 4, 8, 9, 10, 11] (by decide +kernel) (by decide +kernel)
set_option maxRecDepth 20000 in
theorem gX9_wave_X9_isChange : GoodIn wsX9_wave (va_wsS RX9 163 yX9_isChange wsX9_isChange) := goodIn_app (goodIn_of _ (by decide +kernel)) ggX9_wave_X9_isChange
set_option maxRecDepth 20000 in
theorem ggX9_wave_X9_isIn : GoodIn wsX9_wave wsX9_isIn := goodIn_r _ [11] (by decide +kernel) (by decide +kernel)
set_option maxRecDepth 20000 in
theorem gX9_wave_X9_isIn : GoodIn wsX9_wave (va_wsS RX9 57 yX9_isIn wsX9_isIn) := goodIn_app (goodIn_of _ (by decide +kernel)) ggX9_wave_X9_isIn
set_option maxRecDepth 20000 in
theorem ggX9_wave_X9_waves : GoodIn wsX9_wave wsX9_waves := goodIn_r _ [15, 1, 16, 17, 18, 19, 20, 21, 4, 22, 23, 24, 25, 26, 27, 28, 29, 30, 31, 32, 33, 34, 35, 36, 37, 38, 39, 40, 41, 42, 43, 44, 45, 46, 47, 48, 49, 50, 51, 52, 53, 54, 55, 56, 57, 58, 59, 60, 61, 62, 63, 64, 65, 66, 67, 68, 69, 70] (by decide +kernel) (by decide +kernel)
set_option maxRecDepth 20000 in
theorem gX9_wave_X9_waves : GoodIn wsX9_wave (wsV RX9 167 RX9 yX9_waves wsX9_waves) := goodIn_app (goodIn_of _ (by decide +kernel)) ggX9_wave_X9_waves
set_option maxRecDepth 20000 in
theorem ggX9_wave_X9_outAt : GoodIn wsX9_wave wsX9_outAt := goodIn_r _ [42, 23, 16, 43, 44, 45, 4, 46, 1, 47, 48, 49, 50, 51, 52, 53, 54, 55, 56, 57, 58, 59, 60, 61, 62, 63, 64, 65, 66, 67, 68, 69, 70] (by decide +kernel) (by decide +kernel)
set_option maxRecDepth 20000 in
theorem gX9_wave_X9_outAt : GoodIn wsX9_wave (wsV RX9 160 RX9 yX9_outAt wsX9_outAt) := goodIn_app (goodIn_of _ (by decide +kernel)) ggX9_wave_X9_outAt
theorem dX9_wave_0 : decode cX9_wave 0 = .ok (.iload_n 1, 1) := by decide +kernel
theorem dX9_wave_1 : decode cX9_wave 1 = .ok (.iload_n 2, 1) := by decide +kernel
theorem dX9_wave_2 : decode cX9_wave 2 = .ok (.invokestatic 163, 3) := by decide +kernel
theorem dX9_wave_5 : decode cX9_wave 5 = .ok (.ifCond .eq 13, 3) := by decide +kernel
theorem dX9_wave_8 : decode cX9_wave 8 = .ok (.iload_n 3, 1) := by decide +kernel
theorem dX9_wave_9 : decode cX9_wave 9 = .ok (.iconst 0, 1) := by decide +kernel
theorem dX9_wave_10 : decode cX9_wave 10 = .ok (.bipush 108, 2) := by decide +kernel
theorem dX9_wave_12 : decode cX9_wave 12 = .ok (.invokestatic 57, 3) := by decide +kernel
theorem dX9_wave_15 : decode cX9_wave 15 = .ok (.ifCond .ne 6, 3) := by decide +kernel
theorem dX9_wave_18 : decode cX9_wave 18 = .ok (.bipush (-2), 2) := by decide +kernel
theorem dX9_wave_20 : decode cX9_wave 20 = .ok (.ireturn, 1) := by decide +kernel
theorem dX9_wave_21 : decode cX9_wave 21 = .ok (.aload_n 0, 1) := by decide +kernel
theorem dX9_wave_22 : decode cX9_wave 22 = .ok (.getfield 9, 3) := by decide +kernel
theorem dX9_wave_25 : decode cX9_wave 25 = .ok (.iconst 0, 1) := by decide +kernel
theorem dX9_wave_26 : decode cX9_wave 26 = .ok (.iaload, 1) := by decide +kernel
theorem dX9_wave_27 : decode cX9_wave 27 = .ok (.ifCond .ne 6, 3) := by decide +kernel
theorem dX9_wave_30 : decode cX9_wave 30 = .ok (.bipush (-3), 2) := by decide +kernel
theorem dX9_wave_32 : decode cX9_wave 32 = .ok (.ireturn, 1) := by decide +kernel
theorem dX9_wave_33 : decode cX9_wave 33 = .ok (.aload_n 0, 1) := by decide +kernel
theorem dX9_wave_34 : decode cX9_wave 34 = .ok (.iload_n 1, 1) := by decide +kernel
theorem dX9_wave_35 : decode cX9_wave 35 = .ok (.iload_n 2, 1) := by decide +kernel
theorem dX9_wave_36 : decode cX9_wave 36 = .ok (.invokevirtual 167, 3) := by decide +kernel
theorem dX9_wave_39 : decode cX9_wave 39 = .ok (.aload_n 0, 1) := by decide +kernel
theorem dX9_wave_40 : decode cX9_wave 40 = .ok (.iload_n 3, 1) := by decide +kernel
theorem dX9_wave_41 : decode cX9_wave 41 = .ok (.invokevirtual 160, 3) := by decide +kernel
theorem dX9_wave_44 : decode cX9_wave 44 = .ok (.ireturn, 1) := by decide +kernel
set_option maxRecDepth 20000 in
theorem ggX9_change_X9_isChange : GoodIn wsX9_change wsX9_isChange := goodIn_r _ [7, 8, 9, 6, 10, 11, 12, 13] (by decide +kernel) (by decide +kernel)
set_option maxRecDepth 20000 in
theorem gX9_change_X9_isChange : GoodIn wsX9_change (va_wsS RX9 163 yX9_isChange wsX9_isChange) := goodIn_app (goodIn_of _ (by decide +kernel)) ggX9_change_X9_isChange
set_option maxRecDepth 20000 in
theorem ggX9_change_X9_isIn : GoodIn wsX9_change wsX9_isIn := goodIn_r _ [13] (by decide +kernel) (by decide +kernel)
set_option maxRecDepth 20000 in
theorem gX9_change_X9_isIn : GoodIn wsX9_change (va_wsS RX9 57 yX9_isIn wsX9_isIn) := goodIn_app (goodIn_of _ (by decide +kernel)) ggX9_change_X9_isIn
set_option maxRecDepth 20000 in
theorem ggX9_change_X9_waves : GoodIn wsX9_change wsX9_waves := goodIn_r _ [17, 1, 18, 2, 3, 19, 20, 21, 6, 22, 23, 24, 25, 26, 27, 28, 29, 30, 31, 32, 33, 34, 35, 36, 37, 38, 39, 40, 41, 42, 43, 44, 45, 46, 51, 52, 53, 54, 55, 56, 57, 58, 59, 60, 61, 62, 63, 64, 65, 66, 67, 68, 69, 70, 71, 72, 73, 74] (by decide +kernel) (by decide +kernel)
set_option maxRecDepth 20000 in
theorem gX9_change_X9_waves : GoodIn wsX9_change (wsV RX9 167 RX9 yX9_waves wsX9_waves) := goodIn_app (goodIn_of _ (by decide +kernel)) ggX9_change_X9_waves
set_option maxRecDepth 20000 in
theorem ggX9_change_X9_glitch : GoodIn wsX9_change wsX9_glitch := goodIn_r _ [50, 2, 39, 40, 41, 6, 42, 23, 18, 43, 44, 45, 46, 1, 51, 52, 53, 54, 55, 56, 57, 58, 59, 60, 61, 62, 63, 64, 65, 66, 67, 68, 69, 70, 71, 72, 73, 74] (by decide +kernel) (by decide +kernel)
set_option maxRecDepth 20000 in
theorem gX9_change_X9_glitch : GoodIn wsX9_change (wsV RX9 171 RX9 yX9_glitch wsX9_glitch) := goodIn_app (goodIn_of _ (by decide +kernel)) ggX9_change_X9_glitch
theorem dX9_change_0 : decode cX9_change 0 = .ok (.iload_n 1, 1) := by decide +kernel
theorem dX9_change_1 : decode cX9_change 1 = .ok (.iload_n 2, 1) := by decide +kernel
theorem dX9_change_2 : decode cX9_change 2 = .ok (.invokestatic 163, 3) := by decide +kernel
theorem dX9_change_5 : decode cX9_change 5 = .ok (.ifCond .eq 12, 3) := by decide +kernel
theorem dX9_change_8 : decode cX9_change 8 = .ok (.iload_n 3, 1) := by decide +kernel
theorem dX9_change_9 : decode cX9_change 9 = .ok (.iconst 0, 1) := by decide +kernel
theorem dX9_change_10 : decode cX9_change 10 = .ok (.iconst 2, 1) := by decide +kernel
theorem dX9_change_11 : decode cX9_change 11 = .ok (.invokestatic 57, 3) := by decide +kernel
theorem dX9_change_14 : decode cX9_change 14 = .ok (.ifCond .ne 6, 3) := by decide +kernel
theorem dX9_change_17 : decode cX9_change 17 = .ok (.bipush (-2), 2) := by decide +kernel
theorem dX9_change_19 : decode cX9_change 19 = .ok (.ireturn, 1) := by decide +kernel
theorem dX9_change_20 : decode cX9_change 20 = .ok (.aload_n 0, 1) := by decide +kernel
theorem dX9_change_21 : decode cX9_change 21 = .ok (.getfield 9, 3) := by decide +kernel
theorem dX9_change_24 : decode cX9_change 24 = .ok (.iconst 0, 1) := by decide +kernel
theorem dX9_change_25 : decode cX9_change 25 = .ok (.iaload, 1) := by decide +kernel
theorem dX9_change_26 : decode cX9_change 26 = .ok (.ifCond .ne 6, 3) := by decide +kernel
theorem dX9_change_29 : decode cX9_change 29 = .ok (.bipush (-3), 2) := by decide +kernel
theorem dX9_change_31 : decode cX9_change 31 = .ok (.ireturn, 1) := by decide +kernel
theorem dX9_change_32 : decode cX9_change 32 = .ok (.aload_n 0, 1) := by decide +kernel
theorem dX9_change_33 : decode cX9_change 33 = .ok (.iload_n 1, 1) := by decide +kernel
theorem dX9_change_34 : decode cX9_change 34 = .ok (.iload_n 2, 1) := by decide +kernel
theorem dX9_change_35 : decode cX9_change 35 = .ok (.invokevirtual 167, 3) := by decide +kernel
theorem dX9_change_38 : decode cX9_change 38 = .ok (.iload_n 3, 1) := by decide +kernel
theorem dX9_change_39 : decode cX9_change 39 = .ok (.ifCond .ne 10, 3) := by decide +kernel
theorem dX9_change_42 : decode cX9_change 42 = .ok (.aload_n 0, 1) := by decide +kernel
theorem dX9_change_43 : decode cX9_change 43 = .ok (.getfield 154, 3) := by decide +kernel
theorem dX9_change_46 : decode cX9_change 46 = .ok (.goto 19, 3) := by decide +kernel
theorem dX9_change_49 : decode cX9_change 49 = .ok (.iload_n 3, 1) := by decide +kernel
theorem dX9_change_50 : decode cX9_change 50 = .ok (.iconst 1, 1) := by decide +kernel
theorem dX9_change_51 : decode cX9_change 51 = .ok (.if_icmp .ne 10, 3) := by decide +kernel
theorem dX9_change_54 : decode cX9_change 54 = .ok (.aload_n 0, 1) := by decide +kernel
theorem dX9_change_55 : decode cX9_change 55 = .ok (.invokevirtual 171, 3) := by decide +kernel
theorem dX9_change_58 : decode cX9_change 58 = .ok (.goto 7, 3) := by decide +kernel
theorem dX9_change_61 : decode cX9_change 61 = .ok (.aload_n 0, 1) := by decide +kernel
theorem dX9_change_62 : decode cX9_change 62 = .ok (.getfield 157, 3) := by decide +kernel
theorem dX9_change_65 : decode cX9_change 65 = .ok (.ireturn, 1) := by decide +kernel
theorem dX9_isOne_0 : decode cX9_isOne 0 = .ok (.iconst 0, 1) := by decide +kernel
theorem dX9_isOne_1 : decode cX9_isOne 1 = .ok (.istore_n 2, 1) := by decide +kernel
theorem dX9_isOne_2 : decode cX9_isOne 2 = .ok (.iconst 0, 1) := by decide +kernel
theorem dX9_isOne_3 : decode cX9_isOne 3 = .ok (.istore_n 3, 1) := by decide +kernel
theorem dX9_isOne_4 : decode cX9_isOne 4 = .ok (.iload_n 3, 1) := by decide +kernel
theorem dX9_isOne_5 : decode cX9_isOne 5 = .ok (.iconst 4, 1) := by decide +kernel
theorem dX9_isOne_6 : decode cX9_isOne 6 = .ok (.if_icmp .ge 19, 3) := by decide +kernel
theorem dX9_isOne_9 : decode cX9_isOne 9 = .ok (.iload_n 2, 1) := by decide +kernel
theorem dX9_isOne_10 : decode cX9_isOne 10 = .ok (.iload_n 0, 1) := by decide +kernel
theorem dX9_isOne_11 : decode cX9_isOne 11 = .ok (.iload_n 1, 1) := by decide +kernel
theorem dX9_isOne_12 : decode cX9_isOne 12 = .ok (.ixor, 1) := by decide +kernel
theorem dX9_isOne_13 : decode cX9_isOne 13 = .ok (.iload_n 3, 1) := by decide +kernel
theorem dX9_isOne_14 : decode cX9_isOne 14 = .ok (.ishr, 1) := by decide +kernel
theorem dX9_isOne_15 : decode cX9_isOne 15 = .ok (.iconst 1, 1) := by decide +kernel
theorem dX9_isOne_16 : decode cX9_isOne 16 = .ok (.iand, 1) := by decide +kernel
theorem dX9_isOne_17 : decode cX9_isOne 17 = .ok (.iadd, 1) := by decide +kernel
theorem dX9_isOne_18 : decode cX9_isOne 18 = .ok (.istore_n 2, 1) := by decide +kernel
theorem dX9_isOne_19 : decode cX9_isOne 19 = .ok (.iinc 3 1, 3) := by decide +kernel
theorem dX9_isOne_22 : decode cX9_isOne 22 = .ok (.goto (-18), 3) := by decide +kernel
theorem dX9_isOne_25 : decode cX9_isOne 25 = .ok (.iload_n 2, 1) := by decide +kernel
theorem dX9_isOne_26 : decode cX9_isOne 26 = .ok (.iconst 1, 1) := by decide +kernel
theorem dX9_isOne_27 : decode cX9_isOne 27 = .ok (.if_icmp .ne 7, 3) := by decide +kernel
theorem dX9_isOne_30 : decode cX9_isOne 30 = .ok (.iconst 1, 1) := by decide +kernel
theorem dX9_isOne_31 : decode cX9_isOne 31 = .ok (.goto 4, 3) := by decide +kernel
theorem dX9_isOne_34 : decode cX9_isOne 34 = .ok (.iconst 0, 1) := by decide +kernel
theorem dX9_isOne_35 : decode cX9_isOne 35 = .ok (.ireturn, 1) := by decide +kernel
set_option maxRecDepth 20000 in
theorem ggX9_worst_X9_isIn : GoodIn wsX9_worst wsX9_isIn := goodIn_r _ [6] (by decide +kernel) (by decide +kernel)
set_option maxRecDepth 20000 in
theorem gX9_worst_X9_isIn : GoodIn wsX9_worst (va_wsS RX9 57 yX9_isIn wsX9_isIn) := goodIn_app (goodIn_of _ (by decide +kernel)) ggX9_worst_X9_isIn
set_option maxRecDepth 20000 in
theorem ggX9_worst_X9_isOne : GoodIn wsX9_worst wsX9_isOne := goodIn_r _ [9] (by decide +kernel) (by decide +kernel)
set_option maxRecDepth 20000 in
theorem gX9_worst_X9_isOne : GoodIn wsX9_worst (va_wsS RX9 174 yX9_isOne wsX9_isOne) := goodIn_app (goodIn_of _ (by decide +kernel)) ggX9_worst_X9_isOne
set_option maxRecDepth 20000 in
theorem ggX9_worst_X9_waves : GoodIn wsX9_worst wsX9_waves := goodIn_r _ [13, 1, 14, 2, 15, 16, 17, 18, 5, 19, 20, 21, 22, 23, 24, 25, 26, 27, 28, 29, 30, 31, 32, 33, 34, 35, 36, 37, 38, 39, 40, 41, 42, 43, 44, 45, 46, 47, 48, 49, 50, 51, 52, 53, 54, 55, 56, 57, 58, 59, 60, 61, 62, 63, 64, 65, 66, 67] (by decide +kernel) (by decide +kernel)
set_option maxRecDepth 20000 in
theorem gX9_worst_X9_waves : GoodIn wsX9_worst (wsV RX9 167 RX9 yX9_waves wsX9_waves) := goodIn_app (goodIn_of _ (by decide +kernel)) ggX9_worst_X9_waves
theorem dX9_worst_0 : decode cX9_worst 0 = .ok (.iload_n 1, 1) := by decide +kernel
theorem dX9_worst_1 : decode cX9_worst 1 = .ok (.iconst 0, 1) := by decide +kernel
theorem dX9_worst_2 : decode cX9_worst 2 = .ok (.iconst 2, 1) := by decide +kernel
theorem dX9_worst_3 : decode cX9_worst 3 = .ok (.invokestatic 57, 3) := by decide +kernel
theorem dX9_worst_6 : decode cX9_worst 6 = .ok (.ifCond .ne 6, 3) := by decide +kernel
theorem dX9_worst_9 : decode cX9_worst 9 = .ok (.bipush (-2), 2) := by decide +kernel
theorem dX9_worst_11 : decode cX9_worst 11 = .ok (.ireturn, 1) := by decide +kernel
theorem dX9_worst_12 : decode cX9_worst 12 = .ok (.aload_n 0, 1) := by decide +kernel
theorem dX9_worst_13 : decode cX9_worst 13 = .ok (.getfield 9, 3) := by decide +kernel
theorem dX9_worst_16 : decode cX9_worst 16 = .ok (.iconst 0, 1) := by decide +kernel
theorem dX9_worst_17 : decode cX9_worst 17 = .ok (.iaload, 1) := by decide +kernel
theorem dX9_worst_18 : decode cX9_worst 18 = .ok (.ifCond .ne 6, 3) := by decide +kernel
theorem dX9_worst_21 : decode cX9_worst 21 = .ok (.bipush (-3), 2) := by decide +kernel
theorem dX9_worst_23 : decode cX9_worst 23 = .ok (.ireturn, 1) := by decide +kernel
theorem dX9_worst_24 : decode cX9_worst 24 = .ok (.iconst (-1), 1) := by decide +kernel
theorem dX9_worst_25 : decode cX9_worst 25 = .ok (.istore_n 2, 1) := by decide +kernel
theorem dX9_worst_26 : decode cX9_worst 26 = .ok (.iconst 0, 1) := by decide +kernel
theorem dX9_worst_27 : decode cX9_worst 27 = .ok (.istore_n 3, 1) := by decide +kernel
theorem dX9_worst_28 : decode cX9_worst 28 = .ok (.iconst 0, 1) := by decide +kernel
theorem dX9_worst_29 : decode cX9_worst 29 = .ok (.istore 4, 2) := by decide +kernel
theorem dX9_worst_31 : decode cX9_worst 31 = .ok (.iload 4, 2) := by decide +kernel
theorem dX9_worst_33 : decode cX9_worst 33 = .ok (.sipush 256, 3) := by decide +kernel
theorem dX9_worst_36 : decode cX9_worst 36 = .ok (.if_icmp .ge 74, 3) := by decide +kernel
theorem dX9_worst_39 : decode cX9_worst 39 = .ok (.iload 4, 2) := by decide +kernel
theorem dX9_worst_41 : decode cX9_worst 41 = .ok (.bipush 16, 2) := by decide +kernel
theorem dX9_worst_43 : decode cX9_worst 43 = .ok (.idiv, 1) := by decide +kernel
theorem dX9_worst_44 : decode cX9_worst 44 = .ok (.iload 4, 2) := by decide +kernel
theorem dX9_worst_46 : decode cX9_worst 46 = .ok (.bipush 16, 2) := by decide +kernel
theorem dX9_worst_48 : decode cX9_worst 48 = .ok (.irem, 1) := by decide +kernel
theorem dX9_worst_49 : decode cX9_worst 49 = .ok (.invokestatic 174, 3) := by decide +kernel
theorem dX9_worst_52 : decode cX9_worst 52 = .ok (.ifCond .ne 6, 3) := by decide +kernel
theorem dX9_worst_55 : decode cX9_worst 55 = .ok (.goto 49, 3) := by decide +kernel
theorem dX9_worst_58 : decode cX9_worst 58 = .ok (.aload_n 0, 1) := by decide +kernel
theorem dX9_worst_59 : decode cX9_worst 59 = .ok (.iload 4, 2) := by decide +kernel
theorem dX9_worst_61 : decode cX9_worst 61 = .ok (.bipush 16, 2) := by decide +kernel
theorem dX9_worst_63 : decode cX9_worst 63 = .ok (.idiv, 1) := by decide +kernel
theorem dX9_worst_64 : decode cX9_worst 64 = .ok (.iload 4, 2) := by decide +kernel
theorem dX9_worst_66 : decode cX9_worst 66 = .ok (.bipush 16, 2) := by decide +kernel
theorem dX9_worst_68 : decode cX9_worst 68 = .ok (.irem, 1) := by decide +kernel
theorem dX9_worst_69 : decode cX9_worst 69 = .ok (.invokevirtual 167, 3) := by decide +kernel
theorem dX9_worst_72 : decode cX9_worst 72 = .ok (.aload_n 0, 1) := by decide +kernel
theorem dX9_worst_73 : decode cX9_worst 73 = .ok (.getfield 154, 3) := by decide +kernel
theorem dX9_worst_76 : decode cX9_worst 76 = .ok (.iload_n 2, 1) := by decide +kernel
theorem dX9_worst_77 : decode cX9_worst 77 = .ok (.if_icmp .le 8, 3) := by decide +kernel
theorem dX9_worst_80 : decode cX9_worst 80 = .ok (.iload 4, 2) := by decide +kernel
theorem dX9_worst_82 : decode cX9_worst 82 = .ok (.goto 4, 3) := by decide +kernel
theorem dX9_worst_85 : decode cX9_worst 85 = .ok (.iload_n 3, 1) := by decide +kernel
theorem dX9_worst_86 : decode cX9_worst 86 = .ok (.istore_n 3, 1) := by decide +kernel
theorem dX9_worst_87 : decode cX9_worst 87 = .ok (.aload_n 0, 1) := by decide +kernel
theorem dX9_worst_88 : decode cX9_worst 88 = .ok (.getfield 154, 3) := by decide +kernel
theorem dX9_worst_91 : decode cX9_worst 91 = .ok (.iload_n 2, 1) := by decide +kernel
theorem dX9_worst_92 : decode cX9_worst 92 = .ok (.if_icmp .le 10, 3) := by decide +kernel
theorem dX9_worst_95 : decode cX9_worst 95 = .ok (.aload_n 0, 1) := by decide +kernel
theorem dX9_worst_96 : decode cX9_worst 96 = .ok (.getfield 154, 3) := by decide +kernel
theorem dX9_worst_99 : decode cX9_worst 99 = .ok (.goto 4, 3) := by decide +kernel
theorem dX9_worst_102 : decode cX9_worst 102 = .ok (.iload_n 2, 1) := by decide +kernel
theorem dX9_worst_103 : decode cX9_worst 103 = .ok (.istore_n 2, 1) := by decide +kernel
theorem dX9_worst_104 : decode cX9_worst 104 = .ok (.iinc 4 1, 3) := by decide +kernel
theorem dX9_worst_107 : decode cX9_worst 107 = .ok (.goto (-76), 3) := by decide +kernel
theorem dX9_worst_110 : decode cX9_worst 110 = .ok (.iload_n 1, 1) := by decide +kernel
theorem dX9_worst_111 : decode cX9_worst 111 = .ok (.ifCond .ne 10, 3) := by decide +kernel
theorem dX9_worst_114 : decode cX9_worst 114 = .ok (.iload_n 3, 1) := by decide +kernel
theorem dX9_worst_115 : decode cX9_worst 115 = .ok (.bipush 16, 2) := by decide +kernel
theorem dX9_worst_117 : decode cX9_worst 117 = .ok (.idiv, 1) := by decide +kernel
theorem dX9_worst_118 : decode cX9_worst 118 = .ok (.goto 16, 3) := by decide +kernel
theorem dX9_worst_121 : decode cX9_worst 121 = .ok (.iload_n 1, 1) := by decide +kernel
theorem dX9_worst_122 : decode cX9_worst 122 = .ok (.iconst 1, 1) := by decide +kernel
theorem dX9_worst_123 : decode cX9_worst 123 = .ok (.if_icmp .ne 10, 3) := by decide +kernel
theorem dX9_worst_126 : decode cX9_worst 126 = .ok (.iload_n 3, 1) := by decide +kernel
theorem dX9_worst_127 : decode cX9_worst 127 = .ok (.bipush 16, 2) := by decide +kernel
theorem dX9_worst_129 : decode cX9_worst 129 = .ok (.irem, 1) := by decide +kernel
theorem dX9_worst_130 : decode cX9_worst 130 = .ok (.goto 4, 3) := by decide +kernel
theorem dX9_worst_133 : decode cX9_worst 133 = .ok (.iload_n 2, 1) := by decide +kernel
theorem dX9_worst_134 : decode cX9_worst 134 = .ok (.ireturn, 1) := by decide +kernel
set_option maxRecDepth 20000 in
theorem ggX9_glitches_X9_isIn : GoodIn wsX9_glitches wsX9_isIn := goodIn_r _ [5] (by decide +kernel) (by decide +kernel)
set_option maxRecDepth 20000 in
theorem gX9_glitches_X9_isIn : GoodIn wsX9_glitches (va_wsS RX9 57 yX9_isIn wsX9_isIn) := goodIn_app (goodIn_of _ (by decide +kernel)) ggX9_glitches_X9_isIn
set_option maxRecDepth 20000 in
theorem ggX9_glitches_X9_isOne : GoodIn wsX9_glitches wsX9_isOne := goodIn_r _ [8] (by decide +kernel) (by decide +kernel)
set_option maxRecDepth 20000 in
theorem gX9_glitches_X9_isOne : GoodIn wsX9_glitches (va_wsS RX9 174 yX9_isOne wsX9_isOne) := goodIn_app (goodIn_of _ (by decide +kernel)) ggX9_glitches_X9_isOne
set_option maxRecDepth 20000 in
theorem ggX9_glitches_X9_waves : GoodIn wsX9_glitches wsX9_waves := goodIn_r _ [12, 1, 13, 14, 15, 16, 17, 18, 4, 19, 20, 21, 22, 23, 24, 25, 26, 27, 28, 29, 30, 31, 32, 33, 34, 35, 36, 37, 38, 39, 40, 41, 42, 43, 48, 49, 50, 51, 52, 53, 54, 55, 56, 57, 58, 59, 60, 61, 62, 63, 64, 65, 66, 67, 68, 69, 70, 71] (by decide +kernel) (by decide +kernel)
set_option maxRecDepth 20000 in
theorem gX9_glitches_X9_waves : GoodIn wsX9_glitches (wsV RX9 167 RX9 yX9_waves wsX9_waves) := goodIn_app (goodIn_of _ (by decide +kernel)) ggX9_glitches_X9_waves
set_option maxRecDepth 20000 in
theorem ggX9_glitches_X9_glitch : GoodIn wsX9_glitches wsX9_glitch := goodIn_r _ [47, 14, 36, 37, 38, 4, 39, 20, 13, 40, 41, 42, 43, 1, 48, 49, 50, 51, 52, 53, 54, 55, 56, 57, 58, 59, 60, 61, 62, 63, 64, 65, 66, 67, 68, 69, 70, 71] (by decide +kernel) (by decide +kernel)
set_option maxRecDepth 20000 in
theorem gX9_glitches_X9_glitch : GoodIn wsX9_glitches (wsV RX9 171 RX9 yX9_glitch wsX9_glitch) := goodIn_app (goodIn_of _ (by decide +kernel)) ggX9_glitches_X9_glitch
theorem dX9_glitches_0 : decode cX9_glitches 0 = .ok (.iload_n 1, 1) := by decide +kernel
theorem dX9_glitches_1 : decode cX9_glitches 1 = .ok (.iconst 0, 1) := by decide +kernel
theorem dX9_glitches_2 : decode cX9_glitches 2 = .ok (.iconst 2, 1) := by decide +kernel
theorem dX9_glitches_3 : decode cX9_glitches 3 = .ok (.invokestatic 57, 3) := by decide +kernel
theorem dX9_glitches_6 : decode cX9_glitches 6 = .ok (.ifCond .ne 6, 3) := by decide +kernel
theorem dX9_glitches_9 : decode cX9_glitches 9 = .ok (.bipush (-2), 2) := by decide +kernel
theorem dX9_glitches_11 : decode cX9_glitches 11 = .ok (.ireturn, 1) := by decide +kernel
theorem dX9_glitches_12 : decode cX9_glitches 12 = .ok (.aload_n 0, 1) := by decide +kernel
theorem dX9_glitches_13 : decode cX9_glitches 13 = .ok (.getfield 9, 3) := by decide +kernel
theorem dX9_glitches_16 : decode cX9_glitches 16 = .ok (.iconst 0, 1) := by decide +kernel
theorem dX9_glitches_17 : decode cX9_glitches 17 = .ok (.iaload, 1) := by decide +kernel
theorem dX9_glitches_18 : decode cX9_glitches 18 = .ok (.ifCond .ne 6, 3) := by decide +kernel
theorem dX9_glitches_21 : decode cX9_glitches 21 = .ok (.bipush (-3), 2) := by decide +kernel
theorem dX9_glitches_23 : decode cX9_glitches 23 = .ok (.ireturn, 1) := by decide +kernel
theorem dX9_glitches_24 : decode cX9_glitches 24 = .ok (.iconst 0, 1) := by decide +kernel
theorem dX9_glitches_25 : decode cX9_glitches 25 = .ok (.istore_n 2, 1) := by decide +kernel
theorem dX9_glitches_26 : decode cX9_glitches 26 = .ok (.iconst 0, 1) := by decide +kernel
theorem dX9_glitches_27 : decode cX9_glitches 27 = .ok (.istore_n 3, 1) := by decide +kernel
theorem dX9_glitches_28 : decode cX9_glitches 28 = .ok (.iload_n 3, 1) := by decide +kernel
theorem dX9_glitches_29 : decode cX9_glitches 29 = .ok (.sipush 256, 3) := by decide +kernel
theorem dX9_glitches_32 : decode cX9_glitches 32 = .ok (.if_icmp .ge 54, 3) := by decide +kernel
theorem dX9_glitches_35 : decode cX9_glitches 35 = .ok (.iload_n 3, 1) := by decide +kernel
theorem dX9_glitches_36 : decode cX9_glitches 36 = .ok (.bipush 16, 2) := by decide +kernel
theorem dX9_glitches_38 : decode cX9_glitches 38 = .ok (.idiv, 1) := by decide +kernel
theorem dX9_glitches_39 : decode cX9_glitches 39 = .ok (.iload_n 3, 1) := by decide +kernel
theorem dX9_glitches_40 : decode cX9_glitches 40 = .ok (.bipush 16, 2) := by decide +kernel
theorem dX9_glitches_42 : decode cX9_glitches 42 = .ok (.irem, 1) := by decide +kernel
theorem dX9_glitches_43 : decode cX9_glitches 43 = .ok (.invokestatic 174, 3) := by decide +kernel
theorem dX9_glitches_46 : decode cX9_glitches 46 = .ok (.ifCond .ne 6, 3) := by decide +kernel
theorem dX9_glitches_49 : decode cX9_glitches 49 = .ok (.goto 31, 3) := by decide +kernel
theorem dX9_glitches_52 : decode cX9_glitches 52 = .ok (.aload_n 0, 1) := by decide +kernel
theorem dX9_glitches_53 : decode cX9_glitches 53 = .ok (.iload_n 3, 1) := by decide +kernel
theorem dX9_glitches_54 : decode cX9_glitches 54 = .ok (.bipush 16, 2) := by decide +kernel
theorem dX9_glitches_56 : decode cX9_glitches 56 = .ok (.idiv, 1) := by decide +kernel
theorem dX9_glitches_57 : decode cX9_glitches 57 = .ok (.iload_n 3, 1) := by decide +kernel
theorem dX9_glitches_58 : decode cX9_glitches 58 = .ok (.bipush 16, 2) := by decide +kernel
theorem dX9_glitches_60 : decode cX9_glitches 60 = .ok (.irem, 1) := by decide +kernel
theorem dX9_glitches_61 : decode cX9_glitches 61 = .ok (.invokevirtual 167, 3) := by decide +kernel
theorem dX9_glitches_64 : decode cX9_glitches 64 = .ok (.iload_n 2, 1) := by decide +kernel
theorem dX9_glitches_65 : decode cX9_glitches 65 = .ok (.aload_n 0, 1) := by decide +kernel
theorem dX9_glitches_66 : decode cX9_glitches 66 = .ok (.invokevirtual 171, 3) := by decide +kernel
theorem dX9_glitches_69 : decode cX9_glitches 69 = .ok (.iload_n 1, 1) := by decide +kernel
theorem dX9_glitches_70 : decode cX9_glitches 70 = .ok (.if_icmp .ne 7, 3) := by decide +kernel
theorem dX9_glitches_73 : decode cX9_glitches 73 = .ok (.iconst 1, 1) := by decide +kernel
theorem dX9_glitches_74 : decode cX9_glitches 74 = .ok (.goto 4, 3) := by decide +kernel
theorem dX9_glitches_77 : decode cX9_glitches 77 = .ok (.iconst 0, 1) := by decide +kernel
theorem dX9_glitches_78 : decode cX9_glitches 78 = .ok (.iadd, 1) := by decide +kernel
theorem dX9_glitches_79 : decode cX9_glitches 79 = .ok (.istore_n 2, 1) := by decide +kernel
theorem dX9_glitches_80 : decode cX9_glitches 80 = .ok (.iinc 3 1, 3) := by decide +kernel
theorem dX9_glitches_83 : decode cX9_glitches 83 = .ok (.goto (-55), 3) := by decide +kernel
theorem dX9_glitches_86 : decode cX9_glitches 86 = .ok (.iload_n 2, 1) := by decide +kernel
theorem dX9_glitches_87 : decode cX9_glitches 87 = .ok (.ireturn, 1) := by decide +kernel
set_option maxRecDepth 20000 in
theorem ggX9_longest_X9_of : GoodIn wsX9_longest wsX9_of := goodIn_r _ [5, 6, 11, 12, 13, 14, 15, 16, 17, 18, 19, 20, 21, 22, 23, 24, 25, 26, 27, 28, 29, 30, 31, 32, 33, 34] (by decide +kernel) (by decide +kernel)
set_option maxRecDepth 20000 in
theorem gX9_longest_X9_of : GoodIn wsX9_longest (wsV RX9 53 RX9 yX9_of wsX9_of) := goodIn_app (goodIn_of _ (by decide +kernel)) ggX9_longest_X9_of
set_option maxRecDepth 20000 in
theorem ggX9_longest_X9_pathOf : GoodIn wsX9_longest wsX9_pathOf := goodIn_r _ [10, 1, 2, 3, 4, 5, 6, 7, 8, 9, 11, 12, 13, 14, 15, 16, 17, 18, 19, 20, 21, 22, 23, 24, 25, 26, 27, 28, 29, 30, 31, 32, 33, 34] (by decide +kernel) (by decide +kernel)
set_option maxRecDepth 20000 in
theorem gX9_longest_X9_pathOf : GoodIn wsX9_longest (wsV RX9 125 RX9 yX9_pathOf wsX9_pathOf) := goodIn_app (goodIn_of _ (by decide +kernel)) ggX9_longest_X9_pathOf
theorem dX9_longest_0 : decode cX9_longest 0 = .ok (.aload_n 0, 1) := by decide +kernel
theorem dX9_longest_1 : decode cX9_longest 1 = .ok (.iload_n 1, 1) := by decide +kernel
theorem dX9_longest_2 : decode cX9_longest 2 = .ok (.iconst 1, 1) := by decide +kernel
theorem dX9_longest_3 : decode cX9_longest 3 = .ok (.invokevirtual 53, 3) := by decide +kernel
theorem dX9_longest_6 : decode cX9_longest 6 = .ok (.istore_n 2, 1) := by decide +kernel
theorem dX9_longest_7 : decode cX9_longest 7 = .ok (.aload_n 0, 1) := by decide +kernel
theorem dX9_longest_8 : decode cX9_longest 8 = .ok (.iload_n 1, 1) := by decide +kernel
theorem dX9_longest_9 : decode cX9_longest 9 = .ok (.iconst 2, 1) := by decide +kernel
theorem dX9_longest_10 : decode cX9_longest 10 = .ok (.invokevirtual 53, 3) := by decide +kernel
theorem dX9_longest_13 : decode cX9_longest 13 = .ok (.istore_n 3, 1) := by decide +kernel
theorem dX9_longest_14 : decode cX9_longest 14 = .ok (.aload_n 0, 1) := by decide +kernel
theorem dX9_longest_15 : decode cX9_longest 15 = .ok (.iload_n 3, 1) := by decide +kernel
theorem dX9_longest_16 : decode cX9_longest 16 = .ok (.invokevirtual 125, 3) := by decide +kernel
theorem dX9_longest_19 : decode cX9_longest 19 = .ok (.aload_n 0, 1) := by decide +kernel
theorem dX9_longest_20 : decode cX9_longest 20 = .ok (.iload_n 2, 1) := by decide +kernel
theorem dX9_longest_21 : decode cX9_longest 21 = .ok (.invokevirtual 125, 3) := by decide +kernel
theorem dX9_longest_24 : decode cX9_longest 24 = .ok (.if_icmp .le 7, 3) := by decide +kernel
theorem dX9_longest_27 : decode cX9_longest 27 = .ok (.iload_n 3, 1) := by decide +kernel
theorem dX9_longest_28 : decode cX9_longest 28 = .ok (.goto 4, 3) := by decide +kernel
theorem dX9_longest_31 : decode cX9_longest 31 = .ok (.iload_n 2, 1) := by decide +kernel
theorem dX9_longest_32 : decode cX9_longest 32 = .ok (.istore 4, 2) := by decide +kernel
theorem dX9_longest_34 : decode cX9_longest 34 = .ok (.iload 4, 2) := by decide +kernel
theorem dX9_longest_36 : decode cX9_longest 36 = .ok (.ifCond .ge 7, 3) := by decide +kernel
theorem dX9_longest_39 : decode cX9_longest 39 = .ok (.iconst (-1), 1) := by decide +kernel
theorem dX9_longest_40 : decode cX9_longest 40 = .ok (.goto 5, 3) := by decide +kernel
theorem dX9_longest_43 : decode cX9_longest 43 = .ok (.iload 4, 2) := by decide +kernel
theorem dX9_longest_45 : decode cX9_longest 45 = .ok (.ireturn, 1) := by decide +kernel
set_option maxRecDepth 20000 in
theorem ggX9_path_X9_output : GoodIn wsX9_path wsX9_output := goodIn_r _ [6, 1, 19, 20, 21, 22, 23, 24, 25, 26, 27, 28, 29, 30, 31, 32, 33, 34, 35, 36, 37, 38, 39, 40, 41, 42] (by decide +kernel) (by decide +kernel)
set_option maxRecDepth 20000 in
theorem gX9_path_X9_output : GoodIn wsX9_path (wsV RX9 145 RX9 yX9_output wsX9_output) := goodIn_app (goodIn_of _ (by decide +kernel)) ggX9_path_X9_output
set_option maxRecDepth 20000 in
theorem ggX9_path_X9_longest : GoodIn wsX9_path wsX9_longest := goodIn_r _ [10, 11, 12, 13, 5, 14, 1, 15, 16, 17, 18, 19, 20, 21, 22, 23, 24, 25, 26, 27, 28, 29, 30, 31, 32, 33, 34, 35, 36, 37, 38, 39, 40, 41, 42] (by decide +kernel) (by decide +kernel)
set_option maxRecDepth 20000 in
theorem gX9_path_X9_longest : GoodIn wsX9_path (wsV RX9 177 RX9 yX9_longest wsX9_longest) := goodIn_app (goodIn_of _ (by decide +kernel)) ggX9_path_X9_longest
theorem dX9_path_0 : decode cX9_path 0 = .ok (.iload_n 1, 1) := by decide +kernel
theorem dX9_path_1 : decode cX9_path 1 = .ok (.ifCond .ge 6, 3) := by decide +kernel
theorem dX9_path_4 : decode cX9_path 4 = .ok (.bipush (-2), 2) := by decide +kernel
theorem dX9_path_6 : decode cX9_path 6 = .ok (.ireturn, 1) := by decide +kernel
theorem dX9_path_7 : decode cX9_path 7 = .ok (.aload_n 0, 1) := by decide +kernel
theorem dX9_path_8 : decode cX9_path 8 = .ok (.getfield 9, 3) := by decide +kernel
theorem dX9_path_11 : decode cX9_path 11 = .ok (.iconst 0, 1) := by decide +kernel
theorem dX9_path_12 : decode cX9_path 12 = .ok (.iaload, 1) := by decide +kernel
theorem dX9_path_13 : decode cX9_path 13 = .ok (.ifCond .ne 6, 3) := by decide +kernel
theorem dX9_path_16 : decode cX9_path 16 = .ok (.bipush (-3), 2) := by decide +kernel
theorem dX9_path_18 : decode cX9_path 18 = .ok (.ireturn, 1) := by decide +kernel
theorem dX9_path_19 : decode cX9_path 19 = .ok (.aload_n 0, 1) := by decide +kernel
theorem dX9_path_20 : decode cX9_path 20 = .ok (.invokevirtual 145, 3) := by decide +kernel
theorem dX9_path_23 : decode cX9_path 23 = .ok (.istore_n 2, 1) := by decide +kernel
theorem dX9_path_24 : decode cX9_path 24 = .ok (.iconst 0, 1) := by decide +kernel
theorem dX9_path_25 : decode cX9_path 25 = .ok (.istore_n 3, 1) := by decide +kernel
theorem dX9_path_26 : decode cX9_path 26 = .ok (.iload_n 3, 1) := by decide +kernel
theorem dX9_path_27 : decode cX9_path 27 = .ok (.iload_n 1, 1) := by decide +kernel
theorem dX9_path_28 : decode cX9_path 28 = .ok (.if_icmp .ge 20, 3) := by decide +kernel
theorem dX9_path_31 : decode cX9_path 31 = .ok (.iload_n 2, 1) := by decide +kernel
theorem dX9_path_32 : decode cX9_path 32 = .ok (.iconst (-1), 1) := by decide +kernel
theorem dX9_path_33 : decode cX9_path 33 = .ok (.if_icmp .eq 15, 3) := by decide +kernel
theorem dX9_path_36 : decode cX9_path 36 = .ok (.aload_n 0, 1) := by decide +kernel
theorem dX9_path_37 : decode cX9_path 37 = .ok (.iload_n 2, 1) := by decide +kernel
theorem dX9_path_38 : decode cX9_path 38 = .ok (.invokevirtual 177, 3) := by decide +kernel
theorem dX9_path_41 : decode cX9_path 41 = .ok (.istore_n 2, 1) := by decide +kernel
theorem dX9_path_42 : decode cX9_path 42 = .ok (.iinc 3 1, 3) := by decide +kernel
theorem dX9_path_45 : decode cX9_path 45 = .ok (.goto (-19), 3) := by decide +kernel
theorem dX9_path_48 : decode cX9_path 48 = .ok (.iload_n 2, 1) := by decide +kernel
theorem dX9_path_49 : decode cX9_path 49 = .ok (.ireturn, 1) := by decide +kernel
theorem dX9_holdsBy_0 : decode cX9_holdsBy 0 = .ok (.iconst 0, 1) := by decide +kernel
theorem dX9_holdsBy_1 : decode cX9_holdsBy 1 = .ok (.istore_n 2, 1) := by decide +kernel
theorem dX9_holdsBy_2 : decode cX9_holdsBy 2 = .ok (.iconst 0, 1) := by decide +kernel
theorem dX9_holdsBy_3 : decode cX9_holdsBy 3 = .ok (.istore_n 3, 1) := by decide +kernel
theorem dX9_holdsBy_4 : decode cX9_holdsBy 4 = .ok (.iload_n 3, 1) := by decide +kernel
theorem dX9_holdsBy_5 : decode cX9_holdsBy 5 = .ok (.bipush 16, 2) := by decide +kernel
theorem dX9_holdsBy_7 : decode cX9_holdsBy 7 = .ok (.if_icmp .ge 26, 3) := by decide +kernel
theorem dX9_holdsBy_10 : decode cX9_holdsBy 10 = .ok (.iload_n 2, 1) := by decide +kernel
theorem dX9_holdsBy_11 : decode cX9_holdsBy 11 = .ok (.iload_n 3, 1) := by decide +kernel
theorem dX9_holdsBy_12 : decode cX9_holdsBy 12 = .ok (.iload_n 0, 1) := by decide +kernel
theorem dX9_holdsBy_13 : decode cX9_holdsBy 13 = .ok (.iand, 1) := by decide +kernel
theorem dX9_holdsBy_14 : decode cX9_holdsBy 14 = .ok (.iload_n 1, 1) := by decide +kernel
theorem dX9_holdsBy_15 : decode cX9_holdsBy 15 = .ok (.if_icmp .ne 9, 3) := by decide +kernel
theorem dX9_holdsBy_18 : decode cX9_holdsBy 18 = .ok (.iconst 1, 1) := by decide +kernel
theorem dX9_holdsBy_19 : decode cX9_holdsBy 19 = .ok (.iload_n 3, 1) := by decide +kernel
theorem dX9_holdsBy_20 : decode cX9_holdsBy 20 = .ok (.ishl, 1) := by decide +kernel
theorem dX9_holdsBy_21 : decode cX9_holdsBy 21 = .ok (.goto 4, 3) := by decide +kernel
theorem dX9_holdsBy_24 : decode cX9_holdsBy 24 = .ok (.iconst 0, 1) := by decide +kernel
theorem dX9_holdsBy_25 : decode cX9_holdsBy 25 = .ok (.ior, 1) := by decide +kernel
theorem dX9_holdsBy_26 : decode cX9_holdsBy 26 = .ok (.istore_n 2, 1) := by decide +kernel
theorem dX9_holdsBy_27 : decode cX9_holdsBy 27 = .ok (.iinc 3 1, 3) := by decide +kernel
theorem dX9_holdsBy_30 : decode cX9_holdsBy 30 = .ok (.goto (-26), 3) := by decide +kernel
theorem dX9_holdsBy_33 : decode cX9_holdsBy 33 = .ok (.iload_n 2, 1) := by decide +kernel
theorem dX9_holdsBy_34 : decode cX9_holdsBy 34 = .ok (.ireturn, 1) := by decide +kernel
set_option maxRecDepth 20000 in
theorem ggX9_holds_X9_holdsBy : GoodIn wsX9_holds wsX9_holdsBy := goodIn_r _ [5] (by decide +kernel) (by decide +kernel)
set_option maxRecDepth 20000 in
theorem gX9_holds_X9_holdsBy : GoodIn wsX9_holds (va_wsS RX9 180 yX9_holdsBy wsX9_holdsBy) := goodIn_app (goodIn_of _ (by decide +kernel)) ggX9_holds_X9_holdsBy
theorem dX9_holds_0 : decode cX9_holds 0 = .ok (.aload_n 0, 1) := by decide +kernel
theorem dX9_holds_1 : decode cX9_holds 1 = .ok (.getfield 9, 3) := by decide +kernel
theorem dX9_holds_4 : decode cX9_holds 4 = .ok (.bipush 50, 2) := by decide +kernel
theorem dX9_holds_6 : decode cX9_holds 6 = .ok (.iconst 2, 1) := by decide +kernel
theorem dX9_holds_7 : decode cX9_holds 7 = .ok (.iload_n 1, 1) := by decide +kernel
theorem dX9_holds_8 : decode cX9_holds 8 = .ok (.imul, 1) := by decide +kernel
theorem dX9_holds_9 : decode cX9_holds 9 = .ok (.iadd, 1) := by decide +kernel
theorem dX9_holds_10 : decode cX9_holds 10 = .ok (.iaload, 1) := by decide +kernel
theorem dX9_holds_11 : decode cX9_holds 11 = .ok (.aload_n 0, 1) := by decide +kernel
theorem dX9_holds_12 : decode cX9_holds 12 = .ok (.getfield 9, 3) := by decide +kernel
theorem dX9_holds_15 : decode cX9_holds 15 = .ok (.bipush 50, 2) := by decide +kernel
theorem dX9_holds_17 : decode cX9_holds 17 = .ok (.iconst 2, 1) := by decide +kernel
theorem dX9_holds_18 : decode cX9_holds 18 = .ok (.iload_n 1, 1) := by decide +kernel
theorem dX9_holds_19 : decode cX9_holds 19 = .ok (.imul, 1) := by decide +kernel
theorem dX9_holds_20 : decode cX9_holds 20 = .ok (.iadd, 1) := by decide +kernel
theorem dX9_holds_21 : decode cX9_holds 21 = .ok (.iconst 1, 1) := by decide +kernel
theorem dX9_holds_22 : decode cX9_holds 22 = .ok (.iadd, 1) := by decide +kernel
theorem dX9_holds_23 : decode cX9_holds 23 = .ok (.iaload, 1) := by decide +kernel
theorem dX9_holds_24 : decode cX9_holds 24 = .ok (.invokestatic 180, 3) := by decide +kernel
theorem dX9_holds_27 : decode cX9_holds 27 = .ok (.ireturn, 1) := by decide +kernel
theorem dX9_comesTo_0 : decode cX9_comesTo 0 = .ok (.aload_n 0, 1) := by decide +kernel
theorem dX9_comesTo_1 : decode cX9_comesTo 1 = .ok (.getfield 9, 3) := by decide +kernel
theorem dX9_comesTo_4 : decode cX9_comesTo 4 = .ok (.iconst 1, 1) := by decide +kernel
theorem dX9_comesTo_5 : decode cX9_comesTo 5 = .ok (.iaload, 1) := by decide +kernel
theorem dX9_comesTo_6 : decode cX9_comesTo 6 = .ok (.istore 4, 2) := by decide +kernel
theorem dX9_comesTo_8 : decode cX9_comesTo 8 = .ok (.iload 4, 2) := by decide +kernel
theorem dX9_comesTo_10 : decode cX9_comesTo 10 = .ok (.iload_n 1, 1) := by decide +kernel
theorem dX9_comesTo_11 : decode cX9_comesTo 11 = .ok (.if_icmp .le 63, 3) := by decide +kernel
theorem dX9_comesTo_14 : decode cX9_comesTo 14 = .ok (.aload_n 0, 1) := by decide +kernel
theorem dX9_comesTo_15 : decode cX9_comesTo 15 = .ok (.getfield 9, 3) := by decide +kernel
theorem dX9_comesTo_18 : decode cX9_comesTo 18 = .ok (.bipush 50, 2) := by decide +kernel
theorem dX9_comesTo_20 : decode cX9_comesTo 20 = .ok (.iconst 2, 1) := by decide +kernel
theorem dX9_comesTo_21 : decode cX9_comesTo 21 = .ok (.iload 4, 2) := by decide +kernel
theorem dX9_comesTo_23 : decode cX9_comesTo 23 = .ok (.imul, 1) := by decide +kernel
theorem dX9_comesTo_24 : decode cX9_comesTo 24 = .ok (.iadd, 1) := by decide +kernel
theorem dX9_comesTo_25 : decode cX9_comesTo 25 = .ok (.aload_n 0, 1) := by decide +kernel
theorem dX9_comesTo_26 : decode cX9_comesTo 26 = .ok (.getfield 9, 3) := by decide +kernel
theorem dX9_comesTo_29 : decode cX9_comesTo 29 = .ok (.bipush 50, 2) := by decide +kernel
theorem dX9_comesTo_31 : decode cX9_comesTo 31 = .ok (.iconst 2, 1) := by decide +kernel
theorem dX9_comesTo_32 : decode cX9_comesTo 32 = .ok (.iload 4, 2) := by decide +kernel
theorem dX9_comesTo_34 : decode cX9_comesTo 34 = .ok (.imul, 1) := by decide +kernel
theorem dX9_comesTo_35 : decode cX9_comesTo 35 = .ok (.iadd, 1) := by decide +kernel
theorem dX9_comesTo_36 : decode cX9_comesTo 36 = .ok (.iconst 2, 1) := by decide +kernel
theorem dX9_comesTo_37 : decode cX9_comesTo 37 = .ok (.isub, 1) := by decide +kernel
theorem dX9_comesTo_38 : decode cX9_comesTo 38 = .ok (.iaload, 1) := by decide +kernel
theorem dX9_comesTo_39 : decode cX9_comesTo 39 = .ok (.iastore, 1) := by decide +kernel
theorem dX9_comesTo_40 : decode cX9_comesTo 40 = .ok (.aload_n 0, 1) := by decide +kernel
theorem dX9_comesTo_41 : decode cX9_comesTo 41 = .ok (.getfield 9, 3) := by decide +kernel
theorem dX9_comesTo_44 : decode cX9_comesTo 44 = .ok (.bipush 50, 2) := by decide +kernel
theorem dX9_comesTo_46 : decode cX9_comesTo 46 = .ok (.iconst 2, 1) := by decide +kernel
theorem dX9_comesTo_47 : decode cX9_comesTo 47 = .ok (.iload 4, 2) := by decide +kernel
theorem dX9_comesTo_49 : decode cX9_comesTo 49 = .ok (.imul, 1) := by decide +kernel
theorem dX9_comesTo_50 : decode cX9_comesTo 50 = .ok (.iadd, 1) := by decide +kernel
theorem dX9_comesTo_51 : decode cX9_comesTo 51 = .ok (.iconst 1, 1) := by decide +kernel
theorem dX9_comesTo_52 : decode cX9_comesTo 52 = .ok (.iadd, 1) := by decide +kernel
theorem dX9_comesTo_53 : decode cX9_comesTo 53 = .ok (.aload_n 0, 1) := by decide +kernel
theorem dX9_comesTo_54 : decode cX9_comesTo 54 = .ok (.getfield 9, 3) := by decide +kernel
theorem dX9_comesTo_57 : decode cX9_comesTo 57 = .ok (.bipush 50, 2) := by decide +kernel
theorem dX9_comesTo_59 : decode cX9_comesTo 59 = .ok (.iconst 2, 1) := by decide +kernel
theorem dX9_comesTo_60 : decode cX9_comesTo 60 = .ok (.iload 4, 2) := by decide +kernel
theorem dX9_comesTo_62 : decode cX9_comesTo 62 = .ok (.imul, 1) := by decide +kernel
theorem dX9_comesTo_63 : decode cX9_comesTo 63 = .ok (.iadd, 1) := by decide +kernel
theorem dX9_comesTo_64 : decode cX9_comesTo 64 = .ok (.iconst 1, 1) := by decide +kernel
theorem dX9_comesTo_65 : decode cX9_comesTo 65 = .ok (.isub, 1) := by decide +kernel
theorem dX9_comesTo_66 : decode cX9_comesTo 66 = .ok (.iaload, 1) := by decide +kernel
theorem dX9_comesTo_67 : decode cX9_comesTo 67 = .ok (.iastore, 1) := by decide +kernel
theorem dX9_comesTo_68 : decode cX9_comesTo 68 = .ok (.iinc 4 (-1), 3) := by decide +kernel
theorem dX9_comesTo_71 : decode cX9_comesTo 71 = .ok (.goto (-63), 3) := by decide +kernel
theorem dX9_comesTo_74 : decode cX9_comesTo 74 = .ok (.aload_n 0, 1) := by decide +kernel
theorem dX9_comesTo_75 : decode cX9_comesTo 75 = .ok (.getfield 9, 3) := by decide +kernel
theorem dX9_comesTo_78 : decode cX9_comesTo 78 = .ok (.bipush 50, 2) := by decide +kernel
theorem dX9_comesTo_80 : decode cX9_comesTo 80 = .ok (.iconst 2, 1) := by decide +kernel
theorem dX9_comesTo_81 : decode cX9_comesTo 81 = .ok (.iload_n 1, 1) := by decide +kernel
theorem dX9_comesTo_82 : decode cX9_comesTo 82 = .ok (.imul, 1) := by decide +kernel
theorem dX9_comesTo_83 : decode cX9_comesTo 83 = .ok (.iadd, 1) := by decide +kernel
theorem dX9_comesTo_84 : decode cX9_comesTo 84 = .ok (.iload_n 2, 1) := by decide +kernel
theorem dX9_comesTo_85 : decode cX9_comesTo 85 = .ok (.iastore, 1) := by decide +kernel
theorem dX9_comesTo_86 : decode cX9_comesTo 86 = .ok (.aload_n 0, 1) := by decide +kernel
theorem dX9_comesTo_87 : decode cX9_comesTo 87 = .ok (.getfield 9, 3) := by decide +kernel
theorem dX9_comesTo_90 : decode cX9_comesTo 90 = .ok (.bipush 50, 2) := by decide +kernel
theorem dX9_comesTo_92 : decode cX9_comesTo 92 = .ok (.iconst 2, 1) := by decide +kernel
theorem dX9_comesTo_93 : decode cX9_comesTo 93 = .ok (.iload_n 1, 1) := by decide +kernel
theorem dX9_comesTo_94 : decode cX9_comesTo 94 = .ok (.imul, 1) := by decide +kernel
theorem dX9_comesTo_95 : decode cX9_comesTo 95 = .ok (.iadd, 1) := by decide +kernel
theorem dX9_comesTo_96 : decode cX9_comesTo 96 = .ok (.iconst 1, 1) := by decide +kernel
theorem dX9_comesTo_97 : decode cX9_comesTo 97 = .ok (.iadd, 1) := by decide +kernel
theorem dX9_comesTo_98 : decode cX9_comesTo 98 = .ok (.iload_n 3, 1) := by decide +kernel
theorem dX9_comesTo_99 : decode cX9_comesTo 99 = .ok (.iastore, 1) := by decide +kernel
theorem dX9_comesTo_100 : decode cX9_comesTo 100 = .ok (.aload_n 0, 1) := by decide +kernel
theorem dX9_comesTo_101 : decode cX9_comesTo 101 = .ok (.getfield 9, 3) := by decide +kernel
theorem dX9_comesTo_104 : decode cX9_comesTo 104 = .ok (.iconst 1, 1) := by decide +kernel
theorem dX9_comesTo_105 : decode cX9_comesTo 105 = .ok (.dup2, 1) := by decide +kernel
theorem dX9_comesTo_106 : decode cX9_comesTo 106 = .ok (.iaload, 1) := by decide +kernel
theorem dX9_comesTo_107 : decode cX9_comesTo 107 = .ok (.iconst 1, 1) := by decide +kernel
theorem dX9_comesTo_108 : decode cX9_comesTo 108 = .ok (.iadd, 1) := by decide +kernel
theorem dX9_comesTo_109 : decode cX9_comesTo 109 = .ok (.iastore, 1) := by decide +kernel
theorem dX9_comesTo_110 : decode cX9_comesTo 110 = .ok (.return_, 1) := by decide +kernel
set_option maxRecDepth 20000 in
theorem ggX9_isTerm_X9_isIn : GoodIn wsX9_isTerm wsX9_isIn := goodIn_r _ [4] (by decide +kernel) (by decide +kernel)
set_option maxRecDepth 20000 in
theorem gX9_isTerm_X9_isIn : GoodIn wsX9_isTerm (va_wsS RX9 57 yX9_isIn wsX9_isIn) := goodIn_app (goodIn_of _ (by decide +kernel)) ggX9_isTerm_X9_isIn
theorem dX9_isTerm_0 : decode cX9_isTerm 0 = .ok (.iload_n 0, 1) := by decide +kernel
theorem dX9_isTerm_1 : decode cX9_isTerm 1 = .ok (.iconst 0, 1) := by decide +kernel
theorem dX9_isTerm_2 : decode cX9_isTerm 2 = .ok (.bipush 15, 2) := by decide +kernel
theorem dX9_isTerm_4 : decode cX9_isTerm 4 = .ok (.invokestatic 57, 3) := by decide +kernel
theorem dX9_isTerm_7 : decode cX9_isTerm 7 = .ok (.ifCond .eq 25, 3) := by decide +kernel
theorem dX9_isTerm_10 : decode cX9_isTerm 10 = .ok (.iload_n 1, 1) := by decide +kernel
theorem dX9_isTerm_11 : decode cX9_isTerm 11 = .ok (.iconst 0, 1) := by decide +kernel
theorem dX9_isTerm_12 : decode cX9_isTerm 12 = .ok (.bipush 15, 2) := by decide +kernel
theorem dX9_isTerm_14 : decode cX9_isTerm 14 = .ok (.invokestatic 57, 3) := by decide +kernel
theorem dX9_isTerm_17 : decode cX9_isTerm 17 = .ok (.ifCond .eq 15, 3) := by decide +kernel
theorem dX9_isTerm_20 : decode cX9_isTerm 20 = .ok (.iload_n 1, 1) := by decide +kernel
theorem dX9_isTerm_21 : decode cX9_isTerm 21 = .ok (.iload_n 0, 1) := by decide +kernel
theorem dX9_isTerm_22 : decode cX9_isTerm 22 = .ok (.iconst (-1), 1) := by decide +kernel
theorem dX9_isTerm_23 : decode cX9_isTerm 23 = .ok (.ixor, 1) := by decide +kernel
theorem dX9_isTerm_24 : decode cX9_isTerm 24 = .ok (.iand, 1) := by decide +kernel
theorem dX9_isTerm_25 : decode cX9_isTerm 25 = .ok (.ifCond .ne 7, 3) := by decide +kernel
theorem dX9_isTerm_28 : decode cX9_isTerm 28 = .ok (.iconst 1, 1) := by decide +kernel
theorem dX9_isTerm_29 : decode cX9_isTerm 29 = .ok (.goto 4, 3) := by decide +kernel
theorem dX9_isTerm_32 : decode cX9_isTerm 32 = .ok (.iconst 0, 1) := by decide +kernel
theorem dX9_isTerm_33 : decode cX9_isTerm 33 = .ok (.ireturn, 1) := by decide +kernel
set_option maxRecDepth 20000 in
theorem ggX9_term_X9_isTerm : GoodIn wsX9_term wsX9_isTerm := goodIn_r _ [5, 6, 7, 4, 8] (by decide +kernel) (by decide +kernel)
set_option maxRecDepth 20000 in
theorem gX9_term_X9_isTerm : GoodIn wsX9_term (va_wsS RX9 183 yX9_isTerm wsX9_isTerm) := goodIn_app (goodIn_of _ (by decide +kernel)) ggX9_term_X9_isTerm
set_option maxRecDepth 20000 in
theorem ggX9_term_X9_comesTo : GoodIn wsX9_term wsX9_comesTo := goodIn_r _ [12, 1, 19, 20, 21, 22, 23, 24, 25, 26, 27, 28, 29, 30, 31, 32, 33, 34, 35, 36, 37, 38, 39, 40, 41, 42] (by decide +kernel) (by decide +kernel)
set_option maxRecDepth 20000 in
theorem gX9_term_X9_comesTo : GoodIn wsX9_term (wsV RX9 65 RX9 yX9_comesTo wsX9_comesTo) := goodIn_app (goodIn_of _ (by decide +kernel)) ggX9_term_X9_comesTo
set_option maxRecDepth 20000 in
theorem ggX9_term_X9_does : GoodIn wsX9_term wsX9_does := goodIn_r _ [16, 17, 18, 19, 20, 21, 22, 23, 24, 25, 26, 27, 28, 29, 30, 31, 32, 33, 34, 35, 36, 37, 38, 39, 40, 41, 42] (by decide +kernel) (by decide +kernel)
set_option maxRecDepth 20000 in
theorem gX9_term_X9_does : GoodIn wsX9_term (wsV RX9 117 RX9 yX9_does wsX9_does) := goodIn_app (goodIn_of _ (by decide +kernel)) ggX9_term_X9_does
theorem dX9_term_0 : decode cX9_term 0 = .ok (.iload_n 1, 1) := by decide +kernel
theorem dX9_term_1 : decode cX9_term 1 = .ok (.iload_n 2, 1) := by decide +kernel
theorem dX9_term_2 : decode cX9_term 2 = .ok (.invokestatic 183, 3) := by decide +kernel
theorem dX9_term_5 : decode cX9_term 5 = .ok (.ifCond .ne 6, 3) := by decide +kernel
theorem dX9_term_8 : decode cX9_term 8 = .ok (.bipush (-2), 2) := by decide +kernel
theorem dX9_term_10 : decode cX9_term 10 = .ok (.ireturn, 1) := by decide +kernel
theorem dX9_term_11 : decode cX9_term 11 = .ok (.aload_n 0, 1) := by decide +kernel
theorem dX9_term_12 : decode cX9_term 12 = .ok (.getfield 9, 3) := by decide +kernel
theorem dX9_term_15 : decode cX9_term 15 = .ok (.iconst 1, 1) := by decide +kernel
theorem dX9_term_16 : decode cX9_term 16 = .ok (.iaload, 1) := by decide +kernel
theorem dX9_term_17 : decode cX9_term 17 = .ok (.bipush 8, 2) := by decide +kernel
theorem dX9_term_19 : decode cX9_term 19 = .ok (.if_icmp .ne 6, 3) := by decide +kernel
theorem dX9_term_22 : decode cX9_term 22 = .ok (.bipush (-4), 2) := by decide +kernel
theorem dX9_term_24 : decode cX9_term 24 = .ok (.ireturn, 1) := by decide +kernel
theorem dX9_term_25 : decode cX9_term 25 = .ok (.aload_n 0, 1) := by decide +kernel
theorem dX9_term_26 : decode cX9_term 26 = .ok (.aload_n 0, 1) := by decide +kernel
theorem dX9_term_27 : decode cX9_term 27 = .ok (.getfield 9, 3) := by decide +kernel
theorem dX9_term_30 : decode cX9_term 30 = .ok (.iconst 1, 1) := by decide +kernel
theorem dX9_term_31 : decode cX9_term 31 = .ok (.iaload, 1) := by decide +kernel
theorem dX9_term_32 : decode cX9_term 32 = .ok (.iload_n 1, 1) := by decide +kernel
theorem dX9_term_33 : decode cX9_term 33 = .ok (.iload_n 2, 1) := by decide +kernel
theorem dX9_term_34 : decode cX9_term 34 = .ok (.invokevirtual 65, 3) := by decide +kernel
theorem dX9_term_37 : decode cX9_term 37 = .ok (.aload_n 0, 1) := by decide +kernel
theorem dX9_term_38 : decode cX9_term 38 = .ok (.iconst 2, 1) := by decide +kernel
theorem dX9_term_39 : decode cX9_term 39 = .ok (.iconst 0, 1) := by decide +kernel
theorem dX9_term_40 : decode cX9_term 40 = .ok (.iconst 0, 1) := by decide +kernel
theorem dX9_term_41 : decode cX9_term 41 = .ok (.iconst 0, 1) := by decide +kernel
theorem dX9_term_42 : decode cX9_term 42 = .ok (.invokevirtual 117, 3) := by decide +kernel
theorem dX9_term_45 : decode cX9_term 45 = .ok (.aload_n 0, 1) := by decide +kernel
theorem dX9_term_46 : decode cX9_term 46 = .ok (.getfield 9, 3) := by decide +kernel
theorem dX9_term_49 : decode cX9_term 49 = .ok (.iconst 1, 1) := by decide +kernel
theorem dX9_term_50 : decode cX9_term 50 = .ok (.iaload, 1) := by decide +kernel
theorem dX9_term_51 : decode cX9_term 51 = .ok (.iconst 1, 1) := by decide +kernel
theorem dX9_term_52 : decode cX9_term 52 = .ok (.isub, 1) := by decide +kernel
theorem dX9_term_53 : decode cX9_term 53 = .ok (.ireturn, 1) := by decide +kernel
set_option maxRecDepth 20000 in
theorem ggX9_off_X9_isIn : GoodIn wsX9_off wsX9_isIn := goodIn_r _ [5] (by decide +kernel) (by decide +kernel)
set_option maxRecDepth 20000 in
theorem gX9_off_X9_isIn : GoodIn wsX9_off (va_wsS RX9 57 yX9_isIn wsX9_isIn) := goodIn_app (goodIn_of _ (by decide +kernel)) ggX9_off_X9_isIn
set_option maxRecDepth 20000 in
theorem ggX9_off_X9_does : GoodIn wsX9_off wsX9_does := goodIn_r _ [9, 10, 11, 12, 13, 14, 15, 16, 17, 18, 19, 20, 21, 22, 23, 24, 25, 26, 27, 28, 29, 30, 31, 32, 33, 34, 35] (by decide +kernel) (by decide +kernel)
set_option maxRecDepth 20000 in
theorem gX9_off_X9_does : GoodIn wsX9_off (wsV RX9 117 RX9 yX9_does wsX9_does) := goodIn_app (goodIn_of _ (by decide +kernel)) ggX9_off_X9_does
theorem dX9_off_0 : decode cX9_off 0 = .ok (.iload_n 1, 1) := by decide +kernel
theorem dX9_off_1 : decode cX9_off 1 = .ok (.iconst 0, 1) := by decide +kernel
theorem dX9_off_2 : decode cX9_off 2 = .ok (.aload_n 0, 1) := by decide +kernel
theorem dX9_off_3 : decode cX9_off 3 = .ok (.getfield 9, 3) := by decide +kernel
theorem dX9_off_6 : decode cX9_off 6 = .ok (.iconst 1, 1) := by decide +kernel
theorem dX9_off_7 : decode cX9_off 7 = .ok (.iaload, 1) := by decide +kernel
theorem dX9_off_8 : decode cX9_off 8 = .ok (.iconst 1, 1) := by decide +kernel
theorem dX9_off_9 : decode cX9_off 9 = .ok (.isub, 1) := by decide +kernel
theorem dX9_off_10 : decode cX9_off 10 = .ok (.invokestatic 57, 3) := by decide +kernel
theorem dX9_off_13 : decode cX9_off 13 = .ok (.ifCond .ne 6, 3) := by decide +kernel
theorem dX9_off_16 : decode cX9_off 16 = .ok (.bipush (-2), 2) := by decide +kernel
theorem dX9_off_18 : decode cX9_off 18 = .ok (.ireturn, 1) := by decide +kernel
theorem dX9_off_19 : decode cX9_off 19 = .ok (.aload_n 0, 1) := by decide +kernel
theorem dX9_off_20 : decode cX9_off 20 = .ok (.iconst 3, 1) := by decide +kernel
theorem dX9_off_21 : decode cX9_off 21 = .ok (.iload_n 1, 1) := by decide +kernel
theorem dX9_off_22 : decode cX9_off 22 = .ok (.aload_n 0, 1) := by decide +kernel
theorem dX9_off_23 : decode cX9_off 23 = .ok (.getfield 9, 3) := by decide +kernel
theorem dX9_off_26 : decode cX9_off 26 = .ok (.bipush 50, 2) := by decide +kernel
theorem dX9_off_28 : decode cX9_off 28 = .ok (.iconst 2, 1) := by decide +kernel
theorem dX9_off_29 : decode cX9_off 29 = .ok (.iload_n 1, 1) := by decide +kernel
theorem dX9_off_30 : decode cX9_off 30 = .ok (.imul, 1) := by decide +kernel
theorem dX9_off_31 : decode cX9_off 31 = .ok (.iadd, 1) := by decide +kernel
theorem dX9_off_32 : decode cX9_off 32 = .ok (.iaload, 1) := by decide +kernel
theorem dX9_off_33 : decode cX9_off 33 = .ok (.aload_n 0, 1) := by decide +kernel
theorem dX9_off_34 : decode cX9_off 34 = .ok (.getfield 9, 3) := by decide +kernel
theorem dX9_off_37 : decode cX9_off 37 = .ok (.bipush 50, 2) := by decide +kernel
theorem dX9_off_39 : decode cX9_off 39 = .ok (.iconst 2, 1) := by decide +kernel
theorem dX9_off_40 : decode cX9_off 40 = .ok (.iload_n 1, 1) := by decide +kernel
theorem dX9_off_41 : decode cX9_off 41 = .ok (.imul, 1) := by decide +kernel
theorem dX9_off_42 : decode cX9_off 42 = .ok (.iadd, 1) := by decide +kernel
theorem dX9_off_43 : decode cX9_off 43 = .ok (.iconst 1, 1) := by decide +kernel
theorem dX9_off_44 : decode cX9_off 44 = .ok (.iadd, 1) := by decide +kernel
theorem dX9_off_45 : decode cX9_off 45 = .ok (.iaload, 1) := by decide +kernel
theorem dX9_off_46 : decode cX9_off 46 = .ok (.invokevirtual 117, 3) := by decide +kernel
theorem dX9_off_49 : decode cX9_off 49 = .ok (.iload_n 1, 1) := by decide +kernel
theorem dX9_off_50 : decode cX9_off 50 = .ok (.istore_n 2, 1) := by decide +kernel
theorem dX9_off_51 : decode cX9_off 51 = .ok (.iload_n 2, 1) := by decide +kernel
theorem dX9_off_52 : decode cX9_off 52 = .ok (.aload_n 0, 1) := by decide +kernel
theorem dX9_off_53 : decode cX9_off 53 = .ok (.getfield 9, 3) := by decide +kernel
theorem dX9_off_56 : decode cX9_off 56 = .ok (.iconst 1, 1) := by decide +kernel
theorem dX9_off_57 : decode cX9_off 57 = .ok (.iaload, 1) := by decide +kernel
theorem dX9_off_58 : decode cX9_off 58 = .ok (.iconst 1, 1) := by decide +kernel
theorem dX9_off_59 : decode cX9_off 59 = .ok (.isub, 1) := by decide +kernel
theorem dX9_off_60 : decode cX9_off 60 = .ok (.if_icmp .ge 59, 3) := by decide +kernel
theorem dX9_off_63 : decode cX9_off 63 = .ok (.aload_n 0, 1) := by decide +kernel
theorem dX9_off_64 : decode cX9_off 64 = .ok (.getfield 9, 3) := by decide +kernel
theorem dX9_off_67 : decode cX9_off 67 = .ok (.bipush 50, 2) := by decide +kernel
theorem dX9_off_69 : decode cX9_off 69 = .ok (.iconst 2, 1) := by decide +kernel
theorem dX9_off_70 : decode cX9_off 70 = .ok (.iload_n 2, 1) := by decide +kernel
theorem dX9_off_71 : decode cX9_off 71 = .ok (.imul, 1) := by decide +kernel
theorem dX9_off_72 : decode cX9_off 72 = .ok (.iadd, 1) := by decide +kernel
theorem dX9_off_73 : decode cX9_off 73 = .ok (.aload_n 0, 1) := by decide +kernel
theorem dX9_off_74 : decode cX9_off 74 = .ok (.getfield 9, 3) := by decide +kernel
theorem dX9_off_77 : decode cX9_off 77 = .ok (.bipush 50, 2) := by decide +kernel
theorem dX9_off_79 : decode cX9_off 79 = .ok (.iconst 2, 1) := by decide +kernel
theorem dX9_off_80 : decode cX9_off 80 = .ok (.iload_n 2, 1) := by decide +kernel
theorem dX9_off_81 : decode cX9_off 81 = .ok (.imul, 1) := by decide +kernel
theorem dX9_off_82 : decode cX9_off 82 = .ok (.iadd, 1) := by decide +kernel
theorem dX9_off_83 : decode cX9_off 83 = .ok (.iconst 2, 1) := by decide +kernel
theorem dX9_off_84 : decode cX9_off 84 = .ok (.iadd, 1) := by decide +kernel
theorem dX9_off_85 : decode cX9_off 85 = .ok (.iaload, 1) := by decide +kernel
theorem dX9_off_86 : decode cX9_off 86 = .ok (.iastore, 1) := by decide +kernel
theorem dX9_off_87 : decode cX9_off 87 = .ok (.aload_n 0, 1) := by decide +kernel
theorem dX9_off_88 : decode cX9_off 88 = .ok (.getfield 9, 3) := by decide +kernel
theorem dX9_off_91 : decode cX9_off 91 = .ok (.bipush 50, 2) := by decide +kernel
theorem dX9_off_93 : decode cX9_off 93 = .ok (.iconst 2, 1) := by decide +kernel
theorem dX9_off_94 : decode cX9_off 94 = .ok (.iload_n 2, 1) := by decide +kernel
theorem dX9_off_95 : decode cX9_off 95 = .ok (.imul, 1) := by decide +kernel
theorem dX9_off_96 : decode cX9_off 96 = .ok (.iadd, 1) := by decide +kernel
theorem dX9_off_97 : decode cX9_off 97 = .ok (.iconst 1, 1) := by decide +kernel
theorem dX9_off_98 : decode cX9_off 98 = .ok (.iadd, 1) := by decide +kernel
theorem dX9_off_99 : decode cX9_off 99 = .ok (.aload_n 0, 1) := by decide +kernel
theorem dX9_off_100 : decode cX9_off 100 = .ok (.getfield 9, 3) := by decide +kernel
theorem dX9_off_103 : decode cX9_off 103 = .ok (.bipush 50, 2) := by decide +kernel
theorem dX9_off_105 : decode cX9_off 105 = .ok (.iconst 2, 1) := by decide +kernel
theorem dX9_off_106 : decode cX9_off 106 = .ok (.iload_n 2, 1) := by decide +kernel
theorem dX9_off_107 : decode cX9_off 107 = .ok (.imul, 1) := by decide +kernel
theorem dX9_off_108 : decode cX9_off 108 = .ok (.iadd, 1) := by decide +kernel
theorem dX9_off_109 : decode cX9_off 109 = .ok (.iconst 3, 1) := by decide +kernel
theorem dX9_off_110 : decode cX9_off 110 = .ok (.iadd, 1) := by decide +kernel
theorem dX9_off_111 : decode cX9_off 111 = .ok (.iaload, 1) := by decide +kernel
theorem dX9_off_112 : decode cX9_off 112 = .ok (.iastore, 1) := by decide +kernel
theorem dX9_off_113 : decode cX9_off 113 = .ok (.iinc 2 1, 3) := by decide +kernel
theorem dX9_off_116 : decode cX9_off 116 = .ok (.goto (-65), 3) := by decide +kernel
theorem dX9_off_119 : decode cX9_off 119 = .ok (.aload_n 0, 1) := by decide +kernel
theorem dX9_off_120 : decode cX9_off 120 = .ok (.getfield 9, 3) := by decide +kernel
theorem dX9_off_123 : decode cX9_off 123 = .ok (.iconst 1, 1) := by decide +kernel
theorem dX9_off_124 : decode cX9_off 124 = .ok (.dup2, 1) := by decide +kernel
theorem dX9_off_125 : decode cX9_off 125 = .ok (.iaload, 1) := by decide +kernel
theorem dX9_off_126 : decode cX9_off 126 = .ok (.iconst 1, 1) := by decide +kernel
theorem dX9_off_127 : decode cX9_off 127 = .ok (.isub, 1) := by decide +kernel
theorem dX9_off_128 : decode cX9_off 128 = .ok (.iastore, 1) := by decide +kernel
theorem dX9_off_129 : decode cX9_off 129 = .ok (.aload_n 0, 1) := by decide +kernel
theorem dX9_off_130 : decode cX9_off 130 = .ok (.getfield 9, 3) := by decide +kernel
theorem dX9_off_133 : decode cX9_off 133 = .ok (.iconst 1, 1) := by decide +kernel
theorem dX9_off_134 : decode cX9_off 134 = .ok (.iaload, 1) := by decide +kernel
theorem dX9_off_135 : decode cX9_off 135 = .ok (.ireturn, 1) := by decide +kernel
set_option maxRecDepth 20000 in
theorem ggX9_termOf_X9_isIn : GoodIn wsX9_termOf wsX9_isIn := goodIn_r _ [5] (by decide +kernel) (by decide +kernel)
set_option maxRecDepth 20000 in
theorem gX9_termOf_X9_isIn : GoodIn wsX9_termOf (va_wsS RX9 57 yX9_isIn wsX9_isIn) := goodIn_app (goodIn_of _ (by decide +kernel)) ggX9_termOf_X9_isIn
set_option maxRecDepth 20000 in
theorem ggX9_termOf_X9_holds : GoodIn wsX9_termOf wsX9_holds := goodIn_r _ [9, 1, 10, 11, 4, 12, 13, 14, 15, 16, 17, 18, 19, 20, 21, 22, 23, 24, 25, 26, 27, 28, 29, 30, 31, 32, 33, 34, 35, 36] (by decide +kernel) (by decide +kernel)
set_option maxRecDepth 20000 in
theorem gX9_termOf_X9_holds : GoodIn wsX9_termOf (wsV RX9 186 RX9 yX9_holds wsX9_holds) := goodIn_app (goodIn_of _ (by decide +kernel)) ggX9_termOf_X9_holds
theorem dX9_termOf_0 : decode cX9_termOf 0 = .ok (.iload_n 1, 1) := by decide +kernel
theorem dX9_termOf_1 : decode cX9_termOf 1 = .ok (.iconst 0, 1) := by decide +kernel
theorem dX9_termOf_2 : decode cX9_termOf 2 = .ok (.aload_n 0, 1) := by decide +kernel
theorem dX9_termOf_3 : decode cX9_termOf 3 = .ok (.getfield 9, 3) := by decide +kernel
theorem dX9_termOf_6 : decode cX9_termOf 6 = .ok (.iconst 1, 1) := by decide +kernel
theorem dX9_termOf_7 : decode cX9_termOf 7 = .ok (.iaload, 1) := by decide +kernel
theorem dX9_termOf_8 : decode cX9_termOf 8 = .ok (.iconst 1, 1) := by decide +kernel
theorem dX9_termOf_9 : decode cX9_termOf 9 = .ok (.isub, 1) := by decide +kernel
theorem dX9_termOf_10 : decode cX9_termOf 10 = .ok (.invokestatic 57, 3) := by decide +kernel
theorem dX9_termOf_13 : decode cX9_termOf 13 = .ok (.ifCond .eq 12, 3) := by decide +kernel
theorem dX9_termOf_16 : decode cX9_termOf 16 = .ok (.iload_n 2, 1) := by decide +kernel
theorem dX9_termOf_17 : decode cX9_termOf 17 = .ok (.iconst 0, 1) := by decide +kernel
theorem dX9_termOf_18 : decode cX9_termOf 18 = .ok (.iconst 2, 1) := by decide +kernel
theorem dX9_termOf_19 : decode cX9_termOf 19 = .ok (.invokestatic 57, 3) := by decide +kernel
theorem dX9_termOf_22 : decode cX9_termOf 22 = .ok (.ifCond .ne 6, 3) := by decide +kernel
theorem dX9_termOf_25 : decode cX9_termOf 25 = .ok (.bipush (-2), 2) := by decide +kernel
theorem dX9_termOf_27 : decode cX9_termOf 27 = .ok (.ireturn, 1) := by decide +kernel
theorem dX9_termOf_28 : decode cX9_termOf 28 = .ok (.iload_n 2, 1) := by decide +kernel
theorem dX9_termOf_29 : decode cX9_termOf 29 = .ok (.iconst 2, 1) := by decide +kernel
theorem dX9_termOf_30 : decode cX9_termOf 30 = .ok (.if_icmp .ne 11, 3) := by decide +kernel
theorem dX9_termOf_33 : decode cX9_termOf 33 = .ok (.aload_n 0, 1) := by decide +kernel
theorem dX9_termOf_34 : decode cX9_termOf 34 = .ok (.iload_n 1, 1) := by decide +kernel
theorem dX9_termOf_35 : decode cX9_termOf 35 = .ok (.invokevirtual 186, 3) := by decide +kernel
theorem dX9_termOf_38 : decode cX9_termOf 38 = .ok (.goto 16, 3) := by decide +kernel
theorem dX9_termOf_41 : decode cX9_termOf 41 = .ok (.aload_n 0, 1) := by decide +kernel
theorem dX9_termOf_42 : decode cX9_termOf 42 = .ok (.getfield 9, 3) := by decide +kernel
theorem dX9_termOf_45 : decode cX9_termOf 45 = .ok (.bipush 50, 2) := by decide +kernel
theorem dX9_termOf_47 : decode cX9_termOf 47 = .ok (.iconst 2, 1) := by decide +kernel
theorem dX9_termOf_48 : decode cX9_termOf 48 = .ok (.iload_n 1, 1) := by decide +kernel
theorem dX9_termOf_49 : decode cX9_termOf 49 = .ok (.imul, 1) := by decide +kernel
theorem dX9_termOf_50 : decode cX9_termOf 50 = .ok (.iadd, 1) := by decide +kernel
theorem dX9_termOf_51 : decode cX9_termOf 51 = .ok (.iload_n 2, 1) := by decide +kernel
theorem dX9_termOf_52 : decode cX9_termOf 52 = .ok (.iadd, 1) := by decide +kernel
theorem dX9_termOf_53 : decode cX9_termOf 53 = .ok (.iaload, 1) := by decide +kernel
theorem dX9_termOf_54 : decode cX9_termOf 54 = .ok (.ireturn, 1) := by decide +kernel
set_option maxRecDepth 20000 in
theorem ggX9_coveredSet_X9_holds : GoodIn wsX9_coveredSet wsX9_holds := goodIn_r _ [6, 1, 7, 8, 5, 9, 10, 11, 12, 13, 14, 15, 16, 17, 18, 19, 20, 21, 22, 23, 24, 25, 26, 27, 28, 29, 30, 31, 32, 33] (by decide +kernel) (by decide +kernel)
set_option maxRecDepth 20000 in
theorem gX9_coveredSet_X9_holds : GoodIn wsX9_coveredSet (wsV RX9 186 RX9 yX9_holds wsX9_holds) := goodIn_app (goodIn_of _ (by decide +kernel)) ggX9_coveredSet_X9_holds
theorem dX9_coveredSet_0 : decode cX9_coveredSet 0 = .ok (.iconst 0, 1) := by decide +kernel
theorem dX9_coveredSet_1 : decode cX9_coveredSet 1 = .ok (.istore_n 1, 1) := by decide +kernel
theorem dX9_coveredSet_2 : decode cX9_coveredSet 2 = .ok (.iconst 0, 1) := by decide +kernel
theorem dX9_coveredSet_3 : decode cX9_coveredSet 3 = .ok (.istore_n 2, 1) := by decide +kernel
theorem dX9_coveredSet_4 : decode cX9_coveredSet 4 = .ok (.iload_n 2, 1) := by decide +kernel
theorem dX9_coveredSet_5 : decode cX9_coveredSet 5 = .ok (.aload_n 0, 1) := by decide +kernel
theorem dX9_coveredSet_6 : decode cX9_coveredSet 6 = .ok (.getfield 9, 3) := by decide +kernel
theorem dX9_coveredSet_9 : decode cX9_coveredSet 9 = .ok (.iconst 1, 1) := by decide +kernel
theorem dX9_coveredSet_10 : decode cX9_coveredSet 10 = .ok (.iaload, 1) := by decide +kernel
theorem dX9_coveredSet_11 : decode cX9_coveredSet 11 = .ok (.if_icmp .ge 17, 3) := by decide +kernel
theorem dX9_coveredSet_14 : decode cX9_coveredSet 14 = .ok (.iload_n 1, 1) := by decide +kernel
theorem dX9_coveredSet_15 : decode cX9_coveredSet 15 = .ok (.aload_n 0, 1) := by decide +kernel
theorem dX9_coveredSet_16 : decode cX9_coveredSet 16 = .ok (.iload_n 2, 1) := by decide +kernel
theorem dX9_coveredSet_17 : decode cX9_coveredSet 17 = .ok (.invokevirtual 186, 3) := by decide +kernel
theorem dX9_coveredSet_20 : decode cX9_coveredSet 20 = .ok (.ior, 1) := by decide +kernel
theorem dX9_coveredSet_21 : decode cX9_coveredSet 21 = .ok (.istore_n 1, 1) := by decide +kernel
theorem dX9_coveredSet_22 : decode cX9_coveredSet 22 = .ok (.iinc 2 1, 3) := by decide +kernel
theorem dX9_coveredSet_25 : decode cX9_coveredSet 25 = .ok (.goto (-21), 3) := by decide +kernel
theorem dX9_coveredSet_28 : decode cX9_coveredSet 28 = .ok (.iload_n 1, 1) := by decide +kernel
theorem dX9_coveredSet_29 : decode cX9_coveredSet 29 = .ok (.ireturn, 1) := by decide +kernel
set_option maxRecDepth 20000 in
theorem ggX9_covered_X9_isIn : GoodIn wsX9_covered wsX9_isIn := goodIn_r _ [5] (by decide +kernel) (by decide +kernel)
set_option maxRecDepth 20000 in
theorem gX9_covered_X9_isIn : GoodIn wsX9_covered (va_wsS RX9 57 yX9_isIn wsX9_isIn) := goodIn_app (goodIn_of _ (by decide +kernel)) ggX9_covered_X9_isIn
set_option maxRecDepth 20000 in
theorem ggX9_covered_X9_coveredSet : GoodIn wsX9_covered wsX9_coveredSet := goodIn_r _ [9, 1, 10, 11, 12, 4, 13, 14, 15, 16, 41, 42, 43, 44, 45, 46, 47, 48, 49, 50, 51, 52, 53, 54, 55, 56, 57, 58, 59, 60, 61, 62, 63, 64] (by decide +kernel) (by decide +kernel)
set_option maxRecDepth 20000 in
theorem gX9_covered_X9_coveredSet : GoodIn wsX9_covered (wsV RX9 189 RX9 yX9_coveredSet wsX9_coveredSet) := goodIn_app (goodIn_of _ (by decide +kernel)) ggX9_covered_X9_coveredSet
set_option maxRecDepth 20000 in
theorem ggX9_covered_X9_tableOf : GoodIn wsX9_covered wsX9_tableOf := goodIn_r _ [20, 21, 22, 23, 24, 4, 25, 1, 26, 27, 28, 29, 30, 31, 32, 33, 34, 35, 36, 37, 38, 39, 40, 41, 42, 43, 44, 45, 46, 47, 48, 49, 50, 51, 52, 53, 54, 55, 56, 57, 58, 59, 60, 61, 62, 63, 64] (by decide +kernel) (by decide +kernel)
set_option maxRecDepth 20000 in
theorem gX9_covered_X9_tableOf : GoodIn wsX9_covered (wsV RX9 148 RX9 yX9_tableOf wsX9_tableOf) := goodIn_app (goodIn_of _ (by decide +kernel)) ggX9_covered_X9_tableOf
theorem dX9_covered_0 : decode cX9_covered 0 = .ok (.iload_n 1, 1) := by decide +kernel
theorem dX9_covered_1 : decode cX9_covered 1 = .ok (.iconst 0, 1) := by decide +kernel
theorem dX9_covered_2 : decode cX9_covered 2 = .ok (.iconst 1, 1) := by decide +kernel
theorem dX9_covered_3 : decode cX9_covered 3 = .ok (.invokestatic 57, 3) := by decide +kernel
theorem dX9_covered_6 : decode cX9_covered 6 = .ok (.ifCond .ne 6, 3) := by decide +kernel
theorem dX9_covered_9 : decode cX9_covered 9 = .ok (.bipush (-2), 2) := by decide +kernel
theorem dX9_covered_11 : decode cX9_covered 11 = .ok (.ireturn, 1) := by decide +kernel
theorem dX9_covered_12 : decode cX9_covered 12 = .ok (.iload_n 1, 1) := by decide +kernel
theorem dX9_covered_13 : decode cX9_covered 13 = .ok (.ifCond .ne 8, 3) := by decide +kernel
theorem dX9_covered_16 : decode cX9_covered 16 = .ok (.aload_n 0, 1) := by decide +kernel
theorem dX9_covered_17 : decode cX9_covered 17 = .ok (.invokevirtual 189, 3) := by decide +kernel
theorem dX9_covered_20 : decode cX9_covered 20 = .ok (.ireturn, 1) := by decide +kernel
theorem dX9_covered_21 : decode cX9_covered 21 = .ok (.aload_n 0, 1) := by decide +kernel
theorem dX9_covered_22 : decode cX9_covered 22 = .ok (.getfield 9, 3) := by decide +kernel
theorem dX9_covered_25 : decode cX9_covered 25 = .ok (.iconst 0, 1) := by decide +kernel
theorem dX9_covered_26 : decode cX9_covered 26 = .ok (.iaload, 1) := by decide +kernel
theorem dX9_covered_27 : decode cX9_covered 27 = .ok (.ifCond .ne 8, 3) := by decide +kernel
theorem dX9_covered_30 : decode cX9_covered 30 = .ok (.bipush (-3), 2) := by decide +kernel
theorem dX9_covered_32 : decode cX9_covered 32 = .ok (.goto 19, 3) := by decide +kernel
theorem dX9_covered_35 : decode cX9_covered 35 = .ok (.aload_n 0, 1) := by decide +kernel
theorem dX9_covered_36 : decode cX9_covered 36 = .ok (.invokevirtual 189, 3) := by decide +kernel
theorem dX9_covered_39 : decode cX9_covered 39 = .ok (.aload_n 0, 1) := by decide +kernel
theorem dX9_covered_40 : decode cX9_covered 40 = .ok (.invokevirtual 148, 3) := by decide +kernel
theorem dX9_covered_43 : decode cX9_covered 43 = .ok (.if_icmp .ne 7, 3) := by decide +kernel
theorem dX9_covered_46 : decode cX9_covered 46 = .ok (.iconst 1, 1) := by decide +kernel
theorem dX9_covered_47 : decode cX9_covered 47 = .ok (.goto 4, 3) := by decide +kernel
theorem dX9_covered_50 : decode cX9_covered 50 = .ok (.iconst 0, 1) := by decide +kernel
theorem dX9_covered_51 : decode cX9_covered 51 = .ok (.ireturn, 1) := by decide +kernel
set_option maxRecDepth 20000 in
theorem ggX9_areHeld_X9_holds : GoodIn wsX9_areHeld wsX9_holds := goodIn_r _ [6, 1, 7, 8, 5, 9, 10, 11, 12, 13, 14, 15, 16, 17, 18, 19, 20, 21, 22, 23, 24, 25, 26, 27, 28, 29, 30, 31, 32, 33] (by decide +kernel) (by decide +kernel)
set_option maxRecDepth 20000 in
theorem gX9_areHeld_X9_holds : GoodIn wsX9_areHeld (wsV RX9 186 RX9 yX9_holds wsX9_holds) := goodIn_app (goodIn_of _ (by decide +kernel)) ggX9_areHeld_X9_holds
theorem dX9_areHeld_0 : decode cX9_areHeld 0 = .ok (.iconst 0, 1) := by decide +kernel
theorem dX9_areHeld_1 : decode cX9_areHeld 1 = .ok (.istore_n 2, 1) := by decide +kernel
theorem dX9_areHeld_2 : decode cX9_areHeld 2 = .ok (.iload_n 2, 1) := by decide +kernel
theorem dX9_areHeld_3 : decode cX9_areHeld 3 = .ok (.aload_n 0, 1) := by decide +kernel
theorem dX9_areHeld_4 : decode cX9_areHeld 4 = .ok (.getfield 9, 3) := by decide +kernel
theorem dX9_areHeld_7 : decode cX9_areHeld 7 = .ok (.iconst 1, 1) := by decide +kernel
theorem dX9_areHeld_8 : decode cX9_areHeld 8 = .ok (.iaload, 1) := by decide +kernel
theorem dX9_areHeld_9 : decode cX9_areHeld 9 = .ok (.if_icmp .ge 23, 3) := by decide +kernel
theorem dX9_areHeld_12 : decode cX9_areHeld 12 = .ok (.iload_n 1, 1) := by decide +kernel
theorem dX9_areHeld_13 : decode cX9_areHeld 13 = .ok (.aload_n 0, 1) := by decide +kernel
theorem dX9_areHeld_14 : decode cX9_areHeld 14 = .ok (.iload_n 2, 1) := by decide +kernel
theorem dX9_areHeld_15 : decode cX9_areHeld 15 = .ok (.invokevirtual 186, 3) := by decide +kernel
theorem dX9_areHeld_18 : decode cX9_areHeld 18 = .ok (.iconst (-1), 1) := by decide +kernel
theorem dX9_areHeld_19 : decode cX9_areHeld 19 = .ok (.ixor, 1) := by decide +kernel
theorem dX9_areHeld_20 : decode cX9_areHeld 20 = .ok (.iand, 1) := by decide +kernel
theorem dX9_areHeld_21 : decode cX9_areHeld 21 = .ok (.ifCond .ne 5, 3) := by decide +kernel
theorem dX9_areHeld_24 : decode cX9_areHeld 24 = .ok (.iconst 1, 1) := by decide +kernel
theorem dX9_areHeld_25 : decode cX9_areHeld 25 = .ok (.ireturn, 1) := by decide +kernel
theorem dX9_areHeld_26 : decode cX9_areHeld 26 = .ok (.iinc 2 1, 3) := by decide +kernel
theorem dX9_areHeld_29 : decode cX9_areHeld 29 = .ok (.goto (-27), 3) := by decide +kernel
theorem dX9_areHeld_32 : decode cX9_areHeld 32 = .ok (.iconst 0, 1) := by decide +kernel
theorem dX9_areHeld_33 : decode cX9_areHeld 33 = .ok (.ireturn, 1) := by decide +kernel
theorem dX9_pairOf_0 : decode cX9_pairOf 0 = .ok (.iload_n 0, 1) := by decide +kernel
theorem dX9_pairOf_1 : decode cX9_pairOf 1 = .ok (.bipush 16, 2) := by decide +kernel
theorem dX9_pairOf_3 : decode cX9_pairOf 3 = .ok (.idiv, 1) := by decide +kernel
theorem dX9_pairOf_4 : decode cX9_pairOf 4 = .ok (.istore_n 1, 1) := by decide +kernel
theorem dX9_pairOf_5 : decode cX9_pairOf 5 = .ok (.iconst 1, 1) := by decide +kernel
theorem dX9_pairOf_6 : decode cX9_pairOf 6 = .ok (.iload_n 1, 1) := by decide +kernel
theorem dX9_pairOf_7 : decode cX9_pairOf 7 = .ok (.ishl, 1) := by decide +kernel
theorem dX9_pairOf_8 : decode cX9_pairOf 8 = .ok (.iconst 1, 1) := by decide +kernel
theorem dX9_pairOf_9 : decode cX9_pairOf 9 = .ok (.iload_n 1, 1) := by decide +kernel
theorem dX9_pairOf_10 : decode cX9_pairOf 10 = .ok (.iconst 1, 1) := by decide +kernel
theorem dX9_pairOf_11 : decode cX9_pairOf 11 = .ok (.iload_n 0, 1) := by decide +kernel
theorem dX9_pairOf_12 : decode cX9_pairOf 12 = .ok (.bipush 16, 2) := by decide +kernel
theorem dX9_pairOf_14 : decode cX9_pairOf 14 = .ok (.irem, 1) := by decide +kernel
theorem dX9_pairOf_15 : decode cX9_pairOf 15 = .ok (.ishl, 1) := by decide +kernel
theorem dX9_pairOf_16 : decode cX9_pairOf 16 = .ok (.ior, 1) := by decide +kernel
theorem dX9_pairOf_17 : decode cX9_pairOf 17 = .ok (.ishl, 1) := by decide +kernel
theorem dX9_pairOf_18 : decode cX9_pairOf 18 = .ok (.ior, 1) := by decide +kernel
theorem dX9_pairOf_19 : decode cX9_pairOf 19 = .ok (.ireturn, 1) := by decide +kernel
set_option maxRecDepth 20000 in
theorem ggX9_opensAll_X9_coveredSet : GoodIn wsX9_opensAll wsX9_coveredSet := goodIn_r _ [7, 8, 9, 10, 11, 6, 12, 13, 14, 15, 26, 27, 28, 29, 30, 31, 32, 33, 34, 35, 36, 37, 38, 39, 40, 41, 42, 43, 44, 45, 46, 47, 48, 49] (by decide +kernel) (by decide +kernel)
set_option maxRecDepth 20000 in
theorem gX9_opensAll_X9_coveredSet : GoodIn wsX9_opensAll (wsV RX9 189 RX9 yX9_coveredSet wsX9_coveredSet) := goodIn_app (goodIn_of _ (by decide +kernel)) ggX9_opensAll_X9_coveredSet
set_option maxRecDepth 20000 in
theorem ggX9_opensAll_X9_has : GoodIn wsX9_opensAll wsX9_has := goodIn_r _ [18] (by decide +kernel) (by decide +kernel)
set_option maxRecDepth 20000 in
theorem gX9_opensAll_X9_has : GoodIn wsX9_opensAll (va_wsS RX9 195 yX9_has wsX9_has) := goodIn_app (goodIn_of _ (by decide +kernel)) ggX9_opensAll_X9_has
set_option maxRecDepth 20000 in
theorem ggX9_opensAll_X9_pairOf : GoodIn wsX9_opensAll wsX9_pairOf := goodIn_r _ [21] (by decide +kernel) (by decide +kernel)
set_option maxRecDepth 20000 in
theorem gX9_opensAll_X9_pairOf : GoodIn wsX9_opensAll (va_wsS RX9 198 yX9_pairOf wsX9_pairOf) := goodIn_app (goodIn_of _ (by decide +kernel)) ggX9_opensAll_X9_pairOf
set_option maxRecDepth 20000 in
theorem ggX9_opensAll_X9_areHeld : GoodIn wsX9_opensAll wsX9_areHeld := goodIn_r _ [25, 8, 9, 10, 11, 6, 12, 13, 14, 15, 26, 27, 28, 29, 30, 31, 32, 33, 34, 35, 36, 37, 38, 39, 40, 41, 42, 43, 44, 45, 46, 47, 48, 49] (by decide +kernel) (by decide +kernel)
set_option maxRecDepth 20000 in
theorem gX9_opensAll_X9_areHeld : GoodIn wsX9_opensAll (wsV RX9 201 RX9 yX9_areHeld wsX9_areHeld) := goodIn_app (goodIn_of _ (by decide +kernel)) ggX9_opensAll_X9_areHeld
theorem dX9_opensAll_0 : decode cX9_opensAll 0 = .ok (.aload_n 0, 1) := by decide +kernel
theorem dX9_opensAll_1 : decode cX9_opensAll 1 = .ok (.invokevirtual 189, 3) := by decide +kernel
theorem dX9_opensAll_4 : decode cX9_opensAll 4 = .ok (.istore_n 1, 1) := by decide +kernel
theorem dX9_opensAll_5 : decode cX9_opensAll 5 = .ok (.aload_n 0, 1) := by decide +kernel
theorem dX9_opensAll_6 : decode cX9_opensAll 6 = .ok (.iconst 0, 1) := by decide +kernel
theorem dX9_opensAll_7 : decode cX9_opensAll 7 = .ok (.putfield 192, 3) := by decide +kernel
theorem dX9_opensAll_10 : decode cX9_opensAll 10 = .ok (.iconst 0, 1) := by decide +kernel
theorem dX9_opensAll_11 : decode cX9_opensAll 11 = .ok (.istore_n 2, 1) := by decide +kernel
theorem dX9_opensAll_12 : decode cX9_opensAll 12 = .ok (.iload_n 2, 1) := by decide +kernel
theorem dX9_opensAll_13 : decode cX9_opensAll 13 = .ok (.bipush 16, 2) := by decide +kernel
theorem dX9_opensAll_15 : decode cX9_opensAll 15 = .ok (.if_icmp .ge 86, 3) := by decide +kernel
theorem dX9_opensAll_18 : decode cX9_opensAll 18 = .ok (.iconst 0, 1) := by decide +kernel
theorem dX9_opensAll_19 : decode cX9_opensAll 19 = .ok (.istore_n 3, 1) := by decide +kernel
theorem dX9_opensAll_20 : decode cX9_opensAll 20 = .ok (.iload_n 3, 1) := by decide +kernel
theorem dX9_opensAll_21 : decode cX9_opensAll 21 = .ok (.iconst 4, 1) := by decide +kernel
theorem dX9_opensAll_22 : decode cX9_opensAll 22 = .ok (.if_icmp .ge 73, 3) := by decide +kernel
theorem dX9_opensAll_25 : decode cX9_opensAll 25 = .ok (.bipush 16, 2) := by decide +kernel
theorem dX9_opensAll_27 : decode cX9_opensAll 27 = .ok (.iload_n 2, 1) := by decide +kernel
theorem dX9_opensAll_28 : decode cX9_opensAll 28 = .ok (.imul, 1) := by decide +kernel
theorem dX9_opensAll_29 : decode cX9_opensAll 29 = .ok (.iload_n 3, 1) := by decide +kernel
theorem dX9_opensAll_30 : decode cX9_opensAll 30 = .ok (.iadd, 1) := by decide +kernel
theorem dX9_opensAll_31 : decode cX9_opensAll 31 = .ok (.istore 4, 2) := by decide +kernel
theorem dX9_opensAll_33 : decode cX9_opensAll 33 = .ok (.iload_n 2, 1) := by decide +kernel
theorem dX9_opensAll_34 : decode cX9_opensAll 34 = .ok (.iload_n 3, 1) := by decide +kernel
theorem dX9_opensAll_35 : decode cX9_opensAll 35 = .ok (.invokestatic 195, 3) := by decide +kernel
theorem dX9_opensAll_38 : decode cX9_opensAll 38 = .ok (.ifCond .ne 51, 3) := by decide +kernel
theorem dX9_opensAll_41 : decode cX9_opensAll 41 = .ok (.iload 4, 2) := by decide +kernel
theorem dX9_opensAll_43 : decode cX9_opensAll 43 = .ok (.invokestatic 198, 3) := by decide +kernel
theorem dX9_opensAll_46 : decode cX9_opensAll 46 = .ok (.iload_n 1, 1) := by decide +kernel
theorem dX9_opensAll_47 : decode cX9_opensAll 47 = .ok (.iconst (-1), 1) := by decide +kernel
theorem dX9_opensAll_48 : decode cX9_opensAll 48 = .ok (.ixor, 1) := by decide +kernel
theorem dX9_opensAll_49 : decode cX9_opensAll 49 = .ok (.iand, 1) := by decide +kernel
theorem dX9_opensAll_50 : decode cX9_opensAll 50 = .ok (.ifCond .ne 39, 3) := by decide +kernel
theorem dX9_opensAll_53 : decode cX9_opensAll 53 = .ok (.aload_n 0, 1) := by decide +kernel
theorem dX9_opensAll_54 : decode cX9_opensAll 54 = .ok (.iload 4, 2) := by decide +kernel
theorem dX9_opensAll_56 : decode cX9_opensAll 56 = .ok (.invokestatic 198, 3) := by decide +kernel
theorem dX9_opensAll_59 : decode cX9_opensAll 59 = .ok (.invokevirtual 201, 3) := by decide +kernel
theorem dX9_opensAll_62 : decode cX9_opensAll 62 = .ok (.ifCond .eq 6, 3) := by decide +kernel
theorem dX9_opensAll_65 : decode cX9_opensAll 65 = .ok (.goto 24, 3) := by decide +kernel
theorem dX9_opensAll_68 : decode cX9_opensAll 68 = .ok (.aload_n 0, 1) := by decide +kernel
theorem dX9_opensAll_69 : decode cX9_opensAll 69 = .ok (.getfield 35, 3) := by decide +kernel
theorem dX9_opensAll_72 : decode cX9_opensAll 72 = .ok (.aload_n 0, 1) := by decide +kernel
theorem dX9_opensAll_73 : decode cX9_opensAll 73 = .ok (.getfield 192, 3) := by decide +kernel
theorem dX9_opensAll_76 : decode cX9_opensAll 76 = .ok (.iload 4, 2) := by decide +kernel
theorem dX9_opensAll_78 : decode cX9_opensAll 78 = .ok (.iastore, 1) := by decide +kernel
theorem dX9_opensAll_79 : decode cX9_opensAll 79 = .ok (.aload_n 0, 1) := by decide +kernel
theorem dX9_opensAll_80 : decode cX9_opensAll 80 = .ok (.dup, 1) := by decide +kernel
theorem dX9_opensAll_81 : decode cX9_opensAll 81 = .ok (.getfield 192, 3) := by decide +kernel
theorem dX9_opensAll_84 : decode cX9_opensAll 84 = .ok (.iconst 1, 1) := by decide +kernel
theorem dX9_opensAll_85 : decode cX9_opensAll 85 = .ok (.iadd, 1) := by decide +kernel
theorem dX9_opensAll_86 : decode cX9_opensAll 86 = .ok (.putfield 192, 3) := by decide +kernel
theorem dX9_opensAll_89 : decode cX9_opensAll 89 = .ok (.iinc 3 1, 3) := by decide +kernel
theorem dX9_opensAll_92 : decode cX9_opensAll 92 = .ok (.goto (-72), 3) := by decide +kernel
theorem dX9_opensAll_95 : decode cX9_opensAll 95 = .ok (.iinc 2 1, 3) := by decide +kernel
theorem dX9_opensAll_98 : decode cX9_opensAll 98 = .ok (.goto (-86), 3) := by decide +kernel
theorem dX9_opensAll_101 : decode cX9_opensAll 101 = .ok (.return_, 1) := by decide +kernel
set_option maxRecDepth 20000 in
theorem ggX9_open_X9_opensAll : GoodIn wsX9_open wsX9_opensAll := goodIn_r _ [7, 1, 2, 8, 9, 10, 6, 11, 12, 13, 14, 15, 16, 17, 18, 19, 20, 21, 22, 23, 24, 25, 26, 27, 28, 29, 33, 34, 35, 36, 37, 38, 39, 40, 41, 42, 43, 44, 45, 46, 47, 48, 49, 50, 51, 52, 53, 54, 55, 56] (by decide +kernel) (by decide +kernel)
set_option maxRecDepth 20000 in
theorem gX9_open_X9_opensAll : GoodIn wsX9_open (wsV RX9 204 RX9 yX9_opensAll wsX9_opensAll) := goodIn_app (goodIn_of _ (by decide +kernel)) ggX9_open_X9_opensAll
set_option maxRecDepth 20000 in
theorem ggX9_open_X9_isIn : GoodIn wsX9_open wsX9_isIn := goodIn_r _ [32] (by decide +kernel) (by decide +kernel)
set_option maxRecDepth 20000 in
theorem gX9_open_X9_isIn : GoodIn wsX9_open (va_wsS RX9 57 yX9_isIn wsX9_isIn) := goodIn_app (goodIn_of _ (by decide +kernel)) ggX9_open_X9_isIn
theorem dX9_open_0 : decode cX9_open 0 = .ok (.aload_n 0, 1) := by decide +kernel
theorem dX9_open_1 : decode cX9_open 1 = .ok (.invokevirtual 204, 3) := by decide +kernel
theorem dX9_open_4 : decode cX9_open 4 = .ok (.iload_n 1, 1) := by decide +kernel
theorem dX9_open_5 : decode cX9_open 5 = .ok (.iconst (-1), 1) := by decide +kernel
theorem dX9_open_6 : decode cX9_open 6 = .ok (.if_icmp .ne 10, 3) := by decide +kernel
theorem dX9_open_9 : decode cX9_open 9 = .ok (.aload_n 0, 1) := by decide +kernel
theorem dX9_open_10 : decode cX9_open 10 = .ok (.getfield 192, 3) := by decide +kernel
theorem dX9_open_13 : decode cX9_open 13 = .ok (.goto 28, 3) := by decide +kernel
theorem dX9_open_16 : decode cX9_open 16 = .ok (.iload_n 1, 1) := by decide +kernel
theorem dX9_open_17 : decode cX9_open 17 = .ok (.iconst 0, 1) := by decide +kernel
theorem dX9_open_18 : decode cX9_open 18 = .ok (.aload_n 0, 1) := by decide +kernel
theorem dX9_open_19 : decode cX9_open 19 = .ok (.getfield 192, 3) := by decide +kernel
theorem dX9_open_22 : decode cX9_open 22 = .ok (.iconst 1, 1) := by decide +kernel
theorem dX9_open_23 : decode cX9_open 23 = .ok (.isub, 1) := by decide +kernel
theorem dX9_open_24 : decode cX9_open 24 = .ok (.invokestatic 57, 3) := by decide +kernel
theorem dX9_open_27 : decode cX9_open 27 = .ok (.ifCond .eq 12, 3) := by decide +kernel
theorem dX9_open_30 : decode cX9_open 30 = .ok (.aload_n 0, 1) := by decide +kernel
theorem dX9_open_31 : decode cX9_open 31 = .ok (.getfield 35, 3) := by decide +kernel
theorem dX9_open_34 : decode cX9_open 34 = .ok (.iload_n 1, 1) := by decide +kernel
theorem dX9_open_35 : decode cX9_open 35 = .ok (.iaload, 1) := by decide +kernel
theorem dX9_open_36 : decode cX9_open 36 = .ok (.goto 5, 3) := by decide +kernel
theorem dX9_open_39 : decode cX9_open 39 = .ok (.bipush (-12), 2) := by decide +kernel
theorem dX9_open_41 : decode cX9_open 41 = .ok (.ireturn, 1) := by decide +kernel
set_option maxRecDepth 20000 in
theorem ggX9_isWithin_X9_holdsBy : GoodIn wsX9_isWithin wsX9_holdsBy := goodIn_r _ [4] (by decide +kernel) (by decide +kernel)
set_option maxRecDepth 20000 in
theorem gX9_isWithin_X9_holdsBy : GoodIn wsX9_isWithin (va_wsS RX9 180 yX9_holdsBy wsX9_holdsBy) := goodIn_app (goodIn_of _ (by decide +kernel)) ggX9_isWithin_X9_holdsBy
theorem dX9_isWithin_0 : decode cX9_isWithin 0 = .ok (.iload_n 0, 1) := by decide +kernel
theorem dX9_isWithin_1 : decode cX9_isWithin 1 = .ok (.iload_n 1, 1) := by decide +kernel
theorem dX9_isWithin_2 : decode cX9_isWithin 2 = .ok (.invokestatic 180, 3) := by decide +kernel
theorem dX9_isWithin_5 : decode cX9_isWithin 5 = .ok (.iload_n 2, 1) := by decide +kernel
theorem dX9_isWithin_6 : decode cX9_isWithin 6 = .ok (.iconst (-1), 1) := by decide +kernel
theorem dX9_isWithin_7 : decode cX9_isWithin 7 = .ok (.ixor, 1) := by decide +kernel
theorem dX9_isWithin_8 : decode cX9_isWithin 8 = .ok (.iand, 1) := by decide +kernel
theorem dX9_isWithin_9 : decode cX9_isWithin 9 = .ok (.ifCond .ne 7, 3) := by decide +kernel
theorem dX9_isWithin_12 : decode cX9_isWithin 12 = .ok (.iconst 1, 1) := by decide +kernel
theorem dX9_isWithin_13 : decode cX9_isWithin 13 = .ok (.goto 4, 3) := by decide +kernel
theorem dX9_isWithin_16 : decode cX9_isWithin 16 = .ok (.iconst 0, 1) := by decide +kernel
theorem dX9_isWithin_17 : decode cX9_isWithin 17 = .ok (.ireturn, 1) := by decide +kernel
set_option maxRecDepth 20000 in
theorem ggX9_isPrime_X9_isWithin : GoodIn wsX9_isPrime wsX9_isWithin := goodIn_r _ [4, 5, 6, 3, 7] (by decide +kernel) (by decide +kernel)
set_option maxRecDepth 20000 in
theorem gX9_isPrime_X9_isWithin : GoodIn wsX9_isPrime (va_wsS RX9 207 yX9_isWithin wsX9_isWithin) := goodIn_app (goodIn_of _ (by decide +kernel)) ggX9_isPrime_X9_isWithin
theorem dX9_isPrime_0 : decode cX9_isPrime 0 = .ok (.iload_n 0, 1) := by decide +kernel
theorem dX9_isPrime_1 : decode cX9_isPrime 1 = .ok (.iload_n 1, 1) := by decide +kernel
theorem dX9_isPrime_2 : decode cX9_isPrime 2 = .ok (.iload_n 2, 1) := by decide +kernel
theorem dX9_isPrime_3 : decode cX9_isPrime 3 = .ok (.invokestatic 207, 3) := by decide +kernel
theorem dX9_isPrime_6 : decode cX9_isPrime 6 = .ok (.ifCond .ne 5, 3) := by decide +kernel
theorem dX9_isPrime_9 : decode cX9_isPrime 9 = .ok (.iconst 0, 1) := by decide +kernel
theorem dX9_isPrime_10 : decode cX9_isPrime 10 = .ok (.ireturn, 1) := by decide +kernel
theorem dX9_isPrime_11 : decode cX9_isPrime 11 = .ok (.iconst 0, 1) := by decide +kernel
theorem dX9_isPrime_12 : decode cX9_isPrime 12 = .ok (.istore_n 3, 1) := by decide +kernel
theorem dX9_isPrime_13 : decode cX9_isPrime 13 = .ok (.iload_n 3, 1) := by decide +kernel
theorem dX9_isPrime_14 : decode cX9_isPrime 14 = .ok (.iload_n 0, 1) := by decide +kernel
theorem dX9_isPrime_15 : decode cX9_isPrime 15 = .ok (.if_icmp .ge 30, 3) := by decide +kernel
theorem dX9_isPrime_18 : decode cX9_isPrime 18 = .ok (.iload_n 3, 1) := by decide +kernel
theorem dX9_isPrime_19 : decode cX9_isPrime 19 = .ok (.iload_n 0, 1) := by decide +kernel
theorem dX9_isPrime_20 : decode cX9_isPrime 20 = .ok (.iconst (-1), 1) := by decide +kernel
theorem dX9_isPrime_21 : decode cX9_isPrime 21 = .ok (.ixor, 1) := by decide +kernel
theorem dX9_isPrime_22 : decode cX9_isPrime 22 = .ok (.iand, 1) := by decide +kernel
theorem dX9_isPrime_23 : decode cX9_isPrime 23 = .ok (.ifCond .ne 16, 3) := by decide +kernel
theorem dX9_isPrime_26 : decode cX9_isPrime 26 = .ok (.iload_n 3, 1) := by decide +kernel
theorem dX9_isPrime_27 : decode cX9_isPrime 27 = .ok (.iload_n 1, 1) := by decide +kernel
theorem dX9_isPrime_28 : decode cX9_isPrime 28 = .ok (.iload_n 3, 1) := by decide +kernel
theorem dX9_isPrime_29 : decode cX9_isPrime 29 = .ok (.iand, 1) := by decide +kernel
theorem dX9_isPrime_30 : decode cX9_isPrime 30 = .ok (.iload_n 2, 1) := by decide +kernel
theorem dX9_isPrime_31 : decode cX9_isPrime 31 = .ok (.invokestatic 207, 3) := by decide +kernel
theorem dX9_isPrime_34 : decode cX9_isPrime 34 = .ok (.ifCond .eq 5, 3) := by decide +kernel
theorem dX9_isPrime_37 : decode cX9_isPrime 37 = .ok (.iconst 0, 1) := by decide +kernel
theorem dX9_isPrime_38 : decode cX9_isPrime 38 = .ok (.ireturn, 1) := by decide +kernel
theorem dX9_isPrime_39 : decode cX9_isPrime 39 = .ok (.iinc 3 1, 3) := by decide +kernel
theorem dX9_isPrime_42 : decode cX9_isPrime 42 = .ok (.goto (-29), 3) := by decide +kernel
theorem dX9_isPrime_45 : decode cX9_isPrime 45 = .ok (.iconst 1, 1) := by decide +kernel
theorem dX9_isPrime_46 : decode cX9_isPrime 46 = .ok (.ireturn, 1) := by decide +kernel
set_option maxRecDepth 20000 in
theorem ggX9_primesAll_X9_coveredSet : GoodIn wsX9_primesAll wsX9_coveredSet := goodIn_r _ [7, 8, 9, 10, 11, 6, 12, 13, 14, 15, 22, 23, 24, 25, 26, 27, 28, 29, 30, 31, 32, 33, 34, 35, 36, 37, 38, 39, 40, 41, 42, 43, 44, 45] (by decide +kernel) (by decide +kernel)
set_option maxRecDepth 20000 in
theorem gX9_primesAll_X9_coveredSet : GoodIn wsX9_primesAll (wsV RX9 189 RX9 yX9_coveredSet wsX9_coveredSet) := goodIn_app (goodIn_of _ (by decide +kernel)) ggX9_primesAll_X9_coveredSet
set_option maxRecDepth 20000 in
theorem ggX9_primesAll_X9_isPrime : GoodIn wsX9_primesAll wsX9_isPrime := goodIn_r _ [18, 19, 20, 6, 21, 13, 14, 15] (by decide +kernel) (by decide +kernel)
set_option maxRecDepth 20000 in
theorem gX9_primesAll_X9_isPrime : GoodIn wsX9_primesAll (va_wsS RX9 213 yX9_isPrime wsX9_isPrime) := goodIn_app (goodIn_of _ (by decide +kernel)) ggX9_primesAll_X9_isPrime
theorem dX9_primesAll_0 : decode cX9_primesAll 0 = .ok (.aload_n 0, 1) := by decide +kernel
theorem dX9_primesAll_1 : decode cX9_primesAll 1 = .ok (.invokevirtual 189, 3) := by decide +kernel
theorem dX9_primesAll_4 : decode cX9_primesAll 4 = .ok (.istore_n 1, 1) := by decide +kernel
theorem dX9_primesAll_5 : decode cX9_primesAll 5 = .ok (.aload_n 0, 1) := by decide +kernel
theorem dX9_primesAll_6 : decode cX9_primesAll 6 = .ok (.iconst 0, 1) := by decide +kernel
theorem dX9_primesAll_7 : decode cX9_primesAll 7 = .ok (.putfield 210, 3) := by decide +kernel
theorem dX9_primesAll_10 : decode cX9_primesAll 10 = .ok (.iconst 0, 1) := by decide +kernel
theorem dX9_primesAll_11 : decode cX9_primesAll 11 = .ok (.istore_n 2, 1) := by decide +kernel
theorem dX9_primesAll_12 : decode cX9_primesAll 12 = .ok (.iload_n 2, 1) := by decide +kernel
theorem dX9_primesAll_13 : decode cX9_primesAll 13 = .ok (.bipush 16, 2) := by decide +kernel
theorem dX9_primesAll_15 : decode cX9_primesAll 15 = .ok (.if_icmp .ge 67, 3) := by decide +kernel
theorem dX9_primesAll_18 : decode cX9_primesAll 18 = .ok (.iconst 0, 1) := by decide +kernel
theorem dX9_primesAll_19 : decode cX9_primesAll 19 = .ok (.istore_n 3, 1) := by decide +kernel
theorem dX9_primesAll_20 : decode cX9_primesAll 20 = .ok (.iload_n 3, 1) := by decide +kernel
theorem dX9_primesAll_21 : decode cX9_primesAll 21 = .ok (.iload_n 2, 1) := by decide +kernel
theorem dX9_primesAll_22 : decode cX9_primesAll 22 = .ok (.if_icmp .gt 54, 3) := by decide +kernel
theorem dX9_primesAll_25 : decode cX9_primesAll 25 = .ok (.iload_n 3, 1) := by decide +kernel
theorem dX9_primesAll_26 : decode cX9_primesAll 26 = .ok (.iload_n 2, 1) := by decide +kernel
theorem dX9_primesAll_27 : decode cX9_primesAll 27 = .ok (.iconst (-1), 1) := by decide +kernel
theorem dX9_primesAll_28 : decode cX9_primesAll 28 = .ok (.ixor, 1) := by decide +kernel
theorem dX9_primesAll_29 : decode cX9_primesAll 29 = .ok (.iand, 1) := by decide +kernel
theorem dX9_primesAll_30 : decode cX9_primesAll 30 = .ok (.ifCond .ne 40, 3) := by decide +kernel
theorem dX9_primesAll_33 : decode cX9_primesAll 33 = .ok (.iload_n 2, 1) := by decide +kernel
theorem dX9_primesAll_34 : decode cX9_primesAll 34 = .ok (.iload_n 3, 1) := by decide +kernel
theorem dX9_primesAll_35 : decode cX9_primesAll 35 = .ok (.iload_n 1, 1) := by decide +kernel
theorem dX9_primesAll_36 : decode cX9_primesAll 36 = .ok (.invokestatic 213, 3) := by decide +kernel
theorem dX9_primesAll_39 : decode cX9_primesAll 39 = .ok (.ifCond .ne 6, 3) := by decide +kernel
theorem dX9_primesAll_42 : decode cX9_primesAll 42 = .ok (.goto 28, 3) := by decide +kernel
theorem dX9_primesAll_45 : decode cX9_primesAll 45 = .ok (.aload_n 0, 1) := by decide +kernel
theorem dX9_primesAll_46 : decode cX9_primesAll 46 = .ok (.getfield 38, 3) := by decide +kernel
theorem dX9_primesAll_49 : decode cX9_primesAll 49 = .ok (.aload_n 0, 1) := by decide +kernel
theorem dX9_primesAll_50 : decode cX9_primesAll 50 = .ok (.getfield 210, 3) := by decide +kernel
theorem dX9_primesAll_53 : decode cX9_primesAll 53 = .ok (.bipush 16, 2) := by decide +kernel
theorem dX9_primesAll_55 : decode cX9_primesAll 55 = .ok (.iload_n 2, 1) := by decide +kernel
theorem dX9_primesAll_56 : decode cX9_primesAll 56 = .ok (.imul, 1) := by decide +kernel
theorem dX9_primesAll_57 : decode cX9_primesAll 57 = .ok (.iload_n 3, 1) := by decide +kernel
theorem dX9_primesAll_58 : decode cX9_primesAll 58 = .ok (.iadd, 1) := by decide +kernel
theorem dX9_primesAll_59 : decode cX9_primesAll 59 = .ok (.iastore, 1) := by decide +kernel
theorem dX9_primesAll_60 : decode cX9_primesAll 60 = .ok (.aload_n 0, 1) := by decide +kernel
theorem dX9_primesAll_61 : decode cX9_primesAll 61 = .ok (.dup, 1) := by decide +kernel
theorem dX9_primesAll_62 : decode cX9_primesAll 62 = .ok (.getfield 210, 3) := by decide +kernel
theorem dX9_primesAll_65 : decode cX9_primesAll 65 = .ok (.iconst 1, 1) := by decide +kernel
theorem dX9_primesAll_66 : decode cX9_primesAll 66 = .ok (.iadd, 1) := by decide +kernel
theorem dX9_primesAll_67 : decode cX9_primesAll 67 = .ok (.putfield 210, 3) := by decide +kernel
theorem dX9_primesAll_70 : decode cX9_primesAll 70 = .ok (.iinc 3 1, 3) := by decide +kernel
theorem dX9_primesAll_73 : decode cX9_primesAll 73 = .ok (.goto (-53), 3) := by decide +kernel
theorem dX9_primesAll_76 : decode cX9_primesAll 76 = .ok (.iinc 2 1, 3) := by decide +kernel
theorem dX9_primesAll_79 : decode cX9_primesAll 79 = .ok (.goto (-67), 3) := by decide +kernel
theorem dX9_primesAll_82 : decode cX9_primesAll 82 = .ok (.return_, 1) := by decide +kernel
set_option maxRecDepth 20000 in
theorem ggX9_prime_X9_primesAll : GoodIn wsX9_prime wsX9_primesAll := goodIn_r _ [7, 1, 2, 8, 9, 10, 6, 11, 12, 13, 14, 15, 16, 17, 18, 19, 20, 21, 22, 23, 24, 25, 29, 30, 31, 32, 33, 34, 35, 36, 37, 38, 39, 40, 41, 42, 43, 44, 45, 46, 47, 48, 49, 50, 51, 52] (by decide +kernel) (by decide +kernel)
set_option maxRecDepth 20000 in
theorem gX9_prime_X9_primesAll : GoodIn wsX9_prime (wsV RX9 216 RX9 yX9_primesAll wsX9_primesAll) := goodIn_app (goodIn_of _ (by decide +kernel)) ggX9_prime_X9_primesAll
set_option maxRecDepth 20000 in
theorem ggX9_prime_X9_isIn : GoodIn wsX9_prime wsX9_isIn := goodIn_r _ [28] (by decide +kernel) (by decide +kernel)
set_option maxRecDepth 20000 in
theorem gX9_prime_X9_isIn : GoodIn wsX9_prime (va_wsS RX9 57 yX9_isIn wsX9_isIn) := goodIn_app (goodIn_of _ (by decide +kernel)) ggX9_prime_X9_isIn
theorem dX9_prime_0 : decode cX9_prime 0 = .ok (.aload_n 0, 1) := by decide +kernel
theorem dX9_prime_1 : decode cX9_prime 1 = .ok (.invokevirtual 216, 3) := by decide +kernel
theorem dX9_prime_4 : decode cX9_prime 4 = .ok (.iload_n 1, 1) := by decide +kernel
theorem dX9_prime_5 : decode cX9_prime 5 = .ok (.iconst (-1), 1) := by decide +kernel
theorem dX9_prime_6 : decode cX9_prime 6 = .ok (.if_icmp .ne 10, 3) := by decide +kernel
theorem dX9_prime_9 : decode cX9_prime 9 = .ok (.aload_n 0, 1) := by decide +kernel
theorem dX9_prime_10 : decode cX9_prime 10 = .ok (.getfield 210, 3) := by decide +kernel
theorem dX9_prime_13 : decode cX9_prime 13 = .ok (.goto 28, 3) := by decide +kernel
theorem dX9_prime_16 : decode cX9_prime 16 = .ok (.iload_n 1, 1) := by decide +kernel
theorem dX9_prime_17 : decode cX9_prime 17 = .ok (.iconst 0, 1) := by decide +kernel
theorem dX9_prime_18 : decode cX9_prime 18 = .ok (.aload_n 0, 1) := by decide +kernel
theorem dX9_prime_19 : decode cX9_prime 19 = .ok (.getfield 210, 3) := by decide +kernel
theorem dX9_prime_22 : decode cX9_prime 22 = .ok (.iconst 1, 1) := by decide +kernel
theorem dX9_prime_23 : decode cX9_prime 23 = .ok (.isub, 1) := by decide +kernel
theorem dX9_prime_24 : decode cX9_prime 24 = .ok (.invokestatic 57, 3) := by decide +kernel
theorem dX9_prime_27 : decode cX9_prime 27 = .ok (.ifCond .eq 12, 3) := by decide +kernel
theorem dX9_prime_30 : decode cX9_prime 30 = .ok (.aload_n 0, 1) := by decide +kernel
theorem dX9_prime_31 : decode cX9_prime 31 = .ok (.getfield 38, 3) := by decide +kernel
theorem dX9_prime_34 : decode cX9_prime 34 = .ok (.iload_n 1, 1) := by decide +kernel
theorem dX9_prime_35 : decode cX9_prime 35 = .ok (.iaload, 1) := by decide +kernel
theorem dX9_prime_36 : decode cX9_prime 36 = .ok (.goto 5, 3) := by decide +kernel
theorem dX9_prime_39 : decode cX9_prime 39 = .ok (.bipush (-12), 2) := by decide +kernel
theorem dX9_prime_41 : decode cX9_prime 41 = .ok (.ireturn, 1) := by decide +kernel
set_option maxRecDepth 20000 in
theorem ggX9_helds_X9_primesAll : GoodIn wsX9_helds wsX9_primesAll := goodIn_r _ [10, 3, 5, 11, 12, 13, 9, 14, 15, 16, 17, 18, 19, 20, 21, 22, 23, 24, 25, 26, 27, 28, 43, 44, 45, 46, 47, 48, 49, 50, 51, 52, 53, 54, 55, 56, 57, 58, 59, 60, 61, 62, 63, 64, 65, 66] (by decide +kernel) (by decide +kernel)
set_option maxRecDepth 20000 in
theorem gX9_helds_X9_primesAll : GoodIn wsX9_helds (wsV RX9 216 RX9 yX9_primesAll wsX9_primesAll) := goodIn_app (goodIn_of _ (by decide +kernel)) ggX9_helds_X9_primesAll
set_option maxRecDepth 20000 in
theorem ggX9_helds_X9_opensAll : GoodIn wsX9_helds wsX9_opensAll := goodIn_r _ [32, 1, 4, 11, 12, 13, 9, 14, 15, 16, 17, 18, 19, 20, 21, 22, 33, 34, 35, 36, 37, 38, 39, 40, 41, 42, 43, 44, 45, 46, 47, 48, 49, 50, 51, 52, 53, 54, 55, 56, 57, 58, 59, 60, 61, 62, 63, 64, 65, 66] (by decide +kernel) (by decide +kernel)
set_option maxRecDepth 20000 in
theorem gX9_helds_X9_opensAll : GoodIn wsX9_helds (wsV RX9 204 RX9 yX9_opensAll wsX9_opensAll) := goodIn_app (goodIn_of _ (by decide +kernel)) ggX9_helds_X9_opensAll
set_option maxRecDepth 20000 in
theorem ggX9_helds_X9_pairOf : GoodIn wsX9_helds wsX9_pairOf := goodIn_r _ [38] (by decide +kernel) (by decide +kernel)
set_option maxRecDepth 20000 in
theorem gX9_helds_X9_pairOf : GoodIn wsX9_helds (va_wsS RX9 198 yX9_pairOf wsX9_pairOf) := goodIn_app (goodIn_of _ (by decide +kernel)) ggX9_helds_X9_pairOf
set_option maxRecDepth 20000 in
theorem ggX9_helds_X9_holdsBy : GoodIn wsX9_helds wsX9_holdsBy := goodIn_r _ [22] (by decide +kernel) (by decide +kernel)
set_option maxRecDepth 20000 in
theorem gX9_helds_X9_holdsBy : GoodIn wsX9_helds (va_wsS RX9 180 yX9_holdsBy wsX9_holdsBy) := goodIn_app (goodIn_of _ (by decide +kernel)) ggX9_helds_X9_holdsBy
theorem dX9_helds_0 : decode cX9_helds 0 = .ok (.aload_n 0, 1) := by decide +kernel
theorem dX9_helds_1 : decode cX9_helds 1 = .ok (.invokevirtual 216, 3) := by decide +kernel
theorem dX9_helds_4 : decode cX9_helds 4 = .ok (.aload_n 0, 1) := by decide +kernel
theorem dX9_helds_5 : decode cX9_helds 5 = .ok (.invokevirtual 204, 3) := by decide +kernel
theorem dX9_helds_8 : decode cX9_helds 8 = .ok (.iconst 0, 1) := by decide +kernel
theorem dX9_helds_9 : decode cX9_helds 9 = .ok (.istore_n 1, 1) := by decide +kernel
theorem dX9_helds_10 : decode cX9_helds 10 = .ok (.iload_n 1, 1) := by decide +kernel
theorem dX9_helds_11 : decode cX9_helds 11 = .ok (.aload_n 0, 1) := by decide +kernel
theorem dX9_helds_12 : decode cX9_helds 12 = .ok (.getfield 192, 3) := by decide +kernel
theorem dX9_helds_15 : decode cX9_helds 15 = .ok (.if_icmp .ge 84, 3) := by decide +kernel
theorem dX9_helds_18 : decode cX9_helds 18 = .ok (.aload_n 0, 1) := by decide +kernel
theorem dX9_helds_19 : decode cX9_helds 19 = .ok (.getfield 41, 3) := by decide +kernel
theorem dX9_helds_22 : decode cX9_helds 22 = .ok (.iload_n 1, 1) := by decide +kernel
theorem dX9_helds_23 : decode cX9_helds 23 = .ok (.iconst 0, 1) := by decide +kernel
theorem dX9_helds_24 : decode cX9_helds 24 = .ok (.iastore, 1) := by decide +kernel
theorem dX9_helds_25 : decode cX9_helds 25 = .ok (.iconst 0, 1) := by decide +kernel
theorem dX9_helds_26 : decode cX9_helds 26 = .ok (.istore_n 2, 1) := by decide +kernel
theorem dX9_helds_27 : decode cX9_helds 27 = .ok (.iload_n 2, 1) := by decide +kernel
theorem dX9_helds_28 : decode cX9_helds 28 = .ok (.aload_n 0, 1) := by decide +kernel
theorem dX9_helds_29 : decode cX9_helds 29 = .ok (.getfield 210, 3) := by decide +kernel
theorem dX9_helds_32 : decode cX9_helds 32 = .ok (.if_icmp .ge 61, 3) := by decide +kernel
theorem dX9_helds_35 : decode cX9_helds 35 = .ok (.aload_n 0, 1) := by decide +kernel
theorem dX9_helds_36 : decode cX9_helds 36 = .ok (.getfield 41, 3) := by decide +kernel
theorem dX9_helds_39 : decode cX9_helds 39 = .ok (.iload_n 1, 1) := by decide +kernel
theorem dX9_helds_40 : decode cX9_helds 40 = .ok (.dup2, 1) := by decide +kernel
theorem dX9_helds_41 : decode cX9_helds 41 = .ok (.iaload, 1) := by decide +kernel
theorem dX9_helds_42 : decode cX9_helds 42 = .ok (.aload_n 0, 1) := by decide +kernel
theorem dX9_helds_43 : decode cX9_helds 43 = .ok (.getfield 35, 3) := by decide +kernel
theorem dX9_helds_46 : decode cX9_helds 46 = .ok (.iload_n 1, 1) := by decide +kernel
theorem dX9_helds_47 : decode cX9_helds 47 = .ok (.iaload, 1) := by decide +kernel
theorem dX9_helds_48 : decode cX9_helds 48 = .ok (.invokestatic 198, 3) := by decide +kernel
theorem dX9_helds_51 : decode cX9_helds 51 = .ok (.aload_n 0, 1) := by decide +kernel
theorem dX9_helds_52 : decode cX9_helds 52 = .ok (.getfield 38, 3) := by decide +kernel
theorem dX9_helds_55 : decode cX9_helds 55 = .ok (.iload_n 2, 1) := by decide +kernel
theorem dX9_helds_56 : decode cX9_helds 56 = .ok (.iaload, 1) := by decide +kernel
theorem dX9_helds_57 : decode cX9_helds 57 = .ok (.bipush 16, 2) := by decide +kernel
theorem dX9_helds_59 : decode cX9_helds 59 = .ok (.idiv, 1) := by decide +kernel
theorem dX9_helds_60 : decode cX9_helds 60 = .ok (.aload_n 0, 1) := by decide +kernel
theorem dX9_helds_61 : decode cX9_helds 61 = .ok (.getfield 38, 3) := by decide +kernel
theorem dX9_helds_64 : decode cX9_helds 64 = .ok (.iload_n 2, 1) := by decide +kernel
theorem dX9_helds_65 : decode cX9_helds 65 = .ok (.iaload, 1) := by decide +kernel
theorem dX9_helds_66 : decode cX9_helds 66 = .ok (.bipush 16, 2) := by decide +kernel
theorem dX9_helds_68 : decode cX9_helds 68 = .ok (.irem, 1) := by decide +kernel
theorem dX9_helds_69 : decode cX9_helds 69 = .ok (.invokestatic 180, 3) := by decide +kernel
theorem dX9_helds_72 : decode cX9_helds 72 = .ok (.iconst (-1), 1) := by decide +kernel
theorem dX9_helds_73 : decode cX9_helds 73 = .ok (.ixor, 1) := by decide +kernel
theorem dX9_helds_74 : decode cX9_helds 74 = .ok (.iand, 1) := by decide +kernel
theorem dX9_helds_75 : decode cX9_helds 75 = .ok (.ifCond .ne 9, 3) := by decide +kernel
theorem dX9_helds_78 : decode cX9_helds 78 = .ok (.iconst 1, 1) := by decide +kernel
theorem dX9_helds_79 : decode cX9_helds 79 = .ok (.iload_n 2, 1) := by decide +kernel
theorem dX9_helds_80 : decode cX9_helds 80 = .ok (.ishl, 1) := by decide +kernel
theorem dX9_helds_81 : decode cX9_helds 81 = .ok (.goto 4, 3) := by decide +kernel
theorem dX9_helds_84 : decode cX9_helds 84 = .ok (.iconst 0, 1) := by decide +kernel
theorem dX9_helds_85 : decode cX9_helds 85 = .ok (.ior, 1) := by decide +kernel
theorem dX9_helds_86 : decode cX9_helds 86 = .ok (.iastore, 1) := by decide +kernel
theorem dX9_helds_87 : decode cX9_helds 87 = .ok (.iinc 2 1, 3) := by decide +kernel
theorem dX9_helds_90 : decode cX9_helds 90 = .ok (.goto (-63), 3) := by decide +kernel
theorem dX9_helds_93 : decode cX9_helds 93 = .ok (.iinc 1 1, 3) := by decide +kernel
theorem dX9_helds_96 : decode cX9_helds 96 = .ok (.goto (-86), 3) := by decide +kernel
theorem dX9_helds_99 : decode cX9_helds 99 = .ok (.return_, 1) := by decide +kernel
theorem dX9_areAllHeld_0 : decode cX9_areAllHeld 0 = .ok (.iconst 0, 1) := by decide +kernel
theorem dX9_areAllHeld_1 : decode cX9_areAllHeld 1 = .ok (.istore_n 2, 1) := by decide +kernel
theorem dX9_areAllHeld_2 : decode cX9_areAllHeld 2 = .ok (.iload_n 2, 1) := by decide +kernel
theorem dX9_areAllHeld_3 : decode cX9_areAllHeld 3 = .ok (.aload_n 0, 1) := by decide +kernel
theorem dX9_areAllHeld_4 : decode cX9_areAllHeld 4 = .ok (.getfield 192, 3) := by decide +kernel
theorem dX9_areAllHeld_7 : decode cX9_areAllHeld 7 = .ok (.if_icmp .ge 22, 3) := by decide +kernel
