theorem dX7_runGate_69 : decode cX7_runGate 69 = .ok (.invokevirtual 23, 3) := by decide +kernel
theorem dX7_runGate_72 : decode cX7_runGate 72 = .ok (.invokevirtual 57, 3) := by decide +kernel
theorem dX7_runGate_75 : decode cX7_runGate 75 = .ok (.invokestatic 61, 3) := by decide +kernel
theorem dX7_runGate_78 : decode cX7_runGate 78 = .ok (.lastore, 1) := by decide +kernel
theorem dX7_runGate_79 : decode cX7_runGate 79 = .ok (.aload_n 0, 1) := by decide +kernel
theorem dX7_runGate_80 : decode cX7_runGate 80 = .ok (.getfield 17, 3) := by decide +kernel
theorem dX7_runGate_83 : decode cX7_runGate 83 = .ok (.iconst 4, 1) := by decide +kernel
theorem dX7_runGate_84 : decode cX7_runGate 84 = .ok (.iload_n 2, 1) := by decide +kernel
theorem dX7_runGate_85 : decode cX7_runGate 85 = .ok (.iadd, 1) := by decide +kernel
theorem dX7_runGate_86 : decode cX7_runGate 86 = .ok (.iload 4, 2) := by decide +kernel
theorem dX7_runGate_88 : decode cX7_runGate 88 = .ok (.aload_n 0, 1) := by decide +kernel
theorem dX7_runGate_89 : decode cX7_runGate 89 = .ok (.iload 6, 2) := by decide +kernel
theorem dX7_runGate_91 : decode cX7_runGate 91 = .ok (.iload 5, 2) := by decide +kernel
theorem dX7_runGate_93 : decode cX7_runGate 93 = .ok (.invokevirtual 65, 3) := by decide +kernel
theorem dX7_runGate_96 : decode cX7_runGate 96 = .ok (.aload_n 0, 1) := by decide +kernel
theorem dX7_runGate_97 : decode cX7_runGate 97 = .ok (.iload 7, 2) := by decide +kernel
theorem dX7_runGate_99 : decode cX7_runGate 99 = .ok (.iload 5, 2) := by decide +kernel
theorem dX7_runGate_101 : decode cX7_runGate 101 = .ok (.invokevirtual 65, 3) := by decide +kernel
theorem dX7_runGate_104 : decode cX7_runGate 104 = .ok (.invokestatic 61, 3) := by decide +kernel
theorem dX7_runGate_107 : decode cX7_runGate 107 = .ok (.lastore, 1) := by decide +kernel
theorem dX7_runGate_108 : decode cX7_runGate 108 = .ok (.return_, 1) := by decide +kernel
theorem dX7_lateLow_0 : decode cX7_lateLow 0 = .ok (.iload_n 3, 1) := by decide +kernel
theorem dX7_lateLow_1 : decode cX7_lateLow 1 = .ok (.ifCond .ne 7, 3) := by decide +kernel
theorem dX7_lateLow_4 : decode cX7_lateLow 4 = .ok (.lconst 0, 1) := by decide +kernel
theorem dX7_lateLow_5 : decode cX7_lateLow 5 = .ok (.goto 8, 3) := by decide +kernel
theorem dX7_lateLow_8 : decode cX7_lateLow 8 = .ok (.lconst 1, 1) := by decide +kernel
theorem dX7_lateLow_9 : decode cX7_lateLow 9 = .ok (.iload_n 2, 1) := by decide +kernel
theorem dX7_lateLow_10 : decode cX7_lateLow 10 = .ok (.lshl, 1) := by decide +kernel
theorem dX7_lateLow_11 : decode cX7_lateLow 11 = .ok (.lconst 1, 1) := by decide +kernel
theorem dX7_lateLow_12 : decode cX7_lateLow 12 = .ok (.lsub, 1) := by decide +kernel
theorem dX7_lateLow_13 : decode cX7_lateLow 13 = .ok (.lstore 4, 2) := by decide +kernel
theorem dX7_lateLow_15 : decode cX7_lateLow 15 = .ok (.aload_n 0, 1) := by decide +kernel
theorem dX7_lateLow_16 : decode cX7_lateLow 16 = .ok (.getfield 11, 3) := by decide +kernel
theorem dX7_lateLow_19 : decode cX7_lateLow 19 = .ok (.iload_n 1, 1) := by decide +kernel
theorem dX7_lateLow_20 : decode cX7_lateLow 20 = .ok (.laload, 1) := by decide +kernel
theorem dX7_lateLow_21 : decode cX7_lateLow 21 = .ok (.iload_n 2, 1) := by decide +kernel
theorem dX7_lateLow_22 : decode cX7_lateLow 22 = .ok (.lshl, 1) := by decide +kernel
theorem dX7_lateLow_23 : decode cX7_lateLow 23 = .ok (.lload 4, 2) := by decide +kernel
theorem dX7_lateLow_25 : decode cX7_lateLow 25 = .ok (.lor, 1) := by decide +kernel
theorem dX7_lateLow_26 : decode cX7_lateLow 26 = .ok (.lreturn, 1) := by decide +kernel
theorem dX7_lateHigh_0 : decode cX7_lateHigh 0 = .ok (.aload_n 0, 1) := by decide +kernel
theorem dX7_lateHigh_1 : decode cX7_lateHigh 1 = .ok (.getfield 17, 3) := by decide +kernel
theorem dX7_lateHigh_4 : decode cX7_lateHigh 4 = .ok (.iload_n 1, 1) := by decide +kernel
theorem dX7_lateHigh_5 : decode cX7_lateHigh 5 = .ok (.laload, 1) := by decide +kernel
theorem dX7_lateHigh_6 : decode cX7_lateHigh 6 = .ok (.iload_n 2, 1) := by decide +kernel
theorem dX7_lateHigh_7 : decode cX7_lateHigh 7 = .ok (.lshl, 1) := by decide +kernel
theorem dX7_lateHigh_8 : decode cX7_lateHigh 8 = .ok (.aload_n 0, 1) := by decide +kernel
theorem dX7_lateHigh_9 : decode cX7_lateHigh 9 = .ok (.getfield 11, 3) := by decide +kernel
theorem dX7_lateHigh_12 : decode cX7_lateHigh 12 = .ok (.iload_n 1, 1) := by decide +kernel
theorem dX7_lateHigh_13 : decode cX7_lateHigh 13 = .ok (.laload, 1) := by decide +kernel
theorem dX7_lateHigh_14 : decode cX7_lateHigh 14 = .ok (.bipush 64, 2) := by decide +kernel
theorem dX7_lateHigh_16 : decode cX7_lateHigh 16 = .ok (.iload_n 2, 1) := by decide +kernel
theorem dX7_lateHigh_17 : decode cX7_lateHigh 17 = .ok (.isub, 1) := by decide +kernel
theorem dX7_lateHigh_18 : decode cX7_lateHigh 18 = .ok (.lushr, 1) := by decide +kernel
theorem dX7_lateHigh_19 : decode cX7_lateHigh 19 = .ok (.lor, 1) := by decide +kernel
theorem dX7_lateHigh_20 : decode cX7_lateHigh 20 = .ok (.lreturn, 1) := by decide +kernel
theorem dX7_at_0 : decode cX7_at 0 = .ok (.iload_n 1, 1) := by decide +kernel
theorem dX7_at_1 : decode cX7_at 1 = .ok (.ifCond .ge 8, 3) := by decide +kernel
theorem dX7_at_4 : decode cX7_at 4 = .ok (.aload_n 0, 1) := by decide +kernel
theorem dX7_at_5 : decode cX7_at 5 = .ok (.getfield 41, 3) := by decide +kernel
theorem dX7_at_8 : decode cX7_at 8 = .ok (.ireturn, 1) := by decide +kernel
theorem dX7_at_9 : decode cX7_at 9 = .ok (.iload_n 1, 1) := by decide +kernel
theorem dX7_at_10 : decode cX7_at 10 = .ok (.bipush 64, 2) := by decide +kernel
theorem dX7_at_12 : decode cX7_at 12 = .ok (.if_icmp .ge 17, 3) := by decide +kernel
theorem dX7_at_15 : decode cX7_at 15 = .ok (.aload_n 0, 1) := by decide +kernel
theorem dX7_at_16 : decode cX7_at 16 = .ok (.getfield 11, 3) := by decide +kernel
theorem dX7_at_19 : decode cX7_at 19 = .ok (.aload_n 0, 1) := by decide +kernel
theorem dX7_at_20 : decode cX7_at 20 = .ok (.getfield 39, 3) := by decide +kernel
theorem dX7_at_23 : decode cX7_at 23 = .ok (.laload, 1) := by decide +kernel
theorem dX7_at_24 : decode cX7_at 24 = .ok (.iload_n 1, 1) := by decide +kernel
theorem dX7_at_25 : decode cX7_at 25 = .ok (.lushr, 1) := by decide +kernel
theorem dX7_at_26 : decode cX7_at 26 = .ok (.goto 17, 3) := by decide +kernel
theorem dX7_at_29 : decode cX7_at 29 = .ok (.aload_n 0, 1) := by decide +kernel
theorem dX7_at_30 : decode cX7_at 30 = .ok (.getfield 17, 3) := by decide +kernel
theorem dX7_at_33 : decode cX7_at 33 = .ok (.aload_n 0, 1) := by decide +kernel
theorem dX7_at_34 : decode cX7_at 34 = .ok (.getfield 39, 3) := by decide +kernel
theorem dX7_at_37 : decode cX7_at 37 = .ok (.laload, 1) := by decide +kernel
theorem dX7_at_38 : decode cX7_at 38 = .ok (.iload_n 1, 1) := by decide +kernel
theorem dX7_at_39 : decode cX7_at 39 = .ok (.bipush 64, 2) := by decide +kernel
theorem dX7_at_41 : decode cX7_at 41 = .ok (.isub, 1) := by decide +kernel
theorem dX7_at_42 : decode cX7_at 42 = .ok (.lushr, 1) := by decide +kernel
theorem dX7_at_43 : decode cX7_at 43 = .ok (.lstore_n 2, 1) := by decide +kernel
theorem dX7_at_44 : decode cX7_at 44 = .ok (.lload_n 2, 1) := by decide +kernel
theorem dX7_at_45 : decode cX7_at 45 = .ok (.lconst 1, 1) := by decide +kernel
theorem dX7_at_46 : decode cX7_at 46 = .ok (.land, 1) := by decide +kernel
theorem dX7_at_47 : decode cX7_at 47 = .ok (.l2i, 1) := by decide +kernel
theorem dX7_at_48 : decode cX7_at 48 = .ok (.ireturn, 1) := by decide +kernel
set_option maxRecDepth 20000 in
theorem ggX7_flips_J13_bitCount_95d88 : GoodIn wsX7_flips wsJ13_bitCount_95d88 := goodIn_r _ [8, 9, 10, 11] (by decide +kernel) (by decide +kernel)
set_option maxRecDepth 20000 in
theorem gX7_flips_J13_bitCount_95d88 : GoodIn wsX7_flips (va_wsS RX7 69 yJ13_bitCount_95d88 wsJ13_bitCount_95d88) := goodIn_app (goodIn_of _ (by decide +kernel)) ggX7_flips_J13_bitCount_95d88
theorem dX7_flips_0 : decode cX7_flips 0 = .ok (.aload_n 0, 1) := by decide +kernel
theorem dX7_flips_1 : decode cX7_flips 1 = .ok (.getfield 11, 3) := by decide +kernel
theorem dX7_flips_4 : decode cX7_flips 4 = .ok (.aload_n 0, 1) := by decide +kernel
theorem dX7_flips_5 : decode cX7_flips 5 = .ok (.getfield 39, 3) := by decide +kernel
theorem dX7_flips_8 : decode cX7_flips 8 = .ok (.laload, 1) := by decide +kernel
theorem dX7_flips_9 : decode cX7_flips 9 = .ok (.lstore_n 1, 1) := by decide +kernel
theorem dX7_flips_10 : decode cX7_flips 10 = .ok (.aload_n 0, 1) := by decide +kernel
theorem dX7_flips_11 : decode cX7_flips 11 = .ok (.getfield 17, 3) := by decide +kernel
theorem dX7_flips_14 : decode cX7_flips 14 = .ok (.aload_n 0, 1) := by decide +kernel
theorem dX7_flips_15 : decode cX7_flips 15 = .ok (.getfield 39, 3) := by decide +kernel
theorem dX7_flips_18 : decode cX7_flips 18 = .ok (.laload, 1) := by decide +kernel
theorem dX7_flips_19 : decode cX7_flips 19 = .ok (.lstore_n 3, 1) := by decide +kernel
theorem dX7_flips_20 : decode cX7_flips 20 = .ok (.lload_n 1, 1) := by decide +kernel
theorem dX7_flips_21 : decode cX7_flips 21 = .ok (.lload_n 1, 1) := by decide +kernel
theorem dX7_flips_22 : decode cX7_flips 22 = .ok (.iconst 1, 1) := by decide +kernel
theorem dX7_flips_23 : decode cX7_flips 23 = .ok (.lshl, 1) := by decide +kernel
theorem dX7_flips_24 : decode cX7_flips 24 = .ok (.aload_n 0, 1) := by decide +kernel
theorem dX7_flips_25 : decode cX7_flips 25 = .ok (.getfield 41, 3) := by decide +kernel
theorem dX7_flips_28 : decode cX7_flips 28 = .ok (.i2l, 1) := by decide +kernel
theorem dX7_flips_29 : decode cX7_flips 29 = .ok (.lor, 1) := by decide +kernel
theorem dX7_flips_30 : decode cX7_flips 30 = .ok (.lxor, 1) := by decide +kernel
theorem dX7_flips_31 : decode cX7_flips 31 = .ok (.invokestatic 69, 3) := by decide +kernel
theorem dX7_flips_34 : decode cX7_flips 34 = .ok (.lload_n 3, 1) := by decide +kernel
theorem dX7_flips_35 : decode cX7_flips 35 = .ok (.lload_n 3, 1) := by decide +kernel
theorem dX7_flips_36 : decode cX7_flips 36 = .ok (.iconst 1, 1) := by decide +kernel
theorem dX7_flips_37 : decode cX7_flips 37 = .ok (.lshl, 1) := by decide +kernel
theorem dX7_flips_38 : decode cX7_flips 38 = .ok (.lload_n 1, 1) := by decide +kernel
theorem dX7_flips_39 : decode cX7_flips 39 = .ok (.bipush 63, 2) := by decide +kernel
theorem dX7_flips_41 : decode cX7_flips 41 = .ok (.lushr, 1) := by decide +kernel
theorem dX7_flips_42 : decode cX7_flips 42 = .ok (.lor, 1) := by decide +kernel
theorem dX7_flips_43 : decode cX7_flips 43 = .ok (.lxor, 1) := by decide +kernel
theorem dX7_flips_44 : decode cX7_flips 44 = .ok (.invokestatic 69, 3) := by decide +kernel
theorem dX7_flips_47 : decode cX7_flips 47 = .ok (.iadd, 1) := by decide +kernel
theorem dX7_flips_48 : decode cX7_flips 48 = .ok (.ireturn, 1) := by decide +kernel
set_option maxRecDepth 20000 in
theorem ggX7_glitch_X7_flips : GoodIn wsX7_glitch wsX7_flips := goodIn_r _ [6, 7, 8, 9, 1, 10, 11, 12, 13, 14, 15, 16, 21, 22, 23, 24] (by decide +kernel) (by decide +kernel)
set_option maxRecDepth 20000 in
theorem gX7_glitch_X7_flips : GoodIn wsX7_glitch (wsV RX7 75 RX7 yX7_flips wsX7_flips) := goodIn_app (goodIn_of _ (by decide +kernel)) ggX7_glitch_X7_flips
set_option maxRecDepth 20000 in
theorem ggX7_glitch_X7_at : GoodIn wsX7_glitch wsX7_at := goodIn_r _ [20, 1, 7, 8, 9, 21, 22, 23, 24] (by decide +kernel) (by decide +kernel)
set_option maxRecDepth 20000 in
theorem gX7_glitch_X7_at : GoodIn wsX7_glitch (wsV RX7 78 RX7 yX7_at wsX7_at) := goodIn_app (goodIn_of _ (by decide +kernel)) ggX7_glitch_X7_at
theorem dX7_glitch_0 : decode cX7_glitch 0 = .ok (.aload_n 0, 1) := by decide +kernel
theorem dX7_glitch_1 : decode cX7_glitch 1 = .ok (.invokevirtual 75, 3) := by decide +kernel
theorem dX7_glitch_4 : decode cX7_glitch 4 = .ok (.istore_n 1, 1) := by decide +kernel
theorem dX7_glitch_5 : decode cX7_glitch 5 = .ok (.aload_n 0, 1) := by decide +kernel
theorem dX7_glitch_6 : decode cX7_glitch 6 = .ok (.bipush 108, 2) := by decide +kernel
theorem dX7_glitch_8 : decode cX7_glitch 8 = .ok (.invokevirtual 78, 3) := by decide +kernel
theorem dX7_glitch_11 : decode cX7_glitch 11 = .ok (.aload_n 0, 1) := by decide +kernel
theorem dX7_glitch_12 : decode cX7_glitch 12 = .ok (.getfield 41, 3) := by decide +kernel
theorem dX7_glitch_15 : decode cX7_glitch 15 = .ok (.if_icmp .ne 13, 3) := by decide +kernel
theorem dX7_glitch_18 : decode cX7_glitch 18 = .ok (.iload_n 1, 1) := by decide +kernel
theorem dX7_glitch_19 : decode cX7_glitch 19 = .ok (.ifCond .le 7, 3) := by decide +kernel
theorem dX7_glitch_22 : decode cX7_glitch 22 = .ok (.iconst 1, 1) := by decide +kernel
theorem dX7_glitch_23 : decode cX7_glitch 23 = .ok (.goto 4, 3) := by decide +kernel
theorem dX7_glitch_26 : decode cX7_glitch 26 = .ok (.iconst 0, 1) := by decide +kernel
theorem dX7_glitch_27 : decode cX7_glitch 27 = .ok (.ireturn, 1) := by decide +kernel
theorem dX7_glitch_28 : decode cX7_glitch 28 = .ok (.iload_n 1, 1) := by decide +kernel
theorem dX7_glitch_29 : decode cX7_glitch 29 = .ok (.iconst 1, 1) := by decide +kernel
theorem dX7_glitch_30 : decode cX7_glitch 30 = .ok (.if_icmp .le 7, 3) := by decide +kernel
theorem dX7_glitch_33 : decode cX7_glitch 33 = .ok (.iconst 2, 1) := by decide +kernel
theorem dX7_glitch_34 : decode cX7_glitch 34 = .ok (.goto 4, 3) := by decide +kernel
theorem dX7_glitch_37 : decode cX7_glitch 37 = .ok (.iconst 0, 1) := by decide +kernel
theorem dX7_glitch_38 : decode cX7_glitch 38 = .ok (.ireturn, 1) := by decide +kernel
set_option maxRecDepth 20000 in
theorem ggX7_settles_X7_at : GoodIn wsX7_settles wsX7_at := goodIn_r _ [5, 6, 7, 8, 9, 10, 11, 12, 13] (by decide +kernel) (by decide +kernel)
set_option maxRecDepth 20000 in
theorem gX7_settles_X7_at : GoodIn wsX7_settles (wsV RX7 78 RX7 yX7_at wsX7_at) := goodIn_app (goodIn_of _ (by decide +kernel)) ggX7_settles_X7_at
theorem dX7_settles_0 : decode cX7_settles 0 = .ok (.bipush 108, 2) := by decide +kernel
theorem dX7_settles_2 : decode cX7_settles 2 = .ok (.istore_n 1, 1) := by decide +kernel
theorem dX7_settles_3 : decode cX7_settles 3 = .ok (.iload_n 1, 1) := by decide +kernel
theorem dX7_settles_4 : decode cX7_settles 4 = .ok (.ifCond .lt 26, 3) := by decide +kernel
theorem dX7_settles_7 : decode cX7_settles 7 = .ok (.aload_n 0, 1) := by decide +kernel
theorem dX7_settles_8 : decode cX7_settles 8 = .ok (.iload_n 1, 1) := by decide +kernel
theorem dX7_settles_9 : decode cX7_settles 9 = .ok (.invokevirtual 78, 3) := by decide +kernel
theorem dX7_settles_12 : decode cX7_settles 12 = .ok (.aload_n 0, 1) := by decide +kernel
theorem dX7_settles_13 : decode cX7_settles 13 = .ok (.iload_n 1, 1) := by decide +kernel
theorem dX7_settles_14 : decode cX7_settles 14 = .ok (.iconst 1, 1) := by decide +kernel
theorem dX7_settles_15 : decode cX7_settles 15 = .ok (.isub, 1) := by decide +kernel
theorem dX7_settles_16 : decode cX7_settles 16 = .ok (.invokevirtual 78, 3) := by decide +kernel
theorem dX7_settles_19 : decode cX7_settles 19 = .ok (.if_icmp .eq 5, 3) := by decide +kernel
theorem dX7_settles_22 : decode cX7_settles 22 = .ok (.iload_n 1, 1) := by decide +kernel
theorem dX7_settles_23 : decode cX7_settles 23 = .ok (.ireturn, 1) := by decide +kernel
theorem dX7_settles_24 : decode cX7_settles 24 = .ok (.iinc 1 (-1), 3) := by decide +kernel
theorem dX7_settles_27 : decode cX7_settles 27 = .ok (.goto (-24), 3) := by decide +kernel
theorem dX7_settles_30 : decode cX7_settles 30 = .ok (.iconst (-1), 1) := by decide +kernel
theorem dX7_settles_31 : decode cX7_settles 31 = .ok (.ireturn, 1) := by decide +kernel
set_option maxRecDepth 20000 in
theorem ggX8_init_X6_init : GoodIn wsX8_init wsX6_init := goodIn_r _ [40, 41, 2, 3, 42, 43, 87, 88] (by decide +kernel) (by decide +kernel)
set_option maxRecDepth 20000 in
theorem gX8_init_X6_init_n9 : GoodIn wsX8_init (wsX6_init) := ggX8_init_X6_init
set_option maxRecDepth 20000 in
theorem ggX8_init_X2_init : GoodIn wsX8_init wsX2_init := goodIn_r _ [45, 46, 2, 3] (by decide +kernel) (by decide +kernel)
set_option maxRecDepth 20000 in
theorem gX8_init_X2_init_n18 : GoodIn wsX8_init (wsX2_init) := ggX8_init_X2_init
set_option maxRecDepth 20000 in
theorem ggX8_init_X3_init : GoodIn wsX8_init wsX3_init := goodIn_r _ [49, 50, 2, 3, 42, 51, 52, 53, 54, 55, 56, 107, 108, 109, 110, 111, 112, 113] (by decide +kernel) (by decide +kernel)
set_option maxRecDepth 20000 in
theorem gX8_init_X3_init : GoodIn wsX8_init (wsX3_init) := ggX8_init_X3_init
set_option maxRecDepth 20000 in
theorem ggX8_init_X7_init : GoodIn wsX8_init wsX7_init := goodIn_r _ [58, 59, 2, 3, 60, 61, 62, 114, 115, 116, 117] (by decide +kernel) (by decide +kernel)
set_option maxRecDepth 20000 in
theorem gX8_init_X7_init_n35 : GoodIn wsX8_init (wsX7_init) := ggX8_init_X7_init
set_option maxRecDepth 20000 in
theorem ggX8_init_X0_init : GoodIn wsX8_init wsX0_init := goodIn_r _ [64, 65, 2, 3, 42, 66, 67, 118, 119, 120] (by decide +kernel) (by decide +kernel)
set_option maxRecDepth 20000 in
theorem gX8_init_X0_init_n42 : GoodIn wsX8_init (wsX0_init) := ggX8_init_X0_init
set_option maxRecDepth 20000 in
theorem ggX8_init_X4_init : GoodIn wsX8_init wsX4_init := goodIn_r _ [69, 70, 2, 3, 42, 71, 72, 60, 73, 74, 121, 122, 123, 124, 125] (by decide +kernel) (by decide +kernel)
set_option maxRecDepth 20000 in
theorem gX8_init_X4_init_n49 : GoodIn wsX8_init (wsX4_init) := ggX8_init_X4_init
set_option maxRecDepth 20000 in
theorem ggX8_init_X1_init : GoodIn wsX8_init wsX1_init := goodIn_r _ [76, 77, 2, 3, 42, 78, 79, 80, 81, 126, 127, 128, 129, 130] (by decide +kernel) (by decide +kernel)
set_option maxRecDepth 20000 in
theorem gX8_init_X1_init_n56 : GoodIn wsX8_init (wsX1_init) := ggX8_init_X1_init
set_option maxRecDepth 20000 in
theorem ggX8_init_X5_init : GoodIn wsX8_init wsX5_init := goodIn_r _ [83, 84, 2, 3, 42, 85, 86, 131, 132, 133] (by decide +kernel) (by decide +kernel)
set_option maxRecDepth 20000 in
theorem gX8_init_X5_init_n73 : GoodIn wsX8_init (wsX5_init) := ggX8_init_X5_init
theorem dX8_init_0 : decode cX8_init 0 = .ok (.aload_n 0, 1) := by decide +kernel
theorem dX8_init_1 : decode cX8_init 1 = .ok (.invokespecial 1, 3) := by decide +kernel
theorem dX8_init_4 : decode cX8_init 4 = .ok (.aload_n 0, 1) := by decide +kernel
theorem dX8_init_5 : decode cX8_init 5 = .ok (.new 7, 3) := by decide +kernel
theorem dX8_init_8 : decode cX8_init 8 = .ok (.dup, 1) := by decide +kernel
theorem dX8_init_9 : decode cX8_init 9 = .ok (.invokespecial 9, 3) := by decide +kernel
theorem dX8_init_12 : decode cX8_init 12 = .ok (.putfield 10, 3) := by decide +kernel
theorem dX8_init_15 : decode cX8_init 15 = .ok (.aload_n 0, 1) := by decide +kernel
theorem dX8_init_16 : decode cX8_init 16 = .ok (.new 16, 3) := by decide +kernel
theorem dX8_init_19 : decode cX8_init 19 = .ok (.dup, 1) := by decide +kernel
theorem dX8_init_20 : decode cX8_init 20 = .ok (.invokespecial 18, 3) := by decide +kernel
theorem dX8_init_23 : decode cX8_init 23 = .ok (.putfield 19, 3) := by decide +kernel
theorem dX8_init_26 : decode cX8_init 26 = .ok (.aload_n 0, 1) := by decide +kernel
theorem dX8_init_27 : decode cX8_init 27 = .ok (.new 23, 3) := by decide +kernel
theorem dX8_init_30 : decode cX8_init 30 = .ok (.dup, 1) := by decide +kernel
theorem dX8_init_31 : decode cX8_init 31 = .ok (.invokespecial 25, 3) := by decide +kernel
theorem dX8_init_34 : decode cX8_init 34 = .ok (.putfield 26, 3) := by decide +kernel
theorem dX8_init_37 : decode cX8_init 37 = .ok (.aload_n 0, 1) := by decide +kernel
theorem dX8_init_38 : decode cX8_init 38 = .ok (.new 23, 3) := by decide +kernel
theorem dX8_init_41 : decode cX8_init 41 = .ok (.dup, 1) := by decide +kernel
theorem dX8_init_42 : decode cX8_init 42 = .ok (.invokespecial 25, 3) := by decide +kernel
theorem dX8_init_45 : decode cX8_init 45 = .ok (.putfield 30, 3) := by decide +kernel
theorem dX8_init_48 : decode cX8_init 48 = .ok (.aload_n 0, 1) := by decide +kernel
theorem dX8_init_49 : decode cX8_init 49 = .ok (.new 33, 3) := by decide +kernel
theorem dX8_init_52 : decode cX8_init 52 = .ok (.dup, 1) := by decide +kernel
theorem dX8_init_53 : decode cX8_init 53 = .ok (.invokespecial 35, 3) := by decide +kernel
theorem dX8_init_56 : decode cX8_init 56 = .ok (.putfield 36, 3) := by decide +kernel
theorem dX8_init_59 : decode cX8_init 59 = .ok (.aload_n 0, 1) := by decide +kernel
theorem dX8_init_60 : decode cX8_init 60 = .ok (.new 40, 3) := by decide +kernel
theorem dX8_init_63 : decode cX8_init 63 = .ok (.dup, 1) := by decide +kernel
theorem dX8_init_64 : decode cX8_init 64 = .ok (.invokespecial 42, 3) := by decide +kernel
theorem dX8_init_67 : decode cX8_init 67 = .ok (.putfield 43, 3) := by decide +kernel
theorem dX8_init_70 : decode cX8_init 70 = .ok (.aload_n 0, 1) := by decide +kernel
theorem dX8_init_71 : decode cX8_init 71 = .ok (.new 47, 3) := by decide +kernel
theorem dX8_init_74 : decode cX8_init 74 = .ok (.dup, 1) := by decide +kernel
theorem dX8_init_75 : decode cX8_init 75 = .ok (.invokespecial 49, 3) := by decide +kernel
theorem dX8_init_78 : decode cX8_init 78 = .ok (.putfield 50, 3) := by decide +kernel
theorem dX8_init_81 : decode cX8_init 81 = .ok (.aload_n 0, 1) := by decide +kernel
theorem dX8_init_82 : decode cX8_init 82 = .ok (.new 54, 3) := by decide +kernel
theorem dX8_init_85 : decode cX8_init 85 = .ok (.dup, 1) := by decide +kernel
theorem dX8_init_86 : decode cX8_init 86 = .ok (.invokespecial 56, 3) := by decide +kernel
theorem dX8_init_89 : decode cX8_init 89 = .ok (.putfield 57, 3) := by decide +kernel
theorem dX8_init_92 : decode cX8_init 92 = .ok (.aload_n 0, 1) := by decide +kernel
theorem dX8_init_93 : decode cX8_init 93 = .ok (.new 23, 3) := by decide +kernel
theorem dX8_init_96 : decode cX8_init 96 = .ok (.dup, 1) := by decide +kernel
theorem dX8_init_97 : decode cX8_init 97 = .ok (.invokespecial 25, 3) := by decide +kernel
theorem dX8_init_100 : decode cX8_init 100 = .ok (.putfield 61, 3) := by decide +kernel
theorem dX8_init_103 : decode cX8_init 103 = .ok (.aload_n 0, 1) := by decide +kernel
theorem dX8_init_104 : decode cX8_init 104 = .ok (.new 40, 3) := by decide +kernel
theorem dX8_init_107 : decode cX8_init 107 = .ok (.dup, 1) := by decide +kernel
theorem dX8_init_108 : decode cX8_init 108 = .ok (.invokespecial 42, 3) := by decide +kernel
theorem dX8_init_111 : decode cX8_init 111 = .ok (.putfield 64, 3) := by decide +kernel
theorem dX8_init_114 : decode cX8_init 114 = .ok (.aload_n 0, 1) := by decide +kernel
theorem dX8_init_115 : decode cX8_init 115 = .ok (.iconst 4, 1) := by decide +kernel
theorem dX8_init_116 : decode cX8_init 116 = .ok (.anewarray 67, 3) := by decide +kernel
theorem dX8_init_119 : decode cX8_init 119 = .ok (.putfield 69, 3) := by decide +kernel
theorem dX8_init_122 : decode cX8_init 122 = .ok (.iconst 0, 1) := by decide +kernel
theorem dX8_init_123 : decode cX8_init 123 = .ok (.istore_n 1, 1) := by decide +kernel
theorem dX8_init_124 : decode cX8_init 124 = .ok (.iload_n 1, 1) := by decide +kernel
theorem dX8_init_125 : decode cX8_init 125 = .ok (.iconst 4, 1) := by decide +kernel
theorem dX8_init_126 : decode cX8_init 126 = .ok (.if_icmp .ge 22, 3) := by decide +kernel
theorem dX8_init_129 : decode cX8_init 129 = .ok (.aload_n 0, 1) := by decide +kernel
theorem dX8_init_130 : decode cX8_init 130 = .ok (.getfield 69, 3) := by decide +kernel
theorem dX8_init_133 : decode cX8_init 133 = .ok (.iload_n 1, 1) := by decide +kernel
theorem dX8_init_134 : decode cX8_init 134 = .ok (.new 67, 3) := by decide +kernel
theorem dX8_init_137 : decode cX8_init 137 = .ok (.dup, 1) := by decide +kernel
theorem dX8_init_138 : decode cX8_init 138 = .ok (.invokespecial 73, 3) := by decide +kernel
theorem dX8_init_141 : decode cX8_init 141 = .ok (.aastore, 1) := by decide +kernel
theorem dX8_init_142 : decode cX8_init 142 = .ok (.iinc 1 1, 3) := by decide +kernel
theorem dX8_init_145 : decode cX8_init 145 = .ok (.goto (-21), 3) := by decide +kernel
theorem dX8_init_148 : decode cX8_init 148 = .ok (.return_, 1) := by decide +kernel
set_option maxRecDepth 20000 in
theorem ggX8_feed_X8_isWithin : GoodIn wsX8_feed wsX8_isWithin := goodIn_r _ [6] (by decide +kernel) (by decide +kernel)
set_option maxRecDepth 20000 in
theorem gX8_feed_X8_isWithin : GoodIn wsX8_feed (va_wsS RX8 74 yX8_isWithin wsX8_isWithin) := goodIn_app (goodIn_of _ (by decide +kernel)) ggX8_feed_X8_isWithin
set_option maxRecDepth 20000 in
theorem ggX8_feed_X8_isByte : GoodIn wsX8_feed wsX8_isByte := goodIn_r _ [9, 3, 4, 5, 6] (by decide +kernel) (by decide +kernel)
set_option maxRecDepth 20000 in
theorem gX8_feed_X8_isByte : GoodIn wsX8_feed (va_wsS RX8 78 yX8_isByte wsX8_isByte) := goodIn_app (goodIn_of _ (by decide +kernel)) ggX8_feed_X8_isByte
set_option maxRecDepth 20000 in
theorem ggX8_feed_X6_room : GoodIn wsX8_feed wsX6_room := goodIn_r _ [14, 15, 33, 34] (by decide +kernel) (by decide +kernel)
set_option maxRecDepth 20000 in
theorem gX8_feed_X6_room : GoodIn wsX8_feed (wsV RX8 82 RX6 yX6_room wsX6_room) := goodIn_app (goodIn_of _ (by decide +kernel)) ggX8_feed_X6_room
set_option maxRecDepth 20000 in
theorem ggX8_feed_X6_append : GoodIn wsX8_feed wsX6_append := goodIn_r _ [19, 15, 20, 33, 34] (by decide +kernel) (by decide +kernel)
set_option maxRecDepth 20000 in
theorem gX8_feed_X6_append : GoodIn wsX8_feed (wsV RX8 86 RX6 yX6_append wsX6_append) := goodIn_app (goodIn_of _ (by decide +kernel)) ggX8_feed_X6_append
theorem dX8_feed_0 : decode cX8_feed 0 = .ok (.iload_n 1, 1) := by decide +kernel
theorem dX8_feed_1 : decode cX8_feed 1 = .ok (.iconst 1, 1) := by decide +kernel
theorem dX8_feed_2 : decode cX8_feed 2 = .ok (.iconst 5, 1) := by decide +kernel
theorem dX8_feed_3 : decode cX8_feed 3 = .ok (.invokestatic 74, 3) := by decide +kernel
theorem dX8_feed_6 : decode cX8_feed 6 = .ok (.ifCond .eq 41, 3) := by decide +kernel
theorem dX8_feed_9 : decode cX8_feed 9 = .ok (.iload_n 2, 1) := by decide +kernel
theorem dX8_feed_10 : decode cX8_feed 10 = .ok (.invokestatic 78, 3) := by decide +kernel
theorem dX8_feed_13 : decode cX8_feed 13 = .ok (.ifCond .eq 34, 3) := by decide +kernel
theorem dX8_feed_16 : decode cX8_feed 16 = .ok (.iload_n 3, 1) := by decide +kernel
theorem dX8_feed_17 : decode cX8_feed 17 = .ok (.invokestatic 78, 3) := by decide +kernel
theorem dX8_feed_20 : decode cX8_feed 20 = .ok (.ifCond .eq 27, 3) := by decide +kernel
theorem dX8_feed_23 : decode cX8_feed 23 = .ok (.iload 4, 2) := by decide +kernel
theorem dX8_feed_25 : decode cX8_feed 25 = .ok (.invokestatic 78, 3) := by decide +kernel
theorem dX8_feed_28 : decode cX8_feed 28 = .ok (.ifCond .eq 19, 3) := by decide +kernel
theorem dX8_feed_31 : decode cX8_feed 31 = .ok (.iload 5, 2) := by decide +kernel
theorem dX8_feed_33 : decode cX8_feed 33 = .ok (.invokestatic 78, 3) := by decide +kernel
theorem dX8_feed_36 : decode cX8_feed 36 = .ok (.ifCond .eq 11, 3) := by decide +kernel
theorem dX8_feed_39 : decode cX8_feed 39 = .ok (.iload 6, 2) := by decide +kernel
theorem dX8_feed_41 : decode cX8_feed 41 = .ok (.invokestatic 78, 3) := by decide +kernel
theorem dX8_feed_44 : decode cX8_feed 44 = .ok (.ifCond .ne 6, 3) := by decide +kernel
theorem dX8_feed_47 : decode cX8_feed 47 = .ok (.bipush (-2), 2) := by decide +kernel
theorem dX8_feed_49 : decode cX8_feed 49 = .ok (.ireturn, 1) := by decide +kernel
theorem dX8_feed_50 : decode cX8_feed 50 = .ok (.iload_n 1, 1) := by decide +kernel
theorem dX8_feed_51 : decode cX8_feed 51 = .ok (.aload_n 0, 1) := by decide +kernel
theorem dX8_feed_52 : decode cX8_feed 52 = .ok (.getfield 10, 3) := by decide +kernel
theorem dX8_feed_55 : decode cX8_feed 55 = .ok (.invokevirtual 82, 3) := by decide +kernel
theorem dX8_feed_58 : decode cX8_feed 58 = .ok (.if_icmp .le 6, 3) := by decide +kernel
theorem dX8_feed_61 : decode cX8_feed 61 = .ok (.bipush (-4), 2) := by decide +kernel
theorem dX8_feed_63 : decode cX8_feed 63 = .ok (.ireturn, 1) := by decide +kernel
theorem dX8_feed_64 : decode cX8_feed 64 = .ok (.aload_n 0, 1) := by decide +kernel
theorem dX8_feed_65 : decode cX8_feed 65 = .ok (.getfield 10, 3) := by decide +kernel
theorem dX8_feed_68 : decode cX8_feed 68 = .ok (.iload_n 2, 1) := by decide +kernel
theorem dX8_feed_69 : decode cX8_feed 69 = .ok (.invokevirtual 86, 3) := by decide +kernel
theorem dX8_feed_72 : decode cX8_feed 72 = .ok (.iload_n 1, 1) := by decide +kernel
theorem dX8_feed_73 : decode cX8_feed 73 = .ok (.iconst 1, 1) := by decide +kernel
theorem dX8_feed_74 : decode cX8_feed 74 = .ok (.if_icmp .le 11, 3) := by decide +kernel
theorem dX8_feed_77 : decode cX8_feed 77 = .ok (.aload_n 0, 1) := by decide +kernel
theorem dX8_feed_78 : decode cX8_feed 78 = .ok (.getfield 10, 3) := by decide +kernel
theorem dX8_feed_81 : decode cX8_feed 81 = .ok (.iload_n 3, 1) := by decide +kernel
theorem dX8_feed_82 : decode cX8_feed 82 = .ok (.invokevirtual 86, 3) := by decide +kernel
theorem dX8_feed_85 : decode cX8_feed 85 = .ok (.iload_n 1, 1) := by decide +kernel
theorem dX8_feed_86 : decode cX8_feed 86 = .ok (.iconst 2, 1) := by decide +kernel
theorem dX8_feed_87 : decode cX8_feed 87 = .ok (.if_icmp .le 12, 3) := by decide +kernel
theorem dX8_feed_90 : decode cX8_feed 90 = .ok (.aload_n 0, 1) := by decide +kernel
theorem dX8_feed_91 : decode cX8_feed 91 = .ok (.getfield 10, 3) := by decide +kernel
theorem dX8_feed_94 : decode cX8_feed 94 = .ok (.iload 4, 2) := by decide +kernel
theorem dX8_feed_96 : decode cX8_feed 96 = .ok (.invokevirtual 86, 3) := by decide +kernel
theorem dX8_feed_99 : decode cX8_feed 99 = .ok (.iload_n 1, 1) := by decide +kernel
theorem dX8_feed_100 : decode cX8_feed 100 = .ok (.iconst 3, 1) := by decide +kernel
theorem dX8_feed_101 : decode cX8_feed 101 = .ok (.if_icmp .le 12, 3) := by decide +kernel
theorem dX8_feed_104 : decode cX8_feed 104 = .ok (.aload_n 0, 1) := by decide +kernel
theorem dX8_feed_105 : decode cX8_feed 105 = .ok (.getfield 10, 3) := by decide +kernel
theorem dX8_feed_108 : decode cX8_feed 108 = .ok (.iload 5, 2) := by decide +kernel
theorem dX8_feed_110 : decode cX8_feed 110 = .ok (.invokevirtual 86, 3) := by decide +kernel
theorem dX8_feed_113 : decode cX8_feed 113 = .ok (.iload_n 1, 1) := by decide +kernel
theorem dX8_feed_114 : decode cX8_feed 114 = .ok (.iconst 4, 1) := by decide +kernel
theorem dX8_feed_115 : decode cX8_feed 115 = .ok (.if_icmp .le 12, 3) := by decide +kernel
theorem dX8_feed_118 : decode cX8_feed 118 = .ok (.aload_n 0, 1) := by decide +kernel
theorem dX8_feed_119 : decode cX8_feed 119 = .ok (.getfield 10, 3) := by decide +kernel
theorem dX8_feed_122 : decode cX8_feed 122 = .ok (.iload 6, 2) := by decide +kernel
theorem dX8_feed_124 : decode cX8_feed 124 = .ok (.invokevirtual 86, 3) := by decide +kernel
theorem dX8_feed_127 : decode cX8_feed 127 = .ok (.aload_n 0, 1) := by decide +kernel
theorem dX8_feed_128 : decode cX8_feed 128 = .ok (.getfield 10, 3) := by decide +kernel
theorem dX8_feed_131 : decode cX8_feed 131 = .ok (.getfield 90, 3) := by decide +kernel
theorem dX8_feed_134 : decode cX8_feed 134 = .ok (.ireturn, 1) := by decide +kernel
set_option maxRecDepth 20000 in
theorem ggX8_text_X2_read : GoodIn wsX8_text wsX2_read := goodIn_r _ [15, 16, 17, 18, 19, 20, 21, 22, 23, 24, 25, 14, 26, 27, 28, 29, 30, 31, 32, 33, 34, 35, 36, 37, 38, 39, 40, 41, 42, 43, 44, 45, 46, 47, 48, 49, 50, 51, 52, 53, 54, 55, 56, 57, 58, 59, 60, 61, 62, 63, 64, 65, 66, 67, 68, 69, 70, 71, 72, 73, 74, 75, 76, 77, 78, 79, 80, 81, 82, 83, 84, 85, 86, 87, 88, 89, 90, 91, 92, 93, 94, 95, 96, 97, 98, 99, 100, 101, 102, 103, 104, 105, 106, 107, 108, 109, 110, 111, 112, 113, 114, 115, 116, 117, 118, 173, 174, 175, 176, 177, 178, 171, 172] (by decide +kernel) (by decide +kernel)
set_option maxRecDepth 20000 in
theorem gX8_text_X2_read : GoodIn wsX8_text (wsV RX8 95 RX2 yX2_read wsX2_read) := goodIn_app (goodIn_of _ (by decide +kernel)) ggX8_text_X2_read
set_option maxRecDepth 20000 in
theorem ggX8_text_X3_isFull : GoodIn wsX8_text wsX3_isFull := goodIn_r _ [123, 124, 164, 165, 166, 167, 168, 169, 170] (by decide +kernel) (by decide +kernel)
set_option maxRecDepth 20000 in
theorem gX8_text_X3_isFull : GoodIn wsX8_text (wsV RX8 99 RX3 yX3_isFull wsX3_isFull) := goodIn_app (goodIn_of _ (by decide +kernel)) ggX8_text_X3_isFull
set_option maxRecDepth 20000 in
theorem ggX8_text_X3_append : GoodIn wsX8_text wsX3_append := goodIn_r _ [128, 129, 124, 130, 131, 132, 133, 120, 121, 122, 123, 164, 165, 166, 167, 168, 169, 170] (by decide +kernel) (by decide +kernel)
set_option maxRecDepth 20000 in
theorem gX8_text_X3_append : GoodIn wsX8_text (wsV RX8 115 RX3 yX3_append wsX3_append) := goodIn_app (goodIn_of _ (by decide +kernel)) ggX8_text_X3_append
set_option maxRecDepth 20000 in
theorem ggX8_text_X3_output : GoodIn wsX8_text wsX3_output := goodIn_r _ [137, 124, 164, 165, 166, 167, 168, 169, 170] (by decide +kernel) (by decide +kernel)
set_option maxRecDepth 20000 in
theorem gX8_text_X3_output : GoodIn wsX8_text (wsV RX8 118 RX3 yX3_output wsX3_output) := goodIn_app (goodIn_of _ (by decide +kernel)) ggX8_text_X3_output
set_option maxRecDepth 20000 in
theorem ggX8_text_X1_note : GoodIn wsX8_text wsX1_note := goodIn_r _ [142, 143, 144, 145, 146, 147, 148, 149, 150, 141, 151, 179, 180, 181, 182, 183] (by decide +kernel) (by decide +kernel)
set_option maxRecDepth 20000 in
theorem gX8_text_X1_note : GoodIn wsX8_text (wsV RX8 121 RX1 yX1_note wsX1_note) := goodIn_app (goodIn_of _ (by decide +kernel)) ggX8_text_X1_note
theorem dX8_text_0 : decode cX8_text 0 = .ok (.aload_n 0, 1) := by decide +kernel
theorem dX8_text_1 : decode cX8_text 1 = .ok (.getfield 19, 3) := by decide +kernel
theorem dX8_text_4 : decode cX8_text 4 = .ok (.aload_n 0, 1) := by decide +kernel
theorem dX8_text_5 : decode cX8_text 5 = .ok (.getfield 10, 3) := by decide +kernel
theorem dX8_text_8 : decode cX8_text 8 = .ok (.aload_n 0, 1) := by decide +kernel
theorem dX8_text_9 : decode cX8_text 9 = .ok (.getfield 26, 3) := by decide +kernel
theorem dX8_text_12 : decode cX8_text 12 = .ok (.getfield 94, 3) := by decide +kernel
theorem dX8_text_15 : decode cX8_text 15 = .ok (.invokevirtual 95, 3) := by decide +kernel
theorem dX8_text_18 : decode cX8_text 18 = .ok (.istore_n 1, 1) := by decide +kernel
theorem dX8_text_19 : decode cX8_text 19 = .ok (.aload_n 0, 1) := by decide +kernel
theorem dX8_text_20 : decode cX8_text 20 = .ok (.getfield 10, 3) := by decide +kernel
theorem dX8_text_23 : decode cX8_text 23 = .ok (.iconst 0, 1) := by decide +kernel
theorem dX8_text_24 : decode cX8_text 24 = .ok (.putfield 90, 3) := by decide +kernel
theorem dX8_text_27 : decode cX8_text 27 = .ok (.iload_n 1, 1) := by decide +kernel
theorem dX8_text_28 : decode cX8_text 28 = .ok (.iconst (-1), 1) := by decide +kernel
theorem dX8_text_29 : decode cX8_text 29 = .ok (.if_icmp .eq 8, 3) := by decide +kernel
theorem dX8_text_32 : decode cX8_text 32 = .ok (.bipush (-100), 2) := by decide +kernel
theorem dX8_text_34 : decode cX8_text 34 = .ok (.iload_n 1, 1) := by decide +kernel
theorem dX8_text_35 : decode cX8_text 35 = .ok (.isub, 1) := by decide +kernel
theorem dX8_text_36 : decode cX8_text 36 = .ok (.ireturn, 1) := by decide +kernel
theorem dX8_text_37 : decode cX8_text 37 = .ok (.aload_n 0, 1) := by decide +kernel
theorem dX8_text_38 : decode cX8_text 38 = .ok (.getfield 26, 3) := by decide +kernel
theorem dX8_text_41 : decode cX8_text 41 = .ok (.invokevirtual 99, 3) := by decide +kernel
theorem dX8_text_44 : decode cX8_text 44 = .ok (.ifCond .eq 6, 3) := by decide +kernel
theorem dX8_text_47 : decode cX8_text 47 = .ok (.bipush (-4), 2) := by decide +kernel
theorem dX8_text_49 : decode cX8_text 49 = .ok (.ireturn, 1) := by decide +kernel
theorem dX8_text_50 : decode cX8_text 50 = .ok (.aload_n 0, 1) := by decide +kernel
theorem dX8_text_51 : decode cX8_text 51 = .ok (.getfield 26, 3) := by decide +kernel
theorem dX8_text_54 : decode cX8_text 54 = .ok (.aload_n 0, 1) := by decide +kernel
theorem dX8_text_55 : decode cX8_text 55 = .ok (.getfield 19, 3) := by decide +kernel
theorem dX8_text_58 : decode cX8_text 58 = .ok (.getfield 103, 3) := by decide +kernel
theorem dX8_text_61 : decode cX8_text 61 = .ok (.aload_n 0, 1) := by decide +kernel
theorem dX8_text_62 : decode cX8_text 62 = .ok (.getfield 19, 3) := by decide +kernel
theorem dX8_text_65 : decode cX8_text 65 = .ok (.getfield 106, 3) := by decide +kernel
theorem dX8_text_68 : decode cX8_text 68 = .ok (.aload_n 0, 1) := by decide +kernel
theorem dX8_text_69 : decode cX8_text 69 = .ok (.getfield 19, 3) := by decide +kernel
theorem dX8_text_72 : decode cX8_text 72 = .ok (.getfield 109, 3) := by decide +kernel
theorem dX8_text_75 : decode cX8_text 75 = .ok (.aload_n 0, 1) := by decide +kernel
theorem dX8_text_76 : decode cX8_text 76 = .ok (.getfield 19, 3) := by decide +kernel
theorem dX8_text_79 : decode cX8_text 79 = .ok (.getfield 112, 3) := by decide +kernel
theorem dX8_text_82 : decode cX8_text 82 = .ok (.invokevirtual 115, 3) := by decide +kernel
theorem dX8_text_85 : decode cX8_text 85 = .ok (.aload_n 0, 1) := by decide +kernel
theorem dX8_text_86 : decode cX8_text 86 = .ok (.getfield 57, 3) := by decide +kernel
theorem dX8_text_89 : decode cX8_text 89 = .ok (.iconst 0, 1) := by decide +kernel
theorem dX8_text_90 : decode cX8_text 90 = .ok (.aload_n 0, 1) := by decide +kernel
theorem dX8_text_91 : decode cX8_text 91 = .ok (.getfield 26, 3) := by decide +kernel
theorem dX8_text_94 : decode cX8_text 94 = .ok (.invokevirtual 118, 3) := by decide +kernel
theorem dX8_text_97 : decode cX8_text 97 = .ok (.iconst 0, 1) := by decide +kernel
theorem dX8_text_98 : decode cX8_text 98 = .ok (.iconst 0, 1) := by decide +kernel
theorem dX8_text_99 : decode cX8_text 99 = .ok (.invokevirtual 121, 3) := by decide +kernel
theorem dX8_text_102 : decode cX8_text 102 = .ok (.aload_n 0, 1) := by decide +kernel
theorem dX8_text_103 : decode cX8_text 103 = .ok (.getfield 26, 3) := by decide +kernel
theorem dX8_text_106 : decode cX8_text 106 = .ok (.invokevirtual 118, 3) := by decide +kernel
theorem dX8_text_109 : decode cX8_text 109 = .ok (.ireturn, 1) := by decide +kernel
set_option maxRecDepth 20000 in
theorem ggX8_delay_X3_has : GoodIn wsX8_delay wsX3_has := goodIn_r _ [8, 9, 40, 41, 42, 43, 44, 45, 46] (by decide +kernel) (by decide +kernel)
set_option maxRecDepth 20000 in
theorem gX8_delay_X3_has : GoodIn wsX8_delay (wsV RX8 124 RX3 yX3_has wsX3_has) := goodIn_app (goodIn_of _ (by decide +kernel)) ggX8_delay_X3_has
set_option maxRecDepth 20000 in
theorem ggX8_delay_X8_isWithin : GoodIn wsX8_delay wsX8_isWithin := goodIn_r _ [13] (by decide +kernel) (by decide +kernel)
set_option maxRecDepth 20000 in
theorem gX8_delay_X8_isWithin : GoodIn wsX8_delay (va_wsS RX8 74 yX8_isWithin wsX8_isWithin) := goodIn_app (goodIn_of _ (by decide +kernel)) ggX8_delay_X8_isWithin
set_option maxRecDepth 20000 in
theorem ggX8_delay_X1_note : GoodIn wsX8_delay wsX1_note := goodIn_r _ [18, 19, 20, 21, 22, 23, 24, 25, 26, 17, 27, 47, 48, 49, 50, 51] (by decide +kernel) (by decide +kernel)
set_option maxRecDepth 20000 in
theorem gX8_delay_X1_note : GoodIn wsX8_delay (wsV RX8 121 RX1 yX1_note wsX1_note) := goodIn_app (goodIn_of _ (by decide +kernel)) ggX8_delay_X1_note
theorem dX8_delay_0 : decode cX8_delay 0 = .ok (.aload_n 0, 1) := by decide +kernel
theorem dX8_delay_1 : decode cX8_delay 1 = .ok (.getfield 26, 3) := by decide +kernel
theorem dX8_delay_4 : decode cX8_delay 4 = .ok (.iload_n 1, 1) := by decide +kernel
theorem dX8_delay_5 : decode cX8_delay 5 = .ok (.invokevirtual 124, 3) := by decide +kernel
theorem dX8_delay_8 : decode cX8_delay 8 = .ok (.ifCond .eq 13, 3) := by decide +kernel
theorem dX8_delay_11 : decode cX8_delay 11 = .ok (.iload_n 2, 1) := by decide +kernel
theorem dX8_delay_12 : decode cX8_delay 12 = .ok (.iconst 1, 1) := by decide +kernel
theorem dX8_delay_13 : decode cX8_delay 13 = .ok (.bipush 9, 2) := by decide +kernel
theorem dX8_delay_15 : decode cX8_delay 15 = .ok (.invokestatic 74, 3) := by decide +kernel
theorem dX8_delay_18 : decode cX8_delay 18 = .ok (.ifCond .ne 6, 3) := by decide +kernel
theorem dX8_delay_21 : decode cX8_delay 21 = .ok (.bipush (-2), 2) := by decide +kernel
theorem dX8_delay_23 : decode cX8_delay 23 = .ok (.ireturn, 1) := by decide +kernel
theorem dX8_delay_24 : decode cX8_delay 24 = .ok (.aload_n 0, 1) := by decide +kernel
theorem dX8_delay_25 : decode cX8_delay 25 = .ok (.getfield 26, 3) := by decide +kernel
theorem dX8_delay_28 : decode cX8_delay 28 = .ok (.getfield 127, 3) := by decide +kernel
theorem dX8_delay_31 : decode cX8_delay 31 = .ok (.iload_n 1, 1) := by decide +kernel
theorem dX8_delay_32 : decode cX8_delay 32 = .ok (.iaload, 1) := by decide +kernel
theorem dX8_delay_33 : decode cX8_delay 33 = .ok (.istore_n 3, 1) := by decide +kernel
theorem dX8_delay_34 : decode cX8_delay 34 = .ok (.aload_n 0, 1) := by decide +kernel
theorem dX8_delay_35 : decode cX8_delay 35 = .ok (.getfield 26, 3) := by decide +kernel
theorem dX8_delay_38 : decode cX8_delay 38 = .ok (.getfield 127, 3) := by decide +kernel
theorem dX8_delay_41 : decode cX8_delay 41 = .ok (.iload_n 1, 1) := by decide +kernel
theorem dX8_delay_42 : decode cX8_delay 42 = .ok (.iload_n 2, 1) := by decide +kernel
theorem dX8_delay_43 : decode cX8_delay 43 = .ok (.iastore, 1) := by decide +kernel
theorem dX8_delay_44 : decode cX8_delay 44 = .ok (.aload_n 0, 1) := by decide +kernel
theorem dX8_delay_45 : decode cX8_delay 45 = .ok (.getfield 57, 3) := by decide +kernel
theorem dX8_delay_48 : decode cX8_delay 48 = .ok (.iconst 1, 1) := by decide +kernel
theorem dX8_delay_49 : decode cX8_delay 49 = .ok (.iload_n 1, 1) := by decide +kernel
theorem dX8_delay_50 : decode cX8_delay 50 = .ok (.iload_n 3, 1) := by decide +kernel
theorem dX8_delay_51 : decode cX8_delay 51 = .ok (.iconst 0, 1) := by decide +kernel
theorem dX8_delay_52 : decode cX8_delay 52 = .ok (.invokevirtual 121, 3) := by decide +kernel
theorem dX8_delay_55 : decode cX8_delay 55 = .ok (.iload_n 3, 1) := by decide +kernel
theorem dX8_delay_56 : decode cX8_delay 56 = .ok (.ireturn, 1) := by decide +kernel
set_option maxRecDepth 20000 in
theorem ggX8_drop_X3_isEmpty : GoodIn wsX8_drop wsX3_isEmpty := goodIn_r _ [9, 10, 32, 33, 34, 35, 36, 37, 38] (by decide +kernel) (by decide +kernel)
set_option maxRecDepth 20000 in
theorem gX8_drop_X3_isEmpty : GoodIn wsX8_drop (wsV RX8 131 RX3 yX3_isEmpty wsX3_isEmpty) := goodIn_app (goodIn_of _ (by decide +kernel)) ggX8_drop_X3_isEmpty
set_option maxRecDepth 20000 in
theorem ggX8_drop_X3_removeLast : GoodIn wsX8_drop wsX3_removeLast := goodIn_r _ [14, 10, 32, 33, 34, 35, 36, 37, 38] (by decide +kernel) (by decide +kernel)
set_option maxRecDepth 20000 in
theorem gX8_drop_X3_removeLast : GoodIn wsX8_drop (wsV RX8 134 RX3 yX3_removeLast wsX3_removeLast) := goodIn_app (goodIn_of _ (by decide +kernel)) ggX8_drop_X3_removeLast
theorem dX8_drop_0 : decode cX8_drop 0 = .ok (.aload_n 0, 1) := by decide +kernel
theorem dX8_drop_1 : decode cX8_drop 1 = .ok (.getfield 26, 3) := by decide +kernel
theorem dX8_drop_4 : decode cX8_drop 4 = .ok (.invokevirtual 131, 3) := by decide +kernel
theorem dX8_drop_7 : decode cX8_drop 7 = .ok (.ifCond .eq 6, 3) := by decide +kernel
theorem dX8_drop_10 : decode cX8_drop 10 = .ok (.bipush (-3), 2) := by decide +kernel
theorem dX8_drop_12 : decode cX8_drop 12 = .ok (.ireturn, 1) := by decide +kernel
theorem dX8_drop_13 : decode cX8_drop 13 = .ok (.aload_n 0, 1) := by decide +kernel
theorem dX8_drop_14 : decode cX8_drop 14 = .ok (.getfield 26, 3) := by decide +kernel
theorem dX8_drop_17 : decode cX8_drop 17 = .ok (.invokevirtual 134, 3) := by decide +kernel
theorem dX8_drop_20 : decode cX8_drop 20 = .ok (.aload_n 0, 1) := by decide +kernel
theorem dX8_drop_21 : decode cX8_drop 21 = .ok (.getfield 57, 3) := by decide +kernel
theorem dX8_drop_24 : decode cX8_drop 24 = .ok (.iconst 0, 1) := by decide +kernel
theorem dX8_drop_25 : decode cX8_drop 25 = .ok (.putfield 137, 3) := by decide +kernel
theorem dX8_drop_28 : decode cX8_drop 28 = .ok (.aload_n 0, 1) := by decide +kernel
theorem dX8_drop_29 : decode cX8_drop 29 = .ok (.getfield 26, 3) := by decide +kernel
theorem dX8_drop_32 : decode cX8_drop 32 = .ok (.getfield 94, 3) := by decide +kernel
theorem dX8_drop_35 : decode cX8_drop 35 = .ok (.ireturn, 1) := by decide +kernel
set_option maxRecDepth 20000 in
theorem ggX8_gate_X3_has : GoodIn wsX8_gate wsX3_has := goodIn_r _ [10, 11, 45, 46, 47, 48, 49, 50, 51] (by decide +kernel) (by decide +kernel)
set_option maxRecDepth 20000 in
theorem gX8_gate_X3_has : GoodIn wsX8_gate (wsV RX8 124 RX3 yX3_has wsX3_has) := goodIn_app (goodIn_of _ (by decide +kernel)) ggX8_gate_X3_has
set_option maxRecDepth 20000 in
theorem ggX8_gate_X3_pathTo : GoodIn wsX8_gate wsX3_pathTo := goodIn_r _ [15, 16, 17, 18, 19, 9, 20, 11, 21, 22, 23, 24, 25, 26, 27, 28, 7, 8, 10, 45, 46, 47, 48, 49, 50, 51] (by decide +kernel) (by decide +kernel)
set_option maxRecDepth 20000 in
theorem gX8_gate_X3_pathTo : GoodIn wsX8_gate (wsV RX8 147 RX3 yX3_pathTo wsX3_pathTo) := goodIn_app (goodIn_of _ (by decide +kernel)) ggX8_gate_X3_pathTo
set_option maxRecDepth 20000 in
theorem ggX8_gate_X3_usersOf : GoodIn wsX8_gate wsX3_usersOf := goodIn_r _ [32, 11, 21, 22, 45, 46, 47, 48, 49, 50, 51] (by decide +kernel) (by decide +kernel)
set_option maxRecDepth 20000 in
theorem gX8_gate_X3_usersOf : GoodIn wsX8_gate (wsV RX8 151 RX3 yX3_usersOf wsX3_usersOf) := goodIn_app (goodIn_of _ (by decide +kernel)) ggX8_gate_X3_usersOf
theorem dX8_gate_0 : decode cX8_gate 0 = .ok (.aload_n 0, 1) := by decide +kernel
theorem dX8_gate_1 : decode cX8_gate 1 = .ok (.getfield 26, 3) := by decide +kernel
theorem dX8_gate_4 : decode cX8_gate 4 = .ok (.iload_n 1, 1) := by decide +kernel
theorem dX8_gate_5 : decode cX8_gate 5 = .ok (.invokevirtual 124, 3) := by decide +kernel
theorem dX8_gate_8 : decode cX8_gate 8 = .ok (.ifCond .ne 6, 3) := by decide +kernel
theorem dX8_gate_11 : decode cX8_gate 11 = .ok (.bipush (-2), 2) := by decide +kernel
theorem dX8_gate_13 : decode cX8_gate 13 = .ok (.ireturn, 1) := by decide +kernel
theorem dX8_gate_14 : decode cX8_gate 14 = .ok (.iload_n 2, 1) := by decide +kernel
theorem dX8_gate_15 : decode cX8_gate 15 = .ok (.tableswitch 95 0 5 #[37, 47, 57, 67, 77, 86], 37) := by decide +kernel
theorem dX8_gate_52 : decode cX8_gate 52 = .ok (.aload_n 0, 1) := by decide +kernel
theorem dX8_gate_53 : decode cX8_gate 53 = .ok (.getfield 26, 3) := by decide +kernel
theorem dX8_gate_56 : decode cX8_gate 56 = .ok (.getfield 138, 3) := by decide +kernel
theorem dX8_gate_59 : decode cX8_gate 59 = .ok (.iload_n 1, 1) := by decide +kernel
theorem dX8_gate_60 : decode cX8_gate 60 = .ok (.iaload, 1) := by decide +kernel
theorem dX8_gate_61 : decode cX8_gate 61 = .ok (.ireturn, 1) := by decide +kernel
theorem dX8_gate_62 : decode cX8_gate 62 = .ok (.aload_n 0, 1) := by decide +kernel
theorem dX8_gate_63 : decode cX8_gate 63 = .ok (.getfield 26, 3) := by decide +kernel
theorem dX8_gate_66 : decode cX8_gate 66 = .ok (.getfield 141, 3) := by decide +kernel
theorem dX8_gate_69 : decode cX8_gate 69 = .ok (.iload_n 1, 1) := by decide +kernel
theorem dX8_gate_70 : decode cX8_gate 70 = .ok (.iaload, 1) := by decide +kernel
theorem dX8_gate_71 : decode cX8_gate 71 = .ok (.ireturn, 1) := by decide +kernel
theorem dX8_gate_72 : decode cX8_gate 72 = .ok (.aload_n 0, 1) := by decide +kernel
theorem dX8_gate_73 : decode cX8_gate 73 = .ok (.getfield 26, 3) := by decide +kernel
theorem dX8_gate_76 : decode cX8_gate 76 = .ok (.getfield 144, 3) := by decide +kernel
theorem dX8_gate_79 : decode cX8_gate 79 = .ok (.iload_n 1, 1) := by decide +kernel
theorem dX8_gate_80 : decode cX8_gate 80 = .ok (.iaload, 1) := by decide +kernel
theorem dX8_gate_81 : decode cX8_gate 81 = .ok (.ireturn, 1) := by decide +kernel
theorem dX8_gate_82 : decode cX8_gate 82 = .ok (.aload_n 0, 1) := by decide +kernel
theorem dX8_gate_83 : decode cX8_gate 83 = .ok (.getfield 26, 3) := by decide +kernel
theorem dX8_gate_86 : decode cX8_gate 86 = .ok (.getfield 127, 3) := by decide +kernel
theorem dX8_gate_89 : decode cX8_gate 89 = .ok (.iload_n 1, 1) := by decide +kernel
theorem dX8_gate_90 : decode cX8_gate 90 = .ok (.iaload, 1) := by decide +kernel
theorem dX8_gate_91 : decode cX8_gate 91 = .ok (.ireturn, 1) := by decide +kernel
theorem dX8_gate_92 : decode cX8_gate 92 = .ok (.aload_n 0, 1) := by decide +kernel
theorem dX8_gate_93 : decode cX8_gate 93 = .ok (.getfield 26, 3) := by decide +kernel
theorem dX8_gate_96 : decode cX8_gate 96 = .ok (.iload_n 1, 1) := by decide +kernel
theorem dX8_gate_97 : decode cX8_gate 97 = .ok (.invokevirtual 147, 3) := by decide +kernel
theorem dX8_gate_100 : decode cX8_gate 100 = .ok (.ireturn, 1) := by decide +kernel
theorem dX8_gate_101 : decode cX8_gate 101 = .ok (.aload_n 0, 1) := by decide +kernel
theorem dX8_gate_102 : decode cX8_gate 102 = .ok (.getfield 26, 3) := by decide +kernel
theorem dX8_gate_105 : decode cX8_gate 105 = .ok (.iload_n 1, 1) := by decide +kernel
theorem dX8_gate_106 : decode cX8_gate 106 = .ok (.invokevirtual 151, 3) := by decide +kernel
theorem dX8_gate_109 : decode cX8_gate 109 = .ok (.ireturn, 1) := by decide +kernel
theorem dX8_gate_110 : decode cX8_gate 110 = .ok (.bipush (-2), 2) := by decide +kernel
theorem dX8_gate_112 : decode cX8_gate 112 = .ok (.ireturn, 1) := by decide +kernel
set_option maxRecDepth 20000 in
theorem ggX8_taken_X3_has : GoodIn wsX8_taken wsX3_has := goodIn_r _ [8, 9, 29, 30, 31, 32, 33, 34, 35] (by decide +kernel) (by decide +kernel)
set_option maxRecDepth 20000 in
theorem gX8_taken_X3_has : GoodIn wsX8_taken (wsV RX8 124 RX3 yX3_has wsX3_has) := goodIn_app (goodIn_of _ (by decide +kernel)) ggX8_taken_X3_has
set_option maxRecDepth 20000 in
theorem ggX8_taken_X8_isWithin : GoodIn wsX8_taken wsX8_isWithin := goodIn_r _ [13] (by decide +kernel) (by decide +kernel)
set_option maxRecDepth 20000 in
theorem gX8_taken_X8_isWithin : GoodIn wsX8_taken (va_wsS RX8 74 yX8_isWithin wsX8_isWithin) := goodIn_app (goodIn_of _ (by decide +kernel)) ggX8_taken_X8_isWithin
set_option maxRecDepth 20000 in
theorem ggX8_taken_X8_isKindOrUnder : GoodIn wsX8_taken wsX8_isKindOrUnder := goodIn_r _ [16] (by decide +kernel) (by decide +kernel)
set_option maxRecDepth 20000 in
theorem gX8_taken_X8_isKindOrUnder : GoodIn wsX8_taken (va_wsS RX8 154 yX8_isKindOrUnder wsX8_isKindOrUnder) := goodIn_app (goodIn_of _ (by decide +kernel)) ggX8_taken_X8_isKindOrUnder
theorem dX8_taken_0 : decode cX8_taken 0 = .ok (.aload_n 0, 1) := by decide +kernel
theorem dX8_taken_1 : decode cX8_taken 1 = .ok (.getfield 26, 3) := by decide +kernel
theorem dX8_taken_4 : decode cX8_taken 4 = .ok (.iload_n 1, 1) := by decide +kernel
theorem dX8_taken_5 : decode cX8_taken 5 = .ok (.invokevirtual 124, 3) := by decide +kernel
theorem dX8_taken_8 : decode cX8_taken 8 = .ok (.ifCond .eq 12, 3) := by decide +kernel
theorem dX8_taken_11 : decode cX8_taken 11 = .ok (.iload_n 2, 1) := by decide +kernel
theorem dX8_taken_12 : decode cX8_taken 12 = .ok (.iconst 0, 1) := by decide +kernel
theorem dX8_taken_13 : decode cX8_taken 13 = .ok (.iconst 5, 1) := by decide +kernel
theorem dX8_taken_14 : decode cX8_taken 14 = .ok (.invokestatic 74, 3) := by decide +kernel
theorem dX8_taken_17 : decode cX8_taken 17 = .ok (.ifCond .ne 6, 3) := by decide +kernel
theorem dX8_taken_20 : decode cX8_taken 20 = .ok (.bipush (-2), 2) := by decide +kernel
theorem dX8_taken_22 : decode cX8_taken 22 = .ok (.ireturn, 1) := by decide +kernel
theorem dX8_taken_23 : decode cX8_taken 23 = .ok (.aload_n 0, 1) := by decide +kernel
theorem dX8_taken_24 : decode cX8_taken 24 = .ok (.getfield 26, 3) := by decide +kernel
theorem dX8_taken_27 : decode cX8_taken 27 = .ok (.getfield 138, 3) := by decide +kernel
theorem dX8_taken_30 : decode cX8_taken 30 = .ok (.iload_n 1, 1) := by decide +kernel
theorem dX8_taken_31 : decode cX8_taken 31 = .ok (.iaload, 1) := by decide +kernel
theorem dX8_taken_32 : decode cX8_taken 32 = .ok (.iload_n 2, 1) := by decide +kernel
theorem dX8_taken_33 : decode cX8_taken 33 = .ok (.invokestatic 154, 3) := by decide +kernel
theorem dX8_taken_36 : decode cX8_taken 36 = .ok (.ifCond .eq 15, 3) := by decide +kernel
theorem dX8_taken_39 : decode cX8_taken 39 = .ok (.aload_n 0, 1) := by decide +kernel
theorem dX8_taken_40 : decode cX8_taken 40 = .ok (.getfield 26, 3) := by decide +kernel
theorem dX8_taken_43 : decode cX8_taken 43 = .ok (.getfield 127, 3) := by decide +kernel
theorem dX8_taken_46 : decode cX8_taken 46 = .ok (.iload_n 1, 1) := by decide +kernel
theorem dX8_taken_47 : decode cX8_taken 47 = .ok (.iaload, 1) := by decide +kernel
theorem dX8_taken_48 : decode cX8_taken 48 = .ok (.goto 5, 3) := by decide +kernel
theorem dX8_taken_51 : decode cX8_taken 51 = .ok (.bipush (-13), 2) := by decide +kernel
theorem dX8_taken_53 : decode cX8_taken 53 = .ok (.ireturn, 1) := by decide +kernel
set_option maxRecDepth 20000 in
theorem ggX8_tells_X3_has : GoodIn wsX8_tells wsX3_has := goodIn_r _ [6, 7, 44, 45, 46, 47, 48, 49, 50] (by decide +kernel) (by decide +kernel)
set_option maxRecDepth 20000 in
theorem gX8_tells_X3_has : GoodIn wsX8_tells (wsV RX8 124 RX3 yX3_has wsX3_has) := goodIn_app (goodIn_of _ (by decide +kernel)) ggX8_tells_X3_has
set_option maxRecDepth 20000 in
theorem ggX8_tells_X8_isStand : GoodIn wsX8_tells wsX8_isStand := goodIn_r _ [11, 12, 13, 10, 14] (by decide +kernel) (by decide +kernel)
set_option maxRecDepth 20000 in
theorem gX8_tells_X8_isStand : GoodIn wsX8_tells (va_wsS RX8 158 yX8_isStand wsX8_isStand) := goodIn_app (goodIn_of _ (by decide +kernel)) ggX8_tells_X8_isStand
set_option maxRecDepth 20000 in
theorem ggX8_tells_X3_tableOf : GoodIn wsX8_tells wsX3_tableOf := goodIn_r _ [18, 19, 20, 21, 22, 5, 23, 7, 24, 25, 26, 27, 28, 10, 29, 30, 31, 3, 4, 6, 44, 45, 46, 47, 48, 49, 50] (by decide +kernel) (by decide +kernel)
set_option maxRecDepth 20000 in
theorem gX8_tells_X3_tableOf : GoodIn wsX8_tells (wsV RX8 161 RX3 yX3_tableOf wsX3_tableOf) := goodIn_app (goodIn_of _ (by decide +kernel)) ggX8_tells_X3_tableOf
theorem dX8_tells_0 : decode cX8_tells 0 = .ok (.aload_n 0, 1) := by decide +kernel
theorem dX8_tells_1 : decode cX8_tells 1 = .ok (.getfield 26, 3) := by decide +kernel
theorem dX8_tells_4 : decode cX8_tells 4 = .ok (.iload_n 1, 1) := by decide +kernel
theorem dX8_tells_5 : decode cX8_tells 5 = .ok (.invokevirtual 124, 3) := by decide +kernel
theorem dX8_tells_8 : decode cX8_tells 8 = .ok (.ifCond .eq 10, 3) := by decide +kernel
theorem dX8_tells_11 : decode cX8_tells 11 = .ok (.iload_n 2, 1) := by decide +kernel
theorem dX8_tells_12 : decode cX8_tells 12 = .ok (.invokestatic 158, 3) := by decide +kernel
theorem dX8_tells_15 : decode cX8_tells 15 = .ok (.ifCond .ne 6, 3) := by decide +kernel
theorem dX8_tells_18 : decode cX8_tells 18 = .ok (.bipush (-2), 2) := by decide +kernel
theorem dX8_tells_20 : decode cX8_tells 20 = .ok (.ireturn, 1) := by decide +kernel
theorem dX8_tells_21 : decode cX8_tells 21 = .ok (.aload_n 0, 1) := by decide +kernel
theorem dX8_tells_22 : decode cX8_tells 22 = .ok (.getfield 26, 3) := by decide +kernel
theorem dX8_tells_25 : decode cX8_tells 25 = .ok (.iload_n 1, 1) := by decide +kernel
theorem dX8_tells_26 : decode cX8_tells 26 = .ok (.invokevirtual 161, 3) := by decide +kernel
theorem dX8_tells_29 : decode cX8_tells 29 = .ok (.iload_n 2, 1) := by decide +kernel
theorem dX8_tells_30 : decode cX8_tells 30 = .ok (.ishr, 1) := by decide +kernel
theorem dX8_tells_31 : decode cX8_tells 31 = .ok (.iconst 1, 1) := by decide +kernel
theorem dX8_tells_32 : decode cX8_tells 32 = .ok (.iand, 1) := by decide +kernel
theorem dX8_tells_33 : decode cX8_tells 33 = .ok (.ireturn, 1) := by decide +kernel
set_option maxRecDepth 20000 in
theorem ggX8_table_X3_isEmpty : GoodIn wsX8_table wsX3_isEmpty := goodIn_r _ [6, 7, 45, 46, 47, 48, 49, 50, 51] (by decide +kernel) (by decide +kernel)
set_option maxRecDepth 20000 in
theorem gX8_table_X3_isEmpty : GoodIn wsX8_table (wsV RX8 131 RX3 yX3_isEmpty wsX3_isEmpty) := goodIn_app (goodIn_of _ (by decide +kernel)) ggX8_table_X3_isEmpty
set_option maxRecDepth 20000 in
theorem ggX8_table_X3_output : GoodIn wsX8_table wsX3_output := goodIn_r _ [11, 7, 45, 46, 47, 48, 49, 50, 51] (by decide +kernel) (by decide +kernel)
set_option maxRecDepth 20000 in
theorem gX8_table_X3_output : GoodIn wsX8_table (wsV RX8 118 RX3 yX3_output wsX3_output) := goodIn_app (goodIn_of _ (by decide +kernel)) ggX8_table_X3_output
set_option maxRecDepth 20000 in
theorem ggX8_table_X3_tableOf : GoodIn wsX8_table wsX3_tableOf := goodIn_r _ [15, 16, 17, 18, 19, 5, 20, 7, 21, 22, 23, 24, 25, 26, 27, 28, 29, 30, 31, 32, 45, 46, 47, 48, 49, 50, 51] (by decide +kernel) (by decide +kernel)
set_option maxRecDepth 20000 in
theorem gX8_table_X3_tableOf : GoodIn wsX8_table (wsV RX8 161 RX3 yX3_tableOf wsX3_tableOf) := goodIn_app (goodIn_of _ (by decide +kernel)) ggX8_table_X3_tableOf
theorem dX8_table_0 : decode cX8_table 0 = .ok (.aload_n 0, 1) := by decide +kernel
theorem dX8_table_1 : decode cX8_table 1 = .ok (.getfield 26, 3) := by decide +kernel
theorem dX8_table_4 : decode cX8_table 4 = .ok (.invokevirtual 131, 3) := by decide +kernel
theorem dX8_table_7 : decode cX8_table 7 = .ok (.ifCond .eq 8, 3) := by decide +kernel
theorem dX8_table_10 : decode cX8_table 10 = .ok (.bipush (-3), 2) := by decide +kernel
theorem dX8_table_12 : decode cX8_table 12 = .ok (.goto 17, 3) := by decide +kernel
theorem dX8_table_15 : decode cX8_table 15 = .ok (.aload_n 0, 1) := by decide +kernel
theorem dX8_table_16 : decode cX8_table 16 = .ok (.getfield 26, 3) := by decide +kernel
theorem dX8_table_19 : decode cX8_table 19 = .ok (.aload_n 0, 1) := by decide +kernel
theorem dX8_table_20 : decode cX8_table 20 = .ok (.getfield 26, 3) := by decide +kernel
theorem dX8_table_23 : decode cX8_table 23 = .ok (.invokevirtual 118, 3) := by decide +kernel
theorem dX8_table_26 : decode cX8_table 26 = .ok (.invokevirtual 161, 3) := by decide +kernel
theorem dX8_table_29 : decode cX8_table 29 = .ok (.ireturn, 1) := by decide +kernel
set_option maxRecDepth 20000 in
theorem ggX8_wave_X8_isChange : GoodIn wsX8_wave wsX8_isChange := goodIn_r _ [6, 7, 8, 5, 9, 10, 11, 12] (by decide +kernel) (by decide +kernel)
set_option maxRecDepth 20000 in
theorem gX8_wave_X8_isChange : GoodIn wsX8_wave (va_wsS RX8 164 yX8_isChange wsX8_isChange) := goodIn_app (goodIn_of _ (by decide +kernel)) ggX8_wave_X8_isChange
set_option maxRecDepth 20000 in
theorem ggX8_wave_X8_isWithin : GoodIn wsX8_wave wsX8_isWithin := goodIn_r _ [12] (by decide +kernel) (by decide +kernel)
set_option maxRecDepth 20000 in
theorem gX8_wave_X8_isWithin : GoodIn wsX8_wave (va_wsS RX8 74 yX8_isWithin wsX8_isWithin) := goodIn_app (goodIn_of _ (by decide +kernel)) ggX8_wave_X8_isWithin
set_option maxRecDepth 20000 in
theorem ggX8_wave_X3_isEmpty : GoodIn wsX8_wave wsX3_isEmpty := goodIn_r _ [17, 18, 81, 82, 83, 84, 85, 86, 87] (by decide +kernel) (by decide +kernel)
set_option maxRecDepth 20000 in
theorem gX8_wave_X3_isEmpty : GoodIn wsX8_wave (wsV RX8 131 RX3 yX3_isEmpty wsX3_isEmpty) := goodIn_app (goodIn_of _ (by decide +kernel)) ggX8_wave_X3_isEmpty
set_option maxRecDepth 20000 in
theorem ggX8_wave_X7_run : GoodIn wsX8_wave wsX7_run := goodIn_r _ [23, 24, 25, 26, 27, 28, 29, 30, 31, 16, 32, 18, 33, 34, 35, 36, 37, 38, 5, 39, 40, 41, 42, 43, 44, 45, 46, 47, 22, 48, 49, 50, 51, 52, 53, 54, 55, 56, 57, 58, 59, 60, 61, 62, 63, 64, 88, 89, 90, 91, 81, 82, 83, 84, 85, 86, 87] (by decide +kernel) (by decide +kernel)
set_option maxRecDepth 20000 in
theorem gX8_wave_X7_run : GoodIn wsX8_wave (wsV RX8 167 RX7 yX7_run wsX7_run) := goodIn_app (goodIn_of _ (by decide +kernel)) ggX8_wave_X7_run
set_option maxRecDepth 20000 in
theorem ggX8_wave_X7_at : GoodIn wsX8_wave wsX7_at := goodIn_r _ [68, 28, 24, 27, 25, 88, 89, 90, 91] (by decide +kernel) (by decide +kernel)
set_option maxRecDepth 20000 in
theorem gX8_wave_X7_at : GoodIn wsX8_wave (wsV RX8 171 RX7 yX7_at wsX7_at) := goodIn_app (goodIn_of _ (by decide +kernel)) ggX8_wave_X7_at
theorem dX8_wave_0 : decode cX8_wave 0 = .ok (.iload_n 1, 1) := by decide +kernel
theorem dX8_wave_1 : decode cX8_wave 1 = .ok (.iload_n 2, 1) := by decide +kernel
theorem dX8_wave_2 : decode cX8_wave 2 = .ok (.invokestatic 164, 3) := by decide +kernel
theorem dX8_wave_5 : decode cX8_wave 5 = .ok (.ifCond .eq 13, 3) := by decide +kernel
theorem dX8_wave_8 : decode cX8_wave 8 = .ok (.iload_n 3, 1) := by decide +kernel
theorem dX8_wave_9 : decode cX8_wave 9 = .ok (.iconst 0, 1) := by decide +kernel
theorem dX8_wave_10 : decode cX8_wave 10 = .ok (.bipush 108, 2) := by decide +kernel
theorem dX8_wave_12 : decode cX8_wave 12 = .ok (.invokestatic 74, 3) := by decide +kernel
theorem dX8_wave_15 : decode cX8_wave 15 = .ok (.ifCond .ne 6, 3) := by decide +kernel
theorem dX8_wave_18 : decode cX8_wave 18 = .ok (.bipush (-2), 2) := by decide +kernel
theorem dX8_wave_20 : decode cX8_wave 20 = .ok (.ireturn, 1) := by decide +kernel
theorem dX8_wave_21 : decode cX8_wave 21 = .ok (.aload_n 0, 1) := by decide +kernel
theorem dX8_wave_22 : decode cX8_wave 22 = .ok (.getfield 26, 3) := by decide +kernel
theorem dX8_wave_25 : decode cX8_wave 25 = .ok (.invokevirtual 131, 3) := by decide +kernel
theorem dX8_wave_28 : decode cX8_wave 28 = .ok (.ifCond .eq 6, 3) := by decide +kernel
theorem dX8_wave_31 : decode cX8_wave 31 = .ok (.bipush (-3), 2) := by decide +kernel
theorem dX8_wave_33 : decode cX8_wave 33 = .ok (.ireturn, 1) := by decide +kernel
theorem dX8_wave_34 : decode cX8_wave 34 = .ok (.aload_n 0, 1) := by decide +kernel
theorem dX8_wave_35 : decode cX8_wave 35 = .ok (.getfield 36, 3) := by decide +kernel
theorem dX8_wave_38 : decode cX8_wave 38 = .ok (.aload_n 0, 1) := by decide +kernel
theorem dX8_wave_39 : decode cX8_wave 39 = .ok (.getfield 26, 3) := by decide +kernel
theorem dX8_wave_42 : decode cX8_wave 42 = .ok (.iload_n 1, 1) := by decide +kernel
theorem dX8_wave_43 : decode cX8_wave 43 = .ok (.iload_n 2, 1) := by decide +kernel
theorem dX8_wave_44 : decode cX8_wave 44 = .ok (.invokevirtual 167, 3) := by decide +kernel
theorem dX8_wave_47 : decode cX8_wave 47 = .ok (.aload_n 0, 1) := by decide +kernel
theorem dX8_wave_48 : decode cX8_wave 48 = .ok (.getfield 36, 3) := by decide +kernel
theorem dX8_wave_51 : decode cX8_wave 51 = .ok (.iload_n 3, 1) := by decide +kernel
theorem dX8_wave_52 : decode cX8_wave 52 = .ok (.invokevirtual 171, 3) := by decide +kernel
theorem dX8_wave_55 : decode cX8_wave 55 = .ok (.ireturn, 1) := by decide +kernel
set_option maxRecDepth 20000 in
theorem ggX8_change_X8_isChange : GoodIn wsX8_change wsX8_isChange := goodIn_r _ [6, 7, 8, 5, 9, 10, 11, 12] (by decide +kernel) (by decide +kernel)
set_option maxRecDepth 20000 in
theorem gX8_change_X8_isChange : GoodIn wsX8_change (va_wsS RX8 164 yX8_isChange wsX8_isChange) := goodIn_app (goodIn_of _ (by decide +kernel)) ggX8_change_X8_isChange
set_option maxRecDepth 20000 in
theorem ggX8_change_X8_isWithin : GoodIn wsX8_change wsX8_isWithin := goodIn_r _ [12] (by decide +kernel) (by decide +kernel)
set_option maxRecDepth 20000 in
theorem gX8_change_X8_isWithin : GoodIn wsX8_change (va_wsS RX8 74 yX8_isWithin wsX8_isWithin) := goodIn_app (goodIn_of _ (by decide +kernel)) ggX8_change_X8_isWithin
set_option maxRecDepth 20000 in
theorem ggX8_change_X3_isEmpty : GoodIn wsX8_change wsX3_isEmpty := goodIn_r _ [17, 18, 101, 102, 103, 104, 105, 106, 107] (by decide +kernel) (by decide +kernel)
set_option maxRecDepth 20000 in
theorem gX8_change_X3_isEmpty : GoodIn wsX8_change (wsV RX8 131 RX3 yX3_isEmpty wsX3_isEmpty) := goodIn_app (goodIn_of _ (by decide +kernel)) ggX8_change_X3_isEmpty
set_option maxRecDepth 20000 in
theorem ggX8_change_X7_run : GoodIn wsX8_change wsX7_run := goodIn_r _ [23, 24, 25, 26, 27, 28, 29, 30, 31, 16, 32, 18, 33, 34, 35, 36, 37, 38, 5, 39, 40, 41, 42, 43, 44, 45, 46, 47, 22, 48, 49, 50, 51, 52, 53, 54, 55, 56, 57, 58, 59, 60, 61, 62, 63, 64, 108, 109, 110, 111, 101, 102, 103, 104, 105, 106, 107] (by decide +kernel) (by decide +kernel)
set_option maxRecDepth 20000 in
theorem gX8_change_X7_run : GoodIn wsX8_change (wsV RX8 167 RX7 yX7_run wsX7_run) := goodIn_app (goodIn_of _ (by decide +kernel)) ggX8_change_X7_run
set_option maxRecDepth 20000 in
theorem ggX8_change_X7_flips : GoodIn wsX8_change wsX7_flips := goodIn_r _ [68, 24, 27, 25, 28, 69, 70, 71, 72, 73, 74, 75, 108, 109, 110, 111] (by decide +kernel) (by decide +kernel)
set_option maxRecDepth 20000 in
theorem gX8_change_X7_flips : GoodIn wsX8_change (wsV RX8 174 RX7 yX7_flips wsX7_flips) := goodIn_app (goodIn_of _ (by decide +kernel)) ggX8_change_X7_flips
set_option maxRecDepth 20000 in
theorem ggX8_change_X7_glitch : GoodIn wsX8_change wsX7_glitch := goodIn_r _ [79, 28, 80, 66, 67, 22, 68, 24, 27, 25, 69, 70, 71, 72, 73, 74, 75, 81, 82, 83, 84, 108, 109, 110, 111] (by decide +kernel) (by decide +kernel)
set_option maxRecDepth 20000 in
theorem gX8_change_X7_glitch : GoodIn wsX8_change (wsV RX8 177 RX7 yX7_glitch wsX7_glitch) := goodIn_app (goodIn_of _ (by decide +kernel)) ggX8_change_X7_glitch
set_option maxRecDepth 20000 in
theorem ggX8_change_X7_settles : GoodIn wsX8_change wsX7_settles := goodIn_r _ [88, 81, 82, 83, 22, 84, 28, 24, 27, 25, 108, 109, 110, 111] (by decide +kernel) (by decide +kernel)
set_option maxRecDepth 20000 in
theorem gX8_change_X7_settles : GoodIn wsX8_change (wsV RX8 180 RX7 yX7_settles wsX7_settles) := goodIn_app (goodIn_of _ (by decide +kernel)) ggX8_change_X7_settles
theorem dX8_change_0 : decode cX8_change 0 = .ok (.iload_n 1, 1) := by decide +kernel
theorem dX8_change_1 : decode cX8_change 1 = .ok (.iload_n 2, 1) := by decide +kernel
theorem dX8_change_2 : decode cX8_change 2 = .ok (.invokestatic 164, 3) := by decide +kernel
theorem dX8_change_5 : decode cX8_change 5 = .ok (.ifCond .eq 12, 3) := by decide +kernel
theorem dX8_change_8 : decode cX8_change 8 = .ok (.iload_n 3, 1) := by decide +kernel
theorem dX8_change_9 : decode cX8_change 9 = .ok (.iconst 0, 1) := by decide +kernel
theorem dX8_change_10 : decode cX8_change 10 = .ok (.iconst 2, 1) := by decide +kernel
theorem dX8_change_11 : decode cX8_change 11 = .ok (.invokestatic 74, 3) := by decide +kernel
theorem dX8_change_14 : decode cX8_change 14 = .ok (.ifCond .ne 6, 3) := by decide +kernel
theorem dX8_change_17 : decode cX8_change 17 = .ok (.bipush (-2), 2) := by decide +kernel
theorem dX8_change_19 : decode cX8_change 19 = .ok (.ireturn, 1) := by decide +kernel
theorem dX8_change_20 : decode cX8_change 20 = .ok (.aload_n 0, 1) := by decide +kernel
theorem dX8_change_21 : decode cX8_change 21 = .ok (.getfield 26, 3) := by decide +kernel
theorem dX8_change_24 : decode cX8_change 24 = .ok (.invokevirtual 131, 3) := by decide +kernel
theorem dX8_change_27 : decode cX8_change 27 = .ok (.ifCond .eq 6, 3) := by decide +kernel
theorem dX8_change_30 : decode cX8_change 30 = .ok (.bipush (-3), 2) := by decide +kernel
theorem dX8_change_32 : decode cX8_change 32 = .ok (.ireturn, 1) := by decide +kernel
theorem dX8_change_33 : decode cX8_change 33 = .ok (.aload_n 0, 1) := by decide +kernel
theorem dX8_change_34 : decode cX8_change 34 = .ok (.getfield 36, 3) := by decide +kernel
theorem dX8_change_37 : decode cX8_change 37 = .ok (.aload_n 0, 1) := by decide +kernel
theorem dX8_change_38 : decode cX8_change 38 = .ok (.getfield 26, 3) := by decide +kernel
theorem dX8_change_41 : decode cX8_change 41 = .ok (.iload_n 1, 1) := by decide +kernel
theorem dX8_change_42 : decode cX8_change 42 = .ok (.iload_n 2, 1) := by decide +kernel
theorem dX8_change_43 : decode cX8_change 43 = .ok (.invokevirtual 167, 3) := by decide +kernel
theorem dX8_change_46 : decode cX8_change 46 = .ok (.iload_n 3, 1) := by decide +kernel
theorem dX8_change_47 : decode cX8_change 47 = .ok (.lookupswitch 41 #[(0, 25), (1, 33)], 25) := by decide +kernel
theorem dX8_change_72 : decode cX8_change 72 = .ok (.aload_n 0, 1) := by decide +kernel
theorem dX8_change_73 : decode cX8_change 73 = .ok (.getfield 36, 3) := by decide +kernel
theorem dX8_change_76 : decode cX8_change 76 = .ok (.invokevirtual 174, 3) := by decide +kernel
theorem dX8_change_79 : decode cX8_change 79 = .ok (.ireturn, 1) := by decide +kernel
theorem dX8_change_80 : decode cX8_change 80 = .ok (.aload_n 0, 1) := by decide +kernel
theorem dX8_change_81 : decode cX8_change 81 = .ok (.getfield 36, 3) := by decide +kernel
theorem dX8_change_84 : decode cX8_change 84 = .ok (.invokevirtual 177, 3) := by decide +kernel
theorem dX8_change_87 : decode cX8_change 87 = .ok (.ireturn, 1) := by decide +kernel
theorem dX8_change_88 : decode cX8_change 88 = .ok (.aload_n 0, 1) := by decide +kernel
theorem dX8_change_89 : decode cX8_change 89 = .ok (.getfield 36, 3) := by decide +kernel
theorem dX8_change_92 : decode cX8_change 92 = .ok (.invokevirtual 180, 3) := by decide +kernel
theorem dX8_change_95 : decode cX8_change 95 = .ok (.ireturn, 1) := by decide +kernel
set_option maxRecDepth 20000 in
theorem ggX8_worst_X8_isWithin : GoodIn wsX8_worst wsX8_isWithin := goodIn_r _ [6] (by decide +kernel) (by decide +kernel)
set_option maxRecDepth 20000 in
theorem gX8_worst_X8_isWithin : GoodIn wsX8_worst (va_wsS RX8 74 yX8_isWithin wsX8_isWithin) := goodIn_app (goodIn_of _ (by decide +kernel)) ggX8_worst_X8_isWithin
set_option maxRecDepth 20000 in
theorem ggX8_worst_X3_isEmpty : GoodIn wsX8_worst wsX3_isEmpty := goodIn_r _ [11, 12, 92, 93, 94, 95, 96, 97, 98] (by decide +kernel) (by decide +kernel)
set_option maxRecDepth 20000 in
theorem gX8_worst_X3_isEmpty : GoodIn wsX8_worst (wsV RX8 131 RX3 yX3_isEmpty wsX3_isEmpty) := goodIn_app (goodIn_of _ (by decide +kernel)) ggX8_worst_X3_isEmpty
set_option maxRecDepth 20000 in
theorem ggX8_worst_X8_isOneInputChange : GoodIn wsX8_worst wsX8_isOneInputChange := goodIn_r _ [15, 16, 17, 18, 19, 20, 21, 22] (by decide +kernel) (by decide +kernel)
set_option maxRecDepth 20000 in
theorem gX8_worst_X8_isOneInputChange : GoodIn wsX8_worst (va_wsS RX8 183 yX8_isOneInputChange wsX8_isOneInputChange) := goodIn_app (goodIn_of _ (by decide +kernel)) ggX8_worst_X8_isOneInputChange
set_option maxRecDepth 20000 in
theorem ggX8_worst_X7_run : GoodIn wsX8_worst wsX7_run := goodIn_r _ [27, 28, 29, 30, 31, 32, 33, 34, 35, 10, 36, 12, 37, 38, 39, 40, 41, 42, 5, 43, 44, 45, 46, 47, 48, 49, 50, 51, 26, 52, 53, 54, 55, 56, 57, 58, 59, 60, 61, 62, 63, 64, 65, 66, 67, 68, 99, 100, 101, 102, 92, 93, 94, 95, 96, 97, 98] (by decide +kernel) (by decide +kernel)
set_option maxRecDepth 20000 in
theorem gX8_worst_X7_run : GoodIn wsX8_worst (wsV RX8 167 RX7 yX7_run wsX7_run) := goodIn_app (goodIn_of _ (by decide +kernel)) ggX8_worst_X7_run
set_option maxRecDepth 20000 in
theorem ggX8_worst_X7_flips : GoodIn wsX8_worst wsX7_flips := goodIn_r _ [72, 28, 31, 29, 32, 73, 74, 75, 76, 77, 78, 79, 99, 100, 101, 102] (by decide +kernel) (by decide +kernel)
set_option maxRecDepth 20000 in
theorem gX8_worst_X7_flips : GoodIn wsX8_worst (wsV RX8 174 RX7 yX7_flips wsX7_flips) := goodIn_app (goodIn_of _ (by decide +kernel)) ggX8_worst_X7_flips
theorem dX8_worst_0 : decode cX8_worst 0 = .ok (.iload_n 1, 1) := by decide +kernel
theorem dX8_worst_1 : decode cX8_worst 1 = .ok (.iconst 0, 1) := by decide +kernel
theorem dX8_worst_2 : decode cX8_worst 2 = .ok (.iconst 2, 1) := by decide +kernel
theorem dX8_worst_3 : decode cX8_worst 3 = .ok (.invokestatic 74, 3) := by decide +kernel
theorem dX8_worst_6 : decode cX8_worst 6 = .ok (.ifCond .ne 6, 3) := by decide +kernel
theorem dX8_worst_9 : decode cX8_worst 9 = .ok (.bipush (-2), 2) := by decide +kernel
theorem dX8_worst_11 : decode cX8_worst 11 = .ok (.ireturn, 1) := by decide +kernel
theorem dX8_worst_12 : decode cX8_worst 12 = .ok (.aload_n 0, 1) := by decide +kernel
theorem dX8_worst_13 : decode cX8_worst 13 = .ok (.getfield 26, 3) := by decide +kernel
theorem dX8_worst_16 : decode cX8_worst 16 = .ok (.invokevirtual 131, 3) := by decide +kernel
theorem dX8_worst_19 : decode cX8_worst 19 = .ok (.ifCond .eq 6, 3) := by decide +kernel
theorem dX8_worst_22 : decode cX8_worst 22 = .ok (.bipush (-3), 2) := by decide +kernel
theorem dX8_worst_24 : decode cX8_worst 24 = .ok (.ireturn, 1) := by decide +kernel
theorem dX8_worst_25 : decode cX8_worst 25 = .ok (.iconst 0, 1) := by decide +kernel
theorem dX8_worst_26 : decode cX8_worst 26 = .ok (.istore_n 2, 1) := by decide +kernel
theorem dX8_worst_27 : decode cX8_worst 27 = .ok (.iconst 0, 1) := by decide +kernel
theorem dX8_worst_28 : decode cX8_worst 28 = .ok (.istore_n 3, 1) := by decide +kernel
theorem dX8_worst_29 : decode cX8_worst 29 = .ok (.iconst (-1), 1) := by decide +kernel
theorem dX8_worst_30 : decode cX8_worst 30 = .ok (.istore 4, 2) := by decide +kernel
theorem dX8_worst_32 : decode cX8_worst 32 = .ok (.iconst 0, 1) := by decide +kernel
theorem dX8_worst_33 : decode cX8_worst 33 = .ok (.istore 5, 2) := by decide +kernel
theorem dX8_worst_35 : decode cX8_worst 35 = .ok (.iload 5, 2) := by decide +kernel
theorem dX8_worst_37 : decode cX8_worst 37 = .ok (.bipush 16, 2) := by decide +kernel
theorem dX8_worst_39 : decode cX8_worst 39 = .ok (.if_icmp .ge 79, 3) := by decide +kernel
theorem dX8_worst_42 : decode cX8_worst 42 = .ok (.iconst 0, 1) := by decide +kernel
theorem dX8_worst_43 : decode cX8_worst 43 = .ok (.istore 6, 2) := by decide +kernel
theorem dX8_worst_45 : decode cX8_worst 45 = .ok (.iload 6, 2) := by decide +kernel
theorem dX8_worst_47 : decode cX8_worst 47 = .ok (.bipush 16, 2) := by decide +kernel
theorem dX8_worst_49 : decode cX8_worst 49 = .ok (.if_icmp .ge 63, 3) := by decide +kernel
theorem dX8_worst_52 : decode cX8_worst 52 = .ok (.iload 5, 2) := by decide +kernel
theorem dX8_worst_54 : decode cX8_worst 54 = .ok (.iload 6, 2) := by decide +kernel
theorem dX8_worst_56 : decode cX8_worst 56 = .ok (.invokestatic 183, 3) := by decide +kernel
theorem dX8_worst_59 : decode cX8_worst 59 = .ok (.ifCond .ne 6, 3) := by decide +kernel
theorem dX8_worst_62 : decode cX8_worst 62 = .ok (.goto 44, 3) := by decide +kernel
theorem dX8_worst_65 : decode cX8_worst 65 = .ok (.aload_n 0, 1) := by decide +kernel
theorem dX8_worst_66 : decode cX8_worst 66 = .ok (.getfield 36, 3) := by decide +kernel
theorem dX8_worst_69 : decode cX8_worst 69 = .ok (.aload_n 0, 1) := by decide +kernel
theorem dX8_worst_70 : decode cX8_worst 70 = .ok (.getfield 26, 3) := by decide +kernel
theorem dX8_worst_73 : decode cX8_worst 73 = .ok (.iload 5, 2) := by decide +kernel
theorem dX8_worst_75 : decode cX8_worst 75 = .ok (.iload 6, 2) := by decide +kernel
theorem dX8_worst_77 : decode cX8_worst 77 = .ok (.invokevirtual 167, 3) := by decide +kernel
theorem dX8_worst_80 : decode cX8_worst 80 = .ok (.aload_n 0, 1) := by decide +kernel
theorem dX8_worst_81 : decode cX8_worst 81 = .ok (.getfield 36, 3) := by decide +kernel
theorem dX8_worst_84 : decode cX8_worst 84 = .ok (.invokevirtual 174, 3) := by decide +kernel
theorem dX8_worst_87 : decode cX8_worst 87 = .ok (.istore 7, 2) := by decide +kernel
theorem dX8_worst_89 : decode cX8_worst 89 = .ok (.iload 7, 2) := by decide +kernel
theorem dX8_worst_91 : decode cX8_worst 91 = .ok (.iload 4, 2) := by decide +kernel
theorem dX8_worst_93 : decode cX8_worst 93 = .ok (.if_icmp .le 13, 3) := by decide +kernel
theorem dX8_worst_96 : decode cX8_worst 96 = .ok (.iload 7, 2) := by decide +kernel
theorem dX8_worst_98 : decode cX8_worst 98 = .ok (.istore 4, 2) := by decide +kernel
theorem dX8_worst_100 : decode cX8_worst 100 = .ok (.iload 5, 2) := by decide +kernel
theorem dX8_worst_102 : decode cX8_worst 102 = .ok (.istore_n 2, 1) := by decide +kernel
theorem dX8_worst_103 : decode cX8_worst 103 = .ok (.iload 6, 2) := by decide +kernel
theorem dX8_worst_105 : decode cX8_worst 105 = .ok (.istore_n 3, 1) := by decide +kernel
theorem dX8_worst_106 : decode cX8_worst 106 = .ok (.iinc 6 1, 3) := by decide +kernel
theorem dX8_worst_109 : decode cX8_worst 109 = .ok (.goto (-64), 3) := by decide +kernel
theorem dX8_worst_112 : decode cX8_worst 112 = .ok (.iinc 5 1, 3) := by decide +kernel
theorem dX8_worst_115 : decode cX8_worst 115 = .ok (.goto (-80), 3) := by decide +kernel
theorem dX8_worst_118 : decode cX8_worst 118 = .ok (.iload_n 1, 1) := by decide +kernel
theorem dX8_worst_119 : decode cX8_worst 119 = .ok (.lookupswitch 29 #[(0, 25), (1, 27)], 25) := by decide +kernel
theorem dX8_worst_144 : decode cX8_worst 144 = .ok (.iload_n 2, 1) := by decide +kernel
theorem dX8_worst_145 : decode cX8_worst 145 = .ok (.ireturn, 1) := by decide +kernel
theorem dX8_worst_146 : decode cX8_worst 146 = .ok (.iload_n 3, 1) := by decide +kernel
theorem dX8_worst_147 : decode cX8_worst 147 = .ok (.ireturn, 1) := by decide +kernel
theorem dX8_worst_148 : decode cX8_worst 148 = .ok (.iload 4, 2) := by decide +kernel
theorem dX8_worst_150 : decode cX8_worst 150 = .ok (.ireturn, 1) := by decide +kernel
set_option maxRecDepth 20000 in
theorem ggX8_glitches_X8_isWithin : GoodIn wsX8_glitches wsX8_isWithin := goodIn_r _ [6] (by decide +kernel) (by decide +kernel)
set_option maxRecDepth 20000 in
theorem gX8_glitches_X8_isWithin : GoodIn wsX8_glitches (va_wsS RX8 74 yX8_isWithin wsX8_isWithin) := goodIn_app (goodIn_of _ (by decide +kernel)) ggX8_glitches_X8_isWithin
set_option maxRecDepth 20000 in
theorem ggX8_glitches_X3_isEmpty : GoodIn wsX8_glitches wsX3_isEmpty := goodIn_r _ [11, 12, 100, 101, 102, 103, 104, 105, 106] (by decide +kernel) (by decide +kernel)
set_option maxRecDepth 20000 in
theorem gX8_glitches_X3_isEmpty : GoodIn wsX8_glitches (wsV RX8 131 RX3 yX3_isEmpty wsX3_isEmpty) := goodIn_app (goodIn_of _ (by decide +kernel)) ggX8_glitches_X3_isEmpty
set_option maxRecDepth 20000 in
theorem ggX8_glitches_X8_isOneInputChange : GoodIn wsX8_glitches wsX8_isOneInputChange := goodIn_r _ [15, 16, 17, 18, 19, 20, 21, 22] (by decide +kernel) (by decide +kernel)
set_option maxRecDepth 20000 in
theorem gX8_glitches_X8_isOneInputChange : GoodIn wsX8_glitches (va_wsS RX8 183 yX8_isOneInputChange wsX8_isOneInputChange) := goodIn_app (goodIn_of _ (by decide +kernel)) ggX8_glitches_X8_isOneInputChange
set_option maxRecDepth 20000 in
theorem ggX8_glitches_X7_run : GoodIn wsX8_glitches wsX7_run := goodIn_r _ [27, 28, 29, 30, 31, 32, 33, 34, 35, 10, 36, 12, 37, 38, 39, 40, 41, 42, 5, 43, 44, 45, 46, 47, 48, 49, 50, 51, 26, 52, 53, 54, 55, 56, 57, 58, 59, 60, 61, 62, 63, 64, 65, 66, 67, 68, 107, 108, 109, 110, 100, 101, 102, 103, 104, 105, 106] (by decide +kernel) (by decide +kernel)
set_option maxRecDepth 20000 in
theorem gX8_glitches_X7_run : GoodIn wsX8_glitches (wsV RX8 167 RX7 yX7_run wsX7_run) := goodIn_app (goodIn_of _ (by decide +kernel)) ggX8_glitches_X7_run
set_option maxRecDepth 20000 in
theorem ggX8_glitches_X7_glitch : GoodIn wsX8_glitches wsX7_glitch := goodIn_r _ [72, 32, 73, 74, 75, 26, 76, 28, 31, 29, 77, 78, 79, 80, 81, 82, 83, 84, 85, 86, 87, 107, 108, 109, 110] (by decide +kernel) (by decide +kernel)
set_option maxRecDepth 20000 in
theorem gX8_glitches_X7_glitch : GoodIn wsX8_glitches (wsV RX8 177 RX7 yX7_glitch wsX7_glitch) := goodIn_app (goodIn_of _ (by decide +kernel)) ggX8_glitches_X7_glitch
theorem dX8_glitches_0 : decode cX8_glitches 0 = .ok (.iload_n 1, 1) := by decide +kernel
theorem dX8_glitches_1 : decode cX8_glitches 1 = .ok (.iconst 0, 1) := by decide +kernel
theorem dX8_glitches_2 : decode cX8_glitches 2 = .ok (.iconst 2, 1) := by decide +kernel
theorem dX8_glitches_3 : decode cX8_glitches 3 = .ok (.invokestatic 74, 3) := by decide +kernel
theorem dX8_glitches_6 : decode cX8_glitches 6 = .ok (.ifCond .ne 6, 3) := by decide +kernel
theorem dX8_glitches_9 : decode cX8_glitches 9 = .ok (.bipush (-2), 2) := by decide +kernel
theorem dX8_glitches_11 : decode cX8_glitches 11 = .ok (.ireturn, 1) := by decide +kernel
theorem dX8_glitches_12 : decode cX8_glitches 12 = .ok (.aload_n 0, 1) := by decide +kernel
theorem dX8_glitches_13 : decode cX8_glitches 13 = .ok (.getfield 26, 3) := by decide +kernel
theorem dX8_glitches_16 : decode cX8_glitches 16 = .ok (.invokevirtual 131, 3) := by decide +kernel
theorem dX8_glitches_19 : decode cX8_glitches 19 = .ok (.ifCond .eq 6, 3) := by decide +kernel
theorem dX8_glitches_22 : decode cX8_glitches 22 = .ok (.bipush (-3), 2) := by decide +kernel
theorem dX8_glitches_24 : decode cX8_glitches 24 = .ok (.ireturn, 1) := by decide +kernel
theorem dX8_glitches_25 : decode cX8_glitches 25 = .ok (.iconst 0, 1) := by decide +kernel
theorem dX8_glitches_26 : decode cX8_glitches 26 = .ok (.istore_n 2, 1) := by decide +kernel
theorem dX8_glitches_27 : decode cX8_glitches 27 = .ok (.iconst 0, 1) := by decide +kernel
theorem dX8_glitches_28 : decode cX8_glitches 28 = .ok (.istore_n 3, 1) := by decide +kernel
theorem dX8_glitches_29 : decode cX8_glitches 29 = .ok (.iload_n 3, 1) := by decide +kernel
theorem dX8_glitches_30 : decode cX8_glitches 30 = .ok (.bipush 16, 2) := by decide +kernel
theorem dX8_glitches_32 : decode cX8_glitches 32 = .ok (.if_icmp .ge 65, 3) := by decide +kernel
theorem dX8_glitches_35 : decode cX8_glitches 35 = .ok (.iconst 0, 1) := by decide +kernel
theorem dX8_glitches_36 : decode cX8_glitches 36 = .ok (.istore 4, 2) := by decide +kernel
theorem dX8_glitches_38 : decode cX8_glitches 38 = .ok (.iload 4, 2) := by decide +kernel
theorem dX8_glitches_40 : decode cX8_glitches 40 = .ok (.bipush 16, 2) := by decide +kernel
theorem dX8_glitches_42 : decode cX8_glitches 42 = .ok (.if_icmp .ge 49, 3) := by decide +kernel
theorem dX8_glitches_45 : decode cX8_glitches 45 = .ok (.iload_n 3, 1) := by decide +kernel
theorem dX8_glitches_46 : decode cX8_glitches 46 = .ok (.iload 4, 2) := by decide +kernel
theorem dX8_glitches_48 : decode cX8_glitches 48 = .ok (.invokestatic 183, 3) := by decide +kernel
theorem dX8_glitches_51 : decode cX8_glitches 51 = .ok (.ifCond .ne 6, 3) := by decide +kernel
theorem dX8_glitches_54 : decode cX8_glitches 54 = .ok (.goto 31, 3) := by decide +kernel
theorem dX8_glitches_57 : decode cX8_glitches 57 = .ok (.aload_n 0, 1) := by decide +kernel
theorem dX8_glitches_58 : decode cX8_glitches 58 = .ok (.getfield 36, 3) := by decide +kernel
theorem dX8_glitches_61 : decode cX8_glitches 61 = .ok (.aload_n 0, 1) := by decide +kernel
theorem dX8_glitches_62 : decode cX8_glitches 62 = .ok (.getfield 26, 3) := by decide +kernel
theorem dX8_glitches_65 : decode cX8_glitches 65 = .ok (.iload_n 3, 1) := by decide +kernel
theorem dX8_glitches_66 : decode cX8_glitches 66 = .ok (.iload 4, 2) := by decide +kernel
theorem dX8_glitches_68 : decode cX8_glitches 68 = .ok (.invokevirtual 167, 3) := by decide +kernel
theorem dX8_glitches_71 : decode cX8_glitches 71 = .ok (.aload_n 0, 1) := by decide +kernel
theorem dX8_glitches_72 : decode cX8_glitches 72 = .ok (.getfield 36, 3) := by decide +kernel
theorem dX8_glitches_75 : decode cX8_glitches 75 = .ok (.invokevirtual 177, 3) := by decide +kernel
theorem dX8_glitches_78 : decode cX8_glitches 78 = .ok (.iload_n 1, 1) := by decide +kernel
theorem dX8_glitches_79 : decode cX8_glitches 79 = .ok (.if_icmp .ne 6, 3) := by decide +kernel
theorem dX8_glitches_82 : decode cX8_glitches 82 = .ok (.iinc 2 1, 3) := by decide +kernel
theorem dX8_glitches_85 : decode cX8_glitches 85 = .ok (.iinc 4 1, 3) := by decide +kernel
theorem dX8_glitches_88 : decode cX8_glitches 88 = .ok (.goto (-50), 3) := by decide +kernel
theorem dX8_glitches_91 : decode cX8_glitches 91 = .ok (.iinc 3 1, 3) := by decide +kernel
theorem dX8_glitches_94 : decode cX8_glitches 94 = .ok (.goto (-65), 3) := by decide +kernel
theorem dX8_glitches_97 : decode cX8_glitches 97 = .ok (.iload_n 2, 1) := by decide +kernel
theorem dX8_glitches_98 : decode cX8_glitches 98 = .ok (.ireturn, 1) := by decide +kernel
set_option maxRecDepth 20000 in
theorem ggX8_path_X3_isEmpty : GoodIn wsX8_path wsX3_isEmpty := goodIn_r _ [6, 7, 44, 45, 46, 47, 48, 49, 50] (by decide +kernel) (by decide +kernel)
set_option maxRecDepth 20000 in
theorem gX8_path_X3_isEmpty : GoodIn wsX8_path (wsV RX8 131 RX3 yX3_isEmpty wsX3_isEmpty) := goodIn_app (goodIn_of _ (by decide +kernel)) ggX8_path_X3_isEmpty
set_option maxRecDepth 20000 in
theorem ggX8_path_X3_findPaths : GoodIn wsX8_path wsX3_findPaths := goodIn_r _ [11, 7, 12, 13, 14, 15, 16, 17, 18, 19, 44, 45, 46, 47, 48, 49, 50] (by decide +kernel) (by decide +kernel)
set_option maxRecDepth 20000 in
theorem gX8_path_X3_findPaths : GoodIn wsX8_path (wsV RX8 186 RX3 yX3_findPaths wsX3_findPaths) := goodIn_app (goodIn_of _ (by decide +kernel)) ggX8_path_X3_findPaths
set_option maxRecDepth 20000 in
theorem ggX8_path_X3_output : GoodIn wsX8_path wsX3_output := goodIn_r _ [23, 7, 44, 45, 46, 47, 48, 49, 50] (by decide +kernel) (by decide +kernel)
set_option maxRecDepth 20000 in
theorem gX8_path_X3_output : GoodIn wsX8_path (wsV RX8 118 RX3 yX3_output wsX3_output) := goodIn_app (goodIn_of _ (by decide +kernel)) ggX8_path_X3_output
set_option maxRecDepth 20000 in
theorem ggX8_path_X3_backOnPath : GoodIn wsX8_path wsX3_backOnPath := goodIn_r _ [27, 13, 14, 12, 28, 29, 30, 5, 31, 7, 44, 45, 46, 47, 48, 49, 50] (by decide +kernel) (by decide +kernel)
set_option maxRecDepth 20000 in
theorem gX8_path_X3_backOnPath : GoodIn wsX8_path (wsV RX8 189 RX3 yX3_backOnPath wsX3_backOnPath) := goodIn_app (goodIn_of _ (by decide +kernel)) ggX8_path_X3_backOnPath
theorem dX8_path_0 : decode cX8_path 0 = .ok (.iload_n 1, 1) := by decide +kernel
theorem dX8_path_1 : decode cX8_path 1 = .ok (.ifCond .ge 6, 3) := by decide +kernel
theorem dX8_path_4 : decode cX8_path 4 = .ok (.bipush (-2), 2) := by decide +kernel
theorem dX8_path_6 : decode cX8_path 6 = .ok (.ireturn, 1) := by decide +kernel
theorem dX8_path_7 : decode cX8_path 7 = .ok (.aload_n 0, 1) := by decide +kernel
theorem dX8_path_8 : decode cX8_path 8 = .ok (.getfield 26, 3) := by decide +kernel
theorem dX8_path_11 : decode cX8_path 11 = .ok (.invokevirtual 131, 3) := by decide +kernel
theorem dX8_path_14 : decode cX8_path 14 = .ok (.ifCond .eq 6, 3) := by decide +kernel
theorem dX8_path_17 : decode cX8_path 17 = .ok (.bipush (-3), 2) := by decide +kernel
theorem dX8_path_19 : decode cX8_path 19 = .ok (.ireturn, 1) := by decide +kernel
theorem dX8_path_20 : decode cX8_path 20 = .ok (.aload_n 0, 1) := by decide +kernel
theorem dX8_path_21 : decode cX8_path 21 = .ok (.getfield 26, 3) := by decide +kernel
theorem dX8_path_24 : decode cX8_path 24 = .ok (.invokevirtual 186, 3) := by decide +kernel
theorem dX8_path_27 : decode cX8_path 27 = .ok (.aload_n 0, 1) := by decide +kernel
theorem dX8_path_28 : decode cX8_path 28 = .ok (.getfield 26, 3) := by decide +kernel
theorem dX8_path_31 : decode cX8_path 31 = .ok (.invokevirtual 118, 3) := by decide +kernel
theorem dX8_path_34 : decode cX8_path 34 = .ok (.istore_n 2, 1) := by decide +kernel
theorem dX8_path_35 : decode cX8_path 35 = .ok (.iconst 0, 1) := by decide +kernel
theorem dX8_path_36 : decode cX8_path 36 = .ok (.istore_n 3, 1) := by decide +kernel
theorem dX8_path_37 : decode cX8_path 37 = .ok (.iload_n 3, 1) := by decide +kernel
theorem dX8_path_38 : decode cX8_path 38 = .ok (.iload_n 1, 1) := by decide +kernel
theorem dX8_path_39 : decode cX8_path 39 = .ok (.if_icmp .ge 23, 3) := by decide +kernel
theorem dX8_path_42 : decode cX8_path 42 = .ok (.iload_n 2, 1) := by decide +kernel
theorem dX8_path_43 : decode cX8_path 43 = .ok (.iconst (-1), 1) := by decide +kernel
theorem dX8_path_44 : decode cX8_path 44 = .ok (.if_icmp .eq 18, 3) := by decide +kernel
theorem dX8_path_47 : decode cX8_path 47 = .ok (.aload_n 0, 1) := by decide +kernel
theorem dX8_path_48 : decode cX8_path 48 = .ok (.getfield 26, 3) := by decide +kernel
theorem dX8_path_51 : decode cX8_path 51 = .ok (.iload_n 2, 1) := by decide +kernel
theorem dX8_path_52 : decode cX8_path 52 = .ok (.invokevirtual 189, 3) := by decide +kernel
theorem dX8_path_55 : decode cX8_path 55 = .ok (.istore_n 2, 1) := by decide +kernel
theorem dX8_path_56 : decode cX8_path 56 = .ok (.iinc 3 1, 3) := by decide +kernel
theorem dX8_path_59 : decode cX8_path 59 = .ok (.goto (-22), 3) := by decide +kernel
theorem dX8_path_62 : decode cX8_path 62 = .ok (.iload_n 2, 1) := by decide +kernel
theorem dX8_path_63 : decode cX8_path 63 = .ok (.ireturn, 1) := by decide +kernel
set_option maxRecDepth 20000 in
theorem ggX8_term_X8_addTerm : GoodIn wsX8_term wsX8_addTerm := goodIn_r _ [5, 6, 7, 8, 9, 10, 4, 11, 12, 13, 14, 15, 16, 17, 18, 19, 20, 21, 22, 23, 24, 25, 26, 27, 28, 29, 30, 31, 32, 33, 34, 35, 36, 37, 38, 39, 40, 41, 42, 43, 44, 45, 46, 47, 48, 49, 50, 51, 52, 53, 54, 55, 56, 57, 58, 59, 60, 61] (by decide +kernel) (by decide +kernel)
set_option maxRecDepth 20000 in
theorem gX8_term_X8_addTerm : GoodIn wsX8_term (wsV RX8 192 RX8 yX8_addTerm wsX8_addTerm) := goodIn_app (goodIn_of _ (by decide +kernel)) ggX8_term_X8_addTerm
theorem dX8_term_0 : decode cX8_term 0 = .ok (.aload_n 0, 1) := by decide +kernel
theorem dX8_term_1 : decode cX8_term 1 = .ok (.iload_n 1, 1) := by decide +kernel
theorem dX8_term_2 : decode cX8_term 2 = .ok (.iload_n 2, 1) := by decide +kernel
theorem dX8_term_3 : decode cX8_term 3 = .ok (.invokevirtual 192, 3) := by decide +kernel
theorem dX8_term_6 : decode cX8_term 6 = .ok (.ireturn, 1) := by decide +kernel
set_option maxRecDepth 20000 in
theorem ggX8_off_X0_has : GoodIn wsX8_off wsX0_has := goodIn_r _ [10, 11, 45, 46, 47] (by decide +kernel) (by decide +kernel)
set_option maxRecDepth 20000 in
theorem gX8_off_X0_has : GoodIn wsX8_off (wsV RX8 196 RX0 yX0_has wsX0_has) := goodIn_app (goodIn_of _ (by decide +kernel)) ggX8_off_X0_has
set_option maxRecDepth 20000 in
theorem ggX8_off_X1_note : GoodIn wsX8_off wsX1_note := goodIn_r _ [16, 17, 18, 19, 20, 21, 22, 23, 24, 15, 25, 48, 49, 50, 51, 52] (by decide +kernel) (by decide +kernel)
set_option maxRecDepth 20000 in
theorem gX8_off_X1_note : GoodIn wsX8_off (wsV RX8 121 RX1 yX1_note wsX1_note) := goodIn_app (goodIn_of _ (by decide +kernel)) ggX8_off_X1_note
set_option maxRecDepth 20000 in
theorem ggX8_off_X0_remove : GoodIn wsX8_off wsX0_remove := goodIn_r _ [29, 11, 30, 31, 32, 7, 8, 9, 10, 45, 46, 47] (by decide +kernel) (by decide +kernel)
set_option maxRecDepth 20000 in
theorem gX8_off_X0_remove : GoodIn wsX8_off (wsV RX8 203 RX0 yX0_remove wsX0_remove) := goodIn_app (goodIn_of _ (by decide +kernel)) ggX8_off_X0_remove
theorem dX8_off_0 : decode cX8_off 0 = .ok (.aload_n 0, 1) := by decide +kernel
theorem dX8_off_1 : decode cX8_off 1 = .ok (.getfield 43, 3) := by decide +kernel
theorem dX8_off_4 : decode cX8_off 4 = .ok (.iload_n 1, 1) := by decide +kernel
theorem dX8_off_5 : decode cX8_off 5 = .ok (.invokevirtual 196, 3) := by decide +kernel
theorem dX8_off_8 : decode cX8_off 8 = .ok (.ifCond .ne 6, 3) := by decide +kernel
theorem dX8_off_11 : decode cX8_off 11 = .ok (.bipush (-2), 2) := by decide +kernel
theorem dX8_off_13 : decode cX8_off 13 = .ok (.ireturn, 1) := by decide +kernel
theorem dX8_off_14 : decode cX8_off 14 = .ok (.aload_n 0, 1) := by decide +kernel
theorem dX8_off_15 : decode cX8_off 15 = .ok (.getfield 57, 3) := by decide +kernel
theorem dX8_off_18 : decode cX8_off 18 = .ok (.iconst 3, 1) := by decide +kernel
theorem dX8_off_19 : decode cX8_off 19 = .ok (.iload_n 1, 1) := by decide +kernel
theorem dX8_off_20 : decode cX8_off 20 = .ok (.aload_n 0, 1) := by decide +kernel
theorem dX8_off_21 : decode cX8_off 21 = .ok (.getfield 43, 3) := by decide +kernel
theorem dX8_off_24 : decode cX8_off 24 = .ok (.getfield 197, 3) := by decide +kernel
theorem dX8_off_27 : decode cX8_off 27 = .ok (.iload_n 1, 1) := by decide +kernel
theorem dX8_off_28 : decode cX8_off 28 = .ok (.iaload, 1) := by decide +kernel
theorem dX8_off_29 : decode cX8_off 29 = .ok (.aload_n 0, 1) := by decide +kernel
theorem dX8_off_30 : decode cX8_off 30 = .ok (.getfield 43, 3) := by decide +kernel
theorem dX8_off_33 : decode cX8_off 33 = .ok (.getfield 200, 3) := by decide +kernel
theorem dX8_off_36 : decode cX8_off 36 = .ok (.iload_n 1, 1) := by decide +kernel
theorem dX8_off_37 : decode cX8_off 37 = .ok (.iaload, 1) := by decide +kernel
theorem dX8_off_38 : decode cX8_off 38 = .ok (.invokevirtual 121, 3) := by decide +kernel
theorem dX8_off_41 : decode cX8_off 41 = .ok (.aload_n 0, 1) := by decide +kernel
theorem dX8_off_42 : decode cX8_off 42 = .ok (.getfield 43, 3) := by decide +kernel
theorem dX8_off_45 : decode cX8_off 45 = .ok (.iload_n 1, 1) := by decide +kernel
theorem dX8_off_46 : decode cX8_off 46 = .ok (.invokevirtual 203, 3) := by decide +kernel
theorem dX8_off_49 : decode cX8_off 49 = .ok (.aload_n 0, 1) := by decide +kernel
theorem dX8_off_50 : decode cX8_off 50 = .ok (.getfield 43, 3) := by decide +kernel
theorem dX8_off_53 : decode cX8_off 53 = .ok (.getfield 206, 3) := by decide +kernel
theorem dX8_off_56 : decode cX8_off 56 = .ok (.ireturn, 1) := by decide +kernel
set_option maxRecDepth 20000 in
theorem ggX8_termOf_X0_has : GoodIn wsX8_termOf wsX0_has := goodIn_r _ [8, 9, 28, 29, 30] (by decide +kernel) (by decide +kernel)
set_option maxRecDepth 20000 in
theorem gX8_termOf_X0_has : GoodIn wsX8_termOf (wsV RX8 196 RX0 yX0_has wsX0_has) := goodIn_app (goodIn_of _ (by decide +kernel)) ggX8_termOf_X0_has
set_option maxRecDepth 20000 in
theorem ggX8_termOf_X8_held : GoodIn wsX8_termOf wsX8_held := goodIn_r _ [13, 14, 15] (by decide +kernel) (by decide +kernel)
set_option maxRecDepth 20000 in
theorem gX8_termOf_X8_held : GoodIn wsX8_termOf (va_wsS RX8 207 yX8_held wsX8_held) := goodIn_app (goodIn_of _ (by decide +kernel)) ggX8_termOf_X8_held
theorem dX8_termOf_0 : decode cX8_termOf 0 = .ok (.aload_n 0, 1) := by decide +kernel
theorem dX8_termOf_1 : decode cX8_termOf 1 = .ok (.getfield 43, 3) := by decide +kernel
theorem dX8_termOf_4 : decode cX8_termOf 4 = .ok (.iload_n 1, 1) := by decide +kernel
theorem dX8_termOf_5 : decode cX8_termOf 5 = .ok (.invokevirtual 196, 3) := by decide +kernel
theorem dX8_termOf_8 : decode cX8_termOf 8 = .ok (.ifCond .ne 6, 3) := by decide +kernel
theorem dX8_termOf_11 : decode cX8_termOf 11 = .ok (.bipush (-2), 2) := by decide +kernel
theorem dX8_termOf_13 : decode cX8_termOf 13 = .ok (.ireturn, 1) := by decide +kernel
theorem dX8_termOf_14 : decode cX8_termOf 14 = .ok (.iload_n 2, 1) := by decide +kernel
theorem dX8_termOf_15 : decode cX8_termOf 15 = .ok (.tableswitch 67 0 2 #[25, 35, 45], 25) := by decide +kernel
theorem dX8_termOf_40 : decode cX8_termOf 40 = .ok (.aload_n 0, 1) := by decide +kernel
theorem dX8_termOf_41 : decode cX8_termOf 41 = .ok (.getfield 43, 3) := by decide +kernel
theorem dX8_termOf_44 : decode cX8_termOf 44 = .ok (.getfield 197, 3) := by decide +kernel
theorem dX8_termOf_47 : decode cX8_termOf 47 = .ok (.iload_n 1, 1) := by decide +kernel
theorem dX8_termOf_48 : decode cX8_termOf 48 = .ok (.iaload, 1) := by decide +kernel
theorem dX8_termOf_49 : decode cX8_termOf 49 = .ok (.ireturn, 1) := by decide +kernel
theorem dX8_termOf_50 : decode cX8_termOf 50 = .ok (.aload_n 0, 1) := by decide +kernel
theorem dX8_termOf_51 : decode cX8_termOf 51 = .ok (.getfield 43, 3) := by decide +kernel
theorem dX8_termOf_54 : decode cX8_termOf 54 = .ok (.getfield 200, 3) := by decide +kernel
theorem dX8_termOf_57 : decode cX8_termOf 57 = .ok (.iload_n 1, 1) := by decide +kernel
theorem dX8_termOf_58 : decode cX8_termOf 58 = .ok (.iaload, 1) := by decide +kernel
theorem dX8_termOf_59 : decode cX8_termOf 59 = .ok (.ireturn, 1) := by decide +kernel
theorem dX8_termOf_60 : decode cX8_termOf 60 = .ok (.aload_n 0, 1) := by decide +kernel
theorem dX8_termOf_61 : decode cX8_termOf 61 = .ok (.getfield 43, 3) := by decide +kernel
theorem dX8_termOf_64 : decode cX8_termOf 64 = .ok (.getfield 197, 3) := by decide +kernel
theorem dX8_termOf_67 : decode cX8_termOf 67 = .ok (.iload_n 1, 1) := by decide +kernel
theorem dX8_termOf_68 : decode cX8_termOf 68 = .ok (.iaload, 1) := by decide +kernel
theorem dX8_termOf_69 : decode cX8_termOf 69 = .ok (.aload_n 0, 1) := by decide +kernel
theorem dX8_termOf_70 : decode cX8_termOf 70 = .ok (.getfield 43, 3) := by decide +kernel
theorem dX8_termOf_73 : decode cX8_termOf 73 = .ok (.getfield 200, 3) := by decide +kernel
theorem dX8_termOf_76 : decode cX8_termOf 76 = .ok (.iload_n 1, 1) := by decide +kernel
theorem dX8_termOf_77 : decode cX8_termOf 77 = .ok (.iaload, 1) := by decide +kernel
theorem dX8_termOf_78 : decode cX8_termOf 78 = .ok (.invokestatic 207, 3) := by decide +kernel
theorem dX8_termOf_81 : decode cX8_termOf 81 = .ok (.ireturn, 1) := by decide +kernel
theorem dX8_termOf_82 : decode cX8_termOf 82 = .ok (.bipush (-2), 2) := by decide +kernel
theorem dX8_termOf_84 : decode cX8_termOf 84 = .ok (.ireturn, 1) := by decide +kernel
set_option maxRecDepth 20000 in
theorem ggX8_covered_X8_isWithin : GoodIn wsX8_covered wsX8_isWithin := goodIn_r _ [6] (by decide +kernel) (by decide +kernel)
set_option maxRecDepth 20000 in
theorem gX8_covered_X8_isWithin : GoodIn wsX8_covered (va_wsS RX8 74 yX8_isWithin wsX8_isWithin) := goodIn_app (goodIn_of _ (by decide +kernel)) ggX8_covered_X8_isWithin
set_option maxRecDepth 20000 in
theorem ggX8_covered_X0_stands : GoodIn wsX8_covered wsX0_stands := goodIn_r _ [11, 12, 13, 14, 15, 5, 16, 17, 18, 61, 62, 63] (by decide +kernel) (by decide +kernel)
set_option maxRecDepth 20000 in
theorem gX8_covered_X0_stands : GoodIn wsX8_covered (wsV RX8 210 RX0 yX0_stands wsX0_stands) := goodIn_app (goodIn_of _ (by decide +kernel)) ggX8_covered_X0_stands
set_option maxRecDepth 20000 in
theorem ggX8_covered_X3_isEmpty : GoodIn wsX8_covered wsX3_isEmpty := goodIn_r _ [23, 24, 64, 65, 66, 67, 68, 69, 70] (by decide +kernel) (by decide +kernel)
set_option maxRecDepth 20000 in
theorem gX8_covered_X3_isEmpty : GoodIn wsX8_covered (wsV RX8 131 RX3 yX3_isEmpty wsX3_isEmpty) := goodIn_app (goodIn_of _ (by decide +kernel)) ggX8_covered_X3_isEmpty
set_option maxRecDepth 20000 in
theorem ggX8_covered_X3_output : GoodIn wsX8_covered wsX3_output := goodIn_r _ [28, 24, 64, 65, 66, 67, 68, 69, 70] (by decide +kernel) (by decide +kernel)
set_option maxRecDepth 20000 in
theorem gX8_covered_X3_output : GoodIn wsX8_covered (wsV RX8 118 RX3 yX3_output wsX3_output) := goodIn_app (goodIn_of _ (by decide +kernel)) ggX8_covered_X3_output
set_option maxRecDepth 20000 in
theorem ggX8_covered_X3_tableOf : GoodIn wsX8_covered wsX3_tableOf := goodIn_r _ [32, 33, 34, 35, 36, 22, 37, 24, 38, 39, 40, 41, 42, 5, 43, 44, 45, 46, 47, 48, 64, 65, 66, 67, 68, 69, 70] (by decide +kernel) (by decide +kernel)
set_option maxRecDepth 20000 in
theorem gX8_covered_X3_tableOf : GoodIn wsX8_covered (wsV RX8 161 RX3 yX3_tableOf wsX3_tableOf) := goodIn_app (goodIn_of _ (by decide +kernel)) ggX8_covered_X3_tableOf
theorem dX8_covered_0 : decode cX8_covered 0 = .ok (.iload_n 1, 1) := by decide +kernel
theorem dX8_covered_1 : decode cX8_covered 1 = .ok (.iconst 0, 1) := by decide +kernel
theorem dX8_covered_2 : decode cX8_covered 2 = .ok (.iconst 1, 1) := by decide +kernel
theorem dX8_covered_3 : decode cX8_covered 3 = .ok (.invokestatic 74, 3) := by decide +kernel
theorem dX8_covered_6 : decode cX8_covered 6 = .ok (.ifCond .ne 6, 3) := by decide +kernel
theorem dX8_covered_9 : decode cX8_covered 9 = .ok (.bipush (-2), 2) := by decide +kernel
theorem dX8_covered_11 : decode cX8_covered 11 = .ok (.ireturn, 1) := by decide +kernel
theorem dX8_covered_12 : decode cX8_covered 12 = .ok (.iload_n 1, 1) := by decide +kernel
theorem dX8_covered_13 : decode cX8_covered 13 = .ok (.ifCond .ne 11, 3) := by decide +kernel
theorem dX8_covered_16 : decode cX8_covered 16 = .ok (.aload_n 0, 1) := by decide +kernel
theorem dX8_covered_17 : decode cX8_covered 17 = .ok (.getfield 43, 3) := by decide +kernel
theorem dX8_covered_20 : decode cX8_covered 20 = .ok (.invokevirtual 210, 3) := by decide +kernel
theorem dX8_covered_23 : decode cX8_covered 23 = .ok (.ireturn, 1) := by decide +kernel
theorem dX8_covered_24 : decode cX8_covered 24 = .ok (.aload_n 0, 1) := by decide +kernel
theorem dX8_covered_25 : decode cX8_covered 25 = .ok (.getfield 26, 3) := by decide +kernel
theorem dX8_covered_28 : decode cX8_covered 28 = .ok (.invokevirtual 131, 3) := by decide +kernel
theorem dX8_covered_31 : decode cX8_covered 31 = .ok (.ifCond .eq 6, 3) := by decide +kernel
theorem dX8_covered_34 : decode cX8_covered 34 = .ok (.bipush (-3), 2) := by decide +kernel
theorem dX8_covered_36 : decode cX8_covered 36 = .ok (.ireturn, 1) := by decide +kernel
theorem dX8_covered_37 : decode cX8_covered 37 = .ok (.aload_n 0, 1) := by decide +kernel
theorem dX8_covered_38 : decode cX8_covered 38 = .ok (.getfield 43, 3) := by decide +kernel
theorem dX8_covered_41 : decode cX8_covered 41 = .ok (.invokevirtual 210, 3) := by decide +kernel
theorem dX8_covered_44 : decode cX8_covered 44 = .ok (.aload_n 0, 1) := by decide +kernel
theorem dX8_covered_45 : decode cX8_covered 45 = .ok (.getfield 26, 3) := by decide +kernel
theorem dX8_covered_48 : decode cX8_covered 48 = .ok (.aload_n 0, 1) := by decide +kernel
theorem dX8_covered_49 : decode cX8_covered 49 = .ok (.getfield 26, 3) := by decide +kernel
theorem dX8_covered_52 : decode cX8_covered 52 = .ok (.invokevirtual 118, 3) := by decide +kernel
theorem dX8_covered_55 : decode cX8_covered 55 = .ok (.invokevirtual 161, 3) := by decide +kernel
theorem dX8_covered_58 : decode cX8_covered 58 = .ok (.if_icmp .ne 7, 3) := by decide +kernel
theorem dX8_covered_61 : decode cX8_covered 61 = .ok (.iconst 1, 1) := by decide +kernel
theorem dX8_covered_62 : decode cX8_covered 62 = .ok (.goto 4, 3) := by decide +kernel
theorem dX8_covered_65 : decode cX8_covered 65 = .ok (.iconst 0, 1) := by decide +kernel
theorem dX8_covered_66 : decode cX8_covered 66 = .ok (.ireturn, 1) := by decide +kernel
set_option maxRecDepth 20000 in
theorem ggX8_open_X0_openPairs : GoodIn wsX8_open wsX0_openPairs := goodIn_r _ [6, 7, 8, 9, 10, 11, 12, 13, 5, 14, 15, 16, 17, 18, 19, 20, 21, 44, 45, 46] (by decide +kernel) (by decide +kernel)
set_option maxRecDepth 20000 in
theorem gX8_open_X0_openPairs : GoodIn wsX8_open (wsV RX8 213 RX0 yX0_openPairs wsX0_openPairs) := goodIn_app (goodIn_of _ (by decide +kernel)) ggX8_open_X0_openPairs
set_option maxRecDepth 20000 in
theorem ggX8_open_J13_bitCount_95d88 : GoodIn wsX8_open wsJ13_bitCount_95d88 := goodIn_r _ [25, 26, 27, 28] (by decide +kernel) (by decide +kernel)
set_option maxRecDepth 20000 in
theorem gX8_open_J13_bitCount_95d88 : GoodIn wsX8_open (va_wsS RX8 217 yJ13_bitCount_95d88 wsJ13_bitCount_95d88) := goodIn_app (goodIn_of _ (by decide +kernel)) ggX8_open_J13_bitCount_95d88
set_option maxRecDepth 20000 in
theorem ggX8_open_X8_hasPair : GoodIn wsX8_open wsX8_hasPair := goodIn_r _ [31] (by decide +kernel) (by decide +kernel)
set_option maxRecDepth 20000 in
theorem gX8_open_X8_hasPair : GoodIn wsX8_open (va_wsS RX8 223 yX8_hasPair wsX8_hasPair) := goodIn_app (goodIn_of _ (by decide +kernel)) ggX8_open_X8_hasPair
theorem dX8_open_0 : decode cX8_open 0 = .ok (.aload_n 0, 1) := by decide +kernel
theorem dX8_open_1 : decode cX8_open 1 = .ok (.getfield 43, 3) := by decide +kernel
theorem dX8_open_4 : decode cX8_open 4 = .ok (.invokevirtual 213, 3) := by decide +kernel
theorem dX8_open_7 : decode cX8_open 7 = .ok (.lstore_n 2, 1) := by decide +kernel
theorem dX8_open_8 : decode cX8_open 8 = .ok (.iload_n 1, 1) := by decide +kernel
theorem dX8_open_9 : decode cX8_open 9 = .ok (.iconst (-1), 1) := by decide +kernel
theorem dX8_open_10 : decode cX8_open 10 = .ok (.if_icmp .ne 8, 3) := by decide +kernel
theorem dX8_open_13 : decode cX8_open 13 = .ok (.lload_n 2, 1) := by decide +kernel
theorem dX8_open_14 : decode cX8_open 14 = .ok (.invokestatic 217, 3) := by decide +kernel
theorem dX8_open_17 : decode cX8_open 17 = .ok (.ireturn, 1) := by decide +kernel
theorem dX8_open_18 : decode cX8_open 18 = .ok (.iconst 0, 1) := by decide +kernel
theorem dX8_open_19 : decode cX8_open 19 = .ok (.istore 4, 2) := by decide +kernel
theorem dX8_open_21 : decode cX8_open 21 = .ok (.iconst 0, 1) := by decide +kernel
theorem dX8_open_22 : decode cX8_open 22 = .ok (.istore 5, 2) := by decide +kernel
theorem dX8_open_24 : decode cX8_open 24 = .ok (.iload 5, 2) := by decide +kernel
theorem dX8_open_26 : decode cX8_open 26 = .ok (.bipush 16, 2) := by decide +kernel
theorem dX8_open_28 : decode cX8_open 28 = .ok (.if_icmp .ge 56, 3) := by decide +kernel
theorem dX8_open_31 : decode cX8_open 31 = .ok (.iconst 0, 1) := by decide +kernel
theorem dX8_open_32 : decode cX8_open 32 = .ok (.istore 6, 2) := by decide +kernel
theorem dX8_open_34 : decode cX8_open 34 = .ok (.iload 6, 2) := by decide +kernel
theorem dX8_open_36 : decode cX8_open 36 = .ok (.iconst 4, 1) := by decide +kernel
theorem dX8_open_37 : decode cX8_open 37 = .ok (.if_icmp .ge 41, 3) := by decide +kernel
theorem dX8_open_40 : decode cX8_open 40 = .ok (.lload_n 2, 1) := by decide +kernel
theorem dX8_open_41 : decode cX8_open 41 = .ok (.iload 5, 2) := by decide +kernel
theorem dX8_open_43 : decode cX8_open 43 = .ok (.iload 6, 2) := by decide +kernel
theorem dX8_open_45 : decode cX8_open 45 = .ok (.invokestatic 223, 3) := by decide +kernel
theorem dX8_open_48 : decode cX8_open 48 = .ok (.ifCond .ne 6, 3) := by decide +kernel
theorem dX8_open_51 : decode cX8_open 51 = .ok (.goto 21, 3) := by decide +kernel
theorem dX8_open_54 : decode cX8_open 54 = .ok (.iload 4, 2) := by decide +kernel
theorem dX8_open_56 : decode cX8_open 56 = .ok (.iload_n 1, 1) := by decide +kernel
theorem dX8_open_57 : decode cX8_open 57 = .ok (.if_icmp .ne 12, 3) := by decide +kernel
theorem dX8_open_60 : decode cX8_open 60 = .ok (.bipush 16, 2) := by decide +kernel
theorem dX8_open_62 : decode cX8_open 62 = .ok (.iload 5, 2) := by decide +kernel
theorem dX8_open_64 : decode cX8_open 64 = .ok (.imul, 1) := by decide +kernel
theorem dX8_open_65 : decode cX8_open 65 = .ok (.iload 6, 2) := by decide +kernel
theorem dX8_open_67 : decode cX8_open 67 = .ok (.iadd, 1) := by decide +kernel
theorem dX8_open_68 : decode cX8_open 68 = .ok (.ireturn, 1) := by decide +kernel
theorem dX8_open_69 : decode cX8_open 69 = .ok (.iinc 4 1, 3) := by decide +kernel
theorem dX8_open_72 : decode cX8_open 72 = .ok (.iinc 6 1, 3) := by decide +kernel
theorem dX8_open_75 : decode cX8_open 75 = .ok (.goto (-41), 3) := by decide +kernel
theorem dX8_open_78 : decode cX8_open 78 = .ok (.iinc 5 1, 3) := by decide +kernel
theorem dX8_open_81 : decode cX8_open 81 = .ok (.goto (-57), 3) := by decide +kernel
theorem dX8_open_84 : decode cX8_open 84 = .ok (.bipush (-12), 2) := by decide +kernel
theorem dX8_open_86 : decode cX8_open 86 = .ok (.ireturn, 1) := by decide +kernel
set_option maxRecDepth 20000 in
theorem ggX8_prime_X0_stands : GoodIn wsX8_prime wsX0_stands := goodIn_r _ [10, 11, 12, 13, 14, 15, 16, 17, 18, 61, 62, 63] (by decide +kernel) (by decide +kernel)
set_option maxRecDepth 20000 in
theorem gX8_prime_X0_stands : GoodIn wsX8_prime (wsV RX8 210 RX0 yX0_stands wsX0_stands) := goodIn_app (goodIn_of _ (by decide +kernel)) ggX8_prime_X0_stands
set_option maxRecDepth 20000 in
theorem ggX8_prime_X4_find : GoodIn wsX8_prime wsX4_find := goodIn_r _ [23, 24, 25, 26, 22, 27, 28, 29, 30, 14, 15, 16, 17, 18, 31, 32, 33, 34, 35, 36, 37, 38, 39, 40, 56, 57, 58, 59, 60] (by decide +kernel) (by decide +kernel)
set_option maxRecDepth 20000 in
theorem gX8_prime_X4_find : GoodIn wsX8_prime (wsV RX8 227 RX4 yX4_find wsX4_find) := goodIn_app (goodIn_of _ (by decide +kernel)) ggX8_prime_X4_find
set_option maxRecDepth 20000 in
theorem ggX8_prime_X8_isWithin : GoodIn wsX8_prime wsX8_isWithin := goodIn_r _ [43] (by decide +kernel) (by decide +kernel)
set_option maxRecDepth 20000 in
theorem gX8_prime_X8_isWithin : GoodIn wsX8_prime (va_wsS RX8 74 yX8_isWithin wsX8_isWithin) := goodIn_app (goodIn_of _ (by decide +kernel)) ggX8_prime_X8_isWithin
theorem dX8_prime_0 : decode cX8_prime 0 = .ok (.aload_n 0, 1) := by decide +kernel
theorem dX8_prime_1 : decode cX8_prime 1 = .ok (.getfield 50, 3) := by decide +kernel
theorem dX8_prime_4 : decode cX8_prime 4 = .ok (.aload_n 0, 1) := by decide +kernel
theorem dX8_prime_5 : decode cX8_prime 5 = .ok (.getfield 43, 3) := by decide +kernel
theorem dX8_prime_8 : decode cX8_prime 8 = .ok (.invokevirtual 210, 3) := by decide +kernel
theorem dX8_prime_11 : decode cX8_prime 11 = .ok (.invokevirtual 227, 3) := by decide +kernel
theorem dX8_prime_14 : decode cX8_prime 14 = .ok (.iload_n 1, 1) := by decide +kernel
theorem dX8_prime_15 : decode cX8_prime 15 = .ok (.iconst (-1), 1) := by decide +kernel
theorem dX8_prime_16 : decode cX8_prime 16 = .ok (.if_icmp .ne 11, 3) := by decide +kernel
theorem dX8_prime_19 : decode cX8_prime 19 = .ok (.aload_n 0, 1) := by decide +kernel
theorem dX8_prime_20 : decode cX8_prime 20 = .ok (.getfield 50, 3) := by decide +kernel
theorem dX8_prime_23 : decode cX8_prime 23 = .ok (.getfield 230, 3) := by decide +kernel
theorem dX8_prime_26 : decode cX8_prime 26 = .ok (.ireturn, 1) := by decide +kernel
theorem dX8_prime_27 : decode cX8_prime 27 = .ok (.iload_n 1, 1) := by decide +kernel
theorem dX8_prime_28 : decode cX8_prime 28 = .ok (.iconst 0, 1) := by decide +kernel
theorem dX8_prime_29 : decode cX8_prime 29 = .ok (.aload_n 0, 1) := by decide +kernel
theorem dX8_prime_30 : decode cX8_prime 30 = .ok (.getfield 50, 3) := by decide +kernel
theorem dX8_prime_33 : decode cX8_prime 33 = .ok (.getfield 230, 3) := by decide +kernel
theorem dX8_prime_36 : decode cX8_prime 36 = .ok (.iconst 1, 1) := by decide +kernel
theorem dX8_prime_37 : decode cX8_prime 37 = .ok (.isub, 1) := by decide +kernel
theorem dX8_prime_38 : decode cX8_prime 38 = .ok (.invokestatic 74, 3) := by decide +kernel
theorem dX8_prime_41 : decode cX8_prime 41 = .ok (.ifCond .ne 6, 3) := by decide +kernel
theorem dX8_prime_44 : decode cX8_prime 44 = .ok (.bipush (-12), 2) := by decide +kernel
theorem dX8_prime_46 : decode cX8_prime 46 = .ok (.ireturn, 1) := by decide +kernel
theorem dX8_prime_47 : decode cX8_prime 47 = .ok (.bipush 16, 2) := by decide +kernel
theorem dX8_prime_49 : decode cX8_prime 49 = .ok (.aload_n 0, 1) := by decide +kernel
theorem dX8_prime_50 : decode cX8_prime 50 = .ok (.getfield 50, 3) := by decide +kernel
theorem dX8_prime_53 : decode cX8_prime 53 = .ok (.getfield 231, 3) := by decide +kernel
theorem dX8_prime_56 : decode cX8_prime 56 = .ok (.iload_n 1, 1) := by decide +kernel
theorem dX8_prime_57 : decode cX8_prime 57 = .ok (.iaload, 1) := by decide +kernel
theorem dX8_prime_58 : decode cX8_prime 58 = .ok (.imul, 1) := by decide +kernel
theorem dX8_prime_59 : decode cX8_prime 59 = .ok (.aload_n 0, 1) := by decide +kernel
theorem dX8_prime_60 : decode cX8_prime 60 = .ok (.getfield 50, 3) := by decide +kernel
theorem dX8_prime_63 : decode cX8_prime 63 = .ok (.getfield 232, 3) := by decide +kernel
theorem dX8_prime_66 : decode cX8_prime 66 = .ok (.iload_n 1, 1) := by decide +kernel
theorem dX8_prime_67 : decode cX8_prime 67 = .ok (.iaload, 1) := by decide +kernel
theorem dX8_prime_68 : decode cX8_prime 68 = .ok (.iadd, 1) := by decide +kernel
theorem dX8_prime_69 : decode cX8_prime 69 = .ok (.ireturn, 1) := by decide +kernel
set_option maxRecDepth 20000 in
theorem ggX8_added_X8_isWithin : GoodIn wsX8_added wsX8_isWithin := goodIn_r _ [7] (by decide +kernel) (by decide +kernel)
set_option maxRecDepth 20000 in
theorem gX8_added_X8_isWithin : GoodIn wsX8_added (va_wsS RX8 74 yX8_isWithin wsX8_isWithin) := goodIn_app (goodIn_of _ (by decide +kernel)) ggX8_added_X8_isWithin
set_option maxRecDepth 20000 in
theorem ggX8_added_X0_stands : GoodIn wsX8_added wsX0_stands := goodIn_r _ [12, 13, 14, 15, 16, 6, 17, 18, 19, 75, 76, 77] (by decide +kernel) (by decide +kernel)
set_option maxRecDepth 20000 in
theorem gX8_added_X0_stands : GoodIn wsX8_added (wsV RX8 210 RX0 yX0_stands wsX0_stands) := goodIn_app (goodIn_of _ (by decide +kernel)) ggX8_added_X0_stands
set_option maxRecDepth 20000 in
theorem ggX8_added_X4_find : GoodIn wsX8_added wsX4_find := goodIn_r _ [24, 25, 26, 27, 23, 28, 29, 30, 31, 16, 6, 17, 18, 19, 32, 33, 34, 35, 36, 37, 38, 39, 40, 41, 78, 79, 80, 81, 82] (by decide +kernel) (by decide +kernel)
set_option maxRecDepth 20000 in
theorem gX8_added_X4_find : GoodIn wsX8_added (wsV RX8 227 RX4 yX4_find wsX4_find) := goodIn_app (goodIn_of _ (by decide +kernel)) ggX8_added_X4_find
set_option maxRecDepth 20000 in
theorem ggX8_added_X0_openPairs : GoodIn wsX8_added wsX0_openPairs := goodIn_r _ [45, 13, 14, 15, 46, 47, 9, 10, 11, 12, 16, 6, 17, 18, 19, 40, 41, 75, 76, 77] (by decide +kernel) (by decide +kernel)
set_option maxRecDepth 20000 in
theorem gX8_added_X0_openPairs : GoodIn wsX8_added (wsV RX8 213 RX0 yX0_openPairs wsX0_openPairs) := goodIn_app (goodIn_of _ (by decide +kernel)) ggX8_added_X0_openPairs
set_option maxRecDepth 20000 in
theorem ggX8_added_X4_fewestHolding : GoodIn wsX8_added wsX4_fewestHolding := goodIn_r _ [51, 25, 38, 39, 52, 53, 54, 23, 55, 78, 79, 80, 81, 82] (by decide +kernel) (by decide +kernel)
set_option maxRecDepth 20000 in
theorem gX8_added_X4_fewestHolding : GoodIn wsX8_added (wsV RX8 235 RX4 yX4_fewestHolding wsX4_fewestHolding) := goodIn_app (goodIn_of _ (by decide +kernel)) ggX8_added_X4_fewestHolding
set_option maxRecDepth 20000 in
theorem ggX8_added_J13_bitCount_95d88 : GoodIn wsX8_added wsJ13_bitCount_95d88 := goodIn_r _ [59, 60, 61, 62] (by decide +kernel) (by decide +kernel)
set_option maxRecDepth 20000 in
theorem gX8_added_J13_bitCount_95d88 : GoodIn wsX8_added (va_wsS RX8 217 yJ13_bitCount_95d88 wsJ13_bitCount_95d88) := goodIn_app (goodIn_of _ (by decide +kernel)) ggX8_added_J13_bitCount_95d88
theorem dX8_added_0 : decode cX8_added 0 = .ok (.iload_n 1, 1) := by decide +kernel
theorem dX8_added_1 : decode cX8_added 1 = .ok (.iconst 0, 1) := by decide +kernel
theorem dX8_added_2 : decode cX8_added 2 = .ok (.iconst 1, 1) := by decide +kernel
theorem dX8_added_3 : decode cX8_added 3 = .ok (.invokestatic 74, 3) := by decide +kernel
theorem dX8_added_6 : decode cX8_added 6 = .ok (.ifCond .ne 7, 3) := by decide +kernel
theorem dX8_added_9 : decode cX8_added 9 = .ok (.ldc2_w 233, 3) := by decide +kernel
theorem dX8_added_12 : decode cX8_added 12 = .ok (.lreturn, 1) := by decide +kernel
theorem dX8_added_13 : decode cX8_added 13 = .ok (.aload_n 0, 1) := by decide +kernel
theorem dX8_added_14 : decode cX8_added 14 = .ok (.getfield 50, 3) := by decide +kernel
theorem dX8_added_17 : decode cX8_added 17 = .ok (.aload_n 0, 1) := by decide +kernel
theorem dX8_added_18 : decode cX8_added 18 = .ok (.getfield 43, 3) := by decide +kernel
theorem dX8_added_21 : decode cX8_added 21 = .ok (.invokevirtual 210, 3) := by decide +kernel
theorem dX8_added_24 : decode cX8_added 24 = .ok (.invokevirtual 227, 3) := by decide +kernel
theorem dX8_added_27 : decode cX8_added 27 = .ok (.aload_n 0, 1) := by decide +kernel
theorem dX8_added_28 : decode cX8_added 28 = .ok (.getfield 50, 3) := by decide +kernel
theorem dX8_added_31 : decode cX8_added 31 = .ok (.aload_n 0, 1) := by decide +kernel
theorem dX8_added_32 : decode cX8_added 32 = .ok (.getfield 43, 3) := by decide +kernel
theorem dX8_added_35 : decode cX8_added 35 = .ok (.invokevirtual 213, 3) := by decide +kernel
theorem dX8_added_38 : decode cX8_added 38 = .ok (.invokevirtual 235, 3) := by decide +kernel
theorem dX8_added_41 : decode cX8_added 41 = .ok (.lstore_n 2, 1) := by decide +kernel
theorem dX8_added_42 : decode cX8_added 42 = .ok (.iload_n 1, 1) := by decide +kernel
theorem dX8_added_43 : decode cX8_added 43 = .ok (.ifCond .ne 11, 3) := by decide +kernel
theorem dX8_added_46 : decode cX8_added 46 = .ok (.lload_n 2, 1) := by decide +kernel
theorem dX8_added_47 : decode cX8_added 47 = .ok (.invokestatic 217, 3) := by decide +kernel
theorem dX8_added_50 : decode cX8_added 50 = .ok (.i2l, 1) := by decide +kernel
theorem dX8_added_51 : decode cX8_added 51 = .ok (.goto 4, 3) := by decide +kernel
theorem dX8_added_54 : decode cX8_added 54 = .ok (.lload_n 2, 1) := by decide +kernel
theorem dX8_added_55 : decode cX8_added 55 = .ok (.lreturn, 1) := by decide +kernel
set_option maxRecDepth 20000 in
theorem ggX8_told_X8_isSheet : GoodIn wsX8_told wsX8_isSheet := goodIn_r _ [6, 7, 8, 5, 9] (by decide +kernel) (by decide +kernel)
set_option maxRecDepth 20000 in
theorem gX8_told_X8_isSheet : GoodIn wsX8_told (va_wsS RX8 239 yX8_isSheet wsX8_isSheet) := goodIn_app (goodIn_of _ (by decide +kernel)) ggX8_told_X8_isSheet
set_option maxRecDepth 20000 in
theorem ggX8_told_X8_isChangeCode : GoodIn wsX8_told wsX8_isChangeCode := goodIn_r _ [12, 7, 8, 5, 9, 13, 14, 15, 16, 17, 18] (by decide +kernel) (by decide +kernel)
set_option maxRecDepth 20000 in
theorem gX8_told_X8_isChangeCode : GoodIn wsX8_told (va_wsS RX8 242 yX8_isChangeCode wsX8_isChangeCode) := goodIn_app (goodIn_of _ (by decide +kernel)) ggX8_told_X8_isChangeCode
set_option maxRecDepth 20000 in
theorem ggX8_told_X8_isWithin : GoodIn wsX8_told wsX8_isWithin := goodIn_r _ [9] (by decide +kernel) (by decide +kernel)
set_option maxRecDepth 20000 in
theorem gX8_told_X8_isWithin : GoodIn wsX8_told (va_wsS RX8 74 yX8_isWithin wsX8_isWithin) := goodIn_app (goodIn_of _ (by decide +kernel)) ggX8_told_X8_isWithin
set_option maxRecDepth 20000 in
theorem ggX8_told_X3_has : GoodIn wsX8_told wsX3_has := goodIn_r _ [23, 24, 131, 132, 133, 134, 135, 136, 137] (by decide +kernel) (by decide +kernel)
set_option maxRecDepth 20000 in
theorem gX8_told_X3_has : GoodIn wsX8_told (wsV RX8 124 RX3 yX3_has wsX3_has) := goodIn_app (goodIn_of _ (by decide +kernel)) ggX8_told_X3_has
set_option maxRecDepth 20000 in
theorem ggX8_told_X3_isEmpty : GoodIn wsX8_told wsX3_isEmpty := goodIn_r _ [28, 24, 131, 132, 133, 134, 135, 136, 137] (by decide +kernel) (by decide +kernel)
set_option maxRecDepth 20000 in
theorem gX8_told_X3_isEmpty : GoodIn wsX8_told (wsV RX8 131 RX3 yX3_isEmpty wsX3_isEmpty) := goodIn_app (goodIn_of _ (by decide +kernel)) ggX8_told_X3_isEmpty
set_option maxRecDepth 20000 in
theorem ggX8_told_X5_isMissing : GoodIn wsX8_told wsX5_isMissing := goodIn_r _ [33, 34, 138, 139, 140] (by decide +kernel) (by decide +kernel)
set_option maxRecDepth 20000 in
theorem gX8_told_X5_isMissing : GoodIn wsX8_told (wsV RX8 245 RX5 yX5_isMissing wsX5_isMissing) := goodIn_app (goodIn_of _ (by decide +kernel)) ggX8_told_X5_isMissing
set_option maxRecDepth 20000 in
theorem ggX8_told_X8_firstUnlike : GoodIn wsX8_told wsX8_firstUnlike := goodIn_r _ [38, 39, 40, 41, 13, 14, 5, 15, 16, 17, 18, 42, 43, 44, 45, 46, 47, 48, 49, 50, 51, 52, 53, 54, 22, 55, 24, 56, 57, 58, 59, 60, 61, 62, 63, 64, 65, 66, 67, 68, 69, 70, 71, 72, 73, 74, 75, 76, 77, 78, 79, 80, 81, 82, 83, 84, 85, 86, 87, 88, 89, 90, 91, 119, 120, 121, 122, 123, 124, 125, 126, 127, 128, 129, 130, 138, 139, 140, 141, 142, 143, 144, 131, 132, 133, 134, 135, 136, 137] (by decide +kernel) (by decide +kernel)
set_option maxRecDepth 20000 in
theorem gX8_told_X8_firstUnlike : GoodIn wsX8_told (wsV RX8 248 RX8 yX8_firstUnlike wsX8_firstUnlike) := goodIn_app (goodIn_of _ (by decide +kernel)) ggX8_told_X8_firstUnlike
set_option maxRecDepth 20000 in
theorem ggX8_told_X8_fittingDelays : GoodIn wsX8_told wsX8_fittingDelays := goodIn_r _ [95, 96, 1, 97, 98, 99, 22, 100, 59, 101, 102, 103, 104, 57, 58, 105, 24, 106, 107, 108, 109, 110, 20, 21, 23, 35, 36, 37, 5, 38, 39, 40, 41, 13, 14, 15, 16, 17, 18, 42, 43, 44, 45, 46, 47, 48, 49, 50, 51, 52, 53, 54, 55, 56, 60, 61, 62, 63, 64, 65, 66, 67, 68, 69, 70, 71, 72, 73, 74, 75, 76, 77, 78, 79, 80, 81, 82, 83, 84, 85, 86, 87, 88, 89, 90, 91, 119, 120, 121, 122, 123, 124, 125, 126, 127, 128, 129, 130, 131, 132, 133, 134, 135, 136, 137, 138, 139, 140, 141, 142, 143, 144] (by decide +kernel) (by decide +kernel)
set_option maxRecDepth 20000 in
theorem gX8_told_X8_fittingDelays : GoodIn wsX8_told (wsV RX8 252 RX8 yX8_fittingDelays wsX8_fittingDelays) := goodIn_app (goodIn_of _ (by decide +kernel)) ggX8_told_X8_fittingDelays
set_option maxRecDepth 20000 in
theorem ggX8_told_X8_fittingKinds : GoodIn wsX8_told wsX8_fittingKinds := goodIn_r _ [114, 96, 1, 97, 98, 99, 22, 100, 59, 101, 102, 103, 104, 57, 58, 105, 24, 115, 116, 117, 118, 110, 20, 21, 23, 35, 36, 37, 5, 38, 39, 40, 41, 13, 14, 15, 16, 17, 18, 42, 43, 44, 45, 46, 47, 48, 49, 50, 51, 52, 53, 54, 55, 56, 60, 61, 62, 63, 64, 65, 66, 67, 68, 69, 70, 71, 72, 73, 74, 75, 76, 77, 78, 79, 80, 81, 82, 83, 84, 85, 86, 87, 88, 89, 90, 91, 119, 120, 121, 122, 123, 124, 125, 126, 127, 128, 129, 130, 131, 132, 133, 134, 135, 136, 137, 138, 139, 140, 141, 142, 143, 144] (by decide +kernel) (by decide +kernel)
set_option maxRecDepth 20000 in
theorem gX8_told_X8_fittingKinds : GoodIn wsX8_told (wsV RX8 256 RX8 yX8_fittingKinds wsX8_fittingKinds) := goodIn_app (goodIn_of _ (by decide +kernel)) ggX8_told_X8_fittingKinds
theorem dX8_told_0 : decode cX8_told 0 = .ok (.iload_n 1, 1) := by decide +kernel
theorem dX8_told_1 : decode cX8_told 1 = .ok (.invokestatic 239, 3) := by decide +kernel
theorem dX8_told_4 : decode cX8_told 4 = .ok (.ifCond .eq 36, 3) := by decide +kernel
theorem dX8_told_7 : decode cX8_told 7 = .ok (.iload_n 2, 1) := by decide +kernel
theorem dX8_told_8 : decode cX8_told 8 = .ok (.invokestatic 242, 3) := by decide +kernel
theorem dX8_told_11 : decode cX8_told 11 = .ok (.ifCond .eq 29, 3) := by decide +kernel
theorem dX8_told_14 : decode cX8_told 14 = .ok (.iload 4, 2) := by decide +kernel
theorem dX8_told_16 : decode cX8_told 16 = .ok (.iconst 0, 1) := by decide +kernel
theorem dX8_told_17 : decode cX8_told 17 = .ok (.iconst 2, 1) := by decide +kernel
theorem dX8_told_18 : decode cX8_told 18 = .ok (.invokestatic 74, 3) := by decide +kernel
theorem dX8_told_21 : decode cX8_told 21 = .ok (.ifCond .eq 19, 3) := by decide +kernel
theorem dX8_told_24 : decode cX8_told 24 = .ok (.iload 4, 2) := by decide +kernel
theorem dX8_told_26 : decode cX8_told 26 = .ok (.ifCond .eq 17, 3) := by decide +kernel
theorem dX8_told_29 : decode cX8_told 29 = .ok (.aload_n 0, 1) := by decide +kernel
theorem dX8_told_30 : decode cX8_told 30 = .ok (.getfield 26, 3) := by decide +kernel
theorem dX8_told_33 : decode cX8_told 33 = .ok (.iload_n 3, 1) := by decide +kernel
theorem dX8_told_34 : decode cX8_told 34 = .ok (.invokevirtual 124, 3) := by decide +kernel
theorem dX8_told_37 : decode cX8_told 37 = .ok (.ifCond .ne 6, 3) := by decide +kernel
theorem dX8_told_40 : decode cX8_told 40 = .ok (.bipush (-2), 2) := by decide +kernel
theorem dX8_told_42 : decode cX8_told 42 = .ok (.ireturn, 1) := by decide +kernel
theorem dX8_told_43 : decode cX8_told 43 = .ok (.aload_n 0, 1) := by decide +kernel
theorem dX8_told_44 : decode cX8_told 44 = .ok (.getfield 26, 3) := by decide +kernel
theorem dX8_told_47 : decode cX8_told 47 = .ok (.invokevirtual 131, 3) := by decide +kernel
theorem dX8_told_50 : decode cX8_told 50 = .ok (.ifCond .eq 6, 3) := by decide +kernel
theorem dX8_told_53 : decode cX8_told 53 = .ok (.bipush (-3), 2) := by decide +kernel
theorem dX8_told_55 : decode cX8_told 55 = .ok (.ireturn, 1) := by decide +kernel
theorem dX8_told_56 : decode cX8_told 56 = .ok (.aload_n 0, 1) := by decide +kernel
theorem dX8_told_57 : decode cX8_told 57 = .ok (.getfield 69, 3) := by decide +kernel
theorem dX8_told_60 : decode cX8_told 60 = .ok (.iload_n 1, 1) := by decide +kernel
theorem dX8_told_61 : decode cX8_told 61 = .ok (.aaload, 1) := by decide +kernel
theorem dX8_told_62 : decode cX8_told 62 = .ok (.astore 5, 2) := by decide +kernel
theorem dX8_told_64 : decode cX8_told 64 = .ok (.aload 5, 2) := by decide +kernel
theorem dX8_told_66 : decode cX8_told 66 = .ok (.invokevirtual 245, 3) := by decide +kernel
theorem dX8_told_69 : decode cX8_told 69 = .ok (.ifCond .eq 6, 3) := by decide +kernel
theorem dX8_told_72 : decode cX8_told 72 = .ok (.bipush (-11), 2) := by decide +kernel
theorem dX8_told_74 : decode cX8_told 74 = .ok (.ireturn, 1) := by decide +kernel
theorem dX8_told_75 : decode cX8_told 75 = .ok (.iload 4, 2) := by decide +kernel
theorem dX8_told_77 : decode cX8_told 77 = .ok (.lookupswitch 48 #[(0, 27), (1, 39)], 27) := by decide +kernel
theorem dX8_told_104 : decode cX8_told 104 = .ok (.aload_n 0, 1) := by decide +kernel
theorem dX8_told_105 : decode cX8_told 105 = .ok (.aload 5, 2) := by decide +kernel
theorem dX8_told_107 : decode cX8_told 107 = .ok (.aload_n 0, 1) := by decide +kernel
theorem dX8_told_108 : decode cX8_told 108 = .ok (.getfield 26, 3) := by decide +kernel
theorem dX8_told_111 : decode cX8_told 111 = .ok (.iload_n 2, 1) := by decide +kernel
theorem dX8_told_112 : decode cX8_told 112 = .ok (.invokevirtual 248, 3) := by decide +kernel
theorem dX8_told_115 : decode cX8_told 115 = .ok (.ireturn, 1) := by decide +kernel
theorem dX8_told_116 : decode cX8_told 116 = .ok (.aload_n 0, 1) := by decide +kernel
theorem dX8_told_117 : decode cX8_told 117 = .ok (.aload 5, 2) := by decide +kernel
theorem dX8_told_119 : decode cX8_told 119 = .ok (.iload_n 2, 1) := by decide +kernel
theorem dX8_told_120 : decode cX8_told 120 = .ok (.iload_n 3, 1) := by decide +kernel
theorem dX8_told_121 : decode cX8_told 121 = .ok (.invokevirtual 252, 3) := by decide +kernel
theorem dX8_told_124 : decode cX8_told 124 = .ok (.ireturn, 1) := by decide +kernel
theorem dX8_told_125 : decode cX8_told 125 = .ok (.aload_n 0, 1) := by decide +kernel
theorem dX8_told_126 : decode cX8_told 126 = .ok (.aload 5, 2) := by decide +kernel
theorem dX8_told_128 : decode cX8_told 128 = .ok (.iload_n 2, 1) := by decide +kernel
theorem dX8_told_129 : decode cX8_told 129 = .ok (.iload_n 3, 1) := by decide +kernel
theorem dX8_told_130 : decode cX8_told 130 = .ok (.invokevirtual 256, 3) := by decide +kernel
theorem dX8_told_133 : decode cX8_told 133 = .ok (.ireturn, 1) := by decide +kernel
set_option maxRecDepth 20000 in
theorem ggX8_film_X8_isSheet : GoodIn wsX8_film wsX8_isSheet := goodIn_r _ [7, 8, 9, 6, 10] (by decide +kernel) (by decide +kernel)
set_option maxRecDepth 20000 in
theorem gX8_film_X8_isSheet : GoodIn wsX8_film (va_wsS RX8 239 yX8_isSheet wsX8_isSheet) := goodIn_app (goodIn_of _ (by decide +kernel)) ggX8_film_X8_isSheet
set_option maxRecDepth 20000 in
theorem ggX8_film_X8_isChangeCode : GoodIn wsX8_film wsX8_isChangeCode := goodIn_r _ [13, 8, 9, 6, 10, 14, 15, 16, 17, 18, 19] (by decide +kernel) (by decide +kernel)
set_option maxRecDepth 20000 in
theorem gX8_film_X8_isChangeCode : GoodIn wsX8_film (va_wsS RX8 242 yX8_isChangeCode wsX8_isChangeCode) := goodIn_app (goodIn_of _ (by decide +kernel)) ggX8_film_X8_isChangeCode
set_option maxRecDepth 20000 in
theorem ggX8_film_X8_isWithin : GoodIn wsX8_film wsX8_isWithin := goodIn_r _ [10] (by decide +kernel) (by decide +kernel)
set_option maxRecDepth 20000 in
theorem gX8_film_X8_isWithin : GoodIn wsX8_film (va_wsS RX8 74 yX8_isWithin wsX8_isWithin) := goodIn_app (goodIn_of _ (by decide +kernel)) ggX8_film_X8_isWithin
set_option maxRecDepth 20000 in
theorem ggX8_film_X3_isEmpty : GoodIn wsX8_film wsX3_isEmpty := goodIn_r _ [24, 25, 104, 105, 106, 107, 108, 109, 110] (by decide +kernel) (by decide +kernel)
set_option maxRecDepth 20000 in
theorem gX8_film_X3_isEmpty : GoodIn wsX8_film (wsV RX8 131 RX3 yX3_isEmpty wsX3_isEmpty) := goodIn_app (goodIn_of _ (by decide +kernel)) ggX8_film_X3_isEmpty
set_option maxRecDepth 20000 in
theorem ggX8_film_X5_become : GoodIn wsX8_film wsX5_become := goodIn_r _ [30, 31, 32, 33, 111, 112, 113] (by decide +kernel) (by decide +kernel)
set_option maxRecDepth 20000 in
theorem gX8_film_X5_become : GoodIn wsX8_film (wsV RX8 259 RX5 yX5_become wsX5_become) := goodIn_app (goodIn_of _ (by decide +kernel)) ggX8_film_X5_become
set_option maxRecDepth 20000 in
theorem ggX8_film_X8_xFrom : GoodIn wsX8_film wsX8_xFrom := goodIn_r _ [16] (by decide +kernel) (by decide +kernel)
set_option maxRecDepth 20000 in
theorem gX8_film_X8_xFrom : GoodIn wsX8_film (va_wsS RX8 263 yX8_xFrom wsX8_xFrom) := goodIn_app (goodIn_of _ (by decide +kernel)) ggX8_film_X8_xFrom
set_option maxRecDepth 20000 in
theorem ggX8_film_X8_yFrom : GoodIn wsX8_film wsX8_yFrom := goodIn_r _ [19] (by decide +kernel) (by decide +kernel)
set_option maxRecDepth 20000 in
theorem gX8_film_X8_yFrom : GoodIn wsX8_film (va_wsS RX8 266 yX8_yFrom wsX8_yFrom) := goodIn_app (goodIn_of _ (by decide +kernel)) ggX8_film_X8_yFrom
set_option maxRecDepth 20000 in
theorem ggX8_film_X7_run : GoodIn wsX8_film wsX7_run := goodIn_r _ [38, 39, 40, 41, 42, 43, 44, 45, 46, 23, 47, 25, 48, 49, 50, 51, 52, 53, 6, 54, 55, 56, 57, 58, 59, 60, 61, 62, 37, 63, 64, 65, 66, 67, 68, 69, 70, 71, 72, 73, 74, 75, 76, 77, 78, 79, 114, 115, 116, 117, 104, 105, 106, 107, 108, 109, 110] (by decide +kernel) (by decide +kernel)
set_option maxRecDepth 20000 in
theorem gX8_film_X7_run : GoodIn wsX8_film (wsV RX8 167 RX7 yX7_run wsX7_run) := goodIn_app (goodIn_of _ (by decide +kernel)) ggX8_film_X7_run
set_option maxRecDepth 20000 in
theorem ggX8_film_X7_at : GoodIn wsX8_film wsX7_at := goodIn_r _ [83, 43, 39, 42, 40, 114, 115, 116, 117] (by decide +kernel) (by decide +kernel)
set_option maxRecDepth 20000 in
theorem gX8_film_X7_at : GoodIn wsX8_film (wsV RX8 171 RX7 yX7_at wsX7_at) := goodIn_app (goodIn_of _ (by decide +kernel)) ggX8_film_X7_at
set_option maxRecDepth 20000 in
theorem ggX8_film_X5_set : GoodIn wsX8_film wsX5_set := goodIn_r _ [87, 33, 31, 88, 89, 90, 29, 91, 32, 111, 112, 113] (by decide +kernel) (by decide +kernel)
set_option maxRecDepth 20000 in
theorem gX8_film_X5_set : GoodIn wsX8_film (wsV RX8 269 RX5 yX5_set wsX5_set) := goodIn_app (goodIn_of _ (by decide +kernel)) ggX8_film_X5_set
theorem dX8_film_0 : decode cX8_film 0 = .ok (.iload_n 1, 1) := by decide +kernel
theorem dX8_film_1 : decode cX8_film 1 = .ok (.invokestatic 239, 3) := by decide +kernel
theorem dX8_film_4 : decode cX8_film 4 = .ok (.ifCond .eq 20, 3) := by decide +kernel
theorem dX8_film_7 : decode cX8_film 7 = .ok (.iload_n 2, 1) := by decide +kernel
theorem dX8_film_8 : decode cX8_film 8 = .ok (.invokestatic 242, 3) := by decide +kernel
theorem dX8_film_11 : decode cX8_film 11 = .ok (.ifCond .eq 13, 3) := by decide +kernel
theorem dX8_film_14 : decode cX8_film 14 = .ok (.iload_n 3, 1) := by decide +kernel
theorem dX8_film_15 : decode cX8_film 15 = .ok (.iconst 0, 1) := by decide +kernel
theorem dX8_film_16 : decode cX8_film 16 = .ok (.bipush 40, 2) := by decide +kernel
theorem dX8_film_18 : decode cX8_film 18 = .ok (.invokestatic 74, 3) := by decide +kernel
theorem dX8_film_21 : decode cX8_film 21 = .ok (.ifCond .ne 6, 3) := by decide +kernel
theorem dX8_film_24 : decode cX8_film 24 = .ok (.bipush (-2), 2) := by decide +kernel
theorem dX8_film_26 : decode cX8_film 26 = .ok (.ireturn, 1) := by decide +kernel
theorem dX8_film_27 : decode cX8_film 27 = .ok (.aload_n 0, 1) := by decide +kernel
theorem dX8_film_28 : decode cX8_film 28 = .ok (.getfield 26, 3) := by decide +kernel
theorem dX8_film_31 : decode cX8_film 31 = .ok (.invokevirtual 131, 3) := by decide +kernel
theorem dX8_film_34 : decode cX8_film 34 = .ok (.ifCond .eq 6, 3) := by decide +kernel
theorem dX8_film_37 : decode cX8_film 37 = .ok (.bipush (-3), 2) := by decide +kernel
theorem dX8_film_39 : decode cX8_film 39 = .ok (.ireturn, 1) := by decide +kernel
theorem dX8_film_40 : decode cX8_film 40 = .ok (.aload_n 0, 1) := by decide +kernel
theorem dX8_film_41 : decode cX8_film 41 = .ok (.getfield 69, 3) := by decide +kernel
theorem dX8_film_44 : decode cX8_film 44 = .ok (.iload_n 1, 1) := by decide +kernel
theorem dX8_film_45 : decode cX8_film 45 = .ok (.aaload, 1) := by decide +kernel
theorem dX8_film_46 : decode cX8_film 46 = .ok (.astore 4, 2) := by decide +kernel
theorem dX8_film_48 : decode cX8_film 48 = .ok (.aload 4, 2) := by decide +kernel
theorem dX8_film_50 : decode cX8_film 50 = .ok (.iconst 0, 1) := by decide +kernel
theorem dX8_film_51 : decode cX8_film 51 = .ok (.iload_n 3, 1) := by decide +kernel
theorem dX8_film_52 : decode cX8_film 52 = .ok (.invokevirtual 259, 3) := by decide +kernel
theorem dX8_film_55 : decode cX8_film 55 = .ok (.aload_n 0, 1) := by decide +kernel
theorem dX8_film_56 : decode cX8_film 56 = .ok (.getfield 36, 3) := by decide +kernel
theorem dX8_film_59 : decode cX8_film 59 = .ok (.aload_n 0, 1) := by decide +kernel
theorem dX8_film_60 : decode cX8_film 60 = .ok (.getfield 26, 3) := by decide +kernel
theorem dX8_film_63 : decode cX8_film 63 = .ok (.iload_n 2, 1) := by decide +kernel
theorem dX8_film_64 : decode cX8_film 64 = .ok (.invokestatic 263, 3) := by decide +kernel
theorem dX8_film_67 : decode cX8_film 67 = .ok (.iload_n 2, 1) := by decide +kernel
theorem dX8_film_68 : decode cX8_film 68 = .ok (.invokestatic 266, 3) := by decide +kernel
theorem dX8_film_71 : decode cX8_film 71 = .ok (.invokevirtual 167, 3) := by decide +kernel
theorem dX8_film_74 : decode cX8_film 74 = .ok (.iconst 0, 1) := by decide +kernel
theorem dX8_film_75 : decode cX8_film 75 = .ok (.istore 5, 2) := by decide +kernel
theorem dX8_film_77 : decode cX8_film 77 = .ok (.iload 5, 2) := by decide +kernel
theorem dX8_film_79 : decode cX8_film 79 = .ok (.iload_n 3, 1) := by decide +kernel
theorem dX8_film_80 : decode cX8_film 80 = .ok (.if_icmp .ge 25, 3) := by decide +kernel
theorem dX8_film_83 : decode cX8_film 83 = .ok (.aload 4, 2) := by decide +kernel
theorem dX8_film_85 : decode cX8_film 85 = .ok (.iload 5, 2) := by decide +kernel
theorem dX8_film_87 : decode cX8_film 87 = .ok (.aload_n 0, 1) := by decide +kernel
theorem dX8_film_88 : decode cX8_film 88 = .ok (.getfield 36, 3) := by decide +kernel
theorem dX8_film_91 : decode cX8_film 91 = .ok (.iload 5, 2) := by decide +kernel
theorem dX8_film_93 : decode cX8_film 93 = .ok (.invokevirtual 171, 3) := by decide +kernel
theorem dX8_film_96 : decode cX8_film 96 = .ok (.invokevirtual 269, 3) := by decide +kernel
theorem dX8_film_99 : decode cX8_film 99 = .ok (.iinc 5 1, 3) := by decide +kernel
theorem dX8_film_102 : decode cX8_film 102 = .ok (.goto (-25), 3) := by decide +kernel
theorem dX8_film_105 : decode cX8_film 105 = .ok (.iload_n 3, 1) := by decide +kernel
theorem dX8_film_106 : decode cX8_film 106 = .ok (.ireturn, 1) := by decide +kernel
set_option maxRecDepth 20000 in
theorem ggX8_undo_X1_takeLatest : GoodIn wsX8_undo wsX1_takeLatest := goodIn_r _ [13, 14, 62, 63, 64, 65, 66] (by decide +kernel) (by decide +kernel)
set_option maxRecDepth 20000 in
theorem gX8_undo_X1_takeLatest : GoodIn wsX8_undo (wsV RX8 272 RX1 yX1_takeLatest wsX1_takeLatest) := goodIn_app (goodIn_of _ (by decide +kernel)) ggX8_undo_X1_takeLatest
set_option maxRecDepth 20000 in
theorem ggX8_undo_X3_removeLast : GoodIn wsX8_undo wsX3_removeLast := goodIn_r _ [19, 20, 67, 68, 69, 70, 71, 72, 73] (by decide +kernel) (by decide +kernel)
set_option maxRecDepth 20000 in
theorem gX8_undo_X3_removeLast : GoodIn wsX8_undo (wsV RX8 134 RX3 yX3_removeLast wsX3_removeLast) := goodIn_app (goodIn_of _ (by decide +kernel)) ggX8_undo_X3_removeLast
set_option maxRecDepth 20000 in
theorem ggX8_undo_X3_setDelay : GoodIn wsX8_undo wsX3_setDelay := goodIn_r _ [24, 25, 26, 27, 28, 18, 29, 20, 67, 68, 69, 70, 71, 72, 73] (by decide +kernel) (by decide +kernel)
set_option maxRecDepth 20000 in
theorem gX8_undo_X3_setDelay : GoodIn wsX8_undo (wsV RX8 282 RX3 yX3_setDelay wsX3_setDelay) := goodIn_app (goodIn_of _ (by decide +kernel)) ggX8_undo_X3_setDelay
set_option maxRecDepth 20000 in
theorem ggX8_undo_X0_remove : GoodIn wsX8_undo wsX0_remove := goodIn_r _ [34, 35, 36, 37, 38, 39, 40, 33, 41, 74, 75, 76] (by decide +kernel) (by decide +kernel)
set_option maxRecDepth 20000 in
theorem gX8_undo_X0_remove : GoodIn wsX8_undo (wsV RX8 203 RX0 yX0_remove wsX0_remove) := goodIn_app (goodIn_of _ (by decide +kernel)) ggX8_undo_X0_remove
set_option maxRecDepth 20000 in
theorem ggX8_undo_X0_insert : GoodIn wsX8_undo wsX0_insert := goodIn_r _ [45, 35, 36, 37, 46, 47, 48, 33, 49, 74, 75, 76] (by decide +kernel) (by decide +kernel)
set_option maxRecDepth 20000 in
theorem gX8_undo_X0_insert : GoodIn wsX8_undo (wsV RX8 286 RX0 yX0_insert wsX0_insert) := goodIn_app (goodIn_of _ (by decide +kernel)) ggX8_undo_X0_insert
theorem dX8_undo_0 : decode cX8_undo 0 = .ok (.aload_n 0, 1) := by decide +kernel
theorem dX8_undo_1 : decode cX8_undo 1 = .ok (.getfield 57, 3) := by decide +kernel
theorem dX8_undo_4 : decode cX8_undo 4 = .ok (.getfield 137, 3) := by decide +kernel
theorem dX8_undo_7 : decode cX8_undo 7 = .ok (.ifCond .ne 6, 3) := by decide +kernel
theorem dX8_undo_10 : decode cX8_undo 10 = .ok (.bipush (-3), 2) := by decide +kernel
theorem dX8_undo_12 : decode cX8_undo 12 = .ok (.ireturn, 1) := by decide +kernel
theorem dX8_undo_13 : decode cX8_undo 13 = .ok (.aload_n 0, 1) := by decide +kernel
theorem dX8_undo_14 : decode cX8_undo 14 = .ok (.getfield 57, 3) := by decide +kernel
theorem dX8_undo_17 : decode cX8_undo 17 = .ok (.invokevirtual 272, 3) := by decide +kernel
theorem dX8_undo_20 : decode cX8_undo 20 = .ok (.istore_n 1, 1) := by decide +kernel
theorem dX8_undo_21 : decode cX8_undo 21 = .ok (.aload_n 0, 1) := by decide +kernel
theorem dX8_undo_22 : decode cX8_undo 22 = .ok (.getfield 57, 3) := by decide +kernel
theorem dX8_undo_25 : decode cX8_undo 25 = .ok (.getfield 275, 3) := by decide +kernel
theorem dX8_undo_28 : decode cX8_undo 28 = .ok (.iload_n 1, 1) := by decide +kernel
theorem dX8_undo_29 : decode cX8_undo 29 = .ok (.iaload, 1) := by decide +kernel
theorem dX8_undo_30 : decode cX8_undo 30 = .ok (.istore_n 2, 1) := by decide +kernel
theorem dX8_undo_31 : decode cX8_undo 31 = .ok (.aload_n 0, 1) := by decide +kernel
theorem dX8_undo_32 : decode cX8_undo 32 = .ok (.getfield 57, 3) := by decide +kernel
theorem dX8_undo_35 : decode cX8_undo 35 = .ok (.getfield 278, 3) := by decide +kernel
theorem dX8_undo_38 : decode cX8_undo 38 = .ok (.iload_n 1, 1) := by decide +kernel
theorem dX8_undo_39 : decode cX8_undo 39 = .ok (.iaload, 1) := by decide +kernel
theorem dX8_undo_40 : decode cX8_undo 40 = .ok (.tableswitch 69 0 2 #[28, 38, 58], 28) := by decide +kernel
theorem dX8_undo_68 : decode cX8_undo 68 = .ok (.aload_n 0, 1) := by decide +kernel
theorem dX8_undo_69 : decode cX8_undo 69 = .ok (.getfield 26, 3) := by decide +kernel
theorem dX8_undo_72 : decode cX8_undo 72 = .ok (.invokevirtual 134, 3) := by decide +kernel
theorem dX8_undo_75 : decode cX8_undo 75 = .ok (.goto 60, 3) := by decide +kernel
theorem dX8_undo_78 : decode cX8_undo 78 = .ok (.aload_n 0, 1) := by decide +kernel
theorem dX8_undo_79 : decode cX8_undo 79 = .ok (.getfield 26, 3) := by decide +kernel
theorem dX8_undo_82 : decode cX8_undo 82 = .ok (.iload_n 2, 1) := by decide +kernel
theorem dX8_undo_83 : decode cX8_undo 83 = .ok (.aload_n 0, 1) := by decide +kernel
theorem dX8_undo_84 : decode cX8_undo 84 = .ok (.getfield 57, 3) := by decide +kernel
theorem dX8_undo_87 : decode cX8_undo 87 = .ok (.getfield 281, 3) := by decide +kernel
theorem dX8_undo_90 : decode cX8_undo 90 = .ok (.iload_n 1, 1) := by decide +kernel
theorem dX8_undo_91 : decode cX8_undo 91 = .ok (.iaload, 1) := by decide +kernel
theorem dX8_undo_92 : decode cX8_undo 92 = .ok (.invokevirtual 282, 3) := by decide +kernel
theorem dX8_undo_95 : decode cX8_undo 95 = .ok (.goto 40, 3) := by decide +kernel
theorem dX8_undo_98 : decode cX8_undo 98 = .ok (.aload_n 0, 1) := by decide +kernel
theorem dX8_undo_99 : decode cX8_undo 99 = .ok (.getfield 43, 3) := by decide +kernel
theorem dX8_undo_102 : decode cX8_undo 102 = .ok (.iload_n 2, 1) := by decide +kernel
theorem dX8_undo_103 : decode cX8_undo 103 = .ok (.invokevirtual 203, 3) := by decide +kernel
theorem dX8_undo_106 : decode cX8_undo 106 = .ok (.goto 29, 3) := by decide +kernel
theorem dX8_undo_109 : decode cX8_undo 109 = .ok (.aload_n 0, 1) := by decide +kernel
theorem dX8_undo_110 : decode cX8_undo 110 = .ok (.getfield 43, 3) := by decide +kernel
theorem dX8_undo_113 : decode cX8_undo 113 = .ok (.iload_n 2, 1) := by decide +kernel
theorem dX8_undo_114 : decode cX8_undo 114 = .ok (.aload_n 0, 1) := by decide +kernel
theorem dX8_undo_115 : decode cX8_undo 115 = .ok (.getfield 57, 3) := by decide +kernel
theorem dX8_undo_118 : decode cX8_undo 118 = .ok (.getfield 281, 3) := by decide +kernel
theorem dX8_undo_121 : decode cX8_undo 121 = .ok (.iload_n 1, 1) := by decide +kernel
theorem dX8_undo_122 : decode cX8_undo 122 = .ok (.iaload, 1) := by decide +kernel
theorem dX8_undo_123 : decode cX8_undo 123 = .ok (.aload_n 0, 1) := by decide +kernel
theorem dX8_undo_124 : decode cX8_undo 124 = .ok (.getfield 57, 3) := by decide +kernel
theorem dX8_undo_127 : decode cX8_undo 127 = .ok (.getfield 285, 3) := by decide +kernel
theorem dX8_undo_130 : decode cX8_undo 130 = .ok (.iload_n 1, 1) := by decide +kernel
theorem dX8_undo_131 : decode cX8_undo 131 = .ok (.iaload, 1) := by decide +kernel
theorem dX8_undo_132 : decode cX8_undo 132 = .ok (.invokevirtual 286, 3) := by decide +kernel
theorem dX8_undo_135 : decode cX8_undo 135 = .ok (.aload_n 0, 1) := by decide +kernel
theorem dX8_undo_136 : decode cX8_undo 136 = .ok (.getfield 57, 3) := by decide +kernel
theorem dX8_undo_139 : decode cX8_undo 139 = .ok (.getfield 137, 3) := by decide +kernel
theorem dX8_undo_142 : decode cX8_undo 142 = .ok (.ireturn, 1) := by decide +kernel
set_option maxRecDepth 20000 in
theorem ggX8_image_X3_become : GoodIn wsX8_image wsX3_become := goodIn_r _ [11, 12, 13, 14, 15, 16, 17, 18, 19, 20, 42, 43, 44, 45, 46, 47, 48] (by decide +kernel) (by decide +kernel)
set_option maxRecDepth 20000 in
theorem gX8_image_X3_become : GoodIn wsX8_image (wsV RX8 290 RX3 yX3_become wsX3_become) := goodIn_app (goodIn_of _ (by decide +kernel)) ggX8_image_X3_become
set_option maxRecDepth 20000 in
theorem ggX8_image_X0_become : GoodIn wsX8_image wsX0_become := goodIn_r _ [25, 26, 27, 14, 15, 16, 28, 29, 49, 50, 51] (by decide +kernel) (by decide +kernel)
set_option maxRecDepth 20000 in
theorem gX8_image_X0_become : GoodIn wsX8_image (wsV RX8 293 RX0 yX0_become wsX0_become) := goodIn_app (goodIn_of _ (by decide +kernel)) ggX8_image_X0_become
theorem dX8_image_0 : decode cX8_image 0 = .ok (.aload_n 0, 1) := by decide +kernel
theorem dX8_image_1 : decode cX8_image 1 = .ok (.getfield 61, 3) := by decide +kernel
theorem dX8_image_4 : decode cX8_image 4 = .ok (.aload_n 0, 1) := by decide +kernel
theorem dX8_image_5 : decode cX8_image 5 = .ok (.getfield 26, 3) := by decide +kernel
theorem dX8_image_8 : decode cX8_image 8 = .ok (.invokevirtual 290, 3) := by decide +kernel
theorem dX8_image_11 : decode cX8_image 11 = .ok (.aload_n 0, 1) := by decide +kernel
theorem dX8_image_12 : decode cX8_image 12 = .ok (.getfield 64, 3) := by decide +kernel
theorem dX8_image_15 : decode cX8_image 15 = .ok (.aload_n 0, 1) := by decide +kernel
theorem dX8_image_16 : decode cX8_image 16 = .ok (.getfield 43, 3) := by decide +kernel
theorem dX8_image_19 : decode cX8_image 19 = .ok (.invokevirtual 293, 3) := by decide +kernel
theorem dX8_image_22 : decode cX8_image 22 = .ok (.aload_n 0, 1) := by decide +kernel
theorem dX8_image_23 : decode cX8_image 23 = .ok (.iconst 1, 1) := by decide +kernel
theorem dX8_image_24 : decode cX8_image 24 = .ok (.putfield 296, 3) := by decide +kernel
theorem dX8_image_27 : decode cX8_image 27 = .ok (.aload_n 0, 1) := by decide +kernel
theorem dX8_image_28 : decode cX8_image 28 = .ok (.getfield 26, 3) := by decide +kernel
theorem dX8_image_31 : decode cX8_image 31 = .ok (.getfield 94, 3) := by decide +kernel
theorem dX8_image_34 : decode cX8_image 34 = .ok (.ireturn, 1) := by decide +kernel
set_option maxRecDepth 20000 in
theorem ggX8_back_X3_become : GoodIn wsX8_back wsX3_become := goodIn_r _ [13, 14, 15, 16, 17, 18, 19, 20, 21, 22, 49, 50, 51, 52, 53, 54, 55] (by decide +kernel) (by decide +kernel)
set_option maxRecDepth 20000 in
theorem gX8_back_X3_become : GoodIn wsX8_back (wsV RX8 290 RX3 yX3_become wsX3_become) := goodIn_app (goodIn_of _ (by decide +kernel)) ggX8_back_X3_become
set_option maxRecDepth 20000 in
theorem ggX8_back_X0_become : GoodIn wsX8_back wsX0_become := goodIn_r _ [27, 28, 29, 16, 17, 18, 30, 31, 56, 57, 58] (by decide +kernel) (by decide +kernel)
set_option maxRecDepth 20000 in
theorem gX8_back_X0_become : GoodIn wsX8_back (wsV RX8 293 RX0 yX0_become wsX0_become) := goodIn_app (goodIn_of _ (by decide +kernel)) ggX8_back_X0_become
theorem dX8_back_0 : decode cX8_back 0 = .ok (.aload_n 0, 1) := by decide +kernel
theorem dX8_back_1 : decode cX8_back 1 = .ok (.getfield 296, 3) := by decide +kernel
theorem dX8_back_4 : decode cX8_back 4 = .ok (.ifCond .ne 6, 3) := by decide +kernel
theorem dX8_back_7 : decode cX8_back 7 = .ok (.bipush (-3), 2) := by decide +kernel
theorem dX8_back_9 : decode cX8_back 9 = .ok (.ireturn, 1) := by decide +kernel
theorem dX8_back_10 : decode cX8_back 10 = .ok (.aload_n 0, 1) := by decide +kernel
theorem dX8_back_11 : decode cX8_back 11 = .ok (.getfield 26, 3) := by decide +kernel
theorem dX8_back_14 : decode cX8_back 14 = .ok (.aload_n 0, 1) := by decide +kernel
theorem dX8_back_15 : decode cX8_back 15 = .ok (.getfield 61, 3) := by decide +kernel
theorem dX8_back_18 : decode cX8_back 18 = .ok (.invokevirtual 290, 3) := by decide +kernel
theorem dX8_back_21 : decode cX8_back 21 = .ok (.aload_n 0, 1) := by decide +kernel
theorem dX8_back_22 : decode cX8_back 22 = .ok (.getfield 43, 3) := by decide +kernel
theorem dX8_back_25 : decode cX8_back 25 = .ok (.aload_n 0, 1) := by decide +kernel
theorem dX8_back_26 : decode cX8_back 26 = .ok (.getfield 64, 3) := by decide +kernel
theorem dX8_back_29 : decode cX8_back 29 = .ok (.invokevirtual 293, 3) := by decide +kernel
theorem dX8_back_32 : decode cX8_back 32 = .ok (.aload_n 0, 1) := by decide +kernel
theorem dX8_back_33 : decode cX8_back 33 = .ok (.getfield 57, 3) := by decide +kernel
theorem dX8_back_36 : decode cX8_back 36 = .ok (.iconst 0, 1) := by decide +kernel
theorem dX8_back_37 : decode cX8_back 37 = .ok (.putfield 137, 3) := by decide +kernel
theorem dX8_back_40 : decode cX8_back 40 = .ok (.aload_n 0, 1) := by decide +kernel
theorem dX8_back_41 : decode cX8_back 41 = .ok (.getfield 26, 3) := by decide +kernel
theorem dX8_back_44 : decode cX8_back 44 = .ok (.getfield 94, 3) := by decide +kernel
theorem dX8_back_47 : decode cX8_back 47 = .ok (.ireturn, 1) := by decide +kernel
theorem dX8_count_0 : decode cX8_count 0 = .ok (.iload_n 1, 1) := by decide +kernel
theorem dX8_count_1 : decode cX8_count 1 = .ok (.tableswitch 63 0 3 #[31, 39, 47, 55], 31) := by decide +kernel
theorem dX8_count_32 : decode cX8_count 32 = .ok (.aload_n 0, 1) := by decide +kernel
theorem dX8_count_33 : decode cX8_count 33 = .ok (.getfield 26, 3) := by decide +kernel
theorem dX8_count_36 : decode cX8_count 36 = .ok (.getfield 94, 3) := by decide +kernel
theorem dX8_count_39 : decode cX8_count 39 = .ok (.ireturn, 1) := by decide +kernel
theorem dX8_count_40 : decode cX8_count 40 = .ok (.aload_n 0, 1) := by decide +kernel
theorem dX8_count_41 : decode cX8_count 41 = .ok (.getfield 43, 3) := by decide +kernel
theorem dX8_count_44 : decode cX8_count 44 = .ok (.getfield 206, 3) := by decide +kernel
theorem dX8_count_47 : decode cX8_count 47 = .ok (.ireturn, 1) := by decide +kernel
theorem dX8_count_48 : decode cX8_count 48 = .ok (.aload_n 0, 1) := by decide +kernel
theorem dX8_count_49 : decode cX8_count 49 = .ok (.getfield 57, 3) := by decide +kernel
theorem dX8_count_52 : decode cX8_count 52 = .ok (.getfield 137, 3) := by decide +kernel
theorem dX8_count_55 : decode cX8_count 55 = .ok (.ireturn, 1) := by decide +kernel
theorem dX8_count_56 : decode cX8_count 56 = .ok (.aload_n 0, 1) := by decide +kernel
theorem dX8_count_57 : decode cX8_count 57 = .ok (.getfield 10, 3) := by decide +kernel
theorem dX8_count_60 : decode cX8_count 60 = .ok (.getfield 90, 3) := by decide +kernel
theorem dX8_count_63 : decode cX8_count 63 = .ok (.ireturn, 1) := by decide +kernel
theorem dX8_count_64 : decode cX8_count 64 = .ok (.bipush (-2), 2) := by decide +kernel
theorem dX8_count_66 : decode cX8_count 66 = .ok (.ireturn, 1) := by decide +kernel
set_option maxRecDepth 20000 in
theorem ggX8_sheet_X8_isSheet : GoodIn wsX8_sheet wsX8_isSheet := goodIn_r _ [5, 6, 7, 4, 8] (by decide +kernel) (by decide +kernel)
set_option maxRecDepth 20000 in
theorem gX8_sheet_X8_isSheet : GoodIn wsX8_sheet (va_wsS RX8 239 yX8_isSheet wsX8_isSheet) := goodIn_app (goodIn_of _ (by decide +kernel)) ggX8_sheet_X8_isSheet
set_option maxRecDepth 20000 in
theorem ggX8_sheet_X5_become : GoodIn wsX8_sheet wsX5_become := goodIn_r _ [13, 14, 15, 16, 32, 33, 34] (by decide +kernel) (by decide +kernel)
set_option maxRecDepth 20000 in
theorem gX8_sheet_X5_become : GoodIn wsX8_sheet (wsV RX8 259 RX5 yX5_become wsX5_become) := goodIn_app (goodIn_of _ (by decide +kernel)) ggX8_sheet_X5_become
set_option maxRecDepth 20000 in
theorem ggX8_sheet_X8_isSort : GoodIn wsX8_sheet wsX8_isSort := goodIn_r _ [19] (by decide +kernel) (by decide +kernel)
set_option maxRecDepth 20000 in
theorem gX8_sheet_X8_isSort : GoodIn wsX8_sheet (va_wsS RX8 300 yX8_isSort wsX8_isSort) := goodIn_app (goodIn_of _ (by decide +kernel)) ggX8_sheet_X8_isSort
theorem dX8_sheet_0 : decode cX8_sheet 0 = .ok (.iload_n 1, 1) := by decide +kernel
theorem dX8_sheet_1 : decode cX8_sheet 1 = .ok (.invokestatic 239, 3) := by decide +kernel
theorem dX8_sheet_4 : decode cX8_sheet 4 = .ok (.ifCond .ne 6, 3) := by decide +kernel
theorem dX8_sheet_7 : decode cX8_sheet 7 = .ok (.bipush (-2), 2) := by decide +kernel
theorem dX8_sheet_9 : decode cX8_sheet 9 = .ok (.ireturn, 1) := by decide +kernel
theorem dX8_sheet_10 : decode cX8_sheet 10 = .ok (.iload_n 2, 1) := by decide +kernel
theorem dX8_sheet_11 : decode cX8_sheet 11 = .ok (.iconst (-1), 1) := by decide +kernel
theorem dX8_sheet_12 : decode cX8_sheet 12 = .ok (.if_icmp .ne 16, 3) := by decide +kernel
theorem dX8_sheet_15 : decode cX8_sheet 15 = .ok (.aload_n 0, 1) := by decide +kernel
theorem dX8_sheet_16 : decode cX8_sheet 16 = .ok (.getfield 69, 3) := by decide +kernel
theorem dX8_sheet_19 : decode cX8_sheet 19 = .ok (.iload_n 1, 1) := by decide +kernel
theorem dX8_sheet_20 : decode cX8_sheet 20 = .ok (.aaload, 1) := by decide +kernel
theorem dX8_sheet_21 : decode cX8_sheet 21 = .ok (.iconst (-1), 1) := by decide +kernel
theorem dX8_sheet_22 : decode cX8_sheet 22 = .ok (.iconst 0, 1) := by decide +kernel
theorem dX8_sheet_23 : decode cX8_sheet 23 = .ok (.invokevirtual 259, 3) := by decide +kernel
theorem dX8_sheet_26 : decode cX8_sheet 26 = .ok (.iconst 1, 1) := by decide +kernel
theorem dX8_sheet_27 : decode cX8_sheet 27 = .ok (.ireturn, 1) := by decide +kernel
theorem dX8_sheet_28 : decode cX8_sheet 28 = .ok (.iload_n 2, 1) := by decide +kernel
theorem dX8_sheet_29 : decode cX8_sheet 29 = .ok (.invokestatic 300, 3) := by decide +kernel
theorem dX8_sheet_32 : decode cX8_sheet 32 = .ok (.ifCond .eq 9, 3) := by decide +kernel
theorem dX8_sheet_35 : decode cX8_sheet 35 = .ok (.iload_n 3, 1) := by decide +kernel
theorem dX8_sheet_36 : decode cX8_sheet 36 = .ok (.bipush 40, 2) := by decide +kernel
theorem dX8_sheet_38 : decode cX8_sheet 38 = .ok (.if_icmp .le 6, 3) := by decide +kernel
theorem dX8_sheet_41 : decode cX8_sheet 41 = .ok (.bipush (-2), 2) := by decide +kernel
theorem dX8_sheet_43 : decode cX8_sheet 43 = .ok (.ireturn, 1) := by decide +kernel
theorem dX8_sheet_44 : decode cX8_sheet 44 = .ok (.iload_n 3, 1) := by decide +kernel
theorem dX8_sheet_45 : decode cX8_sheet 45 = .ok (.ifCond .ge 6, 3) := by decide +kernel
theorem dX8_sheet_48 : decode cX8_sheet 48 = .ok (.bipush (-14), 2) := by decide +kernel
theorem dX8_sheet_50 : decode cX8_sheet 50 = .ok (.ireturn, 1) := by decide +kernel
theorem dX8_sheet_51 : decode cX8_sheet 51 = .ok (.aload_n 0, 1) := by decide +kernel
theorem dX8_sheet_52 : decode cX8_sheet 52 = .ok (.getfield 69, 3) := by decide +kernel
theorem dX8_sheet_55 : decode cX8_sheet 55 = .ok (.iload_n 1, 1) := by decide +kernel
theorem dX8_sheet_56 : decode cX8_sheet 56 = .ok (.aaload, 1) := by decide +kernel
theorem dX8_sheet_57 : decode cX8_sheet 57 = .ok (.iload_n 2, 1) := by decide +kernel
theorem dX8_sheet_58 : decode cX8_sheet 58 = .ok (.iload_n 3, 1) := by decide +kernel
theorem dX8_sheet_59 : decode cX8_sheet 59 = .ok (.invokevirtual 259, 3) := by decide +kernel
theorem dX8_sheet_62 : decode cX8_sheet 62 = .ok (.iconst 1, 1) := by decide +kernel
theorem dX8_sheet_63 : decode cX8_sheet 63 = .ok (.ireturn, 1) := by decide +kernel
set_option maxRecDepth 20000 in
theorem ggX8_put_X8_isSheet : GoodIn wsX8_put wsX8_isSheet := goodIn_r _ [5, 6, 7, 4, 8] (by decide +kernel) (by decide +kernel)
set_option maxRecDepth 20000 in
theorem gX8_put_X8_isSheet : GoodIn wsX8_put (va_wsS RX8 239 yX8_isSheet wsX8_isSheet) := goodIn_app (goodIn_of _ (by decide +kernel)) ggX8_put_X8_isSheet
set_option maxRecDepth 20000 in
theorem ggX8_put_X5_isMissing : GoodIn wsX8_put wsX5_isMissing := goodIn_r _ [13, 14, 38, 39, 40] (by decide +kernel) (by decide +kernel)
set_option maxRecDepth 20000 in
theorem gX8_put_X5_isMissing : GoodIn wsX8_put (wsV RX8 245 RX5 yX5_isMissing wsX5_isMissing) := goodIn_app (goodIn_of _ (by decide +kernel)) ggX8_put_X5_isMissing
set_option maxRecDepth 20000 in
theorem ggX8_put_X5_has : GoodIn wsX8_put wsX5_has := goodIn_r _ [18, 19, 38, 39, 40] (by decide +kernel) (by decide +kernel)
set_option maxRecDepth 20000 in
theorem gX8_put_X5_has : GoodIn wsX8_put (wsV RX8 303 RX5 yX5_has wsX5_has) := goodIn_app (goodIn_of _ (by decide +kernel)) ggX8_put_X5_has
set_option maxRecDepth 20000 in
theorem ggX8_put_X5_set : GoodIn wsX8_put wsX5_set := goodIn_r _ [23, 24, 14, 25, 16, 17, 12, 18, 19, 38, 39, 40] (by decide +kernel) (by decide +kernel)
set_option maxRecDepth 20000 in
theorem gX8_put_X5_set : GoodIn wsX8_put (wsV RX8 269 RX5 yX5_set wsX5_set) := goodIn_app (goodIn_of _ (by decide +kernel)) ggX8_put_X5_set
theorem dX8_put_0 : decode cX8_put 0 = .ok (.iload_n 1, 1) := by decide +kernel
theorem dX8_put_1 : decode cX8_put 1 = .ok (.invokestatic 239, 3) := by decide +kernel
theorem dX8_put_4 : decode cX8_put 4 = .ok (.ifCond .ne 6, 3) := by decide +kernel
theorem dX8_put_7 : decode cX8_put 7 = .ok (.bipush (-2), 2) := by decide +kernel
theorem dX8_put_9 : decode cX8_put 9 = .ok (.ireturn, 1) := by decide +kernel
theorem dX8_put_10 : decode cX8_put 10 = .ok (.aload_n 0, 1) := by decide +kernel
theorem dX8_put_11 : decode cX8_put 11 = .ok (.getfield 69, 3) := by decide +kernel
theorem dX8_put_14 : decode cX8_put 14 = .ok (.iload_n 1, 1) := by decide +kernel
theorem dX8_put_15 : decode cX8_put 15 = .ok (.aaload, 1) := by decide +kernel
