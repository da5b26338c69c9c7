theorem dX0_init_0 : decode cX0_init 0 = .ok (.aload_n 0, 1) := by decide +kernel
theorem dX0_init_1 : decode cX0_init 1 = .ok (.invokespecial 1, 3) := by decide +kernel
theorem dX0_init_4 : decode cX0_init 4 = .ok (.aload_n 0, 1) := by decide +kernel
theorem dX0_init_5 : decode cX0_init 5 = .ok (.bipush 8, 2) := by decide +kernel
theorem dX0_init_7 : decode cX0_init 7 = .ok (.newarray .int, 2) := by decide +kernel
theorem dX0_init_9 : decode cX0_init 9 = .ok (.putfield 9, 3) := by decide +kernel
theorem dX0_init_12 : decode cX0_init 12 = .ok (.aload_n 0, 1) := by decide +kernel
theorem dX0_init_13 : decode cX0_init 13 = .ok (.bipush 8, 2) := by decide +kernel
theorem dX0_init_15 : decode cX0_init 15 = .ok (.newarray .int, 2) := by decide +kernel
theorem dX0_init_17 : decode cX0_init 17 = .ok (.putfield 13, 3) := by decide +kernel
theorem dX0_init_20 : decode cX0_init 20 = .ok (.return_, 1) := by decide +kernel
theorem dX0_has_0 : decode cX0_has 0 = .ok (.iload_n 1, 1) := by decide +kernel
theorem dX0_has_1 : decode cX0_has 1 = .ok (.ifCond .lt 15, 3) := by decide +kernel
theorem dX0_has_4 : decode cX0_has 4 = .ok (.iload_n 1, 1) := by decide +kernel
theorem dX0_has_5 : decode cX0_has 5 = .ok (.aload_n 0, 1) := by decide +kernel
theorem dX0_has_6 : decode cX0_has 6 = .ok (.getfield 16, 3) := by decide +kernel
theorem dX0_has_9 : decode cX0_has 9 = .ok (.if_icmp .ge 7, 3) := by decide +kernel
theorem dX0_has_12 : decode cX0_has 12 = .ok (.iconst 1, 1) := by decide +kernel
theorem dX0_has_13 : decode cX0_has 13 = .ok (.goto 4, 3) := by decide +kernel
theorem dX0_has_16 : decode cX0_has 16 = .ok (.iconst 0, 1) := by decide +kernel
theorem dX0_has_17 : decode cX0_has 17 = .ok (.ireturn, 1) := by decide +kernel
theorem dX0_isFull_0 : decode cX0_isFull 0 = .ok (.aload_n 0, 1) := by decide +kernel
theorem dX0_isFull_1 : decode cX0_isFull 1 = .ok (.getfield 16, 3) := by decide +kernel
theorem dX0_isFull_4 : decode cX0_isFull 4 = .ok (.bipush 8, 2) := by decide +kernel
theorem dX0_isFull_6 : decode cX0_isFull 6 = .ok (.if_icmp .lt 7, 3) := by decide +kernel
theorem dX0_isFull_9 : decode cX0_isFull 9 = .ok (.iconst 1, 1) := by decide +kernel
theorem dX0_isFull_10 : decode cX0_isFull 10 = .ok (.goto 4, 3) := by decide +kernel
theorem dX0_isFull_13 : decode cX0_isFull 13 = .ok (.iconst 0, 1) := by decide +kernel
theorem dX0_isFull_14 : decode cX0_isFull 14 = .ok (.ireturn, 1) := by decide +kernel
set_option maxRecDepth 20000 in
theorem ggX0_insert_X0_isFull : GoodIn wsX0_insert wsX0_isFull := goodIn_r _ [8, 1, 9, 10, 11] (by decide +kernel) (by decide +kernel)
set_option maxRecDepth 20000 in
theorem gX0_insert_X0_isFull : GoodIn wsX0_insert (wsV RX0 20 RX0 yX0_isFull wsX0_isFull) := goodIn_app (goodIn_of _ (by decide +kernel)) ggX0_insert_X0_isFull
theorem dX0_insert_0 : decode cX0_insert 0 = .ok (.aload_n 0, 1) := by decide +kernel
theorem dX0_insert_1 : decode cX0_insert 1 = .ok (.invokevirtual 20, 3) := by decide +kernel
theorem dX0_insert_4 : decode cX0_insert 4 = .ok (.ifCond .ne 15, 3) := by decide +kernel
theorem dX0_insert_7 : decode cX0_insert 7 = .ok (.iload_n 1, 1) := by decide +kernel
theorem dX0_insert_8 : decode cX0_insert 8 = .ok (.ifCond .lt 11, 3) := by decide +kernel
theorem dX0_insert_11 : decode cX0_insert 11 = .ok (.iload_n 1, 1) := by decide +kernel
theorem dX0_insert_12 : decode cX0_insert 12 = .ok (.aload_n 0, 1) := by decide +kernel
theorem dX0_insert_13 : decode cX0_insert 13 = .ok (.getfield 16, 3) := by decide +kernel
theorem dX0_insert_16 : decode cX0_insert 16 = .ok (.if_icmp .le 4, 3) := by decide +kernel
theorem dX0_insert_19 : decode cX0_insert 19 = .ok (.return_, 1) := by decide +kernel
theorem dX0_insert_20 : decode cX0_insert 20 = .ok (.aload_n 0, 1) := by decide +kernel
theorem dX0_insert_21 : decode cX0_insert 21 = .ok (.getfield 16, 3) := by decide +kernel
theorem dX0_insert_24 : decode cX0_insert 24 = .ok (.istore 4, 2) := by decide +kernel
theorem dX0_insert_26 : decode cX0_insert 26 = .ok (.iload 4, 2) := by decide +kernel
theorem dX0_insert_28 : decode cX0_insert 28 = .ok (.iload_n 1, 1) := by decide +kernel
theorem dX0_insert_29 : decode cX0_insert 29 = .ok (.if_icmp .le 41, 3) := by decide +kernel
theorem dX0_insert_32 : decode cX0_insert 32 = .ok (.aload_n 0, 1) := by decide +kernel
theorem dX0_insert_33 : decode cX0_insert 33 = .ok (.getfield 9, 3) := by decide +kernel
theorem dX0_insert_36 : decode cX0_insert 36 = .ok (.iload 4, 2) := by decide +kernel
theorem dX0_insert_38 : decode cX0_insert 38 = .ok (.aload_n 0, 1) := by decide +kernel
theorem dX0_insert_39 : decode cX0_insert 39 = .ok (.getfield 9, 3) := by decide +kernel
theorem dX0_insert_42 : decode cX0_insert 42 = .ok (.iload 4, 2) := by decide +kernel
theorem dX0_insert_44 : decode cX0_insert 44 = .ok (.iconst 1, 1) := by decide +kernel
theorem dX0_insert_45 : decode cX0_insert 45 = .ok (.isub, 1) := by decide +kernel
theorem dX0_insert_46 : decode cX0_insert 46 = .ok (.iaload, 1) := by decide +kernel
theorem dX0_insert_47 : decode cX0_insert 47 = .ok (.iastore, 1) := by decide +kernel
theorem dX0_insert_48 : decode cX0_insert 48 = .ok (.aload_n 0, 1) := by decide +kernel
theorem dX0_insert_49 : decode cX0_insert 49 = .ok (.getfield 13, 3) := by decide +kernel
theorem dX0_insert_52 : decode cX0_insert 52 = .ok (.iload 4, 2) := by decide +kernel
theorem dX0_insert_54 : decode cX0_insert 54 = .ok (.aload_n 0, 1) := by decide +kernel
theorem dX0_insert_55 : decode cX0_insert 55 = .ok (.getfield 13, 3) := by decide +kernel
theorem dX0_insert_58 : decode cX0_insert 58 = .ok (.iload 4, 2) := by decide +kernel
theorem dX0_insert_60 : decode cX0_insert 60 = .ok (.iconst 1, 1) := by decide +kernel
theorem dX0_insert_61 : decode cX0_insert 61 = .ok (.isub, 1) := by decide +kernel
theorem dX0_insert_62 : decode cX0_insert 62 = .ok (.iaload, 1) := by decide +kernel
theorem dX0_insert_63 : decode cX0_insert 63 = .ok (.iastore, 1) := by decide +kernel
theorem dX0_insert_64 : decode cX0_insert 64 = .ok (.iinc 4 (-1), 3) := by decide +kernel
theorem dX0_insert_67 : decode cX0_insert 67 = .ok (.goto (-41), 3) := by decide +kernel
theorem dX0_insert_70 : decode cX0_insert 70 = .ok (.aload_n 0, 1) := by decide +kernel
theorem dX0_insert_71 : decode cX0_insert 71 = .ok (.getfield 9, 3) := by decide +kernel
theorem dX0_insert_74 : decode cX0_insert 74 = .ok (.iload_n 1, 1) := by decide +kernel
theorem dX0_insert_75 : decode cX0_insert 75 = .ok (.iload_n 2, 1) := by decide +kernel
theorem dX0_insert_76 : decode cX0_insert 76 = .ok (.iastore, 1) := by decide +kernel
theorem dX0_insert_77 : decode cX0_insert 77 = .ok (.aload_n 0, 1) := by decide +kernel
theorem dX0_insert_78 : decode cX0_insert 78 = .ok (.getfield 13, 3) := by decide +kernel
theorem dX0_insert_81 : decode cX0_insert 81 = .ok (.iload_n 1, 1) := by decide +kernel
theorem dX0_insert_82 : decode cX0_insert 82 = .ok (.iload_n 3, 1) := by decide +kernel
theorem dX0_insert_83 : decode cX0_insert 83 = .ok (.iastore, 1) := by decide +kernel
theorem dX0_insert_84 : decode cX0_insert 84 = .ok (.aload_n 0, 1) := by decide +kernel
theorem dX0_insert_85 : decode cX0_insert 85 = .ok (.dup, 1) := by decide +kernel
theorem dX0_insert_86 : decode cX0_insert 86 = .ok (.getfield 16, 3) := by decide +kernel
theorem dX0_insert_89 : decode cX0_insert 89 = .ok (.iconst 1, 1) := by decide +kernel
theorem dX0_insert_90 : decode cX0_insert 90 = .ok (.iadd, 1) := by decide +kernel
theorem dX0_insert_91 : decode cX0_insert 91 = .ok (.putfield 16, 3) := by decide +kernel
theorem dX0_insert_94 : decode cX0_insert 94 = .ok (.return_, 1) := by decide +kernel
set_option maxRecDepth 20000 in
theorem ggX0_remove_X0_has : GoodIn wsX0_remove wsX0_has := goodIn_r _ [8, 1, 9, 10, 11] (by decide +kernel) (by decide +kernel)
set_option maxRecDepth 20000 in
theorem gX0_remove_X0_has : GoodIn wsX0_remove (wsV RX0 24 RX0 yX0_has wsX0_has) := goodIn_app (goodIn_of _ (by decide +kernel)) ggX0_remove_X0_has
theorem dX0_remove_0 : decode cX0_remove 0 = .ok (.aload_n 0, 1) := by decide +kernel
theorem dX0_remove_1 : decode cX0_remove 1 = .ok (.iload_n 1, 1) := by decide +kernel
theorem dX0_remove_2 : decode cX0_remove 2 = .ok (.invokevirtual 24, 3) := by decide +kernel
theorem dX0_remove_5 : decode cX0_remove 5 = .ok (.ifCond .ne 4, 3) := by decide +kernel
theorem dX0_remove_8 : decode cX0_remove 8 = .ok (.return_, 1) := by decide +kernel
theorem dX0_remove_9 : decode cX0_remove 9 = .ok (.aload_n 0, 1) := by decide +kernel
theorem dX0_remove_10 : decode cX0_remove 10 = .ok (.dup, 1) := by decide +kernel
theorem dX0_remove_11 : decode cX0_remove 11 = .ok (.getfield 16, 3) := by decide +kernel
theorem dX0_remove_14 : decode cX0_remove 14 = .ok (.iconst 1, 1) := by decide +kernel
theorem dX0_remove_15 : decode cX0_remove 15 = .ok (.isub, 1) := by decide +kernel
theorem dX0_remove_16 : decode cX0_remove 16 = .ok (.putfield 16, 3) := by decide +kernel
theorem dX0_remove_19 : decode cX0_remove 19 = .ok (.iload_n 1, 1) := by decide +kernel
theorem dX0_remove_20 : decode cX0_remove 20 = .ok (.istore_n 2, 1) := by decide +kernel
theorem dX0_remove_21 : decode cX0_remove 21 = .ok (.iload_n 2, 1) := by decide +kernel
theorem dX0_remove_22 : decode cX0_remove 22 = .ok (.aload_n 0, 1) := by decide +kernel
theorem dX0_remove_23 : decode cX0_remove 23 = .ok (.getfield 16, 3) := by decide +kernel
theorem dX0_remove_26 : decode cX0_remove 26 = .ok (.if_icmp .ge 37, 3) := by decide +kernel
theorem dX0_remove_29 : decode cX0_remove 29 = .ok (.aload_n 0, 1) := by decide +kernel
theorem dX0_remove_30 : decode cX0_remove 30 = .ok (.getfield 9, 3) := by decide +kernel
theorem dX0_remove_33 : decode cX0_remove 33 = .ok (.iload_n 2, 1) := by decide +kernel
theorem dX0_remove_34 : decode cX0_remove 34 = .ok (.aload_n 0, 1) := by decide +kernel
theorem dX0_remove_35 : decode cX0_remove 35 = .ok (.getfield 9, 3) := by decide +kernel
theorem dX0_remove_38 : decode cX0_remove 38 = .ok (.iload_n 2, 1) := by decide +kernel
theorem dX0_remove_39 : decode cX0_remove 39 = .ok (.iconst 1, 1) := by decide +kernel
theorem dX0_remove_40 : decode cX0_remove 40 = .ok (.iadd, 1) := by decide +kernel
theorem dX0_remove_41 : decode cX0_remove 41 = .ok (.iaload, 1) := by decide +kernel
theorem dX0_remove_42 : decode cX0_remove 42 = .ok (.iastore, 1) := by decide +kernel
theorem dX0_remove_43 : decode cX0_remove 43 = .ok (.aload_n 0, 1) := by decide +kernel
theorem dX0_remove_44 : decode cX0_remove 44 = .ok (.getfield 13, 3) := by decide +kernel
theorem dX0_remove_47 : decode cX0_remove 47 = .ok (.iload_n 2, 1) := by decide +kernel
theorem dX0_remove_48 : decode cX0_remove 48 = .ok (.aload_n 0, 1) := by decide +kernel
theorem dX0_remove_49 : decode cX0_remove 49 = .ok (.getfield 13, 3) := by decide +kernel
theorem dX0_remove_52 : decode cX0_remove 52 = .ok (.iload_n 2, 1) := by decide +kernel
theorem dX0_remove_53 : decode cX0_remove 53 = .ok (.iconst 1, 1) := by decide +kernel
theorem dX0_remove_54 : decode cX0_remove 54 = .ok (.iadd, 1) := by decide +kernel
theorem dX0_remove_55 : decode cX0_remove 55 = .ok (.iaload, 1) := by decide +kernel
theorem dX0_remove_56 : decode cX0_remove 56 = .ok (.iastore, 1) := by decide +kernel
theorem dX0_remove_57 : decode cX0_remove 57 = .ok (.iinc 2 1, 3) := by decide +kernel
theorem dX0_remove_60 : decode cX0_remove 60 = .ok (.goto (-39), 3) := by decide +kernel
theorem dX0_remove_63 : decode cX0_remove 63 = .ok (.return_, 1) := by decide +kernel
theorem dX0_become_0 : decode cX0_become 0 = .ok (.aload_n 1, 1) := by decide +kernel
theorem dX0_become_1 : decode cX0_become 1 = .ok (.getfield 9, 3) := by decide +kernel
theorem dX0_become_4 : decode cX0_become 4 = .ok (.iconst 0, 1) := by decide +kernel
theorem dX0_become_5 : decode cX0_become 5 = .ok (.aload_n 0, 1) := by decide +kernel
theorem dX0_become_6 : decode cX0_become 6 = .ok (.getfield 9, 3) := by decide +kernel
theorem dX0_become_9 : decode cX0_become 9 = .ok (.iconst 0, 1) := by decide +kernel
theorem dX0_become_10 : decode cX0_become 10 = .ok (.bipush 8, 2) := by decide +kernel
theorem dX0_become_12 : decode cX0_become 12 = .ok (.invokestatic 28, 3) := by decide +kernel
theorem dX0_become_15 : decode cX0_become 15 = .ok (.aload_n 1, 1) := by decide +kernel
theorem dX0_become_16 : decode cX0_become 16 = .ok (.getfield 13, 3) := by decide +kernel
theorem dX0_become_19 : decode cX0_become 19 = .ok (.iconst 0, 1) := by decide +kernel
theorem dX0_become_20 : decode cX0_become 20 = .ok (.aload_n 0, 1) := by decide +kernel
theorem dX0_become_21 : decode cX0_become 21 = .ok (.getfield 13, 3) := by decide +kernel
theorem dX0_become_24 : decode cX0_become 24 = .ok (.iconst 0, 1) := by decide +kernel
theorem dX0_become_25 : decode cX0_become 25 = .ok (.bipush 8, 2) := by decide +kernel
theorem dX0_become_27 : decode cX0_become 27 = .ok (.invokestatic 28, 3) := by decide +kernel
theorem dX0_become_30 : decode cX0_become 30 = .ok (.aload_n 0, 1) := by decide +kernel
theorem dX0_become_31 : decode cX0_become 31 = .ok (.aload_n 1, 1) := by decide +kernel
theorem dX0_become_32 : decode cX0_become 32 = .ok (.getfield 16, 3) := by decide +kernel
theorem dX0_become_35 : decode cX0_become 35 = .ok (.putfield 16, 3) := by decide +kernel
theorem dX0_become_38 : decode cX0_become 38 = .ok (.return_, 1) := by decide +kernel
set_option maxRecDepth 20000 in
theorem ggX0_stands_X8_held : GoodIn wsX0_stands wsX8_held := goodIn_r _ [6, 7, 8] (by decide +kernel) (by decide +kernel)
set_option maxRecDepth 20000 in
theorem gX0_stands_X8_held_n34 : GoodIn wsX0_stands (wsX8_held) := ggX0_stands_X8_held
theorem dX0_stands_0 : decode cX0_stands 0 = .ok (.iconst 0, 1) := by decide +kernel
theorem dX0_stands_1 : decode cX0_stands 1 = .ok (.istore_n 1, 1) := by decide +kernel
theorem dX0_stands_2 : decode cX0_stands 2 = .ok (.iconst 0, 1) := by decide +kernel
theorem dX0_stands_3 : decode cX0_stands 3 = .ok (.istore_n 2, 1) := by decide +kernel
theorem dX0_stands_4 : decode cX0_stands 4 = .ok (.iload_n 2, 1) := by decide +kernel
theorem dX0_stands_5 : decode cX0_stands 5 = .ok (.aload_n 0, 1) := by decide +kernel
theorem dX0_stands_6 : decode cX0_stands 6 = .ok (.getfield 16, 3) := by decide +kernel
theorem dX0_stands_9 : decode cX0_stands 9 = .ok (.if_icmp .ge 27, 3) := by decide +kernel
theorem dX0_stands_12 : decode cX0_stands 12 = .ok (.iload_n 1, 1) := by decide +kernel
theorem dX0_stands_13 : decode cX0_stands 13 = .ok (.aload_n 0, 1) := by decide +kernel
theorem dX0_stands_14 : decode cX0_stands 14 = .ok (.getfield 9, 3) := by decide +kernel
theorem dX0_stands_17 : decode cX0_stands 17 = .ok (.iload_n 2, 1) := by decide +kernel
theorem dX0_stands_18 : decode cX0_stands 18 = .ok (.iaload, 1) := by decide +kernel
theorem dX0_stands_19 : decode cX0_stands 19 = .ok (.aload_n 0, 1) := by decide +kernel
theorem dX0_stands_20 : decode cX0_stands 20 = .ok (.getfield 13, 3) := by decide +kernel
theorem dX0_stands_23 : decode cX0_stands 23 = .ok (.iload_n 2, 1) := by decide +kernel
theorem dX0_stands_24 : decode cX0_stands 24 = .ok (.iaload, 1) := by decide +kernel
theorem dX0_stands_25 : decode cX0_stands 25 = .ok (.invokestatic 34, 3) := by decide +kernel
theorem dX0_stands_28 : decode cX0_stands 28 = .ok (.ior, 1) := by decide +kernel
theorem dX0_stands_29 : decode cX0_stands 29 = .ok (.istore_n 1, 1) := by decide +kernel
theorem dX0_stands_30 : decode cX0_stands 30 = .ok (.iinc 2 1, 3) := by decide +kernel
theorem dX0_stands_33 : decode cX0_stands 33 = .ok (.goto (-29), 3) := by decide +kernel
theorem dX0_stands_36 : decode cX0_stands 36 = .ok (.iload_n 1, 1) := by decide +kernel
theorem dX0_stands_37 : decode cX0_stands 37 = .ok (.ireturn, 1) := by decide +kernel
set_option maxRecDepth 20000 in
theorem ggX0_openPairs_X0_stands : GoodIn wsX0_openPairs wsX0_stands := goodIn_r _ [9, 1, 2, 3, 10, 11, 12, 13, 14, 17, 18, 19] (by decide +kernel) (by decide +kernel)
set_option maxRecDepth 20000 in
theorem gX0_openPairs_X0_stands : GoodIn wsX0_openPairs (wsV RX0 40 RX0 yX0_stands wsX0_stands) := goodIn_app (goodIn_of _ (by decide +kernel)) ggX0_openPairs_X0_stands
set_option maxRecDepth 20000 in
theorem ggX0_openPairs_X8_pairsAmong : GoodIn wsX0_openPairs wsX8_pairsAmong := goodIn_r _ [16, 14] (by decide +kernel) (by decide +kernel)
set_option maxRecDepth 20000 in
theorem gX0_openPairs_X8_pairsAmong_n44 : GoodIn wsX0_openPairs (wsX8_pairsAmong) := ggX0_openPairs_X8_pairsAmong
set_option maxRecDepth 20000 in
theorem ggX0_openPairs_X8_held : GoodIn wsX0_openPairs wsX8_held := goodIn_r _ [12, 13, 14] (by decide +kernel) (by decide +kernel)
set_option maxRecDepth 20000 in
theorem gX0_openPairs_X8_held_n34 : GoodIn wsX0_openPairs (wsX8_held) := ggX0_openPairs_X8_held
theorem dX0_openPairs_0 : decode cX0_openPairs 0 = .ok (.aload_n 0, 1) := by decide +kernel
theorem dX0_openPairs_1 : decode cX0_openPairs 1 = .ok (.invokevirtual 40, 3) := by decide +kernel
theorem dX0_openPairs_4 : decode cX0_openPairs 4 = .ok (.invokestatic 44, 3) := by decide +kernel
theorem dX0_openPairs_7 : decode cX0_openPairs 7 = .ok (.lstore_n 1, 1) := by decide +kernel
theorem dX0_openPairs_8 : decode cX0_openPairs 8 = .ok (.iconst 0, 1) := by decide +kernel
theorem dX0_openPairs_9 : decode cX0_openPairs 9 = .ok (.istore_n 3, 1) := by decide +kernel
theorem dX0_openPairs_10 : decode cX0_openPairs 10 = .ok (.iload_n 3, 1) := by decide +kernel
theorem dX0_openPairs_11 : decode cX0_openPairs 11 = .ok (.aload_n 0, 1) := by decide +kernel
theorem dX0_openPairs_12 : decode cX0_openPairs 12 = .ok (.getfield 16, 3) := by decide +kernel
theorem dX0_openPairs_15 : decode cX0_openPairs 15 = .ok (.if_icmp .ge 34, 3) := by decide +kernel
theorem dX0_openPairs_18 : decode cX0_openPairs 18 = .ok (.lload_n 1, 1) := by decide +kernel
theorem dX0_openPairs_19 : decode cX0_openPairs 19 = .ok (.aload_n 0, 1) := by decide +kernel
theorem dX0_openPairs_20 : decode cX0_openPairs 20 = .ok (.getfield 9, 3) := by decide +kernel
theorem dX0_openPairs_23 : decode cX0_openPairs 23 = .ok (.iload_n 3, 1) := by decide +kernel
theorem dX0_openPairs_24 : decode cX0_openPairs 24 = .ok (.iaload, 1) := by decide +kernel
theorem dX0_openPairs_25 : decode cX0_openPairs 25 = .ok (.aload_n 0, 1) := by decide +kernel
theorem dX0_openPairs_26 : decode cX0_openPairs 26 = .ok (.getfield 13, 3) := by decide +kernel
theorem dX0_openPairs_29 : decode cX0_openPairs 29 = .ok (.iload_n 3, 1) := by decide +kernel
theorem dX0_openPairs_30 : decode cX0_openPairs 30 = .ok (.iaload, 1) := by decide +kernel
theorem dX0_openPairs_31 : decode cX0_openPairs 31 = .ok (.invokestatic 34, 3) := by decide +kernel
theorem dX0_openPairs_34 : decode cX0_openPairs 34 = .ok (.invokestatic 44, 3) := by decide +kernel
theorem dX0_openPairs_37 : decode cX0_openPairs 37 = .ok (.ldc2_w 48, 3) := by decide +kernel
theorem dX0_openPairs_40 : decode cX0_openPairs 40 = .ok (.lxor, 1) := by decide +kernel
theorem dX0_openPairs_41 : decode cX0_openPairs 41 = .ok (.land, 1) := by decide +kernel
theorem dX0_openPairs_42 : decode cX0_openPairs 42 = .ok (.lstore_n 1, 1) := by decide +kernel
theorem dX0_openPairs_43 : decode cX0_openPairs 43 = .ok (.iinc 3 1, 3) := by decide +kernel
theorem dX0_openPairs_46 : decode cX0_openPairs 46 = .ok (.goto (-36), 3) := by decide +kernel
theorem dX0_openPairs_49 : decode cX0_openPairs 49 = .ok (.lload_n 1, 1) := by decide +kernel
theorem dX0_openPairs_50 : decode cX0_openPairs 50 = .ok (.lreturn, 1) := by decide +kernel
theorem dX1_init_0 : decode cX1_init 0 = .ok (.aload_n 0, 1) := by decide +kernel
theorem dX1_init_1 : decode cX1_init 1 = .ok (.invokespecial 1, 3) := by decide +kernel
theorem dX1_init_4 : decode cX1_init 4 = .ok (.aload_n 0, 1) := by decide +kernel
theorem dX1_init_5 : decode cX1_init 5 = .ok (.bipush 6, 2) := by decide +kernel
theorem dX1_init_7 : decode cX1_init 7 = .ok (.newarray .int, 2) := by decide +kernel
theorem dX1_init_9 : decode cX1_init 9 = .ok (.putfield 9, 3) := by decide +kernel
theorem dX1_init_12 : decode cX1_init 12 = .ok (.aload_n 0, 1) := by decide +kernel
theorem dX1_init_13 : decode cX1_init 13 = .ok (.bipush 6, 2) := by decide +kernel
theorem dX1_init_15 : decode cX1_init 15 = .ok (.newarray .int, 2) := by decide +kernel
theorem dX1_init_17 : decode cX1_init 17 = .ok (.putfield 13, 3) := by decide +kernel
theorem dX1_init_20 : decode cX1_init 20 = .ok (.aload_n 0, 1) := by decide +kernel
theorem dX1_init_21 : decode cX1_init 21 = .ok (.bipush 6, 2) := by decide +kernel
theorem dX1_init_23 : decode cX1_init 23 = .ok (.newarray .int, 2) := by decide +kernel
theorem dX1_init_25 : decode cX1_init 25 = .ok (.putfield 16, 3) := by decide +kernel
theorem dX1_init_28 : decode cX1_init 28 = .ok (.aload_n 0, 1) := by decide +kernel
theorem dX1_init_29 : decode cX1_init 29 = .ok (.bipush 6, 2) := by decide +kernel
theorem dX1_init_31 : decode cX1_init 31 = .ok (.newarray .int, 2) := by decide +kernel
theorem dX1_init_33 : decode cX1_init 33 = .ok (.putfield 19, 3) := by decide +kernel
theorem dX1_init_36 : decode cX1_init 36 = .ok (.return_, 1) := by decide +kernel
set_option maxRecDepth 20000 in
theorem ggX1_note_X1_forgetEarliest : GoodIn wsX1_note wsX1_forgetEarliest := goodIn_r _ [10, 1, 2, 3, 4, 5, 11, 12, 13, 14, 15] (by decide +kernel) (by decide +kernel)
set_option maxRecDepth 20000 in
theorem gX1_note_X1_forgetEarliest : GoodIn wsX1_note (wsV RX1 26 RX1 yX1_forgetEarliest wsX1_forgetEarliest) := goodIn_app (goodIn_of _ (by decide +kernel)) ggX1_note_X1_forgetEarliest
theorem dX1_note_0 : decode cX1_note 0 = .ok (.aload_n 0, 1) := by decide +kernel
theorem dX1_note_1 : decode cX1_note 1 = .ok (.getfield 22, 3) := by decide +kernel
theorem dX1_note_4 : decode cX1_note 4 = .ok (.bipush 6, 2) := by decide +kernel
theorem dX1_note_6 : decode cX1_note 6 = .ok (.if_icmp .lt 7, 3) := by decide +kernel
theorem dX1_note_9 : decode cX1_note 9 = .ok (.aload_n 0, 1) := by decide +kernel
theorem dX1_note_10 : decode cX1_note 10 = .ok (.invokevirtual 26, 3) := by decide +kernel
theorem dX1_note_13 : decode cX1_note 13 = .ok (.aload_n 0, 1) := by decide +kernel
theorem dX1_note_14 : decode cX1_note 14 = .ok (.getfield 9, 3) := by decide +kernel
theorem dX1_note_17 : decode cX1_note 17 = .ok (.aload_n 0, 1) := by decide +kernel
theorem dX1_note_18 : decode cX1_note 18 = .ok (.getfield 22, 3) := by decide +kernel
theorem dX1_note_21 : decode cX1_note 21 = .ok (.iload_n 1, 1) := by decide +kernel
theorem dX1_note_22 : decode cX1_note 22 = .ok (.iastore, 1) := by decide +kernel
theorem dX1_note_23 : decode cX1_note 23 = .ok (.aload_n 0, 1) := by decide +kernel
theorem dX1_note_24 : decode cX1_note 24 = .ok (.getfield 13, 3) := by decide +kernel
theorem dX1_note_27 : decode cX1_note 27 = .ok (.aload_n 0, 1) := by decide +kernel
theorem dX1_note_28 : decode cX1_note 28 = .ok (.getfield 22, 3) := by decide +kernel
theorem dX1_note_31 : decode cX1_note 31 = .ok (.iload_n 2, 1) := by decide +kernel
theorem dX1_note_32 : decode cX1_note 32 = .ok (.iastore, 1) := by decide +kernel
theorem dX1_note_33 : decode cX1_note 33 = .ok (.aload_n 0, 1) := by decide +kernel
theorem dX1_note_34 : decode cX1_note 34 = .ok (.getfield 16, 3) := by decide +kernel
theorem dX1_note_37 : decode cX1_note 37 = .ok (.aload_n 0, 1) := by decide +kernel
theorem dX1_note_38 : decode cX1_note 38 = .ok (.getfield 22, 3) := by decide +kernel
theorem dX1_note_41 : decode cX1_note 41 = .ok (.iload_n 3, 1) := by decide +kernel
theorem dX1_note_42 : decode cX1_note 42 = .ok (.iastore, 1) := by decide +kernel
theorem dX1_note_43 : decode cX1_note 43 = .ok (.aload_n 0, 1) := by decide +kernel
theorem dX1_note_44 : decode cX1_note 44 = .ok (.getfield 19, 3) := by decide +kernel
theorem dX1_note_47 : decode cX1_note 47 = .ok (.aload_n 0, 1) := by decide +kernel
theorem dX1_note_48 : decode cX1_note 48 = .ok (.getfield 22, 3) := by decide +kernel
theorem dX1_note_51 : decode cX1_note 51 = .ok (.iload 4, 2) := by decide +kernel
theorem dX1_note_53 : decode cX1_note 53 = .ok (.iastore, 1) := by decide +kernel
theorem dX1_note_54 : decode cX1_note 54 = .ok (.aload_n 0, 1) := by decide +kernel
theorem dX1_note_55 : decode cX1_note 55 = .ok (.dup, 1) := by decide +kernel
theorem dX1_note_56 : decode cX1_note 56 = .ok (.getfield 22, 3) := by decide +kernel
theorem dX1_note_59 : decode cX1_note 59 = .ok (.iconst 1, 1) := by decide +kernel
theorem dX1_note_60 : decode cX1_note 60 = .ok (.iadd, 1) := by decide +kernel
theorem dX1_note_61 : decode cX1_note 61 = .ok (.putfield 22, 3) := by decide +kernel
theorem dX1_note_64 : decode cX1_note 64 = .ok (.return_, 1) := by decide +kernel
theorem dX1_forgetEarliest_0 : decode cX1_forgetEarliest 0 = .ok (.iconst 1, 1) := by decide +kernel
theorem dX1_forgetEarliest_1 : decode cX1_forgetEarliest 1 = .ok (.istore_n 1, 1) := by decide +kernel
theorem dX1_forgetEarliest_2 : decode cX1_forgetEarliest 2 = .ok (.iload_n 1, 1) := by decide +kernel
theorem dX1_forgetEarliest_3 : decode cX1_forgetEarliest 3 = .ok (.aload_n 0, 1) := by decide +kernel
theorem dX1_forgetEarliest_4 : decode cX1_forgetEarliest 4 = .ok (.getfield 22, 3) := by decide +kernel
theorem dX1_forgetEarliest_7 : decode cX1_forgetEarliest 7 = .ok (.if_icmp .ge 65, 3) := by decide +kernel
theorem dX1_forgetEarliest_10 : decode cX1_forgetEarliest 10 = .ok (.aload_n 0, 1) := by decide +kernel
theorem dX1_forgetEarliest_11 : decode cX1_forgetEarliest 11 = .ok (.getfield 9, 3) := by decide +kernel
theorem dX1_forgetEarliest_14 : decode cX1_forgetEarliest 14 = .ok (.iload_n 1, 1) := by decide +kernel
theorem dX1_forgetEarliest_15 : decode cX1_forgetEarliest 15 = .ok (.iconst 1, 1) := by decide +kernel
theorem dX1_forgetEarliest_16 : decode cX1_forgetEarliest 16 = .ok (.isub, 1) := by decide +kernel
theorem dX1_forgetEarliest_17 : decode cX1_forgetEarliest 17 = .ok (.aload_n 0, 1) := by decide +kernel
theorem dX1_forgetEarliest_18 : decode cX1_forgetEarliest 18 = .ok (.getfield 9, 3) := by decide +kernel
theorem dX1_forgetEarliest_21 : decode cX1_forgetEarliest 21 = .ok (.iload_n 1, 1) := by decide +kernel
theorem dX1_forgetEarliest_22 : decode cX1_forgetEarliest 22 = .ok (.iaload, 1) := by decide +kernel
theorem dX1_forgetEarliest_23 : decode cX1_forgetEarliest 23 = .ok (.iastore, 1) := by decide +kernel
theorem dX1_forgetEarliest_24 : decode cX1_forgetEarliest 24 = .ok (.aload_n 0, 1) := by decide +kernel
theorem dX1_forgetEarliest_25 : decode cX1_forgetEarliest 25 = .ok (.getfield 13, 3) := by decide +kernel
theorem dX1_forgetEarliest_28 : decode cX1_forgetEarliest 28 = .ok (.iload_n 1, 1) := by decide +kernel
theorem dX1_forgetEarliest_29 : decode cX1_forgetEarliest 29 = .ok (.iconst 1, 1) := by decide +kernel
theorem dX1_forgetEarliest_30 : decode cX1_forgetEarliest 30 = .ok (.isub, 1) := by decide +kernel
theorem dX1_forgetEarliest_31 : decode cX1_forgetEarliest 31 = .ok (.aload_n 0, 1) := by decide +kernel
theorem dX1_forgetEarliest_32 : decode cX1_forgetEarliest 32 = .ok (.getfield 13, 3) := by decide +kernel
theorem dX1_forgetEarliest_35 : decode cX1_forgetEarliest 35 = .ok (.iload_n 1, 1) := by decide +kernel
theorem dX1_forgetEarliest_36 : decode cX1_forgetEarliest 36 = .ok (.iaload, 1) := by decide +kernel
theorem dX1_forgetEarliest_37 : decode cX1_forgetEarliest 37 = .ok (.iastore, 1) := by decide +kernel
theorem dX1_forgetEarliest_38 : decode cX1_forgetEarliest 38 = .ok (.aload_n 0, 1) := by decide +kernel
theorem dX1_forgetEarliest_39 : decode cX1_forgetEarliest 39 = .ok (.getfield 16, 3) := by decide +kernel
theorem dX1_forgetEarliest_42 : decode cX1_forgetEarliest 42 = .ok (.iload_n 1, 1) := by decide +kernel
theorem dX1_forgetEarliest_43 : decode cX1_forgetEarliest 43 = .ok (.iconst 1, 1) := by decide +kernel
theorem dX1_forgetEarliest_44 : decode cX1_forgetEarliest 44 = .ok (.isub, 1) := by decide +kernel
theorem dX1_forgetEarliest_45 : decode cX1_forgetEarliest 45 = .ok (.aload_n 0, 1) := by decide +kernel
theorem dX1_forgetEarliest_46 : decode cX1_forgetEarliest 46 = .ok (.getfield 16, 3) := by decide +kernel
theorem dX1_forgetEarliest_49 : decode cX1_forgetEarliest 49 = .ok (.iload_n 1, 1) := by decide +kernel
theorem dX1_forgetEarliest_50 : decode cX1_forgetEarliest 50 = .ok (.iaload, 1) := by decide +kernel
theorem dX1_forgetEarliest_51 : decode cX1_forgetEarliest 51 = .ok (.iastore, 1) := by decide +kernel
theorem dX1_forgetEarliest_52 : decode cX1_forgetEarliest 52 = .ok (.aload_n 0, 1) := by decide +kernel
theorem dX1_forgetEarliest_53 : decode cX1_forgetEarliest 53 = .ok (.getfield 19, 3) := by decide +kernel
theorem dX1_forgetEarliest_56 : decode cX1_forgetEarliest 56 = .ok (.iload_n 1, 1) := by decide +kernel
theorem dX1_forgetEarliest_57 : decode cX1_forgetEarliest 57 = .ok (.iconst 1, 1) := by decide +kernel
theorem dX1_forgetEarliest_58 : decode cX1_forgetEarliest 58 = .ok (.isub, 1) := by decide +kernel
theorem dX1_forgetEarliest_59 : decode cX1_forgetEarliest 59 = .ok (.aload_n 0, 1) := by decide +kernel
theorem dX1_forgetEarliest_60 : decode cX1_forgetEarliest 60 = .ok (.getfield 19, 3) := by decide +kernel
theorem dX1_forgetEarliest_63 : decode cX1_forgetEarliest 63 = .ok (.iload_n 1, 1) := by decide +kernel
theorem dX1_forgetEarliest_64 : decode cX1_forgetEarliest 64 = .ok (.iaload, 1) := by decide +kernel
theorem dX1_forgetEarliest_65 : decode cX1_forgetEarliest 65 = .ok (.iastore, 1) := by decide +kernel
theorem dX1_forgetEarliest_66 : decode cX1_forgetEarliest 66 = .ok (.iinc 1 1, 3) := by decide +kernel
theorem dX1_forgetEarliest_69 : decode cX1_forgetEarliest 69 = .ok (.goto (-67), 3) := by decide +kernel
theorem dX1_forgetEarliest_72 : decode cX1_forgetEarliest 72 = .ok (.aload_n 0, 1) := by decide +kernel
theorem dX1_forgetEarliest_73 : decode cX1_forgetEarliest 73 = .ok (.dup, 1) := by decide +kernel
theorem dX1_forgetEarliest_74 : decode cX1_forgetEarliest 74 = .ok (.getfield 22, 3) := by decide +kernel
theorem dX1_forgetEarliest_77 : decode cX1_forgetEarliest 77 = .ok (.iconst 1, 1) := by decide +kernel
theorem dX1_forgetEarliest_78 : decode cX1_forgetEarliest 78 = .ok (.isub, 1) := by decide +kernel
theorem dX1_forgetEarliest_79 : decode cX1_forgetEarliest 79 = .ok (.putfield 22, 3) := by decide +kernel
theorem dX1_forgetEarliest_82 : decode cX1_forgetEarliest 82 = .ok (.return_, 1) := by decide +kernel
theorem dX1_takeLatest_0 : decode cX1_takeLatest 0 = .ok (.aload_n 0, 1) := by decide +kernel
theorem dX1_takeLatest_1 : decode cX1_takeLatest 1 = .ok (.getfield 22, 3) := by decide +kernel
theorem dX1_takeLatest_4 : decode cX1_takeLatest 4 = .ok (.ifCond .le 13, 3) := by decide +kernel
theorem dX1_takeLatest_7 : decode cX1_takeLatest 7 = .ok (.aload_n 0, 1) := by decide +kernel
theorem dX1_takeLatest_8 : decode cX1_takeLatest 8 = .ok (.dup, 1) := by decide +kernel
theorem dX1_takeLatest_9 : decode cX1_takeLatest 9 = .ok (.getfield 22, 3) := by decide +kernel
theorem dX1_takeLatest_12 : decode cX1_takeLatest 12 = .ok (.iconst 1, 1) := by decide +kernel
theorem dX1_takeLatest_13 : decode cX1_takeLatest 13 = .ok (.isub, 1) := by decide +kernel
theorem dX1_takeLatest_14 : decode cX1_takeLatest 14 = .ok (.putfield 22, 3) := by decide +kernel
theorem dX1_takeLatest_17 : decode cX1_takeLatest 17 = .ok (.aload_n 0, 1) := by decide +kernel
theorem dX1_takeLatest_18 : decode cX1_takeLatest 18 = .ok (.getfield 22, 3) := by decide +kernel
theorem dX1_takeLatest_21 : decode cX1_takeLatest 21 = .ok (.ireturn, 1) := by decide +kernel
theorem dX2_init_0 : decode cX2_init 0 = .ok (.aload_n 0, 1) := by decide +kernel
theorem dX2_init_1 : decode cX2_init 1 = .ok (.invokespecial 3, 3) := by decide +kernel
theorem dX2_init_4 : decode cX2_init 4 = .ok (.return_, 1) := by decide +kernel
set_option maxRecDepth 20000 in
theorem ggX2_read_X2_nextPiece : GoodIn wsX2_read wsX2_nextPiece := goodIn_r _ [12, 1, 3, 7, 13, 14, 15, 16, 17, 18, 19, 20, 21, 22, 23, 24, 25, 26, 27, 28, 29, 30, 31, 105, 106, 107, 108, 109, 110, 111, 112] (by decide +kernel) (by decide +kernel)
set_option maxRecDepth 20000 in
theorem gX2_read_X2_nextPiece : GoodIn wsX2_read (wsV RX2 15 RX2 yX2_nextPiece wsX2_nextPiece) := goodIn_app (goodIn_of _ (by decide +kernel)) ggX2_read_X2_nextPiece
set_option maxRecDepth 20000 in
theorem ggX2_read_X2_kindRead : GoodIn wsX2_read wsX2_kindRead := goodIn_r _ [35, 3, 1, 36, 37, 38, 39, 40, 41, 16, 42, 19, 43, 44, 45, 46, 47, 48, 49, 50, 51, 52, 53, 54, 55, 56, 57, 58, 59, 60, 61, 62, 63, 64, 65, 66, 67, 68, 69, 70, 71, 72, 73, 74, 75, 76, 77, 78, 79, 80, 81, 82, 83, 84, 85, 86, 87, 88, 89, 90, 91, 105, 106, 107, 108, 109, 110, 111, 112] (by decide +kernel) (by decide +kernel)
set_option maxRecDepth 20000 in
theorem gX2_read_X2_kindRead : GoodIn wsX2_read (wsV RX2 19 RX2 yX2_kindRead wsX2_kindRead) := goodIn_app (goodIn_of _ (by decide +kernel)) ggX2_read_X2_kindRead
set_option maxRecDepth 20000 in
theorem ggX2_read_X2_sourceRead : GoodIn wsX2_read wsX2_sourceRead := goodIn_r _ [95, 3, 96, 1, 97, 25, 26, 16, 27, 18, 19, 98, 99, 100, 11, 101, 102, 29, 30, 31, 105, 106, 107, 108, 109, 110, 111, 112] (by decide +kernel) (by decide +kernel)
set_option maxRecDepth 20000 in
theorem gX2_read_X2_sourceRead : GoodIn wsX2_read (wsV RX2 29 RX2 yX2_sourceRead wsX2_sourceRead) := goodIn_app (goodIn_of _ (by decide +kernel)) ggX2_read_X2_sourceRead
set_option maxRecDepth 20000 in
theorem ggX2_read_X2_numberRead : GoodIn wsX2_read wsX2_numberRead := goodIn_r _ [101, 3, 1, 96, 102, 29, 30, 16, 31, 18, 19, 105, 106, 107, 108, 109, 110, 111, 112] (by decide +kernel) (by decide +kernel)
set_option maxRecDepth 20000 in
theorem gX2_read_X2_numberRead : GoodIn wsX2_read (wsV RX2 39 RX2 yX2_numberRead wsX2_numberRead) := goodIn_app (goodIn_of _ (by decide +kernel)) ggX2_read_X2_numberRead
set_option maxRecDepth 20000 in
theorem ggX2_read_X8_isWithin : GoodIn wsX2_read wsX8_isWithin := goodIn_r _ [104] (by decide +kernel) (by decide +kernel)
set_option maxRecDepth 20000 in
theorem gX2_read_X8_isWithin_n45 : GoodIn wsX2_read (wsX8_isWithin) := ggX2_read_X8_isWithin
theorem dX2_read_0 : decode cX2_read 0 = .ok (.aload_n 0, 1) := by decide +kernel
theorem dX2_read_1 : decode cX2_read 1 = .ok (.iconst 0, 1) := by decide +kernel
theorem dX2_read_2 : decode cX2_read 2 = .ok (.putfield 9, 3) := by decide +kernel
theorem dX2_read_5 : decode cX2_read 5 = .ok (.aload_n 0, 1) := by decide +kernel
theorem dX2_read_6 : decode cX2_read 6 = .ok (.aload_n 1, 1) := by decide +kernel
theorem dX2_read_7 : decode cX2_read 7 = .ok (.invokevirtual 15, 3) := by decide +kernel
theorem dX2_read_10 : decode cX2_read 10 = .ok (.aload_n 0, 1) := by decide +kernel
theorem dX2_read_11 : decode cX2_read 11 = .ok (.aload_n 0, 1) := by decide +kernel
theorem dX2_read_12 : decode cX2_read 12 = .ok (.aload_n 1, 1) := by decide +kernel
theorem dX2_read_13 : decode cX2_read 13 = .ok (.invokevirtual 19, 3) := by decide +kernel
theorem dX2_read_16 : decode cX2_read 16 = .ok (.putfield 23, 3) := by decide +kernel
theorem dX2_read_19 : decode cX2_read 19 = .ok (.aload_n 0, 1) := by decide +kernel
theorem dX2_read_20 : decode cX2_read 20 = .ok (.getfield 23, 3) := by decide +kernel
theorem dX2_read_23 : decode cX2_read 23 = .ok (.iconst (-1), 1) := by decide +kernel
theorem dX2_read_24 : decode cX2_read 24 = .ok (.if_icmp .ne 8, 3) := by decide +kernel
theorem dX2_read_27 : decode cX2_read 27 = .ok (.aload_n 0, 1) := by decide +kernel
theorem dX2_read_28 : decode cX2_read 28 = .ok (.getfield 26, 3) := by decide +kernel
theorem dX2_read_31 : decode cX2_read 31 = .ok (.ireturn, 1) := by decide +kernel
theorem dX2_read_32 : decode cX2_read 32 = .ok (.aload_n 0, 1) := by decide +kernel
theorem dX2_read_33 : decode cX2_read 33 = .ok (.aload_n 1, 1) := by decide +kernel
theorem dX2_read_34 : decode cX2_read 34 = .ok (.invokevirtual 15, 3) := by decide +kernel
theorem dX2_read_37 : decode cX2_read 37 = .ok (.aload_n 0, 1) := by decide +kernel
theorem dX2_read_38 : decode cX2_read 38 = .ok (.aload_n 0, 1) := by decide +kernel
theorem dX2_read_39 : decode cX2_read 39 = .ok (.aload_n 1, 1) := by decide +kernel
theorem dX2_read_40 : decode cX2_read 40 = .ok (.iload_n 2, 1) := by decide +kernel
theorem dX2_read_41 : decode cX2_read 41 = .ok (.invokevirtual 29, 3) := by decide +kernel
theorem dX2_read_44 : decode cX2_read 44 = .ok (.putfield 33, 3) := by decide +kernel
theorem dX2_read_47 : decode cX2_read 47 = .ok (.aload_n 0, 1) := by decide +kernel
theorem dX2_read_48 : decode cX2_read 48 = .ok (.getfield 33, 3) := by decide +kernel
theorem dX2_read_51 : decode cX2_read 51 = .ok (.bipush (-5), 2) := by decide +kernel
theorem dX2_read_53 : decode cX2_read 53 = .ok (.if_icmp .ne 8, 3) := by decide +kernel
theorem dX2_read_56 : decode cX2_read 56 = .ok (.aload_n 0, 1) := by decide +kernel
theorem dX2_read_57 : decode cX2_read 57 = .ok (.getfield 26, 3) := by decide +kernel
theorem dX2_read_60 : decode cX2_read 60 = .ok (.ireturn, 1) := by decide +kernel
theorem dX2_read_61 : decode cX2_read 61 = .ok (.aload_n 0, 1) := by decide +kernel
theorem dX2_read_62 : decode cX2_read 62 = .ok (.aload_n 0, 1) := by decide +kernel
theorem dX2_read_63 : decode cX2_read 63 = .ok (.getfield 33, 3) := by decide +kernel
theorem dX2_read_66 : decode cX2_read 66 = .ok (.putfield 36, 3) := by decide +kernel
theorem dX2_read_69 : decode cX2_read 69 = .ok (.aload_n 0, 1) := by decide +kernel
theorem dX2_read_70 : decode cX2_read 70 = .ok (.getfield 23, 3) := by decide +kernel
theorem dX2_read_73 : decode cX2_read 73 = .ok (.iconst 5, 1) := by decide +kernel
theorem dX2_read_74 : decode cX2_read 74 = .ok (.if_icmp .eq 32, 3) := by decide +kernel
theorem dX2_read_77 : decode cX2_read 77 = .ok (.aload_n 0, 1) := by decide +kernel
theorem dX2_read_78 : decode cX2_read 78 = .ok (.aload_n 1, 1) := by decide +kernel
theorem dX2_read_79 : decode cX2_read 79 = .ok (.invokevirtual 15, 3) := by decide +kernel
theorem dX2_read_82 : decode cX2_read 82 = .ok (.aload_n 0, 1) := by decide +kernel
theorem dX2_read_83 : decode cX2_read 83 = .ok (.aload_n 0, 1) := by decide +kernel
theorem dX2_read_84 : decode cX2_read 84 = .ok (.aload_n 1, 1) := by decide +kernel
theorem dX2_read_85 : decode cX2_read 85 = .ok (.iload_n 2, 1) := by decide +kernel
theorem dX2_read_86 : decode cX2_read 86 = .ok (.invokevirtual 29, 3) := by decide +kernel
theorem dX2_read_89 : decode cX2_read 89 = .ok (.putfield 36, 3) := by decide +kernel
theorem dX2_read_92 : decode cX2_read 92 = .ok (.aload_n 0, 1) := by decide +kernel
theorem dX2_read_93 : decode cX2_read 93 = .ok (.getfield 36, 3) := by decide +kernel
theorem dX2_read_96 : decode cX2_read 96 = .ok (.bipush (-5), 2) := by decide +kernel
theorem dX2_read_98 : decode cX2_read 98 = .ok (.if_icmp .ne 8, 3) := by decide +kernel
theorem dX2_read_101 : decode cX2_read 101 = .ok (.aload_n 0, 1) := by decide +kernel
theorem dX2_read_102 : decode cX2_read 102 = .ok (.getfield 26, 3) := by decide +kernel
theorem dX2_read_105 : decode cX2_read 105 = .ok (.ireturn, 1) := by decide +kernel
theorem dX2_read_106 : decode cX2_read 106 = .ok (.aload_n 0, 1) := by decide +kernel
theorem dX2_read_107 : decode cX2_read 107 = .ok (.aload_n 1, 1) := by decide +kernel
theorem dX2_read_108 : decode cX2_read 108 = .ok (.invokevirtual 15, 3) := by decide +kernel
theorem dX2_read_111 : decode cX2_read 111 = .ok (.aload_n 0, 1) := by decide +kernel
theorem dX2_read_112 : decode cX2_read 112 = .ok (.aload_n 0, 1) := by decide +kernel
theorem dX2_read_113 : decode cX2_read 113 = .ok (.aload_n 1, 1) := by decide +kernel
theorem dX2_read_114 : decode cX2_read 114 = .ok (.invokevirtual 39, 3) := by decide +kernel
theorem dX2_read_117 : decode cX2_read 117 = .ok (.putfield 42, 3) := by decide +kernel
theorem dX2_read_120 : decode cX2_read 120 = .ok (.aload_n 0, 1) := by decide +kernel
theorem dX2_read_121 : decode cX2_read 121 = .ok (.getfield 42, 3) := by decide +kernel
theorem dX2_read_124 : decode cX2_read 124 = .ok (.iconst 1, 1) := by decide +kernel
theorem dX2_read_125 : decode cX2_read 125 = .ok (.bipush 9, 2) := by decide +kernel
theorem dX2_read_127 : decode cX2_read 127 = .ok (.invokestatic 45, 3) := by decide +kernel
theorem dX2_read_130 : decode cX2_read 130 = .ok (.ifCond .ne 8, 3) := by decide +kernel
theorem dX2_read_133 : decode cX2_read 133 = .ok (.aload_n 0, 1) := by decide +kernel
theorem dX2_read_134 : decode cX2_read 134 = .ok (.getfield 26, 3) := by decide +kernel
theorem dX2_read_137 : decode cX2_read 137 = .ok (.ireturn, 1) := by decide +kernel
theorem dX2_read_138 : decode cX2_read 138 = .ok (.aload_n 0, 1) := by decide +kernel
theorem dX2_read_139 : decode cX2_read 139 = .ok (.aload_n 1, 1) := by decide +kernel
theorem dX2_read_140 : decode cX2_read 140 = .ok (.invokevirtual 15, 3) := by decide +kernel
theorem dX2_read_143 : decode cX2_read 143 = .ok (.aload_n 0, 1) := by decide +kernel
theorem dX2_read_144 : decode cX2_read 144 = .ok (.getfield 26, 3) := by decide +kernel
theorem dX2_read_147 : decode cX2_read 147 = .ok (.aload_n 1, 1) := by decide +kernel
theorem dX2_read_148 : decode cX2_read 148 = .ok (.getfield 49, 3) := by decide +kernel
theorem dX2_read_151 : decode cX2_read 151 = .ok (.if_icmp .ge 10, 3) := by decide +kernel
theorem dX2_read_154 : decode cX2_read 154 = .ok (.aload_n 0, 1) := by decide +kernel
theorem dX2_read_155 : decode cX2_read 155 = .ok (.getfield 26, 3) := by decide +kernel
theorem dX2_read_158 : decode cX2_read 158 = .ok (.goto 4, 3) := by decide +kernel
theorem dX2_read_161 : decode cX2_read 161 = .ok (.iconst (-1), 1) := by decide +kernel
theorem dX2_read_162 : decode cX2_read 162 = .ok (.ireturn, 1) := by decide +kernel
set_option maxRecDepth 20000 in
theorem ggX2_nextPiece_X6_hasBlank : GoodIn wsX2_nextPiece wsX6_hasBlank := goodIn_r _ [8, 9, 10, 29, 30] (by decide +kernel) (by decide +kernel)
set_option maxRecDepth 20000 in
theorem gX2_nextPiece_X6_hasBlank : GoodIn wsX2_nextPiece (wsV RX2 54 RX6 yX6_hasBlank wsX6_hasBlank) := goodIn_app (goodIn_of _ (by decide +kernel)) ggX2_nextPiece_X6_hasBlank
set_option maxRecDepth 20000 in
theorem ggX2_nextPiece_X6_endOfPiece : GoodIn wsX2_nextPiece wsX6_endOfPiece := goodIn_r _ [14, 9, 15, 16, 17, 7, 18, 10, 19, 20, 21, 22, 29, 30] (by decide +kernel) (by decide +kernel)
set_option maxRecDepth 20000 in
theorem gX2_nextPiece_X6_endOfPiece : GoodIn wsX2_nextPiece (wsV RX2 58 RX6 yX6_endOfPiece wsX6_endOfPiece) := goodIn_app (goodIn_of _ (by decide +kernel)) ggX2_nextPiece_X6_endOfPiece
theorem dX2_nextPiece_0 : decode cX2_nextPiece 0 = .ok (.aload_n 0, 1) := by decide +kernel
theorem dX2_nextPiece_1 : decode cX2_nextPiece 1 = .ok (.aload_n 0, 1) := by decide +kernel
theorem dX2_nextPiece_2 : decode cX2_nextPiece 2 = .ok (.getfield 9, 3) := by decide +kernel
theorem dX2_nextPiece_5 : decode cX2_nextPiece 5 = .ok (.putfield 26, 3) := by decide +kernel
theorem dX2_nextPiece_8 : decode cX2_nextPiece 8 = .ok (.aload_n 0, 1) := by decide +kernel
theorem dX2_nextPiece_9 : decode cX2_nextPiece 9 = .ok (.getfield 26, 3) := by decide +kernel
theorem dX2_nextPiece_12 : decode cX2_nextPiece 12 = .ok (.aload_n 1, 1) := by decide +kernel
theorem dX2_nextPiece_13 : decode cX2_nextPiece 13 = .ok (.getfield 49, 3) := by decide +kernel
theorem dX2_nextPiece_16 : decode cX2_nextPiece 16 = .ok (.if_icmp .ge 27, 3) := by decide +kernel
theorem dX2_nextPiece_19 : decode cX2_nextPiece 19 = .ok (.aload_n 1, 1) := by decide +kernel
theorem dX2_nextPiece_20 : decode cX2_nextPiece 20 = .ok (.aload_n 0, 1) := by decide +kernel
theorem dX2_nextPiece_21 : decode cX2_nextPiece 21 = .ok (.getfield 26, 3) := by decide +kernel
theorem dX2_nextPiece_24 : decode cX2_nextPiece 24 = .ok (.invokevirtual 54, 3) := by decide +kernel
theorem dX2_nextPiece_27 : decode cX2_nextPiece 27 = .ok (.ifCond .eq 16, 3) := by decide +kernel
theorem dX2_nextPiece_30 : decode cX2_nextPiece 30 = .ok (.aload_n 0, 1) := by decide +kernel
theorem dX2_nextPiece_31 : decode cX2_nextPiece 31 = .ok (.dup, 1) := by decide +kernel
theorem dX2_nextPiece_32 : decode cX2_nextPiece 32 = .ok (.getfield 26, 3) := by decide +kernel
theorem dX2_nextPiece_35 : decode cX2_nextPiece 35 = .ok (.iconst 1, 1) := by decide +kernel
theorem dX2_nextPiece_36 : decode cX2_nextPiece 36 = .ok (.iadd, 1) := by decide +kernel
theorem dX2_nextPiece_37 : decode cX2_nextPiece 37 = .ok (.putfield 26, 3) := by decide +kernel
theorem dX2_nextPiece_40 : decode cX2_nextPiece 40 = .ok (.goto (-32), 3) := by decide +kernel
theorem dX2_nextPiece_43 : decode cX2_nextPiece 43 = .ok (.aload_n 0, 1) := by decide +kernel
theorem dX2_nextPiece_44 : decode cX2_nextPiece 44 = .ok (.aload_n 1, 1) := by decide +kernel
theorem dX2_nextPiece_45 : decode cX2_nextPiece 45 = .ok (.aload_n 0, 1) := by decide +kernel
theorem dX2_nextPiece_46 : decode cX2_nextPiece 46 = .ok (.getfield 26, 3) := by decide +kernel
theorem dX2_nextPiece_49 : decode cX2_nextPiece 49 = .ok (.invokevirtual 58, 3) := by decide +kernel
theorem dX2_nextPiece_52 : decode cX2_nextPiece 52 = .ok (.putfield 9, 3) := by decide +kernel
theorem dX2_nextPiece_55 : decode cX2_nextPiece 55 = .ok (.return_, 1) := by decide +kernel
set_option maxRecDepth 20000 in
theorem ggX2_kindRead_X8_wordOf : GoodIn wsX2_kindRead wsX8_wordOf := goodIn_r _ [5] (by decide +kernel) (by decide +kernel)
set_option maxRecDepth 20000 in
theorem gX2_kindRead_X8_wordOf_n62 : GoodIn wsX2_kindRead (wsX8_wordOf) := ggX2_kindRead_X8_wordOf
set_option maxRecDepth 20000 in
theorem ggX2_kindRead_X6_spells : GoodIn wsX2_kindRead wsX6_spells := goodIn_r _ [10, 11, 12, 13, 14, 15, 16, 17, 18, 19, 20, 21, 22, 23, 24, 25, 26, 27, 28, 29, 30, 31, 32, 33, 34, 35, 36, 37, 38, 39, 40, 41, 42, 43, 44, 45, 46, 47, 48, 49, 50, 51, 52, 53, 54, 55, 56, 57, 58, 59, 60, 67, 68] (by decide +kernel) (by decide +kernel)
set_option maxRecDepth 20000 in
theorem gX2_kindRead_X6_spells : GoodIn wsX2_kindRead (wsV RX2 66 RX6 yX6_spells wsX6_spells) := goodIn_app (goodIn_of _ (by decide +kernel)) ggX2_kindRead_X6_spells
theorem dX2_kindRead_0 : decode cX2_kindRead 0 = .ok (.iconst 0, 1) := by decide +kernel
theorem dX2_kindRead_1 : decode cX2_kindRead 1 = .ok (.istore_n 2, 1) := by decide +kernel
theorem dX2_kindRead_2 : decode cX2_kindRead 2 = .ok (.iload_n 2, 1) := by decide +kernel
theorem dX2_kindRead_3 : decode cX2_kindRead 3 = .ok (.bipush 6, 2) := by decide +kernel
theorem dX2_kindRead_5 : decode cX2_kindRead 5 = .ok (.if_icmp .ge 30, 3) := by decide +kernel
theorem dX2_kindRead_8 : decode cX2_kindRead 8 = .ok (.aload_n 1, 1) := by decide +kernel
theorem dX2_kindRead_9 : decode cX2_kindRead 9 = .ok (.aload_n 0, 1) := by decide +kernel
theorem dX2_kindRead_10 : decode cX2_kindRead 10 = .ok (.getfield 26, 3) := by decide +kernel
theorem dX2_kindRead_13 : decode cX2_kindRead 13 = .ok (.aload_n 0, 1) := by decide +kernel
theorem dX2_kindRead_14 : decode cX2_kindRead 14 = .ok (.getfield 9, 3) := by decide +kernel
theorem dX2_kindRead_17 : decode cX2_kindRead 17 = .ok (.iload_n 2, 1) := by decide +kernel
theorem dX2_kindRead_18 : decode cX2_kindRead 18 = .ok (.invokestatic 62, 3) := by decide +kernel
theorem dX2_kindRead_21 : decode cX2_kindRead 21 = .ok (.invokevirtual 66, 3) := by decide +kernel
theorem dX2_kindRead_24 : decode cX2_kindRead 24 = .ok (.ifCond .eq 5, 3) := by decide +kernel
theorem dX2_kindRead_27 : decode cX2_kindRead 27 = .ok (.iload_n 2, 1) := by decide +kernel
theorem dX2_kindRead_28 : decode cX2_kindRead 28 = .ok (.ireturn, 1) := by decide +kernel
theorem dX2_kindRead_29 : decode cX2_kindRead 29 = .ok (.iinc 2 1, 3) := by decide +kernel
theorem dX2_kindRead_32 : decode cX2_kindRead 32 = .ok (.goto (-30), 3) := by decide +kernel
theorem dX2_kindRead_35 : decode cX2_kindRead 35 = .ok (.iconst (-1), 1) := by decide +kernel
theorem dX2_kindRead_36 : decode cX2_kindRead 36 = .ok (.ireturn, 1) := by decide +kernel
set_option maxRecDepth 20000 in
theorem ggX2_sourceRead_X6_hasLetter : GoodIn wsX2_sourceRead wsX6_hasLetter := goodIn_r _ [8, 9, 10, 26, 27] (by decide +kernel) (by decide +kernel)
set_option maxRecDepth 20000 in
theorem gX2_sourceRead_X6_hasLetter : GoodIn wsX2_sourceRead (wsV RX2 70 RX6 yX6_hasLetter wsX6_hasLetter) := goodIn_app (goodIn_of _ (by decide +kernel)) ggX2_sourceRead_X6_hasLetter
set_option maxRecDepth 20000 in
theorem ggX2_sourceRead_X2_numberRead : GoodIn wsX2_sourceRead wsX2_numberRead := goodIn_r _ [15, 1, 3, 2, 16, 17, 18, 7, 19, 9, 10, 20, 21, 22, 23, 24, 25, 26, 27] (by decide +kernel) (by decide +kernel)
set_option maxRecDepth 20000 in
theorem gX2_sourceRead_X2_numberRead : GoodIn wsX2_sourceRead (wsV RX2 39 RX2 yX2_numberRead wsX2_numberRead) := goodIn_app (goodIn_of _ (by decide +kernel)) ggX2_sourceRead_X2_numberRead
theorem dX2_sourceRead_0 : decode cX2_sourceRead 0 = .ok (.aload_n 1, 1) := by decide +kernel
theorem dX2_sourceRead_1 : decode cX2_sourceRead 1 = .ok (.aload_n 0, 1) := by decide +kernel
theorem dX2_sourceRead_2 : decode cX2_sourceRead 2 = .ok (.getfield 26, 3) := by decide +kernel
theorem dX2_sourceRead_5 : decode cX2_sourceRead 5 = .ok (.invokevirtual 70, 3) := by decide +kernel
theorem dX2_sourceRead_8 : decode cX2_sourceRead 8 = .ok (.ifCond .eq 43, 3) := by decide +kernel
theorem dX2_sourceRead_11 : decode cX2_sourceRead 11 = .ok (.aload_n 1, 1) := by decide +kernel
theorem dX2_sourceRead_12 : decode cX2_sourceRead 12 = .ok (.getfield 73, 3) := by decide +kernel
theorem dX2_sourceRead_15 : decode cX2_sourceRead 15 = .ok (.aload_n 0, 1) := by decide +kernel
theorem dX2_sourceRead_16 : decode cX2_sourceRead 16 = .ok (.getfield 26, 3) := by decide +kernel
theorem dX2_sourceRead_19 : decode cX2_sourceRead 19 = .ok (.iaload, 1) := by decide +kernel
theorem dX2_sourceRead_20 : decode cX2_sourceRead 20 = .ok (.bipush 97, 2) := by decide +kernel
theorem dX2_sourceRead_22 : decode cX2_sourceRead 22 = .ok (.isub, 1) := by decide +kernel
theorem dX2_sourceRead_23 : decode cX2_sourceRead 23 = .ok (.istore_n 3, 1) := by decide +kernel
theorem dX2_sourceRead_24 : decode cX2_sourceRead 24 = .ok (.aload_n 0, 1) := by decide +kernel
theorem dX2_sourceRead_25 : decode cX2_sourceRead 25 = .ok (.getfield 9, 3) := by decide +kernel
theorem dX2_sourceRead_28 : decode cX2_sourceRead 28 = .ok (.aload_n 0, 1) := by decide +kernel
theorem dX2_sourceRead_29 : decode cX2_sourceRead 29 = .ok (.getfield 26, 3) := by decide +kernel
theorem dX2_sourceRead_32 : decode cX2_sourceRead 32 = .ok (.isub, 1) := by decide +kernel
theorem dX2_sourceRead_33 : decode cX2_sourceRead 33 = .ok (.iconst 1, 1) := by decide +kernel
theorem dX2_sourceRead_34 : decode cX2_sourceRead 34 = .ok (.if_icmp .ne 14, 3) := by decide +kernel
theorem dX2_sourceRead_37 : decode cX2_sourceRead 37 = .ok (.iload_n 3, 1) := by decide +kernel
theorem dX2_sourceRead_38 : decode cX2_sourceRead 38 = .ok (.iconst 4, 1) := by decide +kernel
theorem dX2_sourceRead_39 : decode cX2_sourceRead 39 = .ok (.if_icmp .ge 9, 3) := by decide +kernel
theorem dX2_sourceRead_42 : decode cX2_sourceRead 42 = .ok (.iconst (-1), 1) := by decide +kernel
theorem dX2_sourceRead_43 : decode cX2_sourceRead 43 = .ok (.iload_n 3, 1) := by decide +kernel
theorem dX2_sourceRead_44 : decode cX2_sourceRead 44 = .ok (.isub, 1) := by decide +kernel
theorem dX2_sourceRead_45 : decode cX2_sourceRead 45 = .ok (.goto 5, 3) := by decide +kernel
theorem dX2_sourceRead_48 : decode cX2_sourceRead 48 = .ok (.bipush (-5), 2) := by decide +kernel
theorem dX2_sourceRead_50 : decode cX2_sourceRead 50 = .ok (.ireturn, 1) := by decide +kernel
theorem dX2_sourceRead_51 : decode cX2_sourceRead 51 = .ok (.aload_n 0, 1) := by decide +kernel
theorem dX2_sourceRead_52 : decode cX2_sourceRead 52 = .ok (.aload_n 1, 1) := by decide +kernel
theorem dX2_sourceRead_53 : decode cX2_sourceRead 53 = .ok (.invokevirtual 39, 3) := by decide +kernel
theorem dX2_sourceRead_56 : decode cX2_sourceRead 56 = .ok (.istore_n 3, 1) := by decide +kernel
theorem dX2_sourceRead_57 : decode cX2_sourceRead 57 = .ok (.iload_n 3, 1) := by decide +kernel
theorem dX2_sourceRead_58 : decode cX2_sourceRead 58 = .ok (.iconst (-1), 1) := by decide +kernel
theorem dX2_sourceRead_59 : decode cX2_sourceRead 59 = .ok (.if_icmp .eq 12, 3) := by decide +kernel
theorem dX2_sourceRead_62 : decode cX2_sourceRead 62 = .ok (.iload_n 3, 1) := by decide +kernel
theorem dX2_sourceRead_63 : decode cX2_sourceRead 63 = .ok (.iload_n 2, 1) := by decide +kernel
theorem dX2_sourceRead_64 : decode cX2_sourceRead 64 = .ok (.if_icmp .ge 7, 3) := by decide +kernel
theorem dX2_sourceRead_67 : decode cX2_sourceRead 67 = .ok (.iload_n 3, 1) := by decide +kernel
theorem dX2_sourceRead_68 : decode cX2_sourceRead 68 = .ok (.goto 5, 3) := by decide +kernel
theorem dX2_sourceRead_71 : decode cX2_sourceRead 71 = .ok (.bipush (-5), 2) := by decide +kernel
theorem dX2_sourceRead_73 : decode cX2_sourceRead 73 = .ok (.ireturn, 1) := by decide +kernel
set_option maxRecDepth 20000 in
theorem ggX2_numberRead_X6_hasDigit : GoodIn wsX2_numberRead wsX6_hasDigit := goodIn_r _ [8, 9, 10, 17, 18] (by decide +kernel) (by decide +kernel)
set_option maxRecDepth 20000 in
theorem gX2_numberRead_X6_hasDigit : GoodIn wsX2_numberRead (wsV RX2 77 RX6 yX6_hasDigit wsX6_hasDigit) := goodIn_app (goodIn_of _ (by decide +kernel)) ggX2_numberRead_X6_hasDigit
theorem dX2_numberRead_0 : decode cX2_numberRead 0 = .ok (.aload_n 1, 1) := by decide +kernel
theorem dX2_numberRead_1 : decode cX2_numberRead 1 = .ok (.aload_n 0, 1) := by decide +kernel
theorem dX2_numberRead_2 : decode cX2_numberRead 2 = .ok (.getfield 26, 3) := by decide +kernel
theorem dX2_numberRead_5 : decode cX2_numberRead 5 = .ok (.invokevirtual 77, 3) := by decide +kernel
theorem dX2_numberRead_8 : decode cX2_numberRead 8 = .ok (.ifCond .eq 16, 3) := by decide +kernel
theorem dX2_numberRead_11 : decode cX2_numberRead 11 = .ok (.aload_n 0, 1) := by decide +kernel
theorem dX2_numberRead_12 : decode cX2_numberRead 12 = .ok (.getfield 9, 3) := by decide +kernel
theorem dX2_numberRead_15 : decode cX2_numberRead 15 = .ok (.aload_n 0, 1) := by decide +kernel
theorem dX2_numberRead_16 : decode cX2_numberRead 16 = .ok (.getfield 26, 3) := by decide +kernel
theorem dX2_numberRead_19 : decode cX2_numberRead 19 = .ok (.isub, 1) := by decide +kernel
theorem dX2_numberRead_20 : decode cX2_numberRead 20 = .ok (.iconst 2, 1) := by decide +kernel
theorem dX2_numberRead_21 : decode cX2_numberRead 21 = .ok (.if_icmp .le 5, 3) := by decide +kernel
theorem dX2_numberRead_24 : decode cX2_numberRead 24 = .ok (.iconst (-1), 1) := by decide +kernel
theorem dX2_numberRead_25 : decode cX2_numberRead 25 = .ok (.ireturn, 1) := by decide +kernel
theorem dX2_numberRead_26 : decode cX2_numberRead 26 = .ok (.iconst 0, 1) := by decide +kernel
theorem dX2_numberRead_27 : decode cX2_numberRead 27 = .ok (.istore_n 2, 1) := by decide +kernel
theorem dX2_numberRead_28 : decode cX2_numberRead 28 = .ok (.aload_n 0, 1) := by decide +kernel
theorem dX2_numberRead_29 : decode cX2_numberRead 29 = .ok (.getfield 26, 3) := by decide +kernel
theorem dX2_numberRead_32 : decode cX2_numberRead 32 = .ok (.istore_n 3, 1) := by decide +kernel
theorem dX2_numberRead_33 : decode cX2_numberRead 33 = .ok (.iload_n 3, 1) := by decide +kernel
theorem dX2_numberRead_34 : decode cX2_numberRead 34 = .ok (.aload_n 0, 1) := by decide +kernel
theorem dX2_numberRead_35 : decode cX2_numberRead 35 = .ok (.getfield 9, 3) := by decide +kernel
theorem dX2_numberRead_38 : decode cX2_numberRead 38 = .ok (.if_icmp .ge 32, 3) := by decide +kernel
theorem dX2_numberRead_41 : decode cX2_numberRead 41 = .ok (.aload_n 1, 1) := by decide +kernel
theorem dX2_numberRead_42 : decode cX2_numberRead 42 = .ok (.iload_n 3, 1) := by decide +kernel
theorem dX2_numberRead_43 : decode cX2_numberRead 43 = .ok (.invokevirtual 77, 3) := by decide +kernel
theorem dX2_numberRead_46 : decode cX2_numberRead 46 = .ok (.ifCond .eq 24, 3) := by decide +kernel
theorem dX2_numberRead_49 : decode cX2_numberRead 49 = .ok (.bipush 10, 2) := by decide +kernel
theorem dX2_numberRead_51 : decode cX2_numberRead 51 = .ok (.iload_n 2, 1) := by decide +kernel
theorem dX2_numberRead_52 : decode cX2_numberRead 52 = .ok (.imul, 1) := by decide +kernel
theorem dX2_numberRead_53 : decode cX2_numberRead 53 = .ok (.aload_n 1, 1) := by decide +kernel
theorem dX2_numberRead_54 : decode cX2_numberRead 54 = .ok (.getfield 73, 3) := by decide +kernel
theorem dX2_numberRead_57 : decode cX2_numberRead 57 = .ok (.iload_n 3, 1) := by decide +kernel
theorem dX2_numberRead_58 : decode cX2_numberRead 58 = .ok (.iaload, 1) := by decide +kernel
theorem dX2_numberRead_59 : decode cX2_numberRead 59 = .ok (.iadd, 1) := by decide +kernel
theorem dX2_numberRead_60 : decode cX2_numberRead 60 = .ok (.bipush 48, 2) := by decide +kernel
theorem dX2_numberRead_62 : decode cX2_numberRead 62 = .ok (.isub, 1) := by decide +kernel
theorem dX2_numberRead_63 : decode cX2_numberRead 63 = .ok (.istore_n 2, 1) := by decide +kernel
theorem dX2_numberRead_64 : decode cX2_numberRead 64 = .ok (.iinc 3 1, 3) := by decide +kernel
theorem dX2_numberRead_67 : decode cX2_numberRead 67 = .ok (.goto (-34), 3) := by decide +kernel
theorem dX2_numberRead_70 : decode cX2_numberRead 70 = .ok (.iload_n 2, 1) := by decide +kernel
theorem dX2_numberRead_71 : decode cX2_numberRead 71 = .ok (.ireturn, 1) := by decide +kernel
theorem dX3_init_0 : decode cX3_init 0 = .ok (.aload_n 0, 1) := by decide +kernel
theorem dX3_init_1 : decode cX3_init 1 = .ok (.invokespecial 5, 3) := by decide +kernel
theorem dX3_init_4 : decode cX3_init 4 = .ok (.aload_n 0, 1) := by decide +kernel
theorem dX3_init_5 : decode cX3_init 5 = .ok (.bipush 12, 2) := by decide +kernel
theorem dX3_init_7 : decode cX3_init 7 = .ok (.newarray .int, 2) := by decide +kernel
theorem dX3_init_9 : decode cX3_init 9 = .ok (.putfield 11, 3) := by decide +kernel
theorem dX3_init_12 : decode cX3_init 12 = .ok (.aload_n 0, 1) := by decide +kernel
theorem dX3_init_13 : decode cX3_init 13 = .ok (.bipush 12, 2) := by decide +kernel
theorem dX3_init_15 : decode cX3_init 15 = .ok (.newarray .int, 2) := by decide +kernel
theorem dX3_init_17 : decode cX3_init 17 = .ok (.putfield 15, 3) := by decide +kernel
theorem dX3_init_20 : decode cX3_init 20 = .ok (.aload_n 0, 1) := by decide +kernel
theorem dX3_init_21 : decode cX3_init 21 = .ok (.bipush 12, 2) := by decide +kernel
theorem dX3_init_23 : decode cX3_init 23 = .ok (.newarray .int, 2) := by decide +kernel
theorem dX3_init_25 : decode cX3_init 25 = .ok (.putfield 18, 3) := by decide +kernel
theorem dX3_init_28 : decode cX3_init 28 = .ok (.aload_n 0, 1) := by decide +kernel
theorem dX3_init_29 : decode cX3_init 29 = .ok (.bipush 12, 2) := by decide +kernel
theorem dX3_init_31 : decode cX3_init 31 = .ok (.newarray .int, 2) := by decide +kernel
theorem dX3_init_33 : decode cX3_init 33 = .ok (.putfield 21, 3) := by decide +kernel
theorem dX3_init_36 : decode cX3_init 36 = .ok (.aload_n 0, 1) := by decide +kernel
theorem dX3_init_37 : decode cX3_init 37 = .ok (.bipush 16, 2) := by decide +kernel
theorem dX3_init_39 : decode cX3_init 39 = .ok (.newarray .int, 2) := by decide +kernel
theorem dX3_init_41 : decode cX3_init 41 = .ok (.putfield 24, 3) := by decide +kernel
theorem dX3_init_44 : decode cX3_init 44 = .ok (.aload_n 0, 1) := by decide +kernel
theorem dX3_init_45 : decode cX3_init 45 = .ok (.bipush 16, 2) := by decide +kernel
theorem dX3_init_47 : decode cX3_init 47 = .ok (.newarray .int, 2) := by decide +kernel
theorem dX3_init_49 : decode cX3_init 49 = .ok (.putfield 27, 3) := by decide +kernel
theorem dX3_init_52 : decode cX3_init 52 = .ok (.iconst 0, 1) := by decide +kernel
theorem dX3_init_53 : decode cX3_init 53 = .ok (.istore_n 1, 1) := by decide +kernel
theorem dX3_init_54 : decode cX3_init 54 = .ok (.iload_n 1, 1) := by decide +kernel
theorem dX3_init_55 : decode cX3_init 55 = .ok (.iconst 4, 1) := by decide +kernel
theorem dX3_init_56 : decode cX3_init 56 = .ok (.if_icmp .ge 22, 3) := by decide +kernel
theorem dX3_init_59 : decode cX3_init 59 = .ok (.aload_n 0, 1) := by decide +kernel
theorem dX3_init_60 : decode cX3_init 60 = .ok (.getfield 24, 3) := by decide +kernel
theorem dX3_init_63 : decode cX3_init 63 = .ok (.iconst 3, 1) := by decide +kernel
theorem dX3_init_64 : decode cX3_init 64 = .ok (.iload_n 1, 1) := by decide +kernel
theorem dX3_init_65 : decode cX3_init 65 = .ok (.isub, 1) := by decide +kernel
theorem dX3_init_66 : decode cX3_init 66 = .ok (.getstatic 30, 3) := by decide +kernel
theorem dX3_init_69 : decode cX3_init 69 = .ok (.iload_n 1, 1) := by decide +kernel
theorem dX3_init_70 : decode cX3_init 70 = .ok (.iaload, 1) := by decide +kernel
theorem dX3_init_71 : decode cX3_init 71 = .ok (.iastore, 1) := by decide +kernel
theorem dX3_init_72 : decode cX3_init 72 = .ok (.iinc 1 1, 3) := by decide +kernel
theorem dX3_init_75 : decode cX3_init 75 = .ok (.goto (-21), 3) := by decide +kernel
theorem dX3_init_78 : decode cX3_init 78 = .ok (.return_, 1) := by decide +kernel
theorem dX3_has_0 : decode cX3_has 0 = .ok (.iload_n 1, 1) := by decide +kernel
theorem dX3_has_1 : decode cX3_has 1 = .ok (.ifCond .lt 15, 3) := by decide +kernel
theorem dX3_has_4 : decode cX3_has 4 = .ok (.iload_n 1, 1) := by decide +kernel
theorem dX3_has_5 : decode cX3_has 5 = .ok (.aload_n 0, 1) := by decide +kernel
theorem dX3_has_6 : decode cX3_has 6 = .ok (.getfield 33, 3) := by decide +kernel
theorem dX3_has_9 : decode cX3_has 9 = .ok (.if_icmp .ge 7, 3) := by decide +kernel
theorem dX3_has_12 : decode cX3_has 12 = .ok (.iconst 1, 1) := by decide +kernel
theorem dX3_has_13 : decode cX3_has 13 = .ok (.goto 4, 3) := by decide +kernel
theorem dX3_has_16 : decode cX3_has 16 = .ok (.iconst 0, 1) := by decide +kernel
theorem dX3_has_17 : decode cX3_has 17 = .ok (.ireturn, 1) := by decide +kernel
theorem dX3_isEmpty_0 : decode cX3_isEmpty 0 = .ok (.aload_n 0, 1) := by decide +kernel
theorem dX3_isEmpty_1 : decode cX3_isEmpty 1 = .ok (.getfield 33, 3) := by decide +kernel
theorem dX3_isEmpty_4 : decode cX3_isEmpty 4 = .ok (.ifCond .ne 7, 3) := by decide +kernel
theorem dX3_isEmpty_7 : decode cX3_isEmpty 7 = .ok (.iconst 1, 1) := by decide +kernel
theorem dX3_isEmpty_8 : decode cX3_isEmpty 8 = .ok (.goto 4, 3) := by decide +kernel
theorem dX3_isEmpty_11 : decode cX3_isEmpty 11 = .ok (.iconst 0, 1) := by decide +kernel
theorem dX3_isEmpty_12 : decode cX3_isEmpty 12 = .ok (.ireturn, 1) := by decide +kernel
theorem dX3_isFull_0 : decode cX3_isFull 0 = .ok (.aload_n 0, 1) := by decide +kernel
theorem dX3_isFull_1 : decode cX3_isFull 1 = .ok (.getfield 33, 3) := by decide +kernel
theorem dX3_isFull_4 : decode cX3_isFull 4 = .ok (.bipush 12, 2) := by decide +kernel
theorem dX3_isFull_6 : decode cX3_isFull 6 = .ok (.if_icmp .lt 7, 3) := by decide +kernel
theorem dX3_isFull_9 : decode cX3_isFull 9 = .ok (.iconst 1, 1) := by decide +kernel
theorem dX3_isFull_10 : decode cX3_isFull 10 = .ok (.goto 4, 3) := by decide +kernel
theorem dX3_isFull_13 : decode cX3_isFull 13 = .ok (.iconst 0, 1) := by decide +kernel
theorem dX3_isFull_14 : decode cX3_isFull 14 = .ok (.ireturn, 1) := by decide +kernel
theorem dX3_output_0 : decode cX3_output 0 = .ok (.aload_n 0, 1) := by decide +kernel
theorem dX3_output_1 : decode cX3_output 1 = .ok (.getfield 33, 3) := by decide +kernel
theorem dX3_output_4 : decode cX3_output 4 = .ok (.iconst 1, 1) := by decide +kernel
theorem dX3_output_5 : decode cX3_output 5 = .ok (.isub, 1) := by decide +kernel
theorem dX3_output_6 : decode cX3_output 6 = .ok (.ireturn, 1) := by decide +kernel
set_option maxRecDepth 20000 in
theorem ggX3_append_X3_isFull : GoodIn wsX3_append wsX3_isFull := goodIn_r _ [10, 2, 11, 12, 13, 14, 15, 16, 17] (by decide +kernel) (by decide +kernel)
set_option maxRecDepth 20000 in
theorem gX3_append_X3_isFull : GoodIn wsX3_append (wsV RX3 37 RX3 yX3_isFull wsX3_isFull) := goodIn_app (goodIn_of _ (by decide +kernel)) ggX3_append_X3_isFull
theorem dX3_append_0 : decode cX3_append 0 = .ok (.aload_n 0, 1) := by decide +kernel
theorem dX3_append_1 : decode cX3_append 1 = .ok (.invokevirtual 37, 3) := by decide +kernel
theorem dX3_append_4 : decode cX3_append 4 = .ok (.ifCond .eq 4, 3) := by decide +kernel
theorem dX3_append_7 : decode cX3_append 7 = .ok (.return_, 1) := by decide +kernel
theorem dX3_append_8 : decode cX3_append 8 = .ok (.aload_n 0, 1) := by decide +kernel
theorem dX3_append_9 : decode cX3_append 9 = .ok (.getfield 11, 3) := by decide +kernel
theorem dX3_append_12 : decode cX3_append 12 = .ok (.aload_n 0, 1) := by decide +kernel
theorem dX3_append_13 : decode cX3_append 13 = .ok (.getfield 33, 3) := by decide +kernel
theorem dX3_append_16 : decode cX3_append 16 = .ok (.iload_n 1, 1) := by decide +kernel
theorem dX3_append_17 : decode cX3_append 17 = .ok (.iastore, 1) := by decide +kernel
theorem dX3_append_18 : decode cX3_append 18 = .ok (.aload_n 0, 1) := by decide +kernel
theorem dX3_append_19 : decode cX3_append 19 = .ok (.getfield 15, 3) := by decide +kernel
theorem dX3_append_22 : decode cX3_append 22 = .ok (.aload_n 0, 1) := by decide +kernel
theorem dX3_append_23 : decode cX3_append 23 = .ok (.getfield 33, 3) := by decide +kernel
theorem dX3_append_26 : decode cX3_append 26 = .ok (.iload_n 2, 1) := by decide +kernel
theorem dX3_append_27 : decode cX3_append 27 = .ok (.iastore, 1) := by decide +kernel
theorem dX3_append_28 : decode cX3_append 28 = .ok (.aload_n 0, 1) := by decide +kernel
theorem dX3_append_29 : decode cX3_append 29 = .ok (.getfield 18, 3) := by decide +kernel
theorem dX3_append_32 : decode cX3_append 32 = .ok (.aload_n 0, 1) := by decide +kernel
theorem dX3_append_33 : decode cX3_append 33 = .ok (.getfield 33, 3) := by decide +kernel
theorem dX3_append_36 : decode cX3_append 36 = .ok (.iload_n 3, 1) := by decide +kernel
theorem dX3_append_37 : decode cX3_append 37 = .ok (.iastore, 1) := by decide +kernel
theorem dX3_append_38 : decode cX3_append 38 = .ok (.aload_n 0, 1) := by decide +kernel
theorem dX3_append_39 : decode cX3_append 39 = .ok (.getfield 21, 3) := by decide +kernel
theorem dX3_append_42 : decode cX3_append 42 = .ok (.aload_n 0, 1) := by decide +kernel
theorem dX3_append_43 : decode cX3_append 43 = .ok (.getfield 33, 3) := by decide +kernel
theorem dX3_append_46 : decode cX3_append 46 = .ok (.iload 4, 2) := by decide +kernel
theorem dX3_append_48 : decode cX3_append 48 = .ok (.iastore, 1) := by decide +kernel
theorem dX3_append_49 : decode cX3_append 49 = .ok (.aload_n 0, 1) := by decide +kernel
theorem dX3_append_50 : decode cX3_append 50 = .ok (.dup, 1) := by decide +kernel
theorem dX3_append_51 : decode cX3_append 51 = .ok (.getfield 33, 3) := by decide +kernel
theorem dX3_append_54 : decode cX3_append 54 = .ok (.iconst 1, 1) := by decide +kernel
theorem dX3_append_55 : decode cX3_append 55 = .ok (.iadd, 1) := by decide +kernel
theorem dX3_append_56 : decode cX3_append 56 = .ok (.putfield 33, 3) := by decide +kernel
theorem dX3_append_59 : decode cX3_append 59 = .ok (.return_, 1) := by decide +kernel
theorem dX3_removeLast_0 : decode cX3_removeLast 0 = .ok (.aload_n 0, 1) := by decide +kernel
theorem dX3_removeLast_1 : decode cX3_removeLast 1 = .ok (.getfield 33, 3) := by decide +kernel
theorem dX3_removeLast_4 : decode cX3_removeLast 4 = .ok (.ifCond .le 13, 3) := by decide +kernel
theorem dX3_removeLast_7 : decode cX3_removeLast 7 = .ok (.aload_n 0, 1) := by decide +kernel
theorem dX3_removeLast_8 : decode cX3_removeLast 8 = .ok (.dup, 1) := by decide +kernel
theorem dX3_removeLast_9 : decode cX3_removeLast 9 = .ok (.getfield 33, 3) := by decide +kernel
theorem dX3_removeLast_12 : decode cX3_removeLast 12 = .ok (.iconst 1, 1) := by decide +kernel
theorem dX3_removeLast_13 : decode cX3_removeLast 13 = .ok (.isub, 1) := by decide +kernel
theorem dX3_removeLast_14 : decode cX3_removeLast 14 = .ok (.putfield 33, 3) := by decide +kernel
theorem dX3_removeLast_17 : decode cX3_removeLast 17 = .ok (.return_, 1) := by decide +kernel
set_option maxRecDepth 20000 in
theorem ggX3_setDelay_X3_has : GoodIn wsX3_setDelay wsX3_has := goodIn_r _ [6, 7, 8, 9, 10, 11, 12, 13, 14] (by decide +kernel) (by decide +kernel)
set_option maxRecDepth 20000 in
theorem gX3_setDelay_X3_has : GoodIn wsX3_setDelay (wsV RX3 41 RX3 yX3_has wsX3_has) := goodIn_app (goodIn_of _ (by decide +kernel)) ggX3_setDelay_X3_has
theorem dX3_setDelay_0 : decode cX3_setDelay 0 = .ok (.aload_n 0, 1) := by decide +kernel
theorem dX3_setDelay_1 : decode cX3_setDelay 1 = .ok (.iload_n 1, 1) := by decide +kernel
theorem dX3_setDelay_2 : decode cX3_setDelay 2 = .ok (.invokevirtual 41, 3) := by decide +kernel
theorem dX3_setDelay_5 : decode cX3_setDelay 5 = .ok (.ifCond .eq 10, 3) := by decide +kernel
theorem dX3_setDelay_8 : decode cX3_setDelay 8 = .ok (.aload_n 0, 1) := by decide +kernel
theorem dX3_setDelay_9 : decode cX3_setDelay 9 = .ok (.getfield 21, 3) := by decide +kernel
theorem dX3_setDelay_12 : decode cX3_setDelay 12 = .ok (.iload_n 1, 1) := by decide +kernel
theorem dX3_setDelay_13 : decode cX3_setDelay 13 = .ok (.iload_n 2, 1) := by decide +kernel
theorem dX3_setDelay_14 : decode cX3_setDelay 14 = .ok (.iastore, 1) := by decide +kernel
theorem dX3_setDelay_15 : decode cX3_setDelay 15 = .ok (.return_, 1) := by decide +kernel
set_option maxRecDepth 20000 in
theorem ggX3_setKind_X3_has : GoodIn wsX3_setKind wsX3_has := goodIn_r _ [6, 7, 8, 9, 10, 11, 12, 13, 14] (by decide +kernel) (by decide +kernel)
set_option maxRecDepth 20000 in
theorem gX3_setKind_X3_has : GoodIn wsX3_setKind (wsV RX3 41 RX3 yX3_has wsX3_has) := goodIn_app (goodIn_of _ (by decide +kernel)) ggX3_setKind_X3_has
theorem dX3_setKind_0 : decode cX3_setKind 0 = .ok (.aload_n 0, 1) := by decide +kernel
theorem dX3_setKind_1 : decode cX3_setKind 1 = .ok (.iload_n 1, 1) := by decide +kernel
theorem dX3_setKind_2 : decode cX3_setKind 2 = .ok (.invokevirtual 41, 3) := by decide +kernel
theorem dX3_setKind_5 : decode cX3_setKind 5 = .ok (.ifCond .eq 10, 3) := by decide +kernel
theorem dX3_setKind_8 : decode cX3_setKind 8 = .ok (.aload_n 0, 1) := by decide +kernel
theorem dX3_setKind_9 : decode cX3_setKind 9 = .ok (.getfield 11, 3) := by decide +kernel
theorem dX3_setKind_12 : decode cX3_setKind 12 = .ok (.iload_n 1, 1) := by decide +kernel
theorem dX3_setKind_13 : decode cX3_setKind 13 = .ok (.iload_n 2, 1) := by decide +kernel
theorem dX3_setKind_14 : decode cX3_setKind 14 = .ok (.iastore, 1) := by decide +kernel
theorem dX3_setKind_15 : decode cX3_setKind 15 = .ok (.return_, 1) := by decide +kernel
theorem dX3_become_0 : decode cX3_become 0 = .ok (.aload_n 1, 1) := by decide +kernel
theorem dX3_become_1 : decode cX3_become 1 = .ok (.getfield 11, 3) := by decide +kernel
theorem dX3_become_4 : decode cX3_become 4 = .ok (.iconst 0, 1) := by decide +kernel
theorem dX3_become_5 : decode cX3_become 5 = .ok (.aload_n 0, 1) := by decide +kernel
theorem dX3_become_6 : decode cX3_become 6 = .ok (.getfield 11, 3) := by decide +kernel
theorem dX3_become_9 : decode cX3_become 9 = .ok (.iconst 0, 1) := by decide +kernel
theorem dX3_become_10 : decode cX3_become 10 = .ok (.bipush 12, 2) := by decide +kernel
theorem dX3_become_12 : decode cX3_become 12 = .ok (.invokestatic 45, 3) := by decide +kernel
theorem dX3_become_15 : decode cX3_become 15 = .ok (.aload_n 1, 1) := by decide +kernel
theorem dX3_become_16 : decode cX3_become 16 = .ok (.getfield 15, 3) := by decide +kernel
theorem dX3_become_19 : decode cX3_become 19 = .ok (.iconst 0, 1) := by decide +kernel
theorem dX3_become_20 : decode cX3_become 20 = .ok (.aload_n 0, 1) := by decide +kernel
theorem dX3_become_21 : decode cX3_become 21 = .ok (.getfield 15, 3) := by decide +kernel
theorem dX3_become_24 : decode cX3_become 24 = .ok (.iconst 0, 1) := by decide +kernel
theorem dX3_become_25 : decode cX3_become 25 = .ok (.bipush 12, 2) := by decide +kernel
theorem dX3_become_27 : decode cX3_become 27 = .ok (.invokestatic 45, 3) := by decide +kernel
theorem dX3_become_30 : decode cX3_become 30 = .ok (.aload_n 1, 1) := by decide +kernel
theorem dX3_become_31 : decode cX3_become 31 = .ok (.getfield 18, 3) := by decide +kernel
theorem dX3_become_34 : decode cX3_become 34 = .ok (.iconst 0, 1) := by decide +kernel
theorem dX3_become_35 : decode cX3_become 35 = .ok (.aload_n 0, 1) := by decide +kernel
theorem dX3_become_36 : decode cX3_become 36 = .ok (.getfield 18, 3) := by decide +kernel
theorem dX3_become_39 : decode cX3_become 39 = .ok (.iconst 0, 1) := by decide +kernel
theorem dX3_become_40 : decode cX3_become 40 = .ok (.bipush 12, 2) := by decide +kernel
theorem dX3_become_42 : decode cX3_become 42 = .ok (.invokestatic 45, 3) := by decide +kernel
theorem dX3_become_45 : decode cX3_become 45 = .ok (.aload_n 1, 1) := by decide +kernel
theorem dX3_become_46 : decode cX3_become 46 = .ok (.getfield 21, 3) := by decide +kernel
theorem dX3_become_49 : decode cX3_become 49 = .ok (.iconst 0, 1) := by decide +kernel
theorem dX3_become_50 : decode cX3_become 50 = .ok (.aload_n 0, 1) := by decide +kernel
theorem dX3_become_51 : decode cX3_become 51 = .ok (.getfield 21, 3) := by decide +kernel
theorem dX3_become_54 : decode cX3_become 54 = .ok (.iconst 0, 1) := by decide +kernel
theorem dX3_become_55 : decode cX3_become 55 = .ok (.bipush 12, 2) := by decide +kernel
theorem dX3_become_57 : decode cX3_become 57 = .ok (.invokestatic 45, 3) := by decide +kernel
theorem dX3_become_60 : decode cX3_become 60 = .ok (.aload_n 0, 1) := by decide +kernel
theorem dX3_become_61 : decode cX3_become 61 = .ok (.aload_n 1, 1) := by decide +kernel
theorem dX3_become_62 : decode cX3_become 62 = .ok (.getfield 33, 3) := by decide +kernel
theorem dX3_become_65 : decode cX3_become 65 = .ok (.putfield 33, 3) := by decide +kernel
theorem dX3_become_68 : decode cX3_become 68 = .ok (.return_, 1) := by decide +kernel
set_option maxRecDepth 20000 in
theorem ggX3_findTables_X8_combined : GoodIn wsX3_findTables wsX8_combined := goodIn_r _ [9, 10] (by decide +kernel) (by decide +kernel)
set_option maxRecDepth 20000 in
theorem gX3_findTables_X8_combined_n51 : GoodIn wsX3_findTables (wsX8_combined) := ggX3_findTables_X8_combined
theorem dX3_findTables_0 : decode cX3_findTables 0 = .ok (.iconst 0, 1) := by decide +kernel
theorem dX3_findTables_1 : decode cX3_findTables 1 = .ok (.istore_n 1, 1) := by decide +kernel
theorem dX3_findTables_2 : decode cX3_findTables 2 = .ok (.iload_n 1, 1) := by decide +kernel
theorem dX3_findTables_3 : decode cX3_findTables 3 = .ok (.aload_n 0, 1) := by decide +kernel
theorem dX3_findTables_4 : decode cX3_findTables 4 = .ok (.getfield 33, 3) := by decide +kernel
theorem dX3_findTables_7 : decode cX3_findTables 7 = .ok (.if_icmp .ge 65, 3) := by decide +kernel
theorem dX3_findTables_10 : decode cX3_findTables 10 = .ok (.aload_n 0, 1) := by decide +kernel
theorem dX3_findTables_11 : decode cX3_findTables 11 = .ok (.getfield 24, 3) := by decide +kernel
theorem dX3_findTables_14 : decode cX3_findTables 14 = .ok (.iconst 4, 1) := by decide +kernel
theorem dX3_findTables_15 : decode cX3_findTables 15 = .ok (.aload_n 0, 1) := by decide +kernel
theorem dX3_findTables_16 : decode cX3_findTables 16 = .ok (.getfield 15, 3) := by decide +kernel
theorem dX3_findTables_19 : decode cX3_findTables 19 = .ok (.iload_n 1, 1) := by decide +kernel
theorem dX3_findTables_20 : decode cX3_findTables 20 = .ok (.iaload, 1) := by decide +kernel
theorem dX3_findTables_21 : decode cX3_findTables 21 = .ok (.iadd, 1) := by decide +kernel
theorem dX3_findTables_22 : decode cX3_findTables 22 = .ok (.iaload, 1) := by decide +kernel
theorem dX3_findTables_23 : decode cX3_findTables 23 = .ok (.i2l, 1) := by decide +kernel
theorem dX3_findTables_24 : decode cX3_findTables 24 = .ok (.lstore_n 2, 1) := by decide +kernel
theorem dX3_findTables_25 : decode cX3_findTables 25 = .ok (.aload_n 0, 1) := by decide +kernel
theorem dX3_findTables_26 : decode cX3_findTables 26 = .ok (.getfield 24, 3) := by decide +kernel
theorem dX3_findTables_29 : decode cX3_findTables 29 = .ok (.iconst 4, 1) := by decide +kernel
theorem dX3_findTables_30 : decode cX3_findTables 30 = .ok (.aload_n 0, 1) := by decide +kernel
theorem dX3_findTables_31 : decode cX3_findTables 31 = .ok (.getfield 18, 3) := by decide +kernel
theorem dX3_findTables_34 : decode cX3_findTables 34 = .ok (.iload_n 1, 1) := by decide +kernel
theorem dX3_findTables_35 : decode cX3_findTables 35 = .ok (.iaload, 1) := by decide +kernel
theorem dX3_findTables_36 : decode cX3_findTables 36 = .ok (.iadd, 1) := by decide +kernel
theorem dX3_findTables_37 : decode cX3_findTables 37 = .ok (.iaload, 1) := by decide +kernel
theorem dX3_findTables_38 : decode cX3_findTables 38 = .ok (.i2l, 1) := by decide +kernel
theorem dX3_findTables_39 : decode cX3_findTables 39 = .ok (.lstore 4, 2) := by decide +kernel
theorem dX3_findTables_41 : decode cX3_findTables 41 = .ok (.aload_n 0, 1) := by decide +kernel
theorem dX3_findTables_42 : decode cX3_findTables 42 = .ok (.getfield 24, 3) := by decide +kernel
theorem dX3_findTables_45 : decode cX3_findTables 45 = .ok (.iconst 4, 1) := by decide +kernel
theorem dX3_findTables_46 : decode cX3_findTables 46 = .ok (.iload_n 1, 1) := by decide +kernel
theorem dX3_findTables_47 : decode cX3_findTables 47 = .ok (.iadd, 1) := by decide +kernel
theorem dX3_findTables_48 : decode cX3_findTables 48 = .ok (.aload_n 0, 1) := by decide +kernel
theorem dX3_findTables_49 : decode cX3_findTables 49 = .ok (.getfield 11, 3) := by decide +kernel
theorem dX3_findTables_52 : decode cX3_findTables 52 = .ok (.iload_n 1, 1) := by decide +kernel
theorem dX3_findTables_53 : decode cX3_findTables 53 = .ok (.iaload, 1) := by decide +kernel
theorem dX3_findTables_54 : decode cX3_findTables 54 = .ok (.lload_n 2, 1) := by decide +kernel
theorem dX3_findTables_55 : decode cX3_findTables 55 = .ok (.lload 4, 2) := by decide +kernel
theorem dX3_findTables_57 : decode cX3_findTables 57 = .ok (.invokestatic 51, 3) := by decide +kernel
theorem dX3_findTables_60 : decode cX3_findTables 60 = .ok (.ldc2_w 55, 3) := by decide +kernel
theorem dX3_findTables_63 : decode cX3_findTables 63 = .ok (.land, 1) := by decide +kernel
theorem dX3_findTables_64 : decode cX3_findTables 64 = .ok (.l2i, 1) := by decide +kernel
theorem dX3_findTables_65 : decode cX3_findTables 65 = .ok (.iastore, 1) := by decide +kernel
theorem dX3_findTables_66 : decode cX3_findTables 66 = .ok (.iinc 1 1, 3) := by decide +kernel
theorem dX3_findTables_69 : decode cX3_findTables 69 = .ok (.goto (-67), 3) := by decide +kernel
theorem dX3_findTables_72 : decode cX3_findTables 72 = .ok (.return_, 1) := by decide +kernel
set_option maxRecDepth 20000 in
theorem ggX3_tableOf_X3_findTables : GoodIn wsX3_tableOf wsX3_findTables := goodIn_r _ [6, 7, 1, 8, 9, 10, 11, 12, 13, 14, 15, 20, 21, 22, 23, 24, 25, 26] (by decide +kernel) (by decide +kernel)
set_option maxRecDepth 20000 in
theorem gX3_tableOf_X3_findTables : GoodIn wsX3_tableOf (wsV RX3 57 RX3 yX3_findTables wsX3_findTables) := goodIn_app (goodIn_of _ (by decide +kernel)) ggX3_tableOf_X3_findTables
set_option maxRecDepth 20000 in
theorem ggX3_tableOf_X3_has : GoodIn wsX3_tableOf wsX3_has := goodIn_r _ [19, 7, 20, 21, 22, 23, 24, 25, 26] (by decide +kernel) (by decide +kernel)
set_option maxRecDepth 20000 in
theorem gX3_tableOf_X3_has : GoodIn wsX3_tableOf (wsV RX3 41 RX3 yX3_has wsX3_has) := goodIn_app (goodIn_of _ (by decide +kernel)) ggX3_tableOf_X3_has
theorem dX3_tableOf_0 : decode cX3_tableOf 0 = .ok (.aload_n 0, 1) := by decide +kernel
theorem dX3_tableOf_1 : decode cX3_tableOf 1 = .ok (.invokevirtual 57, 3) := by decide +kernel
theorem dX3_tableOf_4 : decode cX3_tableOf 4 = .ok (.aload_n 0, 1) := by decide +kernel
theorem dX3_tableOf_5 : decode cX3_tableOf 5 = .ok (.iload_n 1, 1) := by decide +kernel
theorem dX3_tableOf_6 : decode cX3_tableOf 6 = .ok (.invokevirtual 41, 3) := by decide +kernel
theorem dX3_tableOf_9 : decode cX3_tableOf 9 = .ok (.ifCond .eq 14, 3) := by decide +kernel
theorem dX3_tableOf_12 : decode cX3_tableOf 12 = .ok (.aload_n 0, 1) := by decide +kernel
theorem dX3_tableOf_13 : decode cX3_tableOf 13 = .ok (.getfield 24, 3) := by decide +kernel
theorem dX3_tableOf_16 : decode cX3_tableOf 16 = .ok (.iconst 4, 1) := by decide +kernel
theorem dX3_tableOf_17 : decode cX3_tableOf 17 = .ok (.iload_n 1, 1) := by decide +kernel
theorem dX3_tableOf_18 : decode cX3_tableOf 18 = .ok (.iadd, 1) := by decide +kernel
theorem dX3_tableOf_19 : decode cX3_tableOf 19 = .ok (.iaload, 1) := by decide +kernel
theorem dX3_tableOf_20 : decode cX3_tableOf 20 = .ok (.goto 4, 3) := by decide +kernel
theorem dX3_tableOf_23 : decode cX3_tableOf 23 = .ok (.iconst 0, 1) := by decide +kernel
theorem dX3_tableOf_24 : decode cX3_tableOf 24 = .ok (.ireturn, 1) := by decide +kernel
theorem dX3_rowTells_0 : decode cX3_rowTells 0 = .ok (.aload_n 0, 1) := by decide +kernel
theorem dX3_rowTells_1 : decode cX3_rowTells 1 = .ok (.getfield 24, 3) := by decide +kernel
theorem dX3_rowTells_4 : decode cX3_rowTells 4 = .ok (.iload_n 1, 1) := by decide +kernel
theorem dX3_rowTells_5 : decode cX3_rowTells 5 = .ok (.iaload, 1) := by decide +kernel
theorem dX3_rowTells_6 : decode cX3_rowTells 6 = .ok (.iload_n 2, 1) := by decide +kernel
theorem dX3_rowTells_7 : decode cX3_rowTells 7 = .ok (.ishr, 1) := by decide +kernel
theorem dX3_rowTells_8 : decode cX3_rowTells 8 = .ok (.iconst 1, 1) := by decide +kernel
theorem dX3_rowTells_9 : decode cX3_rowTells 9 = .ok (.iand, 1) := by decide +kernel
theorem dX3_rowTells_10 : decode cX3_rowTells 10 = .ok (.ireturn, 1) := by decide +kernel
theorem dX3_findPaths_0 : decode cX3_findPaths 0 = .ok (.iconst 0, 1) := by decide +kernel
theorem dX3_findPaths_1 : decode cX3_findPaths 1 = .ok (.istore_n 1, 1) := by decide +kernel
theorem dX3_findPaths_2 : decode cX3_findPaths 2 = .ok (.iload_n 1, 1) := by decide +kernel
theorem dX3_findPaths_3 : decode cX3_findPaths 3 = .ok (.aload_n 0, 1) := by decide +kernel
theorem dX3_findPaths_4 : decode cX3_findPaths 4 = .ok (.getfield 33, 3) := by decide +kernel
theorem dX3_findPaths_7 : decode cX3_findPaths 7 = .ok (.if_icmp .ge 55, 3) := by decide +kernel
theorem dX3_findPaths_10 : decode cX3_findPaths 10 = .ok (.aload_n 0, 1) := by decide +kernel
theorem dX3_findPaths_11 : decode cX3_findPaths 11 = .ok (.getfield 27, 3) := by decide +kernel
theorem dX3_findPaths_14 : decode cX3_findPaths 14 = .ok (.iconst 4, 1) := by decide +kernel
theorem dX3_findPaths_15 : decode cX3_findPaths 15 = .ok (.aload_n 0, 1) := by decide +kernel
theorem dX3_findPaths_16 : decode cX3_findPaths 16 = .ok (.getfield 15, 3) := by decide +kernel
theorem dX3_findPaths_19 : decode cX3_findPaths 19 = .ok (.iload_n 1, 1) := by decide +kernel
theorem dX3_findPaths_20 : decode cX3_findPaths 20 = .ok (.iaload, 1) := by decide +kernel
theorem dX3_findPaths_21 : decode cX3_findPaths 21 = .ok (.iadd, 1) := by decide +kernel
theorem dX3_findPaths_22 : decode cX3_findPaths 22 = .ok (.iaload, 1) := by decide +kernel
theorem dX3_findPaths_23 : decode cX3_findPaths 23 = .ok (.aload_n 0, 1) := by decide +kernel
theorem dX3_findPaths_24 : decode cX3_findPaths 24 = .ok (.getfield 27, 3) := by decide +kernel
theorem dX3_findPaths_27 : decode cX3_findPaths 27 = .ok (.iconst 4, 1) := by decide +kernel
theorem dX3_findPaths_28 : decode cX3_findPaths 28 = .ok (.aload_n 0, 1) := by decide +kernel
theorem dX3_findPaths_29 : decode cX3_findPaths 29 = .ok (.getfield 18, 3) := by decide +kernel
theorem dX3_findPaths_32 : decode cX3_findPaths 32 = .ok (.iload_n 1, 1) := by decide +kernel
theorem dX3_findPaths_33 : decode cX3_findPaths 33 = .ok (.iaload, 1) := by decide +kernel
theorem dX3_findPaths_34 : decode cX3_findPaths 34 = .ok (.iadd, 1) := by decide +kernel
theorem dX3_findPaths_35 : decode cX3_findPaths 35 = .ok (.iaload, 1) := by decide +kernel
theorem dX3_findPaths_36 : decode cX3_findPaths 36 = .ok (.invokestatic 60, 3) := by decide +kernel
theorem dX3_findPaths_39 : decode cX3_findPaths 39 = .ok (.istore_n 2, 1) := by decide +kernel
theorem dX3_findPaths_40 : decode cX3_findPaths 40 = .ok (.aload_n 0, 1) := by decide +kernel
theorem dX3_findPaths_41 : decode cX3_findPaths 41 = .ok (.getfield 27, 3) := by decide +kernel
theorem dX3_findPaths_44 : decode cX3_findPaths 44 = .ok (.iconst 4, 1) := by decide +kernel
theorem dX3_findPaths_45 : decode cX3_findPaths 45 = .ok (.iload_n 1, 1) := by decide +kernel
theorem dX3_findPaths_46 : decode cX3_findPaths 46 = .ok (.iadd, 1) := by decide +kernel
theorem dX3_findPaths_47 : decode cX3_findPaths 47 = .ok (.iload_n 2, 1) := by decide +kernel
theorem dX3_findPaths_48 : decode cX3_findPaths 48 = .ok (.aload_n 0, 1) := by decide +kernel
theorem dX3_findPaths_49 : decode cX3_findPaths 49 = .ok (.getfield 21, 3) := by decide +kernel
theorem dX3_findPaths_52 : decode cX3_findPaths 52 = .ok (.iload_n 1, 1) := by decide +kernel
theorem dX3_findPaths_53 : decode cX3_findPaths 53 = .ok (.iaload, 1) := by decide +kernel
theorem dX3_findPaths_54 : decode cX3_findPaths 54 = .ok (.iadd, 1) := by decide +kernel
theorem dX3_findPaths_55 : decode cX3_findPaths 55 = .ok (.iastore, 1) := by decide +kernel
theorem dX3_findPaths_56 : decode cX3_findPaths 56 = .ok (.iinc 1 1, 3) := by decide +kernel
theorem dX3_findPaths_59 : decode cX3_findPaths 59 = .ok (.goto (-57), 3) := by decide +kernel
theorem dX3_findPaths_62 : decode cX3_findPaths 62 = .ok (.return_, 1) := by decide +kernel
set_option maxRecDepth 20000 in
theorem ggX3_pathTo_X3_findPaths : GoodIn wsX3_pathTo wsX3_findPaths := goodIn_r _ [6, 7, 1, 8, 9, 10, 11, 12, 13, 14, 19, 20, 21, 22, 23, 24, 25] (by decide +kernel) (by decide +kernel)
set_option maxRecDepth 20000 in
theorem gX3_pathTo_X3_findPaths : GoodIn wsX3_pathTo (wsV RX3 66 RX3 yX3_findPaths wsX3_findPaths) := goodIn_app (goodIn_of _ (by decide +kernel)) ggX3_pathTo_X3_findPaths
set_option maxRecDepth 20000 in
theorem ggX3_pathTo_X3_has : GoodIn wsX3_pathTo wsX3_has := goodIn_r _ [18, 7, 19, 20, 21, 22, 23, 24, 25] (by decide +kernel) (by decide +kernel)
set_option maxRecDepth 20000 in
theorem gX3_pathTo_X3_has : GoodIn wsX3_pathTo (wsV RX3 41 RX3 yX3_has wsX3_has) := goodIn_app (goodIn_of _ (by decide +kernel)) ggX3_pathTo_X3_has
theorem dX3_pathTo_0 : decode cX3_pathTo 0 = .ok (.aload_n 0, 1) := by decide +kernel
theorem dX3_pathTo_1 : decode cX3_pathTo 1 = .ok (.invokevirtual 66, 3) := by decide +kernel
theorem dX3_pathTo_4 : decode cX3_pathTo 4 = .ok (.aload_n 0, 1) := by decide +kernel
theorem dX3_pathTo_5 : decode cX3_pathTo 5 = .ok (.iload_n 1, 1) := by decide +kernel
theorem dX3_pathTo_6 : decode cX3_pathTo 6 = .ok (.invokevirtual 41, 3) := by decide +kernel
theorem dX3_pathTo_9 : decode cX3_pathTo 9 = .ok (.ifCond .eq 14, 3) := by decide +kernel
theorem dX3_pathTo_12 : decode cX3_pathTo 12 = .ok (.aload_n 0, 1) := by decide +kernel
theorem dX3_pathTo_13 : decode cX3_pathTo 13 = .ok (.getfield 27, 3) := by decide +kernel
theorem dX3_pathTo_16 : decode cX3_pathTo 16 = .ok (.iconst 4, 1) := by decide +kernel
theorem dX3_pathTo_17 : decode cX3_pathTo 17 = .ok (.iload_n 1, 1) := by decide +kernel
theorem dX3_pathTo_18 : decode cX3_pathTo 18 = .ok (.iadd, 1) := by decide +kernel
theorem dX3_pathTo_19 : decode cX3_pathTo 19 = .ok (.iaload, 1) := by decide +kernel
theorem dX3_pathTo_20 : decode cX3_pathTo 20 = .ok (.goto 4, 3) := by decide +kernel
theorem dX3_pathTo_23 : decode cX3_pathTo 23 = .ok (.iconst 0, 1) := by decide +kernel
theorem dX3_pathTo_24 : decode cX3_pathTo 24 = .ok (.ireturn, 1) := by decide +kernel
set_option maxRecDepth 20000 in
theorem ggX3_backOnPath_X3_has : GoodIn wsX3_backOnPath wsX3_has := goodIn_r _ [8, 9, 10, 11, 12, 13, 14, 15, 16] (by decide +kernel) (by decide +kernel)
set_option maxRecDepth 20000 in
theorem gX3_backOnPath_X3_has : GoodIn wsX3_backOnPath (wsV RX3 41 RX3 yX3_has wsX3_has) := goodIn_app (goodIn_of _ (by decide +kernel)) ggX3_backOnPath_X3_has
theorem dX3_backOnPath_0 : decode cX3_backOnPath 0 = .ok (.aload_n 0, 1) := by decide +kernel
theorem dX3_backOnPath_1 : decode cX3_backOnPath 1 = .ok (.iload_n 1, 1) := by decide +kernel
theorem dX3_backOnPath_2 : decode cX3_backOnPath 2 = .ok (.invokevirtual 41, 3) := by decide +kernel
theorem dX3_backOnPath_5 : decode cX3_backOnPath 5 = .ok (.ifCond .ne 5, 3) := by decide +kernel
theorem dX3_backOnPath_8 : decode cX3_backOnPath 8 = .ok (.iconst (-1), 1) := by decide +kernel
theorem dX3_backOnPath_9 : decode cX3_backOnPath 9 = .ok (.ireturn, 1) := by decide +kernel
theorem dX3_backOnPath_10 : decode cX3_backOnPath 10 = .ok (.aload_n 0, 1) := by decide +kernel
theorem dX3_backOnPath_11 : decode cX3_backOnPath 11 = .ok (.getfield 15, 3) := by decide +kernel
theorem dX3_backOnPath_14 : decode cX3_backOnPath 14 = .ok (.iload_n 1, 1) := by decide +kernel
theorem dX3_backOnPath_15 : decode cX3_backOnPath 15 = .ok (.iaload, 1) := by decide +kernel
theorem dX3_backOnPath_16 : decode cX3_backOnPath 16 = .ok (.istore_n 2, 1) := by decide +kernel
theorem dX3_backOnPath_17 : decode cX3_backOnPath 17 = .ok (.aload_n 0, 1) := by decide +kernel
theorem dX3_backOnPath_18 : decode cX3_backOnPath 18 = .ok (.getfield 18, 3) := by decide +kernel
theorem dX3_backOnPath_21 : decode cX3_backOnPath 21 = .ok (.iload_n 1, 1) := by decide +kernel
theorem dX3_backOnPath_22 : decode cX3_backOnPath 22 = .ok (.iaload, 1) := by decide +kernel
theorem dX3_backOnPath_23 : decode cX3_backOnPath 23 = .ok (.istore_n 3, 1) := by decide +kernel
theorem dX3_backOnPath_24 : decode cX3_backOnPath 24 = .ok (.aload_n 0, 1) := by decide +kernel
theorem dX3_backOnPath_25 : decode cX3_backOnPath 25 = .ok (.getfield 27, 3) := by decide +kernel
theorem dX3_backOnPath_28 : decode cX3_backOnPath 28 = .ok (.iconst 4, 1) := by decide +kernel
theorem dX3_backOnPath_29 : decode cX3_backOnPath 29 = .ok (.iload_n 3, 1) := by decide +kernel
theorem dX3_backOnPath_30 : decode cX3_backOnPath 30 = .ok (.iadd, 1) := by decide +kernel
theorem dX3_backOnPath_31 : decode cX3_backOnPath 31 = .ok (.iaload, 1) := by decide +kernel
theorem dX3_backOnPath_32 : decode cX3_backOnPath 32 = .ok (.aload_n 0, 1) := by decide +kernel
theorem dX3_backOnPath_33 : decode cX3_backOnPath 33 = .ok (.getfield 27, 3) := by decide +kernel
theorem dX3_backOnPath_36 : decode cX3_backOnPath 36 = .ok (.iconst 4, 1) := by decide +kernel
theorem dX3_backOnPath_37 : decode cX3_backOnPath 37 = .ok (.iload_n 2, 1) := by decide +kernel
theorem dX3_backOnPath_38 : decode cX3_backOnPath 38 = .ok (.iadd, 1) := by decide +kernel
theorem dX3_backOnPath_39 : decode cX3_backOnPath 39 = .ok (.iaload, 1) := by decide +kernel
theorem dX3_backOnPath_40 : decode cX3_backOnPath 40 = .ok (.if_icmp .le 7, 3) := by decide +kernel
theorem dX3_backOnPath_43 : decode cX3_backOnPath 43 = .ok (.iload_n 3, 1) := by decide +kernel
theorem dX3_backOnPath_44 : decode cX3_backOnPath 44 = .ok (.goto 4, 3) := by decide +kernel
theorem dX3_backOnPath_47 : decode cX3_backOnPath 47 = .ok (.iload_n 2, 1) := by decide +kernel
theorem dX3_backOnPath_48 : decode cX3_backOnPath 48 = .ok (.istore 4, 2) := by decide +kernel
theorem dX3_backOnPath_50 : decode cX3_backOnPath 50 = .ok (.aload_n 0, 1) := by decide +kernel
theorem dX3_backOnPath_51 : decode cX3_backOnPath 51 = .ok (.iload 4, 2) := by decide +kernel
theorem dX3_backOnPath_53 : decode cX3_backOnPath 53 = .ok (.invokevirtual 41, 3) := by decide +kernel
theorem dX3_backOnPath_56 : decode cX3_backOnPath 56 = .ok (.ifCond .eq 8, 3) := by decide +kernel
theorem dX3_backOnPath_59 : decode cX3_backOnPath 59 = .ok (.iload 4, 2) := by decide +kernel
theorem dX3_backOnPath_61 : decode cX3_backOnPath 61 = .ok (.goto 4, 3) := by decide +kernel
theorem dX3_backOnPath_64 : decode cX3_backOnPath 64 = .ok (.iconst (-1), 1) := by decide +kernel
theorem dX3_backOnPath_65 : decode cX3_backOnPath 65 = .ok (.ireturn, 1) := by decide +kernel
theorem dX3_usersOf_0 : decode cX3_usersOf 0 = .ok (.iconst 0, 1) := by decide +kernel
theorem dX3_usersOf_1 : decode cX3_usersOf 1 = .ok (.istore_n 2, 1) := by decide +kernel
theorem dX3_usersOf_2 : decode cX3_usersOf 2 = .ok (.iconst 0, 1) := by decide +kernel
theorem dX3_usersOf_3 : decode cX3_usersOf 3 = .ok (.istore_n 3, 1) := by decide +kernel
theorem dX3_usersOf_4 : decode cX3_usersOf 4 = .ok (.iload_n 3, 1) := by decide +kernel
theorem dX3_usersOf_5 : decode cX3_usersOf 5 = .ok (.aload_n 0, 1) := by decide +kernel
theorem dX3_usersOf_6 : decode cX3_usersOf 6 = .ok (.getfield 33, 3) := by decide +kernel
theorem dX3_usersOf_9 : decode cX3_usersOf 9 = .ok (.if_icmp .ge 32, 3) := by decide +kernel
theorem dX3_usersOf_12 : decode cX3_usersOf 12 = .ok (.aload_n 0, 1) := by decide +kernel
theorem dX3_usersOf_13 : decode cX3_usersOf 13 = .ok (.getfield 15, 3) := by decide +kernel
theorem dX3_usersOf_16 : decode cX3_usersOf 16 = .ok (.iload_n 3, 1) := by decide +kernel
theorem dX3_usersOf_17 : decode cX3_usersOf 17 = .ok (.iaload, 1) := by decide +kernel
theorem dX3_usersOf_18 : decode cX3_usersOf 18 = .ok (.iload_n 1, 1) := by decide +kernel
theorem dX3_usersOf_19 : decode cX3_usersOf 19 = .ok (.if_icmp .eq 13, 3) := by decide +kernel
theorem dX3_usersOf_22 : decode cX3_usersOf 22 = .ok (.aload_n 0, 1) := by decide +kernel
theorem dX3_usersOf_23 : decode cX3_usersOf 23 = .ok (.getfield 18, 3) := by decide +kernel
theorem dX3_usersOf_26 : decode cX3_usersOf 26 = .ok (.iload_n 3, 1) := by decide +kernel
theorem dX3_usersOf_27 : decode cX3_usersOf 27 = .ok (.iaload, 1) := by decide +kernel
theorem dX3_usersOf_28 : decode cX3_usersOf 28 = .ok (.iload_n 1, 1) := by decide +kernel
theorem dX3_usersOf_29 : decode cX3_usersOf 29 = .ok (.if_icmp .ne 6, 3) := by decide +kernel
theorem dX3_usersOf_32 : decode cX3_usersOf 32 = .ok (.iinc 2 1, 3) := by decide +kernel
theorem dX3_usersOf_35 : decode cX3_usersOf 35 = .ok (.iinc 3 1, 3) := by decide +kernel
theorem dX3_usersOf_38 : decode cX3_usersOf 38 = .ok (.goto (-34), 3) := by decide +kernel
theorem dX3_usersOf_41 : decode cX3_usersOf 41 = .ok (.iload_n 2, 1) := by decide +kernel
theorem dX3_usersOf_42 : decode cX3_usersOf 42 = .ok (.ireturn, 1) := by decide +kernel
theorem dX4_init_0 : decode cX4_init 0 = .ok (.aload_n 0, 1) := by decide +kernel
theorem dX4_init_1 : decode cX4_init 1 = .ok (.invokespecial 3, 3) := by decide +kernel
theorem dX4_init_4 : decode cX4_init 4 = .ok (.aload_n 0, 1) := by decide +kernel
theorem dX4_init_5 : decode cX4_init 5 = .ok (.bipush 32, 2) := by decide +kernel
theorem dX4_init_7 : decode cX4_init 7 = .ok (.newarray .int, 2) := by decide +kernel
theorem dX4_init_9 : decode cX4_init 9 = .ok (.putfield 11, 3) := by decide +kernel
theorem dX4_init_12 : decode cX4_init 12 = .ok (.aload_n 0, 1) := by decide +kernel
theorem dX4_init_13 : decode cX4_init 13 = .ok (.bipush 32, 2) := by decide +kernel
theorem dX4_init_15 : decode cX4_init 15 = .ok (.newarray .int, 2) := by decide +kernel
theorem dX4_init_17 : decode cX4_init 17 = .ok (.putfield 15, 3) := by decide +kernel
theorem dX4_init_20 : decode cX4_init 20 = .ok (.aload_n 0, 1) := by decide +kernel
theorem dX4_init_21 : decode cX4_init 21 = .ok (.bipush 32, 2) := by decide +kernel
theorem dX4_init_23 : decode cX4_init 23 = .ok (.newarray .long, 2) := by decide +kernel
theorem dX4_init_25 : decode cX4_init 25 = .ok (.putfield 18, 3) := by decide +kernel
theorem dX4_init_28 : decode cX4_init 28 = .ok (.aload_n 0, 1) := by decide +kernel
theorem dX4_init_29 : decode cX4_init 29 = .ok (.bipush 33, 2) := by decide +kernel
theorem dX4_init_31 : decode cX4_init 31 = .ok (.newarray .long, 2) := by decide +kernel
theorem dX4_init_33 : decode cX4_init 33 = .ok (.putfield 22, 3) := by decide +kernel
theorem dX4_init_36 : decode cX4_init 36 = .ok (.return_, 1) := by decide +kernel
set_option maxRecDepth 20000 in
theorem ggX4_find_X4_isPrime : GoodIn wsX4_find wsX4_isPrime := goodIn_r _ [5, 6, 7, 4, 8, 9, 10, 11, 12, 13] (by decide +kernel) (by decide +kernel)
set_option maxRecDepth 20000 in
theorem gX4_find_X4_isPrime : GoodIn wsX4_find (va_wsS RX4 29 yX4_isPrime wsX4_isPrime) := goodIn_app (goodIn_of _ (by decide +kernel)) ggX4_find_X4_isPrime
set_option maxRecDepth 20000 in
theorem ggX4_find_X4_append : GoodIn wsX4_find wsX4_append := goodIn_r _ [17, 1, 18, 19, 20, 21, 9, 10, 11, 12, 13, 22, 23, 24, 25, 26, 27, 28] (by decide +kernel) (by decide +kernel)
set_option maxRecDepth 20000 in
theorem gX4_find_X4_append : GoodIn wsX4_find (wsV RX4 33 RX4 yX4_append wsX4_append) := goodIn_app (goodIn_of _ (by decide +kernel)) ggX4_find_X4_append
theorem dX4_find_0 : decode cX4_find 0 = .ok (.aload_n 0, 1) := by decide +kernel
theorem dX4_find_1 : decode cX4_find 1 = .ok (.iconst 0, 1) := by decide +kernel
theorem dX4_find_2 : decode cX4_find 2 = .ok (.putfield 25, 3) := by decide +kernel
theorem dX4_find_5 : decode cX4_find 5 = .ok (.iconst 0, 1) := by decide +kernel
theorem dX4_find_6 : decode cX4_find 6 = .ok (.istore_n 2, 1) := by decide +kernel
theorem dX4_find_7 : decode cX4_find 7 = .ok (.iload_n 2, 1) := by decide +kernel
theorem dX4_find_8 : decode cX4_find 8 = .ok (.bipush 16, 2) := by decide +kernel
theorem dX4_find_10 : decode cX4_find 10 = .ok (.if_icmp .ge 45, 3) := by decide +kernel
theorem dX4_find_13 : decode cX4_find 13 = .ok (.iconst 0, 1) := by decide +kernel
theorem dX4_find_14 : decode cX4_find 14 = .ok (.istore_n 3, 1) := by decide +kernel
theorem dX4_find_15 : decode cX4_find 15 = .ok (.iload_n 3, 1) := by decide +kernel
theorem dX4_find_16 : decode cX4_find 16 = .ok (.iload_n 2, 1) := by decide +kernel
theorem dX4_find_17 : decode cX4_find 17 = .ok (.if_icmp .gt 32, 3) := by decide +kernel
theorem dX4_find_20 : decode cX4_find 20 = .ok (.iload_n 3, 1) := by decide +kernel
theorem dX4_find_21 : decode cX4_find 21 = .ok (.iload_n 2, 1) := by decide +kernel
theorem dX4_find_22 : decode cX4_find 22 = .ok (.iconst (-1), 1) := by decide +kernel
theorem dX4_find_23 : decode cX4_find 23 = .ok (.ixor, 1) := by decide +kernel
theorem dX4_find_24 : decode cX4_find 24 = .ok (.iand, 1) := by decide +kernel
theorem dX4_find_25 : decode cX4_find 25 = .ok (.ifCond .ne 18, 3) := by decide +kernel
theorem dX4_find_28 : decode cX4_find 28 = .ok (.iload_n 2, 1) := by decide +kernel
theorem dX4_find_29 : decode cX4_find 29 = .ok (.iload_n 3, 1) := by decide +kernel
theorem dX4_find_30 : decode cX4_find 30 = .ok (.iload_n 1, 1) := by decide +kernel
theorem dX4_find_31 : decode cX4_find 31 = .ok (.invokestatic 29, 3) := by decide +kernel
theorem dX4_find_34 : decode cX4_find 34 = .ok (.ifCond .eq 9, 3) := by decide +kernel
theorem dX4_find_37 : decode cX4_find 37 = .ok (.aload_n 0, 1) := by decide +kernel
theorem dX4_find_38 : decode cX4_find 38 = .ok (.iload_n 2, 1) := by decide +kernel
theorem dX4_find_39 : decode cX4_find 39 = .ok (.iload_n 3, 1) := by decide +kernel
theorem dX4_find_40 : decode cX4_find 40 = .ok (.invokevirtual 33, 3) := by decide +kernel
theorem dX4_find_43 : decode cX4_find 43 = .ok (.iinc 3 1, 3) := by decide +kernel
theorem dX4_find_46 : decode cX4_find 46 = .ok (.goto (-31), 3) := by decide +kernel
theorem dX4_find_49 : decode cX4_find 49 = .ok (.iinc 2 1, 3) := by decide +kernel
theorem dX4_find_52 : decode cX4_find 52 = .ok (.goto (-45), 3) := by decide +kernel
theorem dX4_find_55 : decode cX4_find 55 = .ok (.return_, 1) := by decide +kernel
set_option maxRecDepth 20000 in
theorem ggX4_isPrime_X4_holdsOnly : GoodIn wsX4_isPrime wsX4_holdsOnly := goodIn_r _ [4, 5, 6, 7, 8, 9] (by decide +kernel) (by decide +kernel)
set_option maxRecDepth 20000 in
theorem gX4_isPrime_X4_holdsOnly : GoodIn wsX4_isPrime (va_wsS RX4 37 yX4_holdsOnly wsX4_holdsOnly) := goodIn_app (goodIn_of _ (by decide +kernel)) ggX4_isPrime_X4_holdsOnly
theorem dX4_isPrime_0 : decode cX4_isPrime 0 = .ok (.iload_n 0, 1) := by decide +kernel
theorem dX4_isPrime_1 : decode cX4_isPrime 1 = .ok (.iload_n 1, 1) := by decide +kernel
theorem dX4_isPrime_2 : decode cX4_isPrime 2 = .ok (.iload_n 2, 1) := by decide +kernel
theorem dX4_isPrime_3 : decode cX4_isPrime 3 = .ok (.invokestatic 37, 3) := by decide +kernel
theorem dX4_isPrime_6 : decode cX4_isPrime 6 = .ok (.ifCond .ne 5, 3) := by decide +kernel
theorem dX4_isPrime_9 : decode cX4_isPrime 9 = .ok (.iconst 0, 1) := by decide +kernel
theorem dX4_isPrime_10 : decode cX4_isPrime 10 = .ok (.ireturn, 1) := by decide +kernel
theorem dX4_isPrime_11 : decode cX4_isPrime 11 = .ok (.iconst 0, 1) := by decide +kernel
theorem dX4_isPrime_12 : decode cX4_isPrime 12 = .ok (.istore_n 3, 1) := by decide +kernel
theorem dX4_isPrime_13 : decode cX4_isPrime 13 = .ok (.iload_n 3, 1) := by decide +kernel
theorem dX4_isPrime_14 : decode cX4_isPrime 14 = .ok (.iconst 4, 1) := by decide +kernel
theorem dX4_isPrime_15 : decode cX4_isPrime 15 = .ok (.if_icmp .ge 39, 3) := by decide +kernel
theorem dX4_isPrime_18 : decode cX4_isPrime 18 = .ok (.iload_n 0, 1) := by decide +kernel
theorem dX4_isPrime_19 : decode cX4_isPrime 19 = .ok (.iconst 1, 1) := by decide +kernel
theorem dX4_isPrime_20 : decode cX4_isPrime 20 = .ok (.iload_n 3, 1) := by decide +kernel
theorem dX4_isPrime_21 : decode cX4_isPrime 21 = .ok (.ishl, 1) := by decide +kernel
theorem dX4_isPrime_22 : decode cX4_isPrime 22 = .ok (.iconst (-1), 1) := by decide +kernel
theorem dX4_isPrime_23 : decode cX4_isPrime 23 = .ok (.ixor, 1) := by decide +kernel
theorem dX4_isPrime_24 : decode cX4_isPrime 24 = .ok (.iand, 1) := by decide +kernel
theorem dX4_isPrime_25 : decode cX4_isPrime 25 = .ok (.istore 4, 2) := by decide +kernel
theorem dX4_isPrime_27 : decode cX4_isPrime 27 = .ok (.iload 4, 2) := by decide +kernel
theorem dX4_isPrime_29 : decode cX4_isPrime 29 = .ok (.iload_n 0, 1) := by decide +kernel
theorem dX4_isPrime_30 : decode cX4_isPrime 30 = .ok (.if_icmp .eq 18, 3) := by decide +kernel
theorem dX4_isPrime_33 : decode cX4_isPrime 33 = .ok (.iload 4, 2) := by decide +kernel
theorem dX4_isPrime_35 : decode cX4_isPrime 35 = .ok (.iload_n 1, 1) := by decide +kernel
theorem dX4_isPrime_36 : decode cX4_isPrime 36 = .ok (.iload 4, 2) := by decide +kernel
theorem dX4_isPrime_38 : decode cX4_isPrime 38 = .ok (.iand, 1) := by decide +kernel
theorem dX4_isPrime_39 : decode cX4_isPrime 39 = .ok (.iload_n 2, 1) := by decide +kernel
theorem dX4_isPrime_40 : decode cX4_isPrime 40 = .ok (.invokestatic 37, 3) := by decide +kernel
theorem dX4_isPrime_43 : decode cX4_isPrime 43 = .ok (.ifCond .eq 5, 3) := by decide +kernel
theorem dX4_isPrime_46 : decode cX4_isPrime 46 = .ok (.iconst 0, 1) := by decide +kernel
theorem dX4_isPrime_47 : decode cX4_isPrime 47 = .ok (.ireturn, 1) := by decide +kernel
theorem dX4_isPrime_48 : decode cX4_isPrime 48 = .ok (.iinc 3 1, 3) := by decide +kernel
theorem dX4_isPrime_51 : decode cX4_isPrime 51 = .ok (.goto (-38), 3) := by decide +kernel
theorem dX4_isPrime_54 : decode cX4_isPrime 54 = .ok (.iconst 1, 1) := by decide +kernel
theorem dX4_isPrime_55 : decode cX4_isPrime 55 = .ok (.ireturn, 1) := by decide +kernel
set_option maxRecDepth 20000 in
theorem ggX4_holdsOnly_X8_held : GoodIn wsX4_holdsOnly wsX8_held := goodIn_r _ [3, 4, 5] (by decide +kernel) (by decide +kernel)
set_option maxRecDepth 20000 in
theorem gX4_holdsOnly_X8_held_n40 : GoodIn wsX4_holdsOnly (wsX8_held) := ggX4_holdsOnly_X8_held
theorem dX4_holdsOnly_0 : decode cX4_holdsOnly 0 = .ok (.iload_n 0, 1) := by decide +kernel
theorem dX4_holdsOnly_1 : decode cX4_holdsOnly 1 = .ok (.iload_n 1, 1) := by decide +kernel
theorem dX4_holdsOnly_2 : decode cX4_holdsOnly 2 = .ok (.invokestatic 40, 3) := by decide +kernel
theorem dX4_holdsOnly_5 : decode cX4_holdsOnly 5 = .ok (.iload_n 2, 1) := by decide +kernel
theorem dX4_holdsOnly_6 : decode cX4_holdsOnly 6 = .ok (.iconst (-1), 1) := by decide +kernel
theorem dX4_holdsOnly_7 : decode cX4_holdsOnly 7 = .ok (.ixor, 1) := by decide +kernel
theorem dX4_holdsOnly_8 : decode cX4_holdsOnly 8 = .ok (.iand, 1) := by decide +kernel
theorem dX4_holdsOnly_9 : decode cX4_holdsOnly 9 = .ok (.ifCond .ne 7, 3) := by decide +kernel
theorem dX4_holdsOnly_12 : decode cX4_holdsOnly 12 = .ok (.iconst 1, 1) := by decide +kernel
theorem dX4_holdsOnly_13 : decode cX4_holdsOnly 13 = .ok (.goto 4, 3) := by decide +kernel
theorem dX4_holdsOnly_16 : decode cX4_holdsOnly 16 = .ok (.iconst 0, 1) := by decide +kernel
theorem dX4_holdsOnly_17 : decode cX4_holdsOnly 17 = .ok (.ireturn, 1) := by decide +kernel
set_option maxRecDepth 20000 in
theorem ggX4_append_X8_held : GoodIn wsX4_append wsX8_held := goodIn_r _ [8, 9, 10] (by decide +kernel) (by decide +kernel)
set_option maxRecDepth 20000 in
theorem gX4_append_X8_held_n40 : GoodIn wsX4_append (wsX8_held) := ggX4_append_X8_held
set_option maxRecDepth 20000 in
theorem ggX4_append_X8_pairsAmong : GoodIn wsX4_append wsX8_pairsAmong := goodIn_r _ [12, 10] (by decide +kernel) (by decide +kernel)
set_option maxRecDepth 20000 in
theorem gX4_append_X8_pairsAmong_n44 : GoodIn wsX4_append (wsX8_pairsAmong) := ggX4_append_X8_pairsAmong
theorem dX4_append_0 : decode cX4_append 0 = .ok (.aload_n 0, 1) := by decide +kernel
theorem dX4_append_1 : decode cX4_append 1 = .ok (.getfield 25, 3) := by decide +kernel
theorem dX4_append_4 : decode cX4_append 4 = .ok (.bipush 32, 2) := by decide +kernel
theorem dX4_append_6 : decode cX4_append 6 = .ok (.if_icmp .lt 4, 3) := by decide +kernel
theorem dX4_append_9 : decode cX4_append 9 = .ok (.return_, 1) := by decide +kernel
theorem dX4_append_10 : decode cX4_append 10 = .ok (.aload_n 0, 1) := by decide +kernel
theorem dX4_append_11 : decode cX4_append 11 = .ok (.getfield 11, 3) := by decide +kernel
theorem dX4_append_14 : decode cX4_append 14 = .ok (.aload_n 0, 1) := by decide +kernel
theorem dX4_append_15 : decode cX4_append 15 = .ok (.getfield 25, 3) := by decide +kernel
theorem dX4_append_18 : decode cX4_append 18 = .ok (.iload_n 1, 1) := by decide +kernel
theorem dX4_append_19 : decode cX4_append 19 = .ok (.iastore, 1) := by decide +kernel
theorem dX4_append_20 : decode cX4_append 20 = .ok (.aload_n 0, 1) := by decide +kernel
theorem dX4_append_21 : decode cX4_append 21 = .ok (.getfield 15, 3) := by decide +kernel
theorem dX4_append_24 : decode cX4_append 24 = .ok (.aload_n 0, 1) := by decide +kernel
theorem dX4_append_25 : decode cX4_append 25 = .ok (.getfield 25, 3) := by decide +kernel
theorem dX4_append_28 : decode cX4_append 28 = .ok (.iload_n 2, 1) := by decide +kernel
theorem dX4_append_29 : decode cX4_append 29 = .ok (.iastore, 1) := by decide +kernel
theorem dX4_append_30 : decode cX4_append 30 = .ok (.aload_n 0, 1) := by decide +kernel
theorem dX4_append_31 : decode cX4_append 31 = .ok (.getfield 18, 3) := by decide +kernel
theorem dX4_append_34 : decode cX4_append 34 = .ok (.aload_n 0, 1) := by decide +kernel
theorem dX4_append_35 : decode cX4_append 35 = .ok (.getfield 25, 3) := by decide +kernel
theorem dX4_append_38 : decode cX4_append 38 = .ok (.iload_n 1, 1) := by decide +kernel
theorem dX4_append_39 : decode cX4_append 39 = .ok (.iload_n 2, 1) := by decide +kernel
theorem dX4_append_40 : decode cX4_append 40 = .ok (.invokestatic 40, 3) := by decide +kernel
theorem dX4_append_43 : decode cX4_append 43 = .ok (.invokestatic 44, 3) := by decide +kernel
theorem dX4_append_46 : decode cX4_append 46 = .ok (.lastore, 1) := by decide +kernel
theorem dX4_append_47 : decode cX4_append 47 = .ok (.aload_n 0, 1) := by decide +kernel
theorem dX4_append_48 : decode cX4_append 48 = .ok (.getfield 22, 3) := by decide +kernel
theorem dX4_append_51 : decode cX4_append 51 = .ok (.aload_n 0, 1) := by decide +kernel
theorem dX4_append_52 : decode cX4_append 52 = .ok (.getfield 25, 3) := by decide +kernel
theorem dX4_append_55 : decode cX4_append 55 = .ok (.iconst 1, 1) := by decide +kernel
theorem dX4_append_56 : decode cX4_append 56 = .ok (.iadd, 1) := by decide +kernel
theorem dX4_append_57 : decode cX4_append 57 = .ok (.aload_n 0, 1) := by decide +kernel
theorem dX4_append_58 : decode cX4_append 58 = .ok (.getfield 22, 3) := by decide +kernel
theorem dX4_append_61 : decode cX4_append 61 = .ok (.aload_n 0, 1) := by decide +kernel
theorem dX4_append_62 : decode cX4_append 62 = .ok (.getfield 25, 3) := by decide +kernel
theorem dX4_append_65 : decode cX4_append 65 = .ok (.laload, 1) := by decide +kernel
theorem dX4_append_66 : decode cX4_append 66 = .ok (.aload_n 0, 1) := by decide +kernel
theorem dX4_append_67 : decode cX4_append 67 = .ok (.getfield 18, 3) := by decide +kernel
theorem dX4_append_70 : decode cX4_append 70 = .ok (.aload_n 0, 1) := by decide +kernel
theorem dX4_append_71 : decode cX4_append 71 = .ok (.getfield 25, 3) := by decide +kernel
theorem dX4_append_74 : decode cX4_append 74 = .ok (.laload, 1) := by decide +kernel
theorem dX4_append_75 : decode cX4_append 75 = .ok (.lor, 1) := by decide +kernel
theorem dX4_append_76 : decode cX4_append 76 = .ok (.lastore, 1) := by decide +kernel
theorem dX4_append_77 : decode cX4_append 77 = .ok (.aload_n 0, 1) := by decide +kernel
theorem dX4_append_78 : decode cX4_append 78 = .ok (.dup, 1) := by decide +kernel
theorem dX4_append_79 : decode cX4_append 79 = .ok (.getfield 25, 3) := by decide +kernel
theorem dX4_append_82 : decode cX4_append 82 = .ok (.iconst 1, 1) := by decide +kernel
theorem dX4_append_83 : decode cX4_append 83 = .ok (.iadd, 1) := by decide +kernel
theorem dX4_append_84 : decode cX4_append 84 = .ok (.putfield 25, 3) := by decide +kernel
theorem dX4_append_87 : decode cX4_append 87 = .ok (.return_, 1) := by decide +kernel
set_option maxRecDepth 20000 in
theorem ggX4_fewestHolding_X4_leastSet : GoodIn wsX4_fewestHolding wsX4_leastSet := goodIn_r _ [8, 4, 5, 6, 7] (by decide +kernel) (by decide +kernel)
set_option maxRecDepth 20000 in
theorem gX4_fewestHolding_X4_leastSet : GoodIn wsX4_fewestHolding (va_wsS RX4 48 yX4_leastSet wsX4_leastSet) := goodIn_app (goodIn_of _ (by decide +kernel)) ggX4_fewestHolding_X4_leastSet
theorem dX4_fewestHolding_0 : decode cX4_fewestHolding 0 = .ok (.iconst 0, 1) := by decide +kernel
theorem dX4_fewestHolding_1 : decode cX4_fewestHolding 1 = .ok (.istore_n 3, 1) := by decide +kernel
theorem dX4_fewestHolding_2 : decode cX4_fewestHolding 2 = .ok (.iload_n 3, 1) := by decide +kernel
theorem dX4_fewestHolding_3 : decode cX4_fewestHolding 3 = .ok (.aload_n 0, 1) := by decide +kernel
theorem dX4_fewestHolding_4 : decode cX4_fewestHolding 4 = .ok (.getfield 25, 3) := by decide +kernel
theorem dX4_fewestHolding_7 : decode cX4_fewestHolding 7 = .ok (.if_icmp .gt 40, 3) := by decide +kernel
theorem dX4_fewestHolding_10 : decode cX4_fewestHolding 10 = .ok (.aload_n 0, 1) := by decide +kernel
theorem dX4_fewestHolding_11 : decode cX4_fewestHolding 11 = .ok (.getfield 18, 3) := by decide +kernel
theorem dX4_fewestHolding_14 : decode cX4_fewestHolding 14 = .ok (.aload_n 0, 1) := by decide +kernel
theorem dX4_fewestHolding_15 : decode cX4_fewestHolding 15 = .ok (.getfield 22, 3) := by decide +kernel
theorem dX4_fewestHolding_18 : decode cX4_fewestHolding 18 = .ok (.aload_n 0, 1) := by decide +kernel
theorem dX4_fewestHolding_19 : decode cX4_fewestHolding 19 = .ok (.getfield 25, 3) := by decide +kernel
theorem dX4_fewestHolding_22 : decode cX4_fewestHolding 22 = .ok (.iload_n 3, 1) := by decide +kernel
theorem dX4_fewestHolding_23 : decode cX4_fewestHolding 23 = .ok (.lload_n 1, 1) := by decide +kernel
theorem dX4_fewestHolding_24 : decode cX4_fewestHolding 24 = .ok (.invokestatic 48, 3) := by decide +kernel
theorem dX4_fewestHolding_27 : decode cX4_fewestHolding 27 = .ok (.lstore 4, 2) := by decide +kernel
theorem dX4_fewestHolding_29 : decode cX4_fewestHolding 29 = .ok (.lload 4, 2) := by decide +kernel
theorem dX4_fewestHolding_31 : decode cX4_fewestHolding 31 = .ok (.ldc2_w 52, 3) := by decide +kernel
theorem dX4_fewestHolding_34 : decode cX4_fewestHolding 34 = .ok (.lcmp, 1) := by decide +kernel
theorem dX4_fewestHolding_35 : decode cX4_fewestHolding 35 = .ok (.ifCond .eq 6, 3) := by decide +kernel
theorem dX4_fewestHolding_38 : decode cX4_fewestHolding 38 = .ok (.lload 4, 2) := by decide +kernel
theorem dX4_fewestHolding_40 : decode cX4_fewestHolding 40 = .ok (.lreturn, 1) := by decide +kernel
theorem dX4_fewestHolding_41 : decode cX4_fewestHolding 41 = .ok (.iinc 3 1, 3) := by decide +kernel
theorem dX4_fewestHolding_44 : decode cX4_fewestHolding 44 = .ok (.goto (-42), 3) := by decide +kernel
theorem dX4_fewestHolding_47 : decode cX4_fewestHolding 47 = .ok (.lconst 0, 1) := by decide +kernel
theorem dX4_fewestHolding_48 : decode cX4_fewestHolding 48 = .ok (.lreturn, 1) := by decide +kernel
set_option maxRecDepth 20000 in
theorem ggX4_leastSet_X4_leastSet : GoodIn wsX4_leastSet wsX4_leastSet := goodIn_r _ [0, 1, 2, 3, 4] (by decide +kernel) (by decide +kernel)
set_option maxRecDepth 20000 in
theorem gX4_leastSet_X4_leastSet : GoodIn wsX4_leastSet (va_wsS RX4 48 yX4_leastSet wsX4_leastSet) := goodIn_app (goodIn_of _ (by decide +kernel)) ggX4_leastSet_X4_leastSet
theorem dX4_leastSet_0 : decode cX4_leastSet 0 = .ok (.lload 4, 2) := by decide +kernel
theorem dX4_leastSet_2 : decode cX4_leastSet 2 = .ok (.lconst 0, 1) := by decide +kernel
theorem dX4_leastSet_3 : decode cX4_leastSet 3 = .ok (.lcmp, 1) := by decide +kernel
theorem dX4_leastSet_4 : decode cX4_leastSet 4 = .ok (.ifCond .ne 5, 3) := by decide +kernel
theorem dX4_leastSet_7 : decode cX4_leastSet 7 = .ok (.lconst 0, 1) := by decide +kernel
theorem dX4_leastSet_8 : decode cX4_leastSet 8 = .ok (.lreturn, 1) := by decide +kernel
theorem dX4_leastSet_9 : decode cX4_leastSet 9 = .ok (.iload_n 2, 1) := by decide +kernel
theorem dX4_leastSet_10 : decode cX4_leastSet 10 = .ok (.ifCond .le 28, 3) := by decide +kernel
theorem dX4_leastSet_13 : decode cX4_leastSet 13 = .ok (.iload_n 2, 1) := by decide +kernel
theorem dX4_leastSet_14 : decode cX4_leastSet 14 = .ok (.bipush 32, 2) := by decide +kernel
theorem dX4_leastSet_16 : decode cX4_leastSet 16 = .ok (.if_icmp .gt 22, 3) := by decide +kernel
theorem dX4_leastSet_19 : decode cX4_leastSet 19 = .ok (.iload_n 3, 1) := by decide +kernel
theorem dX4_leastSet_20 : decode cX4_leastSet 20 = .ok (.ifCond .le 18, 3) := by decide +kernel
theorem dX4_leastSet_23 : decode cX4_leastSet 23 = .ok (.lload 4, 2) := by decide +kernel
theorem dX4_leastSet_25 : decode cX4_leastSet 25 = .ok (.aload_n 1, 1) := by decide +kernel
theorem dX4_leastSet_26 : decode cX4_leastSet 26 = .ok (.iload_n 2, 1) := by decide +kernel
theorem dX4_leastSet_27 : decode cX4_leastSet 27 = .ok (.laload, 1) := by decide +kernel
theorem dX4_leastSet_28 : decode cX4_leastSet 28 = .ok (.ldc2_w 52, 3) := by decide +kernel
theorem dX4_leastSet_31 : decode cX4_leastSet 31 = .ok (.lxor, 1) := by decide +kernel
theorem dX4_leastSet_32 : decode cX4_leastSet 32 = .ok (.land, 1) := by decide +kernel
theorem dX4_leastSet_33 : decode cX4_leastSet 33 = .ok (.lconst 0, 1) := by decide +kernel
theorem dX4_leastSet_34 : decode cX4_leastSet 34 = .ok (.lcmp, 1) := by decide +kernel
theorem dX4_leastSet_35 : decode cX4_leastSet 35 = .ok (.ifCond .eq 7, 3) := by decide +kernel
theorem dX4_leastSet_38 : decode cX4_leastSet 38 = .ok (.ldc2_w 52, 3) := by decide +kernel
theorem dX4_leastSet_41 : decode cX4_leastSet 41 = .ok (.lreturn, 1) := by decide +kernel
theorem dX4_leastSet_42 : decode cX4_leastSet 42 = .ok (.iload_n 2, 1) := by decide +kernel
theorem dX4_leastSet_43 : decode cX4_leastSet 43 = .ok (.iconst 1, 1) := by decide +kernel
theorem dX4_leastSet_44 : decode cX4_leastSet 44 = .ok (.isub, 1) := by decide +kernel
theorem dX4_leastSet_45 : decode cX4_leastSet 45 = .ok (.istore 6, 2) := by decide +kernel
theorem dX4_leastSet_47 : decode cX4_leastSet 47 = .ok (.aload_n 0, 1) := by decide +kernel
theorem dX4_leastSet_48 : decode cX4_leastSet 48 = .ok (.aload_n 1, 1) := by decide +kernel
theorem dX4_leastSet_49 : decode cX4_leastSet 49 = .ok (.iload 6, 2) := by decide +kernel
theorem dX4_leastSet_51 : decode cX4_leastSet 51 = .ok (.iload_n 3, 1) := by decide +kernel
theorem dX4_leastSet_52 : decode cX4_leastSet 52 = .ok (.lload 4, 2) := by decide +kernel
theorem dX4_leastSet_54 : decode cX4_leastSet 54 = .ok (.invokestatic 48, 3) := by decide +kernel
theorem dX4_leastSet_57 : decode cX4_leastSet 57 = .ok (.lstore 7, 2) := by decide +kernel
theorem dX4_leastSet_59 : decode cX4_leastSet 59 = .ok (.lload 7, 2) := by decide +kernel
theorem dX4_leastSet_61 : decode cX4_leastSet 61 = .ok (.ldc2_w 52, 3) := by decide +kernel
theorem dX4_leastSet_64 : decode cX4_leastSet 64 = .ok (.lcmp, 1) := by decide +kernel
theorem dX4_leastSet_65 : decode cX4_leastSet 65 = .ok (.ifCond .eq 6, 3) := by decide +kernel
theorem dX4_leastSet_68 : decode cX4_leastSet 68 = .ok (.lload 7, 2) := by decide +kernel
theorem dX4_leastSet_70 : decode cX4_leastSet 70 = .ok (.lreturn, 1) := by decide +kernel
theorem dX4_leastSet_71 : decode cX4_leastSet 71 = .ok (.aload_n 0, 1) := by decide +kernel
theorem dX4_leastSet_72 : decode cX4_leastSet 72 = .ok (.aload_n 1, 1) := by decide +kernel
theorem dX4_leastSet_73 : decode cX4_leastSet 73 = .ok (.iload 6, 2) := by decide +kernel
theorem dX4_leastSet_75 : decode cX4_leastSet 75 = .ok (.iload_n 3, 1) := by decide +kernel
theorem dX4_leastSet_76 : decode cX4_leastSet 76 = .ok (.iconst 1, 1) := by decide +kernel
theorem dX4_leastSet_77 : decode cX4_leastSet 77 = .ok (.isub, 1) := by decide +kernel
theorem dX4_leastSet_78 : decode cX4_leastSet 78 = .ok (.lload 4, 2) := by decide +kernel
theorem dX4_leastSet_80 : decode cX4_leastSet 80 = .ok (.aload_n 0, 1) := by decide +kernel
theorem dX4_leastSet_81 : decode cX4_leastSet 81 = .ok (.iload 6, 2) := by decide +kernel
theorem dX4_leastSet_83 : decode cX4_leastSet 83 = .ok (.laload, 1) := by decide +kernel
theorem dX4_leastSet_84 : decode cX4_leastSet 84 = .ok (.ldc2_w 52, 3) := by decide +kernel
theorem dX4_leastSet_87 : decode cX4_leastSet 87 = .ok (.lxor, 1) := by decide +kernel
theorem dX4_leastSet_88 : decode cX4_leastSet 88 = .ok (.land, 1) := by decide +kernel
theorem dX4_leastSet_89 : decode cX4_leastSet 89 = .ok (.invokestatic 48, 3) := by decide +kernel
theorem dX4_leastSet_92 : decode cX4_leastSet 92 = .ok (.lstore 9, 2) := by decide +kernel
theorem dX4_leastSet_94 : decode cX4_leastSet 94 = .ok (.lload 9, 2) := by decide +kernel
theorem dX4_leastSet_96 : decode cX4_leastSet 96 = .ok (.ldc2_w 52, 3) := by decide +kernel
theorem dX4_leastSet_99 : decode cX4_leastSet 99 = .ok (.lcmp, 1) := by decide +kernel
theorem dX4_leastSet_100 : decode cX4_leastSet 100 = .ok (.ifCond .ne 9, 3) := by decide +kernel
theorem dX4_leastSet_103 : decode cX4_leastSet 103 = .ok (.ldc2_w 52, 3) := by decide +kernel
theorem dX4_leastSet_106 : decode cX4_leastSet 106 = .ok (.goto 10, 3) := by decide +kernel
theorem dX4_leastSet_109 : decode cX4_leastSet 109 = .ok (.lload 9, 2) := by decide +kernel
theorem dX4_leastSet_111 : decode cX4_leastSet 111 = .ok (.lconst 1, 1) := by decide +kernel
theorem dX4_leastSet_112 : decode cX4_leastSet 112 = .ok (.iload 6, 2) := by decide +kernel
theorem dX4_leastSet_114 : decode cX4_leastSet 114 = .ok (.lshl, 1) := by decide +kernel
theorem dX4_leastSet_115 : decode cX4_leastSet 115 = .ok (.lor, 1) := by decide +kernel
theorem dX4_leastSet_116 : decode cX4_leastSet 116 = .ok (.lreturn, 1) := by decide +kernel
theorem dX5_init_0 : decode cX5_init 0 = .ok (.aload_n 0, 1) := by decide +kernel
theorem dX5_init_1 : decode cX5_init 1 = .ok (.invokespecial 3, 3) := by decide +kernel
theorem dX5_init_4 : decode cX5_init 4 = .ok (.aload_n 0, 1) := by decide +kernel
theorem dX5_init_5 : decode cX5_init 5 = .ok (.bipush 40, 2) := by decide +kernel
theorem dX5_init_7 : decode cX5_init 7 = .ok (.newarray .int, 2) := by decide +kernel
theorem dX5_init_9 : decode cX5_init 9 = .ok (.putfield 11, 3) := by decide +kernel
theorem dX5_init_12 : decode cX5_init 12 = .ok (.aload_n 0, 1) := by decide +kernel
theorem dX5_init_13 : decode cX5_init 13 = .ok (.iconst (-1), 1) := by decide +kernel
theorem dX5_init_14 : decode cX5_init 14 = .ok (.putfield 15, 3) := by decide +kernel
theorem dX5_init_17 : decode cX5_init 17 = .ok (.return_, 1) := by decide +kernel
theorem dX5_isMissing_0 : decode cX5_isMissing 0 = .ok (.aload_n 0, 1) := by decide +kernel
theorem dX5_isMissing_1 : decode cX5_isMissing 1 = .ok (.getfield 15, 3) := by decide +kernel
theorem dX5_isMissing_4 : decode cX5_isMissing 4 = .ok (.iconst (-1), 1) := by decide +kernel
theorem dX5_isMissing_5 : decode cX5_isMissing 5 = .ok (.if_icmp .ne 7, 3) := by decide +kernel
theorem dX5_isMissing_8 : decode cX5_isMissing 8 = .ok (.iconst 1, 1) := by decide +kernel
theorem dX5_isMissing_9 : decode cX5_isMissing 9 = .ok (.goto 4, 3) := by decide +kernel
theorem dX5_isMissing_12 : decode cX5_isMissing 12 = .ok (.iconst 0, 1) := by decide +kernel
theorem dX5_isMissing_13 : decode cX5_isMissing 13 = .ok (.ireturn, 1) := by decide +kernel
theorem dX5_has_0 : decode cX5_has 0 = .ok (.iload_n 1, 1) := by decide +kernel
theorem dX5_has_1 : decode cX5_has 1 = .ok (.ifCond .lt 15, 3) := by decide +kernel
theorem dX5_has_4 : decode cX5_has 4 = .ok (.iload_n 1, 1) := by decide +kernel
theorem dX5_has_5 : decode cX5_has 5 = .ok (.aload_n 0, 1) := by decide +kernel
theorem dX5_has_6 : decode cX5_has 6 = .ok (.getfield 19, 3) := by decide +kernel
theorem dX5_has_9 : decode cX5_has 9 = .ok (.if_icmp .ge 7, 3) := by decide +kernel
theorem dX5_has_12 : decode cX5_has 12 = .ok (.iconst 1, 1) := by decide +kernel
theorem dX5_has_13 : decode cX5_has 13 = .ok (.goto 4, 3) := by decide +kernel
theorem dX5_has_16 : decode cX5_has 16 = .ok (.iconst 0, 1) := by decide +kernel
theorem dX5_has_17 : decode cX5_has 17 = .ok (.ireturn, 1) := by decide +kernel
theorem dX5_hasRun_0 : decode cX5_hasRun 0 = .ok (.iload_n 1, 1) := by decide +kernel
theorem dX5_hasRun_1 : decode cX5_hasRun 1 = .ok (.ifCond .lt 21, 3) := by decide +kernel
theorem dX5_hasRun_4 : decode cX5_hasRun 4 = .ok (.iload_n 2, 1) := by decide +kernel
theorem dX5_hasRun_5 : decode cX5_hasRun 5 = .ok (.ifCond .lt 17, 3) := by decide +kernel
theorem dX5_hasRun_8 : decode cX5_hasRun 8 = .ok (.iload_n 1, 1) := by decide +kernel
theorem dX5_hasRun_9 : decode cX5_hasRun 9 = .ok (.aload_n 0, 1) := by decide +kernel
theorem dX5_hasRun_10 : decode cX5_hasRun 10 = .ok (.getfield 19, 3) := by decide +kernel
theorem dX5_hasRun_13 : decode cX5_hasRun 13 = .ok (.iload_n 2, 1) := by decide +kernel
theorem dX5_hasRun_14 : decode cX5_hasRun 14 = .ok (.isub, 1) := by decide +kernel
theorem dX5_hasRun_15 : decode cX5_hasRun 15 = .ok (.if_icmp .gt 7, 3) := by decide +kernel
theorem dX5_hasRun_18 : decode cX5_hasRun 18 = .ok (.iconst 1, 1) := by decide +kernel
theorem dX5_hasRun_19 : decode cX5_hasRun 19 = .ok (.goto 4, 3) := by decide +kernel
theorem dX5_hasRun_22 : decode cX5_hasRun 22 = .ok (.iconst 0, 1) := by decide +kernel
theorem dX5_hasRun_23 : decode cX5_hasRun 23 = .ok (.ireturn, 1) := by decide +kernel
theorem dX5_become_0 : decode cX5_become 0 = .ok (.iload_n 2, 1) := by decide +kernel
theorem dX5_become_1 : decode cX5_become 1 = .ok (.ifCond .lt 9, 3) := by decide +kernel
theorem dX5_become_4 : decode cX5_become 4 = .ok (.iload_n 2, 1) := by decide +kernel
theorem dX5_become_5 : decode cX5_become 5 = .ok (.bipush 40, 2) := by decide +kernel
theorem dX5_become_7 : decode cX5_become 7 = .ok (.if_icmp .le 4, 3) := by decide +kernel
theorem dX5_become_10 : decode cX5_become 10 = .ok (.return_, 1) := by decide +kernel
theorem dX5_become_11 : decode cX5_become 11 = .ok (.aload_n 0, 1) := by decide +kernel
theorem dX5_become_12 : decode cX5_become 12 = .ok (.iload_n 1, 1) := by decide +kernel
theorem dX5_become_13 : decode cX5_become 13 = .ok (.putfield 15, 3) := by decide +kernel
theorem dX5_become_16 : decode cX5_become 16 = .ok (.aload_n 0, 1) := by decide +kernel
theorem dX5_become_17 : decode cX5_become 17 = .ok (.iload_n 2, 1) := by decide +kernel
theorem dX5_become_18 : decode cX5_become 18 = .ok (.putfield 19, 3) := by decide +kernel
theorem dX5_become_21 : decode cX5_become 21 = .ok (.iconst 0, 1) := by decide +kernel
theorem dX5_become_22 : decode cX5_become 22 = .ok (.istore_n 3, 1) := by decide +kernel
theorem dX5_become_23 : decode cX5_become 23 = .ok (.iload_n 3, 1) := by decide +kernel
theorem dX5_become_24 : decode cX5_become 24 = .ok (.aload_n 0, 1) := by decide +kernel
theorem dX5_become_25 : decode cX5_become 25 = .ok (.getfield 19, 3) := by decide +kernel
theorem dX5_become_28 : decode cX5_become 28 = .ok (.if_icmp .ge 16, 3) := by decide +kernel
theorem dX5_become_31 : decode cX5_become 31 = .ok (.aload_n 0, 1) := by decide +kernel
theorem dX5_become_32 : decode cX5_become 32 = .ok (.getfield 11, 3) := by decide +kernel
theorem dX5_become_35 : decode cX5_become 35 = .ok (.iload_n 3, 1) := by decide +kernel
theorem dX5_become_36 : decode cX5_become 36 = .ok (.iconst 0, 1) := by decide +kernel
theorem dX5_become_37 : decode cX5_become 37 = .ok (.iastore, 1) := by decide +kernel
theorem dX5_become_38 : decode cX5_become 38 = .ok (.iinc 3 1, 3) := by decide +kernel
theorem dX5_become_41 : decode cX5_become 41 = .ok (.goto (-18), 3) := by decide +kernel
theorem dX5_become_44 : decode cX5_become 44 = .ok (.return_, 1) := by decide +kernel
set_option maxRecDepth 20000 in
theorem ggX5_set_X5_has : GoodIn wsX5_set wsX5_has := goodIn_r _ [7, 8, 9, 10, 11] (by decide +kernel) (by decide +kernel)
set_option maxRecDepth 20000 in
theorem gX5_set_X5_has : GoodIn wsX5_set (wsV RX5 22 RX5 yX5_has wsX5_has) := goodIn_app (goodIn_of _ (by decide +kernel)) ggX5_set_X5_has
theorem dX5_set_0 : decode cX5_set 0 = .ok (.aload_n 0, 1) := by decide +kernel
theorem dX5_set_1 : decode cX5_set 1 = .ok (.iload_n 1, 1) := by decide +kernel
theorem dX5_set_2 : decode cX5_set 2 = .ok (.invokevirtual 22, 3) := by decide +kernel
theorem dX5_set_5 : decode cX5_set 5 = .ok (.ifCond .eq 25, 3) := by decide +kernel
theorem dX5_set_8 : decode cX5_set 8 = .ok (.aload_n 0, 1) := by decide +kernel
theorem dX5_set_9 : decode cX5_set 9 = .ok (.getfield 11, 3) := by decide +kernel
theorem dX5_set_12 : decode cX5_set 12 = .ok (.iload_n 1, 1) := by decide +kernel
theorem dX5_set_13 : decode cX5_set 13 = .ok (.aload_n 0, 1) := by decide +kernel
theorem dX5_set_14 : decode cX5_set 14 = .ok (.getfield 15, 3) := by decide +kernel
theorem dX5_set_17 : decode cX5_set 17 = .ok (.ifCond .ne 11, 3) := by decide +kernel
theorem dX5_set_20 : decode cX5_set 20 = .ok (.iload_n 2, 1) := by decide +kernel
theorem dX5_set_21 : decode cX5_set 21 = .ok (.sipush 255, 3) := by decide +kernel
theorem dX5_set_24 : decode cX5_set 24 = .ok (.iand, 1) := by decide +kernel
theorem dX5_set_25 : decode cX5_set 25 = .ok (.goto 4, 3) := by decide +kernel
theorem dX5_set_28 : decode cX5_set 28 = .ok (.iload_n 2, 1) := by decide +kernel
theorem dX5_set_29 : decode cX5_set 29 = .ok (.iastore, 1) := by decide +kernel
theorem dX5_set_30 : decode cX5_set 30 = .ok (.return_, 1) := by decide +kernel
theorem dX6_init_0 : decode cX6_init 0 = .ok (.aload_n 0, 1) := by decide +kernel
theorem dX6_init_1 : decode cX6_init 1 = .ok (.invokespecial 1, 3) := by decide +kernel
theorem dX6_init_4 : decode cX6_init 4 = .ok (.aload_n 0, 1) := by decide +kernel
theorem dX6_init_5 : decode cX6_init 5 = .ok (.bipush 30, 2) := by decide +kernel
theorem dX6_init_7 : decode cX6_init 7 = .ok (.newarray .int, 2) := by decide +kernel
theorem dX6_init_9 : decode cX6_init 9 = .ok (.putfield 9, 3) := by decide +kernel
theorem dX6_init_12 : decode cX6_init 12 = .ok (.return_, 1) := by decide +kernel
theorem dX6_room_0 : decode cX6_room 0 = .ok (.bipush 30, 2) := by decide +kernel
theorem dX6_room_2 : decode cX6_room 2 = .ok (.aload_n 0, 1) := by decide +kernel
theorem dX6_room_3 : decode cX6_room 3 = .ok (.getfield 13, 3) := by decide +kernel
theorem dX6_room_6 : decode cX6_room 6 = .ok (.isub, 1) := by decide +kernel
theorem dX6_room_7 : decode cX6_room 7 = .ok (.ireturn, 1) := by decide +kernel
theorem dX6_append_0 : decode cX6_append 0 = .ok (.aload_n 0, 1) := by decide +kernel
theorem dX6_append_1 : decode cX6_append 1 = .ok (.getfield 13, 3) := by decide +kernel
theorem dX6_append_4 : decode cX6_append 4 = .ok (.bipush 30, 2) := by decide +kernel
theorem dX6_append_6 : decode cX6_append 6 = .ok (.if_icmp .ge 23, 3) := by decide +kernel
theorem dX6_append_9 : decode cX6_append 9 = .ok (.aload_n 0, 1) := by decide +kernel
theorem dX6_append_10 : decode cX6_append 10 = .ok (.getfield 9, 3) := by decide +kernel
theorem dX6_append_13 : decode cX6_append 13 = .ok (.aload_n 0, 1) := by decide +kernel
theorem dX6_append_14 : decode cX6_append 14 = .ok (.getfield 13, 3) := by decide +kernel
theorem dX6_append_17 : decode cX6_append 17 = .ok (.iload_n 1, 1) := by decide +kernel
theorem dX6_append_18 : decode cX6_append 18 = .ok (.iastore, 1) := by decide +kernel
theorem dX6_append_19 : decode cX6_append 19 = .ok (.aload_n 0, 1) := by decide +kernel
theorem dX6_append_20 : decode cX6_append 20 = .ok (.dup, 1) := by decide +kernel
theorem dX6_append_21 : decode cX6_append 21 = .ok (.getfield 13, 3) := by decide +kernel
theorem dX6_append_24 : decode cX6_append 24 = .ok (.iconst 1, 1) := by decide +kernel
theorem dX6_append_25 : decode cX6_append 25 = .ok (.iadd, 1) := by decide +kernel
theorem dX6_append_26 : decode cX6_append 26 = .ok (.putfield 13, 3) := by decide +kernel
theorem dX6_append_29 : decode cX6_append 29 = .ok (.return_, 1) := by decide +kernel
theorem dX6_hasLetter_0 : decode cX6_hasLetter 0 = .ok (.iload_n 1, 1) := by decide +kernel
theorem dX6_hasLetter_1 : decode cX6_hasLetter 1 = .ok (.aload_n 0, 1) := by decide +kernel
theorem dX6_hasLetter_2 : decode cX6_hasLetter 2 = .ok (.getfield 13, 3) := by decide +kernel
theorem dX6_hasLetter_5 : decode cX6_hasLetter 5 = .ok (.if_icmp .ge 29, 3) := by decide +kernel
theorem dX6_hasLetter_8 : decode cX6_hasLetter 8 = .ok (.aload_n 0, 1) := by decide +kernel
theorem dX6_hasLetter_9 : decode cX6_hasLetter 9 = .ok (.getfield 9, 3) := by decide +kernel
theorem dX6_hasLetter_12 : decode cX6_hasLetter 12 = .ok (.iload_n 1, 1) := by decide +kernel
theorem dX6_hasLetter_13 : decode cX6_hasLetter 13 = .ok (.iaload, 1) := by decide +kernel
theorem dX6_hasLetter_14 : decode cX6_hasLetter 14 = .ok (.bipush 97, 2) := by decide +kernel
theorem dX6_hasLetter_16 : decode cX6_hasLetter 16 = .ok (.if_icmp .lt 18, 3) := by decide +kernel
theorem dX6_hasLetter_19 : decode cX6_hasLetter 19 = .ok (.aload_n 0, 1) := by decide +kernel
theorem dX6_hasLetter_20 : decode cX6_hasLetter 20 = .ok (.getfield 9, 3) := by decide +kernel
theorem dX6_hasLetter_23 : decode cX6_hasLetter 23 = .ok (.iload_n 1, 1) := by decide +kernel
theorem dX6_hasLetter_24 : decode cX6_hasLetter 24 = .ok (.iaload, 1) := by decide +kernel
theorem dX6_hasLetter_25 : decode cX6_hasLetter 25 = .ok (.bipush 122, 2) := by decide +kernel
theorem dX6_hasLetter_27 : decode cX6_hasLetter 27 = .ok (.if_icmp .gt 7, 3) := by decide +kernel
theorem dX6_hasLetter_30 : decode cX6_hasLetter 30 = .ok (.iconst 1, 1) := by decide +kernel
theorem dX6_hasLetter_31 : decode cX6_hasLetter 31 = .ok (.goto 4, 3) := by decide +kernel
theorem dX6_hasLetter_34 : decode cX6_hasLetter 34 = .ok (.iconst 0, 1) := by decide +kernel
theorem dX6_hasLetter_35 : decode cX6_hasLetter 35 = .ok (.ireturn, 1) := by decide +kernel
theorem dX6_hasDigit_0 : decode cX6_hasDigit 0 = .ok (.iload_n 1, 1) := by decide +kernel
theorem dX6_hasDigit_1 : decode cX6_hasDigit 1 = .ok (.aload_n 0, 1) := by decide +kernel
theorem dX6_hasDigit_2 : decode cX6_hasDigit 2 = .ok (.getfield 13, 3) := by decide +kernel
theorem dX6_hasDigit_5 : decode cX6_hasDigit 5 = .ok (.if_icmp .ge 29, 3) := by decide +kernel
theorem dX6_hasDigit_8 : decode cX6_hasDigit 8 = .ok (.aload_n 0, 1) := by decide +kernel
theorem dX6_hasDigit_9 : decode cX6_hasDigit 9 = .ok (.getfield 9, 3) := by decide +kernel
theorem dX6_hasDigit_12 : decode cX6_hasDigit 12 = .ok (.iload_n 1, 1) := by decide +kernel
theorem dX6_hasDigit_13 : decode cX6_hasDigit 13 = .ok (.iaload, 1) := by decide +kernel
theorem dX6_hasDigit_14 : decode cX6_hasDigit 14 = .ok (.bipush 48, 2) := by decide +kernel
theorem dX6_hasDigit_16 : decode cX6_hasDigit 16 = .ok (.if_icmp .lt 18, 3) := by decide +kernel
theorem dX6_hasDigit_19 : decode cX6_hasDigit 19 = .ok (.aload_n 0, 1) := by decide +kernel
theorem dX6_hasDigit_20 : decode cX6_hasDigit 20 = .ok (.getfield 9, 3) := by decide +kernel
theorem dX6_hasDigit_23 : decode cX6_hasDigit 23 = .ok (.iload_n 1, 1) := by decide +kernel
theorem dX6_hasDigit_24 : decode cX6_hasDigit 24 = .ok (.iaload, 1) := by decide +kernel
theorem dX6_hasDigit_25 : decode cX6_hasDigit 25 = .ok (.bipush 57, 2) := by decide +kernel
theorem dX6_hasDigit_27 : decode cX6_hasDigit 27 = .ok (.if_icmp .gt 7, 3) := by decide +kernel
theorem dX6_hasDigit_30 : decode cX6_hasDigit 30 = .ok (.iconst 1, 1) := by decide +kernel
theorem dX6_hasDigit_31 : decode cX6_hasDigit 31 = .ok (.goto 4, 3) := by decide +kernel
theorem dX6_hasDigit_34 : decode cX6_hasDigit 34 = .ok (.iconst 0, 1) := by decide +kernel
theorem dX6_hasDigit_35 : decode cX6_hasDigit 35 = .ok (.ireturn, 1) := by decide +kernel
theorem dX6_hasBlank_0 : decode cX6_hasBlank 0 = .ok (.iload_n 1, 1) := by decide +kernel
theorem dX6_hasBlank_1 : decode cX6_hasBlank 1 = .ok (.aload_n 0, 1) := by decide +kernel
theorem dX6_hasBlank_2 : decode cX6_hasBlank 2 = .ok (.getfield 13, 3) := by decide +kernel
theorem dX6_hasBlank_5 : decode cX6_hasBlank 5 = .ok (.if_icmp .ge 18, 3) := by decide +kernel
theorem dX6_hasBlank_8 : decode cX6_hasBlank 8 = .ok (.aload_n 0, 1) := by decide +kernel
theorem dX6_hasBlank_9 : decode cX6_hasBlank 9 = .ok (.getfield 9, 3) := by decide +kernel
theorem dX6_hasBlank_12 : decode cX6_hasBlank 12 = .ok (.iload_n 1, 1) := by decide +kernel
theorem dX6_hasBlank_13 : decode cX6_hasBlank 13 = .ok (.iaload, 1) := by decide +kernel
theorem dX6_hasBlank_14 : decode cX6_hasBlank 14 = .ok (.bipush 32, 2) := by decide +kernel
theorem dX6_hasBlank_16 : decode cX6_hasBlank 16 = .ok (.if_icmp .ne 7, 3) := by decide +kernel
theorem dX6_hasBlank_19 : decode cX6_hasBlank 19 = .ok (.iconst 1, 1) := by decide +kernel
theorem dX6_hasBlank_20 : decode cX6_hasBlank 20 = .ok (.goto 4, 3) := by decide +kernel
theorem dX6_hasBlank_23 : decode cX6_hasBlank 23 = .ok (.iconst 0, 1) := by decide +kernel
theorem dX6_hasBlank_24 : decode cX6_hasBlank 24 = .ok (.ireturn, 1) := by decide +kernel
set_option maxRecDepth 20000 in
theorem ggX6_endOfPiece_X6_hasLetter : GoodIn wsX6_endOfPiece wsX6_hasLetter := goodIn_r _ [6, 1, 7, 12, 13] (by decide +kernel) (by decide +kernel)
set_option maxRecDepth 20000 in
theorem gX6_endOfPiece_X6_hasLetter : GoodIn wsX6_endOfPiece (wsV RX6 17 RX6 yX6_hasLetter wsX6_hasLetter) := goodIn_app (goodIn_of _ (by decide +kernel)) ggX6_endOfPiece_X6_hasLetter
set_option maxRecDepth 20000 in
theorem ggX6_endOfPiece_X6_hasDigit : GoodIn wsX6_endOfPiece wsX6_hasDigit := goodIn_r _ [11, 1, 7, 12, 13] (by decide +kernel) (by decide +kernel)
set_option maxRecDepth 20000 in
theorem gX6_endOfPiece_X6_hasDigit : GoodIn wsX6_endOfPiece (wsV RX6 21 RX6 yX6_hasDigit wsX6_hasDigit) := goodIn_app (goodIn_of _ (by decide +kernel)) ggX6_endOfPiece_X6_hasDigit
theorem dX6_endOfPiece_0 : decode cX6_endOfPiece 0 = .ok (.iload_n 1, 1) := by decide +kernel
theorem dX6_endOfPiece_1 : decode cX6_endOfPiece 1 = .ok (.aload_n 0, 1) := by decide +kernel
theorem dX6_endOfPiece_2 : decode cX6_endOfPiece 2 = .ok (.getfield 13, 3) := by decide +kernel
theorem dX6_endOfPiece_5 : decode cX6_endOfPiece 5 = .ok (.if_icmp .lt 5, 3) := by decide +kernel
theorem dX6_endOfPiece_8 : decode cX6_endOfPiece 8 = .ok (.iload_n 1, 1) := by decide +kernel
theorem dX6_endOfPiece_9 : decode cX6_endOfPiece 9 = .ok (.ireturn, 1) := by decide +kernel
theorem dX6_endOfPiece_10 : decode cX6_endOfPiece 10 = .ok (.aload_n 0, 1) := by decide +kernel
theorem dX6_endOfPiece_11 : decode cX6_endOfPiece 11 = .ok (.iload_n 1, 1) := by decide +kernel
theorem dX6_endOfPiece_12 : decode cX6_endOfPiece 12 = .ok (.invokevirtual 17, 3) := by decide +kernel
theorem dX6_endOfPiece_15 : decode cX6_endOfPiece 15 = .ok (.istore_n 2, 1) := by decide +kernel
theorem dX6_endOfPiece_16 : decode cX6_endOfPiece 16 = .ok (.aload_n 0, 1) := by decide +kernel
theorem dX6_endOfPiece_17 : decode cX6_endOfPiece 17 = .ok (.iload_n 1, 1) := by decide +kernel
theorem dX6_endOfPiece_18 : decode cX6_endOfPiece 18 = .ok (.invokevirtual 21, 3) := by decide +kernel
theorem dX6_endOfPiece_21 : decode cX6_endOfPiece 21 = .ok (.istore_n 3, 1) := by decide +kernel
theorem dX6_endOfPiece_22 : decode cX6_endOfPiece 22 = .ok (.iload_n 1, 1) := by decide +kernel
theorem dX6_endOfPiece_23 : decode cX6_endOfPiece 23 = .ok (.iconst 1, 1) := by decide +kernel
theorem dX6_endOfPiece_24 : decode cX6_endOfPiece 24 = .ok (.iadd, 1) := by decide +kernel
theorem dX6_endOfPiece_25 : decode cX6_endOfPiece 25 = .ok (.istore 4, 2) := by decide +kernel
theorem dX6_endOfPiece_27 : decode cX6_endOfPiece 27 = .ok (.iload 4, 2) := by decide +kernel
theorem dX6_endOfPiece_29 : decode cX6_endOfPiece 29 = .ok (.aload_n 0, 1) := by decide +kernel
theorem dX6_endOfPiece_30 : decode cX6_endOfPiece 30 = .ok (.getfield 13, 3) := by decide +kernel
theorem dX6_endOfPiece_33 : decode cX6_endOfPiece 33 = .ok (.if_icmp .ge 35, 3) := by decide +kernel
theorem dX6_endOfPiece_36 : decode cX6_endOfPiece 36 = .ok (.iload_n 2, 1) := by decide +kernel
theorem dX6_endOfPiece_37 : decode cX6_endOfPiece 37 = .ok (.ifCond .eq 12, 3) := by decide +kernel
theorem dX6_endOfPiece_40 : decode cX6_endOfPiece 40 = .ok (.aload_n 0, 1) := by decide +kernel
theorem dX6_endOfPiece_41 : decode cX6_endOfPiece 41 = .ok (.iload 4, 2) := by decide +kernel
theorem dX6_endOfPiece_43 : decode cX6_endOfPiece 43 = .ok (.invokevirtual 17, 3) := by decide +kernel
theorem dX6_endOfPiece_46 : decode cX6_endOfPiece 46 = .ok (.ifCond .ne 16, 3) := by decide +kernel
theorem dX6_endOfPiece_49 : decode cX6_endOfPiece 49 = .ok (.iload_n 3, 1) := by decide +kernel
theorem dX6_endOfPiece_50 : decode cX6_endOfPiece 50 = .ok (.ifCond .eq 18, 3) := by decide +kernel
theorem dX6_endOfPiece_53 : decode cX6_endOfPiece 53 = .ok (.aload_n 0, 1) := by decide +kernel
theorem dX6_endOfPiece_54 : decode cX6_endOfPiece 54 = .ok (.iload 4, 2) := by decide +kernel
theorem dX6_endOfPiece_56 : decode cX6_endOfPiece 56 = .ok (.invokevirtual 21, 3) := by decide +kernel
theorem dX6_endOfPiece_59 : decode cX6_endOfPiece 59 = .ok (.ifCond .eq 9, 3) := by decide +kernel
theorem dX6_endOfPiece_62 : decode cX6_endOfPiece 62 = .ok (.iinc 4 1, 3) := by decide +kernel
theorem dX6_endOfPiece_65 : decode cX6_endOfPiece 65 = .ok (.goto (-38), 3) := by decide +kernel
theorem dX6_endOfPiece_68 : decode cX6_endOfPiece 68 = .ok (.iload 4, 2) := by decide +kernel
theorem dX6_endOfPiece_70 : decode cX6_endOfPiece 70 = .ok (.ireturn, 1) := by decide +kernel
set_option maxRecDepth 20000 in
theorem ggX6_spells_J0_length_8abf5 : GoodIn wsX6_spells wsJ0_length_8abf5 := goodIn_r _ [6, 7, 8, 9, 10, 5, 11, 12, 13] (by decide +kernel) (by decide +kernel)
set_option maxRecDepth 20000 in
theorem gX6_spells_J0_length_8abf5 : GoodIn wsX6_spells (wsV RX6 24 RJ0 yJ0_length_8abf5 wsJ0_length_8abf5) := goodIn_app (goodIn_of _ (by decide +kernel)) ggX6_spells_J0_length_8abf5
set_option maxRecDepth 20000 in
theorem ggX6_spells_J0_charAt_5068e : GoodIn wsX6_spells wsJ0_charAt_5068e := goodIn_r _ [17, 7, 18, 19, 20, 5, 21, 12, 13, 22, 23, 24, 25, 26, 27, 28, 29, 30, 31, 32, 33, 34, 35, 36, 37, 38, 39, 40, 41, 42, 43, 44, 45, 46, 47, 48, 49, 50] (by decide +kernel) (by decide +kernel)
set_option maxRecDepth 20000 in
theorem gX6_spells_J0_charAt_5068e : GoodIn wsX6_spells (wsV RX6 30 RJ0 yJ0_charAt_5068e wsJ0_charAt_5068e) := goodIn_app (goodIn_of _ (by decide +kernel)) ggX6_spells_J0_charAt_5068e
theorem dX6_spells_0 : decode cX6_spells 0 = .ok (.iload_n 2, 1) := by decide +kernel
theorem dX6_spells_1 : decode cX6_spells 1 = .ok (.iload_n 1, 1) := by decide +kernel
theorem dX6_spells_2 : decode cX6_spells 2 = .ok (.isub, 1) := by decide +kernel
theorem dX6_spells_3 : decode cX6_spells 3 = .ok (.aload_n 3, 1) := by decide +kernel
theorem dX6_spells_4 : decode cX6_spells 4 = .ok (.invokevirtual 24, 3) := by decide +kernel
theorem dX6_spells_7 : decode cX6_spells 7 = .ok (.if_icmp .eq 5, 3) := by decide +kernel
theorem dX6_spells_10 : decode cX6_spells 10 = .ok (.iconst 0, 1) := by decide +kernel
theorem dX6_spells_11 : decode cX6_spells 11 = .ok (.ireturn, 1) := by decide +kernel
theorem dX6_spells_12 : decode cX6_spells 12 = .ok (.iconst 0, 1) := by decide +kernel
theorem dX6_spells_13 : decode cX6_spells 13 = .ok (.istore 4, 2) := by decide +kernel
theorem dX6_spells_15 : decode cX6_spells 15 = .ok (.iload 4, 2) := by decide +kernel
theorem dX6_spells_17 : decode cX6_spells 17 = .ok (.aload_n 3, 1) := by decide +kernel
theorem dX6_spells_18 : decode cX6_spells 18 = .ok (.invokevirtual 24, 3) := by decide +kernel
theorem dX6_spells_21 : decode cX6_spells 21 = .ok (.if_icmp .ge 29, 3) := by decide +kernel
theorem dX6_spells_24 : decode cX6_spells 24 = .ok (.aload_n 0, 1) := by decide +kernel
theorem dX6_spells_25 : decode cX6_spells 25 = .ok (.getfield 9, 3) := by decide +kernel
theorem dX6_spells_28 : decode cX6_spells 28 = .ok (.iload_n 1, 1) := by decide +kernel
theorem dX6_spells_29 : decode cX6_spells 29 = .ok (.iload 4, 2) := by decide +kernel
theorem dX6_spells_31 : decode cX6_spells 31 = .ok (.iadd, 1) := by decide +kernel
theorem dX6_spells_32 : decode cX6_spells 32 = .ok (.iaload, 1) := by decide +kernel
theorem dX6_spells_33 : decode cX6_spells 33 = .ok (.aload_n 3, 1) := by decide +kernel
theorem dX6_spells_34 : decode cX6_spells 34 = .ok (.iload 4, 2) := by decide +kernel
theorem dX6_spells_36 : decode cX6_spells 36 = .ok (.invokevirtual 30, 3) := by decide +kernel
theorem dX6_spells_39 : decode cX6_spells 39 = .ok (.if_icmp .eq 5, 3) := by decide +kernel
theorem dX6_spells_42 : decode cX6_spells 42 = .ok (.iconst 0, 1) := by decide +kernel
theorem dX6_spells_43 : decode cX6_spells 43 = .ok (.ireturn, 1) := by decide +kernel
theorem dX6_spells_44 : decode cX6_spells 44 = .ok (.iinc 4 1, 3) := by decide +kernel
theorem dX6_spells_47 : decode cX6_spells 47 = .ok (.goto (-32), 3) := by decide +kernel
theorem dX6_spells_50 : decode cX6_spells 50 = .ok (.iconst 1, 1) := by decide +kernel
theorem dX6_spells_51 : decode cX6_spells 51 = .ok (.ireturn, 1) := by decide +kernel
theorem dX7_init_0 : decode cX7_init 0 = .ok (.aload_n 0, 1) := by decide +kernel
theorem dX7_init_1 : decode cX7_init 1 = .ok (.invokespecial 3, 3) := by decide +kernel
theorem dX7_init_4 : decode cX7_init 4 = .ok (.aload_n 0, 1) := by decide +kernel
theorem dX7_init_5 : decode cX7_init 5 = .ok (.bipush 16, 2) := by decide +kernel
theorem dX7_init_7 : decode cX7_init 7 = .ok (.newarray .long, 2) := by decide +kernel
theorem dX7_init_9 : decode cX7_init 9 = .ok (.putfield 11, 3) := by decide +kernel
theorem dX7_init_12 : decode cX7_init 12 = .ok (.aload_n 0, 1) := by decide +kernel
theorem dX7_init_13 : decode cX7_init 13 = .ok (.bipush 16, 2) := by decide +kernel
theorem dX7_init_15 : decode cX7_init 15 = .ok (.newarray .long, 2) := by decide +kernel
theorem dX7_init_17 : decode cX7_init 17 = .ok (.putfield 17, 3) := by decide +kernel
theorem dX7_init_20 : decode cX7_init 20 = .ok (.return_, 1) := by decide +kernel
set_option maxRecDepth 20000 in
theorem ggX7_run_X3_findTables : GoodIn wsX7_run wsX3_findTables := goodIn_r _ [10, 11, 12, 13, 14, 15, 16, 17, 18, 19, 20, 50, 51, 52, 53, 54, 55, 56] (by decide +kernel) (by decide +kernel)
set_option maxRecDepth 20000 in
theorem gX7_run_X3_findTables : GoodIn wsX7_run (wsV RX7 20 RX3 yX3_findTables wsX3_findTables) := goodIn_app (goodIn_of _ (by decide +kernel)) ggX7_run_X3_findTables
set_option maxRecDepth 20000 in
theorem ggX7_run_X3_rowTells : GoodIn wsX7_run wsX3_rowTells := goodIn_r _ [24, 12, 50, 51, 52, 53, 54, 55, 56] (by decide +kernel) (by decide +kernel)
set_option maxRecDepth 20000 in
theorem gX7_run_X3_rowTells : GoodIn wsX7_run (wsV RX7 23 RX3 yX3_rowTells wsX3_rowTells) := goodIn_app (goodIn_of _ (by decide +kernel)) ggX7_run_X3_rowTells
set_option maxRecDepth 20000 in
theorem ggX7_run_X7_runGate : GoodIn wsX7_run wsX7_runGate := goodIn_r _ [29, 30, 31, 32, 33, 1, 2, 21, 22, 23, 9, 24, 12, 34, 35, 36, 28, 37, 17, 18, 19, 20, 38, 39, 40, 41, 50, 51, 52, 53, 54, 55, 56, 46, 47, 48, 49] (by decide +kernel) (by decide +kernel)
set_option maxRecDepth 20000 in
theorem gX7_run_X7_runGate : GoodIn wsX7_run (wsV RX7 31 RX7 yX7_runGate wsX7_runGate) := goodIn_app (goodIn_of _ (by decide +kernel)) ggX7_run_X7_runGate
set_option maxRecDepth 20000 in
theorem ggX7_run_X3_output : GoodIn wsX7_run wsX3_output := goodIn_r _ [45, 11, 50, 51, 52, 53, 54, 55, 56] (by decide +kernel) (by decide +kernel)
set_option maxRecDepth 20000 in
theorem gX7_run_X3_output : GoodIn wsX7_run (wsV RX7 35 RX3 yX3_output wsX3_output) := goodIn_app (goodIn_of _ (by decide +kernel)) ggX7_run_X3_output
theorem dX7_run_0 : decode cX7_run 0 = .ok (.aload_n 1, 1) := by decide +kernel
theorem dX7_run_1 : decode cX7_run 1 = .ok (.invokevirtual 20, 3) := by decide +kernel
theorem dX7_run_4 : decode cX7_run 4 = .ok (.iconst 0, 1) := by decide +kernel
theorem dX7_run_5 : decode cX7_run 5 = .ok (.istore 4, 2) := by decide +kernel
theorem dX7_run_7 : decode cX7_run 7 = .ok (.iload 4, 2) := by decide +kernel
theorem dX7_run_9 : decode cX7_run 9 = .ok (.iconst 4, 1) := by decide +kernel
theorem dX7_run_10 : decode cX7_run 10 = .ok (.if_icmp .ge 39, 3) := by decide +kernel
theorem dX7_run_13 : decode cX7_run 13 = .ok (.aload_n 0, 1) := by decide +kernel
theorem dX7_run_14 : decode cX7_run 14 = .ok (.getfield 11, 3) := by decide +kernel
theorem dX7_run_17 : decode cX7_run 17 = .ok (.iload 4, 2) := by decide +kernel
theorem dX7_run_19 : decode cX7_run 19 = .ok (.aload_n 1, 1) := by decide +kernel
theorem dX7_run_20 : decode cX7_run 20 = .ok (.iload 4, 2) := by decide +kernel
theorem dX7_run_22 : decode cX7_run 22 = .ok (.iload_n 3, 1) := by decide +kernel
theorem dX7_run_23 : decode cX7_run 23 = .ok (.invokevirtual 23, 3) := by decide +kernel
theorem dX7_run_26 : decode cX7_run 26 = .ok (.ineg, 1) := by decide +kernel
theorem dX7_run_27 : decode cX7_run 27 = .ok (.i2l, 1) := by decide +kernel
theorem dX7_run_28 : decode cX7_run 28 = .ok (.lastore, 1) := by decide +kernel
theorem dX7_run_29 : decode cX7_run 29 = .ok (.aload_n 0, 1) := by decide +kernel
theorem dX7_run_30 : decode cX7_run 30 = .ok (.getfield 17, 3) := by decide +kernel
theorem dX7_run_33 : decode cX7_run 33 = .ok (.iload 4, 2) := by decide +kernel
theorem dX7_run_35 : decode cX7_run 35 = .ok (.aload_n 0, 1) := by decide +kernel
theorem dX7_run_36 : decode cX7_run 36 = .ok (.getfield 11, 3) := by decide +kernel
theorem dX7_run_39 : decode cX7_run 39 = .ok (.iload 4, 2) := by decide +kernel
theorem dX7_run_41 : decode cX7_run 41 = .ok (.laload, 1) := by decide +kernel
theorem dX7_run_42 : decode cX7_run 42 = .ok (.lastore, 1) := by decide +kernel
theorem dX7_run_43 : decode cX7_run 43 = .ok (.iinc 4 1, 3) := by decide +kernel
theorem dX7_run_46 : decode cX7_run 46 = .ok (.goto (-39), 3) := by decide +kernel
theorem dX7_run_49 : decode cX7_run 49 = .ok (.iconst 0, 1) := by decide +kernel
theorem dX7_run_50 : decode cX7_run 50 = .ok (.istore 4, 2) := by decide +kernel
theorem dX7_run_52 : decode cX7_run 52 = .ok (.iload 4, 2) := by decide +kernel
theorem dX7_run_54 : decode cX7_run 54 = .ok (.aload_n 1, 1) := by decide +kernel
theorem dX7_run_55 : decode cX7_run 55 = .ok (.getfield 27, 3) := by decide +kernel
theorem dX7_run_58 : decode cX7_run 58 = .ok (.if_icmp .ge 17, 3) := by decide +kernel
theorem dX7_run_61 : decode cX7_run 61 = .ok (.aload_n 0, 1) := by decide +kernel
theorem dX7_run_62 : decode cX7_run 62 = .ok (.aload_n 1, 1) := by decide +kernel
theorem dX7_run_63 : decode cX7_run 63 = .ok (.iload 4, 2) := by decide +kernel
theorem dX7_run_65 : decode cX7_run 65 = .ok (.iload_n 2, 1) := by decide +kernel
theorem dX7_run_66 : decode cX7_run 66 = .ok (.invokevirtual 31, 3) := by decide +kernel
theorem dX7_run_69 : decode cX7_run 69 = .ok (.iinc 4 1, 3) := by decide +kernel
theorem dX7_run_72 : decode cX7_run 72 = .ok (.goto (-20), 3) := by decide +kernel
theorem dX7_run_75 : decode cX7_run 75 = .ok (.aload_n 0, 1) := by decide +kernel
theorem dX7_run_76 : decode cX7_run 76 = .ok (.iconst 4, 1) := by decide +kernel
theorem dX7_run_77 : decode cX7_run 77 = .ok (.aload_n 1, 1) := by decide +kernel
theorem dX7_run_78 : decode cX7_run 78 = .ok (.invokevirtual 35, 3) := by decide +kernel
theorem dX7_run_81 : decode cX7_run 81 = .ok (.iadd, 1) := by decide +kernel
theorem dX7_run_82 : decode cX7_run 82 = .ok (.putfield 39, 3) := by decide +kernel
theorem dX7_run_85 : decode cX7_run 85 = .ok (.aload_n 0, 1) := by decide +kernel
theorem dX7_run_86 : decode cX7_run 86 = .ok (.aload_n 1, 1) := by decide +kernel
theorem dX7_run_87 : decode cX7_run 87 = .ok (.aload_n 0, 1) := by decide +kernel
theorem dX7_run_88 : decode cX7_run 88 = .ok (.getfield 39, 3) := by decide +kernel
theorem dX7_run_91 : decode cX7_run 91 = .ok (.iload_n 2, 1) := by decide +kernel
theorem dX7_run_92 : decode cX7_run 92 = .ok (.invokevirtual 23, 3) := by decide +kernel
theorem dX7_run_95 : decode cX7_run 95 = .ok (.putfield 41, 3) := by decide +kernel
theorem dX7_run_98 : decode cX7_run 98 = .ok (.return_, 1) := by decide +kernel
set_option maxRecDepth 20000 in
theorem ggX7_runGate_X3_rowTells : GoodIn wsX7_runGate wsX3_rowTells := goodIn_r _ [11, 12, 26, 27, 28, 29, 30, 31, 32] (by decide +kernel) (by decide +kernel)
set_option maxRecDepth 20000 in
theorem gX7_runGate_X3_rowTells : GoodIn wsX7_runGate (wsV RX7 23 RX3 yX3_rowTells wsX3_rowTells) := goodIn_app (goodIn_of _ (by decide +kernel)) ggX7_runGate_X3_rowTells
set_option maxRecDepth 20000 in
theorem ggX7_runGate_X7_lateLow : GoodIn wsX7_runGate wsX7_lateLow := goodIn_r _ [17, 5, 33, 34, 35, 36] (by decide +kernel) (by decide +kernel)
set_option maxRecDepth 20000 in
theorem gX7_runGate_X7_lateLow : GoodIn wsX7_runGate (wsV RX7 57 RX7 yX7_lateLow wsX7_lateLow) := goodIn_app (goodIn_of _ (by decide +kernel)) ggX7_runGate_X7_lateLow
set_option maxRecDepth 20000 in
theorem ggX7_runGate_X8_combined : GoodIn wsX7_runGate wsX8_combined := goodIn_r _ [20, 21] (by decide +kernel) (by decide +kernel)
set_option maxRecDepth 20000 in
theorem gX7_runGate_X8_combined_n61 : GoodIn wsX7_runGate (wsX8_combined) := ggX7_runGate_X8_combined
set_option maxRecDepth 20000 in
theorem ggX7_runGate_X7_lateHigh : GoodIn wsX7_runGate wsX7_lateHigh := goodIn_r _ [25, 6, 5, 33, 34, 35, 36] (by decide +kernel) (by decide +kernel)
set_option maxRecDepth 20000 in
theorem gX7_runGate_X7_lateHigh : GoodIn wsX7_runGate (wsV RX7 65 RX7 yX7_lateHigh wsX7_lateHigh) := goodIn_app (goodIn_of _ (by decide +kernel)) ggX7_runGate_X7_lateHigh
theorem dX7_runGate_0 : decode cX7_runGate 0 = .ok (.aload_n 1, 1) := by decide +kernel
theorem dX7_runGate_1 : decode cX7_runGate 1 = .ok (.getfield 44, 3) := by decide +kernel
theorem dX7_runGate_4 : decode cX7_runGate 4 = .ok (.iload_n 2, 1) := by decide +kernel
theorem dX7_runGate_5 : decode cX7_runGate 5 = .ok (.iaload, 1) := by decide +kernel
theorem dX7_runGate_6 : decode cX7_runGate 6 = .ok (.istore 4, 2) := by decide +kernel
theorem dX7_runGate_8 : decode cX7_runGate 8 = .ok (.aload_n 1, 1) := by decide +kernel
theorem dX7_runGate_9 : decode cX7_runGate 9 = .ok (.getfield 48, 3) := by decide +kernel
theorem dX7_runGate_12 : decode cX7_runGate 12 = .ok (.iload_n 2, 1) := by decide +kernel
theorem dX7_runGate_13 : decode cX7_runGate 13 = .ok (.iaload, 1) := by decide +kernel
theorem dX7_runGate_14 : decode cX7_runGate 14 = .ok (.istore 5, 2) := by decide +kernel
theorem dX7_runGate_16 : decode cX7_runGate 16 = .ok (.iconst 4, 1) := by decide +kernel
theorem dX7_runGate_17 : decode cX7_runGate 17 = .ok (.aload_n 1, 1) := by decide +kernel
theorem dX7_runGate_18 : decode cX7_runGate 18 = .ok (.getfield 51, 3) := by decide +kernel
theorem dX7_runGate_21 : decode cX7_runGate 21 = .ok (.iload_n 2, 1) := by decide +kernel
theorem dX7_runGate_22 : decode cX7_runGate 22 = .ok (.iaload, 1) := by decide +kernel
theorem dX7_runGate_23 : decode cX7_runGate 23 = .ok (.iadd, 1) := by decide +kernel
theorem dX7_runGate_24 : decode cX7_runGate 24 = .ok (.istore 6, 2) := by decide +kernel
theorem dX7_runGate_26 : decode cX7_runGate 26 = .ok (.iconst 4, 1) := by decide +kernel
theorem dX7_runGate_27 : decode cX7_runGate 27 = .ok (.aload_n 1, 1) := by decide +kernel
theorem dX7_runGate_28 : decode cX7_runGate 28 = .ok (.getfield 54, 3) := by decide +kernel
theorem dX7_runGate_31 : decode cX7_runGate 31 = .ok (.iload_n 2, 1) := by decide +kernel
theorem dX7_runGate_32 : decode cX7_runGate 32 = .ok (.iaload, 1) := by decide +kernel
theorem dX7_runGate_33 : decode cX7_runGate 33 = .ok (.iadd, 1) := by decide +kernel
theorem dX7_runGate_34 : decode cX7_runGate 34 = .ok (.istore 7, 2) := by decide +kernel
theorem dX7_runGate_36 : decode cX7_runGate 36 = .ok (.aload_n 0, 1) := by decide +kernel
theorem dX7_runGate_37 : decode cX7_runGate 37 = .ok (.getfield 11, 3) := by decide +kernel
theorem dX7_runGate_40 : decode cX7_runGate 40 = .ok (.iconst 4, 1) := by decide +kernel
theorem dX7_runGate_41 : decode cX7_runGate 41 = .ok (.iload_n 2, 1) := by decide +kernel
theorem dX7_runGate_42 : decode cX7_runGate 42 = .ok (.iadd, 1) := by decide +kernel
theorem dX7_runGate_43 : decode cX7_runGate 43 = .ok (.iload 4, 2) := by decide +kernel
theorem dX7_runGate_45 : decode cX7_runGate 45 = .ok (.aload_n 0, 1) := by decide +kernel
theorem dX7_runGate_46 : decode cX7_runGate 46 = .ok (.iload 6, 2) := by decide +kernel
theorem dX7_runGate_48 : decode cX7_runGate 48 = .ok (.iload 5, 2) := by decide +kernel
theorem dX7_runGate_50 : decode cX7_runGate 50 = .ok (.aload_n 1, 1) := by decide +kernel
theorem dX7_runGate_51 : decode cX7_runGate 51 = .ok (.iload 6, 2) := by decide +kernel
theorem dX7_runGate_53 : decode cX7_runGate 53 = .ok (.iload_n 3, 1) := by decide +kernel
theorem dX7_runGate_54 : decode cX7_runGate 54 = .ok (.invokevirtual 23, 3) := by decide +kernel
theorem dX7_runGate_57 : decode cX7_runGate 57 = .ok (.invokevirtual 57, 3) := by decide +kernel
theorem dX7_runGate_60 : decode cX7_runGate 60 = .ok (.aload_n 0, 1) := by decide +kernel
theorem dX7_runGate_61 : decode cX7_runGate 61 = .ok (.iload 7, 2) := by decide +kernel
theorem dX7_runGate_63 : decode cX7_runGate 63 = .ok (.iload 5, 2) := by decide +kernel
theorem dX7_runGate_65 : decode cX7_runGate 65 = .ok (.aload_n 1, 1) := by decide +kernel
theorem dX7_runGate_66 : decode cX7_runGate 66 = .ok (.iload 7, 2) := by decide +kernel
theorem dX7_runGate_68 : decode cX7_runGate 68 = .ok (.iload_n 3, 1) := by decide +kernel
