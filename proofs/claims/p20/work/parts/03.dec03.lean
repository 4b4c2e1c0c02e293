theorem dX0_init_0 : decode cX0_init 0 = .ok (.aload_n 0, 1) := by decide +kernel
theorem dX0_init_1 : decode cX0_init 1 = .ok (.invokespecial 3, 3) := by decide +kernel
theorem dX0_init_4 : decode cX0_init 4 = .ok (.aload_n 0, 1) := by decide +kernel
theorem dX0_init_5 : decode cX0_init 5 = .ok (.bipush 6, 2) := by decide +kernel
theorem dX0_init_7 : decode cX0_init 7 = .ok (.bipush 32, 2) := by decide +kernel
theorem dX0_init_9 : decode cX0_init 9 = .ok (.multianewarray 9 2, 4) := by decide +kernel
theorem dX0_init_13 : decode cX0_init 13 = .ok (.putfield 11, 3) := by decide +kernel
theorem dX0_init_16 : decode cX0_init 16 = .ok (.aload_n 0, 1) := by decide +kernel
theorem dX0_init_17 : decode cX0_init 17 = .ok (.bipush 6, 2) := by decide +kernel
theorem dX0_init_19 : decode cX0_init 19 = .ok (.newarray .int, 2) := by decide +kernel
theorem dX0_init_21 : decode cX0_init 21 = .ok (.putfield 16, 3) := by decide +kernel
theorem dX0_init_24 : decode cX0_init 24 = .ok (.return_, 1) := by decide +kernel
theorem dX0_add_0 : decode cX0_add 0 = .ok (.aload_n 0, 1) := by decide +kernel
theorem dX0_add_1 : decode cX0_add 1 = .ok (.getfield 16, 3) := by decide +kernel
theorem dX0_add_4 : decode cX0_add 4 = .ok (.iload_n 1, 1) := by decide +kernel
theorem dX0_add_5 : decode cX0_add 5 = .ok (.iaload, 1) := by decide +kernel
theorem dX0_add_6 : decode cX0_add 6 = .ok (.bipush 32, 2) := by decide +kernel
theorem dX0_add_8 : decode cX0_add 8 = .ok (.if_icmp .ge 27, 3) := by decide +kernel
theorem dX0_add_11 : decode cX0_add 11 = .ok (.aload_n 0, 1) := by decide +kernel
theorem dX0_add_12 : decode cX0_add 12 = .ok (.getfield 11, 3) := by decide +kernel
theorem dX0_add_15 : decode cX0_add 15 = .ok (.iload_n 1, 1) := by decide +kernel
theorem dX0_add_16 : decode cX0_add 16 = .ok (.aaload, 1) := by decide +kernel
theorem dX0_add_17 : decode cX0_add 17 = .ok (.aload_n 0, 1) := by decide +kernel
theorem dX0_add_18 : decode cX0_add 18 = .ok (.getfield 16, 3) := by decide +kernel
theorem dX0_add_21 : decode cX0_add 21 = .ok (.iload_n 1, 1) := by decide +kernel
theorem dX0_add_22 : decode cX0_add 22 = .ok (.iaload, 1) := by decide +kernel
theorem dX0_add_23 : decode cX0_add 23 = .ok (.iload_n 2, 1) := by decide +kernel
theorem dX0_add_24 : decode cX0_add 24 = .ok (.iastore, 1) := by decide +kernel
theorem dX0_add_25 : decode cX0_add 25 = .ok (.aload_n 0, 1) := by decide +kernel
theorem dX0_add_26 : decode cX0_add 26 = .ok (.getfield 16, 3) := by decide +kernel
theorem dX0_add_29 : decode cX0_add 29 = .ok (.iload_n 1, 1) := by decide +kernel
theorem dX0_add_30 : decode cX0_add 30 = .ok (.dup2, 1) := by decide +kernel
theorem dX0_add_31 : decode cX0_add 31 = .ok (.iaload, 1) := by decide +kernel
theorem dX0_add_32 : decode cX0_add 32 = .ok (.iconst 1, 1) := by decide +kernel
theorem dX0_add_33 : decode cX0_add 33 = .ok (.iadd, 1) := by decide +kernel
theorem dX0_add_34 : decode cX0_add 34 = .ok (.iastore, 1) := by decide +kernel
theorem dX0_add_35 : decode cX0_add 35 = .ok (.return_, 1) := by decide +kernel
theorem dX0_move_0 : decode cX0_move 0 = .ok (.iconst 0, 1) := by decide +kernel
theorem dX0_move_1 : decode cX0_move 1 = .ok (.istore 4, 2) := by decide +kernel
theorem dX0_move_3 : decode cX0_move 3 = .ok (.iconst 0, 1) := by decide +kernel
theorem dX0_move_4 : decode cX0_move 4 = .ok (.istore 5, 2) := by decide +kernel
theorem dX0_move_6 : decode cX0_move 6 = .ok (.iload 5, 2) := by decide +kernel
theorem dX0_move_8 : decode cX0_move 8 = .ok (.aload_n 0, 1) := by decide +kernel
theorem dX0_move_9 : decode cX0_move 9 = .ok (.getfield 16, 3) := by decide +kernel
theorem dX0_move_12 : decode cX0_move 12 = .ok (.iload_n 1, 1) := by decide +kernel
theorem dX0_move_13 : decode cX0_move 13 = .ok (.iaload, 1) := by decide +kernel
theorem dX0_move_14 : decode cX0_move 14 = .ok (.if_icmp .ge 57, 3) := by decide +kernel
theorem dX0_move_17 : decode cX0_move 17 = .ok (.aload_n 0, 1) := by decide +kernel
theorem dX0_move_18 : decode cX0_move 18 = .ok (.getfield 11, 3) := by decide +kernel
theorem dX0_move_21 : decode cX0_move 21 = .ok (.iload_n 1, 1) := by decide +kernel
theorem dX0_move_22 : decode cX0_move 22 = .ok (.aaload, 1) := by decide +kernel
theorem dX0_move_23 : decode cX0_move 23 = .ok (.iload 5, 2) := by decide +kernel
theorem dX0_move_25 : decode cX0_move 25 = .ok (.iaload, 1) := by decide +kernel
theorem dX0_move_26 : decode cX0_move 26 = .ok (.iload_n 2, 1) := by decide +kernel
theorem dX0_move_27 : decode cX0_move 27 = .ok (.if_icmp .ne 7, 3) := by decide +kernel
theorem dX0_move_30 : decode cX0_move 30 = .ok (.iload_n 3, 1) := by decide +kernel
theorem dX0_move_31 : decode cX0_move 31 = .ok (.goto 12, 3) := by decide +kernel
theorem dX0_move_34 : decode cX0_move 34 = .ok (.aload_n 0, 1) := by decide +kernel
theorem dX0_move_35 : decode cX0_move 35 = .ok (.getfield 11, 3) := by decide +kernel
theorem dX0_move_38 : decode cX0_move 38 = .ok (.iload_n 1, 1) := by decide +kernel
theorem dX0_move_39 : decode cX0_move 39 = .ok (.aaload, 1) := by decide +kernel
theorem dX0_move_40 : decode cX0_move 40 = .ok (.iload 5, 2) := by decide +kernel
theorem dX0_move_42 : decode cX0_move 42 = .ok (.iaload, 1) := by decide +kernel
theorem dX0_move_43 : decode cX0_move 43 = .ok (.istore 6, 2) := by decide +kernel
theorem dX0_move_45 : decode cX0_move 45 = .ok (.iload 6, 2) := by decide +kernel
theorem dX0_move_47 : decode cX0_move 47 = .ok (.iconst (-1), 1) := by decide +kernel
theorem dX0_move_48 : decode cX0_move 48 = .ok (.if_icmp .eq 17, 3) := by decide +kernel
theorem dX0_move_51 : decode cX0_move 51 = .ok (.aload_n 0, 1) := by decide +kernel
theorem dX0_move_52 : decode cX0_move 52 = .ok (.getfield 11, 3) := by decide +kernel
theorem dX0_move_55 : decode cX0_move 55 = .ok (.iload_n 1, 1) := by decide +kernel
theorem dX0_move_56 : decode cX0_move 56 = .ok (.aaload, 1) := by decide +kernel
theorem dX0_move_57 : decode cX0_move 57 = .ok (.iload 4, 2) := by decide +kernel
theorem dX0_move_59 : decode cX0_move 59 = .ok (.iload 6, 2) := by decide +kernel
theorem dX0_move_61 : decode cX0_move 61 = .ok (.iastore, 1) := by decide +kernel
theorem dX0_move_62 : decode cX0_move 62 = .ok (.iinc 4 1, 3) := by decide +kernel
theorem dX0_move_65 : decode cX0_move 65 = .ok (.iinc 5 1, 3) := by decide +kernel
theorem dX0_move_68 : decode cX0_move 68 = .ok (.goto (-62), 3) := by decide +kernel
theorem dX0_move_71 : decode cX0_move 71 = .ok (.aload_n 0, 1) := by decide +kernel
theorem dX0_move_72 : decode cX0_move 72 = .ok (.getfield 16, 3) := by decide +kernel
theorem dX0_move_75 : decode cX0_move 75 = .ok (.iload_n 1, 1) := by decide +kernel
theorem dX0_move_76 : decode cX0_move 76 = .ok (.iload 4, 2) := by decide +kernel
theorem dX0_move_78 : decode cX0_move 78 = .ok (.iastore, 1) := by decide +kernel
theorem dX0_move_79 : decode cX0_move 79 = .ok (.return_, 1) := by decide +kernel
set_option maxRecDepth 20000 in
theorem ggX1_init_X1_empty : GoodIn wsX1_init wsX1_empty := goodIn_r _ [19, 5, 7, 10, 11, 13, 14, 20, 21, 22, 23, 24, 25, 26, 27, 28] (by decide +kernel) (by decide +kernel)
set_option maxRecDepth 20000 in
theorem gX1_init_X1_empty : GoodIn wsX1_init (wsV RX1 40 RX1 yX1_empty wsX1_empty) := goodIn_app (goodIn_of _ (by decide +kernel)) ggX1_init_X1_empty
theorem dX1_init_0 : decode cX1_init 0 = .ok (.aload_n 0, 1) := by decide +kernel
theorem dX1_init_1 : decode cX1_init 1 = .ok (.invokespecial 3, 3) := by decide +kernel
theorem dX1_init_4 : decode cX1_init 4 = .ok (.aload_n 0, 1) := by decide +kernel
theorem dX1_init_5 : decode cX1_init 5 = .ok (.bipush 32, 2) := by decide +kernel
theorem dX1_init_7 : decode cX1_init 7 = .ok (.newarray .int, 2) := by decide +kernel
theorem dX1_init_9 : decode cX1_init 9 = .ok (.putfield 9, 3) := by decide +kernel
theorem dX1_init_12 : decode cX1_init 12 = .ok (.aload_n 0, 1) := by decide +kernel
theorem dX1_init_13 : decode cX1_init 13 = .ok (.bipush 32, 2) := by decide +kernel
theorem dX1_init_15 : decode cX1_init 15 = .ok (.newarray .int, 2) := by decide +kernel
theorem dX1_init_17 : decode cX1_init 17 = .ok (.putfield 15, 3) := by decide +kernel
theorem dX1_init_20 : decode cX1_init 20 = .ok (.aload_n 0, 1) := by decide +kernel
theorem dX1_init_21 : decode cX1_init 21 = .ok (.bipush 32, 2) := by decide +kernel
theorem dX1_init_23 : decode cX1_init 23 = .ok (.newarray .int, 2) := by decide +kernel
theorem dX1_init_25 : decode cX1_init 25 = .ok (.putfield 18, 3) := by decide +kernel
theorem dX1_init_28 : decode cX1_init 28 = .ok (.aload_n 0, 1) := by decide +kernel
theorem dX1_init_29 : decode cX1_init 29 = .ok (.bipush 32, 2) := by decide +kernel
theorem dX1_init_31 : decode cX1_init 31 = .ok (.newarray .int, 2) := by decide +kernel
theorem dX1_init_33 : decode cX1_init 33 = .ok (.putfield 21, 3) := by decide +kernel
theorem dX1_init_36 : decode cX1_init 36 = .ok (.aload_n 0, 1) := by decide +kernel
theorem dX1_init_37 : decode cX1_init 37 = .ok (.bipush 32, 2) := by decide +kernel
theorem dX1_init_39 : decode cX1_init 39 = .ok (.newarray .boolean, 2) := by decide +kernel
theorem dX1_init_41 : decode cX1_init 41 = .ok (.putfield 24, 3) := by decide +kernel
theorem dX1_init_44 : decode cX1_init 44 = .ok (.aload_n 0, 1) := by decide +kernel
theorem dX1_init_45 : decode cX1_init 45 = .ok (.bipush 32, 2) := by decide +kernel
theorem dX1_init_47 : decode cX1_init 47 = .ok (.newarray .int, 2) := by decide +kernel
theorem dX1_init_49 : decode cX1_init 49 = .ok (.putfield 28, 3) := by decide +kernel
theorem dX1_init_52 : decode cX1_init 52 = .ok (.aload_n 0, 1) := by decide +kernel
theorem dX1_init_53 : decode cX1_init 53 = .ok (.bipush 32, 2) := by decide +kernel
theorem dX1_init_55 : decode cX1_init 55 = .ok (.newarray .int, 2) := by decide +kernel
theorem dX1_init_57 : decode cX1_init 57 = .ok (.putfield 31, 3) := by decide +kernel
theorem dX1_init_60 : decode cX1_init 60 = .ok (.aload_n 0, 1) := by decide +kernel
theorem dX1_init_61 : decode cX1_init 61 = .ok (.bipush 32, 2) := by decide +kernel
theorem dX1_init_63 : decode cX1_init 63 = .ok (.newarray .int, 2) := by decide +kernel
theorem dX1_init_65 : decode cX1_init 65 = .ok (.putfield 34, 3) := by decide +kernel
theorem dX1_init_68 : decode cX1_init 68 = .ok (.aload_n 0, 1) := by decide +kernel
theorem dX1_init_69 : decode cX1_init 69 = .ok (.bipush 32, 2) := by decide +kernel
theorem dX1_init_71 : decode cX1_init 71 = .ok (.newarray .int, 2) := by decide +kernel
theorem dX1_init_73 : decode cX1_init 73 = .ok (.putfield 37, 3) := by decide +kernel
theorem dX1_init_76 : decode cX1_init 76 = .ok (.iconst 0, 1) := by decide +kernel
theorem dX1_init_77 : decode cX1_init 77 = .ok (.istore_n 1, 1) := by decide +kernel
theorem dX1_init_78 : decode cX1_init 78 = .ok (.iload_n 1, 1) := by decide +kernel
theorem dX1_init_79 : decode cX1_init 79 = .ok (.bipush 32, 2) := by decide +kernel
theorem dX1_init_81 : decode cX1_init 81 = .ok (.if_icmp .ge 14, 3) := by decide +kernel
theorem dX1_init_84 : decode cX1_init 84 = .ok (.aload_n 0, 1) := by decide +kernel
theorem dX1_init_85 : decode cX1_init 85 = .ok (.iload_n 1, 1) := by decide +kernel
theorem dX1_init_86 : decode cX1_init 86 = .ok (.invokevirtual 40, 3) := by decide +kernel
theorem dX1_init_89 : decode cX1_init 89 = .ok (.iinc 1 1, 3) := by decide +kernel
theorem dX1_init_92 : decode cX1_init 92 = .ok (.goto (-14), 3) := by decide +kernel
theorem dX1_init_95 : decode cX1_init 95 = .ok (.return_, 1) := by decide +kernel
theorem dX1_empty_0 : decode cX1_empty 0 = .ok (.aload_n 0, 1) := by decide +kernel
theorem dX1_empty_1 : decode cX1_empty 1 = .ok (.getfield 9, 3) := by decide +kernel
theorem dX1_empty_4 : decode cX1_empty 4 = .ok (.iload_n 1, 1) := by decide +kernel
theorem dX1_empty_5 : decode cX1_empty 5 = .ok (.iconst (-1), 1) := by decide +kernel
theorem dX1_empty_6 : decode cX1_empty 6 = .ok (.iastore, 1) := by decide +kernel
theorem dX1_empty_7 : decode cX1_empty 7 = .ok (.aload_n 0, 1) := by decide +kernel
theorem dX1_empty_8 : decode cX1_empty 8 = .ok (.getfield 18, 3) := by decide +kernel
theorem dX1_empty_11 : decode cX1_empty 11 = .ok (.iload_n 1, 1) := by decide +kernel
theorem dX1_empty_12 : decode cX1_empty 12 = .ok (.iconst (-1), 1) := by decide +kernel
theorem dX1_empty_13 : decode cX1_empty 13 = .ok (.iastore, 1) := by decide +kernel
theorem dX1_empty_14 : decode cX1_empty 14 = .ok (.aload_n 0, 1) := by decide +kernel
theorem dX1_empty_15 : decode cX1_empty 15 = .ok (.getfield 24, 3) := by decide +kernel
theorem dX1_empty_18 : decode cX1_empty 18 = .ok (.iload_n 1, 1) := by decide +kernel
theorem dX1_empty_19 : decode cX1_empty 19 = .ok (.iconst 0, 1) := by decide +kernel
theorem dX1_empty_20 : decode cX1_empty 20 = .ok (.bastore, 1) := by decide +kernel
theorem dX1_empty_21 : decode cX1_empty 21 = .ok (.aload_n 0, 1) := by decide +kernel
theorem dX1_empty_22 : decode cX1_empty 22 = .ok (.getfield 28, 3) := by decide +kernel
theorem dX1_empty_25 : decode cX1_empty 25 = .ok (.iload_n 1, 1) := by decide +kernel
theorem dX1_empty_26 : decode cX1_empty 26 = .ok (.iconst (-1), 1) := by decide +kernel
theorem dX1_empty_27 : decode cX1_empty 27 = .ok (.iastore, 1) := by decide +kernel
theorem dX1_empty_28 : decode cX1_empty 28 = .ok (.aload_n 0, 1) := by decide +kernel
theorem dX1_empty_29 : decode cX1_empty 29 = .ok (.getfield 34, 3) := by decide +kernel
theorem dX1_empty_32 : decode cX1_empty 32 = .ok (.iload_n 1, 1) := by decide +kernel
theorem dX1_empty_33 : decode cX1_empty 33 = .ok (.iconst (-1), 1) := by decide +kernel
theorem dX1_empty_34 : decode cX1_empty 34 = .ok (.iastore, 1) := by decide +kernel
theorem dX1_empty_35 : decode cX1_empty 35 = .ok (.aload_n 0, 1) := by decide +kernel
theorem dX1_empty_36 : decode cX1_empty 36 = .ok (.getfield 37, 3) := by decide +kernel
theorem dX1_empty_39 : decode cX1_empty 39 = .ok (.iload_n 1, 1) := by decide +kernel
theorem dX1_empty_40 : decode cX1_empty 40 = .ok (.iconst (-1), 1) := by decide +kernel
theorem dX1_empty_41 : decode cX1_empty 41 = .ok (.iastore, 1) := by decide +kernel
theorem dX1_empty_42 : decode cX1_empty 42 = .ok (.return_, 1) := by decide +kernel
theorem dX1_isUsed_0 : decode cX1_isUsed 0 = .ok (.aload_n 0, 1) := by decide +kernel
theorem dX1_isUsed_1 : decode cX1_isUsed 1 = .ok (.getfield 9, 3) := by decide +kernel
theorem dX1_isUsed_4 : decode cX1_isUsed 4 = .ok (.iload_n 1, 1) := by decide +kernel
theorem dX1_isUsed_5 : decode cX1_isUsed 5 = .ok (.iaload, 1) := by decide +kernel
theorem dX1_isUsed_6 : decode cX1_isUsed 6 = .ok (.iconst (-1), 1) := by decide +kernel
theorem dX1_isUsed_7 : decode cX1_isUsed 7 = .ok (.if_icmp .eq 7, 3) := by decide +kernel
theorem dX1_isUsed_10 : decode cX1_isUsed 10 = .ok (.iconst 1, 1) := by decide +kernel
theorem dX1_isUsed_11 : decode cX1_isUsed 11 = .ok (.goto 4, 3) := by decide +kernel
theorem dX1_isUsed_14 : decode cX1_isUsed 14 = .ok (.iconst 0, 1) := by decide +kernel
theorem dX1_isUsed_15 : decode cX1_isUsed 15 = .ok (.ireturn, 1) := by decide +kernel
theorem dX1_hasDeath_0 : decode cX1_hasDeath 0 = .ok (.aload_n 0, 1) := by decide +kernel
theorem dX1_hasDeath_1 : decode cX1_hasDeath 1 = .ok (.getfield 28, 3) := by decide +kernel
theorem dX1_hasDeath_4 : decode cX1_hasDeath 4 = .ok (.iload_n 1, 1) := by decide +kernel
theorem dX1_hasDeath_5 : decode cX1_hasDeath 5 = .ok (.iaload, 1) := by decide +kernel
theorem dX1_hasDeath_6 : decode cX1_hasDeath 6 = .ok (.iconst (-1), 1) := by decide +kernel
theorem dX1_hasDeath_7 : decode cX1_hasDeath 7 = .ok (.if_icmp .eq 7, 3) := by decide +kernel
theorem dX1_hasDeath_10 : decode cX1_hasDeath 10 = .ok (.iconst 1, 1) := by decide +kernel
theorem dX1_hasDeath_11 : decode cX1_hasDeath 11 = .ok (.goto 4, 3) := by decide +kernel
theorem dX1_hasDeath_14 : decode cX1_hasDeath 14 = .ok (.iconst 0, 1) := by decide +kernel
theorem dX1_hasDeath_15 : decode cX1_hasDeath 15 = .ok (.ireturn, 1) := by decide +kernel
set_option maxRecDepth 20000 in
theorem ggX1_lowestFree_X1_isUsed : GoodIn wsX1_lowestFree wsX1_isUsed := goodIn_r _ [5, 6, 7, 8, 9, 10, 11, 12, 13, 14, 15] (by decide +kernel) (by decide +kernel)
set_option maxRecDepth 20000 in
theorem gX1_lowestFree_X1_isUsed : GoodIn wsX1_lowestFree (wsV RX1 44 RX1 yX1_isUsed wsX1_isUsed) := goodIn_app (goodIn_of _ (by decide +kernel)) ggX1_lowestFree_X1_isUsed
theorem dX1_lowestFree_0 : decode cX1_lowestFree 0 = .ok (.iload_n 1, 1) := by decide +kernel
theorem dX1_lowestFree_1 : decode cX1_lowestFree 1 = .ok (.istore_n 3, 1) := by decide +kernel
theorem dX1_lowestFree_2 : decode cX1_lowestFree 2 = .ok (.iload_n 3, 1) := by decide +kernel
theorem dX1_lowestFree_3 : decode cX1_lowestFree 3 = .ok (.iload_n 1, 1) := by decide +kernel
theorem dX1_lowestFree_4 : decode cX1_lowestFree 4 = .ok (.iload_n 2, 1) := by decide +kernel
theorem dX1_lowestFree_5 : decode cX1_lowestFree 5 = .ok (.iadd, 1) := by decide +kernel
theorem dX1_lowestFree_6 : decode cX1_lowestFree 6 = .ok (.if_icmp .ge 19, 3) := by decide +kernel
theorem dX1_lowestFree_9 : decode cX1_lowestFree 9 = .ok (.aload_n 0, 1) := by decide +kernel
theorem dX1_lowestFree_10 : decode cX1_lowestFree 10 = .ok (.iload_n 3, 1) := by decide +kernel
theorem dX1_lowestFree_11 : decode cX1_lowestFree 11 = .ok (.invokevirtual 44, 3) := by decide +kernel
theorem dX1_lowestFree_14 : decode cX1_lowestFree 14 = .ok (.ifCond .ne 5, 3) := by decide +kernel
theorem dX1_lowestFree_17 : decode cX1_lowestFree 17 = .ok (.iload_n 3, 1) := by decide +kernel
theorem dX1_lowestFree_18 : decode cX1_lowestFree 18 = .ok (.ireturn, 1) := by decide +kernel
theorem dX1_lowestFree_19 : decode cX1_lowestFree 19 = .ok (.iinc 3 1, 3) := by decide +kernel
theorem dX1_lowestFree_22 : decode cX1_lowestFree 22 = .ok (.goto (-20), 3) := by decide +kernel
theorem dX1_lowestFree_25 : decode cX1_lowestFree 25 = .ok (.iconst (-1), 1) := by decide +kernel
theorem dX1_lowestFree_26 : decode cX1_lowestFree 26 = .ok (.ireturn, 1) := by decide +kernel
theorem dX1_takeOffDeaths_0 : decode cX1_takeOffDeaths 0 = .ok (.iconst 0, 1) := by decide +kernel
theorem dX1_takeOffDeaths_1 : decode cX1_takeOffDeaths 1 = .ok (.istore_n 2, 1) := by decide +kernel
theorem dX1_takeOffDeaths_2 : decode cX1_takeOffDeaths 2 = .ok (.iload_n 2, 1) := by decide +kernel
theorem dX1_takeOffDeaths_3 : decode cX1_takeOffDeaths 3 = .ok (.bipush 32, 2) := by decide +kernel
theorem dX1_takeOffDeaths_5 : decode cX1_takeOffDeaths 5 = .ok (.if_icmp .ge 26, 3) := by decide +kernel
theorem dX1_takeOffDeaths_8 : decode cX1_takeOffDeaths 8 = .ok (.aload_n 0, 1) := by decide +kernel
theorem dX1_takeOffDeaths_9 : decode cX1_takeOffDeaths 9 = .ok (.getfield 28, 3) := by decide +kernel
theorem dX1_takeOffDeaths_12 : decode cX1_takeOffDeaths 12 = .ok (.iload_n 2, 1) := by decide +kernel
theorem dX1_takeOffDeaths_13 : decode cX1_takeOffDeaths 13 = .ok (.iaload, 1) := by decide +kernel
theorem dX1_takeOffDeaths_14 : decode cX1_takeOffDeaths 14 = .ok (.iload_n 1, 1) := by decide +kernel
theorem dX1_takeOffDeaths_15 : decode cX1_takeOffDeaths 15 = .ok (.if_icmp .ne 10, 3) := by decide +kernel
theorem dX1_takeOffDeaths_18 : decode cX1_takeOffDeaths 18 = .ok (.aload_n 0, 1) := by decide +kernel
theorem dX1_takeOffDeaths_19 : decode cX1_takeOffDeaths 19 = .ok (.getfield 28, 3) := by decide +kernel
theorem dX1_takeOffDeaths_22 : decode cX1_takeOffDeaths 22 = .ok (.iload_n 2, 1) := by decide +kernel
theorem dX1_takeOffDeaths_23 : decode cX1_takeOffDeaths 23 = .ok (.iconst (-1), 1) := by decide +kernel
theorem dX1_takeOffDeaths_24 : decode cX1_takeOffDeaths 24 = .ok (.iastore, 1) := by decide +kernel
theorem dX1_takeOffDeaths_25 : decode cX1_takeOffDeaths 25 = .ok (.iinc 2 1, 3) := by decide +kernel
theorem dX1_takeOffDeaths_28 : decode cX1_takeOffDeaths 28 = .ok (.goto (-26), 3) := by decide +kernel
theorem dX1_takeOffDeaths_31 : decode cX1_takeOffDeaths 31 = .ok (.return_, 1) := by decide +kernel
theorem dX1_bypass_0 : decode cX1_bypass 0 = .ok (.iconst 0, 1) := by decide +kernel
theorem dX1_bypass_1 : decode cX1_bypass 1 = .ok (.istore_n 3, 1) := by decide +kernel
theorem dX1_bypass_2 : decode cX1_bypass 2 = .ok (.iload_n 3, 1) := by decide +kernel
theorem dX1_bypass_3 : decode cX1_bypass 3 = .ok (.bipush 32, 2) := by decide +kernel
theorem dX1_bypass_5 : decode cX1_bypass 5 = .ok (.if_icmp .ge 26, 3) := by decide +kernel
theorem dX1_bypass_8 : decode cX1_bypass 8 = .ok (.aload_n 0, 1) := by decide +kernel
theorem dX1_bypass_9 : decode cX1_bypass 9 = .ok (.getfield 34, 3) := by decide +kernel
theorem dX1_bypass_12 : decode cX1_bypass 12 = .ok (.iload_n 3, 1) := by decide +kernel
theorem dX1_bypass_13 : decode cX1_bypass 13 = .ok (.iaload, 1) := by decide +kernel
theorem dX1_bypass_14 : decode cX1_bypass 14 = .ok (.iload_n 1, 1) := by decide +kernel
theorem dX1_bypass_15 : decode cX1_bypass 15 = .ok (.if_icmp .ne 10, 3) := by decide +kernel
theorem dX1_bypass_18 : decode cX1_bypass 18 = .ok (.aload_n 0, 1) := by decide +kernel
theorem dX1_bypass_19 : decode cX1_bypass 19 = .ok (.getfield 34, 3) := by decide +kernel
theorem dX1_bypass_22 : decode cX1_bypass 22 = .ok (.iload_n 3, 1) := by decide +kernel
theorem dX1_bypass_23 : decode cX1_bypass 23 = .ok (.iload_n 2, 1) := by decide +kernel
theorem dX1_bypass_24 : decode cX1_bypass 24 = .ok (.iastore, 1) := by decide +kernel
theorem dX1_bypass_25 : decode cX1_bypass 25 = .ok (.iinc 3 1, 3) := by decide +kernel
theorem dX1_bypass_28 : decode cX1_bypass 28 = .ok (.goto (-26), 3) := by decide +kernel
theorem dX1_bypass_31 : decode cX1_bypass 31 = .ok (.return_, 1) := by decide +kernel
theorem dX2_init_0 : decode cX2_init 0 = .ok (.aload_n 0, 1) := by decide +kernel
theorem dX2_init_1 : decode cX2_init 1 = .ok (.invokespecial 3, 3) := by decide +kernel
theorem dX2_init_4 : decode cX2_init 4 = .ok (.aload_n 0, 1) := by decide +kernel
theorem dX2_init_5 : decode cX2_init 5 = .ok (.sipush 512, 3) := by decide +kernel
theorem dX2_init_8 : decode cX2_init 8 = .ok (.newarray .int, 2) := by decide +kernel
theorem dX2_init_10 : decode cX2_init 10 = .ok (.putfield 9, 3) := by decide +kernel
theorem dX2_init_13 : decode cX2_init 13 = .ok (.aload_n 0, 1) := by decide +kernel
theorem dX2_init_14 : decode cX2_init 14 = .ok (.sipush 512, 3) := by decide +kernel
theorem dX2_init_17 : decode cX2_init 17 = .ok (.newarray .int, 2) := by decide +kernel
theorem dX2_init_19 : decode cX2_init 19 = .ok (.putfield 15, 3) := by decide +kernel
theorem dX2_init_22 : decode cX2_init 22 = .ok (.aload_n 0, 1) := by decide +kernel
theorem dX2_init_23 : decode cX2_init 23 = .ok (.sipush 512, 3) := by decide +kernel
theorem dX2_init_26 : decode cX2_init 26 = .ok (.newarray .int, 2) := by decide +kernel
theorem dX2_init_28 : decode cX2_init 28 = .ok (.putfield 18, 3) := by decide +kernel
theorem dX2_init_31 : decode cX2_init 31 = .ok (.aload_n 0, 1) := by decide +kernel
theorem dX2_init_32 : decode cX2_init 32 = .ok (.sipush 512, 3) := by decide +kernel
theorem dX2_init_35 : decode cX2_init 35 = .ok (.newarray .int, 2) := by decide +kernel
theorem dX2_init_37 : decode cX2_init 37 = .ok (.putfield 21, 3) := by decide +kernel
theorem dX2_init_40 : decode cX2_init 40 = .ok (.return_, 1) := by decide +kernel
theorem dX2_add_0 : decode cX2_add 0 = .ok (.aload_n 0, 1) := by decide +kernel
theorem dX2_add_1 : decode cX2_add 1 = .ok (.getfield 24, 3) := by decide +kernel
theorem dX2_add_4 : decode cX2_add 4 = .ok (.sipush 512, 3) := by decide +kernel
theorem dX2_add_7 : decode cX2_add 7 = .ok (.if_icmp .lt 5, 3) := by decide +kernel
theorem dX2_add_10 : decode cX2_add 10 = .ok (.iconst (-1), 1) := by decide +kernel
theorem dX2_add_11 : decode cX2_add 11 = .ok (.ireturn, 1) := by decide +kernel
theorem dX2_add_12 : decode cX2_add 12 = .ok (.aload_n 0, 1) := by decide +kernel
theorem dX2_add_13 : decode cX2_add 13 = .ok (.getfield 24, 3) := by decide +kernel
theorem dX2_add_16 : decode cX2_add 16 = .ok (.istore 4, 2) := by decide +kernel
theorem dX2_add_18 : decode cX2_add 18 = .ok (.aload_n 0, 1) := by decide +kernel
theorem dX2_add_19 : decode cX2_add 19 = .ok (.getfield 9, 3) := by decide +kernel
theorem dX2_add_22 : decode cX2_add 22 = .ok (.iload 4, 2) := by decide +kernel
theorem dX2_add_24 : decode cX2_add 24 = .ok (.iload_n 1, 1) := by decide +kernel
theorem dX2_add_25 : decode cX2_add 25 = .ok (.iastore, 1) := by decide +kernel
theorem dX2_add_26 : decode cX2_add 26 = .ok (.aload_n 0, 1) := by decide +kernel
theorem dX2_add_27 : decode cX2_add 27 = .ok (.getfield 15, 3) := by decide +kernel
theorem dX2_add_30 : decode cX2_add 30 = .ok (.iload 4, 2) := by decide +kernel
theorem dX2_add_32 : decode cX2_add 32 = .ok (.iload_n 2, 1) := by decide +kernel
theorem dX2_add_33 : decode cX2_add 33 = .ok (.iastore, 1) := by decide +kernel
theorem dX2_add_34 : decode cX2_add 34 = .ok (.aload_n 0, 1) := by decide +kernel
theorem dX2_add_35 : decode cX2_add 35 = .ok (.getfield 18, 3) := by decide +kernel
theorem dX2_add_38 : decode cX2_add 38 = .ok (.iload 4, 2) := by decide +kernel
theorem dX2_add_40 : decode cX2_add 40 = .ok (.iload_n 3, 1) := by decide +kernel
theorem dX2_add_41 : decode cX2_add 41 = .ok (.iastore, 1) := by decide +kernel
theorem dX2_add_42 : decode cX2_add 42 = .ok (.aload_n 0, 1) := by decide +kernel
theorem dX2_add_43 : decode cX2_add 43 = .ok (.getfield 21, 3) := by decide +kernel
theorem dX2_add_46 : decode cX2_add 46 = .ok (.iload 4, 2) := by decide +kernel
theorem dX2_add_48 : decode cX2_add 48 = .ok (.iconst (-1), 1) := by decide +kernel
theorem dX2_add_49 : decode cX2_add 49 = .ok (.iastore, 1) := by decide +kernel
theorem dX2_add_50 : decode cX2_add 50 = .ok (.aload_n 0, 1) := by decide +kernel
theorem dX2_add_51 : decode cX2_add 51 = .ok (.dup, 1) := by decide +kernel
theorem dX2_add_52 : decode cX2_add 52 = .ok (.getfield 24, 3) := by decide +kernel
theorem dX2_add_55 : decode cX2_add 55 = .ok (.iconst 1, 1) := by decide +kernel
theorem dX2_add_56 : decode cX2_add 56 = .ok (.iadd, 1) := by decide +kernel
theorem dX2_add_57 : decode cX2_add 57 = .ok (.putfield 24, 3) := by decide +kernel
theorem dX2_add_60 : decode cX2_add 60 = .ok (.iload 4, 2) := by decide +kernel
theorem dX2_add_62 : decode cX2_add 62 = .ok (.ireturn, 1) := by decide +kernel
theorem dX2_putDeath_0 : decode cX2_putDeath 0 = .ok (.iload_n 1, 1) := by decide +kernel
theorem dX2_putDeath_1 : decode cX2_putDeath 1 = .ok (.ifCond .lt 18, 3) := by decide +kernel
theorem dX2_putDeath_4 : decode cX2_putDeath 4 = .ok (.iload_n 1, 1) := by decide +kernel
theorem dX2_putDeath_5 : decode cX2_putDeath 5 = .ok (.aload_n 0, 1) := by decide +kernel
theorem dX2_putDeath_6 : decode cX2_putDeath 6 = .ok (.getfield 24, 3) := by decide +kernel
theorem dX2_putDeath_9 : decode cX2_putDeath 9 = .ok (.if_icmp .ge 10, 3) := by decide +kernel
theorem dX2_putDeath_12 : decode cX2_putDeath 12 = .ok (.aload_n 0, 1) := by decide +kernel
theorem dX2_putDeath_13 : decode cX2_putDeath 13 = .ok (.getfield 21, 3) := by decide +kernel
theorem dX2_putDeath_16 : decode cX2_putDeath 16 = .ok (.iload_n 1, 1) := by decide +kernel
theorem dX2_putDeath_17 : decode cX2_putDeath 17 = .ok (.iload_n 2, 1) := by decide +kernel
theorem dX2_putDeath_18 : decode cX2_putDeath 18 = .ok (.iastore, 1) := by decide +kernel
theorem dX2_putDeath_19 : decode cX2_putDeath 19 = .ok (.return_, 1) := by decide +kernel
theorem dX2_takeOffDeaths_0 : decode cX2_takeOffDeaths 0 = .ok (.iconst 0, 1) := by decide +kernel
theorem dX2_takeOffDeaths_1 : decode cX2_takeOffDeaths 1 = .ok (.istore_n 2, 1) := by decide +kernel
theorem dX2_takeOffDeaths_2 : decode cX2_takeOffDeaths 2 = .ok (.iload_n 2, 1) := by decide +kernel
theorem dX2_takeOffDeaths_3 : decode cX2_takeOffDeaths 3 = .ok (.aload_n 0, 1) := by decide +kernel
theorem dX2_takeOffDeaths_4 : decode cX2_takeOffDeaths 4 = .ok (.getfield 24, 3) := by decide +kernel
theorem dX2_takeOffDeaths_7 : decode cX2_takeOffDeaths 7 = .ok (.if_icmp .ge 26, 3) := by decide +kernel
theorem dX2_takeOffDeaths_10 : decode cX2_takeOffDeaths 10 = .ok (.aload_n 0, 1) := by decide +kernel
theorem dX2_takeOffDeaths_11 : decode cX2_takeOffDeaths 11 = .ok (.getfield 21, 3) := by decide +kernel
theorem dX2_takeOffDeaths_14 : decode cX2_takeOffDeaths 14 = .ok (.iload_n 2, 1) := by decide +kernel
theorem dX2_takeOffDeaths_15 : decode cX2_takeOffDeaths 15 = .ok (.iaload, 1) := by decide +kernel
theorem dX2_takeOffDeaths_16 : decode cX2_takeOffDeaths 16 = .ok (.iload_n 1, 1) := by decide +kernel
theorem dX2_takeOffDeaths_17 : decode cX2_takeOffDeaths 17 = .ok (.if_icmp .ne 10, 3) := by decide +kernel
theorem dX2_takeOffDeaths_20 : decode cX2_takeOffDeaths 20 = .ok (.aload_n 0, 1) := by decide +kernel
theorem dX2_takeOffDeaths_21 : decode cX2_takeOffDeaths 21 = .ok (.getfield 21, 3) := by decide +kernel
theorem dX2_takeOffDeaths_24 : decode cX2_takeOffDeaths 24 = .ok (.iload_n 2, 1) := by decide +kernel
theorem dX2_takeOffDeaths_25 : decode cX2_takeOffDeaths 25 = .ok (.iconst (-1), 1) := by decide +kernel
theorem dX2_takeOffDeaths_26 : decode cX2_takeOffDeaths 26 = .ok (.iastore, 1) := by decide +kernel
theorem dX2_takeOffDeaths_27 : decode cX2_takeOffDeaths 27 = .ok (.iinc 2 1, 3) := by decide +kernel
theorem dX2_takeOffDeaths_30 : decode cX2_takeOffDeaths 30 = .ok (.goto (-28), 3) := by decide +kernel
theorem dX2_takeOffDeaths_33 : decode cX2_takeOffDeaths 33 = .ok (.return_, 1) := by decide +kernel
theorem dX3_init_0 : decode cX3_init 0 = .ok (.aload_n 0, 1) := by decide +kernel
theorem dX3_init_1 : decode cX3_init 1 = .ok (.invokespecial 3, 3) := by decide +kernel
theorem dX3_init_4 : decode cX3_init 4 = .ok (.aload_n 0, 1) := by decide +kernel
theorem dX3_init_5 : decode cX3_init 5 = .ok (.bipush 60, 2) := by decide +kernel
theorem dX3_init_7 : decode cX3_init 7 = .ok (.newarray .int, 2) := by decide +kernel
theorem dX3_init_9 : decode cX3_init 9 = .ok (.putfield 9, 3) := by decide +kernel
theorem dX3_init_12 : decode cX3_init 12 = .ok (.aload_n 0, 1) := by decide +kernel
theorem dX3_init_13 : decode cX3_init 13 = .ok (.bipush 60, 2) := by decide +kernel
theorem dX3_init_15 : decode cX3_init 15 = .ok (.newarray .long, 2) := by decide +kernel
theorem dX3_init_17 : decode cX3_init 17 = .ok (.putfield 15, 3) := by decide +kernel
theorem dX3_init_20 : decode cX3_init 20 = .ok (.return_, 1) := by decide +kernel
theorem dX3_has_0 : decode cX3_has 0 = .ok (.iload_n 2, 1) := by decide +kernel
theorem dX3_has_1 : decode cX3_has 1 = .ok (.ifCond .lt 23, 3) := by decide +kernel
theorem dX3_has_4 : decode cX3_has 4 = .ok (.iload_n 2, 1) := by decide +kernel
theorem dX3_has_5 : decode cX3_has 5 = .ok (.bipush 60, 2) := by decide +kernel
theorem dX3_has_7 : decode cX3_has 7 = .ok (.if_icmp .ge 17, 3) := by decide +kernel
theorem dX3_has_10 : decode cX3_has 10 = .ok (.lload_n 0, 1) := by decide +kernel
theorem dX3_has_11 : decode cX3_has 11 = .ok (.iload_n 2, 1) := by decide +kernel
theorem dX3_has_12 : decode cX3_has 12 = .ok (.lushr, 1) := by decide +kernel
theorem dX3_has_13 : decode cX3_has 13 = .ok (.lconst 1, 1) := by decide +kernel
theorem dX3_has_14 : decode cX3_has 14 = .ok (.land, 1) := by decide +kernel
theorem dX3_has_15 : decode cX3_has 15 = .ok (.lconst 0, 1) := by decide +kernel
theorem dX3_has_16 : decode cX3_has 16 = .ok (.lcmp, 1) := by decide +kernel
theorem dX3_has_17 : decode cX3_has 17 = .ok (.ifCond .eq 7, 3) := by decide +kernel
theorem dX3_has_20 : decode cX3_has 20 = .ok (.iconst 1, 1) := by decide +kernel
theorem dX3_has_21 : decode cX3_has 21 = .ok (.goto 4, 3) := by decide +kernel
theorem dX3_has_24 : decode cX3_has 24 = .ok (.iconst 0, 1) := by decide +kernel
theorem dX3_has_25 : decode cX3_has 25 = .ok (.ireturn, 1) := by decide +kernel
theorem dX3_areAllUsed_0 : decode cX3_areAllUsed 0 = .ok (.aload_n 0, 1) := by decide +kernel
theorem dX3_areAllUsed_1 : decode cX3_areAllUsed 1 = .ok (.getfield 19, 3) := by decide +kernel
theorem dX3_areAllUsed_4 : decode cX3_areAllUsed 4 = .ok (.bipush 60, 2) := by decide +kernel
theorem dX3_areAllUsed_6 : decode cX3_areAllUsed 6 = .ok (.if_icmp .lt 7, 3) := by decide +kernel
theorem dX3_areAllUsed_9 : decode cX3_areAllUsed 9 = .ok (.iconst 1, 1) := by decide +kernel
theorem dX3_areAllUsed_10 : decode cX3_areAllUsed 10 = .ok (.goto 4, 3) := by decide +kernel
theorem dX3_areAllUsed_13 : decode cX3_areAllUsed 13 = .ok (.iconst 0, 1) := by decide +kernel
theorem dX3_areAllUsed_14 : decode cX3_areAllUsed 14 = .ok (.ireturn, 1) := by decide +kernel
theorem dX3_wasBegun_0 : decode cX3_wasBegun 0 = .ok (.iload_n 1, 1) := by decide +kernel
theorem dX3_wasBegun_1 : decode cX3_wasBegun 1 = .ok (.ifCond .lt 15, 3) := by decide +kernel
theorem dX3_wasBegun_4 : decode cX3_wasBegun 4 = .ok (.iload_n 1, 1) := by decide +kernel
theorem dX3_wasBegun_5 : decode cX3_wasBegun 5 = .ok (.aload_n 0, 1) := by decide +kernel
theorem dX3_wasBegun_6 : decode cX3_wasBegun 6 = .ok (.getfield 19, 3) := by decide +kernel
theorem dX3_wasBegun_9 : decode cX3_wasBegun 9 = .ok (.if_icmp .ge 7, 3) := by decide +kernel
theorem dX3_wasBegun_12 : decode cX3_wasBegun 12 = .ok (.iconst 1, 1) := by decide +kernel
theorem dX3_wasBegun_13 : decode cX3_wasBegun 13 = .ok (.goto 4, 3) := by decide +kernel
theorem dX3_wasBegun_16 : decode cX3_wasBegun 16 = .ok (.iconst 0, 1) := by decide +kernel
theorem dX3_wasBegun_17 : decode cX3_wasBegun 17 = .ok (.ireturn, 1) := by decide +kernel
set_option maxRecDepth 20000 in
theorem ggX3_isActive_X3_has : GoodIn wsX3_isActive wsX3_has := goodIn_r _ [5] (by decide +kernel) (by decide +kernel)
set_option maxRecDepth 20000 in
theorem gX3_isActive_X3_has : GoodIn wsX3_isActive (va_wsS RX3 27 yX3_has wsX3_has) := goodIn_app (goodIn_of _ (by decide +kernel)) ggX3_isActive_X3_has
theorem dX3_isActive_0 : decode cX3_isActive 0 = .ok (.aload_n 0, 1) := by decide +kernel
theorem dX3_isActive_1 : decode cX3_isActive 1 = .ok (.getfield 23, 3) := by decide +kernel
theorem dX3_isActive_4 : decode cX3_isActive 4 = .ok (.iload_n 1, 1) := by decide +kernel
theorem dX3_isActive_5 : decode cX3_isActive 5 = .ok (.invokestatic 27, 3) := by decide +kernel
theorem dX3_isActive_8 : decode cX3_isActive 8 = .ok (.ireturn, 1) := by decide +kernel
set_option maxRecDepth 20000 in
theorem ggX3_isTakenBack_X3_wasBegun : GoodIn wsX3_isTakenBack wsX3_wasBegun := goodIn_r _ [7, 8, 12, 13, 14, 15, 16, 17] (by decide +kernel) (by decide +kernel)
set_option maxRecDepth 20000 in
theorem gX3_isTakenBack_X3_wasBegun : GoodIn wsX3_isTakenBack (wsV RX3 31 RX3 yX3_wasBegun wsX3_wasBegun) := goodIn_app (goodIn_of _ (by decide +kernel)) ggX3_isTakenBack_X3_wasBegun
set_option maxRecDepth 20000 in
theorem ggX3_isTakenBack_X3_has : GoodIn wsX3_isTakenBack wsX3_has := goodIn_r _ [11] (by decide +kernel) (by decide +kernel)
set_option maxRecDepth 20000 in
theorem gX3_isTakenBack_X3_has : GoodIn wsX3_isTakenBack (va_wsS RX3 27 yX3_has wsX3_has) := goodIn_app (goodIn_of _ (by decide +kernel)) ggX3_isTakenBack_X3_has
theorem dX3_isTakenBack_0 : decode cX3_isTakenBack 0 = .ok (.aload_n 0, 1) := by decide +kernel
theorem dX3_isTakenBack_1 : decode cX3_isTakenBack 1 = .ok (.iload_n 1, 1) := by decide +kernel
theorem dX3_isTakenBack_2 : decode cX3_isTakenBack 2 = .ok (.invokevirtual 31, 3) := by decide +kernel
theorem dX3_isTakenBack_5 : decode cX3_isTakenBack 5 = .ok (.ifCond .eq 23, 3) := by decide +kernel
theorem dX3_isTakenBack_8 : decode cX3_isTakenBack 8 = .ok (.aload_n 0, 1) := by decide +kernel
theorem dX3_isTakenBack_9 : decode cX3_isTakenBack 9 = .ok (.getfield 23, 3) := by decide +kernel
theorem dX3_isTakenBack_12 : decode cX3_isTakenBack 12 = .ok (.aload_n 0, 1) := by decide +kernel
theorem dX3_isTakenBack_13 : decode cX3_isTakenBack 13 = .ok (.getfield 35, 3) := by decide +kernel
theorem dX3_isTakenBack_16 : decode cX3_isTakenBack 16 = .ok (.lor, 1) := by decide +kernel
theorem dX3_isTakenBack_17 : decode cX3_isTakenBack 17 = .ok (.iload_n 1, 1) := by decide +kernel
theorem dX3_isTakenBack_18 : decode cX3_isTakenBack 18 = .ok (.invokestatic 27, 3) := by decide +kernel
theorem dX3_isTakenBack_21 : decode cX3_isTakenBack 21 = .ok (.ifCond .ne 7, 3) := by decide +kernel
theorem dX3_isTakenBack_24 : decode cX3_isTakenBack 24 = .ok (.iconst 1, 1) := by decide +kernel
theorem dX3_isTakenBack_25 : decode cX3_isTakenBack 25 = .ok (.goto 4, 3) := by decide +kernel
theorem dX3_isTakenBack_28 : decode cX3_isTakenBack 28 = .ok (.iconst 0, 1) := by decide +kernel
theorem dX3_isTakenBack_29 : decode cX3_isTakenBack 29 = .ok (.ireturn, 1) := by decide +kernel
set_option maxRecDepth 20000 in
theorem ggX3_start_X3_skip : GoodIn wsX3_start wsX3_skip := goodIn_r _ [11, 3, 12, 13, 14, 15, 16, 17] (by decide +kernel) (by decide +kernel)
set_option maxRecDepth 20000 in
theorem gX3_start_X3_skip : GoodIn wsX3_start (wsV RX3 41 RX3 yX3_skip wsX3_skip) := goodIn_app (goodIn_of _ (by decide +kernel)) ggX3_start_X3_skip
theorem dX3_start_0 : decode cX3_start 0 = .ok (.aload_n 0, 1) := by decide +kernel
theorem dX3_start_1 : decode cX3_start 1 = .ok (.getfield 19, 3) := by decide +kernel
theorem dX3_start_4 : decode cX3_start 4 = .ok (.istore_n 1, 1) := by decide +kernel
theorem dX3_start_5 : decode cX3_start 5 = .ok (.aload_n 0, 1) := by decide +kernel
theorem dX3_start_6 : decode cX3_start 6 = .ok (.getfield 9, 3) := by decide +kernel
theorem dX3_start_9 : decode cX3_start 9 = .ok (.iload_n 1, 1) := by decide +kernel
theorem dX3_start_10 : decode cX3_start 10 = .ok (.aload_n 0, 1) := by decide +kernel
theorem dX3_start_11 : decode cX3_start 11 = .ok (.getfield 38, 3) := by decide +kernel
theorem dX3_start_14 : decode cX3_start 14 = .ok (.iastore, 1) := by decide +kernel
theorem dX3_start_15 : decode cX3_start 15 = .ok (.aload_n 0, 1) := by decide +kernel
theorem dX3_start_16 : decode cX3_start 16 = .ok (.getfield 15, 3) := by decide +kernel
theorem dX3_start_19 : decode cX3_start 19 = .ok (.iload_n 1, 1) := by decide +kernel
theorem dX3_start_20 : decode cX3_start 20 = .ok (.aload_n 0, 1) := by decide +kernel
theorem dX3_start_21 : decode cX3_start 21 = .ok (.getfield 35, 3) := by decide +kernel
theorem dX3_start_24 : decode cX3_start 24 = .ok (.lastore, 1) := by decide +kernel
theorem dX3_start_25 : decode cX3_start 25 = .ok (.aload_n 0, 1) := by decide +kernel
theorem dX3_start_26 : decode cX3_start 26 = .ok (.dup, 1) := by decide +kernel
theorem dX3_start_27 : decode cX3_start 27 = .ok (.getfield 23, 3) := by decide +kernel
theorem dX3_start_30 : decode cX3_start 30 = .ok (.lconst 1, 1) := by decide +kernel
theorem dX3_start_31 : decode cX3_start 31 = .ok (.iload_n 1, 1) := by decide +kernel
theorem dX3_start_32 : decode cX3_start 32 = .ok (.lshl, 1) := by decide +kernel
theorem dX3_start_33 : decode cX3_start 33 = .ok (.lor, 1) := by decide +kernel
theorem dX3_start_34 : decode cX3_start 34 = .ok (.putfield 23, 3) := by decide +kernel
theorem dX3_start_37 : decode cX3_start 37 = .ok (.aload_n 0, 1) := by decide +kernel
theorem dX3_start_38 : decode cX3_start 38 = .ok (.dup, 1) := by decide +kernel
theorem dX3_start_39 : decode cX3_start 39 = .ok (.getfield 19, 3) := by decide +kernel
theorem dX3_start_42 : decode cX3_start 42 = .ok (.iconst 1, 1) := by decide +kernel
theorem dX3_start_43 : decode cX3_start 43 = .ok (.iadd, 1) := by decide +kernel
theorem dX3_start_44 : decode cX3_start 44 = .ok (.putfield 19, 3) := by decide +kernel
theorem dX3_start_47 : decode cX3_start 47 = .ok (.aload_n 0, 1) := by decide +kernel
theorem dX3_start_48 : decode cX3_start 48 = .ok (.iconst 1, 1) := by decide +kernel
theorem dX3_start_49 : decode cX3_start 49 = .ok (.invokevirtual 41, 3) := by decide +kernel
theorem dX3_start_52 : decode cX3_start 52 = .ok (.pop, 1) := by decide +kernel
theorem dX3_start_53 : decode cX3_start 53 = .ok (.iload_n 1, 1) := by decide +kernel
theorem dX3_start_54 : decode cX3_start 54 = .ok (.ireturn, 1) := by decide +kernel
theorem dX3_finish_0 : decode cX3_finish 0 = .ok (.aload_n 0, 1) := by decide +kernel
theorem dX3_finish_1 : decode cX3_finish 1 = .ok (.dup, 1) := by decide +kernel
theorem dX3_finish_2 : decode cX3_finish 2 = .ok (.getfield 23, 3) := by decide +kernel
theorem dX3_finish_5 : decode cX3_finish 5 = .ok (.lconst 1, 1) := by decide +kernel
theorem dX3_finish_6 : decode cX3_finish 6 = .ok (.iload_n 1, 1) := by decide +kernel
theorem dX3_finish_7 : decode cX3_finish 7 = .ok (.lshl, 1) := by decide +kernel
theorem dX3_finish_8 : decode cX3_finish 8 = .ok (.ldc2_w 45, 3) := by decide +kernel
theorem dX3_finish_11 : decode cX3_finish 11 = .ok (.lxor, 1) := by decide +kernel
theorem dX3_finish_12 : decode cX3_finish 12 = .ok (.land, 1) := by decide +kernel
theorem dX3_finish_13 : decode cX3_finish 13 = .ok (.putfield 23, 3) := by decide +kernel
theorem dX3_finish_16 : decode cX3_finish 16 = .ok (.iload_n 2, 1) := by decide +kernel
theorem dX3_finish_17 : decode cX3_finish 17 = .ok (.ifCond .eq 15, 3) := by decide +kernel
theorem dX3_finish_20 : decode cX3_finish 20 = .ok (.aload_n 0, 1) := by decide +kernel
theorem dX3_finish_21 : decode cX3_finish 21 = .ok (.dup, 1) := by decide +kernel
theorem dX3_finish_22 : decode cX3_finish 22 = .ok (.getfield 35, 3) := by decide +kernel
theorem dX3_finish_25 : decode cX3_finish 25 = .ok (.lconst 1, 1) := by decide +kernel
theorem dX3_finish_26 : decode cX3_finish 26 = .ok (.iload_n 1, 1) := by decide +kernel
theorem dX3_finish_27 : decode cX3_finish 27 = .ok (.lshl, 1) := by decide +kernel
theorem dX3_finish_28 : decode cX3_finish 28 = .ok (.lor, 1) := by decide +kernel
theorem dX3_finish_29 : decode cX3_finish 29 = .ok (.putfield 35, 3) := by decide +kernel
theorem dX3_finish_32 : decode cX3_finish 32 = .ok (.return_, 1) := by decide +kernel
theorem dX3_skip_0 : decode cX3_skip 0 = .ok (.aload_n 0, 1) := by decide +kernel
theorem dX3_skip_1 : decode cX3_skip 1 = .ok (.aload_n 0, 1) := by decide +kernel
theorem dX3_skip_2 : decode cX3_skip 2 = .ok (.getfield 38, 3) := by decide +kernel
theorem dX3_skip_5 : decode cX3_skip 5 = .ok (.iload_n 1, 1) := by decide +kernel
theorem dX3_skip_6 : decode cX3_skip 6 = .ok (.iadd, 1) := by decide +kernel
theorem dX3_skip_7 : decode cX3_skip 7 = .ok (.bipush 64, 2) := by decide +kernel
theorem dX3_skip_9 : decode cX3_skip 9 = .ok (.irem, 1) := by decide +kernel
theorem dX3_skip_10 : decode cX3_skip 10 = .ok (.putfield 38, 3) := by decide +kernel
theorem dX3_skip_13 : decode cX3_skip 13 = .ok (.aload_n 0, 1) := by decide +kernel
theorem dX3_skip_14 : decode cX3_skip 14 = .ok (.getfield 38, 3) := by decide +kernel
theorem dX3_skip_17 : decode cX3_skip 17 = .ok (.ireturn, 1) := by decide +kernel
set_option maxRecDepth 20000 in
theorem ggX3_activeCount_J13_bitCount_95d88 : GoodIn wsX3_activeCount wsJ13_bitCount_95d88 := goodIn_r _ [5, 6, 7, 8] (by decide +kernel) (by decide +kernel)
set_option maxRecDepth 20000 in
theorem gX3_activeCount_J13_bitCount_95d88 : GoodIn wsX3_activeCount (va_wsS RX3 47 yJ13_bitCount_95d88 wsJ13_bitCount_95d88) := goodIn_app (goodIn_of _ (by decide +kernel)) ggX3_activeCount_J13_bitCount_95d88
theorem dX3_activeCount_0 : decode cX3_activeCount 0 = .ok (.aload_n 0, 1) := by decide +kernel
theorem dX3_activeCount_1 : decode cX3_activeCount 1 = .ok (.getfield 23, 3) := by decide +kernel
theorem dX3_activeCount_4 : decode cX3_activeCount 4 = .ok (.invokestatic 47, 3) := by decide +kernel
theorem dX3_activeCount_7 : decode cX3_activeCount 7 = .ok (.ireturn, 1) := by decide +kernel
set_option maxRecDepth 20000 in
theorem ggX3_ageOf_X4_distance : GoodIn wsX3_ageOf wsX4_distance := goodIn_r _ [4, 5, 6, 7, 8] (by decide +kernel) (by decide +kernel)
set_option maxRecDepth 20000 in
theorem gX3_ageOf_X4_distance_n53 : GoodIn wsX3_ageOf (wsX4_distance) := ggX3_ageOf_X4_distance
theorem dX3_ageOf_0 : decode cX3_ageOf 0 = .ok (.iload_n 1, 1) := by decide +kernel
theorem dX3_ageOf_1 : decode cX3_ageOf 1 = .ok (.aload_n 0, 1) := by decide +kernel
theorem dX3_ageOf_2 : decode cX3_ageOf 2 = .ok (.getfield 38, 3) := by decide +kernel
theorem dX3_ageOf_5 : decode cX3_ageOf 5 = .ok (.invokestatic 53, 3) := by decide +kernel
theorem dX3_ageOf_8 : decode cX3_ageOf 8 = .ok (.ireturn, 1) := by decide +kernel
set_option maxRecDepth 20000 in
theorem ggX3_oldestActiveAge_X3_isActive : GoodIn wsX3_oldestActiveAge wsX3_isActive := goodIn_r _ [11, 12, 13, 14, 10, 15, 28, 29, 30, 31, 32, 33] (by decide +kernel) (by decide +kernel)
set_option maxRecDepth 20000 in
theorem gX3_oldestActiveAge_X3_isActive : GoodIn wsX3_oldestActiveAge (wsV RX3 57 RX3 yX3_isActive wsX3_isActive) := goodIn_app (goodIn_of _ (by decide +kernel)) ggX3_oldestActiveAge_X3_isActive
set_option maxRecDepth 20000 in
theorem ggX3_oldestActiveAge_X3_ageOf : GoodIn wsX3_oldestActiveAge wsX3_ageOf := goodIn_r _ [19, 20, 21, 22, 23, 24, 25, 26, 27, 28, 29, 30, 31, 32, 33] (by decide +kernel) (by decide +kernel)
set_option maxRecDepth 20000 in
theorem gX3_oldestActiveAge_X3_ageOf : GoodIn wsX3_oldestActiveAge (wsV RX3 60 RX3 yX3_ageOf wsX3_ageOf) := goodIn_app (goodIn_of _ (by decide +kernel)) ggX3_oldestActiveAge_X3_ageOf
theorem dX3_oldestActiveAge_0 : decode cX3_oldestActiveAge 0 = .ok (.iconst 0, 1) := by decide +kernel
theorem dX3_oldestActiveAge_1 : decode cX3_oldestActiveAge 1 = .ok (.istore_n 1, 1) := by decide +kernel
theorem dX3_oldestActiveAge_2 : decode cX3_oldestActiveAge 2 = .ok (.iconst 0, 1) := by decide +kernel
theorem dX3_oldestActiveAge_3 : decode cX3_oldestActiveAge 3 = .ok (.istore_n 2, 1) := by decide +kernel
theorem dX3_oldestActiveAge_4 : decode cX3_oldestActiveAge 4 = .ok (.iload_n 2, 1) := by decide +kernel
theorem dX3_oldestActiveAge_5 : decode cX3_oldestActiveAge 5 = .ok (.aload_n 0, 1) := by decide +kernel
theorem dX3_oldestActiveAge_6 : decode cX3_oldestActiveAge 6 = .ok (.getfield 19, 3) := by decide +kernel
theorem dX3_oldestActiveAge_9 : decode cX3_oldestActiveAge 9 = .ok (.if_icmp .ge 32, 3) := by decide +kernel
theorem dX3_oldestActiveAge_12 : decode cX3_oldestActiveAge 12 = .ok (.aload_n 0, 1) := by decide +kernel
theorem dX3_oldestActiveAge_13 : decode cX3_oldestActiveAge 13 = .ok (.iload_n 2, 1) := by decide +kernel
theorem dX3_oldestActiveAge_14 : decode cX3_oldestActiveAge 14 = .ok (.invokevirtual 57, 3) := by decide +kernel
theorem dX3_oldestActiveAge_17 : decode cX3_oldestActiveAge 17 = .ok (.ifCond .eq 18, 3) := by decide +kernel
theorem dX3_oldestActiveAge_20 : decode cX3_oldestActiveAge 20 = .ok (.iload_n 1, 1) := by decide +kernel
theorem dX3_oldestActiveAge_21 : decode cX3_oldestActiveAge 21 = .ok (.aload_n 0, 1) := by decide +kernel
theorem dX3_oldestActiveAge_22 : decode cX3_oldestActiveAge 22 = .ok (.aload_n 0, 1) := by decide +kernel
theorem dX3_oldestActiveAge_23 : decode cX3_oldestActiveAge 23 = .ok (.getfield 9, 3) := by decide +kernel
theorem dX3_oldestActiveAge_26 : decode cX3_oldestActiveAge 26 = .ok (.iload_n 2, 1) := by decide +kernel
theorem dX3_oldestActiveAge_27 : decode cX3_oldestActiveAge 27 = .ok (.iaload, 1) := by decide +kernel
theorem dX3_oldestActiveAge_28 : decode cX3_oldestActiveAge 28 = .ok (.invokevirtual 60, 3) := by decide +kernel
theorem dX3_oldestActiveAge_31 : decode cX3_oldestActiveAge 31 = .ok (.invokestatic 63, 3) := by decide +kernel
theorem dX3_oldestActiveAge_34 : decode cX3_oldestActiveAge 34 = .ok (.istore_n 1, 1) := by decide +kernel
theorem dX3_oldestActiveAge_35 : decode cX3_oldestActiveAge 35 = .ok (.iinc 2 1, 3) := by decide +kernel
theorem dX3_oldestActiveAge_38 : decode cX3_oldestActiveAge 38 = .ok (.goto (-34), 3) := by decide +kernel
theorem dX3_oldestActiveAge_41 : decode cX3_oldestActiveAge 41 = .ok (.iload_n 1, 1) := by decide +kernel
theorem dX3_oldestActiveAge_42 : decode cX3_oldestActiveAge 42 = .ok (.ireturn, 1) := by decide +kernel
set_option maxRecDepth 20000 in
theorem ggX3_knows_X3_has : GoodIn wsX3_knows wsX3_has := goodIn_r _ [5] (by decide +kernel) (by decide +kernel)
set_option maxRecDepth 20000 in
theorem gX3_knows_X3_has : GoodIn wsX3_knows (va_wsS RX3 27 yX3_has wsX3_has) := goodIn_app (goodIn_of _ (by decide +kernel)) ggX3_knows_X3_has
theorem dX3_knows_0 : decode cX3_knows 0 = .ok (.iload_n 2, 1) := by decide +kernel
theorem dX3_knows_1 : decode cX3_knows 1 = .ok (.iload_n 1, 1) := by decide +kernel
theorem dX3_knows_2 : decode cX3_knows 2 = .ok (.if_icmp .eq 16, 3) := by decide +kernel
theorem dX3_knows_5 : decode cX3_knows 5 = .ok (.aload_n 0, 1) := by decide +kernel
theorem dX3_knows_6 : decode cX3_knows 6 = .ok (.getfield 15, 3) := by decide +kernel
theorem dX3_knows_9 : decode cX3_knows 9 = .ok (.iload_n 1, 1) := by decide +kernel
theorem dX3_knows_10 : decode cX3_knows 10 = .ok (.laload, 1) := by decide +kernel
theorem dX3_knows_11 : decode cX3_knows 11 = .ok (.iload_n 2, 1) := by decide +kernel
theorem dX3_knows_12 : decode cX3_knows 12 = .ok (.invokestatic 27, 3) := by decide +kernel
theorem dX3_knows_15 : decode cX3_knows 15 = .ok (.ifCond .eq 7, 3) := by decide +kernel
theorem dX3_knows_18 : decode cX3_knows 18 = .ok (.iconst 1, 1) := by decide +kernel
theorem dX3_knows_19 : decode cX3_knows 19 = .ok (.goto 4, 3) := by decide +kernel
theorem dX3_knows_22 : decode cX3_knows 22 = .ok (.iconst 0, 1) := by decide +kernel
theorem dX3_knows_23 : decode cX3_knows 23 = .ok (.ireturn, 1) := by decide +kernel
set_option maxRecDepth 20000 in
theorem ggX3_isRival_X3_has : GoodIn wsX3_isRival wsX3_has := goodIn_r _ [6] (by decide +kernel) (by decide +kernel)
set_option maxRecDepth 20000 in
theorem gX3_isRival_X3_has : GoodIn wsX3_isRival (va_wsS RX3 27 yX3_has wsX3_has) := goodIn_app (goodIn_of _ (by decide +kernel)) ggX3_isRival_X3_has
set_option maxRecDepth 20000 in
theorem ggX3_isRival_X3_knows : GoodIn wsX3_isRival wsX3_knows := goodIn_r _ [10, 11, 3, 4, 5, 6, 12, 13, 14, 15, 16, 17] (by decide +kernel) (by decide +kernel)
set_option maxRecDepth 20000 in
theorem gX3_isRival_X3_knows : GoodIn wsX3_isRival (wsV RX3 68 RX3 yX3_knows wsX3_knows) := goodIn_app (goodIn_of _ (by decide +kernel)) ggX3_isRival_X3_knows
theorem dX3_isRival_0 : decode cX3_isRival 0 = .ok (.aload_n 0, 1) := by decide +kernel
theorem dX3_isRival_1 : decode cX3_isRival 1 = .ok (.getfield 23, 3) := by decide +kernel
theorem dX3_isRival_4 : decode cX3_isRival 4 = .ok (.aload_n 0, 1) := by decide +kernel
theorem dX3_isRival_5 : decode cX3_isRival 5 = .ok (.getfield 35, 3) := by decide +kernel
theorem dX3_isRival_8 : decode cX3_isRival 8 = .ok (.lor, 1) := by decide +kernel
theorem dX3_isRival_9 : decode cX3_isRival 9 = .ok (.iload_n 2, 1) := by decide +kernel
theorem dX3_isRival_10 : decode cX3_isRival 10 = .ok (.invokestatic 27, 3) := by decide +kernel
theorem dX3_isRival_13 : decode cX3_isRival 13 = .ok (.ifCond .eq 16, 3) := by decide +kernel
theorem dX3_isRival_16 : decode cX3_isRival 16 = .ok (.aload_n 0, 1) := by decide +kernel
theorem dX3_isRival_17 : decode cX3_isRival 17 = .ok (.iload_n 1, 1) := by decide +kernel
theorem dX3_isRival_18 : decode cX3_isRival 18 = .ok (.iload_n 2, 1) := by decide +kernel
theorem dX3_isRival_19 : decode cX3_isRival 19 = .ok (.invokevirtual 68, 3) := by decide +kernel
theorem dX3_isRival_22 : decode cX3_isRival 22 = .ok (.ifCond .ne 7, 3) := by decide +kernel
theorem dX3_isRival_25 : decode cX3_isRival 25 = .ok (.iconst 1, 1) := by decide +kernel
theorem dX3_isRival_26 : decode cX3_isRival 26 = .ok (.goto 4, 3) := by decide +kernel
theorem dX3_isRival_29 : decode cX3_isRival 29 = .ok (.iconst 0, 1) := by decide +kernel
theorem dX3_isRival_30 : decode cX3_isRival 30 = .ok (.ireturn, 1) := by decide +kernel
set_option maxRecDepth 20000 in
theorem ggX3_settled_X3_isActive : GoodIn wsX3_settled wsX3_isActive := goodIn_r _ [8, 9, 10, 11, 7, 12, 13, 14, 15, 16, 17, 18] (by decide +kernel) (by decide +kernel)
set_option maxRecDepth 20000 in
theorem gX3_settled_X3_isActive : GoodIn wsX3_settled (wsV RX3 57 RX3 yX3_isActive wsX3_isActive) := goodIn_app (goodIn_of _ (by decide +kernel)) ggX3_settled_X3_isActive
theorem dX3_settled_0 : decode cX3_settled 0 = .ok (.aload_n 0, 1) := by decide +kernel
theorem dX3_settled_1 : decode cX3_settled 1 = .ok (.getfield 35, 3) := by decide +kernel
theorem dX3_settled_4 : decode cX3_settled 4 = .ok (.lstore_n 1, 1) := by decide +kernel
theorem dX3_settled_5 : decode cX3_settled 5 = .ok (.iconst 0, 1) := by decide +kernel
theorem dX3_settled_6 : decode cX3_settled 6 = .ok (.istore_n 3, 1) := by decide +kernel
theorem dX3_settled_7 : decode cX3_settled 7 = .ok (.iload_n 3, 1) := by decide +kernel
theorem dX3_settled_8 : decode cX3_settled 8 = .ok (.aload_n 0, 1) := by decide +kernel
theorem dX3_settled_9 : decode cX3_settled 9 = .ok (.getfield 19, 3) := by decide +kernel
theorem dX3_settled_12 : decode cX3_settled 12 = .ok (.if_icmp .ge 26, 3) := by decide +kernel
theorem dX3_settled_15 : decode cX3_settled 15 = .ok (.aload_n 0, 1) := by decide +kernel
theorem dX3_settled_16 : decode cX3_settled 16 = .ok (.iload_n 3, 1) := by decide +kernel
theorem dX3_settled_17 : decode cX3_settled 17 = .ok (.invokevirtual 57, 3) := by decide +kernel
theorem dX3_settled_20 : decode cX3_settled 20 = .ok (.ifCond .eq 12, 3) := by decide +kernel
theorem dX3_settled_23 : decode cX3_settled 23 = .ok (.lload_n 1, 1) := by decide +kernel
theorem dX3_settled_24 : decode cX3_settled 24 = .ok (.aload_n 0, 1) := by decide +kernel
theorem dX3_settled_25 : decode cX3_settled 25 = .ok (.getfield 15, 3) := by decide +kernel
theorem dX3_settled_28 : decode cX3_settled 28 = .ok (.iload_n 3, 1) := by decide +kernel
theorem dX3_settled_29 : decode cX3_settled 29 = .ok (.laload, 1) := by decide +kernel
theorem dX3_settled_30 : decode cX3_settled 30 = .ok (.land, 1) := by decide +kernel
theorem dX3_settled_31 : decode cX3_settled 31 = .ok (.lstore_n 1, 1) := by decide +kernel
theorem dX3_settled_32 : decode cX3_settled 32 = .ok (.iinc 3 1, 3) := by decide +kernel
theorem dX3_settled_35 : decode cX3_settled 35 = .ok (.goto (-28), 3) := by decide +kernel
theorem dX3_settled_38 : decode cX3_settled 38 = .ok (.lload_n 1, 1) := by decide +kernel
theorem dX3_settled_39 : decode cX3_settled 39 = .ok (.lreturn, 1) := by decide +kernel
set_option maxRecDepth 20000 in
theorem ggX4_init_X3_init : GoodIn wsX4_init wsX3_init := goodIn_r _ [24, 25, 2, 3, 26, 27, 28, 29, 60, 61, 62, 63, 64, 65] (by decide +kernel) (by decide +kernel)
set_option maxRecDepth 20000 in
theorem gX4_init_X3_init_n11 : GoodIn wsX4_init (wsX3_init) := ggX4_init_X3_init
set_option maxRecDepth 20000 in
theorem ggX4_init_X1_init : GoodIn wsX4_init wsX1_init := goodIn_r _ [32, 33, 2, 3, 26, 34, 35, 36, 37, 20, 38, 39, 40, 41, 42, 43, 44, 45, 10, 46, 72, 73, 74, 75, 76, 77, 78, 79, 80] (by decide +kernel) (by decide +kernel)
set_option maxRecDepth 20000 in
theorem gX4_init_X1_init : GoodIn wsX4_init (wsX1_init) := ggX4_init_X1_init
set_option maxRecDepth 20000 in
theorem ggX4_init_X0_init : GoodIn wsX4_init wsX0_init := goodIn_r _ [48, 49, 2, 3, 50, 26, 51, 52, 81, 82] (by decide +kernel) (by decide +kernel)
set_option maxRecDepth 20000 in
theorem gX4_init_X0_init_n25 : GoodIn wsX4_init (wsX0_init) := ggX4_init_X0_init
set_option maxRecDepth 20000 in
theorem ggX4_init_X2_init : GoodIn wsX4_init wsX2_init := goodIn_r _ [54, 55, 2, 3, 26, 56, 57, 58, 59, 83, 84, 85, 86, 87] (by decide +kernel) (by decide +kernel)
set_option maxRecDepth 20000 in
theorem gX4_init_X2_init_n32 : GoodIn wsX4_init (wsX2_init) := ggX4_init_X2_init
