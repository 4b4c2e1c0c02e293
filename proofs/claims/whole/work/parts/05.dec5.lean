theorem dX5_init_0 : decode cX5_init 0 = .ok (.aload_n 0, 1) := by decide +kernel
theorem dX5_init_1 : decode cX5_init 1 = .ok (.invokespecial 1, 3) := by decide +kernel
theorem dX5_init_4 : decode cX5_init 4 = .ok (.aload_n 0, 1) := by decide +kernel
theorem dX5_init_5 : decode cX5_init 5 = .ok (.bipush 20, 2) := by decide +kernel
theorem dX5_init_7 : decode cX5_init 7 = .ok (.putfield 7, 3) := by decide +kernel
theorem dX5_init_10 : decode cX5_init 10 = .ok (.aload_n 0, 1) := by decide +kernel
theorem dX5_init_11 : decode cX5_init 11 = .ok (.bipush 60, 2) := by decide +kernel
theorem dX5_init_13 : decode cX5_init 13 = .ok (.newarray .int, 2) := by decide +kernel
theorem dX5_init_15 : decode cX5_init 15 = .ok (.putfield 13, 3) := by decide +kernel
theorem dX5_init_18 : decode cX5_init 18 = .ok (.aload_n 0, 1) := by decide +kernel
theorem dX5_init_19 : decode cX5_init 19 = .ok (.bipush 60, 2) := by decide +kernel
theorem dX5_init_21 : decode cX5_init 21 = .ok (.newarray .int, 2) := by decide +kernel
theorem dX5_init_23 : decode cX5_init 23 = .ok (.putfield 17, 3) := by decide +kernel
theorem dX5_init_26 : decode cX5_init 26 = .ok (.aload_n 0, 1) := by decide +kernel
theorem dX5_init_27 : decode cX5_init 27 = .ok (.bipush 60, 2) := by decide +kernel
theorem dX5_init_29 : decode cX5_init 29 = .ok (.newarray .long, 2) := by decide +kernel
theorem dX5_init_31 : decode cX5_init 31 = .ok (.putfield 20, 3) := by decide +kernel
theorem dX5_init_34 : decode cX5_init 34 = .ok (.aload_n 0, 1) := by decide +kernel
theorem dX5_init_35 : decode cX5_init 35 = .ok (.bipush 32, 2) := by decide +kernel
theorem dX5_init_37 : decode cX5_init 37 = .ok (.newarray .boolean, 2) := by decide +kernel
theorem dX5_init_39 : decode cX5_init 39 = .ok (.putfield 24, 3) := by decide +kernel
theorem dX5_init_42 : decode cX5_init 42 = .ok (.aload_n 0, 1) := by decide +kernel
theorem dX5_init_43 : decode cX5_init 43 = .ok (.bipush 32, 2) := by decide +kernel
theorem dX5_init_45 : decode cX5_init 45 = .ok (.newarray .int, 2) := by decide +kernel
theorem dX5_init_47 : decode cX5_init 47 = .ok (.putfield 28, 3) := by decide +kernel
theorem dX5_init_50 : decode cX5_init 50 = .ok (.aload_n 0, 1) := by decide +kernel
theorem dX5_init_51 : decode cX5_init 51 = .ok (.bipush 32, 2) := by decide +kernel
theorem dX5_init_53 : decode cX5_init 53 = .ok (.newarray .int, 2) := by decide +kernel
theorem dX5_init_55 : decode cX5_init 55 = .ok (.putfield 31, 3) := by decide +kernel
theorem dX5_init_58 : decode cX5_init 58 = .ok (.aload_n 0, 1) := by decide +kernel
theorem dX5_init_59 : decode cX5_init 59 = .ok (.bipush 32, 2) := by decide +kernel
theorem dX5_init_61 : decode cX5_init 61 = .ok (.newarray .int, 2) := by decide +kernel
theorem dX5_init_63 : decode cX5_init 63 = .ok (.putfield 34, 3) := by decide +kernel
theorem dX5_init_66 : decode cX5_init 66 = .ok (.aload_n 0, 1) := by decide +kernel
theorem dX5_init_67 : decode cX5_init 67 = .ok (.bipush 32, 2) := by decide +kernel
theorem dX5_init_69 : decode cX5_init 69 = .ok (.newarray .boolean, 2) := by decide +kernel
theorem dX5_init_71 : decode cX5_init 71 = .ok (.putfield 37, 3) := by decide +kernel
theorem dX5_init_74 : decode cX5_init 74 = .ok (.aload_n 0, 1) := by decide +kernel
theorem dX5_init_75 : decode cX5_init 75 = .ok (.bipush 32, 2) := by decide +kernel
theorem dX5_init_77 : decode cX5_init 77 = .ok (.newarray .int, 2) := by decide +kernel
theorem dX5_init_79 : decode cX5_init 79 = .ok (.putfield 40, 3) := by decide +kernel
theorem dX5_init_82 : decode cX5_init 82 = .ok (.aload_n 0, 1) := by decide +kernel
theorem dX5_init_83 : decode cX5_init 83 = .ok (.bipush 32, 2) := by decide +kernel
theorem dX5_init_85 : decode cX5_init 85 = .ok (.newarray .int, 2) := by decide +kernel
theorem dX5_init_87 : decode cX5_init 87 = .ok (.putfield 43, 3) := by decide +kernel
theorem dX5_init_90 : decode cX5_init 90 = .ok (.aload_n 0, 1) := by decide +kernel
theorem dX5_init_91 : decode cX5_init 91 = .ok (.iconst 4, 1) := by decide +kernel
theorem dX5_init_92 : decode cX5_init 92 = .ok (.newarray .boolean, 2) := by decide +kernel
theorem dX5_init_94 : decode cX5_init 94 = .ok (.putfield 46, 3) := by decide +kernel
theorem dX5_init_97 : decode cX5_init 97 = .ok (.aload_n 0, 1) := by decide +kernel
theorem dX5_init_98 : decode cX5_init 98 = .ok (.sipush 384, 3) := by decide +kernel
theorem dX5_init_101 : decode cX5_init 101 = .ok (.newarray .int, 2) := by decide +kernel
theorem dX5_init_103 : decode cX5_init 103 = .ok (.putfield 49, 3) := by decide +kernel
theorem dX5_init_106 : decode cX5_init 106 = .ok (.aload_n 0, 1) := by decide +kernel
theorem dX5_init_107 : decode cX5_init 107 = .ok (.bipush 6, 2) := by decide +kernel
theorem dX5_init_109 : decode cX5_init 109 = .ok (.newarray .int, 2) := by decide +kernel
theorem dX5_init_111 : decode cX5_init 111 = .ok (.putfield 52, 3) := by decide +kernel
theorem dX5_init_114 : decode cX5_init 114 = .ok (.return_, 1) := by decide +kernel
theorem dX5_thrown_0 : decode cX5_thrown 0 = .ok (.aload_n 0, 1) := by decide +kernel
theorem dX5_thrown_1 : decode cX5_thrown 1 = .ok (.getfield 55, 3) := by decide +kernel
theorem dX5_thrown_4 : decode cX5_thrown 4 = .ok (.ireturn, 1) := by decide +kernel
theorem dX5_isFine_0 : decode cX5_isFine 0 = .ok (.aload_n 0, 1) := by decide +kernel
theorem dX5_isFine_1 : decode cX5_isFine 1 = .ok (.iload_n 1, 1) := by decide +kernel
theorem dX5_isFine_2 : decode cX5_isFine 2 = .ok (.putfield 55, 3) := by decide +kernel
theorem dX5_isFine_5 : decode cX5_isFine 5 = .ok (.iload_n 1, 1) := by decide +kernel
theorem dX5_isFine_6 : decode cX5_isFine 6 = .ok (.ifCond .ne 7, 3) := by decide +kernel
theorem dX5_isFine_9 : decode cX5_isFine 9 = .ok (.iconst 1, 1) := by decide +kernel
theorem dX5_isFine_10 : decode cX5_isFine 10 = .ok (.goto 4, 3) := by decide +kernel
theorem dX5_isFine_13 : decode cX5_isFine 13 = .ok (.iconst 0, 1) := by decide +kernel
theorem dX5_isFine_14 : decode cX5_isFine 14 = .ok (.ireturn, 1) := by decide +kernel
theorem dX5_isIn_0 : decode cX5_isIn 0 = .ok (.iload_n 0, 1) := by decide +kernel
theorem dX5_isIn_1 : decode cX5_isIn 1 = .ok (.iload_n 1, 1) := by decide +kernel
theorem dX5_isIn_2 : decode cX5_isIn 2 = .ok (.if_icmp .lt 12, 3) := by decide +kernel
theorem dX5_isIn_5 : decode cX5_isIn 5 = .ok (.iload_n 0, 1) := by decide +kernel
theorem dX5_isIn_6 : decode cX5_isIn 6 = .ok (.iload_n 2, 1) := by decide +kernel
theorem dX5_isIn_7 : decode cX5_isIn 7 = .ok (.if_icmp .gt 7, 3) := by decide +kernel
theorem dX5_isIn_10 : decode cX5_isIn 10 = .ok (.iconst 1, 1) := by decide +kernel
theorem dX5_isIn_11 : decode cX5_isIn 11 = .ok (.goto 4, 3) := by decide +kernel
theorem dX5_isIn_14 : decode cX5_isIn 14 = .ok (.iconst 0, 1) := by decide +kernel
theorem dX5_isIn_15 : decode cX5_isIn 15 = .ok (.ireturn, 1) := by decide +kernel
set_option maxRecDepth 20000 in
theorem ggX5_isTransaction_X5_isIn : GoodIn wsX5_isTransaction wsX5_isIn := goodIn_r _ [5] (by decide +kernel) (by decide +kernel)
set_option maxRecDepth 20000 in
theorem gX5_isTransaction_X5_isIn : GoodIn wsX5_isTransaction (va_wsS RX5 61 yX5_isIn wsX5_isIn) := goodIn_app (goodIn_of _ (by decide +kernel)) ggX5_isTransaction_X5_isIn
theorem dX5_isTransaction_0 : decode cX5_isTransaction 0 = .ok (.iload_n 1, 1) := by decide +kernel
theorem dX5_isTransaction_1 : decode cX5_isTransaction 1 = .ok (.iconst 0, 1) := by decide +kernel
theorem dX5_isTransaction_2 : decode cX5_isTransaction 2 = .ok (.aload_n 0, 1) := by decide +kernel
theorem dX5_isTransaction_3 : decode cX5_isTransaction 3 = .ok (.getfield 58, 3) := by decide +kernel
theorem dX5_isTransaction_6 : decode cX5_isTransaction 6 = .ok (.iconst 1, 1) := by decide +kernel
theorem dX5_isTransaction_7 : decode cX5_isTransaction 7 = .ok (.isub, 1) := by decide +kernel
theorem dX5_isTransaction_8 : decode cX5_isTransaction 8 = .ok (.invokestatic 61, 3) := by decide +kernel
theorem dX5_isTransaction_11 : decode cX5_isTransaction 11 = .ok (.ireturn, 1) := by decide +kernel
theorem dX5_isActive_0 : decode cX5_isActive 0 = .ok (.aload_n 0, 1) := by decide +kernel
theorem dX5_isActive_1 : decode cX5_isActive 1 = .ok (.getfield 17, 3) := by decide +kernel
theorem dX5_isActive_4 : decode cX5_isActive 4 = .ok (.iload_n 1, 1) := by decide +kernel
theorem dX5_isActive_5 : decode cX5_isActive 5 = .ok (.iaload, 1) := by decide +kernel
theorem dX5_isActive_6 : decode cX5_isActive 6 = .ok (.ifCond .ne 7, 3) := by decide +kernel
theorem dX5_isActive_9 : decode cX5_isActive 9 = .ok (.iconst 1, 1) := by decide +kernel
theorem dX5_isActive_10 : decode cX5_isActive 10 = .ok (.goto 4, 3) := by decide +kernel
theorem dX5_isActive_13 : decode cX5_isActive 13 = .ok (.iconst 0, 1) := by decide +kernel
theorem dX5_isActive_14 : decode cX5_isActive 14 = .ok (.ireturn, 1) := by decide +kernel
set_option maxRecDepth 20000 in
theorem ggX5_isKey_X5_isIn : GoodIn wsX5_isKey wsX5_isIn := goodIn_r _ [4] (by decide +kernel) (by decide +kernel)
set_option maxRecDepth 20000 in
theorem gX5_isKey_X5_isIn : GoodIn wsX5_isKey (va_wsS RX5 61 yX5_isIn wsX5_isIn) := goodIn_app (goodIn_of _ (by decide +kernel)) ggX5_isKey_X5_isIn
theorem dX5_isKey_0 : decode cX5_isKey 0 = .ok (.iload_n 0, 1) := by decide +kernel
theorem dX5_isKey_1 : decode cX5_isKey 1 = .ok (.iconst 0, 1) := by decide +kernel
theorem dX5_isKey_2 : decode cX5_isKey 2 = .ok (.iconst 5, 1) := by decide +kernel
theorem dX5_isKey_3 : decode cX5_isKey 3 = .ok (.invokestatic 61, 3) := by decide +kernel
theorem dX5_isKey_6 : decode cX5_isKey 6 = .ok (.ireturn, 1) := by decide +kernel
set_option maxRecDepth 20000 in
theorem ggX5_isPage_X5_isIn : GoodIn wsX5_isPage wsX5_isIn := goodIn_r _ [4] (by decide +kernel) (by decide +kernel)
set_option maxRecDepth 20000 in
theorem gX5_isPage_X5_isIn : GoodIn wsX5_isPage (va_wsS RX5 61 yX5_isIn wsX5_isIn) := goodIn_app (goodIn_of _ (by decide +kernel)) ggX5_isPage_X5_isIn
theorem dX5_isPage_0 : decode cX5_isPage 0 = .ok (.iload_n 0, 1) := by decide +kernel
theorem dX5_isPage_1 : decode cX5_isPage 1 = .ok (.iconst 0, 1) := by decide +kernel
theorem dX5_isPage_2 : decode cX5_isPage 2 = .ok (.iconst 3, 1) := by decide +kernel
theorem dX5_isPage_3 : decode cX5_isPage 3 = .ok (.invokestatic 61, 3) := by decide +kernel
theorem dX5_isPage_6 : decode cX5_isPage 6 = .ok (.ireturn, 1) := by decide +kernel
theorem dX5_isInSnapshot_0 : decode cX5_isInSnapshot 0 = .ok (.aload_n 0, 1) := by decide +kernel
theorem dX5_isInSnapshot_1 : decode cX5_isInSnapshot 1 = .ok (.getfield 20, 3) := by decide +kernel
theorem dX5_isInSnapshot_4 : decode cX5_isInSnapshot 4 = .ok (.iload_n 1, 1) := by decide +kernel
theorem dX5_isInSnapshot_5 : decode cX5_isInSnapshot 5 = .ok (.laload, 1) := by decide +kernel
theorem dX5_isInSnapshot_6 : decode cX5_isInSnapshot 6 = .ok (.iload_n 2, 1) := by decide +kernel
theorem dX5_isInSnapshot_7 : decode cX5_isInSnapshot 7 = .ok (.lshr, 1) := by decide +kernel
theorem dX5_isInSnapshot_8 : decode cX5_isInSnapshot 8 = .ok (.lconst 1, 1) := by decide +kernel
theorem dX5_isInSnapshot_9 : decode cX5_isInSnapshot 9 = .ok (.land, 1) := by decide +kernel
theorem dX5_isInSnapshot_10 : decode cX5_isInSnapshot 10 = .ok (.lconst 1, 1) := by decide +kernel
theorem dX5_isInSnapshot_11 : decode cX5_isInSnapshot 11 = .ok (.lcmp, 1) := by decide +kernel
theorem dX5_isInSnapshot_12 : decode cX5_isInSnapshot 12 = .ok (.ifCond .ne 7, 3) := by decide +kernel
theorem dX5_isInSnapshot_15 : decode cX5_isInSnapshot 15 = .ok (.iconst 1, 1) := by decide +kernel
theorem dX5_isInSnapshot_16 : decode cX5_isInSnapshot 16 = .ok (.goto 4, 3) := by decide +kernel
theorem dX5_isInSnapshot_19 : decode cX5_isInSnapshot 19 = .ok (.iconst 0, 1) := by decide +kernel
theorem dX5_isInSnapshot_20 : decode cX5_isInSnapshot 20 = .ok (.ireturn, 1) := by decide +kernel
theorem dX5_ageOf_0 : decode cX5_ageOf 0 = .ok (.aload_n 0, 1) := by decide +kernel
theorem dX5_ageOf_1 : decode cX5_ageOf 1 = .ok (.getfield 65, 3) := by decide +kernel
theorem dX5_ageOf_4 : decode cX5_ageOf 4 = .ok (.aload_n 0, 1) := by decide +kernel
theorem dX5_ageOf_5 : decode cX5_ageOf 5 = .ok (.getfield 13, 3) := by decide +kernel
theorem dX5_ageOf_8 : decode cX5_ageOf 8 = .ok (.iload_n 1, 1) := by decide +kernel
theorem dX5_ageOf_9 : decode cX5_ageOf 9 = .ok (.iaload, 1) := by decide +kernel
theorem dX5_ageOf_10 : decode cX5_ageOf 10 = .ok (.isub, 1) := by decide +kernel
theorem dX5_ageOf_11 : decode cX5_ageOf 11 = .ok (.bipush 64, 2) := by decide +kernel
theorem dX5_ageOf_13 : decode cX5_ageOf 13 = .ok (.iadd, 1) := by decide +kernel
theorem dX5_ageOf_14 : decode cX5_ageOf 14 = .ok (.bipush 64, 2) := by decide +kernel
theorem dX5_ageOf_16 : decode cX5_ageOf 16 = .ok (.irem, 1) := by decide +kernel
theorem dX5_ageOf_17 : decode cX5_ageOf 17 = .ok (.ireturn, 1) := by decide +kernel
set_option maxRecDepth 20000 in
theorem ggX5_isPast_X5_isActive : GoodIn wsX5_isPast wsX5_isActive := goodIn_r _ [7, 1, 13, 14, 15, 16, 17, 18, 19, 20, 21, 22, 23, 24, 25, 26, 27, 28, 29] (by decide +kernel) (by decide +kernel)
set_option maxRecDepth 20000 in
theorem gX5_isPast_X5_isActive : GoodIn wsX5_isPast (wsV RX5 68 RX5 yX5_isActive wsX5_isActive) := goodIn_app (goodIn_of _ (by decide +kernel)) ggX5_isPast_X5_isActive
set_option maxRecDepth 20000 in
theorem ggX5_isPast_X5_isInSnapshot : GoodIn wsX5_isPast wsX5_isInSnapshot := goodIn_r _ [11, 12, 13, 14, 15, 16, 17, 18, 19, 20, 21, 22, 23, 24, 25, 26, 27, 28, 29] (by decide +kernel) (by decide +kernel)
set_option maxRecDepth 20000 in
theorem gX5_isPast_X5_isInSnapshot : GoodIn wsX5_isPast (wsV RX5 72 RX5 yX5_isInSnapshot wsX5_isInSnapshot) := goodIn_app (goodIn_of _ (by decide +kernel)) ggX5_isPast_X5_isInSnapshot
theorem dX5_isPast_0 : decode cX5_isPast 0 = .ok (.aload_n 0, 1) := by decide +kernel
theorem dX5_isPast_1 : decode cX5_isPast 1 = .ok (.getfield 17, 3) := by decide +kernel
theorem dX5_isPast_4 : decode cX5_isPast 4 = .ok (.iload_n 1, 1) := by decide +kernel
theorem dX5_isPast_5 : decode cX5_isPast 5 = .ok (.iaload, 1) := by decide +kernel
theorem dX5_isPast_6 : decode cX5_isPast 6 = .ok (.iconst 1, 1) := by decide +kernel
theorem dX5_isPast_7 : decode cX5_isPast 7 = .ok (.if_icmp .ne 7, 3) := by decide +kernel
theorem dX5_isPast_10 : decode cX5_isPast 10 = .ok (.iconst 1, 1) := by decide +kernel
theorem dX5_isPast_11 : decode cX5_isPast 11 = .ok (.goto 4, 3) := by decide +kernel
theorem dX5_isPast_14 : decode cX5_isPast 14 = .ok (.iconst 0, 1) := by decide +kernel
theorem dX5_isPast_15 : decode cX5_isPast 15 = .ok (.istore_n 2, 1) := by decide +kernel
theorem dX5_isPast_16 : decode cX5_isPast 16 = .ok (.iconst 0, 1) := by decide +kernel
theorem dX5_isPast_17 : decode cX5_isPast 17 = .ok (.istore_n 3, 1) := by decide +kernel
theorem dX5_isPast_18 : decode cX5_isPast 18 = .ok (.iload_n 3, 1) := by decide +kernel
theorem dX5_isPast_19 : decode cX5_isPast 19 = .ok (.aload_n 0, 1) := by decide +kernel
theorem dX5_isPast_20 : decode cX5_isPast 20 = .ok (.getfield 58, 3) := by decide +kernel
theorem dX5_isPast_23 : decode cX5_isPast 23 = .ok (.if_icmp .ge 36, 3) := by decide +kernel
theorem dX5_isPast_26 : decode cX5_isPast 26 = .ok (.iload_n 2, 1) := by decide +kernel
theorem dX5_isPast_27 : decode cX5_isPast 27 = .ok (.ifCond .eq 24, 3) := by decide +kernel
theorem dX5_isPast_30 : decode cX5_isPast 30 = .ok (.aload_n 0, 1) := by decide +kernel
theorem dX5_isPast_31 : decode cX5_isPast 31 = .ok (.iload_n 3, 1) := by decide +kernel
theorem dX5_isPast_32 : decode cX5_isPast 32 = .ok (.invokevirtual 68, 3) := by decide +kernel
theorem dX5_isPast_35 : decode cX5_isPast 35 = .ok (.ifCond .eq 12, 3) := by decide +kernel
theorem dX5_isPast_38 : decode cX5_isPast 38 = .ok (.aload_n 0, 1) := by decide +kernel
theorem dX5_isPast_39 : decode cX5_isPast 39 = .ok (.iload_n 3, 1) := by decide +kernel
theorem dX5_isPast_40 : decode cX5_isPast 40 = .ok (.iload_n 1, 1) := by decide +kernel
theorem dX5_isPast_41 : decode cX5_isPast 41 = .ok (.invokevirtual 72, 3) := by decide +kernel
theorem dX5_isPast_44 : decode cX5_isPast 44 = .ok (.ifCond .eq 7, 3) := by decide +kernel
theorem dX5_isPast_47 : decode cX5_isPast 47 = .ok (.iconst 1, 1) := by decide +kernel
theorem dX5_isPast_48 : decode cX5_isPast 48 = .ok (.goto 4, 3) := by decide +kernel
theorem dX5_isPast_51 : decode cX5_isPast 51 = .ok (.iconst 0, 1) := by decide +kernel
theorem dX5_isPast_52 : decode cX5_isPast 52 = .ok (.istore_n 2, 1) := by decide +kernel
theorem dX5_isPast_53 : decode cX5_isPast 53 = .ok (.iinc 3 1, 3) := by decide +kernel
theorem dX5_isPast_56 : decode cX5_isPast 56 = .ok (.goto (-38), 3) := by decide +kernel
theorem dX5_isPast_59 : decode cX5_isPast 59 = .ok (.iload_n 2, 1) := by decide +kernel
theorem dX5_isPast_60 : decode cX5_isPast 60 = .ok (.ireturn, 1) := by decide +kernel
set_option maxRecDepth 20000 in
theorem ggX5_oldestNow_X5_ageOf : GoodIn wsX5_oldestNow wsX5_ageOf := goodIn_r _ [10, 11, 12, 18, 19, 20, 21, 22, 23, 24, 25, 26, 27, 28, 29, 30, 31, 32, 33, 34] (by decide +kernel) (by decide +kernel)
set_option maxRecDepth 20000 in
theorem gX5_oldestNow_X5_ageOf : GoodIn wsX5_oldestNow (wsV RX5 76 RX5 yX5_ageOf wsX5_ageOf) := goodIn_app (goodIn_of _ (by decide +kernel)) ggX5_oldestNow_X5_ageOf
set_option maxRecDepth 20000 in
theorem ggX5_oldestNow_X5_isActive : GoodIn wsX5_oldestNow wsX5_isActive := goodIn_r _ [16, 17, 18, 19, 20, 21, 22, 23, 24, 25, 26, 27, 28, 29, 30, 31, 32, 33, 34] (by decide +kernel) (by decide +kernel)
set_option maxRecDepth 20000 in
theorem gX5_oldestNow_X5_isActive : GoodIn wsX5_oldestNow (wsV RX5 68 RX5 yX5_isActive wsX5_isActive) := goodIn_app (goodIn_of _ (by decide +kernel)) ggX5_oldestNow_X5_isActive
theorem dX5_oldestNow_0 : decode cX5_oldestNow 0 = .ok (.iconst 0, 1) := by decide +kernel
theorem dX5_oldestNow_1 : decode cX5_oldestNow 1 = .ok (.istore_n 1, 1) := by decide +kernel
theorem dX5_oldestNow_2 : decode cX5_oldestNow 2 = .ok (.iconst 0, 1) := by decide +kernel
theorem dX5_oldestNow_3 : decode cX5_oldestNow 3 = .ok (.istore_n 2, 1) := by decide +kernel
theorem dX5_oldestNow_4 : decode cX5_oldestNow 4 = .ok (.iload_n 2, 1) := by decide +kernel
theorem dX5_oldestNow_5 : decode cX5_oldestNow 5 = .ok (.bipush 32, 2) := by decide +kernel
theorem dX5_oldestNow_7 : decode cX5_oldestNow 7 = .ok (.if_icmp .ge 101, 3) := by decide +kernel
theorem dX5_oldestNow_10 : decode cX5_oldestNow 10 = .ok (.aload_n 0, 1) := by decide +kernel
theorem dX5_oldestNow_11 : decode cX5_oldestNow 11 = .ok (.getfield 24, 3) := by decide +kernel
theorem dX5_oldestNow_14 : decode cX5_oldestNow 14 = .ok (.iload_n 2, 1) := by decide +kernel
theorem dX5_oldestNow_15 : decode cX5_oldestNow 15 = .ok (.baload, 1) := by decide +kernel
theorem dX5_oldestNow_16 : decode cX5_oldestNow 16 = .ok (.ifCond .eq 25, 3) := by decide +kernel
theorem dX5_oldestNow_19 : decode cX5_oldestNow 19 = .ok (.aload_n 0, 1) := by decide +kernel
theorem dX5_oldestNow_20 : decode cX5_oldestNow 20 = .ok (.getfield 37, 3) := by decide +kernel
theorem dX5_oldestNow_23 : decode cX5_oldestNow 23 = .ok (.iload_n 2, 1) := by decide +kernel
theorem dX5_oldestNow_24 : decode cX5_oldestNow 24 = .ok (.baload, 1) := by decide +kernel
theorem dX5_oldestNow_25 : decode cX5_oldestNow 25 = .ok (.ifCond .ne 16, 3) := by decide +kernel
theorem dX5_oldestNow_28 : decode cX5_oldestNow 28 = .ok (.aload_n 0, 1) := by decide +kernel
theorem dX5_oldestNow_29 : decode cX5_oldestNow 29 = .ok (.aload_n 0, 1) := by decide +kernel
theorem dX5_oldestNow_30 : decode cX5_oldestNow 30 = .ok (.getfield 34, 3) := by decide +kernel
theorem dX5_oldestNow_33 : decode cX5_oldestNow 33 = .ok (.iload_n 2, 1) := by decide +kernel
theorem dX5_oldestNow_34 : decode cX5_oldestNow 34 = .ok (.iaload, 1) := by decide +kernel
theorem dX5_oldestNow_35 : decode cX5_oldestNow 35 = .ok (.invokevirtual 76, 3) := by decide +kernel
theorem dX5_oldestNow_38 : decode cX5_oldestNow 38 = .ok (.goto 4, 3) := by decide +kernel
theorem dX5_oldestNow_41 : decode cX5_oldestNow 41 = .ok (.iconst 0, 1) := by decide +kernel
theorem dX5_oldestNow_42 : decode cX5_oldestNow 42 = .ok (.istore_n 3, 1) := by decide +kernel
theorem dX5_oldestNow_43 : decode cX5_oldestNow 43 = .ok (.aload_n 0, 1) := by decide +kernel
theorem dX5_oldestNow_44 : decode cX5_oldestNow 44 = .ok (.getfield 24, 3) := by decide +kernel
theorem dX5_oldestNow_47 : decode cX5_oldestNow 47 = .ok (.iload_n 2, 1) := by decide +kernel
theorem dX5_oldestNow_48 : decode cX5_oldestNow 48 = .ok (.baload, 1) := by decide +kernel
theorem dX5_oldestNow_49 : decode cX5_oldestNow 49 = .ok (.ifCond .eq 26, 3) := by decide +kernel
theorem dX5_oldestNow_52 : decode cX5_oldestNow 52 = .ok (.aload_n 0, 1) := by decide +kernel
theorem dX5_oldestNow_53 : decode cX5_oldestNow 53 = .ok (.getfield 40, 3) := by decide +kernel
theorem dX5_oldestNow_56 : decode cX5_oldestNow 56 = .ok (.iload_n 2, 1) := by decide +kernel
theorem dX5_oldestNow_57 : decode cX5_oldestNow 57 = .ok (.iaload, 1) := by decide +kernel
theorem dX5_oldestNow_58 : decode cX5_oldestNow 58 = .ok (.iconst (-1), 1) := by decide +kernel
theorem dX5_oldestNow_59 : decode cX5_oldestNow 59 = .ok (.if_icmp .eq 16, 3) := by decide +kernel
theorem dX5_oldestNow_62 : decode cX5_oldestNow 62 = .ok (.aload_n 0, 1) := by decide +kernel
theorem dX5_oldestNow_63 : decode cX5_oldestNow 63 = .ok (.aload_n 0, 1) := by decide +kernel
theorem dX5_oldestNow_64 : decode cX5_oldestNow 64 = .ok (.getfield 40, 3) := by decide +kernel
theorem dX5_oldestNow_67 : decode cX5_oldestNow 67 = .ok (.iload_n 2, 1) := by decide +kernel
theorem dX5_oldestNow_68 : decode cX5_oldestNow 68 = .ok (.iaload, 1) := by decide +kernel
theorem dX5_oldestNow_69 : decode cX5_oldestNow 69 = .ok (.invokevirtual 76, 3) := by decide +kernel
theorem dX5_oldestNow_72 : decode cX5_oldestNow 72 = .ok (.goto 4, 3) := by decide +kernel
theorem dX5_oldestNow_75 : decode cX5_oldestNow 75 = .ok (.iconst 0, 1) := by decide +kernel
theorem dX5_oldestNow_76 : decode cX5_oldestNow 76 = .ok (.istore 4, 2) := by decide +kernel
theorem dX5_oldestNow_78 : decode cX5_oldestNow 78 = .ok (.iload_n 3, 1) := by decide +kernel
theorem dX5_oldestNow_79 : decode cX5_oldestNow 79 = .ok (.iload_n 1, 1) := by decide +kernel
theorem dX5_oldestNow_80 : decode cX5_oldestNow 80 = .ok (.if_icmp .le 7, 3) := by decide +kernel
theorem dX5_oldestNow_83 : decode cX5_oldestNow 83 = .ok (.iload_n 3, 1) := by decide +kernel
theorem dX5_oldestNow_84 : decode cX5_oldestNow 84 = .ok (.goto 4, 3) := by decide +kernel
theorem dX5_oldestNow_87 : decode cX5_oldestNow 87 = .ok (.iload_n 1, 1) := by decide +kernel
theorem dX5_oldestNow_88 : decode cX5_oldestNow 88 = .ok (.istore_n 1, 1) := by decide +kernel
theorem dX5_oldestNow_89 : decode cX5_oldestNow 89 = .ok (.iload 4, 2) := by decide +kernel
theorem dX5_oldestNow_91 : decode cX5_oldestNow 91 = .ok (.iload_n 1, 1) := by decide +kernel
theorem dX5_oldestNow_92 : decode cX5_oldestNow 92 = .ok (.if_icmp .le 8, 3) := by decide +kernel
theorem dX5_oldestNow_95 : decode cX5_oldestNow 95 = .ok (.iload 4, 2) := by decide +kernel
theorem dX5_oldestNow_97 : decode cX5_oldestNow 97 = .ok (.goto 4, 3) := by decide +kernel
theorem dX5_oldestNow_100 : decode cX5_oldestNow 100 = .ok (.iload_n 1, 1) := by decide +kernel
theorem dX5_oldestNow_101 : decode cX5_oldestNow 101 = .ok (.istore_n 1, 1) := by decide +kernel
theorem dX5_oldestNow_102 : decode cX5_oldestNow 102 = .ok (.iinc 2 1, 3) := by decide +kernel
theorem dX5_oldestNow_105 : decode cX5_oldestNow 105 = .ok (.goto (-101), 3) := by decide +kernel
theorem dX5_oldestNow_108 : decode cX5_oldestNow 108 = .ok (.iconst 0, 1) := by decide +kernel
theorem dX5_oldestNow_109 : decode cX5_oldestNow 109 = .ok (.istore_n 2, 1) := by decide +kernel
theorem dX5_oldestNow_110 : decode cX5_oldestNow 110 = .ok (.iload_n 2, 1) := by decide +kernel
theorem dX5_oldestNow_111 : decode cX5_oldestNow 111 = .ok (.aload_n 0, 1) := by decide +kernel
theorem dX5_oldestNow_112 : decode cX5_oldestNow 112 = .ok (.getfield 58, 3) := by decide +kernel
theorem dX5_oldestNow_115 : decode cX5_oldestNow 115 = .ok (.if_icmp .ge 36, 3) := by decide +kernel
theorem dX5_oldestNow_118 : decode cX5_oldestNow 118 = .ok (.aload_n 0, 1) := by decide +kernel
theorem dX5_oldestNow_119 : decode cX5_oldestNow 119 = .ok (.iload_n 2, 1) := by decide +kernel
theorem dX5_oldestNow_120 : decode cX5_oldestNow 120 = .ok (.invokevirtual 68, 3) := by decide +kernel
theorem dX5_oldestNow_123 : decode cX5_oldestNow 123 = .ok (.ifCond .eq 20, 3) := by decide +kernel
theorem dX5_oldestNow_126 : decode cX5_oldestNow 126 = .ok (.aload_n 0, 1) := by decide +kernel
theorem dX5_oldestNow_127 : decode cX5_oldestNow 127 = .ok (.iload_n 2, 1) := by decide +kernel
theorem dX5_oldestNow_128 : decode cX5_oldestNow 128 = .ok (.invokevirtual 76, 3) := by decide +kernel
theorem dX5_oldestNow_131 : decode cX5_oldestNow 131 = .ok (.iload_n 1, 1) := by decide +kernel
theorem dX5_oldestNow_132 : decode cX5_oldestNow 132 = .ok (.if_icmp .le 11, 3) := by decide +kernel
theorem dX5_oldestNow_135 : decode cX5_oldestNow 135 = .ok (.aload_n 0, 1) := by decide +kernel
theorem dX5_oldestNow_136 : decode cX5_oldestNow 136 = .ok (.iload_n 2, 1) := by decide +kernel
theorem dX5_oldestNow_137 : decode cX5_oldestNow 137 = .ok (.invokevirtual 76, 3) := by decide +kernel
theorem dX5_oldestNow_140 : decode cX5_oldestNow 140 = .ok (.goto 4, 3) := by decide +kernel
theorem dX5_oldestNow_143 : decode cX5_oldestNow 143 = .ok (.iload_n 1, 1) := by decide +kernel
theorem dX5_oldestNow_144 : decode cX5_oldestNow 144 = .ok (.istore_n 1, 1) := by decide +kernel
theorem dX5_oldestNow_145 : decode cX5_oldestNow 145 = .ok (.iinc 2 1, 3) := by decide +kernel
theorem dX5_oldestNow_148 : decode cX5_oldestNow 148 = .ok (.goto (-38), 3) := by decide +kernel
theorem dX5_oldestNow_151 : decode cX5_oldestNow 151 = .ok (.iload_n 1, 1) := by decide +kernel
theorem dX5_oldestNow_152 : decode cX5_oldestNow 152 = .ok (.ireturn, 1) := by decide +kernel
set_option maxRecDepth 20000 in
theorem ggX5_begin_X5_oldestNow : GoodIn wsX5_begin wsX5_oldestNow := goodIn_r _ [10, 11, 12, 13, 14, 1, 15, 16, 17, 9, 18, 5, 4, 19, 20, 21, 22, 2, 28, 29, 30, 31, 32, 33, 34, 35, 36, 37, 38, 39, 40, 41, 42, 43, 44] (by decide +kernel) (by decide +kernel)
set_option maxRecDepth 20000 in
theorem gX5_begin_X5_oldestNow : GoodIn wsX5_begin (wsV RX5 80 RX5 yX5_oldestNow wsX5_oldestNow) := goodIn_app (goodIn_of _ (by decide +kernel)) ggX5_begin_X5_oldestNow
set_option maxRecDepth 20000 in
theorem ggX5_begin_X5_isFine : GoodIn wsX5_begin wsX5_isFine := goodIn_r _ [26, 27, 28, 29, 30, 31, 32, 33, 34, 35, 36, 37, 38, 39, 40, 41, 42, 43, 44] (by decide +kernel) (by decide +kernel)
set_option maxRecDepth 20000 in
theorem gX5_begin_X5_isFine : GoodIn wsX5_begin (wsV RX5 84 RX5 yX5_isFine wsX5_isFine) := goodIn_app (goodIn_of _ (by decide +kernel)) ggX5_begin_X5_isFine
theorem dX5_begin_0 : decode cX5_begin 0 = .ok (.aload_n 0, 1) := by decide +kernel
theorem dX5_begin_1 : decode cX5_begin 1 = .ok (.aload_n 0, 1) := by decide +kernel
theorem dX5_begin_2 : decode cX5_begin 2 = .ok (.getfield 58, 3) := by decide +kernel
theorem dX5_begin_5 : decode cX5_begin 5 = .ok (.bipush 60, 2) := by decide +kernel
theorem dX5_begin_7 : decode cX5_begin 7 = .ok (.if_icmp .eq 12, 3) := by decide +kernel
theorem dX5_begin_10 : decode cX5_begin 10 = .ok (.aload_n 0, 1) := by decide +kernel
theorem dX5_begin_11 : decode cX5_begin 11 = .ok (.invokevirtual 80, 3) := by decide +kernel
theorem dX5_begin_14 : decode cX5_begin 14 = .ok (.bipush 28, 2) := by decide +kernel
theorem dX5_begin_16 : decode cX5_begin 16 = .ok (.if_icmp .lt 7, 3) := by decide +kernel
theorem dX5_begin_19 : decode cX5_begin 19 = .ok (.iconst 1, 1) := by decide +kernel
theorem dX5_begin_20 : decode cX5_begin 20 = .ok (.goto 4, 3) := by decide +kernel
theorem dX5_begin_23 : decode cX5_begin 23 = .ok (.iconst 0, 1) := by decide +kernel
theorem dX5_begin_24 : decode cX5_begin 24 = .ok (.invokevirtual 84, 3) := by decide +kernel
theorem dX5_begin_27 : decode cX5_begin 27 = .ok (.ifCond .ne 5, 3) := by decide +kernel
theorem dX5_begin_30 : decode cX5_begin 30 = .ok (.iconst 0, 1) := by decide +kernel
theorem dX5_begin_31 : decode cX5_begin 31 = .ok (.ireturn, 1) := by decide +kernel
theorem dX5_begin_32 : decode cX5_begin 32 = .ok (.lconst 0, 1) := by decide +kernel
theorem dX5_begin_33 : decode cX5_begin 33 = .ok (.lstore_n 1, 1) := by decide +kernel
theorem dX5_begin_34 : decode cX5_begin 34 = .ok (.iconst 0, 1) := by decide +kernel
theorem dX5_begin_35 : decode cX5_begin 35 = .ok (.istore_n 3, 1) := by decide +kernel
theorem dX5_begin_36 : decode cX5_begin 36 = .ok (.iload_n 3, 1) := by decide +kernel
theorem dX5_begin_37 : decode cX5_begin 37 = .ok (.aload_n 0, 1) := by decide +kernel
theorem dX5_begin_38 : decode cX5_begin 38 = .ok (.getfield 58, 3) := by decide +kernel
theorem dX5_begin_41 : decode cX5_begin 41 = .ok (.if_icmp .ge 29, 3) := by decide +kernel
theorem dX5_begin_44 : decode cX5_begin 44 = .ok (.lload_n 1, 1) := by decide +kernel
theorem dX5_begin_45 : decode cX5_begin 45 = .ok (.aload_n 0, 1) := by decide +kernel
theorem dX5_begin_46 : decode cX5_begin 46 = .ok (.getfield 17, 3) := by decide +kernel
theorem dX5_begin_49 : decode cX5_begin 49 = .ok (.iload_n 3, 1) := by decide +kernel
theorem dX5_begin_50 : decode cX5_begin 50 = .ok (.iaload, 1) := by decide +kernel
theorem dX5_begin_51 : decode cX5_begin 51 = .ok (.iconst 1, 1) := by decide +kernel
theorem dX5_begin_52 : decode cX5_begin 52 = .ok (.if_icmp .ne 9, 3) := by decide +kernel
theorem dX5_begin_55 : decode cX5_begin 55 = .ok (.lconst 1, 1) := by decide +kernel
theorem dX5_begin_56 : decode cX5_begin 56 = .ok (.iload_n 3, 1) := by decide +kernel
theorem dX5_begin_57 : decode cX5_begin 57 = .ok (.lshl, 1) := by decide +kernel
theorem dX5_begin_58 : decode cX5_begin 58 = .ok (.goto 4, 3) := by decide +kernel
theorem dX5_begin_61 : decode cX5_begin 61 = .ok (.lconst 0, 1) := by decide +kernel
theorem dX5_begin_62 : decode cX5_begin 62 = .ok (.lor, 1) := by decide +kernel
theorem dX5_begin_63 : decode cX5_begin 63 = .ok (.lstore_n 1, 1) := by decide +kernel
theorem dX5_begin_64 : decode cX5_begin 64 = .ok (.iinc 3 1, 3) := by decide +kernel
theorem dX5_begin_67 : decode cX5_begin 67 = .ok (.goto (-31), 3) := by decide +kernel
theorem dX5_begin_70 : decode cX5_begin 70 = .ok (.aload_n 0, 1) := by decide +kernel
theorem dX5_begin_71 : decode cX5_begin 71 = .ok (.getfield 20, 3) := by decide +kernel
theorem dX5_begin_74 : decode cX5_begin 74 = .ok (.aload_n 0, 1) := by decide +kernel
theorem dX5_begin_75 : decode cX5_begin 75 = .ok (.getfield 58, 3) := by decide +kernel
theorem dX5_begin_78 : decode cX5_begin 78 = .ok (.lload_n 1, 1) := by decide +kernel
theorem dX5_begin_79 : decode cX5_begin 79 = .ok (.lastore, 1) := by decide +kernel
theorem dX5_begin_80 : decode cX5_begin 80 = .ok (.aload_n 0, 1) := by decide +kernel
theorem dX5_begin_81 : decode cX5_begin 81 = .ok (.getfield 17, 3) := by decide +kernel
theorem dX5_begin_84 : decode cX5_begin 84 = .ok (.aload_n 0, 1) := by decide +kernel
theorem dX5_begin_85 : decode cX5_begin 85 = .ok (.getfield 58, 3) := by decide +kernel
theorem dX5_begin_88 : decode cX5_begin 88 = .ok (.iconst 0, 1) := by decide +kernel
theorem dX5_begin_89 : decode cX5_begin 89 = .ok (.iastore, 1) := by decide +kernel
theorem dX5_begin_90 : decode cX5_begin 90 = .ok (.aload_n 0, 1) := by decide +kernel
theorem dX5_begin_91 : decode cX5_begin 91 = .ok (.getfield 13, 3) := by decide +kernel
theorem dX5_begin_94 : decode cX5_begin 94 = .ok (.aload_n 0, 1) := by decide +kernel
theorem dX5_begin_95 : decode cX5_begin 95 = .ok (.getfield 58, 3) := by decide +kernel
theorem dX5_begin_98 : decode cX5_begin 98 = .ok (.aload_n 0, 1) := by decide +kernel
theorem dX5_begin_99 : decode cX5_begin 99 = .ok (.getfield 65, 3) := by decide +kernel
theorem dX5_begin_102 : decode cX5_begin 102 = .ok (.iastore, 1) := by decide +kernel
theorem dX5_begin_103 : decode cX5_begin 103 = .ok (.aload_n 0, 1) := by decide +kernel
theorem dX5_begin_104 : decode cX5_begin 104 = .ok (.aload_n 0, 1) := by decide +kernel
theorem dX5_begin_105 : decode cX5_begin 105 = .ok (.getfield 65, 3) := by decide +kernel
theorem dX5_begin_108 : decode cX5_begin 108 = .ok (.iconst 1, 1) := by decide +kernel
theorem dX5_begin_109 : decode cX5_begin 109 = .ok (.iadd, 1) := by decide +kernel
theorem dX5_begin_110 : decode cX5_begin 110 = .ok (.bipush 64, 2) := by decide +kernel
theorem dX5_begin_112 : decode cX5_begin 112 = .ok (.irem, 1) := by decide +kernel
theorem dX5_begin_113 : decode cX5_begin 113 = .ok (.putfield 65, 3) := by decide +kernel
theorem dX5_begin_116 : decode cX5_begin 116 = .ok (.aload_n 0, 1) := by decide +kernel
theorem dX5_begin_117 : decode cX5_begin 117 = .ok (.dup, 1) := by decide +kernel
theorem dX5_begin_118 : decode cX5_begin 118 = .ok (.getfield 58, 3) := by decide +kernel
theorem dX5_begin_121 : decode cX5_begin 121 = .ok (.iconst 1, 1) := by decide +kernel
theorem dX5_begin_122 : decode cX5_begin 122 = .ok (.iadd, 1) := by decide +kernel
theorem dX5_begin_123 : decode cX5_begin 123 = .ok (.putfield 58, 3) := by decide +kernel
theorem dX5_begin_126 : decode cX5_begin 126 = .ok (.aload_n 0, 1) := by decide +kernel
theorem dX5_begin_127 : decode cX5_begin 127 = .ok (.getfield 58, 3) := by decide +kernel
theorem dX5_begin_130 : decode cX5_begin 130 = .ok (.iconst 1, 1) := by decide +kernel
theorem dX5_begin_131 : decode cX5_begin 131 = .ok (.isub, 1) := by decide +kernel
theorem dX5_begin_132 : decode cX5_begin 132 = .ok (.ireturn, 1) := by decide +kernel
set_option maxRecDepth 20000 in
theorem ggX5_end_X5_isTransaction : GoodIn wsX5_end wsX5_isTransaction := goodIn_r _ [9, 4, 10, 11, 8, 12, 22, 23, 24, 25, 26, 27, 28, 29, 30, 31, 32, 33, 34, 35, 36, 37, 38] (by decide +kernel) (by decide +kernel)
set_option maxRecDepth 20000 in
theorem gX5_end_X5_isTransaction : GoodIn wsX5_end (wsV RX5 87 RX5 yX5_isTransaction wsX5_isTransaction) := goodIn_app (goodIn_of _ (by decide +kernel)) ggX5_end_X5_isTransaction
set_option maxRecDepth 20000 in
theorem ggX5_end_X5_isActive : GoodIn wsX5_end wsX5_isActive := goodIn_r _ [16, 1, 22, 23, 24, 25, 26, 27, 28, 29, 30, 31, 32, 33, 34, 35, 36, 37, 38] (by decide +kernel) (by decide +kernel)
set_option maxRecDepth 20000 in
theorem gX5_end_X5_isActive : GoodIn wsX5_end (wsV RX5 68 RX5 yX5_isActive wsX5_isActive) := goodIn_app (goodIn_of _ (by decide +kernel)) ggX5_end_X5_isActive
set_option maxRecDepth 20000 in
theorem ggX5_end_X5_isFine : GoodIn wsX5_end wsX5_isFine := goodIn_r _ [20, 21, 22, 23, 24, 25, 26, 27, 28, 29, 30, 31, 32, 33, 34, 35, 36, 37, 38] (by decide +kernel) (by decide +kernel)
set_option maxRecDepth 20000 in
theorem gX5_end_X5_isFine : GoodIn wsX5_end (wsV RX5 84 RX5 yX5_isFine wsX5_isFine) := goodIn_app (goodIn_of _ (by decide +kernel)) ggX5_end_X5_isFine
theorem dX5_end_0 : decode cX5_end 0 = .ok (.aload_n 0, 1) := by decide +kernel
theorem dX5_end_1 : decode cX5_end 1 = .ok (.iload_n 1, 1) := by decide +kernel
theorem dX5_end_2 : decode cX5_end 2 = .ok (.invokevirtual 87, 3) := by decide +kernel
theorem dX5_end_5 : decode cX5_end 5 = .ok (.istore_n 3, 1) := by decide +kernel
theorem dX5_end_6 : decode cX5_end 6 = .ok (.aload_n 0, 1) := by decide +kernel
theorem dX5_end_7 : decode cX5_end 7 = .ok (.iload_n 3, 1) := by decide +kernel
theorem dX5_end_8 : decode cX5_end 8 = .ok (.ifCond .ne 7, 3) := by decide +kernel
theorem dX5_end_11 : decode cX5_end 11 = .ok (.iconst 1, 1) := by decide +kernel
theorem dX5_end_12 : decode cX5_end 12 = .ok (.goto 16, 3) := by decide +kernel
theorem dX5_end_15 : decode cX5_end 15 = .ok (.aload_n 0, 1) := by decide +kernel
theorem dX5_end_16 : decode cX5_end 16 = .ok (.iload_n 1, 1) := by decide +kernel
theorem dX5_end_17 : decode cX5_end 17 = .ok (.invokevirtual 68, 3) := by decide +kernel
theorem dX5_end_20 : decode cX5_end 20 = .ok (.ifCond .ne 7, 3) := by decide +kernel
theorem dX5_end_23 : decode cX5_end 23 = .ok (.iconst 2, 1) := by decide +kernel
theorem dX5_end_24 : decode cX5_end 24 = .ok (.goto 4, 3) := by decide +kernel
theorem dX5_end_27 : decode cX5_end 27 = .ok (.iconst 0, 1) := by decide +kernel
theorem dX5_end_28 : decode cX5_end 28 = .ok (.invokevirtual 84, 3) := by decide +kernel
theorem dX5_end_31 : decode cX5_end 31 = .ok (.ifCond .ne 5, 3) := by decide +kernel
theorem dX5_end_34 : decode cX5_end 34 = .ok (.iconst 0, 1) := by decide +kernel
theorem dX5_end_35 : decode cX5_end 35 = .ok (.ireturn, 1) := by decide +kernel
theorem dX5_end_36 : decode cX5_end 36 = .ok (.aload_n 0, 1) := by decide +kernel
theorem dX5_end_37 : decode cX5_end 37 = .ok (.getfield 17, 3) := by decide +kernel
theorem dX5_end_40 : decode cX5_end 40 = .ok (.iload_n 1, 1) := by decide +kernel
theorem dX5_end_41 : decode cX5_end 41 = .ok (.iload_n 2, 1) := by decide +kernel
theorem dX5_end_42 : decode cX5_end 42 = .ok (.ifCond .eq 7, 3) := by decide +kernel
theorem dX5_end_45 : decode cX5_end 45 = .ok (.iconst 1, 1) := by decide +kernel
theorem dX5_end_46 : decode cX5_end 46 = .ok (.goto 4, 3) := by decide +kernel
theorem dX5_end_49 : decode cX5_end 49 = .ok (.iconst 2, 1) := by decide +kernel
theorem dX5_end_50 : decode cX5_end 50 = .ok (.iastore, 1) := by decide +kernel
theorem dX5_end_51 : decode cX5_end 51 = .ok (.iconst 0, 1) := by decide +kernel
theorem dX5_end_52 : decode cX5_end 52 = .ok (.istore 4, 2) := by decide +kernel
theorem dX5_end_54 : decode cX5_end 54 = .ok (.iload 4, 2) := by decide +kernel
theorem dX5_end_56 : decode cX5_end 56 = .ok (.bipush 32, 2) := by decide +kernel
theorem dX5_end_58 : decode cX5_end 58 = .ok (.if_icmp .ge 52, 3) := by decide +kernel
theorem dX5_end_61 : decode cX5_end 61 = .ok (.aload_n 0, 1) := by decide +kernel
theorem dX5_end_62 : decode cX5_end 62 = .ok (.getfield 40, 3) := by decide +kernel
theorem dX5_end_65 : decode cX5_end 65 = .ok (.iload 4, 2) := by decide +kernel
theorem dX5_end_67 : decode cX5_end 67 = .ok (.iload_n 2, 1) := by decide +kernel
theorem dX5_end_68 : decode cX5_end 68 = .ok (.ifCond .ne 28, 3) := by decide +kernel
theorem dX5_end_71 : decode cX5_end 71 = .ok (.aload_n 0, 1) := by decide +kernel
theorem dX5_end_72 : decode cX5_end 72 = .ok (.getfield 24, 3) := by decide +kernel
theorem dX5_end_75 : decode cX5_end 75 = .ok (.iload 4, 2) := by decide +kernel
theorem dX5_end_77 : decode cX5_end 77 = .ok (.baload, 1) := by decide +kernel
theorem dX5_end_78 : decode cX5_end 78 = .ok (.ifCond .eq 18, 3) := by decide +kernel
theorem dX5_end_81 : decode cX5_end 81 = .ok (.aload_n 0, 1) := by decide +kernel
theorem dX5_end_82 : decode cX5_end 82 = .ok (.getfield 40, 3) := by decide +kernel
theorem dX5_end_85 : decode cX5_end 85 = .ok (.iload 4, 2) := by decide +kernel
theorem dX5_end_87 : decode cX5_end 87 = .ok (.iaload, 1) := by decide +kernel
theorem dX5_end_88 : decode cX5_end 88 = .ok (.iload_n 1, 1) := by decide +kernel
theorem dX5_end_89 : decode cX5_end 89 = .ok (.if_icmp .ne 7, 3) := by decide +kernel
theorem dX5_end_92 : decode cX5_end 92 = .ok (.iconst (-1), 1) := by decide +kernel
theorem dX5_end_93 : decode cX5_end 93 = .ok (.goto 10, 3) := by decide +kernel
theorem dX5_end_96 : decode cX5_end 96 = .ok (.aload_n 0, 1) := by decide +kernel
theorem dX5_end_97 : decode cX5_end 97 = .ok (.getfield 40, 3) := by decide +kernel
theorem dX5_end_100 : decode cX5_end 100 = .ok (.iload 4, 2) := by decide +kernel
theorem dX5_end_102 : decode cX5_end 102 = .ok (.iaload, 1) := by decide +kernel
theorem dX5_end_103 : decode cX5_end 103 = .ok (.iastore, 1) := by decide +kernel
theorem dX5_end_104 : decode cX5_end 104 = .ok (.iinc 4 1, 3) := by decide +kernel
theorem dX5_end_107 : decode cX5_end 107 = .ok (.goto (-53), 3) := by decide +kernel
theorem dX5_end_110 : decode cX5_end 110 = .ok (.iconst 0, 1) := by decide +kernel
theorem dX5_end_111 : decode cX5_end 111 = .ok (.istore 4, 2) := by decide +kernel
theorem dX5_end_113 : decode cX5_end 113 = .ok (.iconst 0, 1) := by decide +kernel
theorem dX5_end_114 : decode cX5_end 114 = .ok (.istore 5, 2) := by decide +kernel
theorem dX5_end_116 : decode cX5_end 116 = .ok (.iload 5, 2) := by decide +kernel
theorem dX5_end_118 : decode cX5_end 118 = .ok (.aload_n 0, 1) := by decide +kernel
theorem dX5_end_119 : decode cX5_end 119 = .ok (.getfield 58, 3) := by decide +kernel
theorem dX5_end_122 : decode cX5_end 122 = .ok (.if_icmp .ge 28, 3) := by decide +kernel
theorem dX5_end_125 : decode cX5_end 125 = .ok (.iload 4, 2) := by decide +kernel
theorem dX5_end_127 : decode cX5_end 127 = .ok (.aload_n 0, 1) := by decide +kernel
theorem dX5_end_128 : decode cX5_end 128 = .ok (.iload 5, 2) := by decide +kernel
theorem dX5_end_130 : decode cX5_end 130 = .ok (.invokevirtual 68, 3) := by decide +kernel
theorem dX5_end_133 : decode cX5_end 133 = .ok (.ifCond .eq 7, 3) := by decide +kernel
theorem dX5_end_136 : decode cX5_end 136 = .ok (.iconst 1, 1) := by decide +kernel
theorem dX5_end_137 : decode cX5_end 137 = .ok (.goto 4, 3) := by decide +kernel
theorem dX5_end_140 : decode cX5_end 140 = .ok (.iconst 0, 1) := by decide +kernel
theorem dX5_end_141 : decode cX5_end 141 = .ok (.iadd, 1) := by decide +kernel
theorem dX5_end_142 : decode cX5_end 142 = .ok (.istore 4, 2) := by decide +kernel
theorem dX5_end_144 : decode cX5_end 144 = .ok (.iinc 5 1, 3) := by decide +kernel
theorem dX5_end_147 : decode cX5_end 147 = .ok (.goto (-31), 3) := by decide +kernel
theorem dX5_end_150 : decode cX5_end 150 = .ok (.iload 4, 2) := by decide +kernel
theorem dX5_end_152 : decode cX5_end 152 = .ok (.ireturn, 1) := by decide +kernel
set_option maxRecDepth 20000 in
theorem ggX5_jump_X5_isIn : GoodIn wsX5_jump wsX5_isIn := goodIn_r _ [5] (by decide +kernel) (by decide +kernel)
set_option maxRecDepth 20000 in
theorem gX5_jump_X5_isIn : GoodIn wsX5_jump (va_wsS RX5 61 yX5_isIn wsX5_isIn) := goodIn_app (goodIn_of _ (by decide +kernel)) ggX5_jump_X5_isIn
set_option maxRecDepth 20000 in
theorem ggX5_jump_X5_oldestNow : GoodIn wsX5_jump wsX5_oldestNow := goodIn_r _ [9, 10, 11, 12, 13, 14, 15, 16, 17, 4, 18, 1, 19, 20, 21, 22, 23, 24, 30, 31, 32, 33, 34, 35, 36, 37, 38, 39, 40, 41, 42, 43, 44, 45, 46] (by decide +kernel) (by decide +kernel)
set_option maxRecDepth 20000 in
theorem gX5_jump_X5_oldestNow : GoodIn wsX5_jump (wsV RX5 80 RX5 yX5_oldestNow wsX5_oldestNow) := goodIn_app (goodIn_of _ (by decide +kernel)) ggX5_jump_X5_oldestNow
set_option maxRecDepth 20000 in
theorem ggX5_jump_X5_isFine : GoodIn wsX5_jump wsX5_isFine := goodIn_r _ [28, 29, 30, 31, 32, 33, 34, 35, 36, 37, 38, 39, 40, 41, 42, 43, 44, 45, 46] (by decide +kernel) (by decide +kernel)
set_option maxRecDepth 20000 in
theorem gX5_jump_X5_isFine : GoodIn wsX5_jump (wsV RX5 84 RX5 yX5_isFine wsX5_isFine) := goodIn_app (goodIn_of _ (by decide +kernel)) ggX5_jump_X5_isFine
theorem dX5_jump_0 : decode cX5_jump 0 = .ok (.aload_n 0, 1) := by decide +kernel
theorem dX5_jump_1 : decode cX5_jump 1 = .ok (.iload_n 1, 1) := by decide +kernel
theorem dX5_jump_2 : decode cX5_jump 2 = .ok (.iconst 1, 1) := by decide +kernel
theorem dX5_jump_3 : decode cX5_jump 3 = .ok (.bipush 20, 2) := by decide +kernel
theorem dX5_jump_5 : decode cX5_jump 5 = .ok (.invokestatic 61, 3) := by decide +kernel
theorem dX5_jump_8 : decode cX5_jump 8 = .ok (.ifCond .ne 7, 3) := by decide +kernel
theorem dX5_jump_11 : decode cX5_jump 11 = .ok (.iconst 1, 1) := by decide +kernel
theorem dX5_jump_12 : decode cX5_jump 12 = .ok (.goto 26, 3) := by decide +kernel
theorem dX5_jump_15 : decode cX5_jump 15 = .ok (.aload_n 0, 1) := by decide +kernel
theorem dX5_jump_16 : decode cX5_jump 16 = .ok (.invokevirtual 80, 3) := by decide +kernel
theorem dX5_jump_19 : decode cX5_jump 19 = .ok (.ifCond .le 18, 3) := by decide +kernel
theorem dX5_jump_22 : decode cX5_jump 22 = .ok (.aload_n 0, 1) := by decide +kernel
theorem dX5_jump_23 : decode cX5_jump 23 = .ok (.invokevirtual 80, 3) := by decide +kernel
theorem dX5_jump_26 : decode cX5_jump 26 = .ok (.iload_n 1, 1) := by decide +kernel
theorem dX5_jump_27 : decode cX5_jump 27 = .ok (.iadd, 1) := by decide +kernel
theorem dX5_jump_28 : decode cX5_jump 28 = .ok (.bipush 32, 2) := by decide +kernel
theorem dX5_jump_30 : decode cX5_jump 30 = .ok (.if_icmp .lt 7, 3) := by decide +kernel
theorem dX5_jump_33 : decode cX5_jump 33 = .ok (.iconst 2, 1) := by decide +kernel
theorem dX5_jump_34 : decode cX5_jump 34 = .ok (.goto 4, 3) := by decide +kernel
theorem dX5_jump_37 : decode cX5_jump 37 = .ok (.iconst 0, 1) := by decide +kernel
theorem dX5_jump_38 : decode cX5_jump 38 = .ok (.invokevirtual 84, 3) := by decide +kernel
theorem dX5_jump_41 : decode cX5_jump 41 = .ok (.ifCond .ne 5, 3) := by decide +kernel
theorem dX5_jump_44 : decode cX5_jump 44 = .ok (.iconst 0, 1) := by decide +kernel
theorem dX5_jump_45 : decode cX5_jump 45 = .ok (.ireturn, 1) := by decide +kernel
theorem dX5_jump_46 : decode cX5_jump 46 = .ok (.aload_n 0, 1) := by decide +kernel
theorem dX5_jump_47 : decode cX5_jump 47 = .ok (.aload_n 0, 1) := by decide +kernel
theorem dX5_jump_48 : decode cX5_jump 48 = .ok (.getfield 65, 3) := by decide +kernel
theorem dX5_jump_51 : decode cX5_jump 51 = .ok (.iload_n 1, 1) := by decide +kernel
theorem dX5_jump_52 : decode cX5_jump 52 = .ok (.iadd, 1) := by decide +kernel
theorem dX5_jump_53 : decode cX5_jump 53 = .ok (.bipush 64, 2) := by decide +kernel
theorem dX5_jump_55 : decode cX5_jump 55 = .ok (.irem, 1) := by decide +kernel
theorem dX5_jump_56 : decode cX5_jump 56 = .ok (.putfield 65, 3) := by decide +kernel
theorem dX5_jump_59 : decode cX5_jump 59 = .ok (.aload_n 0, 1) := by decide +kernel
theorem dX5_jump_60 : decode cX5_jump 60 = .ok (.getfield 65, 3) := by decide +kernel
theorem dX5_jump_63 : decode cX5_jump 63 = .ok (.ireturn, 1) := by decide +kernel
set_option maxRecDepth 20000 in
theorem ggX5_stamp_X5_isTransaction : GoodIn wsX5_stamp wsX5_isTransaction := goodIn_r _ [6, 7, 8, 9, 5, 10, 16, 17, 18, 19, 20, 21, 22, 23, 24, 25, 26, 27, 28, 29, 30, 31, 32] (by decide +kernel) (by decide +kernel)
set_option maxRecDepth 20000 in
theorem gX5_stamp_X5_isTransaction : GoodIn wsX5_stamp (wsV RX5 87 RX5 yX5_isTransaction wsX5_isTransaction) := goodIn_app (goodIn_of _ (by decide +kernel)) ggX5_stamp_X5_isTransaction
set_option maxRecDepth 20000 in
theorem ggX5_stamp_X5_isFine : GoodIn wsX5_stamp wsX5_isFine := goodIn_r _ [14, 15, 16, 17, 18, 19, 20, 21, 22, 23, 24, 25, 26, 27, 28, 29, 30, 31, 32] (by decide +kernel) (by decide +kernel)
set_option maxRecDepth 20000 in
theorem gX5_stamp_X5_isFine : GoodIn wsX5_stamp (wsV RX5 84 RX5 yX5_isFine wsX5_isFine) := goodIn_app (goodIn_of _ (by decide +kernel)) ggX5_stamp_X5_isFine
theorem dX5_stamp_0 : decode cX5_stamp 0 = .ok (.aload_n 0, 1) := by decide +kernel
theorem dX5_stamp_1 : decode cX5_stamp 1 = .ok (.aload_n 0, 1) := by decide +kernel
theorem dX5_stamp_2 : decode cX5_stamp 2 = .ok (.iload_n 1, 1) := by decide +kernel
theorem dX5_stamp_3 : decode cX5_stamp 3 = .ok (.invokevirtual 87, 3) := by decide +kernel
theorem dX5_stamp_6 : decode cX5_stamp 6 = .ok (.ifCond .eq 7, 3) := by decide +kernel
theorem dX5_stamp_9 : decode cX5_stamp 9 = .ok (.iconst 0, 1) := by decide +kernel
theorem dX5_stamp_10 : decode cX5_stamp 10 = .ok (.goto 4, 3) := by decide +kernel
theorem dX5_stamp_13 : decode cX5_stamp 13 = .ok (.iconst 1, 1) := by decide +kernel
theorem dX5_stamp_14 : decode cX5_stamp 14 = .ok (.invokevirtual 84, 3) := by decide +kernel
theorem dX5_stamp_17 : decode cX5_stamp 17 = .ok (.ifCond .eq 12, 3) := by decide +kernel
theorem dX5_stamp_20 : decode cX5_stamp 20 = .ok (.aload_n 0, 1) := by decide +kernel
theorem dX5_stamp_21 : decode cX5_stamp 21 = .ok (.getfield 13, 3) := by decide +kernel
theorem dX5_stamp_24 : decode cX5_stamp 24 = .ok (.iload_n 1, 1) := by decide +kernel
theorem dX5_stamp_25 : decode cX5_stamp 25 = .ok (.iaload, 1) := by decide +kernel
theorem dX5_stamp_26 : decode cX5_stamp 26 = .ok (.goto 4, 3) := by decide +kernel
theorem dX5_stamp_29 : decode cX5_stamp 29 = .ok (.iconst 0, 1) := by decide +kernel
theorem dX5_stamp_30 : decode cX5_stamp 30 = .ok (.ireturn, 1) := by decide +kernel
set_option maxRecDepth 20000 in
theorem ggX5_isBefore_X5_isIn : GoodIn wsX5_isBefore wsX5_isIn := goodIn_r _ [4] (by decide +kernel) (by decide +kernel)
set_option maxRecDepth 20000 in
theorem gX5_isBefore_X5_isIn : GoodIn wsX5_isBefore (va_wsS RX5 61 yX5_isIn wsX5_isIn) := goodIn_app (goodIn_of _ (by decide +kernel)) ggX5_isBefore_X5_isIn
set_option maxRecDepth 20000 in
theorem ggX5_isBefore_X5_isFine : GoodIn wsX5_isBefore wsX5_isFine := goodIn_r _ [8, 9, 10, 11, 12, 13, 14, 15, 16, 17, 18, 19, 20, 21, 22, 23, 24, 25, 26] (by decide +kernel) (by decide +kernel)
set_option maxRecDepth 20000 in
theorem gX5_isBefore_X5_isFine : GoodIn wsX5_isBefore (wsV RX5 84 RX5 yX5_isFine wsX5_isFine) := goodIn_app (goodIn_of _ (by decide +kernel)) ggX5_isBefore_X5_isFine
theorem dX5_isBefore_0 : decode cX5_isBefore 0 = .ok (.iload_n 1, 1) := by decide +kernel
theorem dX5_isBefore_1 : decode cX5_isBefore 1 = .ok (.iconst 0, 1) := by decide +kernel
theorem dX5_isBefore_2 : decode cX5_isBefore 2 = .ok (.bipush 63, 2) := by decide +kernel
theorem dX5_isBefore_4 : decode cX5_isBefore 4 = .ok (.invokestatic 61, 3) := by decide +kernel
theorem dX5_isBefore_7 : decode cX5_isBefore 7 = .ok (.ifCond .eq 17, 3) := by decide +kernel
theorem dX5_isBefore_10 : decode cX5_isBefore 10 = .ok (.iload_n 2, 1) := by decide +kernel
theorem dX5_isBefore_11 : decode cX5_isBefore 11 = .ok (.iconst 0, 1) := by decide +kernel
theorem dX5_isBefore_12 : decode cX5_isBefore 12 = .ok (.bipush 63, 2) := by decide +kernel
theorem dX5_isBefore_14 : decode cX5_isBefore 14 = .ok (.invokestatic 61, 3) := by decide +kernel
theorem dX5_isBefore_17 : decode cX5_isBefore 17 = .ok (.ifCond .eq 7, 3) := by decide +kernel
theorem dX5_isBefore_20 : decode cX5_isBefore 20 = .ok (.iconst 1, 1) := by decide +kernel
theorem dX5_isBefore_21 : decode cX5_isBefore 21 = .ok (.goto 4, 3) := by decide +kernel
theorem dX5_isBefore_24 : decode cX5_isBefore 24 = .ok (.iconst 0, 1) := by decide +kernel
theorem dX5_isBefore_25 : decode cX5_isBefore 25 = .ok (.istore_n 3, 1) := by decide +kernel
theorem dX5_isBefore_26 : decode cX5_isBefore 26 = .ok (.aload_n 0, 1) := by decide +kernel
theorem dX5_isBefore_27 : decode cX5_isBefore 27 = .ok (.iload_n 3, 1) := by decide +kernel
theorem dX5_isBefore_28 : decode cX5_isBefore 28 = .ok (.ifCond .eq 7, 3) := by decide +kernel
theorem dX5_isBefore_31 : decode cX5_isBefore 31 = .ok (.iconst 0, 1) := by decide +kernel
theorem dX5_isBefore_32 : decode cX5_isBefore 32 = .ok (.goto 4, 3) := by decide +kernel
theorem dX5_isBefore_35 : decode cX5_isBefore 35 = .ok (.iconst 1, 1) := by decide +kernel
theorem dX5_isBefore_36 : decode cX5_isBefore 36 = .ok (.invokevirtual 84, 3) := by decide +kernel
theorem dX5_isBefore_39 : decode cX5_isBefore 39 = .ok (.ifCond .eq 26, 3) := by decide +kernel
theorem dX5_isBefore_42 : decode cX5_isBefore 42 = .ok (.iload_n 1, 1) := by decide +kernel
theorem dX5_isBefore_43 : decode cX5_isBefore 43 = .ok (.iload_n 2, 1) := by decide +kernel
theorem dX5_isBefore_44 : decode cX5_isBefore 44 = .ok (.if_icmp .eq 21, 3) := by decide +kernel
theorem dX5_isBefore_47 : decode cX5_isBefore 47 = .ok (.iload_n 2, 1) := by decide +kernel
theorem dX5_isBefore_48 : decode cX5_isBefore 48 = .ok (.iload_n 1, 1) := by decide +kernel
theorem dX5_isBefore_49 : decode cX5_isBefore 49 = .ok (.isub, 1) := by decide +kernel
theorem dX5_isBefore_50 : decode cX5_isBefore 50 = .ok (.bipush 64, 2) := by decide +kernel
theorem dX5_isBefore_52 : decode cX5_isBefore 52 = .ok (.iadd, 1) := by decide +kernel
theorem dX5_isBefore_53 : decode cX5_isBefore 53 = .ok (.bipush 64, 2) := by decide +kernel
theorem dX5_isBefore_55 : decode cX5_isBefore 55 = .ok (.irem, 1) := by decide +kernel
theorem dX5_isBefore_56 : decode cX5_isBefore 56 = .ok (.bipush 32, 2) := by decide +kernel
theorem dX5_isBefore_58 : decode cX5_isBefore 58 = .ok (.if_icmp .ge 7, 3) := by decide +kernel
theorem dX5_isBefore_61 : decode cX5_isBefore 61 = .ok (.iconst 1, 1) := by decide +kernel
theorem dX5_isBefore_62 : decode cX5_isBefore 62 = .ok (.goto 4, 3) := by decide +kernel
theorem dX5_isBefore_65 : decode cX5_isBefore 65 = .ok (.iconst 0, 1) := by decide +kernel
theorem dX5_isBefore_66 : decode cX5_isBefore 66 = .ok (.ireturn, 1) := by decide +kernel
set_option maxRecDepth 20000 in
theorem ggX5_knows_X5_isInSnapshot : GoodIn wsX5_knows wsX5_isInSnapshot := goodIn_r _ [5, 6, 7, 8, 9, 10, 11, 12, 13, 14, 15, 16, 17, 18, 19, 20, 21, 22, 23] (by decide +kernel) (by decide +kernel)
set_option maxRecDepth 20000 in
theorem gX5_knows_X5_isInSnapshot : GoodIn wsX5_knows (wsV RX5 72 RX5 yX5_isInSnapshot wsX5_isInSnapshot) := goodIn_app (goodIn_of _ (by decide +kernel)) ggX5_knows_X5_isInSnapshot
theorem dX5_knows_0 : decode cX5_knows 0 = .ok (.iload_n 2, 1) := by decide +kernel
theorem dX5_knows_1 : decode cX5_knows 1 = .ok (.iload_n 1, 1) := by decide +kernel
theorem dX5_knows_2 : decode cX5_knows 2 = .ok (.if_icmp .eq 12, 3) := by decide +kernel
theorem dX5_knows_5 : decode cX5_knows 5 = .ok (.aload_n 0, 1) := by decide +kernel
theorem dX5_knows_6 : decode cX5_knows 6 = .ok (.iload_n 1, 1) := by decide +kernel
theorem dX5_knows_7 : decode cX5_knows 7 = .ok (.iload_n 2, 1) := by decide +kernel
theorem dX5_knows_8 : decode cX5_knows 8 = .ok (.invokevirtual 72, 3) := by decide +kernel
theorem dX5_knows_11 : decode cX5_knows 11 = .ok (.ifCond .eq 7, 3) := by decide +kernel
theorem dX5_knows_14 : decode cX5_knows 14 = .ok (.iconst 1, 1) := by decide +kernel
theorem dX5_knows_15 : decode cX5_knows 15 = .ok (.goto 4, 3) := by decide +kernel
theorem dX5_knows_18 : decode cX5_knows 18 = .ok (.iconst 0, 1) := by decide +kernel
theorem dX5_knows_19 : decode cX5_knows 19 = .ok (.ireturn, 1) := by decide +kernel
set_option maxRecDepth 20000 in
theorem ggX5_sees_X5_knows : GoodIn wsX5_sees wsX5_knows := goodIn_r _ [8, 9, 10, 11, 7, 12, 13, 14, 15, 16, 17, 18, 19, 20, 21, 22, 23, 24, 25, 26, 27, 28, 29, 30] (by decide +kernel) (by decide +kernel)
set_option maxRecDepth 20000 in
theorem gX5_sees_X5_knows : GoodIn wsX5_sees (wsV RX5 90 RX5 yX5_knows wsX5_knows) := goodIn_app (goodIn_of _ (by decide +kernel)) ggX5_sees_X5_knows
theorem dX5_sees_0 : decode cX5_sees 0 = .ok (.aload_n 0, 1) := by decide +kernel
theorem dX5_sees_1 : decode cX5_sees 1 = .ok (.getfield 37, 3) := by decide +kernel
theorem dX5_sees_4 : decode cX5_sees 4 = .ok (.iload_n 2, 1) := by decide +kernel
theorem dX5_sees_5 : decode cX5_sees 5 = .ok (.baload, 1) := by decide +kernel
theorem dX5_sees_6 : decode cX5_sees 6 = .ok (.ifCond .ne 17, 3) := by decide +kernel
theorem dX5_sees_9 : decode cX5_sees 9 = .ok (.aload_n 0, 1) := by decide +kernel
theorem dX5_sees_10 : decode cX5_sees 10 = .ok (.iload_n 1, 1) := by decide +kernel
theorem dX5_sees_11 : decode cX5_sees 11 = .ok (.aload_n 0, 1) := by decide +kernel
theorem dX5_sees_12 : decode cX5_sees 12 = .ok (.getfield 34, 3) := by decide +kernel
theorem dX5_sees_15 : decode cX5_sees 15 = .ok (.iload_n 2, 1) := by decide +kernel
theorem dX5_sees_16 : decode cX5_sees 16 = .ok (.iaload, 1) := by decide +kernel
theorem dX5_sees_17 : decode cX5_sees 17 = .ok (.invokevirtual 90, 3) := by decide +kernel
theorem dX5_sees_20 : decode cX5_sees 20 = .ok (.ifCond .eq 31, 3) := by decide +kernel
theorem dX5_sees_23 : decode cX5_sees 23 = .ok (.aload_n 0, 1) := by decide +kernel
theorem dX5_sees_24 : decode cX5_sees 24 = .ok (.getfield 40, 3) := by decide +kernel
theorem dX5_sees_27 : decode cX5_sees 27 = .ok (.iload_n 2, 1) := by decide +kernel
theorem dX5_sees_28 : decode cX5_sees 28 = .ok (.iaload, 1) := by decide +kernel
theorem dX5_sees_29 : decode cX5_sees 29 = .ok (.iconst (-1), 1) := by decide +kernel
theorem dX5_sees_30 : decode cX5_sees 30 = .ok (.if_icmp .eq 17, 3) := by decide +kernel
theorem dX5_sees_33 : decode cX5_sees 33 = .ok (.aload_n 0, 1) := by decide +kernel
theorem dX5_sees_34 : decode cX5_sees 34 = .ok (.iload_n 1, 1) := by decide +kernel
theorem dX5_sees_35 : decode cX5_sees 35 = .ok (.aload_n 0, 1) := by decide +kernel
theorem dX5_sees_36 : decode cX5_sees 36 = .ok (.getfield 40, 3) := by decide +kernel
theorem dX5_sees_39 : decode cX5_sees 39 = .ok (.iload_n 2, 1) := by decide +kernel
theorem dX5_sees_40 : decode cX5_sees 40 = .ok (.iaload, 1) := by decide +kernel
theorem dX5_sees_41 : decode cX5_sees 41 = .ok (.invokevirtual 90, 3) := by decide +kernel
theorem dX5_sees_44 : decode cX5_sees 44 = .ok (.ifCond .ne 7, 3) := by decide +kernel
theorem dX5_sees_47 : decode cX5_sees 47 = .ok (.iconst 1, 1) := by decide +kernel
theorem dX5_sees_48 : decode cX5_sees 48 = .ok (.goto 4, 3) := by decide +kernel
theorem dX5_sees_51 : decode cX5_sees 51 = .ok (.iconst 0, 1) := by decide +kernel
theorem dX5_sees_52 : decode cX5_sees 52 = .ok (.ireturn, 1) := by decide +kernel
set_option maxRecDepth 20000 in
theorem ggX5_seen_X5_sees : GoodIn wsX5_seen wsX5_sees := goodIn_r _ [8, 9, 10, 11, 12, 13, 14, 7, 15, 16, 17, 18, 19, 20, 21, 22, 23, 24, 25, 26, 27, 28, 29, 30, 31, 32, 33, 34, 35, 36, 37] (by decide +kernel) (by decide +kernel)
set_option maxRecDepth 20000 in
theorem gX5_seen_X5_sees : GoodIn wsX5_seen (wsV RX5 93 RX5 yX5_sees wsX5_sees) := goodIn_app (goodIn_of _ (by decide +kernel)) ggX5_seen_X5_sees
theorem dX5_seen_0 : decode cX5_seen 0 = .ok (.aload_n 0, 1) := by decide +kernel
theorem dX5_seen_1 : decode cX5_seen 1 = .ok (.getfield 52, 3) := by decide +kernel
theorem dX5_seen_4 : decode cX5_seen 4 = .ok (.iload_n 2, 1) := by decide +kernel
theorem dX5_seen_5 : decode cX5_seen 5 = .ok (.iaload, 1) := by decide +kernel
theorem dX5_seen_6 : decode cX5_seen 6 = .ok (.iconst 1, 1) := by decide +kernel
theorem dX5_seen_7 : decode cX5_seen 7 = .ok (.isub, 1) := by decide +kernel
theorem dX5_seen_8 : decode cX5_seen 8 = .ok (.istore_n 3, 1) := by decide +kernel
theorem dX5_seen_9 : decode cX5_seen 9 = .ok (.iload_n 3, 1) := by decide +kernel
theorem dX5_seen_10 : decode cX5_seen 10 = .ok (.ifCond .lt 53, 3) := by decide +kernel
theorem dX5_seen_13 : decode cX5_seen 13 = .ok (.aload_n 0, 1) := by decide +kernel
theorem dX5_seen_14 : decode cX5_seen 14 = .ok (.getfield 49, 3) := by decide +kernel
theorem dX5_seen_17 : decode cX5_seen 17 = .ok (.bipush 64, 2) := by decide +kernel
theorem dX5_seen_19 : decode cX5_seen 19 = .ok (.iload_n 2, 1) := by decide +kernel
theorem dX5_seen_20 : decode cX5_seen 20 = .ok (.imul, 1) := by decide +kernel
theorem dX5_seen_21 : decode cX5_seen 21 = .ok (.iload_n 3, 1) := by decide +kernel
theorem dX5_seen_22 : decode cX5_seen 22 = .ok (.iadd, 1) := by decide +kernel
theorem dX5_seen_23 : decode cX5_seen 23 = .ok (.iaload, 1) := by decide +kernel
theorem dX5_seen_24 : decode cX5_seen 24 = .ok (.istore 4, 2) := by decide +kernel
theorem dX5_seen_26 : decode cX5_seen 26 = .ok (.iload 4, 2) := by decide +kernel
theorem dX5_seen_28 : decode cX5_seen 28 = .ok (.iconst (-1), 1) := by decide +kernel
theorem dX5_seen_29 : decode cX5_seen 29 = .ok (.if_icmp .eq 28, 3) := by decide +kernel
theorem dX5_seen_32 : decode cX5_seen 32 = .ok (.aload_n 0, 1) := by decide +kernel
theorem dX5_seen_33 : decode cX5_seen 33 = .ok (.iload_n 1, 1) := by decide +kernel
theorem dX5_seen_34 : decode cX5_seen 34 = .ok (.iload 4, 2) := by decide +kernel
theorem dX5_seen_36 : decode cX5_seen 36 = .ok (.invokevirtual 93, 3) := by decide +kernel
theorem dX5_seen_39 : decode cX5_seen 39 = .ok (.ifCond .eq 6, 3) := by decide +kernel
theorem dX5_seen_42 : decode cX5_seen 42 = .ok (.iload 4, 2) := by decide +kernel
theorem dX5_seen_44 : decode cX5_seen 44 = .ok (.ireturn, 1) := by decide +kernel
theorem dX5_seen_45 : decode cX5_seen 45 = .ok (.aload_n 0, 1) := by decide +kernel
theorem dX5_seen_46 : decode cX5_seen 46 = .ok (.getfield 43, 3) := by decide +kernel
theorem dX5_seen_49 : decode cX5_seen 49 = .ok (.iload 4, 2) := by decide +kernel
theorem dX5_seen_51 : decode cX5_seen 51 = .ok (.iaload, 1) := by decide +kernel
theorem dX5_seen_52 : decode cX5_seen 52 = .ok (.istore 4, 2) := by decide +kernel
theorem dX5_seen_54 : decode cX5_seen 54 = .ok (.goto (-28), 3) := by decide +kernel
theorem dX5_seen_57 : decode cX5_seen 57 = .ok (.iinc 3 (-1), 3) := by decide +kernel
theorem dX5_seen_60 : decode cX5_seen 60 = .ok (.goto (-51), 3) := by decide +kernel
theorem dX5_seen_63 : decode cX5_seen 63 = .ok (.iconst (-1), 1) := by decide +kernel
theorem dX5_seen_64 : decode cX5_seen 64 = .ok (.ireturn, 1) := by decide +kernel
set_option maxRecDepth 20000 in
theorem ggX5_readNow_X5_isTransaction : GoodIn wsX5_readNow wsX5_isTransaction := goodIn_r _ [6, 7, 8, 9, 5, 10, 47, 48, 49, 50, 51, 52, 53, 54, 55, 56, 57, 58, 59, 60, 61, 62, 63] (by decide +kernel) (by decide +kernel)
set_option maxRecDepth 20000 in
theorem gX5_readNow_X5_isTransaction : GoodIn wsX5_readNow (wsV RX5 87 RX5 yX5_isTransaction wsX5_isTransaction) := goodIn_app (goodIn_of _ (by decide +kernel)) ggX5_readNow_X5_isTransaction
set_option maxRecDepth 20000 in
theorem ggX5_readNow_X5_isKey : GoodIn wsX5_readNow wsX5_isKey := goodIn_r _ [13, 8, 9, 5, 10] (by decide +kernel) (by decide +kernel)
set_option maxRecDepth 20000 in
theorem gX5_readNow_X5_isKey : GoodIn wsX5_readNow (va_wsS RX5 96 yX5_isKey wsX5_isKey) := goodIn_app (goodIn_of _ (by decide +kernel)) ggX5_readNow_X5_isKey
set_option maxRecDepth 20000 in
theorem ggX5_readNow_X5_isActive : GoodIn wsX5_readNow wsX5_isActive := goodIn_r _ [17, 18, 47, 48, 49, 50, 51, 52, 53, 54, 55, 56, 57, 58, 59, 60, 61, 62, 63] (by decide +kernel) (by decide +kernel)
set_option maxRecDepth 20000 in
theorem gX5_readNow_X5_isActive : GoodIn wsX5_readNow (wsV RX5 68 RX5 yX5_isActive wsX5_isActive) := goodIn_app (goodIn_of _ (by decide +kernel)) ggX5_readNow_X5_isActive
set_option maxRecDepth 20000 in
theorem ggX5_readNow_X5_isFine : GoodIn wsX5_readNow wsX5_isFine := goodIn_r _ [22, 23, 47, 48, 49, 50, 51, 52, 53, 54, 55, 56, 57, 58, 59, 60, 61, 62, 63] (by decide +kernel) (by decide +kernel)
set_option maxRecDepth 20000 in
theorem gX5_readNow_X5_isFine : GoodIn wsX5_readNow (wsV RX5 84 RX5 yX5_isFine wsX5_isFine) := goodIn_app (goodIn_of _ (by decide +kernel)) ggX5_readNow_X5_isFine
set_option maxRecDepth 20000 in
theorem ggX5_readNow_X5_seen : GoodIn wsX5_readNow wsX5_seen := goodIn_r _ [27, 28, 29, 30, 31, 32, 33, 5, 34, 35, 36, 37, 38, 39, 40, 41, 42, 43, 44, 45, 46, 47, 48, 49, 50, 51, 52, 53, 54, 55, 56, 57, 58, 59, 60, 61, 62, 63] (by decide +kernel) (by decide +kernel)
set_option maxRecDepth 20000 in
theorem gX5_readNow_X5_seen : GoodIn wsX5_readNow (wsV RX5 99 RX5 yX5_seen wsX5_seen) := goodIn_app (goodIn_of _ (by decide +kernel)) ggX5_readNow_X5_seen
theorem dX5_readNow_0 : decode cX5_readNow 0 = .ok (.aload_n 0, 1) := by decide +kernel
theorem dX5_readNow_1 : decode cX5_readNow 1 = .ok (.iload_n 1, 1) := by decide +kernel
theorem dX5_readNow_2 : decode cX5_readNow 2 = .ok (.invokevirtual 87, 3) := by decide +kernel
theorem dX5_readNow_5 : decode cX5_readNow 5 = .ok (.istore_n 3, 1) := by decide +kernel
theorem dX5_readNow_6 : decode cX5_readNow 6 = .ok (.aload_n 0, 1) := by decide +kernel
theorem dX5_readNow_7 : decode cX5_readNow 7 = .ok (.iload_n 3, 1) := by decide +kernel
theorem dX5_readNow_8 : decode cX5_readNow 8 = .ok (.ifCond .ne 7, 3) := by decide +kernel
theorem dX5_readNow_11 : decode cX5_readNow 11 = .ok (.iconst 1, 1) := by decide +kernel
theorem dX5_readNow_12 : decode cX5_readNow 12 = .ok (.goto 27, 3) := by decide +kernel
theorem dX5_readNow_15 : decode cX5_readNow 15 = .ok (.iload_n 2, 1) := by decide +kernel
theorem dX5_readNow_16 : decode cX5_readNow 16 = .ok (.invokestatic 96, 3) := by decide +kernel
theorem dX5_readNow_19 : decode cX5_readNow 19 = .ok (.ifCond .ne 7, 3) := by decide +kernel
theorem dX5_readNow_22 : decode cX5_readNow 22 = .ok (.iconst 2, 1) := by decide +kernel
theorem dX5_readNow_23 : decode cX5_readNow 23 = .ok (.goto 16, 3) := by decide +kernel
theorem dX5_readNow_26 : decode cX5_readNow 26 = .ok (.aload_n 0, 1) := by decide +kernel
theorem dX5_readNow_27 : decode cX5_readNow 27 = .ok (.iload_n 1, 1) := by decide +kernel
theorem dX5_readNow_28 : decode cX5_readNow 28 = .ok (.invokevirtual 68, 3) := by decide +kernel
theorem dX5_readNow_31 : decode cX5_readNow 31 = .ok (.ifCond .ne 7, 3) := by decide +kernel
theorem dX5_readNow_34 : decode cX5_readNow 34 = .ok (.iconst 3, 1) := by decide +kernel
theorem dX5_readNow_35 : decode cX5_readNow 35 = .ok (.goto 4, 3) := by decide +kernel
theorem dX5_readNow_38 : decode cX5_readNow 38 = .ok (.iconst 0, 1) := by decide +kernel
theorem dX5_readNow_39 : decode cX5_readNow 39 = .ok (.invokevirtual 84, 3) := by decide +kernel
theorem dX5_readNow_42 : decode cX5_readNow 42 = .ok (.ifCond .ne 5, 3) := by decide +kernel
theorem dX5_readNow_45 : decode cX5_readNow 45 = .ok (.iconst 0, 1) := by decide +kernel
theorem dX5_readNow_46 : decode cX5_readNow 46 = .ok (.ireturn, 1) := by decide +kernel
theorem dX5_readNow_47 : decode cX5_readNow 47 = .ok (.aload_n 0, 1) := by decide +kernel
theorem dX5_readNow_48 : decode cX5_readNow 48 = .ok (.iload_n 1, 1) := by decide +kernel
theorem dX5_readNow_49 : decode cX5_readNow 49 = .ok (.iload_n 2, 1) := by decide +kernel
theorem dX5_readNow_50 : decode cX5_readNow 50 = .ok (.invokevirtual 99, 3) := by decide +kernel
theorem dX5_readNow_53 : decode cX5_readNow 53 = .ok (.istore 4, 2) := by decide +kernel
theorem dX5_readNow_55 : decode cX5_readNow 55 = .ok (.iload 4, 2) := by decide +kernel
theorem dX5_readNow_57 : decode cX5_readNow 57 = .ok (.iconst (-1), 1) := by decide +kernel
theorem dX5_readNow_58 : decode cX5_readNow 58 = .ok (.if_icmp .ne 7, 3) := by decide +kernel
theorem dX5_readNow_61 : decode cX5_readNow 61 = .ok (.iconst (-1), 1) := by decide +kernel
theorem dX5_readNow_62 : decode cX5_readNow 62 = .ok (.goto 10, 3) := by decide +kernel
theorem dX5_readNow_65 : decode cX5_readNow 65 = .ok (.aload_n 0, 1) := by decide +kernel
theorem dX5_readNow_66 : decode cX5_readNow 66 = .ok (.getfield 31, 3) := by decide +kernel
theorem dX5_readNow_69 : decode cX5_readNow 69 = .ok (.iload 4, 2) := by decide +kernel
theorem dX5_readNow_71 : decode cX5_readNow 71 = .ok (.iaload, 1) := by decide +kernel
theorem dX5_readNow_72 : decode cX5_readNow 72 = .ok (.ireturn, 1) := by decide +kernel
set_option maxRecDepth 20000 in
theorem ggX5_read_X5_readNow : GoodIn wsX5_read wsX5_readNow := goodIn_r _ [5, 6, 7, 8, 9, 4, 10, 11, 12, 13, 14, 15, 16, 17, 18, 19, 20, 21, 22, 23, 24, 25, 26, 27, 28, 29, 30, 31, 32, 33, 34, 35, 36, 37, 38, 39, 40, 41, 42, 43, 44, 45, 46, 47, 48, 49, 50, 51, 52, 53, 54, 55, 56, 57, 58, 59, 60, 61, 62, 63, 64, 65, 66, 67] (by decide +kernel) (by decide +kernel)
set_option maxRecDepth 20000 in
theorem gX5_read_X5_readNow : GoodIn wsX5_read (wsV RX5 103 RX5 yX5_readNow wsX5_readNow) := goodIn_app (goodIn_of _ (by decide +kernel)) ggX5_read_X5_readNow
theorem dX5_read_0 : decode cX5_read 0 = .ok (.aload_n 0, 1) := by decide +kernel
theorem dX5_read_1 : decode cX5_read 1 = .ok (.iload_n 1, 1) := by decide +kernel
theorem dX5_read_2 : decode cX5_read 2 = .ok (.iload_n 2, 1) := by decide +kernel
theorem dX5_read_3 : decode cX5_read 3 = .ok (.invokevirtual 103, 3) := by decide +kernel
theorem dX5_read_6 : decode cX5_read 6 = .ok (.ireturn, 1) := by decide +kernel
set_option maxRecDepth 20000 in
theorem ggX5_readPlain_X5_readNow : GoodIn wsX5_readPlain wsX5_readNow := goodIn_r _ [5, 6, 7, 8, 9, 4, 10, 11, 12, 13, 14, 15, 16, 17, 18, 19, 20, 21, 22, 23, 24, 25, 26, 27, 28, 29, 30, 31, 32, 33, 34, 35, 36, 37, 38, 39, 40, 41, 42, 43, 44, 45, 46, 47, 48, 49, 50, 51, 52, 53, 54, 55, 56, 57, 58, 59, 60, 61, 62, 63, 64, 65, 66, 67] (by decide +kernel) (by decide +kernel)
set_option maxRecDepth 20000 in
theorem gX5_readPlain_X5_readNow : GoodIn wsX5_readPlain (wsV RX5 103 RX5 yX5_readNow wsX5_readNow) := goodIn_app (goodIn_of _ (by decide +kernel)) ggX5_readPlain_X5_readNow
theorem dX5_readPlain_0 : decode cX5_readPlain 0 = .ok (.aload_n 0, 1) := by decide +kernel
theorem dX5_readPlain_1 : decode cX5_readPlain 1 = .ok (.iload_n 1, 1) := by decide +kernel
theorem dX5_readPlain_2 : decode cX5_readPlain 2 = .ok (.iload_n 2, 1) := by decide +kernel
theorem dX5_readPlain_3 : decode cX5_readPlain 3 = .ok (.invokevirtual 103, 3) := by decide +kernel
theorem dX5_readPlain_6 : decode cX5_readPlain 6 = .ok (.ireturn, 1) := by decide +kernel
set_option maxRecDepth 20000 in
theorem ggX5_bars_X5_isActive : GoodIn wsX5_bars wsX5_isActive := goodIn_r _ [6, 1, 12, 13, 14, 15, 16, 17, 18, 19, 20, 21, 22, 23, 24, 25, 26, 27, 28] (by decide +kernel) (by decide +kernel)
set_option maxRecDepth 20000 in
theorem gX5_bars_X5_isActive : GoodIn wsX5_bars (wsV RX5 68 RX5 yX5_isActive wsX5_isActive) := goodIn_app (goodIn_of _ (by decide +kernel)) ggX5_bars_X5_isActive
set_option maxRecDepth 20000 in
theorem ggX5_bars_X5_isInSnapshot : GoodIn wsX5_bars wsX5_isInSnapshot := goodIn_r _ [10, 11, 12, 13, 14, 15, 16, 17, 18, 19, 20, 21, 22, 23, 24, 25, 26, 27, 28] (by decide +kernel) (by decide +kernel)
set_option maxRecDepth 20000 in
theorem gX5_bars_X5_isInSnapshot : GoodIn wsX5_bars (wsV RX5 72 RX5 yX5_isInSnapshot wsX5_isInSnapshot) := goodIn_app (goodIn_of _ (by decide +kernel)) ggX5_bars_X5_isInSnapshot
theorem dX5_bars_0 : decode cX5_bars 0 = .ok (.iload_n 2, 1) := by decide +kernel
theorem dX5_bars_1 : decode cX5_bars 1 = .ok (.iconst (-1), 1) := by decide +kernel
theorem dX5_bars_2 : decode cX5_bars 2 = .ok (.if_icmp .eq 39, 3) := by decide +kernel
theorem dX5_bars_5 : decode cX5_bars 5 = .ok (.iload_n 2, 1) := by decide +kernel
theorem dX5_bars_6 : decode cX5_bars 6 = .ok (.iload_n 1, 1) := by decide +kernel
theorem dX5_bars_7 : decode cX5_bars 7 = .ok (.if_icmp .eq 34, 3) := by decide +kernel
theorem dX5_bars_10 : decode cX5_bars 10 = .ok (.aload_n 0, 1) := by decide +kernel
theorem dX5_bars_11 : decode cX5_bars 11 = .ok (.iload_n 2, 1) := by decide +kernel
theorem dX5_bars_12 : decode cX5_bars 12 = .ok (.invokevirtual 68, 3) := by decide +kernel
theorem dX5_bars_15 : decode cX5_bars 15 = .ok (.ifCond .ne 22, 3) := by decide +kernel
theorem dX5_bars_18 : decode cX5_bars 18 = .ok (.aload_n 0, 1) := by decide +kernel
theorem dX5_bars_19 : decode cX5_bars 19 = .ok (.getfield 17, 3) := by decide +kernel
theorem dX5_bars_22 : decode cX5_bars 22 = .ok (.iload_n 2, 1) := by decide +kernel
theorem dX5_bars_23 : decode cX5_bars 23 = .ok (.iaload, 1) := by decide +kernel
theorem dX5_bars_24 : decode cX5_bars 24 = .ok (.iconst 1, 1) := by decide +kernel
theorem dX5_bars_25 : decode cX5_bars 25 = .ok (.if_icmp .ne 16, 3) := by decide +kernel
theorem dX5_bars_28 : decode cX5_bars 28 = .ok (.aload_n 0, 1) := by decide +kernel
theorem dX5_bars_29 : decode cX5_bars 29 = .ok (.iload_n 1, 1) := by decide +kernel
theorem dX5_bars_30 : decode cX5_bars 30 = .ok (.iload_n 2, 1) := by decide +kernel
theorem dX5_bars_31 : decode cX5_bars 31 = .ok (.invokevirtual 72, 3) := by decide +kernel
theorem dX5_bars_34 : decode cX5_bars 34 = .ok (.ifCond .ne 7, 3) := by decide +kernel
theorem dX5_bars_37 : decode cX5_bars 37 = .ok (.iconst 1, 1) := by decide +kernel
theorem dX5_bars_38 : decode cX5_bars 38 = .ok (.goto 4, 3) := by decide +kernel
theorem dX5_bars_41 : decode cX5_bars 41 = .ok (.iconst 0, 1) := by decide +kernel
theorem dX5_bars_42 : decode cX5_bars 42 = .ok (.ireturn, 1) := by decide +kernel
set_option maxRecDepth 20000 in
theorem ggX5_isRefused_X5_bars : GoodIn wsX5_isRefused wsX5_bars := goodIn_r _ [9, 10, 11, 12, 13, 8, 14, 15, 16, 17, 18, 19, 20, 21, 22, 23, 24, 25, 26, 27, 28, 29, 30, 31, 32, 33, 34, 35, 36] (by decide +kernel) (by decide +kernel)
set_option maxRecDepth 20000 in
theorem gX5_isRefused_X5_bars : GoodIn wsX5_isRefused (wsV RX5 106 RX5 yX5_bars wsX5_bars) := goodIn_app (goodIn_of _ (by decide +kernel)) ggX5_isRefused_X5_bars
theorem dX5_isRefused_0 : decode cX5_isRefused 0 = .ok (.iconst 0, 1) := by decide +kernel
theorem dX5_isRefused_1 : decode cX5_isRefused 1 = .ok (.istore_n 3, 1) := by decide +kernel
theorem dX5_isRefused_2 : decode cX5_isRefused 2 = .ok (.iconst 0, 1) := by decide +kernel
theorem dX5_isRefused_3 : decode cX5_isRefused 3 = .ok (.istore 4, 2) := by decide +kernel
theorem dX5_isRefused_5 : decode cX5_isRefused 5 = .ok (.iload 4, 2) := by decide +kernel
theorem dX5_isRefused_7 : decode cX5_isRefused 7 = .ok (.bipush 32, 2) := by decide +kernel
theorem dX5_isRefused_9 : decode cX5_isRefused 9 = .ok (.if_icmp .ge 70, 3) := by decide +kernel
theorem dX5_isRefused_12 : decode cX5_isRefused 12 = .ok (.iload_n 3, 1) := by decide +kernel
theorem dX5_isRefused_13 : decode cX5_isRefused 13 = .ok (.ifCond .ne 54, 3) := by decide +kernel
theorem dX5_isRefused_16 : decode cX5_isRefused 16 = .ok (.aload_n 0, 1) := by decide +kernel
theorem dX5_isRefused_17 : decode cX5_isRefused 17 = .ok (.getfield 24, 3) := by decide +kernel
theorem dX5_isRefused_20 : decode cX5_isRefused 20 = .ok (.iload 4, 2) := by decide +kernel
theorem dX5_isRefused_22 : decode cX5_isRefused 22 = .ok (.baload, 1) := by decide +kernel
theorem dX5_isRefused_23 : decode cX5_isRefused 23 = .ok (.ifCond .eq 48, 3) := by decide +kernel
theorem dX5_isRefused_26 : decode cX5_isRefused 26 = .ok (.aload_n 0, 1) := by decide +kernel
theorem dX5_isRefused_27 : decode cX5_isRefused 27 = .ok (.getfield 28, 3) := by decide +kernel
theorem dX5_isRefused_30 : decode cX5_isRefused 30 = .ok (.iload 4, 2) := by decide +kernel
theorem dX5_isRefused_32 : decode cX5_isRefused 32 = .ok (.iaload, 1) := by decide +kernel
theorem dX5_isRefused_33 : decode cX5_isRefused 33 = .ok (.iload_n 2, 1) := by decide +kernel
theorem dX5_isRefused_34 : decode cX5_isRefused 34 = .ok (.if_icmp .ne 37, 3) := by decide +kernel
theorem dX5_isRefused_37 : decode cX5_isRefused 37 = .ok (.aload_n 0, 1) := by decide +kernel
theorem dX5_isRefused_38 : decode cX5_isRefused 38 = .ok (.iload_n 1, 1) := by decide +kernel
theorem dX5_isRefused_39 : decode cX5_isRefused 39 = .ok (.aload_n 0, 1) := by decide +kernel
theorem dX5_isRefused_40 : decode cX5_isRefused 40 = .ok (.getfield 34, 3) := by decide +kernel
theorem dX5_isRefused_43 : decode cX5_isRefused 43 = .ok (.iload 4, 2) := by decide +kernel
theorem dX5_isRefused_45 : decode cX5_isRefused 45 = .ok (.iaload, 1) := by decide +kernel
theorem dX5_isRefused_46 : decode cX5_isRefused 46 = .ok (.invokevirtual 106, 3) := by decide +kernel
theorem dX5_isRefused_49 : decode cX5_isRefused 49 = .ok (.ifCond .ne 18, 3) := by decide +kernel
theorem dX5_isRefused_52 : decode cX5_isRefused 52 = .ok (.aload_n 0, 1) := by decide +kernel
theorem dX5_isRefused_53 : decode cX5_isRefused 53 = .ok (.iload_n 1, 1) := by decide +kernel
theorem dX5_isRefused_54 : decode cX5_isRefused 54 = .ok (.aload_n 0, 1) := by decide +kernel
theorem dX5_isRefused_55 : decode cX5_isRefused 55 = .ok (.getfield 40, 3) := by decide +kernel
theorem dX5_isRefused_58 : decode cX5_isRefused 58 = .ok (.iload 4, 2) := by decide +kernel
theorem dX5_isRefused_60 : decode cX5_isRefused 60 = .ok (.iaload, 1) := by decide +kernel
theorem dX5_isRefused_61 : decode cX5_isRefused 61 = .ok (.invokevirtual 106, 3) := by decide +kernel
theorem dX5_isRefused_64 : decode cX5_isRefused 64 = .ok (.ifCond .eq 7, 3) := by decide +kernel
theorem dX5_isRefused_67 : decode cX5_isRefused 67 = .ok (.iconst 1, 1) := by decide +kernel
theorem dX5_isRefused_68 : decode cX5_isRefused 68 = .ok (.goto 4, 3) := by decide +kernel
theorem dX5_isRefused_71 : decode cX5_isRefused 71 = .ok (.iconst 0, 1) := by decide +kernel
theorem dX5_isRefused_72 : decode cX5_isRefused 72 = .ok (.istore_n 3, 1) := by decide +kernel
theorem dX5_isRefused_73 : decode cX5_isRefused 73 = .ok (.iinc 4 1, 3) := by decide +kernel
theorem dX5_isRefused_76 : decode cX5_isRefused 76 = .ok (.goto (-71), 3) := by decide +kernel
theorem dX5_isRefused_79 : decode cX5_isRefused 79 = .ok (.iload_n 3, 1) := by decide +kernel
theorem dX5_isRefused_80 : decode cX5_isRefused 80 = .ok (.ireturn, 1) := by decide +kernel
theorem dX5_free_0 : decode cX5_free 0 = .ok (.iload_n 1, 1) := by decide +kernel
theorem dX5_free_1 : decode cX5_free 1 = .ok (.istore_n 3, 1) := by decide +kernel
theorem dX5_free_2 : decode cX5_free 2 = .ok (.iload_n 3, 1) := by decide +kernel
theorem dX5_free_3 : decode cX5_free 3 = .ok (.iload_n 2, 1) := by decide +kernel
theorem dX5_free_4 : decode cX5_free 4 = .ok (.if_icmp .ge 20, 3) := by decide +kernel
theorem dX5_free_7 : decode cX5_free 7 = .ok (.aload_n 0, 1) := by decide +kernel
theorem dX5_free_8 : decode cX5_free 8 = .ok (.getfield 24, 3) := by decide +kernel
theorem dX5_free_11 : decode cX5_free 11 = .ok (.iload_n 3, 1) := by decide +kernel
theorem dX5_free_12 : decode cX5_free 12 = .ok (.baload, 1) := by decide +kernel
theorem dX5_free_13 : decode cX5_free 13 = .ok (.ifCond .ne 5, 3) := by decide +kernel
theorem dX5_free_16 : decode cX5_free 16 = .ok (.iload_n 3, 1) := by decide +kernel
theorem dX5_free_17 : decode cX5_free 17 = .ok (.ireturn, 1) := by decide +kernel
theorem dX5_free_18 : decode cX5_free 18 = .ok (.iinc 3 1, 3) := by decide +kernel
theorem dX5_free_21 : decode cX5_free 21 = .ok (.goto (-19), 3) := by decide +kernel
theorem dX5_free_24 : decode cX5_free 24 = .ok (.iconst (-1), 1) := by decide +kernel
theorem dX5_free_25 : decode cX5_free 25 = .ok (.ireturn, 1) := by decide +kernel
theorem dX5_puts_0 : decode cX5_puts 0 = .ok (.aload_n 0, 1) := by decide +kernel
theorem dX5_puts_1 : decode cX5_puts 1 = .ok (.getfield 24, 3) := by decide +kernel
theorem dX5_puts_4 : decode cX5_puts 4 = .ok (.iload_n 2, 1) := by decide +kernel
theorem dX5_puts_5 : decode cX5_puts 5 = .ok (.iconst 1, 1) := by decide +kernel
theorem dX5_puts_6 : decode cX5_puts 6 = .ok (.bastore, 1) := by decide +kernel
theorem dX5_puts_7 : decode cX5_puts 7 = .ok (.aload_n 0, 1) := by decide +kernel
theorem dX5_puts_8 : decode cX5_puts 8 = .ok (.getfield 28, 3) := by decide +kernel
theorem dX5_puts_11 : decode cX5_puts 11 = .ok (.iload_n 2, 1) := by decide +kernel
theorem dX5_puts_12 : decode cX5_puts 12 = .ok (.iload_n 3, 1) := by decide +kernel
theorem dX5_puts_13 : decode cX5_puts 13 = .ok (.iastore, 1) := by decide +kernel
theorem dX5_puts_14 : decode cX5_puts 14 = .ok (.aload_n 0, 1) := by decide +kernel
theorem dX5_puts_15 : decode cX5_puts 15 = .ok (.getfield 31, 3) := by decide +kernel
theorem dX5_puts_18 : decode cX5_puts 18 = .ok (.iload_n 2, 1) := by decide +kernel
theorem dX5_puts_19 : decode cX5_puts 19 = .ok (.iload 4, 2) := by decide +kernel
theorem dX5_puts_21 : decode cX5_puts 21 = .ok (.iastore, 1) := by decide +kernel
theorem dX5_puts_22 : decode cX5_puts 22 = .ok (.aload_n 0, 1) := by decide +kernel
theorem dX5_puts_23 : decode cX5_puts 23 = .ok (.getfield 34, 3) := by decide +kernel
theorem dX5_puts_26 : decode cX5_puts 26 = .ok (.iload_n 2, 1) := by decide +kernel
theorem dX5_puts_27 : decode cX5_puts 27 = .ok (.iload_n 1, 1) := by decide +kernel
theorem dX5_puts_28 : decode cX5_puts 28 = .ok (.iastore, 1) := by decide +kernel
theorem dX5_puts_29 : decode cX5_puts 29 = .ok (.aload_n 0, 1) := by decide +kernel
theorem dX5_puts_30 : decode cX5_puts 30 = .ok (.getfield 37, 3) := by decide +kernel
theorem dX5_puts_33 : decode cX5_puts 33 = .ok (.iload_n 2, 1) := by decide +kernel
theorem dX5_puts_34 : decode cX5_puts 34 = .ok (.iconst 0, 1) := by decide +kernel
theorem dX5_puts_35 : decode cX5_puts 35 = .ok (.bastore, 1) := by decide +kernel
theorem dX5_puts_36 : decode cX5_puts 36 = .ok (.aload_n 0, 1) := by decide +kernel
theorem dX5_puts_37 : decode cX5_puts 37 = .ok (.getfield 40, 3) := by decide +kernel
theorem dX5_puts_40 : decode cX5_puts 40 = .ok (.iload_n 2, 1) := by decide +kernel
theorem dX5_puts_41 : decode cX5_puts 41 = .ok (.iconst (-1), 1) := by decide +kernel
theorem dX5_puts_42 : decode cX5_puts 42 = .ok (.iastore, 1) := by decide +kernel
theorem dX5_puts_43 : decode cX5_puts 43 = .ok (.aload_n 0, 1) := by decide +kernel
theorem dX5_puts_44 : decode cX5_puts 44 = .ok (.getfield 43, 3) := by decide +kernel
theorem dX5_puts_47 : decode cX5_puts 47 = .ok (.iload_n 2, 1) := by decide +kernel
theorem dX5_puts_48 : decode cX5_puts 48 = .ok (.iconst (-1), 1) := by decide +kernel
theorem dX5_puts_49 : decode cX5_puts 49 = .ok (.iastore, 1) := by decide +kernel
theorem dX5_puts_50 : decode cX5_puts 50 = .ok (.aload_n 0, 1) := by decide +kernel
theorem dX5_puts_51 : decode cX5_puts 51 = .ok (.getfield 46, 3) := by decide +kernel
theorem dX5_puts_54 : decode cX5_puts 54 = .ok (.iload_n 2, 1) := by decide +kernel
theorem dX5_puts_55 : decode cX5_puts 55 = .ok (.bipush 8, 2) := by decide +kernel
theorem dX5_puts_57 : decode cX5_puts 57 = .ok (.idiv, 1) := by decide +kernel
theorem dX5_puts_58 : decode cX5_puts 58 = .ok (.iconst 0, 1) := by decide +kernel
theorem dX5_puts_59 : decode cX5_puts 59 = .ok (.bastore, 1) := by decide +kernel
theorem dX5_puts_60 : decode cX5_puts 60 = .ok (.return_, 1) := by decide +kernel
theorem dX5_dies_0 : decode cX5_dies 0 = .ok (.aload_n 0, 1) := by decide +kernel
theorem dX5_dies_1 : decode cX5_dies 1 = .ok (.getfield 40, 3) := by decide +kernel
theorem dX5_dies_4 : decode cX5_dies 4 = .ok (.iload_n 2, 1) := by decide +kernel
theorem dX5_dies_5 : decode cX5_dies 5 = .ok (.iload_n 1, 1) := by decide +kernel
theorem dX5_dies_6 : decode cX5_dies 6 = .ok (.iastore, 1) := by decide +kernel
theorem dX5_dies_7 : decode cX5_dies 7 = .ok (.aload_n 0, 1) := by decide +kernel
theorem dX5_dies_8 : decode cX5_dies 8 = .ok (.getfield 46, 3) := by decide +kernel
theorem dX5_dies_11 : decode cX5_dies 11 = .ok (.iload_n 2, 1) := by decide +kernel
theorem dX5_dies_12 : decode cX5_dies 12 = .ok (.bipush 8, 2) := by decide +kernel
theorem dX5_dies_14 : decode cX5_dies 14 = .ok (.idiv, 1) := by decide +kernel
theorem dX5_dies_15 : decode cX5_dies 15 = .ok (.iconst 0, 1) := by decide +kernel
theorem dX5_dies_16 : decode cX5_dies 16 = .ok (.bastore, 1) := by decide +kernel
theorem dX5_dies_17 : decode cX5_dies 17 = .ok (.return_, 1) := by decide +kernel
set_option maxRecDepth 20000 in
theorem ggX5_write_X5_isTransaction : GoodIn wsX5_write wsX5_isTransaction := goodIn_r _ [9, 10, 11, 12, 8, 13, 71, 72, 73, 74, 75, 76, 77, 78, 79, 80, 81, 82, 83, 84, 85, 86, 87] (by decide +kernel) (by decide +kernel)
set_option maxRecDepth 20000 in
theorem gX5_write_X5_isTransaction : GoodIn wsX5_write (wsV RX5 87 RX5 yX5_isTransaction wsX5_isTransaction) := goodIn_app (goodIn_of _ (by decide +kernel)) ggX5_write_X5_isTransaction
set_option maxRecDepth 20000 in
theorem ggX5_write_X5_isKey : GoodIn wsX5_write wsX5_isKey := goodIn_r _ [16, 11, 12, 8, 13] (by decide +kernel) (by decide +kernel)
set_option maxRecDepth 20000 in
theorem gX5_write_X5_isKey : GoodIn wsX5_write (va_wsS RX5 96 yX5_isKey wsX5_isKey) := goodIn_app (goodIn_of _ (by decide +kernel)) ggX5_write_X5_isKey
set_option maxRecDepth 20000 in
theorem ggX5_write_X5_isIn : GoodIn wsX5_write wsX5_isIn := goodIn_r _ [13] (by decide +kernel) (by decide +kernel)
set_option maxRecDepth 20000 in
theorem gX5_write_X5_isIn : GoodIn wsX5_write (va_wsS RX5 61 yX5_isIn wsX5_isIn) := goodIn_app (goodIn_of _ (by decide +kernel)) ggX5_write_X5_isIn
set_option maxRecDepth 20000 in
theorem ggX5_write_X5_isActive : GoodIn wsX5_write wsX5_isActive := goodIn_r _ [20, 21, 71, 72, 73, 74, 75, 76, 77, 78, 79, 80, 81, 82, 83, 84, 85, 86, 87] (by decide +kernel) (by decide +kernel)
set_option maxRecDepth 20000 in
theorem gX5_write_X5_isActive : GoodIn wsX5_write (wsV RX5 68 RX5 yX5_isActive wsX5_isActive) := goodIn_app (goodIn_of _ (by decide +kernel)) ggX5_write_X5_isActive
set_option maxRecDepth 20000 in
theorem ggX5_write_X5_free : GoodIn wsX5_write wsX5_free := goodIn_r _ [25, 26, 71, 72, 73, 74, 75, 76, 77, 78, 79, 80, 81, 82, 83, 84, 85, 86, 87] (by decide +kernel) (by decide +kernel)
set_option maxRecDepth 20000 in
theorem gX5_write_X5_free : GoodIn wsX5_write (wsV RX5 109 RX5 yX5_free wsX5_free) := goodIn_app (goodIn_of _ (by decide +kernel)) ggX5_write_X5_free
set_option maxRecDepth 20000 in
theorem ggX5_write_X5_isRefused : GoodIn wsX5_write wsX5_isRefused := goodIn_r _ [30, 26, 31, 32, 33, 34, 35, 36, 8, 37, 21, 17, 18, 19, 20, 38, 39, 40, 41, 42, 71, 72, 73, 74, 75, 76, 77, 78, 79, 80, 81, 82, 83, 84, 85, 86, 87] (by decide +kernel) (by decide +kernel)
set_option maxRecDepth 20000 in
theorem gX5_write_X5_isRefused : GoodIn wsX5_write (wsV RX5 112 RX5 yX5_isRefused wsX5_isRefused) := goodIn_app (goodIn_of _ (by decide +kernel)) ggX5_write_X5_isRefused
set_option maxRecDepth 20000 in
theorem ggX5_write_X5_isFine : GoodIn wsX5_write wsX5_isFine := goodIn_r _ [46, 47, 71, 72, 73, 74, 75, 76, 77, 78, 79, 80, 81, 82, 83, 84, 85, 86, 87] (by decide +kernel) (by decide +kernel)
set_option maxRecDepth 20000 in
theorem gX5_write_X5_isFine : GoodIn wsX5_write (wsV RX5 84 RX5 yX5_isFine wsX5_isFine) := goodIn_app (goodIn_of _ (by decide +kernel)) ggX5_write_X5_isFine
set_option maxRecDepth 20000 in
theorem ggX5_write_X5_seen : GoodIn wsX5_write wsX5_seen := goodIn_r _ [51, 3, 2, 1, 52, 53, 54, 8, 55, 56, 32, 33, 57, 58, 59, 60, 38, 39, 40, 41, 42, 71, 72, 73, 74, 75, 76, 77, 78, 79, 80, 81, 82, 83, 84, 85, 86, 87] (by decide +kernel) (by decide +kernel)
set_option maxRecDepth 20000 in
theorem gX5_write_X5_seen : GoodIn wsX5_write (wsV RX5 99 RX5 yX5_seen wsX5_seen) := goodIn_app (goodIn_of _ (by decide +kernel)) ggX5_write_X5_seen
set_option maxRecDepth 20000 in
theorem ggX5_write_X5_puts : GoodIn wsX5_write wsX5_puts := goodIn_r _ [64, 26, 31, 65, 32, 56, 33, 1, 66, 71, 72, 73, 74, 75, 76, 77, 78, 79, 80, 81, 82, 83, 84, 85, 86, 87] (by decide +kernel) (by decide +kernel)
set_option maxRecDepth 20000 in
theorem gX5_write_X5_puts : GoodIn wsX5_write (wsV RX5 115 RX5 yX5_puts wsX5_puts) := goodIn_app (goodIn_of _ (by decide +kernel)) ggX5_write_X5_puts
set_option maxRecDepth 20000 in
theorem ggX5_write_X5_dies : GoodIn wsX5_write wsX5_dies := goodIn_r _ [70, 33, 66, 71, 72, 73, 74, 75, 76, 77, 78, 79, 80, 81, 82, 83, 84, 85, 86, 87] (by decide +kernel) (by decide +kernel)
set_option maxRecDepth 20000 in
theorem gX5_write_X5_dies : GoodIn wsX5_write (wsV RX5 119 RX5 yX5_dies wsX5_dies) := goodIn_app (goodIn_of _ (by decide +kernel)) ggX5_write_X5_dies
theorem dX5_write_0 : decode cX5_write 0 = .ok (.aload_n 0, 1) := by decide +kernel
theorem dX5_write_1 : decode cX5_write 1 = .ok (.iload_n 1, 1) := by decide +kernel
theorem dX5_write_2 : decode cX5_write 2 = .ok (.invokevirtual 87, 3) := by decide +kernel
theorem dX5_write_5 : decode cX5_write 5 = .ok (.istore 4, 2) := by decide +kernel
theorem dX5_write_7 : decode cX5_write 7 = .ok (.iload_n 2, 1) := by decide +kernel
theorem dX5_write_8 : decode cX5_write 8 = .ok (.invokestatic 96, 3) := by decide +kernel
theorem dX5_write_11 : decode cX5_write 11 = .ok (.ifCond .eq 18, 3) := by decide +kernel
theorem dX5_write_14 : decode cX5_write 14 = .ok (.iload_n 3, 1) := by decide +kernel
theorem dX5_write_15 : decode cX5_write 15 = .ok (.iconst 0, 1) := by decide +kernel
theorem dX5_write_16 : decode cX5_write 16 = .ok (.sipush 9999, 3) := by decide +kernel
theorem dX5_write_19 : decode cX5_write 19 = .ok (.invokestatic 61, 3) := by decide +kernel
theorem dX5_write_22 : decode cX5_write 22 = .ok (.ifCond .eq 7, 3) := by decide +kernel
theorem dX5_write_25 : decode cX5_write 25 = .ok (.iconst 1, 1) := by decide +kernel
theorem dX5_write_26 : decode cX5_write 26 = .ok (.goto 4, 3) := by decide +kernel
theorem dX5_write_29 : decode cX5_write 29 = .ok (.iconst 0, 1) := by decide +kernel
theorem dX5_write_30 : decode cX5_write 30 = .ok (.istore 5, 2) := by decide +kernel
theorem dX5_write_32 : decode cX5_write 32 = .ok (.iload 4, 2) := by decide +kernel
theorem dX5_write_34 : decode cX5_write 34 = .ok (.ifCond .eq 40, 3) := by decide +kernel
theorem dX5_write_37 : decode cX5_write 37 = .ok (.iload 5, 2) := by decide +kernel
theorem dX5_write_39 : decode cX5_write 39 = .ok (.ifCond .eq 35, 3) := by decide +kernel
theorem dX5_write_42 : decode cX5_write 42 = .ok (.aload_n 0, 1) := by decide +kernel
theorem dX5_write_43 : decode cX5_write 43 = .ok (.iload_n 1, 1) := by decide +kernel
theorem dX5_write_44 : decode cX5_write 44 = .ok (.invokevirtual 68, 3) := by decide +kernel
theorem dX5_write_47 : decode cX5_write 47 = .ok (.ifCond .eq 27, 3) := by decide +kernel
theorem dX5_write_50 : decode cX5_write 50 = .ok (.aload_n 0, 1) := by decide +kernel
theorem dX5_write_51 : decode cX5_write 51 = .ok (.iconst 0, 1) := by decide +kernel
theorem dX5_write_52 : decode cX5_write 52 = .ok (.bipush 32, 2) := by decide +kernel
theorem dX5_write_54 : decode cX5_write 54 = .ok (.invokevirtual 109, 3) := by decide +kernel
theorem dX5_write_57 : decode cX5_write 57 = .ok (.iconst (-1), 1) := by decide +kernel
theorem dX5_write_58 : decode cX5_write 58 = .ok (.if_icmp .eq 16, 3) := by decide +kernel
theorem dX5_write_61 : decode cX5_write 61 = .ok (.aload_n 0, 1) := by decide +kernel
theorem dX5_write_62 : decode cX5_write 62 = .ok (.iload_n 1, 1) := by decide +kernel
theorem dX5_write_63 : decode cX5_write 63 = .ok (.iload_n 2, 1) := by decide +kernel
theorem dX5_write_64 : decode cX5_write 64 = .ok (.invokevirtual 112, 3) := by decide +kernel
theorem dX5_write_67 : decode cX5_write 67 = .ok (.ifCond .ne 7, 3) := by decide +kernel
theorem dX5_write_70 : decode cX5_write 70 = .ok (.iconst 1, 1) := by decide +kernel
theorem dX5_write_71 : decode cX5_write 71 = .ok (.goto 4, 3) := by decide +kernel
theorem dX5_write_74 : decode cX5_write 74 = .ok (.iconst 0, 1) := by decide +kernel
theorem dX5_write_75 : decode cX5_write 75 = .ok (.istore 6, 2) := by decide +kernel
theorem dX5_write_77 : decode cX5_write 77 = .ok (.aload_n 0, 1) := by decide +kernel
theorem dX5_write_78 : decode cX5_write 78 = .ok (.iload 4, 2) := by decide +kernel
theorem dX5_write_80 : decode cX5_write 80 = .ok (.ifCond .ne 7, 3) := by decide +kernel
theorem dX5_write_83 : decode cX5_write 83 = .ok (.iconst 1, 1) := by decide +kernel
theorem dX5_write_84 : decode cX5_write 84 = .ok (.goto 22, 3) := by decide +kernel
theorem dX5_write_87 : decode cX5_write 87 = .ok (.iload 5, 2) := by decide +kernel
theorem dX5_write_89 : decode cX5_write 89 = .ok (.ifCond .ne 7, 3) := by decide +kernel
theorem dX5_write_92 : decode cX5_write 92 = .ok (.iconst 2, 1) := by decide +kernel
theorem dX5_write_93 : decode cX5_write 93 = .ok (.goto 13, 3) := by decide +kernel
theorem dX5_write_96 : decode cX5_write 96 = .ok (.iload 6, 2) := by decide +kernel
theorem dX5_write_98 : decode cX5_write 98 = .ok (.ifCond .ne 7, 3) := by decide +kernel
theorem dX5_write_101 : decode cX5_write 101 = .ok (.iconst 3, 1) := by decide +kernel
theorem dX5_write_102 : decode cX5_write 102 = .ok (.goto 4, 3) := by decide +kernel
theorem dX5_write_105 : decode cX5_write 105 = .ok (.iconst 0, 1) := by decide +kernel
theorem dX5_write_106 : decode cX5_write 106 = .ok (.invokevirtual 84, 3) := by decide +kernel
theorem dX5_write_109 : decode cX5_write 109 = .ok (.ifCond .ne 5, 3) := by decide +kernel
theorem dX5_write_112 : decode cX5_write 112 = .ok (.iconst 0, 1) := by decide +kernel
theorem dX5_write_113 : decode cX5_write 113 = .ok (.ireturn, 1) := by decide +kernel
theorem dX5_write_114 : decode cX5_write 114 = .ok (.aload_n 0, 1) := by decide +kernel
theorem dX5_write_115 : decode cX5_write 115 = .ok (.iload_n 1, 1) := by decide +kernel
theorem dX5_write_116 : decode cX5_write 116 = .ok (.iload_n 2, 1) := by decide +kernel
theorem dX5_write_117 : decode cX5_write 117 = .ok (.invokevirtual 99, 3) := by decide +kernel
theorem dX5_write_120 : decode cX5_write 120 = .ok (.istore 7, 2) := by decide +kernel
theorem dX5_write_122 : decode cX5_write 122 = .ok (.iload 7, 2) := by decide +kernel
theorem dX5_write_124 : decode cX5_write 124 = .ok (.iconst (-1), 1) := by decide +kernel
theorem dX5_write_125 : decode cX5_write 125 = .ok (.if_icmp .ne 7, 3) := by decide +kernel
theorem dX5_write_128 : decode cX5_write 128 = .ok (.iconst 0, 1) := by decide +kernel
theorem dX5_write_129 : decode cX5_write 129 = .ok (.goto 11, 3) := by decide +kernel
theorem dX5_write_132 : decode cX5_write 132 = .ok (.iload 7, 2) := by decide +kernel
theorem dX5_write_134 : decode cX5_write 134 = .ok (.bipush 8, 2) := by decide +kernel
theorem dX5_write_136 : decode cX5_write 136 = .ok (.idiv, 1) := by decide +kernel
theorem dX5_write_137 : decode cX5_write 137 = .ok (.bipush 8, 2) := by decide +kernel
theorem dX5_write_139 : decode cX5_write 139 = .ok (.imul, 1) := by decide +kernel
theorem dX5_write_140 : decode cX5_write 140 = .ok (.istore 8, 2) := by decide +kernel
theorem dX5_write_142 : decode cX5_write 142 = .ok (.iload 7, 2) := by decide +kernel
theorem dX5_write_144 : decode cX5_write 144 = .ok (.iconst (-1), 1) := by decide +kernel
theorem dX5_write_145 : decode cX5_write 145 = .ok (.if_icmp .ne 7, 3) := by decide +kernel
theorem dX5_write_148 : decode cX5_write 148 = .ok (.iconst (-1), 1) := by decide +kernel
theorem dX5_write_149 : decode cX5_write 149 = .ok (.goto 14, 3) := by decide +kernel
theorem dX5_write_152 : decode cX5_write 152 = .ok (.aload_n 0, 1) := by decide +kernel
theorem dX5_write_153 : decode cX5_write 153 = .ok (.iload 8, 2) := by decide +kernel
theorem dX5_write_155 : decode cX5_write 155 = .ok (.iload 8, 2) := by decide +kernel
theorem dX5_write_157 : decode cX5_write 157 = .ok (.bipush 8, 2) := by decide +kernel
theorem dX5_write_159 : decode cX5_write 159 = .ok (.iadd, 1) := by decide +kernel
theorem dX5_write_160 : decode cX5_write 160 = .ok (.invokevirtual 109, 3) := by decide +kernel
theorem dX5_write_163 : decode cX5_write 163 = .ok (.istore 9, 2) := by decide +kernel
theorem dX5_write_165 : decode cX5_write 165 = .ok (.iload 9, 2) := by decide +kernel
theorem dX5_write_167 : decode cX5_write 167 = .ok (.iconst (-1), 1) := by decide +kernel
theorem dX5_write_168 : decode cX5_write 168 = .ok (.if_icmp .ne 13, 3) := by decide +kernel
theorem dX5_write_171 : decode cX5_write 171 = .ok (.aload_n 0, 1) := by decide +kernel
theorem dX5_write_172 : decode cX5_write 172 = .ok (.iconst 0, 1) := by decide +kernel
theorem dX5_write_173 : decode cX5_write 173 = .ok (.bipush 32, 2) := by decide +kernel
theorem dX5_write_175 : decode cX5_write 175 = .ok (.invokevirtual 109, 3) := by decide +kernel
theorem dX5_write_178 : decode cX5_write 178 = .ok (.goto 5, 3) := by decide +kernel
theorem dX5_write_181 : decode cX5_write 181 = .ok (.iload 9, 2) := by decide +kernel
theorem dX5_write_183 : decode cX5_write 183 = .ok (.istore 10, 2) := by decide +kernel
theorem dX5_write_185 : decode cX5_write 185 = .ok (.aload_n 0, 1) := by decide +kernel
theorem dX5_write_186 : decode cX5_write 186 = .ok (.iload_n 1, 1) := by decide +kernel
theorem dX5_write_187 : decode cX5_write 187 = .ok (.iload 10, 2) := by decide +kernel
theorem dX5_write_189 : decode cX5_write 189 = .ok (.iload_n 2, 1) := by decide +kernel
theorem dX5_write_190 : decode cX5_write 190 = .ok (.iload_n 3, 1) := by decide +kernel
theorem dX5_write_191 : decode cX5_write 191 = .ok (.invokevirtual 115, 3) := by decide +kernel
theorem dX5_write_194 : decode cX5_write 194 = .ok (.iload 7, 2) := by decide +kernel
theorem dX5_write_196 : decode cX5_write 196 = .ok (.iconst (-1), 1) := by decide +kernel
theorem dX5_write_197 : decode cX5_write 197 = .ok (.if_icmp .eq 10, 3) := by decide +kernel
theorem dX5_write_200 : decode cX5_write 200 = .ok (.aload_n 0, 1) := by decide +kernel
theorem dX5_write_201 : decode cX5_write 201 = .ok (.iload_n 1, 1) := by decide +kernel
theorem dX5_write_202 : decode cX5_write 202 = .ok (.iload 7, 2) := by decide +kernel
theorem dX5_write_204 : decode cX5_write 204 = .ok (.invokevirtual 119, 3) := by decide +kernel
theorem dX5_write_207 : decode cX5_write 207 = .ok (.iload 9, 2) := by decide +kernel
theorem dX5_write_209 : decode cX5_write 209 = .ok (.iconst (-1), 1) := by decide +kernel
theorem dX5_write_210 : decode cX5_write 210 = .ok (.if_icmp .eq 15, 3) := by decide +kernel
theorem dX5_write_213 : decode cX5_write 213 = .ok (.aload_n 0, 1) := by decide +kernel
theorem dX5_write_214 : decode cX5_write 214 = .ok (.getfield 43, 3) := by decide +kernel
theorem dX5_write_217 : decode cX5_write 217 = .ok (.iload 7, 2) := by decide +kernel
theorem dX5_write_219 : decode cX5_write 219 = .ok (.iload 10, 2) := by decide +kernel
theorem dX5_write_221 : decode cX5_write 221 = .ok (.iastore, 1) := by decide +kernel
theorem dX5_write_222 : decode cX5_write 222 = .ok (.goto 31, 3) := by decide +kernel
theorem dX5_write_225 : decode cX5_write 225 = .ok (.aload_n 0, 1) := by decide +kernel
theorem dX5_write_226 : decode cX5_write 226 = .ok (.getfield 49, 3) := by decide +kernel
theorem dX5_write_229 : decode cX5_write 229 = .ok (.bipush 64, 2) := by decide +kernel
theorem dX5_write_231 : decode cX5_write 231 = .ok (.iload_n 2, 1) := by decide +kernel
theorem dX5_write_232 : decode cX5_write 232 = .ok (.imul, 1) := by decide +kernel
theorem dX5_write_233 : decode cX5_write 233 = .ok (.aload_n 0, 1) := by decide +kernel
theorem dX5_write_234 : decode cX5_write 234 = .ok (.getfield 52, 3) := by decide +kernel
theorem dX5_write_237 : decode cX5_write 237 = .ok (.iload_n 2, 1) := by decide +kernel
theorem dX5_write_238 : decode cX5_write 238 = .ok (.iaload, 1) := by decide +kernel
theorem dX5_write_239 : decode cX5_write 239 = .ok (.iadd, 1) := by decide +kernel
theorem dX5_write_240 : decode cX5_write 240 = .ok (.iload 10, 2) := by decide +kernel
theorem dX5_write_242 : decode cX5_write 242 = .ok (.iastore, 1) := by decide +kernel
theorem dX5_write_243 : decode cX5_write 243 = .ok (.aload_n 0, 1) := by decide +kernel
theorem dX5_write_244 : decode cX5_write 244 = .ok (.getfield 52, 3) := by decide +kernel
theorem dX5_write_247 : decode cX5_write 247 = .ok (.iload_n 2, 1) := by decide +kernel
theorem dX5_write_248 : decode cX5_write 248 = .ok (.dup2, 1) := by decide +kernel
theorem dX5_write_249 : decode cX5_write 249 = .ok (.iaload, 1) := by decide +kernel
theorem dX5_write_250 : decode cX5_write 250 = .ok (.iconst 1, 1) := by decide +kernel
theorem dX5_write_251 : decode cX5_write 251 = .ok (.iadd, 1) := by decide +kernel
theorem dX5_write_252 : decode cX5_write 252 = .ok (.iastore, 1) := by decide +kernel
theorem dX5_write_253 : decode cX5_write 253 = .ok (.sipush 1000, 3) := by decide +kernel
theorem dX5_write_256 : decode cX5_write 256 = .ok (.iload 10, 2) := by decide +kernel
theorem dX5_write_258 : decode cX5_write 258 = .ok (.bipush 8, 2) := by decide +kernel
theorem dX5_write_260 : decode cX5_write 260 = .ok (.idiv, 1) := by decide +kernel
theorem dX5_write_261 : decode cX5_write 261 = .ok (.imul, 1) := by decide +kernel
theorem dX5_write_262 : decode cX5_write 262 = .ok (.iload 10, 2) := by decide +kernel
theorem dX5_write_264 : decode cX5_write 264 = .ok (.bipush 8, 2) := by decide +kernel
theorem dX5_write_266 : decode cX5_write 266 = .ok (.irem, 1) := by decide +kernel
theorem dX5_write_267 : decode cX5_write 267 = .ok (.iadd, 1) := by decide +kernel
theorem dX5_write_268 : decode cX5_write 268 = .ok (.iload 9, 2) := by decide +kernel
theorem dX5_write_270 : decode cX5_write 270 = .ok (.iconst (-1), 1) := by decide +kernel
theorem dX5_write_271 : decode cX5_write 271 = .ok (.if_icmp .ne 7, 3) := by decide +kernel
theorem dX5_write_274 : decode cX5_write 274 = .ok (.iconst 0, 1) := by decide +kernel
theorem dX5_write_275 : decode cX5_write 275 = .ok (.goto 5, 3) := by decide +kernel
theorem dX5_write_278 : decode cX5_write 278 = .ok (.ldc 123, 2) := by decide +kernel
theorem dX5_write_280 : decode cX5_write 280 = .ok (.iadd, 1) := by decide +kernel
theorem dX5_write_281 : decode cX5_write 281 = .ok (.ireturn, 1) := by decide +kernel
set_option maxRecDepth 20000 in
theorem ggX5_delete_X5_isTransaction : GoodIn wsX5_delete wsX5_isTransaction := goodIn_r _ [5, 6, 7, 8, 4, 9, 61, 62, 63, 64, 65, 66, 67, 68, 69, 70, 71, 72, 73, 74, 75, 76, 77] (by decide +kernel) (by decide +kernel)
set_option maxRecDepth 20000 in
theorem gX5_delete_X5_isTransaction : GoodIn wsX5_delete (wsV RX5 87 RX5 yX5_isTransaction wsX5_isTransaction) := goodIn_app (goodIn_of _ (by decide +kernel)) ggX5_delete_X5_isTransaction
set_option maxRecDepth 20000 in
theorem ggX5_delete_X5_isKey : GoodIn wsX5_delete wsX5_isKey := goodIn_r _ [12, 7, 8, 4, 9] (by decide +kernel) (by decide +kernel)
set_option maxRecDepth 20000 in
theorem gX5_delete_X5_isKey : GoodIn wsX5_delete (va_wsS RX5 96 yX5_isKey wsX5_isKey) := goodIn_app (goodIn_of _ (by decide +kernel)) ggX5_delete_X5_isKey
set_option maxRecDepth 20000 in
theorem ggX5_delete_X5_isActive : GoodIn wsX5_delete wsX5_isActive := goodIn_r _ [16, 17, 61, 62, 63, 64, 65, 66, 67, 68, 69, 70, 71, 72, 73, 74, 75, 76, 77] (by decide +kernel) (by decide +kernel)
set_option maxRecDepth 20000 in
theorem gX5_delete_X5_isActive : GoodIn wsX5_delete (wsV RX5 68 RX5 yX5_isActive wsX5_isActive) := goodIn_app (goodIn_of _ (by decide +kernel)) ggX5_delete_X5_isActive
set_option maxRecDepth 20000 in
theorem ggX5_delete_X5_seen : GoodIn wsX5_delete wsX5_seen := goodIn_r _ [21, 22, 23, 24, 25, 26, 27, 4, 28, 29, 30, 31, 32, 33, 34, 35, 36, 37, 38, 39, 40, 61, 62, 63, 64, 65, 66, 67, 68, 69, 70, 71, 72, 73, 74, 75, 76, 77] (by decide +kernel) (by decide +kernel)
set_option maxRecDepth 20000 in
theorem gX5_delete_X5_seen : GoodIn wsX5_delete (wsV RX5 99 RX5 yX5_seen wsX5_seen) := goodIn_app (goodIn_of _ (by decide +kernel)) ggX5_delete_X5_seen
set_option maxRecDepth 20000 in
theorem ggX5_delete_X5_isRefused : GoodIn wsX5_delete wsX5_isRefused := goodIn_r _ [44, 45, 46, 30, 31, 47, 48, 49, 4, 50, 17, 13, 14, 15, 16, 36, 37, 38, 39, 40, 61, 62, 63, 64, 65, 66, 67, 68, 69, 70, 71, 72, 73, 74, 75, 76, 77] (by decide +kernel) (by decide +kernel)
set_option maxRecDepth 20000 in
theorem gX5_delete_X5_isRefused : GoodIn wsX5_delete (wsV RX5 112 RX5 yX5_isRefused wsX5_isRefused) := goodIn_app (goodIn_of _ (by decide +kernel)) ggX5_delete_X5_isRefused
set_option maxRecDepth 20000 in
theorem ggX5_delete_X5_isFine : GoodIn wsX5_delete wsX5_isFine := goodIn_r _ [54, 55, 61, 62, 63, 64, 65, 66, 67, 68, 69, 70, 71, 72, 73, 74, 75, 76, 77] (by decide +kernel) (by decide +kernel)
set_option maxRecDepth 20000 in
theorem gX5_delete_X5_isFine : GoodIn wsX5_delete (wsV RX5 84 RX5 yX5_isFine wsX5_isFine) := goodIn_app (goodIn_of _ (by decide +kernel)) ggX5_delete_X5_isFine
set_option maxRecDepth 20000 in
theorem ggX5_delete_X5_dies : GoodIn wsX5_delete wsX5_dies := goodIn_r _ [59, 31, 60, 61, 62, 63, 64, 65, 66, 67, 68, 69, 70, 71, 72, 73, 74, 75, 76, 77] (by decide +kernel) (by decide +kernel)
set_option maxRecDepth 20000 in
theorem gX5_delete_X5_dies : GoodIn wsX5_delete (wsV RX5 119 RX5 yX5_dies wsX5_dies) := goodIn_app (goodIn_of _ (by decide +kernel)) ggX5_delete_X5_dies
theorem dX5_delete_0 : decode cX5_delete 0 = .ok (.aload_n 0, 1) := by decide +kernel
theorem dX5_delete_1 : decode cX5_delete 1 = .ok (.iload_n 1, 1) := by decide +kernel
theorem dX5_delete_2 : decode cX5_delete 2 = .ok (.invokevirtual 87, 3) := by decide +kernel
theorem dX5_delete_5 : decode cX5_delete 5 = .ok (.istore_n 3, 1) := by decide +kernel
theorem dX5_delete_6 : decode cX5_delete 6 = .ok (.iload_n 2, 1) := by decide +kernel
theorem dX5_delete_7 : decode cX5_delete 7 = .ok (.invokestatic 96, 3) := by decide +kernel
theorem dX5_delete_10 : decode cX5_delete 10 = .ok (.istore 4, 2) := by decide +kernel
theorem dX5_delete_12 : decode cX5_delete 12 = .ok (.iload_n 3, 1) := by decide +kernel
theorem dX5_delete_13 : decode cX5_delete 13 = .ok (.ifCond .eq 25, 3) := by decide +kernel
theorem dX5_delete_16 : decode cX5_delete 16 = .ok (.iload 4, 2) := by decide +kernel
theorem dX5_delete_18 : decode cX5_delete 18 = .ok (.ifCond .eq 20, 3) := by decide +kernel
theorem dX5_delete_21 : decode cX5_delete 21 = .ok (.aload_n 0, 1) := by decide +kernel
theorem dX5_delete_22 : decode cX5_delete 22 = .ok (.iload_n 1, 1) := by decide +kernel
theorem dX5_delete_23 : decode cX5_delete 23 = .ok (.invokevirtual 68, 3) := by decide +kernel
theorem dX5_delete_26 : decode cX5_delete 26 = .ok (.ifCond .eq 12, 3) := by decide +kernel
theorem dX5_delete_29 : decode cX5_delete 29 = .ok (.aload_n 0, 1) := by decide +kernel
theorem dX5_delete_30 : decode cX5_delete 30 = .ok (.iload_n 1, 1) := by decide +kernel
theorem dX5_delete_31 : decode cX5_delete 31 = .ok (.iload_n 2, 1) := by decide +kernel
theorem dX5_delete_32 : decode cX5_delete 32 = .ok (.invokevirtual 99, 3) := by decide +kernel
theorem dX5_delete_35 : decode cX5_delete 35 = .ok (.goto 4, 3) := by decide +kernel
theorem dX5_delete_38 : decode cX5_delete 38 = .ok (.iconst (-1), 1) := by decide +kernel
theorem dX5_delete_39 : decode cX5_delete 39 = .ok (.istore 5, 2) := by decide +kernel
theorem dX5_delete_41 : decode cX5_delete 41 = .ok (.iload 5, 2) := by decide +kernel
theorem dX5_delete_43 : decode cX5_delete 43 = .ok (.iconst (-1), 1) := by decide +kernel
theorem dX5_delete_44 : decode cX5_delete 44 = .ok (.if_icmp .eq 16, 3) := by decide +kernel
theorem dX5_delete_47 : decode cX5_delete 47 = .ok (.aload_n 0, 1) := by decide +kernel
theorem dX5_delete_48 : decode cX5_delete 48 = .ok (.iload_n 1, 1) := by decide +kernel
theorem dX5_delete_49 : decode cX5_delete 49 = .ok (.iload_n 2, 1) := by decide +kernel
theorem dX5_delete_50 : decode cX5_delete 50 = .ok (.invokevirtual 112, 3) := by decide +kernel
theorem dX5_delete_53 : decode cX5_delete 53 = .ok (.ifCond .eq 7, 3) := by decide +kernel
theorem dX5_delete_56 : decode cX5_delete 56 = .ok (.iconst 1, 1) := by decide +kernel
theorem dX5_delete_57 : decode cX5_delete 57 = .ok (.goto 4, 3) := by decide +kernel
theorem dX5_delete_60 : decode cX5_delete 60 = .ok (.iconst 0, 1) := by decide +kernel
theorem dX5_delete_61 : decode cX5_delete 61 = .ok (.istore 6, 2) := by decide +kernel
theorem dX5_delete_63 : decode cX5_delete 63 = .ok (.aload_n 0, 1) := by decide +kernel
theorem dX5_delete_64 : decode cX5_delete 64 = .ok (.iload_n 3, 1) := by decide +kernel
theorem dX5_delete_65 : decode cX5_delete 65 = .ok (.ifCond .ne 7, 3) := by decide +kernel
theorem dX5_delete_68 : decode cX5_delete 68 = .ok (.iconst 1, 1) := by decide +kernel
theorem dX5_delete_69 : decode cX5_delete 69 = .ok (.goto 30, 3) := by decide +kernel
theorem dX5_delete_72 : decode cX5_delete 72 = .ok (.iload 4, 2) := by decide +kernel
theorem dX5_delete_74 : decode cX5_delete 74 = .ok (.ifCond .ne 7, 3) := by decide +kernel
theorem dX5_delete_77 : decode cX5_delete 77 = .ok (.iconst 2, 1) := by decide +kernel
theorem dX5_delete_78 : decode cX5_delete 78 = .ok (.goto 21, 3) := by decide +kernel
theorem dX5_delete_81 : decode cX5_delete 81 = .ok (.aload_n 0, 1) := by decide +kernel
theorem dX5_delete_82 : decode cX5_delete 82 = .ok (.iload_n 1, 1) := by decide +kernel
theorem dX5_delete_83 : decode cX5_delete 83 = .ok (.invokevirtual 68, 3) := by decide +kernel
theorem dX5_delete_86 : decode cX5_delete 86 = .ok (.ifCond .eq 8, 3) := by decide +kernel
theorem dX5_delete_89 : decode cX5_delete 89 = .ok (.iload 6, 2) := by decide +kernel
theorem dX5_delete_91 : decode cX5_delete 91 = .ok (.ifCond .eq 7, 3) := by decide +kernel
theorem dX5_delete_94 : decode cX5_delete 94 = .ok (.iconst 3, 1) := by decide +kernel
theorem dX5_delete_95 : decode cX5_delete 95 = .ok (.goto 4, 3) := by decide +kernel
theorem dX5_delete_98 : decode cX5_delete 98 = .ok (.iconst 0, 1) := by decide +kernel
theorem dX5_delete_99 : decode cX5_delete 99 = .ok (.invokevirtual 84, 3) := by decide +kernel
theorem dX5_delete_102 : decode cX5_delete 102 = .ok (.ifCond .eq 9, 3) := by decide +kernel
theorem dX5_delete_105 : decode cX5_delete 105 = .ok (.iload 5, 2) := by decide +kernel
theorem dX5_delete_107 : decode cX5_delete 107 = .ok (.iconst (-1), 1) := by decide +kernel
theorem dX5_delete_108 : decode cX5_delete 108 = .ok (.if_icmp .ne 5, 3) := by decide +kernel
theorem dX5_delete_111 : decode cX5_delete 111 = .ok (.iconst 0, 1) := by decide +kernel
theorem dX5_delete_112 : decode cX5_delete 112 = .ok (.ireturn, 1) := by decide +kernel
theorem dX5_delete_113 : decode cX5_delete 113 = .ok (.aload_n 0, 1) := by decide +kernel
theorem dX5_delete_114 : decode cX5_delete 114 = .ok (.iload_n 1, 1) := by decide +kernel
theorem dX5_delete_115 : decode cX5_delete 115 = .ok (.iload 5, 2) := by decide +kernel
theorem dX5_delete_117 : decode cX5_delete 117 = .ok (.invokevirtual 119, 3) := by decide +kernel
theorem dX5_delete_120 : decode cX5_delete 120 = .ok (.iconst 1, 1) := by decide +kernel
theorem dX5_delete_121 : decode cX5_delete 121 = .ok (.ireturn, 1) := by decide +kernel
set_option maxRecDepth 20000 in
theorem ggX5_canGo_X5_isPast : GoodIn wsX5_canGo wsX5_isPast := goodIn_r _ [9, 2, 10, 11, 12, 13, 8, 14, 15, 16, 17, 18, 19, 20, 21, 22, 23, 24, 25, 26, 27, 28, 29, 30, 31, 32, 33, 34, 35, 36] (by decide +kernel) (by decide +kernel)
set_option maxRecDepth 20000 in
theorem gX5_canGo_X5_isPast : GoodIn wsX5_canGo (wsV RX5 124 RX5 yX5_isPast wsX5_isPast) := goodIn_app (goodIn_of _ (by decide +kernel)) ggX5_canGo_X5_isPast
theorem dX5_canGo_0 : decode cX5_canGo 0 = .ok (.aload_n 0, 1) := by decide +kernel
theorem dX5_canGo_1 : decode cX5_canGo 1 = .ok (.getfield 24, 3) := by decide +kernel
theorem dX5_canGo_4 : decode cX5_canGo 4 = .ok (.iload_n 1, 1) := by decide +kernel
theorem dX5_canGo_5 : decode cX5_canGo 5 = .ok (.baload, 1) := by decide +kernel
theorem dX5_canGo_6 : decode cX5_canGo 6 = .ok (.ifCond .eq 45, 3) := by decide +kernel
theorem dX5_canGo_9 : decode cX5_canGo 9 = .ok (.aload_n 0, 1) := by decide +kernel
theorem dX5_canGo_10 : decode cX5_canGo 10 = .ok (.getfield 17, 3) := by decide +kernel
theorem dX5_canGo_13 : decode cX5_canGo 13 = .ok (.aload_n 0, 1) := by decide +kernel
theorem dX5_canGo_14 : decode cX5_canGo 14 = .ok (.getfield 34, 3) := by decide +kernel
theorem dX5_canGo_17 : decode cX5_canGo 17 = .ok (.iload_n 1, 1) := by decide +kernel
theorem dX5_canGo_18 : decode cX5_canGo 18 = .ok (.iaload, 1) := by decide +kernel
theorem dX5_canGo_19 : decode cX5_canGo 19 = .ok (.iaload, 1) := by decide +kernel
theorem dX5_canGo_20 : decode cX5_canGo 20 = .ok (.iconst 2, 1) := by decide +kernel
theorem dX5_canGo_21 : decode cX5_canGo 21 = .ok (.if_icmp .eq 26, 3) := by decide +kernel
theorem dX5_canGo_24 : decode cX5_canGo 24 = .ok (.aload_n 0, 1) := by decide +kernel
theorem dX5_canGo_25 : decode cX5_canGo 25 = .ok (.getfield 40, 3) := by decide +kernel
theorem dX5_canGo_28 : decode cX5_canGo 28 = .ok (.iload_n 1, 1) := by decide +kernel
theorem dX5_canGo_29 : decode cX5_canGo 29 = .ok (.iaload, 1) := by decide +kernel
theorem dX5_canGo_30 : decode cX5_canGo 30 = .ok (.iconst (-1), 1) := by decide +kernel
theorem dX5_canGo_31 : decode cX5_canGo 31 = .ok (.if_icmp .eq 20, 3) := by decide +kernel
theorem dX5_canGo_34 : decode cX5_canGo 34 = .ok (.aload_n 0, 1) := by decide +kernel
theorem dX5_canGo_35 : decode cX5_canGo 35 = .ok (.aload_n 0, 1) := by decide +kernel
theorem dX5_canGo_36 : decode cX5_canGo 36 = .ok (.getfield 40, 3) := by decide +kernel
theorem dX5_canGo_39 : decode cX5_canGo 39 = .ok (.iload_n 1, 1) := by decide +kernel
theorem dX5_canGo_40 : decode cX5_canGo 40 = .ok (.iaload, 1) := by decide +kernel
theorem dX5_canGo_41 : decode cX5_canGo 41 = .ok (.invokevirtual 124, 3) := by decide +kernel
theorem dX5_canGo_44 : decode cX5_canGo 44 = .ok (.ifCond .eq 7, 3) := by decide +kernel
theorem dX5_canGo_47 : decode cX5_canGo 47 = .ok (.iconst 1, 1) := by decide +kernel
theorem dX5_canGo_48 : decode cX5_canGo 48 = .ok (.goto 4, 3) := by decide +kernel
theorem dX5_canGo_51 : decode cX5_canGo 51 = .ok (.iconst 0, 1) := by decide +kernel
theorem dX5_canGo_52 : decode cX5_canGo 52 = .ok (.ireturn, 1) := by decide +kernel
theorem dX5_leaves_0 : decode cX5_leaves 0 = .ok (.iconst 0, 1) := by decide +kernel
theorem dX5_leaves_1 : decode cX5_leaves 1 = .ok (.istore_n 2, 1) := by decide +kernel
theorem dX5_leaves_2 : decode cX5_leaves 2 = .ok (.iload_n 2, 1) := by decide +kernel
theorem dX5_leaves_3 : decode cX5_leaves 3 = .ok (.bipush 32, 2) := by decide +kernel
theorem dX5_leaves_5 : decode cX5_leaves 5 = .ok (.if_icmp .ge 49, 3) := by decide +kernel
theorem dX5_leaves_8 : decode cX5_leaves 8 = .ok (.aload_n 0, 1) := by decide +kernel
theorem dX5_leaves_9 : decode cX5_leaves 9 = .ok (.getfield 43, 3) := by decide +kernel
theorem dX5_leaves_12 : decode cX5_leaves 12 = .ok (.iload_n 2, 1) := by decide +kernel
theorem dX5_leaves_13 : decode cX5_leaves 13 = .ok (.aload_n 0, 1) := by decide +kernel
theorem dX5_leaves_14 : decode cX5_leaves 14 = .ok (.getfield 24, 3) := by decide +kernel
theorem dX5_leaves_17 : decode cX5_leaves 17 = .ok (.iload_n 2, 1) := by decide +kernel
theorem dX5_leaves_18 : decode cX5_leaves 18 = .ok (.baload, 1) := by decide +kernel
theorem dX5_leaves_19 : decode cX5_leaves 19 = .ok (.ifCond .eq 22, 3) := by decide +kernel
theorem dX5_leaves_22 : decode cX5_leaves 22 = .ok (.aload_n 0, 1) := by decide +kernel
theorem dX5_leaves_23 : decode cX5_leaves 23 = .ok (.getfield 43, 3) := by decide +kernel
theorem dX5_leaves_26 : decode cX5_leaves 26 = .ok (.iload_n 2, 1) := by decide +kernel
theorem dX5_leaves_27 : decode cX5_leaves 27 = .ok (.iaload, 1) := by decide +kernel
theorem dX5_leaves_28 : decode cX5_leaves 28 = .ok (.iload_n 1, 1) := by decide +kernel
theorem dX5_leaves_29 : decode cX5_leaves 29 = .ok (.if_icmp .ne 12, 3) := by decide +kernel
theorem dX5_leaves_32 : decode cX5_leaves 32 = .ok (.aload_n 0, 1) := by decide +kernel
theorem dX5_leaves_33 : decode cX5_leaves 33 = .ok (.getfield 43, 3) := by decide +kernel
theorem dX5_leaves_36 : decode cX5_leaves 36 = .ok (.iload_n 1, 1) := by decide +kernel
theorem dX5_leaves_37 : decode cX5_leaves 37 = .ok (.iaload, 1) := by decide +kernel
theorem dX5_leaves_38 : decode cX5_leaves 38 = .ok (.goto 9, 3) := by decide +kernel
theorem dX5_leaves_41 : decode cX5_leaves 41 = .ok (.aload_n 0, 1) := by decide +kernel
theorem dX5_leaves_42 : decode cX5_leaves 42 = .ok (.getfield 43, 3) := by decide +kernel
theorem dX5_leaves_45 : decode cX5_leaves 45 = .ok (.iload_n 2, 1) := by decide +kernel
theorem dX5_leaves_46 : decode cX5_leaves 46 = .ok (.iaload, 1) := by decide +kernel
theorem dX5_leaves_47 : decode cX5_leaves 47 = .ok (.iastore, 1) := by decide +kernel
theorem dX5_leaves_48 : decode cX5_leaves 48 = .ok (.iinc 2 1, 3) := by decide +kernel
theorem dX5_leaves_51 : decode cX5_leaves 51 = .ok (.goto (-49), 3) := by decide +kernel
theorem dX5_leaves_54 : decode cX5_leaves 54 = .ok (.aload_n 0, 1) := by decide +kernel
theorem dX5_leaves_55 : decode cX5_leaves 55 = .ok (.getfield 28, 3) := by decide +kernel
theorem dX5_leaves_58 : decode cX5_leaves 58 = .ok (.iload_n 1, 1) := by decide +kernel
theorem dX5_leaves_59 : decode cX5_leaves 59 = .ok (.iaload, 1) := by decide +kernel
theorem dX5_leaves_60 : decode cX5_leaves 60 = .ok (.istore_n 2, 1) := by decide +kernel
theorem dX5_leaves_61 : decode cX5_leaves 61 = .ok (.aload_n 0, 1) := by decide +kernel
theorem dX5_leaves_62 : decode cX5_leaves 62 = .ok (.getfield 52, 3) := by decide +kernel
theorem dX5_leaves_65 : decode cX5_leaves 65 = .ok (.iload_n 2, 1) := by decide +kernel
theorem dX5_leaves_66 : decode cX5_leaves 66 = .ok (.iaload, 1) := by decide +kernel
theorem dX5_leaves_67 : decode cX5_leaves 67 = .ok (.iconst 1, 1) := by decide +kernel
theorem dX5_leaves_68 : decode cX5_leaves 68 = .ok (.isub, 1) := by decide +kernel
theorem dX5_leaves_69 : decode cX5_leaves 69 = .ok (.istore_n 3, 1) := by decide +kernel
theorem dX5_leaves_70 : decode cX5_leaves 70 = .ok (.iload_n 3, 1) := by decide +kernel
theorem dX5_leaves_71 : decode cX5_leaves 71 = .ok (.ifCond .lt 114, 3) := by decide +kernel
theorem dX5_leaves_74 : decode cX5_leaves 74 = .ok (.aload_n 0, 1) := by decide +kernel
theorem dX5_leaves_75 : decode cX5_leaves 75 = .ok (.getfield 49, 3) := by decide +kernel
theorem dX5_leaves_78 : decode cX5_leaves 78 = .ok (.bipush 64, 2) := by decide +kernel
theorem dX5_leaves_80 : decode cX5_leaves 80 = .ok (.iload_n 2, 1) := by decide +kernel
theorem dX5_leaves_81 : decode cX5_leaves 81 = .ok (.imul, 1) := by decide +kernel
theorem dX5_leaves_82 : decode cX5_leaves 82 = .ok (.iload_n 3, 1) := by decide +kernel
theorem dX5_leaves_83 : decode cX5_leaves 83 = .ok (.iadd, 1) := by decide +kernel
theorem dX5_leaves_84 : decode cX5_leaves 84 = .ok (.iaload, 1) := by decide +kernel
theorem dX5_leaves_85 : decode cX5_leaves 85 = .ok (.iload_n 1, 1) := by decide +kernel
theorem dX5_leaves_86 : decode cX5_leaves 86 = .ok (.if_icmp .ne 20, 3) := by decide +kernel
theorem dX5_leaves_89 : decode cX5_leaves 89 = .ok (.aload_n 0, 1) := by decide +kernel
theorem dX5_leaves_90 : decode cX5_leaves 90 = .ok (.getfield 49, 3) := by decide +kernel
theorem dX5_leaves_93 : decode cX5_leaves 93 = .ok (.bipush 64, 2) := by decide +kernel
theorem dX5_leaves_95 : decode cX5_leaves 95 = .ok (.iload_n 2, 1) := by decide +kernel
theorem dX5_leaves_96 : decode cX5_leaves 96 = .ok (.imul, 1) := by decide +kernel
theorem dX5_leaves_97 : decode cX5_leaves 97 = .ok (.iload_n 3, 1) := by decide +kernel
theorem dX5_leaves_98 : decode cX5_leaves 98 = .ok (.iadd, 1) := by decide +kernel
theorem dX5_leaves_99 : decode cX5_leaves 99 = .ok (.aload_n 0, 1) := by decide +kernel
theorem dX5_leaves_100 : decode cX5_leaves 100 = .ok (.getfield 43, 3) := by decide +kernel
theorem dX5_leaves_103 : decode cX5_leaves 103 = .ok (.iload_n 1, 1) := by decide +kernel
theorem dX5_leaves_104 : decode cX5_leaves 104 = .ok (.iaload, 1) := by decide +kernel
theorem dX5_leaves_105 : decode cX5_leaves 105 = .ok (.iastore, 1) := by decide +kernel
theorem dX5_leaves_106 : decode cX5_leaves 106 = .ok (.aload_n 0, 1) := by decide +kernel
theorem dX5_leaves_107 : decode cX5_leaves 107 = .ok (.getfield 49, 3) := by decide +kernel
theorem dX5_leaves_110 : decode cX5_leaves 110 = .ok (.bipush 64, 2) := by decide +kernel
theorem dX5_leaves_112 : decode cX5_leaves 112 = .ok (.iload_n 2, 1) := by decide +kernel
theorem dX5_leaves_113 : decode cX5_leaves 113 = .ok (.imul, 1) := by decide +kernel
theorem dX5_leaves_114 : decode cX5_leaves 114 = .ok (.iload_n 3, 1) := by decide +kernel
theorem dX5_leaves_115 : decode cX5_leaves 115 = .ok (.iadd, 1) := by decide +kernel
theorem dX5_leaves_116 : decode cX5_leaves 116 = .ok (.iaload, 1) := by decide +kernel
theorem dX5_leaves_117 : decode cX5_leaves 117 = .ok (.iconst (-1), 1) := by decide +kernel
theorem dX5_leaves_118 : decode cX5_leaves 118 = .ok (.if_icmp .ne 61, 3) := by decide +kernel
theorem dX5_leaves_121 : decode cX5_leaves 121 = .ok (.iload_n 3, 1) := by decide +kernel
theorem dX5_leaves_122 : decode cX5_leaves 122 = .ok (.istore 4, 2) := by decide +kernel
theorem dX5_leaves_124 : decode cX5_leaves 124 = .ok (.iload 4, 2) := by decide +kernel
theorem dX5_leaves_126 : decode cX5_leaves 126 = .ok (.iconst 1, 1) := by decide +kernel
theorem dX5_leaves_127 : decode cX5_leaves 127 = .ok (.iadd, 1) := by decide +kernel
theorem dX5_leaves_128 : decode cX5_leaves 128 = .ok (.aload_n 0, 1) := by decide +kernel
theorem dX5_leaves_129 : decode cX5_leaves 129 = .ok (.getfield 52, 3) := by decide +kernel
theorem dX5_leaves_132 : decode cX5_leaves 132 = .ok (.iload_n 2, 1) := by decide +kernel
theorem dX5_leaves_133 : decode cX5_leaves 133 = .ok (.iaload, 1) := by decide +kernel
theorem dX5_leaves_134 : decode cX5_leaves 134 = .ok (.if_icmp .ge 35, 3) := by decide +kernel
theorem dX5_leaves_137 : decode cX5_leaves 137 = .ok (.aload_n 0, 1) := by decide +kernel
theorem dX5_leaves_138 : decode cX5_leaves 138 = .ok (.getfield 49, 3) := by decide +kernel
theorem dX5_leaves_141 : decode cX5_leaves 141 = .ok (.bipush 64, 2) := by decide +kernel
theorem dX5_leaves_143 : decode cX5_leaves 143 = .ok (.iload_n 2, 1) := by decide +kernel
theorem dX5_leaves_144 : decode cX5_leaves 144 = .ok (.imul, 1) := by decide +kernel
theorem dX5_leaves_145 : decode cX5_leaves 145 = .ok (.iload 4, 2) := by decide +kernel
theorem dX5_leaves_147 : decode cX5_leaves 147 = .ok (.iadd, 1) := by decide +kernel
theorem dX5_leaves_148 : decode cX5_leaves 148 = .ok (.aload_n 0, 1) := by decide +kernel
theorem dX5_leaves_149 : decode cX5_leaves 149 = .ok (.getfield 49, 3) := by decide +kernel
theorem dX5_leaves_152 : decode cX5_leaves 152 = .ok (.bipush 64, 2) := by decide +kernel
theorem dX5_leaves_154 : decode cX5_leaves 154 = .ok (.iload_n 2, 1) := by decide +kernel
theorem dX5_leaves_155 : decode cX5_leaves 155 = .ok (.imul, 1) := by decide +kernel
theorem dX5_leaves_156 : decode cX5_leaves 156 = .ok (.iload 4, 2) := by decide +kernel
theorem dX5_leaves_158 : decode cX5_leaves 158 = .ok (.iadd, 1) := by decide +kernel
theorem dX5_leaves_159 : decode cX5_leaves 159 = .ok (.iconst 1, 1) := by decide +kernel
theorem dX5_leaves_160 : decode cX5_leaves 160 = .ok (.iadd, 1) := by decide +kernel
theorem dX5_leaves_161 : decode cX5_leaves 161 = .ok (.iaload, 1) := by decide +kernel
theorem dX5_leaves_162 : decode cX5_leaves 162 = .ok (.iastore, 1) := by decide +kernel
theorem dX5_leaves_163 : decode cX5_leaves 163 = .ok (.iinc 4 1, 3) := by decide +kernel
theorem dX5_leaves_166 : decode cX5_leaves 166 = .ok (.goto (-42), 3) := by decide +kernel
theorem dX5_leaves_169 : decode cX5_leaves 169 = .ok (.aload_n 0, 1) := by decide +kernel
theorem dX5_leaves_170 : decode cX5_leaves 170 = .ok (.getfield 52, 3) := by decide +kernel
theorem dX5_leaves_173 : decode cX5_leaves 173 = .ok (.iload_n 2, 1) := by decide +kernel
theorem dX5_leaves_174 : decode cX5_leaves 174 = .ok (.dup2, 1) := by decide +kernel
theorem dX5_leaves_175 : decode cX5_leaves 175 = .ok (.iaload, 1) := by decide +kernel
theorem dX5_leaves_176 : decode cX5_leaves 176 = .ok (.iconst 1, 1) := by decide +kernel
theorem dX5_leaves_177 : decode cX5_leaves 177 = .ok (.isub, 1) := by decide +kernel
theorem dX5_leaves_178 : decode cX5_leaves 178 = .ok (.iastore, 1) := by decide +kernel
theorem dX5_leaves_179 : decode cX5_leaves 179 = .ok (.iinc 3 (-1), 3) := by decide +kernel
theorem dX5_leaves_182 : decode cX5_leaves 182 = .ok (.goto (-112), 3) := by decide +kernel
theorem dX5_leaves_185 : decode cX5_leaves 185 = .ok (.aload_n 0, 1) := by decide +kernel
theorem dX5_leaves_186 : decode cX5_leaves 186 = .ok (.getfield 24, 3) := by decide +kernel
theorem dX5_leaves_189 : decode cX5_leaves 189 = .ok (.iload_n 1, 1) := by decide +kernel
theorem dX5_leaves_190 : decode cX5_leaves 190 = .ok (.iconst 0, 1) := by decide +kernel
theorem dX5_leaves_191 : decode cX5_leaves 191 = .ok (.bastore, 1) := by decide +kernel
theorem dX5_leaves_192 : decode cX5_leaves 192 = .ok (.return_, 1) := by decide +kernel
set_option maxRecDepth 20000 in
theorem ggX5_isWholeNow_X5_isPast : GoodIn wsX5_isWholeNow wsX5_isPast := goodIn_r _ [9, 10, 11, 12, 13, 14, 8, 15, 16, 17, 18, 19, 20, 21, 22, 23, 24, 25, 26, 27, 28, 29, 30, 31, 32, 33, 34, 35, 36, 37] (by decide +kernel) (by decide +kernel)
set_option maxRecDepth 20000 in
theorem gX5_isWholeNow_X5_isPast : GoodIn wsX5_isWholeNow (wsV RX5 124 RX5 yX5_isPast wsX5_isPast) := goodIn_app (goodIn_of _ (by decide +kernel)) ggX5_isWholeNow_X5_isPast
theorem dX5_isWholeNow_0 : decode cX5_isWholeNow 0 = .ok (.iconst 1, 1) := by decide +kernel
theorem dX5_isWholeNow_1 : decode cX5_isWholeNow 1 = .ok (.istore_n 2, 1) := by decide +kernel
theorem dX5_isWholeNow_2 : decode cX5_isWholeNow 2 = .ok (.bipush 8, 2) := by decide +kernel
theorem dX5_isWholeNow_4 : decode cX5_isWholeNow 4 = .ok (.iload_n 1, 1) := by decide +kernel
theorem dX5_isWholeNow_5 : decode cX5_isWholeNow 5 = .ok (.imul, 1) := by decide +kernel
theorem dX5_isWholeNow_6 : decode cX5_isWholeNow 6 = .ok (.istore_n 3, 1) := by decide +kernel
theorem dX5_isWholeNow_7 : decode cX5_isWholeNow 7 = .ok (.iload_n 3, 1) := by decide +kernel
theorem dX5_isWholeNow_8 : decode cX5_isWholeNow 8 = .ok (.bipush 8, 2) := by decide +kernel
theorem dX5_isWholeNow_10 : decode cX5_isWholeNow 10 = .ok (.iload_n 1, 1) := by decide +kernel
theorem dX5_isWholeNow_11 : decode cX5_isWholeNow 11 = .ok (.imul, 1) := by decide +kernel
theorem dX5_isWholeNow_12 : decode cX5_isWholeNow 12 = .ok (.bipush 8, 2) := by decide +kernel
theorem dX5_isWholeNow_14 : decode cX5_isWholeNow 14 = .ok (.iadd, 1) := by decide +kernel
theorem dX5_isWholeNow_15 : decode cX5_isWholeNow 15 = .ok (.if_icmp .ge 60, 3) := by decide +kernel
theorem dX5_isWholeNow_18 : decode cX5_isWholeNow 18 = .ok (.iload_n 2, 1) := by decide +kernel
theorem dX5_isWholeNow_19 : decode cX5_isWholeNow 19 = .ok (.ifCond .eq 48, 3) := by decide +kernel
theorem dX5_isWholeNow_22 : decode cX5_isWholeNow 22 = .ok (.aload_n 0, 1) := by decide +kernel
theorem dX5_isWholeNow_23 : decode cX5_isWholeNow 23 = .ok (.getfield 24, 3) := by decide +kernel
theorem dX5_isWholeNow_26 : decode cX5_isWholeNow 26 = .ok (.iload_n 3, 1) := by decide +kernel
theorem dX5_isWholeNow_27 : decode cX5_isWholeNow 27 = .ok (.baload, 1) := by decide +kernel
theorem dX5_isWholeNow_28 : decode cX5_isWholeNow 28 = .ok (.ifCond .eq 35, 3) := by decide +kernel
theorem dX5_isWholeNow_31 : decode cX5_isWholeNow 31 = .ok (.aload_n 0, 1) := by decide +kernel
theorem dX5_isWholeNow_32 : decode cX5_isWholeNow 32 = .ok (.getfield 40, 3) := by decide +kernel
theorem dX5_isWholeNow_35 : decode cX5_isWholeNow 35 = .ok (.iload_n 3, 1) := by decide +kernel
theorem dX5_isWholeNow_36 : decode cX5_isWholeNow 36 = .ok (.iaload, 1) := by decide +kernel
theorem dX5_isWholeNow_37 : decode cX5_isWholeNow 37 = .ok (.iconst (-1), 1) := by decide +kernel
theorem dX5_isWholeNow_38 : decode cX5_isWholeNow 38 = .ok (.if_icmp .ne 29, 3) := by decide +kernel
theorem dX5_isWholeNow_41 : decode cX5_isWholeNow 41 = .ok (.aload_n 0, 1) := by decide +kernel
theorem dX5_isWholeNow_42 : decode cX5_isWholeNow 42 = .ok (.getfield 37, 3) := by decide +kernel
theorem dX5_isWholeNow_45 : decode cX5_isWholeNow 45 = .ok (.iload_n 3, 1) := by decide +kernel
theorem dX5_isWholeNow_46 : decode cX5_isWholeNow 46 = .ok (.baload, 1) := by decide +kernel
theorem dX5_isWholeNow_47 : decode cX5_isWholeNow 47 = .ok (.ifCond .ne 16, 3) := by decide +kernel
theorem dX5_isWholeNow_50 : decode cX5_isWholeNow 50 = .ok (.aload_n 0, 1) := by decide +kernel
theorem dX5_isWholeNow_51 : decode cX5_isWholeNow 51 = .ok (.aload_n 0, 1) := by decide +kernel
theorem dX5_isWholeNow_52 : decode cX5_isWholeNow 52 = .ok (.getfield 34, 3) := by decide +kernel
theorem dX5_isWholeNow_55 : decode cX5_isWholeNow 55 = .ok (.iload_n 3, 1) := by decide +kernel
theorem dX5_isWholeNow_56 : decode cX5_isWholeNow 56 = .ok (.iaload, 1) := by decide +kernel
theorem dX5_isWholeNow_57 : decode cX5_isWholeNow 57 = .ok (.invokevirtual 124, 3) := by decide +kernel
theorem dX5_isWholeNow_60 : decode cX5_isWholeNow 60 = .ok (.ifCond .eq 7, 3) := by decide +kernel
theorem dX5_isWholeNow_63 : decode cX5_isWholeNow 63 = .ok (.iconst 1, 1) := by decide +kernel
theorem dX5_isWholeNow_64 : decode cX5_isWholeNow 64 = .ok (.goto 4, 3) := by decide +kernel
theorem dX5_isWholeNow_67 : decode cX5_isWholeNow 67 = .ok (.iconst 0, 1) := by decide +kernel
theorem dX5_isWholeNow_68 : decode cX5_isWholeNow 68 = .ok (.istore_n 2, 1) := by decide +kernel
theorem dX5_isWholeNow_69 : decode cX5_isWholeNow 69 = .ok (.iinc 3 1, 3) := by decide +kernel
theorem dX5_isWholeNow_72 : decode cX5_isWholeNow 72 = .ok (.goto (-65), 3) := by decide +kernel
theorem dX5_isWholeNow_75 : decode cX5_isWholeNow 75 = .ok (.iload_n 2, 1) := by decide +kernel
theorem dX5_isWholeNow_76 : decode cX5_isWholeNow 76 = .ok (.ireturn, 1) := by decide +kernel
set_option maxRecDepth 20000 in
theorem ggX5_clean_X5_isPage : GoodIn wsX5_clean wsX5_isPage := goodIn_r _ [9, 10, 11, 8, 12] (by decide +kernel) (by decide +kernel)
set_option maxRecDepth 20000 in
theorem gX5_clean_X5_isPage : GoodIn wsX5_clean (va_wsS RX5 127 yX5_isPage wsX5_isPage) := goodIn_app (goodIn_of _ (by decide +kernel)) ggX5_clean_X5_isPage
set_option maxRecDepth 20000 in
theorem ggX5_clean_X5_isFine : GoodIn wsX5_clean wsX5_isFine := goodIn_r _ [16, 17, 56, 57, 58, 59, 60, 61, 62, 63, 64, 65, 66, 67, 68, 69, 70, 71, 72] (by decide +kernel) (by decide +kernel)
set_option maxRecDepth 20000 in
theorem gX5_clean_X5_isFine : GoodIn wsX5_clean (wsV RX5 84 RX5 yX5_isFine wsX5_isFine) := goodIn_app (goodIn_of _ (by decide +kernel)) ggX5_clean_X5_isFine
set_option maxRecDepth 20000 in
theorem ggX5_clean_X5_canGo : GoodIn wsX5_clean wsX5_canGo := goodIn_r _ [21, 2, 22, 3, 23, 24, 25, 26, 8, 27, 28, 29, 30, 31, 32, 33, 34, 35, 36, 37, 56, 57, 58, 59, 60, 61, 62, 63, 64, 65, 66, 67, 68, 69, 70, 71, 72] (by decide +kernel) (by decide +kernel)
set_option maxRecDepth 20000 in
theorem gX5_clean_X5_canGo : GoodIn wsX5_clean (wsV RX5 130 RX5 yX5_canGo wsX5_canGo) := goodIn_app (goodIn_of _ (by decide +kernel)) ggX5_clean_X5_canGo
set_option maxRecDepth 20000 in
theorem ggX5_clean_X5_leaves : GoodIn wsX5_clean wsX5_leaves := goodIn_r _ [41, 42, 2, 43, 44, 45, 56, 57, 58, 59, 60, 61, 62, 63, 64, 65, 66, 67, 68, 69, 70, 71, 72] (by decide +kernel) (by decide +kernel)
set_option maxRecDepth 20000 in
theorem gX5_clean_X5_leaves : GoodIn wsX5_clean (wsV RX5 133 RX5 yX5_leaves wsX5_leaves) := goodIn_app (goodIn_of _ (by decide +kernel)) ggX5_clean_X5_leaves
set_option maxRecDepth 20000 in
theorem ggX5_clean_X5_ageOf : GoodIn wsX5_clean wsX5_ageOf := goodIn_r _ [49, 50, 51, 56, 57, 58, 59, 60, 61, 62, 63, 64, 65, 66, 67, 68, 69, 70, 71, 72] (by decide +kernel) (by decide +kernel)
set_option maxRecDepth 20000 in
theorem gX5_clean_X5_ageOf : GoodIn wsX5_clean (wsV RX5 76 RX5 yX5_ageOf wsX5_ageOf) := goodIn_app (goodIn_of _ (by decide +kernel)) ggX5_clean_X5_ageOf
set_option maxRecDepth 20000 in
theorem ggX5_clean_X5_isPast : GoodIn wsX5_clean wsX5_isPast := goodIn_r _ [27, 22, 28, 29, 30, 31, 8, 32, 33, 34, 35, 36, 37, 56, 57, 58, 59, 60, 61, 62, 63, 64, 65, 66, 67, 68, 69, 70, 71, 72] (by decide +kernel) (by decide +kernel)
set_option maxRecDepth 20000 in
theorem gX5_clean_X5_isPast : GoodIn wsX5_clean (wsV RX5 124 RX5 yX5_isPast wsX5_isPast) := goodIn_app (goodIn_of _ (by decide +kernel)) ggX5_clean_X5_isPast
set_option maxRecDepth 20000 in
theorem ggX5_clean_X5_isWholeNow : GoodIn wsX5_clean wsX5_isWholeNow := goodIn_r _ [55, 2, 23, 1, 3, 24, 25, 26, 8, 27, 22, 28, 29, 30, 31, 32, 33, 34, 35, 36, 37, 56, 57, 58, 59, 60, 61, 62, 63, 64, 65, 66, 67, 68, 69, 70, 71, 72] (by decide +kernel) (by decide +kernel)
set_option maxRecDepth 20000 in
theorem gX5_clean_X5_isWholeNow : GoodIn wsX5_clean (wsV RX5 137 RX5 yX5_isWholeNow wsX5_isWholeNow) := goodIn_app (goodIn_of _ (by decide +kernel)) ggX5_clean_X5_isWholeNow
theorem dX5_clean_0 : decode cX5_clean 0 = .ok (.aload_n 0, 1) := by decide +kernel
theorem dX5_clean_1 : decode cX5_clean 1 = .ok (.iload_n 1, 1) := by decide +kernel
theorem dX5_clean_2 : decode cX5_clean 2 = .ok (.invokestatic 127, 3) := by decide +kernel
theorem dX5_clean_5 : decode cX5_clean 5 = .ok (.ifCond .eq 7, 3) := by decide +kernel
theorem dX5_clean_8 : decode cX5_clean 8 = .ok (.iconst 0, 1) := by decide +kernel
theorem dX5_clean_9 : decode cX5_clean 9 = .ok (.goto 4, 3) := by decide +kernel
theorem dX5_clean_12 : decode cX5_clean 12 = .ok (.iconst 1, 1) := by decide +kernel
theorem dX5_clean_13 : decode cX5_clean 13 = .ok (.invokevirtual 84, 3) := by decide +kernel
theorem dX5_clean_16 : decode cX5_clean 16 = .ok (.ifCond .ne 5, 3) := by decide +kernel
theorem dX5_clean_19 : decode cX5_clean 19 = .ok (.iconst 0, 1) := by decide +kernel
theorem dX5_clean_20 : decode cX5_clean 20 = .ok (.ireturn, 1) := by decide +kernel
theorem dX5_clean_21 : decode cX5_clean 21 = .ok (.iconst 0, 1) := by decide +kernel
theorem dX5_clean_22 : decode cX5_clean 22 = .ok (.istore_n 2, 1) := by decide +kernel
theorem dX5_clean_23 : decode cX5_clean 23 = .ok (.bipush 8, 2) := by decide +kernel
theorem dX5_clean_25 : decode cX5_clean 25 = .ok (.iload_n 1, 1) := by decide +kernel
theorem dX5_clean_26 : decode cX5_clean 26 = .ok (.imul, 1) := by decide +kernel
theorem dX5_clean_27 : decode cX5_clean 27 = .ok (.istore_n 3, 1) := by decide +kernel
theorem dX5_clean_28 : decode cX5_clean 28 = .ok (.iload_n 3, 1) := by decide +kernel
theorem dX5_clean_29 : decode cX5_clean 29 = .ok (.bipush 8, 2) := by decide +kernel
theorem dX5_clean_31 : decode cX5_clean 31 = .ok (.iload_n 1, 1) := by decide +kernel
theorem dX5_clean_32 : decode cX5_clean 32 = .ok (.imul, 1) := by decide +kernel
theorem dX5_clean_33 : decode cX5_clean 33 = .ok (.bipush 8, 2) := by decide +kernel
theorem dX5_clean_35 : decode cX5_clean 35 = .ok (.iadd, 1) := by decide +kernel
theorem dX5_clean_36 : decode cX5_clean 36 = .ok (.if_icmp .ge 25, 3) := by decide +kernel
theorem dX5_clean_39 : decode cX5_clean 39 = .ok (.aload_n 0, 1) := by decide +kernel
theorem dX5_clean_40 : decode cX5_clean 40 = .ok (.iload_n 3, 1) := by decide +kernel
theorem dX5_clean_41 : decode cX5_clean 41 = .ok (.invokevirtual 130, 3) := by decide +kernel
theorem dX5_clean_44 : decode cX5_clean 44 = .ok (.ifCond .eq 11, 3) := by decide +kernel
theorem dX5_clean_47 : decode cX5_clean 47 = .ok (.aload_n 0, 1) := by decide +kernel
theorem dX5_clean_48 : decode cX5_clean 48 = .ok (.iload_n 3, 1) := by decide +kernel
theorem dX5_clean_49 : decode cX5_clean 49 = .ok (.invokevirtual 133, 3) := by decide +kernel
theorem dX5_clean_52 : decode cX5_clean 52 = .ok (.iinc 2 1, 3) := by decide +kernel
theorem dX5_clean_55 : decode cX5_clean 55 = .ok (.iinc 3 1, 3) := by decide +kernel
theorem dX5_clean_58 : decode cX5_clean 58 = .ok (.goto (-30), 3) := by decide +kernel
theorem dX5_clean_61 : decode cX5_clean 61 = .ok (.bipush 8, 2) := by decide +kernel
theorem dX5_clean_63 : decode cX5_clean 63 = .ok (.iload_n 1, 1) := by decide +kernel
theorem dX5_clean_64 : decode cX5_clean 64 = .ok (.imul, 1) := by decide +kernel
theorem dX5_clean_65 : decode cX5_clean 65 = .ok (.istore_n 3, 1) := by decide +kernel
theorem dX5_clean_66 : decode cX5_clean 66 = .ok (.iload_n 3, 1) := by decide +kernel
theorem dX5_clean_67 : decode cX5_clean 67 = .ok (.bipush 8, 2) := by decide +kernel
theorem dX5_clean_69 : decode cX5_clean 69 = .ok (.iload_n 1, 1) := by decide +kernel
theorem dX5_clean_70 : decode cX5_clean 70 = .ok (.imul, 1) := by decide +kernel
theorem dX5_clean_71 : decode cX5_clean 71 = .ok (.bipush 8, 2) := by decide +kernel
theorem dX5_clean_73 : decode cX5_clean 73 = .ok (.iadd, 1) := by decide +kernel
theorem dX5_clean_74 : decode cX5_clean 74 = .ok (.if_icmp .ge 68, 3) := by decide +kernel
theorem dX5_clean_77 : decode cX5_clean 77 = .ok (.aload_n 0, 1) := by decide +kernel
theorem dX5_clean_78 : decode cX5_clean 78 = .ok (.getfield 37, 3) := by decide +kernel
theorem dX5_clean_81 : decode cX5_clean 81 = .ok (.iload_n 3, 1) := by decide +kernel
theorem dX5_clean_82 : decode cX5_clean 82 = .ok (.aload_n 0, 1) := by decide +kernel
theorem dX5_clean_83 : decode cX5_clean 83 = .ok (.getfield 37, 3) := by decide +kernel
theorem dX5_clean_86 : decode cX5_clean 86 = .ok (.iload_n 3, 1) := by decide +kernel
theorem dX5_clean_87 : decode cX5_clean 87 = .ok (.baload, 1) := by decide +kernel
theorem dX5_clean_88 : decode cX5_clean 88 = .ok (.ifCond .ne 42, 3) := by decide +kernel
theorem dX5_clean_91 : decode cX5_clean 91 = .ok (.aload_n 0, 1) := by decide +kernel
theorem dX5_clean_92 : decode cX5_clean 92 = .ok (.getfield 24, 3) := by decide +kernel
theorem dX5_clean_95 : decode cX5_clean 95 = .ok (.iload_n 3, 1) := by decide +kernel
theorem dX5_clean_96 : decode cX5_clean 96 = .ok (.baload, 1) := by decide +kernel
theorem dX5_clean_97 : decode cX5_clean 97 = .ok (.ifCond .eq 37, 3) := by decide +kernel
theorem dX5_clean_100 : decode cX5_clean 100 = .ok (.aload_n 0, 1) := by decide +kernel
theorem dX5_clean_101 : decode cX5_clean 101 = .ok (.aload_n 0, 1) := by decide +kernel
theorem dX5_clean_102 : decode cX5_clean 102 = .ok (.getfield 34, 3) := by decide +kernel
theorem dX5_clean_105 : decode cX5_clean 105 = .ok (.iload_n 3, 1) := by decide +kernel
theorem dX5_clean_106 : decode cX5_clean 106 = .ok (.iaload, 1) := by decide +kernel
theorem dX5_clean_107 : decode cX5_clean 107 = .ok (.invokevirtual 76, 3) := by decide +kernel
theorem dX5_clean_110 : decode cX5_clean 110 = .ok (.aload_n 0, 1) := by decide +kernel
theorem dX5_clean_111 : decode cX5_clean 111 = .ok (.getfield 7, 3) := by decide +kernel
theorem dX5_clean_114 : decode cX5_clean 114 = .ok (.if_icmp .lt 20, 3) := by decide +kernel
theorem dX5_clean_117 : decode cX5_clean 117 = .ok (.aload_n 0, 1) := by decide +kernel
theorem dX5_clean_118 : decode cX5_clean 118 = .ok (.aload_n 0, 1) := by decide +kernel
theorem dX5_clean_119 : decode cX5_clean 119 = .ok (.getfield 34, 3) := by decide +kernel
theorem dX5_clean_122 : decode cX5_clean 122 = .ok (.iload_n 3, 1) := by decide +kernel
theorem dX5_clean_123 : decode cX5_clean 123 = .ok (.iaload, 1) := by decide +kernel
theorem dX5_clean_124 : decode cX5_clean 124 = .ok (.invokevirtual 124, 3) := by decide +kernel
theorem dX5_clean_127 : decode cX5_clean 127 = .ok (.ifCond .eq 7, 3) := by decide +kernel
theorem dX5_clean_130 : decode cX5_clean 130 = .ok (.iconst 1, 1) := by decide +kernel
theorem dX5_clean_131 : decode cX5_clean 131 = .ok (.goto 4, 3) := by decide +kernel
theorem dX5_clean_134 : decode cX5_clean 134 = .ok (.iconst 0, 1) := by decide +kernel
theorem dX5_clean_135 : decode cX5_clean 135 = .ok (.bastore, 1) := by decide +kernel
theorem dX5_clean_136 : decode cX5_clean 136 = .ok (.iinc 3 1, 3) := by decide +kernel
theorem dX5_clean_139 : decode cX5_clean 139 = .ok (.goto (-73), 3) := by decide +kernel
theorem dX5_clean_142 : decode cX5_clean 142 = .ok (.aload_n 0, 1) := by decide +kernel
theorem dX5_clean_143 : decode cX5_clean 143 = .ok (.getfield 46, 3) := by decide +kernel
theorem dX5_clean_146 : decode cX5_clean 146 = .ok (.iload_n 1, 1) := by decide +kernel
theorem dX5_clean_147 : decode cX5_clean 147 = .ok (.aload_n 0, 1) := by decide +kernel
theorem dX5_clean_148 : decode cX5_clean 148 = .ok (.iload_n 1, 1) := by decide +kernel
theorem dX5_clean_149 : decode cX5_clean 149 = .ok (.invokevirtual 137, 3) := by decide +kernel
theorem dX5_clean_152 : decode cX5_clean 152 = .ok (.bastore, 1) := by decide +kernel
theorem dX5_clean_153 : decode cX5_clean 153 = .ok (.iload_n 2, 1) := by decide +kernel
theorem dX5_clean_154 : decode cX5_clean 154 = .ok (.ireturn, 1) := by decide +kernel
set_option maxRecDepth 20000 in
theorem ggX5_setFreezing_X5_isIn : GoodIn wsX5_setFreezing wsX5_isIn := goodIn_r _ [5] (by decide +kernel) (by decide +kernel)
set_option maxRecDepth 20000 in
theorem gX5_setFreezing_X5_isIn : GoodIn wsX5_setFreezing (va_wsS RX5 61 yX5_isIn wsX5_isIn) := goodIn_app (goodIn_of _ (by decide +kernel)) ggX5_setFreezing_X5_isIn
set_option maxRecDepth 20000 in
theorem ggX5_setFreezing_X5_isFine : GoodIn wsX5_setFreezing wsX5_isFine := goodIn_r _ [9, 10, 11, 12, 13, 14, 15, 16, 17, 18, 19, 20, 21, 22, 23, 24, 25, 26, 27] (by decide +kernel) (by decide +kernel)
set_option maxRecDepth 20000 in
theorem gX5_setFreezing_X5_isFine : GoodIn wsX5_setFreezing (wsV RX5 84 RX5 yX5_isFine wsX5_isFine) := goodIn_app (goodIn_of _ (by decide +kernel)) ggX5_setFreezing_X5_isFine
theorem dX5_setFreezing_0 : decode cX5_setFreezing 0 = .ok (.aload_n 0, 1) := by decide +kernel
theorem dX5_setFreezing_1 : decode cX5_setFreezing 1 = .ok (.iload_n 1, 1) := by decide +kernel
theorem dX5_setFreezing_2 : decode cX5_setFreezing 2 = .ok (.iconst 1, 1) := by decide +kernel
theorem dX5_setFreezing_3 : decode cX5_setFreezing 3 = .ok (.bipush 27, 2) := by decide +kernel
theorem dX5_setFreezing_5 : decode cX5_setFreezing 5 = .ok (.invokestatic 61, 3) := by decide +kernel
theorem dX5_setFreezing_8 : decode cX5_setFreezing 8 = .ok (.ifCond .eq 7, 3) := by decide +kernel
theorem dX5_setFreezing_11 : decode cX5_setFreezing 11 = .ok (.iconst 0, 1) := by decide +kernel
theorem dX5_setFreezing_12 : decode cX5_setFreezing 12 = .ok (.goto 4, 3) := by decide +kernel
theorem dX5_setFreezing_15 : decode cX5_setFreezing 15 = .ok (.iconst 1, 1) := by decide +kernel
theorem dX5_setFreezing_16 : decode cX5_setFreezing 16 = .ok (.invokevirtual 84, 3) := by decide +kernel
theorem dX5_setFreezing_19 : decode cX5_setFreezing 19 = .ok (.ifCond .ne 5, 3) := by decide +kernel
theorem dX5_setFreezing_22 : decode cX5_setFreezing 22 = .ok (.iconst 0, 1) := by decide +kernel
theorem dX5_setFreezing_23 : decode cX5_setFreezing 23 = .ok (.ireturn, 1) := by decide +kernel
theorem dX5_setFreezing_24 : decode cX5_setFreezing 24 = .ok (.aload_n 0, 1) := by decide +kernel
theorem dX5_setFreezing_25 : decode cX5_setFreezing 25 = .ok (.getfield 7, 3) := by decide +kernel
theorem dX5_setFreezing_28 : decode cX5_setFreezing 28 = .ok (.istore_n 2, 1) := by decide +kernel
theorem dX5_setFreezing_29 : decode cX5_setFreezing 29 = .ok (.aload_n 0, 1) := by decide +kernel
theorem dX5_setFreezing_30 : decode cX5_setFreezing 30 = .ok (.iload_n 1, 1) := by decide +kernel
theorem dX5_setFreezing_31 : decode cX5_setFreezing 31 = .ok (.putfield 7, 3) := by decide +kernel
theorem dX5_setFreezing_34 : decode cX5_setFreezing 34 = .ok (.iload_n 2, 1) := by decide +kernel
theorem dX5_setFreezing_35 : decode cX5_setFreezing 35 = .ok (.ireturn, 1) := by decide +kernel
set_option maxRecDepth 20000 in
theorem ggX5_isMapped_X5_isPage : GoodIn wsX5_isMapped wsX5_isPage := goodIn_r _ [5, 6, 7, 4, 8] (by decide +kernel) (by decide +kernel)
set_option maxRecDepth 20000 in
theorem gX5_isMapped_X5_isPage : GoodIn wsX5_isMapped (va_wsS RX5 127 yX5_isPage wsX5_isPage) := goodIn_app (goodIn_of _ (by decide +kernel)) ggX5_isMapped_X5_isPage
set_option maxRecDepth 20000 in
theorem ggX5_isMapped_X5_isFine : GoodIn wsX5_isMapped wsX5_isFine := goodIn_r _ [12, 13, 14, 15, 16, 17, 18, 19, 20, 21, 22, 23, 24, 25, 26, 27, 28, 29, 30] (by decide +kernel) (by decide +kernel)
set_option maxRecDepth 20000 in
theorem gX5_isMapped_X5_isFine : GoodIn wsX5_isMapped (wsV RX5 84 RX5 yX5_isFine wsX5_isFine) := goodIn_app (goodIn_of _ (by decide +kernel)) ggX5_isMapped_X5_isFine
theorem dX5_isMapped_0 : decode cX5_isMapped 0 = .ok (.aload_n 0, 1) := by decide +kernel
theorem dX5_isMapped_1 : decode cX5_isMapped 1 = .ok (.iload_n 1, 1) := by decide +kernel
theorem dX5_isMapped_2 : decode cX5_isMapped 2 = .ok (.invokestatic 127, 3) := by decide +kernel
theorem dX5_isMapped_5 : decode cX5_isMapped 5 = .ok (.ifCond .eq 7, 3) := by decide +kernel
theorem dX5_isMapped_8 : decode cX5_isMapped 8 = .ok (.iconst 0, 1) := by decide +kernel
theorem dX5_isMapped_9 : decode cX5_isMapped 9 = .ok (.goto 4, 3) := by decide +kernel
theorem dX5_isMapped_12 : decode cX5_isMapped 12 = .ok (.iconst 1, 1) := by decide +kernel
theorem dX5_isMapped_13 : decode cX5_isMapped 13 = .ok (.invokevirtual 84, 3) := by decide +kernel
theorem dX5_isMapped_16 : decode cX5_isMapped 16 = .ok (.ifCond .eq 16, 3) := by decide +kernel
theorem dX5_isMapped_19 : decode cX5_isMapped 19 = .ok (.aload_n 0, 1) := by decide +kernel
theorem dX5_isMapped_20 : decode cX5_isMapped 20 = .ok (.getfield 46, 3) := by decide +kernel
theorem dX5_isMapped_23 : decode cX5_isMapped 23 = .ok (.iload_n 1, 1) := by decide +kernel
theorem dX5_isMapped_24 : decode cX5_isMapped 24 = .ok (.baload, 1) := by decide +kernel
theorem dX5_isMapped_25 : decode cX5_isMapped 25 = .ok (.ifCond .eq 7, 3) := by decide +kernel
theorem dX5_isMapped_28 : decode cX5_isMapped 28 = .ok (.iconst 1, 1) := by decide +kernel
theorem dX5_isMapped_29 : decode cX5_isMapped 29 = .ok (.goto 4, 3) := by decide +kernel
theorem dX5_isMapped_32 : decode cX5_isMapped 32 = .ok (.iconst 0, 1) := by decide +kernel
theorem dX5_isMapped_33 : decode cX5_isMapped 33 = .ok (.ireturn, 1) := by decide +kernel
set_option maxRecDepth 20000 in
theorem ggX5_isWhole_X5_isPage : GoodIn wsX5_isWhole wsX5_isPage := goodIn_r _ [4, 5, 6, 3, 7] (by decide +kernel) (by decide +kernel)
set_option maxRecDepth 20000 in
theorem gX5_isWhole_X5_isPage : GoodIn wsX5_isWhole (va_wsS RX5 127 yX5_isPage wsX5_isPage) := goodIn_app (goodIn_of _ (by decide +kernel)) ggX5_isWhole_X5_isPage
set_option maxRecDepth 20000 in
theorem ggX5_isWhole_X5_isFine : GoodIn wsX5_isWhole wsX5_isFine := goodIn_r _ [11, 12, 36, 37, 38, 39, 40, 41, 42, 43, 44, 45, 46, 47, 48, 49, 50, 51, 52] (by decide +kernel) (by decide +kernel)
set_option maxRecDepth 20000 in
theorem gX5_isWhole_X5_isFine : GoodIn wsX5_isWhole (wsV RX5 84 RX5 yX5_isFine wsX5_isFine) := goodIn_app (goodIn_of _ (by decide +kernel)) ggX5_isWhole_X5_isFine
set_option maxRecDepth 20000 in
theorem ggX5_isWhole_X5_isWholeNow : GoodIn wsX5_isWhole wsX5_isWholeNow := goodIn_r _ [16, 17, 18, 19, 20, 21, 22, 23, 3, 24, 25, 26, 27, 28, 29, 30, 31, 32, 33, 34, 35, 36, 37, 38, 39, 40, 41, 42, 43, 44, 45, 46, 47, 48, 49, 50, 51, 52] (by decide +kernel) (by decide +kernel)
set_option maxRecDepth 20000 in
theorem gX5_isWhole_X5_isWholeNow : GoodIn wsX5_isWhole (wsV RX5 137 RX5 yX5_isWholeNow wsX5_isWholeNow) := goodIn_app (goodIn_of _ (by decide +kernel)) ggX5_isWhole_X5_isWholeNow
theorem dX5_isWhole_0 : decode cX5_isWhole 0 = .ok (.aload_n 0, 1) := by decide +kernel
theorem dX5_isWhole_1 : decode cX5_isWhole 1 = .ok (.iload_n 1, 1) := by decide +kernel
theorem dX5_isWhole_2 : decode cX5_isWhole 2 = .ok (.invokestatic 127, 3) := by decide +kernel
theorem dX5_isWhole_5 : decode cX5_isWhole 5 = .ok (.ifCond .eq 7, 3) := by decide +kernel
theorem dX5_isWhole_8 : decode cX5_isWhole 8 = .ok (.iconst 0, 1) := by decide +kernel
theorem dX5_isWhole_9 : decode cX5_isWhole 9 = .ok (.goto 4, 3) := by decide +kernel
theorem dX5_isWhole_12 : decode cX5_isWhole 12 = .ok (.iconst 1, 1) := by decide +kernel
theorem dX5_isWhole_13 : decode cX5_isWhole 13 = .ok (.invokevirtual 84, 3) := by decide +kernel
theorem dX5_isWhole_16 : decode cX5_isWhole 16 = .ok (.ifCond .eq 15, 3) := by decide +kernel
theorem dX5_isWhole_19 : decode cX5_isWhole 19 = .ok (.aload_n 0, 1) := by decide +kernel
theorem dX5_isWhole_20 : decode cX5_isWhole 20 = .ok (.iload_n 1, 1) := by decide +kernel
theorem dX5_isWhole_21 : decode cX5_isWhole 21 = .ok (.invokevirtual 137, 3) := by decide +kernel
theorem dX5_isWhole_24 : decode cX5_isWhole 24 = .ok (.ifCond .eq 7, 3) := by decide +kernel
theorem dX5_isWhole_27 : decode cX5_isWhole 27 = .ok (.iconst 1, 1) := by decide +kernel
theorem dX5_isWhole_28 : decode cX5_isWhole 28 = .ok (.goto 4, 3) := by decide +kernel
theorem dX5_isWhole_31 : decode cX5_isWhole 31 = .ok (.iconst 0, 1) := by decide +kernel
theorem dX5_isWhole_32 : decode cX5_isWhole 32 = .ok (.ireturn, 1) := by decide +kernel
set_option maxRecDepth 20000 in
theorem ggX5_slot_X5_isPage : GoodIn wsX5_slot wsX5_isPage := goodIn_r _ [9, 10, 11, 8, 12] (by decide +kernel) (by decide +kernel)
set_option maxRecDepth 20000 in
theorem gX5_slot_X5_isPage : GoodIn wsX5_slot (va_wsS RX5 127 yX5_isPage wsX5_isPage) := goodIn_app (goodIn_of _ (by decide +kernel)) ggX5_slot_X5_isPage
set_option maxRecDepth 20000 in
theorem ggX5_slot_X5_isIn : GoodIn wsX5_slot wsX5_isIn := goodIn_r _ [12] (by decide +kernel) (by decide +kernel)
set_option maxRecDepth 20000 in
theorem gX5_slot_X5_isIn : GoodIn wsX5_slot (va_wsS RX5 61 yX5_isIn wsX5_isIn) := goodIn_app (goodIn_of _ (by decide +kernel)) ggX5_slot_X5_isIn
set_option maxRecDepth 20000 in
theorem ggX5_slot_X5_isFine : GoodIn wsX5_slot wsX5_isFine := goodIn_r _ [16, 17, 18, 19, 20, 21, 22, 23, 24, 25, 26, 27, 28, 29, 30, 31, 32, 33, 34] (by decide +kernel) (by decide +kernel)
set_option maxRecDepth 20000 in
theorem gX5_slot_X5_isFine : GoodIn wsX5_slot (wsV RX5 84 RX5 yX5_isFine wsX5_isFine) := goodIn_app (goodIn_of _ (by decide +kernel)) ggX5_slot_X5_isFine
theorem dX5_slot_0 : decode cX5_slot 0 = .ok (.aload_n 0, 1) := by decide +kernel
theorem dX5_slot_1 : decode cX5_slot 1 = .ok (.iload_n 1, 1) := by decide +kernel
theorem dX5_slot_2 : decode cX5_slot 2 = .ok (.invokestatic 127, 3) := by decide +kernel
theorem dX5_slot_5 : decode cX5_slot 5 = .ok (.ifCond .eq 17, 3) := by decide +kernel
theorem dX5_slot_8 : decode cX5_slot 8 = .ok (.iload_n 2, 1) := by decide +kernel
theorem dX5_slot_9 : decode cX5_slot 9 = .ok (.iconst 0, 1) := by decide +kernel
theorem dX5_slot_10 : decode cX5_slot 10 = .ok (.bipush 7, 2) := by decide +kernel
theorem dX5_slot_12 : decode cX5_slot 12 = .ok (.invokestatic 61, 3) := by decide +kernel
theorem dX5_slot_15 : decode cX5_slot 15 = .ok (.ifCond .eq 7, 3) := by decide +kernel
theorem dX5_slot_18 : decode cX5_slot 18 = .ok (.iconst 0, 1) := by decide +kernel
theorem dX5_slot_19 : decode cX5_slot 19 = .ok (.goto 4, 3) := by decide +kernel
theorem dX5_slot_22 : decode cX5_slot 22 = .ok (.iconst 1, 1) := by decide +kernel
theorem dX5_slot_23 : decode cX5_slot 23 = .ok (.invokevirtual 84, 3) := by decide +kernel
theorem dX5_slot_26 : decode cX5_slot 26 = .ok (.ifCond .ne 5, 3) := by decide +kernel
theorem dX5_slot_29 : decode cX5_slot 29 = .ok (.iconst 0, 1) := by decide +kernel
theorem dX5_slot_30 : decode cX5_slot 30 = .ok (.ireturn, 1) := by decide +kernel
theorem dX5_slot_31 : decode cX5_slot 31 = .ok (.bipush 8, 2) := by decide +kernel
theorem dX5_slot_33 : decode cX5_slot 33 = .ok (.iload_n 1, 1) := by decide +kernel
theorem dX5_slot_34 : decode cX5_slot 34 = .ok (.imul, 1) := by decide +kernel
theorem dX5_slot_35 : decode cX5_slot 35 = .ok (.iload_n 2, 1) := by decide +kernel
theorem dX5_slot_36 : decode cX5_slot 36 = .ok (.iadd, 1) := by decide +kernel
theorem dX5_slot_37 : decode cX5_slot 37 = .ok (.istore_n 3, 1) := by decide +kernel
theorem dX5_slot_38 : decode cX5_slot 38 = .ok (.aload_n 0, 1) := by decide +kernel
theorem dX5_slot_39 : decode cX5_slot 39 = .ok (.getfield 24, 3) := by decide +kernel
theorem dX5_slot_42 : decode cX5_slot 42 = .ok (.iload_n 3, 1) := by decide +kernel
theorem dX5_slot_43 : decode cX5_slot 43 = .ok (.baload, 1) := by decide +kernel
theorem dX5_slot_44 : decode cX5_slot 44 = .ok (.ifCond .ne 5, 3) := by decide +kernel
theorem dX5_slot_47 : decode cX5_slot 47 = .ok (.iconst (-1), 1) := by decide +kernel
theorem dX5_slot_48 : decode cX5_slot 48 = .ok (.ireturn, 1) := by decide +kernel
theorem dX5_slot_49 : decode cX5_slot 49 = .ok (.aload_n 0, 1) := by decide +kernel
theorem dX5_slot_50 : decode cX5_slot 50 = .ok (.getfield 28, 3) := by decide +kernel
theorem dX5_slot_53 : decode cX5_slot 53 = .ok (.iload_n 3, 1) := by decide +kernel
theorem dX5_slot_54 : decode cX5_slot 54 = .ok (.iaload, 1) := by decide +kernel
theorem dX5_slot_55 : decode cX5_slot 55 = .ok (.aload_n 0, 1) := by decide +kernel
theorem dX5_slot_56 : decode cX5_slot 56 = .ok (.getfield 37, 3) := by decide +kernel
theorem dX5_slot_59 : decode cX5_slot 59 = .ok (.iload_n 3, 1) := by decide +kernel
theorem dX5_slot_60 : decode cX5_slot 60 = .ok (.baload, 1) := by decide +kernel
theorem dX5_slot_61 : decode cX5_slot 61 = .ok (.ifCond .eq 8, 3) := by decide +kernel
theorem dX5_slot_64 : decode cX5_slot 64 = .ok (.bipush 10, 2) := by decide +kernel
theorem dX5_slot_66 : decode cX5_slot 66 = .ok (.goto 4, 3) := by decide +kernel
theorem dX5_slot_69 : decode cX5_slot 69 = .ok (.iconst 0, 1) := by decide +kernel
theorem dX5_slot_70 : decode cX5_slot 70 = .ok (.iadd, 1) := by decide +kernel
theorem dX5_slot_71 : decode cX5_slot 71 = .ok (.aload_n 0, 1) := by decide +kernel
theorem dX5_slot_72 : decode cX5_slot 72 = .ok (.getfield 40, 3) := by decide +kernel
theorem dX5_slot_75 : decode cX5_slot 75 = .ok (.iload_n 3, 1) := by decide +kernel
theorem dX5_slot_76 : decode cX5_slot 76 = .ok (.iaload, 1) := by decide +kernel
theorem dX5_slot_77 : decode cX5_slot 77 = .ok (.iconst (-1), 1) := by decide +kernel
theorem dX5_slot_78 : decode cX5_slot 78 = .ok (.if_icmp .eq 8, 3) := by decide +kernel
theorem dX5_slot_81 : decode cX5_slot 81 = .ok (.bipush 20, 2) := by decide +kernel
theorem dX5_slot_83 : decode cX5_slot 83 = .ok (.goto 4, 3) := by decide +kernel
theorem dX5_slot_86 : decode cX5_slot 86 = .ok (.iconst 0, 1) := by decide +kernel
theorem dX5_slot_87 : decode cX5_slot 87 = .ok (.iadd, 1) := by decide +kernel
theorem dX5_slot_88 : decode cX5_slot 88 = .ok (.aload_n 0, 1) := by decide +kernel
theorem dX5_slot_89 : decode cX5_slot 89 = .ok (.getfield 43, 3) := by decide +kernel
theorem dX5_slot_92 : decode cX5_slot 92 = .ok (.iload_n 3, 1) := by decide +kernel
theorem dX5_slot_93 : decode cX5_slot 93 = .ok (.iaload, 1) := by decide +kernel
theorem dX5_slot_94 : decode cX5_slot 94 = .ok (.iconst (-1), 1) := by decide +kernel
theorem dX5_slot_95 : decode cX5_slot 95 = .ok (.if_icmp .eq 20, 3) := by decide +kernel
theorem dX5_slot_98 : decode cX5_slot 98 = .ok (.bipush 100, 2) := by decide +kernel
theorem dX5_slot_100 : decode cX5_slot 100 = .ok (.aload_n 0, 1) := by decide +kernel
theorem dX5_slot_101 : decode cX5_slot 101 = .ok (.getfield 43, 3) := by decide +kernel
theorem dX5_slot_104 : decode cX5_slot 104 = .ok (.iload_n 3, 1) := by decide +kernel
theorem dX5_slot_105 : decode cX5_slot 105 = .ok (.iaload, 1) := by decide +kernel
theorem dX5_slot_106 : decode cX5_slot 106 = .ok (.bipush 8, 2) := by decide +kernel
theorem dX5_slot_108 : decode cX5_slot 108 = .ok (.irem, 1) := by decide +kernel
theorem dX5_slot_109 : decode cX5_slot 109 = .ok (.iconst 1, 1) := by decide +kernel
theorem dX5_slot_110 : decode cX5_slot 110 = .ok (.iadd, 1) := by decide +kernel
theorem dX5_slot_111 : decode cX5_slot 111 = .ok (.imul, 1) := by decide +kernel
theorem dX5_slot_112 : decode cX5_slot 112 = .ok (.goto 4, 3) := by decide +kernel
theorem dX5_slot_115 : decode cX5_slot 115 = .ok (.iconst 0, 1) := by decide +kernel
theorem dX5_slot_116 : decode cX5_slot 116 = .ok (.iadd, 1) := by decide +kernel
theorem dX5_slot_117 : decode cX5_slot 117 = .ok (.ireturn, 1) := by decide +kernel
set_option maxRecDepth 20000 in
theorem ggX5_entries_X5_isKey : GoodIn wsX5_entries wsX5_isKey := goodIn_r _ [5, 6, 7, 4, 8] (by decide +kernel) (by decide +kernel)
set_option maxRecDepth 20000 in
theorem gX5_entries_X5_isKey : GoodIn wsX5_entries (va_wsS RX5 96 yX5_isKey wsX5_isKey) := goodIn_app (goodIn_of _ (by decide +kernel)) ggX5_entries_X5_isKey
set_option maxRecDepth 20000 in
theorem ggX5_entries_X5_isFine : GoodIn wsX5_entries wsX5_isFine := goodIn_r _ [12, 13, 14, 15, 16, 17, 18, 19, 20, 21, 22, 23, 24, 25, 26, 27, 28, 29, 30] (by decide +kernel) (by decide +kernel)
set_option maxRecDepth 20000 in
theorem gX5_entries_X5_isFine : GoodIn wsX5_entries (wsV RX5 84 RX5 yX5_isFine wsX5_isFine) := goodIn_app (goodIn_of _ (by decide +kernel)) ggX5_entries_X5_isFine
theorem dX5_entries_0 : decode cX5_entries 0 = .ok (.aload_n 0, 1) := by decide +kernel
theorem dX5_entries_1 : decode cX5_entries 1 = .ok (.iload_n 1, 1) := by decide +kernel
theorem dX5_entries_2 : decode cX5_entries 2 = .ok (.invokestatic 96, 3) := by decide +kernel
theorem dX5_entries_5 : decode cX5_entries 5 = .ok (.ifCond .eq 7, 3) := by decide +kernel
theorem dX5_entries_8 : decode cX5_entries 8 = .ok (.iconst 0, 1) := by decide +kernel
theorem dX5_entries_9 : decode cX5_entries 9 = .ok (.goto 4, 3) := by decide +kernel
theorem dX5_entries_12 : decode cX5_entries 12 = .ok (.iconst 1, 1) := by decide +kernel
theorem dX5_entries_13 : decode cX5_entries 13 = .ok (.invokevirtual 84, 3) := by decide +kernel
theorem dX5_entries_16 : decode cX5_entries 16 = .ok (.ifCond .eq 12, 3) := by decide +kernel
theorem dX5_entries_19 : decode cX5_entries 19 = .ok (.aload_n 0, 1) := by decide +kernel
theorem dX5_entries_20 : decode cX5_entries 20 = .ok (.getfield 52, 3) := by decide +kernel
theorem dX5_entries_23 : decode cX5_entries 23 = .ok (.iload_n 1, 1) := by decide +kernel
theorem dX5_entries_24 : decode cX5_entries 24 = .ok (.iaload, 1) := by decide +kernel
theorem dX5_entries_25 : decode cX5_entries 25 = .ok (.goto 4, 3) := by decide +kernel
theorem dX5_entries_28 : decode cX5_entries 28 = .ok (.iconst 0, 1) := by decide +kernel
theorem dX5_entries_29 : decode cX5_entries 29 = .ok (.ireturn, 1) := by decide +kernel
set_option maxRecDepth 20000 in
theorem ggX5_fullness_X5_isPage : GoodIn wsX5_fullness wsX5_isPage := goodIn_r _ [6, 7, 8, 5, 9] (by decide +kernel) (by decide +kernel)
set_option maxRecDepth 20000 in
theorem gX5_fullness_X5_isPage : GoodIn wsX5_fullness (va_wsS RX5 127 yX5_isPage wsX5_isPage) := goodIn_app (goodIn_of _ (by decide +kernel)) ggX5_fullness_X5_isPage
set_option maxRecDepth 20000 in
theorem ggX5_fullness_X5_isFine : GoodIn wsX5_fullness wsX5_isFine := goodIn_r _ [13, 14, 15, 16, 17, 18, 19, 20, 21, 22, 23, 24, 25, 26, 27, 28, 29, 30, 31] (by decide +kernel) (by decide +kernel)
set_option maxRecDepth 20000 in
theorem gX5_fullness_X5_isFine : GoodIn wsX5_fullness (wsV RX5 84 RX5 yX5_isFine wsX5_isFine) := goodIn_app (goodIn_of _ (by decide +kernel)) ggX5_fullness_X5_isFine
theorem dX5_fullness_0 : decode cX5_fullness 0 = .ok (.aload_n 0, 1) := by decide +kernel
theorem dX5_fullness_1 : decode cX5_fullness 1 = .ok (.iload_n 1, 1) := by decide +kernel
theorem dX5_fullness_2 : decode cX5_fullness 2 = .ok (.invokestatic 127, 3) := by decide +kernel
theorem dX5_fullness_5 : decode cX5_fullness 5 = .ok (.ifCond .eq 7, 3) := by decide +kernel
theorem dX5_fullness_8 : decode cX5_fullness 8 = .ok (.iconst 0, 1) := by decide +kernel
theorem dX5_fullness_9 : decode cX5_fullness 9 = .ok (.goto 4, 3) := by decide +kernel
theorem dX5_fullness_12 : decode cX5_fullness 12 = .ok (.iconst 1, 1) := by decide +kernel
theorem dX5_fullness_13 : decode cX5_fullness 13 = .ok (.invokevirtual 84, 3) := by decide +kernel
theorem dX5_fullness_16 : decode cX5_fullness 16 = .ok (.ifCond .ne 5, 3) := by decide +kernel
theorem dX5_fullness_19 : decode cX5_fullness 19 = .ok (.fconst 0, 1) := by decide +kernel
theorem dX5_fullness_20 : decode cX5_fullness 20 = .ok (.freturn, 1) := by decide +kernel
theorem dX5_fullness_21 : decode cX5_fullness 21 = .ok (.iconst 0, 1) := by decide +kernel
theorem dX5_fullness_22 : decode cX5_fullness 22 = .ok (.istore_n 2, 1) := by decide +kernel
theorem dX5_fullness_23 : decode cX5_fullness 23 = .ok (.bipush 8, 2) := by decide +kernel
theorem dX5_fullness_25 : decode cX5_fullness 25 = .ok (.iload_n 1, 1) := by decide +kernel
theorem dX5_fullness_26 : decode cX5_fullness 26 = .ok (.imul, 1) := by decide +kernel
theorem dX5_fullness_27 : decode cX5_fullness 27 = .ok (.istore_n 3, 1) := by decide +kernel
theorem dX5_fullness_28 : decode cX5_fullness 28 = .ok (.iload_n 3, 1) := by decide +kernel
theorem dX5_fullness_29 : decode cX5_fullness 29 = .ok (.bipush 8, 2) := by decide +kernel
theorem dX5_fullness_31 : decode cX5_fullness 31 = .ok (.iload_n 1, 1) := by decide +kernel
theorem dX5_fullness_32 : decode cX5_fullness 32 = .ok (.imul, 1) := by decide +kernel
theorem dX5_fullness_33 : decode cX5_fullness 33 = .ok (.bipush 8, 2) := by decide +kernel
theorem dX5_fullness_35 : decode cX5_fullness 35 = .ok (.iadd, 1) := by decide +kernel
theorem dX5_fullness_36 : decode cX5_fullness 36 = .ok (.if_icmp .ge 26, 3) := by decide +kernel
theorem dX5_fullness_39 : decode cX5_fullness 39 = .ok (.iload_n 2, 1) := by decide +kernel
theorem dX5_fullness_40 : decode cX5_fullness 40 = .ok (.aload_n 0, 1) := by decide +kernel
theorem dX5_fullness_41 : decode cX5_fullness 41 = .ok (.getfield 24, 3) := by decide +kernel
theorem dX5_fullness_44 : decode cX5_fullness 44 = .ok (.iload_n 3, 1) := by decide +kernel
theorem dX5_fullness_45 : decode cX5_fullness 45 = .ok (.baload, 1) := by decide +kernel
theorem dX5_fullness_46 : decode cX5_fullness 46 = .ok (.ifCond .eq 7, 3) := by decide +kernel
theorem dX5_fullness_49 : decode cX5_fullness 49 = .ok (.iconst 1, 1) := by decide +kernel
theorem dX5_fullness_50 : decode cX5_fullness 50 = .ok (.goto 4, 3) := by decide +kernel
theorem dX5_fullness_53 : decode cX5_fullness 53 = .ok (.iconst 0, 1) := by decide +kernel
theorem dX5_fullness_54 : decode cX5_fullness 54 = .ok (.iadd, 1) := by decide +kernel
theorem dX5_fullness_55 : decode cX5_fullness 55 = .ok (.istore_n 2, 1) := by decide +kernel
theorem dX5_fullness_56 : decode cX5_fullness 56 = .ok (.iinc 3 1, 3) := by decide +kernel
theorem dX5_fullness_59 : decode cX5_fullness 59 = .ok (.goto (-31), 3) := by decide +kernel
theorem dX5_fullness_62 : decode cX5_fullness 62 = .ok (.iload_n 2, 1) := by decide +kernel
theorem dX5_fullness_63 : decode cX5_fullness 63 = .ok (.i2f, 1) := by decide +kernel
theorem dX5_fullness_64 : decode cX5_fullness 64 = .ok (.ldc 140, 2) := by decide +kernel
theorem dX5_fullness_66 : decode cX5_fullness 66 = .ok (.fdiv, 1) := by decide +kernel
theorem dX5_fullness_67 : decode cX5_fullness 67 = .ok (.freturn, 1) := by decide +kernel
set_option maxRecDepth 20000 in
theorem ggX5_oldest_X5_oldestNow : GoodIn wsX5_oldest wsX5_oldestNow := goodIn_r _ [6, 7, 8, 9, 10, 11, 12, 13, 14, 5, 15, 16, 17, 18, 19, 20, 21, 22, 23, 24, 25, 26, 27, 28, 29, 30, 31, 32, 33, 34, 35, 36, 37, 38, 39] (by decide +kernel) (by decide +kernel)
set_option maxRecDepth 20000 in
theorem gX5_oldest_X5_oldestNow : GoodIn wsX5_oldest (wsV RX5 80 RX5 yX5_oldestNow wsX5_oldestNow) := goodIn_app (goodIn_of _ (by decide +kernel)) ggX5_oldest_X5_oldestNow
theorem dX5_oldest_0 : decode cX5_oldest 0 = .ok (.aload_n 0, 1) := by decide +kernel
theorem dX5_oldest_1 : decode cX5_oldest 1 = .ok (.iconst 0, 1) := by decide +kernel
theorem dX5_oldest_2 : decode cX5_oldest 2 = .ok (.putfield 55, 3) := by decide +kernel
theorem dX5_oldest_5 : decode cX5_oldest 5 = .ok (.aload_n 0, 1) := by decide +kernel
theorem dX5_oldest_6 : decode cX5_oldest 6 = .ok (.invokevirtual 80, 3) := by decide +kernel
theorem dX5_oldest_9 : decode cX5_oldest 9 = .ok (.ireturn, 1) := by decide +kernel
theorem dJ13_bitCount_95d88_0 : decode cJ13_bitCount_95d88 0 = .ok (.lload_n 0, 1) := by decide +kernel
theorem dJ13_bitCount_95d88_1 : decode cJ13_bitCount_95d88 1 = .ok (.lload_n 0, 1) := by decide +kernel
theorem dJ13_bitCount_95d88_2 : decode cJ13_bitCount_95d88 2 = .ok (.iconst 1, 1) := by decide +kernel
theorem dJ13_bitCount_95d88_3 : decode cJ13_bitCount_95d88 3 = .ok (.lushr, 1) := by decide +kernel
theorem dJ13_bitCount_95d88_4 : decode cJ13_bitCount_95d88 4 = .ok (.ldc2_w 314, 3) := by decide +kernel
theorem dJ13_bitCount_95d88_7 : decode cJ13_bitCount_95d88 7 = .ok (.land, 1) := by decide +kernel
theorem dJ13_bitCount_95d88_8 : decode cJ13_bitCount_95d88 8 = .ok (.lsub, 1) := by decide +kernel
theorem dJ13_bitCount_95d88_9 : decode cJ13_bitCount_95d88 9 = .ok (.lstore_n 0, 1) := by decide +kernel
theorem dJ13_bitCount_95d88_10 : decode cJ13_bitCount_95d88 10 = .ok (.lload_n 0, 1) := by decide +kernel
theorem dJ13_bitCount_95d88_11 : decode cJ13_bitCount_95d88 11 = .ok (.ldc2_w 316, 3) := by decide +kernel
theorem dJ13_bitCount_95d88_14 : decode cJ13_bitCount_95d88 14 = .ok (.land, 1) := by decide +kernel
theorem dJ13_bitCount_95d88_15 : decode cJ13_bitCount_95d88 15 = .ok (.lload_n 0, 1) := by decide +kernel
theorem dJ13_bitCount_95d88_16 : decode cJ13_bitCount_95d88 16 = .ok (.iconst 2, 1) := by decide +kernel
theorem dJ13_bitCount_95d88_17 : decode cJ13_bitCount_95d88 17 = .ok (.lushr, 1) := by decide +kernel
theorem dJ13_bitCount_95d88_18 : decode cJ13_bitCount_95d88 18 = .ok (.ldc2_w 316, 3) := by decide +kernel
theorem dJ13_bitCount_95d88_21 : decode cJ13_bitCount_95d88 21 = .ok (.land, 1) := by decide +kernel
theorem dJ13_bitCount_95d88_22 : decode cJ13_bitCount_95d88 22 = .ok (.ladd, 1) := by decide +kernel
theorem dJ13_bitCount_95d88_23 : decode cJ13_bitCount_95d88 23 = .ok (.lstore_n 0, 1) := by decide +kernel
theorem dJ13_bitCount_95d88_24 : decode cJ13_bitCount_95d88 24 = .ok (.lload_n 0, 1) := by decide +kernel
theorem dJ13_bitCount_95d88_25 : decode cJ13_bitCount_95d88 25 = .ok (.lload_n 0, 1) := by decide +kernel
theorem dJ13_bitCount_95d88_26 : decode cJ13_bitCount_95d88 26 = .ok (.iconst 4, 1) := by decide +kernel
theorem dJ13_bitCount_95d88_27 : decode cJ13_bitCount_95d88 27 = .ok (.lushr, 1) := by decide +kernel
theorem dJ13_bitCount_95d88_28 : decode cJ13_bitCount_95d88 28 = .ok (.ladd, 1) := by decide +kernel
theorem dJ13_bitCount_95d88_29 : decode cJ13_bitCount_95d88 29 = .ok (.ldc2_w 318, 3) := by decide +kernel
theorem dJ13_bitCount_95d88_32 : decode cJ13_bitCount_95d88 32 = .ok (.land, 1) := by decide +kernel
theorem dJ13_bitCount_95d88_33 : decode cJ13_bitCount_95d88 33 = .ok (.lstore_n 0, 1) := by decide +kernel
theorem dJ13_bitCount_95d88_34 : decode cJ13_bitCount_95d88 34 = .ok (.lload_n 0, 1) := by decide +kernel
theorem dJ13_bitCount_95d88_35 : decode cJ13_bitCount_95d88 35 = .ok (.lload_n 0, 1) := by decide +kernel
theorem dJ13_bitCount_95d88_36 : decode cJ13_bitCount_95d88 36 = .ok (.bipush 8, 2) := by decide +kernel
theorem dJ13_bitCount_95d88_38 : decode cJ13_bitCount_95d88 38 = .ok (.lushr, 1) := by decide +kernel
theorem dJ13_bitCount_95d88_39 : decode cJ13_bitCount_95d88 39 = .ok (.ladd, 1) := by decide +kernel
theorem dJ13_bitCount_95d88_40 : decode cJ13_bitCount_95d88 40 = .ok (.lstore_n 0, 1) := by decide +kernel
theorem dJ13_bitCount_95d88_41 : decode cJ13_bitCount_95d88 41 = .ok (.lload_n 0, 1) := by decide +kernel
theorem dJ13_bitCount_95d88_42 : decode cJ13_bitCount_95d88 42 = .ok (.lload_n 0, 1) := by decide +kernel
theorem dJ13_bitCount_95d88_43 : decode cJ13_bitCount_95d88 43 = .ok (.bipush 16, 2) := by decide +kernel
theorem dJ13_bitCount_95d88_45 : decode cJ13_bitCount_95d88 45 = .ok (.lushr, 1) := by decide +kernel
theorem dJ13_bitCount_95d88_46 : decode cJ13_bitCount_95d88 46 = .ok (.ladd, 1) := by decide +kernel
theorem dJ13_bitCount_95d88_47 : decode cJ13_bitCount_95d88 47 = .ok (.lstore_n 0, 1) := by decide +kernel
theorem dJ13_bitCount_95d88_48 : decode cJ13_bitCount_95d88 48 = .ok (.lload_n 0, 1) := by decide +kernel
theorem dJ13_bitCount_95d88_49 : decode cJ13_bitCount_95d88 49 = .ok (.lload_n 0, 1) := by decide +kernel
theorem dJ13_bitCount_95d88_50 : decode cJ13_bitCount_95d88 50 = .ok (.bipush 32, 2) := by decide +kernel
theorem dJ13_bitCount_95d88_52 : decode cJ13_bitCount_95d88 52 = .ok (.lushr, 1) := by decide +kernel
theorem dJ13_bitCount_95d88_53 : decode cJ13_bitCount_95d88 53 = .ok (.ladd, 1) := by decide +kernel
theorem dJ13_bitCount_95d88_54 : decode cJ13_bitCount_95d88 54 = .ok (.lstore_n 0, 1) := by decide +kernel
theorem dJ13_bitCount_95d88_55 : decode cJ13_bitCount_95d88 55 = .ok (.lload_n 0, 1) := by decide +kernel
theorem dJ13_bitCount_95d88_56 : decode cJ13_bitCount_95d88 56 = .ok (.l2i, 1) := by decide +kernel
theorem dJ13_bitCount_95d88_57 : decode cJ13_bitCount_95d88 57 = .ok (.bipush 127, 2) := by decide +kernel
theorem dJ13_bitCount_95d88_59 : decode cJ13_bitCount_95d88 59 = .ok (.iand, 1) := by decide +kernel
theorem dJ13_bitCount_95d88_60 : decode cJ13_bitCount_95d88 60 = .ok (.ireturn, 1) := by decide +kernel
theorem dJ9_floorMod_7cf53_0 : decode cJ9_floorMod_7cf53 0 = .ok (.iload_n 0, 1) := by decide +kernel
theorem dJ9_floorMod_7cf53_1 : decode cJ9_floorMod_7cf53 1 = .ok (.iload_n 1, 1) := by decide +kernel
theorem dJ9_floorMod_7cf53_2 : decode cJ9_floorMod_7cf53 2 = .ok (.irem, 1) := by decide +kernel
theorem dJ9_floorMod_7cf53_3 : decode cJ9_floorMod_7cf53 3 = .ok (.istore_n 2, 1) := by decide +kernel
theorem dJ9_floorMod_7cf53_4 : decode cJ9_floorMod_7cf53 4 = .ok (.iload_n 0, 1) := by decide +kernel
theorem dJ9_floorMod_7cf53_5 : decode cJ9_floorMod_7cf53 5 = .ok (.iload_n 1, 1) := by decide +kernel
theorem dJ9_floorMod_7cf53_6 : decode cJ9_floorMod_7cf53 6 = .ok (.ixor, 1) := by decide +kernel
theorem dJ9_floorMod_7cf53_7 : decode cJ9_floorMod_7cf53 7 = .ok (.ifCond .ge 11, 3) := by decide +kernel
theorem dJ9_floorMod_7cf53_10 : decode cJ9_floorMod_7cf53 10 = .ok (.iload_n 2, 1) := by decide +kernel
theorem dJ9_floorMod_7cf53_11 : decode cJ9_floorMod_7cf53 11 = .ok (.ifCond .eq 7, 3) := by decide +kernel
theorem dJ9_floorMod_7cf53_14 : decode cJ9_floorMod_7cf53 14 = .ok (.iload_n 2, 1) := by decide +kernel
theorem dJ9_floorMod_7cf53_15 : decode cJ9_floorMod_7cf53 15 = .ok (.iload_n 1, 1) := by decide +kernel
theorem dJ9_floorMod_7cf53_16 : decode cJ9_floorMod_7cf53 16 = .ok (.iadd, 1) := by decide +kernel
theorem dJ9_floorMod_7cf53_17 : decode cJ9_floorMod_7cf53 17 = .ok (.ireturn, 1) := by decide +kernel
theorem dJ9_floorMod_7cf53_18 : decode cJ9_floorMod_7cf53 18 = .ok (.iload_n 2, 1) := by decide +kernel
theorem dJ9_floorMod_7cf53_19 : decode cJ9_floorMod_7cf53 19 = .ok (.ireturn, 1) := by decide +kernel
theorem dJ9_max_7cf53_0 : decode cJ9_max_7cf53 0 = .ok (.iload_n 0, 1) := by decide +kernel
theorem dJ9_max_7cf53_1 : decode cJ9_max_7cf53 1 = .ok (.iload_n 1, 1) := by decide +kernel
theorem dJ9_max_7cf53_2 : decode cJ9_max_7cf53 2 = .ok (.if_icmp .lt 7, 3) := by decide +kernel
theorem dJ9_max_7cf53_5 : decode cJ9_max_7cf53 5 = .ok (.iload_n 0, 1) := by decide +kernel
theorem dJ9_max_7cf53_6 : decode cJ9_max_7cf53 6 = .ok (.goto 4, 3) := by decide +kernel
theorem dJ9_max_7cf53_9 : decode cJ9_max_7cf53 9 = .ok (.iload_n 1, 1) := by decide +kernel
theorem dJ9_max_7cf53_10 : decode cJ9_max_7cf53 10 = .ok (.ireturn, 1) := by decide +kernel
set_option maxRecDepth 20000 in
theorem ggL_begin_X4_begin : GoodIn wsL_begin wsX4_begin := goodIn_ca (goodIn_r _ [6, 7, 8, 9, 10, 11, 12, 13, 14, 15, 16, 17, 18, 5, 19, 20, 21, 22, 23, 24, 25, 26, 27, 28, 29, 30, 31, 32, 33, 34, 35, 36, 37, 38, 39, 40, 41, 42, 43, 44, 45, 46, 47, 48, 49, 50, 51, 52, 53, 54, 55, 56, 57, 58, 59, 60, 61, 62, 63, 64, 65, 66, 67, 68, 69, 70, 71, 72, 73, 74, 75, 76, 77, 78, 79, 80, 81, 82, 83, 84, 85, 86, 87, 88, 89, 90, 91, 92, 93, 94, 95] (by decide +kernel) (by decide +kernel)) (goodIn_sub (fun _ h => List.mem_cons_of_mem _ (List.mem_append_right _ h)) (by decide +kernel))
set_option maxRecDepth 20000 in
theorem gL_begin_X4_begin : GoodIn wsL_begin (wsV RL 7 RX4 yX4_begin wsX4_begin) := goodIn_app (goodIn_of _ (by decide +kernel)) ggL_begin_X4_begin
