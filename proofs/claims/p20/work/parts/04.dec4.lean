theorem dX4_init_0 : decode cX4_init 0 = .ok (.aload_n 0, 1) := by decide +kernel
theorem dX4_init_1 : decode cX4_init 1 = .ok (.invokespecial 3, 3) := by decide +kernel
theorem dX4_init_4 : decode cX4_init 4 = .ok (.aload_n 0, 1) := by decide +kernel
theorem dX4_init_5 : decode cX4_init 5 = .ok (.new 9, 3) := by decide +kernel
theorem dX4_init_8 : decode cX4_init 8 = .ok (.dup, 1) := by decide +kernel
theorem dX4_init_9 : decode cX4_init 9 = .ok (.invokespecial 11, 3) := by decide +kernel
theorem dX4_init_12 : decode cX4_init 12 = .ok (.putfield 12, 3) := by decide +kernel
theorem dX4_init_15 : decode cX4_init 15 = .ok (.aload_n 0, 1) := by decide +kernel
theorem dX4_init_16 : decode cX4_init 16 = .ok (.new 16, 3) := by decide +kernel
theorem dX4_init_19 : decode cX4_init 19 = .ok (.dup, 1) := by decide +kernel
theorem dX4_init_20 : decode cX4_init 20 = .ok (.invokespecial 18, 3) := by decide +kernel
theorem dX4_init_23 : decode cX4_init 23 = .ok (.putfield 19, 3) := by decide +kernel
theorem dX4_init_26 : decode cX4_init 26 = .ok (.aload_n 0, 1) := by decide +kernel
theorem dX4_init_27 : decode cX4_init 27 = .ok (.new 23, 3) := by decide +kernel
theorem dX4_init_30 : decode cX4_init 30 = .ok (.dup, 1) := by decide +kernel
theorem dX4_init_31 : decode cX4_init 31 = .ok (.invokespecial 25, 3) := by decide +kernel
theorem dX4_init_34 : decode cX4_init 34 = .ok (.putfield 26, 3) := by decide +kernel
theorem dX4_init_37 : decode cX4_init 37 = .ok (.aload_n 0, 1) := by decide +kernel
theorem dX4_init_38 : decode cX4_init 38 = .ok (.new 30, 3) := by decide +kernel
theorem dX4_init_41 : decode cX4_init 41 = .ok (.dup, 1) := by decide +kernel
theorem dX4_init_42 : decode cX4_init 42 = .ok (.invokespecial 32, 3) := by decide +kernel
theorem dX4_init_45 : decode cX4_init 45 = .ok (.putfield 33, 3) := by decide +kernel
theorem dX4_init_48 : decode cX4_init 48 = .ok (.aload_n 0, 1) := by decide +kernel
theorem dX4_init_49 : decode cX4_init 49 = .ok (.iconst 4, 1) := by decide +kernel
theorem dX4_init_50 : decode cX4_init 50 = .ok (.newarray .boolean, 2) := by decide +kernel
theorem dX4_init_52 : decode cX4_init 52 = .ok (.putfield 37, 3) := by decide +kernel
theorem dX4_init_55 : decode cX4_init 55 = .ok (.aload_n 0, 1) := by decide +kernel
theorem dX4_init_56 : decode cX4_init 56 = .ok (.bipush 20, 2) := by decide +kernel
theorem dX4_init_58 : decode cX4_init 58 = .ok (.putfield 41, 3) := by decide +kernel
theorem dX4_init_61 : decode cX4_init 61 = .ok (.return_, 1) := by decide +kernel
set_option maxRecDepth 20000 in
theorem ggX4_begin_X3_areAllUsed : GoodIn wsX4_begin wsX3_areAllUsed := goodIn_r _ [8, 9, 76, 77, 78, 79, 80, 81] (by decide +kernel) (by decide +kernel)
set_option maxRecDepth 20000 in
theorem gX4_begin_X3_areAllUsed : GoodIn wsX4_begin (wsV RX4 45 RX3 yX3_areAllUsed wsX3_areAllUsed) := goodIn_app (goodIn_of _ (by decide +kernel)) ggX4_begin_X3_areAllUsed
set_option maxRecDepth 20000 in
theorem ggX4_begin_X4_oldest : GoodIn wsX4_begin wsX4_oldest := goodIn_r _ [14, 3, 15, 16, 17, 18, 19, 20, 21, 22, 23, 24, 25, 7, 26, 9, 27, 28, 29, 30, 31, 32, 33, 34, 35, 36, 37, 38, 39, 40, 41, 42, 13, 43, 44, 45, 46, 47, 48, 49, 50, 51, 52, 53, 54, 55, 56, 57, 58, 59, 70, 71, 72, 73, 74, 75, 82, 83, 84, 85, 86, 87, 88, 89, 90, 76, 77, 78, 79, 80, 81] (by decide +kernel) (by decide +kernel)
set_option maxRecDepth 20000 in
theorem gX4_begin_X4_oldest : GoodIn wsX4_begin (wsV RX4 56 RX4 yX4_oldest wsX4_oldest) := goodIn_app (goodIn_of _ (by decide +kernel)) ggX4_begin_X4_oldest
set_option maxRecDepth 20000 in
theorem ggX4_begin_X3_start : GoodIn wsX4_begin wsX3_start := goodIn_r _ [63, 9, 27, 41, 64, 65, 33, 66, 67, 68, 7, 69, 76, 77, 78, 79, 80, 81] (by decide +kernel) (by decide +kernel)
set_option maxRecDepth 20000 in
theorem gX4_begin_X3_start : GoodIn wsX4_begin (wsV RX4 62 RX3 yX3_start wsX3_start) := goodIn_app (goodIn_of _ (by decide +kernel)) ggX4_begin_X3_start
theorem dX4_begin_0 : decode cX4_begin 0 = .ok (.aload_n 0, 1) := by decide +kernel
theorem dX4_begin_1 : decode cX4_begin 1 = .ok (.getfield 12, 3) := by decide +kernel
theorem dX4_begin_4 : decode cX4_begin 4 = .ok (.invokevirtual 45, 3) := by decide +kernel
theorem dX4_begin_7 : decode cX4_begin 7 = .ok (.ifCond .eq 13, 3) := by decide +kernel
theorem dX4_begin_10 : decode cX4_begin 10 = .ok (.new 49, 3) := by decide +kernel
theorem dX4_begin_13 : decode cX4_begin 13 = .ok (.dup, 1) := by decide +kernel
theorem dX4_begin_14 : decode cX4_begin 14 = .ok (.ldc 51, 2) := by decide +kernel
theorem dX4_begin_16 : decode cX4_begin 16 = .ok (.invokespecial 53, 3) := by decide +kernel
theorem dX4_begin_19 : decode cX4_begin 19 = .ok (.athrow, 1) := by decide +kernel
theorem dX4_begin_20 : decode cX4_begin 20 = .ok (.aload_n 0, 1) := by decide +kernel
theorem dX4_begin_21 : decode cX4_begin 21 = .ok (.invokevirtual 56, 3) := by decide +kernel
theorem dX4_begin_24 : decode cX4_begin 24 = .ok (.bipush 28, 2) := by decide +kernel
theorem dX4_begin_26 : decode cX4_begin 26 = .ok (.if_icmp .lt 13, 3) := by decide +kernel
theorem dX4_begin_29 : decode cX4_begin 29 = .ok (.new 49, 3) := by decide +kernel
theorem dX4_begin_32 : decode cX4_begin 32 = .ok (.dup, 1) := by decide +kernel
theorem dX4_begin_33 : decode cX4_begin 33 = .ok (.ldc 60, 2) := by decide +kernel
theorem dX4_begin_35 : decode cX4_begin 35 = .ok (.invokespecial 53, 3) := by decide +kernel
theorem dX4_begin_38 : decode cX4_begin 38 = .ok (.athrow, 1) := by decide +kernel
theorem dX4_begin_39 : decode cX4_begin 39 = .ok (.aload_n 0, 1) := by decide +kernel
theorem dX4_begin_40 : decode cX4_begin 40 = .ok (.getfield 12, 3) := by decide +kernel
theorem dX4_begin_43 : decode cX4_begin 43 = .ok (.invokevirtual 62, 3) := by decide +kernel
theorem dX4_begin_46 : decode cX4_begin 46 = .ok (.ireturn, 1) := by decide +kernel
set_option maxRecDepth 20000 in
theorem ggX4_end_X4_checkTransaction : GoodIn wsX4_end wsX4_checkTransaction := goodIn_ca (goodIn_r _ [8, 9, 10, 1, 11, 12, 13, 14, 15, 16, 61, 62, 63, 64, 65, 66, 67, 68, 69, 70, 71, 72] (by decide +kernel) (by decide +kernel)) (goodIn_sub (fun _ h => List.mem_cons_of_mem _ (List.mem_append_left _ (List.mem_append_right _ h))) (by decide +kernel))
set_option maxRecDepth 20000 in
theorem gX4_end_X4_checkTransaction : GoodIn wsX4_end (wsV RX4 65 RX4 yX4_checkTransaction wsX4_checkTransaction) := goodIn_app (goodIn_of _ (by decide +kernel)) ggX4_end_X4_checkTransaction
set_option maxRecDepth 20000 in
theorem ggX4_end_X4_checkActive : GoodIn wsX4_end wsX4_checkActive := goodIn_ca (goodIn_r _ [20, 21, 22, 1, 23, 24, 25, 14, 26, 27, 28, 29, 30, 61, 62, 63, 64, 65, 66, 67, 68, 69, 70, 71, 72] (by decide +kernel) (by decide +kernel)) (goodIn_sub (fun _ h => List.mem_cons_of_mem _ (List.mem_append_right _ h)) (by decide +kernel))
set_option maxRecDepth 20000 in
theorem gX4_end_X4_checkActive : GoodIn wsX4_end (wsV RX4 69 RX4 yX4_checkActive wsX4_checkActive) := goodIn_app (goodIn_of _ (by decide +kernel)) ggX4_end_X4_checkActive
set_option maxRecDepth 20000 in
theorem ggX4_end_X3_finish : GoodIn wsX4_end wsX3_finish := goodIn_r _ [34, 27, 35, 36, 67, 68, 69, 70, 71, 72] (by decide +kernel) (by decide +kernel)
set_option maxRecDepth 20000 in
theorem gX4_end_X3_finish : GoodIn wsX4_end (wsV RX4 72 RX3 yX3_finish wsX3_finish) := goodIn_app (goodIn_of _ (by decide +kernel)) ggX4_end_X3_finish
set_option maxRecDepth 20000 in
theorem ggX4_end_X1_takeOffDeaths : GoodIn wsX4_end wsX1_takeOffDeaths := goodIn_r _ [41, 42, 73, 74, 75, 76, 77, 78, 79, 80, 81] (by decide +kernel) (by decide +kernel)
set_option maxRecDepth 20000 in
theorem gX4_end_X1_takeOffDeaths : GoodIn wsX4_end (wsV RX4 76 RX1 yX1_takeOffDeaths wsX1_takeOffDeaths) := goodIn_app (goodIn_of _ (by decide +kernel)) ggX4_end_X1_takeOffDeaths
set_option maxRecDepth 20000 in
theorem ggX4_end_X2_takeOffDeaths : GoodIn wsX4_end wsX2_takeOffDeaths := goodIn_r _ [47, 48, 49, 82, 83, 84, 85, 86] (by decide +kernel) (by decide +kernel)
set_option maxRecDepth 20000 in
theorem gX4_end_X2_takeOffDeaths : GoodIn wsX4_end (wsV RX4 79 RX2 yX2_takeOffDeaths wsX2_takeOffDeaths) := goodIn_app (goodIn_of _ (by decide +kernel)) ggX4_end_X2_takeOffDeaths
set_option maxRecDepth 20000 in
theorem ggX4_end_X3_activeCount : GoodIn wsX4_end wsX3_activeCount := goodIn_r _ [53, 27, 54, 55, 56, 57, 58, 59, 60, 67, 68, 69, 70, 71, 72] (by decide +kernel) (by decide +kernel)
set_option maxRecDepth 20000 in
theorem gX4_end_X3_activeCount : GoodIn wsX4_end (wsV RX4 80 RX3 yX3_activeCount wsX3_activeCount) := goodIn_app (goodIn_of _ (by decide +kernel)) ggX4_end_X3_activeCount
theorem dX4_end_0 : decode cX4_end 0 = .ok (.aload_n 0, 1) := by decide +kernel
theorem dX4_end_1 : decode cX4_end 1 = .ok (.iload_n 1, 1) := by decide +kernel
theorem dX4_end_2 : decode cX4_end 2 = .ok (.invokevirtual 65, 3) := by decide +kernel
theorem dX4_end_5 : decode cX4_end 5 = .ok (.aload_n 0, 1) := by decide +kernel
theorem dX4_end_6 : decode cX4_end 6 = .ok (.iload_n 1, 1) := by decide +kernel
theorem dX4_end_7 : decode cX4_end 7 = .ok (.invokevirtual 69, 3) := by decide +kernel
theorem dX4_end_10 : decode cX4_end 10 = .ok (.aload_n 0, 1) := by decide +kernel
theorem dX4_end_11 : decode cX4_end 11 = .ok (.getfield 12, 3) := by decide +kernel
theorem dX4_end_14 : decode cX4_end 14 = .ok (.iload_n 1, 1) := by decide +kernel
theorem dX4_end_15 : decode cX4_end 15 = .ok (.iload_n 2, 1) := by decide +kernel
theorem dX4_end_16 : decode cX4_end 16 = .ok (.invokevirtual 72, 3) := by decide +kernel
theorem dX4_end_19 : decode cX4_end 19 = .ok (.iload_n 2, 1) := by decide +kernel
theorem dX4_end_20 : decode cX4_end 20 = .ok (.ifCond .ne 19, 3) := by decide +kernel
theorem dX4_end_23 : decode cX4_end 23 = .ok (.aload_n 0, 1) := by decide +kernel
theorem dX4_end_24 : decode cX4_end 24 = .ok (.getfield 19, 3) := by decide +kernel
theorem dX4_end_27 : decode cX4_end 27 = .ok (.iload_n 1, 1) := by decide +kernel
theorem dX4_end_28 : decode cX4_end 28 = .ok (.invokevirtual 76, 3) := by decide +kernel
theorem dX4_end_31 : decode cX4_end 31 = .ok (.aload_n 0, 1) := by decide +kernel
theorem dX4_end_32 : decode cX4_end 32 = .ok (.getfield 33, 3) := by decide +kernel
theorem dX4_end_35 : decode cX4_end 35 = .ok (.iload_n 1, 1) := by decide +kernel
theorem dX4_end_36 : decode cX4_end 36 = .ok (.invokevirtual 79, 3) := by decide +kernel
theorem dX4_end_39 : decode cX4_end 39 = .ok (.aload_n 0, 1) := by decide +kernel
theorem dX4_end_40 : decode cX4_end 40 = .ok (.getfield 12, 3) := by decide +kernel
theorem dX4_end_43 : decode cX4_end 43 = .ok (.invokevirtual 80, 3) := by decide +kernel
theorem dX4_end_46 : decode cX4_end 46 = .ok (.ireturn, 1) := by decide +kernel
set_option maxRecDepth 20000 in
theorem ggX4_jump_X4_oldest : GoodIn wsX4_jump wsX4_oldest := goodIn_r _ [10, 5, 11, 12, 13, 14, 15, 16, 17, 18, 19, 20, 21, 22, 23, 24, 25, 26, 27, 28, 29, 30, 31, 32, 33, 34, 35, 36, 37, 38, 39, 40, 9, 41, 42, 43, 44, 45, 46, 47, 48, 49, 50, 51, 52, 53, 54, 55, 56, 57, 62, 63, 64, 65, 66, 67, 68, 69, 70, 71, 72, 73, 74, 75, 76, 77, 78, 79, 80, 81, 82] (by decide +kernel) (by decide +kernel)
set_option maxRecDepth 20000 in
theorem gX4_jump_X4_oldest : GoodIn wsX4_jump (wsV RX4 56 RX4 yX4_oldest wsX4_oldest) := goodIn_app (goodIn_of _ (by decide +kernel)) ggX4_jump_X4_oldest
set_option maxRecDepth 20000 in
theorem ggX4_jump_X3_skip : GoodIn wsX4_jump wsX3_skip := goodIn_r _ [61, 39, 77, 78, 79, 80, 81, 82] (by decide +kernel) (by decide +kernel)
set_option maxRecDepth 20000 in
theorem gX4_jump_X3_skip : GoodIn wsX4_jump (wsV RX4 90 RX3 yX3_skip wsX3_skip) := goodIn_app (goodIn_of _ (by decide +kernel)) ggX4_jump_X3_skip
theorem dX4_jump_0 : decode cX4_jump 0 = .ok (.iload_n 1, 1) := by decide +kernel
theorem dX4_jump_1 : decode cX4_jump 1 = .ok (.iconst 1, 1) := by decide +kernel
theorem dX4_jump_2 : decode cX4_jump 2 = .ok (.if_icmp .lt 9, 3) := by decide +kernel
theorem dX4_jump_5 : decode cX4_jump 5 = .ok (.iload_n 1, 1) := by decide +kernel
theorem dX4_jump_6 : decode cX4_jump 6 = .ok (.bipush 20, 2) := by decide +kernel
theorem dX4_jump_8 : decode cX4_jump 8 = .ok (.if_icmp .le 13, 3) := by decide +kernel
theorem dX4_jump_11 : decode cX4_jump 11 = .ok (.new 83, 3) := by decide +kernel
theorem dX4_jump_14 : decode cX4_jump 14 = .ok (.dup, 1) := by decide +kernel
theorem dX4_jump_15 : decode cX4_jump 15 = .ok (.ldc 85, 2) := by decide +kernel
theorem dX4_jump_17 : decode cX4_jump 17 = .ok (.invokespecial 87, 3) := by decide +kernel
theorem dX4_jump_20 : decode cX4_jump 20 = .ok (.athrow, 1) := by decide +kernel
theorem dX4_jump_21 : decode cX4_jump 21 = .ok (.aload_n 0, 1) := by decide +kernel
theorem dX4_jump_22 : decode cX4_jump 22 = .ok (.invokevirtual 56, 3) := by decide +kernel
theorem dX4_jump_25 : decode cX4_jump 25 = .ok (.istore_n 2, 1) := by decide +kernel
theorem dX4_jump_26 : decode cX4_jump 26 = .ok (.iload_n 2, 1) := by decide +kernel
theorem dX4_jump_27 : decode cX4_jump 27 = .ok (.ifCond .le 21, 3) := by decide +kernel
theorem dX4_jump_30 : decode cX4_jump 30 = .ok (.iload_n 2, 1) := by decide +kernel
theorem dX4_jump_31 : decode cX4_jump 31 = .ok (.iload_n 1, 1) := by decide +kernel
theorem dX4_jump_32 : decode cX4_jump 32 = .ok (.iadd, 1) := by decide +kernel
theorem dX4_jump_33 : decode cX4_jump 33 = .ok (.bipush 32, 2) := by decide +kernel
theorem dX4_jump_35 : decode cX4_jump 35 = .ok (.if_icmp .lt 13, 3) := by decide +kernel
theorem dX4_jump_38 : decode cX4_jump 38 = .ok (.new 49, 3) := by decide +kernel
theorem dX4_jump_41 : decode cX4_jump 41 = .ok (.dup, 1) := by decide +kernel
theorem dX4_jump_42 : decode cX4_jump 42 = .ok (.ldc 88, 2) := by decide +kernel
theorem dX4_jump_44 : decode cX4_jump 44 = .ok (.invokespecial 53, 3) := by decide +kernel
theorem dX4_jump_47 : decode cX4_jump 47 = .ok (.athrow, 1) := by decide +kernel
theorem dX4_jump_48 : decode cX4_jump 48 = .ok (.aload_n 0, 1) := by decide +kernel
theorem dX4_jump_49 : decode cX4_jump 49 = .ok (.getfield 12, 3) := by decide +kernel
theorem dX4_jump_52 : decode cX4_jump 52 = .ok (.iload_n 1, 1) := by decide +kernel
theorem dX4_jump_53 : decode cX4_jump 53 = .ok (.invokevirtual 90, 3) := by decide +kernel
theorem dX4_jump_56 : decode cX4_jump 56 = .ok (.ireturn, 1) := by decide +kernel
set_option maxRecDepth 20000 in
theorem ggX4_isBefore_X4_checkStamp : GoodIn wsX4_isBefore wsX4_checkStamp := goodIn_ca (goodIn_r _ [4, 5, 6] (by decide +kernel) (by decide +kernel)) (goodIn_sub (fun _ h => List.mem_cons_of_mem _ (List.mem_append_right _ h)) (by decide +kernel))
set_option maxRecDepth 20000 in
theorem gX4_isBefore_X4_checkStamp : GoodIn wsX4_isBefore (va_wsS RX4 98 yX4_checkStamp wsX4_checkStamp) := goodIn_app (goodIn_of _ (by decide +kernel)) ggX4_isBefore_X4_checkStamp
set_option maxRecDepth 20000 in
theorem ggX4_isBefore_X4_distance : GoodIn wsX4_isBefore wsX4_distance := goodIn_r _ [9, 10, 11, 12, 13] (by decide +kernel) (by decide +kernel)
set_option maxRecDepth 20000 in
theorem gX4_isBefore_X4_distance : GoodIn wsX4_isBefore (va_wsS RX4 101 yX4_distance wsX4_distance) := goodIn_app (goodIn_of _ (by decide +kernel)) ggX4_isBefore_X4_distance
theorem dX4_isBefore_0 : decode cX4_isBefore 0 = .ok (.iload_n 1, 1) := by decide +kernel
theorem dX4_isBefore_1 : decode cX4_isBefore 1 = .ok (.invokestatic 98, 3) := by decide +kernel
theorem dX4_isBefore_4 : decode cX4_isBefore 4 = .ok (.iload_n 2, 1) := by decide +kernel
theorem dX4_isBefore_5 : decode cX4_isBefore 5 = .ok (.invokestatic 98, 3) := by decide +kernel
theorem dX4_isBefore_8 : decode cX4_isBefore 8 = .ok (.iload_n 1, 1) := by decide +kernel
theorem dX4_isBefore_9 : decode cX4_isBefore 9 = .ok (.iload_n 2, 1) := by decide +kernel
theorem dX4_isBefore_10 : decode cX4_isBefore 10 = .ok (.if_icmp .eq 17, 3) := by decide +kernel
theorem dX4_isBefore_13 : decode cX4_isBefore 13 = .ok (.iload_n 1, 1) := by decide +kernel
theorem dX4_isBefore_14 : decode cX4_isBefore 14 = .ok (.iload_n 2, 1) := by decide +kernel
theorem dX4_isBefore_15 : decode cX4_isBefore 15 = .ok (.invokestatic 101, 3) := by decide +kernel
theorem dX4_isBefore_18 : decode cX4_isBefore 18 = .ok (.bipush 32, 2) := by decide +kernel
theorem dX4_isBefore_20 : decode cX4_isBefore 20 = .ok (.if_icmp .ge 7, 3) := by decide +kernel
theorem dX4_isBefore_23 : decode cX4_isBefore 23 = .ok (.iconst 1, 1) := by decide +kernel
theorem dX4_isBefore_24 : decode cX4_isBefore 24 = .ok (.goto 4, 3) := by decide +kernel
theorem dX4_isBefore_27 : decode cX4_isBefore 27 = .ok (.iconst 0, 1) := by decide +kernel
theorem dX4_isBefore_28 : decode cX4_isBefore 28 = .ok (.ireturn, 1) := by decide +kernel
set_option maxRecDepth 20000 in
theorem ggX4_read_X4_checkTransaction : GoodIn wsX4_read wsX4_checkTransaction := goodIn_ca (goodIn_r _ [7, 8, 9, 10, 11, 12, 13, 14, 15, 16, 63, 64, 65, 66, 67, 68, 78, 79, 80, 81, 82, 83] (by decide +kernel) (by decide +kernel)) (goodIn_sub (fun _ h => List.mem_cons_of_mem _ (List.mem_append_left _ (List.mem_append_left _ (List.mem_append_right _ h)))) (by decide +kernel))
set_option maxRecDepth 20000 in
theorem gX4_read_X4_checkTransaction : GoodIn wsX4_read (wsV RX4 65 RX4 yX4_checkTransaction wsX4_checkTransaction) := goodIn_app (goodIn_of _ (by decide +kernel)) ggX4_read_X4_checkTransaction
set_option maxRecDepth 20000 in
theorem ggX4_read_X4_checkKey : GoodIn wsX4_read wsX4_checkKey := goodIn_ca (goodIn_r _ [19, 20, 21] (by decide +kernel) (by decide +kernel)) (goodIn_sub (fun _ h => List.mem_cons_of_mem _ (List.mem_append_left _ (List.mem_append_right _ h))) (by decide +kernel))
set_option maxRecDepth 20000 in
theorem gX4_read_X4_checkKey : GoodIn wsX4_read (va_wsS RX4 105 yX4_checkKey wsX4_checkKey) := goodIn_app (goodIn_of _ (by decide +kernel)) ggX4_read_X4_checkKey
set_option maxRecDepth 20000 in
theorem ggX4_read_X4_checkActive : GoodIn wsX4_read wsX4_checkActive := goodIn_ca (goodIn_r _ [25, 26, 27, 10, 28, 29, 30, 14, 31, 32, 33, 34, 35, 63, 64, 65, 66, 67, 68, 78, 79, 80, 81, 82, 83] (by decide +kernel) (by decide +kernel)) (goodIn_sub (fun _ h => List.mem_cons_of_mem _ (List.mem_append_right _ h)) (by decide +kernel))
set_option maxRecDepth 20000 in
theorem gX4_read_X4_checkActive : GoodIn wsX4_read (wsV RX4 69 RX4 yX4_checkActive wsX4_checkActive) := goodIn_app (goodIn_of _ (by decide +kernel)) ggX4_read_X4_checkActive
set_option maxRecDepth 20000 in
theorem ggX4_read_X4_seenPlace : GoodIn wsX4_read wsX4_seenPlace := goodIn_r _ [39, 40, 41, 42, 43, 44, 45, 6, 46, 1, 47, 48, 49, 50, 51, 52, 53, 54, 55, 10, 56, 57, 58, 59, 60, 14, 61, 62, 33, 34, 35, 63, 64, 65, 66, 67, 68, 84, 85, 69, 70, 71, 72, 73, 74, 75, 76, 77, 78, 79, 80, 81, 82, 83] (by decide +kernel) (by decide +kernel)
set_option maxRecDepth 20000 in
theorem gX4_read_X4_seenPlace : GoodIn wsX4_read (wsV RX4 108 RX4 yX4_seenPlace wsX4_seenPlace) := goodIn_app (goodIn_of _ (by decide +kernel)) ggX4_read_X4_seenPlace
set_option maxRecDepth 20000 in
theorem ggX4_read_X4_isPlace : GoodIn wsX4_read wsX4_isPlace := goodIn_r _ [50] (by decide +kernel) (by decide +kernel)
set_option maxRecDepth 20000 in
theorem gX4_read_X4_isPlace : GoodIn wsX4_read (va_wsS RX4 111 yX4_isPlace wsX4_isPlace) := goodIn_app (goodIn_of _ (by decide +kernel)) ggX4_read_X4_isPlace
theorem dX4_read_0 : decode cX4_read 0 = .ok (.aload_n 0, 1) := by decide +kernel
theorem dX4_read_1 : decode cX4_read 1 = .ok (.iload_n 1, 1) := by decide +kernel
theorem dX4_read_2 : decode cX4_read 2 = .ok (.invokevirtual 65, 3) := by decide +kernel
theorem dX4_read_5 : decode cX4_read 5 = .ok (.iload_n 2, 1) := by decide +kernel
theorem dX4_read_6 : decode cX4_read 6 = .ok (.invokestatic 105, 3) := by decide +kernel
theorem dX4_read_9 : decode cX4_read 9 = .ok (.aload_n 0, 1) := by decide +kernel
theorem dX4_read_10 : decode cX4_read 10 = .ok (.iload_n 1, 1) := by decide +kernel
theorem dX4_read_11 : decode cX4_read 11 = .ok (.invokevirtual 69, 3) := by decide +kernel
theorem dX4_read_14 : decode cX4_read 14 = .ok (.aload_n 0, 1) := by decide +kernel
theorem dX4_read_15 : decode cX4_read 15 = .ok (.iload_n 1, 1) := by decide +kernel
theorem dX4_read_16 : decode cX4_read 16 = .ok (.iload_n 2, 1) := by decide +kernel
theorem dX4_read_17 : decode cX4_read 17 = .ok (.invokevirtual 108, 3) := by decide +kernel
theorem dX4_read_20 : decode cX4_read 20 = .ok (.istore_n 3, 1) := by decide +kernel
theorem dX4_read_21 : decode cX4_read 21 = .ok (.iload_n 3, 1) := by decide +kernel
theorem dX4_read_22 : decode cX4_read 22 = .ok (.invokestatic 111, 3) := by decide +kernel
theorem dX4_read_25 : decode cX4_read 25 = .ok (.ifCond .eq 15, 3) := by decide +kernel
theorem dX4_read_28 : decode cX4_read 28 = .ok (.aload_n 0, 1) := by decide +kernel
theorem dX4_read_29 : decode cX4_read 29 = .ok (.getfield 19, 3) := by decide +kernel
theorem dX4_read_32 : decode cX4_read 32 = .ok (.getfield 115, 3) := by decide +kernel
theorem dX4_read_35 : decode cX4_read 35 = .ok (.iload_n 3, 1) := by decide +kernel
theorem dX4_read_36 : decode cX4_read 36 = .ok (.iaload, 1) := by decide +kernel
theorem dX4_read_37 : decode cX4_read 37 = .ok (.goto 4, 3) := by decide +kernel
theorem dX4_read_40 : decode cX4_read 40 = .ok (.iconst (-1), 1) := by decide +kernel
theorem dX4_read_41 : decode cX4_read 41 = .ok (.ireturn, 1) := by decide +kernel
set_option maxRecDepth 20000 in
theorem ggX4_readPlain_X4_checkTransaction : GoodIn wsX4_readPlain wsX4_checkTransaction := goodIn_ca (goodIn_r _ [12, 13, 14, 4, 15, 16, 17, 18, 19, 20, 45, 46, 47, 48, 49, 50, 56, 57, 58, 59, 60, 61] (by decide +kernel) (by decide +kernel)) (goodIn_sub (fun _ h => List.mem_cons_of_mem _ (List.mem_append_left _ (List.mem_append_left _ (List.mem_append_right _ h)))) (by decide +kernel))
set_option maxRecDepth 20000 in
theorem gX4_readPlain_X4_checkTransaction : GoodIn wsX4_readPlain (wsV RX4 65 RX4 yX4_checkTransaction wsX4_checkTransaction) := goodIn_app (goodIn_of _ (by decide +kernel)) ggX4_readPlain_X4_checkTransaction
set_option maxRecDepth 20000 in
theorem ggX4_readPlain_X4_checkKey : GoodIn wsX4_readPlain wsX4_checkKey := goodIn_ca (goodIn_r _ [23, 24, 25] (by decide +kernel) (by decide +kernel)) (goodIn_sub (fun _ h => List.mem_cons_of_mem _ (List.mem_append_left _ (List.mem_append_right _ h))) (by decide +kernel))
set_option maxRecDepth 20000 in
theorem gX4_readPlain_X4_checkKey : GoodIn wsX4_readPlain (va_wsS RX4 105 yX4_checkKey wsX4_checkKey) := goodIn_app (goodIn_of _ (by decide +kernel)) ggX4_readPlain_X4_checkKey
set_option maxRecDepth 20000 in
theorem ggX4_readPlain_X4_checkActive : GoodIn wsX4_readPlain wsX4_checkActive := goodIn_ca (goodIn_r _ [29, 30, 31, 4, 32, 33, 34, 18, 35, 36, 37, 38, 39, 45, 46, 47, 48, 49, 50, 56, 57, 58, 59, 60, 61] (by decide +kernel) (by decide +kernel)) (goodIn_sub (fun _ h => List.mem_cons_of_mem _ (List.mem_append_right _ h)) (by decide +kernel))
set_option maxRecDepth 20000 in
theorem gX4_readPlain_X4_checkActive : GoodIn wsX4_readPlain (wsV RX4 69 RX4 yX4_checkActive wsX4_checkActive) := goodIn_app (goodIn_of _ (by decide +kernel)) ggX4_readPlain_X4_checkActive
set_option maxRecDepth 20000 in
theorem ggX4_readPlain_X3_knows : GoodIn wsX4_readPlain wsX3_knows := goodIn_r _ [43, 44, 37, 38, 18, 39, 56, 57, 58, 59, 60, 61] (by decide +kernel) (by decide +kernel)
set_option maxRecDepth 20000 in
theorem gX4_readPlain_X3_knows : GoodIn wsX4_readPlain (wsV RX4 127 RX3 yX3_knows wsX3_knows) := goodIn_app (goodIn_of _ (by decide +kernel)) ggX4_readPlain_X3_knows
theorem dX4_readPlain_0 : decode cX4_readPlain 0 = .ok (.aload_n 0, 1) := by decide +kernel
theorem dX4_readPlain_1 : decode cX4_readPlain 1 = .ok (.iload_n 1, 1) := by decide +kernel
theorem dX4_readPlain_2 : decode cX4_readPlain 2 = .ok (.invokevirtual 65, 3) := by decide +kernel
theorem dX4_readPlain_5 : decode cX4_readPlain 5 = .ok (.iload_n 2, 1) := by decide +kernel
theorem dX4_readPlain_6 : decode cX4_readPlain 6 = .ok (.invokestatic 105, 3) := by decide +kernel
theorem dX4_readPlain_9 : decode cX4_readPlain 9 = .ok (.aload_n 0, 1) := by decide +kernel
theorem dX4_readPlain_10 : decode cX4_readPlain 10 = .ok (.iload_n 1, 1) := by decide +kernel
theorem dX4_readPlain_11 : decode cX4_readPlain 11 = .ok (.invokevirtual 69, 3) := by decide +kernel
theorem dX4_readPlain_14 : decode cX4_readPlain 14 = .ok (.iconst 0, 1) := by decide +kernel
theorem dX4_readPlain_15 : decode cX4_readPlain 15 = .ok (.istore_n 3, 1) := by decide +kernel
theorem dX4_readPlain_16 : decode cX4_readPlain 16 = .ok (.iload_n 3, 1) := by decide +kernel
theorem dX4_readPlain_17 : decode cX4_readPlain 17 = .ok (.aload_n 0, 1) := by decide +kernel
theorem dX4_readPlain_18 : decode cX4_readPlain 18 = .ok (.getfield 33, 3) := by decide +kernel
theorem dX4_readPlain_21 : decode cX4_readPlain 21 = .ok (.getfield 118, 3) := by decide +kernel
theorem dX4_readPlain_24 : decode cX4_readPlain 24 = .ok (.if_icmp .ge 72, 3) := by decide +kernel
theorem dX4_readPlain_27 : decode cX4_readPlain 27 = .ok (.aload_n 0, 1) := by decide +kernel
theorem dX4_readPlain_28 : decode cX4_readPlain 28 = .ok (.getfield 33, 3) := by decide +kernel
theorem dX4_readPlain_31 : decode cX4_readPlain 31 = .ok (.getfield 121, 3) := by decide +kernel
theorem dX4_readPlain_34 : decode cX4_readPlain 34 = .ok (.iload_n 3, 1) := by decide +kernel
theorem dX4_readPlain_35 : decode cX4_readPlain 35 = .ok (.iaload, 1) := by decide +kernel
theorem dX4_readPlain_36 : decode cX4_readPlain 36 = .ok (.iload_n 2, 1) := by decide +kernel
theorem dX4_readPlain_37 : decode cX4_readPlain 37 = .ok (.if_icmp .ne 53, 3) := by decide +kernel
theorem dX4_readPlain_40 : decode cX4_readPlain 40 = .ok (.aload_n 0, 1) := by decide +kernel
theorem dX4_readPlain_41 : decode cX4_readPlain 41 = .ok (.getfield 12, 3) := by decide +kernel
theorem dX4_readPlain_44 : decode cX4_readPlain 44 = .ok (.iload_n 1, 1) := by decide +kernel
theorem dX4_readPlain_45 : decode cX4_readPlain 45 = .ok (.aload_n 0, 1) := by decide +kernel
theorem dX4_readPlain_46 : decode cX4_readPlain 46 = .ok (.getfield 33, 3) := by decide +kernel
theorem dX4_readPlain_49 : decode cX4_readPlain 49 = .ok (.getfield 124, 3) := by decide +kernel
theorem dX4_readPlain_52 : decode cX4_readPlain 52 = .ok (.iload_n 3, 1) := by decide +kernel
theorem dX4_readPlain_53 : decode cX4_readPlain 53 = .ok (.iaload, 1) := by decide +kernel
theorem dX4_readPlain_54 : decode cX4_readPlain 54 = .ok (.invokevirtual 127, 3) := by decide +kernel
theorem dX4_readPlain_57 : decode cX4_readPlain 57 = .ok (.ifCond .eq 33, 3) := by decide +kernel
theorem dX4_readPlain_60 : decode cX4_readPlain 60 = .ok (.aload_n 0, 1) := by decide +kernel
theorem dX4_readPlain_61 : decode cX4_readPlain 61 = .ok (.getfield 12, 3) := by decide +kernel
theorem dX4_readPlain_64 : decode cX4_readPlain 64 = .ok (.iload_n 1, 1) := by decide +kernel
theorem dX4_readPlain_65 : decode cX4_readPlain 65 = .ok (.aload_n 0, 1) := by decide +kernel
theorem dX4_readPlain_66 : decode cX4_readPlain 66 = .ok (.getfield 33, 3) := by decide +kernel
theorem dX4_readPlain_69 : decode cX4_readPlain 69 = .ok (.getfield 131, 3) := by decide +kernel
theorem dX4_readPlain_72 : decode cX4_readPlain 72 = .ok (.iload_n 3, 1) := by decide +kernel
theorem dX4_readPlain_73 : decode cX4_readPlain 73 = .ok (.iaload, 1) := by decide +kernel
theorem dX4_readPlain_74 : decode cX4_readPlain 74 = .ok (.invokevirtual 127, 3) := by decide +kernel
theorem dX4_readPlain_77 : decode cX4_readPlain 77 = .ok (.ifCond .ne 13, 3) := by decide +kernel
theorem dX4_readPlain_80 : decode cX4_readPlain 80 = .ok (.aload_n 0, 1) := by decide +kernel
theorem dX4_readPlain_81 : decode cX4_readPlain 81 = .ok (.getfield 33, 3) := by decide +kernel
theorem dX4_readPlain_84 : decode cX4_readPlain 84 = .ok (.getfield 134, 3) := by decide +kernel
theorem dX4_readPlain_87 : decode cX4_readPlain 87 = .ok (.iload_n 3, 1) := by decide +kernel
theorem dX4_readPlain_88 : decode cX4_readPlain 88 = .ok (.iaload, 1) := by decide +kernel
theorem dX4_readPlain_89 : decode cX4_readPlain 89 = .ok (.ireturn, 1) := by decide +kernel
theorem dX4_readPlain_90 : decode cX4_readPlain 90 = .ok (.iinc 3 1, 3) := by decide +kernel
theorem dX4_readPlain_93 : decode cX4_readPlain 93 = .ok (.goto (-77), 3) := by decide +kernel
theorem dX4_readPlain_96 : decode cX4_readPlain 96 = .ok (.iconst (-1), 1) := by decide +kernel
theorem dX4_readPlain_97 : decode cX4_readPlain 97 = .ok (.ireturn, 1) := by decide +kernel
set_option maxRecDepth 20000 in
theorem ggX4_write_X4_checkTransaction : GoodIn wsX4_write wsX4_checkTransaction := goodIn_ca (goodIn_r _ [11, 12, 13, 14, 15, 16, 17, 18, 19, 20, 136, 137, 138, 139, 140, 141, 151, 152, 153, 154, 155, 156] (by decide +kernel) (by decide +kernel)) (goodIn_sub (fun _ h => List.mem_cons_of_mem _ (List.mem_append_left _ (List.mem_append_right _ h))) (by decide +kernel))
set_option maxRecDepth 20000 in
theorem gX4_write_X4_checkTransaction : GoodIn wsX4_write (wsV RX4 65 RX4 yX4_checkTransaction wsX4_checkTransaction) := goodIn_app (goodIn_of _ (by decide +kernel)) ggX4_write_X4_checkTransaction
set_option maxRecDepth 20000 in
theorem ggX4_write_X4_checkKey : GoodIn wsX4_write wsX4_checkKey := goodIn_ca (goodIn_r _ [23, 24, 25] (by decide +kernel) (by decide +kernel)) (goodIn_sub (fun _ h => List.mem_cons_of_mem _ (List.mem_append_right _ h)) (by decide +kernel))
set_option maxRecDepth 20000 in
theorem gX4_write_X4_checkKey : GoodIn wsX4_write (va_wsS RX4 105 yX4_checkKey wsX4_checkKey) := goodIn_app (goodIn_of _ (by decide +kernel)) ggX4_write_X4_checkKey
set_option maxRecDepth 20000 in
theorem ggX4_write_X4_checkValue : GoodIn wsX4_write wsX4_checkValue := goodIn_ca (goodIn_r _ [28, 24, 25] (by decide +kernel) (by decide +kernel)) (goodIn_sub (fun _ h => List.mem_cons_of_mem _ (List.mem_append_right _ h)) (by decide +kernel))
set_option maxRecDepth 20000 in
theorem gX4_write_X4_checkValue : GoodIn wsX4_write (va_wsS RX4 135 yX4_checkValue wsX4_checkValue) := goodIn_app (goodIn_of _ (by decide +kernel)) ggX4_write_X4_checkValue
set_option maxRecDepth 20000 in
theorem ggX4_write_X4_checkActive : GoodIn wsX4_write wsX4_checkActive := goodIn_ca (goodIn_r _ [32, 1, 2, 14, 33, 34, 35, 18, 36, 37, 38, 39, 40, 136, 137, 138, 139, 140, 141, 151, 152, 153, 154, 155, 156] (by decide +kernel) (by decide +kernel)) (goodIn_sub (fun _ h => List.mem_cons_of_mem _ (List.mem_append_left _ (List.mem_append_left _ (List.mem_append_right _ h)))) (by decide +kernel))
set_option maxRecDepth 20000 in
theorem gX4_write_X4_checkActive : GoodIn wsX4_write (wsV RX4 69 RX4 yX4_checkActive wsX4_checkActive) := goodIn_app (goodIn_of _ (by decide +kernel)) ggX4_write_X4_checkActive
set_option maxRecDepth 20000 in
theorem ggX4_write_X4_checkNotRefused : GoodIn wsX4_write wsX4_checkNotRefused := goodIn_ca (goodIn_r _ [44, 1, 2, 3, 45, 14, 46, 47, 48, 49, 50, 18, 51, 37, 52, 38, 39, 40, 53, 54, 55, 56, 57, 136, 137, 138, 139, 140, 141, 142, 143, 144, 145, 146, 147, 148, 149, 150, 151, 152, 153, 154, 155, 156] (by decide +kernel) (by decide +kernel)) (goodIn_sub (fun _ h => List.mem_cons_of_mem _ (List.mem_append_left _ (List.mem_append_left _ (List.mem_append_right _ h)))) (by decide +kernel))
set_option maxRecDepth 20000 in
theorem gX4_write_X4_checkNotRefused : GoodIn wsX4_write (wsV RX4 138 RX4 yX4_checkNotRefused wsX4_checkNotRefused) := goodIn_app (goodIn_of _ (by decide +kernel)) ggX4_write_X4_checkNotRefused
set_option maxRecDepth 20000 in
theorem ggX4_write_X4_seenPlace : GoodIn wsX4_write wsX4_seenPlace := goodIn_r _ [61, 5, 62, 63, 64, 65, 66, 10, 67, 3, 4, 68, 69, 70, 71, 72, 73, 74, 75, 14, 46, 47, 76, 54, 55, 18, 56, 57, 38, 39, 40, 136, 137, 138, 139, 140, 141, 157, 158, 142, 143, 144, 145, 146, 147, 148, 149, 150, 151, 152, 153, 154, 155, 156] (by decide +kernel) (by decide +kernel)
set_option maxRecDepth 20000 in
theorem gX4_write_X4_seenPlace : GoodIn wsX4_write (wsV RX4 108 RX4 yX4_seenPlace wsX4_seenPlace) := goodIn_app (goodIn_of _ (by decide +kernel)) ggX4_write_X4_seenPlace
set_option maxRecDepth 20000 in
theorem ggX4_write_X4_placeForNew : GoodIn wsX4_write wsX4_placeForNew := goodIn_r _ [80, 3, 68, 69, 10, 70, 81, 82, 83, 84, 85, 86, 87, 88, 89, 90, 91, 92, 93, 94, 95, 96, 136, 137, 138, 139, 140, 141, 142, 143, 144, 145, 146, 147, 148, 149, 150] (by decide +kernel) (by decide +kernel)
set_option maxRecDepth 20000 in
theorem gX4_write_X4_placeForNew : GoodIn wsX4_write (wsV RX4 142 RX4 yX4_placeForNew wsX4_placeForNew) := goodIn_app (goodIn_of _ (by decide +kernel)) ggX4_write_X4_placeForNew
set_option maxRecDepth 20000 in
theorem ggX4_write_X4_isPlace : GoodIn wsX4_write wsX4_isPlace := goodIn_r _ [70] (by decide +kernel) (by decide +kernel)
set_option maxRecDepth 20000 in
theorem gX4_write_X4_isPlace : GoodIn wsX4_write (va_wsS RX4 111 yX4_isPlace wsX4_isPlace) := goodIn_app (goodIn_of _ (by decide +kernel)) ggX4_write_X4_isPlace
set_option maxRecDepth 20000 in
theorem ggX4_write_X4_putDeath : GoodIn wsX4_write wsX4_putDeath := goodIn_r _ [100, 3, 47, 101, 14, 102, 103, 104, 105, 106, 107, 108, 109, 110, 111, 112, 81, 82, 10, 83, 136, 137, 138, 139, 140, 141, 142, 143, 144, 145, 146, 147, 148, 149, 150, 151, 152, 153, 154, 155, 156, 159, 160, 161, 162, 163] (by decide +kernel) (by decide +kernel)
set_option maxRecDepth 20000 in
theorem gX4_write_X4_putDeath : GoodIn wsX4_write (wsV RX4 147 RX4 yX4_putDeath wsX4_putDeath) := goodIn_app (goodIn_of _ (by decide +kernel)) ggX4_write_X4_putDeath
set_option maxRecDepth 20000 in
theorem ggX4_write_X4_putVersion : GoodIn wsX4_write wsX4_putVersion := goodIn_r _ [116, 3, 45, 117, 46, 118, 14, 102, 104, 103, 105, 119, 120, 121, 109, 122, 111, 123, 124, 125, 112, 81, 82, 10, 83, 136, 137, 138, 139, 140, 141, 142, 143, 144, 145, 146, 147, 148, 149, 150, 151, 152, 153, 154, 155, 156, 159, 160, 161, 162, 163] (by decide +kernel) (by decide +kernel)
set_option maxRecDepth 20000 in
theorem gX4_write_X4_putVersion : GoodIn wsX4_write (wsV RX4 150 RX4 yX4_putVersion wsX4_putVersion) := goodIn_app (goodIn_of _ (by decide +kernel)) ggX4_write_X4_putVersion
set_option maxRecDepth 20000 in
theorem ggX4_write_X4_pageOf : GoodIn wsX4_write wsX4_pageOf := goodIn_r _ [83] (by decide +kernel) (by decide +kernel)
set_option maxRecDepth 20000 in
theorem gX4_write_X4_pageOf : GoodIn wsX4_write (va_wsS RX4 154 yX4_pageOf wsX4_pageOf) := goodIn_app (goodIn_of _ (by decide +kernel)) ggX4_write_X4_pageOf
set_option maxRecDepth 20000 in
theorem ggX4_write_X0_add : GoodIn wsX4_write wsX0_add := goodIn_r _ [130, 131, 132, 157, 158] (by decide +kernel) (by decide +kernel)
set_option maxRecDepth 20000 in
theorem gX4_write_X0_add : GoodIn wsX4_write (wsV RX4 160 RX0 yX0_add wsX0_add) := goodIn_app (goodIn_of _ (by decide +kernel)) ggX4_write_X0_add
set_option maxRecDepth 20000 in
theorem ggX4_write_X4_slotOf : GoodIn wsX4_write wsX4_slotOf := goodIn_r _ [135] (by decide +kernel) (by decide +kernel)
set_option maxRecDepth 20000 in
theorem gX4_write_X4_slotOf : GoodIn wsX4_write (va_wsS RX4 163 yX4_slotOf wsX4_slotOf) := goodIn_app (goodIn_of _ (by decide +kernel)) ggX4_write_X4_slotOf
theorem dX4_write_0 : decode cX4_write 0 = .ok (.aload_n 0, 1) := by decide +kernel
theorem dX4_write_1 : decode cX4_write 1 = .ok (.iload_n 1, 1) := by decide +kernel
theorem dX4_write_2 : decode cX4_write 2 = .ok (.invokevirtual 65, 3) := by decide +kernel
theorem dX4_write_5 : decode cX4_write 5 = .ok (.iload_n 2, 1) := by decide +kernel
theorem dX4_write_6 : decode cX4_write 6 = .ok (.invokestatic 105, 3) := by decide +kernel
theorem dX4_write_9 : decode cX4_write 9 = .ok (.iload_n 3, 1) := by decide +kernel
theorem dX4_write_10 : decode cX4_write 10 = .ok (.invokestatic 135, 3) := by decide +kernel
theorem dX4_write_13 : decode cX4_write 13 = .ok (.aload_n 0, 1) := by decide +kernel
theorem dX4_write_14 : decode cX4_write 14 = .ok (.iload_n 1, 1) := by decide +kernel
theorem dX4_write_15 : decode cX4_write 15 = .ok (.invokevirtual 69, 3) := by decide +kernel
theorem dX4_write_18 : decode cX4_write 18 = .ok (.aload_n 0, 1) := by decide +kernel
theorem dX4_write_19 : decode cX4_write 19 = .ok (.iload_n 1, 1) := by decide +kernel
theorem dX4_write_20 : decode cX4_write 20 = .ok (.iload_n 2, 1) := by decide +kernel
theorem dX4_write_21 : decode cX4_write 21 = .ok (.invokevirtual 138, 3) := by decide +kernel
theorem dX4_write_24 : decode cX4_write 24 = .ok (.aload_n 0, 1) := by decide +kernel
theorem dX4_write_25 : decode cX4_write 25 = .ok (.iload_n 1, 1) := by decide +kernel
theorem dX4_write_26 : decode cX4_write 26 = .ok (.iload_n 2, 1) := by decide +kernel
theorem dX4_write_27 : decode cX4_write 27 = .ok (.invokevirtual 108, 3) := by decide +kernel
theorem dX4_write_30 : decode cX4_write 30 = .ok (.istore 4, 2) := by decide +kernel
theorem dX4_write_32 : decode cX4_write 32 = .ok (.aload_n 0, 1) := by decide +kernel
theorem dX4_write_33 : decode cX4_write 33 = .ok (.iload 4, 2) := by decide +kernel
theorem dX4_write_35 : decode cX4_write 35 = .ok (.invokevirtual 142, 3) := by decide +kernel
theorem dX4_write_38 : decode cX4_write 38 = .ok (.istore 5, 2) := by decide +kernel
theorem dX4_write_40 : decode cX4_write 40 = .ok (.iload 5, 2) := by decide +kernel
theorem dX4_write_42 : decode cX4_write 42 = .ok (.invokestatic 111, 3) := by decide +kernel
theorem dX4_write_45 : decode cX4_write 45 = .ok (.ifCond .ne 13, 3) := by decide +kernel
theorem dX4_write_48 : decode cX4_write 48 = .ok (.new 49, 3) := by decide +kernel
theorem dX4_write_51 : decode cX4_write 51 = .ok (.dup, 1) := by decide +kernel
theorem dX4_write_52 : decode cX4_write 52 = .ok (.ldc 145, 2) := by decide +kernel
theorem dX4_write_54 : decode cX4_write 54 = .ok (.invokespecial 53, 3) := by decide +kernel
theorem dX4_write_57 : decode cX4_write 57 = .ok (.athrow, 1) := by decide +kernel
theorem dX4_write_58 : decode cX4_write 58 = .ok (.iload 4, 2) := by decide +kernel
theorem dX4_write_60 : decode cX4_write 60 = .ok (.invokestatic 111, 3) := by decide +kernel
theorem dX4_write_63 : decode cX4_write 63 = .ok (.ifCond .eq 10, 3) := by decide +kernel
theorem dX4_write_66 : decode cX4_write 66 = .ok (.aload_n 0, 1) := by decide +kernel
theorem dX4_write_67 : decode cX4_write 67 = .ok (.iload_n 1, 1) := by decide +kernel
theorem dX4_write_68 : decode cX4_write 68 = .ok (.iload 4, 2) := by decide +kernel
theorem dX4_write_70 : decode cX4_write 70 = .ok (.invokevirtual 147, 3) := by decide +kernel
theorem dX4_write_73 : decode cX4_write 73 = .ok (.aload_n 0, 1) := by decide +kernel
theorem dX4_write_74 : decode cX4_write 74 = .ok (.iload_n 1, 1) := by decide +kernel
theorem dX4_write_75 : decode cX4_write 75 = .ok (.iload_n 2, 1) := by decide +kernel
theorem dX4_write_76 : decode cX4_write 76 = .ok (.iload_n 3, 1) := by decide +kernel
theorem dX4_write_77 : decode cX4_write 77 = .ok (.iload 5, 2) := by decide +kernel
theorem dX4_write_79 : decode cX4_write 79 = .ok (.invokevirtual 150, 3) := by decide +kernel
theorem dX4_write_82 : decode cX4_write 82 = .ok (.iload 4, 2) := by decide +kernel
theorem dX4_write_84 : decode cX4_write 84 = .ok (.invokestatic 111, 3) := by decide +kernel
theorem dX4_write_87 : decode cX4_write 87 = .ok (.ifCond .eq 20, 3) := by decide +kernel
theorem dX4_write_90 : decode cX4_write 90 = .ok (.iload 4, 2) := by decide +kernel
theorem dX4_write_92 : decode cX4_write 92 = .ok (.invokestatic 154, 3) := by decide +kernel
theorem dX4_write_95 : decode cX4_write 95 = .ok (.iload 5, 2) := by decide +kernel
theorem dX4_write_97 : decode cX4_write 97 = .ok (.invokestatic 154, 3) := by decide +kernel
theorem dX4_write_100 : decode cX4_write 100 = .ok (.if_icmp .ne 7, 3) := by decide +kernel
theorem dX4_write_103 : decode cX4_write 103 = .ok (.iconst 1, 1) := by decide +kernel
theorem dX4_write_104 : decode cX4_write 104 = .ok (.goto 4, 3) := by decide +kernel
theorem dX4_write_107 : decode cX4_write 107 = .ok (.iconst 0, 1) := by decide +kernel
theorem dX4_write_108 : decode cX4_write 108 = .ok (.istore 6, 2) := by decide +kernel
theorem dX4_write_110 : decode cX4_write 110 = .ok (.iload 6, 2) := by decide +kernel
theorem dX4_write_112 : decode cX4_write 112 = .ok (.ifCond .eq 18, 3) := by decide +kernel
theorem dX4_write_115 : decode cX4_write 115 = .ok (.aload_n 0, 1) := by decide +kernel
theorem dX4_write_116 : decode cX4_write 116 = .ok (.getfield 19, 3) := by decide +kernel
theorem dX4_write_119 : decode cX4_write 119 = .ok (.getfield 157, 3) := by decide +kernel
theorem dX4_write_122 : decode cX4_write 122 = .ok (.iload 4, 2) := by decide +kernel
theorem dX4_write_124 : decode cX4_write 124 = .ok (.iload 5, 2) := by decide +kernel
theorem dX4_write_126 : decode cX4_write 126 = .ok (.iastore, 1) := by decide +kernel
theorem dX4_write_127 : decode cX4_write 127 = .ok (.goto 13, 3) := by decide +kernel
theorem dX4_write_130 : decode cX4_write 130 = .ok (.aload_n 0, 1) := by decide +kernel
theorem dX4_write_131 : decode cX4_write 131 = .ok (.getfield 26, 3) := by decide +kernel
theorem dX4_write_134 : decode cX4_write 134 = .ok (.iload_n 2, 1) := by decide +kernel
theorem dX4_write_135 : decode cX4_write 135 = .ok (.iload 5, 2) := by decide +kernel
theorem dX4_write_137 : decode cX4_write 137 = .ok (.invokevirtual 160, 3) := by decide +kernel
theorem dX4_write_140 : decode cX4_write 140 = .ok (.sipush 1000, 3) := by decide +kernel
theorem dX4_write_143 : decode cX4_write 143 = .ok (.iload 5, 2) := by decide +kernel
theorem dX4_write_145 : decode cX4_write 145 = .ok (.invokestatic 154, 3) := by decide +kernel
theorem dX4_write_148 : decode cX4_write 148 = .ok (.imul, 1) := by decide +kernel
theorem dX4_write_149 : decode cX4_write 149 = .ok (.iload 5, 2) := by decide +kernel
theorem dX4_write_151 : decode cX4_write 151 = .ok (.invokestatic 163, 3) := by decide +kernel
theorem dX4_write_154 : decode cX4_write 154 = .ok (.iadd, 1) := by decide +kernel
theorem dX4_write_155 : decode cX4_write 155 = .ok (.iload 6, 2) := by decide +kernel
theorem dX4_write_157 : decode cX4_write 157 = .ok (.ifCond .eq 8, 3) := by decide +kernel
theorem dX4_write_160 : decode cX4_write 160 = .ok (.ldc 166, 2) := by decide +kernel
theorem dX4_write_162 : decode cX4_write 162 = .ok (.goto 4, 3) := by decide +kernel
theorem dX4_write_165 : decode cX4_write 165 = .ok (.iconst 0, 1) := by decide +kernel
theorem dX4_write_166 : decode cX4_write 166 = .ok (.iadd, 1) := by decide +kernel
theorem dX4_write_167 : decode cX4_write 167 = .ok (.ireturn, 1) := by decide +kernel
set_option maxRecDepth 20000 in
theorem ggX4_delete_X4_checkTransaction : GoodIn wsX4_delete wsX4_checkTransaction := goodIn_ca (goodIn_r _ [5, 6, 7, 8, 9, 10, 11, 12, 13, 14, 92, 93, 94, 95, 96, 97, 98, 99, 100, 101, 102, 103] (by decide +kernel) (by decide +kernel)) (goodIn_sub (fun _ h => List.mem_cons_of_mem _ (List.mem_append_left _ (List.mem_append_left _ (List.mem_append_right _ h)))) (by decide +kernel))
set_option maxRecDepth 20000 in
theorem gX4_delete_X4_checkTransaction : GoodIn wsX4_delete (wsV RX4 65 RX4 yX4_checkTransaction wsX4_checkTransaction) := goodIn_app (goodIn_of _ (by decide +kernel)) ggX4_delete_X4_checkTransaction
set_option maxRecDepth 20000 in
theorem ggX4_delete_X4_checkKey : GoodIn wsX4_delete wsX4_checkKey := goodIn_ca (goodIn_r _ [17, 18, 19] (by decide +kernel) (by decide +kernel)) (goodIn_sub (fun _ h => List.mem_cons_of_mem _ (List.mem_append_left _ (List.mem_append_right _ h))) (by decide +kernel))
set_option maxRecDepth 20000 in
theorem gX4_delete_X4_checkKey : GoodIn wsX4_delete (va_wsS RX4 105 yX4_checkKey wsX4_checkKey) := goodIn_app (goodIn_of _ (by decide +kernel)) ggX4_delete_X4_checkKey
set_option maxRecDepth 20000 in
theorem ggX4_delete_X4_checkActive : GoodIn wsX4_delete wsX4_checkActive := goodIn_ca (goodIn_r _ [23, 24, 25, 8, 26, 27, 28, 12, 29, 30, 31, 32, 33, 92, 93, 94, 95, 96, 97, 98, 99, 100, 101, 102, 103] (by decide +kernel) (by decide +kernel)) (goodIn_sub (fun _ h => List.mem_cons_of_mem _ (List.mem_append_right _ h)) (by decide +kernel))
set_option maxRecDepth 20000 in
theorem gX4_delete_X4_checkActive : GoodIn wsX4_delete (wsV RX4 69 RX4 yX4_checkActive wsX4_checkActive) := goodIn_app (goodIn_of _ (by decide +kernel)) ggX4_delete_X4_checkActive
set_option maxRecDepth 20000 in
theorem ggX4_delete_X4_seenPlace : GoodIn wsX4_delete wsX4_seenPlace := goodIn_r _ [37, 38, 39, 40, 41, 42, 43, 4, 44, 45, 46, 47, 48, 49, 50, 51, 52, 53, 54, 8, 55, 56, 57, 58, 59, 12, 60, 61, 31, 32, 33, 92, 93, 94, 95, 96, 97, 104, 105, 106, 107, 108, 109, 110, 111, 112, 113, 114, 98, 99, 100, 101, 102, 103] (by decide +kernel) (by decide +kernel)
set_option maxRecDepth 20000 in
theorem gX4_delete_X4_seenPlace : GoodIn wsX4_delete (wsV RX4 108 RX4 yX4_seenPlace wsX4_seenPlace) := goodIn_app (goodIn_of _ (by decide +kernel)) ggX4_delete_X4_seenPlace
set_option maxRecDepth 20000 in
theorem ggX4_delete_X4_isPlace : GoodIn wsX4_delete wsX4_isPlace := goodIn_r _ [49] (by decide +kernel) (by decide +kernel)
set_option maxRecDepth 20000 in
theorem gX4_delete_X4_isPlace : GoodIn wsX4_delete (va_wsS RX4 111 yX4_isPlace wsX4_isPlace) := goodIn_app (goodIn_of _ (by decide +kernel)) ggX4_delete_X4_isPlace
set_option maxRecDepth 20000 in
theorem ggX4_delete_X4_checkNotRefused : GoodIn wsX4_delete wsX4_checkNotRefused := goodIn_ca (goodIn_r _ [65, 24, 25, 45, 66, 8, 55, 56, 67, 68, 69, 12, 70, 30, 71, 31, 32, 33, 72, 58, 59, 60, 61, 92, 93, 94, 95, 96, 97, 106, 107, 108, 109, 110, 111, 112, 113, 114, 98, 99, 100, 101, 102, 103] (by decide +kernel) (by decide +kernel)) (goodIn_sub (fun _ h => List.mem_cons_of_mem _ (List.mem_append_right _ h)) (by decide +kernel))
set_option maxRecDepth 20000 in
theorem gX4_delete_X4_checkNotRefused : GoodIn wsX4_delete (wsV RX4 138 RX4 yX4_checkNotRefused wsX4_checkNotRefused) := goodIn_app (goodIn_of _ (by decide +kernel)) ggX4_delete_X4_checkNotRefused
set_option maxRecDepth 20000 in
theorem ggX4_delete_X4_putDeath : GoodIn wsX4_delete wsX4_putDeath := goodIn_r _ [76, 45, 56, 77, 8, 78, 79, 80, 81, 82, 83, 84, 85, 86, 87, 88, 89, 90, 4, 91, 92, 93, 94, 95, 96, 97, 106, 107, 108, 109, 110, 111, 112, 113, 114, 98, 99, 100, 101, 102, 103, 115, 116, 117, 118, 119] (by decide +kernel) (by decide +kernel)
set_option maxRecDepth 20000 in
theorem gX4_delete_X4_putDeath : GoodIn wsX4_delete (wsV RX4 147 RX4 yX4_putDeath wsX4_putDeath) := goodIn_app (goodIn_of _ (by decide +kernel)) ggX4_delete_X4_putDeath
theorem dX4_delete_0 : decode cX4_delete 0 = .ok (.aload_n 0, 1) := by decide +kernel
theorem dX4_delete_1 : decode cX4_delete 1 = .ok (.iload_n 1, 1) := by decide +kernel
theorem dX4_delete_2 : decode cX4_delete 2 = .ok (.invokevirtual 65, 3) := by decide +kernel
theorem dX4_delete_5 : decode cX4_delete 5 = .ok (.iload_n 2, 1) := by decide +kernel
theorem dX4_delete_6 : decode cX4_delete 6 = .ok (.invokestatic 105, 3) := by decide +kernel
theorem dX4_delete_9 : decode cX4_delete 9 = .ok (.aload_n 0, 1) := by decide +kernel
theorem dX4_delete_10 : decode cX4_delete 10 = .ok (.iload_n 1, 1) := by decide +kernel
theorem dX4_delete_11 : decode cX4_delete 11 = .ok (.invokevirtual 69, 3) := by decide +kernel
theorem dX4_delete_14 : decode cX4_delete 14 = .ok (.aload_n 0, 1) := by decide +kernel
theorem dX4_delete_15 : decode cX4_delete 15 = .ok (.iload_n 1, 1) := by decide +kernel
theorem dX4_delete_16 : decode cX4_delete 16 = .ok (.iload_n 2, 1) := by decide +kernel
theorem dX4_delete_17 : decode cX4_delete 17 = .ok (.invokevirtual 108, 3) := by decide +kernel
theorem dX4_delete_20 : decode cX4_delete 20 = .ok (.istore_n 3, 1) := by decide +kernel
theorem dX4_delete_21 : decode cX4_delete 21 = .ok (.iload_n 3, 1) := by decide +kernel
theorem dX4_delete_22 : decode cX4_delete 22 = .ok (.invokestatic 111, 3) := by decide +kernel
theorem dX4_delete_25 : decode cX4_delete 25 = .ok (.ifCond .ne 5, 3) := by decide +kernel
theorem dX4_delete_28 : decode cX4_delete 28 = .ok (.iconst 0, 1) := by decide +kernel
theorem dX4_delete_29 : decode cX4_delete 29 = .ok (.ireturn, 1) := by decide +kernel
theorem dX4_delete_30 : decode cX4_delete 30 = .ok (.aload_n 0, 1) := by decide +kernel
theorem dX4_delete_31 : decode cX4_delete 31 = .ok (.iload_n 1, 1) := by decide +kernel
theorem dX4_delete_32 : decode cX4_delete 32 = .ok (.iload_n 2, 1) := by decide +kernel
theorem dX4_delete_33 : decode cX4_delete 33 = .ok (.invokevirtual 138, 3) := by decide +kernel
theorem dX4_delete_36 : decode cX4_delete 36 = .ok (.aload_n 0, 1) := by decide +kernel
theorem dX4_delete_37 : decode cX4_delete 37 = .ok (.iload_n 1, 1) := by decide +kernel
theorem dX4_delete_38 : decode cX4_delete 38 = .ok (.iload_n 3, 1) := by decide +kernel
theorem dX4_delete_39 : decode cX4_delete 39 = .ok (.invokevirtual 147, 3) := by decide +kernel
theorem dX4_delete_42 : decode cX4_delete 42 = .ok (.iconst 1, 1) := by decide +kernel
theorem dX4_delete_43 : decode cX4_delete 43 = .ok (.ireturn, 1) := by decide +kernel
set_option maxRecDepth 20000 in
theorem ggX4_clean_X4_checkPage : GoodIn wsX4_clean wsX4_checkPage := goodIn_ca (goodIn_r _ [6, 7, 8] (by decide +kernel) (by decide +kernel)) (goodIn_sub (fun _ h => List.mem_cons_of_mem _ (List.mem_append_right _ h)) (by decide +kernel))
set_option maxRecDepth 20000 in
theorem gX4_clean_X4_checkPage : GoodIn wsX4_clean (va_wsS RX4 167 yX4_checkPage wsX4_checkPage) := goodIn_app (goodIn_of _ (by decide +kernel)) ggX4_clean_X4_checkPage
set_option maxRecDepth 20000 in
theorem ggX4_clean_X3_settled : GoodIn wsX4_clean wsX3_settled := goodIn_r _ [13, 14, 15, 16, 17, 18, 19, 12, 20, 21, 22, 23, 24, 113, 114, 115, 116, 117, 118] (by decide +kernel) (by decide +kernel)
set_option maxRecDepth 20000 in
theorem gX4_clean_X3_settled : GoodIn wsX4_clean (wsV RX4 170 RX3 yX3_settled wsX3_settled) := goodIn_app (goodIn_of _ (by decide +kernel)) ggX4_clean_X3_settled
set_option maxRecDepth 20000 in
theorem ggX4_clean_X4_firstOf : GoodIn wsX4_clean wsX4_firstOf := goodIn_r _ [27] (by decide +kernel) (by decide +kernel)
set_option maxRecDepth 20000 in
theorem gX4_clean_X4_firstOf : GoodIn wsX4_clean (va_wsS RX4 174 yX4_firstOf wsX4_firstOf) := goodIn_app (goodIn_of _ (by decide +kernel)) ggX4_clean_X4_firstOf
set_option maxRecDepth 20000 in
theorem ggX4_clean_X4_canGo : GoodIn wsX4_clean wsX4_canGo := goodIn_r _ [31, 32, 1, 33, 34, 35, 36, 37, 38, 39, 40, 41, 42, 43, 12, 44, 21, 14, 45, 46, 47, 48, 15, 22, 23, 24, 49, 107, 108, 109, 110, 111, 112, 119, 120, 121, 122, 123, 124, 125, 126, 127, 113, 114, 115, 116, 117, 118] (by decide +kernel) (by decide +kernel)
set_option maxRecDepth 20000 in
theorem gX4_clean_X4_canGo : GoodIn wsX4_clean (wsV RX4 177 RX4 yX4_canGo wsX4_canGo) := goodIn_app (goodIn_of _ (by decide +kernel)) ggX4_clean_X4_canGo
set_option maxRecDepth 20000 in
theorem ggX4_clean_X4_takeOut : GoodIn wsX4_clean wsX4_takeOut := goodIn_r _ [53, 32, 54, 55, 56, 57, 58, 59, 38, 60, 61, 62, 63, 64, 65, 66, 67, 68, 69, 70, 71, 72, 40, 73, 74, 75, 76, 107, 108, 109, 110, 111, 112, 119, 120, 121, 122, 123, 124, 125, 126, 127, 128, 129] (by decide +kernel) (by decide +kernel)
set_option maxRecDepth 20000 in
theorem gX4_clean_X4_takeOut : GoodIn wsX4_clean (wsV RX4 181 RX4 yX4_takeOut wsX4_takeOut) := goodIn_app (goodIn_of _ (by decide +kernel)) ggX4_clean_X4_takeOut
set_option maxRecDepth 20000 in
theorem ggX4_clean_X4_freezeOldOnes : GoodIn wsX4_clean wsX4_freezeOldOnes := goodIn_r _ [80, 32, 1, 81, 82, 33, 83, 25, 26, 5, 27, 35, 36, 37, 38, 39, 40, 84, 85, 86, 12, 87, 88, 89, 90, 91, 92, 93, 94, 49, 23, 24, 107, 108, 109, 110, 111, 112, 119, 120, 121, 122, 123, 124, 125, 126, 127, 113, 114, 115, 116, 117, 118] (by decide +kernel) (by decide +kernel)
set_option maxRecDepth 20000 in
theorem gX4_clean_X4_freezeOldOnes : GoodIn wsX4_clean (wsV RX4 184 RX4 yX4_freezeOldOnes wsX4_freezeOldOnes) := goodIn_app (goodIn_of _ (by decide +kernel)) ggX4_clean_X4_freezeOldOnes
set_option maxRecDepth 20000 in
theorem ggX4_clean_X4_isWhole : GoodIn wsX4_clean wsX4_isWhole := goodIn_ca (goodIn_r _ [98, 1, 32, 3, 4, 5, 6, 7, 8, 9, 10, 11, 12, 13, 14, 15, 16, 17, 18, 19, 20, 21, 22, 23, 24, 25, 26, 27, 35, 36, 37, 38, 39, 40, 99, 100, 101, 102, 83, 33, 103, 104, 105, 106, 75, 49, 107, 108, 109, 110, 111, 112, 113, 114, 115, 116, 117, 118, 119, 120, 121, 122, 123, 124, 125, 126, 127] (by decide +kernel) (by decide +kernel)) (goodIn_sub (fun _ h => List.mem_cons_of_mem _ (List.mem_append_right _ h)) (by decide +kernel))
set_option maxRecDepth 20000 in
theorem gX4_clean_X4_isWhole : GoodIn wsX4_clean (wsV RX4 188 RX4 yX4_isWhole wsX4_isWhole) := goodIn_app (goodIn_of _ (by decide +kernel)) ggX4_clean_X4_isWhole
theorem dX4_clean_0 : decode cX4_clean 0 = .ok (.iload_n 1, 1) := by decide +kernel
theorem dX4_clean_1 : decode cX4_clean 1 = .ok (.invokestatic 167, 3) := by decide +kernel
theorem dX4_clean_4 : decode cX4_clean 4 = .ok (.aload_n 0, 1) := by decide +kernel
theorem dX4_clean_5 : decode cX4_clean 5 = .ok (.getfield 12, 3) := by decide +kernel
theorem dX4_clean_8 : decode cX4_clean 8 = .ok (.invokevirtual 170, 3) := by decide +kernel
theorem dX4_clean_11 : decode cX4_clean 11 = .ok (.lstore_n 2, 1) := by decide +kernel
theorem dX4_clean_12 : decode cX4_clean 12 = .ok (.iconst 0, 1) := by decide +kernel
theorem dX4_clean_13 : decode cX4_clean 13 = .ok (.istore 4, 2) := by decide +kernel
theorem dX4_clean_15 : decode cX4_clean 15 = .ok (.iload_n 1, 1) := by decide +kernel
theorem dX4_clean_16 : decode cX4_clean 16 = .ok (.invokestatic 174, 3) := by decide +kernel
theorem dX4_clean_19 : decode cX4_clean 19 = .ok (.istore 5, 2) := by decide +kernel
theorem dX4_clean_21 : decode cX4_clean 21 = .ok (.iload 5, 2) := by decide +kernel
theorem dX4_clean_23 : decode cX4_clean 23 = .ok (.iload_n 1, 1) := by decide +kernel
theorem dX4_clean_24 : decode cX4_clean 24 = .ok (.invokestatic 174, 3) := by decide +kernel
theorem dX4_clean_27 : decode cX4_clean 27 = .ok (.bipush 8, 2) := by decide +kernel
theorem dX4_clean_29 : decode cX4_clean 29 = .ok (.iadd, 1) := by decide +kernel
theorem dX4_clean_30 : decode cX4_clean 30 = .ok (.if_icmp .ge 28, 3) := by decide +kernel
theorem dX4_clean_33 : decode cX4_clean 33 = .ok (.aload_n 0, 1) := by decide +kernel
theorem dX4_clean_34 : decode cX4_clean 34 = .ok (.iload 5, 2) := by decide +kernel
theorem dX4_clean_36 : decode cX4_clean 36 = .ok (.lload_n 2, 1) := by decide +kernel
theorem dX4_clean_37 : decode cX4_clean 37 = .ok (.invokevirtual 177, 3) := by decide +kernel
theorem dX4_clean_40 : decode cX4_clean 40 = .ok (.ifCond .eq 12, 3) := by decide +kernel
theorem dX4_clean_43 : decode cX4_clean 43 = .ok (.aload_n 0, 1) := by decide +kernel
theorem dX4_clean_44 : decode cX4_clean 44 = .ok (.iload 5, 2) := by decide +kernel
theorem dX4_clean_46 : decode cX4_clean 46 = .ok (.invokevirtual 181, 3) := by decide +kernel
theorem dX4_clean_49 : decode cX4_clean 49 = .ok (.iinc 4 1, 3) := by decide +kernel
theorem dX4_clean_52 : decode cX4_clean 52 = .ok (.iinc 5 1, 3) := by decide +kernel
theorem dX4_clean_55 : decode cX4_clean 55 = .ok (.goto (-34), 3) := by decide +kernel
theorem dX4_clean_58 : decode cX4_clean 58 = .ok (.aload_n 0, 1) := by decide +kernel
theorem dX4_clean_59 : decode cX4_clean 59 = .ok (.iload_n 1, 1) := by decide +kernel
theorem dX4_clean_60 : decode cX4_clean 60 = .ok (.lload_n 2, 1) := by decide +kernel
theorem dX4_clean_61 : decode cX4_clean 61 = .ok (.invokevirtual 184, 3) := by decide +kernel
theorem dX4_clean_64 : decode cX4_clean 64 = .ok (.aload_n 0, 1) := by decide +kernel
theorem dX4_clean_65 : decode cX4_clean 65 = .ok (.getfield 37, 3) := by decide +kernel
theorem dX4_clean_68 : decode cX4_clean 68 = .ok (.iload_n 1, 1) := by decide +kernel
theorem dX4_clean_69 : decode cX4_clean 69 = .ok (.aload_n 0, 1) := by decide +kernel
theorem dX4_clean_70 : decode cX4_clean 70 = .ok (.iload_n 1, 1) := by decide +kernel
theorem dX4_clean_71 : decode cX4_clean 71 = .ok (.invokevirtual 188, 3) := by decide +kernel
theorem dX4_clean_74 : decode cX4_clean 74 = .ok (.bastore, 1) := by decide +kernel
theorem dX4_clean_75 : decode cX4_clean 75 = .ok (.iload 4, 2) := by decide +kernel
theorem dX4_clean_77 : decode cX4_clean 77 = .ok (.ireturn, 1) := by decide +kernel
theorem dX4_setFreezing_0 : decode cX4_setFreezing 0 = .ok (.iload_n 1, 1) := by decide +kernel
theorem dX4_setFreezing_1 : decode cX4_setFreezing 1 = .ok (.iconst 1, 1) := by decide +kernel
theorem dX4_setFreezing_2 : decode cX4_setFreezing 2 = .ok (.if_icmp .lt 9, 3) := by decide +kernel
theorem dX4_setFreezing_5 : decode cX4_setFreezing 5 = .ok (.iload_n 1, 1) := by decide +kernel
theorem dX4_setFreezing_6 : decode cX4_setFreezing 6 = .ok (.bipush 27, 2) := by decide +kernel
theorem dX4_setFreezing_8 : decode cX4_setFreezing 8 = .ok (.if_icmp .le 13, 3) := by decide +kernel
theorem dX4_setFreezing_11 : decode cX4_setFreezing 11 = .ok (.new 83, 3) := by decide +kernel
theorem dX4_setFreezing_14 : decode cX4_setFreezing 14 = .ok (.dup, 1) := by decide +kernel
theorem dX4_setFreezing_15 : decode cX4_setFreezing 15 = .ok (.ldc 191, 2) := by decide +kernel
theorem dX4_setFreezing_17 : decode cX4_setFreezing 17 = .ok (.invokespecial 87, 3) := by decide +kernel
theorem dX4_setFreezing_20 : decode cX4_setFreezing 20 = .ok (.athrow, 1) := by decide +kernel
theorem dX4_setFreezing_21 : decode cX4_setFreezing 21 = .ok (.aload_n 0, 1) := by decide +kernel
theorem dX4_setFreezing_22 : decode cX4_setFreezing 22 = .ok (.getfield 41, 3) := by decide +kernel
theorem dX4_setFreezing_25 : decode cX4_setFreezing 25 = .ok (.istore_n 2, 1) := by decide +kernel
theorem dX4_setFreezing_26 : decode cX4_setFreezing 26 = .ok (.aload_n 0, 1) := by decide +kernel
theorem dX4_setFreezing_27 : decode cX4_setFreezing 27 = .ok (.iload_n 1, 1) := by decide +kernel
theorem dX4_setFreezing_28 : decode cX4_setFreezing 28 = .ok (.putfield 41, 3) := by decide +kernel
theorem dX4_setFreezing_31 : decode cX4_setFreezing 31 = .ok (.iload_n 2, 1) := by decide +kernel
theorem dX4_setFreezing_32 : decode cX4_setFreezing 32 = .ok (.ireturn, 1) := by decide +kernel
set_option maxRecDepth 20000 in
theorem ggX4_isMapped_X4_checkPage : GoodIn wsX4_isMapped wsX4_checkPage := goodIn_ca (goodIn_r _ [5, 6, 7] (by decide +kernel) (by decide +kernel)) (goodIn_sub (fun _ h => List.mem_cons_of_mem _ (List.mem_append_right _ h)) (by decide +kernel))
set_option maxRecDepth 20000 in
theorem gX4_isMapped_X4_checkPage : GoodIn wsX4_isMapped (va_wsS RX4 167 yX4_checkPage wsX4_checkPage) := goodIn_app (goodIn_of _ (by decide +kernel)) ggX4_isMapped_X4_checkPage
theorem dX4_isMapped_0 : decode cX4_isMapped 0 = .ok (.iload_n 1, 1) := by decide +kernel
theorem dX4_isMapped_1 : decode cX4_isMapped 1 = .ok (.invokestatic 167, 3) := by decide +kernel
theorem dX4_isMapped_4 : decode cX4_isMapped 4 = .ok (.aload_n 0, 1) := by decide +kernel
theorem dX4_isMapped_5 : decode cX4_isMapped 5 = .ok (.getfield 37, 3) := by decide +kernel
theorem dX4_isMapped_8 : decode cX4_isMapped 8 = .ok (.iload_n 1, 1) := by decide +kernel
theorem dX4_isMapped_9 : decode cX4_isMapped 9 = .ok (.baload, 1) := by decide +kernel
theorem dX4_isMapped_10 : decode cX4_isMapped 10 = .ok (.ireturn, 1) := by decide +kernel
set_option maxRecDepth 20000 in
theorem ggX4_isWhole_X4_checkPage : GoodIn wsX4_isWhole wsX4_checkPage := goodIn_ca (goodIn_r _ [6, 7, 8] (by decide +kernel) (by decide +kernel)) (goodIn_sub (fun _ h => List.mem_cons_of_mem _ (List.mem_append_right _ h)) (by decide +kernel))
set_option maxRecDepth 20000 in
theorem gX4_isWhole_X4_checkPage : GoodIn wsX4_isWhole (va_wsS RX4 167 yX4_checkPage wsX4_checkPage) := goodIn_app (goodIn_of _ (by decide +kernel)) ggX4_isWhole_X4_checkPage
set_option maxRecDepth 20000 in
theorem ggX4_isWhole_X3_settled : GoodIn wsX4_isWhole wsX3_settled := goodIn_r _ [13, 14, 15, 16, 17, 18, 19, 12, 20, 21, 22, 23, 24, 52, 53, 54, 55, 56, 57] (by decide +kernel) (by decide +kernel)
set_option maxRecDepth 20000 in
theorem gX4_isWhole_X3_settled : GoodIn wsX4_isWhole (wsV RX4 170 RX3 yX3_settled wsX3_settled) := goodIn_app (goodIn_of _ (by decide +kernel)) ggX4_isWhole_X3_settled
set_option maxRecDepth 20000 in
theorem ggX4_isWhole_X4_firstOf : GoodIn wsX4_isWhole wsX4_firstOf := goodIn_r _ [27] (by decide +kernel) (by decide +kernel)
set_option maxRecDepth 20000 in
theorem gX4_isWhole_X4_firstOf : GoodIn wsX4_isWhole (va_wsS RX4 174 yX4_firstOf wsX4_firstOf) := goodIn_app (goodIn_of _ (by decide +kernel)) ggX4_isWhole_X4_firstOf
set_option maxRecDepth 20000 in
theorem ggX4_isWhole_X1_isUsed : GoodIn wsX4_isWhole wsX1_isUsed := goodIn_r _ [32, 33, 58, 59, 60, 61, 62, 63, 64, 65, 66] (by decide +kernel) (by decide +kernel)
set_option maxRecDepth 20000 in
theorem gX4_isWhole_X1_isUsed : GoodIn wsX4_isWhole (wsV RX4 193 RX1 yX1_isUsed wsX1_isUsed) := goodIn_app (goodIn_of _ (by decide +kernel)) ggX4_isWhole_X1_isUsed
set_option maxRecDepth 20000 in
theorem ggX4_isWhole_X4_isSeenByAll : GoodIn wsX4_isWhole wsX4_isSeenByAll := goodIn_r _ [37, 2, 38, 39, 40, 41, 42, 31, 43, 44, 45, 23, 12, 24, 46, 47, 48, 49, 50, 51, 58, 59, 60, 61, 62, 63, 64, 65, 66] (by decide +kernel) (by decide +kernel)
set_option maxRecDepth 20000 in
theorem gX4_isWhole_X4_isSeenByAll : GoodIn wsX4_isWhole (wsV RX4 196 RX4 yX4_isSeenByAll wsX4_isSeenByAll) := goodIn_app (goodIn_of _ (by decide +kernel)) ggX4_isWhole_X4_isSeenByAll
theorem dX4_isWhole_0 : decode cX4_isWhole 0 = .ok (.iload_n 1, 1) := by decide +kernel
theorem dX4_isWhole_1 : decode cX4_isWhole 1 = .ok (.invokestatic 167, 3) := by decide +kernel
theorem dX4_isWhole_4 : decode cX4_isWhole 4 = .ok (.aload_n 0, 1) := by decide +kernel
theorem dX4_isWhole_5 : decode cX4_isWhole 5 = .ok (.getfield 12, 3) := by decide +kernel
theorem dX4_isWhole_8 : decode cX4_isWhole 8 = .ok (.invokevirtual 170, 3) := by decide +kernel
theorem dX4_isWhole_11 : decode cX4_isWhole 11 = .ok (.lstore_n 2, 1) := by decide +kernel
theorem dX4_isWhole_12 : decode cX4_isWhole 12 = .ok (.iload_n 1, 1) := by decide +kernel
theorem dX4_isWhole_13 : decode cX4_isWhole 13 = .ok (.invokestatic 174, 3) := by decide +kernel
theorem dX4_isWhole_16 : decode cX4_isWhole 16 = .ok (.istore 4, 2) := by decide +kernel
theorem dX4_isWhole_18 : decode cX4_isWhole 18 = .ok (.iload 4, 2) := by decide +kernel
theorem dX4_isWhole_20 : decode cX4_isWhole 20 = .ok (.iload_n 1, 1) := by decide +kernel
theorem dX4_isWhole_21 : decode cX4_isWhole 21 = .ok (.invokestatic 174, 3) := by decide +kernel
theorem dX4_isWhole_24 : decode cX4_isWhole 24 = .ok (.bipush 8, 2) := by decide +kernel
theorem dX4_isWhole_26 : decode cX4_isWhole 26 = .ok (.iadd, 1) := by decide +kernel
theorem dX4_isWhole_27 : decode cX4_isWhole 27 = .ok (.if_icmp .ge 33, 3) := by decide +kernel
theorem dX4_isWhole_30 : decode cX4_isWhole 30 = .ok (.aload_n 0, 1) := by decide +kernel
theorem dX4_isWhole_31 : decode cX4_isWhole 31 = .ok (.getfield 19, 3) := by decide +kernel
theorem dX4_isWhole_34 : decode cX4_isWhole 34 = .ok (.iload 4, 2) := by decide +kernel
theorem dX4_isWhole_36 : decode cX4_isWhole 36 = .ok (.invokevirtual 193, 3) := by decide +kernel
theorem dX4_isWhole_39 : decode cX4_isWhole 39 = .ok (.ifCond .eq 15, 3) := by decide +kernel
theorem dX4_isWhole_42 : decode cX4_isWhole 42 = .ok (.aload_n 0, 1) := by decide +kernel
theorem dX4_isWhole_43 : decode cX4_isWhole 43 = .ok (.iload 4, 2) := by decide +kernel
theorem dX4_isWhole_45 : decode cX4_isWhole 45 = .ok (.lload_n 2, 1) := by decide +kernel
theorem dX4_isWhole_46 : decode cX4_isWhole 46 = .ok (.invokevirtual 196, 3) := by decide +kernel
theorem dX4_isWhole_49 : decode cX4_isWhole 49 = .ok (.ifCond .ne 5, 3) := by decide +kernel
theorem dX4_isWhole_52 : decode cX4_isWhole 52 = .ok (.iconst 0, 1) := by decide +kernel
theorem dX4_isWhole_53 : decode cX4_isWhole 53 = .ok (.ireturn, 1) := by decide +kernel
theorem dX4_isWhole_54 : decode cX4_isWhole 54 = .ok (.iinc 4 1, 3) := by decide +kernel
theorem dX4_isWhole_57 : decode cX4_isWhole 57 = .ok (.goto (-39), 3) := by decide +kernel
theorem dX4_isWhole_60 : decode cX4_isWhole 60 = .ok (.iconst 1, 1) := by decide +kernel
theorem dX4_isWhole_61 : decode cX4_isWhole 61 = .ok (.ireturn, 1) := by decide +kernel
set_option maxRecDepth 20000 in
theorem ggX4_slot_X4_checkPage : GoodIn wsX4_slot wsX4_checkPage := goodIn_ca (goodIn_r _ [8, 9, 10] (by decide +kernel) (by decide +kernel)) (goodIn_sub (fun _ h => List.mem_cons_of_mem _ (List.mem_append_right _ h)) (by decide +kernel))
set_option maxRecDepth 20000 in
theorem gX4_slot_X4_checkPage : GoodIn wsX4_slot (va_wsS RX4 167 yX4_checkPage wsX4_checkPage) := goodIn_app (goodIn_of _ (by decide +kernel)) ggX4_slot_X4_checkPage
set_option maxRecDepth 20000 in
theorem ggX4_slot_X4_checkSlot : GoodIn wsX4_slot wsX4_checkSlot := goodIn_ca (goodIn_r _ [13, 9, 10] (by decide +kernel) (by decide +kernel)) (goodIn_sub (fun _ h => List.mem_cons_of_mem _ (List.mem_append_right _ h)) (by decide +kernel))
set_option maxRecDepth 20000 in
theorem gX4_slot_X4_checkSlot : GoodIn wsX4_slot (va_wsS RX4 199 yX4_checkSlot wsX4_checkSlot) := goodIn_app (goodIn_of _ (by decide +kernel)) ggX4_slot_X4_checkSlot
set_option maxRecDepth 20000 in
theorem ggX4_slot_X4_firstOf : GoodIn wsX4_slot wsX4_firstOf := goodIn_r _ [16] (by decide +kernel) (by decide +kernel)
set_option maxRecDepth 20000 in
theorem gX4_slot_X4_firstOf : GoodIn wsX4_slot (va_wsS RX4 174 yX4_firstOf wsX4_firstOf) := goodIn_app (goodIn_of _ (by decide +kernel)) ggX4_slot_X4_firstOf
set_option maxRecDepth 20000 in
theorem ggX4_slot_X1_isUsed : GoodIn wsX4_slot wsX1_isUsed := goodIn_r _ [21, 22, 40, 41, 42, 43, 44, 45, 46, 47, 48] (by decide +kernel) (by decide +kernel)
set_option maxRecDepth 20000 in
theorem gX4_slot_X1_isUsed : GoodIn wsX4_slot (wsV RX4 193 RX1 yX1_isUsed wsX1_isUsed) := goodIn_app (goodIn_of _ (by decide +kernel)) ggX4_slot_X1_isUsed
set_option maxRecDepth 20000 in
theorem ggX4_slot_X1_hasDeath : GoodIn wsX4_slot wsX1_hasDeath := goodIn_r _ [26, 27, 40, 41, 42, 43, 44, 45, 46, 47, 48] (by decide +kernel) (by decide +kernel)
set_option maxRecDepth 20000 in
theorem gX4_slot_X1_hasDeath : GoodIn wsX4_slot (wsV RX4 206 RX1 yX1_hasDeath wsX1_hasDeath) := goodIn_app (goodIn_of _ (by decide +kernel)) ggX4_slot_X1_hasDeath
set_option maxRecDepth 20000 in
theorem ggX4_slot_X4_isPlace : GoodIn wsX4_slot wsX4_isPlace := goodIn_r _ [30] (by decide +kernel) (by decide +kernel)
set_option maxRecDepth 20000 in
theorem gX4_slot_X4_isPlace : GoodIn wsX4_slot (va_wsS RX4 111 yX4_isPlace wsX4_isPlace) := goodIn_app (goodIn_of _ (by decide +kernel)) ggX4_slot_X4_isPlace
set_option maxRecDepth 20000 in
theorem ggX4_slot_X4_slotOf : GoodIn wsX4_slot wsX4_slotOf := goodIn_r _ [33] (by decide +kernel) (by decide +kernel)
set_option maxRecDepth 20000 in
theorem gX4_slot_X4_slotOf : GoodIn wsX4_slot (va_wsS RX4 163 yX4_slotOf wsX4_slotOf) := goodIn_app (goodIn_of _ (by decide +kernel)) ggX4_slot_X4_slotOf
theorem dX4_slot_0 : decode cX4_slot 0 = .ok (.iload_n 1, 1) := by decide +kernel
theorem dX4_slot_1 : decode cX4_slot 1 = .ok (.invokestatic 167, 3) := by decide +kernel
theorem dX4_slot_4 : decode cX4_slot 4 = .ok (.iload_n 2, 1) := by decide +kernel
theorem dX4_slot_5 : decode cX4_slot 5 = .ok (.invokestatic 199, 3) := by decide +kernel
theorem dX4_slot_8 : decode cX4_slot 8 = .ok (.iload_n 1, 1) := by decide +kernel
theorem dX4_slot_9 : decode cX4_slot 9 = .ok (.invokestatic 174, 3) := by decide +kernel
theorem dX4_slot_12 : decode cX4_slot 12 = .ok (.iload_n 2, 1) := by decide +kernel
theorem dX4_slot_13 : decode cX4_slot 13 = .ok (.iadd, 1) := by decide +kernel
theorem dX4_slot_14 : decode cX4_slot 14 = .ok (.istore_n 3, 1) := by decide +kernel
theorem dX4_slot_15 : decode cX4_slot 15 = .ok (.aload_n 0, 1) := by decide +kernel
theorem dX4_slot_16 : decode cX4_slot 16 = .ok (.getfield 19, 3) := by decide +kernel
theorem dX4_slot_19 : decode cX4_slot 19 = .ok (.iload_n 3, 1) := by decide +kernel
theorem dX4_slot_20 : decode cX4_slot 20 = .ok (.invokevirtual 193, 3) := by decide +kernel
theorem dX4_slot_23 : decode cX4_slot 23 = .ok (.ifCond .ne 5, 3) := by decide +kernel
theorem dX4_slot_26 : decode cX4_slot 26 = .ok (.iconst (-1), 1) := by decide +kernel
theorem dX4_slot_27 : decode cX4_slot 27 = .ok (.ireturn, 1) := by decide +kernel
theorem dX4_slot_28 : decode cX4_slot 28 = .ok (.aload_n 0, 1) := by decide +kernel
theorem dX4_slot_29 : decode cX4_slot 29 = .ok (.getfield 19, 3) := by decide +kernel
theorem dX4_slot_32 : decode cX4_slot 32 = .ok (.getfield 202, 3) := by decide +kernel
theorem dX4_slot_35 : decode cX4_slot 35 = .ok (.iload_n 3, 1) := by decide +kernel
theorem dX4_slot_36 : decode cX4_slot 36 = .ok (.iaload, 1) := by decide +kernel
theorem dX4_slot_37 : decode cX4_slot 37 = .ok (.istore 4, 2) := by decide +kernel
theorem dX4_slot_39 : decode cX4_slot 39 = .ok (.aload_n 0, 1) := by decide +kernel
theorem dX4_slot_40 : decode cX4_slot 40 = .ok (.getfield 19, 3) := by decide +kernel
theorem dX4_slot_43 : decode cX4_slot 43 = .ok (.getfield 203, 3) := by decide +kernel
theorem dX4_slot_46 : decode cX4_slot 46 = .ok (.iload_n 3, 1) := by decide +kernel
theorem dX4_slot_47 : decode cX4_slot 47 = .ok (.baload, 1) := by decide +kernel
theorem dX4_slot_48 : decode cX4_slot 48 = .ok (.ifCond .eq 6, 3) := by decide +kernel
theorem dX4_slot_51 : decode cX4_slot 51 = .ok (.iinc 4 10, 3) := by decide +kernel
theorem dX4_slot_54 : decode cX4_slot 54 = .ok (.aload_n 0, 1) := by decide +kernel
theorem dX4_slot_55 : decode cX4_slot 55 = .ok (.getfield 19, 3) := by decide +kernel
theorem dX4_slot_58 : decode cX4_slot 58 = .ok (.iload_n 3, 1) := by decide +kernel
theorem dX4_slot_59 : decode cX4_slot 59 = .ok (.invokevirtual 206, 3) := by decide +kernel
theorem dX4_slot_62 : decode cX4_slot 62 = .ok (.ifCond .eq 6, 3) := by decide +kernel
theorem dX4_slot_65 : decode cX4_slot 65 = .ok (.iinc 4 20, 3) := by decide +kernel
theorem dX4_slot_68 : decode cX4_slot 68 = .ok (.aload_n 0, 1) := by decide +kernel
theorem dX4_slot_69 : decode cX4_slot 69 = .ok (.getfield 19, 3) := by decide +kernel
theorem dX4_slot_72 : decode cX4_slot 72 = .ok (.getfield 157, 3) := by decide +kernel
theorem dX4_slot_75 : decode cX4_slot 75 = .ok (.iload_n 3, 1) := by decide +kernel
theorem dX4_slot_76 : decode cX4_slot 76 = .ok (.iaload, 1) := by decide +kernel
theorem dX4_slot_77 : decode cX4_slot 77 = .ok (.invokestatic 111, 3) := by decide +kernel
theorem dX4_slot_80 : decode cX4_slot 80 = .ok (.ifCond .eq 25, 3) := by decide +kernel
theorem dX4_slot_83 : decode cX4_slot 83 = .ok (.iload 4, 2) := by decide +kernel
theorem dX4_slot_85 : decode cX4_slot 85 = .ok (.bipush 100, 2) := by decide +kernel
theorem dX4_slot_87 : decode cX4_slot 87 = .ok (.iconst 1, 1) := by decide +kernel
theorem dX4_slot_88 : decode cX4_slot 88 = .ok (.aload_n 0, 1) := by decide +kernel
theorem dX4_slot_89 : decode cX4_slot 89 = .ok (.getfield 19, 3) := by decide +kernel
theorem dX4_slot_92 : decode cX4_slot 92 = .ok (.getfield 157, 3) := by decide +kernel
theorem dX4_slot_95 : decode cX4_slot 95 = .ok (.iload_n 3, 1) := by decide +kernel
theorem dX4_slot_96 : decode cX4_slot 96 = .ok (.iaload, 1) := by decide +kernel
theorem dX4_slot_97 : decode cX4_slot 97 = .ok (.invokestatic 163, 3) := by decide +kernel
theorem dX4_slot_100 : decode cX4_slot 100 = .ok (.iadd, 1) := by decide +kernel
theorem dX4_slot_101 : decode cX4_slot 101 = .ok (.imul, 1) := by decide +kernel
theorem dX4_slot_102 : decode cX4_slot 102 = .ok (.iadd, 1) := by decide +kernel
theorem dX4_slot_103 : decode cX4_slot 103 = .ok (.istore 4, 2) := by decide +kernel
theorem dX4_slot_105 : decode cX4_slot 105 = .ok (.iload 4, 2) := by decide +kernel
theorem dX4_slot_107 : decode cX4_slot 107 = .ok (.ireturn, 1) := by decide +kernel
set_option maxRecDepth 20000 in
theorem ggX4_entries_X4_checkKey : GoodIn wsX4_entries wsX4_checkKey := goodIn_ca (goodIn_r _ [6, 7, 8] (by decide +kernel) (by decide +kernel)) (goodIn_sub (fun _ h => List.mem_cons_of_mem _ (List.mem_append_right _ h)) (by decide +kernel))
set_option maxRecDepth 20000 in
theorem gX4_entries_X4_checkKey : GoodIn wsX4_entries (va_wsS RX4 105 yX4_checkKey wsX4_checkKey) := goodIn_app (goodIn_of _ (by decide +kernel)) ggX4_entries_X4_checkKey
theorem dX4_entries_0 : decode cX4_entries 0 = .ok (.iload_n 1, 1) := by decide +kernel
theorem dX4_entries_1 : decode cX4_entries 1 = .ok (.invokestatic 105, 3) := by decide +kernel
theorem dX4_entries_4 : decode cX4_entries 4 = .ok (.aload_n 0, 1) := by decide +kernel
theorem dX4_entries_5 : decode cX4_entries 5 = .ok (.getfield 26, 3) := by decide +kernel
theorem dX4_entries_8 : decode cX4_entries 8 = .ok (.getfield 209, 3) := by decide +kernel
theorem dX4_entries_11 : decode cX4_entries 11 = .ok (.iload_n 1, 1) := by decide +kernel
theorem dX4_entries_12 : decode cX4_entries 12 = .ok (.iaload, 1) := by decide +kernel
theorem dX4_entries_13 : decode cX4_entries 13 = .ok (.ireturn, 1) := by decide +kernel
set_option maxRecDepth 20000 in
theorem ggX4_fullness_X4_checkPage : GoodIn wsX4_fullness wsX4_checkPage := goodIn_ca (goodIn_r _ [6, 7, 8] (by decide +kernel) (by decide +kernel)) (goodIn_sub (fun _ h => List.mem_cons_of_mem _ (List.mem_append_right _ h)) (by decide +kernel))
set_option maxRecDepth 20000 in
theorem gX4_fullness_X4_checkPage : GoodIn wsX4_fullness (va_wsS RX4 167 yX4_checkPage wsX4_checkPage) := goodIn_app (goodIn_of _ (by decide +kernel)) ggX4_fullness_X4_checkPage
set_option maxRecDepth 20000 in
theorem ggX4_fullness_X4_firstOf : GoodIn wsX4_fullness wsX4_firstOf := goodIn_r _ [11] (by decide +kernel) (by decide +kernel)
set_option maxRecDepth 20000 in
theorem gX4_fullness_X4_firstOf : GoodIn wsX4_fullness (va_wsS RX4 174 yX4_firstOf wsX4_firstOf) := goodIn_app (goodIn_of _ (by decide +kernel)) ggX4_fullness_X4_firstOf
set_option maxRecDepth 20000 in
theorem ggX4_fullness_X1_isUsed : GoodIn wsX4_fullness wsX1_isUsed := goodIn_r _ [16, 17, 24, 25, 26, 27, 28, 29, 30, 31, 32] (by decide +kernel) (by decide +kernel)
set_option maxRecDepth 20000 in
theorem gX4_fullness_X1_isUsed : GoodIn wsX4_fullness (wsV RX4 193 RX1 yX1_isUsed wsX1_isUsed) := goodIn_app (goodIn_of _ (by decide +kernel)) ggX4_fullness_X1_isUsed
theorem dX4_fullness_0 : decode cX4_fullness 0 = .ok (.iload_n 1, 1) := by decide +kernel
theorem dX4_fullness_1 : decode cX4_fullness 1 = .ok (.invokestatic 167, 3) := by decide +kernel
theorem dX4_fullness_4 : decode cX4_fullness 4 = .ok (.iconst 0, 1) := by decide +kernel
theorem dX4_fullness_5 : decode cX4_fullness 5 = .ok (.istore_n 2, 1) := by decide +kernel
theorem dX4_fullness_6 : decode cX4_fullness 6 = .ok (.iload_n 1, 1) := by decide +kernel
theorem dX4_fullness_7 : decode cX4_fullness 7 = .ok (.invokestatic 174, 3) := by decide +kernel
theorem dX4_fullness_10 : decode cX4_fullness 10 = .ok (.istore_n 3, 1) := by decide +kernel
theorem dX4_fullness_11 : decode cX4_fullness 11 = .ok (.iload_n 3, 1) := by decide +kernel
theorem dX4_fullness_12 : decode cX4_fullness 12 = .ok (.iload_n 1, 1) := by decide +kernel
theorem dX4_fullness_13 : decode cX4_fullness 13 = .ok (.invokestatic 174, 3) := by decide +kernel
theorem dX4_fullness_16 : decode cX4_fullness 16 = .ok (.bipush 8, 2) := by decide +kernel
theorem dX4_fullness_18 : decode cX4_fullness 18 = .ok (.iadd, 1) := by decide +kernel
theorem dX4_fullness_19 : decode cX4_fullness 19 = .ok (.if_icmp .ge 23, 3) := by decide +kernel
theorem dX4_fullness_22 : decode cX4_fullness 22 = .ok (.aload_n 0, 1) := by decide +kernel
theorem dX4_fullness_23 : decode cX4_fullness 23 = .ok (.getfield 19, 3) := by decide +kernel
theorem dX4_fullness_26 : decode cX4_fullness 26 = .ok (.iload_n 3, 1) := by decide +kernel
theorem dX4_fullness_27 : decode cX4_fullness 27 = .ok (.invokevirtual 193, 3) := by decide +kernel
theorem dX4_fullness_30 : decode cX4_fullness 30 = .ok (.ifCond .eq 6, 3) := by decide +kernel
theorem dX4_fullness_33 : decode cX4_fullness 33 = .ok (.iinc 2 1, 3) := by decide +kernel
theorem dX4_fullness_36 : decode cX4_fullness 36 = .ok (.iinc 3 1, 3) := by decide +kernel
theorem dX4_fullness_39 : decode cX4_fullness 39 = .ok (.goto (-28), 3) := by decide +kernel
theorem dX4_fullness_42 : decode cX4_fullness 42 = .ok (.iload_n 2, 1) := by decide +kernel
theorem dX4_fullness_43 : decode cX4_fullness 43 = .ok (.i2f, 1) := by decide +kernel
theorem dX4_fullness_44 : decode cX4_fullness 44 = .ok (.ldc 212, 2) := by decide +kernel
theorem dX4_fullness_46 : decode cX4_fullness 46 = .ok (.fdiv, 1) := by decide +kernel
theorem dX4_fullness_47 : decode cX4_fullness 47 = .ok (.freturn, 1) := by decide +kernel
set_option maxRecDepth 20000 in
theorem ggX4_oldest_X3_oldestActiveAge : GoodIn wsX4_oldest wsX3_oldestActiveAge := goodIn_r _ [14, 15, 16, 17, 6, 7, 8, 18, 19, 20, 13, 21, 22, 23, 24, 25, 26, 27, 28, 29, 30, 31, 32, 33, 34, 35, 36, 37, 65, 66, 67, 68, 69, 70] (by decide +kernel) (by decide +kernel)
set_option maxRecDepth 20000 in
theorem gX4_oldest_X3_oldestActiveAge : GoodIn wsX4_oldest (wsV RX4 213 RX3 yX3_oldestActiveAge wsX3_oldestActiveAge) := goodIn_app (goodIn_of _ (by decide +kernel)) ggX4_oldest_X3_oldestActiveAge
set_option maxRecDepth 20000 in
theorem ggX4_oldest_X1_isUsed : GoodIn wsX4_oldest wsX1_isUsed := goodIn_r _ [42, 43, 56, 57, 58, 59, 60, 61, 62, 63, 64] (by decide +kernel) (by decide +kernel)
set_option maxRecDepth 20000 in
theorem gX4_oldest_X1_isUsed : GoodIn wsX4_oldest (wsV RX4 193 RX1 yX1_isUsed wsX1_isUsed) := goodIn_app (goodIn_of _ (by decide +kernel)) ggX4_oldest_X1_isUsed
set_option maxRecDepth 20000 in
theorem ggX4_oldest_X3_ageOf : GoodIn wsX4_oldest wsX3_ageOf := goodIn_r _ [29, 30, 31, 32, 33, 34, 35, 36, 37, 65, 66, 67, 68, 69, 70] (by decide +kernel) (by decide +kernel)
set_option maxRecDepth 20000 in
theorem gX4_oldest_X3_ageOf : GoodIn wsX4_oldest (wsV RX4 219 RX3 yX3_ageOf wsX3_ageOf) := goodIn_app (goodIn_of _ (by decide +kernel)) ggX4_oldest_X3_ageOf
set_option maxRecDepth 20000 in
theorem ggX4_oldest_X1_hasDeath : GoodIn wsX4_oldest wsX1_hasDeath := goodIn_r _ [48, 49, 56, 57, 58, 59, 60, 61, 62, 63, 64] (by decide +kernel) (by decide +kernel)
set_option maxRecDepth 20000 in
theorem gX4_oldest_X1_hasDeath : GoodIn wsX4_oldest (wsV RX4 206 RX1 yX1_hasDeath wsX1_hasDeath) := goodIn_app (goodIn_of _ (by decide +kernel)) ggX4_oldest_X1_hasDeath
theorem dX4_oldest_0 : decode cX4_oldest 0 = .ok (.aload_n 0, 1) := by decide +kernel
theorem dX4_oldest_1 : decode cX4_oldest 1 = .ok (.getfield 12, 3) := by decide +kernel
theorem dX4_oldest_4 : decode cX4_oldest 4 = .ok (.invokevirtual 213, 3) := by decide +kernel
theorem dX4_oldest_7 : decode cX4_oldest 7 = .ok (.istore_n 1, 1) := by decide +kernel
theorem dX4_oldest_8 : decode cX4_oldest 8 = .ok (.iconst 0, 1) := by decide +kernel
theorem dX4_oldest_9 : decode cX4_oldest 9 = .ok (.istore_n 2, 1) := by decide +kernel
theorem dX4_oldest_10 : decode cX4_oldest 10 = .ok (.iload_n 2, 1) := by decide +kernel
theorem dX4_oldest_11 : decode cX4_oldest 11 = .ok (.bipush 32, 2) := by decide +kernel
theorem dX4_oldest_13 : decode cX4_oldest 13 = .ok (.if_icmp .ge 85, 3) := by decide +kernel
theorem dX4_oldest_16 : decode cX4_oldest 16 = .ok (.aload_n 0, 1) := by decide +kernel
theorem dX4_oldest_17 : decode cX4_oldest 17 = .ok (.getfield 19, 3) := by decide +kernel
theorem dX4_oldest_20 : decode cX4_oldest 20 = .ok (.iload_n 2, 1) := by decide +kernel
theorem dX4_oldest_21 : decode cX4_oldest 21 = .ok (.invokevirtual 193, 3) := by decide +kernel
theorem dX4_oldest_24 : decode cX4_oldest 24 = .ok (.ifCond .eq 36, 3) := by decide +kernel
theorem dX4_oldest_27 : decode cX4_oldest 27 = .ok (.aload_n 0, 1) := by decide +kernel
theorem dX4_oldest_28 : decode cX4_oldest 28 = .ok (.getfield 19, 3) := by decide +kernel
theorem dX4_oldest_31 : decode cX4_oldest 31 = .ok (.getfield 203, 3) := by decide +kernel
theorem dX4_oldest_34 : decode cX4_oldest 34 = .ok (.iload_n 2, 1) := by decide +kernel
theorem dX4_oldest_35 : decode cX4_oldest 35 = .ok (.baload, 1) := by decide +kernel
theorem dX4_oldest_36 : decode cX4_oldest 36 = .ok (.ifCond .ne 24, 3) := by decide +kernel
theorem dX4_oldest_39 : decode cX4_oldest 39 = .ok (.iload_n 1, 1) := by decide +kernel
theorem dX4_oldest_40 : decode cX4_oldest 40 = .ok (.aload_n 0, 1) := by decide +kernel
theorem dX4_oldest_41 : decode cX4_oldest 41 = .ok (.getfield 12, 3) := by decide +kernel
theorem dX4_oldest_44 : decode cX4_oldest 44 = .ok (.aload_n 0, 1) := by decide +kernel
theorem dX4_oldest_45 : decode cX4_oldest 45 = .ok (.getfield 19, 3) := by decide +kernel
theorem dX4_oldest_48 : decode cX4_oldest 48 = .ok (.getfield 216, 3) := by decide +kernel
theorem dX4_oldest_51 : decode cX4_oldest 51 = .ok (.iload_n 2, 1) := by decide +kernel
theorem dX4_oldest_52 : decode cX4_oldest 52 = .ok (.iaload, 1) := by decide +kernel
theorem dX4_oldest_53 : decode cX4_oldest 53 = .ok (.invokevirtual 219, 3) := by decide +kernel
theorem dX4_oldest_56 : decode cX4_oldest 56 = .ok (.invokestatic 222, 3) := by decide +kernel
theorem dX4_oldest_59 : decode cX4_oldest 59 = .ok (.istore_n 1, 1) := by decide +kernel
theorem dX4_oldest_60 : decode cX4_oldest 60 = .ok (.aload_n 0, 1) := by decide +kernel
theorem dX4_oldest_61 : decode cX4_oldest 61 = .ok (.getfield 19, 3) := by decide +kernel
theorem dX4_oldest_64 : decode cX4_oldest 64 = .ok (.iload_n 2, 1) := by decide +kernel
theorem dX4_oldest_65 : decode cX4_oldest 65 = .ok (.invokevirtual 206, 3) := by decide +kernel
theorem dX4_oldest_68 : decode cX4_oldest 68 = .ok (.ifCond .eq 24, 3) := by decide +kernel
theorem dX4_oldest_71 : decode cX4_oldest 71 = .ok (.iload_n 1, 1) := by decide +kernel
theorem dX4_oldest_72 : decode cX4_oldest 72 = .ok (.aload_n 0, 1) := by decide +kernel
theorem dX4_oldest_73 : decode cX4_oldest 73 = .ok (.getfield 12, 3) := by decide +kernel
theorem dX4_oldest_76 : decode cX4_oldest 76 = .ok (.aload_n 0, 1) := by decide +kernel
theorem dX4_oldest_77 : decode cX4_oldest 77 = .ok (.getfield 19, 3) := by decide +kernel
theorem dX4_oldest_80 : decode cX4_oldest 80 = .ok (.getfield 227, 3) := by decide +kernel
theorem dX4_oldest_83 : decode cX4_oldest 83 = .ok (.iload_n 2, 1) := by decide +kernel
theorem dX4_oldest_84 : decode cX4_oldest 84 = .ok (.iaload, 1) := by decide +kernel
theorem dX4_oldest_85 : decode cX4_oldest 85 = .ok (.invokevirtual 219, 3) := by decide +kernel
theorem dX4_oldest_88 : decode cX4_oldest 88 = .ok (.invokestatic 222, 3) := by decide +kernel
theorem dX4_oldest_91 : decode cX4_oldest 91 = .ok (.istore_n 1, 1) := by decide +kernel
theorem dX4_oldest_92 : decode cX4_oldest 92 = .ok (.iinc 2 1, 3) := by decide +kernel
theorem dX4_oldest_95 : decode cX4_oldest 95 = .ok (.goto (-85), 3) := by decide +kernel
theorem dX4_oldest_98 : decode cX4_oldest 98 = .ok (.iload_n 1, 1) := by decide +kernel
theorem dX4_oldest_99 : decode cX4_oldest 99 = .ok (.ireturn, 1) := by decide +kernel
set_option maxRecDepth 20000 in
theorem ggX4_checkTransaction_X3_wasBegun : GoodIn wsX4_checkTransaction wsX3_wasBegun := goodIn_r _ [8, 9, 16, 17, 18, 19, 20, 21] (by decide +kernel) (by decide +kernel)
set_option maxRecDepth 20000 in
theorem gX4_checkTransaction_X3_wasBegun : GoodIn wsX4_checkTransaction (wsV RX4 230 RX3 yX3_wasBegun wsX3_wasBegun) := goodIn_app (goodIn_of _ (by decide +kernel)) ggX4_checkTransaction_X3_wasBegun
theorem dX4_checkTransaction_0 : decode cX4_checkTransaction 0 = .ok (.aload_n 0, 1) := by decide +kernel
theorem dX4_checkTransaction_1 : decode cX4_checkTransaction 1 = .ok (.getfield 12, 3) := by decide +kernel
theorem dX4_checkTransaction_4 : decode cX4_checkTransaction 4 = .ok (.iload_n 1, 1) := by decide +kernel
theorem dX4_checkTransaction_5 : decode cX4_checkTransaction 5 = .ok (.invokevirtual 230, 3) := by decide +kernel
theorem dX4_checkTransaction_8 : decode cX4_checkTransaction 8 = .ok (.ifCond .ne 13, 3) := by decide +kernel
theorem dX4_checkTransaction_11 : decode cX4_checkTransaction 11 = .ok (.new 233, 3) := by decide +kernel
theorem dX4_checkTransaction_14 : decode cX4_checkTransaction 14 = .ok (.dup, 1) := by decide +kernel
theorem dX4_checkTransaction_15 : decode cX4_checkTransaction 15 = .ok (.ldc 235, 2) := by decide +kernel
theorem dX4_checkTransaction_17 : decode cX4_checkTransaction 17 = .ok (.invokespecial 237, 3) := by decide +kernel
theorem dX4_checkTransaction_20 : decode cX4_checkTransaction 20 = .ok (.athrow, 1) := by decide +kernel
theorem dX4_checkTransaction_21 : decode cX4_checkTransaction 21 = .ok (.return_, 1) := by decide +kernel
set_option maxRecDepth 20000 in
theorem ggX4_checkActive_X3_isActive : GoodIn wsX4_checkActive wsX3_isActive := goodIn_r _ [8, 9, 10, 11, 7, 12, 19, 20, 21, 22, 23, 24] (by decide +kernel) (by decide +kernel)
set_option maxRecDepth 20000 in
theorem gX4_checkActive_X3_isActive : GoodIn wsX4_checkActive (wsV RX4 238 RX3 yX3_isActive wsX3_isActive) := goodIn_app (goodIn_of _ (by decide +kernel)) ggX4_checkActive_X3_isActive
theorem dX4_checkActive_0 : decode cX4_checkActive 0 = .ok (.aload_n 0, 1) := by decide +kernel
theorem dX4_checkActive_1 : decode cX4_checkActive 1 = .ok (.getfield 12, 3) := by decide +kernel
theorem dX4_checkActive_4 : decode cX4_checkActive 4 = .ok (.iload_n 1, 1) := by decide +kernel
theorem dX4_checkActive_5 : decode cX4_checkActive 5 = .ok (.invokevirtual 238, 3) := by decide +kernel
theorem dX4_checkActive_8 : decode cX4_checkActive 8 = .ok (.ifCond .ne 13, 3) := by decide +kernel
theorem dX4_checkActive_11 : decode cX4_checkActive 11 = .ok (.new 49, 3) := by decide +kernel
theorem dX4_checkActive_14 : decode cX4_checkActive 14 = .ok (.dup, 1) := by decide +kernel
theorem dX4_checkActive_15 : decode cX4_checkActive 15 = .ok (.ldc 241, 2) := by decide +kernel
theorem dX4_checkActive_17 : decode cX4_checkActive 17 = .ok (.invokespecial 53, 3) := by decide +kernel
theorem dX4_checkActive_20 : decode cX4_checkActive 20 = .ok (.athrow, 1) := by decide +kernel
theorem dX4_checkActive_21 : decode cX4_checkActive 21 = .ok (.return_, 1) := by decide +kernel
set_option maxRecDepth 20000 in
theorem ggX4_checkNotRefused_X3_isRival : GoodIn wsX4_checkNotRefused wsX3_isRival := goodIn_r _ [12, 13, 14, 15, 16, 11, 17, 18, 19, 20, 21, 22, 38, 39, 40, 41, 42, 43] (by decide +kernel) (by decide +kernel)
set_option maxRecDepth 20000 in
theorem gX4_checkNotRefused_X3_isRival : GoodIn wsX4_checkNotRefused (wsV RX4 244 RX3 yX3_isRival wsX3_isRival) := goodIn_app (goodIn_of _ (by decide +kernel)) ggX4_checkNotRefused_X3_isRival
theorem dX4_checkNotRefused_0 : decode cX4_checkNotRefused 0 = .ok (.iconst 0, 1) := by decide +kernel
theorem dX4_checkNotRefused_1 : decode cX4_checkNotRefused 1 = .ok (.istore_n 3, 1) := by decide +kernel
theorem dX4_checkNotRefused_2 : decode cX4_checkNotRefused 2 = .ok (.iload_n 3, 1) := by decide +kernel
theorem dX4_checkNotRefused_3 : decode cX4_checkNotRefused 3 = .ok (.bipush 32, 2) := by decide +kernel
theorem dX4_checkNotRefused_5 : decode cX4_checkNotRefused 5 = .ok (.if_icmp .ge 72, 3) := by decide +kernel
theorem dX4_checkNotRefused_8 : decode cX4_checkNotRefused 8 = .ok (.aload_n 0, 1) := by decide +kernel
theorem dX4_checkNotRefused_9 : decode cX4_checkNotRefused 9 = .ok (.getfield 19, 3) := by decide +kernel
theorem dX4_checkNotRefused_12 : decode cX4_checkNotRefused 12 = .ok (.getfield 202, 3) := by decide +kernel
theorem dX4_checkNotRefused_15 : decode cX4_checkNotRefused 15 = .ok (.iload_n 3, 1) := by decide +kernel
theorem dX4_checkNotRefused_16 : decode cX4_checkNotRefused 16 = .ok (.iaload, 1) := by decide +kernel
theorem dX4_checkNotRefused_17 : decode cX4_checkNotRefused 17 = .ok (.iload_n 2, 1) := by decide +kernel
theorem dX4_checkNotRefused_18 : decode cX4_checkNotRefused 18 = .ok (.if_icmp .ne 53, 3) := by decide +kernel
theorem dX4_checkNotRefused_21 : decode cX4_checkNotRefused 21 = .ok (.aload_n 0, 1) := by decide +kernel
theorem dX4_checkNotRefused_22 : decode cX4_checkNotRefused 22 = .ok (.getfield 12, 3) := by decide +kernel
theorem dX4_checkNotRefused_25 : decode cX4_checkNotRefused 25 = .ok (.iload_n 1, 1) := by decide +kernel
theorem dX4_checkNotRefused_26 : decode cX4_checkNotRefused 26 = .ok (.aload_n 0, 1) := by decide +kernel
theorem dX4_checkNotRefused_27 : decode cX4_checkNotRefused 27 = .ok (.getfield 19, 3) := by decide +kernel
theorem dX4_checkNotRefused_30 : decode cX4_checkNotRefused 30 = .ok (.getfield 243, 3) := by decide +kernel
theorem dX4_checkNotRefused_33 : decode cX4_checkNotRefused 33 = .ok (.iload_n 3, 1) := by decide +kernel
theorem dX4_checkNotRefused_34 : decode cX4_checkNotRefused 34 = .ok (.iaload, 1) := by decide +kernel
theorem dX4_checkNotRefused_35 : decode cX4_checkNotRefused 35 = .ok (.invokevirtual 244, 3) := by decide +kernel
theorem dX4_checkNotRefused_38 : decode cX4_checkNotRefused 38 = .ok (.ifCond .ne 23, 3) := by decide +kernel
theorem dX4_checkNotRefused_41 : decode cX4_checkNotRefused 41 = .ok (.aload_n 0, 1) := by decide +kernel
theorem dX4_checkNotRefused_42 : decode cX4_checkNotRefused 42 = .ok (.getfield 12, 3) := by decide +kernel
theorem dX4_checkNotRefused_45 : decode cX4_checkNotRefused 45 = .ok (.iload_n 1, 1) := by decide +kernel
theorem dX4_checkNotRefused_46 : decode cX4_checkNotRefused 46 = .ok (.aload_n 0, 1) := by decide +kernel
theorem dX4_checkNotRefused_47 : decode cX4_checkNotRefused 47 = .ok (.getfield 19, 3) := by decide +kernel
theorem dX4_checkNotRefused_50 : decode cX4_checkNotRefused 50 = .ok (.getfield 247, 3) := by decide +kernel
theorem dX4_checkNotRefused_53 : decode cX4_checkNotRefused 53 = .ok (.iload_n 3, 1) := by decide +kernel
theorem dX4_checkNotRefused_54 : decode cX4_checkNotRefused 54 = .ok (.iaload, 1) := by decide +kernel
theorem dX4_checkNotRefused_55 : decode cX4_checkNotRefused 55 = .ok (.invokevirtual 244, 3) := by decide +kernel
theorem dX4_checkNotRefused_58 : decode cX4_checkNotRefused 58 = .ok (.ifCond .eq 13, 3) := by decide +kernel
theorem dX4_checkNotRefused_61 : decode cX4_checkNotRefused 61 = .ok (.new 49, 3) := by decide +kernel
theorem dX4_checkNotRefused_64 : decode cX4_checkNotRefused 64 = .ok (.dup, 1) := by decide +kernel
theorem dX4_checkNotRefused_65 : decode cX4_checkNotRefused 65 = .ok (.ldc 248, 2) := by decide +kernel
theorem dX4_checkNotRefused_67 : decode cX4_checkNotRefused 67 = .ok (.invokespecial 53, 3) := by decide +kernel
theorem dX4_checkNotRefused_70 : decode cX4_checkNotRefused 70 = .ok (.athrow, 1) := by decide +kernel
theorem dX4_checkNotRefused_71 : decode cX4_checkNotRefused 71 = .ok (.iinc 3 1, 3) := by decide +kernel
theorem dX4_checkNotRefused_74 : decode cX4_checkNotRefused 74 = .ok (.goto (-72), 3) := by decide +kernel
theorem dX4_checkNotRefused_77 : decode cX4_checkNotRefused 77 = .ok (.return_, 1) := by decide +kernel
theorem dX4_checkStamp_0 : decode cX4_checkStamp 0 = .ok (.iload_n 0, 1) := by decide +kernel
theorem dX4_checkStamp_1 : decode cX4_checkStamp 1 = .ok (.ifCond .lt 9, 3) := by decide +kernel
theorem dX4_checkStamp_4 : decode cX4_checkStamp 4 = .ok (.iload_n 0, 1) := by decide +kernel
theorem dX4_checkStamp_5 : decode cX4_checkStamp 5 = .ok (.bipush 64, 2) := by decide +kernel
theorem dX4_checkStamp_7 : decode cX4_checkStamp 7 = .ok (.if_icmp .lt 13, 3) := by decide +kernel
theorem dX4_checkStamp_10 : decode cX4_checkStamp 10 = .ok (.new 83, 3) := by decide +kernel
theorem dX4_checkStamp_13 : decode cX4_checkStamp 13 = .ok (.dup, 1) := by decide +kernel
theorem dX4_checkStamp_14 : decode cX4_checkStamp 14 = .ok (.ldc 250, 2) := by decide +kernel
theorem dX4_checkStamp_16 : decode cX4_checkStamp 16 = .ok (.invokespecial 87, 3) := by decide +kernel
theorem dX4_checkStamp_19 : decode cX4_checkStamp 19 = .ok (.athrow, 1) := by decide +kernel
theorem dX4_checkStamp_20 : decode cX4_checkStamp 20 = .ok (.return_, 1) := by decide +kernel
theorem dX4_checkKey_0 : decode cX4_checkKey 0 = .ok (.iload_n 0, 1) := by decide +kernel
theorem dX4_checkKey_1 : decode cX4_checkKey 1 = .ok (.ifCond .lt 9, 3) := by decide +kernel
theorem dX4_checkKey_4 : decode cX4_checkKey 4 = .ok (.iload_n 0, 1) := by decide +kernel
theorem dX4_checkKey_5 : decode cX4_checkKey 5 = .ok (.bipush 6, 2) := by decide +kernel
theorem dX4_checkKey_7 : decode cX4_checkKey 7 = .ok (.if_icmp .lt 13, 3) := by decide +kernel
theorem dX4_checkKey_10 : decode cX4_checkKey 10 = .ok (.new 83, 3) := by decide +kernel
theorem dX4_checkKey_13 : decode cX4_checkKey 13 = .ok (.dup, 1) := by decide +kernel
theorem dX4_checkKey_14 : decode cX4_checkKey 14 = .ok (.ldc 252, 2) := by decide +kernel
theorem dX4_checkKey_16 : decode cX4_checkKey 16 = .ok (.invokespecial 87, 3) := by decide +kernel
theorem dX4_checkKey_19 : decode cX4_checkKey 19 = .ok (.athrow, 1) := by decide +kernel
theorem dX4_checkKey_20 : decode cX4_checkKey 20 = .ok (.return_, 1) := by decide +kernel
theorem dX4_checkValue_0 : decode cX4_checkValue 0 = .ok (.iload_n 0, 1) := by decide +kernel
theorem dX4_checkValue_1 : decode cX4_checkValue 1 = .ok (.ifCond .lt 10, 3) := by decide +kernel
theorem dX4_checkValue_4 : decode cX4_checkValue 4 = .ok (.iload_n 0, 1) := by decide +kernel
theorem dX4_checkValue_5 : decode cX4_checkValue 5 = .ok (.sipush 10000, 3) := by decide +kernel
theorem dX4_checkValue_8 : decode cX4_checkValue 8 = .ok (.if_icmp .lt 13, 3) := by decide +kernel
theorem dX4_checkValue_11 : decode cX4_checkValue 11 = .ok (.new 83, 3) := by decide +kernel
theorem dX4_checkValue_14 : decode cX4_checkValue 14 = .ok (.dup, 1) := by decide +kernel
theorem dX4_checkValue_15 : decode cX4_checkValue 15 = .ok (.ldc 254, 2) := by decide +kernel
theorem dX4_checkValue_17 : decode cX4_checkValue 17 = .ok (.invokespecial 87, 3) := by decide +kernel
theorem dX4_checkValue_20 : decode cX4_checkValue 20 = .ok (.athrow, 1) := by decide +kernel
theorem dX4_checkValue_21 : decode cX4_checkValue 21 = .ok (.return_, 1) := by decide +kernel
theorem dX4_checkPage_0 : decode cX4_checkPage 0 = .ok (.iload_n 0, 1) := by decide +kernel
theorem dX4_checkPage_1 : decode cX4_checkPage 1 = .ok (.ifCond .lt 8, 3) := by decide +kernel
theorem dX4_checkPage_4 : decode cX4_checkPage 4 = .ok (.iload_n 0, 1) := by decide +kernel
theorem dX4_checkPage_5 : decode cX4_checkPage 5 = .ok (.iconst 4, 1) := by decide +kernel
theorem dX4_checkPage_6 : decode cX4_checkPage 6 = .ok (.if_icmp .lt 14, 3) := by decide +kernel
theorem dX4_checkPage_9 : decode cX4_checkPage 9 = .ok (.new 83, 3) := by decide +kernel
theorem dX4_checkPage_12 : decode cX4_checkPage 12 = .ok (.dup, 1) := by decide +kernel
theorem dX4_checkPage_13 : decode cX4_checkPage 13 = .ok (.ldc_w 256, 3) := by decide +kernel
theorem dX4_checkPage_16 : decode cX4_checkPage 16 = .ok (.invokespecial 87, 3) := by decide +kernel
theorem dX4_checkPage_19 : decode cX4_checkPage 19 = .ok (.athrow, 1) := by decide +kernel
theorem dX4_checkPage_20 : decode cX4_checkPage 20 = .ok (.return_, 1) := by decide +kernel
theorem dX4_checkSlot_0 : decode cX4_checkSlot 0 = .ok (.iload_n 0, 1) := by decide +kernel
theorem dX4_checkSlot_1 : decode cX4_checkSlot 1 = .ok (.ifCond .lt 9, 3) := by decide +kernel
theorem dX4_checkSlot_4 : decode cX4_checkSlot 4 = .ok (.iload_n 0, 1) := by decide +kernel
theorem dX4_checkSlot_5 : decode cX4_checkSlot 5 = .ok (.bipush 8, 2) := by decide +kernel
theorem dX4_checkSlot_7 : decode cX4_checkSlot 7 = .ok (.if_icmp .lt 14, 3) := by decide +kernel
theorem dX4_checkSlot_10 : decode cX4_checkSlot 10 = .ok (.new 83, 3) := by decide +kernel
theorem dX4_checkSlot_13 : decode cX4_checkSlot 13 = .ok (.dup, 1) := by decide +kernel
theorem dX4_checkSlot_14 : decode cX4_checkSlot 14 = .ok (.ldc_w 258, 3) := by decide +kernel
theorem dX4_checkSlot_17 : decode cX4_checkSlot 17 = .ok (.invokespecial 87, 3) := by decide +kernel
theorem dX4_checkSlot_20 : decode cX4_checkSlot 20 = .ok (.athrow, 1) := by decide +kernel
theorem dX4_checkSlot_21 : decode cX4_checkSlot 21 = .ok (.return_, 1) := by decide +kernel
theorem dX4_isPlace_0 : decode cX4_isPlace 0 = .ok (.iload_n 0, 1) := by decide +kernel
theorem dX4_isPlace_1 : decode cX4_isPlace 1 = .ok (.ifCond .lt 13, 3) := by decide +kernel
theorem dX4_isPlace_4 : decode cX4_isPlace 4 = .ok (.iload_n 0, 1) := by decide +kernel
theorem dX4_isPlace_5 : decode cX4_isPlace 5 = .ok (.bipush 32, 2) := by decide +kernel
theorem dX4_isPlace_7 : decode cX4_isPlace 7 = .ok (.if_icmp .ge 7, 3) := by decide +kernel
theorem dX4_isPlace_10 : decode cX4_isPlace 10 = .ok (.iconst 1, 1) := by decide +kernel
theorem dX4_isPlace_11 : decode cX4_isPlace 11 = .ok (.goto 4, 3) := by decide +kernel
theorem dX4_isPlace_14 : decode cX4_isPlace 14 = .ok (.iconst 0, 1) := by decide +kernel
theorem dX4_isPlace_15 : decode cX4_isPlace 15 = .ok (.ireturn, 1) := by decide +kernel
theorem dX4_firstOf_0 : decode cX4_firstOf 0 = .ok (.iload_n 0, 1) := by decide +kernel
theorem dX4_firstOf_1 : decode cX4_firstOf 1 = .ok (.bipush 8, 2) := by decide +kernel
theorem dX4_firstOf_3 : decode cX4_firstOf 3 = .ok (.imul, 1) := by decide +kernel
theorem dX4_firstOf_4 : decode cX4_firstOf 4 = .ok (.ireturn, 1) := by decide +kernel
theorem dX4_pageOf_0 : decode cX4_pageOf 0 = .ok (.iload_n 0, 1) := by decide +kernel
theorem dX4_pageOf_1 : decode cX4_pageOf 1 = .ok (.bipush 8, 2) := by decide +kernel
theorem dX4_pageOf_3 : decode cX4_pageOf 3 = .ok (.idiv, 1) := by decide +kernel
theorem dX4_pageOf_4 : decode cX4_pageOf 4 = .ok (.ireturn, 1) := by decide +kernel
theorem dX4_slotOf_0 : decode cX4_slotOf 0 = .ok (.iload_n 0, 1) := by decide +kernel
theorem dX4_slotOf_1 : decode cX4_slotOf 1 = .ok (.bipush 8, 2) := by decide +kernel
theorem dX4_slotOf_3 : decode cX4_slotOf 3 = .ok (.irem, 1) := by decide +kernel
theorem dX4_slotOf_4 : decode cX4_slotOf 4 = .ok (.ireturn, 1) := by decide +kernel
set_option maxRecDepth 20000 in
theorem ggX4_distance_J9_floorMod_7cf53 : GoodIn wsX4_distance wsJ9_floorMod_7cf53 := goodIn_r _ [4] (by decide +kernel) (by decide +kernel)
set_option maxRecDepth 20000 in
theorem gX4_distance_J9_floorMod_7cf53 : GoodIn wsX4_distance (va_wsS RX4 260 yJ9_floorMod_7cf53 wsJ9_floorMod_7cf53) := goodIn_app (goodIn_of _ (by decide +kernel)) ggX4_distance_J9_floorMod_7cf53
theorem dX4_distance_0 : decode cX4_distance 0 = .ok (.iload_n 1, 1) := by decide +kernel
theorem dX4_distance_1 : decode cX4_distance 1 = .ok (.iload_n 0, 1) := by decide +kernel
theorem dX4_distance_2 : decode cX4_distance 2 = .ok (.isub, 1) := by decide +kernel
theorem dX4_distance_3 : decode cX4_distance 3 = .ok (.bipush 64, 2) := by decide +kernel
theorem dX4_distance_5 : decode cX4_distance 5 = .ok (.invokestatic 260, 3) := by decide +kernel
theorem dX4_distance_8 : decode cX4_distance 8 = .ok (.ireturn, 1) := by decide +kernel
set_option maxRecDepth 20000 in
theorem ggX4_seenPlace_X4_seenInChain : GoodIn wsX4_seenPlace wsX4_seenInChain := goodIn_r _ [8, 9, 10, 11, 12, 7, 13, 14, 15, 16, 17, 18, 19, 20, 21, 22, 23, 24, 25, 26, 27, 28, 29, 30, 31, 32, 33, 34, 35, 36, 39, 40, 41, 42, 43, 44, 45, 46, 47, 48, 49, 50, 51, 52, 53] (by decide +kernel) (by decide +kernel)
set_option maxRecDepth 20000 in
theorem gX4_seenPlace_X4_seenInChain : GoodIn wsX4_seenPlace (wsV RX4 267 RX4 yX4_seenInChain wsX4_seenInChain) := goodIn_app (goodIn_of _ (by decide +kernel)) ggX4_seenPlace_X4_seenInChain
theorem dX4_seenPlace_0 : decode cX4_seenPlace 0 = .ok (.aload_n 0, 1) := by decide +kernel
theorem dX4_seenPlace_1 : decode cX4_seenPlace 1 = .ok (.getfield 26, 3) := by decide +kernel
theorem dX4_seenPlace_4 : decode cX4_seenPlace 4 = .ok (.getfield 209, 3) := by decide +kernel
theorem dX4_seenPlace_7 : decode cX4_seenPlace 7 = .ok (.iload_n 2, 1) := by decide +kernel
theorem dX4_seenPlace_8 : decode cX4_seenPlace 8 = .ok (.iaload, 1) := by decide +kernel
theorem dX4_seenPlace_9 : decode cX4_seenPlace 9 = .ok (.iconst 1, 1) := by decide +kernel
theorem dX4_seenPlace_10 : decode cX4_seenPlace 10 = .ok (.isub, 1) := by decide +kernel
theorem dX4_seenPlace_11 : decode cX4_seenPlace 11 = .ok (.istore_n 3, 1) := by decide +kernel
theorem dX4_seenPlace_12 : decode cX4_seenPlace 12 = .ok (.iload_n 3, 1) := by decide +kernel
theorem dX4_seenPlace_13 : decode cX4_seenPlace 13 = .ok (.ifCond .lt 36, 3) := by decide +kernel
theorem dX4_seenPlace_16 : decode cX4_seenPlace 16 = .ok (.aload_n 0, 1) := by decide +kernel
theorem dX4_seenPlace_17 : decode cX4_seenPlace 17 = .ok (.iload_n 1, 1) := by decide +kernel
theorem dX4_seenPlace_18 : decode cX4_seenPlace 18 = .ok (.aload_n 0, 1) := by decide +kernel
theorem dX4_seenPlace_19 : decode cX4_seenPlace 19 = .ok (.getfield 26, 3) := by decide +kernel
theorem dX4_seenPlace_22 : decode cX4_seenPlace 22 = .ok (.getfield 263, 3) := by decide +kernel
theorem dX4_seenPlace_25 : decode cX4_seenPlace 25 = .ok (.iload_n 2, 1) := by decide +kernel
theorem dX4_seenPlace_26 : decode cX4_seenPlace 26 = .ok (.aaload, 1) := by decide +kernel
theorem dX4_seenPlace_27 : decode cX4_seenPlace 27 = .ok (.iload_n 3, 1) := by decide +kernel
theorem dX4_seenPlace_28 : decode cX4_seenPlace 28 = .ok (.iaload, 1) := by decide +kernel
theorem dX4_seenPlace_29 : decode cX4_seenPlace 29 = .ok (.invokevirtual 267, 3) := by decide +kernel
theorem dX4_seenPlace_32 : decode cX4_seenPlace 32 = .ok (.istore 4, 2) := by decide +kernel
theorem dX4_seenPlace_34 : decode cX4_seenPlace 34 = .ok (.iload 4, 2) := by decide +kernel
theorem dX4_seenPlace_36 : decode cX4_seenPlace 36 = .ok (.iconst (-1), 1) := by decide +kernel
theorem dX4_seenPlace_37 : decode cX4_seenPlace 37 = .ok (.if_icmp .eq 6, 3) := by decide +kernel
theorem dX4_seenPlace_40 : decode cX4_seenPlace 40 = .ok (.iload 4, 2) := by decide +kernel
theorem dX4_seenPlace_42 : decode cX4_seenPlace 42 = .ok (.ireturn, 1) := by decide +kernel
theorem dX4_seenPlace_43 : decode cX4_seenPlace 43 = .ok (.iinc 3 (-1), 3) := by decide +kernel
theorem dX4_seenPlace_46 : decode cX4_seenPlace 46 = .ok (.goto (-34), 3) := by decide +kernel
theorem dX4_seenPlace_49 : decode cX4_seenPlace 49 = .ok (.iconst (-1), 1) := by decide +kernel
theorem dX4_seenPlace_50 : decode cX4_seenPlace 50 = .ok (.ireturn, 1) := by decide +kernel
set_option maxRecDepth 20000 in
theorem ggX4_seenInChain_X4_isPlace : GoodIn wsX4_seenInChain wsX4_isPlace := goodIn_r _ [6] (by decide +kernel) (by decide +kernel)
set_option maxRecDepth 20000 in
theorem gX4_seenInChain_X4_isPlace : GoodIn wsX4_seenInChain (va_wsS RX4 111 yX4_isPlace wsX4_isPlace) := goodIn_app (goodIn_of _ (by decide +kernel)) ggX4_seenInChain_X4_isPlace
set_option maxRecDepth 20000 in
theorem ggX4_seenInChain_X4_sees : GoodIn wsX4_seenInChain wsX4_sees := goodIn_r _ [10, 1, 11, 12, 13, 14, 15, 16, 17, 18, 19, 20, 21, 22, 23, 24, 25, 26, 27, 28, 29, 30, 31, 32, 33, 34, 35, 36, 37, 38, 39, 40, 41, 42, 43, 44] (by decide +kernel) (by decide +kernel)
set_option maxRecDepth 20000 in
theorem gX4_seenInChain_X4_sees : GoodIn wsX4_seenInChain (wsV RX4 270 RX4 yX4_sees wsX4_sees) := goodIn_app (goodIn_of _ (by decide +kernel)) ggX4_seenInChain_X4_sees
theorem dX4_seenInChain_0 : decode cX4_seenInChain 0 = .ok (.iload_n 2, 1) := by decide +kernel
theorem dX4_seenInChain_1 : decode cX4_seenInChain 1 = .ok (.istore_n 3, 1) := by decide +kernel
theorem dX4_seenInChain_2 : decode cX4_seenInChain 2 = .ok (.iconst 0, 1) := by decide +kernel
theorem dX4_seenInChain_3 : decode cX4_seenInChain 3 = .ok (.istore 4, 2) := by decide +kernel
theorem dX4_seenInChain_5 : decode cX4_seenInChain 5 = .ok (.iload 4, 2) := by decide +kernel
theorem dX4_seenInChain_7 : decode cX4_seenInChain 7 = .ok (.bipush 8, 2) := by decide +kernel
theorem dX4_seenInChain_9 : decode cX4_seenInChain 9 = .ok (.if_icmp .ge 37, 3) := by decide +kernel
theorem dX4_seenInChain_12 : decode cX4_seenInChain 12 = .ok (.iload_n 3, 1) := by decide +kernel
theorem dX4_seenInChain_13 : decode cX4_seenInChain 13 = .ok (.invokestatic 111, 3) := by decide +kernel
theorem dX4_seenInChain_16 : decode cX4_seenInChain 16 = .ok (.ifCond .eq 30, 3) := by decide +kernel
theorem dX4_seenInChain_19 : decode cX4_seenInChain 19 = .ok (.aload_n 0, 1) := by decide +kernel
theorem dX4_seenInChain_20 : decode cX4_seenInChain 20 = .ok (.iload_n 1, 1) := by decide +kernel
theorem dX4_seenInChain_21 : decode cX4_seenInChain 21 = .ok (.iload_n 3, 1) := by decide +kernel
theorem dX4_seenInChain_22 : decode cX4_seenInChain 22 = .ok (.invokevirtual 270, 3) := by decide +kernel
theorem dX4_seenInChain_25 : decode cX4_seenInChain 25 = .ok (.ifCond .eq 5, 3) := by decide +kernel
theorem dX4_seenInChain_28 : decode cX4_seenInChain 28 = .ok (.iload_n 3, 1) := by decide +kernel
theorem dX4_seenInChain_29 : decode cX4_seenInChain 29 = .ok (.ireturn, 1) := by decide +kernel
theorem dX4_seenInChain_30 : decode cX4_seenInChain 30 = .ok (.aload_n 0, 1) := by decide +kernel
theorem dX4_seenInChain_31 : decode cX4_seenInChain 31 = .ok (.getfield 19, 3) := by decide +kernel
theorem dX4_seenInChain_34 : decode cX4_seenInChain 34 = .ok (.getfield 157, 3) := by decide +kernel
theorem dX4_seenInChain_37 : decode cX4_seenInChain 37 = .ok (.iload_n 3, 1) := by decide +kernel
theorem dX4_seenInChain_38 : decode cX4_seenInChain 38 = .ok (.iaload, 1) := by decide +kernel
theorem dX4_seenInChain_39 : decode cX4_seenInChain 39 = .ok (.istore_n 3, 1) := by decide +kernel
theorem dX4_seenInChain_40 : decode cX4_seenInChain 40 = .ok (.iinc 4 1, 3) := by decide +kernel
theorem dX4_seenInChain_43 : decode cX4_seenInChain 43 = .ok (.goto (-38), 3) := by decide +kernel
theorem dX4_seenInChain_46 : decode cX4_seenInChain 46 = .ok (.iconst (-1), 1) := by decide +kernel
theorem dX4_seenInChain_47 : decode cX4_seenInChain 47 = .ok (.ireturn, 1) := by decide +kernel
set_option maxRecDepth 20000 in
theorem ggX4_sees_X3_knows : GoodIn wsX4_sees wsX3_knows := goodIn_r _ [10, 11, 12, 13, 9, 14, 30, 31, 32, 33, 34, 35] (by decide +kernel) (by decide +kernel)
set_option maxRecDepth 20000 in
theorem gX4_sees_X3_knows : GoodIn wsX4_sees (wsV RX4 127 RX3 yX3_knows wsX3_knows) := goodIn_app (goodIn_of _ (by decide +kernel)) ggX4_sees_X3_knows
theorem dX4_sees_0 : decode cX4_sees 0 = .ok (.aload_n 0, 1) := by decide +kernel
theorem dX4_sees_1 : decode cX4_sees 1 = .ok (.getfield 19, 3) := by decide +kernel
theorem dX4_sees_4 : decode cX4_sees 4 = .ok (.getfield 203, 3) := by decide +kernel
theorem dX4_sees_7 : decode cX4_sees 7 = .ok (.iload_n 2, 1) := by decide +kernel
theorem dX4_sees_8 : decode cX4_sees 8 = .ok (.baload, 1) := by decide +kernel
theorem dX4_sees_9 : decode cX4_sees 9 = .ok (.ifCond .ne 23, 3) := by decide +kernel
theorem dX4_sees_12 : decode cX4_sees 12 = .ok (.aload_n 0, 1) := by decide +kernel
theorem dX4_sees_13 : decode cX4_sees 13 = .ok (.getfield 12, 3) := by decide +kernel
theorem dX4_sees_16 : decode cX4_sees 16 = .ok (.iload_n 1, 1) := by decide +kernel
theorem dX4_sees_17 : decode cX4_sees 17 = .ok (.aload_n 0, 1) := by decide +kernel
theorem dX4_sees_18 : decode cX4_sees 18 = .ok (.getfield 19, 3) := by decide +kernel
theorem dX4_sees_21 : decode cX4_sees 21 = .ok (.getfield 243, 3) := by decide +kernel
theorem dX4_sees_24 : decode cX4_sees 24 = .ok (.iload_n 2, 1) := by decide +kernel
theorem dX4_sees_25 : decode cX4_sees 25 = .ok (.iaload, 1) := by decide +kernel
theorem dX4_sees_26 : decode cX4_sees 26 = .ok (.invokevirtual 127, 3) := by decide +kernel
theorem dX4_sees_29 : decode cX4_sees 29 = .ok (.ifCond .eq 7, 3) := by decide +kernel
theorem dX4_sees_32 : decode cX4_sees 32 = .ok (.iconst 1, 1) := by decide +kernel
theorem dX4_sees_33 : decode cX4_sees 33 = .ok (.goto 4, 3) := by decide +kernel
theorem dX4_sees_36 : decode cX4_sees 36 = .ok (.iconst 0, 1) := by decide +kernel
theorem dX4_sees_37 : decode cX4_sees 37 = .ok (.istore_n 3, 1) := by decide +kernel
theorem dX4_sees_38 : decode cX4_sees 38 = .ok (.iload_n 3, 1) := by decide +kernel
theorem dX4_sees_39 : decode cX4_sees 39 = .ok (.ifCond .eq 27, 3) := by decide +kernel
theorem dX4_sees_42 : decode cX4_sees 42 = .ok (.aload_n 0, 1) := by decide +kernel
theorem dX4_sees_43 : decode cX4_sees 43 = .ok (.getfield 12, 3) := by decide +kernel
theorem dX4_sees_46 : decode cX4_sees 46 = .ok (.iload_n 1, 1) := by decide +kernel
theorem dX4_sees_47 : decode cX4_sees 47 = .ok (.aload_n 0, 1) := by decide +kernel
theorem dX4_sees_48 : decode cX4_sees 48 = .ok (.getfield 19, 3) := by decide +kernel
theorem dX4_sees_51 : decode cX4_sees 51 = .ok (.getfield 247, 3) := by decide +kernel
theorem dX4_sees_54 : decode cX4_sees 54 = .ok (.iload_n 2, 1) := by decide +kernel
theorem dX4_sees_55 : decode cX4_sees 55 = .ok (.iaload, 1) := by decide +kernel
theorem dX4_sees_56 : decode cX4_sees 56 = .ok (.invokevirtual 127, 3) := by decide +kernel
theorem dX4_sees_59 : decode cX4_sees 59 = .ok (.ifCond .ne 7, 3) := by decide +kernel
theorem dX4_sees_62 : decode cX4_sees 62 = .ok (.iconst 1, 1) := by decide +kernel
theorem dX4_sees_63 : decode cX4_sees 63 = .ok (.goto 4, 3) := by decide +kernel
theorem dX4_sees_66 : decode cX4_sees 66 = .ok (.iconst 0, 1) := by decide +kernel
theorem dX4_sees_67 : decode cX4_sees 67 = .ok (.ireturn, 1) := by decide +kernel
set_option maxRecDepth 20000 in
theorem ggX4_placeForNew_X4_isPlace : GoodIn wsX4_placeForNew wsX4_isPlace := goodIn_r _ [5] (by decide +kernel) (by decide +kernel)
set_option maxRecDepth 20000 in
theorem gX4_placeForNew_X4_isPlace : GoodIn wsX4_placeForNew (va_wsS RX4 111 yX4_isPlace wsX4_isPlace) := goodIn_app (goodIn_of _ (by decide +kernel)) ggX4_placeForNew_X4_isPlace
set_option maxRecDepth 20000 in
theorem ggX4_placeForNew_X4_pageOf : GoodIn wsX4_placeForNew wsX4_pageOf := goodIn_r _ [8] (by decide +kernel) (by decide +kernel)
set_option maxRecDepth 20000 in
theorem gX4_placeForNew_X4_pageOf : GoodIn wsX4_placeForNew (va_wsS RX4 154 yX4_pageOf wsX4_pageOf) := goodIn_app (goodIn_of _ (by decide +kernel)) ggX4_placeForNew_X4_pageOf
set_option maxRecDepth 20000 in
theorem ggX4_placeForNew_X4_firstOf : GoodIn wsX4_placeForNew wsX4_firstOf := goodIn_r _ [11] (by decide +kernel) (by decide +kernel)
set_option maxRecDepth 20000 in
theorem gX4_placeForNew_X4_firstOf : GoodIn wsX4_placeForNew (va_wsS RX4 174 yX4_firstOf wsX4_firstOf) := goodIn_app (goodIn_of _ (by decide +kernel)) ggX4_placeForNew_X4_firstOf
set_option maxRecDepth 20000 in
theorem ggX4_placeForNew_X1_lowestFree : GoodIn wsX4_placeForNew wsX1_lowestFree := goodIn_r _ [16, 17, 18, 19, 15, 20, 21, 28, 29, 30, 31, 32, 33, 34, 35, 36] (by decide +kernel) (by decide +kernel)
set_option maxRecDepth 20000 in
theorem gX4_placeForNew_X1_lowestFree : GoodIn wsX4_placeForNew (wsV RX4 273 RX1 yX1_lowestFree wsX1_lowestFree) := goodIn_app (goodIn_of _ (by decide +kernel)) ggX4_placeForNew_X1_lowestFree
theorem dX4_placeForNew_0 : decode cX4_placeForNew 0 = .ok (.iload_n 1, 1) := by decide +kernel
theorem dX4_placeForNew_1 : decode cX4_placeForNew 1 = .ok (.invokestatic 111, 3) := by decide +kernel
theorem dX4_placeForNew_4 : decode cX4_placeForNew 4 = .ok (.ifCond .eq 27, 3) := by decide +kernel
theorem dX4_placeForNew_7 : decode cX4_placeForNew 7 = .ok (.aload_n 0, 1) := by decide +kernel
theorem dX4_placeForNew_8 : decode cX4_placeForNew 8 = .ok (.getfield 19, 3) := by decide +kernel
theorem dX4_placeForNew_11 : decode cX4_placeForNew 11 = .ok (.iload_n 1, 1) := by decide +kernel
theorem dX4_placeForNew_12 : decode cX4_placeForNew 12 = .ok (.invokestatic 154, 3) := by decide +kernel
theorem dX4_placeForNew_15 : decode cX4_placeForNew 15 = .ok (.invokestatic 174, 3) := by decide +kernel
theorem dX4_placeForNew_18 : decode cX4_placeForNew 18 = .ok (.bipush 8, 2) := by decide +kernel
theorem dX4_placeForNew_20 : decode cX4_placeForNew 20 = .ok (.invokevirtual 273, 3) := by decide +kernel
theorem dX4_placeForNew_23 : decode cX4_placeForNew 23 = .ok (.istore_n 2, 1) := by decide +kernel
theorem dX4_placeForNew_24 : decode cX4_placeForNew 24 = .ok (.iload_n 2, 1) := by decide +kernel
theorem dX4_placeForNew_25 : decode cX4_placeForNew 25 = .ok (.iconst (-1), 1) := by decide +kernel
theorem dX4_placeForNew_26 : decode cX4_placeForNew 26 = .ok (.if_icmp .eq 5, 3) := by decide +kernel
theorem dX4_placeForNew_29 : decode cX4_placeForNew 29 = .ok (.iload_n 2, 1) := by decide +kernel
theorem dX4_placeForNew_30 : decode cX4_placeForNew 30 = .ok (.ireturn, 1) := by decide +kernel
theorem dX4_placeForNew_31 : decode cX4_placeForNew 31 = .ok (.aload_n 0, 1) := by decide +kernel
theorem dX4_placeForNew_32 : decode cX4_placeForNew 32 = .ok (.getfield 19, 3) := by decide +kernel
theorem dX4_placeForNew_35 : decode cX4_placeForNew 35 = .ok (.iconst 0, 1) := by decide +kernel
theorem dX4_placeForNew_36 : decode cX4_placeForNew 36 = .ok (.bipush 32, 2) := by decide +kernel
theorem dX4_placeForNew_38 : decode cX4_placeForNew 38 = .ok (.invokevirtual 273, 3) := by decide +kernel
theorem dX4_placeForNew_41 : decode cX4_placeForNew 41 = .ok (.ireturn, 1) := by decide +kernel
set_option maxRecDepth 20000 in
theorem ggX4_putDeath_X2_putDeath : GoodIn wsX4_putDeath wsX2_putDeath := goodIn_r _ [13, 14, 15, 41, 42, 43, 44, 45] (by decide +kernel) (by decide +kernel)
set_option maxRecDepth 20000 in
theorem gX4_putDeath_X2_putDeath : GoodIn wsX4_putDeath (wsV RX4 279 RX2 yX2_putDeath wsX2_putDeath) := goodIn_app (goodIn_of _ (by decide +kernel)) ggX4_putDeath_X2_putDeath
set_option maxRecDepth 20000 in
theorem ggX4_putDeath_X4_pageOf : GoodIn wsX4_putDeath wsX4_pageOf := goodIn_r _ [19] (by decide +kernel) (by decide +kernel)
set_option maxRecDepth 20000 in
theorem gX4_putDeath_X4_pageOf : GoodIn wsX4_putDeath (va_wsS RX4 154 yX4_pageOf wsX4_pageOf) := goodIn_app (goodIn_of _ (by decide +kernel)) ggX4_putDeath_X4_pageOf
theorem dX4_putDeath_0 : decode cX4_putDeath 0 = .ok (.aload_n 0, 1) := by decide +kernel
theorem dX4_putDeath_1 : decode cX4_putDeath 1 = .ok (.getfield 19, 3) := by decide +kernel
theorem dX4_putDeath_4 : decode cX4_putDeath 4 = .ok (.getfield 247, 3) := by decide +kernel
theorem dX4_putDeath_7 : decode cX4_putDeath 7 = .ok (.iload_n 2, 1) := by decide +kernel
theorem dX4_putDeath_8 : decode cX4_putDeath 8 = .ok (.iload_n 1, 1) := by decide +kernel
theorem dX4_putDeath_9 : decode cX4_putDeath 9 = .ok (.iastore, 1) := by decide +kernel
theorem dX4_putDeath_10 : decode cX4_putDeath 10 = .ok (.aload_n 0, 1) := by decide +kernel
theorem dX4_putDeath_11 : decode cX4_putDeath 11 = .ok (.getfield 19, 3) := by decide +kernel
theorem dX4_putDeath_14 : decode cX4_putDeath 14 = .ok (.getfield 227, 3) := by decide +kernel
theorem dX4_putDeath_17 : decode cX4_putDeath 17 = .ok (.iload_n 2, 1) := by decide +kernel
theorem dX4_putDeath_18 : decode cX4_putDeath 18 = .ok (.aload_n 0, 1) := by decide +kernel
theorem dX4_putDeath_19 : decode cX4_putDeath 19 = .ok (.getfield 12, 3) := by decide +kernel
theorem dX4_putDeath_22 : decode cX4_putDeath 22 = .ok (.getfield 94, 3) := by decide +kernel
theorem dX4_putDeath_25 : decode cX4_putDeath 25 = .ok (.iload_n 1, 1) := by decide +kernel
theorem dX4_putDeath_26 : decode cX4_putDeath 26 = .ok (.iaload, 1) := by decide +kernel
theorem dX4_putDeath_27 : decode cX4_putDeath 27 = .ok (.iastore, 1) := by decide +kernel
theorem dX4_putDeath_28 : decode cX4_putDeath 28 = .ok (.aload_n 0, 1) := by decide +kernel
theorem dX4_putDeath_29 : decode cX4_putDeath 29 = .ok (.getfield 33, 3) := by decide +kernel
theorem dX4_putDeath_32 : decode cX4_putDeath 32 = .ok (.aload_n 0, 1) := by decide +kernel
theorem dX4_putDeath_33 : decode cX4_putDeath 33 = .ok (.getfield 19, 3) := by decide +kernel
theorem dX4_putDeath_36 : decode cX4_putDeath 36 = .ok (.getfield 276, 3) := by decide +kernel
theorem dX4_putDeath_39 : decode cX4_putDeath 39 = .ok (.iload_n 2, 1) := by decide +kernel
theorem dX4_putDeath_40 : decode cX4_putDeath 40 = .ok (.iaload, 1) := by decide +kernel
theorem dX4_putDeath_41 : decode cX4_putDeath 41 = .ok (.iload_n 1, 1) := by decide +kernel
theorem dX4_putDeath_42 : decode cX4_putDeath 42 = .ok (.invokevirtual 279, 3) := by decide +kernel
theorem dX4_putDeath_45 : decode cX4_putDeath 45 = .ok (.aload_n 0, 1) := by decide +kernel
theorem dX4_putDeath_46 : decode cX4_putDeath 46 = .ok (.getfield 37, 3) := by decide +kernel
theorem dX4_putDeath_49 : decode cX4_putDeath 49 = .ok (.iload_n 2, 1) := by decide +kernel
theorem dX4_putDeath_50 : decode cX4_putDeath 50 = .ok (.invokestatic 154, 3) := by decide +kernel
theorem dX4_putDeath_53 : decode cX4_putDeath 53 = .ok (.iconst 0, 1) := by decide +kernel
theorem dX4_putDeath_54 : decode cX4_putDeath 54 = .ok (.bastore, 1) := by decide +kernel
theorem dX4_putDeath_55 : decode cX4_putDeath 55 = .ok (.return_, 1) := by decide +kernel
set_option maxRecDepth 20000 in
theorem ggX4_putVersion_X2_add : GoodIn wsX4_putVersion wsX2_add := goodIn_r _ [15, 16, 17, 18, 19, 20, 46, 47, 48, 49, 50] (by decide +kernel) (by decide +kernel)
set_option maxRecDepth 20000 in
theorem gX4_putVersion_X2_add : GoodIn wsX4_putVersion (wsV RX4 280 RX2 yX2_add wsX2_add) := goodIn_app (goodIn_of _ (by decide +kernel)) ggX4_putVersion_X2_add
set_option maxRecDepth 20000 in
theorem ggX4_putVersion_X4_pageOf : GoodIn wsX4_putVersion wsX4_pageOf := goodIn_r _ [24] (by decide +kernel) (by decide +kernel)
set_option maxRecDepth 20000 in
theorem gX4_putVersion_X4_pageOf : GoodIn wsX4_putVersion (va_wsS RX4 154 yX4_pageOf wsX4_pageOf) := goodIn_app (goodIn_of _ (by decide +kernel)) ggX4_putVersion_X4_pageOf
theorem dX4_putVersion_0 : decode cX4_putVersion 0 = .ok (.aload_n 0, 1) := by decide +kernel
theorem dX4_putVersion_1 : decode cX4_putVersion 1 = .ok (.getfield 19, 3) := by decide +kernel
theorem dX4_putVersion_4 : decode cX4_putVersion 4 = .ok (.getfield 202, 3) := by decide +kernel
theorem dX4_putVersion_7 : decode cX4_putVersion 7 = .ok (.iload 4, 2) := by decide +kernel
theorem dX4_putVersion_9 : decode cX4_putVersion 9 = .ok (.iload_n 2, 1) := by decide +kernel
theorem dX4_putVersion_10 : decode cX4_putVersion 10 = .ok (.iastore, 1) := by decide +kernel
theorem dX4_putVersion_11 : decode cX4_putVersion 11 = .ok (.aload_n 0, 1) := by decide +kernel
theorem dX4_putVersion_12 : decode cX4_putVersion 12 = .ok (.getfield 19, 3) := by decide +kernel
theorem dX4_putVersion_15 : decode cX4_putVersion 15 = .ok (.getfield 115, 3) := by decide +kernel
theorem dX4_putVersion_18 : decode cX4_putVersion 18 = .ok (.iload 4, 2) := by decide +kernel
theorem dX4_putVersion_20 : decode cX4_putVersion 20 = .ok (.iload_n 3, 1) := by decide +kernel
theorem dX4_putVersion_21 : decode cX4_putVersion 21 = .ok (.iastore, 1) := by decide +kernel
theorem dX4_putVersion_22 : decode cX4_putVersion 22 = .ok (.aload_n 0, 1) := by decide +kernel
theorem dX4_putVersion_23 : decode cX4_putVersion 23 = .ok (.getfield 19, 3) := by decide +kernel
theorem dX4_putVersion_26 : decode cX4_putVersion 26 = .ok (.getfield 243, 3) := by decide +kernel
theorem dX4_putVersion_29 : decode cX4_putVersion 29 = .ok (.iload 4, 2) := by decide +kernel
theorem dX4_putVersion_31 : decode cX4_putVersion 31 = .ok (.iload_n 1, 1) := by decide +kernel
theorem dX4_putVersion_32 : decode cX4_putVersion 32 = .ok (.iastore, 1) := by decide +kernel
theorem dX4_putVersion_33 : decode cX4_putVersion 33 = .ok (.aload_n 0, 1) := by decide +kernel
theorem dX4_putVersion_34 : decode cX4_putVersion 34 = .ok (.getfield 19, 3) := by decide +kernel
theorem dX4_putVersion_37 : decode cX4_putVersion 37 = .ok (.getfield 216, 3) := by decide +kernel
theorem dX4_putVersion_40 : decode cX4_putVersion 40 = .ok (.iload 4, 2) := by decide +kernel
theorem dX4_putVersion_42 : decode cX4_putVersion 42 = .ok (.aload_n 0, 1) := by decide +kernel
theorem dX4_putVersion_43 : decode cX4_putVersion 43 = .ok (.getfield 12, 3) := by decide +kernel
theorem dX4_putVersion_46 : decode cX4_putVersion 46 = .ok (.getfield 94, 3) := by decide +kernel
theorem dX4_putVersion_49 : decode cX4_putVersion 49 = .ok (.iload_n 1, 1) := by decide +kernel
theorem dX4_putVersion_50 : decode cX4_putVersion 50 = .ok (.iaload, 1) := by decide +kernel
theorem dX4_putVersion_51 : decode cX4_putVersion 51 = .ok (.iastore, 1) := by decide +kernel
theorem dX4_putVersion_52 : decode cX4_putVersion 52 = .ok (.aload_n 0, 1) := by decide +kernel
theorem dX4_putVersion_53 : decode cX4_putVersion 53 = .ok (.getfield 19, 3) := by decide +kernel
theorem dX4_putVersion_56 : decode cX4_putVersion 56 = .ok (.getfield 276, 3) := by decide +kernel
theorem dX4_putVersion_59 : decode cX4_putVersion 59 = .ok (.iload 4, 2) := by decide +kernel
theorem dX4_putVersion_61 : decode cX4_putVersion 61 = .ok (.aload_n 0, 1) := by decide +kernel
theorem dX4_putVersion_62 : decode cX4_putVersion 62 = .ok (.getfield 33, 3) := by decide +kernel
theorem dX4_putVersion_65 : decode cX4_putVersion 65 = .ok (.iload_n 2, 1) := by decide +kernel
theorem dX4_putVersion_66 : decode cX4_putVersion 66 = .ok (.iload_n 3, 1) := by decide +kernel
theorem dX4_putVersion_67 : decode cX4_putVersion 67 = .ok (.iload_n 1, 1) := by decide +kernel
theorem dX4_putVersion_68 : decode cX4_putVersion 68 = .ok (.invokevirtual 280, 3) := by decide +kernel
theorem dX4_putVersion_71 : decode cX4_putVersion 71 = .ok (.iastore, 1) := by decide +kernel
theorem dX4_putVersion_72 : decode cX4_putVersion 72 = .ok (.aload_n 0, 1) := by decide +kernel
theorem dX4_putVersion_73 : decode cX4_putVersion 73 = .ok (.getfield 37, 3) := by decide +kernel
theorem dX4_putVersion_76 : decode cX4_putVersion 76 = .ok (.iload 4, 2) := by decide +kernel
theorem dX4_putVersion_78 : decode cX4_putVersion 78 = .ok (.invokestatic 154, 3) := by decide +kernel
theorem dX4_putVersion_81 : decode cX4_putVersion 81 = .ok (.iconst 0, 1) := by decide +kernel
theorem dX4_putVersion_82 : decode cX4_putVersion 82 = .ok (.bastore, 1) := by decide +kernel
theorem dX4_putVersion_83 : decode cX4_putVersion 83 = .ok (.return_, 1) := by decide +kernel
set_option maxRecDepth 20000 in
theorem ggX4_canGo_X1_isUsed : GoodIn wsX4_canGo wsX1_isUsed := goodIn_r _ [9, 10, 33, 34, 35, 36, 37, 38, 39, 40, 41] (by decide +kernel) (by decide +kernel)
set_option maxRecDepth 20000 in
theorem gX4_canGo_X1_isUsed : GoodIn wsX4_canGo (wsV RX4 193 RX1 yX1_isUsed wsX1_isUsed) := goodIn_app (goodIn_of _ (by decide +kernel)) ggX4_canGo_X1_isUsed
set_option maxRecDepth 20000 in
theorem ggX4_canGo_X3_isTakenBack : GoodIn wsX4_canGo wsX3_isTakenBack := goodIn_r _ [15, 16, 17, 18, 19, 20, 14, 21, 22, 23, 24, 25, 42, 43, 44, 45, 46, 47] (by decide +kernel) (by decide +kernel)
set_option maxRecDepth 20000 in
theorem gX4_canGo_X3_isTakenBack : GoodIn wsX4_canGo (wsV RX4 283 RX3 yX3_isTakenBack wsX3_isTakenBack) := goodIn_app (goodIn_of _ (by decide +kernel)) ggX4_canGo_X3_isTakenBack
set_option maxRecDepth 20000 in
theorem ggX4_canGo_X3_has : GoodIn wsX4_canGo wsX3_has := goodIn_r _ [25] (by decide +kernel) (by decide +kernel)
set_option maxRecDepth 20000 in
theorem gX4_canGo_X3_has : GoodIn wsX4_canGo (va_wsS RX4 286 yX3_has wsX3_has) := goodIn_app (goodIn_of _ (by decide +kernel)) ggX4_canGo_X3_has
theorem dX4_canGo_0 : decode cX4_canGo 0 = .ok (.aload_n 0, 1) := by decide +kernel
theorem dX4_canGo_1 : decode cX4_canGo 1 = .ok (.getfield 19, 3) := by decide +kernel
theorem dX4_canGo_4 : decode cX4_canGo 4 = .ok (.iload_n 1, 1) := by decide +kernel
theorem dX4_canGo_5 : decode cX4_canGo 5 = .ok (.invokevirtual 193, 3) := by decide +kernel
theorem dX4_canGo_8 : decode cX4_canGo 8 = .ok (.ifCond .eq 42, 3) := by decide +kernel
theorem dX4_canGo_11 : decode cX4_canGo 11 = .ok (.aload_n 0, 1) := by decide +kernel
theorem dX4_canGo_12 : decode cX4_canGo 12 = .ok (.getfield 12, 3) := by decide +kernel
theorem dX4_canGo_15 : decode cX4_canGo 15 = .ok (.aload_n 0, 1) := by decide +kernel
theorem dX4_canGo_16 : decode cX4_canGo 16 = .ok (.getfield 19, 3) := by decide +kernel
theorem dX4_canGo_19 : decode cX4_canGo 19 = .ok (.getfield 243, 3) := by decide +kernel
theorem dX4_canGo_22 : decode cX4_canGo 22 = .ok (.iload_n 1, 1) := by decide +kernel
theorem dX4_canGo_23 : decode cX4_canGo 23 = .ok (.iaload, 1) := by decide +kernel
theorem dX4_canGo_24 : decode cX4_canGo 24 = .ok (.invokevirtual 283, 3) := by decide +kernel
theorem dX4_canGo_27 : decode cX4_canGo 27 = .ok (.ifCond .ne 19, 3) := by decide +kernel
theorem dX4_canGo_30 : decode cX4_canGo 30 = .ok (.lload_n 2, 1) := by decide +kernel
theorem dX4_canGo_31 : decode cX4_canGo 31 = .ok (.aload_n 0, 1) := by decide +kernel
theorem dX4_canGo_32 : decode cX4_canGo 32 = .ok (.getfield 19, 3) := by decide +kernel
theorem dX4_canGo_35 : decode cX4_canGo 35 = .ok (.getfield 247, 3) := by decide +kernel
theorem dX4_canGo_38 : decode cX4_canGo 38 = .ok (.iload_n 1, 1) := by decide +kernel
theorem dX4_canGo_39 : decode cX4_canGo 39 = .ok (.iaload, 1) := by decide +kernel
theorem dX4_canGo_40 : decode cX4_canGo 40 = .ok (.invokestatic 286, 3) := by decide +kernel
theorem dX4_canGo_43 : decode cX4_canGo 43 = .ok (.ifCond .eq 7, 3) := by decide +kernel
theorem dX4_canGo_46 : decode cX4_canGo 46 = .ok (.iconst 1, 1) := by decide +kernel
theorem dX4_canGo_47 : decode cX4_canGo 47 = .ok (.goto 4, 3) := by decide +kernel
theorem dX4_canGo_50 : decode cX4_canGo 50 = .ok (.iconst 0, 1) := by decide +kernel
theorem dX4_canGo_51 : decode cX4_canGo 51 = .ok (.ireturn, 1) := by decide +kernel
set_option maxRecDepth 20000 in
theorem ggX4_isSeenByAll_X1_hasDeath : GoodIn wsX4_isSeenByAll wsX1_hasDeath := goodIn_r _ [8, 9, 20, 21, 22, 23, 24, 25, 26, 27, 28] (by decide +kernel) (by decide +kernel)
set_option maxRecDepth 20000 in
theorem gX4_isSeenByAll_X1_hasDeath : GoodIn wsX4_isSeenByAll (wsV RX4 206 RX1 yX1_hasDeath wsX1_hasDeath) := goodIn_app (goodIn_of _ (by decide +kernel)) ggX4_isSeenByAll_X1_hasDeath
set_option maxRecDepth 20000 in
theorem ggX4_isSeenByAll_X3_has : GoodIn wsX4_isSeenByAll wsX3_has := goodIn_r _ [13] (by decide +kernel) (by decide +kernel)
set_option maxRecDepth 20000 in
theorem gX4_isSeenByAll_X3_has : GoodIn wsX4_isSeenByAll (va_wsS RX4 286 yX3_has wsX3_has) := goodIn_app (goodIn_of _ (by decide +kernel)) ggX4_isSeenByAll_X3_has
theorem dX4_isSeenByAll_0 : decode cX4_isSeenByAll 0 = .ok (.aload_n 0, 1) := by decide +kernel
theorem dX4_isSeenByAll_1 : decode cX4_isSeenByAll 1 = .ok (.getfield 19, 3) := by decide +kernel
theorem dX4_isSeenByAll_4 : decode cX4_isSeenByAll 4 = .ok (.iload_n 1, 1) := by decide +kernel
theorem dX4_isSeenByAll_5 : decode cX4_isSeenByAll 5 = .ok (.invokevirtual 206, 3) := by decide +kernel
theorem dX4_isSeenByAll_8 : decode cX4_isSeenByAll 8 = .ok (.ifCond .ne 35, 3) := by decide +kernel
theorem dX4_isSeenByAll_11 : decode cX4_isSeenByAll 11 = .ok (.aload_n 0, 1) := by decide +kernel
theorem dX4_isSeenByAll_12 : decode cX4_isSeenByAll 12 = .ok (.getfield 19, 3) := by decide +kernel
theorem dX4_isSeenByAll_15 : decode cX4_isSeenByAll 15 = .ok (.getfield 203, 3) := by decide +kernel
theorem dX4_isSeenByAll_18 : decode cX4_isSeenByAll 18 = .ok (.iload_n 1, 1) := by decide +kernel
theorem dX4_isSeenByAll_19 : decode cX4_isSeenByAll 19 = .ok (.baload, 1) := by decide +kernel
theorem dX4_isSeenByAll_20 : decode cX4_isSeenByAll 20 = .ok (.ifCond .ne 19, 3) := by decide +kernel
theorem dX4_isSeenByAll_23 : decode cX4_isSeenByAll 23 = .ok (.lload_n 2, 1) := by decide +kernel
theorem dX4_isSeenByAll_24 : decode cX4_isSeenByAll 24 = .ok (.aload_n 0, 1) := by decide +kernel
theorem dX4_isSeenByAll_25 : decode cX4_isSeenByAll 25 = .ok (.getfield 19, 3) := by decide +kernel
theorem dX4_isSeenByAll_28 : decode cX4_isSeenByAll 28 = .ok (.getfield 243, 3) := by decide +kernel
theorem dX4_isSeenByAll_31 : decode cX4_isSeenByAll 31 = .ok (.iload_n 1, 1) := by decide +kernel
theorem dX4_isSeenByAll_32 : decode cX4_isSeenByAll 32 = .ok (.iaload, 1) := by decide +kernel
theorem dX4_isSeenByAll_33 : decode cX4_isSeenByAll 33 = .ok (.invokestatic 286, 3) := by decide +kernel
theorem dX4_isSeenByAll_36 : decode cX4_isSeenByAll 36 = .ok (.ifCond .eq 7, 3) := by decide +kernel
theorem dX4_isSeenByAll_39 : decode cX4_isSeenByAll 39 = .ok (.iconst 1, 1) := by decide +kernel
theorem dX4_isSeenByAll_40 : decode cX4_isSeenByAll 40 = .ok (.goto 4, 3) := by decide +kernel
theorem dX4_isSeenByAll_43 : decode cX4_isSeenByAll 43 = .ok (.iconst 0, 1) := by decide +kernel
theorem dX4_isSeenByAll_44 : decode cX4_isSeenByAll 44 = .ok (.ireturn, 1) := by decide +kernel
set_option maxRecDepth 20000 in
theorem ggX4_takeOut_X1_bypass : GoodIn wsX4_takeOut wsX1_bypass := goodIn_r _ [9, 10, 33, 34, 35, 36, 37, 38, 39, 40, 41] (by decide +kernel) (by decide +kernel)
set_option maxRecDepth 20000 in
theorem gX4_takeOut_X1_bypass : GoodIn wsX4_takeOut (wsV RX4 290 RX1 yX1_bypass wsX1_bypass) := goodIn_app (goodIn_of _ (by decide +kernel)) ggX4_takeOut_X1_bypass
set_option maxRecDepth 20000 in
theorem ggX4_takeOut_X0_move : GoodIn wsX4_takeOut wsX0_move := goodIn_r _ [15, 16, 17, 42, 43] (by decide +kernel) (by decide +kernel)
set_option maxRecDepth 20000 in
theorem gX4_takeOut_X0_move : GoodIn wsX4_takeOut (wsV RX4 293 RX0 yX0_move wsX0_move) := goodIn_app (goodIn_of _ (by decide +kernel)) ggX4_takeOut_X0_move
set_option maxRecDepth 20000 in
theorem ggX4_takeOut_X1_empty : GoodIn wsX4_takeOut wsX1_empty := goodIn_r _ [21, 22, 23, 24, 25, 10, 26, 33, 34, 35, 36, 37, 38, 39, 40, 41] (by decide +kernel) (by decide +kernel)
set_option maxRecDepth 20000 in
theorem gX4_takeOut_X1_empty : GoodIn wsX4_takeOut (wsV RX4 297 RX1 yX1_empty wsX1_empty) := goodIn_app (goodIn_of _ (by decide +kernel)) ggX4_takeOut_X1_empty
theorem dX4_takeOut_0 : decode cX4_takeOut 0 = .ok (.aload_n 0, 1) := by decide +kernel
theorem dX4_takeOut_1 : decode cX4_takeOut 1 = .ok (.getfield 19, 3) := by decide +kernel
theorem dX4_takeOut_4 : decode cX4_takeOut 4 = .ok (.getfield 157, 3) := by decide +kernel
theorem dX4_takeOut_7 : decode cX4_takeOut 7 = .ok (.iload_n 1, 1) := by decide +kernel
theorem dX4_takeOut_8 : decode cX4_takeOut 8 = .ok (.iaload, 1) := by decide +kernel
theorem dX4_takeOut_9 : decode cX4_takeOut 9 = .ok (.istore_n 2, 1) := by decide +kernel
theorem dX4_takeOut_10 : decode cX4_takeOut 10 = .ok (.aload_n 0, 1) := by decide +kernel
theorem dX4_takeOut_11 : decode cX4_takeOut 11 = .ok (.getfield 19, 3) := by decide +kernel
theorem dX4_takeOut_14 : decode cX4_takeOut 14 = .ok (.iload_n 1, 1) := by decide +kernel
theorem dX4_takeOut_15 : decode cX4_takeOut 15 = .ok (.iload_n 2, 1) := by decide +kernel
theorem dX4_takeOut_16 : decode cX4_takeOut 16 = .ok (.invokevirtual 290, 3) := by decide +kernel
theorem dX4_takeOut_19 : decode cX4_takeOut 19 = .ok (.aload_n 0, 1) := by decide +kernel
theorem dX4_takeOut_20 : decode cX4_takeOut 20 = .ok (.getfield 26, 3) := by decide +kernel
theorem dX4_takeOut_23 : decode cX4_takeOut 23 = .ok (.aload_n 0, 1) := by decide +kernel
theorem dX4_takeOut_24 : decode cX4_takeOut 24 = .ok (.getfield 19, 3) := by decide +kernel
theorem dX4_takeOut_27 : decode cX4_takeOut 27 = .ok (.getfield 202, 3) := by decide +kernel
theorem dX4_takeOut_30 : decode cX4_takeOut 30 = .ok (.iload_n 1, 1) := by decide +kernel
theorem dX4_takeOut_31 : decode cX4_takeOut 31 = .ok (.iaload, 1) := by decide +kernel
theorem dX4_takeOut_32 : decode cX4_takeOut 32 = .ok (.iload_n 1, 1) := by decide +kernel
theorem dX4_takeOut_33 : decode cX4_takeOut 33 = .ok (.iload_n 2, 1) := by decide +kernel
theorem dX4_takeOut_34 : decode cX4_takeOut 34 = .ok (.invokevirtual 293, 3) := by decide +kernel
theorem dX4_takeOut_37 : decode cX4_takeOut 37 = .ok (.aload_n 0, 1) := by decide +kernel
theorem dX4_takeOut_38 : decode cX4_takeOut 38 = .ok (.getfield 19, 3) := by decide +kernel
theorem dX4_takeOut_41 : decode cX4_takeOut 41 = .ok (.iload_n 1, 1) := by decide +kernel
theorem dX4_takeOut_42 : decode cX4_takeOut 42 = .ok (.invokevirtual 297, 3) := by decide +kernel
theorem dX4_takeOut_45 : decode cX4_takeOut 45 = .ok (.return_, 1) := by decide +kernel
set_option maxRecDepth 20000 in
theorem ggX4_freezeOldOnes_X4_firstOf : GoodIn wsX4_freezeOldOnes wsX4_firstOf := goodIn_r _ [10] (by decide +kernel) (by decide +kernel)
set_option maxRecDepth 20000 in
theorem gX4_freezeOldOnes_X4_firstOf : GoodIn wsX4_freezeOldOnes (va_wsS RX4 174 yX4_firstOf wsX4_firstOf) := goodIn_app (goodIn_of _ (by decide +kernel)) ggX4_freezeOldOnes_X4_firstOf
set_option maxRecDepth 20000 in
theorem ggX4_freezeOldOnes_X1_isUsed : GoodIn wsX4_freezeOldOnes wsX1_isUsed := goodIn_r _ [15, 16, 38, 39, 40, 41, 42, 43, 44, 45, 46] (by decide +kernel) (by decide +kernel)
set_option maxRecDepth 20000 in
theorem gX4_freezeOldOnes_X1_isUsed : GoodIn wsX4_freezeOldOnes (wsV RX4 193 RX1 yX1_isUsed wsX1_isUsed) := goodIn_app (goodIn_of _ (by decide +kernel)) ggX4_freezeOldOnes_X1_isUsed
set_option maxRecDepth 20000 in
theorem ggX4_freezeOldOnes_X3_ageOf : GoodIn wsX4_freezeOldOnes wsX3_ageOf := goodIn_r _ [21, 22, 23, 9, 24, 25, 26, 27, 28, 47, 48, 49, 50, 51, 52] (by decide +kernel) (by decide +kernel)
set_option maxRecDepth 20000 in
theorem gX4_freezeOldOnes_X3_ageOf : GoodIn wsX4_freezeOldOnes (wsV RX4 219 RX3 yX3_ageOf wsX3_ageOf) := goodIn_app (goodIn_of _ (by decide +kernel)) ggX4_freezeOldOnes_X3_ageOf
set_option maxRecDepth 20000 in
theorem ggX4_freezeOldOnes_X3_has : GoodIn wsX4_freezeOldOnes wsX3_has := goodIn_r _ [31] (by decide +kernel) (by decide +kernel)
set_option maxRecDepth 20000 in
theorem gX4_freezeOldOnes_X3_has : GoodIn wsX4_freezeOldOnes (va_wsS RX4 286 yX3_has wsX3_has) := goodIn_app (goodIn_of _ (by decide +kernel)) ggX4_freezeOldOnes_X3_has
theorem dX4_freezeOldOnes_0 : decode cX4_freezeOldOnes 0 = .ok (.iload_n 1, 1) := by decide +kernel
theorem dX4_freezeOldOnes_1 : decode cX4_freezeOldOnes 1 = .ok (.invokestatic 174, 3) := by decide +kernel
theorem dX4_freezeOldOnes_4 : decode cX4_freezeOldOnes 4 = .ok (.istore 4, 2) := by decide +kernel
theorem dX4_freezeOldOnes_6 : decode cX4_freezeOldOnes 6 = .ok (.iload 4, 2) := by decide +kernel
theorem dX4_freezeOldOnes_8 : decode cX4_freezeOldOnes 8 = .ok (.iload_n 1, 1) := by decide +kernel
theorem dX4_freezeOldOnes_9 : decode cX4_freezeOldOnes 9 = .ok (.invokestatic 174, 3) := by decide +kernel
theorem dX4_freezeOldOnes_12 : decode cX4_freezeOldOnes 12 = .ok (.bipush 8, 2) := by decide +kernel
theorem dX4_freezeOldOnes_14 : decode cX4_freezeOldOnes 14 = .ok (.iadd, 1) := by decide +kernel
theorem dX4_freezeOldOnes_15 : decode cX4_freezeOldOnes 15 = .ok (.if_icmp .ge 73, 3) := by decide +kernel
theorem dX4_freezeOldOnes_18 : decode cX4_freezeOldOnes 18 = .ok (.aload_n 0, 1) := by decide +kernel
theorem dX4_freezeOldOnes_19 : decode cX4_freezeOldOnes 19 = .ok (.getfield 19, 3) := by decide +kernel
theorem dX4_freezeOldOnes_22 : decode cX4_freezeOldOnes 22 = .ok (.iload 4, 2) := by decide +kernel
theorem dX4_freezeOldOnes_24 : decode cX4_freezeOldOnes 24 = .ok (.invokevirtual 193, 3) := by decide +kernel
theorem dX4_freezeOldOnes_27 : decode cX4_freezeOldOnes 27 = .ok (.ifCond .eq 55, 3) := by decide +kernel
theorem dX4_freezeOldOnes_30 : decode cX4_freezeOldOnes 30 = .ok (.aload_n 0, 1) := by decide +kernel
theorem dX4_freezeOldOnes_31 : decode cX4_freezeOldOnes 31 = .ok (.getfield 12, 3) := by decide +kernel
theorem dX4_freezeOldOnes_34 : decode cX4_freezeOldOnes 34 = .ok (.aload_n 0, 1) := by decide +kernel
theorem dX4_freezeOldOnes_35 : decode cX4_freezeOldOnes 35 = .ok (.getfield 19, 3) := by decide +kernel
theorem dX4_freezeOldOnes_38 : decode cX4_freezeOldOnes 38 = .ok (.getfield 216, 3) := by decide +kernel
theorem dX4_freezeOldOnes_41 : decode cX4_freezeOldOnes 41 = .ok (.iload 4, 2) := by decide +kernel
theorem dX4_freezeOldOnes_43 : decode cX4_freezeOldOnes 43 = .ok (.iaload, 1) := by decide +kernel
theorem dX4_freezeOldOnes_44 : decode cX4_freezeOldOnes 44 = .ok (.invokevirtual 219, 3) := by decide +kernel
theorem dX4_freezeOldOnes_47 : decode cX4_freezeOldOnes 47 = .ok (.aload_n 0, 1) := by decide +kernel
theorem dX4_freezeOldOnes_48 : decode cX4_freezeOldOnes 48 = .ok (.getfield 41, 3) := by decide +kernel
theorem dX4_freezeOldOnes_51 : decode cX4_freezeOldOnes 51 = .ok (.if_icmp .lt 31, 3) := by decide +kernel
theorem dX4_freezeOldOnes_54 : decode cX4_freezeOldOnes 54 = .ok (.lload_n 2, 1) := by decide +kernel
theorem dX4_freezeOldOnes_55 : decode cX4_freezeOldOnes 55 = .ok (.aload_n 0, 1) := by decide +kernel
theorem dX4_freezeOldOnes_56 : decode cX4_freezeOldOnes 56 = .ok (.getfield 19, 3) := by decide +kernel
theorem dX4_freezeOldOnes_59 : decode cX4_freezeOldOnes 59 = .ok (.getfield 243, 3) := by decide +kernel
theorem dX4_freezeOldOnes_62 : decode cX4_freezeOldOnes 62 = .ok (.iload 4, 2) := by decide +kernel
theorem dX4_freezeOldOnes_64 : decode cX4_freezeOldOnes 64 = .ok (.iaload, 1) := by decide +kernel
theorem dX4_freezeOldOnes_65 : decode cX4_freezeOldOnes 65 = .ok (.invokestatic 286, 3) := by decide +kernel
theorem dX4_freezeOldOnes_68 : decode cX4_freezeOldOnes 68 = .ok (.ifCond .eq 14, 3) := by decide +kernel
theorem dX4_freezeOldOnes_71 : decode cX4_freezeOldOnes 71 = .ok (.aload_n 0, 1) := by decide +kernel
theorem dX4_freezeOldOnes_72 : decode cX4_freezeOldOnes 72 = .ok (.getfield 19, 3) := by decide +kernel
theorem dX4_freezeOldOnes_75 : decode cX4_freezeOldOnes 75 = .ok (.getfield 203, 3) := by decide +kernel
theorem dX4_freezeOldOnes_78 : decode cX4_freezeOldOnes 78 = .ok (.iload 4, 2) := by decide +kernel
theorem dX4_freezeOldOnes_80 : decode cX4_freezeOldOnes 80 = .ok (.iconst 1, 1) := by decide +kernel
theorem dX4_freezeOldOnes_81 : decode cX4_freezeOldOnes 81 = .ok (.bastore, 1) := by decide +kernel
theorem dX4_freezeOldOnes_82 : decode cX4_freezeOldOnes 82 = .ok (.iinc 4 1, 3) := by decide +kernel
theorem dX4_freezeOldOnes_85 : decode cX4_freezeOldOnes 85 = .ok (.goto (-79), 3) := by decide +kernel
theorem dX4_freezeOldOnes_88 : decode cX4_freezeOldOnes 88 = .ok (.return_, 1) := by decide +kernel
