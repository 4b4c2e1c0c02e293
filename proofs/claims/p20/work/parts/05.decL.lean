theorem dJ13_bitCount_95d88_0 : decode cJ13_bitCount_95d88 0 = .ok (.lload_n 0, 1) := by decide +kernel
theorem dJ13_bitCount_95d88_1 : decode cJ13_bitCount_95d88 1 = .ok (.lload_n 0, 1) := by decide +kernel
theorem dJ13_bitCount_95d88_2 : decode cJ13_bitCount_95d88 2 = .ok (.iconst 1, 1) := by decide +kernel
theorem dJ13_bitCount_95d88_3 : decode cJ13_bitCount_95d88 3 = .ok (.lushr, 1) := by decide +kernel
theorem dJ13_bitCount_95d88_4 : decode cJ13_bitCount_95d88 4 = .ok (.ldc2_w 314, 3) := by decide +kernel
theorem dJ13_bitCount_95d88_7 : decode cJ13_bitCount_95d88 7 = .ok (.land, 1) := by decide +kernel
theorem dJ13_bitCount_95d88_8 : decode cJ13_bitCount_95d88 8 = .ok (.lsub, 1) := by decide +kernel
theorem dJ13_bitCount_95d88_9 : decode cJ13_bitCount_95d88 9 = .ok (.lstore_n 0, 1) := by decide +kernel
theorem dJ13_bitCount_95d88_10 : decode cJ13_bitCount_95d88 10 = .ok (.lload_n 0, 1) := by decide +kernel
theorem dJ13_bitCount_95d88_11 : decode cJ13_bitCount_95d88 11 = .ok (.ldc2_w 316, 3) := by decide +kernel
theorem dJ13_bitCount_95d88_14 : decode cJ13_bitCount_95d88 14 = .ok (.land, 1) := by decide +kernel
theorem dJ13_bitCount_95d88_15 : decode cJ13_bitCount_95d88 15 = .ok (.lload_n 0, 1) := by decide +kernel
theorem dJ13_bitCount_95d88_16 : decode cJ13_bitCount_95d88 16 = .ok (.iconst 2, 1) := by decide +kernel
theorem dJ13_bitCount_95d88_17 : decode cJ13_bitCount_95d88 17 = .ok (.lushr, 1) := by decide +kernel
theorem dJ13_bitCount_95d88_18 : decode cJ13_bitCount_95d88 18 = .ok (.ldc2_w 316, 3) := by decide +kernel
theorem dJ13_bitCount_95d88_21 : decode cJ13_bitCount_95d88 21 = .ok (.land, 1) := by decide +kernel
theorem dJ13_bitCount_95d88_22 : decode cJ13_bitCount_95d88 22 = .ok (.ladd, 1) := by decide +kernel
theorem dJ13_bitCount_95d88_23 : decode cJ13_bitCount_95d88 23 = .ok (.lstore_n 0, 1) := by decide +kernel
theorem dJ13_bitCount_95d88_24 : decode cJ13_bitCount_95d88 24 = .ok (.lload_n 0, 1) := by decide +kernel
theorem dJ13_bitCount_95d88_25 : decode cJ13_bitCount_95d88 25 = .ok (.lload_n 0, 1) := by decide +kernel
theorem dJ13_bitCount_95d88_26 : decode cJ13_bitCount_95d88 26 = .ok (.iconst 4, 1) := by decide +kernel
theorem dJ13_bitCount_95d88_27 : decode cJ13_bitCount_95d88 27 = .ok (.lushr, 1) := by decide +kernel
theorem dJ13_bitCount_95d88_28 : decode cJ13_bitCount_95d88 28 = .ok (.ladd, 1) := by decide +kernel
theorem dJ13_bitCount_95d88_29 : decode cJ13_bitCount_95d88 29 = .ok (.ldc2_w 318, 3) := by decide +kernel
theorem dJ13_bitCount_95d88_32 : decode cJ13_bitCount_95d88 32 = .ok (.land, 1) := by decide +kernel
theorem dJ13_bitCount_95d88_33 : decode cJ13_bitCount_95d88 33 = .ok (.lstore_n 0, 1) := by decide +kernel
theorem dJ13_bitCount_95d88_34 : decode cJ13_bitCount_95d88 34 = .ok (.lload_n 0, 1) := by decide +kernel
theorem dJ13_bitCount_95d88_35 : decode cJ13_bitCount_95d88 35 = .ok (.lload_n 0, 1) := by decide +kernel
theorem dJ13_bitCount_95d88_36 : decode cJ13_bitCount_95d88 36 = .ok (.bipush 8, 2) := by decide +kernel
theorem dJ13_bitCount_95d88_38 : decode cJ13_bitCount_95d88 38 = .ok (.lushr, 1) := by decide +kernel
theorem dJ13_bitCount_95d88_39 : decode cJ13_bitCount_95d88 39 = .ok (.ladd, 1) := by decide +kernel
theorem dJ13_bitCount_95d88_40 : decode cJ13_bitCount_95d88 40 = .ok (.lstore_n 0, 1) := by decide +kernel
theorem dJ13_bitCount_95d88_41 : decode cJ13_bitCount_95d88 41 = .ok (.lload_n 0, 1) := by decide +kernel
theorem dJ13_bitCount_95d88_42 : decode cJ13_bitCount_95d88 42 = .ok (.lload_n 0, 1) := by decide +kernel
theorem dJ13_bitCount_95d88_43 : decode cJ13_bitCount_95d88 43 = .ok (.bipush 16, 2) := by decide +kernel
theorem dJ13_bitCount_95d88_45 : decode cJ13_bitCount_95d88 45 = .ok (.lushr, 1) := by decide +kernel
theorem dJ13_bitCount_95d88_46 : decode cJ13_bitCount_95d88 46 = .ok (.ladd, 1) := by decide +kernel
theorem dJ13_bitCount_95d88_47 : decode cJ13_bitCount_95d88 47 = .ok (.lstore_n 0, 1) := by decide +kernel
theorem dJ13_bitCount_95d88_48 : decode cJ13_bitCount_95d88 48 = .ok (.lload_n 0, 1) := by decide +kernel
theorem dJ13_bitCount_95d88_49 : decode cJ13_bitCount_95d88 49 = .ok (.lload_n 0, 1) := by decide +kernel
theorem dJ13_bitCount_95d88_50 : decode cJ13_bitCount_95d88 50 = .ok (.bipush 32, 2) := by decide +kernel
theorem dJ13_bitCount_95d88_52 : decode cJ13_bitCount_95d88 52 = .ok (.lushr, 1) := by decide +kernel
theorem dJ13_bitCount_95d88_53 : decode cJ13_bitCount_95d88 53 = .ok (.ladd, 1) := by decide +kernel
theorem dJ13_bitCount_95d88_54 : decode cJ13_bitCount_95d88 54 = .ok (.lstore_n 0, 1) := by decide +kernel
theorem dJ13_bitCount_95d88_55 : decode cJ13_bitCount_95d88 55 = .ok (.lload_n 0, 1) := by decide +kernel
theorem dJ13_bitCount_95d88_56 : decode cJ13_bitCount_95d88 56 = .ok (.l2i, 1) := by decide +kernel
theorem dJ13_bitCount_95d88_57 : decode cJ13_bitCount_95d88 57 = .ok (.bipush 127, 2) := by decide +kernel
theorem dJ13_bitCount_95d88_59 : decode cJ13_bitCount_95d88 59 = .ok (.iand, 1) := by decide +kernel
theorem dJ13_bitCount_95d88_60 : decode cJ13_bitCount_95d88 60 = .ok (.ireturn, 1) := by decide +kernel
theorem dJ9_floorMod_7cf53_0 : decode cJ9_floorMod_7cf53 0 = .ok (.iload_n 0, 1) := by decide +kernel
theorem dJ9_floorMod_7cf53_1 : decode cJ9_floorMod_7cf53 1 = .ok (.iload_n 1, 1) := by decide +kernel
theorem dJ9_floorMod_7cf53_2 : decode cJ9_floorMod_7cf53 2 = .ok (.irem, 1) := by decide +kernel
theorem dJ9_floorMod_7cf53_3 : decode cJ9_floorMod_7cf53 3 = .ok (.istore_n 2, 1) := by decide +kernel
theorem dJ9_floorMod_7cf53_4 : decode cJ9_floorMod_7cf53 4 = .ok (.iload_n 0, 1) := by decide +kernel
theorem dJ9_floorMod_7cf53_5 : decode cJ9_floorMod_7cf53 5 = .ok (.iload_n 1, 1) := by decide +kernel
theorem dJ9_floorMod_7cf53_6 : decode cJ9_floorMod_7cf53 6 = .ok (.ixor, 1) := by decide +kernel
theorem dJ9_floorMod_7cf53_7 : decode cJ9_floorMod_7cf53 7 = .ok (.ifCond .ge 11, 3) := by decide +kernel
theorem dJ9_floorMod_7cf53_10 : decode cJ9_floorMod_7cf53 10 = .ok (.iload_n 2, 1) := by decide +kernel
theorem dJ9_floorMod_7cf53_11 : decode cJ9_floorMod_7cf53 11 = .ok (.ifCond .eq 7, 3) := by decide +kernel
theorem dJ9_floorMod_7cf53_14 : decode cJ9_floorMod_7cf53 14 = .ok (.iload_n 2, 1) := by decide +kernel
theorem dJ9_floorMod_7cf53_15 : decode cJ9_floorMod_7cf53 15 = .ok (.iload_n 1, 1) := by decide +kernel
theorem dJ9_floorMod_7cf53_16 : decode cJ9_floorMod_7cf53 16 = .ok (.iadd, 1) := by decide +kernel
theorem dJ9_floorMod_7cf53_17 : decode cJ9_floorMod_7cf53 17 = .ok (.ireturn, 1) := by decide +kernel
theorem dJ9_floorMod_7cf53_18 : decode cJ9_floorMod_7cf53 18 = .ok (.iload_n 2, 1) := by decide +kernel
theorem dJ9_floorMod_7cf53_19 : decode cJ9_floorMod_7cf53 19 = .ok (.ireturn, 1) := by decide +kernel
theorem dJ9_max_7cf53_0 : decode cJ9_max_7cf53 0 = .ok (.iload_n 0, 1) := by decide +kernel
theorem dJ9_max_7cf53_1 : decode cJ9_max_7cf53 1 = .ok (.iload_n 1, 1) := by decide +kernel
theorem dJ9_max_7cf53_2 : decode cJ9_max_7cf53 2 = .ok (.if_icmp .lt 7, 3) := by decide +kernel
theorem dJ9_max_7cf53_5 : decode cJ9_max_7cf53 5 = .ok (.iload_n 0, 1) := by decide +kernel
theorem dJ9_max_7cf53_6 : decode cJ9_max_7cf53 6 = .ok (.goto 4, 3) := by decide +kernel
theorem dJ9_max_7cf53_9 : decode cJ9_max_7cf53 9 = .ok (.iload_n 1, 1) := by decide +kernel
theorem dJ9_max_7cf53_10 : decode cJ9_max_7cf53 10 = .ok (.ireturn, 1) := by decide +kernel
set_option maxRecDepth 20000 in
theorem ggL_begins_X4_begin : GoodIn wsL_begins wsX4_begin := goodIn_ca (goodIn_r _ [6, 7, 8, 9, 10, 11, 12, 13, 14, 15, 16, 17, 18, 5, 19, 20, 21, 22, 23, 24, 25, 26, 27, 28, 29, 30, 31, 32, 33, 34, 35, 36, 37, 38, 39, 40, 41, 42, 43, 44, 45, 46, 47, 48, 49, 50, 51, 52, 53, 54, 55, 56, 57, 58, 59, 60, 61, 62, 63, 64, 65, 66, 67, 68, 69, 70, 71, 72, 73, 74, 75, 76, 77, 78, 79, 80, 81, 82, 83, 84, 85, 86, 87, 88, 89, 90, 91, 92, 93, 94, 95] (by decide +kernel) (by decide +kernel)) (goodIn_sub (fun _ h => List.mem_cons_of_mem _ (List.mem_append_right _ h)) (by decide +kernel))
set_option maxRecDepth 20000 in
theorem gL_begins_X4_begin : GoodIn wsL_begins (wsV RL 7 RX4 yX4_begin wsX4_begin) := goodIn_app (goodIn_of _ (by decide +kernel)) ggL_begins_X4_begin
theorem dL_begins_0 : decode cL_begins 0 = .ok (.aload_n 0, 1) := by decide +kernel
theorem dL_begins_1 : decode cL_begins 1 = .ok (.invokevirtual 7, 3) := by decide +kernel
theorem dL_begins_4 : decode cL_begins 4 = .ok (.ireturn, 1) := by decide +kernel
theorem dL_begins_5 : decode cL_begins 5 = .ok (.astore_n 1, 1) := by decide +kernel
theorem dL_begins_6 : decode cL_begins 6 = .ok (.bipush (-3), 2) := by decide +kernel
theorem dL_begins_8 : decode cL_begins 8 = .ok (.ireturn, 1) := by decide +kernel
set_option maxRecDepth 20000 in
theorem ggL_jumps_X4_jump : GoodIn wsL_jumps wsX4_jump := goodIn_ca (goodIn_ca (goodIn_r _ [6, 7, 8, 9, 10, 11, 12, 13, 14, 5, 15, 16, 17, 18, 19, 20, 21, 22, 23, 24, 25, 26, 27, 28, 29, 30, 31, 32, 33, 34, 35, 36, 37, 38, 39, 40, 41, 42, 43, 44, 45, 46, 47, 48, 49, 50, 51, 52, 53, 54, 55, 56, 57, 58, 59, 60, 61, 62, 63, 64, 65, 66, 67, 68, 69, 70, 71, 72, 73, 74, 75, 76, 77, 78, 79, 80, 81, 82, 83, 84, 85, 86, 87] (by decide +kernel) (by decide +kernel)) (goodIn_sub (fun _ h => List.mem_cons_of_mem _ (List.mem_append_left _ (List.mem_append_right _ h))) (by decide +kernel))) (goodIn_sub (fun _ h => List.mem_cons_of_mem _ (List.mem_append_right _ h)) (by decide +kernel))
set_option maxRecDepth 20000 in
theorem gL_jumps_X4_jump : GoodIn wsL_jumps (wsV RL 15 RX4 yX4_jump wsX4_jump) := goodIn_app (goodIn_of _ (by decide +kernel)) ggL_jumps_X4_jump
theorem dL_jumps_0 : decode cL_jumps 0 = .ok (.aload_n 0, 1) := by decide +kernel
theorem dL_jumps_1 : decode cL_jumps 1 = .ok (.iload_n 1, 1) := by decide +kernel
theorem dL_jumps_2 : decode cL_jumps 2 = .ok (.invokevirtual 15, 3) := by decide +kernel
theorem dL_jumps_5 : decode cL_jumps 5 = .ok (.ireturn, 1) := by decide +kernel
theorem dL_jumps_6 : decode cL_jumps 6 = .ok (.astore_n 2, 1) := by decide +kernel
theorem dL_jumps_7 : decode cL_jumps 7 = .ok (.bipush (-3), 2) := by decide +kernel
theorem dL_jumps_9 : decode cL_jumps 9 = .ok (.ireturn, 1) := by decide +kernel
set_option maxRecDepth 20000 in
theorem ggL_writes_X4_write : GoodIn wsL_writes wsX4_write := goodIn_ca (goodIn_ca (goodIn_ca (goodIn_r _ [6, 7, 8, 9, 10, 11, 12, 13, 14, 15, 5, 16, 17, 18, 19, 20, 21, 22, 23, 24, 25, 26, 27, 28, 29, 30, 31, 32, 33, 34, 35, 36, 37, 38, 39, 40, 41, 42, 43, 44, 45, 46, 47, 48, 49, 50, 51, 52, 53, 54, 55, 56, 57, 58, 59, 60, 61, 62, 63, 64, 65, 66, 67, 68, 69, 70, 71, 72, 73, 74, 75, 76, 77, 78, 79, 80, 81, 82, 83, 84, 85, 86, 87, 88, 89, 90, 91, 92, 93, 94, 95, 96, 97, 98, 99, 100, 101, 102, 103, 104, 105, 106, 107, 108, 109, 110, 111, 112, 113, 114, 115, 116, 117, 118, 119, 120, 121, 122, 123, 124, 125, 126, 127, 128, 129, 130, 131, 132, 133, 134, 135, 136, 137, 138, 139, 140, 141, 142, 143, 144, 145, 146, 147, 148, 149, 150, 151, 152, 153, 154, 155, 156, 157, 158, 159, 160, 161, 162, 163, 164, 165, 166, 167, 168] (by decide +kernel) (by decide +kernel)) (goodIn_sub (fun _ h => List.mem_cons_of_mem _ (List.mem_append_left _ (List.mem_append_left _ (List.mem_append_right _ h)))) (by decide +kernel))) (goodIn_sub (fun _ h => List.mem_cons_of_mem _ (List.mem_append_left _ (List.mem_append_right _ h))) (by decide +kernel))) (goodIn_sub (fun _ h => List.mem_cons_of_mem _ (List.mem_append_right _ h)) (by decide +kernel))
set_option maxRecDepth 20000 in
theorem gL_writes_X4_write : GoodIn wsL_writes (wsV RL 19 RX4 yX4_write wsX4_write) := goodIn_app (goodIn_of _ (by decide +kernel)) ggL_writes_X4_write
theorem dL_writes_0 : decode cL_writes 0 = .ok (.aload_n 0, 1) := by decide +kernel
theorem dL_writes_1 : decode cL_writes 1 = .ok (.iload_n 1, 1) := by decide +kernel
theorem dL_writes_2 : decode cL_writes 2 = .ok (.iload_n 2, 1) := by decide +kernel
theorem dL_writes_3 : decode cL_writes 3 = .ok (.iload_n 3, 1) := by decide +kernel
theorem dL_writes_4 : decode cL_writes 4 = .ok (.invokevirtual 19, 3) := by decide +kernel
theorem dL_writes_7 : decode cL_writes 7 = .ok (.ireturn, 1) := by decide +kernel
theorem dL_writes_8 : decode cL_writes 8 = .ok (.astore 4, 2) := by decide +kernel
theorem dL_writes_10 : decode cL_writes 10 = .ok (.bipush (-3), 2) := by decide +kernel
theorem dL_writes_12 : decode cL_writes 12 = .ok (.ireturn, 1) := by decide +kernel
set_option maxRecDepth 20000 in
theorem ggL_deletes_X4_delete : GoodIn wsL_deletes wsX4_delete := goodIn_ca (goodIn_ca (goodIn_ca (goodIn_r _ [6, 7, 8, 9, 5, 10, 11, 12, 13, 14, 15, 16, 17, 18, 19, 20, 21, 22, 23, 24, 25, 26, 27, 28, 29, 30, 31, 32, 33, 34, 35, 36, 37, 38, 39, 40, 41, 42, 43, 44, 45, 46, 47, 48, 49, 50, 51, 52, 53, 54, 55, 56, 57, 58, 59, 60, 61, 62, 63, 64, 65, 66, 67, 68, 69, 70, 71, 72, 73, 74, 75, 76, 77, 78, 79, 80, 81, 82, 83, 84, 85, 86, 87, 88, 89, 90, 91, 92, 93, 94, 95, 96, 97, 98, 99, 100, 101, 102, 103, 104, 105, 106, 107, 108, 109, 110, 111, 112, 113, 114, 115, 116, 117, 118, 119, 120, 121, 122, 123, 124] (by decide +kernel) (by decide +kernel)) (goodIn_sub (fun _ h => List.mem_cons_of_mem _ (List.mem_append_left _ (List.mem_append_left _ (List.mem_append_right _ h)))) (by decide +kernel))) (goodIn_sub (fun _ h => List.mem_cons_of_mem _ (List.mem_append_left _ (List.mem_append_right _ h))) (by decide +kernel))) (goodIn_sub (fun _ h => List.mem_cons_of_mem _ (List.mem_append_right _ h)) (by decide +kernel))
set_option maxRecDepth 20000 in
theorem gL_deletes_X4_delete : GoodIn wsL_deletes (wsV RL 23 RX4 yX4_delete wsX4_delete) := goodIn_app (goodIn_of _ (by decide +kernel)) ggL_deletes_X4_delete
theorem dL_deletes_0 : decode cL_deletes 0 = .ok (.aload_n 0, 1) := by decide +kernel
theorem dL_deletes_1 : decode cL_deletes 1 = .ok (.iload_n 1, 1) := by decide +kernel
theorem dL_deletes_2 : decode cL_deletes 2 = .ok (.iload_n 2, 1) := by decide +kernel
theorem dL_deletes_3 : decode cL_deletes 3 = .ok (.invokevirtual 23, 3) := by decide +kernel
theorem dL_deletes_6 : decode cL_deletes 6 = .ok (.ifCond .eq 7, 3) := by decide +kernel
theorem dL_deletes_9 : decode cL_deletes 9 = .ok (.iconst 1, 1) := by decide +kernel
theorem dL_deletes_10 : decode cL_deletes 10 = .ok (.goto 4, 3) := by decide +kernel
theorem dL_deletes_13 : decode cL_deletes 13 = .ok (.iconst 0, 1) := by decide +kernel
theorem dL_deletes_14 : decode cL_deletes 14 = .ok (.ireturn, 1) := by decide +kernel
theorem dL_deletes_15 : decode cL_deletes 15 = .ok (.astore_n 3, 1) := by decide +kernel
theorem dL_deletes_16 : decode cL_deletes 16 = .ok (.bipush (-3), 2) := by decide +kernel
theorem dL_deletes_18 : decode cL_deletes 18 = .ok (.ireturn, 1) := by decide +kernel
set_option maxRecDepth 20000 in
theorem ggL_arePages_X4_oldest : GoodIn wsL_arePages wsX4_oldest := goodIn_r _ [6, 7, 8, 9, 10, 11, 12, 13, 14, 15, 16, 17, 18, 19, 20, 21, 22, 23, 24, 25, 26, 27, 28, 29, 30, 31, 32, 33, 34, 35, 36, 37, 5, 38, 39, 40, 41, 42, 43, 44, 45, 46, 47, 48, 49, 50, 51, 52, 53, 54, 113, 114, 115, 116, 117, 118, 119, 120, 121, 122, 123, 124, 125, 126, 127, 128, 129, 130, 131, 132, 133] (by decide +kernel) (by decide +kernel)
set_option maxRecDepth 20000 in
theorem gL_arePages_X4_oldest : GoodIn wsL_arePages (wsV RL 27 RX4 yX4_oldest wsX4_oldest) := goodIn_app (goodIn_of _ (by decide +kernel)) ggL_arePages_X4_oldest
set_option maxRecDepth 20000 in
theorem ggL_arePages_X4_slot : GoodIn wsL_arePages wsX4_slot := goodIn_ca (goodIn_r _ [58, 8, 59, 9, 60, 61, 62, 5, 63, 64, 65, 66, 67, 68, 69, 70, 71, 43, 44, 45, 46, 47, 48, 50, 51, 52, 53, 54, 72, 73, 74, 75, 76, 77, 113, 114, 115, 116, 117, 118, 119, 120, 121, 122, 123, 124, 125, 126, 127] (by decide +kernel) (by decide +kernel)) (goodIn_sub (fun _ h => List.mem_cons_of_mem _ (List.mem_append_right _ h)) (by decide +kernel))
set_option maxRecDepth 20000 in
theorem gL_arePages_X4_slot : GoodIn wsL_arePages (wsV RL 30 RX4 yX4_slot wsX4_slot) := goodIn_app (goodIn_of _ (by decide +kernel)) ggL_arePages_X4_slot
set_option maxRecDepth 20000 in
theorem ggL_arePages_X4_fullness : GoodIn wsL_arePages wsX4_fullness := goodIn_ca (goodIn_r _ [81, 8, 82, 61, 62, 5, 63, 64, 65, 69, 70, 71, 43, 44, 45, 46, 47, 48, 113, 114, 115, 116, 117, 118, 119, 120, 121, 122, 123, 124, 125, 126, 127] (by decide +kernel) (by decide +kernel)) (goodIn_sub (fun _ h => List.mem_cons_of_mem _ (List.mem_append_right _ h)) (by decide +kernel))
set_option maxRecDepth 20000 in
theorem gL_arePages_X4_fullness : GoodIn wsL_arePages (wsV RL 34 RX4 yX4_fullness wsX4_fullness) := goodIn_app (goodIn_of _ (by decide +kernel)) ggL_arePages_X4_fullness
set_option maxRecDepth 20000 in
theorem ggL_arePages_X4_isMapped : GoodIn wsL_arePages wsX4_isMapped := goodIn_ca (goodIn_r _ [86, 87, 61, 62, 5, 63, 64, 65, 113, 114, 115, 116, 117, 118] (by decide +kernel) (by decide +kernel)) (goodIn_sub (fun _ h => List.mem_cons_of_mem _ (List.mem_append_right _ h)) (by decide +kernel))
set_option maxRecDepth 20000 in
theorem gL_arePages_X4_isMapped : GoodIn wsL_arePages (wsV RL 39 RX4 yX4_isMapped wsX4_isMapped) := goodIn_app (goodIn_of _ (by decide +kernel)) ggL_arePages_X4_isMapped
set_option maxRecDepth 20000 in
theorem ggL_arePages_X4_isWhole : GoodIn wsL_arePages wsX4_isWhole := goodIn_ca (goodIn_r _ [91, 7, 8, 61, 62, 5, 63, 64, 65, 92, 93, 94, 19, 95, 96, 21, 97, 24, 25, 26, 27, 28, 29, 30, 31, 69, 70, 71, 43, 44, 45, 46, 47, 48, 98, 99, 100, 101, 9, 102, 50, 51, 52, 53, 54, 103, 113, 114, 115, 116, 117, 118, 128, 129, 130, 131, 132, 133, 119, 120, 121, 122, 123, 124, 125, 126, 127] (by decide +kernel) (by decide +kernel)) (goodIn_sub (fun _ h => List.mem_cons_of_mem _ (List.mem_append_right _ h)) (by decide +kernel))
set_option maxRecDepth 20000 in
theorem gL_arePages_X4_isWhole : GoodIn wsL_arePages (wsV RL 43 RX4 yX4_isWhole wsX4_isWhole) := goodIn_app (goodIn_of _ (by decide +kernel)) ggL_arePages_X4_isWhole
set_option maxRecDepth 20000 in
theorem ggL_arePages_X4_entries : GoodIn wsL_arePages wsX4_entries := goodIn_ca (goodIn_r _ [107, 108, 109, 110, 111, 5, 112, 64, 65, 113, 114, 115, 116, 117, 118, 134, 135] (by decide +kernel) (by decide +kernel)) (goodIn_sub (fun _ h => List.mem_cons_of_mem _ (List.mem_append_right _ h)) (by decide +kernel))
set_option maxRecDepth 20000 in
theorem gL_arePages_X4_entries : GoodIn wsL_arePages (wsV RL 46 RX4 yX4_entries wsX4_entries) := goodIn_app (goodIn_of _ (by decide +kernel)) ggL_arePages_X4_entries
theorem dL_arePages_0 : decode cL_arePages 0 = .ok (.iconst 0, 1) := by decide +kernel
theorem dL_arePages_1 : decode cL_arePages 1 = .ok (.istore_n 1, 1) := by decide +kernel
theorem dL_arePages_2 : decode cL_arePages 2 = .ok (.iconst 0, 1) := by decide +kernel
theorem dL_arePages_3 : decode cL_arePages 3 = .ok (.istore_n 2, 1) := by decide +kernel
theorem dL_arePages_4 : decode cL_arePages 4 = .ok (.aload_n 0, 1) := by decide +kernel
theorem dL_arePages_5 : decode cL_arePages 5 = .ok (.invokevirtual 27, 3) := by decide +kernel
theorem dL_arePages_8 : decode cL_arePages 8 = .ok (.ifCond .lt 16, 3) := by decide +kernel
theorem dL_arePages_11 : decode cL_arePages 11 = .ok (.aload_n 0, 1) := by decide +kernel
theorem dL_arePages_12 : decode cL_arePages 12 = .ok (.invokevirtual 27, 3) := by decide +kernel
theorem dL_arePages_15 : decode cL_arePages 15 = .ok (.bipush 64, 2) := by decide +kernel
theorem dL_arePages_17 : decode cL_arePages 17 = .ok (.if_icmp .ge 7, 3) := by decide +kernel
theorem dL_arePages_20 : decode cL_arePages 20 = .ok (.iconst 1, 1) := by decide +kernel
theorem dL_arePages_21 : decode cL_arePages 21 = .ok (.goto 4, 3) := by decide +kernel
theorem dL_arePages_24 : decode cL_arePages 24 = .ok (.iconst 0, 1) := by decide +kernel
theorem dL_arePages_25 : decode cL_arePages 25 = .ok (.istore_n 3, 1) := by decide +kernel
theorem dL_arePages_26 : decode cL_arePages 26 = .ok (.iconst 0, 1) := by decide +kernel
theorem dL_arePages_27 : decode cL_arePages 27 = .ok (.istore 4, 2) := by decide +kernel
theorem dL_arePages_29 : decode cL_arePages 29 = .ok (.iload 4, 2) := by decide +kernel
theorem dL_arePages_31 : decode cL_arePages 31 = .ok (.iconst 4, 1) := by decide +kernel
theorem dL_arePages_32 : decode cL_arePages 32 = .ok (.if_icmp .ge 262, 3) := by decide +kernel
theorem dL_arePages_35 : decode cL_arePages 35 = .ok (.iload_n 3, 1) := by decide +kernel
theorem dL_arePages_36 : decode cL_arePages 36 = .ok (.ifCond .eq 258, 3) := by decide +kernel
theorem dL_arePages_39 : decode cL_arePages 39 = .ok (.iconst 0, 1) := by decide +kernel
theorem dL_arePages_40 : decode cL_arePages 40 = .ok (.istore 5, 2) := by decide +kernel
theorem dL_arePages_42 : decode cL_arePages 42 = .ok (.iconst 0, 1) := by decide +kernel
theorem dL_arePages_43 : decode cL_arePages 43 = .ok (.istore 6, 2) := by decide +kernel
theorem dL_arePages_45 : decode cL_arePages 45 = .ok (.iconst 0, 1) := by decide +kernel
theorem dL_arePages_46 : decode cL_arePages 46 = .ok (.istore 7, 2) := by decide +kernel
theorem dL_arePages_48 : decode cL_arePages 48 = .ok (.iload 7, 2) := by decide +kernel
theorem dL_arePages_50 : decode cL_arePages 50 = .ok (.bipush 8, 2) := by decide +kernel
theorem dL_arePages_52 : decode cL_arePages 52 = .ok (.if_icmp .ge 159, 3) := by decide +kernel
theorem dL_arePages_55 : decode cL_arePages 55 = .ok (.iload_n 3, 1) := by decide +kernel
theorem dL_arePages_56 : decode cL_arePages 56 = .ok (.ifCond .eq 155, 3) := by decide +kernel
theorem dL_arePages_59 : decode cL_arePages 59 = .ok (.aload_n 0, 1) := by decide +kernel
theorem dL_arePages_60 : decode cL_arePages 60 = .ok (.iload 4, 2) := by decide +kernel
theorem dL_arePages_62 : decode cL_arePages 62 = .ok (.iload 7, 2) := by decide +kernel
theorem dL_arePages_64 : decode cL_arePages 64 = .ok (.invokevirtual 30, 3) := by decide +kernel
theorem dL_arePages_67 : decode cL_arePages 67 = .ok (.istore 8, 2) := by decide +kernel
theorem dL_arePages_69 : decode cL_arePages 69 = .ok (.iload 5, 2) := by decide +kernel
theorem dL_arePages_71 : decode cL_arePages 71 = .ok (.iload 8, 2) := by decide +kernel
theorem dL_arePages_73 : decode cL_arePages 73 = .ok (.ifCond .lt 7, 3) := by decide +kernel
theorem dL_arePages_76 : decode cL_arePages 76 = .ok (.iconst 1, 1) := by decide +kernel
theorem dL_arePages_77 : decode cL_arePages 77 = .ok (.goto 4, 3) := by decide +kernel
theorem dL_arePages_80 : decode cL_arePages 80 = .ok (.iconst 0, 1) := by decide +kernel
theorem dL_arePages_81 : decode cL_arePages 81 = .ok (.iadd, 1) := by decide +kernel
theorem dL_arePages_82 : decode cL_arePages 82 = .ok (.istore 5, 2) := by decide +kernel
theorem dL_arePages_84 : decode cL_arePages 84 = .ok (.iload 6, 2) := by decide +kernel
theorem dL_arePages_86 : decode cL_arePages 86 = .ok (.ifCond .ne 20, 3) := by decide +kernel
theorem dL_arePages_89 : decode cL_arePages 89 = .ok (.iload 8, 2) := by decide +kernel
theorem dL_arePages_91 : decode cL_arePages 91 = .ok (.ifCond .lt 19, 3) := by decide +kernel
theorem dL_arePages_94 : decode cL_arePages 94 = .ok (.iload 8, 2) := by decide +kernel
theorem dL_arePages_96 : decode cL_arePages 96 = .ok (.bipush 10, 2) := by decide +kernel
theorem dL_arePages_98 : decode cL_arePages 98 = .ok (.idiv, 1) := by decide +kernel
theorem dL_arePages_99 : decode cL_arePages 99 = .ok (.bipush 10, 2) := by decide +kernel
theorem dL_arePages_101 : decode cL_arePages 101 = .ok (.irem, 1) := by decide +kernel
theorem dL_arePages_102 : decode cL_arePages 102 = .ok (.iconst 2, 1) := by decide +kernel
theorem dL_arePages_103 : decode cL_arePages 103 = .ok (.if_icmp .lt 7, 3) := by decide +kernel
theorem dL_arePages_106 : decode cL_arePages 106 = .ok (.iconst 1, 1) := by decide +kernel
theorem dL_arePages_107 : decode cL_arePages 107 = .ok (.goto 4, 3) := by decide +kernel
theorem dL_arePages_110 : decode cL_arePages 110 = .ok (.iconst 0, 1) := by decide +kernel
theorem dL_arePages_111 : decode cL_arePages 111 = .ok (.istore 6, 2) := by decide +kernel
theorem dL_arePages_113 : decode cL_arePages 113 = .ok (.iload 8, 2) := by decide +kernel
theorem dL_arePages_115 : decode cL_arePages 115 = .ok (.bipush 100, 2) := by decide +kernel
theorem dL_arePages_117 : decode cL_arePages 117 = .ok (.if_icmp .lt 57, 3) := by decide +kernel
theorem dL_arePages_120 : decode cL_arePages 120 = .ok (.aload_n 0, 1) := by decide +kernel
theorem dL_arePages_121 : decode cL_arePages 121 = .ok (.iload 4, 2) := by decide +kernel
theorem dL_arePages_123 : decode cL_arePages 123 = .ok (.iload 8, 2) := by decide +kernel
theorem dL_arePages_125 : decode cL_arePages 125 = .ok (.bipush 100, 2) := by decide +kernel
theorem dL_arePages_127 : decode cL_arePages 127 = .ok (.idiv, 1) := by decide +kernel
theorem dL_arePages_128 : decode cL_arePages 128 = .ok (.iconst 1, 1) := by decide +kernel
theorem dL_arePages_129 : decode cL_arePages 129 = .ok (.isub, 1) := by decide +kernel
theorem dL_arePages_130 : decode cL_arePages 130 = .ok (.invokevirtual 30, 3) := by decide +kernel
theorem dL_arePages_133 : decode cL_arePages 133 = .ok (.istore 9, 2) := by decide +kernel
theorem dL_arePages_135 : decode cL_arePages 135 = .ok (.iinc 2 1, 3) := by decide +kernel
theorem dL_arePages_138 : decode cL_arePages 138 = .ok (.iload 9, 2) := by decide +kernel
theorem dL_arePages_140 : decode cL_arePages 140 = .ok (.ifCond .lt 32, 3) := by decide +kernel
theorem dL_arePages_143 : decode cL_arePages 143 = .ok (.iload 9, 2) := by decide +kernel
theorem dL_arePages_145 : decode cL_arePages 145 = .ok (.bipush 10, 2) := by decide +kernel
theorem dL_arePages_147 : decode cL_arePages 147 = .ok (.irem, 1) := by decide +kernel
theorem dL_arePages_148 : decode cL_arePages 148 = .ok (.iload 8, 2) := by decide +kernel
theorem dL_arePages_150 : decode cL_arePages 150 = .ok (.bipush 10, 2) := by decide +kernel
theorem dL_arePages_152 : decode cL_arePages 152 = .ok (.irem, 1) := by decide +kernel
theorem dL_arePages_153 : decode cL_arePages 153 = .ok (.if_icmp .ne 19, 3) := by decide +kernel
theorem dL_arePages_156 : decode cL_arePages 156 = .ok (.iload 8, 2) := by decide +kernel
theorem dL_arePages_158 : decode cL_arePages 158 = .ok (.bipush 100, 2) := by decide +kernel
theorem dL_arePages_160 : decode cL_arePages 160 = .ok (.idiv, 1) := by decide +kernel
theorem dL_arePages_161 : decode cL_arePages 161 = .ok (.iconst 1, 1) := by decide +kernel
theorem dL_arePages_162 : decode cL_arePages 162 = .ok (.isub, 1) := by decide +kernel
theorem dL_arePages_163 : decode cL_arePages 163 = .ok (.iload 7, 2) := by decide +kernel
theorem dL_arePages_165 : decode cL_arePages 165 = .ok (.if_icmp .eq 7, 3) := by decide +kernel
theorem dL_arePages_168 : decode cL_arePages 168 = .ok (.iconst 1, 1) := by decide +kernel
theorem dL_arePages_169 : decode cL_arePages 169 = .ok (.goto 4, 3) := by decide +kernel
theorem dL_arePages_172 : decode cL_arePages 172 = .ok (.iconst 0, 1) := by decide +kernel
theorem dL_arePages_173 : decode cL_arePages 173 = .ok (.istore_n 3, 1) := by decide +kernel
theorem dL_arePages_174 : decode cL_arePages 174 = .ok (.iload_n 3, 1) := by decide +kernel
theorem dL_arePages_175 : decode cL_arePages 175 = .ok (.ifCond .eq 28, 3) := by decide +kernel
theorem dL_arePages_178 : decode cL_arePages 178 = .ok (.iload 8, 2) := by decide +kernel
theorem dL_arePages_180 : decode cL_arePages 180 = .ok (.iconst (-1), 1) := by decide +kernel
theorem dL_arePages_181 : decode cL_arePages 181 = .ok (.if_icmp .lt 22, 3) := by decide +kernel
theorem dL_arePages_184 : decode cL_arePages 184 = .ok (.iload 8, 2) := by decide +kernel
theorem dL_arePages_186 : decode cL_arePages 186 = .ok (.ifCond .lt 13, 3) := by decide +kernel
theorem dL_arePages_189 : decode cL_arePages 189 = .ok (.iload 8, 2) := by decide +kernel
theorem dL_arePages_191 : decode cL_arePages 191 = .ok (.bipush 10, 2) := by decide +kernel
theorem dL_arePages_193 : decode cL_arePages 193 = .ok (.irem, 1) := by decide +kernel
theorem dL_arePages_194 : decode cL_arePages 194 = .ok (.bipush 6, 2) := by decide +kernel
theorem dL_arePages_196 : decode cL_arePages 196 = .ok (.if_icmp .ge 7, 3) := by decide +kernel
theorem dL_arePages_199 : decode cL_arePages 199 = .ok (.iconst 1, 1) := by decide +kernel
theorem dL_arePages_200 : decode cL_arePages 200 = .ok (.goto 4, 3) := by decide +kernel
theorem dL_arePages_203 : decode cL_arePages 203 = .ok (.iconst 0, 1) := by decide +kernel
theorem dL_arePages_204 : decode cL_arePages 204 = .ok (.istore_n 3, 1) := by decide +kernel
theorem dL_arePages_205 : decode cL_arePages 205 = .ok (.iinc 7 1, 3) := by decide +kernel
theorem dL_arePages_208 : decode cL_arePages 208 = .ok (.goto (-160), 3) := by decide +kernel
theorem dL_arePages_211 : decode cL_arePages 211 = .ok (.iload_n 1, 1) := by decide +kernel
theorem dL_arePages_212 : decode cL_arePages 212 = .ok (.iload 5, 2) := by decide +kernel
theorem dL_arePages_214 : decode cL_arePages 214 = .ok (.iadd, 1) := by decide +kernel
theorem dL_arePages_215 : decode cL_arePages 215 = .ok (.istore_n 1, 1) := by decide +kernel
theorem dL_arePages_216 : decode cL_arePages 216 = .ok (.iload_n 3, 1) := by decide +kernel
theorem dL_arePages_217 : decode cL_arePages 217 = .ok (.ifCond .eq 69, 3) := by decide +kernel
theorem dL_arePages_220 : decode cL_arePages 220 = .ok (.aload_n 0, 1) := by decide +kernel
theorem dL_arePages_221 : decode cL_arePages 221 = .ok (.iload 4, 2) := by decide +kernel
theorem dL_arePages_223 : decode cL_arePages 223 = .ok (.invokevirtual 34, 3) := by decide +kernel
theorem dL_arePages_226 : decode cL_arePages 226 = .ok (.iload 5, 2) := by decide +kernel
theorem dL_arePages_228 : decode cL_arePages 228 = .ok (.i2f, 1) := by decide +kernel
theorem dL_arePages_229 : decode cL_arePages 229 = .ok (.ldc 38, 2) := by decide +kernel
theorem dL_arePages_231 : decode cL_arePages 231 = .ok (.fdiv, 1) := by decide +kernel
theorem dL_arePages_232 : decode cL_arePages 232 = .ok (.fcmp .l, 1) := by decide +kernel
theorem dL_arePages_233 : decode cL_arePages 233 = .ok (.ifCond .ne 53, 3) := by decide +kernel
theorem dL_arePages_236 : decode cL_arePages 236 = .ok (.aload_n 0, 1) := by decide +kernel
theorem dL_arePages_237 : decode cL_arePages 237 = .ok (.iload 4, 2) := by decide +kernel
theorem dL_arePages_239 : decode cL_arePages 239 = .ok (.invokevirtual 39, 3) := by decide +kernel
theorem dL_arePages_242 : decode cL_arePages 242 = .ok (.ifCond .eq 12, 3) := by decide +kernel
theorem dL_arePages_245 : decode cL_arePages 245 = .ok (.aload_n 0, 1) := by decide +kernel
theorem dL_arePages_246 : decode cL_arePages 246 = .ok (.iload 4, 2) := by decide +kernel
theorem dL_arePages_248 : decode cL_arePages 248 = .ok (.invokevirtual 43, 3) := by decide +kernel
theorem dL_arePages_251 : decode cL_arePages 251 = .ok (.ifCond .eq 35, 3) := by decide +kernel
theorem dL_arePages_254 : decode cL_arePages 254 = .ok (.iload 6, 2) := by decide +kernel
theorem dL_arePages_256 : decode cL_arePages 256 = .ok (.ifCond .eq 12, 3) := by decide +kernel
theorem dL_arePages_259 : decode cL_arePages 259 = .ok (.aload_n 0, 1) := by decide +kernel
theorem dL_arePages_260 : decode cL_arePages 260 = .ok (.iload 4, 2) := by decide +kernel
theorem dL_arePages_262 : decode cL_arePages 262 = .ok (.invokevirtual 43, 3) := by decide +kernel
theorem dL_arePages_265 : decode cL_arePages 265 = .ok (.ifCond .ne 21, 3) := by decide +kernel
theorem dL_arePages_268 : decode cL_arePages 268 = .ok (.iload 5, 2) := by decide +kernel
theorem dL_arePages_270 : decode cL_arePages 270 = .ok (.ifCond .gt 12, 3) := by decide +kernel
theorem dL_arePages_273 : decode cL_arePages 273 = .ok (.aload_n 0, 1) := by decide +kernel
theorem dL_arePages_274 : decode cL_arePages 274 = .ok (.iload 4, 2) := by decide +kernel
theorem dL_arePages_276 : decode cL_arePages 276 = .ok (.invokevirtual 43, 3) := by decide +kernel
theorem dL_arePages_279 : decode cL_arePages 279 = .ok (.ifCond .eq 7, 3) := by decide +kernel
theorem dL_arePages_282 : decode cL_arePages 282 = .ok (.iconst 1, 1) := by decide +kernel
theorem dL_arePages_283 : decode cL_arePages 283 = .ok (.goto 4, 3) := by decide +kernel
theorem dL_arePages_286 : decode cL_arePages 286 = .ok (.iconst 0, 1) := by decide +kernel
theorem dL_arePages_287 : decode cL_arePages 287 = .ok (.istore_n 3, 1) := by decide +kernel
theorem dL_arePages_288 : decode cL_arePages 288 = .ok (.iinc 4 1, 3) := by decide +kernel
theorem dL_arePages_291 : decode cL_arePages 291 = .ok (.goto (-262), 3) := by decide +kernel
theorem dL_arePages_294 : decode cL_arePages 294 = .ok (.iconst 0, 1) := by decide +kernel
theorem dL_arePages_295 : decode cL_arePages 295 = .ok (.istore 4, 2) := by decide +kernel
theorem dL_arePages_297 : decode cL_arePages 297 = .ok (.iconst 0, 1) := by decide +kernel
theorem dL_arePages_298 : decode cL_arePages 298 = .ok (.istore 5, 2) := by decide +kernel
theorem dL_arePages_300 : decode cL_arePages 300 = .ok (.iload 5, 2) := by decide +kernel
theorem dL_arePages_302 : decode cL_arePages 302 = .ok (.bipush 6, 2) := by decide +kernel
theorem dL_arePages_304 : decode cL_arePages 304 = .ok (.if_icmp .ge 20, 3) := by decide +kernel
theorem dL_arePages_307 : decode cL_arePages 307 = .ok (.iload 4, 2) := by decide +kernel
theorem dL_arePages_309 : decode cL_arePages 309 = .ok (.aload_n 0, 1) := by decide +kernel
theorem dL_arePages_310 : decode cL_arePages 310 = .ok (.iload 5, 2) := by decide +kernel
theorem dL_arePages_312 : decode cL_arePages 312 = .ok (.invokevirtual 46, 3) := by decide +kernel
theorem dL_arePages_315 : decode cL_arePages 315 = .ok (.iadd, 1) := by decide +kernel
theorem dL_arePages_316 : decode cL_arePages 316 = .ok (.istore 4, 2) := by decide +kernel
theorem dL_arePages_318 : decode cL_arePages 318 = .ok (.iinc 5 1, 3) := by decide +kernel
theorem dL_arePages_321 : decode cL_arePages 321 = .ok (.goto (-21), 3) := by decide +kernel
theorem dL_arePages_324 : decode cL_arePages 324 = .ok (.iload_n 3, 1) := by decide +kernel
theorem dL_arePages_325 : decode cL_arePages 325 = .ok (.ifCond .eq 15, 3) := by decide +kernel
theorem dL_arePages_328 : decode cL_arePages 328 = .ok (.iload 4, 2) := by decide +kernel
theorem dL_arePages_330 : decode cL_arePages 330 = .ok (.iload_n 2, 1) := by decide +kernel
theorem dL_arePages_331 : decode cL_arePages 331 = .ok (.iadd, 1) := by decide +kernel
theorem dL_arePages_332 : decode cL_arePages 332 = .ok (.iload_n 1, 1) := by decide +kernel
theorem dL_arePages_333 : decode cL_arePages 333 = .ok (.if_icmp .gt 7, 3) := by decide +kernel
theorem dL_arePages_336 : decode cL_arePages 336 = .ok (.iconst 1, 1) := by decide +kernel
theorem dL_arePages_337 : decode cL_arePages 337 = .ok (.goto 4, 3) := by decide +kernel
theorem dL_arePages_340 : decode cL_arePages 340 = .ok (.iconst 0, 1) := by decide +kernel
theorem dL_arePages_341 : decode cL_arePages 341 = .ok (.ireturn, 1) := by decide +kernel
set_option maxRecDepth 20000 in
theorem ggL_isRead_X4_read : GoodIn wsL_isRead wsX4_read := goodIn_ca (goodIn_ca (goodIn_ca (goodIn_r _ [5, 6, 7, 8, 9, 10, 4, 11, 12, 13, 14, 15, 16, 17, 18, 19, 20, 21, 22, 23, 24, 25, 26, 27, 28, 29, 30, 31, 32, 33, 34, 35, 36, 37, 38, 39, 40, 41, 42, 43, 44, 45, 46, 47, 48, 49, 50, 51, 52, 53, 54, 55, 56, 57, 58, 59, 60, 61, 62, 63, 64, 65, 66, 77, 78, 79, 80, 81, 82, 83, 84, 85, 86, 87, 88, 89, 90, 91, 92, 93, 94, 95, 96, 97, 98, 99] (by decide +kernel) (by decide +kernel)) (goodIn_sub (fun _ h => List.mem_cons_of_mem _ (List.mem_append_left _ (List.mem_append_left _ (List.mem_append_right _ h)))) (by decide +kernel))) (goodIn_sub (fun _ h => List.mem_cons_of_mem _ (List.mem_append_left _ (List.mem_append_right _ h))) (by decide +kernel))) (goodIn_sub (fun _ h => List.mem_cons_of_mem _ (List.mem_append_right _ h)) (by decide +kernel))
set_option maxRecDepth 20000 in
theorem gL_isRead_X4_read : GoodIn wsL_isRead (wsV RL 49 RX4 yX4_read wsX4_read) := goodIn_app (goodIn_of _ (by decide +kernel)) ggL_isRead_X4_read
set_option maxRecDepth 20000 in
theorem ggL_isRead_X4_readPlain : GoodIn wsL_isRead wsX4_readPlain := goodIn_ca (goodIn_ca (goodIn_ca (goodIn_r _ [70, 71, 72, 73, 14, 74, 75, 76, 8, 9, 10, 4, 11, 12, 13, 15, 16, 17, 18, 19, 20, 21, 22, 23, 24, 25, 26, 27, 28, 29, 30, 31, 32, 33, 34, 35, 36, 37, 38, 39, 62, 63, 64, 65, 66, 77, 78, 79, 80, 81, 82, 100, 101, 102, 103, 104, 92, 93, 94, 95, 96, 97] (by decide +kernel) (by decide +kernel)) (goodIn_sub (fun _ h => List.mem_cons_of_mem _ (List.mem_append_left _ (List.mem_append_left _ (List.mem_append_right _ h)))) (by decide +kernel))) (goodIn_sub (fun _ h => List.mem_cons_of_mem _ (List.mem_append_left _ (List.mem_append_right _ h))) (by decide +kernel))) (goodIn_sub (fun _ h => List.mem_cons_of_mem _ (List.mem_append_right _ h)) (by decide +kernel))
set_option maxRecDepth 20000 in
theorem gL_isRead_X4_readPlain : GoodIn wsL_isRead (wsV RL 52 RX4 yX4_readPlain wsX4_readPlain) := goodIn_app (goodIn_of _ (by decide +kernel)) ggL_isRead_X4_readPlain
theorem dL_isRead_0 : decode cL_isRead 0 = .ok (.iconst 1, 1) := by decide +kernel
theorem dL_isRead_1 : decode cL_isRead 1 = .ok (.istore_n 2, 1) := by decide +kernel
theorem dL_isRead_2 : decode cL_isRead 2 = .ok (.iconst 0, 1) := by decide +kernel
theorem dL_isRead_3 : decode cL_isRead 3 = .ok (.istore_n 3, 1) := by decide +kernel
theorem dL_isRead_4 : decode cL_isRead 4 = .ok (.iload_n 3, 1) := by decide +kernel
theorem dL_isRead_5 : decode cL_isRead 5 = .ok (.bipush 6, 2) := by decide +kernel
theorem dL_isRead_7 : decode cL_isRead 7 = .ok (.if_icmp .ge 34, 3) := by decide +kernel
theorem dL_isRead_10 : decode cL_isRead 10 = .ok (.iload_n 2, 1) := by decide +kernel
theorem dL_isRead_11 : decode cL_isRead 11 = .ok (.ifCond .eq 30, 3) := by decide +kernel
theorem dL_isRead_14 : decode cL_isRead 14 = .ok (.aload_n 0, 1) := by decide +kernel
theorem dL_isRead_15 : decode cL_isRead 15 = .ok (.iload_n 1, 1) := by decide +kernel
theorem dL_isRead_16 : decode cL_isRead 16 = .ok (.iload_n 3, 1) := by decide +kernel
theorem dL_isRead_17 : decode cL_isRead 17 = .ok (.invokevirtual 49, 3) := by decide +kernel
theorem dL_isRead_20 : decode cL_isRead 20 = .ok (.aload_n 0, 1) := by decide +kernel
theorem dL_isRead_21 : decode cL_isRead 21 = .ok (.iload_n 1, 1) := by decide +kernel
theorem dL_isRead_22 : decode cL_isRead 22 = .ok (.iload_n 3, 1) := by decide +kernel
theorem dL_isRead_23 : decode cL_isRead 23 = .ok (.invokevirtual 52, 3) := by decide +kernel
theorem dL_isRead_26 : decode cL_isRead 26 = .ok (.if_icmp .ne 7, 3) := by decide +kernel
theorem dL_isRead_29 : decode cL_isRead 29 = .ok (.iconst 1, 1) := by decide +kernel
theorem dL_isRead_30 : decode cL_isRead 30 = .ok (.goto 4, 3) := by decide +kernel
theorem dL_isRead_33 : decode cL_isRead 33 = .ok (.iconst 0, 1) := by decide +kernel
theorem dL_isRead_34 : decode cL_isRead 34 = .ok (.istore_n 2, 1) := by decide +kernel
theorem dL_isRead_35 : decode cL_isRead 35 = .ok (.iinc 3 1, 3) := by decide +kernel
theorem dL_isRead_38 : decode cL_isRead 38 = .ok (.goto (-34), 3) := by decide +kernel
theorem dL_isRead_41 : decode cL_isRead 41 = .ok (.iload_n 2, 1) := by decide +kernel
theorem dL_isRead_42 : decode cL_isRead 42 = .ok (.ireturn, 1) := by decide +kernel
set_option maxRecDepth 20000 in
theorem ggL_law_X4_init : GoodIn wsL_law wsX4_init := goodIn_r _ [11, 12, 13, 14, 15, 16, 17, 18, 19, 20, 21, 22, 23, 24, 25, 26, 27, 28, 29, 30, 31, 32, 33, 34, 35, 36, 3, 37, 38, 39, 40, 41, 42, 43, 44, 45, 46, 47, 48, 49, 50, 51, 52, 53, 54, 55, 56, 57, 58, 59, 60, 61, 62, 63, 64, 65, 66, 67, 68, 69, 394, 395, 396, 397, 398, 399, 388, 389, 390, 391, 392, 393, 400, 401, 402, 403, 404, 405, 406, 407, 408, 409, 410, 411, 412, 413, 414, 415] (by decide +kernel) (by decide +kernel)
set_option maxRecDepth 20000 in
theorem gL_law_X4_init : GoodIn wsL_law (wsX4_init) := ggL_law_X4_init
set_option maxRecDepth 20000 in
theorem ggL_law_L_arePages : GoodIn wsL_law wsL_arePages := goodIn_ca (goodIn_r _ [73, 8, 74, 75, 76, 2, 77, 18, 22, 78, 79, 80, 81, 82, 83, 84, 85, 86, 87, 17, 88, 89, 37, 90, 91, 92, 93, 94, 95, 96, 97, 98, 99, 100, 101, 102, 103, 104, 105, 106, 107, 108, 109, 110, 111, 112, 21, 113, 44, 114, 115, 116, 117, 118, 49, 119, 120, 121, 122, 123, 124, 125, 126, 127, 128, 129, 130, 131, 132, 133, 134, 135, 136, 137, 138, 139, 140, 141, 142, 143, 144, 145, 146, 147, 148, 149, 150, 32, 151, 152, 153, 154, 155, 156, 157, 158, 159, 39, 160, 161, 162, 163, 164, 165, 166, 167, 168, 169, 26, 170, 171, 172, 173, 388, 389, 390, 391, 392, 393, 400, 401, 402, 403, 404, 405, 406, 407, 408, 394, 395, 396, 397, 398, 399, 409, 410] (by decide +kernel) (by decide +kernel)) (goodIn_sub (fun _ h => List.mem_append_left _ (List.mem_append_left _ (List.mem_append_right _ h))) (by decide +kernel))
set_option maxRecDepth 20000 in
theorem gL_law_L_arePages : GoodIn wsL_law (va_wsS RL 56 yL_arePages wsL_arePages) := goodIn_app (goodIn_of _ (by decide +kernel)) ggL_law_L_arePages
set_option maxRecDepth 20000 in
theorem ggL_law_X4_oldest : GoodIn wsL_law wsX4_oldest := goodIn_r _ [77, 18, 22, 78, 79, 80, 81, 82, 83, 84, 85, 86, 87, 17, 88, 89, 37, 90, 91, 92, 93, 94, 95, 96, 97, 98, 99, 100, 101, 102, 103, 104, 2, 105, 106, 107, 108, 109, 110, 111, 112, 21, 113, 44, 114, 115, 116, 117, 118, 49, 388, 389, 390, 391, 392, 393, 400, 401, 402, 403, 404, 405, 406, 407, 408, 394, 395, 396, 397, 398, 399] (by decide +kernel) (by decide +kernel)
set_option maxRecDepth 20000 in
theorem gL_law_X4_oldest : GoodIn wsL_law (wsV RL 27 RX4 yX4_oldest wsX4_oldest) := goodIn_app (goodIn_of _ (by decide +kernel)) ggL_law_X4_oldest
set_option maxRecDepth 20000 in
theorem ggL_law_L_begins : GoodIn wsL_law wsL_begins := goodIn_ca (goodIn_r _ [176, 177, 178, 179, 180, 2, 181, 182, 183, 18, 184, 185, 186, 17, 187, 89, 188, 75, 76, 77, 22, 78, 79, 80, 81, 82, 83, 84, 85, 86, 87, 88, 37, 90, 91, 92, 93, 94, 95, 96, 97, 98, 99, 100, 101, 102, 103, 104, 105, 106, 107, 108, 109, 110, 111, 112, 21, 113, 44, 114, 115, 116, 117, 118, 49, 189, 190, 191, 192, 39, 159, 193, 194, 195, 196, 388, 389, 390, 391, 392, 393, 394, 395, 396, 397, 398, 399, 400, 401, 402, 403, 404, 405, 406, 407, 408] (by decide +kernel) (by decide +kernel)) (goodIn_sub (fun _ h => List.mem_append_left _ (List.mem_append_right _ h)) (by decide +kernel))
set_option maxRecDepth 20000 in
theorem gL_law_L_begins : GoodIn wsL_law (va_wsS RL 65 yL_begins wsL_begins) := goodIn_app (goodIn_of _ (by decide +kernel)) ggL_law_L_begins
set_option maxRecDepth 20000 in
theorem ggL_law_X4_read : GoodIn wsL_law wsX4_read := goodIn_ca (goodIn_ca (goodIn_ca (goodIn_r _ [200, 22, 201, 202, 203, 204, 2, 205, 206, 207, 18, 208, 209, 210, 17, 211, 89, 171, 172, 173, 128, 129, 212, 213, 214, 215, 182, 183, 216, 92, 93, 94, 95, 96, 97, 98, 217, 218, 219, 220, 26, 170, 221, 222, 223, 224, 225, 124, 136, 137, 138, 226, 227, 228, 229, 78, 164, 230, 231, 232, 233, 234, 39, 388, 389, 390, 391, 392, 393, 400, 401, 402, 403, 404, 405, 406, 407, 408, 394, 395, 396, 397, 398, 399, 409, 410] (by decide +kernel) (by decide +kernel)) (goodIn_sub (fun _ h => List.mem_append_right _ h) (by decide +kernel))) (goodIn_sub (fun _ h => List.mem_append_left _ (List.mem_append_left _ (List.mem_append_right _ h))) (by decide +kernel))) (goodIn_sub (fun _ h => List.mem_append_left _ (List.mem_append_right _ h)) (by decide +kernel))
set_option maxRecDepth 20000 in
theorem gL_law_X4_read : GoodIn wsL_law (wsV RL 49 RX4 yX4_read wsX4_read) := goodIn_app (goodIn_of _ (by decide +kernel)) ggL_law_X4_read
set_option maxRecDepth 20000 in
theorem ggL_law_X4_end : GoodIn wsL_law wsX4_end := goodIn_ca (goodIn_ca (goodIn_r _ [238, 18, 22, 30, 202, 203, 204, 2, 205, 206, 207, 208, 209, 210, 17, 211, 89, 212, 213, 214, 215, 182, 183, 216, 92, 93, 94, 95, 96, 97, 98, 239, 240, 241, 242, 243, 159, 244, 245, 246, 21, 247, 49, 248, 249, 250, 29, 251, 252, 69, 253, 254, 255, 256, 257, 258, 259, 260, 261, 262, 263, 388, 389, 390, 391, 392, 393, 394, 395, 396, 397, 398, 399, 400, 401, 402, 403, 404, 405, 406, 407, 408, 411, 412, 413, 414, 415] (by decide +kernel) (by decide +kernel)) (goodIn_sub (fun _ h => List.mem_append_right _ h) (by decide +kernel))) (goodIn_sub (fun _ h => List.mem_append_left _ (List.mem_append_right _ h)) (by decide +kernel))
set_option maxRecDepth 20000 in
theorem gL_law_X4_end : GoodIn wsL_law (wsV RL 69 RX4 yX4_end wsX4_end) := goodIn_app (goodIn_of _ (by decide +kernel)) ggL_law_X4_end
set_option maxRecDepth 20000 in
theorem ggL_law_L_writes : GoodIn wsL_law wsL_writes := goodIn_ca (goodIn_ca (goodIn_ca (goodIn_r _ [266, 177, 267, 268, 269, 2, 270, 182, 183, 22, 124, 26, 271, 202, 203, 204, 205, 206, 207, 18, 208, 209, 210, 17, 211, 89, 171, 172, 173, 128, 129, 272, 273, 274, 212, 213, 214, 215, 216, 92, 93, 94, 95, 96, 97, 98, 275, 276, 277, 278, 123, 164, 230, 279, 280, 281, 282, 159, 283, 232, 233, 234, 39, 217, 218, 219, 220, 170, 221, 222, 223, 224, 225, 136, 137, 138, 226, 227, 228, 229, 78, 231, 284, 285, 286, 287, 288, 289, 290, 133, 134, 135, 291, 292, 293, 21, 294, 295, 111, 112, 113, 44, 296, 297, 298, 299, 84, 300, 30, 301, 32, 302, 303, 304, 29, 305, 252, 69, 306, 307, 308, 309, 201, 79, 310, 311, 312, 313, 66, 67, 68, 314, 315, 316, 25, 317, 62, 61, 139, 140, 141, 388, 389, 390, 391, 392, 393, 400, 401, 402, 403, 404, 405, 406, 407, 408, 394, 395, 396, 397, 398, 399, 409, 410, 411, 412, 413, 414, 415] (by decide +kernel) (by decide +kernel)) (goodIn_sub (fun _ h => List.mem_append_left _ (List.mem_append_right _ h)) (by decide +kernel))) (goodIn_sub (fun _ h => List.mem_append_right _ h) (by decide +kernel))) (goodIn_sub (fun _ h => List.mem_append_left _ (List.mem_append_left _ (List.mem_append_right _ h))) (by decide +kernel))
set_option maxRecDepth 20000 in
theorem gL_law_L_writes : GoodIn wsL_law (va_wsS RL 73 yL_writes wsL_writes) := goodIn_app (goodIn_of _ (by decide +kernel)) ggL_law_L_writes
set_option maxRecDepth 20000 in
theorem ggL_law_X4_slot : GoodIn wsL_law wsX4_slot := goodIn_ca (goodIn_r _ [122, 22, 123, 78, 124, 125, 126, 2, 127, 128, 129, 130, 131, 132, 133, 134, 135, 110, 111, 112, 21, 113, 44, 115, 116, 117, 118, 49, 136, 137, 138, 139, 140, 141, 388, 389, 390, 391, 392, 393, 400, 401, 402, 403, 404, 405, 406, 407, 408] (by decide +kernel) (by decide +kernel)) (goodIn_sub (fun _ h => List.mem_append_left _ (List.mem_append_left _ (List.mem_append_right _ h))) (by decide +kernel))
set_option maxRecDepth 20000 in
theorem gL_law_X4_slot : GoodIn wsL_law (wsV RL 30 RX4 yX4_slot wsX4_slot) := goodIn_app (goodIn_of _ (by decide +kernel)) ggL_law_X4_slot
set_option maxRecDepth 20000 in
theorem ggL_law_L_deletes : GoodIn wsL_law wsL_deletes := goodIn_ca (goodIn_ca (goodIn_ca (goodIn_r _ [320, 177, 321, 322, 323, 2, 324, 202, 203, 204, 205, 206, 207, 18, 208, 209, 210, 17, 211, 89, 171, 172, 173, 128, 129, 212, 213, 214, 215, 182, 183, 216, 92, 93, 94, 95, 96, 97, 98, 217, 218, 219, 220, 26, 170, 221, 222, 223, 224, 225, 22, 124, 136, 137, 138, 226, 227, 228, 229, 78, 164, 230, 231, 232, 233, 234, 39, 275, 276, 277, 278, 123, 279, 280, 281, 282, 159, 283, 296, 297, 298, 299, 84, 300, 30, 301, 32, 302, 303, 304, 29, 305, 252, 69, 288, 289, 290, 388, 389, 390, 391, 392, 393, 394, 395, 396, 397, 398, 399, 409, 410, 400, 401, 402, 403, 404, 405, 406, 407, 408, 411, 412, 413, 414, 415] (by decide +kernel) (by decide +kernel)) (goodIn_sub (fun _ h => List.mem_append_right _ h) (by decide +kernel))) (goodIn_sub (fun _ h => List.mem_append_left _ (List.mem_append_left _ (List.mem_append_right _ h))) (by decide +kernel))) (goodIn_sub (fun _ h => List.mem_append_left _ (List.mem_append_right _ h)) (by decide +kernel))
set_option maxRecDepth 20000 in
theorem gL_law_L_deletes : GoodIn wsL_law (va_wsS RL 78 yL_deletes wsL_deletes) := goodIn_app (goodIn_of _ (by decide +kernel)) ggL_law_L_deletes
set_option maxRecDepth 20000 in
theorem ggL_law_X4_fullness : GoodIn wsL_law wsX4_fullness := goodIn_ca (goodIn_r _ [145, 22, 146, 125, 126, 2, 127, 128, 129, 133, 134, 135, 110, 111, 112, 21, 113, 44, 388, 389, 390, 391, 392, 393, 400, 401, 402, 403, 404, 405, 406, 407, 408] (by decide +kernel) (by decide +kernel)) (goodIn_sub (fun _ h => List.mem_append_left _ (List.mem_append_left _ (List.mem_append_right _ h))) (by decide +kernel))
set_option maxRecDepth 20000 in
theorem gL_law_X4_fullness : GoodIn wsL_law (wsV RL 34 RX4 yX4_fullness wsX4_fullness) := goodIn_app (goodIn_of _ (by decide +kernel)) ggL_law_X4_fullness
set_option maxRecDepth 20000 in
theorem ggL_law_X4_clean : GoodIn wsL_law wsX4_clean := goodIn_ca (goodIn_r _ [328, 18, 32, 125, 126, 2, 127, 128, 129, 155, 156, 157, 17, 158, 159, 89, 39, 91, 92, 93, 94, 95, 96, 97, 98, 133, 134, 135, 329, 330, 331, 332, 22, 164, 230, 110, 111, 112, 21, 113, 44, 333, 334, 335, 336, 337, 209, 210, 211, 165, 338, 339, 340, 341, 124, 26, 123, 342, 343, 344, 345, 51, 346, 347, 348, 25, 349, 62, 61, 350, 54, 55, 56, 46, 48, 49, 52, 351, 352, 353, 354, 79, 33, 78, 114, 100, 101, 102, 103, 104, 105, 106, 107, 108, 109, 355, 152, 153, 154, 160, 161, 162, 163, 115, 116, 117, 118, 388, 389, 390, 391, 392, 393, 394, 395, 396, 397, 398, 399, 400, 401, 402, 403, 404, 405, 406, 407, 408, 409, 410] (by decide +kernel) (by decide +kernel)) (goodIn_sub (fun _ h => List.mem_append_left _ (List.mem_append_left _ (List.mem_append_right _ h))) (by decide +kernel))
set_option maxRecDepth 20000 in
theorem gL_law_X4_clean : GoodIn wsL_law (wsV RL 82 RX4 yX4_clean wsX4_clean) := goodIn_app (goodIn_of _ (by decide +kernel)) ggL_law_X4_clean
set_option maxRecDepth 20000 in
theorem ggL_law_X4_isMapped : GoodIn wsL_law wsX4_isMapped := goodIn_ca (goodIn_r _ [150, 32, 125, 126, 2, 127, 128, 129, 388, 389, 390, 391, 392, 393] (by decide +kernel) (by decide +kernel)) (goodIn_sub (fun _ h => List.mem_append_left _ (List.mem_append_left _ (List.mem_append_right _ h))) (by decide +kernel))
set_option maxRecDepth 20000 in
theorem gL_law_X4_isMapped : GoodIn wsL_law (wsV RL 39 RX4 yX4_isMapped wsX4_isMapped) := goodIn_app (goodIn_of _ (by decide +kernel)) ggL_law_X4_isMapped
set_option maxRecDepth 20000 in
theorem ggL_law_X4_isWhole : GoodIn wsL_law wsX4_isWhole := goodIn_ca (goodIn_r _ [154, 18, 22, 125, 126, 2, 127, 128, 129, 155, 156, 157, 17, 158, 159, 89, 39, 91, 92, 93, 94, 95, 96, 97, 98, 133, 134, 135, 110, 111, 112, 21, 113, 44, 160, 161, 162, 163, 78, 164, 115, 116, 117, 118, 49, 165, 388, 389, 390, 391, 392, 393, 394, 395, 396, 397, 398, 399, 400, 401, 402, 403, 404, 405, 406, 407, 408] (by decide +kernel) (by decide +kernel)) (goodIn_sub (fun _ h => List.mem_append_left _ (List.mem_append_left _ (List.mem_append_right _ h))) (by decide +kernel))
set_option maxRecDepth 20000 in
theorem gL_law_X4_isWhole : GoodIn wsL_law (wsV RL 43 RX4 yX4_isWhole wsX4_isWhole) := goodIn_app (goodIn_of _ (by decide +kernel)) ggL_law_X4_isWhole
set_option maxRecDepth 20000 in
theorem ggL_law_L_jumps : GoodIn wsL_law wsL_jumps := goodIn_ca (goodIn_ca (goodIn_r _ [358, 177, 359, 360, 361, 2, 362, 128, 129, 182, 183, 18, 188, 75, 76, 77, 22, 78, 79, 80, 81, 82, 83, 84, 85, 86, 87, 17, 88, 89, 37, 90, 91, 92, 93, 94, 95, 96, 97, 98, 99, 100, 101, 102, 103, 104, 105, 106, 107, 108, 109, 110, 111, 112, 21, 113, 44, 114, 115, 116, 117, 118, 49, 363, 194, 195, 196, 388, 389, 390, 391, 392, 393, 400, 401, 402, 403, 404, 405, 406, 407, 408, 394, 395, 396, 397, 398, 399] (by decide +kernel) (by decide +kernel)) (goodIn_sub (fun _ h => List.mem_append_left _ (List.mem_append_left _ (List.mem_append_right _ h))) (by decide +kernel))) (goodIn_sub (fun _ h => List.mem_append_left _ (List.mem_append_right _ h)) (by decide +kernel))
set_option maxRecDepth 20000 in
theorem gL_law_L_jumps : GoodIn wsL_law (va_wsS RL 85 yL_jumps wsL_jumps) := goodIn_app (goodIn_of _ (by decide +kernel)) ggL_law_L_jumps
set_option maxRecDepth 20000 in
theorem ggL_law_X4_setFreezing : GoodIn wsL_law wsX4_setFreezing := goodIn_ca (goodIn_r _ [367, 128, 129, 33, 388, 389, 390, 391, 392, 393] (by decide +kernel) (by decide +kernel)) (goodIn_sub (fun _ h => List.mem_append_left _ (List.mem_append_left _ (List.mem_append_right _ h))) (by decide +kernel))
set_option maxRecDepth 20000 in
theorem gL_law_X4_setFreezing : GoodIn wsL_law (wsV RL 89 RX4 yX4_setFreezing wsX4_setFreezing) := goodIn_app (goodIn_of _ (by decide +kernel)) ggL_law_X4_setFreezing
set_option maxRecDepth 20000 in
theorem ggL_law_L_isRead : GoodIn wsL_law wsL_isRead := goodIn_ca (goodIn_ca (goodIn_ca (goodIn_r _ [370, 197, 198, 199, 2, 200, 22, 201, 202, 203, 204, 205, 206, 207, 18, 208, 209, 210, 17, 211, 89, 171, 172, 173, 128, 129, 212, 213, 214, 215, 182, 183, 216, 92, 93, 94, 95, 96, 97, 98, 217, 218, 219, 220, 26, 170, 221, 222, 223, 224, 225, 124, 136, 137, 138, 226, 227, 228, 229, 78, 164, 230, 231, 232, 233, 234, 39, 371, 372, 373, 374, 30, 375, 376, 377, 378, 379, 388, 389, 390, 391, 392, 393, 400, 401, 402, 403, 404, 405, 406, 407, 408, 394, 395, 396, 397, 398, 399, 409, 410, 411, 412, 413, 414, 415] (by decide +kernel) (by decide +kernel)) (goodIn_sub (fun _ h => List.mem_append_right _ h) (by decide +kernel))) (goodIn_sub (fun _ h => List.mem_append_left _ (List.mem_append_left _ (List.mem_append_right _ h))) (by decide +kernel))) (goodIn_sub (fun _ h => List.mem_append_left _ (List.mem_append_right _ h)) (by decide +kernel))
set_option maxRecDepth 20000 in
theorem gL_law_L_isRead : GoodIn wsL_law (va_wsS RL 92 yL_isRead wsL_isRead) := goodIn_app (goodIn_of _ (by decide +kernel)) ggL_law_L_isRead
set_option maxRecDepth 20000 in
theorem ggL_law_X4_isBefore : GoodIn wsL_law wsX4_isBefore := goodIn_ca (goodIn_r _ [383, 384, 385, 2, 386, 128, 129, 387, 104, 105, 106, 107, 108, 109] (by decide +kernel) (by decide +kernel)) (goodIn_sub (fun _ h => List.mem_append_left _ (List.mem_append_left _ (List.mem_append_right _ h))) (by decide +kernel))
set_option maxRecDepth 20000 in
theorem gL_law_X4_isBefore : GoodIn wsL_law (wsV RL 96 RX4 yX4_isBefore wsX4_isBefore) := goodIn_app (goodIn_of _ (by decide +kernel)) ggL_law_X4_isBefore
